/-! ===== the nice machine: numbers as Int, references as places, a heap of three functions; a method by its descriptor ===== -/
abbrev NV : Type := Int ⊕ (Nat ⊕ Int)
abbrev NO : Type := Option NV ⊕ Nat
abbrev Sg : Type := (Nat → Nat → Int) × (Nat → Nat → Nat) × (Nat → Nat × Nat) × Nat
abbrev vi (x : Int) : NV := .inl x
abbrev vr (a : Nat) : NV := .inr (.inl a)
abbrev vl (x : Int) : NV := .inr (.inr x)
def gI (σ : Sg) (a k : Nat) : Int := σ.1 a k
def gR (σ : Sg) (a k : Nat) : Nat := σ.2.1 a k
def gS (σ : Sg) (a : Nat) : Nat × Nat := σ.2.2.1 a
def gz (σ : Sg) : Nat := σ.2.2.2
def sI (σ : Sg) (a k : Nat) (x : Int) : Sg := (fun b j => if b = a ∧ j = k then x else σ.1 b j, σ.2)
def sR (σ : Sg) (a k r : Nat) : Sg := (σ.1, fun b j => if b = a ∧ j = k then r else σ.2.1 b j, σ.2.2)
/-- a new cell of this shape -/
def nw (σ : Sg) (c : Nat × Nat) : Sg := (fun b j => if b = gz σ then 0 else σ.1 b j, fun b j => if b = gz σ then 0 else σ.2.1 b j, fun b => if b = gz σ then c else σ.2.2.1 b, gz σ + 1)
/-- new int[n][k] -/
def nm (σ : Sg) (n k : Nat) : Sg := (fun b j => if gz σ ≤ b then 0 else σ.1 b j, fun b j => if b = gz σ then gz σ + 1 + j else if gz σ < b then 0 else σ.2.1 b j, fun b => if b = gz σ then (24, n) else if gz σ < b ∧ b < gz σ + 1 + n then (20, k) else σ.2.2.1 b, gz σ + 1 + n)
/-- cells that nobody looks at any more -/
def jk (σ : Sg) (d : Nat) : Sg := (σ.1, σ.2.1, fun b => if gz σ ≤ b then (0, 0) else σ.2.2.1 b, gz σ + d)
def inR (x : Int) : Prop := -2147483648 ≤ x ∧ x ≤ 2147483647
def inL (x : Int) : Prop := -9223372036854775808 ≤ x ∧ x ≤ 9223372036854775807
def okV : NV → Prop
  | .inl x => inR x
  | .inr (.inl _) => True
  | .inr (.inr x) => inL x
/-- what is fixed over the whole law: classes and slots, array classes, the first new address, the heap at the start, the outer values with shapes and contents, the launch -/
abbrev Ev : Type := va_G × (Nat → ClassId) × Nat × Heap × (Nat → Value) × (Nat → Nat × Nat) × (Nat → Nat → Int) × (Nat → Nat → Nat) × Launch
def eD (E : Ev) : va_G := E.1
def eA (E : Ev) : Nat → ClassId := E.2.1
def eB (E : Ev) : Nat := E.2.2.1
def eH (E : Ev) : Heap := E.2.2.2.1
def eX (E : Ev) : Nat → Value := E.2.2.2.2.1
def eS (E : Ev) : Nat → Nat × Nat := E.2.2.2.2.2.1
def eI (E : Ev) : Nat → Nat → Int := E.2.2.2.2.2.2.1
def eR (E : Ev) : Nat → Nat → Nat := E.2.2.2.2.2.2.2.1
def eL (E : Ev) : Launch := E.2.2.2.2.2.2.2.2
def nad (E : Ev) (a : Nat) : Nat := eB E + (a - 16)
def rr (E : Ev) (a : Nat) : Value := if a = 0 then .null else if a < 16 then (match eX E a with | .ref b => .ref b | _ => .null) else .ref (nad E a)
def rv (E : Ev) : NV → Value
  | .inl x => .int (Int32.ofInt x)
  | .inr (.inl a) => rr E a
  | .inr (.inr x) => .long (Int64.ofInt x)
def fre (E : Ev) : Nat → Prop := fun q => eB E ≤ q
abbrev CLs : List vw_C := [(RX0, TX0, 10), (RX1, TX1, 12), (RX2, TX2, 2), (RX3, TX3, 3), (RX4, TX4, 12), (RX5, TX5, 3), (RX6, TX6, 2), (RX7, TX7, 6), (RX8, TX8, 15), (RX9, TX9, 5), (RX10, TX10, 2), (RX11, TX11, 17), (RX12, TX12, 42), ("java/util/NoSuchElementException", TX2, 0), ("java/lang/IllegalArgumentException", TX2, 0), ("java/lang/IllegalStateException", TX2, 0)]
def isIF (d : String) : Bool := d == "I" || d == "Z"
def fvl (E : Ev) (σ : Sg) (a : Nat) (T : u_T) (k : Nat) : Value := if isIF (T k).2.2.1 = true then .int (Int32.ofInt (gI σ a k)) else rr E (gR σ a k)
def fok (σ : Sg) (a : Nat) (T : u_T) (k : Nat) : Prop := inR (gI σ a k) ∧ ((T k).2.2.1 = "Z" → gI σ a k = 0 ∨ gI σ a k = 1)
def elv (E : Ev) (σ : Sg) (a c j : Nat) : Value := if c = 24 then rr E (gR σ a j) else if c = 23 then .long (Int64.ofInt (gI σ a j)) else .int (Int32.ofInt (gI σ a j))
def elok (σ : Sg) (a c j : Nat) : Prop := if c = 24 then True else if c = 23 then inL (gI σ a j) else if c = 22 then (gI σ a j = 0 ∨ gI σ a j = 1) else if c = 21 then (-128 ≤ gI σ a j ∧ gI σ a j ≤ 127) else inR (gI σ a j)
def elT (c : Nat) : FieldType := if c = 24 then .array .int else if c = 23 then .long else if c = 22 then .boolean else if c = 21 then .byte else .int
/-- a cell of the nice heap lies in the heap: an array -/
def cA (E : Ev) (σ : Sg) (H : Heap) (a : Nat) : Prop := H[nad E a]? = some (arrV (eA E (gS σ a).1) (gS σ a).2 (elv E σ a (gS σ a).1)) ∧ ∀ j, j < (gS σ a).2 → elok σ a (gS σ a).1 j
/-- an object -/
def cO (E : Ev) (σ : Sg) (H : Heap) (a : Nat) : Prop := ∃ q : vw_C, CLs[(gS σ a).1 - 1]? = some q ∧ t_OB (nad E a) ((eD E).1 ((gS σ a).1 - 1)) q.2.2 ((eD E).2 ((gS σ a).1 - 1)) H (fvl E σ a q.2.1) ∧ ∀ k, k < q.2.2 → fok σ a q.2.1 k
def cK (E : Ev) (σ : Sg) (H : Heap) (a : Nat) : Prop := (20 ≤ (gS σ a).1 ∧ (gS σ a).1 ≤ 24 → cA E σ H a) ∧ (1 ≤ (gS σ a).1 ∧ (gS σ a).1 ≤ 19 → cO E σ H a)
def LowS (E : Ev) (H : Heap) : Prop := (eH E).size = eB E ∧ eB E ≤ H.size ∧ ∀ q, q < eB E → H[q]? = (eH E)[q]?
def Rel (E : Ev) (σ : Sg) (H : Heap) : Prop := LowS E H ∧ 16 ≤ gz σ ∧ H.size + 16 = eB E + gz σ ∧ (∀ a, 16 ≤ a → a < gz σ → cK E σ H a) ∧ (∀ a, a < 16 → gS σ a = eS E a ∧ ∀ j, gI σ a j = eI E a j ∧ gR σ a j = eR E a j) ∧ (∀ a, gz σ ≤ a → gS σ a = (0, 0)) ∧ ∀ a, 16 ≤ a → (gS σ a).1 < 30
/-- an outer cell, of the heap at the start -/
def xOK (E : Ev) (s : State) (a : Nat) : Prop :=
  ((eS E a).1 = 30 → ∃ (b : Nat) (cell : Cell), eX E a = .ref b ∧ b < eB E ∧ (eH E)[b]? = some cell ∧ s.isArrayOf cell .int ∧ cell.vm ≠ .unknown ∧ cell.slots.size = (eS E a).2 ∧ ∀ j, j < (eS E a).2 → cell.slots[j]? = some (.int (Int32.ofInt (eI E a j))) ∧ inR (eI E a j)) ∧
  ((eS E a).1 = 31 → ∃ (b : Nat) (cell : Cell), eX E a = .ref b ∧ b < eB E ∧ (eH E)[b]? = some cell ∧ s.isArrayOf cell .byte ∧ cell.vm ≠ .unknown ∧ cell.slots.size = (eS E a).2 ∧ ∀ j, j < (eS E a).2 → cell.slots[j]? = some (.int (Int32.ofInt (eI E a j))) ∧ inR (eI E a j)) ∧
  ((eS E a).1 = 32 → ∃ (b : Nat), eX E a = .ref b ∧ va_O "java/lang/String" b (fre E) s (eH E) ∧ va_OF "java/lang/String" "value" "[B" (rr E (eR E a 0)) b (fre E) s (eH E) ∧ va_OF "java/lang/String" "coder" "B" (.int (Int32.ofInt (eI E a 1))) b (fre E) s (eH E) ∧ inR (eI E a 1))
/-- statics that nobody writes: class, name, descriptor, value -/
abbrev STs : List (String × String × String × NV) := [("DoubleTurns", "SIGNS", "[I", vr 1), ("DoubleTurnsModel", "LEFT", "[I", vr 2), ("DoubleTurnsModel", "RIGHT", "[I", vr 3), ("DoubleTurnsModel", "SIGN", "[I", vr 4), ("java/lang/String", "COMPACT_STRINGS", "Z", vi 1), ("jdk/internal/util/Preconditions", "SIOOBE_FORMATTER", "Ljava/util/function/BiFunction;", vr 14)]
/-- string constants that are looked at: class, entry, text, place -/
abbrev SCs : List (String × Nat × String × Nat) := [("DoubleTurns$Reader", 32, "root", 6), ("DoubleTurns$Reader", 70, "turn", 7), ("DoubleTurnsModel", 157, "turn", 11), ("DoubleTurnsModel", 181, "root", 10)]
/-- members of nest mates; what may be cast, what is declared -/
def isNW : Cond → Bool
  | .methodLinkNest .. => true
  | .fieldLinkNest .. => true
  | _ => false
def isCD : Cond → Bool
  | .castable .. => true
  | .declares .. => true
  | _ => false
/-- the names of the exceptions, and who is not whom -/
def exN : Nat → String
  | 0 => "java/util/NoSuchElementException"
  | 1 => "java/lang/IllegalArgumentException"
  | _ => "java/lang/IllegalStateException"
/-- what the machine's tables say, at any state of the run -/
def KK (E : Ev) (s : State) : Prop :=
  va_K (eD E) CLs [] s ∧ (∀ c, 20 ≤ c → c ≤ 24 → ArrOfT s (eA E c) (elT c) ∧ s.vm.findClass ("[" ++ (elT c).toString) = some (eA E c)) ∧ (∀ a, a < 16 → xOK E s a) ∧
  (∀ q ∈ STs, va_Z q.1 q.2.1 q.2.2.1 (rv E q.2.2.2) (fre E) s (eH E)) ∧ (∀ w ∈ lw_tbl, isNW w = true → va_Nw w s) ∧
  vx_Zq Bundle.tN "UNASSIGNED_STACK" Bundle.steD (fre E) s (eH E) ∧ vx_Zq Bundle.tN "SUPPRESSED_SENTINEL" Bundle.listD (fre E) s (eH E) ∧
  (∀ q ∈ SCs, ∃ a, eX E q.2.2.2 = .ref a ∧ vk_R q.1 q.2.1 q.2.2.1 a s) ∧
  (∀ q ∈ ([("DoubleTurns", 364, "no such one"), ("DoubleTurns", 367, "another argument"), ("DoubleTurns", 168, "no turn"), ("DoubleTurns", 178, "there are four"), ("DoubleTurns", 188, "it does not close")] : List (String × Nat × String)), ∃ a, vk_R q.1 q.2.1 q.2.2 a s) ∧
  (∀ q ∈ ([(0, 1), (0, 2), (1, 0), (1, 2), (2, 0), (2, 1)] : List (Nat × Nat)), va_Nc (exN q.1) (exN q.2) s) ∧
  (∀ w ∈ lw_tbl, isCD w = true → va_Nw w s) ∧
  (∃ kA kC : Class, s.vm.classes[eA E 24]? = some kA ∧ kA.kind = .array (eA E 20) (.array .int) ∧ s.vm.classes[eA E 20]? = some kC ∧ s.vm.assignable (eA E 20) (eA E 20) = true ∧ va_AOA .int s) ∧ (∀ a, a < 16 → (eS E a).1 = 0 ∨ 30 ≤ (eS E a).1) ∧ (eL E).stackTraces = false
/-- a method: its name, bytes, locals, answer, whether it makes, handlers, and the room that it takes: cells, slots, frames, locals -/
abbrev MD : Type := MethodName × ByteArray × Nat × Option FieldType × Bool × List (Nat × Nat × Nat × Nat) × Nat × Nat × Nat × Nat
def dY (M : MD) : MethodName := M.1
def dB (M : MD) : ByteArray := M.2.1
def dL (M : MD) : Nat := M.2.2.1
def dR (M : MD) : Option FieldType := M.2.2.2.1
def dI (M : MD) : Bool := M.2.2.2.2.1
def dH (M : MD) : List (Nat × Nat × Nat × Nat) := M.2.2.2.2.2.1
def dC (M : MD) : Nat := M.2.2.2.2.2.2.1
def dS (M : MD) : Nat := M.2.2.2.2.2.2.2.1
def dF (M : MD) : Nat := M.2.2.2.2.2.2.2.2.1
def dO (M : MD) : Nat := M.2.2.2.2.2.2.2.2.2
def rmM (M : MD) : Room := { frames := dF M, cells := dC M, slots := dS M, locals := dO M }
def mW (M : MD) : List Cond := (match dH M with | [] => Cond.code (dY M) (dB M) (dL M) (dR M) | hh => Cond.codeWith (dY M) (dB M) (dL M) (dR M) hh) :: lwW
def MCx (E : Ev) (M : MD) (p : Program) (s : State) (m : MethodId) (args : Array Value) (meth : Method) (c : Code) : Prop :=
  p.tables.exec = Jvm.exec ∧ c.code = dB M ∧ meth.sig.returnType = dR M ∧ c.maxLocals = dL M ∧ s.vm.findClass (dY M).cls = some m.cls ∧ (∀ w ∈ lwW, w.before args s = true) ∧ meth.locks = false ∧ (dI M = true → meth.name = "<init>") ∧ c.exceptionTable.toList = tableOf (dH M) ∧ (eL E).stackTraces = false
def QcE (E : Ev) (Q : NO → Sg → Prop) : Array Value → State → Outcome → State → Prop := fun _ _ o t => ∃ (v : Option NV) (σ' : Sg), o = .returned (v.map (rv E)) ∧ Q (.inl v) σ' ∧ Rel E σ' t.heap ∧ ∀ x, v = some x → okV x
def XcE (E : Ev) (Q : NO → Sg → Prop) : String → State → State → Prop := fun N _ t => ∃ (k : Nat) (σ' : Sg), k < 3 ∧ N = exN k ∧ Q (.inr k) σ' ∧ Rel E σ' t.heap
def FQ (E : Ev) (M : MD) (below : List Frame) (args : Array Value) (s : State) (Q : NO → Sg → Prop) : State → Prop :=
  if (dY M).name = "law" then fun t => s.heap.size = eB E → ∃ o, t.status = .running ∧ Ended t below o ∧ o = .returned (some (.int 1)) ∧ Framed s o t [] 601024 7293034
  else vx_MQ below (QcE E Q) (XcE E Q) args s (dC M) (dS M) (fre E)
/-- the locals -/
def lvR (E : Ev) (ls : Array Slot) (nL : Nat) (l : List (Option NV)) : Prop := ls.size = nL ∧ l.length = nL ∧ lv_wf ls ∧ ∀ (i : Nat) (v : NV), l[i]? = some (some v) → ls[i]? = some (Slot.val (rv E v)) ∧ okV v
/-- from this frame on the method comes to its end with Q -/
def GG (E : Ev) (M : MD) (pc : Nat) (l : List (Option NV)) (st : List NV) (σ : Sg) (rc rs : Nat) (Q : NO → Sg → Prop) : Prop :=
  ∀ (p : Program) (e : Env) (s : State) (m : MethodId) (args : Array Value) (below : List Frame) (meth : Method) (c : Code) (H : Heap) (locs : List Loc) (cells slots : Nat) (ls : Array Slot),
    MCx E M p s m args meth c → KK E s → LowS E s.heap → s.heap.size ≤ H.size → Rel E σ H → lvR E ls (dL M) l → (∀ v ∈ st, okV v) → (∀ z ∈ locs, fre E z.base) → cells + rc ≤ dC M → slots + rs ≤ dS M →
    W p (eL E) e (rmM M) s m args below meth c H locs cells slots (FQ E M below args s Q) (F0 m pc ls (st.map (rv E)))
/-- a method's contract -/
def CC (E : Ev) (M : MD) (av : List NV) (σ : Sg) (Q : NO → Sg → Prop) : Prop :=
  vx_Met (eL E) (dY M) (mW M) (rmM M) (va_Pc (av.map (rv E)) (fun U => KK E U ∧ Rel E σ U.heap ∧ ∀ v ∈ av, okV v)) (QcE E Q) (XcE E Q) (dC M) (dS M) (fre E)
/-- of a method that catches all -/
def CW (E : Ev) (M : MD) (av : List NV) (σ : Sg) (Q : NO → Sg → Prop) : Prop :=
  Met (eL E) (dY M) (mW M) (rmM M) (va_Pc (av.map (rv E)) (fun U => KK E U ∧ Rel E σ U.heap ∧ ∀ v ∈ av, okV v)) (QcE E Q) (dC M) (dS M) (fre E)
