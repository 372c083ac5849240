/-! ===== rules of the nice machine: numbers, stack, locals, jumps (by wip/whole/genrules2.py) ===== -/
theorem ok_cons {v : NV} {st : List NV} (hv : okV v) (h : ∀ u ∈ st, okV u) : ∀ u ∈ v :: st, okV u := fun u hu => (List.mem_cons.mp hu).elim (fun e => e ▸ hv) (h u)
theorem ok_tl {v : NV} {st : List NV} (h : ∀ u ∈ v :: st, okV u) : ∀ u ∈ st, okV u := fun u hu => h u (List.mem_cons_of_mem _ hu)
theorem ok_hd {v : NV} {st : List NV} (h : ∀ u ∈ v :: st, okV u) : okV v := h v List.mem_cons_self
theorem ll_toInt {x : Int} (h : inL x) : (Int64.ofInt x).toInt = x := by
  rw [Int64.toInt_ofInt]
  obtain ⟨h1, h2⟩ := h
  rw [show Int64.size = 18446744073709551616 from rfl, Int.bmod_def]
  omega
theorem ll_of {x : Int} {v : Int64} (h : v.toInt = x) : v = Int64.ofInt x := by
  rw [← h, Int64.ofInt_toInt]
/-- the value of a long -/
def wL (x : Int) : Int := (Int64.ofInt x).toInt
theorem wL_in (x : Int) : inL (wL x) := ⟨Int64.le_toInt _, by have := Int64.toInt_lt (Int64.ofInt x); unfold wL; omega⟩
theorem wL_id {x : Int} (h : inL x) : wL x = x := ll_toInt h
theorem wL_of (x : Int) : Int64.ofInt (wL x) = Int64.ofInt x := Int64.ofInt_toInt _
theorem ll_inj {x y : Int} (hx : inL x) (hy : inL y) : Int64.ofInt x = Int64.ofInt y ↔ x = y := ⟨fun h => by rw [← ll_toInt hx, ← ll_toInt hy, h], fun h => by rw [h]⟩
theorem ll_lt {x y : Int} (hx : inL x) (hy : inL y) : Int64.ofInt x < Int64.ofInt y ↔ x < y := by rw [Int64.lt_iff_toInt_lt, ll_toInt hx, ll_toInt hy]
theorem ii_ll {x : Int} (h : inR x) : (Int32.ofInt x).toInt64 = Int64.ofInt x := by
  apply ll_of
  rw [Int32.toInt_toInt64, ii_toInt h]
theorem inR_inL {x : Int} (h : inR x) : inL x := by obtain ⟨h1, h2⟩ := h; unfold inL; omega
theorem ll_ii {x : Int} (h : inR x) : (Int64.ofInt x).toInt32 = Int32.ofInt x := by
  apply ii_of
  rw [Int64.toInt_toInt32, ll_toInt (inR_inL h)]
  exact ii_bmod h.1 h.2
theorem cat1 {E : Ev} {a : NV} (h : ∀ x, a ≠ .inr (.inr x)) : (rv E a).category = 1 := by
  rcases lv_cat (rv E a) with z | z
  · exact z
  · obtain ⟨x, hx⟩ := rv_cat z
    exact absurd hx (h x)
theorem rr_or (E : Ev) (a : Nat) : rr E a = .null ∨ ∃ b, rr E a = .ref b := by
  unfold rr
  split
  · exact Or.inl rfl
  · split
    · split
      · exact Or.inr ⟨_, rfl⟩
      · exact Or.inl rfl
    · exact Or.inr ⟨_, rfl⟩

section R2
variable {E : Ev} {M : MD} {pc : Nat} {l : List (Option NV)} {st : List NV} {σ : Sg} {rc rs : Nat} {Q : NO → Sg → Prop}
theorem r_iadd {x y : Int} (d : decode (dB M) pc = .ok (.iadd, 1)) (h : inR (x + y)) (k : GG E M (pc + 1) l (vi (x + y) :: st) σ rc rs Q) : GG E M pc l (vi y :: vi x :: st) σ rc rs Q := by
  intro p e s m args below meth c H locs cells slots ls C K L hz hR hl hst hlo hc hs
  refine lv_iadd C.1 C.2.1 d ?_
  rw [ii_add]
  exact k p e s m args below meth c H locs cells slots ls C K L hz hR hl (ok_cons h (ok_tl (ok_tl hst))) hlo hc hs
theorem r_isub {x y : Int} (d : decode (dB M) pc = .ok (.isub, 1)) (h : inR (x - y)) (k : GG E M (pc + 1) l (vi (x - y) :: st) σ rc rs Q) : GG E M pc l (vi y :: vi x :: st) σ rc rs Q := by
  intro p e s m args below meth c H locs cells slots ls C K L hz hR hl hst hlo hc hs
  refine lv_isub C.1 C.2.1 d ?_
  rw [ii_sub]
  exact k p e s m args below meth c H locs cells slots ls C K L hz hR hl (ok_cons h (ok_tl (ok_tl hst))) hlo hc hs
theorem r_imul {x y : Int} (d : decode (dB M) pc = .ok (.imul, 1)) (h : inR (x * y)) (k : GG E M (pc + 1) l (vi (x * y) :: st) σ rc rs Q) : GG E M pc l (vi y :: vi x :: st) σ rc rs Q := by
  intro p e s m args below meth c H locs cells slots ls C K L hz hR hl hst hlo hc hs
  refine lv_imul C.1 C.2.1 d ?_
  rw [ii_mul]
  exact k p e s m args below meth c H locs cells slots ls C K L hz hR hl (ok_cons h (ok_tl (ok_tl hst))) hlo hc hs
theorem r_idiv {x y : Int} (d : decode (dB M) pc = .ok (.idiv, 1)) (h0 : y ≠ 0) (h : inR (x.tdiv y)) (k : GG E M (pc + 1) l (vi (x.tdiv y) :: st) σ rc rs Q) : GG E M pc l (vi y :: vi x :: st) σ rc rs Q := by
  intro p e s m args below meth c H locs cells slots ls C K L hz hR hl hst hlo hc hs
  have hy : inR y := ok_hd hst
  have hx : inR x := ok_hd (ok_tl hst)
  refine lv_idiv C.1 C.2.1 d (fun z => h0 ((ii_inj hy inR_0).mp z)) ?_
  rw [ii_div hx hy h]
  exact k p e s m args below meth c H locs cells slots ls C K L hz hR hl (ok_cons h (ok_tl (ok_tl hst))) hlo hc hs
theorem tmod_in {x y : Int} (hx : inR x) : inR (x.tmod y) := by
  have h1 : (x.tmod y).natAbs ≤ x.natAbs := by
    rw [Int.natAbs_tmod]
    exact Nat.mod_le _ _
  obtain ⟨h3, h4⟩ := hx
  have h2 := Int.tmod_nonneg (a := x) y
  by_cases h0 : 0 ≤ x
  · have := h2 h0
    unfold inR; omega
  · unfold inR
    have h5 : (-x).tmod y = - x.tmod y := Int.neg_tmod ..
    have h6 := Int.tmod_nonneg (a := -x) y (by omega)
    omega
theorem ii_rem {x y : Int} (hx : inR x) (hy : inR y) : Int32.ofInt x - Int32.ofInt x / Int32.ofInt y * Int32.ofInt y = Int32.ofInt (x.tmod y) := by
  have h : Int32.ofInt x / Int32.ofInt y = Int32.ofInt (x.tdiv y) := by
    rw [← Int32.toInt_inj, Int32.toInt_div, ii_toInt hx, ii_toInt hy, Int32.toInt_ofInt]
  rw [h, ii_mul, ii_sub, Int.tmod_def, Int.mul_comm]
theorem r_irem {x y : Int} (d : decode (dB M) pc = .ok (.irem, 1)) (h0 : y ≠ 0) (k : GG E M (pc + 1) l (vi (x.tmod y) :: st) σ rc rs Q) : GG E M pc l (vi y :: vi x :: st) σ rc rs Q := by
  intro p e s m args below meth c H locs cells slots ls C K L hz hR hl hst hlo hc hs
  have hy : inR y := ok_hd hst
  have hx : inR x := ok_hd (ok_tl hst)
  refine lv_irem C.1 C.2.1 d (fun z => h0 ((ii_inj hy inR_0).mp z)) ?_
  rw [ii_rem hx hy]
  exact k p e s m args below meth c H locs cells slots ls C K L hz hR hl (ok_cons (tmod_in hx) (ok_tl (ok_tl hst))) hlo hc hs
theorem r_ineg {x : Int} (d : decode (dB M) pc = .ok (.ineg, 1)) (h : inR (-x)) (k : GG E M (pc + 1) l (vi (-x) :: st) σ rc rs Q) : GG E M pc l (vi x :: st) σ rc rs Q := by
  intro p e s m args below meth c H locs cells slots ls C K L hz hR hl hst hlo hc hs
  refine lv_ineg C.1 C.2.1 d ?_
  rw [ii_neg]
  exact k p e s m args below meth c H locs cells slots ls C K L hz hR hl (ok_cons h (ok_tl hst)) hlo hc hs
theorem i32_in (v : Int32) : inR v.toInt := ⟨Int32.le_toInt v, by have := Int32.toInt_lt v; omega⟩
def b_iandq (x y : Int) : Int := (Int32.ofInt x &&& Int32.ofInt y).toInt
theorem r_iand {x y : Int} (d : decode (dB M) pc = .ok (.iand, 1)) (k : GG E M (pc + 1) l (vi (b_iandq x y) :: st) σ rc rs Q) : GG E M pc l (vi y :: vi x :: st) σ rc rs Q := by
  intro p e s m args below meth c H locs cells slots ls C K L hz hR hl hst hlo hc hs
  refine lv_iand C.1 C.2.1 d ?_
  rw [show Int32.ofInt x &&& Int32.ofInt y = Int32.ofInt (b_iandq x y) from ii_of rfl]
  exact k p e s m args below meth c H locs cells slots ls C K L hz hR hl (ok_cons (i32_in _) (ok_tl (ok_tl hst))) hlo hc hs
def b_ixorq (x y : Int) : Int := (Int32.ofInt x ^^^ Int32.ofInt y).toInt
theorem r_ixor {x y : Int} (d : decode (dB M) pc = .ok (.ixor, 1)) (k : GG E M (pc + 1) l (vi (b_ixorq x y) :: st) σ rc rs Q) : GG E M pc l (vi y :: vi x :: st) σ rc rs Q := by
  intro p e s m args below meth c H locs cells slots ls C K L hz hR hl hst hlo hc hs
  refine lv_ixor C.1 C.2.1 d ?_
  rw [show Int32.ofInt x ^^^ Int32.ofInt y = Int32.ofInt (b_ixorq x y) from ii_of rfl]
  exact k p e s m args below meth c H locs cells slots ls C K L hz hR hl (ok_cons (i32_in _) (ok_tl (ok_tl hst))) hlo hc hs
def b_ishrq (x y : Int) : Int := (Int32.ofInt x >>> (Int32.ofInt y &&& 31)).toInt
theorem r_ishr {x y : Int} (d : decode (dB M) pc = .ok (.ishr, 1)) (k : GG E M (pc + 1) l (vi (b_ishrq x y) :: st) σ rc rs Q) : GG E M pc l (vi y :: vi x :: st) σ rc rs Q := by
  intro p e s m args below meth c H locs cells slots ls C K L hz hR hl hst hlo hc hs
  refine lv_ishr C.1 C.2.1 d ?_
  rw [show Int32.ofInt x >>> (Int32.ofInt y &&& 31) = Int32.ofInt (b_ishrq x y) from ii_of rfl]
  exact k p e s m args below meth c H locs cells slots ls C K L hz hR hl (ok_cons (i32_in _) (ok_tl (ok_tl hst))) hlo hc hs
def b_i2bq (x : Int) : Int := (Int32.ofInt x).toInt8.toInt32.toInt
theorem r_i2b {x : Int} (d : decode (dB M) pc = .ok (.i2b, 1)) (k : GG E M (pc + 1) l (vi (b_i2bq x) :: st) σ rc rs Q) : GG E M pc l (vi x :: st) σ rc rs Q := by
  intro p e s m args below meth c H locs cells slots ls C K L hz hR hl hst hlo hc hs
  refine lv_i2b C.1 C.2.1 d rfl ?_
  rw [show (Int32.ofInt x).toInt8.toInt32 = Int32.ofInt (b_i2bq x) from ii_of rfl]
  exact k p e s m args below meth c H locs cells slots ls C K L hz hR hl (ok_cons (i32_in _) (ok_tl hst)) hlo hc hs
def b_i2cq (x : Int) : Int := ((Int32.ofInt x).toUInt32 % 65536).toInt32.toInt
theorem r_i2c {x : Int} (d : decode (dB M) pc = .ok (.i2c, 1)) (k : GG E M (pc + 1) l (vi (b_i2cq x) :: st) σ rc rs Q) : GG E M pc l (vi x :: st) σ rc rs Q := by
  intro p e s m args below meth c H locs cells slots ls C K L hz hR hl hst hlo hc hs
  refine lv_i2c C.1 C.2.1 d rfl ?_
  rw [show ((Int32.ofInt x).toUInt32 % 65536).toInt32 = Int32.ofInt (b_i2cq x) from ii_of rfl]
  exact k p e s m args below meth c H locs cells slots ls C K L hz hR hl (ok_cons (i32_in _) (ok_tl hst)) hlo hc hs
theorem r_ladd {x y : Int} (d : decode (dB M) pc = .ok (.ladd, 1)) (k : GG E M (pc + 1) l (vl (wL (x + y)) :: st) σ rc rs Q) : GG E M pc l (vl y :: vl x :: st) σ rc rs Q := by
  intro p e s m args below meth c H locs cells slots ls C K L hz hR hl hst hlo hc hs
  refine lv_ladd C.1 C.2.1 d ?_
  rw [← Int64.ofInt_add, ← wL_of]
  exact k p e s m args below meth c H locs cells slots ls C K L hz hR hl (ok_cons (wL_in _) (ok_tl (ok_tl hst))) hlo hc hs
theorem r_lsub {x y : Int} (d : decode (dB M) pc = .ok (.lsub, 1)) (k : GG E M (pc + 1) l (vl (wL (x - y)) :: st) σ rc rs Q) : GG E M pc l (vl y :: vl x :: st) σ rc rs Q := by
  intro p e s m args below meth c H locs cells slots ls C K L hz hR hl hst hlo hc hs
  refine lv_lsub C.1 C.2.1 d ?_
  rw [← Int64.ofInt_sub, ← wL_of]
  exact k p e s m args below meth c H locs cells slots ls C K L hz hR hl (ok_cons (wL_in _) (ok_tl (ok_tl hst))) hlo hc hs
theorem r_lmul {x y : Int} (d : decode (dB M) pc = .ok (.lmul, 1)) (k : GG E M (pc + 1) l (vl (wL (x * y)) :: st) σ rc rs Q) : GG E M pc l (vl y :: vl x :: st) σ rc rs Q := by
  intro p e s m args below meth c H locs cells slots ls C K L hz hR hl hst hlo hc hs
  refine lv_lmul C.1 C.2.1 d ?_
  rw [← Int64.ofInt_mul, ← wL_of]
  exact k p e s m args below meth c H locs cells slots ls C K L hz hR hl (ok_cons (wL_in _) (ok_tl (ok_tl hst))) hlo hc hs
theorem inL_0 : inL 0 := ⟨by decide, by decide⟩
theorem r_ldiv {x y : Int} (d : decode (dB M) pc = .ok (.ldiv, 1)) (h0 : y ≠ 0) (k : GG E M (pc + 1) l (vl (wL (x.tdiv y)) :: st) σ rc rs Q) : GG E M pc l (vl y :: vl x :: st) σ rc rs Q := by
  intro p e s m args below meth c H locs cells slots ls C K L hz hR hl hst hlo hc hs
  have hy : inL y := ok_hd hst
  have hx : inL x := ok_hd (ok_tl hst)
  refine lv_ldiv C.1 C.2.1 d (fun z => h0 ((ll_inj hy inL_0).mp z)) ?_
  rw [show Int64.ofInt x / Int64.ofInt y = Int64.ofInt (wL (x.tdiv y)) by
    rw [wL_of, ← Int64.toInt_inj, Int64.toInt_div, ll_toInt hx, ll_toInt hy, Int64.toInt_ofInt]]
  exact k p e s m args below meth c H locs cells slots ls C K L hz hR hl (ok_cons (wL_in _) (ok_tl (ok_tl hst))) hlo hc hs
theorem r_lrem {x y : Int} (d : decode (dB M) pc = .ok (.lrem, 1)) (h0 : y ≠ 0) (k : GG E M (pc + 1) l (vl (wL (x.tmod y)) :: st) σ rc rs Q) : GG E M pc l (vl y :: vl x :: st) σ rc rs Q := by
  intro p e s m args below meth c H locs cells slots ls C K L hz hR hl hst hlo hc hs
  have hy : inL y := ok_hd hst
  have hx : inL x := ok_hd (ok_tl hst)
  refine lv_lrem C.1 C.2.1 d (fun z => h0 ((ll_inj hy inL_0).mp z)) ?_
  rw [show Int64.ofInt x - Int64.ofInt x / Int64.ofInt y * Int64.ofInt y = Int64.ofInt (wL (x.tmod y)) by
    rw [wL_of, show Int64.ofInt x / Int64.ofInt y = Int64.ofInt (x.tdiv y) by
      rw [← Int64.toInt_inj, Int64.toInt_div, ll_toInt hx, ll_toInt hy, Int64.toInt_ofInt], ← Int64.ofInt_mul, ← Int64.ofInt_sub, Int.tmod_def, Int.mul_comm y]]
  exact k p e s m args below meth c H locs cells slots ls C K L hz hR hl (ok_cons (wL_in _) (ok_tl (ok_tl hst))) hlo hc hs
def b_lushrq (x y : Int) : Int := ((Int64.ofInt x).toUInt64 >>> ((Int32.ofInt y).toInt64.toUInt64 &&& Int64.toUInt64 63)).toInt64.toInt
theorem i64_in (v : Int64) : inL v.toInt := ⟨Int64.le_toInt v, by have := Int64.toInt_lt v; omega⟩
theorem r_lushr {x y : Int} (d : decode (dB M) pc = .ok (.lushr, 1)) (k : GG E M (pc + 1) l (vl (b_lushrq x y) :: st) σ rc rs Q) : GG E M pc l (vi y :: vl x :: st) σ rc rs Q := by
  intro p e s m args below meth c H locs cells slots ls C K L hz hR hl hst hlo hc hs
  refine lv_lushr C.1 C.2.1 d rfl ?_
  rw [show ((Int64.ofInt x).toUInt64 >>> ((Int32.ofInt y).toInt64.toUInt64 &&& Int64.toUInt64 63)).toInt64 = Int64.ofInt (b_lushrq x y) from ll_of rfl]
  exact k p e s m args below meth c H locs cells slots ls C K L hz hR hl (ok_cons (i64_in _) (ok_tl (ok_tl hst))) hlo hc hs
theorem r_i2l {x : Int} (d : decode (dB M) pc = .ok (.i2l, 1)) (k : GG E M (pc + 1) l (vl x :: st) σ rc rs Q) : GG E M pc l (vi x :: st) σ rc rs Q := by
  intro p e s m args below meth c H locs cells slots ls C K L hz hR hl hst hlo hc hs
  exact lv_i2l C.1 C.2.1 d (ii_ll (ok_hd hst)) (k p e s m args below meth c H locs cells slots ls C K L hz hR hl (ok_cons (v := vl x) (inR_inL (ok_hd hst)) (ok_tl hst)) hlo hc hs)
theorem r_l2i {x : Int} (d : decode (dB M) pc = .ok (.l2i, 1)) (h : inR x) (k : GG E M (pc + 1) l (vi x :: st) σ rc rs Q) : GG E M pc l (vl x :: st) σ rc rs Q := by
  intro p e s m args below meth c H locs cells slots ls C K L hz hR hl hst hlo hc hs
  exact lv_l2i C.1 C.2.1 d (ll_ii h) (k p e s m args below meth c H locs cells slots ls C K L hz hR hl (ok_cons (v := vi x) h (ok_tl hst)) hlo hc hs)
theorem lg_cmpq {x y : Int} (hx : inL x) (hy : inL y) : lg_cmp (Int64.ofInt x) (Int64.ofInt y) = Int32.ofInt (if y < x then 1 else if x = y then 0 else -1) := by
  unfold lg_cmp
  simp only [ll_lt hy hx, ll_inj hx hy]
  by_cases h1 : y < x
  · simp [h1]
  · by_cases h2 : x = y <;> simp [h1, h2] <;> rfl
theorem r_lcmp {x y : Int} (d : decode (dB M) pc = .ok (.lcmp, 1)) (k : GG E M (pc + 1) l (vi (if y < x then 1 else if x = y then 0 else -1) :: st) σ rc rs Q) : GG E M pc l (vl y :: vl x :: st) σ rc rs Q := by
  intro p e s m args below meth c H locs cells slots ls C K L hz hR hl hst hlo hc hs
  have hy : inL y := ok_hd hst
  have hx : inL x := ok_hd (ok_tl hst)
  refine W.lcmp C.1 C.2.1 d ?_
  rw [lg_cmpq hx hy]
  refine k p e s m args below meth c H locs cells slots ls C K L hz hR hl (ok_cons ?_ (ok_tl (ok_tl hst))) hlo hc hs
  show inR _
  unfold inR
  split
  · omega
  · split <;> omega
def b_cmpq (x y : Int) : Int := if x = y then 0 else if x < y then -1 else 1
theorem r_iconst {n : Int} (d : decode (dB M) pc = .ok (.iconst n, 1)) (h : inR n) (k : GG E M (pc + 1) l (vi n :: st) σ rc rs Q) : GG E M pc l st σ rc rs Q := by
  intro p e s m args below meth c H locs cells slots ls C K L hz hR hl hst hlo hc hs
  exact lv_iconst C.1 C.2.1 d rfl (k p e s m args below meth c H locs cells slots ls C K L hz hR hl (ok_cons (v := vi n) h hst) hlo hc hs)
theorem r_bipush {n : Int} (d : decode (dB M) pc = .ok (.bipush n, 2)) (h : -128 ≤ n ∧ n ≤ 127) (k : GG E M (pc + 2) l (vi n :: st) σ rc rs Q) : GG E M pc l st σ rc rs Q := by
  intro p e s m args below meth c H locs cells slots ls C K L hz hR hl hst hlo hc hs
  have h9 : inR n := by unfold inR; omega
  refine lv_bipush C.1 C.2.1 d (v := Int32.ofInt n) ?_ (k p e s m args below meth c H locs cells slots ls C K L hz hR hl (ok_cons (v := vi n) h9 hst) hlo hc hs)
  apply ii_of
  rw [Int8.toInt_toInt32, Int8.toInt_ofInt, show Int8.size = 256 from rfl, Int.bmod_def]
  omega
theorem r_sipush {n : Int} (d : decode (dB M) pc = .ok (.sipush n, 3)) (h : -32768 ≤ n ∧ n ≤ 32767) (k : GG E M (pc + 3) l (vi n :: st) σ rc rs Q) : GG E M pc l st σ rc rs Q := by
  intro p e s m args below meth c H locs cells slots ls C K L hz hR hl hst hlo hc hs
  have h9 : inR n := by unfold inR; omega
  refine lv_sipush C.1 C.2.1 d (v := Int32.ofInt n) ?_ (k p e s m args below meth c H locs cells slots ls C K L hz hR hl (ok_cons (v := vi n) h9 hst) hlo hc hs)
  apply ii_of
  rw [Int16.toInt_toInt32, Int16.toInt_ofInt, show Int16.size = 65536 from rfl, Int.bmod_def]
  omega
theorem r_lconst {n : Fin 2} {x : Int} (d : decode (dB M) pc = .ok (.lconst n, 1)) (h : ((n : Nat) : Int) = x) (k : GG E M (pc + 1) l (vl x :: st) σ rc rs Q) : GG E M pc l st σ rc rs Q := by
  intro p e s m args below meth c H locs cells slots ls C K L hz hR hl hst hlo hc hs
  subst h
  exact lv_lconst C.1 C.2.1 d rfl (k p e s m args below meth c H locs cells slots ls C K L hz hR hl (ok_cons (v := vl ((n : Nat) : Int)) (by have := n.isLt; show inL _; unfold inL; omega) hst) hlo hc hs)
theorem r_iload_n {k9 : Fin 4} {i : Nat} {x : Int} (d : decode (dB M) pc = .ok (.iload_n k9, 1)) (hi : (k9 : Nat) = i) (h : l[i]? = some (some (vi x))) (k : GG E M (pc + 1) l (vi x :: st) σ rc rs Q) : GG E M pc l st σ rc rs Q := by
  intro p e s m args below meth c H locs cells slots ls C K L hz hR hl hst hlo hc hs
  obtain ⟨h1, h2⟩ := hl.2.2.2 i _ h
  exact lv_iload_n C.1 C.2.1 d hi h1 (k p e s m args below meth c H locs cells slots ls C K L hz hR hl (ok_cons h2 hst) hlo hc hs)
theorem r_lload_n {k9 : Fin 4} {i : Nat} {x : Int} (d : decode (dB M) pc = .ok (.lload_n k9, 1)) (hi : (k9 : Nat) = i) (h : l[i]? = some (some (vl x))) (k : GG E M (pc + 1) l (vl x :: st) σ rc rs Q) : GG E M pc l st σ rc rs Q := by
  intro p e s m args below meth c H locs cells slots ls C K L hz hR hl hst hlo hc hs
  obtain ⟨h1, h2⟩ := hl.2.2.2 i _ h
  exact lv_lload_n C.1 C.2.1 d hi h1 (k p e s m args below meth c H locs cells slots ls C K L hz hR hl (ok_cons h2 hst) hlo hc hs)
theorem r_iload {i : Nat} {x : Int} (d : decode (dB M) pc = .ok (.iload i, 2)) (h : l[i]? = some (some (vi x))) (k : GG E M (pc + 2) l (vi x :: st) σ rc rs Q) : GG E M pc l st σ rc rs Q := by
  intro p e s m args below meth c H locs cells slots ls C K L hz hR hl hst hlo hc hs
  obtain ⟨h1, h2⟩ := hl.2.2.2 i _ h
  exact lv_iload C.1 C.2.1 d h1 (k p e s m args below meth c H locs cells slots ls C K L hz hR hl (ok_cons h2 hst) hlo hc hs)
theorem r_lload {i : Nat} {x : Int} (d : decode (dB M) pc = .ok (.lload i, 2)) (h : l[i]? = some (some (vl x))) (k : GG E M (pc + 2) l (vl x :: st) σ rc rs Q) : GG E M pc l st σ rc rs Q := by
  intro p e s m args below meth c H locs cells slots ls C K L hz hR hl hst hlo hc hs
  obtain ⟨h1, h2⟩ := hl.2.2.2 i _ h
  exact lv_lload C.1 C.2.1 d h1 (k p e s m args below meth c H locs cells slots ls C K L hz hR hl (ok_cons h2 hst) hlo hc hs)
theorem r_aload_n {k9 : Fin 4} {i : Nat} {x : Nat} (d : decode (dB M) pc = .ok (.aload_n k9, 1)) (hi : (k9 : Nat) = i) (h : l[i]? = some (some (vr x))) (k : GG E M (pc + 1) l (vr x :: st) σ rc rs Q) : GG E M pc l st σ rc rs Q := by
  intro p e s m args below meth c H locs cells slots ls C K L hz hR hl hst hlo hc hs
  obtain ⟨h1, h2⟩ := hl.2.2.2 i _ h
  have h3 : ls[i]? = some (Slot.val (rr E x)) := h1
  have kk := k p e s m args below meth c H locs cells slots ls C K L hz hR hl (ok_cons h2 hst) hlo hc hs
  have kk : W p (eL E) e (rmM M) s m args below meth c H locs cells slots (FQ E M below args s Q) (F0 m (pc + 1) ls (rr E x :: st.map (rv E))) := kk
  rcases rr_or E x with hx | ⟨b, hx⟩
  · rw [hx] at h3 kk
    exact lv_aload_nN C.1 C.2.1 d hi h3 kk
  · rw [hx] at h3 kk
    exact lv_aload_n C.1 C.2.1 d hi h3 kk
theorem r_aload {i : Nat} {x : Nat} (d : decode (dB M) pc = .ok (.aload i, 2)) (h : l[i]? = some (some (vr x))) (k : GG E M (pc + 2) l (vr x :: st) σ rc rs Q) : GG E M pc l st σ rc rs Q := by
  intro p e s m args below meth c H locs cells slots ls C K L hz hR hl hst hlo hc hs
  obtain ⟨h1, h2⟩ := hl.2.2.2 i _ h
  have h3 : ls[i]? = some (Slot.val (rr E x)) := h1
  have kk := k p e s m args below meth c H locs cells slots ls C K L hz hR hl (ok_cons h2 hst) hlo hc hs
  have kk : W p (eL E) e (rmM M) s m args below meth c H locs cells slots (FQ E M below args s Q) (F0 m (pc + 2) ls (rr E x :: st.map (rv E))) := kk
  rcases rr_or E x with hx | ⟨b, hx⟩
  · rw [hx] at h3 kk
    exact lv_aloadN C.1 C.2.1 d h3 kk
  · rw [hx] at h3 kk
    exact lv_aload C.1 C.2.1 d h3 kk
theorem r_istore_n {k9 : Fin 4} {i : Nat} {x : Int} (d : decode (dB M) pc = .ok (.istore_n k9, 1)) (hi : (k9 : Nat) = i) (hn : i < dL M) {l2 : List (Option NV)} (e9 : st1q l i (vi x) = l2) (k : GG E M (pc + 1) l2 st σ rc rs Q) : GG E M pc l (vi x :: st) σ rc rs Q := by
  subst e9
  intro p e s m args below meth c H locs cells slots ls C K L hz hR hl hst hlo hc hs
  exact lv_istore_n C.1 C.2.1 d hi hl.has hn rfl (fun ls' h' => k p e s m args below meth c H locs cells slots ls' C K L hz hR (hl.st1 (ok_hd hst) h') (ok_tl hst) hlo hc hs)
theorem r_istore {i : Nat} {x : Int} (d : decode (dB M) pc = .ok (.istore i, 2)) (hn : i < dL M) {l2 : List (Option NV)} (e9 : st1q l i (vi x) = l2) (k : GG E M (pc + 2) l2 st σ rc rs Q) : GG E M pc l (vi x :: st) σ rc rs Q := by
  subst e9
  intro p e s m args below meth c H locs cells slots ls C K L hz hR hl hst hlo hc hs
  exact lv_istore C.1 C.2.1 d hl.has hn rfl (fun ls' h' => k p e s m args below meth c H locs cells slots ls' C K L hz hR (hl.st1 (ok_hd hst) h') (ok_tl hst) hlo hc hs)
theorem r_astore_n {k9 : Fin 4} {i : Nat} {x : Nat} (d : decode (dB M) pc = .ok (.astore_n k9, 1)) (hi : (k9 : Nat) = i) (hn : i < dL M) {l2 : List (Option NV)} (e9 : st1q l i (vr x) = l2) (k : GG E M (pc + 1) l2 st σ rc rs Q) : GG E M pc l (vr x :: st) σ rc rs Q := by
  subst e9
  intro p e s m args below meth c H locs cells slots ls C K L hz hR hl hst hlo hc hs
  have hst' := ok_tl hst
  have hv := ok_hd hst
  show W p (eL E) e (rmM M) s m args below meth c H locs cells slots (FQ E M below args s Q) (F0 m pc ls (rr E x :: st.map (rv E)))
  have kk : ∀ ls' : Array Slot, lv_has ls' (dL M) ((i, rr E x) :: (asc E l).filter (fun q => !(q.1 == i) && !(q.1 + 1 == i && q.2.category == 2))) → W p (eL E) e (rmM M) s m args below meth c H locs cells slots (FQ E M below args s Q) (F0 m (pc + 1) ls' (st.map (rv E))) := fun ls' h' => k p e s m args below meth c H locs cells slots ls' C K L hz hR (hl.st1 hv h') (hst') hlo hc hs
  rcases rr_or E x with hx | ⟨b, hx⟩
  · rw [hx] at kk ⊢
    exact lv_astore_nN C.1 C.2.1 d hi hl.has hn rfl kk
  · rw [hx] at kk ⊢
    exact lv_astore_n C.1 C.2.1 d hi hl.has hn rfl kk
theorem r_astore {i : Nat} {x : Nat} (d : decode (dB M) pc = .ok (.astore i, 2)) (hn : i < dL M) {l2 : List (Option NV)} (e9 : st1q l i (vr x) = l2) (k : GG E M (pc + 2) l2 st σ rc rs Q) : GG E M pc l (vr x :: st) σ rc rs Q := by
  subst e9
  intro p e s m args below meth c H locs cells slots ls C K L hz hR hl hst hlo hc hs
  have hst' := ok_tl hst
  have hv := ok_hd hst
  show W p (eL E) e (rmM M) s m args below meth c H locs cells slots (FQ E M below args s Q) (F0 m pc ls (rr E x :: st.map (rv E)))
  have kk : ∀ ls' : Array Slot, lv_has ls' (dL M) ((i, rr E x) :: (asc E l).filter (fun q => !(q.1 == i) && !(q.1 + 1 == i && q.2.category == 2))) → W p (eL E) e (rmM M) s m args below meth c H locs cells slots (FQ E M below args s Q) (F0 m (pc + 2) ls' (st.map (rv E))) := fun ls' h' => k p e s m args below meth c H locs cells slots ls' C K L hz hR (hl.st1 hv h') (hst') hlo hc hs
  rcases rr_or E x with hx | ⟨b, hx⟩
  · rw [hx] at kk ⊢
    exact lv_astoreN C.1 C.2.1 d hl.has hn rfl kk
  · rw [hx] at kk ⊢
    exact lv_astore C.1 C.2.1 d hl.has hn rfl kk
theorem r_lstore_n {k9 : Fin 4} {i : Nat} {x : Int} (d : decode (dB M) pc = .ok (.lstore_n k9, 1)) (hi : (k9 : Nat) = i) (hn : i + 1 < dL M) {l2 : List (Option NV)} (e9 : st2q l i (vl x) = l2) (k : GG E M (pc + 1) l2 st σ rc rs Q) : GG E M pc l (vl x :: st) σ rc rs Q := by
  subst e9
  intro p e s m args below meth c H locs cells slots ls C K L hz hR hl hst hlo hc hs
  exact lv_lstore_n C.1 C.2.1 d hi hl.has hn rfl (fun ls' h' => k p e s m args below meth c H locs cells slots ls' C K L hz hR (hl.st2 (ok_hd hst) h') (ok_tl hst) hlo hc hs)
theorem r_lstore {i : Nat} {x : Int} (d : decode (dB M) pc = .ok (.lstore i, 2)) (hn : i + 1 < dL M) {l2 : List (Option NV)} (e9 : st2q l i (vl x) = l2) (k : GG E M (pc + 2) l2 st σ rc rs Q) : GG E M pc l (vl x :: st) σ rc rs Q := by
  subst e9
  intro p e s m args below meth c H locs cells slots ls C K L hz hR hl hst hlo hc hs
  exact lv_lstore C.1 C.2.1 d hl.has hn rfl (fun ls' h' => k p e s m args below meth c H locs cells slots ls' C K L hz hR (hl.st2 (ok_hd hst) h') (ok_tl hst) hlo hc hs)
theorem r_iinc {i : Nat} {n x : Int} (d : decode (dB M) pc = .ok (.iinc i n, 3)) (hx : l[i]? = some (some (vi x))) (hn : i < dL M) (h : inR (x + n)) {l2 : List (Option NV)} (e9 : st1q l i (vi (x + n)) = l2) (k : GG E M (pc + 3) l2 st σ rc rs Q) : GG E M pc l st σ rc rs Q := by
  subst e9
  intro p e s m args below meth c H locs cells slots ls C K L hz hR hl hst hlo hc hs
  obtain ⟨j, hj⟩ := List.getElem?_of_mem (asc_mem (E := E) (q := (i, Value.int (Int32.ofInt x))).mpr ⟨vi x, hx, rfl⟩)
  exact lv_iinc C.1 C.2.1 d hl.has hj (ii_add x n) hn rfl (fun ls' h' => k p e s m args below meth c H locs cells slots ls' C K L hz hR (hl.st1 (v := vi (x + n)) h h') (hst) hlo hc hs)
theorem r_dup {a : NV} (d : decode (dB M) pc = .ok (.dup, 1)) (ha : ∀ x, a ≠ .inr (.inr x)) (k : GG E M (pc + 1) l (a :: a :: st) σ rc rs Q) : GG E M pc l (a :: st) σ rc rs Q := by
  intro p e s m args below meth c H locs cells slots ls C K L hz hR hl hst hlo hc hs
  exact lv_dup C.1 C.2.1 d (cat1 ha) (k p e s m args below meth c H locs cells slots ls C K L hz hR hl (ok_cons (ok_hd hst) hst) hlo hc hs)
theorem r_pop {a : NV} (d : decode (dB M) pc = .ok (.pop, 1)) (ha : ∀ x, a ≠ .inr (.inr x)) (k : GG E M (pc + 1) l (st) σ rc rs Q) : GG E M pc l (a :: st) σ rc rs Q := by
  intro p e s m args below meth c H locs cells slots ls C K L hz hR hl hst hlo hc hs
  exact lv_pop C.1 C.2.1 d (cat1 ha) (k p e s m args below meth c H locs cells slots ls C K L hz hR hl (ok_tl hst) hlo hc hs)
theorem r_dup2_11 {a b : NV} (d : decode (dB M) pc = .ok (.dup2, 1)) (ha : ∀ x, a ≠ .inr (.inr x)) (hb : ∀ x, b ≠ .inr (.inr x)) (k : GG E M (pc + 1) l (a :: b :: a :: b :: st) σ rc rs Q) : GG E M pc l (a :: b :: st) σ rc rs Q := by
  intro p e s m args below meth c H locs cells slots ls C K L hz hR hl hst hlo hc hs
  exact lv_dup2_11 C.1 C.2.1 d (cat1 ha) (cat1 hb) (k p e s m args below meth c H locs cells slots ls C K L hz hR hl (ok_cons (ok_hd hst) (ok_cons (ok_hd (ok_tl hst)) hst)) hlo hc hs)
theorem r_icmp_eq {x y : Int} {off : Int} {tgt : Nat} (d : decode (dB M) pc = .ok (.if_icmp .eq off, 3)) (ht : (pc : Int) + off = (tgt : Int)) (kt : x = y → GG E M tgt l st σ rc rs Q) (kf : ¬ (x = y) → GG E M (pc + 3) l st σ rc rs Q) : GG E M pc l (vi y :: vi x :: st) σ rc rs Q := by
  intro p e s m args below meth c H locs cells slots ls C K L hz hR hl hst hlo hc hs
  have hy : inR y := ok_hd hst
  have hx : inR x := ok_hd (ok_tl hst)
  exact lv_icmp_eq C.1 C.2.1 d ht (fun z => kt ((ii_inj hx hy).mp z) p e s m args below meth c H locs cells slots ls C K L hz hR hl (ok_tl (ok_tl hst)) hlo hc hs) (fun z => kf (fun w => z ((ii_inj hx hy).mpr w)) p e s m args below meth c H locs cells slots ls C K L hz hR hl (ok_tl (ok_tl hst)) hlo hc hs)
theorem r_if_eq {x : Int} {off : Int} {tgt : Nat} (d : decode (dB M) pc = .ok (.ifCond .eq off, 3)) (ht : (pc : Int) + off = (tgt : Int)) (kt : x = 0 → GG E M tgt l st σ rc rs Q) (kf : ¬ (x = 0) → GG E M (pc + 3) l st σ rc rs Q) : GG E M pc l (vi x :: st) σ rc rs Q := by
  intro p e s m args below meth c H locs cells slots ls C K L hz hR hl hst hlo hc hs
  have hx : inR x := ok_hd hst
  exact lv_if_eq C.1 C.2.1 d ht (fun z => kt ((ii_inj hx inR_0).mp z) p e s m args below meth c H locs cells slots ls C K L hz hR hl (ok_tl hst) hlo hc hs) (fun z => kf (fun w => z ((ii_inj hx inR_0).mpr w)) p e s m args below meth c H locs cells slots ls C K L hz hR hl (ok_tl hst) hlo hc hs)
theorem r_icmp_ne {x y : Int} {off : Int} {tgt : Nat} (d : decode (dB M) pc = .ok (.if_icmp .ne off, 3)) (ht : (pc : Int) + off = (tgt : Int)) (kt : x ≠ y → GG E M tgt l st σ rc rs Q) (kf : x = y → GG E M (pc + 3) l st σ rc rs Q) : GG E M pc l (vi y :: vi x :: st) σ rc rs Q := by
  intro p e s m args below meth c H locs cells slots ls C K L hz hR hl hst hlo hc hs
  have hy : inR y := ok_hd hst
  have hx : inR x := ok_hd (ok_tl hst)
  exact lv_icmp_ne C.1 C.2.1 d ht (fun z => kt ((not_congr (ii_inj hx hy)).mp z) p e s m args below meth c H locs cells slots ls C K L hz hR hl (ok_tl (ok_tl hst)) hlo hc hs) (fun z => kf ((ii_inj hx hy).mp z) p e s m args below meth c H locs cells slots ls C K L hz hR hl (ok_tl (ok_tl hst)) hlo hc hs)
theorem r_if_ne {x : Int} {off : Int} {tgt : Nat} (d : decode (dB M) pc = .ok (.ifCond .ne off, 3)) (ht : (pc : Int) + off = (tgt : Int)) (kt : x ≠ 0 → GG E M tgt l st σ rc rs Q) (kf : x = 0 → GG E M (pc + 3) l st σ rc rs Q) : GG E M pc l (vi x :: st) σ rc rs Q := by
  intro p e s m args below meth c H locs cells slots ls C K L hz hR hl hst hlo hc hs
  have hx : inR x := ok_hd hst
  exact lv_if_ne C.1 C.2.1 d ht (fun z => kt ((not_congr (ii_inj hx inR_0)).mp z) p e s m args below meth c H locs cells slots ls C K L hz hR hl (ok_tl hst) hlo hc hs) (fun z => kf ((ii_inj hx inR_0).mp z) p e s m args below meth c H locs cells slots ls C K L hz hR hl (ok_tl hst) hlo hc hs)
theorem r_icmp_lt {x y : Int} {off : Int} {tgt : Nat} (d : decode (dB M) pc = .ok (.if_icmp .lt off, 3)) (ht : (pc : Int) + off = (tgt : Int)) (kt : x < y → GG E M tgt l st σ rc rs Q) (kf : ¬ (x < y) → GG E M (pc + 3) l st σ rc rs Q) : GG E M pc l (vi y :: vi x :: st) σ rc rs Q := by
  intro p e s m args below meth c H locs cells slots ls C K L hz hR hl hst hlo hc hs
  have hy : inR y := ok_hd hst
  have hx : inR x := ok_hd (ok_tl hst)
  exact lv_icmp_lt C.1 C.2.1 d ht (fun z => kt ((ii_lt hx hy).mp z) p e s m args below meth c H locs cells slots ls C K L hz hR hl (ok_tl (ok_tl hst)) hlo hc hs) (fun z => kf (fun w => z ((ii_lt hx hy).mpr w)) p e s m args below meth c H locs cells slots ls C K L hz hR hl (ok_tl (ok_tl hst)) hlo hc hs)
theorem r_if_lt {x : Int} {off : Int} {tgt : Nat} (d : decode (dB M) pc = .ok (.ifCond .lt off, 3)) (ht : (pc : Int) + off = (tgt : Int)) (kt : x < 0 → GG E M tgt l st σ rc rs Q) (kf : ¬ (x < 0) → GG E M (pc + 3) l st σ rc rs Q) : GG E M pc l (vi x :: st) σ rc rs Q := by
  intro p e s m args below meth c H locs cells slots ls C K L hz hR hl hst hlo hc hs
  have hx : inR x := ok_hd hst
  exact lv_if_lt C.1 C.2.1 d ht (fun z => kt ((ii_lt hx inR_0).mp z) p e s m args below meth c H locs cells slots ls C K L hz hR hl (ok_tl hst) hlo hc hs) (fun z => kf (fun w => z ((ii_lt hx inR_0).mpr w)) p e s m args below meth c H locs cells slots ls C K L hz hR hl (ok_tl hst) hlo hc hs)
theorem r_icmp_ge {x y : Int} {off : Int} {tgt : Nat} (d : decode (dB M) pc = .ok (.if_icmp .ge off, 3)) (ht : (pc : Int) + off = (tgt : Int)) (kt : y ≤ x → GG E M tgt l st σ rc rs Q) (kf : ¬ (y ≤ x) → GG E M (pc + 3) l st σ rc rs Q) : GG E M pc l (vi y :: vi x :: st) σ rc rs Q := by
  intro p e s m args below meth c H locs cells slots ls C K L hz hR hl hst hlo hc hs
  have hy : inR y := ok_hd hst
  have hx : inR x := ok_hd (ok_tl hst)
  exact lv_icmp_ge C.1 C.2.1 d ht (fun z => kt ((ii_le hy hx).mp z) p e s m args below meth c H locs cells slots ls C K L hz hR hl (ok_tl (ok_tl hst)) hlo hc hs) (fun z => kf (fun w => z ((ii_le hy hx).mpr w)) p e s m args below meth c H locs cells slots ls C K L hz hR hl (ok_tl (ok_tl hst)) hlo hc hs)
theorem r_if_ge {x : Int} {off : Int} {tgt : Nat} (d : decode (dB M) pc = .ok (.ifCond .ge off, 3)) (ht : (pc : Int) + off = (tgt : Int)) (kt : 0 ≤ x → GG E M tgt l st σ rc rs Q) (kf : ¬ (0 ≤ x) → GG E M (pc + 3) l st σ rc rs Q) : GG E M pc l (vi x :: st) σ rc rs Q := by
  intro p e s m args below meth c H locs cells slots ls C K L hz hR hl hst hlo hc hs
  have hx : inR x := ok_hd hst
  exact lv_if_ge C.1 C.2.1 d ht (fun z => kt ((ii_le inR_0 hx).mp z) p e s m args below meth c H locs cells slots ls C K L hz hR hl (ok_tl hst) hlo hc hs) (fun z => kf (fun w => z ((ii_le inR_0 hx).mpr w)) p e s m args below meth c H locs cells slots ls C K L hz hR hl (ok_tl hst) hlo hc hs)
theorem r_icmp_gt {x y : Int} {off : Int} {tgt : Nat} (d : decode (dB M) pc = .ok (.if_icmp .gt off, 3)) (ht : (pc : Int) + off = (tgt : Int)) (kt : y < x → GG E M tgt l st σ rc rs Q) (kf : ¬ (y < x) → GG E M (pc + 3) l st σ rc rs Q) : GG E M pc l (vi y :: vi x :: st) σ rc rs Q := by
  intro p e s m args below meth c H locs cells slots ls C K L hz hR hl hst hlo hc hs
  have hy : inR y := ok_hd hst
  have hx : inR x := ok_hd (ok_tl hst)
  exact lv_icmp_gt C.1 C.2.1 d ht (fun z => kt ((ii_lt hy hx).mp z) p e s m args below meth c H locs cells slots ls C K L hz hR hl (ok_tl (ok_tl hst)) hlo hc hs) (fun z => kf (fun w => z ((ii_lt hy hx).mpr w)) p e s m args below meth c H locs cells slots ls C K L hz hR hl (ok_tl (ok_tl hst)) hlo hc hs)
theorem r_if_gt {x : Int} {off : Int} {tgt : Nat} (d : decode (dB M) pc = .ok (.ifCond .gt off, 3)) (ht : (pc : Int) + off = (tgt : Int)) (kt : 0 < x → GG E M tgt l st σ rc rs Q) (kf : ¬ (0 < x) → GG E M (pc + 3) l st σ rc rs Q) : GG E M pc l (vi x :: st) σ rc rs Q := by
  intro p e s m args below meth c H locs cells slots ls C K L hz hR hl hst hlo hc hs
  have hx : inR x := ok_hd hst
  exact lv_if_gt C.1 C.2.1 d ht (fun z => kt ((ii_lt inR_0 hx).mp z) p e s m args below meth c H locs cells slots ls C K L hz hR hl (ok_tl hst) hlo hc hs) (fun z => kf (fun w => z ((ii_lt inR_0 hx).mpr w)) p e s m args below meth c H locs cells slots ls C K L hz hR hl (ok_tl hst) hlo hc hs)
theorem r_icmp_le {x y : Int} {off : Int} {tgt : Nat} (d : decode (dB M) pc = .ok (.if_icmp .le off, 3)) (ht : (pc : Int) + off = (tgt : Int)) (kt : x ≤ y → GG E M tgt l st σ rc rs Q) (kf : ¬ (x ≤ y) → GG E M (pc + 3) l st σ rc rs Q) : GG E M pc l (vi y :: vi x :: st) σ rc rs Q := by
  intro p e s m args below meth c H locs cells slots ls C K L hz hR hl hst hlo hc hs
  have hy : inR y := ok_hd hst
  have hx : inR x := ok_hd (ok_tl hst)
  exact lv_icmp_le C.1 C.2.1 d ht (fun z => kt ((ii_le hx hy).mp z) p e s m args below meth c H locs cells slots ls C K L hz hR hl (ok_tl (ok_tl hst)) hlo hc hs) (fun z => kf (fun w => z ((ii_le hx hy).mpr w)) p e s m args below meth c H locs cells slots ls C K L hz hR hl (ok_tl (ok_tl hst)) hlo hc hs)
theorem r_if_le {x : Int} {off : Int} {tgt : Nat} (d : decode (dB M) pc = .ok (.ifCond .le off, 3)) (ht : (pc : Int) + off = (tgt : Int)) (kt : x ≤ 0 → GG E M tgt l st σ rc rs Q) (kf : ¬ (x ≤ 0) → GG E M (pc + 3) l st σ rc rs Q) : GG E M pc l (vi x :: st) σ rc rs Q := by
  intro p e s m args below meth c H locs cells slots ls C K L hz hR hl hst hlo hc hs
  have hx : inR x := ok_hd hst
  exact lv_if_le C.1 C.2.1 d ht (fun z => kt ((ii_le hx inR_0).mp z) p e s m args below meth c H locs cells slots ls C K L hz hR hl (ok_tl hst) hlo hc hs) (fun z => kf (fun w => z ((ii_le hx inR_0).mpr w)) p e s m args below meth c H locs cells slots ls C K L hz hR hl (ok_tl hst) hlo hc hs)
theorem r_goto {off : Int} {tgt : Nat} (d : decode (dB M) pc = .ok (.goto off, 3)) (ht : (pc : Int) + off = (tgt : Int)) (k : GG E M tgt l st σ rc rs Q) : GG E M pc l st σ rc rs Q := by
  intro p e s m args below meth c H locs cells slots ls C K L hz hR hl hst hlo hc hs
  exact lv_goto C.1 C.2.1 d ht (k p e s m args below meth c H locs cells slots ls C K L hz hR hl (hst) hlo hc hs)
theorem r_tabIn {dflt lo hi : Int} {offs : Array Int} {len : Nat} {x off : Int} {tgt : Nat} (d : decode (dB M) pc = .ok (.tableswitch dflt lo hi offs, len)) (h1 : lo ≤ x) (h2 : x ≤ hi) (ho : offs[(x - lo).toNat]? = some off) (ht : (pc : Int) + off = (tgt : Int)) (k : GG E M tgt l st σ rc rs Q) : GG E M pc l (vi x :: st) σ rc rs Q := by
  intro p e s m args below meth c H locs cells slots ls C K L hz hR hl hst hlo hc hs
  have hx : inR x := ok_hd hst
  have e1 := ii_toInt hx
  exact lv_tableIn C.1 C.2.1 d (by rw [e1]; omega) (by rw [e1]; omega) (by rw [e1]; exact ho) ht (k p e s m args below meth c H locs cells slots ls C K L hz hR hl (ok_tl hst) hlo hc hs)
theorem r_tabOut {dflt lo hi : Int} {offs : Array Int} {len : Nat} {x : Int} {tgt : Nat} (d : decode (dB M) pc = .ok (.tableswitch dflt lo hi offs, len)) (h : x < lo ∨ hi < x) (ht : (pc : Int) + dflt = (tgt : Int)) (k : GG E M tgt l st σ rc rs Q) : GG E M pc l (vi x :: st) σ rc rs Q := by
  intro p e s m args below meth c H locs cells slots ls C K L hz hR hl hst hlo hc hs
  have hx : inR x := ok_hd hst
  have e1 := ii_toInt hx
  exact lv_tableOut C.1 C.2.1 d (by rw [e1]; exact h) ht (k p e s m args below meth c H locs cells slots ls C K L hz hR hl (ok_tl hst) hlo hc hs)
/-- the locals that are not looked at any more may be forgotten -/
theorem GG.fgt {l' : List (Option NV)} (h : ∀ (i : Nat) (v : NV), l'[i]? = some (some v) → l[i]? = some (some v)) (hn : l'.length = l.length) (k : GG E M pc l' st σ rc rs Q) : GG E M pc l st σ rc rs Q := by
  intro p e s m args below meth c H locs cells slots ls C K L hz hR hl hst hlo hc hs
  exact k p e s m args below meth c H locs cells slots ls C K L hz hR ⟨hl.1, hn.trans hl.2.1, hl.2.2.1, fun i v hv => hl.2.2.2 i v (h i v hv)⟩ (hst) hlo hc hs
end R2
