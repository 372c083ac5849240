/-! ===== a list's data as words of bytes, and what is checked of them ===== -/
def djK (d : List Nat) (k : Nat) : Nat := d.getD k 0
def djN (d : List Nat) : Nat := djK d 0
def djR (d : List Nat) : Nat := djK d 1
def djP (d : List Nat) : Nat := djK d 2
def djS (d : List Nat) : Nat := djK d 3
def djE (d : List Nat) : Nat := djK d 4
def djD (d : List Nat) : Nat := djK d 19
def djT (d : List Nat) (k l : Nat) : Nat := btJ (djK d 5) (Nat.add (Nat.mul (djN d) k) l)
def djV (d : List Nat) (k : Nat) : Nat := btJ (djK d 6) k
def djC (d : List Nat) (k : Nat) : Nat := btJ (djK d 7) k
def djW (d : List Nat) (c : Nat) : Nat := dgJ (Nat.mul 8 (Nat.mul (djR d) (djR d))) (djK d 8) c
def djB (d : List Nat) (a b c : Nat) : Nat := btJ (djW d c) (Nat.add (Nat.mul (djR d) a) b)
def djI (d : List Nat) (a : Nat) : Nat := btJ (djK d 9) a
def djZ (d : List Nat) (a : Nat) : Nat := btJ (djK d 10) a
def djO (d : List Nat) (i a : Nat) : Nat := btJ (djK d 11) (Nat.add (Nat.mul (djR d) i) a)
def djX (d : List Nat) (i a : Nat) : Nat := btJ (djK d 12) (Nat.add (Nat.mul (djR d) i) a)
def djG (d : List Nat) (i : Nat) : Nat := btJ (djK d 13) i
def djM (d : List Nat) (A : Nat) : P2 := ((btJ (djK d 14) A : Int) - 4, (btJ (djK d 15) A : Int) - 4)
def djQ (d : List Nat) (c : Nat) : Nat := btJ (djK d 16) c
def djF (d : List Nat) (i j : Nat) : Nat := btJ (djK d 17) (Nat.add (Nat.mul (djR d) i) j)
def djL (d : List Nat) (i j : Nat) : Nat := btJ (djK d 18) (Nat.add (Nat.mul (djR d) i) j)
/-- classes -/
noncomputable def ckA (d : List Nat) : Bool := alJ (djN d) (fun k => Nat.blt (djV d k) (djN d) && Nat.beq (djT d k (djV d k)) 0 && Nat.blt (djC d k) (djR d) && Nat.beq (djC d (djV d k)) (djI d (djC d k)))
noncomputable def ckB (d : List Nat) : Bool := alJ (djN d) (fun k => alJ (djN d) (fun x => Nat.beq (djC d (djT d (djT d (djV d x) k) x)) (djC d k)))
noncomputable def ckC (d : List Nat) : Bool := alJ (djN d) (fun k => alJ (djN d) (fun l => !(Nat.beq (djC d k) (djC d l)) || exJ (djN d) (fun x => Nat.beq l (djT d (djT d (djV d x) k) x))))
noncomputable def ckD (d : List Nat) : Bool := alJ (djR d) (fun c => Nat.blt (djQ d c) (djN d) && Nat.beq (djC d (djQ d c)) c && Nat.blt (djI d c) (djR d) && Nat.beq (smJ (djN d) (fun x => bif Nat.beq (djC d x) c then 1 else 0)) (djZ d c))
noncomputable def ckE (d : List Nat) : Bool := alJ (djN d) (fun l => Nat.beq (smJ (djN d) (fun x => Nat.shiftLeft 1 (Nat.mul 8 (Nat.add (Nat.mul (djR d) (djC d x)) (djC d (djT d (djV d x) l)))))) (djW d (djC d l)))
/-- the prime -/
noncomputable def ispJ (q : Nat) : Bool := Nat.blt 1 q && alJ 16 (fun k => Nat.blt k 2 || Nat.blt q (Nat.mul k k) || !(Nat.beq (Nat.mod q k) 0))
noncomputable def prbJ (N e D q : Nat) : Bool := Nat.ble (Nat.add (Nat.mul 2 N) 1) q && Nat.beq (Nat.mod (Nat.sub q 1) e) 0 && ispJ q && exJ q (fun s => Nat.ble 1 s && Nat.beq (Nat.mod (Nat.mul s s) q) (Nat.mod D q))
noncomputable def ckF (d : List Nat) : Bool := prbJ (djN d) (djE d) (djD d) (djP d) && alJ (djP d) (fun q => !(prbJ (djN d) (djE d) (djD d) q)) && Nat.ble 1 (djS d) && Nat.blt (djS d) (djP d) && Nat.beq (Nat.mod (Nat.mul (djS d) (djS d)) (djP d)) (Nat.mod (djD d) (djP d)) && alJ (djS d) (fun s => !(Nat.ble 1 s && Nat.beq (Nat.mod (Nat.mul s s) (djP d)) (Nat.mod (djD d) (djP d)))) && Nat.blt (djP d) 242
noncomputable def lcmJ (d : List Nat) (r : Nat) : Nat := Nat.rec (motive := fun _ => Nat) 1 (fun A ih => Nat.lcm ih (ordT (djD d : Int) (djM d A))) r
/-- central rows -/
def dlJ (i j : Nat) : Nat := bif Nat.beq i j then 1 else 0
noncomputable def ckG (d : List Nat) : Bool := alJ (djR d) (fun i => Nat.beq (djO d i 0) 1 && alJ (djR d) (fun a => Nat.blt (djO d i a) (djP d) && alJ (djR d) (fun b => Nat.beq (Nat.mod (Nat.mul (djO d i a) (djO d i b)) (djP d)) (Nat.mod (smJ (djR d) (fun k => Nat.mul (djB d a b k) (djO d i k))) (djP d)))))
noncomputable def ckH (d : List Nat) : Bool := alJ (djR d) (fun i => alJ (djR d) (fun j => Nat.beq (Nat.mod (smJ (djR d) (fun b => Nat.mul (djX d i b) (djO d j b))) (djP d)) (Nat.mod (dlJ i j) (djP d)) && Nat.beq (Nat.mod (smJ (djR d) (fun k => Nat.mul (djO d k i) (djX d k j))) (djP d)) (Nat.mod (dlJ i j) (djP d))))
def ovJ (p a b : Nat) : Nat := Nat.mod (Nat.mul a (Nat.pow b (Nat.sub p 2))) p
noncomputable def nmJ (d : List Nat) (i : Nat) : Nat := smJ (djR d) (fun A => Nat.mul (djO d i A) (ovJ (djP d) (djO d i (djI d A)) (djZ d A)))
noncomputable def okJ (d : List Nat) (i x : Nat) : Bool := Nat.beq (Nat.mod (Nat.mul (Nat.mul x x) (Nat.mod (nmJ d i) (djP d))) (djP d)) (Nat.mod (djN d) (djP d))
noncomputable def ckI (d : List Nat) : Bool := alJ (djR d) (fun i => Nat.ble 1 (djG d i) && Nat.ble (djG d i) 9 && okJ d i (djG d i) && alJ (djG d i) (fun x => Nat.blt x 1 || !(okJ d i x)))
/-- the graph -/
def chJ (d : List Nat) (i A : Nat) : Nat := ovJ (djP d) (Nat.mod (Nat.mul (djG d i) (djO d i A)) (djP d)) (djZ d A)
def ntJ (d : List Nat) (A : Nat) : Nat := ovJ (djP d) ((((djM d A).1 + (djS d : Int) * (djM d A).2) % (djP d : Int)).toNat) 2
noncomputable def waJ (d : List Nat) (i j : Nat) : Nat := ovJ (djP d) (Nat.mod (smJ (djR d) (fun A => Nat.mul (djZ d A) (Nat.mul (Nat.mod (Nat.mul (ntJ d A) (chJ d i A)) (djP d)) (chJ d j (djI d A))))) (djP d)) (djN d)
noncomputable def ckL (d : List Nat) : Bool := alJ (djR d) (fun i => alJ (djR d) (fun j => Nat.ble (djF d i j) 100 && bif Nat.beq (djF d i j) 0 then Nat.beq i j else (Nat.blt (djL d i j) (djR d) && Nat.beq (Nat.add (djF d i (djL d i j)) 1) (djF d i j) && Nat.blt 0 (waJ d (djL d i j) j))))
noncomputable def ckM (d : List Nat) : Bool := Nat.beq (lcmJ d (djR d)) (djE d) && Nat.beq (djC d 0) 0 && Nat.ble (djR d) 12 && Nat.ble (djN d) 120
noncomputable def chkJ (d : List Nat) : Bool := ckA d && ckB d && ckC d && ckD d && ckE d && ckF d && ckG d && ckH d && ckI d && ckL d && ckM d
/-! what the checks say -/
theorem bqJ {a b : Nat} (h : Nat.beq a b = true) : a = b := Nat.eq_of_beq_eq_true h
theorem bleJ {a b : Nat} (h : Nat.ble a b = true) : a ≤ b := Nat.le_of_ble_eq_true h
theorem bltJ {a b : Nat} (h : Nat.blt a b = true) : a < b := Nat.le_of_ble_eq_true h
theorem bqJ_in {a b : Nat} (h : a = b) : Nat.beq a b = true := by rw [h]; exact Nat.beq_refl b
theorem bleJ_in {a b : Nat} (h : a ≤ b) : Nat.ble a b = true := Nat.ble_eq_true_of_le h
theorem bltJ_in {a b : Nat} (h : a < b) : Nat.blt a b = true := Nat.ble_eq_true_of_le h
theorem isp_of {q : Nat} (hq : q < 256) (h : ispJ q = true) : isPr q := by
  unfold ispJ at h
  rw [Bool.and_eq_true] at h
  refine ⟨bltJ h.1, fun k k2 kk hd => ?_⟩
  have k16 : k < 16 := by
    apply Nat.not_le.mp
    intro h9
    have := Nat.mul_le_mul h9 h9
    omega
  have w := alJ_of h.2 k k16
  rw [Bool.or_eq_true, Bool.or_eq_true] at w
  rcases w with (w | w) | w
  · have := bltJ w; omega
  · have e : k * k = Nat.mul k k := rfl
    have := bltJ w; omega
  · have e : Nat.mod q k = 0 := Nat.mod_eq_zero_of_dvd hd
    rw [e] at w
    exact absurd w (by decide)
theorem isp_in {q : Nat} (h : isPr q) : ispJ q = true := by
  unfold ispJ
  rw [Bool.and_eq_true]
  refine ⟨bltJ_in h.1, alJ_in 16 (fun k _ => ?_)⟩
  rw [Bool.or_eq_true, Bool.or_eq_true]
  by_cases k2 : k < 2
  · exact .inl (.inl (bltJ_in k2))
  · by_cases kq : k * k ≤ q
    · refine .inr ?_
      have := h.2 k (by omega) kq
      have e : Nat.beq (Nat.mod q k) 0 = false := by
        cases hb : Nat.beq (Nat.mod q k) 0
        · rfl
        · exact absurd (Nat.dvd_of_mod_eq_zero (bqJ hb)) this
      rw [e]; rfl
    · exact .inl (.inr (bltJ_in (show q < k * k by omega)))
theorem prb_in {N e D q : Nat} (h : prOk N e D q) : prbJ N e D q = true := by
  obtain ⟨h1, h2, h3, s, s1, s2, s3⟩ := h
  unfold prbJ
  rw [Bool.and_eq_true, Bool.and_eq_true, Bool.and_eq_true]
  refine ⟨⟨⟨bleJ_in h1, bqJ_in (Nat.mod_eq_zero_of_dvd h2)⟩, isp_in h3⟩, exJ_in q s s2 ?_⟩
  rw [Bool.and_eq_true]
  exact ⟨bleJ_in s1, bqJ_in s3⟩
theorem prb_of {N e D q : Nat} (hq : q < 256) (h : prbJ N e D q = true) : prOk N e D q := by
  unfold prbJ at h
  rw [Bool.and_eq_true, Bool.and_eq_true, Bool.and_eq_true] at h
  obtain ⟨⟨⟨h1, h2⟩, h3⟩, h4⟩ := h
  obtain ⟨s, hs, h5⟩ := exJ_of h4
  rw [Bool.and_eq_true] at h5
  exact ⟨bleJ h1, Nat.dvd_of_mod_eq_zero (bqJ h2), isp_of hq h3, s, bleJ h5.1, hs, bqJ h5.2⟩
theorem ckF_of {d : List Nat} (h : ckF d = true) : PR (djN d) (djE d) (djD d) (djP d) (djS d) ∧ djP d < 242 := by
  unfold ckF at h
  simp only [Bool.and_eq_true] at h
  obtain ⟨⟨⟨⟨⟨⟨h1, h2⟩, h3⟩, h4⟩, h5⟩, h6⟩, h7⟩ := h
  have p242 := bltJ h7
  refine ⟨⟨prb_of (by omega) h1, fun q hq h9 => ?_, ⟨bleJ h3, bltJ h4, bqJ h5⟩, fun r hr h9 => ?_⟩, p242⟩
  · have := alJ_of h2 q hq
    rw [prb_in h9] at this
    exact absurd this (by decide)
  · have := alJ_of h6 r hr
    rw [bleJ_in h9.1, show Nat.beq (Nat.mod (Nat.mul r r) (djP d)) (Nat.mod (djD d) (djP d)) = true from bqJ_in h9.2.2] at this
    exact absurd this (by decide)
theorem cn_smJ (F : Nat → Nat) (A : Nat) : ∀ N, cn (fun x => F x = A) N = smJ N (fun x => bif Nat.beq (F x) A then 1 else 0) := by
  intro N
  induction N with
  | zero => rfl
  | succ N ih =>
    rw [cn_s, smJ_s, ih]
    by_cases e : F N = A
    · rw [if_pos e, bqJ_in e]; rfl
    · rw [if_neg e]
      have : Nat.beq (F N) A = false := by
        cases hb : Nat.beq (F N) A
        · rfl
        · exact absurd (bqJ hb) e
      rw [this]; rfl
theorem sm_c2 (f h : Nat → Nat) (r : Nat) : sm (fun k => (f k : Int) * (h k : Int)) r = (smJ r (fun k => Nat.mul (f k) (h k)) : Int) := by
  rw [← smJ_sm]
  exact sm_ext r (fun k _ => (Int.natCast_mul (f k) (h k)).symm)
theorem ovJ_v (p a b : Nat) : ovV p (a : Int) (b : Int) = (ovJ p a b : Int) := by
  show ((a : Int) * (b : Int) ^ (p - 2)) % (p : Int) = ((a * b ^ (p - 2) % p : Nat) : Int)
  rw [Int.natCast_emod, Int.natCast_mul, Int.natCast_pow]
theorem dlJ_v (i j : Nat) : dl i j = (dlJ i j : Int) := by
  unfold dl dlJ
  by_cases e : i = j
  · rw [if_pos e, bqJ_in e]; rfl
  · rw [if_neg e]
    have : Nat.beq i j = false := by
      cases hb : Nat.beq i j
      · rfl
      · exact absurd (bqJ hb) e
    rw [this]; rfl
theorem okJ_iff {d : List Nat} {i x : Nat} : okDg (djP d) (djN d) (nmJ d i : Int) x ↔ okJ d i x = true := by
  unfold okDg okJ
  rw [← Int.emod_eq_emod_iff_emod_sub_eq_zero]
  have e : ((x : Int) * (x : Int)) * ((nmJ d i : Int) % (djP d : Int)) = ((Nat.mul (Nat.mul x x) (Nat.mod (nmJ d i) (djP d)) : Nat) : Int) := by
    show _ = ((x * x * (nmJ d i % djP d) : Nat) : Int)
    rw [Int.natCast_mul, Int.natCast_mul, Int.natCast_emod]
  rw [e, ← Int.natCast_emod, ← Int.natCast_emod]
  constructor
  · intro h; exact bqJ_in (Int.ofNat_inj.mp h)
  · intro h; exact congrArg (fun (z : Nat) => (z : Int)) (bqJ h)
theorem expo_of {N : Nat} {m : Nat → Nat → Nat} {e : Nat} (h1 : ∀ k, k < N → od N m k ∣ e) (h2 : ∀ x, (∀ k, k < N → od N m k ∣ x) → e ∣ x) : expo N m N = e := by
  apply Nat.dvd_antisymm
  · have : ∀ n, n ≤ N → expo N m n ∣ e := by
      intro n
      induction n with
      | zero => intro _; exact Nat.one_dvd _
      | succ n ih => intro hn; exact Nat.lcm_dvd (ih (by omega)) (h1 n (by omega))
    exact this N (Nat.le_refl _)
  · refine h2 _ (fun k hk => ?_)
    have : ∀ n, k < n → od N m k ∣ expo N m n := by
      intro n
      induction n with
      | zero => intro h; omega
      | succ n ih =>
        intro h
        show _ ∣ Nat.lcm (expo N m n) (od N m n)
        by_cases e : k = n
        · rw [e]; exact Nat.dvd_lcm_right _ _
        · exact Nat.dvd_trans (ih (by omega)) (Nat.dvd_lcm_left _ _)
    exact this N hk
theorem lcm_of {d : List Nat} {x : Nat} : ∀ r, (∀ A, A < r → ordT (djD d : Int) (djM d A) ∣ x) → lcmJ d r ∣ x := by
  intro r
  induction r with
  | zero => intro _; exact Nat.one_dvd _
  | succ r ih => intro h; exact Nat.lcm_dvd (ih (fun A hA => h A (by omega))) (h r (by omega))
theorem lcm_dv {d : List Nat} {A : Nat} : ∀ r, A < r → ordT (djD d : Int) (djM d A) ∣ lcmJ d r := by
  intro r
  induction r with
  | zero => intro h; omega
  | succ r ih =>
    intro h
    show _ ∣ Nat.lcm (lcmJ d r) (ordT (djD d : Int) (djM d r))
    by_cases e : A = r
    · rw [e]; exact Nat.dvd_lcm_right _ _
    · exact Nat.dvd_trans (ih (by omega)) (Nat.dvd_lcm_left _ _)
theorem srt_ex {f : Nat} {lt : Nat → Nat → Prop} (ho : Ord9 f lt) : ∀ i, i ≤ f → ∃ q, Prm f q ∧ Srt lt i q := by
  intro i
  induction i with
  | zero => intro _; exact ⟨fun a => a, ⟨fun a h => h, fun a b _ _ e => e, fun y hy => ⟨y, hy, rfl⟩⟩, fun a b _ h => absurd h (by omega)⟩
  | succ i ih =>
    intro hi
    obtain ⟨q, hp, hs⟩ := ih (by omega)
    have go : ∀ k, k ≤ i → ∀ q, SrtP f lt i k q → ∃ q', Prm f q' ∧ Srt lt (i + 1) q' := by
      intro k
      induction k with
      | zero => intro _ q h; exact ⟨q, h.1, h.stop ho (by omega) (by omega) (.inl rfl)⟩
      | succ k ihk =>
        intro hk q h
        by_cases hlt : lt (q (k + 1)) (q k)
        · exact ihk (by omega) _ (h.swap (by omega) hk hlt)
        · exact ⟨q, h.1, h.stop ho (by omega) hk (.inr hlt)⟩
    exact go i (Nat.le_refl _) q (hs.start hp)
theorem srj_of {n : Nat} {s : Nat → Nat} (h1 : ∀ j, j < n → s j < n) (h2 : ∀ i j, i < n → j < n → s i = s j → i = j) {y : Nat} (hy : y < n) : ∃ x, x < n ∧ s x = y := by
  apply Classical.byContradiction
  intro h9
  have ne : ∀ k, k < n → s k ≠ y := fun k hk e => h9 ⟨k, hk, e⟩
  obtain ⟨i, j, hij, hj, e⟩ := pigeon n (fun k => if k = n then y else s k) (fun i hi => by
    split
    · exact hy
    · exact h1 i (by omega))
  rw [if_neg (by omega)] at e
  by_cases hjN : j = n
  · rw [if_pos hjN] at e
    exact ne i (by omega) e
  · rw [if_neg hjN] at e
    have := h2 i j (by omega) (by omega) e
    omega
