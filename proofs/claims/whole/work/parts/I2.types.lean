/-! ===== GD out of a list's words ===== -/
section SI2
variable {D : Int} {told els : List (List Int)} {tt : Nat → P2} {f q : Nat → Nat} {d : List Nat}
/-- a closing is, by f, the list's group -/
def ISW (D : Int) (els : List (List Int)) (d : List Nat) (tt : Nat → P2) (f q : Nat → Nat) : Prop := djN d = els.length ∧ D = (djD d : Int) ∧ chkJ d = true ∧ ISO2 els.length (gmt D els) (tra els) (djT d) tt f q ∧ ∀ k, k < els.length → tt k = djM d (djC d k)
noncomputable abbrev piJ (D : Int) (els : List (List Int)) (d : List Nat) (q : Nat → Nat) : Nat → Nat := pic els.length (gmt D els) (fun z => djC d (q z))
theorem chk_all (h : chkJ d = true) : ckA d = true ∧ ckB d = true ∧ ckC d = true ∧ ckD d = true ∧ ckE d = true ∧ ckF d = true ∧ ckG d = true ∧ ckH d = true ∧ ckI d = true ∧ ckL d = true ∧ ckM d = true := by
  unfold chkJ at h
  simp only [Bool.and_eq_true] at h
  obtain ⟨⟨⟨⟨⟨⟨⟨⟨⟨⟨a, b⟩, c⟩, d⟩, e⟩, f⟩, g⟩, h⟩, i⟩, j⟩, k⟩ := h
  exact ⟨a, b, c, d, e, f, g, h, i, j, k⟩
theorem ckA_of (h : ckA d = true) {k : Nat} (hk : k < djN d) : djV d k < djN d ∧ djT d k (djV d k) = 0 ∧ djC d k < djR d ∧ djC d (djV d k) = djI d (djC d k) := by
  have a := alJ_of h k hk
  simp only [Bool.and_eq_true] at a
  obtain ⟨⟨⟨a1, a2⟩, a3⟩, a4⟩ := a
  exact ⟨bltJ a1, bqJ a2, bltJ a3, bqJ a4⟩
theorem ckB_of (h : ckB d = true) {k x : Nat} (hk : k < djN d) (hx : x < djN d) : djC d (djT d (djT d (djV d x) k) x) = djC d k := bqJ (alJ_of (alJ_of h k hk) x hx)
theorem ckC_of (h : ckC d = true) {k l : Nat} (hk : k < djN d) (hl : l < djN d) (e : djC d k = djC d l) : ∃ x, x < djN d ∧ l = djT d (djT d (djV d x) k) x := by
  have a := alJ_of (alJ_of h k hk) l hl
  rw [Bool.or_eq_true, bqJ_in e] at a
  rcases a with a | a
  · exact absurd a (by decide)
  · obtain ⟨x, hx, a2⟩ := exJ_of a
    exact ⟨x, hx, bqJ a2⟩
theorem ckD_of (h : ckD d = true) {c : Nat} (hc : c < djR d) : djQ d c < djN d ∧ djC d (djQ d c) = c ∧ djI d c < djR d ∧ cn (fun x => djC d x = c) (djN d) = djZ d c := by
  have a := alJ_of h c hc
  simp only [Bool.and_eq_true] at a
  obtain ⟨⟨⟨a1, a2⟩, a3⟩, a4⟩ := a
  exact ⟨bltJ a1, bqJ a2, bltJ a3, by rw [cn_smJ]; exact bqJ a4⟩
theorem pair_lt {a b r : Nat} (ha : a < r) (hb : b < r) : r * a + b < r * r := by
  have : r * a + r ≤ r * r := by rw [← Nat.mul_succ]; exact Nat.mul_le_mul_left r ha
  omega
theorem pair_eq {a b A B r : Nat} (hb : b < r) (hB : B < r) : r * a + b = r * A + B ↔ a = A ∧ b = B := by
  constructor
  · intro e
    have r0 : 0 < r := by omega
    have e1 := congrArg (fun z => z / r) e
    have e2 := congrArg (fun z => z % r) e
    (try dsimp only at e1 e2)
    rw [Nat.mul_add_div r0, Nat.mul_add_div r0, Nat.div_eq_of_lt hb, Nat.div_eq_of_lt hB] at e1
    rw [Nat.mul_add_mod, Nat.mul_add_mod, Nat.mod_eq_of_lt hb, Nat.mod_eq_of_lt hB] at e2
    exact ⟨by omega, e2⟩
  · rintro ⟨rfl, rfl⟩; rfl
theorem ISW.lt (h : ISW D els d tt f q) {k l : Nat} (hk : k < djN d) (hl : l < djN d) : djT d k l < djN d := by
  have e := h.1
  rw [e] at hk hl ⊢
  exact (h.2.2.2.1.2.2.1 k l hk hl).1
theorem ISW.tal (h : ISW D els d tt f q) {l A B : Nat} (hl : l < djN d) (hA : A < djR d) (hB : B < djR d) : cn (fun x => djC d x = A ∧ djC d (djT d (djV d x) l) = B) (djN d) = djB d A B (djC d l) := by
  obtain ⟨kA, kB, kC, kD, kE, kF, kG, kH, kI, kL, kM⟩ := chk_all h.2.2.1
  have a := bqJ (alJ_of kE l hl)
  have hF : ∀ x, x < djN d → djR d * djC d x + djC d (djT d (djV d x) l) < djR d * djR d := fun x hx => pair_lt (ckA_of kA hx).2.2.1 (ckA_of kA (h.lt (ckA_of kA hx).1 hl)).2.2.1
  have b := pkJ_cn 8 (fun x => djR d * djC d x + djC d (djT d (djV d x) l)) (djR d * djR d) (djN d) hF
  have c : smJ (djN d) (fun x => Nat.shiftLeft 1 (Nat.mul 8 (Nat.add (Nat.mul (djR d) (djC d x)) (djC d (djT d (djV d x) l))))) = smJ (djN d) (fun x => 2 ^ (8 * (djR d * djC d x + djC d (djT d (djV d x) l)))) := smJ_ext _ (fun x _ => Nat.one_shiftLeft _)
  rw [c, b] at a
  unfold djB
  rw [btJ_dg, ← a]
  show _ = dgJ 8 _ (djR d * A + B)
  have n120 : djN d ≤ 120 := by
    unfold ckM at kM
    simp only [Bool.and_eq_true] at kM
    exact bleJ kM.2
  rw [dgJ_pk (fun i _ => Nat.lt_of_le_of_lt (cn_le _) (show djN d < 2 ^ 8 by omega)) (pair_lt hA hB)]
  exact cn_ext _ (fun x hx => (pair_eq (ckA_of kA (h.lt (ckA_of kA hx).1 hl)).2.2.1 hB).symm)
theorem ISW.hv (h : ISW D els d tt f q) : ∀ k, k < els.length → djV d k < els.length ∧ djT d k (djV d k) = 0 := fun k hk => by
  rw [← h.1] at hk ⊢
  have a := ckA_of (chk_all h.2.2.1).1 hk
  exact ⟨a.1, a.2.1⟩
theorem ISW.cls (h : ISW D els d tt f q) (hI : IsG els.length (gmt D els)) : CLS els.length (gmt D els) (djR d) (fun z => djC d (q z)) := by
  obtain ⟨kA, kB, kC, kD, kE, kF, kG, kH, kI, kL, kM⟩ := chk_all h.2.2.1
  have e := h.1
  refine h.2.2.2.1.cls hI h.hv (fun k hk => ?_) (fun k x hk hx => ?_) (fun k l hk hl e2 => ?_) (fun c hc => ?_)
  · rw [← e] at hk; exact (ckA_of kA hk).2.2.1
  · rw [← e] at hk hx; exact ckB_of kB hk hx
  · rw [← e] at hk hl ⊢; exact ckC_of kC hk hl e2
  · rw [← e]; exact ⟨djQ d c, (ckD_of kD hc).1, (ckD_of kD hc).2.1⟩
theorem ISW.pr (h : ISW D els d tt f q) (hC : Clo D told els) (hD : D = 2 ∨ D = 3 ∨ D = 5) : pN D els = djP d ∧ sN D els = djS d ∧ isPr (djP d) ∧ djP d < 242 ∧ 2 * els.length + 1 ≤ djP d := by
  obtain ⟨kA, kB, kC, kD, kE, kF, kG, kH, kI, kL, kM⟩ := chk_all h.2.2.1
  obtain ⟨hP, p242⟩ := ckF_of kF
  obtain ⟨eN, eD, hk, hi, ht⟩ := h
  have ho : ∀ k, k < els.length → od els.length (gmt D els) (f k) = ordT (djD d : Int) (djM d (djC d k)) := fun k hk => by
    have fk := (hi.2.1 k hk).1
    have o := hC.od_tr hD fk
    have t1 := hi.2.2.2 k hk
    have t2 := ht k hk
    rw [t2] at t1
    unfold ordT
    rw [← t1, ← eD]
    show _ = (match trO D (gd (els.getD (f k) []) 0) (gd (els.getD (f k) []) 1) with
      | some k => k
      | none => 0)
    rw [o]
  have ckm : lcmJ d (djR d) = djE d := by
    unfold ckM at kM
    simp only [Bool.and_eq_true] at kM
    exact bqJ kM.1.1.1
  have he : expo els.length (gmt D els) els.length = djE d := by
    refine expo_of (fun k hk9 => ?_) (fun x hx => ?_)
    · have qk := hi.2.1 k hk9
      have e := ho (q k) qk.2.1
      rw [qk.2.2.2] at e
      rw [e, ← ckm]
      exact lcm_dv _ (ckA_of kA (by rw [eN]; exact qk.2.1)).2.2.1
    · rw [← ckm]
      refine lcm_of _ (fun A hA => ?_)
      have c := ckD_of kD hA
      have c1 := c.1
      rw [eN] at c1
      have e := ho _ c1
      rw [c.2.1] at e
      rw [← e]
      exact hx _ (hi.2.1 _ c1).1
  rw [eN] at hP
  have hP2 : PR els.length (expo els.length (gmt D els) els.length) (djD d) (djP d) (djS d) := by rw [he]; exact hP
  have k := pN_of eD hP2
  exact ⟨k.1, k.2, hP.1.2.2.1, p242, hP.1.1⟩
theorem ISW.spec (h : ISW D els d tt f q) (p1 : 1 < djP d) : SPEC (djP d) (djR d) (fun a b k => (djB d a b k : Int)) (fun i a => (djO d i a : Int)) (fun i a => (djX d i a : Int)) := by
  obtain ⟨kA, kB, kC, kD, kE, kF, kG, kH, kI, kL, kM⟩ := chk_all h.2.2.1
  refine ⟨fun i hi => ?_, fun i j hi hj => ?_, fun b c hb hc => ?_⟩
  · have a := alJ_of kG i hi
    rw [Bool.and_eq_true] at a
    refine ⟨congrArg (fun (z : Nat) => (z : Int)) (bqJ a.1), fun x hx => ?_, fun x y hx hy => ?_⟩
    · have b := alJ_of a.2 x hx
      rw [Bool.and_eq_true] at b
      have := bltJ b.1
      (try dsimp only)
      omega
    · have b := alJ_of a.2 x hx
      rw [Bool.and_eq_true] at b
      have c := bqJ (alJ_of b.2 y hy)
      (try dsimp only)
      rw [sm_c2, ← Int.natCast_emod, ← Int.natCast_mul, ← Int.natCast_emod]
      exact congrArg (fun (z : Nat) => (z : Int)) c
  · have a := alJ_of (alJ_of kH i hi) j hj
    rw [Bool.and_eq_true] at a
    have c := bqJ a.1
    (try dsimp only)
    rw [sm_c2, dlJ_v, ← Int.natCast_emod, ← Int.natCast_emod]
    exact congrArg (fun (z : Nat) => (z : Int)) c
  · have a := alJ_of (alJ_of kH b hb) c hc
    rw [Bool.and_eq_true] at a
    have c := bqJ a.2
    (try dsimp only)
    rw [sm_c2 (fun k => djO d k b), dlJ_v, ← Int.natCast_emod, ← Int.natCast_emod]
    exact congrArg (fun (z : Nat) => (z : Int)) c
theorem ISW.nm (_h : ISW D els d tt f q) (i : Nat) : sm (fun A => (djO d i A : Int) * ovV (djP d) (djO d i (djI d A) : Int) (djZ d A : Int)) (djR d) = (nmJ d i : Int) := by
  unfold nmJ
  rw [← sm_c2]
  exact sm_ext _ (fun A _ => by (try dsimp only); rw [ovJ_v])
theorem ISW.deg (h : ISW D els d tt f q) {i : Nat} (hi : i < djR d) : IsDeg (djP d) (djN d) (nmJ d i : Int) (djG d i) := by
  obtain ⟨kA, kB, kC, kD, kE, kF, kG, kH, kI, kL, kM⟩ := chk_all h.2.2.1
  have a := alJ_of kI i hi
  simp only [Bool.and_eq_true] at a
  obtain ⟨⟨⟨a1, a2⟩, a3⟩, a4⟩ := a
  refine ⟨bleJ a1, bleJ a2, okJ_iff.mpr a3, fun j j1 j2 h9 => ?_⟩
  have b := alJ_of a4 j j2
  rw [okJ_iff.mp h9, Bool.or_eq_true] at b
  rcases b with b | b
  · have := bltJ b; omega
  · exact absurd b (by decide)
theorem ISW.q0 (h : ISW D els d tt f q) (hC : Clo D told els) : piJ D els d q 0 = 0 ∧ djC d (q 0) = 0 := by
  obtain ⟨kA, kB, kC, kD, kE, kF, kG, kH, kI, kL, kM⟩ := chk_all h.2.2.1
  have hI := hC.isG
  have e : q 0 = 0 := by
    have a := h.2.2.2.1.2.1 0 hI.1
    rw [h.2.2.2.1.1] at a
    exact a.2.2.1
  have c0 : djC d 0 = 0 := by
    unfold ckM at kM
    simp only [Bool.and_eq_true] at kM
    exact bqJ kM.1.1.2
  have e2 : djC d (q 0) = 0 := by rw [e]; exact c0
  exact ⟨by unfold piJ; rw [(h.cls hI).p0 hI]; exact e2, e2⟩
theorem ISW.r12 (h : ISW D els d tt f q) : djR d ≤ 12 := by
  obtain ⟨kA, kB, kC, kD, kE, kF, kG, kH, kI, kL, kM⟩ := chk_all h.2.2.1
  unfold ckM at kM
  simp only [Bool.and_eq_true] at kM
  exact bleJ kM.1.2
/-- the reference's numbers take the list's rows apart, at the group's numbering -/
def HLJ (d : List Nat) (s : Nat → Nat) : Prop := ∃ T', ∀ i j, i < djR d → j < djR d → i ≠ j → sm (fun a => mxZ (djP d) (lcI (djR d * T') 1) a * (djO d i (s a) : Int)) (djR d) % (djP d : Int) ≠ sm (fun a => mxZ (djP d) (lcI (djR d * T') 1) a * (djO d j (s a) : Int)) (djR d) % (djP d : Int)
theorem ISW.gd (h : ISW D els d tt f q) (hC : Clo D told els) (hD : D = 2 ∨ D = 3 ∨ D = 5) (hl : HLJ d (piJ D els d q)) : GD D els := by
  have hI := hC.isG
  obtain ⟨kA, kB, kC, kD, kE, kF, kG, kH, kI, kL, kM⟩ := chk_all h.2.2.1
  obtain ⟨ep, es, hp, h242, h2N⟩ := h.pr hC hD
  have eN := h.1
  refine gd_of hC (CL := djC d) (IV := djV d) (IC := djI d) (Z := djZ d) (rr := djR d) (CP := djB d) (om := fun i a => (djO d i a : Int)) (ev := fun i a => (djX d i a : Int)) h.2.2.2.1 h.hv (h.cls hI) (fun l A B hl9 hA hB => ?_) (fun A hA => ?_) (fun k hk => ?_) (h.q0 hC).2 h.r12 (by rw [ep]; exact hp) (by rw [ep]; exact h242) (by rw [ep]; exact h.spec hp.1) (fun i hi => ?_) (by rw [ep]; exact hl)
  · rw [← eN] at hl9 ⊢; exact h.tal hl9 hA hB
  · rw [← eN]; exact (ckD_of kD hA).2.2.2
  · rw [← eN] at hk; exact (ckA_of kA hk).2.2.2
  · have a := h.deg hi
    refine ⟨djG d i, a.1, a.2.1, ?_⟩
    rw [ep]
    (try dsimp only)
    rw [h.nm i, ← eN]
    exact a.2.2.1
/-! ===== the graph ===== -/
theorem ISW.conn (h : ISW D els d tt f q) (hC : Clo D told els) (hD : D = 2 ∨ D = 3 ∨ D = 5) (hG : GD D els) : CONN D els := by
  have hI := hC.isG
  obtain ⟨kA, kB, kC, kD, kE, kF, kG, kH, kI, kL, kM⟩ := chk_all h.2.2.1
  obtain ⟨ep, es, hp, h242, h2N⟩ := h.pr hC hD
  have eN := h.1
  have hcl := h.cls hI
  have er : rG D els = djR d := hcl.r hI
  have hq := hcl.prm hI
  have q0 := (h.q0 hC).1
  have p1 := hp.1
  have hcp : ∀ a b k, a < rG D els → b < rG D els → k < rG D els → cG D els a b k = (djB d (piJ D els d q a) (piJ D els d q b) (piJ D els d q k) : Int) := fun a b k ha hb hk => by
    show (cplN els.length (gmt D els) a b k : Int) = _
    rw [iso_cpl h.2.2.2.1 hI h.hv hcl (CP := djB d) (fun l A B hl hA hB => by rw [← eN] at hl ⊢; exact h.tal hl hA hB) ha hb hk]
  have hS := h.spec p1
  rw [← er, ← ep] at hS
  have hS2 := SPEC.prm (CP := fun a b k => (djB d a b k : Int)) hq q0 hcp hS
  obtain ⟨ev, hSp⟩ := hG.sp
  have hpp : isPr (pN D els) := by rw [ep]; exact hp
  have hp242 : pN D els < 242 := by rw [ep]; exact h242
  have hp2N : 2 * els.length + 1 ≤ pN D els := by rw [ep]; exact h2N
  have r0 : 0 < rG D els := rsN_pos hI
  obtain ⟨q9, s1, s2⟩ := srt_ex (ltN_ord hG hI hpp hp242 hp2N) (rG D els) (Nat.le_refl _)
  have hpi : Prm (rG D els) (piN D els) := (Classical.epsilon_spec (p := fun q => Prm (rG D els) q ∧ Srt (ltN D els) (rG D els) q) ⟨q9, s1, s2⟩).1
  -- each character is one of the list's
  have hex : ∀ j, j < rG D els → ∃ i, i < rG D els ∧ ∀ a, a < rG D els → omN D els (piN D els j) a = (djO d i (piJ D els d q a) : Int) := fun j hj => by
    obtain ⟨i, hi, e⟩ := hS2.all hpp hp242 r0 (hSp.1 _ (hpi.1 j hj))
    exact ⟨i, hi, e⟩
  obtain ⟨sg, hsg⟩ : ∃ sg : Nat → Nat, ∀ j, j < rG D els → sg j < rG D els ∧ ∀ a, a < rG D els → omN D els (piN D els j) a = (djO d (sg j) (piJ D els d q a) : Int) :=
    ⟨fun j => theN (fun i => i < rG D els ∧ ∀ a, a < rG D els → omN D els (piN D els j) a = (djO d i (piJ D els d q a) : Int)), fun j hj => theN_of (hex j hj)⟩
  have sinj : ∀ i j, i < rG D els → j < rG D els → sg i = sg j → i = j := fun i j hi hj e => by
    refine hpi.2.1 i j hi hj (hSp.inj hpp.1 (hpi.1 i hi) (hpi.1 j hj) (fun a ha => ?_))
    rw [(hsg i hi).2 a ha, (hsg j hj).2 a ha, e]
  have ssur : ∀ y, y < rG D els → ∃ x, x < rG D els ∧ sg x = y := fun y hy => srj_of (fun j hj => (hsg j hj).1) sinj hy
  have hpl : ∀ a, a < rG D els → piJ D els d q a < djR d := fun a ha => by rw [← er]; exact hq.1 a ha
  have hz : ∀ a, a < rG D els → zG D els a = djZ d (piJ D els d q a) := fun a ha => iso_z h.2.2.2.1 hI hcl (fun A hA => by rw [← eN]; exact (ckD_of kD hA).2.2.2) ha
  have hic : ∀ a, a < rG D els → piJ D els d q (iG D els a) = djI d (piJ D els d q a) := fun a ha => iso_ic h.2.2.2.1 hI h.hv hcl (fun k hk => by rw [← eN] at hk; exact (ckA_of kA hk).2.2.2) ha
  have hdg : ∀ j, j < rG D els → dgN D els (piN D els j) = djG d (sg j) := fun j hj => by
    have c := hsg j hj
    have en : nmN D els (omN D els (piN D els j)) = (nmJ d (sg j) : Int) := by
      rw [← h.nm (sg j), ← er]
      have e2 := iso_nrm (Z := djZ d) (IC := djI d) h.2.2.2.1 hI h.hv hcl (fun A hA => by rw [← eN]; exact (ckD_of kD hA).2.2.2) (fun k hk => by rw [← eN] at hk; exact (ckA_of kA hk).2.2.2) (djP d) (fun A => (djO d (sg j) A : Int))
      rw [← er] at e2
      rw [← e2]
      unfold nmN
      rw [ep]
      exact sm_ext _ (fun a ha => by
        (try dsimp only)
        rw [c.2 a ha, c.2 _ (ivc_lt hI ha)])
    have a1 := dgV_s (hG.2.2.1 _ (hSp.1 _ (hpi.1 j hj)))
    have a2 := h.deg (i := sg j) (by rw [← er]; exact c.1)
    show dgV (pN D els) els.length (nmN D els (omN D els (piN D els j))) = _
    rw [en, ep] at a1 ⊢
    rw [eN] at a2
    apply Nat.le_antisymm
    · exact Nat.not_lt.mp (fun h9 => a1.2.2.2 _ a2.1 h9 a2.2.2.1)
    · exact Nat.not_lt.mp (fun h9 => a2.2.2.2 _ a1.1 h9 a1.2.2.1)
  have hvl : ∀ j a, j < rG D els → a < rG D els → vlC D els j a = (chJ d (sg j) (piJ D els d q a) : Int) := fun j a hj ha => by
    show ovV (pN D els) (((dgN D els (piN D els j) : Int) * omN D els (piN D els j) a) % (pN D els : Int)) (zG D els a : Int) = _
    rw [hdg j hj, (hsg j hj).2 a ha, hz a ha, ep, ← Int.natCast_mul, ← Int.natCast_emod, ovJ_v]
    rfl
  have hnt : ∀ a, a < rG D els → natN D els a = (ntJ d (piJ D els d q a) : Int) := fun a ha => by
    have l := lsN_s hI ha
    have e1 : tra els (lsN els.length (gmt D els) a) = djM d (piJ D els d q a) := by
      have k := h.2.2.2.1.2.1 _ l.2.1
      have t1 := h.2.2.2.1.2.2.2 _ k.2.1
      rw [k.2.2.2, h.2.2.2.2 _ k.2.1] at t1
      exact t1
    have w0 : wG D els a 0 = (djM d (piJ D els d q a)).1 := congrArg Prod.fst e1
    have w1 : wG D els a 1 = (djM d (piJ D els d q a)).2 := congrArg Prod.snd e1
    unfold natN ntJ
    rw [w0, w1, ep, es]
    have r := em_rng (p := djP d) (by omega) ((djM d (piJ D els d q a)).1 + (djS d : Int) * (djM d (piJ D els d q a)).2)
    rw [← ovJ_v, Int.toNat_of_nonneg r.1]
    rfl
  have hwa : ∀ a b, a < rG D els → b < rG D els → waN D els a b = (waJ d (sg a) (sg b) : Int) := fun a b ha hb => by
    show ovV (pN D els) (sm (fun c => (zG D els c : Int) * ((natN D els c * vlC D els a c) % (pN D els : Int) * vlC D els b (iG D els c))) (rG D els) % (pN D els : Int)) (els.length : Int) = _
    have e1 : sm (fun c => (zG D els c : Int) * ((natN D els c * vlC D els a c) % (pN D els : Int) * vlC D els b (iG D els c))) (rG D els) = (smJ (djR d) (fun A => Nat.mul (djZ d A) (Nat.mul (Nat.mod (Nat.mul (ntJ d A) (chJ d (sg a) A)) (djP d)) (chJ d (sg b) (djI d A)))) : Int) := by
      refine Eq.trans ?_ (smJ_sm _ _)
      rw [← er]
      refine Eq.trans ?_ (sm_prm hq (fun A => ((Nat.mul (djZ d A) (Nat.mul (Nat.mod (Nat.mul (ntJ d A) (chJ d (sg a) A)) (djP d)) (chJ d (sg b) (djI d A))) : Nat) : Int)))
      refine sm_ext _ (fun c hc => ?_)
      (try dsimp only)
      rw [hz c hc, hnt c hc, hvl a c ha hc, hvl b _ hb (ivc_lt hI hc), hic c hc, ep]
      show _ = ((djZ d (piJ D els d q c) * (ntJ d (piJ D els d q c) * chJ d (sg a) (piJ D els d q c) % djP d * chJ d (sg b) (djI d (piJ D els d q c))) : Nat) : Int)
      rw [Int.natCast_mul, Int.natCast_mul, Int.natCast_emod, Int.natCast_mul]
    rw [e1, ep, ← Int.natCast_emod, ← eN, ovJ_v]
    rfl
  have key : ∀ n a b, a < rG D els → b < rG D els → djF d (sg a) (sg b) = n → rch D els a n b := by
    intro n
    induction n with
    | zero =>
      intro a b ha hb e
      have k := alJ_of (alJ_of kL (sg a) (by rw [← er]; exact (hsg a ha).1)) (sg b) (by rw [← er]; exact (hsg b hb).1)
      rw [Bool.and_eq_true, e] at k
      exact sinj b a hb ha (bqJ k.2).symm
    | succ n ih =>
      intro a b ha hb e
      have k := alJ_of (alJ_of kL (sg a) (by rw [← er]; exact (hsg a ha).1)) (sg b) (by rw [← er]; exact (hsg b hb).1)
      rw [Bool.and_eq_true, e] at k
      have k2 : (Nat.blt (djL d (sg a) (sg b)) (djR d) && Nat.beq (Nat.add (djF d (sg a) (djL d (sg a) (sg b))) 1) (n + 1) && Nat.blt 0 (waJ d (djL d (sg a) (sg b)) (sg b))) = true := k.2
      rw [Bool.and_eq_true, Bool.and_eq_true] at k2
      obtain ⟨⟨b1, b2⟩, b3⟩ := k2
      obtain ⟨c, hc, ec⟩ := ssur (djL d (sg a) (sg b)) (by rw [er]; exact bltJ b1)
      rw [← ec] at b2 b3
      have b4 : djF d (sg a) (sg c) + 1 = n + 1 := bqJ b2
      refine ⟨c, hc, ih a c ha hc (by omega), ?_⟩
      rw [hwa c b hc hb]
      have := bltJ b3
      omega
  intro a b ha hb
  have k := alJ_of (alJ_of kL (sg a) (by rw [← er]; exact (hsg a ha).1)) (sg b) (by rw [← er]; exact (hsg b hb).1)
  rw [Bool.and_eq_true] at k
  exact ⟨djF d (sg a) (sg b), bleJ k.1, key _ a b ha hb rfl⟩
end SI2
