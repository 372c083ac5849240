/-! ===== the table of a list's group as words ===== -/
theorem row_tt (S : List (Nat × Nat)) (tt : Nat → Nat) : ∀ (G : List (Nat × Bool)) (R : List Nat), (∀ i, i < R.length → R.getD i 0 = tt i) →
    (∀ l, l < G.length → (G.getD l (0, false)).1 < R.length + l ∧ tt (R.length + l) = if (G.getD l (0, false)).2 then (S.getD (tt (G.getD l (0, false)).1) (0, 0)).2 else (S.getD (tt (G.getD l (0, false)).1) (0, 0)).1) →
    ∀ i, i < R.length + G.length → (G.foldl (fun R q => R ++ [if q.2 then (S.getD (R.getD q.1 0) (0, 0)).2 else (S.getD (R.getD q.1 0) (0, 0)).1]) R).getD i 0 = tt i := by
  intro G
  induction G with
  | nil => intro R h _ i hi; exact h i hi
  | cons q G ih =>
    intro R h hG i hi
    have h0 := hG 0 (by show 0 < G.length + 1; omega)
    have e0 : (q :: G).getD 0 (0, false) = q := rfl
    rw [e0] at h0
    have hv : (if q.2 then (S.getD (R.getD q.1 0) (0, 0)).2 else (S.getD (R.getD q.1 0) (0, 0)).1) = tt R.length := by
      rw [h q.1 (by omega)]; exact h0.2.symm
    have hl : (R ++ [if q.2 then (S.getD (R.getD q.1 0) (0, 0)).2 else (S.getD (R.getD q.1 0) (0, 0)).1]).length = R.length + 1 := by rw [List.length_append]; rfl
    refine ih _ (fun j hj => ?_) (fun l hl2 => ?_) i ?_
    · rw [hl] at hj
      by_cases e : j < R.length
      · rw [getD_lt9 e]; exact h j e
      · have : j = R.length := by omega
        subst this
        rw [getD_end9]; exact hv
    · rw [hl]
      have k := hG (l + 1) (by show l + 1 < G.length + 1; omega)
      have e1 : (q :: G).getD (l + 1) (0, false) = G.getD l (0, false) := rfl
      rw [e1, show R.length + (l + 1) = R.length + 1 + l by omega] at k
      exact k
    · rw [hl]
      have : i < R.length + (G.length + 1) := hi
      omega
noncomputable def ckT (d : List Nat) (G : List (Nat × Bool)) (S : List (Nat × Nat)) : Bool :=
  Nat.beq (Nat.add G.length 1) (djN d) && alJ (djN d) (fun k => Nat.beq (S.getD k (0, 0)).1 (btJ (djK d 20) k) && Nat.beq (S.getD k (0, 0)).2 (btJ (djK d 21) k)) &&
  alJ G.length (fun l => Nat.beq (G.getD l (0, false)).1 (btJ (djK d 22) l) && (bif (G.getD l (0, false)).2 then biJ (djK d 23) l else !(biJ (djK d 23) l)) && Nat.ble (btJ (djK d 22) l) l) &&
  alJ (djN d) (fun k => Nat.beq (djT d k 0) k && alJ G.length (fun l => Nat.blt (djT d k (btJ (djK d 22) l)) (djN d) && Nat.beq (djT d k (Nat.add l 1)) (bif biJ (djK d 23) l then btJ (djK d 21) (djT d k (btJ (djK d 22) l)) else btJ (djK d 20) (djT d k (btJ (djK d 22) l)))))
theorem ckT_of {d : List Nat} {G : List (Nat × Bool)} {S : List (Nat × Nat)} (h : ckT d G S = true) : G.length + 1 = djN d ∧ ∀ k l, k < djN d → l < djN d → tabG S G k l = djT d k l := by
  unfold ckT at h
  simp only [Bool.and_eq_true] at h
  obtain ⟨⟨⟨h1, h2⟩, h3⟩, h4⟩ := h
  have eN : G.length + 1 = djN d := bqJ h1
  refine ⟨eN, fun k l hk hl => ?_⟩
  have a := alJ_of h4 k hk
  rw [Bool.and_eq_true] at a
  have z := row_tt S (djT d k) G [k] (fun i hi => by
    have : i = 0 := by simp at hi; omega
    subst this
    exact (bqJ a.1).symm) (fun l hl9 => ?_) l (by show l < 1 + G.length; omega)
  · exact z
  · have b := alJ_of h3 l hl9
    simp only [Bool.and_eq_true] at b
    obtain ⟨⟨b1, b2⟩, b3⟩ := b
    have c := alJ_of a.2 l hl9
    rw [Bool.and_eq_true] at c
    have s := alJ_of h2 _ (bltJ c.1)
    rw [Bool.and_eq_true] at s
    have e1 := bqJ b1
    have e2 := bqJ s.1
    have e3 := bqJ s.2
    have e4 := bqJ c.2
    rw [e1]
    refine ⟨by show btJ (djK d 22) l < 1 + l; have := bleJ b3; omega, ?_⟩
    show djT d k (1 + l) = _
    rw [Nat.add_comm 1 l]
    refine Eq.trans e4 ?_
    rw [e2, e3]
    cases hq : (G.getD l (0, false)).2
    · rw [hq] at b2
      have b4 : biJ (djK d 23) l = false := by
        cases hb : biJ (djK d 23) l
        · rfl
        · rw [hb] at b2; exact absurd b2 (by decide)
      rw [b4]; rfl
    · rw [hq] at b2
      have b4 : biJ (djK d 23) l = true := b2
      rw [b4]; rfl
noncomputable def ckR (d : List Nat) (s : P2 × P2 × P2) (G : List (Nat × Bool)) : Bool := alJ (djN d) (fun k => decide (((ths (djD d : Int) s.1 s.2.1 s.2.2 G).getD k d8).1 = djM d (djC d k)))
theorem isw_std {D : Int} {told els : List (List Int)} {d : List Nat} {s : P2 × P2 × P2} {G : List (Nat × Bool)} {S : List (Nat × Nat)} (hi : isoS D els.length (gmt D els) (tra els) s G S) (hD : D = (djD d : Int)) (hk : chkJ d = true) (hT : ckT d G S = true) (hR : ckR d s G = true) : ∃ tt f q, ISW D els d tt f q := by
  obtain ⟨eN, hT2⟩ := ckT_of hT
  obtain ⟨e, f, q, h⟩ := ISO.two hi
  have eN2 : djN d = els.length := by rw [← eN]; exact e.symm
  refine ⟨_, f, q, eN2, hD, hk, ⟨h.1, h.2.1, fun k l hk9 hl9 => ?_, h.2.2.2⟩, fun k hk9 => ?_⟩
  · rw [← hT2 k l (by omega) (by omega)]
    exact h.2.2.1 k l hk9 hl9
  · have a := alJ_of hR k (by omega)
    (try dsimp only)
    rw [hD]
    exact of_decide_eq_true a
theorem ISW.prm {D : Int} {told els : List (List Int)} {tt : Nat → P2} {f q : Nat → Nat} {d : List Nat} (h : ISW D els d tt f q) (hC : Clo D told els) : Prm (djR d) (piJ D els d q) := by
  have hI := hC.isG
  have e := (h.cls hI).r hI
  have p := (h.cls hI).prm hI
  rw [e] at p
  exact p
theorem std_types {D : Int} {told els : List (List Int)} {d : List Nat} {s : P2 × P2 × P2} {G : List (Nat × Bool)} {S : List (Nat × Nat)} {WW K : Nat} (hC : Clo D told els) (hD9 : D = 2 ∨ D = 3 ∨ D = 5) (hi : isoS D els.length (gmt D els) (tra els) s G S) (hD : D = (djD d : Int)) (hk : chkJ d = true) (hT : ckT d G S = true) (hR : ckR d s G = true) (hW : ckW d WW K = true) (hp : ptJ (leafJ (djP d) (djR d) WW K) (djR d) (djR d - 1) 1 1 0 = true) : GD D els ∧ CONN D els := by
  obtain ⟨tt, f, q, h⟩ := isw_std (told := told) hi hD hk hT hR
  obtain ⟨ep, es, hpr, h242, h2N⟩ := h.pr hC hD9
  have hI := hC.isG
  have r0 : 0 < djR d := by
    have := rsN_pos hI
    have e := (h.cls hI).r hI
    omega
  have p1 := hpr.1
  have g := h.gd hC hD9 (perm_ok ⟨by omega, h242⟩ h.r12 r0 hW (h.prm hC) (h.q0 hC).1 hp)
  exact ⟨g, h.conn hC hD9 g⟩
