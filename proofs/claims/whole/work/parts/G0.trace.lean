/-! ===== traces: what holds of them in a group ===== -/
abbrev P2 : Type := Int × Int
def sr (D : Int) (p q : P2) : P2 := (p.1 * q.1 + D * (p.2 * q.2), p.1 * q.2 + p.2 * q.1)
/-- twice the sum is the product -/
def FEq (D : Int) (a b p q : P2) : Prop := 2 * a.1 + 2 * b.1 = (sr D p q).1 ∧ 2 * a.2 + 2 * b.2 = (sr D p q).2
/-- a group with traces -/
def TG (D : Int) (N : Nat) (m : Nat → Nat → Nat) (t : Nat → P2) : Prop := IsG N m ∧ t 0 = (4, 0) ∧ (∀ k, k < N → t k = (4, 0) → k = 0) ∧ ∀ k l, k < N → l < N → FEq D (t (m k l)) (t (m k (iv N m l))) (t k) (t l)
def tra (els : List (List Int)) (k : Nat) : P2 := (gd (els.getD k []) 0, gd (els.getD k []) 1)
theorem iv_iv {N : Nat} {m : Nat → Nat → Nat} (h : IsG N m) {a : Nat} (ha : a < N) : iv N m (iv N m a) = a := (iv_un h (iv_lt h ha) ha (iv_l h ha)).symm
theorem iv_mul {N : Nat} {m : Nat → Nat → Nat} (h : IsG N m) {a b : Nat} (ha : a < N) (hb : b < N) : iv N m (m a b) = m (iv N m b) (iv N m a) := by
  have ia := iv_lt h ha
  have ib := iv_lt h hb
  have hi := h.2.1 _ _ ib ia
  refine (iv_un h (h.2.1 _ _ ha hb) hi ?_).symm
  rw [h.2.2.2.1 a b _ ha hb hi, ← h.2.2.2.1 b _ _ hb ib ia, iv_r h hb, (h.2.2.1 _ ia).1, iv_r h ha]
theorem iv_0 {N : Nat} {m : Nat → Nat → Nat} (h : IsG N m) : iv N m 0 = 0 := (iv_un h h.1 h.1 (h.2.2.1 0 h.1).1).symm
theorem Clo.tg {D : Int} {told els : List (List Int)} (hC : Clo D told els) (hD : 1 ≤ D) : TG D els.length (gmt D els) (tra els) := by
  have hI := hC.isG
  have hT := hC.2.2.2.2.1
  refine ⟨hI, ?_, fun k hk e => ?_, fun k l hk hl => ?_⟩
  · unfold tra
    rw [hC.2.2.1]; rfl
  · have e0 : gd (els.getD k []) 0 = 4 := congrArg Prod.fst e
    have e1 : gd (els.getD k []) 1 = 0 := congrArg Prod.snd e
    have := one_of (hT k hk) hD e0 e1
    exact getD_inj hC.2.2.2.1 hk hC.2.1 (by rw [this, hC.2.2.1])
  · have il := iv_lt hI hl
    have hy := hI.2.1 _ _ hk il
    have e : gmt D els (gmt D els k (iv els.length (gmt D els) l)) l = k := by
      rw [hI.2.2.2.1 _ _ _ hk il hl, iv_l hI hl, (hI.2.2.1 _ hk).2]
    have h1 := (hC.gm hy hl).2
    rw [e] at h1
    have r := tr_rec (hT l hl) h1 (hC.gm hk hl).2
    unfold FEq sr tra
    dsimp only
    have c1 : gd (els.getD l []) 0 * gd (els.getD k []) 0 = gd (els.getD k []) 0 * gd (els.getD l []) 0 := Int.mul_comm _ _
    have c2 : D * gd (els.getD l []) 1 * gd (els.getD k []) 1 = D * (gd (els.getD k []) 1 * gd (els.getD l []) 1) := by rw [Int.mul_assoc, Int.mul_comm (gd (els.getD l []) 1)]
    have c3 : gd (els.getD l []) 0 * gd (els.getD k []) 1 = gd (els.getD k []) 1 * gd (els.getD l []) 0 := Int.mul_comm _ _
    have c4 : gd (els.getD l []) 1 * gd (els.getD k []) 0 = gd (els.getD k []) 0 * gd (els.getD l []) 1 := Int.mul_comm _ _
    rw [c1, c2, c3, c4] at r
    omega
section SG0
variable {D : Int} {N : Nat} {m : Nat → Nat → Nat} {t : Nat → P2}
theorem P2_ext {p q : P2} (h1 : p.1 = q.1) (h2 : p.2 = q.2) : p = q := Prod.ext h1 h2
theorem sr_cm (D : Int) (p q : P2) : sr D p q = sr D q p := by
  unfold sr
  refine P2_ext ?_ ?_
  · dsimp only; rw [Int.mul_comm p.1, Int.mul_comm p.2]
  · dsimp only; rw [Int.mul_comm p.1, Int.mul_comm p.2, Int.add_comm]
theorem TG.ivt (h : TG D N m t) {k : Nat} (hk : k < N) : t (iv N m k) = t k := by
  have hI := h.1
  have f := h.2.2.2 0 k hI.1 hk
  rw [(hI.2.2.1 k hk).1, (hI.2.2.1 _ (iv_lt hI hk)).1, h.2.1] at f
  unfold FEq sr at f
  dsimp only at f
  refine P2_ext ?_ ?_ <;> omega
theorem TG.cm (h : TG D N m t) {k l : Nat} (hk : k < N) (hl : l < N) : t (m k l) = t (m l k) := by
  have hI := h.1
  have ik := iv_lt hI hk
  have il := iv_lt hI hl
  have f := h.2.2.2 k l hk hl
  have f2 := h.2.2.2 l k hl hk
  have e : t (m l (iv N m k)) = t (m k (iv N m l)) := by
    rw [← h.ivt (hI.2.1 _ _ hk il), iv_mul hI hk il, iv_iv hI hl]
  rw [e] at f2
  unfold FEq at f f2
  rw [sr_cm D (t l) (t k)] at f2
  refine P2_ext ?_ ?_ <;> omega
end SG0
