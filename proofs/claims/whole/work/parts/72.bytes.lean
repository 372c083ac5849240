/-! ===== bytes, refusals, the past ===== -/
theorem and255 (y : Int32) : y.toInt8.toInt32 &&& 255 = y &&& 255 := by
  apply Int32.toBitVec_inj.1
  apply BitVec.eq_of_getLsbD_eq
  intro i hi
  have h255 : ∀ i, i < 32 → (255#32).getLsbD i = decide (i < 8) := by decide
  have e : (Int32.toBitVec 255) = 255#32 := rfl
  simp only [Int32.toBitVec_and, BitVec.getLsbD_and, e, h255 i hi]
  by_cases h8 : i < 8
  · have : (y.toInt8.toInt32.toBitVec).getLsbD i = y.toBitVec.getLsbD i := by
      have e2 : y.toInt8.toInt32.toBitVec = (y.toBitVec.signExtend 8).signExtend 32 := by simp
      rw [e2, BitVec.getLsbD_signExtend]
      simp [h8, hi, BitVec.getLsbD_signExtend, BitVec.getElem_signExtend]
    rw [this]
  · simp [h8]
theorem i2b_and (x : Int) : b_iandq (b_i2bq x) 255 = b_iandq x 255 := by
  unfold b_iandq b_i2bq
  rw [Int32.ofInt_toInt]
  exact congrArg Int32.toInt (and255 (Int32.ofInt x))
theorem i2b_rng (x : Int) : -128 ≤ b_i2bq x ∧ b_i2bq x ≤ 127 := by
  unfold b_i2bq
  rw [Int8.toInt_toInt32]
  have h1 := Int8.le_toInt (Int32.ofInt x).toInt8
  have h2 := Int8.toInt_lt (Int32.ofInt x).toInt8
  omega
/-- a byte of a number -/
def byt (v s : Int) : Int := b_iandq (b_ishrq v s) 255
def byts (v : Int) : List Int := [byt v 24, byt v 16, byt v 8, byt v 0]
def TapeC (σ : Sg) (B : List Int) : Prop := gI σ 17 1 = (B.length : Int) ∧ B.length ≤ 400 ∧ ∀ i, i < B.length → b_iandq (gI σ 18 i) 255 = gd B i
theorem gd_app {B C : List Int} {i : Nat} : gd (B ++ C) i = if i < B.length then gd B i else gd C (i - B.length) := by
  unfold gd
  rw [List.getD_eq_getElem?_getD, List.getD_eq_getElem?_getD, List.getD_eq_getElem?_getD]
  split
  · rename_i h; rw [List.getElem?_append_left h]
  · rename_i h; rw [List.getElem?_append_right (by omega)]
section S72
variable {E : Ev} {σ : Sg} {Q : NO → Sg → Prop} {g : Sg} {c t : Nat}
theorem TapeC.fr {W : Nat → Nat → Prop} {V : Nat → Prop} {τ : Sg} {B : List Int} (h : TapeC σ B) (k : Fr W V σ τ) (w : (∀ j, ¬ W 18 j) ∧ ¬ W 17 1) : TapeC τ B :=
  ⟨(k.i (by omega) w.2).trans h.1, h.2.1, fun i hi => by rw [k.i (by omega) (w.1 i)]; exact h.2.2 i hi⟩
abbrev frB : Nat → Nat → Prop := fun a _ => a = 17 ∨ a = 18
theorem take_1 {B : List Int} {x y : Int} (hL : Lay LC g c t σ) (hB : TapeC σ B) (hl : B.length < 400) (hy : 0 ≤ y ∧ y ≤ 24)
    (h : ∀ τ, Lay LC g c t τ → Fr frB (fun _ => False) σ τ → TapeC τ (B ++ [byt x y]) → GG E mX10_take 3 [some (vr 17), some (vi x), some (vi (y + (-8)))] [] τ 0 0 Q) : GG E mX10_take 3 [some (vr 17), some (vi x), some (vi y)] [] σ 0 0 Q := by
  refine B_X10_take_3 hL ?_
  rw [hB.1]
  refine ⟨fun h => absurd h (by omega), fun _ => ⟨fun h => absurd h (by omega), fun _ => ⟨⟨by omega, by omega⟩, i2b_rng _, fun τ4 e4 => ?_⟩⟩⟩
  rw [show ((B.length : Nat) : Int).toNat = B.length by omega] at e4
  have q4 : gI τ4 17 1 = (B.length : Int) := by rw [e4, gI_sI, if_neg (by omega)]; exact hB.1
  rw [q4]
  refine ⟨⟨by omega, by omega⟩, fun τ6 e6 => ⟨⟨by omega, by omega⟩, fun hL6 => ?_⟩⟩
  subst e6 e4
  have hlen : (B ++ [byt x y]).length = B.length + 1 := by simp
  refine h _ hL6 (((Fr.refl σ).sI (.inr rfl)).sI (.inl rfl)) ⟨by rw [gI_sI, if_pos ⟨rfl, rfl⟩, hlen]; rfl, by omega, fun i hi => ?_⟩
  rw [gI_sI, if_neg (by omega), gI_sI, gd_app]
  by_cases hil : i < B.length
  · rw [if_neg (by omega), if_pos hil]; exact hB.2.2 i hil
  · have : i = B.length := by omega
    subst this
    rw [if_pos ⟨rfl, rfl⟩, if_neg hil, Nat.sub_self, i2b_and]
    rfl
theorem S_take {B : List Int} {x : Int} (hL : Lay LC g c t σ) (hB : TapeC σ B) (hl : B.length + 4 ≤ 400)
    (h : ∀ τ, Lay LC g c t τ → Fr frB (fun _ => False) σ τ → TapeC τ (B ++ byts x) → Q (.inl none) τ) : CC E mX10_take [vr 17, vi x] σ Q := by
  refine C_X10_take (B_X10_take_0 hL (fun _ => ?_))
  refine take_1 (y := 24) hL hB (by omega) (by omega) (fun τ1 hL1 hF1 hB1 => ?_)
  refine take_1 (y := 16) hL1 hB1 (by simp; omega) (by omega) (fun τ2 hL2 hF2 hB2 => ?_)
  refine take_1 (y := 8) hL2 hB2 (by simp; omega) (by omega) (fun τ3 hL3 hF3 hB3 => ?_)
  refine take_1 (y := 0) hL3 hB3 (by simp; omega) (by omega) (fun τ4 hL4 hF4 hB4 => ?_)
  refine B_X10_take_3 hL4 ⟨fun _ _ => h τ4 hL4 (((hF1.trans hF2).trans hF3).trans hF4) ?_, fun h9 => absurd (by omega) h9⟩
  simpa [byts] using hB4
/-- refusals: k one more -/
def bmp (R : Nat → Int) (k : Nat) : Nat → Int := ups R k (R k + 1)
def RfC (σ : Sg) (R : Nat → Int) : Prop := ∀ i, i < 3 → gI σ 157 i = R i
theorem RfC.bmp {R : Nat → Int} (h : RfC σ R) {k : Nat} (hk : k < 3) : RfC (sI σ 157 k (gI σ 157 k + 1)) (bmp R k) := fun i hi => by
  rw [gI_sI]
  show _ = ups _ _ _ _
  unfold ups
  by_cases hik : i = k
  · rw [if_pos ⟨rfl, hik⟩, if_pos hik, h k hk]
  · rw [if_neg (fun h9 => hik h9.2), if_neg hik]; exact h i hi
theorem RfC.fr {W : Nat → Nat → Prop} {V : Nat → Prop} {τ : Sg} {R : Nat → Int} (h : RfC σ R) (k : Fr W V σ τ) (w : ∀ j, ¬ W 157 j) : RfC τ R :=
  fun i hi => (k.i (by omega) (w i)).trans (h i hi)
abbrev frR : Nat → Nat → Prop := fun a _ => a = 157
theorem fr_jk {W : Nat → Nat → Prop} {V : Nat → Prop} {τ : Sg} (h : Fr W V σ τ) (d : Nat) : Fr W V σ (jk τ d) := h
theorem RfC_jk {R : Nat → Int} (h : RfC σ R) (d : Nat) : RfC (jk σ d) R := h
/-- needIndex: goes on, or throws 0 -/
theorem S_needIndex {k n : Int} {R : Nat → Int} (hL : Lay LC g c t σ) (hR : RfC σ R) (hB : inR (R 0 + 1)) (h1 : 0 ≤ k → k < n → Q (.inl none) σ)
    (h0 : ∀ τ, (k < 0 ∨ n ≤ k) → Lay LC g c t τ → Fr frR (fun _ => False) σ τ → RfC τ (bmp R 0) → Q (.inr 0) τ) : CC E mX11_needIndex [vr 16, vi k, vi n] σ Q := by
  have e0 := hR 0 (by omega)
  refine C_X11_needIndex (B_X11_needIndex_0 hL ⟨fun h => ⟨by rw [e0]; exact hB, fun τ2 e2 hL2 => ⟨by decide, by decide, fun d9 => ?_⟩⟩, fun h => ⟨fun h2 _ => h1 (by omega) h2, fun h2 => ⟨by rw [e0]; exact hB, fun τ2 e2 hL2 => ⟨by decide, by decide, fun d9 => ?_⟩⟩⟩⟩)
  all_goals
    subst e2
    exact h0 _ (by omega) (hL2.jk9 d9) (fr_jk (Fr_of1 (W := frR) (V := fun _ => False) rfl) d9) (RfC_jk (hR.bmp (by decide)) d9)
theorem S_needBetween {k a b : Int} {R : Nat → Int} (hL : Lay LC g c t σ) (hR : RfC σ R) (hB : inR (R 1 + 1)) (h1 : a ≤ k → k ≤ b → Q (.inl none) σ)
    (h0 : ∀ τ, (k < a ∨ b < k) → Lay LC g c t τ → Fr frR (fun _ => False) σ τ → RfC τ (bmp R 1) → Q (.inr 1) τ) : CC E mX11_needBetween [vr 16, vi k, vi a, vi b] σ Q := by
  have e0 := hR 1 (by omega)
  refine C_X11_needBetween (B_X11_needBetween_0 hL ⟨fun h => ⟨by rw [e0]; exact hB, fun τ2 e2 hL2 => ⟨by decide, by decide, fun d9 => ?_⟩⟩, fun h => ⟨fun h2 _ => h1 (by omega) h2, fun h2 => ⟨by rw [e0]; exact hB, fun τ2 e2 hL2 => ⟨by decide, by decide, fun d9 => ?_⟩⟩⟩⟩)
  all_goals
    subst e2
    exact h0 _ (by omega) (hL2.jk9 d9) (fr_jk (Fr_of1 (W := frR) (V := fun _ => False) rfl) d9) (RfC_jk (hR.bmp (by decide)) d9)
end S72
