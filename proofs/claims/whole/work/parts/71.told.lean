/-! ===== told turns: begin, tell, copyTold; the past; takeTrial ===== -/
/-- what was told ahead of the latest acts lies there -/
def PastC (σ : Sg) (D : Int) (past : List (List (List Int))) : Prop :=
  gI σ 21 2 = (past.length : Int) ∧ past.length ≤ 8 ∧ ∀ i, i < past.length → gI σ 23 i = ((past.getD i []).length : Int) ∧ (past.getD i []).length ≤ 4 ∧ ∀ u, u < (past.getD i []).length → isTL D ((past.getD i []).getD u []) ∧ ∀ j, j < 8 → gI σ 22 (32 * i + 8 * u + j) = gd ((past.getD i []).getD u []) j
section S71
variable {E : Ev} {σ : Sg} {Q : NO → Sg → Prop} {g : Sg} {c t : Nat}
theorem Lay.jk9 {Y : LY} (hL : Lay Y g c t σ) (d : Nat) (hy : (∀ q ∈ yR Y, q.2.1 ≤ yh Y) ∧ 16 < yh Y := by decide +kernel) : Lay Y g c t (jk σ d) := by
  have hz : yh Y ≤ gz σ := hL.2.2.2.2.2.2.2.1
  have hg : gz g ≤ gz σ := hL.2.2.2.2.2.2.2.2.1
  have qS : ∀ b, b < gz σ → gS (jk σ d) b = gS σ b := fun b hb => if_neg (by omega)
  have x' := hL.xt
  have h16 := hy.2
  refine ⟨fun z hz2 a h1 h2 => ?_, hL.2.1, hL.2.2.1, hL.2.2.2.1, hL.2.2.2.2.1, hL.ct, ?_, Nat.le_trans hz (Nat.le_add_right _ _), Nat.le_trans hg (Nat.le_add_right _ _), fun b h1 h2 h3 => ?_⟩
  · rw [qS a (by have := hy.1 z hz2; omega)]; exact hL.1 z hz2 a h1 h2
  · refine ⟨⟨by rw [qS 1 (by omega)]; exact x'.1.1, x'.1.2⟩, ⟨by rw [qS 2 (by omega)]; exact x'.2.1.1, x'.2.1.2⟩, ⟨by rw [qS 3 (by omega)]; exact x'.2.2.1.1, x'.2.2.1.2⟩, ⟨by rw [qS 4 (by omega)]; exact x'.2.2.2.1.1, x'.2.2.2.1.2⟩, fun z hz2 => ?_⟩
    obtain ⟨z1, z2, z3, z4, z5, z6⟩ := x'.2.2.2.2 z hz2
    have hz16 : z.1 < 16 := by
      rcases z with ⟨u, v⟩
      simp at hz2
      rcases hz2 with ⟨rfl, _⟩ | ⟨rfl, _⟩ | ⟨rfl, _⟩ | ⟨rfl, _⟩ <;> simp
    have z4' : gR (jk σ d) z.1 0 = gR σ z.1 0 := rfl
    exact ⟨by rw [qS _ (by omega)]; exact z1, z2, z3, z4, by rw [z4', qS _ (by omega)]; exact z5, z6⟩
  · rw [qS b (by omega)]; exact hL.fr h1 h2 h3
theorem Lay.swp (hL : Lay LC g c t σ) : Lay LC g t c (sR (sR σ 16 12 t) 16 13 c) := by
  have q : ∀ b k, (b = 16 → k ≠ 12 ∧ k ≠ 13) → gR (sR (sR σ 16 12 t) 16 13 c) b k = gR σ b k := fun b k hb => by
    show (if b = 16 ∧ k = 13 then c else if b = 16 ∧ k = 12 then t else σ.2.1 b k) = σ.2.1 b k
    rw [if_neg (fun h => (hb h.1).2 h.2), if_neg (fun h => (hb h.1).1 h.2)]
  have hq : ∀ z ∈ yF LC, z.1 = 16 → z.2.1 ≠ 12 ∧ z.2.1 ≠ 13 := by decide
  have hX : ∀ z ∈ yX LC, z.1 ≠ 16 := by decide
  have hS : ∀ z ∈ yS LC, z.1 ≠ 16 := by decide
  have x' := hL.xt
  refine ⟨hL.1, fun z hz => by rw [q _ _ (hq z hz)]; exact hL.2.1 z hz, fun z hz j hj => by rw [q _ _ (fun h => absurd h (hX z hz))]; exact hL.2.2.1 z hz j hj, fun z hz j hj => by rw [q _ _ (fun h => absurd h (hS z hz))]; exact hL.2.2.2.1 z hz j hj, fun _ => ⟨rfl, rfl⟩, ?_, ?_, hL.2.2.2.2.2.2.2.1, hL.2.2.2.2.2.2.2.2.1, fun b h1 h2 h3 => ?_⟩
  · rcases hL.ct with h | h
    · exact .inr ⟨h.2, h.1⟩
    · exact .inl ⟨h.2, h.1⟩
  · refine ⟨x'.1, x'.2.1, x'.2.2.1, x'.2.2.2.1, fun z hz => ?_⟩
    have hz16 : z.1 ≠ 16 := by
      rcases z with ⟨u, v⟩
      simp at hz
      rcases hz with ⟨rfl, _⟩ | ⟨rfl, _⟩ | ⟨rfl, _⟩ | ⟨rfl, _⟩ <;> simp
    have := x'.2.2.2.2 z hz
    rw [q z.1 0 (fun h => absurd h hz16)]
    exact this
  · have hb : b ≠ 16 := by
      rcases h3 with h3 | h3
      · have : b < 16 := h3; omega
      · have : 172 ≤ b := h3; omega
    refine ⟨(hL.fr h1 h2 h3).1, fun k => ⟨((hL.fr h1 h2 h3).2 k).1, ?_⟩⟩
    rw [q _ _ (fun h => absurd h hb)]; exact ((hL.fr h1 h2 h3).2 k).2
theorem isCl.rg {a : Nat} (h : isCl a) : 158 ≤ a ∧ a + 6 < 172 := by rcases h with rfl | rfl <;> omega
theorem S_begin {a : Nat} {D : Int} (hL : Lay LC g c t σ) (ha : isCl a) (h : ∀ τ, Lay LC g c t τ → Fr (fun b k => b = a ∧ (k = 6 ∨ k = 7)) (fun _ => False) σ τ → gI τ a 6 = D → gI τ a 7 = 0 → Q (.inl none) τ) : CC E mX1_begin [vr a, vi D] σ Q :=
  C_X1_begin (B_X1_begin_0 hL ha (fun τ1 e1 τ2 e2 hL2 => by
    subst e1 e2
    exact h _ hL2 (((Fr.refl σ).sI ⟨rfl, .inl rfl⟩).sI ⟨rfl, .inr rfl⟩) (by simp [gI_sI]) (by simp [gI_sI])))
abbrev frT (a : Nat) : Nat → Nat → Prop := fun b k => b = a + 1 ∨ (b = a ∧ k = 7)
theorem S_tell {a b n x : Nat} {D : Int} {told : List (List Int)} {v : List Int} (hL : Lay LC g c t σ) (ha : isCl a) (hb : PA LC b n) (hn : x + 8 ≤ n ∧ n ≤ 65536) (hT : CloT σ a D told) (hlt : told.length < 4) (hv : isTL D v) (hz : ∀ j, j < 8 → gI σ b (x + j) = gd v j)
    (h : ∀ τ, Lay LC g c t τ → Fr (frT a) (fun _ => False) σ τ → CloT τ a D (told ++ [v]) → Q (.inl none) τ) : CC E mX1_tell [vr a, vr b, vi x] σ Q := by
  have ar := ha.rg
  refine C_X1_tell (B_X1_tell_0 hL ha hb ?_)
  rw [hT.2.2.2.1]
  refine ⟨fun h => absurd h (by omega), fun _ _ => S_holdsTurn hb.2.2.1 (hb.sh hL) (by omega) (by omega) ?_⟩
  rw [if_pos ⟨by omega, by omega⟩]
  refine ⟨hL, fun _ => ⟨fun h9 => absurd h9 (by decide), fun _ => ?_⟩⟩
  rw [hT.2.2.2.1]
  refine ⟨⟨by omega, by omega⟩, ⟨by omega, by omega⟩, ⟨by omega, by omega⟩, fun τ6 e6 => ?_⟩
  rw [show ((x : Nat) : Int).toNat = x by omega, show ((told.length : Int) * 8).toNat = 8 * told.length by omega] at e6
  have q6 : ∀ d k, gI τ6 d k = if d = a + 1 ∧ 8 * told.length ≤ k ∧ k < 8 * told.length + 8 then gI σ b (x + (k - 8 * told.length)) else gI σ d k := fun d k => by rw [e6, gI_cp]
  rw [(q6 a 7).trans (if_neg (by omega)), hT.2.2.2.1]
  refine ⟨⟨by omega, by omega⟩, fun τ8 e8 hL8 => ?_⟩
  have hlen : (told ++ [v]).length = told.length + 1 := by simp
  refine h τ8 hL8 (fun d hd k => ⟨fun hw => ?_, fun _ => by rw [e8, e6]; rfl⟩) ⟨?_, hT.2.1, hT.2.2.1, ?_, by omega, fun u hu => ?_⟩
  · rw [e8, gI_sI, if_neg (fun h9 => hw (.inr h9)), q6, if_neg (fun h9 => hw (.inl h9.1))]
  · rw [e8, gI_sI, if_neg (by omega), q6, if_neg (by omega)]; exact hT.1
  · rw [e8, gI_sI, if_pos ⟨rfl, rfl⟩, hlen]; rfl
  · by_cases hul : u < told.length
    · rw [getD_app9 hul]
      refine ⟨(hT.2.2.2.2.2 u hul).1, fun j hj => ?_⟩
      rw [e8, gI_sI, if_neg (by omega), q6, if_neg (by omega)]
      exact (hT.2.2.2.2.2 u hul).2 j hj
    · have : u = told.length := by omega
      subst this
      rw [getD_last9]
      refine ⟨hv, fun j hj => ?_⟩
      rw [e8, gI_sI, if_neg (by omega), q6, if_pos (by omega), show 8 * told.length + j - 8 * told.length = j by omega]
      exact hz j hj
theorem CloT.fr {W : Nat → Nat → Prop} {V : Nat → Prop} {τ : Sg} {a : Nat} {D : Int} {told : List (List Int)} (h : CloT σ a D told) (k : Fr W V σ τ) (ha : isCl a) (w : (∀ j, ¬ W (a + 1) j) ∧ ¬ W a 6 ∧ ¬ W a 7) : CloT τ a D told := by
  have ar := ha.rg
  exact ⟨(k.i (by omega) w.2.1).trans h.1, h.2.1, h.2.2.1, (k.i (by omega) w.2.2).trans h.2.2.2.1, h.2.2.2.2.1, fun u hu => ⟨(h.2.2.2.2.2 u hu).1, fun j hj => (k.i (by omega) (w.1 _)).trans ((h.2.2.2.2.2 u hu).2 j hj)⟩⟩
theorem CloE.fr {W : Nat → Nat → Prop} {V : Nat → Prop} {τ : Sg} {a : Nat} {D : Int} {els : List (List Int)} (h : CloE σ a D els) (k : Fr W V σ τ) (ha : isCl a) (w : (∀ j, ¬ W (a + 2) j) ∧ ¬ W a 8) : CloE τ a D els := by
  have ar := ha.rg
  exact h.same (k.i (by omega) w.2) (fun j => k.i (by omega) (w.1 j))
theorem PastC.fr {W : Nat → Nat → Prop} {V : Nat → Prop} {τ : Sg} {D : Int} {past : List (List (List Int))} (h : PastC σ D past) (k : Fr W V σ τ) (w : (∀ j, ¬ W 22 j ∧ ¬ W 23 j) ∧ ¬ W 21 2) : PastC τ D past :=
  ⟨(k.i (by omega) w.2).trans h.1, h.2.1, fun i hi => ⟨(k.i (by omega) (w.1 _).2).trans (h.2.2 i hi).1, (h.2.2 i hi).2.1, fun u hu => ⟨((h.2.2 i hi).2.2 u hu).1, fun j hj => (k.i (by omega) (w.1 _).1).trans (((h.2.2 i hi).2.2 u hu).2 j hj)⟩⟩⟩
theorem CloT.nil {a : Nat} {D : Int} (hD : 2 ≤ D ∧ D ≤ 5) (h6 : gI σ a 6 = D) (h7 : gI σ a 7 = 0) : CloT σ a D [] := ⟨h6, hD.1, hD.2, h7, by decide, fun u hu => absurd hu (by simp)⟩
theorem take_succ9 {α : Type} [Inhabited α] {l : List (List α)} {i : Nat} (h : i < l.length) : l.take i ++ [l.getD i []] = l.take (i + 1) := by
  rw [List.take_succ_eq_append_getElem h, List.getD_eq_getElem?_getD, List.getElem?_eq_getElem h]; rfl
theorem S_copyTold {a b : Nat} {D : Int} {told : List (List Int)} (hL : Lay LC g c t σ) (ha : isCl a) (hb : isCl b) (hab : a ≠ b) (hT : CloT σ b D told)
    (h : ∀ τ, Lay LC g c t τ → Fr (fun d k => d = a + 1 ∨ (d = a ∧ (k = 6 ∨ k = 7))) (fun _ => False) σ τ → CloT τ a D told → Q (.inl none) τ) : CC E mX1_copyTold [vr a, vr b] σ Q := by
  have hd : (a = 158 ∧ b = 165) ∨ (a = 165 ∧ b = 158) := by
    rcases ha with rfl | rfl <;> rcases hb with rfl | rfl <;> simp_all
  have h4 := hT.2.2.2.2.1
  refine C_X1_copyTold (B_X1_copyTold_0 hL ha hb (fun _ => ?_))
  rw [hT.1]
  refine S_begin hL ha (fun τ1 hL1 hF1 q6 q7 => ⟨hL1, fun _ => ?_⟩)
  refine loopU (N := told.length) (G := fun i τ => GG E mX1_copyTold 10 [some (vr a), some (vr b), some (vi i)] [] τ 0 0 Q)
    (P := fun i τ => Lay LC g c t τ ∧ Fr (fun d k => d = a + 1 ∨ (d = a ∧ (k = 6 ∨ k = 7))) (fun _ => False) σ τ ∧ CloT τ a D (told.take i)) ?_ ?_ 0 τ1 (by omega) ⟨hL1, hF1.mono (fun d k h9 => by omega) (fun _ h => h), by rw [List.take_zero]; exact CloT.nil ⟨hT.2.1, hT.2.2.1⟩ q6 q7⟩
  · rintro i τ hi ⟨hLτ, hF, hz⟩ next
    have hTτ := hT.fr hF hb ⟨fun _ => by omega, by omega, by omega⟩
    have hlen : (told.take i).length = i := by rw [List.length_take]; omega
    refine B_X1_copyTold_10 hLτ ha hb ?_
    rw [hTτ.2.2.2.1]
    refine ⟨fun h => absurd h (by omega), fun _ => ⟨fun h => absurd h (by omega), fun _ => ⟨⟨by omega, by omega⟩, fun _ => ?_⟩⟩⟩
    rw [show (i : Int) * 8 = ((8 * i : Nat) : Int) by omega]
    refine S_tell (n := 32) hLτ ha (hb.p (k := 0) (by decide)) (by omega) hz (by omega) (hTτ.2.2.2.2.2 i hi).1 (hTτ.2.2.2.2.2 i hi).2 (fun τ3 hL3 hF3 hT3 => ⟨hL3, ⟨by omega, by omega⟩, fun _ => next τ3 ⟨hL3, hF.trans (hF3.mono (fun d k h9 => by omega) (fun _ h => h)), ?_⟩⟩)
    rw [← take_succ9 hi]; exact hT3
  · rintro τ ⟨hLτ, hF, hz⟩
    have hTτ := hT.fr hF hb ⟨fun _ => by omega, by omega, by omega⟩
    refine B_X1_copyTold_10 hLτ ha hb ?_
    rw [hTτ.2.2.2.1]
    rw [List.take_length] at hz
    exact ⟨fun _ _ => h τ hLτ hF hz, fun h9 => absurd (by omega) h9⟩
end S71
