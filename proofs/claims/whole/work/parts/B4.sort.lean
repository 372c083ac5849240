/-! ===== rows in their order ===== -/
def lexl (r : Nat) (v w : Nat → Int) : Prop := ∃ a, a < r ∧ (∀ b, b < a → v b = w b) ∧ v a < w a
def ahd (r : Nat) (d1 : Int) (v1 : Nat → Int) (d2 : Int) (v2 : Nat → Int) : Prop := (one9 r v1 ∧ ¬ one9 r v2) ∨ (¬ one9 r v1 ∧ ¬ one9 r v2 ∧ (d1 < d2 ∨ (d1 = d2 ∧ lexl r v1 v2)))
theorem lexl_tot {v w : Nat → Int} : ∀ r, (∃ a, a < r ∧ v a ≠ w a) → lexl r v w ∨ lexl r w v := by
  intro r
  rintro ⟨a, ha, hne⟩
  obtain ⟨d, d1, d2, d3⟩ := least_of (p := fun a => v a ≠ w a) a hne
  have e : ∀ b, b < d → v b = w b := fun b hb => Classical.byContradiction (d3 b hb)
  rcases Int.lt_or_gt_of_ne d2 with h | h
  · exact .inl ⟨d, by omega, e, h⟩
  · exact .inr ⟨d, by omega, fun b hb => (e b hb).symm, h⟩
theorem lexl_tr {r : Nat} {u v w : Nat → Int} (h : lexl r u v) (k : lexl r v w) : lexl r u w := by
  obtain ⟨a, a1, a2, a3⟩ := h
  obtain ⟨b, b1, b2, b3⟩ := k
  by_cases hab : a < b
  · exact ⟨a, a1, fun c hc => (a2 c hc).trans (b2 c (by omega)), by rw [← b2 a hab]; exact a3⟩
  · by_cases hba : b < a
    · exact ⟨b, b1, fun c hc => (a2 c (by omega)).trans (b2 c hc), by rw [a2 b hba]; exact b3⟩
    · have : a = b := by omega
      subst this
      exact ⟨a, a1, fun c hc => (a2 c hc).trans (b2 c hc), by omega⟩
theorem lexl_as {r : Nat} {u v : Nat → Int} (h : lexl r u v) (k : lexl r v u) : False := by
  obtain ⟨a, _, _, a3⟩ := lexl_tr h k
  omega
theorem ahd_tr {r : Nat} {d1 d2 d3 : Int} {u v w : Nat → Int} (h : ahd r d1 u d2 v) (k : ahd r d2 v d3 w) : ahd r d1 u d3 w := by
  rcases h with ⟨h1, h2⟩ | ⟨h1, h2, h3⟩
  · rcases k with ⟨k1, k2⟩ | ⟨k1, k2, k3⟩
    · exact absurd k1 h2
    · exact .inl ⟨h1, k2⟩
  · rcases k with ⟨k1, k2⟩ | ⟨k1, k2, k3⟩
    · exact absurd k1 h2
    · refine .inr ⟨h1, k2, ?_⟩
      rcases h3 with h3 | ⟨h3, h4⟩
      · rcases k3 with k3 | ⟨k3, k4⟩
        · exact .inl (by omega)
        · exact .inl (by omega)
      · rcases k3 with k3 | ⟨k3, k4⟩
        · exact .inl (by omega)
        · exact .inr ⟨by omega, lexl_tr h4 k4⟩
theorem ahd_as {r : Nat} {d1 d2 : Int} {u v : Nat → Int} (h : ahd r d1 u d2 v) (k : ahd r d2 v d1 u) : False := by
  rcases h with ⟨h1, h2⟩ | ⟨h1, h2, h3⟩
  · rcases k with ⟨k1, k2⟩ | ⟨k1, k2, k3⟩
    · exact h2 k1
    · exact k2 h1
  · rcases k with ⟨k1, k2⟩ | ⟨k1, k2, k3⟩
    · exact h2 k1
    · rcases h3 with h3 | ⟨h3, h4⟩ <;> rcases k3 with k3 | ⟨k3, k4⟩
      · omega
      · omega
      · omega
      · exact lexl_as h4 k4
theorem ahd_tot {r : Nat} {d1 d2 : Int} {u v : Nat → Int} (hne : ∃ a, a < r ∧ u a ≠ v a) : ahd r d1 u d2 v ∨ ahd r d2 v d1 u := by
  by_cases h1 : one9 r u
  · by_cases h2 : one9 r v
    · obtain ⟨a, ha, hn⟩ := hne
      exact absurd ((h1 a ha).trans (h2 a ha).symm) hn
    · exact .inl (.inl ⟨h1, h2⟩)
  · by_cases h2 : one9 r v
    · exact .inr (.inl ⟨h2, h1⟩)
    · rcases Int.lt_trichotomy d1 d2 with h | h | h
      · exact .inl (.inr ⟨h1, h2, .inl h⟩)
      · rcases lexl_tot r hne with k | k
        · exact .inl (.inr ⟨h1, h2, .inr ⟨h, k⟩⟩)
        · exact .inr (.inr ⟨h2, h1, .inr ⟨h.symm, k⟩⟩)
      · exact .inr (.inr ⟨h2, h1, .inl h⟩)
/-- orders, and rows laid by them -/
def Ord9 (f : Nat) (lt : Nat → Nat → Prop) : Prop := (∀ a b c, a < f → b < f → c < f → lt a b → lt b c → lt a c) ∧ (∀ a b, a < f → b < f → lt a b → lt b a → False) ∧ ∀ a b, a < f → b < f → a ≠ b → lt a b ∨ lt b a
def Prm (f : Nat) (q : Nat → Nat) : Prop := (∀ a, a < f → q a < f) ∧ (∀ a b, a < f → b < f → q a = q b → a = b) ∧ ∀ y, y < f → ∃ x, x < f ∧ q x = y
def Srt (lt : Nat → Nat → Prop) (n : Nat) (q : Nat → Nat) : Prop := ∀ a b, a < b → b < n → lt (q a) (q b)
def SrtP (f : Nat) (lt : Nat → Nat → Prop) (i k : Nat) (q : Nat → Nat) : Prop := Prm f q ∧ (∀ a b, a < b → b ≤ i → a ≠ k → b ≠ k → lt (q a) (q b)) ∧ ∀ b, k < b → b ≤ i → lt (q k) (q b)
theorem Prm.swp {f : Nat} {q : Nat → Nat} (h : Prm f q) {k l : Nat} (hk : k < f) (hl : l < f) : Prm f (fun e => q (swI k l e)) := by
  refine ⟨fun a ha => h.1 _ (swI_lt hk hl ha), fun a b ha hb e => swI_inj (h.2.1 _ _ (swI_lt hk hl ha) (swI_lt hk hl hb) e), fun y hy => ?_⟩
  obtain ⟨x, hx, e⟩ := h.2.2 y hy
  refine ⟨swI k l x, swI_lt hk hl hx, ?_⟩
  show q (swI k l (swI k l x)) = y
  rw [← e]
  congr 1
  unfold swI
  by_cases a : x = k <;> by_cases b : x = l <;> simp_all
theorem Srt.start {f : Nat} {lt : Nat → Nat → Prop} {i : Nat} {q : Nat → Nat} (h : Srt lt i q) (hp : Prm f q) : SrtP f lt i i q :=
  ⟨hp, fun a b hab hb ha hbk => h a b hab (by omega), fun b h1 h2 => absurd h1 (by omega)⟩
theorem SrtP.swap {f : Nat} {lt : Nat → Nat → Prop} {i k : Nat} {q : Nat → Nat} (h : SrtP f lt i (k + 1) q) (hi : i < f) (hk : k + 1 ≤ i) (hlt : lt (q (k + 1)) (q k)) : SrtP f lt i k (fun e => q (swI (k + 1) k e)) := by
  have s1 : swI (k + 1) k (k + 1) = k := by unfold swI; rw [if_pos rfl]
  have s2 : swI (k + 1) k k = k + 1 := by unfold swI; rw [if_neg (by omega), if_pos rfl]
  have s3 : ∀ e, e ≠ k → e ≠ k + 1 → swI (k + 1) k e = e := fun e h1 h2 => by unfold swI; rw [if_neg h2, if_neg h1]
  refine ⟨h.1.swp (by omega) (by omega), fun a b hab hb ha hbk => ?_, fun b h1 h2 => ?_⟩
  · show lt (q (swI (k + 1) k a)) (q (swI (k + 1) k b))
    by_cases ha2 : a = k + 1
    · subst ha2
      rw [s1, s3 b hbk (by omega)]
      exact h.2.1 k b (by omega) hb (by omega) (by omega)
    · rw [s3 a ha ha2]
      by_cases hb2 : b = k + 1
      · subst hb2
        rw [s1]
        exact h.2.1 a k (by omega) (by omega) ha2 (by omega)
      · rw [s3 b hbk hb2]
        exact h.2.1 a b hab hb ha2 hb2
  · show lt (q (swI (k + 1) k k)) (q (swI (k + 1) k b))
    rw [s2]
    by_cases hb2 : b = k + 1
    · subst hb2
      rw [s1]; exact hlt
    · rw [s3 b (by omega) hb2]
      exact h.2.2 b (by omega) h2
theorem SrtP.stop {f : Nat} {lt : Nat → Nat → Prop} {i k : Nat} {q : Nat → Nat} (h : SrtP f lt i k q) (ho : Ord9 f lt) (hi : i < f) (hk : k ≤ i) (hst : k = 0 ∨ ¬ lt (q k) (q (k - 1))) : Srt lt (i + 1) q := by
  have hp := h.1
  have pr : ∀ a, a < k → lt (q a) (q k) := fun a ha => by
    rcases hst with h0 | h0
    · omega
    · have e : lt (q (k - 1)) (q k) := by
        rcases ho.2.2 (q k) (q (k - 1)) (hp.1 k (by omega)) (hp.1 _ (by omega)) (fun h9 => by have := hp.2.1 _ _ (by omega) (by omega) h9; omega) with h9 | h9
        · exact absurd h9 h0
        · exact h9
      by_cases hak : a = k - 1
      · rw [hak]; exact e
      · exact ho.1 _ _ _ (hp.1 a (by omega)) (hp.1 _ (by omega)) (hp.1 k (by omega)) (h.2.1 a (k - 1) (by omega) (by omega) (by omega) (by omega)) e
  intro a b hab hb
  by_cases hak : a = k
  · subst hak; exact h.2.2 b hab (by omega)
  · by_cases hbk : b = k
    · subst hbk; exact pr a hab
    · exact h.2.1 a b hab (by omega) hak hbk
theorem Srt.un {f : Nat} {lt : Nat → Nat → Prop} (ho : Ord9 f lt) {q q' : Nat → Nat} (hp : Prm f q) (hp' : Prm f q') (h : Srt lt f q) (h' : Srt lt f q') : ∀ j, j < f → q j = q' j := by
  intro j
  induction j using Nat.strongRecOn with
  | _ j ih =>
    intro hj
    obtain ⟨x, hx, e⟩ := hp'.2.2 (q j) (hp.1 j hj)
    obtain ⟨y, hy, e2⟩ := hp.2.2 (q' j) (hp'.1 j hj)
    have hxj : j ≤ x := by
      apply Nat.not_lt.mp
      intro h9
      have := ih x h9 hx
      have := hp.2.1 x j hx hj (by rw [this, e])
      omega
    have hyj : j ≤ y := by
      apply Nat.not_lt.mp
      intro h9
      have := ih y h9 hy
      have := hp'.2.1 y j hy hj (by rw [← this, e2])
      omega
    by_cases h1 : x = j
    · rw [← e, h1]
    · by_cases h2 : y = j
      · rw [← e2, h2]
      · exfalso
        have a := h' j x (by omega) hx
        have b := h j y (by omega) hy
        rw [e] at a
        rw [e2] at b
        exact ho.2.1 _ _ (hp'.1 j hj) (hp.1 j hj) a b
section SB4
variable {E : Ev} {σ : Sg} {Q : NO → Sg → Prop} {g : Sg} {c t : Nat}
abbrev ahM (r : Nat) (σ : Sg) (i j : Nat) : Prop := ahd r (gI σ 2962 i) (gI σ (gR σ 2913 i)) (gI σ 2962 j) (gI σ (gR σ 2913 j))
theorem M_isAhead {r i j : Nat} (hL : Lay LM g c t σ) (h16 : gI σ 172 16 = (r : Int)) (h48 : r ≤ 48) (hi : i < 48) (hj : j < 48) (hn : ¬ (one9 r (gI σ (gR σ 2913 i)) ∧ one9 r (gI σ (gR σ 2913 j))))
    (hq : ∀ x : Int, (ahM r σ i j → x = 1) → (¬ ahM r σ i j → x = 0) → Q (.inl (some (vi x))) σ) : CC E mX12_isAhead [vr 172, vi i, vi j] σ Q := by
  refine C_X12_isAhead (B_X12_isAhead_0 hL (fun _ => ?_))
  refine M_isOneAll hL h16 h48 hi (fun x hx1 hx0 => ⟨hL, fun _ => ⟨fun hne _ => ?_, fun he _ => ?_⟩⟩)
  · have oi : one9 r (gI σ (gR σ 2913 i)) := Classical.byContradiction (fun h9 => hne (hx0 h9))
    refine M_isOneAll hL h16 h48 hi (fun y hy1 hy0 => ⟨hL, fun _ => ?_⟩)
    have y1 := hy1 oi
    subst y1
    exact ⟨.inr rfl, fun _ => hq 1 (fun _ => rfl) (fun h9 => absurd (.inl ⟨oi, fun h8 => hn ⟨oi, h8⟩⟩) h9)⟩
  · have oi : ¬ one9 r (gI σ (gR σ 2913 i)) := fun h9 => by have := hx1 h9; omega
    refine M_isOneAll hL h16 h48 hj (fun y hy1 hy0 => ⟨hL, fun _ => ⟨fun hye => ?_, fun hyn _ => ?_⟩⟩)
    · have oj : ¬ one9 r (gI σ (gR σ 2913 j)) := fun h9 => by have := hy1 h9; omega
      rw [show ((i : Nat) : Int).toNat = i by omega, show ((j : Nat) : Int).toNat = j by omega]
      refine ⟨⟨by omega, by omega⟩, ⟨by omega, by omega⟩, fun hdd _ => ?_, fun hdd => ⟨fun hle _ => ?_, fun hle _ => ?_⟩⟩
      · refine loopU (N := r) (G := fun a τ => GG E mX12_isAhead 60 [some (vr 172), some (vi i), some (vi j), some (vi a)] [] τ 0 0 Q) (P := fun a τ => τ = σ ∧ ∀ b, b < a → gI σ (gR σ 2913 i) b = gI σ (gR σ 2913 j) b) ?_ ?_ 0 σ (by omega) ⟨rfl, fun b hb => absurd hb (by omega)⟩
        · rintro a τ ha ⟨rfl, hz⟩ next
          refine B_X12_isAhead_60 hL ?_
          rw [h16, show ((i : Nat) : Int).toNat = i by omega, show ((j : Nat) : Int).toNat = j by omega, show ((a : Nat) : Int).toNat = a by omega]
          refine ⟨fun h9 => absurd h9 (by omega), fun _ => ⟨⟨by omega, by omega⟩, fun b2 e2 _ => ⟨⟨by omega, by omega⟩, ⟨by omega, by omega⟩, fun b6 e6 _ => ?_⟩⟩⟩
          subst e2 e6
          refine ⟨fun he2 => ⟨⟨by omega, by omega⟩, fun _ => next τ ⟨rfl, fun b hb => ?_⟩⟩, fun hne b9 e9 _ b11 e11 _ => ?_⟩
          · by_cases hba : b = a
            · rw [hba]; exact he2
            · exact hz b (by omega)
          · subst e9 e11
            refine ⟨fun hle _ => hq 0 (fun h9 => ?_) (fun _ => rfl), fun hle _ => hq 1 (fun _ => rfl) (fun h9 => absurd (.inr ⟨oi, oj, .inr ⟨hdd, a, ha, hz, by omega⟩⟩) h9)⟩
            exfalso
            rcases h9 with ⟨h9, _⟩ | ⟨_, _, h9 | ⟨_, b, hb, hb2, hb3⟩⟩
            · exact oi h9
            · omega
            · by_cases hba : b < a
              · have := hz b hba; omega
              · by_cases hab : a < b
                · exact hne (hb2 a hab)
                · have : b = a := by omega
                  subst this
                  omega
        · rintro τ ⟨rfl, hz⟩
          refine B_X12_isAhead_60 hL ?_
          rw [h16]
          refine ⟨fun _ _ => hq 0 (fun h9 => ?_) (fun _ => rfl), fun h9 => absurd (by omega) h9⟩
          exfalso
          rcases h9 with ⟨h9, _⟩ | ⟨_, _, h9 | ⟨_, b, hb, hb2, hb3⟩⟩
          · exact oi h9
          · omega
          · have := hz b hb; omega
      · refine hq 0 (fun h9 => ?_) (fun _ => rfl)
        exfalso
        rcases h9 with ⟨h9, _⟩ | ⟨_, _, h9 | ⟨h9, _⟩⟩
        · exact oi h9
        · omega
        · omega
      · exact hq 1 (fun _ => rfl) (fun h9 => absurd (.inr ⟨oi, oj, .inl (by omega)⟩) h9)
    · refine M_isOneAll hL h16 h48 hi (fun z hz1 hz0 => ⟨hL, fun _ => ?_⟩)
      have oj : one9 r (gI σ (gR σ 2913 j)) := Classical.byContradiction (fun h9 => hyn (hy0 h9))
      have z0 := hz0 oi
      subst z0
      refine ⟨.inl rfl, fun _ => hq 0 (fun h9 => ?_) (fun _ => rfl)⟩
      exfalso
      rcases h9 with ⟨h9, _⟩ | ⟨_, h9, _⟩
      · exact oi h9
      · exact h9 oj
abbrev frSo : Nat → Nat → Prop := fun a _ => a = 2962
abbrev frSv : Nat → Prop := fun a => a = 2913
theorem M_sortsRows {r f : Nat} (hL : Lay LM g c t σ) (hJ : JM σ) (h16 : gI σ 172 16 = (r : Int)) (h48 : r ≤ 48) (h35 : gI σ 172 35 = (f : Int)) (hf : f ≤ 48) (hne : ∀ i j, i < f → j < f → i ≠ j → ∃ a, a < r ∧ gI σ (gR σ 2913 i) a ≠ gI σ (gR σ 2913 j) a)
    (h : ∀ τ (q : Nat → Nat), Lay LM g c t τ → JM τ → Fr frSo frSv σ τ → Prm f q → Srt (ahM r σ) f q → (∀ i, i < f → gR τ 2913 i = gR σ 2913 (q i) ∧ gI τ 2962 i = gI σ 2962 (q i)) → Q (.inl none) τ) : CC E mX12_sortsRows [vr 172] σ Q := by
  have ho : Ord9 f (ahM r σ) := ⟨fun a b c _ _ _ => ahd_tr, fun a b _ _ => ahd_as, fun a b ha hb hab => ahd_tot (hne a b ha hb hab)⟩
  have rw9 : ∀ e, e < 48 → 2914 ≤ gR σ 2913 e ∧ gR σ 2913 e < 2962 := fun e he => hL.2.2.2.1 (2913, 48, 2914, 2962) (by decide) e he
  -- a state with the rows by q
  let ST9 : (Nat → Nat) → Sg → Prop := fun q τ => Lay LM g c t τ ∧ JM τ ∧ Fr frSo frSv σ τ ∧ ∀ i, i < f → gR τ 2913 i = gR σ 2913 (q i) ∧ gI τ 2962 i = gI σ 2962 (q i)
  have ah : ∀ q τ i j, Prm f q → ST9 q τ → i < f → j < f → (ahM r τ i j ↔ ahM r σ (q i) (q j)) := by
    rintro q τ i j hp ⟨hL1, hJ1, hF1, hq⟩ hi hj
    have a1 := rw9 (q i) (by have := hp.1 i hi; omega)
    have a2 := rw9 (q j) (by have := hp.1 j hj; omega)
    have e1 : gI τ (gR σ 2913 (q i)) = gI σ (gR σ 2913 (q i)) := funext (fun k => hF1.i (by omega) (by omega))
    have e2 : gI τ (gR σ 2913 (q j)) = gI σ (gR σ 2913 (q j)) := funext (fun k => hF1.i (by omega) (by omega))
    show ahd r (gI τ 2962 i) (gI τ (gR τ 2913 i)) (gI τ 2962 j) (gI τ (gR τ 2913 j)) ↔ _
    rw [(hq i hi).1, (hq i hi).2, (hq j hj).1, (hq j hj).2, e1, e2]
  have inner : ∀ i, i < f → (∀ q τ, Prm f q → Srt (ahM r σ) (i + 1) q → ST9 q τ → GG E mX12_sortsRows 2 [some (vr 172), some (vi ((i : Int) + 1)), none, none, none] [] τ 0 0 Q) → ∀ k q τ, k ≤ i → SrtP f (ahM r σ) i k q → ST9 q τ → GG E mX12_sortsRows 12 [some (vr 172), some (vi i), some (vi k), none, none] [] τ 0 0 Q := by
    intro i hi done k
    induction k with
    | zero =>
      rintro q τ hk hS ⟨hL1, hJ1, hF1, hq⟩
      refine B_X12_sortsRows_12 hL1 ⟨fun _ => ⟨⟨by omega, by omega⟩, fun _ => done q τ hS.1 (hS.stop ho hi hk (.inl rfl)) ⟨hL1, hJ1, hF1, hq⟩⟩, fun h9 => absurd (by omega) h9⟩
    | succ k ih =>
      rintro q τ hk hS ⟨hL1, hJ1, hF1, hq⟩
      have hst : ST9 q τ := ⟨hL1, hJ1, hF1, hq⟩
      have hp := hS.1
      have kk : ((k + 1 : Nat) : Int) - 1 = (k : Int) := by omega
      have e16 : gI τ 172 16 = (r : Int) := (hF1.i (by omega) (by omega)).trans h16
      have hno : ¬ (one9 r (gI τ (gR τ 2913 (k + 1))) ∧ one9 r (gI τ (gR τ 2913 k))) := by
        rintro ⟨o1, o2⟩
        have b1 := hp.1 (k + 1) (by omega)
        have b2 := hp.1 k (by omega)
        obtain ⟨a, ha, hn⟩ := hne (q (k + 1)) (q k) b1 b2 (fun h9 => by have := hp.2.1 _ _ (by omega) (by omega) h9; omega)
        have c1 := rw9 (q (k + 1)) (by omega)
        have c2 := rw9 (q k) (by omega)
        have x1 := o1 a ha
        have x2 := o2 a ha
        rw [(hq (k + 1) (by omega)).1] at x1
        rw [(hq k (by omega)).1] at x2
        rw [hF1.i (by omega) (by omega)] at x1 x2
        omega
      refine B_X12_sortsRows_12 hL1 ⟨fun h9 => absurd h9 (by omega), fun _ => ?_⟩
      rw [kk]
      refine ⟨⟨by omega, by omega⟩, fun _ => M_isAhead (i := k + 1) (j := k) hL1 e16 h48 (by omega) (by omega) hno (fun x hx1 hx0 => ⟨hL1, fun _ => ⟨fun he => ⟨⟨by omega, by omega⟩, fun _ => ?_⟩, fun hn => ?_⟩⟩)⟩
      · have nl : ¬ ahM r τ (k + 1) k := fun h9 => by have := hx1 h9; omega
        refine done q τ hp (hS.stop ho hi hk (.inr ?_)) hst
        rw [show k + 1 - 1 = k by omega, ← ah q τ (k + 1) k hp hst (by omega) (by omega)]
        exact nl
      · have yl : ahM r τ (k + 1) k := Classical.byContradiction (fun h9 => hn (hx0 h9))
        rw [ah q τ (k + 1) k hp hst (by omega) (by omega)] at yl
        rw [show ((k + 1 : Nat) : Int).toNat = k + 1 by omega, show ((k : Nat) : Int).toNat = k by omega]
        refine ⟨⟨by omega, by omega⟩, fun b7 e7 _ => ⟨⟨by omega, by omega⟩, fun b10 e10 _ τ12 e12 τ13 e13 τ14 e14 τ15 e15 => ⟨⟨by omega, by omega⟩, fun hL15 => ?_⟩⟩⟩
        rw [show ((k + 1 : Nat) : Int) + -1 = (k : Int) by omega]
        have R15 : ∀ a j, gR τ15 a j = if a = 2913 then gR τ 2913 (swI (k + 1) k j) else gR τ a j := fun a j => by
          rw [e15, e14, e13, e12, e10, e7]
          show (if a = 2913 ∧ j = k then gR τ 2913 (k + 1) else if a = 2913 ∧ j = k + 1 then gR τ 2913 k else τ.2.1 a j) = _
          by_cases ha : a = 2913
          · subst ha
            rw [if_pos rfl]
            unfold swI
            by_cases h1 : j = k
            · rw [if_pos ⟨rfl, h1⟩, if_neg (by omega), if_pos h1]
            · rw [if_neg (fun h9 => h1 h9.2)]
              by_cases h2 : j = k + 1
              · rw [if_pos ⟨rfl, h2⟩, if_pos h2]
              · rw [if_neg (fun h9 => h2 h9.2), if_neg h2, if_neg h1]; rfl
          · rw [if_neg (fun h9 => ha h9.1), if_neg (fun h9 => ha h9.1), if_neg ha]; rfl
        have I13 : ∀ a j, gI τ13 a j = gI τ a j := fun a j => by rw [e13, e12]; rfl
        have I15 : ∀ a j, gI τ15 a j = if a = 2962 then gI τ 2962 (swI (k + 1) k j) else gI τ a j := fun a j => by
          rw [e15, gI_sI, e14, gI_sI, I13, I13, I13]
          by_cases ha : a = 2962
          · subst ha
            rw [if_pos rfl]
            unfold swI
            by_cases h1 : j = k
            · rw [if_pos ⟨rfl, h1⟩, if_neg (by omega), if_pos h1]
            · rw [if_neg (fun h9 => h1 h9.2)]
              by_cases h2 : j = k + 1
              · rw [if_pos ⟨rfl, h2⟩, if_pos h2]
              · rw [if_neg (fun h9 => h2 h9.2), if_neg h2, if_neg h1]
          · rw [if_neg (fun h9 => ha h9.1), if_neg (fun h9 => ha h9.1), if_neg ha]
        refine ih (fun e => q (swI (k + 1) k e)) τ15 (by omega) (hS.swap hi hk yl) ⟨hL15, ?_, hF1.trans (fun a ha j => ⟨fun hw => by rw [I15, if_neg hw], fun hv => by rw [R15, if_neg hv]⟩), fun j hj => ?_⟩
        · intro a ha i' j' hi' hj' e
          rw [R15, R15] at e
          by_cases ha1 : a = 2913
          · rw [if_pos ha1, if_pos ha1] at e
            exact swI_inj (hJ1 2913 (.inr rfl) _ _ (swI_lt (by omega) (by omega) hi') (swI_lt (by omega) (by omega) hj') e)
          · rw [if_neg ha1, if_neg ha1] at e
            exact hJ1 a ha i' j' hi' hj' e
        · have hs := swI_lt (n := f) (k := k + 1) (q := k) (e := j) (by omega) (by omega) hj
          rw [R15, if_pos rfl, I15, if_pos rfl]
          exact hq _ hs
  have outer : ∀ d i q τ, i + d = f ∨ (d = 0 ∧ f ≤ i) → Prm f q → Srt (ahM r σ) (min i f) q → ST9 q τ → GG E mX12_sortsRows 2 [some (vr 172), some (vi i), none, none, none] [] τ 0 0 Q := by
    intro d
    induction d with
    | zero =>
      rintro i q τ hd hp hS ⟨hL1, hJ1, hF1, hq⟩
      have e35 : gI τ 172 35 = (f : Int) := (hF1.i (by omega) (by omega)).trans h35
      have hmin : min i f = f := by omega
      rw [hmin] at hS
      refine B_X12_sortsRows_2 hL1 ?_
      rw [e35]
      exact ⟨fun _ _ => h τ q hL1 hJ1 hF1 hp hS hq, fun h9 => absurd (by omega) h9⟩
    | succ d ih =>
      rintro i q τ hd hp hS ⟨hL1, hJ1, hF1, hq⟩
      have hif : i < f := by omega
      have e35 : gI τ 172 35 = (f : Int) := (hF1.i (by omega) (by omega)).trans h35
      have hmin : min i f = i := by omega
      rw [hmin] at hS
      refine B_X12_sortsRows_2 hL1 ?_
      rw [e35]
      refine ⟨fun h9 => absurd h9 (by omega), fun _ _ => inner i hif (fun q2 τ2 hp2 hS2 hst2 => ?_) i q τ (Nat.le_refl _) (hS.start hp) ⟨hL1, hJ1, hF1, hq⟩⟩
      exact ih (i + 1) q2 τ2 (by omega) hp2 (by rw [show min (i + 1) f = i + 1 by omega]; exact hS2) hst2
  refine C_X12_sortsRows (B_X12_sortsRows_0 hL (fun _ => ?_))
  exact outer (f - 1) 1 (fun e => e) σ (by omega) ⟨fun a ha => ha, fun a b _ _ e => e, fun y hy => ⟨y, hy, rfl⟩⟩ (fun a b h1 h2 => absurd h2 (by omega)) ⟨hL, hJ, Fr.refl _, fun i hi => ⟨rfl, rfl⟩⟩
end SB4
