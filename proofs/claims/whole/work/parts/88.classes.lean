/-! ===== classes: what the walk makes ===== -/
def cntF (f : Nat → Int) (c : Int) : Nat → Nat
  | 0 => 0
  | n + 1 => cntF f c n + if f n = c then 1 else 0
theorem cntF_ge (f : Nat → Int) (c v : Int) (x : Nat) : ∀ n, n ≤ x → cntF (ups f x v) c n = cntF f c n := by
  intro n
  induction n with
  | zero => intro _; rfl
  | succ n ih =>
    intro h
    show cntF (ups f x v) c n + (if ups f x v n = c then 1 else 0) = cntF f c n + (if f n = c then 1 else 0)
    rw [ih (by omega), ups_n f v (show n ≠ x by omega)]
theorem cntF_new (f : Nat → Int) (c : Int) (x : Nat) (h : f x ≠ c) : ∀ n, x < n → cntF (ups f x c) c n = cntF f c n + 1 := by
  intro n
  induction n with
  | zero => intro hx; omega
  | succ n ih =>
    intro hx
    show cntF (ups f x c) c n + (if ups f x c n = c then 1 else 0) = cntF f c n + (if f n = c then 1 else 0) + 1
    by_cases hxn : x = n
    · subst hxn
      rw [cntF_ge f c c x x (Nat.le_refl _), ups_s, if_pos rfl, if_neg h]
    · rw [ih (by omega), ups_n f c (show n ≠ x by omega)]; omega
theorem cntF_old (f : Nat → Int) (c v : Int) (x : Nat) (h : f x ≠ c) (hv : v ≠ c) : ∀ n, cntF (ups f x v) c n = cntF f c n := by
  intro n
  induction n with
  | zero => rfl
  | succ n ih =>
    show cntF (ups f x v) c n + (if ups f x v n = c then 1 else 0) = cntF f c n + (if f n = c then 1 else 0)
    rw [ih]
    by_cases hxn : n = x
    · subst hxn
      rw [ups_s, if_neg hv, if_neg h]
    · rw [ups_n f v hxn]
theorem cntF_0 (f : Nat → Int) (c : Int) : ∀ n, (∀ k, k < n → f k ≠ c) → cntF f c n = 0 := by
  intro n
  induction n with
  | zero => intro _; rfl
  | succ n ih =>
    intro h
    show cntF f c n + (if f n = c then 1 else 0) = 0
    rw [ih (fun k hk => h k (by omega)), if_neg (h n (by omega))]
theorem cntF_ext {f g : Nat → Int} {c : Int} : ∀ n, (∀ k, k < n → f k = g k) → cntF f c n = cntF g c n := by
  intro n
  induction n with
  | zero => intro _; rfl
  | succ n ih =>
    intro h
    show cntF f c n + (if f n = c then 1 else 0) = cntF g c n + (if g n = c then 1 else 0)
    rw [ih (fun k hk => h k (by omega)), h n (by omega)]
theorem cntF_le (f : Nat → Int) (c : Int) : ∀ n, cntF f c n ≤ n := by
  intro n
  induction n with
  | zero => exact Nat.le_refl _
  | succ n ih => show cntF f c n + (if f n = c then 1 else 0) ≤ n + 1; split <;> omega
/-- turning is a group's turning -/
theorem tn_tn {N : Nat} {m : Nat → Nat → Nat} (h : IsG N m) {a x y : Nat} (ha : a < N) (hx : x < N) (hy : y < N) : tn N m (tn N m a x) y = tn N m a (m x y) := by
  have ix := iv_lt h hx
  have iy := iv_lt h hy
  have hxy := h.2.1 _ _ hx hy
  have e : iv N m (m x y) = m (iv N m y) (iv N m x) := by
    refine (iv_un h hxy (h.2.1 _ _ iy ix) ?_).symm
    rw [h.2.2.2.1 x y _ hx hy (h.2.1 _ _ iy ix), ← h.2.2.2.1 y _ _ hy iy ix, iv_r h hy, (h.2.2.1 _ ix).1, iv_r h hx]
  have q1 := h.2.1 _ _ ix ha
  unfold tn
  rw [e, ← h.2.2.2.1 _ x y (h.2.1 _ _ (h.2.1 _ _ iy ix) ha) hx hy, ← h.2.2.2.1 (iv N m y) (m (iv N m x) a) x iy q1 hx, ← h.2.2.2.1 (iv N m y) (iv N m x) a iy ix ha]
theorem tn_id {N : Nat} {m : Nat → Nat → Nat} (h : IsG N m) {a : Nat} (ha : a < N) : tn N m a 0 = a := by
  have e : iv N m 0 = 0 := (iv_un h h.1 h.1 (h.2.2.1 0 h.1).1).symm
  unfold tn
  rw [e, (h.2.2.1 a ha).1, (h.2.2.1 a ha).2]
theorem tn_back {N : Nat} {m : Nat → Nat → Nat} (h : IsG N m) {a x : Nat} (ha : a < N) (hx : x < N) : tn N m (tn N m a x) (iv N m x) = a := by
  rw [tn_tn h ha hx (iv_lt h hx), iv_r h hx, tn_id h ha]
/-- on the way: k classes' elements are marked -/
def ClI (N : Nat) (m : Nat → Nat → Nat) (n : Nat) (s : CS) : Prop :=
  (∀ k, k < N → s.1 k = -1 ∨ (0 ≤ s.1 k ∧ s.1 k < (s.2.1 : Int))) ∧ (∀ k, k < n → s.1 k ≠ -1) ∧
  (∀ c, c < s.2.1 → ∃ l : Nat, s.2.2.1 c = (l : Int) ∧ l < n ∧ s.1 l = (c : Int) ∧ ∀ k, k < N → s.1 k = (c : Int) → l ≤ k) ∧
  (∀ a x, a < N → x < N → s.1 (tn N m a x) = s.1 a) ∧ (∀ a b, a < N → b < N → s.1 a ≠ -1 → s.1 a = s.1 b → ∃ x, x < N ∧ b = tn N m a x) ∧
  (∀ c : Nat, c < s.2.1 → s.2.2.2.1 c = (cntF s.1 (c : Int) N : Int)) ∧
  (∀ c d : Nat, c < d → d < s.2.1 → s.2.2.1 c < s.2.2.1 d)
theorem clIn_ok {N : Nat} {m : Nat → Nat → Nat} (h : IsG N m) {k r : Nat} (hk : k < N) {f : Nat → Int} (hf : ∀ x, x < N → f (tn N m k x) = -1) (hr : ∀ x, x < N → f x ≠ (r : Int)) : ∀ n, n ≤ N →
    (∀ x, x < N → (clIn N m k r n f).1 x = if (∃ y, y < n ∧ x = tn N m k y) then (r : Int) else f x) ∧ (clIn N m k r n f).2 = cntF (clIn N m k r n f).1 (r : Int) N ∧ ∀ c : Nat, c ≠ r → cntF (clIn N m k r n f).1 (c : Int) N = cntF f (c : Int) N := by
  intro n
  induction n with
  | zero =>
    intro _
    refine ⟨fun x hx => ?_, (cntF_0 f (r : Int) N hr).symm, fun c _ => rfl⟩
    rw [if_neg (by rintro ⟨y, hy, _⟩; omega)]; rfl
  | succ n ih =>
    intro hn
    obtain ⟨i1, i2, i3⟩ := ih (by omega)
    have e : clIn N m k r (n + 1) f = if (clIn N m k r n f).1 (tn N m k n) = -1 then (ups (clIn N m k r n f).1 (tn N m k n) (r : Int), (clIn N m k r n f).2 + 1) else clIn N m k r n f := rfl
    have ht := tn_lt h hk (show n < N by omega)
    rw [e]
    generalize clIn N m k r n f = q at *
    by_cases hq : q.1 (tn N m k n) = -1
    · rw [if_pos hq]
      refine ⟨fun x hx => ?_, ?_, fun c hc => ?_⟩
      · show ups q.1 (tn N m k n) (r : Int) x = _
        by_cases hx2 : x = tn N m k n
        · rw [hx2, ups_s, if_pos ⟨n, by omega, rfl⟩]
        · rw [ups_n _ _ hx2, i1 x hx]
          by_cases hex : ∃ y, y < n ∧ x = tn N m k y
          · obtain ⟨y, hy, hxy⟩ := hex
            rw [if_pos ⟨y, hy, hxy⟩, if_pos ⟨y, by omega, hxy⟩]
          · rw [if_neg hex, if_neg]
            rintro ⟨y, hy, hxy⟩
            by_cases hyn : y = n
            · exact hx2 (by rw [hxy, hyn])
            · exact hex ⟨y, by omega, hxy⟩
      · show q.2 + 1 = cntF (ups q.1 (tn N m k n) (r : Int)) (r : Int) N
        rw [cntF_new q.1 (r : Int) _ (by rw [hq]; omega) N ht, i2]
      · show cntF (ups q.1 (tn N m k n) (r : Int)) (c : Int) N = _
        rw [cntF_old q.1 (c : Int) (r : Int) _ (by rw [hq]; omega) (by omega) N]
        exact i3 c hc
    · rw [if_neg hq]
      refine ⟨fun x hx => ?_, i2, i3⟩
      rw [i1 x hx]
      have hex0 : ∃ y, y < n ∧ tn N m k n = tn N m k y := by
        have := i1 _ ht
        by_cases hex : ∃ y, y < n ∧ tn N m k n = tn N m k y
        · exact hex
        · rw [if_neg hex, hf n (by omega)] at this
          exact absurd this hq
      by_cases hex : ∃ y, y < n ∧ x = tn N m k y
      · obtain ⟨y, hy, hxy⟩ := hex
        rw [if_pos ⟨y, hy, hxy⟩, if_pos ⟨y, by omega, hxy⟩]
      · rw [if_neg hex, if_neg]
        rintro ⟨y, hy, hxy⟩
        by_cases hyn : y = n
        · obtain ⟨z, hz, hz2⟩ := hex0
          exact hex ⟨z, hz, by rw [hxy, hyn, hz2]⟩
        · exact hex ⟨y, by omega, hxy⟩
theorem clAll_ok {N : Nat} {m : Nat → Nat → Nat} (h : IsG N m) : ∀ n, n ≤ N → ClI N m n (clAll N m n) := by
  intro n
  induction n with
  | zero =>
    intro _
    refine ⟨fun k _ => .inl rfl, fun k hk => absurd hk (by omega), fun c hc => absurd hc (by show ¬ c < 0; omega), fun a x _ _ => rfl, fun a b _ _ h1 => absurd rfl h1, fun c hc => absurd hc (by show ¬ c < 0; omega), fun c d _ hd => absurd hd (by show ¬ d < 0; omega)⟩
  | succ n ih =>
    intro hn
    obtain ⟨i1, i2, i3, i4, i5, i6, i7⟩ := ih (by omega)
    have hnN : n < N := by omega
    have e : clAll N m (n + 1) = clOne N m n (clAll N m n) := rfl
    rw [e]
    generalize clAll N m n = s at *
    unfold clOne
    by_cases hs : s.1 n = -1
    · rw [if_pos hs]
      obtain ⟨j1, j2, j3⟩ := clIn_ok h hnN (r := s.2.1) (f := s.1) (fun x hx => by rw [i4 n x hnN hx]; exact hs) (fun x hx => by rcases i1 x hx with h9 | h9 <;> omega) N (Nat.le_refl _)
      generalize clIn N m n s.2.1 N s.1 = q at *
      -- elements of the new class are the turned ones
      have jr : ∀ x, x < N → (q.1 x = (s.2.1 : Int) ↔ ∃ y, y < N ∧ x = tn N m n y) := by
        intro x hx
        rw [j1 x hx]
        by_cases hex : ∃ y, y < N ∧ x = tn N m n y
        · rw [if_pos hex]; exact ⟨fun _ => hex, fun _ => rfl⟩
        · rw [if_neg hex]
          refine ⟨fun h9 => ?_, fun h9 => absurd h9 hex⟩
          rcases i1 x hx with h8 | h8 <;> omega
      have jn : ∀ x, x < N → q.1 x ≠ (s.2.1 : Int) → q.1 x = s.1 x := by
        intro x hx hne
        have h9 := j1 x hx
        by_cases hex : ∃ y, y < N ∧ x = tn N m n y
        · exact absurd ((jr x hx).mpr hex) hne
        · rw [if_neg hex] at h9; exact h9
      refine ⟨fun k hk => ?_, fun k hk => ?_, fun c hc => ?_, fun a x ha hx => ?_, fun a b ha hb h1 h2 => ?_, fun c hc => ?_, fun c d hcd hd => ?_⟩
      · show q.1 k = -1 ∨ (0 ≤ q.1 k ∧ q.1 k < ((s.2.1 + 1 : Nat) : Int))
        by_cases hk2 : q.1 k = (s.2.1 : Int)
        · right; omega
        · rw [jn k hk hk2]
          rcases i1 k hk with h9 | h9
          · exact .inl h9
          · right; omega
      · show q.1 k ≠ -1
        by_cases hk2 : q.1 k = (s.2.1 : Int)
        · rw [hk2]; omega
        · rw [jn k (by omega) hk2]
          by_cases hkn : k = n
          · exact absurd ((jr k (by omega)).mpr ⟨0, h.1, by rw [hkn, tn_id h hnN]⟩) hk2
          · exact i2 k (by omega)
      · show ∃ l : Nat, ups s.2.2.1 s.2.1 (n : Int) c = (l : Int) ∧ l < n + 1 ∧ q.1 l = (c : Int) ∧ ∀ k, k < N → q.1 k = (c : Int) → l ≤ k
        have hc' : c < s.2.1 + 1 := hc
        by_cases hcr : c = s.2.1
        · subst hcr
          refine ⟨n, ups_s _ _ _, by omega, (jr n hnN).mpr ⟨0, h.1, (tn_id h hnN).symm⟩, fun k hk hqk => ?_⟩
          obtain ⟨y, hy, hky⟩ := (jr k hk).mp hqk
          apply Nat.not_lt.mp
          intro hlt
          refine i2 k hlt ?_
          rw [hky, i4 n y hnN hy]; exact hs
        · obtain ⟨l, l1, l2, l3, l4⟩ := i3 c (by omega)
          have hl : q.1 l = s.1 l := jn l (by omega) (fun h9 => by
            have h8 := j1 l (by omega)
            by_cases hex : ∃ y, y < N ∧ l = tn N m n y
            · obtain ⟨y, hy, hly⟩ := hex
              have := i4 n y hnN hy
              rw [← hly] at this
              omega
            · rw [if_neg hex] at h8; omega)
          refine ⟨l, by rw [ups_n _ _ hcr]; exact l1, by omega, by rw [hl]; exact l3, fun k hk hqk => ?_⟩
          refine l4 k hk ?_
          rw [← jn k hk (by omega)]; exact hqk
      · show q.1 (tn N m a x) = q.1 a
        have hta := tn_lt h ha hx
        by_cases haq : q.1 a = (s.2.1 : Int)
        · obtain ⟨y, hy, hay⟩ := (jr a ha).mp haq
          rw [haq]
          refine (jr _ hta).mpr ⟨m y x, h.2.1 _ _ hy hx, ?_⟩
          rw [hay, tn_tn h hnN hy hx]
        · by_cases htq : q.1 (tn N m a x) = (s.2.1 : Int)
          · obtain ⟨y, hy, hty⟩ := (jr _ hta).mp htq
            refine absurd ((jr a ha).mpr ⟨m y (iv N m x), h.2.1 _ _ hy (iv_lt h hx), ?_⟩) haq
            rw [← tn_tn h hnN hy (iv_lt h hx), ← hty, tn_back h ha hx]
          · rw [jn _ hta htq, jn a ha haq]; exact i4 a x ha hx
      · have h1' : q.1 a ≠ -1 := h1
        have h2' : q.1 a = q.1 b := h2
        by_cases haq : q.1 a = (s.2.1 : Int)
        · obtain ⟨y, hy, hay⟩ := (jr a ha).mp haq
          obtain ⟨z, hz, hbz⟩ := (jr b hb).mp (h2' ▸ haq)
          refine ⟨m (iv N m y) z, h.2.1 _ _ (iv_lt h hy) hz, ?_⟩
          rw [← tn_tn h ha (iv_lt h hy) hz, hay, tn_back h hnN hy, hbz]
        · have hbq : q.1 b ≠ (s.2.1 : Int) := fun h9 => haq (h2'.trans h9)
          rw [jn a ha haq] at h1' h2'
          rw [jn b hb hbq] at h2'
          exact i5 a b ha hb h1' h2'
      · show ups s.2.2.2.1 s.2.1 (q.2 : Int) c = (cntF q.1 (c : Int) N : Int)
        have hc' : c < s.2.1 + 1 := hc
        by_cases hcr : c = s.2.1
        · subst hcr
          rw [ups_s, j2]
        · rw [ups_n _ _ hcr, j3 c hcr]; exact i6 c (by omega)
      · show ups s.2.2.1 s.2.1 (n : Int) c < ups s.2.2.1 s.2.1 (n : Int) d
        have hd' : d < s.2.1 + 1 := hd
        by_cases hdr : d = s.2.1
        · obtain ⟨l, l1, l2, l3, l4⟩ := i3 c (by omega)
          rw [hdr, ups_s, ups_n _ _ (by omega), l1]; omega
        · rw [ups_n _ _ hdr, ups_n _ _ (by omega)]; exact i7 c d hcd (by omega)
    · rw [if_neg hs]
      refine ⟨i1, fun k hk => ?_, fun c hc => ?_, i4, i5, i6, i7⟩
      · by_cases hkn : k = n
        · rw [hkn]; exact hs
        · exact i2 k (by omega)
      · obtain ⟨l, l1, l2, l3, l4⟩ := i3 c hc
        exact ⟨l, l1, by omega, l3, l4⟩
