/-! ===== what two elements make, by traces ===== -/
def stp (D : Int) (t1 t2 t3 : P2) (b : Bool) (T : P8) : P8 := if b then stY D t1 t2 t3 T else stX D t1 T
/-- z times a word -/
def zw (m : Nat → Nat → Nat) (x y z : Nat) (w : List Bool) : Nat := w.foldl (fun k b => m k (if b then y else x)) z
section SG2
variable {D : Int} {N : Nat} {m : Nat → Nat → Nat} {t : Nat → P2}
theorem zw_lt (hI : IsG N m) {x y : Nat} (hx : x < N) (hy : y < N) : ∀ (w : List Bool) (z : Nat), z < N → zw m x y z w < N := by
  intro w
  induction w with
  | nil => intro z hz; exact hz
  | cons b w ih =>
    intro z hz
    exact ih _ (hI.2.1 _ _ hz (by cases b <;> assumption))
theorem zw_app (m : Nat → Nat → Nat) (x y z : Nat) (v w : List Bool) : zw m x y z (v ++ w) = zw m x y (zw m x y z v) w := List.foldl_append
theorem zw_mul (hI : IsG N m) {x y : Nat} (hx : x < N) (hy : y < N) : ∀ (w : List Bool) (z u : Nat), z < N → u < N → zw m x y (m z u) w = m z (zw m x y u w) := by
  intro w
  induction w with
  | nil => intro z u _ _; rfl
  | cons b w ih =>
    intro z u hz hu
    have hb : (if b then y else x) < N := by cases b <;> assumption
    show zw m x y (m (m z u) (if b then y else x)) w = m z (zw m x y (m u (if b then y else x)) w)
    rw [hI.2.2.2.1 _ _ _ hz hu hb]
    exact ih z _ hz (hI.2.1 _ _ hu hb)
theorem zw_0 (hI : IsG N m) {x y : Nat} (hx : x < N) (hy : y < N) (w : List Bool) {z : Nat} (hz : z < N) : zw m x y z w = m z (zw m x y 0 w) := by
  have := zw_mul hI hx hy w z 0 hz hI.1
  rw [(hI.2.2.1 z hz).2] at this
  exact this
theorem TG.tw (h : TG D N m t) {x y : Nat} (hx : x < N) (hy : y < N) : ∀ (w : List Bool) (z : Nat), z < N → TV m t x y (zw m x y z w) = w.foldl (fun T b => stp D (t x) (t y) (t (m x y)) b T) (TV m t x y z) := by
  intro w
  induction w with
  | nil => intro z _; rfl
  | cons b w ih =>
    intro z hz
    have hb : (if b then y else x) < N := by cases b <;> assumption
    show TV m t x y (zw m x y (m z (if b then y else x)) w) = w.foldl _ (stp D (t x) (t y) (t (m x y)) b (TV m t x y z))
    rw [ih _ (h.1.2.1 _ _ hz hb)]
    congr 1
    cases b
    · exact h.tx hx hy hz
    · exact h.ty hx hy hz
/-- a word's inverse is one -/
theorem zw_inv (hI : IsG N m) {x y : Nat} (hx : x < N) (hy : y < N) (w : List Bool) : ∃ v, zw m x y 0 v = iv N m (zw m x y 0 w) := by
  have hw := zw_lt hI hx hy w 0 hI.1
  have hp : ∀ n, ∃ v, zw m x y 0 v = pwr m (zw m x y 0 w) n := by
    intro n
    induction n with
    | zero => exact ⟨[], rfl⟩
    | succ n ih =>
      obtain ⟨v, e⟩ := ih
      refine ⟨v ++ w, ?_⟩
      rw [zw_app, e, zw_0 hI hx hy w (pwr_lt hI hw n)]
      rfl
  exact hp _
/-- whoever has a word's traces is that word -/
theorem TG.inj (h : TG D N m t) {x y z : Nat} (hx : x < N) (hy : y < N) (hz : z < N) (w : List Bool) (e : TV m t x y z = TV m t x y (zw m x y 0 w)) : z = zw m x y 0 w := by
  have hI := h.1
  have hw := zw_lt hI hx hy w 0 hI.1
  obtain ⟨v, ev⟩ := zw_inv hI hx hy w
  have e1 := h.tw hx hy v z hz
  have e2 := h.tw hx hy v _ hw
  rw [e, ← e2] at e1
  have e3 : t (zw m x y z v) = t (zw m x y (zw m x y 0 w) v) := congrArg Prod.fst e1
  rw [zw_0 hI hx hy v hz, zw_0 hI hx hy v hw, ev, iv_r hI hw, h.2.1] at e3
  have e4 := h.2.2.1 _ (hI.2.1 _ _ hz (iv_lt hI hw)) e3
  have := iv_un hI hz (iv_lt hI hw) e4
  rw [← iv_iv hI hz, ← this, iv_iv hI hw]
/-! what a pair with these traces makes: by parents and makers -/
def ths (D : Int) (t1 t2 t3 : P2) (G : List (Nat × Bool)) : List P8 := G.foldl (fun L q => L ++ [stp D t1 t2 t3 q.2 (L.getD q.1 ((0, 0), (0, 0), (0, 0), (0, 0)))]) [((4, 0), t1, t2, t3)]
def phs (m : Nat → Nat → Nat) (x y : Nat) (G : List (Nat × Bool)) : List Nat := G.foldl (fun L q => L ++ [m (L.getD q.1 0) (if q.2 then y else x)]) [0]
def gok : Nat → List (Nat × Bool) → Prop
  | _, [] => True
  | n, q :: G => q.1 < n ∧ gok (n + 1) G
theorem getD_lt9 {α : Type} {l m : List α} {k : Nat} {d : α} (h : k < l.length) : (l ++ m).getD k d = l.getD k d := by
  rw [List.getD_eq_getElem?_getD, List.getD_eq_getElem?_getD, List.getElem?_append_left h]
theorem getD_end9 {α : Type} {l : List α} {v d : α} : (l ++ [v]).getD l.length d = v := by
  rw [List.getD_eq_getElem?_getD, List.getElem?_append_right (Nat.le_refl _), Nat.sub_self]; rfl
theorem ths_phs (h : TG D N m t) {x y : Nat} (hx : x < N) (hy : y < N) : ∀ (G : List (Nat × Bool)) (L : List P8) (K : List Nat), gok L.length G → L.length = K.length →
    (∀ k, k < K.length → (∃ w, K.getD k 0 = zw m x y 0 w) ∧ TV m t x y (K.getD k 0) = L.getD k ((0, 0), (0, 0), (0, 0), (0, 0))) →
    let L' := G.foldl (fun L q => L ++ [stp D (t x) (t y) (t (m x y)) q.2 (L.getD q.1 ((0, 0), (0, 0), (0, 0), (0, 0)))]) L
    let K' := G.foldl (fun L q => L ++ [m (L.getD q.1 0) (if q.2 then y else x)]) K
    L'.length = L.length + G.length ∧ L'.length = K'.length ∧ ∀ k, k < K'.length → (∃ w, K'.getD k 0 = zw m x y 0 w) ∧ TV m t x y (K'.getD k 0) = L'.getD k ((0, 0), (0, 0), (0, 0), (0, 0)) := by
  intro G
  induction G with
  | nil => intro L K _ hl hv; exact ⟨rfl, hl, hv⟩
  | cons q G ih =>
    intro L K hg hl hv
    obtain ⟨g1, g2⟩ := hg
    have r := ih (L ++ [stp D (t x) (t y) (t (m x y)) q.2 (L.getD q.1 ((0, 0), (0, 0), (0, 0), (0, 0)))]) (K ++ [m (K.getD q.1 0) (if q.2 then y else x)]) (by rw [List.length_append]; exact g2) (by rw [List.length_append, List.length_append, hl]; rfl) (fun k hk => by
      rw [List.length_append] at hk
      have hk2 : k < K.length + 1 := hk
      by_cases hlt : k < K.length
      · rw [getD_lt9 hlt, getD_lt9 (by omega)]
        exact hv k hlt
      · have : k = K.length := by omega
        subst this
        rw [getD_end9]
        have e9 : (L ++ [stp D (t x) (t y) (t (m x y)) q.2 (L.getD q.1 ((0, 0), (0, 0), (0, 0), (0, 0)))]).getD K.length ((0, 0), (0, 0), (0, 0), (0, 0)) = stp D (t x) (t y) (t (m x y)) q.2 (L.getD q.1 ((0, 0), (0, 0), (0, 0), (0, 0))) := by rw [← hl, getD_end9]
        rw [e9]
        obtain ⟨⟨w, ew⟩, e⟩ := hv q.1 (by omega)
        have hlt := zw_lt h.1 hx hy w 0 h.1.1
        refine ⟨⟨w ++ [q.2], ?_⟩, ?_⟩
        · rw [zw_app, ← ew]; rfl
        · rw [← e, ew]
          cases q.2
          · exact h.tx hx hy hlt
          · exact h.ty hx hy hlt)
    refine ⟨?_, r.2⟩
    have := r.1
    rw [List.length_append] at this
    refine this.trans ?_
    show L.length + 1 + G.length = L.length + (G.length + 1)
    omega
end SG2
