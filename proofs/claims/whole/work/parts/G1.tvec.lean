/-! ===== traces with two elements ===== -/
def sb (p q : P2) : P2 := (p.1 - q.1, p.2 - q.2)
def ad2 (p q : P2) : P2 := (p.1 + q.1, p.2 + q.2)
def hf (p : P2) : P2 := (p.1 / 2, p.2 / 2)
/-- the product of two traces -/
def tp (D : Int) (p q : P2) : P2 := hf (sr D p q)
abbrev P8 : Type := P2 × P2 × P2 × P2
def TV (m : Nat → Nat → Nat) (t : Nat → P2) (x y z : Nat) : P8 := (t z, t (m z x), t (m z y), t (m z (m x y)))
def aX (D : Int) (t1 : P2) (T : P8) : P2 := sb (tp D T.1 t1) T.2.1
def stX (D : Int) (t1 : P2) (T : P8) : P8 := (T.2.1, sb (tp D T.2.1 t1) T.1, T.2.2.2, sb (tp D T.2.2.2 t1) T.2.2.1)
def stY (D : Int) (t1 t2 t3 : P2) (T : P8) : P8 :=
  (T.2.2.1, sb (tp D T.2.2.1 t1) (sb (tp D (aX D t1 T) t2) (sb (tp D T.1 t3) T.2.2.2)), sb (tp D T.2.2.1 t2) T.1, sb (tp D T.2.2.1 t3) (aX D t1 T))
def cmX (D : Int) (t1 t2 t3 : P2) : P2 := sb (tp D t3 t3) (sb (tp D (sb (tp D t3 t1) t2) t2) (sb (tp D t1 t1) (4, 0)))
/-- the norm's equation -/
def okR (D : Int) (t1 t2 t3 : P2) (T : P8) : Prop :=
  tp D T.2.2.2 (stY D t1 t2 t3 T).2.1 = ad2 (sb (tp D T.2.1 (stY D t1 t2 t3 T).2.2.2) (sb (tp D (sb (tp D T.1 t2) T.2.2.1) T.2.2.1) (sb (tp D T.1 T.1) (4, 0)))) (cmX D t1 t2 t3)
section SG1
variable {D : Int} {N : Nat} {m : Nat → Nat → Nat} {t : Nat → P2}
theorem FEq.l {a b p q : P2} (h : FEq D a b p q) : a = sb (tp D p q) b := by
  unfold FEq at h
  unfold sb tp hf
  refine P2_ext ?_ ?_
  · dsimp only; omega
  · dsimp only; omega
theorem FEq.r {a b p q : P2} (h : FEq D a b p q) : b = sb (tp D p q) a := by
  unfold FEq at h
  unfold sb tp hf
  refine P2_ext ?_ ?_
  · dsimp only; omega
  · dsimp only; omega
theorem FEq.s {a b p q : P2} (h : FEq D a b p q) : tp D p q = ad2 a b := by
  unfold FEq at h
  unfold ad2 tp hf
  refine P2_ext ?_ ?_
  · dsimp only; omega
  · dsimp only; omega
theorem TG.fe (h : TG D N m t) {k l : Nat} (hk : k < N) (hl : l < N) : t (m k l) = sb (tp D (t k) (t l)) (t (m k (iv N m l))) := (h.2.2.2 k l hk hl).l
theorem TG.fi (h : TG D N m t) {k l : Nat} (hk : k < N) (hl : l < N) : t (m k (iv N m l)) = sb (tp D (t k) (t l)) (t (m k l)) := (h.2.2.2 k l hk hl).r
/-- t(AB) + t(A^-1 B) -/
theorem TG.ab (h : TG D N m t) {a b : Nat} (ha : a < N) (hb : b < N) : FEq D (t (m a b)) (t (m (iv N m a) b)) (t a) (t b) := by
  have f := h.2.2.2 b a hb ha
  rw [h.cm hb ha, h.cm hb (iv_lt h.1 ha)] at f
  unfold FEq at f ⊢
  rw [sr_cm D (t a) (t b)]
  exact f
/-- z x x -/
theorem TG.xx (h : TG D N m t) {z x : Nat} (hz : z < N) (hx : x < N) : t (m (m z x) x) = sb (tp D (t (m z x)) (t x)) (t z) := by
  have hI := h.1
  have f := h.fe (hI.2.1 _ _ hz hx) hx
  rw [hI.2.2.2.1 z x _ hz hx (iv_lt hI hx), iv_r hI hx, (hI.2.2.1 z hz).2] at f
  exact f
theorem TG.tx (h : TG D N m t) {x y z : Nat} (hx : x < N) (hy : y < N) (hz : z < N) : TV m t x y (m z x) = stX D (t x) (TV m t x y z) := by
  have hI := h.1
  have as := hI.2.2.2.1
  have zx := hI.2.1 _ _ hz hx
  have xy := hI.2.1 _ _ hx hy
  have yz := hI.2.1 _ _ hy hz
  unfold TV stX
  dsimp only
  have e2 : t (m (m z x) y) = t (m z (m x y)) := by rw [as _ _ _ hz hx hy]
  have e3 : t (m (m z x) (m x y)) = sb (tp D (t (m z (m x y))) (t x)) (t (m z y)) := by
    have c1 : t (m (m z x) (m x y)) = t (m (m (m y z) x) x) := by
      rw [← as _ _ _ zx hx hy, h.cm (hI.2.1 _ _ zx hx) hy, as (m y z) x x yz hx hx, as y z _ hy hz (hI.2.1 _ _ hx hx), as z x x hz hx hx]
    rw [c1, h.xx yz hx]
    have c2 : t (m (m y z) x) = t (m z (m x y)) := by rw [as y z x hy hz hx, h.cm hy zx, as z x y hz hx hy]
    rw [c2, h.cm hy hz]
  rw [h.xx hz hx, e2, e3]
/-- z x^-1 -/
theorem TG.ax (h : TG D N m t) {x y z : Nat} (hx : x < N) (hz : z < N) : t (m z (iv N m x)) = aX D (t x) (TV m t x y z) := h.fi hz hx
/-- z y x -/
theorem TG.zyx (h : TG D N m t) {x y z : Nat} (hx : x < N) (hy : y < N) (hz : z < N) : t (m (m z y) x) = (stY D (t x) (t y) (t (m x y)) (TV m t x y z)).2.1 := by
  have hI := h.1
  have as := hI.2.2.2.1
  have xy := hI.2.1 _ _ hx hy
  have zy := hI.2.1 _ _ hz hy
  have ix := iv_lt hI hx
  have iy := iv_lt hI hy
  have ixz := hI.2.1 _ _ ix hz
  have e1 : t (m (m z y) (iv N m x)) = t (m (m (iv N m x) z) y) := by rw [h.cm zy ix, as _ _ _ ix hz hy]
  have e2 : t (m (m (iv N m x) z) (iv N m y)) = t (m z (iv N m (m x y))) := by
    rw [iv_mul hI hx hy, ← as _ _ _ hz iy ix, h.cm (hI.2.1 _ _ hz iy) ix, as _ _ _ ix hz iy]
  rw [h.fe zy hx, e1, h.fe ixz hy, e2, h.fi hz xy, h.cm ix hz, h.ax (y := y) hx hz]
  rfl
/-- z y x y -/
theorem TG.zyxy (h : TG D N m t) {x y z : Nat} (hx : x < N) (hy : y < N) (hz : z < N) : t (m (m z y) (m x y)) = (stY D (t x) (t y) (t (m x y)) (TV m t x y z)).2.2.2 := by
  have hI := h.1
  have as := hI.2.2.2.1
  have xy := hI.2.1 _ _ hx hy
  have zy := hI.2.1 _ _ hz hy
  have ix := iv_lt hI hx
  have iy := iv_lt hI hy
  have iz := iv_lt hI hz
  have e : t (m (iv N m (m z y)) (m x y)) = t (m z (iv N m x)) := by
    rw [iv_mul hI hz hy, as _ _ _ iy iz xy, h.cm iy (hI.2.1 _ _ iz xy), ← as _ _ _ iz hx hy, as _ _ _ (hI.2.1 _ _ iz hx) hy iy, iv_r hI hy, (hI.2.2.1 _ (hI.2.1 _ _ iz hx)).2]
    rw [← h.ivt (hI.2.1 _ _ iz hx), iv_mul hI iz hx, iv_iv hI hz, h.cm ix hz]
  have f := (h.ab zy xy).l
  rw [f, e, h.ax (y := y) hx hz]
  rfl
theorem TG.ty (h : TG D N m t) {x y z : Nat} (hx : x < N) (hy : y < N) (hz : z < N) : TV m t x y (m z y) = stY D (t x) (t y) (t (m x y)) (TV m t x y z) := by
  have e1 := h.zyx hx hy hz
  have e2 := h.zyxy hx hy hz
  have e3 := h.xx hz hy
  show (t (m z y), t (m (m z y) x), t (m (m z y) y), t (m (m z y) (m x y))) = _
  rw [e1, e2, e3]
  rfl
/-- y^-1 x^-1 y x -/
theorem TG.com (h : TG D N m t) {x y : Nat} (hx : x < N) (hy : y < N) : t (m (iv N m (m x y)) (m y x)) = cmX D (t x) (t y) (t (m x y)) := by
  have hI := h.1
  have as := hI.2.2.2.1
  have xy := hI.2.1 _ _ hx hy
  have yx := hI.2.1 _ _ hy hx
  have xx := hI.2.1 _ _ hx hx
  have f := (h.ab xy yx).r
  have e1 : t (m (m x y) (m y x)) = t (m (m (m x x) y) y) := by
    rw [← as _ _ _ xy hy hx, h.cm (hI.2.1 _ _ xy hy) hx, as x y y hx hy hy, ← as x x _ hx hx (hI.2.1 _ _ hy hy), ← as _ y y xx hy hy]
  have e2 : t (m (m x x) y) = sb (tp D (t (m x y)) (t x)) (t y) := by
    have := h.xx hy hx
    rw [← h.cm hx hy] at this
    rw [← this, as y x x hy hx hx, h.cm hy xx]
  have e3 : t (m x x) = sb (tp D (t x) (t x)) (4, 0) := by
    have := h.fe hx hx
    rw [iv_r hI hx, h.2.1] at this
    exact this
  rw [h.cm hy hx] at f
  rw [f, e1, h.xx xx hy, e2, e3]
  rfl
theorem TG.nrm (h : TG D N m t) {x y z : Nat} (hx : x < N) (hy : y < N) (hz : z < N) : okR D (t x) (t y) (t (m x y)) (TV m t x y z) := by
  have hI := h.1
  have as := hI.2.2.2.1
  have xy := hI.2.1 _ _ hx hy
  have yx := hI.2.1 _ _ hy hx
  have zx := hI.2.1 _ _ hz hx
  have zy := hI.2.1 _ _ hz hy
  have yz := hI.2.1 _ _ hy hz
  have xz := hI.2.1 _ _ hx hz
  have iz := iv_lt hI hz
  have iy := iv_lt hI hy
  have zxy := hI.2.1 _ _ hz xy
  have zyx := hI.2.1 _ _ zy hx
  have f := (h.ab zxy zyx).s
  -- A^-1 B
  have e1 : t (m (iv N m (m z (m x y))) (m (m z y) x)) = cmX D (t x) (t y) (t (m x y)) := by
    rw [← h.com hx hy, iv_mul hI hz xy, as _ _ _ (iv_lt hI xy) iz zyx, as z y x hz hy hx, ← as _ z _ iz hz yx, iv_l hI hz, (hI.2.2.1 _ yx).1]
  -- A B
  have yzy := hI.2.1 _ _ yz hy
  have e2 : t (m (m z (m x y)) (m (m z y) x)) = t (m (m x z) (m x (m (m y z) y))) := by
    have q1 : m (m z (m x y)) (m (m z y) x) = m (m z (m x (m (m y z) y))) x := by
      rw [← as _ (m z y) x zxy zy hx, as z (m x y) (m z y) hz xy zy, as x y (m z y) hx hy zy, ← as y z y hy hz hy]
    rw [q1, h.cm (hI.2.1 _ _ hz (hI.2.1 _ _ hx yzy)) hx, ← as x z _ hx hz (hI.2.1 _ _ hx yzy)]
  have g := (h.ab xz (hI.2.1 _ _ hx yzy)).l
  have e3 : t (m (iv N m (m x z)) (m x (m (m y z) y))) = t (m (m y (iv N m z)) (m y z)) := by
    rw [iv_mul hI hx hz, as _ _ _ iz (iv_lt hI hx) (hI.2.1 _ _ hx yzy), ← as _ x _ (iv_lt hI hx) hx yzy, iv_l hI hx, (hI.2.2.1 _ yzy).1, ← as _ _ _ iz yz hy, h.cm (hI.2.1 _ _ iz yz) hy, ← as _ _ _ hy iz yz]
  have k := (h.ab (hI.2.1 _ _ hy iz) yz).l
  have e4 : m (iv N m (m y (iv N m z))) (m y z) = m z z := by
    rw [iv_mul hI hy iz, iv_iv hI hz, as _ _ _ hz iy yz, ← as _ y z iy hy hz, iv_l hI hy, (hI.2.2.1 _ hz).1]
  have e5 : t (m z z) = sb (tp D (t z) (t z)) (4, 0) := by
    have := h.fe hz hz
    rw [iv_r hI hz, h.2.1] at this
    exact this
  have e6 : t (m y (iv N m z)) = sb (tp D (t z) (t y)) (t (m z y)) := by
    rw [← h.ivt (hI.2.1 _ _ hy iz), iv_mul hI hy iz, iv_iv hI hz, h.fi hz hy]
  have e7 : t (m x (m (m y z) y)) = (stY D (t x) (t y) (t (m x y)) (TV m t x y z)).2.2.2 := by
    rw [← h.zyxy hx hy hz]
    rw [as y z y hy hz hy, ← as x y _ hx hy zy, h.cm xy zy]
  rw [e4, e5, e6, h.cm hy hz] at k
  rw [e7, e3, k, h.cm hx hz] at g
  rw [e1, e2, g] at f
  unfold okR
  rw [← h.zyx hx hy hz]
  exact f
end SG1
