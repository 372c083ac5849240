/-! ===== who commutes is cyclic ===== -/
def cyL (D : Int) (a : P2) : Nat → P2 → P2 → List P2
  | 0, _, _ => []
  | f + 1, u, v => u :: cyL D a f v (sb (tp D v a) u)
def ordT (D : Int) (u : P2) : Nat := match trO D u.1 u.2 with
  | some k => k
  | none => 0
def chkCy (D : Int) : Bool := (TRL D).all fun a => (TRL D).all fun b => (TRL D).all fun c => !decide (cmX D a b c = (4, 0)) || (cyL D a 12 b c).contains (4, 0) || (cyL D a 12 b c).any (fun u => !(TRL D).contains u || decide (ordT D a < ordT D u))
theorem cy2 : chkCy 2 = true := by decide +kernel
theorem cy3 : chkCy 3 = true := by decide +kernel
theorem cy5 : chkCy 5 = true := by decide +kernel
section SG8
variable {D : Int} {N : Nat} {m : Nat → Nat → Nat} {t : Nat → P2}
theorem TG.cyl (h : TG D N m t) {g : Nat} (hg : g < N) : ∀ (f z : Nat), z < N → ∀ u ∈ cyL D (t g) f (t z) (t (m z g)), ∃ k, u = t (m z (pwr m g k)) := by
  have hI := h.1
  intro f
  induction f with
  | zero => intro z _ u hu; exact absurd hu List.not_mem_nil
  | succ f ih =>
    intro z hz u hu
    have hu2 : u ∈ t z :: cyL D (t g) f (t (m z g)) (sb (tp D (t (m z g)) (t g)) (t z)) := hu
    rw [List.mem_cons] at hu2
    rcases hu2 with e | hu2
    · exact ⟨0, by rw [e]; show _ = t (m z 0); rw [(hI.2.2.1 z hz).2]⟩
    · rw [← h.xx hz hg] at hu2
      have zg := hI.2.1 _ _ hz hg
      obtain ⟨k, e⟩ := ih (m z g) zg u hu2
      refine ⟨k + 1, ?_⟩
      rw [e, hI.2.2.2.1 _ _ _ hz hg (pwr_lt hI hg k)]
      have : m g (pwr m g k) = pwr m g (k + 1) := by
        have e1 := pwr_add hI hg 1 k
        rw [pwr_1 hI hg, show 1 + k = k + 1 by omega] at e1
        exact e1.symm
      rw [this]
theorem TGd.cyc (h : TGd D N m t) (ho : ∀ k, k < N → trO D (t k).1 (t k).2 = some (od N m k)) (hc : chkCy D = true) (hcm : ∀ x y, x < N → y < N → m x y = m y x) : ∃ g, g < N ∧ ∀ z, z < N → ∃ k, z = pwr m g k := by
  have hI := h.1.1
  obtain ⟨g, hg, eg⟩ := lng_at hI N (Nat.le_refl _) hI.1
  refine ⟨g, hg, fun z hz => ?_⟩
  have gz9 := hI.2.1 _ _ hg hz
  have q1 := List.all_eq_true.mp hc _ (h.2 g hg)
  have q2 := List.all_eq_true.mp q1 _ (h.2 z hz)
  have q3 := List.all_eq_true.mp q2 _ (h.2 _ gz9)
  have ecm : cmX D (t g) (t z) (t (m g z)) = (4, 0) := by
    rw [← h.1.com hg hz, hcm z g hz hg, iv_l hI gz9]
    exact h.1.2.1
  have odT : ∀ k, k < N → ordT D (t k) = od N m k := fun k hk => by
    unfold ordT
    rw [ho k hk]
  have inv : ∀ k, ∃ j, iv N m (pwr m g k) = pwr m g j := fun k => by
    have hp := pwr_lt hI hg k
    have hq : ∀ n, ∃ j, pwr m (pwr m g k) n = pwr m g j := by
      intro n
      induction n with
      | zero => exact ⟨0, rfl⟩
      | succ n ih =>
        obtain ⟨j, e⟩ := ih
        refine ⟨j + k, ?_⟩
        show m (pwr m (pwr m g k) n) (pwr m g k) = _
        rw [e, pwr_add hI hg]
    exact hq _
  rw [Bool.or_eq_true, Bool.or_eq_true, decide_eq_true ecm] at q3
  rw [hcm g z hg hz] at q3
  rcases q3 with (q3 | q3) | q3
  · exact absurd q3 (by decide)
  · obtain ⟨k, e⟩ := h.1.cyl hg 12 z hz _ (List.contains_iff_mem.mp q3)
    have hp := pwr_lt hI hg k
    have e0 := h.1.2.2.1 _ (hI.2.1 _ _ hz hp) e.symm
    have e1 := iv_un hI hz hp e0
    obtain ⟨j, ej⟩ := inv k
    refine ⟨j, ?_⟩
    rw [← ej, e1, iv_iv hI hz]
  · obtain ⟨u, hu, hz2⟩ := List.any_eq_true.mp q3
    obtain ⟨k, e⟩ := h.1.cyl hg 12 z hz _ hu
    have hzp := hI.2.1 _ _ hz (pwr_lt hI hg k)
    exfalso
    rw [Bool.or_eq_true] at hz2
    rcases hz2 with hz2 | hz2
    · rw [e, List.contains_iff_mem.mpr (h.2 _ hzp)] at hz2
      exact absurd hz2 (by decide)
    · rw [decide_eq_true_eq, e, odT g hg, odT _ hzp] at hz2
      have := lng_ge (N := N) (m := m) N hzp
      omega
/-- .. of its powers -/
theorem TG.cyI (h : TG D N m t) {g : Nat} (hg : g < N) (hz : ∀ z, z < N → ∃ k, z = pwr m g k) : ISO N m t (od N m g) (fun k l => (k + l) % od N m g) (fun k => t (pwr m g k)) := by
  have hI := h.1
  have o := od_s hI hg
  have inj : ∀ k l, k < od N m g → l < od N m g → pwr m g k = pwr m g l → k = l := fun k l hk hl e => by
    apply Classical.byContradiction
    intro hne
    by_cases hlt : k < l
    · exact pwr_inj hI hg hlt hl e
    · exact pwr_inj hI hg (show l < k by omega) hk e.symm
  have hN : N = od N m g := by
    apply Nat.le_antisymm
    · have ex : ∀ z, z < N → ∃ k, k < od N m g ∧ pwr m g k = z := fun z hz9 => by
        obtain ⟨n, e⟩ := hz z hz9
        obtain ⟨j, hj, e2⟩ := pwr_od hI hg n
        exact ⟨j, hj, by rw [e, e2]⟩
      refine inj_le (s := fun z => theN (fun k => k < od N m g ∧ pwr m g k = z)) (fun z hz9 => (theN_of (ex z hz9)).1) (fun z z2 h1 h2 e => ?_)
      rw [← (theN_of (ex z h1)).2, ← (theN_of (ex z2 h2)).2]
      exact congrArg (pwr m g) e
    · exact o.2.1
  have per : ∀ n, pwr m g (n % od N m g) = pwr m g n := fun n => by
    have e := Nat.div_add_mod n (od N m g)
    have z : ∀ q, pwr m g (od N m g * q) = 0 := by
      intro q
      induction q with
      | zero => rfl
      | succ q ih =>
        rw [Nat.mul_succ, pwr_add hI hg, ih, o.2.2.1, (hI.2.2.1 0 hI.1).1]
    have := pwr_add hI hg (od N m g * (n / od N m g)) (n % od N m g)
    rw [z, (hI.2.2.1 _ (pwr_lt hI hg _)).1, e] at this
    exact this.symm
  refine ⟨fun k => pwr m g k, hN, rfl, fun k _ => pwr_lt hI hg k, inj, fun k l hk hl => ⟨Nat.mod_lt _ o.1, ?_⟩, fun k _ => rfl⟩
  show m (pwr m g k) (pwr m g l) = pwr m g ((k + l) % od N m g)
  rw [per, pwr_add hI hg]
end SG8
