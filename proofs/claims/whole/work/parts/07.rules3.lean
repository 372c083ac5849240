/-! ===== rules of the nice machine: the heap ===== -/
theorem nad_inj {E : Ev} {a b : Nat} (ha : 16 ≤ a) (hb : 16 ≤ b) (h : nad E a = nad E b) : a = b := by unfold nad at h; omega
theorem nad_fre (E : Ev) (a : Nat) : fre E (nad E a) := Nat.le_add_right _ _
theorem rr_hi {E : Ev} {a : Nat} (ha : 16 ≤ a) : rr E a = .ref (nad E a) := by
  unfold rr
  rw [if_neg (by omega), if_neg (by omega)]
theorem cA.kept {E : Ev} {σ σ' : Sg} {H H' : Heap} {b : Nat} (h : cA E σ H b) (hS : gS σ' b = gS σ b) (hI : ∀ j, gI σ' b j = gI σ b j) (hR : ∀ j, gR σ' b j = gR σ b j) (hq : H'[nad E b]? = H[nad E b]?) : cA E σ' H' b := by
  unfold cA at h ⊢
  rw [hS, hq]
  have e : ∀ c, elv E σ' b c = elv E σ b c := fun c => by funext j; unfold elv; rw [hI, hR]
  have e2 : ∀ c j, elok σ' b c j = elok σ b c j := fun c j => by unfold elok; rw [hI]
  rw [e]
  exact ⟨h.1, fun j hj => by rw [e2]; exact h.2 j hj⟩
theorem cO.kept {E : Ev} {σ σ' : Sg} {H H' : Heap} {b : Nat} (h : cO E σ H b) (hS : gS σ' b = gS σ b) (hI : ∀ j, gI σ' b j = gI σ b j) (hR : ∀ j, gR σ' b j = gR σ b j) (hq : H'[nad E b]? = H[nad E b]?) : cO E σ' H' b := by
  obtain ⟨q, h1, h2, h3⟩ := h
  refine ⟨q, by rw [hS]; exact h1, ?_, fun k hk => ?_⟩
  · rw [hS]
    exact (h2.kept hq).to (fun k _ => by unfold fvl; rw [hI, hR])
  · unfold fok
    rw [hI]
    exact h3 k hk
theorem cK.kept {E : Ev} {σ σ' : Sg} {H H' : Heap} {b : Nat} (h : cK E σ H b) (hS : gS σ' b = gS σ b) (hI : ∀ j, gI σ' b j = gI σ b j) (hR : ∀ j, gR σ' b j = gR σ b j) (hq : H'[nad E b]? = H[nad E b]?) : cK E σ' H' b := by
  unfold cK
  rw [hS]
  exact ⟨fun z => (h.1 z).kept hS hI hR hq, fun z => (h.2 z).kept hS hI hR hq⟩
theorem Rel.put {E : Ev} {σ σ' : Sg} {H H' : Heap} {a : Nat} (h : Rel E σ H) (ha : 16 ≤ a) (z : H'.size = H.size) (oq : ∀ q, q ≠ nad E a → H'[q]? = H[q]?) (hg : gz σ' = gz σ) (hS : ∀ b, gS σ' b = gS σ b)
    (hI : ∀ b j, b ≠ a → gI σ' b j = gI σ b j) (hR : ∀ b j, b ≠ a → gR σ' b j = gR σ b j) (hc : cK E σ' H' a) : Rel E σ' H' := by
  obtain ⟨⟨l0, l1, l2⟩, h1, h2, h3, h4, h5, h6⟩ := h
  refine ⟨⟨l0, by rw [z]; exact l1, fun q hq => ?_⟩, by rw [hg]; exact h1, by rw [z, hg]; exact h2, fun b hb hbz => ?_, fun b hb => ⟨by rw [hS]; exact (h4 b hb).1, fun j => ?_⟩, fun b hb => by rw [hS]; exact h5 b (by rw [← hg]; exact hb), fun b hb => by rw [hS]; exact h6 b hb⟩
  · rw [oq q (by unfold nad; omega)]
    exact l2 q hq
  · by_cases hba : b = a
    · subst hba; exact hc
    · exact (h3 b hb (by rw [← hg]; exact hbz)).kept (hS b) (fun j => hI b j hba) (fun j => hR b j hba) (oq _ (fun w => hba (nad_inj hb ha w)))
  · rw [hI b j (by omega), hR b j (by omega)]
    exact (h4 b hb).2 j
theorem Rel.lt {E : Ev} {σ : Sg} {H : Heap} {a : Nat} (h : Rel E σ H) (hs : (gS σ a).1 ≠ 0) : a < gz σ := by
  rcases Nat.lt_or_ge a (gz σ) with z | z
  · exact z
  · rw [h.2.2.2.2.2.1 a z] at hs
    exact absurd rfl hs
theorem Rel.arr {E : Ev} {σ : Sg} {H : Heap} {a c : Nat} (h : Rel E σ H) (ha : 16 ≤ a) (hs : (gS σ a).1 = c) (hc : 20 ≤ c) (hc2 : c ≤ 24) : H[nad E a]? = some (arrV (eA E c) (gS σ a).2 (elv E σ a c)) ∧ ∀ j, j < (gS σ a).2 → elok σ a c j := by
  have h1 := (h.2.2.2.1 a ha (h.lt (by omega))).1 (by omega)
  unfold cA at h1
  rw [hs] at h1
  exact h1
theorem Rel.obj {E : Ev} {σ : Sg} {H : Heap} {a c : Nat} (h : Rel E σ H) (ha : 16 ≤ a) (hs : (gS σ a).1 = c + 1) (hc : c < 19) : ∃ q : vw_C, CLs[c]? = some q ∧ t_OB (nad E a) ((eD E).1 c) q.2.2 ((eD E).2 c) H (fvl E σ a q.2.1) ∧ ∀ k, k < q.2.2 → fok σ a q.2.1 k := by
  have h1 := (h.2.2.2.1 a ha (h.lt (by omega))).2 (by omega)
  unfold cO at h1
  rw [hs] at h1
  exact h1
theorem gI_sI (σ : Sg) (a k : Nat) (x : Int) (b j : Nat) : gI (sI σ a k x) b j = if b = a ∧ j = k then x else gI σ b j := rfl
theorem gR_sI (σ : Sg) (a k : Nat) (x : Int) (b j : Nat) : gR (sI σ a k x) b j = gR σ b j := rfl
theorem gS_sI (σ : Sg) (a k : Nat) (x : Int) (b : Nat) : gS (sI σ a k x) b = gS σ b := rfl
theorem gz_sI (σ : Sg) (a k : Nat) (x : Int) : gz (sI σ a k x) = gz σ := rfl
theorem gI_sR (σ : Sg) (a k r : Nat) (b j : Nat) : gI (sR σ a k r) b j = gI σ b j := rfl
theorem gR_sR (σ : Sg) (a k r : Nat) (b j : Nat) : gR (sR σ a k r) b j = if b = a ∧ j = k then r else gR σ b j := rfl
theorem gS_sR (σ : Sg) (a k r : Nat) (b : Nat) : gS (sR σ a k r) b = gS σ b := rfl
theorem gz_sR (σ : Sg) (a k r : Nat) : gz (sR σ a k r) = gz σ := rfl
theorem gI_eq (σ : Sg) (a k : Nat) (x : Int) : gI (sI σ a k x) a k = x := if_pos ⟨rfl, rfl⟩
theorem gI_ne (σ : Sg) {a k b j : Nat} (x : Int) (h : b ≠ a ∨ j ≠ k) : gI (sI σ a k x) b j = gI σ b j := if_neg (fun z => h.elim (fun w => w z.1) (fun w => w z.2))
theorem gR_eq (σ : Sg) (a k r : Nat) : gR (sR σ a k r) a k = r := if_pos ⟨rfl, rfl⟩
theorem gR_ne (σ : Sg) {a k b j : Nat} (r : Nat) (h : b ≠ a ∨ j ≠ k) : gR (sR σ a k r) b j = gR σ b j := if_neg (fun z => h.elim (fun w => w z.1) (fun w => w z.2))
/-- a store of a number into an array of its own kind -/
theorem Rel.stA {E : Ev} {σ : Sg} {H H' : Heap} {a c : Nat} (h : Rel E σ H) (ha : 16 ≤ a) (hs : (gS σ a).1 = c) (hc : 20 ≤ c) (hc2 : c ≤ 23) {j : Nat} {x : Int} (hj : j < (gS σ a).2) (hx : elok (sI σ a j x) a c j)
    (e : H'[nad E a]? = some ((arrV (eA E c) (gS σ a).2 (elv E σ a c)).setSlot j (elv E (sI σ a j x) a c j))) (z : H'.size = H.size) (oq : ∀ q, q ≠ nad E a → H'[q]? = H[q]?) : Rel E (sI σ a j x) H' := by
  refine h.put ha z oq rfl (fun _ => rfl) (fun b i hb => gI_ne _ _ (Or.inl hb)) (fun b i hb => rfl) ⟨fun _ => ?_, fun w => ?_⟩
  · unfold cA
    rw [gS_sI, hs, e, arrV_store]
    refine ⟨congrArg some (congrArg (arrV _ _) (funext fun i => ?_)), fun i hi => ?_⟩
    · by_cases hij : i = j
      · subst hij
        simp [updV]
      · simp only [updV, hij, if_false]
        unfold elv
        rw [gI_ne _ _ (Or.inr hij), gR_sI]
    · by_cases hij : i = j
      · subst hij; exact hx
      · have := (h.arr ha hs hc (by omega)).2 i hi
        unfold elok at this ⊢
        rw [gI_ne _ _ (Or.inr hij)]
        exact this
  · rw [gS_sI, hs] at w; omega
section R3
variable {E : Ev} {M : MD} {pc : Nat} {l : List (Option NV)} {st : List NV} {σ : Sg} {rc rs : Nat} {Q : NO → Sg → Prop}
/-- a place in an array of kind c, own or outer -/
def okA (c : Nat) (σ : Sg) (a : Nat) (j : Int) : Prop := ((16 ≤ a ∧ (gS σ a).1 = c) ∨ (0 < a ∧ a < 16 ∧ (gS σ a).1 = c + 10)) ∧ 0 ≤ j ∧ j < ((gS σ a).2 : Int)
/-- of kind c, own -/
def okB (c : Nat) (σ : Sg) (a : Nat) (j : Int) : Prop := 16 ≤ a ∧ (gS σ a).1 = c ∧ 0 ≤ j ∧ j < ((gS σ a).2 : Int)
theorem vp_inN {j : Int} {n : Nat} (hj : inR j) (h0 : 0 ≤ j) (h1 : j < (n : Int)) : ¬ (Int32.ofInt j < 0 ∨ n ≤ (Int32.ofInt j).toNatClampNeg) := ii_in hj h0 (by omega)
theorem r_iaload {a : Nat} {j : Int} (d : decode (dB M) pc = .ok (.iaload, 1)) (h : okA 20 σ a j) (k : GG E M (pc + 1) l (vi (gI σ a j.toNat) :: st) σ rc rs Q) : GG E M pc l (vi j :: vr a :: st) σ rc rs Q := by
  intro p e s m args below meth c H locs cells slots ls C K L hz hR hl hst hlo hc hs
  have hj : inR j := ok_hd hst
  obtain ⟨h0, h1, h2⟩ := h
  have hjn : j.toNat < (gS σ a).2 := by omega
  rcases h0 with ⟨ha, hk⟩ | ⟨ha0, ha, hk⟩
  · obtain ⟨hc1, hc2⟩ := hR.arr ha hk (by omega) (by omega)
    show W p (eL E) e (rmM M) s m args below meth c H locs cells slots (FQ E M below args s Q) (F0 m pc ls (.int (Int32.ofInt j) :: rr E a :: st.map (rv E)))
    rw [rr_hi ha]
    refine W.iald (v := .int (Int32.ofInt (gI σ a j.toNat))) C.1 C.2.1 hc1 ((K.2.1 20 (by omega) (by omega)).1 _ _) (fun q => by cases q) (by rw [arrV_size]; exact vp_inN hj h1 h2) (by rw [ii_cl hj h1, arrV_read _ _ hjn]; rfl) rfl rfl d ?_
    exact k p e s m args below meth c H locs cells slots ls C K L hz hR hl (ok_cons (hc2 _ hjn) (ok_tl (ok_tl hst))) hlo hc hs
  · have hx := hR.2.2.2.2.1 a ha
    obtain ⟨b, cell, hb, hbB, hcell, harr, hvm, hsz, hv⟩ := (K.2.2.1 a ha).1 (by rw [← hx.1]; exact hk)
    show W p (eL E) e (rmM M) s m args below meth c H locs cells slots (FQ E M below args s Q) (F0 m pc ls (.int (Int32.ofInt j) :: rr E a :: st.map (rv E)))
    have hrr : rr E a = .ref b := by unfold rr; rw [if_neg (by omega), if_pos ha, hb]
    rw [hrr]
    have hv' := hv j.toNat (by rw [← hx.1]; exact hjn)
    refine W.iald (v := .int (Int32.ofInt (gI σ a j.toNat))) C.1 C.2.1 (by rw [hR.1.2.2 b hbB]; exact hcell) harr hvm (by rw [hsz, ← hx.1]; exact vp_inN hj h1 h2) (by rw [ii_cl hj h1, (hx.2 _).1]; exact hv'.1) rfl rfl d ?_
    exact k p e s m args below meth c H locs cells slots ls C K L hz hR hl (ok_cons (by show inR _; rw [(hx.2 _).1]; exact hv'.2) (ok_tl (ok_tl hst))) hlo hc hs
theorem r_iastore {a : Nat} {j x : Int} (d : decode (dB M) pc = .ok (.iastore, 1)) (h : okB 20 σ a j) (k : GG E M (pc + 1) l st (sI σ a j.toNat x) rc rs Q) : GG E M pc l (vi x :: vi j :: vr a :: st) σ rc rs Q := by
  intro p e s m args below meth c H locs cells slots ls C K L hz hR hl hst hlo hc hs
  have hx : inR x := ok_hd hst
  have hj : inR j := ok_hd (ok_tl hst)
  obtain ⟨ha, hk, h1, h2⟩ := h
  have hjn : j.toNat < (gS σ a).2 := by omega
  obtain ⟨hc1, hc2⟩ := hR.arr ha hk (by omega) (by omega)
  show W p (eL E) e (rmM M) s m args below meth c H locs cells slots (FQ E M below args s Q) (F0 m pc ls (.int (Int32.ofInt x) :: .int (Int32.ofInt j) :: rr E a :: st.map (rv E)))
  rw [rr_hi ha]
  refine W.iast C.1 C.2.1 hc1 ((K.2.1 20 (by omega) (by omega)).1 _ _) (fun q => by cases q) (by rw [arrV_size]; exact vp_inN hj h1 h2) rfl rfl d fun H' e1 z oq => ?_
  rw [ii_cl hj h1] at e1 ⊢
  refine k p e s m args below meth c H' _ cells slots ls C K L (by rw [z]; exact hz) (hR.stA ha hk (by omega) (by omega) hjn (by show inR (gI (sI σ a j.toNat x) a j.toNat); rw [gI_eq]; exact hx) ?_ z oq) hl (ok_tl (ok_tl (ok_tl hst))) ?_ hc hs
  · rw [e1]
    show _ = some (Cell.setSlot _ _ (Value.int (Int32.ofInt (gI (sI σ a j.toNat x) a j.toNat))))
    rw [gI_eq]
  · intro q hq
    rcases List.mem_append.mp hq with w | w
    · exact hlo q w
    · rw [List.mem_singleton.mp w]; exact nad_fre E a
theorem r_laload {a : Nat} {j : Int} (d : decode (dB M) pc = .ok (.laload, 1)) (h : okB 23 σ a j) (k : GG E M (pc + 1) l (vl (gI σ a j.toNat) :: st) σ rc rs Q) : GG E M pc l (vi j :: vr a :: st) σ rc rs Q := by
  intro p e s m args below meth c H locs cells slots ls C K L hz hR hl hst hlo hc hs
  have hj : inR j := ok_hd hst
  obtain ⟨ha, hk, h1, h2⟩ := h
  have hjn : j.toNat < (gS σ a).2 := by omega
  obtain ⟨hc1, hc2⟩ := hR.arr ha hk (by omega) (by omega)
  show W p (eL E) e (rmM M) s m args below meth c H locs cells slots (FQ E M below args s Q) (F0 m pc ls (.int (Int32.ofInt j) :: rr E a :: st.map (rv E)))
  rw [rr_hi ha]
  refine W.lald (v := .long (Int64.ofInt (gI σ a j.toNat))) C.1 C.2.1 hc1 ((K.2.1 23 (by omega) (by omega)).1 _ _) (fun q => by cases q) (by rw [arrV_size]; exact vp_inN hj h1 h2) (by rw [ii_cl hj h1, arrV_read _ _ hjn]; rfl) rfl rfl d ?_
  exact k p e s m args below meth c H locs cells slots ls C K L hz hR hl (ok_cons (v := vl _) (hc2 _ hjn) (ok_tl (ok_tl hst))) hlo hc hs
theorem r_lastore {a : Nat} {j x : Int} (d : decode (dB M) pc = .ok (.lastore, 1)) (h : okB 23 σ a j) (k : GG E M (pc + 1) l st (sI σ a j.toNat x) rc rs Q) : GG E M pc l (vl x :: vi j :: vr a :: st) σ rc rs Q := by
  intro p e s m args below meth c H locs cells slots ls C K L hz hR hl hst hlo hc hs
  have hx : inL x := ok_hd hst
  have hj : inR j := ok_hd (ok_tl hst)
  obtain ⟨ha, hk, h1, h2⟩ := h
  have hjn : j.toNat < (gS σ a).2 := by omega
  obtain ⟨hc1, hc2⟩ := hR.arr ha hk (by omega) (by omega)
  show W p (eL E) e (rmM M) s m args below meth c H locs cells slots (FQ E M below args s Q) (F0 m pc ls (.long (Int64.ofInt x) :: .int (Int32.ofInt j) :: rr E a :: st.map (rv E)))
  rw [rr_hi ha]
  refine W.last C.1 C.2.1 hc1 ((K.2.1 23 (by omega) (by omega)).1 _ _) (fun q => by cases q) (by rw [arrV_size]; exact vp_inN hj h1 h2) rfl rfl d fun H' e1 z oq => ?_
  rw [ii_cl hj h1] at e1 ⊢
  refine k p e s m args below meth c H' _ cells slots ls C K L (by rw [z]; exact hz) (hR.stA ha hk (by omega) (by omega) hjn (by show inL (gI (sI σ a j.toNat x) a j.toNat); rw [gI_eq]; exact hx) ?_ z oq) hl (ok_tl (ok_tl (ok_tl hst))) ?_ hc hs
  · rw [e1]
    show _ = some (Cell.setSlot _ _ (Value.long (Int64.ofInt (gI (sI σ a j.toNat x) a j.toNat))))
    rw [gI_eq]
  · intro q hq
    rcases List.mem_append.mp hq with w | w
    · exact hlo q w
    · rw [List.mem_singleton.mp w]; exact nad_fre E a
/-- a byte -/
theorem r_baload {a : Nat} {j : Int} (d : decode (dB M) pc = .ok (.baload, 1)) (h : okA 21 σ a j) (k : GG E M (pc + 1) l (vi (gI σ a j.toNat) :: st) σ rc rs Q) : GG E M pc l (vi j :: vr a :: st) σ rc rs Q := by
  intro p e s m args below meth c H locs cells slots ls C K L hz hR hl hst hlo hc hs
  have hj : inR j := ok_hd hst
  obtain ⟨h0, h1, h2⟩ := h
  have hjn : j.toNat < (gS σ a).2 := by omega
  rcases h0 with ⟨ha, hk⟩ | ⟨ha0, ha, hk⟩
  · obtain ⟨hc1, hc2⟩ := hR.arr ha hk (by omega) (by omega)
    show W p (eL E) e (rmM M) s m args below meth c H locs cells slots (FQ E M below args s Q) (F0 m pc ls (.int (Int32.ofInt j) :: rr E a :: st.map (rv E)))
    rw [rr_hi ha]
    refine W.bald (v := .int (Int32.ofInt (gI σ a j.toNat))) C.1 C.2.1 hc1 ((K.2.1 21 (by omega) (by omega)).1 _ _) (fun q => by cases q) (by rw [arrV_size]; exact vp_inN hj h1 h2) (by rw [ii_cl hj h1, arrV_read _ _ hjn]; rfl) rfl rfl d ?_
    have h9 : -128 ≤ gI σ a j.toNat ∧ gI σ a j.toNat ≤ 127 := hc2 _ hjn
    exact k p e s m args below meth c H locs cells slots ls C K L hz hR hl (ok_cons (by show inR _; unfold inR; omega) (ok_tl (ok_tl hst))) hlo hc hs
  · have hx := hR.2.2.2.2.1 a ha
    obtain ⟨b, cell, hb, hbB, hcell, harr, hvm, hsz, hv⟩ := (K.2.2.1 a ha).2.1 (by rw [← hx.1]; exact hk)
    show W p (eL E) e (rmM M) s m args below meth c H locs cells slots (FQ E M below args s Q) (F0 m pc ls (.int (Int32.ofInt j) :: rr E a :: st.map (rv E)))
    have hrr : rr E a = .ref b := by unfold rr; rw [if_neg (by omega), if_pos ha, hb]
    rw [hrr]
    have hv' := hv j.toNat (by rw [← hx.1]; exact hjn)
    refine W.bald (v := .int (Int32.ofInt (gI σ a j.toNat))) C.1 C.2.1 (by rw [hR.1.2.2 b hbB]; exact hcell) harr hvm (by rw [hsz, ← hx.1]; exact vp_inN hj h1 h2) (by rw [ii_cl hj h1, (hx.2 _).1]; exact hv'.1) rfl rfl d ?_
    exact k p e s m args below meth c H locs cells slots ls C K L hz hR hl (ok_cons (by show inR _; rw [(hx.2 _).1]; exact hv'.2) (ok_tl (ok_tl hst))) hlo hc hs
theorem r_bastore {a : Nat} {j x : Int} (d : decode (dB M) pc = .ok (.bastore, 1)) (h : okB 21 σ a j) (hxb : -128 ≤ x ∧ x ≤ 127) (k : GG E M (pc + 1) l st (sI σ a j.toNat x) rc rs Q) : GG E M pc l (vi x :: vi j :: vr a :: st) σ rc rs Q := by
  intro p e s m args below meth c H locs cells slots ls C K L hz hR hl hst hlo hc hs
  have hx : inR x := ok_hd hst
  have hj : inR j := ok_hd (ok_tl hst)
  obtain ⟨ha, hk, h1, h2⟩ := h
  have hjn : j.toNat < (gS σ a).2 := by omega
  obtain ⟨hc1, hc2⟩ := hR.arr ha hk (by omega) (by omega)
  show W p (eL E) e (rmM M) s m args below meth c H locs cells slots (FQ E M below args s Q) (F0 m pc ls (.int (Int32.ofInt x) :: .int (Int32.ofInt j) :: rr E a :: st.map (rv E)))
  rw [rr_hi ha]
  have hn : narrow .byte (.int (Int32.ofInt x)) = .int (Int32.ofInt x) := by
    show Value.int ((Int32.ofInt x).toInt8.toInt32) = _
    refine congrArg Value.int (ii_of ?_)
    rw [Int8.toInt_toInt32, Int32.toInt_toInt8, ii_toInt hx, Int.bmod_def]
    omega
  refine W.bast C.1 C.2.1 hc1 ((K.2.1 21 (by omega) (by omega)).1 _ _) (fun q => by cases q) (by rw [arrV_size]; exact vp_inN hj h1 h2) rfl rfl d fun H' e1 z oq => ?_
  rw [ii_cl hj h1] at e1 ⊢
  rw [hn] at e1
  refine k p e s m args below meth c H' _ cells slots ls C K L (by rw [z]; exact hz) (hR.stA ha hk (by omega) (by omega) hjn (by show -128 ≤ gI (sI σ a j.toNat x) a j.toNat ∧ gI (sI σ a j.toNat x) a j.toNat ≤ 127; rw [gI_eq]; exact hxb) ?_ z oq) hl (ok_tl (ok_tl (ok_tl hst))) ?_ hc hs
  · rw [e1]
    show _ = some (Cell.setSlot _ _ (Value.int (Int32.ofInt (gI (sI σ a j.toNat x) a j.toNat))))
    rw [gI_eq]
  · intro q hq
    rcases List.mem_append.mp hq with w | w
    · exact hlo q w
    · rw [List.mem_singleton.mp w]; exact nad_fre E a
/-- a boolean -/
theorem r_zaload {a : Nat} {j : Int} (d : decode (dB M) pc = .ok (.baload, 1)) (h : okB 22 σ a j) (k : (gI σ a j.toNat = 0 ∨ gI σ a j.toNat = 1) → GG E M (pc + 1) l (vi (gI σ a j.toNat) :: st) σ rc rs Q) : GG E M pc l (vi j :: vr a :: st) σ rc rs Q := by
  intro p e s m args below meth c H locs cells slots ls C K L hz hR hl hst hlo hc hs
  have hj : inR j := ok_hd hst
  obtain ⟨ha, hk, h1, h2⟩ := h
  have hjn : j.toNat < (gS σ a).2 := by omega
  obtain ⟨hc1, hc2⟩ := hR.arr ha hk (by omega) (by omega)
  show W p (eL E) e (rmM M) s m args below meth c H locs cells slots (FQ E M below args s Q) (F0 m pc ls (.int (Int32.ofInt j) :: rr E a :: st.map (rv E)))
  rw [rr_hi ha]
  refine W.zald (v := .int (Int32.ofInt (gI σ a j.toNat))) C.1 C.2.1 hc1 ((K.2.1 22 (by omega) (by omega)).1 _ _) (fun q => by cases q) (by rw [arrV_size]; exact vp_inN hj h1 h2) (by rw [ii_cl hj h1, arrV_read _ _ hjn]; rfl) rfl rfl d ?_
  have h9 : gI σ a j.toNat = 0 ∨ gI σ a j.toNat = 1 := hc2 _ hjn
  exact k h9 p e s m args below meth c H locs cells slots ls C K L hz hR hl (ok_cons (by show inR _; unfold inR; omega) (ok_tl (ok_tl hst))) hlo hc hs
theorem r_zastore {a : Nat} {j x : Int} (d : decode (dB M) pc = .ok (.bastore, 1)) (h : okB 22 σ a j) (hxb : x = 0 ∨ x = 1) (k : GG E M (pc + 1) l st (sI σ a j.toNat x) rc rs Q) : GG E M pc l (vi x :: vi j :: vr a :: st) σ rc rs Q := by
  intro p e s m args below meth c H locs cells slots ls C K L hz hR hl hst hlo hc hs
  have hx : inR x := ok_hd hst
  have hj : inR j := ok_hd (ok_tl hst)
  obtain ⟨ha, hk, h1, h2⟩ := h
  have hjn : j.toNat < (gS σ a).2 := by omega
  obtain ⟨hc1, hc2⟩ := hR.arr ha hk (by omega) (by omega)
  show W p (eL E) e (rmM M) s m args below meth c H locs cells slots (FQ E M below args s Q) (F0 m pc ls (.int (Int32.ofInt x) :: .int (Int32.ofInt j) :: rr E a :: st.map (rv E)))
  rw [rr_hi ha]
  have hn : narrow .boolean (.int (Int32.ofInt x)) = .int (Int32.ofInt x) := by
    rcases hxb with rfl | rfl <;> decide
  refine W.zast C.1 C.2.1 hc1 ((K.2.1 22 (by omega) (by omega)).1 _ _) (fun q => by cases q) (by rw [arrV_size]; exact vp_inN hj h1 h2) rfl rfl d fun H' e1 z oq => ?_
  rw [ii_cl hj h1] at e1 ⊢
  rw [hn] at e1
  refine k p e s m args below meth c H' _ cells slots ls C K L (by rw [z]; exact hz) (hR.stA ha hk (by omega) (by omega) hjn (by show gI (sI σ a j.toNat x) a j.toNat = 0 ∨ gI (sI σ a j.toNat x) a j.toNat = 1; rw [gI_eq]; exact hxb) ?_ z oq) hl (ok_tl (ok_tl (ok_tl hst))) ?_ hc hs
  · rw [e1]
    show _ = some (Cell.setSlot _ _ (Value.int (Int32.ofInt (gI (sI σ a j.toNat x) a j.toNat))))
    rw [gI_eq]
  · intro q hq
    rcases List.mem_append.mp hq with w | w
    · exact hlo q w
    · rw [List.mem_singleton.mp w]; exact nad_fre E a
/-- a row of a grid -/
theorem r_aaload {a : Nat} {j : Int} (d : decode (dB M) pc = .ok (.aaload, 1)) (h : okB 24 σ a j) (k : GG E M (pc + 1) l (vr (gR σ a j.toNat) :: st) σ rc rs Q) : GG E M pc l (vi j :: vr a :: st) σ rc rs Q := by
  intro p e s m args below meth c H locs cells slots ls C K L hz hR hl hst hlo hc hs
  have hj : inR j := ok_hd hst
  obtain ⟨ha, hk, h1, h2⟩ := h
  have hjn : j.toNat < (gS σ a).2 := by omega
  obtain ⟨hc1, hc2⟩ := hR.arr ha hk (by omega) (by omega)
  show W p (eL E) e (rmM M) s m args below meth c H locs cells slots (FQ E M below args s Q) (F0 m pc ls (.int (Int32.ofInt j) :: rr E a :: st.map (rv E)))
  rw [rr_hi ha]
  refine W.aald (v := rr E (gR σ a j.toNat)) (ty := .array .int) C.1 C.2.1 hc1 ((K.2.1 24 (by omega) (by omega)).1 _ _) rfl (fun q => by cases q) (by rw [arrV_size]; exact vp_inN hj h1 h2) (by rw [ii_cl hj h1, arrV_read _ _ hjn]; rfl) rfl rfl d ?_
  exact k p e s m args below meth c H locs cells slots ls C K L hz hR hl (ok_cons (v := vr _) trivial (ok_tl (ok_tl hst))) hlo hc hs
theorem r_aastore {a v : Nat} {j : Int} (d : decode (dB M) pc = .ok (.aastore, 1)) (h : okB 24 σ a j) (hv : 16 ≤ v ∧ (gS σ v).1 = 20) (k : GG E M (pc + 1) l st (sR σ a j.toNat v) rc rs Q) : GG E M pc l (vr v :: vi j :: vr a :: st) σ rc rs Q := by
  intro p e s m args below meth c H locs cells slots ls C K L hz hR hl hst hlo hc hs
  have hj : inR j := ok_hd (ok_tl hst)
  obtain ⟨ha, hk, h1, h2⟩ := h
  have hjn : j.toNat < (gS σ a).2 := by omega
  obtain ⟨hc1, hc2⟩ := hR.arr ha hk (by omega) (by omega)
  obtain ⟨hv1, -⟩ := hR.arr hv.1 hv.2 (by omega) (by omega)
  obtain ⟨kA, kC, k1, k2, k3, k4, k5⟩ := K.2.2.2.2.2.2.2.2.2.2.2.1
  show W p (eL E) e (rmM M) s m args below meth c H locs cells slots (FQ E M below args s Q) (F0 m pc ls (rr E v :: .int (Int32.ofInt j) :: rr E a :: st.map (rv E)))
  rw [rr_hi ha, rr_hi hv.1]
  refine W.aast C.1 C.2.1 hc1 (fun q h => by cases h) (fun h => by cases h) k1 k2 rfl k3 ⟨fun w => vp_inN hj h1 h2 (Or.inl w), by rw [arrV_size, ii_cl hj h1]; exact hjn⟩ hv1 (fun q h => by cases h) k3 k4 rfl rfl d fun H' e1 z oq => ?_
  rw [ii_cl hj h1] at e1 ⊢
  refine k p e s m args below meth c H' _ cells slots ls C K L (by rw [z]; exact hz) (hR.put ha z oq rfl (fun _ => rfl) (fun b i hb => rfl) (fun b i hb => gR_ne _ _ (Or.inl hb)) ⟨fun _ => ?_, fun w => ?_⟩) hl (ok_tl (ok_tl (ok_tl hst))) ?_ hc hs
  · unfold cA
    rw [gS_sR, hk, e1, arrV_store]
    refine ⟨congrArg some (congrArg (arrV _ _) (funext fun i => ?_)), fun i hi => by unfold elok; rw [if_pos rfl]; trivial⟩
    by_cases hij : i = j.toNat
    · subst hij
      simp only [updV, if_true]
      unfold elv
      rw [if_pos rfl, gR_eq, rr_hi hv.1]
    · simp only [updV, hij, if_false]
      unfold elv
      rw [gR_ne _ _ (Or.inr hij), gI_sR]
  · rw [gS_sR, hk] at w; omega
  · intro q hq
    rcases List.mem_append.mp hq with w | w
    · exact hlo q w
    · rw [List.mem_singleton.mp w]; exact nad_fre E a
end R3
