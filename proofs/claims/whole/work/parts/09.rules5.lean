/-! ===== rules of the nice machine: new cells, lengths, constants ===== -/
theorem nad_gz {E : Ev} {σ : Sg} {H : Heap} (h : Rel E σ H) : nad E (gz σ) = H.size := by
  obtain ⟨-, h1, h2, -⟩ := h
  unfold nad
  omega
theorem nad_gz1 {E : Ev} {z n : Nat} (hz : 16 ≤ z) (h : nad E z = n) (j : Nat) : nad E (z + 1 + j) = n + 1 + j := by
  unfold nad at h ⊢
  omega
/-- new cells come behind the others -/
theorem Rel.grow {E : Ev} {σ σ' : Sg} {H H' : Heap} (h : Rel E σ H) (z : H'.size + gz σ = H.size + gz σ') (hle : gz σ ≤ gz σ') (oq : ∀ q, q < H.size → H'[q]? = H[q]?)
    (hS : ∀ b, b < gz σ → gS σ' b = gS σ b) (hI : ∀ b j, b < gz σ → gI σ' b j = gI σ b j) (hR : ∀ b j, b < gz σ → gR σ' b j = gR σ b j) (hS0 : ∀ b, gz σ' ≤ b → gS σ' b = (0, 0)) (hS1 : ∀ b, gz σ ≤ b → (gS σ' b).1 < 30) (hc : ∀ b, gz σ ≤ b → b < gz σ' → cK E σ' H' b) : Rel E σ' H' := by
  have hgz := nad_gz h
  obtain ⟨⟨l0, l1, l2⟩, h1, h2, h3, h4, h5, h6⟩ := h
  refine ⟨⟨l0, by omega, fun q hq => by rw [oq q (by omega)]; exact l2 q hq⟩, by omega, by omega, fun b hb hbz => ?_, fun b hb => ⟨by rw [hS b (by omega)]; exact (h4 b hb).1, fun j => by rw [hI b j (by omega), hR b j (by omega)]; exact (h4 b hb).2 j⟩, hS0, fun b hb => ?_⟩
  · rcases Nat.lt_or_ge b (gz σ) with w | w
    · exact (h3 b hb w).kept (hS b w) (fun j => hI b j w) (fun j => hR b j w) (oq _ (by unfold nad at hgz ⊢; omega))
    · exact hc b w hbz
  · rcases Nat.lt_or_ge b (gz σ) with w | w
    · rw [hS b w]; exact h6 b hb
    · exact hS1 b w
section R5
variable {E : Ev} {M : MD} {pc : Nat} {l : List (Option NV)} {st : List NV} {σ : Sg} {rc rs : Nat} {Q : NO → Sg → Prop}
variable {ci idx N : Nat} {C : String} {T : u_T} {ty : Nat → FieldType}
theorem r_new (d : decode (dB M) pc = .ok (.new idx, 3)) (hC : CLk ci C T N ty) (hci : ci < 16) (hcl : Cond.classLink (dY M).cls idx C ∈ lwW) (h1 : 1 ≤ rc) (h2 : N ≤ rs) (k : GG E M (pc + 3) l (vr (gz σ) :: st) (nw σ (ci + 1, N)) (rc - 1) (rs - N) Q) : GG E M pc l st σ rc rs Q := by
  intro p e s m args below meth c H locs cells slots ls Cx K L hz hR hl hst hlo hc hs
  have hKn := K.1.1 ci _ hC.1
  have hgz := nad_gz hR
  have hts := Cx.2.2.2.2.2.1
  refine W.newcK Cx.1 Cx.2.1 Cx.2.2.2.2.1 (hts _ hcl) (hts _ hC.2.2.2.2.2.1) (hts _ hC.2.2.2.2.2.2) rfl d (by show cells + 1 ≤ dC M; omega) (by show slots + N ≤ dS M; omega) hKn.2.1 rfl fun H1 kC hkC e1 z1 o1 => ?_
  have hbn := u_born ty hts hC.2.1 hKn hkC e1 hC.2.2.1
  have hR' : Rel E (nw σ (ci + 1, N)) H1 := by
    refine hR.grow (by show H1.size + gz σ = H.size + (gz σ + 1); omega) (Nat.le_succ _) o1 (fun b hb => if_neg (by omega)) (fun b j hb => if_neg (by omega)) (fun b j hb => if_neg (by omega)) (fun b hb => ?_) (fun b hb => ?_) (fun b hb hb2 => ?_)
    · have hb' : gz σ + 1 ≤ b := hb
      show (if b = gz σ then (ci + 1, N) else gS σ b) = _
      rw [if_neg (by omega)]
      exact hR.2.2.2.2.2.1 b (by omega)
    · show (if b = gz σ then (ci + 1, N) else gS σ b).1 < 30
      split
      · show ci + 1 < 30; omega
      · exact hR.2.2.2.2.2.2 b (by have := hR.2.1; omega)
    · have hb' : b < gz σ + 1 := hb2
      have : b = gz σ := by omega
      subst this
      have hsh : gS (nw σ (ci + 1, N)) (gz σ) = (ci + 1, N) := if_pos rfl
      refine ⟨fun w => by rw [hsh] at w; simp at w; omega, fun _ => ?_⟩
      unfold cO
      rw [hsh]
      refine ⟨(C, T, N), hC.1, ?_, fun j hj => ?_⟩
      · show t_OB (nad E (gz σ)) _ N _ H1 _
        rw [hgz]
        refine t_OB.to hbn fun j hj => ?_
        have h9 := hC.2.2.2.2.1 j hj
        have hI0 : gI (nw σ (ci + 1, N)) (gz σ) j = 0 := if_pos rfl
        have hR0 : gR (nw σ (ci + 1, N)) (gz σ) j = 0 := if_pos rfl
        unfold fvl
        split at h9
        · rename_i w
          rw [if_pos w, hI0]
          exact h9.1
        · rename_i w
          rw [if_neg w, hR0]
          rcases h9 with ⟨n, hn⟩ | ⟨t, ht⟩
          · rw [hn]; rfl
          · rw [ht]; rfl
      · unfold fok
        rw [show gI (nw σ (ci + 1, N)) (gz σ) j = 0 from if_pos rfl]
        exact ⟨inR_0, fun _ => Or.inl rfl⟩
  have kk := k p e s m args below meth c H1 locs (cells + 1) (slots + N) ls Cx K L (by omega) hR' hl (ok_cons (v := vr _) trivial hst) hlo (by omega) (by omega)
  have e9 : rr E (gz σ) = .ref H.size := by rw [rr_hi hR.2.1, hgz]
  show W p (eL E) e (rmM M) s m args below meth c H1 locs (cells + 1) (slots + N) (FQ E M below args s Q) (F0 m (pc + 3) ls (.ref H.size :: st.map (rv E)))
  rw [← e9]
  exact kk
theorem nwA {H1 H : Heap} {cc N9 : Nat} (hR : Rel E σ H) (hc1 : 20 ≤ cc) (hc2 : cc ≤ 24) (e1 : H1[H.size]? = some (arrV (eA E cc) N9 (fun _ => if cc = 24 then .null else if cc = 23 then .long 0 else .int 0))) (z1 : H1.size = H.size + 1) (o1 : ∀ q, q < H.size → H1[q]? = H[q]?) : Rel E (nw σ (cc, N9)) H1 := by
  have hgz := nad_gz hR
  refine hR.grow (by show H1.size + gz σ = H.size + (gz σ + 1); omega) (Nat.le_succ _) o1 (fun b hb => if_neg (by omega)) (fun b j hb => if_neg (by omega)) (fun b j hb => if_neg (by omega)) (fun b hb => ?_) (fun b hb => ?_) (fun b hb hb2 => ?_)
  · have hb' : gz σ + 1 ≤ b := hb
    show (if b = gz σ then (cc, N9) else gS σ b) = _
    rw [if_neg (by omega)]
    exact hR.2.2.2.2.2.1 b (by omega)
  · show (if b = gz σ then (cc, N9) else gS σ b).1 < 30
    split
    · show cc < 30; omega
    · exact hR.2.2.2.2.2.2 b (by have := hR.2.1; omega)
  · have hb' : b < gz σ + 1 := hb2
    have : b = gz σ := by omega
    subst this
    have hsh : gS (nw σ (cc, N9)) (gz σ) = (cc, N9) := if_pos rfl
    refine ⟨fun _ => ?_, fun w => by rw [hsh] at w; simp at w; omega⟩
    unfold cA
    rw [hsh, hgz, e1]
    have hI0 : ∀ j, gI (nw σ (cc, N9)) (gz σ) j = 0 := fun j => if_pos rfl
    have hR0 : ∀ j, gR (nw σ (cc, N9)) (gz σ) j = 0 := fun j => if_pos rfl
    refine ⟨congrArg some (congrArg (arrV _ _) (funext fun j => ?_)), fun j hj => ?_⟩
    · unfold elv
      rw [hI0, hR0]
      by_cases h24 : cc = 24
      · simp [h24, rr]
      · by_cases h23 : cc = 23
        · simp [h23]
        · simp [h24, h23]
    · unfold elok
      rw [hI0]
      split
      · trivial
      · split
        · exact inL_0
        · split
          · exact Or.inl rfl
          · split
            · omega
            · exact inR_0
theorem r_newarray {atype : ArrayType} {cc : Nat} {n : Int} (d : decode (dB M) pc = .ok (.newarray atype, 2)) (hty : newarray.typeOf atype = elT cc) (hc1 : 20 ≤ cc) (hc2 : cc ≤ 23) (harr : Cond.arrayClass (newarray.typeOf atype) ∈ lwW) (hn : 0 ≤ n) (hn2 : n ≤ 65536) (h1 : 1 ≤ rc) (h2 : n.toNat ≤ rs)
    (k : GG E M (pc + 2) l (vr (gz σ) :: st) (nw σ (cc, n.toNat)) (rc - 1) (rs - n.toNat) Q) : GG E M pc l (vi n :: st) σ rc rs Q := by
  intro p e s m args below meth c H locs cells slots ls Cx K L hz hR hl hst hlo hc hs
  have hn9 : inR n := ok_hd hst
  have hgz := nad_gz hR
  have hts := Cx.2.2.2.2.2.1
  have hcb : componentBytes (newarray.typeOf atype) ≤ 8 := by rw [hty]; unfold elT; split <;> (try split) <;> (try split) <;> (try split) <;> decide
  refine va_newaK (n := Int32.ofInt n) (N := n.toNat) Cx.1 Cx.2.1 (hts _ harr) rfl d rfl (fun w => absurd ((ii_lt hn9 inR_0).mp w) (by omega)) (ii_cl hn9 hn) ?_ (by show cells + 1 ≤ dC M; omega) (by show slots + n.toNat ≤ dS M; omega) rfl fun H1 cA9 e1 z1 o1 hAr hNm => ?_
  · have : n.toNat * componentBytes (newarray.typeOf atype) ≤ 65536 * 8 := Nat.mul_le_mul (by omega) hcb
    omega
  have hcA : cA9 = eA E cc := by
    rw [hty] at hNm
    exact Option.some.inj (hNm.symm.trans (K.2.1 cc hc1 (by omega)).2)
  subst hcA
  have hR' : Rel E (nw σ (cc, n.toNat)) H1 := by
    refine nwA hR hc1 (by omega) ?_ z1 o1
    rw [e1, hty]
    refine congrArg some (congrArg (arrV _ _) (funext fun j => ?_))
    have : cc = 20 ∨ cc = 21 ∨ cc = 22 ∨ cc = 23 := by omega
    rcases this with rfl | rfl | rfl | rfl <;> rfl
  have kk := k p e s m args below meth c H1 locs (cells + 1) (slots + n.toNat) ls Cx K L (by omega) hR' hl (ok_cons (v := vr _) trivial (ok_tl hst)) hlo (by omega) (by omega)
  have e9 : rr E (gz σ) = .ref H.size := by rw [rr_hi hR.2.1, hgz]
  show W p (eL E) e (rmM M) s m args below meth c H1 locs (cells + 1) (slots + n.toNat) (FQ E M below args s Q) (F0 m (pc + 2) ls (.ref H.size :: st.map (rv E)))
  rw [← e9]
  exact kk
/-- new int[n][k] -/
theorem r_mna {n k8 : Int} (d : decode (dB M) pc = .ok (.multianewarray idx 2, 4)) (hcl : Cond.classLink (dY M).cls idx "[[I" ∈ lwW) (harr : Cond.arrayClass .int ∈ lwW) (hn : 0 ≤ n) (hn2 : n ≤ 65536) (hk : 0 ≤ k8) (hk2 : k8 ≤ 65536) (h1 : 1 + n.toNat ≤ rc) (h2 : n.toNat + n.toNat * k8.toNat ≤ rs)
    (k : GG E M (pc + 4) l (vr (gz σ) :: st) (nm σ n.toNat k8.toNat) (rc - (1 + n.toNat)) (rs - (n.toNat + n.toNat * k8.toNat)) Q) : GG E M pc l (vi k8 :: vi n :: st) σ rc rs Q := by
  intro p e s m args below meth c H locs cells slots ls Cx K L hz hR hl hst hlo hc hs
  have hk9 : inR k8 := ok_hd hst
  have hn9 : inR n := ok_hd (ok_tl hst)
  have hgz := nad_gz hR
  have hts := Cx.2.2.2.2.2.1
  intro T hT Xs
  have en := ii_cl hn9 hn
  have ek := ii_cl hk9 hk
  obtain ⟨vm₁, cA9, comp, -, fA, fC, hO, -, X', step⟩ := Xs.multianewarray2F Cx.1 (ty := .int) Cx.2.2.2.2.1 (hts _ hcl) (va_AOA.use K.2.2.2.2.2.2.2.2.2.2.2.1.choose_spec.choose_spec.2.2.2.2) (hts _ harr) (g := F0 m pc ls (.int (Int32.ofInt k8) :: .int (Int32.ofInt n) :: st.map (rv E))) rfl (by rw [Cx.2.1]; exact d) rfl
    (fun w => absurd ((ii_lt hn9 inR_0).mp w) (by omega)) (fun w => absurd ((ii_lt hk9 inR_0).mp w) (by omega)) (by rw [en]; omega) (by rw [ek]; show k8.toNat * 4 ≤ _; omega) (by rw [ek]; omega) (by decide) (by decide) (by rw [en]; show cells + _ ≤ dC M; omega) (by rw [en, ek]; show slots + _ ≤ dS M; omega)
  rw [en, ek] at X' step
  have ecA : cA9 = eA E 24 := Option.some.inj (fA.symm.trans (K.2.1 24 (by omega) (by omega)).2)
  have ecC : comp = eA E 20 := Option.some.inj (fC.symm.trans (K.2.1 20 (by omega) (by omega)).2)
  subst ecA; subst ecC
  generalize hF : Jvm.Free.Multi.fill (T.setVm vm₁) (eA E 24) (eA E 20) n.toNat k8.toNat (defaultValue .int) n.toNat = F at X' step
  have hTh : (T.setVm vm₁).heap = H := hT
  obtain ⟨f1, f2, -, -⟩ := Jvm.Free.Multi.fill_facts (T.setVm vm₁) (eA E 24) (eA E 20) n.toNat k8.toNat (defaultValue .int) n.toNat
  rw [hF, hTh] at f1 f2
  have hold : ∀ x : Nat, x < H.size → F.heap[x]? = H[x]? := fun x hx => by
    have := Jvm.Free.Multi.fill_old (T.setVm vm₁) (eA E 24) (eA E 20) n.toNat k8.toNat (defaultValue .int) (a := x) (by rw [hTh]; exact hx) n.toNat
    rw [hF, hTh] at this
    exact this
  have hrow : ∀ j : Nat, j < n.toNat → F.heap[H.size + 1 + j]? = some (arrV (eA E 20) k8.toNat (fun _ => .int 0)) := fun j hj => by
    have := Jvm.Free.Multi.fill_inner (T.setVm vm₁) (eA E 24) (eA E 20) n.toNat k8.toNat (defaultValue .int) n.toNat j hj
    rw [hF, hTh] at this
    rw [this, ← arrV_new]
    rfl
  rw [vr_outer (eA E 24) n.toNat H.size n.toNat] at f2
  have hR' : Rel E (nm σ n.toNat k8.toNat) F.heap := by
    have hz16 := hR.2.1
    have hS0 := hR.2.2.2.2.2.1
    refine hR.grow (by show F.heap.size + gz σ = H.size + (gz σ + 1 + n.toNat); omega) (by show gz σ ≤ gz σ + 1 + n.toNat; omega) hold (fun b hb => ?_) (fun b j hb => if_neg (by omega)) (fun b j hb => ?_) (fun b hb => ?_) (fun b hb => ?_) (fun b hb hb2 => ?_)
    · show (if b = gz σ then (24, n.toNat) else if gz σ < b ∧ b < gz σ + 1 + n.toNat then (20, k8.toNat) else gS σ b) = _
      rw [if_neg (by omega), if_neg (by omega)]
    · show (if b = gz σ then gz σ + 1 + j else if gz σ < b then 0 else gR σ b j) = _
      rw [if_neg (by omega), if_neg (by omega)]
    · have hb' : gz σ + 1 + n.toNat ≤ b := hb
      show (if b = gz σ then (24, n.toNat) else if gz σ < b ∧ b < gz σ + 1 + n.toNat then (20, k8.toNat) else gS σ b) = _
      rw [if_neg (by omega), if_neg (by omega)]
      exact hS0 b (by omega)
    · show (if b = gz σ then (24, n.toNat) else if gz σ < b ∧ b < gz σ + 1 + n.toNat then (20, k8.toNat) else gS σ b).1 < 30
      split
      · show (24 : Nat) < 30; decide
      · split
        · show (20 : Nat) < 30; decide
        · rw [hS0 b hb]; show (0 : Nat) < 30; decide
    · have hb' : b < gz σ + 1 + n.toNat := hb2
      rcases Nat.eq_or_lt_of_le hb with w | w
      · subst w
        have hsh : gS (nm σ n.toNat k8.toNat) (gz σ) = (24, n.toNat) := if_pos rfl
        refine ⟨fun _ => ?_, fun w => by rw [hsh] at w; simp at w⟩
        unfold cA
        rw [hsh, hgz, f2]
        refine ⟨congrArg some ?_, fun j hj => by unfold elok; rw [if_pos rfl]; trivial⟩
        unfold arrV
        refine congrArg (fun z => ({ cls := eA E 24, slots := z, vm := .none } : Cell)) ?_
        refine congrArg Array.ofFn (funext fun j => ?_)
        show va_rf (if j.val < n.toNat then some (H.size + 1 + j.val) else none) = elv E _ (gz σ) 24 j.val
        rw [if_pos j.isLt]
        unfold elv
        rw [if_pos rfl, show gR (nm σ n.toNat k8.toNat) (gz σ) j.val = gz σ + 1 + j.val from if_pos rfl, rr_hi (by omega)]
        show Value.ref _ = Value.ref _
        refine congrArg Value.ref ?_
        exact (nad_gz1 hz16 hgz j.val).symm
      · have hsh : gS (nm σ n.toNat k8.toNat) b = (20, k8.toNat) := by
          show (if b = gz σ then (24, n.toNat) else if gz σ < b ∧ b < gz σ + 1 + n.toNat then (20, k8.toNat) else gS σ b) = _
          rw [if_neg (by omega), if_pos ⟨w, hb'⟩]
        refine ⟨fun _ => ?_, fun w => by rw [hsh] at w; simp at w⟩
        unfold cA
        have hI0 : ∀ j, gI (nm σ n.toNat k8.toNat) b j = 0 := fun j => if_pos hb
        rw [hsh, show nad E b = H.size + 1 + (b - gz σ - 1) by unfold nad at hgz ⊢; omega, hrow _ (by omega)]
        refine ⟨congrArg some (congrArg (arrV _ _) (funext fun j => ?_)), fun j hj => ?_⟩
        · show _ = elv E _ b 20 j
          unfold elv
          rw [hI0]
          rfl
        · show inR _
          rw [hI0]; exact inR_0
  obtain ⟨t, a1, b1⟩ := k p e s m args below meth c F.heap locs (cells + (1 + n.toNat)) (slots + (n.toNat + n.toNat * k8.toNat)) ls Cx K L (by omega) hR' hl (ok_cons (v := vr _) trivial (ok_tl (ok_tl hst))) hlo (by omega) (by omega) F rfl (by
    have q1 : cells + 1 + n.toNat = cells + (1 + n.toNat) := by omega
    have q2 : slots + n.toNat + n.toNat * k8.toNat = slots + (n.toNat + n.toNat * k8.toNat) := by omega
    rw [← q1, ← q2]
    exact X')
  refine ⟨t, step t ?_, b1⟩
  have e9 : rr E (gz σ) = .ref H.size := by rw [rr_hi hR.2.1, hgz]
  have a1' : Steps p.tables e below (F.setTop (F0 m (pc + 4) ls (rr E (gz σ) :: st.map (rv E)))) t := a1
  rw [e9] at a1'
  rw [show T.heap.size = H.size by rw [hT]]
  exact a1'
theorem r_alen {a : Nat} (d : decode (dB M) pc = .ok (.arraylength, 1)) (h : (16 ≤ a ∧ 20 ≤ (gS σ a).1 ∧ (gS σ a).1 ≤ 24) ∨ (0 < a ∧ a < 16 ∧ ((gS σ a).1 = 30 ∨ (gS σ a).1 = 31))) (hn : (gS σ a).2 ≤ 2147483647) (k : GG E M (pc + 1) l (vi ((gS σ a).2 : Int) :: st) σ rc rs Q) : GG E M pc l (vr a :: st) σ rc rs Q := by
  intro p e s m args below meth c H locs cells slots ls Cx K L hz hR hl hst hlo hc hs
  have kk := k p e s m args below meth c H locs cells slots ls Cx K L hz hR hl (ok_cons (v := vi _) (by show inR _; unfold inR; omega) (ok_tl hst)) hlo hc hs
  have kk : W p (eL E) e (rmM M) s m args below meth c H locs cells slots (FQ E M below args s Q) (F0 m (pc + 1) ls (.int (Int32.ofInt ((gS σ a).2 : Int)) :: st.map (rv E))) := kk
  have e0 : Int32.ofInt ((gS σ a).2 : Int) = ((gS σ a).2).toInt32 := rfl
  rw [e0] at kk
  show W p (eL E) e (rmM M) s m args below meth c H locs cells slots (FQ E M below args s Q) (F0 m pc ls (rr E a :: st.map (rv E)))
  rcases h with ⟨ha, hk, h24⟩ | ⟨ha0, ha, hk⟩
  · have h30 := hR.2.2.2.2.2.2 a ha
    obtain ⟨hc1, -⟩ := hR.arr ha rfl hk h24
    rw [rr_hi ha]
    exact W.alen Cx.1 Cx.2.1 hc1 ((K.2.1 _ hk h24).1 _ _) (by rw [arrV_size]) rfl rfl d kk
  · have hx := hR.2.2.2.2.1 a ha
    rcases hk with hk | hk
    · obtain ⟨b, cell, hb, hbB, hcell, harr, hvm, hsz, hv⟩ := (K.2.2.1 a ha).1 (by rw [← hx.1]; exact hk)
      have hrr : rr E a = .ref b := by unfold rr; rw [if_neg (by omega), if_pos ha, hb]
      rw [hrr]
      exact W.alen Cx.1 Cx.2.1 (by rw [hR.1.2.2 b hbB]; exact hcell) harr (by rw [hsz, ← hx.1]) rfl rfl d kk
    · obtain ⟨b, cell, hb, hbB, hcell, harr, hvm, hsz, hv⟩ := (K.2.2.1 a ha).2.1 (by rw [← hx.1]; exact hk)
      have hrr : rr E a = .ref b := by unfold rr; rw [if_neg (by omega), if_pos ha, hb]
      rw [hrr]
      exact W.alen Cx.1 Cx.2.1 (by rw [hR.1.2.2 b hbB]; exact hcell) harr (by rw [hsz, ← hx.1]) rfl rfl d kk
end R5
