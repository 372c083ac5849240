/-! ===== the law's own end ===== -/
section R9b
variable {E : Ev} {M : MD} {pc : Nat} {l : List (Option NV)} {st : List NV} {σ : Sg} {rc rs : Nat} {Q : NO → Sg → Prop}
theorem r_lawret0 {x : Int} (d : decode (dB M) pc = .ok (.ireturn, 1)) (hn : (dY M).name = "law") (hr : dR M = some .boolean) (h1 : dC M = 601024) (h2 : dS M = 7293034) (hx : x = 1) : GG E M pc l [vi x] σ rc rs Q := by
  subst hx
  intro p e s m args below meth c H locs cells slots ls Cx K L hz hR hl hst hlo hc hs
  unfold FQ
  rw [if_pos hn]
  intro T hT X
  by_cases hsz : s.heap.size = eB E
  · have X1 : Stand p (eL E) e (rmM M) s m args below meth c T [] 601024 7293034 := stand_widen (Stand.forget (locs := []) X (fun q hq => by rw [hsz]; exact hlo q hq)) (by omega) (by omega)
    have hret9 : meth.sig.returnType = some .boolean := by rw [← hr]; exact Cx.2.2.1
    obtain ⟨fs, hret, hrun, hended, hW, hframe⟩ := X1.leave (v := some (.int 1)) (hlocks := Cx.2.2.2.2.2.2.1) (fun h => by rw [hret9] at h; cases h)
    have hmeth' : T.vm.method? m = some meth := X1.method'
    have hx := Cx.1
    have hb := Cx.2.1
    refine ⟨T.setFrames fs, ?_, fun _ => ⟨.returned (some (.int 1)), hrun, hended, rfl, ⟨_, rfl⟩, hW, hframe⟩⟩
    show Steps p.tables e below (T.setTop (F0 m pc ls [.int 1])) _
    jvm_step X1.here [X1.here.top, hx, hb, d, hmeth', hret9, narrow_b1]
    (try refine ⟨rfl, ?_⟩); (try refine ⟨rfl, ?_⟩)
    first | (intro acts; rw [hret _ acts rfl rfl rfl]) | rw [hret _ _ rfl rfl rfl]
    exact Steps.refl _
  · exact ⟨_, Steps.refl _, fun h => absurd h hsz⟩
end R9b
