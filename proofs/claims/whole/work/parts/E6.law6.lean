/-! ===== the law, from its start, over what types must show ===== -/
theorem law_all {E : Ev} {σ : Sg} {Q : NO → Sg → Prop} {rc rs : Nat} (hg : TYPES) (hz : gz σ = 16) (hX : XT σ) (h30 : (eS E 5).1 = 30) (hlen : (eS E 5).2 ≤ 4608) (hSI : ∀ j, j < (eS E 5).2 → inR (eI E 5 j))
    (hrc : 10000 ≤ rc) (hrs : 200000 ≤ rs) : GG E mL_law 0 [some (vr 5), none, none, none, none, none, none] [] σ rc rs Q :=
  law_go KCd_kf KMd_fm hz hX h30 hlen hSI
    (fun _ _ _ _ _ _ _ _ _ _ _ _ _ hn hS hI hr hN => lawc_told hn hS hI hg hr hN)
    (fun _ _ _ _ _ _ _ _ _ _ _ _ _ hn hS hI hr hN => lawc_of hn hS hI hg hr hN)
    (fun _ _ _ _ _ _ _ _ _ _ _ _ _ hn hS hI hr hN => lawc_couples hn hS hI hg hr hN)
    (fun _ _ _ _ _ _ _ _ _ _ _ _ _ hn hS hI hr hN => lawc_degree hn hS hI hg hr hN)
    (fun _ _ _ _ _ _ _ _ _ _ _ _ _ hn hS hI hr hN => lawc_value hn hS hI hg hr hN)
    (fun _ _ _ _ _ _ _ _ _ _ _ _ _ hn hS hI hr hN => lawc_often hn hS hI hg hr hN)
    (fun _ _ _ _ _ _ _ _ _ _ _ _ _ hn hS hI hr hN => lawc_opposite hn hS hI hg hr hN)
    (fun _ _ _ _ _ _ _ _ _ _ _ _ _ hn hS hI hr hN => lawc_ways hn hS hI hg hr hN)
    (fun _ _ _ _ _ _ _ _ _ _ _ _ _ hn hS hI hr hN => lawc_far hn hS hI hg hr hN)
    (fun _ _ _ _ _ _ _ _ _ _ _ _ _ hn hS hI hr hN => lawc_withWays hn hS hI hg hr hN)
    (fun _ _ _ _ _ _ _ _ _ _ _ _ _ hn hS hI hr hN => lawc_inRow hn hS hI hg hr hN)
    (fun _ _ _ _ _ _ _ _ _ _ _ _ _ hn hS hI hr hN => lawc_row hn hS hI hg hr hN)
    hrc hrs
