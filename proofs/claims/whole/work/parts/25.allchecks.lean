/-! ALL CHECKS -/
set_option maxRecDepth 100000 in
theorem chk_law : chkM prog kprog zprog 299 true 299 = true := by decide +kernel
theorem prog_ok : okP prog kprog zprog 299 := by
  refine ⟨links_ok, fun a ha => ?_⟩
  have key : ∀ (k n : Nat), ((List.range n).all fun i => okM prog zprog (k + i)) = true → ((List.range n).all fun i => chkM prog kprog zprog 299 false (k + i)) = true → k ≤ a → a < k + n → okM prog zprog a = true ∧ chkM prog kprog zprog 299 false a = true := by
    intro k n h h' h1 h2
    have h3 := List.all_eq_true.mp h (a - k) (List.mem_range.mpr (by omega))
    have h4 := List.all_eq_true.mp h' (a - k) (List.mem_range.mpr (by omega))
    rw [show k + (a - k) = a by omega] at h3 h4
    exact ⟨h3, h4⟩
  by_cases h0 : a < 25
  · exact key 0 25 hd_0 chk_0 (by omega) (by omega)
  by_cases h1 : a < 50
  · exact key 25 25 hd_1 chk_1 (by omega) (by omega)
  by_cases h2 : a < 75
  · exact key 50 25 hd_2 chk_2 (by omega) (by omega)
  by_cases h3 : a < 100
  · exact key 75 25 hd_3 chk_3 (by omega) (by omega)
  by_cases h4 : a < 125
  · exact key 100 25 hd_4 chk_4 (by omega) (by omega)
  by_cases h5 : a < 150
  · exact key 125 25 hd_5 chk_5 (by omega) (by omega)
  by_cases h6 : a < 175
  · exact key 150 25 hd_6 chk_6 (by omega) (by omega)
  by_cases h7 : a < 200
  · exact key 175 25 hd_7 chk_7 (by omega) (by omega)
  by_cases h8 : a < 225
  · exact key 200 25 hd_8 chk_8 (by omega) (by omega)
  by_cases h9 : a < 250
  · exact key 225 25 hd_9 chk_9 (by omega) (by omega)
  by_cases h10 : a < 275
  · exact key 250 25 hd_10 chk_10 (by omega) (by omega)
  by_cases h11 : a < 299
  · exact key 275 24 hd_11 chk_11 (by omega) (by omega)
  omega
