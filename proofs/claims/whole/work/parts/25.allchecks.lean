/-! ALL CHECKS -/
theorem all_cut {α : Type} (f : α → Bool) (n : Nat) : ∀ (c : Nat) (l : List α), l.length ≤ c * n → (∀ i, i < c → ((l.drop (i * n)).take n).all f = true) → l.all f = true
  | 0, l, hl, _ => by
    have : l = [] := List.eq_nil_of_length_eq_zero (by omega)
    rw [this]; rfl
  | c + 1, l, hl, h => by
    rw [← List.take_append_drop n l, List.all_append, Bool.and_eq_true]
    refine ⟨by have := h 0 (by omega); rwa [Nat.zero_mul, List.drop_zero] at this, all_cut f n c (l.drop n) (by rw [List.length_drop, Nat.succ_mul] at *; omega) (fun i hi => ?_)⟩
    have := h (i + 1) (by omega)
    rwa [Nat.succ_mul, Nat.add_comm, ← List.drop_drop] at this
set_option maxRecDepth 100000 in
theorem chk_law : chkM prog kprog zprog 299 true 299 = true := by
  unfold chkM
  rw [Bool.and_eq_true]
  refine ⟨by decide +kernel, all_cut _ 30 17 _ (by decide +kernel) (fun i hi => ?_)⟩
  by_cases h0 : i = 0
  · subst h0; exact lawc_0
  by_cases h1 : i = 1
  · subst h1; exact lawc_1
  by_cases h2 : i = 2
  · subst h2; exact lawc_2
  by_cases h3 : i = 3
  · subst h3; exact lawc_3
  by_cases h4 : i = 4
  · subst h4; exact lawc_4
  by_cases h5 : i = 5
  · subst h5; exact lawc_5
  by_cases h6 : i = 6
  · subst h6; exact lawc_6
  by_cases h7 : i = 7
  · subst h7; exact lawc_7
  by_cases h8 : i = 8
  · subst h8; exact lawc_8
  by_cases h9 : i = 9
  · subst h9; exact lawc_9
  by_cases h10 : i = 10
  · subst h10; exact lawc_10
  by_cases h11 : i = 11
  · subst h11; exact lawc_11
  by_cases h12 : i = 12
  · subst h12; exact lawc_12
  by_cases h13 : i = 13
  · subst h13; exact lawc_13
  by_cases h14 : i = 14
  · subst h14; exact lawc_14
  by_cases h15 : i = 15
  · subst h15; exact lawc_15
  have e : i = 16 := by omega
  subst e; exact lawc_16
theorem prog_ok : okP prog kprog zprog 299 := by
  refine ⟨links_ok, fun a ha => ?_⟩
  have key : ∀ (k n : Nat), ((List.range n).all fun i => okM prog zprog (k + i)) = true → ((List.range n).all fun i => chkM prog kprog zprog 299 false (k + i)) = true → k ≤ a → a < k + n → okM prog zprog a = true ∧ chkM prog kprog zprog 299 false a = true := by
    intro k n h h' h1 h2
    have h3 := List.all_eq_true.mp h (a - k) (List.mem_range.mpr (by omega))
    have h4 := List.all_eq_true.mp h' (a - k) (List.mem_range.mpr (by omega))
    rw [show k + (a - k) = a by omega] at h3 h4
    exact ⟨h3, h4⟩
  by_cases h0 : a < 25
  · exact key 0 25 hd_0 chk_0 (by omega) (by omega)
  by_cases h1 : a < 50
  · exact key 25 25 hd_1 chk_1 (by omega) (by omega)
  by_cases h2 : a < 75
  · exact key 50 25 hd_2 chk_2 (by omega) (by omega)
  by_cases h3 : a < 100
  · exact key 75 25 hd_3 chk_3 (by omega) (by omega)
  by_cases h4 : a < 125
  · exact key 100 25 hd_4 chk_4 (by omega) (by omega)
  by_cases h5 : a < 150
  · exact key 125 25 hd_5 chk_5 (by omega) (by omega)
  by_cases h6 : a < 175
  · exact key 150 25 hd_6 chk_6 (by omega) (by omega)
  by_cases h7 : a < 200
  · exact key 175 25 hd_7 chk_7 (by omega) (by omega)
  by_cases h8 : a < 225
  · exact key 200 25 hd_8 chk_8 (by omega) (by omega)
  by_cases h9 : a < 250
  · exact key 225 25 hd_9 chk_9 (by omega) (by omega)
  by_cases h10 : a < 275
  · exact key 250 25 hd_10 chk_10 (by omega) (by omega)
  by_cases h11 : a < 299
  · exact key 275 24 hd_11 chk_11 (by omega) (by omega)
  omega
