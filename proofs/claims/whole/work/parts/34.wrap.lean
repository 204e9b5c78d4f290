/-! THE METHODS THAT CATCH -/
theorem w50_r (d : Nat) (x1 : Int) (x2 : Int) (x3 : Int) (x4 : Int) (x5 : Int) (M M' : mM) (r : Int) (h : run prog d 49 [vr 5, vi x1, vi x2, vi x3, vi x4, vi x5] (shp, M) = some (.inl (some (vi r)), (shp, M'))) : run prog (d + 1) 50 [vr 5, vi x1, vi x2, vi x3, vi x4, vi x5, vr 96] (shp, M) = some (.inl (some (vi 0)), (shp, mset M' 96 0 r)) := by
  show ev prog (d + 1) 50 0 0 [vr 5, vi x1, vi x2, vi x3, vi x4, vi x5, vr 96, vj] [] (shp, M) = _
  skip
  rw [b50_0, h]
  simp +decide only [callK_r, psh_s, psh_n, b50_1, b50_3, b50_4, b50_2, b50_5, bi, reduceIte, Int.reduceEq, Int.toNat_zero, and_self, true_and]
  all_goals first | rfl | done
theorem w50_x0 (d : Nat) (x1 : Int) (x2 : Int) (x3 : Int) (x4 : Int) (x5 : Int) (M M' : mM) (h : run prog d 49 [vr 5, vi x1, vi x2, vi x3, vi x4, vi x5] (shp, M) = some (.inr 0, (shp, M'))) : run prog (d + 1) 50 [vr 5, vi x1, vi x2, vi x3, vi x4, vi x5, vr 96] (shp, M) = some (.inl (some (vi 1)), (shp, M')) := by
  show ev prog (d + 1) 50 0 0 [vr 5, vi x1, vi x2, vi x3, vi x4, vi x5, vr 96, vj] [] (shp, M) = _
  rw [b50_0, h, callK_x]
  exact b50_3 d M'
theorem w50_x1 (d : Nat) (x1 : Int) (x2 : Int) (x3 : Int) (x4 : Int) (x5 : Int) (M M' : mM) (h : run prog d 49 [vr 5, vi x1, vi x2, vi x3, vi x4, vi x5] (shp, M) = some (.inr 1, (shp, M'))) : run prog (d + 1) 50 [vr 5, vi x1, vi x2, vi x3, vi x4, vi x5, vr 96] (shp, M) = some (.inl (some (vi 2)), (shp, M')) := by
  show ev prog (d + 1) 50 0 0 [vr 5, vi x1, vi x2, vi x3, vi x4, vi x5, vr 96, vj] [] (shp, M) = _
  rw [b50_0, h, callK_x]
  exact b50_4 d M'
theorem w71_r (d : Nat) (x1 : Int) (M M' : mM) (r : Int) (h : run prog d 70 [vr 5, vi x1] (shp, M) = some (.inl (some (vi r)), (shp, M'))) : run prog (d + 1) 71 [vr 5, vi x1, vr 96] (shp, M) = some (.inl (some (vi 0)), (shp, mset M' 96 0 r)) := by
  show ev prog (d + 1) 71 0 0 [vr 5, vi x1, vr 96, vj] [] (shp, M) = _
  skip
  rw [b71_0, h]
  simp +decide only [callK_r, psh_s, psh_n, b71_1, b71_3, b71_2, b71_4, bi, reduceIte, Int.reduceEq, Int.toNat_zero, and_self, true_and]
  all_goals first | rfl | done
theorem w71_x2 (d : Nat) (x1 : Int) (M M' : mM) (h : run prog d 70 [vr 5, vi x1] (shp, M) = some (.inr 2, (shp, M'))) : run prog (d + 1) 71 [vr 5, vi x1, vr 96] (shp, M) = some (.inl (some (vi 1)), (shp, M')) := by
  show ev prog (d + 1) 71 0 0 [vr 5, vi x1, vr 96, vj] [] (shp, M) = _
  rw [b71_0, h, callK_x]
  exact b71_3 d M'
theorem w82_r (d : Nat) (x1 : Int) (x2 : Int) (M M' : mM) (r : Int) (h : run prog d 81 [vr 5, vi x1, vi x2] (shp, M) = some (.inl (some (vi r)), (shp, M'))) : run prog (d + 1) 82 [vr 5, vi x1, vi x2, vr 96] (shp, M) = some (.inl (some (vi 0)), (shp, mset M' 96 0 r)) := by
  show ev prog (d + 1) 82 0 0 [vr 5, vi x1, vi x2, vr 96, vj] [] (shp, M) = _
  skip
  rw [b82_0, h]
  simp +decide only [callK_r, psh_s, psh_n, b82_1, b82_4, b82_3, b82_2, b82_5, bi, reduceIte, Int.reduceEq, Int.toNat_zero, and_self, true_and]
  all_goals first | rfl | done
theorem w82_x0 (d : Nat) (x1 : Int) (x2 : Int) (M M' : mM) (h : run prog d 81 [vr 5, vi x1, vi x2] (shp, M) = some (.inr 0, (shp, M'))) : run prog (d + 1) 82 [vr 5, vi x1, vi x2, vr 96] (shp, M) = some (.inl (some (vi 2)), (shp, M')) := by
  show ev prog (d + 1) 82 0 0 [vr 5, vi x1, vi x2, vr 96, vj] [] (shp, M) = _
  rw [b82_0, h, callK_x]
  exact b82_4 d M'
theorem w82_x2 (d : Nat) (x1 : Int) (x2 : Int) (M M' : mM) (h : run prog d 81 [vr 5, vi x1, vi x2] (shp, M) = some (.inr 2, (shp, M'))) : run prog (d + 1) 82 [vr 5, vi x1, vi x2, vr 96] (shp, M) = some (.inl (some (vi 1)), (shp, M')) := by
  show ev prog (d + 1) 82 0 0 [vr 5, vi x1, vi x2, vr 96, vj] [] (shp, M) = _
  rw [b82_0, h, callK_x]
  exact b82_3 d M'
theorem w86_r (d : Nat) (x1 : Int) (M M' : mM) (r : Int) (h : run prog d 85 [vr 5, vi x1] (shp, M) = some (.inl (some (vi r)), (shp, M'))) : run prog (d + 1) 86 [vr 5, vi x1, vr 96] (shp, M) = some (.inl (some (vi 0)), (shp, mset M' 96 0 r)) := by
  show ev prog (d + 1) 86 0 0 [vr 5, vi x1, vr 96, vj] [] (shp, M) = _
  skip
  rw [b86_0, h]
  simp +decide only [callK_r, psh_s, psh_n, b86_1, b86_3, b86_2, b86_4, bi, reduceIte, Int.reduceEq, Int.toNat_zero, and_self, true_and]
  all_goals first | rfl | done
theorem w86_x2 (d : Nat) (x1 : Int) (M M' : mM) (h : run prog d 85 [vr 5, vi x1] (shp, M) = some (.inr 2, (shp, M'))) : run prog (d + 1) 86 [vr 5, vi x1, vr 96] (shp, M) = some (.inl (some (vi 1)), (shp, M')) := by
  show ev prog (d + 1) 86 0 0 [vr 5, vi x1, vr 96, vj] [] (shp, M) = _
  rw [b86_0, h, callK_x]
  exact b86_3 d M'
theorem w89_r (d : Nat) (x1 : Int) (M M' : mM) (r : Int) (h : run prog d 88 [vr 5, vi x1] (shp, M) = some (.inl (some (vi r)), (shp, M'))) : run prog (d + 1) 89 [vr 5, vi x1, vr 96] (shp, M) = some (.inl (some (vi 0)), (shp, mset M' 96 0 r)) := by
  show ev prog (d + 1) 89 0 0 [vr 5, vi x1, vr 96, vj] [] (shp, M) = _
  skip
  rw [b89_0, h]
  simp +decide only [callK_r, psh_s, psh_n, b89_1, b89_3, b89_2, b89_4, bi, reduceIte, Int.reduceEq, Int.toNat_zero, and_self, true_and]
  all_goals first | rfl | done
theorem w89_x2 (d : Nat) (x1 : Int) (M M' : mM) (h : run prog d 88 [vr 5, vi x1] (shp, M) = some (.inr 2, (shp, M'))) : run prog (d + 1) 89 [vr 5, vi x1, vr 96] (shp, M) = some (.inl (some (vi 1)), (shp, M')) := by
  show ev prog (d + 1) 89 0 0 [vr 5, vi x1, vr 96, vj] [] (shp, M) = _
  rw [b89_0, h, callK_x]
  exact b89_3 d M'
theorem w92_r (d : Nat) (x1 : Int) (x2 : Int) (x3 : Int) (M M' : mM) (r : Int) (h : run prog d 91 [vr 5, vi x1, vi x2, vi x3] (shp, M) = some (.inl (some (vi r)), (shp, M'))) : run prog (d + 1) 92 [vr 5, vi x1, vi x2, vi x3, vr 96] (shp, M) = some (.inl (some (vi 0)), (shp, mset M' 96 0 r)) := by
  show ev prog (d + 1) 92 0 0 [vr 5, vi x1, vi x2, vi x3, vr 96, vj] [] (shp, M) = _
  skip
  rw [b92_0, h]
  simp +decide only [callK_r, psh_s, psh_n, b92_1, b92_4, b92_3, b92_2, b92_5, bi, reduceIte, Int.reduceEq, Int.toNat_zero, and_self, true_and]
  all_goals first | rfl | done
theorem w92_x0 (d : Nat) (x1 : Int) (x2 : Int) (x3 : Int) (M M' : mM) (h : run prog d 91 [vr 5, vi x1, vi x2, vi x3] (shp, M) = some (.inr 0, (shp, M'))) : run prog (d + 1) 92 [vr 5, vi x1, vi x2, vi x3, vr 96] (shp, M) = some (.inl (some (vi 2)), (shp, M')) := by
  show ev prog (d + 1) 92 0 0 [vr 5, vi x1, vi x2, vi x3, vr 96, vj] [] (shp, M) = _
  rw [b92_0, h, callK_x]
  exact b92_4 d M'
theorem w92_x2 (d : Nat) (x1 : Int) (x2 : Int) (x3 : Int) (M M' : mM) (h : run prog d 91 [vr 5, vi x1, vi x2, vi x3] (shp, M) = some (.inr 2, (shp, M'))) : run prog (d + 1) 92 [vr 5, vi x1, vi x2, vi x3, vr 96] (shp, M) = some (.inl (some (vi 1)), (shp, M')) := by
  show ev prog (d + 1) 92 0 0 [vr 5, vi x1, vi x2, vi x3, vr 96, vj] [] (shp, M) = _
  rw [b92_0, h, callK_x]
  exact b92_3 d M'
theorem w98_r (d : Nat) (x1 : Int) (x2 : Int) (x3 : Int) (M M' : mM) (r : Int) (h : run prog d 97 [vr 5, vi x1, vi x2, vi x3] (shp, M) = some (.inl (some (vi r)), (shp, M'))) : run prog (d + 1) 98 [vr 5, vi x1, vi x2, vi x3, vr 96] (shp, M) = some (.inl (some (vi 0)), (shp, mset M' 96 0 r)) := by
  show ev prog (d + 1) 98 0 0 [vr 5, vi x1, vi x2, vi x3, vr 96, vj] [] (shp, M) = _
  skip
  rw [b98_0, h]
  simp +decide only [callK_r, psh_s, psh_n, b98_1, b98_3, b98_4, b98_2, b98_5, bi, reduceIte, Int.reduceEq, Int.toNat_zero, and_self, true_and]
  all_goals first | rfl | done
theorem w98_x0 (d : Nat) (x1 : Int) (x2 : Int) (x3 : Int) (M M' : mM) (h : run prog d 97 [vr 5, vi x1, vi x2, vi x3] (shp, M) = some (.inr 0, (shp, M'))) : run prog (d + 1) 98 [vr 5, vi x1, vi x2, vi x3, vr 96] (shp, M) = some (.inl (some (vi 1)), (shp, M')) := by
  show ev prog (d + 1) 98 0 0 [vr 5, vi x1, vi x2, vi x3, vr 96, vj] [] (shp, M) = _
  rw [b98_0, h, callK_x]
  exact b98_3 d M'
theorem w98_x4 (d : Nat) (x1 : Int) (x2 : Int) (x3 : Int) (M M' : mM) (h : run prog d 97 [vr 5, vi x1, vi x2, vi x3] (shp, M) = some (.inr 4, (shp, M'))) : run prog (d + 1) 98 [vr 5, vi x1, vi x2, vi x3, vr 96] (shp, M) = some (.inl (some (vi 2)), (shp, M')) := by
  show ev prog (d + 1) 98 0 0 [vr 5, vi x1, vi x2, vi x3, vr 96, vj] [] (shp, M) = _
  rw [b98_0, h, callK_x]
  exact b98_4 d M'
theorem w102_r (d : Nat) (M M' : mM) (r : Int) (h : run prog d 101 [vr 5] (shp, M) = some (.inl (some (vi r)), (shp, M'))) : run prog (d + 1) 102 [vr 5, vr 96] (shp, M) = some (.inl (some (vi 0)), (shp, mset M' 96 0 r)) := by
  show ev prog (d + 1) 102 0 0 [vr 5, vr 96, vj] [] (shp, M) = _
  skip
  rw [b102_0, h]
  simp +decide only [callK_r, psh_s, psh_n, b102_1, b102_3, b102_2, b102_4, bi, reduceIte, Int.reduceEq, Int.toNat_zero, and_self, true_and]
  all_goals first | rfl | done
theorem w102_x2 (d : Nat) (M M' : mM) (h : run prog d 101 [vr 5] (shp, M) = some (.inr 2, (shp, M'))) : run prog (d + 1) 102 [vr 5, vr 96] (shp, M) = some (.inl (some (vi 1)), (shp, M')) := by
  show ev prog (d + 1) 102 0 0 [vr 5, vr 96, vj] [] (shp, M) = _
  rw [b102_0, h, callK_x]
  exact b102_3 d M'
theorem w107_r (d : Nat) (x1 : Int) (x2 : Int) (M M' : mM) (r : Int) (h : run prog d 106 [vr 5, vi x1, vi x2] (shp, M) = some (.inl (some (vi r)), (shp, M'))) : run prog (d + 1) 107 [vr 5, vi x1, vi x2, vr 96] (shp, M) = some (.inl (some (vi 0)), (shp, mset M' 96 0 r)) := by
  show ev prog (d + 1) 107 0 0 [vr 5, vi x1, vi x2, vr 96, vj] [] (shp, M) = _
  skip
  rw [b107_0, h]
  simp +decide only [callK_r, psh_s, psh_n, b107_1, b107_4, b107_3, b107_2, b107_5, bi, reduceIte, Int.reduceEq, Int.toNat_zero, and_self, true_and]
  all_goals first | rfl | done
theorem w107_x0 (d : Nat) (x1 : Int) (x2 : Int) (M M' : mM) (h : run prog d 106 [vr 5, vi x1, vi x2] (shp, M) = some (.inr 0, (shp, M'))) : run prog (d + 1) 107 [vr 5, vi x1, vi x2, vr 96] (shp, M) = some (.inl (some (vi 2)), (shp, M')) := by
  show ev prog (d + 1) 107 0 0 [vr 5, vi x1, vi x2, vr 96, vj] [] (shp, M) = _
  rw [b107_0, h, callK_x]
  exact b107_4 d M'
theorem w107_x2 (d : Nat) (x1 : Int) (x2 : Int) (M M' : mM) (h : run prog d 106 [vr 5, vi x1, vi x2] (shp, M) = some (.inr 2, (shp, M'))) : run prog (d + 1) 107 [vr 5, vi x1, vi x2, vr 96] (shp, M) = some (.inl (some (vi 1)), (shp, M')) := by
  show ev prog (d + 1) 107 0 0 [vr 5, vi x1, vi x2, vr 96, vj] [] (shp, M) = _
  rw [b107_0, h, callK_x]
  exact b107_3 d M'
theorem w111_r (d : Nat) (x1 : Int) (M M' : mM) (r : Int) (h : run prog d 110 [vr 5, vi x1] (shp, M) = some (.inl (some (vi r)), (shp, M'))) : run prog (d + 1) 111 [vr 5, vi x1, vr 96] (shp, M) = some (.inl (some (vi 0)), (shp, mset M' 96 0 r)) := by
  show ev prog (d + 1) 111 0 0 [vr 5, vi x1, vr 96, vj] [] (shp, M) = _
  skip
  rw [b111_0, h]
  simp +decide only [callK_r, psh_s, psh_n, b111_1, b111_3, b111_2, b111_4, bi, reduceIte, Int.reduceEq, Int.toNat_zero, and_self, true_and]
  all_goals first | rfl | done
theorem w111_x2 (d : Nat) (x1 : Int) (M M' : mM) (h : run prog d 110 [vr 5, vi x1] (shp, M) = some (.inr 2, (shp, M'))) : run prog (d + 1) 111 [vr 5, vi x1, vr 96] (shp, M) = some (.inl (some (vi 1)), (shp, M')) := by
  show ev prog (d + 1) 111 0 0 [vr 5, vi x1, vr 96, vj] [] (shp, M) = _
  rw [b111_0, h, callK_x]
  exact b111_3 d M'
theorem w114_r (d : Nat) (x1 : Int) (M M' : mM) (r : Int) (h : run prog d 113 [vr 5, vi x1] (shp, M) = some (.inl (some (vi r)), (shp, M'))) : run prog (d + 1) 114 [vr 5, vi x1, vr 96] (shp, M) = some (.inl (some (vi 0)), (shp, mset M' 96 0 r)) := by
  show ev prog (d + 1) 114 0 0 [vr 5, vi x1, vr 96, vj] [] (shp, M) = _
  skip
  rw [b114_0, h]
  simp +decide only [callK_r, psh_s, psh_n, b114_1, b114_3, b114_2, b114_4, bi, reduceIte, Int.reduceEq, Int.toNat_zero, and_self, true_and]
  all_goals first | rfl | done
theorem w114_x2 (d : Nat) (x1 : Int) (M M' : mM) (h : run prog d 113 [vr 5, vi x1] (shp, M) = some (.inr 2, (shp, M'))) : run prog (d + 1) 114 [vr 5, vi x1, vr 96] (shp, M) = some (.inl (some (vi 1)), (shp, M')) := by
  show ev prog (d + 1) 114 0 0 [vr 5, vi x1, vr 96, vj] [] (shp, M) = _
  rw [b114_0, h, callK_x]
  exact b114_3 d M'
theorem w121_r (d : Nat) (x1 : Int) (x2 : Int) (M M' : mM) (r : Int) (h : run prog d 120 [vr 5, vi x1, vi x2] (shp, M) = some (.inl (some (vi r)), (shp, M'))) : run prog (d + 1) 121 [vr 5, vi x1, vi x2, vr 96] (shp, M) = some (.inl (some (vi 0)), (shp, mset M' 96 0 r)) := by
  show ev prog (d + 1) 121 0 0 [vr 5, vi x1, vi x2, vr 96, vj] [] (shp, M) = _
  skip
  rw [b121_0, h]
  simp +decide only [callK_r, psh_s, psh_n, b121_1, b121_4, b121_3, b121_2, b121_5, bi, reduceIte, Int.reduceEq, Int.toNat_zero, and_self, true_and]
  all_goals first | rfl | done
theorem w121_x0 (d : Nat) (x1 : Int) (x2 : Int) (M M' : mM) (h : run prog d 120 [vr 5, vi x1, vi x2] (shp, M) = some (.inr 0, (shp, M'))) : run prog (d + 1) 121 [vr 5, vi x1, vi x2, vr 96] (shp, M) = some (.inl (some (vi 2)), (shp, M')) := by
  show ev prog (d + 1) 121 0 0 [vr 5, vi x1, vi x2, vr 96, vj] [] (shp, M) = _
  rw [b121_0, h, callK_x]
  exact b121_4 d M'
theorem w121_x2 (d : Nat) (x1 : Int) (x2 : Int) (M M' : mM) (h : run prog d 120 [vr 5, vi x1, vi x2] (shp, M) = some (.inr 2, (shp, M'))) : run prog (d + 1) 121 [vr 5, vi x1, vi x2, vr 96] (shp, M) = some (.inl (some (vi 1)), (shp, M')) := by
  show ev prog (d + 1) 121 0 0 [vr 5, vi x1, vi x2, vr 96, vj] [] (shp, M) = _
  rw [b121_0, h, callK_x]
  exact b121_3 d M'
theorem w128_r (d : Nat) (x1 : Int) (M M' : mM) (r : Int) (h : run prog d 127 [vr 5, vi x1] (shp, M) = some (.inl (some (vi r)), (shp, M'))) : run prog (d + 1) 128 [vr 5, vi x1, vr 96] (shp, M) = some (.inl (some (vi 0)), (shp, mset M' 96 0 r)) := by
  show ev prog (d + 1) 128 0 0 [vr 5, vi x1, vr 96, vj] [] (shp, M) = _
  skip
  rw [b128_0, h]
  simp +decide only [callK_r, psh_s, psh_n, b128_1, b128_3, b128_2, b128_4, bi, reduceIte, Int.reduceEq, Int.toNat_zero, and_self, true_and]
  all_goals first | rfl | done
theorem w128_x0 (d : Nat) (x1 : Int) (M M' : mM) (h : run prog d 127 [vr 5, vi x1] (shp, M) = some (.inr 0, (shp, M'))) : run prog (d + 1) 128 [vr 5, vi x1, vr 96] (shp, M) = some (.inl (some (vi 1)), (shp, M')) := by
  show ev prog (d + 1) 128 0 0 [vr 5, vi x1, vr 96, vj] [] (shp, M) = _
  rw [b128_0, h, callK_x]
  exact b128_3 d M'
theorem w134_r (d : Nat) (x1 : Int) (x2 : Int) (x3 : Int) (M M' : mM) (r : Int) (h : run prog d 133 [vr 5, vi x1, vi x2, vi x3] (shp, M) = some (.inl (some (vi r)), (shp, M'))) : run prog (d + 1) 134 [vr 5, vi x1, vi x2, vi x3, vr 96] (shp, M) = some (.inl (some (vi 0)), (shp, mset M' 96 0 r)) := by
  show ev prog (d + 1) 134 0 0 [vr 5, vi x1, vi x2, vi x3, vr 96, vj] [] (shp, M) = _
  skip
  rw [b134_0, h]
  simp +decide only [callK_r, psh_s, psh_n, b134_1, b134_4, b134_3, b134_2, b134_5, bi, reduceIte, Int.reduceEq, Int.toNat_zero, and_self, true_and]
  all_goals first | rfl | done
theorem w134_x0 (d : Nat) (x1 : Int) (x2 : Int) (x3 : Int) (M M' : mM) (h : run prog d 133 [vr 5, vi x1, vi x2, vi x3] (shp, M) = some (.inr 0, (shp, M'))) : run prog (d + 1) 134 [vr 5, vi x1, vi x2, vi x3, vr 96] (shp, M) = some (.inl (some (vi 2)), (shp, M')) := by
  show ev prog (d + 1) 134 0 0 [vr 5, vi x1, vi x2, vi x3, vr 96, vj] [] (shp, M) = _
  rw [b134_0, h, callK_x]
  exact b134_4 d M'
theorem w134_x2 (d : Nat) (x1 : Int) (x2 : Int) (x3 : Int) (M M' : mM) (h : run prog d 133 [vr 5, vi x1, vi x2, vi x3] (shp, M) = some (.inr 2, (shp, M'))) : run prog (d + 1) 134 [vr 5, vi x1, vi x2, vi x3, vr 96] (shp, M) = some (.inl (some (vi 1)), (shp, M')) := by
  show ev prog (d + 1) 134 0 0 [vr 5, vi x1, vi x2, vi x3, vr 96, vj] [] (shp, M) = _
  rw [b134_0, h, callK_x]
  exact b134_3 d M'
theorem w141_r (d : Nat) (x1 : Int) (x2 : Int) (M M' : mM) (r : Int) (h : run prog d 140 [vr 5, vi x1, vi x2] (shp, M) = some (.inl (some (vi r)), (shp, M'))) : run prog (d + 1) 141 [vr 5, vi x1, vi x2, vr 96] (shp, M) = some (.inl (some (vi 0)), (shp, mset M' 96 0 r)) := by
  show ev prog (d + 1) 141 0 0 [vr 5, vi x1, vi x2, vr 96, vj] [] (shp, M) = _
  skip
  rw [b141_0, h]
  simp +decide only [callK_r, psh_s, psh_n, b141_1, b141_4, b141_3, b141_2, b141_5, bi, reduceIte, Int.reduceEq, Int.toNat_zero, and_self, true_and]
  all_goals first | rfl | done
theorem w141_x0 (d : Nat) (x1 : Int) (x2 : Int) (M M' : mM) (h : run prog d 140 [vr 5, vi x1, vi x2] (shp, M) = some (.inr 0, (shp, M'))) : run prog (d + 1) 141 [vr 5, vi x1, vi x2, vr 96] (shp, M) = some (.inl (some (vi 2)), (shp, M')) := by
  show ev prog (d + 1) 141 0 0 [vr 5, vi x1, vi x2, vr 96, vj] [] (shp, M) = _
  rw [b141_0, h, callK_x]
  exact b141_4 d M'
theorem w141_x3 (d : Nat) (x1 : Int) (x2 : Int) (M M' : mM) (h : run prog d 140 [vr 5, vi x1, vi x2] (shp, M) = some (.inr 3, (shp, M'))) : run prog (d + 1) 141 [vr 5, vi x1, vi x2, vr 96] (shp, M) = some (.inl (some (vi 1)), (shp, M')) := by
  show ev prog (d + 1) 141 0 0 [vr 5, vi x1, vi x2, vr 96, vj] [] (shp, M) = _
  rw [b141_0, h, callK_x]
  exact b141_3 d M'
theorem w147_r (d : Nat) (x1 : Int) (M M' : mM) (r : Int) (h : run prog d 146 [vr 5, vi x1] (shp, M) = some (.inl (some (vi r)), (shp, M'))) : run prog (d + 1) 147 [vr 5, vi x1, vr 96] (shp, M) = some (.inl (some (vi 0)), (shp, mset M' 96 0 r)) := by
  show ev prog (d + 1) 147 0 0 [vr 5, vi x1, vr 96, vj] [] (shp, M) = _
  skip
  rw [b147_0, h]
  simp +decide only [callK_r, psh_s, psh_n, b147_1, b147_3, b147_2, b147_4, bi, reduceIte, Int.reduceEq, Int.toNat_zero, and_self, true_and]
  all_goals first | rfl | done
theorem w147_x0 (d : Nat) (x1 : Int) (M M' : mM) (h : run prog d 146 [vr 5, vi x1] (shp, M) = some (.inr 0, (shp, M'))) : run prog (d + 1) 147 [vr 5, vi x1, vr 96] (shp, M) = some (.inl (some (vi 1)), (shp, M')) := by
  show ev prog (d + 1) 147 0 0 [vr 5, vi x1, vr 96, vj] [] (shp, M) = _
  rw [b147_0, h, callK_x]
  exact b147_3 d M'
theorem w151_r (d : Nat) (x1 : Int) (x2 : Int) (x3 : Int) (M M' : mM) (h : run prog d 150 [vr 5, vi x1, vi x2, vi x3] (shp, M) = some (.inl none, (shp, M'))) : run prog (d + 1) 151 [vr 5, vi x1, vi x2, vi x3] (shp, M) = some (.inl (some (vi 0)), (shp, M')) := by
  show ev prog (d + 1) 151 0 0 [vr 5, vi x1, vi x2, vi x3, vj] [] (shp, M) = _
  skip
  rw [b151_0, h]
  simp +decide only [callK_r, psh_s, psh_n, b151_1, b151_2, b151_3, bi, reduceIte, Int.reduceEq, Int.toNat_zero, and_self, true_and]
  all_goals first | rfl | done
theorem w151_x0 (d : Nat) (x1 : Int) (x2 : Int) (x3 : Int) (M M' : mM) (h : run prog d 150 [vr 5, vi x1, vi x2, vi x3] (shp, M) = some (.inr 0, (shp, M'))) : run prog (d + 1) 151 [vr 5, vi x1, vi x2, vi x3] (shp, M) = some (.inl (some (vi 1)), (shp, M')) := by
  show ev prog (d + 1) 151 0 0 [vr 5, vi x1, vi x2, vi x3, vj] [] (shp, M) = _
  rw [b151_0, h, callK_x]
  exact b151_2 d M'
theorem w154_r (d : Nat) (x1 : Int) (x2 : Int) (M M' : mM) (r : Bool) (h : run prog d 153 [vr 5, vi x1, vi x2] (shp, M) = some (.inl (some (vi (bi r))), (shp, M'))) : run prog (d + 1) 154 [vr 5, vi x1, vi x2, vr 96] (shp, M) = some (.inl (some (vi 0)), (shp, mset M' 96 0 (bi r))) := by
  show ev prog (d + 1) 154 0 0 [vr 5, vi x1, vi x2, vr 96, vj] [] (shp, M) = _
  cases r
  all_goals rw [b154_0, h]
  all_goals simp +decide only [callK_r, psh_s, psh_n, b154_1, b154_6, b154_3, b154_2, b154_4, b154_5, b154_7, bi, reduceIte, Int.reduceEq, Int.toNat_zero, and_self, true_and]
  all_goals first | rfl | done
theorem w154_x0 (d : Nat) (x1 : Int) (x2 : Int) (M M' : mM) (h : run prog d 153 [vr 5, vi x1, vi x2] (shp, M) = some (.inr 0, (shp, M'))) : run prog (d + 1) 154 [vr 5, vi x1, vi x2, vr 96] (shp, M) = some (.inl (some (vi 1)), (shp, M')) := by
  show ev prog (d + 1) 154 0 0 [vr 5, vi x1, vi x2, vr 96, vj] [] (shp, M) = _
  rw [b154_0, h, callK_x]
  exact b154_6 d M'
theorem w159_r (d : Nat) (x1 : Int) (M M' : mM) (r : Int) (h : run prog d 158 [vr 5, vi x1] (shp, M) = some (.inl (some (vi r)), (shp, M'))) : run prog (d + 1) 159 [vr 5, vi x1, vr 96] (shp, M) = some (.inl (some (vi 0)), (shp, mset M' 96 0 r)) := by
  show ev prog (d + 1) 159 0 0 [vr 5, vi x1, vr 96, vj] [] (shp, M) = _
  skip
  rw [b159_0, h]
  simp +decide only [callK_r, psh_s, psh_n, b159_1, b159_3, b159_2, b159_4, bi, reduceIte, Int.reduceEq, Int.toNat_zero, and_self, true_and]
  all_goals first | rfl | done
theorem w159_x2 (d : Nat) (x1 : Int) (M M' : mM) (h : run prog d 158 [vr 5, vi x1] (shp, M) = some (.inr 2, (shp, M'))) : run prog (d + 1) 159 [vr 5, vi x1, vr 96] (shp, M) = some (.inl (some (vi 1)), (shp, M')) := by
  show ev prog (d + 1) 159 0 0 [vr 5, vi x1, vr 96, vj] [] (shp, M) = _
  rw [b159_0, h, callK_x]
  exact b159_3 d M'
theorem w167_r (d : Nat) (x1 : Int) (M M' : mM) (r : Int) (h : run prog d 166 [vr 5, vi x1] (shp, M) = some (.inl (some (vi r)), (shp, M'))) : run prog (d + 1) 167 [vr 5, vi x1, vr 96] (shp, M) = some (.inl (some (vi 0)), (shp, mset M' 96 0 r)) := by
  show ev prog (d + 1) 167 0 0 [vr 5, vi x1, vr 96, vj] [] (shp, M) = _
  skip
  rw [b167_0, h]
  simp +decide only [callK_r, psh_s, psh_n, b167_1, b167_3, b167_2, b167_4, bi, reduceIte, Int.reduceEq, Int.toNat_zero, and_self, true_and]
  all_goals first | rfl | done
theorem w167_x2 (d : Nat) (x1 : Int) (M M' : mM) (h : run prog d 166 [vr 5, vi x1] (shp, M) = some (.inr 2, (shp, M'))) : run prog (d + 1) 167 [vr 5, vi x1, vr 96] (shp, M) = some (.inl (some (vi 1)), (shp, M')) := by
  show ev prog (d + 1) 167 0 0 [vr 5, vi x1, vr 96, vj] [] (shp, M) = _
  rw [b167_0, h, callK_x]
  exact b167_3 d M'
theorem w174_r (d : Nat) (x1 : Int) (M M' : mM) (r : Int) (h : run prog d 173 [vr 5, vi x1] (shp, M) = some (.inl (some (vi r)), (shp, M'))) : run prog (d + 1) 174 [vr 5, vi x1, vr 96] (shp, M) = some (.inl (some (vi 0)), (shp, mset M' 96 0 r)) := by
  show ev prog (d + 1) 174 0 0 [vr 5, vi x1, vr 96, vj] [] (shp, M) = _
  skip
  rw [b174_0, h]
  simp +decide only [callK_r, psh_s, psh_n, b174_1, b174_3, b174_2, b174_4, bi, reduceIte, Int.reduceEq, Int.toNat_zero, and_self, true_and]
  all_goals first | rfl | done
theorem w174_x2 (d : Nat) (x1 : Int) (M M' : mM) (h : run prog d 173 [vr 5, vi x1] (shp, M) = some (.inr 2, (shp, M'))) : run prog (d + 1) 174 [vr 5, vi x1, vr 96] (shp, M) = some (.inl (some (vi 1)), (shp, M')) := by
  show ev prog (d + 1) 174 0 0 [vr 5, vi x1, vr 96, vj] [] (shp, M) = _
  rw [b174_0, h, callK_x]
  exact b174_3 d M'
theorem w179_r (d : Nat) (M M' : mM) (r : Int) (h : run prog d 178 [vr 5] (shp, M) = some (.inl (some (vi r)), (shp, M'))) : run prog (d + 1) 179 [vr 5, vr 96] (shp, M) = some (.inl (some (vi 0)), (shp, mset M' 96 0 r)) := by
  show ev prog (d + 1) 179 0 0 [vr 5, vr 96, vj] [] (shp, M) = _
  skip
  rw [b179_0, h]
  simp +decide only [callK_r, psh_s, psh_n, b179_1, b179_3, b179_2, b179_4, bi, reduceIte, Int.reduceEq, Int.toNat_zero, and_self, true_and]
  all_goals first | rfl | done
theorem w179_x2 (d : Nat) (M M' : mM) (h : run prog d 178 [vr 5] (shp, M) = some (.inr 2, (shp, M'))) : run prog (d + 1) 179 [vr 5, vr 96] (shp, M) = some (.inl (some (vi 1)), (shp, M')) := by
  show ev prog (d + 1) 179 0 0 [vr 5, vr 96, vj] [] (shp, M) = _
  rw [b179_0, h, callK_x]
  exact b179_3 d M'
theorem w191_r (d : Nat) (x1 : Int) (M M' : mM) (r : Int) (h : run prog d 190 [vr 5, vi x1] (shp, M) = some (.inl (some (vi r)), (shp, M'))) : run prog (d + 1) 191 [vr 5, vi x1, vr 96] (shp, M) = some (.inl (some (vi 0)), (shp, mset M' 96 0 r)) := by
  show ev prog (d + 1) 191 0 0 [vr 5, vi x1, vr 96, vj] [] (shp, M) = _
  skip
  rw [b191_0, h]
  simp +decide only [callK_r, psh_s, psh_n, b191_1, b191_3, b191_4, b191_2, b191_5, bi, reduceIte, Int.reduceEq, Int.toNat_zero, and_self, true_and]
  all_goals first | rfl | done
theorem w191_x0 (d : Nat) (x1 : Int) (M M' : mM) (h : run prog d 190 [vr 5, vi x1] (shp, M) = some (.inr 0, (shp, M'))) : run prog (d + 1) 191 [vr 5, vi x1, vr 96] (shp, M) = some (.inl (some (vi 1)), (shp, M')) := by
  show ev prog (d + 1) 191 0 0 [vr 5, vi x1, vr 96, vj] [] (shp, M) = _
  rw [b191_0, h, callK_x]
  exact b191_3 d M'
theorem w191_x2 (d : Nat) (x1 : Int) (M M' : mM) (h : run prog d 190 [vr 5, vi x1] (shp, M) = some (.inr 2, (shp, M'))) : run prog (d + 1) 191 [vr 5, vi x1, vr 96] (shp, M) = some (.inl (some (vi 2)), (shp, M')) := by
  show ev prog (d + 1) 191 0 0 [vr 5, vi x1, vr 96, vj] [] (shp, M) = _
  rw [b191_0, h, callK_x]
  exact b191_4 d M'
theorem w198_r (d : Nat) (x1 : Int) (M M' : mM) (r : Int) (h : run prog d 197 [vr 5, vi x1] (shp, M) = some (.inl (some (vi r)), (shp, M'))) : run prog (d + 1) 198 [vr 5, vi x1, vr 96] (shp, M) = some (.inl (some (vi 0)), (shp, mset M' 96 0 r)) := by
  show ev prog (d + 1) 198 0 0 [vr 5, vi x1, vr 96, vj] [] (shp, M) = _
  skip
  rw [b198_0, h]
  simp +decide only [callK_r, psh_s, psh_n, b198_1, b198_3, b198_2, b198_4, bi, reduceIte, Int.reduceEq, Int.toNat_zero, and_self, true_and]
  all_goals first | rfl | done
theorem w198_x2 (d : Nat) (x1 : Int) (M M' : mM) (h : run prog d 197 [vr 5, vi x1] (shp, M) = some (.inr 2, (shp, M'))) : run prog (d + 1) 198 [vr 5, vi x1, vr 96] (shp, M) = some (.inl (some (vi 1)), (shp, M')) := by
  show ev prog (d + 1) 198 0 0 [vr 5, vi x1, vr 96, vj] [] (shp, M) = _
  rw [b198_0, h, callK_x]
  exact b198_3 d M'
theorem w209_r (d : Nat) (x1 : Int) (x2 : Int) (M M' : mM) (r : Int) (h : run prog d 208 [vr 5, vi x1, vi x2] (shp, M) = some (.inl (some (vi r)), (shp, M'))) : run prog (d + 1) 209 [vr 5, vi x1, vi x2, vr 96] (shp, M) = some (.inl (some (vi 0)), (shp, mset M' 96 0 r)) := by
  show ev prog (d + 1) 209 0 0 [vr 5, vi x1, vi x2, vr 96, vj] [] (shp, M) = _
  skip
  rw [b209_0, h]
  simp +decide only [callK_r, psh_s, psh_n, b209_1, b209_3, b209_2, b209_4, bi, reduceIte, Int.reduceEq, Int.toNat_zero, and_self, true_and]
  all_goals first | rfl | done
theorem w209_x2 (d : Nat) (x1 : Int) (x2 : Int) (M M' : mM) (h : run prog d 208 [vr 5, vi x1, vi x2] (shp, M) = some (.inr 2, (shp, M'))) : run prog (d + 1) 209 [vr 5, vi x1, vi x2, vr 96] (shp, M) = some (.inl (some (vi 1)), (shp, M')) := by
  show ev prog (d + 1) 209 0 0 [vr 5, vi x1, vi x2, vr 96, vj] [] (shp, M) = _
  rw [b209_0, h, callK_x]
  exact b209_3 d M'
theorem w212_r (d : Nat) (x1 : Int) (x2 : Int) (x3 : Int) (x4 : Int) (M M' : mM) (h : run prog d 211 [vr 5, vi x1, vi x2, vi x3, vi x4] (shp, M) = some (.inl none, (shp, M'))) : run prog (d + 1) 212 [vr 5, vi x1, vi x2, vi x3, vi x4] (shp, M) = some (.inl (some (vi 0)), (shp, M')) := by
  show ev prog (d + 1) 212 0 0 [vr 5, vi x1, vi x2, vi x3, vi x4, vj] [] (shp, M) = _
  skip
  rw [b212_0, h]
  simp +decide only [callK_r, psh_s, psh_n, b212_1, b212_3, b212_2, b212_4, bi, reduceIte, Int.reduceEq, Int.toNat_zero, and_self, true_and]
  all_goals first | rfl | done
theorem w212_x0 (d : Nat) (x1 : Int) (x2 : Int) (x3 : Int) (x4 : Int) (M M' : mM) (h : run prog d 211 [vr 5, vi x1, vi x2, vi x3, vi x4] (shp, M) = some (.inr 0, (shp, M'))) : run prog (d + 1) 212 [vr 5, vi x1, vi x2, vi x3, vi x4] (shp, M) = some (.inl (some (vi 2)), (shp, M')) := by
  show ev prog (d + 1) 212 0 0 [vr 5, vi x1, vi x2, vi x3, vi x4, vj] [] (shp, M) = _
  rw [b212_0, h, callK_x]
  exact b212_3 d M'
theorem w212_x3 (d : Nat) (x1 : Int) (x2 : Int) (x3 : Int) (x4 : Int) (M M' : mM) (h : run prog d 211 [vr 5, vi x1, vi x2, vi x3, vi x4] (shp, M) = some (.inr 3, (shp, M'))) : run prog (d + 1) 212 [vr 5, vi x1, vi x2, vi x3, vi x4] (shp, M) = some (.inl (some (vi 1)), (shp, M')) := by
  show ev prog (d + 1) 212 0 0 [vr 5, vi x1, vi x2, vi x3, vi x4, vj] [] (shp, M) = _
  rw [b212_0, h, callK_x]
  exact b212_2 d M'
theorem w221_r (d : Nat) (x1 : Int) (M M' : mM) (r : Int) (h : run prog d 220 [vr 5, vi x1] (shp, M) = some (.inl (some (vi r)), (shp, M'))) : run prog (d + 1) 221 [vr 5, vi x1, vr 96] (shp, M) = some (.inl (some (vi 0)), (shp, mset M' 96 0 r)) := by
  show ev prog (d + 1) 221 0 0 [vr 5, vi x1, vr 96, vj] [] (shp, M) = _
  skip
  rw [b221_0, h]
  simp +decide only [callK_r, psh_s, psh_n, b221_1, b221_3, b221_2, b221_4, bi, reduceIte, Int.reduceEq, Int.toNat_zero, and_self, true_and]
  all_goals first | rfl | done
theorem w221_x2 (d : Nat) (x1 : Int) (M M' : mM) (h : run prog d 220 [vr 5, vi x1] (shp, M) = some (.inr 2, (shp, M'))) : run prog (d + 1) 221 [vr 5, vi x1, vr 96] (shp, M) = some (.inl (some (vi 1)), (shp, M')) := by
  show ev prog (d + 1) 221 0 0 [vr 5, vi x1, vr 96, vj] [] (shp, M) = _
  rw [b221_0, h, callK_x]
  exact b221_3 d M'
theorem w229_r (d : Nat) (x1 : Int) (M M' : mM) (r : UInt64) (h : run prog d 228 [vr 5, vi x1] (shp, M) = some (.inl (some (vd r)), (shp, M'))) : run prog (d + 1) 229 [vr 5, vi x1, vr 97] (shp, M) = some (.inl (some (vi 0)), (shp, mset M' 97 0 (r.toNat : Int))) := by
  show ev prog (d + 1) 229 0 0 [vr 5, vi x1, vr 97, vj] [] (shp, M) = _
  skip
  rw [b229_0, h]
  simp +decide only [callK_r, psh_s, psh_n, b229_1, b229_3, b229_4, b229_2, b229_5, bi, reduceIte, Int.reduceEq, Int.toNat_zero, and_self, true_and]
  all_goals first | rfl | done
theorem w229_x0 (d : Nat) (x1 : Int) (M M' : mM) (h : run prog d 228 [vr 5, vi x1] (shp, M) = some (.inr 0, (shp, M'))) : run prog (d + 1) 229 [vr 5, vi x1, vr 97] (shp, M) = some (.inl (some (vi 1)), (shp, M')) := by
  show ev prog (d + 1) 229 0 0 [vr 5, vi x1, vr 97, vj] [] (shp, M) = _
  rw [b229_0, h, callK_x]
  exact b229_3 d M'
theorem w229_x4 (d : Nat) (x1 : Int) (M M' : mM) (h : run prog d 228 [vr 5, vi x1] (shp, M) = some (.inr 4, (shp, M'))) : run prog (d + 1) 229 [vr 5, vi x1, vr 97] (shp, M) = some (.inl (some (vi 2)), (shp, M')) := by
  show ev prog (d + 1) 229 0 0 [vr 5, vi x1, vr 97, vj] [] (shp, M) = _
  rw [b229_0, h, callK_x]
  exact b229_4 d M'
theorem w245_r (d : Nat) (x1 : Int) (M M' : mM) (r : Int) (h : run prog d 244 [vr 5, vi x1] (shp, M) = some (.inl (some (vi r)), (shp, M'))) : run prog (d + 1) 245 [vr 5, vi x1, vr 96] (shp, M) = some (.inl (some (vi 0)), (shp, mset M' 96 0 r)) := by
  show ev prog (d + 1) 245 0 0 [vr 5, vi x1, vr 96, vj] [] (shp, M) = _
  skip
  rw [b245_0, h]
  simp +decide only [callK_r, psh_s, psh_n, b245_1, b245_3, b245_2, b245_4, bi, reduceIte, Int.reduceEq, Int.toNat_zero, and_self, true_and]
  all_goals first | rfl | done
theorem w245_x0 (d : Nat) (x1 : Int) (M M' : mM) (h : run prog d 244 [vr 5, vi x1] (shp, M) = some (.inr 0, (shp, M'))) : run prog (d + 1) 245 [vr 5, vi x1, vr 96] (shp, M) = some (.inl (some (vi 1)), (shp, M')) := by
  show ev prog (d + 1) 245 0 0 [vr 5, vi x1, vr 96, vj] [] (shp, M) = _
  rw [b245_0, h, callK_x]
  exact b245_3 d M'
theorem w254_r (d : Nat) (M M' : mM) (r : Bool) (h : run prog d 253 [vr 5] (shp, M) = some (.inl (some (vi (bi r))), (shp, M'))) : run prog (d + 1) 254 [vr 5, vr 96] (shp, M) = some (.inl (some (vi 0)), (shp, mset M' 96 0 (bi r))) := by
  show ev prog (d + 1) 254 0 0 [vr 5, vr 96, vj] [] (shp, M) = _
  cases r
  all_goals rw [b254_0, h]
  all_goals simp +decide only [callK_r, psh_s, psh_n, b254_1, b254_6, b254_3, b254_2, b254_4, b254_5, b254_7, bi, reduceIte, Int.reduceEq, Int.toNat_zero, and_self, true_and]
  all_goals first | rfl | done
theorem w254_x1 (d : Nat) (M M' : mM) (h : run prog d 253 [vr 5] (shp, M) = some (.inr 1, (shp, M'))) : run prog (d + 1) 254 [vr 5, vr 96] (shp, M) = some (.inl (some (vi 1)), (shp, M')) := by
  show ev prog (d + 1) 254 0 0 [vr 5, vr 96, vj] [] (shp, M) = _
  rw [b254_0, h, callK_x]
  exact b254_6 d M'
theorem w258_r (d : Nat) (M M' : mM) (r : Int) (h : run prog d 257 [vr 5] (shp, M) = some (.inl (some (vi r)), (shp, M'))) : run prog (d + 1) 258 [vr 5, vr 96] (shp, M) = some (.inl (some (vi 0)), (shp, mset M' 96 0 r)) := by
  show ev prog (d + 1) 258 0 0 [vr 5, vr 96, vj] [] (shp, M) = _
  skip
  rw [b258_0, h]
  simp +decide only [callK_r, psh_s, psh_n, b258_1, b258_3, b258_4, b258_2, b258_5, bi, reduceIte, Int.reduceEq, Int.toNat_zero, and_self, true_and]
  all_goals first | rfl | done
theorem w258_x1 (d : Nat) (M M' : mM) (h : run prog d 257 [vr 5] (shp, M) = some (.inr 1, (shp, M'))) : run prog (d + 1) 258 [vr 5, vr 96] (shp, M) = some (.inl (some (vi 1)), (shp, M')) := by
  show ev prog (d + 1) 258 0 0 [vr 5, vr 96, vj] [] (shp, M) = _
  rw [b258_0, h, callK_x]
  exact b258_3 d M'
theorem w258_x2 (d : Nat) (M M' : mM) (h : run prog d 257 [vr 5] (shp, M) = some (.inr 2, (shp, M'))) : run prog (d + 1) 258 [vr 5, vr 96] (shp, M) = some (.inl (some (vi 2)), (shp, M')) := by
  show ev prog (d + 1) 258 0 0 [vr 5, vr 96, vj] [] (shp, M) = _
  rw [b258_0, h, callK_x]
  exact b258_4 d M'
theorem w262_r (d : Nat) (x1 : Int) (M M' : mM) (h : run prog d 261 [vr 5, vi x1] (shp, M) = some (.inl none, (shp, M'))) : run prog (d + 1) 262 [vr 5, vi x1] (shp, M) = some (.inl (some (vi 0)), (shp, M')) := by
  show ev prog (d + 1) 262 0 0 [vr 5, vi x1, vj] [] (shp, M) = _
  skip
  rw [b262_0, h]
  simp +decide only [callK_r, psh_s, psh_n, b262_1, b262_2, b262_3, bi, reduceIte, Int.reduceEq, Int.toNat_zero, and_self, true_and]
  all_goals first | rfl | done
theorem w262_x1 (d : Nat) (x1 : Int) (M M' : mM) (h : run prog d 261 [vr 5, vi x1] (shp, M) = some (.inr 1, (shp, M'))) : run prog (d + 1) 262 [vr 5, vi x1] (shp, M) = some (.inl (some (vi 1)), (shp, M')) := by
  show ev prog (d + 1) 262 0 0 [vr 5, vi x1, vj] [] (shp, M) = _
  rw [b262_0, h, callK_x]
  exact b262_2 d M'
theorem w276_r (d : Nat) (M M' : mM) (r : Int) (h : run prog d 275 [vr 5] (shp, M) = some (.inl (some (vi r)), (shp, M'))) : run prog (d + 1) 276 [vr 5, vr 96] (shp, M) = some (.inl (some (vi 0)), (shp, mset M' 96 0 r)) := by
  show ev prog (d + 1) 276 0 0 [vr 5, vr 96, vj] [] (shp, M) = _
  skip
  rw [b276_0, h]
  simp +decide only [callK_r, psh_s, psh_n, b276_1, b276_3, b276_4, b276_2, b276_5, bi, reduceIte, Int.reduceEq, Int.toNat_zero, and_self, true_and]
  all_goals first | rfl | done
theorem w276_x0 (d : Nat) (M M' : mM) (h : run prog d 275 [vr 5] (shp, M) = some (.inr 0, (shp, M'))) : run prog (d + 1) 276 [vr 5, vr 96] (shp, M) = some (.inl (some (vi 1)), (shp, M')) := by
  show ev prog (d + 1) 276 0 0 [vr 5, vr 96, vj] [] (shp, M) = _
  rw [b276_0, h, callK_x]
  exact b276_3 d M'
theorem w276_x1 (d : Nat) (M M' : mM) (h : run prog d 275 [vr 5] (shp, M) = some (.inr 1, (shp, M'))) : run prog (d + 1) 276 [vr 5, vr 96] (shp, M) = some (.inl (some (vi 2)), (shp, M')) := by
  show ev prog (d + 1) 276 0 0 [vr 5, vr 96, vj] [] (shp, M) = _
  rw [b276_0, h, callK_x]
  exact b276_4 d M'
theorem w297_r (d : Nat) (M M' : mM) (h : run prog d 296 [vr 5] (shp, M) = some (.inl none, (shp, M'))) : run prog (d + 1) 297 [vr 5] (shp, M) = some (.inl (some (vi 0)), (shp, M')) := by
  show ev prog (d + 1) 297 0 0 [vr 5, vj] [] (shp, M) = _
  skip
  rw [b297_0, h]
  simp +decide only [callK_r, psh_s, psh_n, b297_1, b297_2, b297_3, bi, reduceIte, Int.reduceEq, Int.toNat_zero, and_self, true_and]
  all_goals first | rfl | done
theorem w297_x1 (d : Nat) (M M' : mM) (h : run prog d 296 [vr 5] (shp, M) = some (.inr 1, (shp, M'))) : run prog (d + 1) 297 [vr 5] (shp, M) = some (.inl (some (vi 1)), (shp, M')) := by
  show ev prog (d + 1) 297 0 0 [vr 5, vj] [] (shp, M) = _
  rw [b297_0, h, callK_x]
  exact b297_2 d M'
