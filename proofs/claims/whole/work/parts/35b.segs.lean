/-! FROM CUT TO CUT, 1 -/
theorem g97_0 (d : Nat) (x1 : Int) (x2 : Int) (x3 : Int) (M : mM) : ev prog (d + 7) 97 0 0 [vr 5, vi x1, vi x2, vi x3] [] (shp, M) = if (bi (p12 x1 200 M)) = 0 then some (.inr 0, (shp, M)) else (if (bi (p12 x2 200 M)) = 0 then some (.inr 0, (shp, M)) else (if (bi (p12 x3 200 M)) = 0 then some (.inr 0, (shp, M)) else callK (run prog (d + 6) 94 [vr 12, vi x1, vi x2, vi x3] (shp, M)) (fun v σ1 => ev prog (d + 7) 97 0 8 [vr 5, vi x1, vi x2, vi x3] (psh v []) σ1) (fun e σ1 => hk [0, 0, 0, 0, 0] e σ1 (fun t => ev prog (d + 7) 97 0 t (msk (pMask prog 97 t) [vr 5, vi x1, vi x2, vi x3]) [vj] σ1)))) := by
  rw [b97_0]
  try simp +decide only [b97_1, b97_6, b97_2, b97_3, b97_4, b97_5, b97_7, b97_8, b97_10, b97_9, b97_11, s12, callK_r, callK_x, psh_s, psh_n, hk_0, hk_1, hk_2, hk_3, hk_4, callK_ite, bit_bi, bit_0, bit_1, eq_self, reduceIte, Int.reduceEq, Int.reduceLT, Int.reduceNeg, Nat.reduceEqDiff, ne_eq, not_false_eq_true, pu_k, mset_k, mset_j, mset_at, va_pu, va_mset, Int.reduceToNat, Int.reduceLE, and_self, true_and, and_true]
  all_goals (try rfl)
  all_goals (repeat' split)
  all_goals first | rfl | simp_all
theorem g97_8 (d : Nat) (x1 : Int) (x2 : Int) (x3 : Int) (s0 : Int) (M : mM) : ev prog (d + 7) 97 0 8 [vr 5, vi x1, vi x2, vi x3] [vi s0] (shp, M) = if s0 = 0 then some (.inr 4, (shp, M)) else callK (run prog (d + 6) 96 [vr 12, vi x1, vi x2, vi x3] (shp, M)) (fun v σ1 => ev prog (d + 7) 97 0 11 [vr 5, vj, vj, vj] (psh v []) σ1) (fun e σ1 => hk [0, 0, 0, 0, 0] e σ1 (fun t => ev prog (d + 7) 97 0 t (msk (pMask prog 97 t) [vr 5, vi x1, vi x2, vi x3]) [vj] σ1)) := by
  rw [b97_8]
  try simp +decide only [b97_0, b97_1, b97_6, b97_2, b97_3, b97_4, b97_5, b97_7, b97_10, b97_9, b97_11, callK_r, callK_x, psh_s, psh_n, hk_0, hk_1, hk_2, hk_3, hk_4, callK_ite, bit_bi, bit_0, bit_1, eq_self, reduceIte, Int.reduceEq, Int.reduceLT, Int.reduceNeg, Nat.reduceEqDiff, ne_eq, not_false_eq_true, pu_k, mset_k, mset_j, mset_at, va_pu, va_mset, Int.reduceToNat, Int.reduceLE, and_self, true_and, and_true]
  all_goals (try rfl)
  all_goals (repeat' split)
  all_goals first | rfl | simp_all
theorem g97_11 (d : Nat) (M : mM) : ev prog (d + 7) 97 0 11 [vr 5, vj, vj, vj] [] (shp, M) = some (.inl (some (vi (M 21 1))), (shp, M)) := by
  rw [b97_11]
  try simp +decide only [b97_0, b97_1, b97_6, b97_2, b97_3, b97_4, b97_5, b97_7, b97_8, b97_10, b97_9, callK_r, callK_x, psh_s, psh_n, hk_0, hk_1, hk_2, hk_3, hk_4, callK_ite, bit_bi, bit_0, bit_1, eq_self, reduceIte, Int.reduceEq, Int.reduceLT, Int.reduceNeg, Nat.reduceEqDiff, ne_eq, not_false_eq_true, pu_k, mset_k, mset_j, mset_at, va_pu, va_mset, Int.reduceToNat, Int.reduceLE, and_self, true_and, and_true]
  all_goals (try rfl)
  all_goals (repeat' split)
  all_goals first | rfl | simp_all
theorem g99_0 (d : Nat) (x1 : Int) (x2 : Int) (x3 : Int) (x4 : Int) (M : mM) : ev prog (d + 3) 99 0 0 [vr 87, vi x1, vi x2, vi x3, vi x4] [] (shp, M) = if 0 ≤ (wr (1200 + x1)) ∧ (wr (1200 + x1)) < 2031 then (if (M 88 (Int.toNat (wr (1200 + x1)))) = 0 then some (.inl (some (vi 1)), (shp, M)) else (if 0 ≤ (wr (3 * x1)) ∧ (wr (3 * x1)) < 2031 then (if 0 ≤ (wr ((wr (3 * x1)) + 1)) ∧ (wr ((wr (3 * x1)) + 1)) < 2031 then (if 0 ≤ (wr ((wr (3 * x1)) + 2)) ∧ (wr ((wr (3 * x1)) + 2)) < 2031 then (if (bi (p52 (wr ((M 88 (Int.toNat (wr (3 * x1)))) + x2)) (wr ((M 88 (Int.toNat (wr ((wr (3 * x1)) + 1)))) + x3)) (wr ((M 88 (Int.toNat (wr ((wr (3 * x1)) + 2)))) + x4)) M)) = 0 then some (.inl (some (vi 0)), (shp, M)) else some (.inl (some (vi 1)), (shp, M))) else none) else none) else none)) else none := by
  rw [b99_0]
  try simp +decide only [b99_1, b99_7, b99_2, b99_9, b99_3, b99_4, b99_5, b99_6, b99_8, s52, callK_r, callK_x, psh_s, psh_n, hk_0, hk_1, hk_2, hk_3, hk_4, callK_ite, bit_bi, bit_0, bit_1, eq_self, reduceIte, Int.reduceEq, Int.reduceLT, Int.reduceNeg, Nat.reduceEqDiff, ne_eq, not_false_eq_true, pu_k, mset_k, mset_j, mset_at, va_pu, va_mset, Int.reduceToNat, Int.reduceLE, and_self, true_and, and_true]
  all_goals (try rfl)
  all_goals (repeat' split)
  all_goals first | rfl | simp_all
theorem g100_0 (d : Nat) (x1 : Int) (x2 : Int) (x3 : Int) (M : mM) : ev prog (d + 4) 100 0 0 [vr 87, vi x1, vi x2, vi x3, vj] [] (shp, M) = if (bi (p51 x1 (-200) 200 (mset M 87 3 0))) = 0 then some (.inl (some (vi 0)), (shp, mset (mset M 87 3 0) 87 3 1)) else (if (bi (p51 x2 (-200) 200 (mset M 87 3 0))) = 0 then some (.inl (some (vi 0)), (shp, mset (mset M 87 3 0) 87 3 1)) else (if (bi (p51 x3 (-200) 200 (mset M 87 3 0))) = 0 then some (.inl (some (vi 0)), (shp, mset (mset M 87 3 0) 87 3 1)) else ev prog (d + 4) 100 0 9 [vr 87, vi x1, vi x2, vi x3, vi 0] [] (shp, mset M 87 3 0))) := by
  rw [b100_0]
  try simp +decide only [b100_1, b100_6, b100_2, b100_7, b100_3, b100_4, b100_5, b100_8, b100_10, b100_16, b100_11, b100_12, b100_18, b100_15, b100_13, b100_28, b100_19, b100_14, b100_29, b100_20, b100_27, b100_21, b100_22, b100_23, b100_24, b100_25, b100_26, s53, s51, o53, callK_r, callK_x, psh_s, psh_n, hk_0, hk_1, hk_2, hk_3, hk_4, callK_ite, bit_bi, bit_0, bit_1, eq_self, reduceIte, Int.reduceEq, Int.reduceLT, Int.reduceNeg, Nat.reduceEqDiff, ne_eq, not_false_eq_true, pu_k, mset_k, mset_j, mset_at, va_pu, va_mset, Int.reduceToNat, Int.reduceLE, and_self, true_and, and_true]
  all_goals (try rfl)
  all_goals (repeat' split)
  all_goals first | rfl | simp_all
theorem g100_9 (d : Nat) (x1 : Int) (x2 : Int) (x3 : Int) (x4 : Int) (M : mM) : ev prog (d + 4) 100 0 9 [vr 87, vi x1, vi x2, vi x3, vi x4] [] (shp, M) = if x4 < (M 88 2001) then callK (run prog (d + 3) 99 [vr 87, vi x4, vi x1, vi x2, vi x3] (shp, M)) (fun v σ1 => ev prog (d + 4) 100 0 12 [vr 87, vi x1, vi x2, vi x3, vi x4] (psh v []) σ1) (fun e σ1 => hk [0, 0, 0, 0, 0] e σ1 (fun t => ev prog (d + 4) 100 0 t (msk (pMask prog 100 t) [vr 87, vi x1, vi x2, vi x3, vi x4]) [vj] σ1)) else ev prog (d + 4) 100 0 17 [vr 87, vi x1, vi x2, vi x3, vi 0] [] (shp, M) := by
  rw [b100_9]
  try simp +decide only [b100_0, b100_1, b100_6, b100_2, b100_7, b100_3, b100_4, b100_5, b100_8, b100_10, b100_16, b100_11, b100_12, b100_18, b100_15, b100_13, b100_28, b100_19, b100_14, b100_29, b100_20, b100_27, b100_21, b100_22, b100_23, b100_24, b100_25, b100_26, callK_r, callK_x, psh_s, psh_n, hk_0, hk_1, hk_2, hk_3, hk_4, callK_ite, bit_bi, bit_0, bit_1, eq_self, reduceIte, Int.reduceEq, Int.reduceLT, Int.reduceNeg, Nat.reduceEqDiff, ne_eq, not_false_eq_true, pu_k, mset_k, mset_j, mset_at, va_pu, va_mset, Int.reduceToNat, Int.reduceLE, and_self, true_and, and_true]
  all_goals (try rfl)
  all_goals (repeat' split)
  all_goals first | rfl | simp_all
theorem g100_12 (d : Nat) (x1 : Int) (x2 : Int) (x3 : Int) (x4 : Int) (s0 : Int) (M : mM) : ev prog (d + 4) 100 0 12 [vr 87, vi x1, vi x2, vi x3, vi x4] [vi s0] (shp, M) = if s0 = 0 then some (.inl (some (vi 0)), (shp, mset M 87 3 2)) else ev prog (d + 4) 100 0 9 [vr 87, vi x1, vi x2, vi x3, vi (wr (x4 + 1))] [] (shp, M) := by
  rw [b100_12]
  try simp +decide only [b100_0, b100_1, b100_6, b100_2, b100_7, b100_3, b100_4, b100_5, b100_8, b100_10, b100_16, b100_11, b100_18, b100_15, b100_13, b100_28, b100_19, b100_14, b100_29, b100_20, b100_27, b100_21, b100_22, b100_23, b100_24, b100_25, b100_26, s53, o53, callK_r, callK_x, psh_s, psh_n, hk_0, hk_1, hk_2, hk_3, hk_4, callK_ite, bit_bi, bit_0, bit_1, eq_self, reduceIte, Int.reduceEq, Int.reduceLT, Int.reduceNeg, Nat.reduceEqDiff, ne_eq, not_false_eq_true, pu_k, mset_k, mset_j, mset_at, va_pu, va_mset, Int.reduceToNat, Int.reduceLE, and_self, true_and, and_true]
  all_goals (try rfl)
  all_goals (repeat' split)
  all_goals first | rfl | simp_all
theorem g100_17 (d : Nat) (x1 : Int) (x2 : Int) (x3 : Int) (x4 : Int) (M : mM) : ev prog (d + 4) 100 0 17 [vr 87, vi x1, vi x2, vi x3, vi x4] [] (shp, M) = if x4 < (M 88 2001) then (if 0 ≤ (wr (1200 + x4)) ∧ (wr (1200 + x4)) < 2031 then (if (M 88 (Int.toNat (wr (1200 + x4)))) = 1 then (if 0 ≤ (wr (3 * x4)) ∧ (wr (3 * x4)) < 2031 then (if 0 ≤ (wr (3 * x4)) ∧ (wr (3 * x4)) < 2031 then (if 0 ≤ (wr ((wr (3 * x4)) + 1)) ∧ (wr ((wr (3 * x4)) + 1)) < 2031 then (if 0 ≤ (wr ((wr (3 * x4)) + 1)) ∧ (wr ((wr (3 * x4)) + 1)) < 2031 then (if 0 ≤ (wr ((wr (3 * x4)) + 2)) ∧ (wr ((wr (3 * x4)) + 2)) < 2031 then (if 0 ≤ (wr ((wr (3 * x4)) + 2)) ∧ (wr ((wr (3 * x4)) + 2)) < 2031 then ev prog (d + 4) 100 0 17 [vr 87, vi x1, vi x2, vi x3, vi (wr (x4 + 1))] [] (shp, mset (mset (mset M 88 (Int.toNat (wr (3 * x4))) (wr ((M 88 (Int.toNat (wr (3 * x4)))) + x1))) 88 (Int.toNat (wr ((wr (3 * x4)) + 1))) (wr (((mset M 88 (Int.toNat (wr (3 * x4))) (wr ((M 88 (Int.toNat (wr (3 * x4)))) + x1))) 88 (Int.toNat (wr ((wr (3 * x4)) + 1)))) + x2))) 88 (Int.toNat (wr ((wr (3 * x4)) + 2))) (wr (((mset (mset M 88 (Int.toNat (wr (3 * x4))) (wr ((M 88 (Int.toNat (wr (3 * x4)))) + x1))) 88 (Int.toNat (wr ((wr (3 * x4)) + 1))) (wr (((mset M 88 (Int.toNat (wr (3 * x4))) (wr ((M 88 (Int.toNat (wr (3 * x4)))) + x1))) 88 (Int.toNat (wr ((wr (3 * x4)) + 1)))) + x2))) 88 (Int.toNat (wr ((wr (3 * x4)) + 2)))) + x3))) else none) else none) else none) else none) else none) else none) else ev prog (d + 4) 100 0 17 [vr 87, vi x1, vi x2, vi x3, vi (wr (x4 + 1))] [] (shp, M)) else none) else callK (run prog (d + 3) 75 [vr 87] (shp, M)) (fun v σ1 => ev prog (d + 4) 100 0 29 [vj, vj, vj, vj, vj] (psh v []) σ1) (fun e σ1 => hk [0, 0, 0, 0, 0] e σ1 (fun t => ev prog (d + 4) 100 0 t (msk (pMask prog 100 t) [vr 87, vj, vj, vj, vj]) [vj] σ1)) := by
  rw [b100_17]
  try simp +decide only [b100_0, b100_1, b100_6, b100_2, b100_7, b100_3, b100_4, b100_5, b100_8, b100_10, b100_16, b100_11, b100_12, b100_18, b100_15, b100_13, b100_28, b100_19, b100_14, b100_29, b100_20, b100_27, b100_21, b100_22, b100_23, b100_24, b100_25, b100_26, callK_r, callK_x, psh_s, psh_n, hk_0, hk_1, hk_2, hk_3, hk_4, callK_ite, bit_bi, bit_0, bit_1, eq_self, reduceIte, Int.reduceEq, Int.reduceLT, Int.reduceNeg, Nat.reduceEqDiff, ne_eq, not_false_eq_true, pu_k, mset_k, mset_j, mset_at, va_pu, va_mset, Int.reduceToNat, Int.reduceLE, and_self, true_and, and_true]
  all_goals (try rfl)
  all_goals (repeat' split)
  all_goals first | rfl | simp_all
theorem g100_29 (d : Nat) (s0 : Int) (M : mM) : ev prog (d + 4) 100 0 29 [vj, vj, vj, vj, vj] [vi s0] (shp, M) = some (.inl (some (vi s0)), (shp, M)) := by
  rw [b100_29]
  try simp +decide only [b100_0, b100_1, b100_6, b100_2, b100_7, b100_3, b100_4, b100_5, b100_8, b100_10, b100_16, b100_11, b100_12, b100_18, b100_15, b100_13, b100_28, b100_19, b100_14, b100_20, b100_27, b100_21, b100_22, b100_23, b100_24, b100_25, b100_26, callK_r, callK_x, psh_s, psh_n, hk_0, hk_1, hk_2, hk_3, hk_4, callK_ite, bit_bi, bit_0, bit_1, eq_self, reduceIte, Int.reduceEq, Int.reduceLT, Int.reduceNeg, Nat.reduceEqDiff, ne_eq, not_false_eq_true, pu_k, mset_k, mset_j, mset_at, va_pu, va_mset, Int.reduceToNat, Int.reduceLE, and_self, true_and, and_true]
  all_goals (try rfl)
  all_goals (repeat' split)
  all_goals first | rfl | simp_all
theorem g103_0 (d : Nat) (M : mM) : ev prog (d + 2) 103 0 0 [vr 87] [] (shp, M) = if (M 88 2000) < 0 then some (.inl (some (vi 0)), (shp, mset (mset M 87 3 0) 87 3 1)) else some (.inl (some (vi (M 88 2000))), (shp, mset M 87 3 0)) := by
  rw [b103_0]
  try simp +decide only [b103_1, b103_4, b103_2, b103_5, b103_3, s53, o53, callK_r, callK_x, psh_s, psh_n, hk_0, hk_1, hk_2, hk_3, hk_4, callK_ite, bit_bi, bit_0, bit_1, eq_self, reduceIte, Int.reduceEq, Int.reduceLT, Int.reduceNeg, Nat.reduceEqDiff, ne_eq, not_false_eq_true, pu_k, mset_k, mset_j, mset_at, va_pu, va_mset, Int.reduceToNat, Int.reduceLE, and_self, true_and, and_true]
  all_goals (try rfl)
  all_goals (repeat' split)
  all_goals first | rfl | simp_all
theorem g108_0 (d : Nat) (x1 : Int) (M : mM) : ev prog (d + 3) 108 0 0 [vr 87, vi x1] [] (shp, M) = callK (run prog (d + 2) 72 [vr 87, vi x1] (shp, M)) (fun v σ1 => ev prog (d + 3) 108 0 1 [vr 87, vi x1] (psh v []) σ1) (fun e σ1 => hk [0, 0, 0, 0, 0] e σ1 (fun t => ev prog (d + 3) 108 0 t (msk (pMask prog 108 t) [vr 87, vi x1]) [vj] σ1)) := by
  rw [b108_0]
  try simp +decide only [b108_1, b108_5, b108_2, b108_6, b108_3, b108_4, callK_r, callK_x, psh_s, psh_n, hk_0, hk_1, hk_2, hk_3, hk_4, callK_ite, bit_bi, bit_0, bit_1, eq_self, reduceIte, Int.reduceEq, Int.reduceLT, Int.reduceNeg, Nat.reduceEqDiff, ne_eq, not_false_eq_true, pu_k, mset_k, mset_j, mset_at, va_pu, va_mset, Int.reduceToNat, Int.reduceLE, and_self, true_and, and_true]
  all_goals (try rfl)
  all_goals (repeat' split)
  all_goals first | rfl | simp_all
theorem g108_1 (d : Nat) (x1 : Int) (s0 : Int) (M : mM) : ev prog (d + 3) 108 0 1 [vr 87, vi x1] [vi s0] (shp, M) = if s0 = 0 then some (.inl (some (vi 0)), (shp, M)) else (if 0 ≤ (wr (1200 + x1)) ∧ (wr (1200 + x1)) < 2031 then (if (M 88 (Int.toNat (wr (1200 + x1)))) = 1 then some (.inl (some (vi 1)), (shp, M)) else some (.inl (some (vi 0)), (shp, M))) else none) := by
  rw [b108_1]
  try simp +decide only [b108_0, b108_5, b108_2, b108_6, b108_3, b108_4, callK_r, callK_x, psh_s, psh_n, hk_0, hk_1, hk_2, hk_3, hk_4, callK_ite, bit_bi, bit_0, bit_1, eq_self, reduceIte, Int.reduceEq, Int.reduceLT, Int.reduceNeg, Nat.reduceEqDiff, ne_eq, not_false_eq_true, pu_k, mset_k, mset_j, mset_at, va_pu, va_mset, Int.reduceToNat, Int.reduceLE, and_self, true_and, and_true]
  all_goals (try rfl)
  all_goals (repeat' split)
  all_goals first | rfl | simp_all
theorem g109_0 (d : Nat) (x1 : Int) (x2 : Int) (M : mM) : ev prog (d + 4) 109 0 0 [vr 87, vi x1, vi x2] [] (shp, M) = callK (run prog (d + 3) 108 [vr 87, vi x1] (shp, mset M 87 3 0)) (fun v σ1 => ev prog (d + 4) 109 0 1 [vr 87, vi x1, vi x2] (psh v []) σ1) (fun e σ1 => hk [0, 0, 0, 0, 0] e σ1 (fun t => ev prog (d + 4) 109 0 t (msk (pMask prog 109 t) [vr 87, vi x1, vi x2]) [vj] σ1)) := by
  rw [b109_0]
  try simp +decide only [b109_1, b109_4, b109_2, b109_5, b109_3, b109_8, b109_6, b109_11, b109_9, b109_7, b109_12, b109_10, callK_r, callK_x, psh_s, psh_n, hk_0, hk_1, hk_2, hk_3, hk_4, callK_ite, bit_bi, bit_0, bit_1, eq_self, reduceIte, Int.reduceEq, Int.reduceLT, Int.reduceNeg, Nat.reduceEqDiff, ne_eq, not_false_eq_true, pu_k, mset_k, mset_j, mset_at, va_pu, va_mset, Int.reduceToNat, Int.reduceLE, and_self, true_and, and_true]
  all_goals (try rfl)
  all_goals (repeat' split)
  all_goals first | rfl | simp_all
theorem g109_1 (d : Nat) (x1 : Int) (x2 : Int) (s0 : Int) (M : mM) : ev prog (d + 4) 109 0 1 [vr 87, vi x1, vi x2] [vi s0] (shp, M) = if s0 = 0 then some (.inl (some (vi 0)), (shp, mset M 87 3 1)) else (if (bi (p51 x2 0 1 M)) = 0 then some (.inl (some (vi 0)), (shp, mset M 87 3 2)) else (if x2 = 0 then (if 0 ≤ (wr (1400 + x1)) ∧ (wr (1400 + x1)) < 2031 then some (.inl (some (vi (M 88 (Int.toNat (wr (1400 + x1)))))), (shp, M)) else none) else (if 0 ≤ (wr (1600 + x1)) ∧ (wr (1600 + x1)) < 2031 then some (.inl (some (vi (M 88 (Int.toNat (wr (1600 + x1)))))), (shp, M)) else none))) := by
  rw [b109_1]
  try simp +decide only [b109_0, b109_4, b109_2, b109_5, b109_3, b109_8, b109_6, b109_11, b109_9, b109_7, b109_12, b109_10, s53, s51, o53, callK_r, callK_x, psh_s, psh_n, hk_0, hk_1, hk_2, hk_3, hk_4, callK_ite, bit_bi, bit_0, bit_1, eq_self, reduceIte, Int.reduceEq, Int.reduceLT, Int.reduceNeg, Nat.reduceEqDiff, ne_eq, not_false_eq_true, pu_k, mset_k, mset_j, mset_at, va_pu, va_mset, Int.reduceToNat, Int.reduceLE, and_self, true_and, and_true]
  all_goals (try rfl)
  all_goals (repeat' split)
  all_goals first | rfl | simp_all
theorem g112_0 (d : Nat) (x1 : Int) (M : mM) : ev prog (d + 4) 112 0 0 [vr 87, vi x1] [] (shp, M) = callK (run prog (d + 3) 108 [vr 87, vi x1] (shp, mset M 87 3 0)) (fun v σ1 => ev prog (d + 4) 112 0 1 [vr 87, vi x1] (psh v []) σ1) (fun e σ1 => hk [0, 0, 0, 0, 0] e σ1 (fun t => ev prog (d + 4) 112 0 t (msk (pMask prog 112 t) [vr 87, vi x1]) [vj] σ1)) := by
  rw [b112_0]
  try simp +decide only [b112_1, b112_4, b112_2, b112_5, b112_3, callK_r, callK_x, psh_s, psh_n, hk_0, hk_1, hk_2, hk_3, hk_4, callK_ite, bit_bi, bit_0, bit_1, eq_self, reduceIte, Int.reduceEq, Int.reduceLT, Int.reduceNeg, Nat.reduceEqDiff, ne_eq, not_false_eq_true, pu_k, mset_k, mset_j, mset_at, va_pu, va_mset, Int.reduceToNat, Int.reduceLE, and_self, true_and, and_true]
  all_goals (try rfl)
  all_goals (repeat' split)
  all_goals first | rfl | simp_all
theorem g112_1 (d : Nat) (x1 : Int) (s0 : Int) (M : mM) : ev prog (d + 4) 112 0 1 [vr 87, vi x1] [vi s0] (shp, M) = if s0 = 0 then some (.inl (some (vi 0)), (shp, mset M 87 3 1)) else (if 0 ≤ (wr (1800 + x1)) ∧ (wr (1800 + x1)) < 2031 then some (.inl (some (vi (M 88 (Int.toNat (wr (1800 + x1)))))), (shp, M)) else none) := by
  rw [b112_1]
  try simp +decide only [b112_0, b112_4, b112_2, b112_5, b112_3, s53, o53, callK_r, callK_x, psh_s, psh_n, hk_0, hk_1, hk_2, hk_3, hk_4, callK_ite, bit_bi, bit_0, bit_1, eq_self, reduceIte, Int.reduceEq, Int.reduceLT, Int.reduceNeg, Nat.reduceEqDiff, ne_eq, not_false_eq_true, pu_k, mset_k, mset_j, mset_at, va_pu, va_mset, Int.reduceToNat, Int.reduceLE, and_self, true_and, and_true]
  all_goals (try rfl)
  all_goals (repeat' split)
  all_goals first | rfl | simp_all
theorem g115_0 (d : Nat) (x1 : Int) (M : mM) : ev prog (d + 4) 115 0 0 [vr 87, vi x1] [] (shp, M) = callK (run prog (d + 3) 108 [vr 87, vi x1] (shp, mset M 87 3 0)) (fun v σ1 => ev prog (d + 4) 115 0 1 [vr 87, vi x1] (psh v []) σ1) (fun e σ1 => hk [0, 0, 0, 0, 0] e σ1 (fun t => ev prog (d + 4) 115 0 t (msk (pMask prog 115 t) [vr 87, vi x1]) [vj] σ1)) := by
  rw [b115_0]
  try simp +decide only [b115_1, b115_4, b115_2, b115_5, b115_3, callK_r, callK_x, psh_s, psh_n, hk_0, hk_1, hk_2, hk_3, hk_4, callK_ite, bit_bi, bit_0, bit_1, eq_self, reduceIte, Int.reduceEq, Int.reduceLT, Int.reduceNeg, Nat.reduceEqDiff, ne_eq, not_false_eq_true, pu_k, mset_k, mset_j, mset_at, va_pu, va_mset, Int.reduceToNat, Int.reduceLE, and_self, true_and, and_true]
  all_goals (try rfl)
  all_goals (repeat' split)
  all_goals first | rfl | simp_all
theorem g115_1 (d : Nat) (x1 : Int) (s0 : Int) (M : mM) : ev prog (d + 4) 115 0 1 [vr 87, vi x1] [vi s0] (shp, M) = if s0 = 0 then some (.inl (some (vi 0)), (shp, mset M 87 3 1)) else callK (run prog (d + 3) 60 [vr 87, vi x1] (shp, M)) (fun v σ1 => ev prog (d + 4) 115 0 3 [vj, vj] (psh v []) σ1) (fun e σ1 => hk [0, 0, 0, 0, 0] e σ1 (fun t => ev prog (d + 4) 115 0 t (msk (pMask prog 115 t) [vr 87, vi x1]) [vj] σ1)) := by
  rw [b115_1]
  try simp +decide only [b115_0, b115_4, b115_2, b115_5, b115_3, s53, o53, callK_r, callK_x, psh_s, psh_n, hk_0, hk_1, hk_2, hk_3, hk_4, callK_ite, bit_bi, bit_0, bit_1, eq_self, reduceIte, Int.reduceEq, Int.reduceLT, Int.reduceNeg, Nat.reduceEqDiff, ne_eq, not_false_eq_true, pu_k, mset_k, mset_j, mset_at, va_pu, va_mset, Int.reduceToNat, Int.reduceLE, and_self, true_and, and_true]
  all_goals (try rfl)
  all_goals (repeat' split)
  all_goals first | rfl | simp_all
theorem g115_3 (d : Nat) (s0 : Int) (M : mM) : ev prog (d + 4) 115 0 3 [vj, vj] [vi s0] (shp, M) = some (.inl (some (vi s0)), (shp, M)) := by
  rw [b115_3]
  try simp +decide only [b115_0, b115_1, b115_4, b115_2, b115_5, callK_r, callK_x, psh_s, psh_n, hk_0, hk_1, hk_2, hk_3, hk_4, callK_ite, bit_bi, bit_0, bit_1, eq_self, reduceIte, Int.reduceEq, Int.reduceLT, Int.reduceNeg, Nat.reduceEqDiff, ne_eq, not_false_eq_true, pu_k, mset_k, mset_j, mset_at, va_pu, va_mset, Int.reduceToNat, Int.reduceLE, and_self, true_and, and_true]
  all_goals (try rfl)
  all_goals (repeat' split)
  all_goals first | rfl | simp_all
theorem g116_0 (d : Nat) (M : mM) : ev prog (d + 1) 116 0 0 [vr 12, vj, vj] [] (shp, M) = ev prog (d + 1) 116 0 1 [vr 12, vi (-1), vi 0] [] (shp, M) := by
  rw [b116_0]
  try simp +decide only [b116_2, b116_5, b116_3, b116_4, callK_r, callK_x, psh_s, psh_n, hk_0, hk_1, hk_2, hk_3, hk_4, callK_ite, bit_bi, bit_0, bit_1, eq_self, reduceIte, Int.reduceEq, Int.reduceLT, Int.reduceNeg, Nat.reduceEqDiff, ne_eq, not_false_eq_true, pu_k, mset_k, mset_j, mset_at, va_pu, va_mset, Int.reduceToNat, Int.reduceLE, and_self, true_and, and_true]
  all_goals (try rfl)
  all_goals (repeat' split)
  all_goals first | rfl | simp_all
theorem g116_1 (d : Nat) (x1 : Int) (x2 : Int) (M : mM) : ev prog (d + 1) 116 0 1 [vr 12, vi x1, vi x2] [] (shp, M) = if x2 < 200 then (if 0 ≤ x2 ∧ x2 < 200 then ev prog (d + 1) 116 0 1 [vr 12, vi (if x1 < (M 15 (Int.toNat x2)) then (M 15 (Int.toNat x2)) else x1), vi (wr (x2 + 1))] [] (shp, M) else none) else some (.inl (some (vi x1)), (shp, M)) := by
  rw [b116_1]
  try simp +decide only [b116_0, b116_2, b116_5, b116_3, b116_4, callK_r, callK_x, psh_s, psh_n, hk_0, hk_1, hk_2, hk_3, hk_4, callK_ite, bit_bi, bit_0, bit_1, eq_self, reduceIte, Int.reduceEq, Int.reduceLT, Int.reduceNeg, Nat.reduceEqDiff, ne_eq, not_false_eq_true, pu_k, mset_k, mset_j, mset_at, va_pu, va_mset, Int.reduceToNat, Int.reduceLE, and_self, true_and, and_true]
  all_goals (try rfl)
  all_goals (repeat' split)
  all_goals first | rfl | simp_all
theorem g117_0 (d : Nat) (M : mM) : ev prog (d + 2) 117 0 0 [vr 5] [] (shp, M) = callK (run prog (d + 1) 116 [vr 12] (shp, M)) (fun v σ1 => ev prog (d + 2) 117 0 1 [vj] (psh v []) σ1) (fun e σ1 => hk [0, 0, 0, 0, 0] e σ1 (fun t => ev prog (d + 2) 117 0 t (msk (pMask prog 117 t) [vr 5]) [vj] σ1)) := by
  rw [b117_0]
  try simp +decide only [b117_1, callK_r, callK_x, psh_s, psh_n, hk_0, hk_1, hk_2, hk_3, hk_4, callK_ite, bit_bi, bit_0, bit_1, eq_self, reduceIte, Int.reduceEq, Int.reduceLT, Int.reduceNeg, Nat.reduceEqDiff, ne_eq, not_false_eq_true, pu_k, mset_k, mset_j, mset_at, va_pu, va_mset, Int.reduceToNat, Int.reduceLE, and_self, true_and, and_true]
  all_goals (try rfl)
  all_goals (repeat' split)
  all_goals first | rfl | simp_all
theorem g117_1 (d : Nat) (s0 : Int) (M : mM) : ev prog (d + 2) 117 0 1 [vj] [vi s0] (shp, M) = some (.inl (some (vi (wr (s0 + 1)))), (shp, M)) := by
  rw [b117_1]
  try simp +decide only [b117_0, callK_r, callK_x, psh_s, psh_n, hk_0, hk_1, hk_2, hk_3, hk_4, callK_ite, bit_bi, bit_0, bit_1, eq_self, reduceIte, Int.reduceEq, Int.reduceLT, Int.reduceNeg, Nat.reduceEqDiff, ne_eq, not_false_eq_true, pu_k, mset_k, mset_j, mset_at, va_pu, va_mset, Int.reduceToNat, Int.reduceLE, and_self, true_and, and_true]
  all_goals (try rfl)
  all_goals (repeat' split)
  all_goals first | rfl | simp_all
theorem g118_0 (d : Nat) (x1 : Int) (M : mM) : ev prog (d + 2) 118 0 0 [vr 87, vi x1, vj, vj] [] (shp, M) = if x1 < 0 then some (.inl (some (vi 0)), (shp, M)) else (if 0 ≤ (wr (1400 + x1)) ∧ (wr (1400 + x1)) < 2031 then callK (run prog (d + 1) 118 [vr 87, vi (M 88 (Int.toNat (wr (1400 + x1))))] (shp, M)) (fun v σ1 => ev prog (d + 2) 118 0 4 [vr 87, vi x1, vj, vj] (psh v []) σ1) (fun e σ1 => hk [0, 0, 0, 0, 0] e σ1 (fun t => ev prog (d + 2) 118 0 t (msk (pMask prog 118 t) [vr 87, vi x1, vj, vj]) [vj] σ1)) else none) := by
  rw [b118_0]
  try simp +decide only [b118_2, b118_1, b118_3, b118_4, b118_5, b118_6, b118_8, b118_7, b118_9, callK_r, callK_x, psh_s, psh_n, hk_0, hk_1, hk_2, hk_3, hk_4, callK_ite, bit_bi, bit_0, bit_1, eq_self, reduceIte, Int.reduceEq, Int.reduceLT, Int.reduceNeg, Nat.reduceEqDiff, ne_eq, not_false_eq_true, pu_k, mset_k, mset_j, mset_at, va_pu, va_mset, Int.reduceToNat, Int.reduceLE, and_self, true_and, and_true]
  all_goals (try rfl)
  all_goals (repeat' split)
  all_goals first | rfl | simp_all
theorem g118_4 (d : Nat) (x1 : Int) (s0 : Int) (M : mM) : ev prog (d + 2) 118 0 4 [vr 87, vi x1, vj, vj] [vi s0] (shp, M) = if 0 ≤ (wr (1600 + x1)) ∧ (wr (1600 + x1)) < 2031 then callK (run prog (d + 1) 118 [vr 87, vi (M 88 (Int.toNat (wr (1600 + x1))))] (shp, M)) (fun v σ1 => ev prog (d + 2) 118 0 6 [vj, vj, vi s0, vj] (psh v []) σ1) (fun e σ1 => hk [0, 0, 0, 0, 0] e σ1 (fun t => ev prog (d + 2) 118 0 t (msk (pMask prog 118 t) [vj, vj, vi s0, vj]) [vj] σ1)) else none := by
  rw [b118_4]
  try simp +decide only [b118_0, b118_2, b118_1, b118_3, b118_5, b118_6, b118_8, b118_7, b118_9, callK_r, callK_x, psh_s, psh_n, hk_0, hk_1, hk_2, hk_3, hk_4, callK_ite, bit_bi, bit_0, bit_1, eq_self, reduceIte, Int.reduceEq, Int.reduceLT, Int.reduceNeg, Nat.reduceEqDiff, ne_eq, not_false_eq_true, pu_k, mset_k, mset_j, mset_at, va_pu, va_mset, Int.reduceToNat, Int.reduceLE, and_self, true_and, and_true]
  all_goals (try rfl)
  all_goals (repeat' split)
  all_goals first | rfl | simp_all
theorem g118_6 (d : Nat) (x2 : Int) (s0 : Int) (M : mM) : ev prog (d + 2) 118 0 6 [vj, vj, vi x2, vj] [vi s0] (shp, M) = if s0 < x2 then some (.inl (some (vi (wr (1 + x2)))), (shp, M)) else some (.inl (some (vi (wr (1 + s0)))), (shp, M)) := by
  rw [b118_6]
  try simp +decide only [b118_0, b118_2, b118_1, b118_3, b118_4, b118_5, b118_8, b118_7, b118_9, callK_r, callK_x, psh_s, psh_n, hk_0, hk_1, hk_2, hk_3, hk_4, callK_ite, bit_bi, bit_0, bit_1, eq_self, reduceIte, Int.reduceEq, Int.reduceLT, Int.reduceNeg, Nat.reduceEqDiff, ne_eq, not_false_eq_true, pu_k, mset_k, mset_j, mset_at, va_pu, va_mset, Int.reduceToNat, Int.reduceLE, and_self, true_and, and_true]
  all_goals (try rfl)
  all_goals (repeat' split)
  all_goals first | rfl | simp_all
theorem g119_0 (d : Nat) (M : mM) : ev prog (d + 2) 119 0 0 [vr 87] [] (shp, M) = callK (run prog (d + 1) 118 [vr 87, vi (M 88 2000)] (shp, mset M 87 3 0)) (fun v σ1 => ev prog (d + 2) 119 0 2 [vj] (psh v []) σ1) (fun e σ1 => hk [0, 0, 0, 0, 0] e σ1 (fun t => ev prog (d + 2) 119 0 t (msk (pMask prog 119 t) [vj]) [vj] σ1)) := by
  rw [b119_0]
  try simp +decide only [b119_1, b119_2, callK_r, callK_x, psh_s, psh_n, hk_0, hk_1, hk_2, hk_3, hk_4, callK_ite, bit_bi, bit_0, bit_1, eq_self, reduceIte, Int.reduceEq, Int.reduceLT, Int.reduceNeg, Nat.reduceEqDiff, ne_eq, not_false_eq_true, pu_k, mset_k, mset_j, mset_at, va_pu, va_mset, Int.reduceToNat, Int.reduceLE, and_self, true_and, and_true]
  all_goals (try rfl)
  all_goals (repeat' split)
  all_goals first | rfl | simp_all
theorem g119_2 (d : Nat) (s0 : Int) (M : mM) : ev prog (d + 2) 119 0 2 [vj] [vi s0] (shp, M) = some (.inl (some (vi s0)), (shp, M)) := by
  rw [b119_2]
  try simp +decide only [b119_0, b119_1, callK_r, callK_x, psh_s, psh_n, hk_0, hk_1, hk_2, hk_3, hk_4, callK_ite, bit_bi, bit_0, bit_1, eq_self, reduceIte, Int.reduceEq, Int.reduceLT, Int.reduceNeg, Nat.reduceEqDiff, ne_eq, not_false_eq_true, pu_k, mset_k, mset_j, mset_at, va_pu, va_mset, Int.reduceToNat, Int.reduceLE, and_self, true_and, and_true]
  all_goals (try rfl)
  all_goals (repeat' split)
  all_goals first | rfl | simp_all
theorem g122_0 (d : Nat) (x1 : Int) (M : mM) : ev prog (d + 2) 122 0 0 [vr 87, vi x1] [] (shp, M) = if x1 < 0 then some (.inl (some (vi 0)), (shp, M)) else (if 0 ≤ (wr (1000 + x1)) ∧ (wr (1000 + x1)) < 2031 then (if 0 ≤ (wr (1400 + x1)) ∧ (wr (1400 + x1)) < 2031 then callK (run prog (d + 1) 122 [vr 87, vi (M 88 (Int.toNat (wr (1400 + x1))))] (shp, M)) (fun v σ1 => ev prog (d + 2) 122 0 5 [vr 87, vi x1] (psh v [vi (M 88 (Int.toNat (wr (1000 + x1))))]) σ1) (fun e σ1 => hk [0, 0, 0, 0, 0] e σ1 (fun t => ev prog (d + 2) 122 0 t (msk (pMask prog 122 t) [vr 87, vi x1]) [vj] σ1)) else none) else none) := by
  rw [b122_0]
  try simp +decide only [b122_2, b122_1, b122_3, b122_8, b122_4, b122_5, b122_6, b122_7, callK_r, callK_x, psh_s, psh_n, hk_0, hk_1, hk_2, hk_3, hk_4, callK_ite, bit_bi, bit_0, bit_1, eq_self, reduceIte, Int.reduceEq, Int.reduceLT, Int.reduceNeg, Nat.reduceEqDiff, ne_eq, not_false_eq_true, pu_k, mset_k, mset_j, mset_at, va_pu, va_mset, Int.reduceToNat, Int.reduceLE, and_self, true_and, and_true]
  all_goals (try rfl)
  all_goals (repeat' split)
  all_goals first | rfl | simp_all
theorem g122_5 (d : Nat) (x1 : Int) (s0 : Int) (s1 : Int) (M : mM) : ev prog (d + 2) 122 0 5 [vr 87, vi x1] [vi s1, vi s0] (shp, M) = if 0 ≤ (wr (1600 + x1)) ∧ (wr (1600 + x1)) < 2031 then callK (run prog (d + 1) 122 [vr 87, vi (M 88 (Int.toNat (wr (1600 + x1))))] (shp, M)) (fun v σ1 => ev prog (d + 2) 122 0 7 [vj, vj] (psh v [vi (wr (s0 + s1))]) σ1) (fun e σ1 => hk [0, 0, 0, 0, 0] e σ1 (fun t => ev prog (d + 2) 122 0 t (msk (pMask prog 122 t) [vj, vj]) [vj] σ1)) else none := by
  rw [b122_5]
  try simp +decide only [b122_0, b122_2, b122_1, b122_3, b122_8, b122_4, b122_6, b122_7, callK_r, callK_x, psh_s, psh_n, hk_0, hk_1, hk_2, hk_3, hk_4, callK_ite, bit_bi, bit_0, bit_1, eq_self, reduceIte, Int.reduceEq, Int.reduceLT, Int.reduceNeg, Nat.reduceEqDiff, ne_eq, not_false_eq_true, pu_k, mset_k, mset_j, mset_at, va_pu, va_mset, Int.reduceToNat, Int.reduceLE, and_self, true_and, and_true]
  all_goals (try rfl)
  all_goals (repeat' split)
  all_goals first | rfl | simp_all
theorem g122_7 (d : Nat) (s0 : Int) (s1 : Int) (M : mM) : ev prog (d + 2) 122 0 7 [vj, vj] [vi s1, vi s0] (shp, M) = some (.inl (some (vi (wr (s0 + s1)))), (shp, M)) := by
  rw [b122_7]
  try simp +decide only [b122_0, b122_2, b122_1, b122_3, b122_8, b122_4, b122_5, b122_6, callK_r, callK_x, psh_s, psh_n, hk_0, hk_1, hk_2, hk_3, hk_4, callK_ite, bit_bi, bit_0, bit_1, eq_self, reduceIte, Int.reduceEq, Int.reduceLT, Int.reduceNeg, Nat.reduceEqDiff, ne_eq, not_false_eq_true, pu_k, mset_k, mset_j, mset_at, va_pu, va_mset, Int.reduceToNat, Int.reduceLE, and_self, true_and, and_true]
  all_goals (try rfl)
  all_goals (repeat' split)
  all_goals first | rfl | simp_all
theorem g123_0 (d : Nat) (x1 : Int) (x2 : Int) (M : mM) : ev prog (d + 4) 123 0 0 [vr 87, vi x1, vi x2] [] (shp, M) = callK (run prog (d + 3) 108 [vr 87, vi x1] (shp, mset M 87 3 0)) (fun v σ1 => ev prog (d + 4) 123 0 1 [vr 87, vi x1, vi x2] (psh v []) σ1) (fun e σ1 => hk [0, 0, 0, 0, 0] e σ1 (fun t => ev prog (d + 4) 123 0 t (msk (pMask prog 123 t) [vr 87, vi x1, vi x2]) [vj] σ1)) := by
  rw [b123_0]
  try simp +decide only [b123_1, b123_4, b123_2, b123_5, b123_3, b123_8, b123_6, b123_11, b123_9, b123_7, b123_12, b123_10, callK_r, callK_x, psh_s, psh_n, hk_0, hk_1, hk_2, hk_3, hk_4, callK_ite, bit_bi, bit_0, bit_1, eq_self, reduceIte, Int.reduceEq, Int.reduceLT, Int.reduceNeg, Nat.reduceEqDiff, ne_eq, not_false_eq_true, pu_k, mset_k, mset_j, mset_at, va_pu, va_mset, Int.reduceToNat, Int.reduceLE, and_self, true_and, and_true]
  all_goals (try rfl)
  all_goals (repeat' split)
  all_goals first | rfl | simp_all
theorem g123_1 (d : Nat) (x1 : Int) (x2 : Int) (s0 : Int) (M : mM) : ev prog (d + 4) 123 0 1 [vr 87, vi x1, vi x2] [vi s0] (shp, M) = if s0 = 0 then some (.inl (some (vi 0)), (shp, mset M 87 3 1)) else (if (bi (p51 x2 0 1 M)) = 0 then some (.inl (some (vi 0)), (shp, mset M 87 3 2)) else (if x2 = 0 then callK (run prog (d + 3) 58 [vr 87, vi x1] (shp, M)) (fun v σ1 => ev prog (d + 4) 123 0 10 [vj, vj, vj] (psh v []) σ1) (fun e σ1 => hk [0, 0, 0, 0, 0] e σ1 (fun t => ev prog (d + 4) 123 0 t (msk (pMask prog 123 t) [vr 87, vi x1, vj]) [vj] σ1)) else callK (run prog (d + 3) 122 [vr 87, vi x1] (shp, M)) (fun v σ1 => ev prog (d + 4) 123 0 12 [vj, vj, vj] (psh v []) σ1) (fun e σ1 => hk [0, 0, 0, 0, 0] e σ1 (fun t => ev prog (d + 4) 123 0 t (msk (pMask prog 123 t) [vr 87, vi x1, vj]) [vj] σ1)))) := by
  rw [b123_1]
  try simp +decide only [b123_0, b123_4, b123_2, b123_5, b123_3, b123_8, b123_6, b123_11, b123_9, b123_7, b123_12, b123_10, s53, s51, o53, callK_r, callK_x, psh_s, psh_n, hk_0, hk_1, hk_2, hk_3, hk_4, callK_ite, bit_bi, bit_0, bit_1, eq_self, reduceIte, Int.reduceEq, Int.reduceLT, Int.reduceNeg, Nat.reduceEqDiff, ne_eq, not_false_eq_true, pu_k, mset_k, mset_j, mset_at, va_pu, va_mset, Int.reduceToNat, Int.reduceLE, and_self, true_and, and_true]
  all_goals (try rfl)
  all_goals (repeat' split)
  all_goals first | rfl | simp_all
theorem g123_10 (d : Nat) (s0 : Int) (M : mM) : ev prog (d + 4) 123 0 10 [vj, vj, vj] [vi s0] (shp, M) = some (.inl (some (vi s0)), (shp, M)) := by
  rw [b123_10]
  try simp +decide only [b123_0, b123_1, b123_4, b123_2, b123_5, b123_3, b123_8, b123_6, b123_11, b123_9, b123_7, b123_12, callK_r, callK_x, psh_s, psh_n, hk_0, hk_1, hk_2, hk_3, hk_4, callK_ite, bit_bi, bit_0, bit_1, eq_self, reduceIte, Int.reduceEq, Int.reduceLT, Int.reduceNeg, Nat.reduceEqDiff, ne_eq, not_false_eq_true, pu_k, mset_k, mset_j, mset_at, va_pu, va_mset, Int.reduceToNat, Int.reduceLE, and_self, true_and, and_true]
  all_goals (try rfl)
  all_goals (repeat' split)
  all_goals first | rfl | simp_all
theorem g123_12 (d : Nat) (s0 : Int) (M : mM) : ev prog (d + 4) 123 0 12 [vj, vj, vj] [vi s0] (shp, M) = some (.inl (some (vi s0)), (shp, M)) := by
  rw [b123_12]
  try simp +decide only [b123_0, b123_1, b123_4, b123_2, b123_5, b123_3, b123_8, b123_6, b123_11, b123_9, b123_7, b123_10, callK_r, callK_x, psh_s, psh_n, hk_0, hk_1, hk_2, hk_3, hk_4, callK_ite, bit_bi, bit_0, bit_1, eq_self, reduceIte, Int.reduceEq, Int.reduceLT, Int.reduceNeg, Nat.reduceEqDiff, ne_eq, not_false_eq_true, pu_k, mset_k, mset_j, mset_at, va_pu, va_mset, Int.reduceToNat, Int.reduceLE, and_self, true_and, and_true]
  all_goals (try rfl)
  all_goals (repeat' split)
  all_goals first | rfl | simp_all
theorem g126_0 (d : Nat) (M : mM) : ev prog (d + 4) 126 0 0 [vr 72, vj] [] (shp, M) = ev prog (d + 4) 126 0 2 [vr 72, vi 0] [] (shp, mset M 73 1 0) := by
  rw [b126_0]
  try simp +decide only [b126_1, b126_7, b126_3, b126_4, b126_6, b126_5, s24, o24, callK_r, callK_x, psh_s, psh_n, hk_0, hk_1, hk_2, hk_3, hk_4, callK_ite, bit_bi, bit_0, bit_1, eq_self, reduceIte, Int.reduceEq, Int.reduceLT, Int.reduceNeg, Nat.reduceEqDiff, ne_eq, not_false_eq_true, pu_k, mset_k, mset_j, mset_at, va_pu, va_mset, Int.reduceToNat, Int.reduceLE, and_self, true_and, and_true]
  all_goals (try rfl)
  all_goals (repeat' split)
  all_goals first | rfl | simp_all
theorem g126_2 (d : Nat) (x1 : Int) (M : mM) : ev prog (d + 4) 126 0 2 [vr 72, vi x1] [] (shp, M) = if x1 < (M 7 4) then (if (bi (p125 x1 M)) = 0 then ev prog (d + 4) 126 0 2 [vr 72, vi (wr (x1 + 1))] [] (shp, M) else callK (run prog (d + 3) 25 [vr 73, vi x1] (shp, M)) (fun v σ1 => ev prog (d + 4) 126 0 6 [vr 72, vi x1] (psh v []) σ1) (fun e σ1 => hk [0, 0, 0, 0, 0] e σ1 (fun t => ev prog (d + 4) 126 0 t (msk (pMask prog 126 t) [vr 72, vi x1]) [vj] σ1))) else some (.inl (some (vi (M 73 1))), (shp, M)) := by
  rw [b126_2]
  try simp +decide only [b126_0, b126_1, b126_7, b126_3, b126_4, b126_6, b126_5, s125, callK_r, callK_x, psh_s, psh_n, hk_0, hk_1, hk_2, hk_3, hk_4, callK_ite, bit_bi, bit_0, bit_1, eq_self, reduceIte, Int.reduceEq, Int.reduceLT, Int.reduceNeg, Nat.reduceEqDiff, ne_eq, not_false_eq_true, pu_k, mset_k, mset_j, mset_at, va_pu, va_mset, Int.reduceToNat, Int.reduceLE, and_self, true_and, and_true]
  all_goals (try rfl)
  all_goals (repeat' split)
  all_goals first | rfl | simp_all
theorem g126_6 (d : Nat) (x1 : Int) (M : mM) : ev prog (d + 4) 126 0 6 [vr 72, vi x1] [] (shp, M) = ev prog (d + 4) 126 0 2 [vr 72, vi (wr (x1 + 1))] [] (shp, M) := by
  rw [b126_6]
  try simp +decide only [b126_0, b126_1, b126_7, b126_3, b126_4, b126_5, callK_r, callK_x, psh_s, psh_n, hk_0, hk_1, hk_2, hk_3, hk_4, callK_ite, bit_bi, bit_0, bit_1, eq_self, reduceIte, Int.reduceEq, Int.reduceLT, Int.reduceNeg, Nat.reduceEqDiff, ne_eq, not_false_eq_true, pu_k, mset_k, mset_j, mset_at, va_pu, va_mset, Int.reduceToNat, Int.reduceLE, and_self, true_and, and_true]
  all_goals (try rfl)
  all_goals (repeat' split)
  all_goals first | rfl | simp_all
theorem g127_1 (d : Nat) (M : mM) : ev prog (d + 5) 127 0 1 [vr 5, vj] [] (shp, M) = some (.inl (some (vi (M 7 5))), (shp, M)) := by
  rw [b127_1]
  try simp +decide only [b127_2, b127_3, b127_4, b127_6, b127_5, callK_r, callK_x, psh_s, psh_n, hk_0, hk_1, hk_2, hk_3, hk_4, callK_ite, bit_bi, bit_0, bit_1, eq_self, reduceIte, Int.reduceEq, Int.reduceLT, Int.reduceNeg, Nat.reduceEqDiff, ne_eq, not_false_eq_true, pu_k, mset_k, mset_j, mset_at, va_pu, va_mset, Int.reduceToNat, Int.reduceLE, and_self, true_and, and_true]
  all_goals (try rfl)
  all_goals (repeat' split)
  all_goals first | rfl | simp_all
theorem g127_2 (d : Nat) (M : mM) : ev prog (d + 5) 127 0 2 [vr 5, vj] [] (shp, M) = some (.inl (some (vi (wr ((M 21 1) - (M 7 5))))), (shp, M)) := by
  rw [b127_2]
  try simp +decide only [b127_1, b127_3, b127_4, b127_6, b127_5, callK_r, callK_x, psh_s, psh_n, hk_0, hk_1, hk_2, hk_3, hk_4, callK_ite, bit_bi, bit_0, bit_1, eq_self, reduceIte, Int.reduceEq, Int.reduceLT, Int.reduceNeg, Nat.reduceEqDiff, ne_eq, not_false_eq_true, pu_k, mset_k, mset_j, mset_at, va_pu, va_mset, Int.reduceToNat, Int.reduceLE, and_self, true_and, and_true]
  all_goals (try rfl)
  all_goals (repeat' split)
  all_goals first | rfl | simp_all
theorem g127_3 (d : Nat) (M : mM) : ev prog (d + 5) 127 0 3 [vr 5, vj] [] (shp, M) = some (.inl (some (vi (M 7 4))), (shp, M)) := by
  rw [b127_3]
  try simp +decide only [b127_1, b127_2, b127_4, b127_6, b127_5, callK_r, callK_x, psh_s, psh_n, hk_0, hk_1, hk_2, hk_3, hk_4, callK_ite, bit_bi, bit_0, bit_1, eq_self, reduceIte, Int.reduceEq, Int.reduceLT, Int.reduceNeg, Nat.reduceEqDiff, ne_eq, not_false_eq_true, pu_k, mset_k, mset_j, mset_at, va_pu, va_mset, Int.reduceToNat, Int.reduceLE, and_self, true_and, and_true]
  all_goals (try rfl)
  all_goals (repeat' split)
  all_goals first | rfl | simp_all
theorem g127_4 (d : Nat) (M : mM) : ev prog (d + 5) 127 0 4 [vr 5, vj] [] (shp, M) = callK (run prog (d + 4) 126 [vr 72] (shp, M)) (fun v σ1 => ev prog (d + 5) 127 0 5 [vj, vj] (psh v []) σ1) (fun e σ1 => hk [0, 0, 0, 0, 0] e σ1 (fun t => ev prog (d + 5) 127 0 t (msk (pMask prog 127 t) [vr 5, vj]) [vj] σ1)) := by
  rw [b127_4]
  try simp +decide only [b127_1, b127_2, b127_3, b127_6, b127_5, callK_r, callK_x, psh_s, psh_n, hk_0, hk_1, hk_2, hk_3, hk_4, callK_ite, bit_bi, bit_0, bit_1, eq_self, reduceIte, Int.reduceEq, Int.reduceLT, Int.reduceNeg, Nat.reduceEqDiff, ne_eq, not_false_eq_true, pu_k, mset_k, mset_j, mset_at, va_pu, va_mset, Int.reduceToNat, Int.reduceLE, and_self, true_and, and_true]
  all_goals (try rfl)
  all_goals (repeat' split)
  all_goals first | rfl | simp_all
theorem g127_6 (d : Nat) (M : mM) : ev prog (d + 5) 127 0 6 [vj, vj] [] (shp, M) = some (.inr 0, (shp, M)) := by
  rw [b127_6]
  try simp +decide only [b127_1, b127_2, b127_3, b127_4, b127_5, callK_r, callK_x, psh_s, psh_n, hk_0, hk_1, hk_2, hk_3, hk_4, callK_ite, bit_bi, bit_0, bit_1, eq_self, reduceIte, Int.reduceEq, Int.reduceLT, Int.reduceNeg, Nat.reduceEqDiff, ne_eq, not_false_eq_true, pu_k, mset_k, mset_j, mset_at, va_pu, va_mset, Int.reduceToNat, Int.reduceLE, and_self, true_and, and_true]
  all_goals (try rfl)
  all_goals (repeat' split)
  all_goals first | rfl | simp_all
theorem g127_5 (d : Nat) (s0 : Int) (M : mM) : ev prog (d + 5) 127 0 5 [vj, vj] [vi s0] (shp, M) = some (.inl (some (vi s0)), (shp, M)) := by
  rw [b127_5]
  try simp +decide only [b127_1, b127_2, b127_3, b127_4, b127_6, callK_r, callK_x, psh_s, psh_n, hk_0, hk_1, hk_2, hk_3, hk_4, callK_ite, bit_bi, bit_0, bit_1, eq_self, reduceIte, Int.reduceEq, Int.reduceLT, Int.reduceNeg, Nat.reduceEqDiff, ne_eq, not_false_eq_true, pu_k, mset_k, mset_j, mset_at, va_pu, va_mset, Int.reduceToNat, Int.reduceLE, and_self, true_and, and_true]
  all_goals (try rfl)
  all_goals (repeat' split)
  all_goals first | rfl | simp_all
theorem g129_0 (d : Nat) (x1 : Int) (M : mM) : ev prog (d + 4) 129 0 0 [vr 87, vi x1] [] (shp, M) = callK (run prog (d + 3) 73 [vr 87, vi x1] (shp, M)) (fun v σ1 => ev prog (d + 4) 129 0 1 [vr 87, vi x1] (psh v []) σ1) (fun e σ1 => hk [0, 0, 0, 0, 0] e σ1 (fun t => ev prog (d + 4) 129 0 t (msk (pMask prog 129 t) [vr 87, vi x1]) [vj] σ1)) := by
  rw [b129_0]
  try simp +decide only [b129_1, b129_6, b129_2, b129_7, b129_3, b129_4, b129_5, callK_r, callK_x, psh_s, psh_n, hk_0, hk_1, hk_2, hk_3, hk_4, callK_ite, bit_bi, bit_0, bit_1, eq_self, reduceIte, Int.reduceEq, Int.reduceLT, Int.reduceNeg, Nat.reduceEqDiff, ne_eq, not_false_eq_true, pu_k, mset_k, mset_j, mset_at, va_pu, va_mset, Int.reduceToNat, Int.reduceLE, and_self, true_and, and_true]
  all_goals (try rfl)
  all_goals (repeat' split)
  all_goals first | rfl | simp_all
theorem g129_1 (d : Nat) (x1 : Int) (s0 : Int) (M : mM) : ev prog (d + 4) 129 0 1 [vr 87, vi x1] [vi s0] (shp, M) = if s0 = 0 then some (.inl (some (vi 0)), (shp, M)) else (if 0 ≤ (wr (800 + x1)) ∧ (wr (800 + x1)) < 2031 then (if 0 ≤ (wr (2017 + (M 88 (Int.toNat (wr (800 + x1)))))) ∧ (wr (2017 + (M 88 (Int.toNat (wr (800 + x1)))))) < 2031 then (if (M 88 (Int.toNat (wr (2017 + (M 88 (Int.toNat (wr (800 + x1)))))))) = 0 then some (.inl (some (vi 1)), (shp, M)) else some (.inl (some (vi 0)), (shp, M))) else none) else none) := by
  rw [b129_1]
  try simp +decide only [b129_0, b129_6, b129_2, b129_7, b129_3, b129_4, b129_5, callK_r, callK_x, psh_s, psh_n, hk_0, hk_1, hk_2, hk_3, hk_4, callK_ite, bit_bi, bit_0, bit_1, eq_self, reduceIte, Int.reduceEq, Int.reduceLT, Int.reduceNeg, Nat.reduceEqDiff, ne_eq, not_false_eq_true, pu_k, mset_k, mset_j, mset_at, va_pu, va_mset, Int.reduceToNat, Int.reduceLE, and_self, true_and, and_true]
  all_goals (try rfl)
  all_goals (repeat' split)
  all_goals first | rfl | simp_all
theorem g130_0 (d : Nat) (M : mM) : ev prog (d + 5) 130 0 0 [vr 87, vj, vj] [] (shp, M) = ev prog (d + 5) 130 0 1 [vr 87, vi 0, vi 0] [] (shp, M) := by
  rw [b130_0]
  try simp +decide only [b130_2, b130_8, b130_3, b130_4, b130_6, b130_5, b130_7, callK_r, callK_x, psh_s, psh_n, hk_0, hk_1, hk_2, hk_3, hk_4, callK_ite, bit_bi, bit_0, bit_1, eq_self, reduceIte, Int.reduceEq, Int.reduceLT, Int.reduceNeg, Nat.reduceEqDiff, ne_eq, not_false_eq_true, pu_k, mset_k, mset_j, mset_at, va_pu, va_mset, Int.reduceToNat, Int.reduceLE, and_self, true_and, and_true]
  all_goals (try rfl)
  all_goals (repeat' split)
  all_goals first | rfl | simp_all
theorem g130_1 (d : Nat) (x1 : Int) (x2 : Int) (M : mM) : ev prog (d + 5) 130 0 1 [vr 87, vi x1, vi x2] [] (shp, M) = if x2 < (M 88 2001) then callK (run prog (d + 4) 129 [vr 87, vi x2] (shp, M)) (fun v σ1 => ev prog (d + 5) 130 0 4 [vr 87, vj, vi x2] (psh v [vi x1]) σ1) (fun e σ1 => hk [0, 0, 0, 0, 0] e σ1 (fun t => ev prog (d + 5) 130 0 t (msk (pMask prog 130 t) [vr 87, vi x1, vi x2]) [vj] σ1)) else some (.inl (some (vi x1)), (shp, M)) := by
  rw [b130_1]
  try simp +decide only [b130_0, b130_2, b130_8, b130_3, b130_4, b130_6, b130_5, b130_7, callK_r, callK_x, psh_s, psh_n, hk_0, hk_1, hk_2, hk_3, hk_4, callK_ite, bit_bi, bit_0, bit_1, eq_self, reduceIte, Int.reduceEq, Int.reduceLT, Int.reduceNeg, Nat.reduceEqDiff, ne_eq, not_false_eq_true, pu_k, mset_k, mset_j, mset_at, va_pu, va_mset, Int.reduceToNat, Int.reduceLE, and_self, true_and, and_true]
  all_goals (try rfl)
  all_goals (repeat' split)
  all_goals first | rfl | simp_all
theorem g130_4 (d : Nat) (x2 : Int) (s0 : Int) (s1 : Int) (M : mM) : ev prog (d + 5) 130 0 4 [vr 87, vj, vi x2] [vi s1, vi s0] (shp, M) = if s1 = 0 then ev prog (d + 5) 130 0 1 [vr 87, vi (wr (s0 + 0)), vi (wr (x2 + 1))] [] (shp, M) else ev prog (d + 5) 130 0 1 [vr 87, vi (wr (s0 + 1)), vi (wr (x2 + 1))] [] (shp, M) := by
  rw [b130_4]
  try simp +decide only [b130_0, b130_2, b130_8, b130_3, b130_6, b130_5, b130_7, callK_r, callK_x, psh_s, psh_n, hk_0, hk_1, hk_2, hk_3, hk_4, callK_ite, bit_bi, bit_0, bit_1, eq_self, reduceIte, Int.reduceEq, Int.reduceLT, Int.reduceNeg, Nat.reduceEqDiff, ne_eq, not_false_eq_true, pu_k, mset_k, mset_j, mset_at, va_pu, va_mset, Int.reduceToNat, Int.reduceLE, and_self, true_and, and_true]
  all_goals (try rfl)
  all_goals (repeat' split)
  all_goals first | rfl | simp_all
theorem g131_1 (d : Nat) (M : mM) : ev prog (d + 6) 131 0 1 [vr 87, vj] [] (shp, M) = callK (run prog (d + 5) 54 [vr 87] (shp, M)) (fun v σ1 => ev prog (d + 6) 131 0 2 [vj, vj] (psh v []) σ1) (fun e σ1 => hk [0, 0, 0, 0, 0] e σ1 (fun t => ev prog (d + 6) 131 0 t (msk (pMask prog 131 t) [vr 87, vj]) [vj] σ1)) := by
  rw [b131_1]
  try simp +decide only [b131_3, b131_5, b131_7, b131_9, b131_2, b131_4, b131_6, b131_8, b131_10, callK_r, callK_x, psh_s, psh_n, hk_0, hk_1, hk_2, hk_3, hk_4, callK_ite, bit_bi, bit_0, bit_1, eq_self, reduceIte, Int.reduceEq, Int.reduceLT, Int.reduceNeg, Nat.reduceEqDiff, ne_eq, not_false_eq_true, pu_k, mset_k, mset_j, mset_at, va_pu, va_mset, Int.reduceToNat, Int.reduceLE, and_self, true_and, and_true]
  all_goals (try rfl)
  all_goals (repeat' split)
  all_goals first | rfl | simp_all
theorem g131_3 (d : Nat) (M : mM) : ev prog (d + 6) 131 0 3 [vr 87, vj] [] (shp, M) = callK (run prog (d + 5) 74 [vr 87] (shp, M)) (fun v σ1 => ev prog (d + 6) 131 0 4 [vj, vj] (psh v []) σ1) (fun e σ1 => hk [0, 0, 0, 0, 0] e σ1 (fun t => ev prog (d + 6) 131 0 t (msk (pMask prog 131 t) [vr 87, vj]) [vj] σ1)) := by
  rw [b131_3]
  try simp +decide only [b131_1, b131_5, b131_7, b131_9, b131_2, b131_4, b131_6, b131_8, b131_10, callK_r, callK_x, psh_s, psh_n, hk_0, hk_1, hk_2, hk_3, hk_4, callK_ite, bit_bi, bit_0, bit_1, eq_self, reduceIte, Int.reduceEq, Int.reduceLT, Int.reduceNeg, Nat.reduceEqDiff, ne_eq, not_false_eq_true, pu_k, mset_k, mset_j, mset_at, va_pu, va_mset, Int.reduceToNat, Int.reduceLE, and_self, true_and, and_true]
  all_goals (try rfl)
  all_goals (repeat' split)
  all_goals first | rfl | simp_all
theorem g131_5 (d : Nat) (M : mM) : ev prog (d + 6) 131 0 5 [vr 87, vj] [] (shp, M) = some (.inl (some (vi (M 88 2001))), (shp, M)) := by
  rw [b131_5]
  try simp +decide only [b131_1, b131_3, b131_7, b131_9, b131_2, b131_4, b131_6, b131_8, b131_10, callK_r, callK_x, psh_s, psh_n, hk_0, hk_1, hk_2, hk_3, hk_4, callK_ite, bit_bi, bit_0, bit_1, eq_self, reduceIte, Int.reduceEq, Int.reduceLT, Int.reduceNeg, Nat.reduceEqDiff, ne_eq, not_false_eq_true, pu_k, mset_k, mset_j, mset_at, va_pu, va_mset, Int.reduceToNat, Int.reduceLE, and_self, true_and, and_true]
  all_goals (try rfl)
  all_goals (repeat' split)
  all_goals first | rfl | simp_all
theorem g131_7 (d : Nat) (M : mM) : ev prog (d + 6) 131 0 7 [vr 87, vj] [] (shp, M) = callK (run prog (d + 5) 130 [vr 87] (shp, M)) (fun v σ1 => ev prog (d + 6) 131 0 8 [vj, vj] (psh v []) σ1) (fun e σ1 => hk [0, 0, 0, 0, 0] e σ1 (fun t => ev prog (d + 6) 131 0 t (msk (pMask prog 131 t) [vr 87, vj]) [vj] σ1)) := by
  rw [b131_7]
  try simp +decide only [b131_1, b131_3, b131_5, b131_9, b131_2, b131_4, b131_6, b131_8, b131_10, callK_r, callK_x, psh_s, psh_n, hk_0, hk_1, hk_2, hk_3, hk_4, callK_ite, bit_bi, bit_0, bit_1, eq_self, reduceIte, Int.reduceEq, Int.reduceLT, Int.reduceNeg, Nat.reduceEqDiff, ne_eq, not_false_eq_true, pu_k, mset_k, mset_j, mset_at, va_pu, va_mset, Int.reduceToNat, Int.reduceLE, and_self, true_and, and_true]
  all_goals (try rfl)
  all_goals (repeat' split)
  all_goals first | rfl | simp_all
theorem g131_9 (d : Nat) (M : mM) : ev prog (d + 6) 131 0 9 [vr 87, vj] [] (shp, M) = some (.inl (some (vi 0)), (shp, mset M 87 3 1)) := by
  rw [b131_9]
  try simp +decide only [b131_1, b131_3, b131_5, b131_7, b131_2, b131_4, b131_6, b131_8, b131_10, s53, o53, callK_r, callK_x, psh_s, psh_n, hk_0, hk_1, hk_2, hk_3, hk_4, callK_ite, bit_bi, bit_0, bit_1, eq_self, reduceIte, Int.reduceEq, Int.reduceLT, Int.reduceNeg, Nat.reduceEqDiff, ne_eq, not_false_eq_true, pu_k, mset_k, mset_j, mset_at, va_pu, va_mset, Int.reduceToNat, Int.reduceLE, and_self, true_and, and_true]
  all_goals (try rfl)
  all_goals (repeat' split)
  all_goals first | rfl | simp_all
theorem g131_2 (d : Nat) (s0 : Int) (M : mM) : ev prog (d + 6) 131 0 2 [vj, vj] [vi s0] (shp, M) = some (.inl (some (vi s0)), (shp, M)) := by
  rw [b131_2]
  try simp +decide only [b131_1, b131_3, b131_5, b131_7, b131_9, b131_4, b131_6, b131_8, b131_10, callK_r, callK_x, psh_s, psh_n, hk_0, hk_1, hk_2, hk_3, hk_4, callK_ite, bit_bi, bit_0, bit_1, eq_self, reduceIte, Int.reduceEq, Int.reduceLT, Int.reduceNeg, Nat.reduceEqDiff, ne_eq, not_false_eq_true, pu_k, mset_k, mset_j, mset_at, va_pu, va_mset, Int.reduceToNat, Int.reduceLE, and_self, true_and, and_true]
  all_goals (try rfl)
  all_goals (repeat' split)
  all_goals first | rfl | simp_all
theorem g131_4 (d : Nat) (s0 : Int) (M : mM) : ev prog (d + 6) 131 0 4 [vj, vj] [vi s0] (shp, M) = some (.inl (some (vi s0)), (shp, M)) := by
  rw [b131_4]
  try simp +decide only [b131_1, b131_3, b131_5, b131_7, b131_9, b131_2, b131_6, b131_8, b131_10, callK_r, callK_x, psh_s, psh_n, hk_0, hk_1, hk_2, hk_3, hk_4, callK_ite, bit_bi, bit_0, bit_1, eq_self, reduceIte, Int.reduceEq, Int.reduceLT, Int.reduceNeg, Nat.reduceEqDiff, ne_eq, not_false_eq_true, pu_k, mset_k, mset_j, mset_at, va_pu, va_mset, Int.reduceToNat, Int.reduceLE, and_self, true_and, and_true]
  all_goals (try rfl)
  all_goals (repeat' split)
  all_goals first | rfl | simp_all
theorem g131_8 (d : Nat) (s0 : Int) (M : mM) : ev prog (d + 6) 131 0 8 [vj, vj] [vi s0] (shp, M) = some (.inl (some (vi s0)), (shp, M)) := by
  rw [b131_8]
  try simp +decide only [b131_1, b131_3, b131_5, b131_7, b131_9, b131_2, b131_4, b131_6, b131_10, callK_r, callK_x, psh_s, psh_n, hk_0, hk_1, hk_2, hk_3, hk_4, callK_ite, bit_bi, bit_0, bit_1, eq_self, reduceIte, Int.reduceEq, Int.reduceLT, Int.reduceNeg, Nat.reduceEqDiff, ne_eq, not_false_eq_true, pu_k, mset_k, mset_j, mset_at, va_pu, va_mset, Int.reduceToNat, Int.reduceLE, and_self, true_and, and_true]
  all_goals (try rfl)
  all_goals (repeat' split)
  all_goals first | rfl | simp_all
theorem g136_0 (d : Nat) (x1 : Int) (x2 : Int) (M : mM) : ev prog (d + 2) 136 0 0 [vr 87, vi x1, vi x2, vj] [] (shp, M) = if x1 < 0 then some (.inl (some (vi 1000)), (shp, M)) else (if 0 ≤ (wr (1000 + x1)) ∧ (wr (1000 + x1)) < 2031 then (if (M 88 (Int.toNat (wr (1000 + x1)))) = 1 then (if 0 ≤ (wr ((wr (3 * x1)) + x2)) ∧ (wr ((wr (3 * x1)) + x2)) < 2031 then (if 0 ≤ (wr (1400 + x1)) ∧ (wr (1400 + x1)) < 2031 then callK (run prog (d + 1) 136 [vr 87, vi (M 88 (Int.toNat (wr (1400 + x1)))), vi x2] (shp, M)) (fun v σ1 => ev prog (d + 2) 136 0 9 [vr 87, vi x1, vi x2, vj] (psh v [vi (M 88 (Int.toNat (wr ((wr (3 * x1)) + x2))))]) σ1) (fun e σ1 => hk [0, 0, 0, 0, 0] e σ1 (fun t => ev prog (d + 2) 136 0 t (msk (pMask prog 136 t) [vr 87, vi x1, vi x2, vj]) [vj] σ1)) else none) else none) else (if 0 ≤ (wr (1400 + x1)) ∧ (wr (1400 + x1)) < 2031 then callK (run prog (d + 1) 136 [vr 87, vi (M 88 (Int.toNat (wr (1400 + x1)))), vi x2] (shp, M)) (fun v σ1 => ev prog (d + 2) 136 0 9 [vr 87, vi x1, vi x2, vj] (psh v [vi 1000]) σ1) (fun e σ1 => hk [0, 0, 0, 0, 0] e σ1 (fun t => ev prog (d + 2) 136 0 t (msk (pMask prog 136 t) [vr 87, vi x1, vi x2, vj]) [vj] σ1)) else none)) else none) := by
  rw [b136_0]
  try simp +decide only [b136_2, b136_1, b136_3, b136_6, b136_4, b136_7, b136_5, b136_8, b136_9, b136_10, b136_11, b136_12, b136_13, callK_r, callK_x, psh_s, psh_n, hk_0, hk_1, hk_2, hk_3, hk_4, callK_ite, bit_bi, bit_0, bit_1, eq_self, reduceIte, Int.reduceEq, Int.reduceLT, Int.reduceNeg, Nat.reduceEqDiff, ne_eq, not_false_eq_true, pu_k, mset_k, mset_j, mset_at, va_pu, va_mset, Int.reduceToNat, Int.reduceLE, and_self, true_and, and_true]
  all_goals (try rfl)
  all_goals (repeat' split)
  all_goals first | rfl | simp_all
theorem g136_9 (d : Nat) (x1 : Int) (x2 : Int) (s0 : Int) (s1 : Int) (M : mM) : ev prog (d + 2) 136 0 9 [vr 87, vi x1, vi x2, vj] [vi s1, vi s0] (shp, M) = if 0 ≤ (wr (1600 + x1)) ∧ (wr (1600 + x1)) < 2031 then callK (run prog (d + 1) 136 [vr 87, vi (M 88 (Int.toNat (wr (1600 + x1)))), vi x2] (shp, M)) (fun v σ1 => ev prog (d + 2) 136 0 11 [vj, vj, vj, vj] (psh v [vi s1, vi s0]) σ1) (fun e σ1 => hk [0, 0, 0, 0, 0] e σ1 (fun t => ev prog (d + 2) 136 0 t (msk (pMask prog 136 t) [vj, vj, vi x2, vj]) [vj] σ1)) else none := by
  rw [b136_9]
  try simp +decide only [b136_0, b136_2, b136_1, b136_3, b136_6, b136_4, b136_7, b136_5, b136_8, b136_10, b136_11, b136_12, b136_13, callK_r, callK_x, psh_s, psh_n, hk_0, hk_1, hk_2, hk_3, hk_4, callK_ite, bit_bi, bit_0, bit_1, eq_self, reduceIte, Int.reduceEq, Int.reduceLT, Int.reduceNeg, Nat.reduceEqDiff, ne_eq, not_false_eq_true, pu_k, mset_k, mset_j, mset_at, va_pu, va_mset, Int.reduceToNat, Int.reduceLE, and_self, true_and, and_true]
  all_goals (try rfl)
  all_goals (repeat' split)
  all_goals first | rfl | simp_all
theorem g136_11 (d : Nat) (s0 : Int) (s1 : Int) (s2 : Int) (M : mM) : ev prog (d + 2) 136 0 11 [vj, vj, vj, vj] [vi s2, vi s1, vi s0] (shp, M) = some (.inl (some (vi (r135 s0 (r135 s1 s2 M) M))), (shp, M)) := by
  rw [b136_11]
  try simp +decide only [b136_0, b136_2, b136_1, b136_3, b136_6, b136_4, b136_7, b136_5, b136_8, b136_9, b136_10, b136_12, b136_13, s135, callK_r, callK_x, psh_s, psh_n, hk_0, hk_1, hk_2, hk_3, hk_4, callK_ite, bit_bi, bit_0, bit_1, eq_self, reduceIte, Int.reduceEq, Int.reduceLT, Int.reduceNeg, Nat.reduceEqDiff, ne_eq, not_false_eq_true, pu_k, mset_k, mset_j, mset_at, va_pu, va_mset, Int.reduceToNat, Int.reduceLE, and_self, true_and, and_true]
  all_goals (try rfl)
  all_goals (repeat' split)
  all_goals first | rfl | simp_all
theorem g138_0 (d : Nat) (x1 : Int) (x2 : Int) (M : mM) : ev prog (d + 2) 138 0 0 [vr 87, vi x1, vi x2, vj] [] (shp, M) = if x1 < 0 then some (.inl (some (vi (-1000))), (shp, M)) else (if 0 ≤ (wr (1000 + x1)) ∧ (wr (1000 + x1)) < 2031 then (if (M 88 (Int.toNat (wr (1000 + x1)))) = 1 then (if 0 ≤ (wr ((wr (3 * x1)) + x2)) ∧ (wr ((wr (3 * x1)) + x2)) < 2031 then (if 0 ≤ (wr (1400 + x1)) ∧ (wr (1400 + x1)) < 2031 then callK (run prog (d + 1) 138 [vr 87, vi (M 88 (Int.toNat (wr (1400 + x1)))), vi x2] (shp, M)) (fun v σ1 => ev prog (d + 2) 138 0 9 [vr 87, vi x1, vi x2, vj] (psh v [vi (M 88 (Int.toNat (wr ((wr (3 * x1)) + x2))))]) σ1) (fun e σ1 => hk [0, 0, 0, 0, 0] e σ1 (fun t => ev prog (d + 2) 138 0 t (msk (pMask prog 138 t) [vr 87, vi x1, vi x2, vj]) [vj] σ1)) else none) else none) else (if 0 ≤ (wr (1400 + x1)) ∧ (wr (1400 + x1)) < 2031 then callK (run prog (d + 1) 138 [vr 87, vi (M 88 (Int.toNat (wr (1400 + x1)))), vi x2] (shp, M)) (fun v σ1 => ev prog (d + 2) 138 0 9 [vr 87, vi x1, vi x2, vj] (psh v [vi (-1000)]) σ1) (fun e σ1 => hk [0, 0, 0, 0, 0] e σ1 (fun t => ev prog (d + 2) 138 0 t (msk (pMask prog 138 t) [vr 87, vi x1, vi x2, vj]) [vj] σ1)) else none)) else none) := by
  rw [b138_0]
  try simp +decide only [b138_2, b138_1, b138_3, b138_6, b138_4, b138_7, b138_5, b138_8, b138_9, b138_10, b138_11, b138_12, b138_13, callK_r, callK_x, psh_s, psh_n, hk_0, hk_1, hk_2, hk_3, hk_4, callK_ite, bit_bi, bit_0, bit_1, eq_self, reduceIte, Int.reduceEq, Int.reduceLT, Int.reduceNeg, Nat.reduceEqDiff, ne_eq, not_false_eq_true, pu_k, mset_k, mset_j, mset_at, va_pu, va_mset, Int.reduceToNat, Int.reduceLE, and_self, true_and, and_true]
  all_goals (try rfl)
  all_goals (repeat' split)
  all_goals first | rfl | simp_all
theorem g138_9 (d : Nat) (x1 : Int) (x2 : Int) (s0 : Int) (s1 : Int) (M : mM) : ev prog (d + 2) 138 0 9 [vr 87, vi x1, vi x2, vj] [vi s1, vi s0] (shp, M) = if 0 ≤ (wr (1600 + x1)) ∧ (wr (1600 + x1)) < 2031 then callK (run prog (d + 1) 138 [vr 87, vi (M 88 (Int.toNat (wr (1600 + x1)))), vi x2] (shp, M)) (fun v σ1 => ev prog (d + 2) 138 0 11 [vj, vj, vj, vj] (psh v [vi s1, vi s0]) σ1) (fun e σ1 => hk [0, 0, 0, 0, 0] e σ1 (fun t => ev prog (d + 2) 138 0 t (msk (pMask prog 138 t) [vj, vj, vi x2, vj]) [vj] σ1)) else none := by
  rw [b138_9]
  try simp +decide only [b138_0, b138_2, b138_1, b138_3, b138_6, b138_4, b138_7, b138_5, b138_8, b138_10, b138_11, b138_12, b138_13, callK_r, callK_x, psh_s, psh_n, hk_0, hk_1, hk_2, hk_3, hk_4, callK_ite, bit_bi, bit_0, bit_1, eq_self, reduceIte, Int.reduceEq, Int.reduceLT, Int.reduceNeg, Nat.reduceEqDiff, ne_eq, not_false_eq_true, pu_k, mset_k, mset_j, mset_at, va_pu, va_mset, Int.reduceToNat, Int.reduceLE, and_self, true_and, and_true]
  all_goals (try rfl)
  all_goals (repeat' split)
  all_goals first | rfl | simp_all
theorem g138_11 (d : Nat) (s0 : Int) (s1 : Int) (s2 : Int) (M : mM) : ev prog (d + 2) 138 0 11 [vj, vj, vj, vj] [vi s2, vi s1, vi s0] (shp, M) = some (.inl (some (vi (r137 s0 (r137 s1 s2 M) M))), (shp, M)) := by
  rw [b138_11]
  try simp +decide only [b138_0, b138_2, b138_1, b138_3, b138_6, b138_4, b138_7, b138_5, b138_8, b138_9, b138_10, b138_12, b138_13, s137, callK_r, callK_x, psh_s, psh_n, hk_0, hk_1, hk_2, hk_3, hk_4, callK_ite, bit_bi, bit_0, bit_1, eq_self, reduceIte, Int.reduceEq, Int.reduceLT, Int.reduceNeg, Nat.reduceEqDiff, ne_eq, not_false_eq_true, pu_k, mset_k, mset_j, mset_at, va_pu, va_mset, Int.reduceToNat, Int.reduceLE, and_self, true_and, and_true]
  all_goals (try rfl)
  all_goals (repeat' split)
  all_goals first | rfl | simp_all
theorem g139_0 (d : Nat) (x1 : Int) (x2 : Int) (x3 : Int) (M : mM) : ev prog (d + 4) 139 0 0 [vr 87, vi x1, vi x2, vi x3] [] (shp, M) = callK (run prog (d + 3) 108 [vr 87, vi x1] (shp, mset M 87 3 0)) (fun v σ1 => ev prog (d + 4) 139 0 1 [vr 87, vi x1, vi x2, vi x3] (psh v []) σ1) (fun e σ1 => hk [0, 0, 0, 0, 0] e σ1 (fun t => ev prog (d + 4) 139 0 t (msk (pMask prog 139 t) [vr 87, vi x1, vi x2, vi x3]) [vj] σ1)) := by
  rw [b139_0]
  try simp +decide only [b139_1, b139_4, b139_2, b139_5, b139_3, b139_6, b139_7, b139_10, b139_8, b139_11, b139_9, b139_12, b139_15, b139_13, b139_16, b139_14, callK_r, callK_x, psh_s, psh_n, hk_0, hk_1, hk_2, hk_3, hk_4, callK_ite, bit_bi, bit_0, bit_1, eq_self, reduceIte, Int.reduceEq, Int.reduceLT, Int.reduceNeg, Nat.reduceEqDiff, ne_eq, not_false_eq_true, pu_k, mset_k, mset_j, mset_at, va_pu, va_mset, Int.reduceToNat, Int.reduceLE, and_self, true_and, and_true]
  all_goals (try rfl)
  all_goals (repeat' split)
  all_goals first | rfl | simp_all
theorem g139_1 (d : Nat) (x1 : Int) (x2 : Int) (x3 : Int) (s0 : Int) (M : mM) : ev prog (d + 4) 139 0 1 [vr 87, vi x1, vi x2, vi x3] [vi s0] (shp, M) = if s0 = 0 then some (.inl (some (vi 0)), (shp, mset M 87 3 1)) else callK (run prog (d + 3) 122 [vr 87, vi x1] (shp, M)) (fun v σ1 => ev prog (d + 4) 139 0 3 [vr 87, vi x1, vi x2, vi x3] (psh v []) σ1) (fun e σ1 => hk [0, 0, 0, 0, 0] e σ1 (fun t => ev prog (d + 4) 139 0 t (msk (pMask prog 139 t) [vr 87, vi x1, vi x2, vi x3]) [vj] σ1)) := by
  rw [b139_1]
  try simp +decide only [b139_0, b139_4, b139_2, b139_5, b139_3, b139_6, b139_7, b139_10, b139_8, b139_11, b139_9, b139_12, b139_15, b139_13, b139_16, b139_14, s53, o53, callK_r, callK_x, psh_s, psh_n, hk_0, hk_1, hk_2, hk_3, hk_4, callK_ite, bit_bi, bit_0, bit_1, eq_self, reduceIte, Int.reduceEq, Int.reduceLT, Int.reduceNeg, Nat.reduceEqDiff, ne_eq, not_false_eq_true, pu_k, mset_k, mset_j, mset_at, va_pu, va_mset, Int.reduceToNat, Int.reduceLE, and_self, true_and, and_true]
  all_goals (try rfl)
  all_goals (repeat' split)
  all_goals first | rfl | simp_all
theorem g139_3 (d : Nat) (x1 : Int) (x2 : Int) (x3 : Int) (s0 : Int) (M : mM) : ev prog (d + 4) 139 0 3 [vr 87, vi x1, vi x2, vi x3] [vi s0] (shp, M) = if s0 = 0 then some (.inl (some (vi 0)), (shp, mset M 87 3 1)) else (if (bi (p83 x2 M)) = 0 then some (.inl (some (vi 0)), (shp, mset M 87 3 2)) else (if (bi (p51 x3 0 1 M)) = 0 then some (.inl (some (vi 0)), (shp, mset M 87 3 2)) else (if x3 = 0 then callK (run prog (d + 3) 136 [vr 87, vi x1, vi x2] (shp, M)) (fun v σ1 => ev prog (d + 4) 139 0 14 [vj, vj, vj, vj] (psh v []) σ1) (fun e σ1 => hk [0, 0, 0, 0, 0] e σ1 (fun t => ev prog (d + 4) 139 0 t (msk (pMask prog 139 t) [vr 87, vi x1, vi x2, vj]) [vj] σ1)) else callK (run prog (d + 3) 138 [vr 87, vi x1, vi x2] (shp, M)) (fun v σ1 => ev prog (d + 4) 139 0 16 [vj, vj, vj, vj] (psh v []) σ1) (fun e σ1 => hk [0, 0, 0, 0, 0] e σ1 (fun t => ev prog (d + 4) 139 0 t (msk (pMask prog 139 t) [vr 87, vi x1, vi x2, vj]) [vj] σ1))))) := by
  rw [b139_3]
  try simp +decide only [b139_0, b139_1, b139_4, b139_2, b139_5, b139_6, b139_7, b139_10, b139_8, b139_11, b139_9, b139_12, b139_15, b139_13, b139_16, b139_14, s53, s51, s83, o53, callK_r, callK_x, psh_s, psh_n, hk_0, hk_1, hk_2, hk_3, hk_4, callK_ite, bit_bi, bit_0, bit_1, eq_self, reduceIte, Int.reduceEq, Int.reduceLT, Int.reduceNeg, Nat.reduceEqDiff, ne_eq, not_false_eq_true, pu_k, mset_k, mset_j, mset_at, va_pu, va_mset, Int.reduceToNat, Int.reduceLE, and_self, true_and, and_true]
  all_goals (try rfl)
  all_goals (repeat' split)
  all_goals first | rfl | simp_all
theorem g139_14 (d : Nat) (s0 : Int) (M : mM) : ev prog (d + 4) 139 0 14 [vj, vj, vj, vj] [vi s0] (shp, M) = some (.inl (some (vi s0)), (shp, M)) := by
  rw [b139_14]
  try simp +decide only [b139_0, b139_1, b139_4, b139_2, b139_5, b139_3, b139_6, b139_7, b139_10, b139_8, b139_11, b139_9, b139_12, b139_15, b139_13, b139_16, callK_r, callK_x, psh_s, psh_n, hk_0, hk_1, hk_2, hk_3, hk_4, callK_ite, bit_bi, bit_0, bit_1, eq_self, reduceIte, Int.reduceEq, Int.reduceLT, Int.reduceNeg, Nat.reduceEqDiff, ne_eq, not_false_eq_true, pu_k, mset_k, mset_j, mset_at, va_pu, va_mset, Int.reduceToNat, Int.reduceLE, and_self, true_and, and_true]
  all_goals (try rfl)
  all_goals (repeat' split)
  all_goals first | rfl | simp_all
theorem g139_16 (d : Nat) (s0 : Int) (M : mM) : ev prog (d + 4) 139 0 16 [vj, vj, vj, vj] [vi s0] (shp, M) = some (.inl (some (vi s0)), (shp, M)) := by
  rw [b139_16]
  try simp +decide only [b139_0, b139_1, b139_4, b139_2, b139_5, b139_3, b139_6, b139_7, b139_10, b139_8, b139_11, b139_9, b139_12, b139_15, b139_13, b139_14, callK_r, callK_x, psh_s, psh_n, hk_0, hk_1, hk_2, hk_3, hk_4, callK_ite, bit_bi, bit_0, bit_1, eq_self, reduceIte, Int.reduceEq, Int.reduceLT, Int.reduceNeg, Nat.reduceEqDiff, ne_eq, not_false_eq_true, pu_k, mset_k, mset_j, mset_at, va_pu, va_mset, Int.reduceToNat, Int.reduceLE, and_self, true_and, and_true]
  all_goals (try rfl)
  all_goals (repeat' split)
  all_goals first | rfl | simp_all
theorem g142_1 (d : Nat) (x1 : Int) (M : mM) : ev prog (d + 2) 142 0 1 [vj, vi x1] [] (shp, M) = some (.inl (some (vi (bi (p51 x1 55 95 M)))), (shp, M)) := by
  rw [b142_1]
  try simp +decide only [b142_3, b142_5, b142_7, b142_2, b142_4, b142_6, b142_8, s51, callK_r, callK_x, psh_s, psh_n, hk_0, hk_1, hk_2, hk_3, hk_4, callK_ite, bit_bi, bit_0, bit_1, eq_self, reduceIte, Int.reduceEq, Int.reduceLT, Int.reduceNeg, Nat.reduceEqDiff, ne_eq, not_false_eq_true, pu_k, mset_k, mset_j, mset_at, va_pu, va_mset, Int.reduceToNat, Int.reduceLE, and_self, true_and, and_true]
  all_goals (try rfl)
  all_goals (repeat' split)
  all_goals first | rfl | simp_all
theorem g142_3 (d : Nat) (x1 : Int) (M : mM) : ev prog (d + 2) 142 0 3 [vj, vi x1] [] (shp, M) = some (.inl (some (vi (bi (p51 x1 10 90 M)))), (shp, M)) := by
  rw [b142_3]
  try simp +decide only [b142_1, b142_5, b142_7, b142_2, b142_4, b142_6, b142_8, s51, callK_r, callK_x, psh_s, psh_n, hk_0, hk_1, hk_2, hk_3, hk_4, callK_ite, bit_bi, bit_0, bit_1, eq_self, reduceIte, Int.reduceEq, Int.reduceLT, Int.reduceNeg, Nat.reduceEqDiff, ne_eq, not_false_eq_true, pu_k, mset_k, mset_j, mset_at, va_pu, va_mset, Int.reduceToNat, Int.reduceLE, and_self, true_and, and_true]
  all_goals (try rfl)
  all_goals (repeat' split)
  all_goals first | rfl | simp_all
theorem g142_5 (d : Nat) (x1 : Int) (M : mM) : ev prog (d + 2) 142 0 5 [vj, vi x1] [] (shp, M) = some (.inl (some (vi (bi (p51 x1 0 3 M)))), (shp, M)) := by
  rw [b142_5]
  try simp +decide only [b142_1, b142_3, b142_7, b142_2, b142_4, b142_6, b142_8, s51, callK_r, callK_x, psh_s, psh_n, hk_0, hk_1, hk_2, hk_3, hk_4, callK_ite, bit_bi, bit_0, bit_1, eq_self, reduceIte, Int.reduceEq, Int.reduceLT, Int.reduceNeg, Nat.reduceEqDiff, ne_eq, not_false_eq_true, pu_k, mset_k, mset_j, mset_at, va_pu, va_mset, Int.reduceToNat, Int.reduceLE, and_self, true_and, and_true]
  all_goals (try rfl)
  all_goals (repeat' split)
  all_goals first | rfl | simp_all
theorem g142_7 (d : Nat) (x1 : Int) (M : mM) : ev prog (d + 2) 142 0 7 [vj, vi x1] [] (shp, M) = some (.inl (some (vi (bi (p51 x1 1 9 M)))), (shp, M)) := by
  rw [b142_7]
  try simp +decide only [b142_1, b142_3, b142_5, b142_2, b142_4, b142_6, b142_8, s51, callK_r, callK_x, psh_s, psh_n, hk_0, hk_1, hk_2, hk_3, hk_4, callK_ite, bit_bi, bit_0, bit_1, eq_self, reduceIte, Int.reduceEq, Int.reduceLT, Int.reduceNeg, Nat.reduceEqDiff, ne_eq, not_false_eq_true, pu_k, mset_k, mset_j, mset_at, va_pu, va_mset, Int.reduceToNat, Int.reduceLE, and_self, true_and, and_true]
  all_goals (try rfl)
  all_goals (repeat' split)
  all_goals first | rfl | simp_all
theorem g143_0 (d : Nat) (x1 : Int) (x2 : Int) (M : mM) : ev prog (d + 3) 143 0 0 [vr 87, vi x1, vi x2, vj] [] (shp, M) = if (bi (p51 x1 0 5 (mset M 87 3 0))) = 0 then some (.inl (some (vi 0)), (shp, mset (mset M 87 3 0) 87 3 1)) else callK (run prog (d + 2) 142 [vi x1, vi x2] (shp, mset M 87 3 0)) (fun v σ1 => ev prog (d + 3) 143 0 5 [vr 87, vi x1, vi x2, vj] (psh v []) σ1) (fun e σ1 => hk [0, 0, 0, 0, 0] e σ1 (fun t => ev prog (d + 3) 143 0 t (msk (pMask prog 143 t) [vr 87, vi x1, vi x2, vj]) [vj] σ1)) := by
  rw [b143_0]
  try simp +decide only [b143_1, b143_4, b143_2, b143_5, b143_3, b143_8, b143_6, b143_9, b143_7, b143_10, s53, s51, o53, callK_r, callK_x, psh_s, psh_n, hk_0, hk_1, hk_2, hk_3, hk_4, callK_ite, bit_bi, bit_0, bit_1, eq_self, reduceIte, Int.reduceEq, Int.reduceLT, Int.reduceNeg, Nat.reduceEqDiff, ne_eq, not_false_eq_true, pu_k, mset_k, mset_j, mset_at, va_pu, va_mset, Int.reduceToNat, Int.reduceLE, and_self, true_and, and_true]
  all_goals (try rfl)
  all_goals (repeat' split)
  all_goals first | rfl | simp_all
theorem g143_5 (d : Nat) (x1 : Int) (x2 : Int) (s0 : Int) (M : mM) : ev prog (d + 3) 143 0 5 [vr 87, vi x1, vi x2, vj] [vi s0] (shp, M) = if s0 = 0 then some (.inl (some (vi 0)), (shp, mset M 87 3 2)) else (if 0 ≤ (wr (2002 + x1)) ∧ (wr (2002 + x1)) < 2031 then (if 0 ≤ (wr (2002 + x1)) ∧ (wr (2002 + x1)) < 2031 then some (.inl (some (vi (M 88 (Int.toNat (wr (2002 + x1)))))), (shp, mset M 88 (Int.toNat (wr (2002 + x1))) x2)) else none) else none) := by
  rw [b143_5]
  try simp +decide only [b143_0, b143_1, b143_4, b143_2, b143_3, b143_8, b143_6, b143_9, b143_7, b143_10, s53, o53, callK_r, callK_x, psh_s, psh_n, hk_0, hk_1, hk_2, hk_3, hk_4, callK_ite, bit_bi, bit_0, bit_1, eq_self, reduceIte, Int.reduceEq, Int.reduceLT, Int.reduceNeg, Nat.reduceEqDiff, ne_eq, not_false_eq_true, pu_k, mset_k, mset_j, mset_at, va_pu, va_mset, Int.reduceToNat, Int.reduceLE, and_self, true_and, and_true]
  all_goals (try rfl)
  all_goals (repeat' split)
  all_goals first | rfl | simp_all
theorem g144_0 (d : Nat) (M : mM) : ev prog (d + 7) 144 0 0 [vr 5, vj] [] (shp, M) = callK (run prog (d + 6) 47 [vr 25, vi (M 12 11), vi 2] (shp, mset M 79 4 0)) (fun v σ1 => ev prog (d + 7) 144 0 2 [vr 5, vi (M 21 1)] (psh v []) σ1) (fun e σ1 => hk [0, 0, 0, 0, 0] e σ1 (fun t => ev prog (d + 7) 144 0 t (msk (pMask prog 144 t) [vr 5, vi (M 21 1)]) [vj] σ1)) := by
  rw [b144_0]
  try simp +decide only [b144_1, b144_2, s16, o16, callK_r, callK_x, psh_s, psh_n, hk_0, hk_1, hk_2, hk_3, hk_4, callK_ite, bit_bi, bit_0, bit_1, eq_self, reduceIte, Int.reduceEq, Int.reduceLT, Int.reduceNeg, Nat.reduceEqDiff, ne_eq, not_false_eq_true, pu_k, mset_k, mset_j, mset_at, va_pu, va_mset, Int.reduceToNat, Int.reduceLE, and_self, true_and, and_true]
  all_goals (try rfl)
  all_goals (repeat' split)
  all_goals first | rfl | simp_all
theorem g144_2 (d : Nat) (x1 : Int) (M : mM) : ev prog (d + 7) 144 0 2 [vr 5, vi x1] [] (shp, M) = some (.inl (some (vi (wr (x1 - (M 21 1))))), (shp, M)) := by
  rw [b144_2]
  try simp +decide only [b144_0, b144_1, callK_r, callK_x, psh_s, psh_n, hk_0, hk_1, hk_2, hk_3, hk_4, callK_ite, bit_bi, bit_0, bit_1, eq_self, reduceIte, Int.reduceEq, Int.reduceLT, Int.reduceNeg, Nat.reduceEqDiff, ne_eq, not_false_eq_true, pu_k, mset_k, mset_j, mset_at, va_pu, va_mset, Int.reduceToNat, Int.reduceLE, and_self, true_and, and_true]
  all_goals (try rfl)
  all_goals (repeat' split)
  all_goals first | rfl | simp_all
theorem g145_0 (d : Nat) (M : mM) : ev prog (d + 2) 145 0 0 [vr 87, vj] [] (shp, M) = callK (run prog (d + 1) 74 [vr 87] (shp, mset M 87 3 0)) (fun v σ1 => ev prog (d + 2) 145 0 1 [vr 87, vj] (psh v []) σ1) (fun e σ1 => hk [0, 0, 0, 0, 0] e σ1 (fun t => ev prog (d + 2) 145 0 t (msk (pMask prog 145 t) [vr 87, vj]) [vj] σ1)) := by
  rw [b145_0]
  try simp +decide only [b145_1, b145_2, b145_3, b145_4, b145_5, callK_r, callK_x, psh_s, psh_n, hk_0, hk_1, hk_2, hk_3, hk_4, callK_ite, bit_bi, bit_0, bit_1, eq_self, reduceIte, Int.reduceEq, Int.reduceLT, Int.reduceNeg, Nat.reduceEqDiff, ne_eq, not_false_eq_true, pu_k, mset_k, mset_j, mset_at, va_pu, va_mset, Int.reduceToNat, Int.reduceLE, and_self, true_and, and_true]
  all_goals (try rfl)
  all_goals (repeat' split)
  all_goals first | rfl | simp_all
theorem g145_1 (d : Nat) (s0 : Int) (M : mM) : ev prog (d + 2) 145 0 1 [vr 87, vj] [vi s0] (shp, M) = callK (run prog (d + 1) 64 [vr 87, vi (M 88 2000)] (shp, mset (mset M 87 8 0) 88 2029 (wr ((M 88 2029) + 1)))) (fun v σ1 => ev prog (d + 2) 145 0 5 [vj, vi s0] (psh v []) σ1) (fun e σ1 => hk [0, 0, 0, 0, 0] e σ1 (fun t => ev prog (d + 2) 145 0 t (msk (pMask prog 145 t) [vj, vi s0]) [vj] σ1)) := by
  rw [b145_1]
  try simp +decide only [b145_0, b145_2, b145_3, b145_4, b145_5, callK_r, callK_x, psh_s, psh_n, hk_0, hk_1, hk_2, hk_3, hk_4, callK_ite, bit_bi, bit_0, bit_1, eq_self, reduceIte, Int.reduceEq, Int.reduceLT, Int.reduceNeg, Nat.reduceEqDiff, ne_eq, not_false_eq_true, pu_k, mset_k, mset_j, mset_at, va_pu, va_mset, Int.reduceToNat, Int.reduceLE, and_self, true_and, and_true]
  all_goals (try rfl)
  all_goals (repeat' split)
  all_goals first | rfl | simp_all
theorem g145_5 (d : Nat) (x1 : Int) (M : mM) : ev prog (d + 2) 145 0 5 [vj, vi x1] [] (shp, M) = some (.inl (some (vi x1)), (shp, M)) := by
  rw [b145_5]
  try simp +decide only [b145_0, b145_1, b145_2, b145_3, b145_4, callK_r, callK_x, psh_s, psh_n, hk_0, hk_1, hk_2, hk_3, hk_4, callK_ite, bit_bi, bit_0, bit_1, eq_self, reduceIte, Int.reduceEq, Int.reduceLT, Int.reduceNeg, Nat.reduceEqDiff, ne_eq, not_false_eq_true, pu_k, mset_k, mset_j, mset_at, va_pu, va_mset, Int.reduceToNat, Int.reduceLE, and_self, true_and, and_true]
  all_goals (try rfl)
  all_goals (repeat' split)
  all_goals first | rfl | simp_all
theorem g148_0 (d : Nat) (x1 : Int) (M : mM) : ev prog (d + 2) 148 0 0 [vr 87, vi x1] [] (shp, M) = if (bi (p51 x1 0 3 (mset M 87 3 0))) = 0 then some (.inl (some (vi 0)), (shp, mset (mset M 87 3 0) 87 3 1)) else (if 0 ≤ (wr (2027 + x1)) ∧ (wr (2027 + x1)) < 2031 then some (.inl (some (vi (M 88 (Int.toNat (wr (2027 + x1)))))), (shp, mset M 87 3 0)) else none) := by
  rw [b148_0]
  try simp +decide only [b148_1, b148_4, b148_2, b148_5, b148_3, s53, s51, o53, callK_r, callK_x, psh_s, psh_n, hk_0, hk_1, hk_2, hk_3, hk_4, callK_ite, bit_bi, bit_0, bit_1, eq_self, reduceIte, Int.reduceEq, Int.reduceLT, Int.reduceNeg, Nat.reduceEqDiff, ne_eq, not_false_eq_true, pu_k, mset_k, mset_j, mset_at, va_pu, va_mset, Int.reduceToNat, Int.reduceLE, and_self, true_and, and_true]
  all_goals (try rfl)
  all_goals (repeat' split)
  all_goals first | rfl | simp_all
theorem g152_0 (d : Nat) (x1 : Int) (x2 : Int) (x3 : Int) (M : mM) : ev prog (d + 3) 152 0 0 [vr 87, vi x1, vi x2, vi x3] [] (shp, M) = if (bi (p52 x1 x2 x3 (mset M 87 3 0))) = 0 then some (.inl none, (shp, mset (mset M 87 3 0) 87 3 1)) else some (.inl none, (shp, mset (mset (mset (mset M 87 3 0) 88 2008 x1) 88 2009 x2) 88 2010 x3)) := by
  rw [b152_0]
  try simp +decide only [b152_1, b152_3, b152_2, b152_4, b152_5, b152_6, s52, callK_r, callK_x, psh_s, psh_n, hk_0, hk_1, hk_2, hk_3, hk_4, callK_ite, bit_bi, bit_0, bit_1, eq_self, reduceIte, Int.reduceEq, Int.reduceLT, Int.reduceNeg, Nat.reduceEqDiff, ne_eq, not_false_eq_true, pu_k, mset_k, mset_j, mset_at, va_pu, va_mset, Int.reduceToNat, Int.reduceLE, and_self, true_and, and_true]
  all_goals (try rfl)
  all_goals (repeat' split)
  all_goals first | rfl | simp_all
theorem g155_0 (d : Nat) (x1 : Int) (x2 : Int) (M : mM) : ev prog (d + 2) 155 0 0 [vr 87, vi x1, vi x2, vj] [] (shp, M) = if (bi (p51 x1 0 9 (mset M 87 3 0))) = 0 then some (.inl (some (vi 0)), (shp, mset (mset M 87 3 0) 87 3 1)) else (if 0 ≤ (wr (2017 + x1)) ∧ (wr (2017 + x1)) < 2031 then (if (M 88 (Int.toNat (wr (2017 + x1)))) = 1 then (if x2 = 0 then (if 0 ≤ (wr (2017 + x1)) ∧ (wr (2017 + x1)) < 2031 then some (.inl (some (vi 1)), (shp, mset (mset M 87 3 0) 88 (Int.toNat (wr (2017 + x1))) 0)) else none) else (if 0 ≤ (wr (2017 + x1)) ∧ (wr (2017 + x1)) < 2031 then some (.inl (some (vi 1)), (shp, mset (mset M 87 3 0) 88 (Int.toNat (wr (2017 + x1))) 1)) else none)) else (if x2 = 0 then (if 0 ≤ (wr (2017 + x1)) ∧ (wr (2017 + x1)) < 2031 then some (.inl (some (vi 0)), (shp, mset (mset M 87 3 0) 88 (Int.toNat (wr (2017 + x1))) 0)) else none) else (if 0 ≤ (wr (2017 + x1)) ∧ (wr (2017 + x1)) < 2031 then some (.inl (some (vi 0)), (shp, mset (mset M 87 3 0) 88 (Int.toNat (wr (2017 + x1))) 1)) else none))) else none) := by
  rw [b155_0]
  try simp +decide only [b155_1, b155_3, b155_2, b155_4, b155_6, b155_5, b155_7, b155_9, b155_8, b155_10, b155_11, s51, callK_r, callK_x, psh_s, psh_n, hk_0, hk_1, hk_2, hk_3, hk_4, callK_ite, bit_bi, bit_0, bit_1, eq_self, reduceIte, Int.reduceEq, Int.reduceLT, Int.reduceNeg, Nat.reduceEqDiff, ne_eq, not_false_eq_true, pu_k, mset_k, mset_j, mset_at, va_pu, va_mset, Int.reduceToNat, Int.reduceLE, and_self, true_and, and_true]
  all_goals (try rfl)
  all_goals (repeat' split)
  all_goals first | rfl | simp_all
theorem g156_0 (d : Nat) (x1 : Int) (x2 : Int) (x3 : Int) (M : mM) : ev prog (d + 3) 156 0 0 [vr 33, vi x1, vi x2, vi x3] [] (shp, M) = ev prog (d + 3) 156 0 1 [vr 33, vi x1, vi x2, vi x3] [vi (r39 2 M)] (shp, M) := by
  rw [b156_0]
  try simp +decide only [b156_2, b156_3, b156_4, b156_8, b156_5, b156_6, b156_7, s39, callK_r, callK_x, psh_s, psh_n, hk_0, hk_1, hk_2, hk_3, hk_4, callK_ite, bit_bi, bit_0, bit_1, eq_self, reduceIte, Int.reduceEq, Int.reduceLT, Int.reduceNeg, Nat.reduceEqDiff, ne_eq, not_false_eq_true, pu_k, mset_k, mset_j, mset_at, va_pu, va_mset, Int.reduceToNat, Int.reduceLE, and_self, true_and, and_true]
  all_goals (try rfl)
  all_goals (repeat' split)
  all_goals first | rfl | simp_all
theorem g156_2 (d : Nat) (x1 : Int) (x2 : Int) (x3 : Int) (M : mM) : ev prog (d + 3) 156 0 2 [vj, vi x1, vi x2, vi x3] [] (shp, M) = some (.inl (some (vi (if x1 < (if x2 < x3 then x3 else x2) then (if x2 < x3 then x3 else x2) else x1))), (shp, M)) := by
  rw [b156_2]
  try simp +decide only [b156_0, b156_3, b156_4, b156_8, b156_5, b156_6, b156_7, callK_r, callK_x, psh_s, psh_n, hk_0, hk_1, hk_2, hk_3, hk_4, callK_ite, bit_bi, bit_0, bit_1, eq_self, reduceIte, Int.reduceEq, Int.reduceLT, Int.reduceNeg, Nat.reduceEqDiff, ne_eq, not_false_eq_true, pu_k, mset_k, mset_j, mset_at, va_pu, va_mset, Int.reduceToNat, Int.reduceLE, and_self, true_and, and_true]
  all_goals (try rfl)
  all_goals (repeat' split)
  all_goals first | rfl | simp_all
theorem g156_3 (d : Nat) (x1 : Int) (x2 : Int) (x3 : Int) (M : mM) : ev prog (d + 3) 156 0 3 [vj, vi x1, vi x2, vi x3] [] (shp, M) = some (.inl (some (vi (wr ((wr ((wr (x1 * x1)) + (wr (x2 * x2)))) + (wr (x3 * x3)))))), (shp, M)) := by
  rw [b156_3]
  try simp +decide only [b156_0, b156_2, b156_4, b156_8, b156_5, b156_6, b156_7, callK_r, callK_x, psh_s, psh_n, hk_0, hk_1, hk_2, hk_3, hk_4, callK_ite, bit_bi, bit_0, bit_1, eq_self, reduceIte, Int.reduceEq, Int.reduceLT, Int.reduceNeg, Nat.reduceEqDiff, ne_eq, not_false_eq_true, pu_k, mset_k, mset_j, mset_at, va_pu, va_mset, Int.reduceToNat, Int.reduceLE, and_self, true_and, and_true]
  all_goals (try rfl)
  all_goals (repeat' split)
  all_goals first | rfl | simp_all
theorem g156_4 (d : Nat) (x1 : Int) (x2 : Int) (x3 : Int) (M : mM) : ev prog (d + 3) 156 0 4 [vr 33, vi x1, vi x2, vi x3] [] (shp, M) = some (.inl (some (vi (wr ((wr ((wr ((r39 3 M) * x1)) + (wr ((r39 4 M) * x2)))) + (wr ((r39 5 M) * x3)))))), (shp, M)) := by
  rw [b156_4]
  try simp +decide only [b156_0, b156_2, b156_3, b156_8, b156_5, b156_6, b156_7, s39, callK_r, callK_x, psh_s, psh_n, hk_0, hk_1, hk_2, hk_3, hk_4, callK_ite, bit_bi, bit_0, bit_1, eq_self, reduceIte, Int.reduceEq, Int.reduceLT, Int.reduceNeg, Nat.reduceEqDiff, ne_eq, not_false_eq_true, pu_k, mset_k, mset_j, mset_at, va_pu, va_mset, Int.reduceToNat, Int.reduceLE, and_self, true_and, and_true]
  all_goals (try rfl)
  all_goals (repeat' split)
  all_goals first | rfl | simp_all
theorem g156_8 (d : Nat) (x1 : Int) (x2 : Int) (x3 : Int) (M : mM) : ev prog (d + 3) 156 0 8 [vj, vi x1, vi x2, vi x3] [] (shp, M) = some (.inl (some (vi (wr ((wr (x1 + x2)) + x3)))), (shp, M)) := by
  rw [b156_8]
  try simp +decide only [b156_0, b156_2, b156_3, b156_4, b156_5, b156_6, b156_7, callK_r, callK_x, psh_s, psh_n, hk_0, hk_1, hk_2, hk_3, hk_4, callK_ite, bit_bi, bit_0, bit_1, eq_self, reduceIte, Int.reduceEq, Int.reduceLT, Int.reduceNeg, Nat.reduceEqDiff, ne_eq, not_false_eq_true, pu_k, mset_k, mset_j, mset_at, va_pu, va_mset, Int.reduceToNat, Int.reduceLE, and_self, true_and, and_true]
  all_goals (try rfl)
  all_goals (repeat' split)
  all_goals first | rfl | simp_all
theorem g157_0 (d : Nat) (x1 : Int) (M : mM) : ev prog (d + 4) 157 0 0 [vr 72, vi x1, vj] [] (shp, M) = callK (run prog (d + 3) 156 [vr 33, vi (wr (Int.natAbs (wr ((r20 x1 0 M) - (va M 35 3 0))) : Int)), vi (wr (Int.natAbs (wr ((r20 x1 1 M) - (va M 35 3 1))) : Int)), vi (wr (Int.natAbs (wr ((r20 x1 2 M) - (va M 35 3 2))) : Int))] (shp, M)) (fun v σ1 => ev prog (d + 4) 157 0 7 [vj, vj, vj] (psh v []) σ1) (fun e σ1 => hk [0, 0, 0, 0, 0] e σ1 (fun t => ev prog (d + 4) 157 0 t (msk (pMask prog 157 t) [vj, vj, vj]) [vj] σ1)) := by
  rw [b157_0]
  try simp +decide only [b157_1, b157_2, b157_3, b157_4, b157_5, b157_6, b157_7, s20, va_35, callK_r, callK_x, psh_s, psh_n, hk_0, hk_1, hk_2, hk_3, hk_4, callK_ite, bit_bi, bit_0, bit_1, eq_self, reduceIte, Int.reduceEq, Int.reduceLT, Int.reduceNeg, Nat.reduceEqDiff, ne_eq, not_false_eq_true, pu_k, mset_k, mset_j, mset_at, va_pu, va_mset, Int.reduceToNat, Int.reduceLE, and_self, true_and, and_true]
  all_goals (try rfl)
  all_goals (repeat' split)
  all_goals first | rfl | simp_all
theorem g157_7 (d : Nat) (s0 : Int) (M : mM) : ev prog (d + 4) 157 0 7 [vj, vj, vj] [vi s0] (shp, M) = some (.inl (some (vi s0)), (shp, M)) := by
  rw [b157_7]
  try simp +decide only [b157_0, b157_1, b157_2, b157_3, b157_4, b157_5, b157_6, callK_r, callK_x, psh_s, psh_n, hk_0, hk_1, hk_2, hk_3, hk_4, callK_ite, bit_bi, bit_0, bit_1, eq_self, reduceIte, Int.reduceEq, Int.reduceLT, Int.reduceNeg, Nat.reduceEqDiff, ne_eq, not_false_eq_true, pu_k, mset_k, mset_j, mset_at, va_pu, va_mset, Int.reduceToNat, Int.reduceLE, and_self, true_and, and_true]
  all_goals (try rfl)
  all_goals (repeat' split)
  all_goals first | rfl | simp_all
theorem g158_0 (d : Nat) (x1 : Int) (M : mM) : ev prog (d + 5) 158 0 0 [vr 5, vi x1] [] (shp, M) = if (bi (p31 x1 M)) = 0 then some (.inr 2, (shp, M)) else callK (run prog (d + 4) 157 [vr 72, vi x1] (shp, M)) (fun v σ1 => ev prog (d + 5) 158 1 2 [vj, vj] (psh v []) σ1) (fun e σ1 => hk [0, 0, 0, 0, 0] e σ1 (fun t => ev prog (d + 5) 158 1 t (msk (pMask prog 158 t) [vr 5, vi x1]) [vj] σ1)) := by
  rw [b158_0]
  try simp +decide only [b158_1, b158_2, s79, o79, callK_r, callK_x, psh_s, psh_n, hk_0, hk_1, hk_2, hk_3, hk_4, callK_ite, bit_bi, bit_0, bit_1, eq_self, reduceIte, Int.reduceEq, Int.reduceLT, Int.reduceNeg, Nat.reduceEqDiff, ne_eq, not_false_eq_true, pu_k, mset_k, mset_j, mset_at, va_pu, va_mset, Int.reduceToNat, Int.reduceLE, and_self, true_and, and_true]
  all_goals (try rfl)
  all_goals (repeat' split)
  all_goals first | rfl | simp_all
theorem g158_2 (d : Nat) (s0 : Int) (M : mM) : ev prog (d + 5) 158 1 2 [vj, vj] [vi s0] (shp, M) = some (.inl (some (vi s0)), (shp, M)) := by
  rw [b158_2]
  try simp +decide only [b158_0, b158_1, callK_r, callK_x, psh_s, psh_n, hk_0, hk_1, hk_2, hk_3, hk_4, callK_ite, bit_bi, bit_0, bit_1, eq_self, reduceIte, Int.reduceEq, Int.reduceLT, Int.reduceNeg, Nat.reduceEqDiff, ne_eq, not_false_eq_true, pu_k, mset_k, mset_j, mset_at, va_pu, va_mset, Int.reduceToNat, Int.reduceLE, and_self, true_and, and_true]
  all_goals (try rfl)
  all_goals (repeat' split)
  all_goals first | rfl | simp_all
theorem g161_0 (d : Nat) (x1 : Int) (x2 : Int) (x3 : Int) (M : mM) : ev prog (d + 2) 161 0 0 [vr 87, vi x1, vi x2, vi x3] [] (shp, M) = ev prog (d + 2) 161 0 1 [vr 87, vi x1, vi x2, vi x3] [vi (M 88 2004)] (shp, M) := by
  rw [b161_0]
  try simp +decide only [b161_2, b161_3, b161_6, b161_7, b161_4, b161_8, b161_5, b161_9, b161_10, callK_r, callK_x, psh_s, psh_n, hk_0, hk_1, hk_2, hk_3, hk_4, callK_ite, bit_bi, bit_0, bit_1, eq_self, reduceIte, Int.reduceEq, Int.reduceLT, Int.reduceNeg, Nat.reduceEqDiff, ne_eq, not_false_eq_true, pu_k, mset_k, mset_j, mset_at, va_pu, va_mset, Int.reduceToNat, Int.reduceLE, and_self, true_and, and_true]
  all_goals (try rfl)
  all_goals (repeat' split)
  all_goals first | rfl | simp_all
theorem g161_2 (d : Nat) (x1 : Int) (x2 : Int) (x3 : Int) (M : mM) : ev prog (d + 2) 161 0 2 [vj, vi x1, vi x2, vi x3] [] (shp, M) = some (.inl (some (vi (wr ((wr (x1 + x2)) + x3)))), (shp, M)) := by
  rw [b161_2]
  try simp +decide only [b161_0, b161_3, b161_6, b161_7, b161_4, b161_8, b161_5, b161_9, b161_10, callK_r, callK_x, psh_s, psh_n, hk_0, hk_1, hk_2, hk_3, hk_4, callK_ite, bit_bi, bit_0, bit_1, eq_self, reduceIte, Int.reduceEq, Int.reduceLT, Int.reduceNeg, Nat.reduceEqDiff, ne_eq, not_false_eq_true, pu_k, mset_k, mset_j, mset_at, va_pu, va_mset, Int.reduceToNat, Int.reduceLE, and_self, true_and, and_true]
  all_goals (try rfl)
  all_goals (repeat' split)
  all_goals first | rfl | simp_all
theorem g161_3 (d : Nat) (x1 : Int) (x2 : Int) (x3 : Int) (M : mM) : ev prog (d + 2) 161 0 3 [vj, vi x1, vi x2, vi x3] [] (shp, M) = some (.inl (some (vi (r137 x1 (r137 x2 x3 M) M))), (shp, M)) := by
  rw [b161_3]
  try simp +decide only [b161_0, b161_2, b161_6, b161_7, b161_4, b161_8, b161_5, b161_9, b161_10, s137, callK_r, callK_x, psh_s, psh_n, hk_0, hk_1, hk_2, hk_3, hk_4, callK_ite, bit_bi, bit_0, bit_1, eq_self, reduceIte, Int.reduceEq, Int.reduceLT, Int.reduceNeg, Nat.reduceEqDiff, ne_eq, not_false_eq_true, pu_k, mset_k, mset_j, mset_at, va_pu, va_mset, Int.reduceToNat, Int.reduceLE, and_self, true_and, and_true]
  all_goals (try rfl)
  all_goals (repeat' split)
  all_goals first | rfl | simp_all
theorem g161_6 (d : Nat) (x1 : Int) (x2 : Int) (x3 : Int) (M : mM) : ev prog (d + 2) 161 0 6 [vj, vi x1, vi x2, vi x3] [] (shp, M) = some (.inl (some (vi (wr ((wr ((wr (x1 * x1)) + (wr (x2 * x2)))) + (wr (x3 * x3)))))), (shp, M)) := by
  rw [b161_6]
  try simp +decide only [b161_0, b161_2, b161_3, b161_7, b161_4, b161_8, b161_5, b161_9, b161_10, callK_r, callK_x, psh_s, psh_n, hk_0, hk_1, hk_2, hk_3, hk_4, callK_ite, bit_bi, bit_0, bit_1, eq_self, reduceIte, Int.reduceEq, Int.reduceLT, Int.reduceNeg, Nat.reduceEqDiff, ne_eq, not_false_eq_true, pu_k, mset_k, mset_j, mset_at, va_pu, va_mset, Int.reduceToNat, Int.reduceLE, and_self, true_and, and_true]
  all_goals (try rfl)
  all_goals (repeat' split)
  all_goals first | rfl | simp_all
theorem g161_7 (d : Nat) (x1 : Int) (x2 : Int) (x3 : Int) (M : mM) : ev prog (d + 2) 161 0 7 [vr 87, vi x1, vi x2, vi x3] [] (shp, M) = some (.inl (some (vi (wr ((wr ((wr ((M 88 2005) * x1)) + (wr ((M 88 2006) * x2)))) + (wr ((M 88 2007) * x3)))))), (shp, M)) := by
  rw [b161_7]
  try simp +decide only [b161_0, b161_2, b161_3, b161_6, b161_4, b161_8, b161_5, b161_9, b161_10, callK_r, callK_x, psh_s, psh_n, hk_0, hk_1, hk_2, hk_3, hk_4, callK_ite, bit_bi, bit_0, bit_1, eq_self, reduceIte, Int.reduceEq, Int.reduceLT, Int.reduceNeg, Nat.reduceEqDiff, ne_eq, not_false_eq_true, pu_k, mset_k, mset_j, mset_at, va_pu, va_mset, Int.reduceToNat, Int.reduceLE, and_self, true_and, and_true]
  all_goals (try rfl)
  all_goals (repeat' split)
  all_goals first | rfl | simp_all
theorem g162_0 (d : Nat) (x1 : Int) (M : mM) : ev prog (d + 3) 162 0 0 [vr 87, vi x1] [] (shp, M) = if 0 ≤ (wr (3 * x1)) ∧ (wr (3 * x1)) < 2031 then (if 0 ≤ (wr ((wr (3 * x1)) + 1)) ∧ (wr ((wr (3 * x1)) + 1)) < 2031 then (if 0 ≤ (wr ((wr (3 * x1)) + 2)) ∧ (wr ((wr (3 * x1)) + 2)) < 2031 then callK (run prog (d + 2) 161 [vr 87, vi (r160 (M 88 (Int.toNat (wr (3 * x1)))) (M 88 2008) M), vi (r160 (M 88 (Int.toNat (wr ((wr (3 * x1)) + 1)))) (M 88 2009) M), vi (r160 (M 88 (Int.toNat (wr ((wr (3 * x1)) + 2)))) (M 88 2010) M)] (shp, M)) (fun v σ1 => ev prog (d + 3) 162 0 10 [vj, vj] (psh v []) σ1) (fun e σ1 => hk [0, 0, 0, 0, 0] e σ1 (fun t => ev prog (d + 3) 162 0 t (msk (pMask prog 162 t) [vj, vj]) [vj] σ1)) else none) else none) else none := by
  rw [b162_0]
  try simp +decide only [b162_1, b162_2, b162_3, b162_4, b162_5, b162_6, b162_7, b162_8, b162_9, b162_10, s160, callK_r, callK_x, psh_s, psh_n, hk_0, hk_1, hk_2, hk_3, hk_4, callK_ite, bit_bi, bit_0, bit_1, eq_self, reduceIte, Int.reduceEq, Int.reduceLT, Int.reduceNeg, Nat.reduceEqDiff, ne_eq, not_false_eq_true, pu_k, mset_k, mset_j, mset_at, va_pu, va_mset, Int.reduceToNat, Int.reduceLE, and_self, true_and, and_true]
  all_goals (try rfl)
  all_goals (repeat' split)
  all_goals first | rfl | simp_all
theorem g162_10 (d : Nat) (s0 : Int) (M : mM) : ev prog (d + 3) 162 0 10 [vj, vj] [vi s0] (shp, M) = some (.inl (some (vi s0)), (shp, M)) := by
  rw [b162_10]
  try simp +decide only [b162_0, b162_1, b162_2, b162_3, b162_4, b162_5, b162_6, b162_7, b162_8, b162_9, callK_r, callK_x, psh_s, psh_n, hk_0, hk_1, hk_2, hk_3, hk_4, callK_ite, bit_bi, bit_0, bit_1, eq_self, reduceIte, Int.reduceEq, Int.reduceLT, Int.reduceNeg, Nat.reduceEqDiff, ne_eq, not_false_eq_true, pu_k, mset_k, mset_j, mset_at, va_pu, va_mset, Int.reduceToNat, Int.reduceLE, and_self, true_and, and_true]
  all_goals (try rfl)
  all_goals (repeat' split)
  all_goals first | rfl | simp_all
theorem g163_0 (d : Nat) (x1 : Int) (M : mM) : ev prog (d + 4) 163 0 0 [vr 87, vi x1] [] (shp, M) = callK (run prog (d + 3) 72 [vr 87, vi x1] (shp, mset M 87 3 0)) (fun v σ1 => ev prog (d + 4) 163 0 1 [vr 87, vi x1] (psh v []) σ1) (fun e σ1 => hk [0, 0, 0, 0, 0] e σ1 (fun t => ev prog (d + 4) 163 0 t (msk (pMask prog 163 t) [vr 87, vi x1]) [vj] σ1)) := by
  rw [b163_0]
  try simp +decide only [b163_1, b163_4, b163_2, b163_5, b163_3, callK_r, callK_x, psh_s, psh_n, hk_0, hk_1, hk_2, hk_3, hk_4, callK_ite, bit_bi, bit_0, bit_1, eq_self, reduceIte, Int.reduceEq, Int.reduceLT, Int.reduceNeg, Nat.reduceEqDiff, ne_eq, not_false_eq_true, pu_k, mset_k, mset_j, mset_at, va_pu, va_mset, Int.reduceToNat, Int.reduceLE, and_self, true_and, and_true]
  all_goals (try rfl)
  all_goals (repeat' split)
  all_goals first | rfl | simp_all
theorem g163_1 (d : Nat) (x1 : Int) (s0 : Int) (M : mM) : ev prog (d + 4) 163 0 1 [vr 87, vi x1] [vi s0] (shp, M) = if s0 = 0 then some (.inl (some (vi 0)), (shp, mset M 87 3 1)) else callK (run prog (d + 3) 162 [vr 87, vi x1] (shp, M)) (fun v σ1 => ev prog (d + 4) 163 0 3 [vj, vj] (psh v []) σ1) (fun e σ1 => hk [0, 0, 0, 0, 0] e σ1 (fun t => ev prog (d + 4) 163 0 t (msk (pMask prog 163 t) [vr 87, vi x1]) [vj] σ1)) := by
  rw [b163_1]
  try simp +decide only [b163_0, b163_4, b163_2, b163_5, b163_3, s53, o53, callK_r, callK_x, psh_s, psh_n, hk_0, hk_1, hk_2, hk_3, hk_4, callK_ite, bit_bi, bit_0, bit_1, eq_self, reduceIte, Int.reduceEq, Int.reduceLT, Int.reduceNeg, Nat.reduceEqDiff, ne_eq, not_false_eq_true, pu_k, mset_k, mset_j, mset_at, va_pu, va_mset, Int.reduceToNat, Int.reduceLE, and_self, true_and, and_true]
  all_goals (try rfl)
  all_goals (repeat' split)
  all_goals first | rfl | simp_all
theorem g163_3 (d : Nat) (s0 : Int) (M : mM) : ev prog (d + 4) 163 0 3 [vj, vj] [vi s0] (shp, M) = some (.inl (some (vi s0)), (shp, M)) := by
  rw [b163_3]
  try simp +decide only [b163_0, b163_1, b163_4, b163_2, b163_5, callK_r, callK_x, psh_s, psh_n, hk_0, hk_1, hk_2, hk_3, hk_4, callK_ite, bit_bi, bit_0, bit_1, eq_self, reduceIte, Int.reduceEq, Int.reduceLT, Int.reduceNeg, Nat.reduceEqDiff, ne_eq, not_false_eq_true, pu_k, mset_k, mset_j, mset_at, va_pu, va_mset, Int.reduceToNat, Int.reduceLE, and_self, true_and, and_true]
  all_goals (try rfl)
  all_goals (repeat' split)
  all_goals first | rfl | simp_all
theorem g165_0 (d : Nat) (x1 : Int) (M : mM) : ev prog (d + 4) 165 0 0 [vr 72, vi x1] [] (shp, M) = callK (run prog (d + 3) 156 [vr 33, vi (r164 x1 0 M), vi (r164 x1 1 M), vi (r164 x1 2 M)] (shp, M)) (fun v σ1 => ev prog (d + 4) 165 0 4 [vj, vj] (psh v []) σ1) (fun e σ1 => hk [0, 0, 0, 0, 0] e σ1 (fun t => ev prog (d + 4) 165 0 t (msk (pMask prog 165 t) [vj, vj]) [vj] σ1)) := by
  rw [b165_0]
  try simp +decide only [b165_1, b165_2, b165_3, b165_4, s164, callK_r, callK_x, psh_s, psh_n, hk_0, hk_1, hk_2, hk_3, hk_4, callK_ite, bit_bi, bit_0, bit_1, eq_self, reduceIte, Int.reduceEq, Int.reduceLT, Int.reduceNeg, Nat.reduceEqDiff, ne_eq, not_false_eq_true, pu_k, mset_k, mset_j, mset_at, va_pu, va_mset, Int.reduceToNat, Int.reduceLE, and_self, true_and, and_true]
  all_goals (try rfl)
  all_goals (repeat' split)
  all_goals first | rfl | simp_all
theorem g165_4 (d : Nat) (s0 : Int) (M : mM) : ev prog (d + 4) 165 0 4 [vj, vj] [vi s0] (shp, M) = some (.inl (some (vi s0)), (shp, M)) := by
  rw [b165_4]
  try simp +decide only [b165_0, b165_1, b165_2, b165_3, callK_r, callK_x, psh_s, psh_n, hk_0, hk_1, hk_2, hk_3, hk_4, callK_ite, bit_bi, bit_0, bit_1, eq_self, reduceIte, Int.reduceEq, Int.reduceLT, Int.reduceNeg, Nat.reduceEqDiff, ne_eq, not_false_eq_true, pu_k, mset_k, mset_j, mset_at, va_pu, va_mset, Int.reduceToNat, Int.reduceLE, and_self, true_and, and_true]
  all_goals (try rfl)
  all_goals (repeat' split)
  all_goals first | rfl | simp_all
theorem g166_0 (d : Nat) (x1 : Int) (M : mM) : ev prog (d + 5) 166 0 0 [vr 5, vi x1] [] (shp, M) = if (bi (p104 x1 M)) = 0 then some (.inr 2, (shp, M)) else (if (r34 x1 M) = 0 then some (.inr 2, (shp, M)) else callK (run prog (d + 4) 165 [vr 72, vi x1] (shp, M)) (fun v σ1 => ev prog (d + 5) 166 1 2 [vj, vj] (psh v []) σ1) (fun e σ1 => hk [0, 0, 0, 0, 0] e σ1 (fun t => ev prog (d + 5) 166 1 t (msk (pMask prog 166 t) [vr 5, vi x1]) [vj] σ1))) := by
  rw [b166_0]
  try simp +decide only [b166_1, b166_2, s132, o132, callK_r, callK_x, psh_s, psh_n, hk_0, hk_1, hk_2, hk_3, hk_4, callK_ite, bit_bi, bit_0, bit_1, eq_self, reduceIte, Int.reduceEq, Int.reduceLT, Int.reduceNeg, Nat.reduceEqDiff, ne_eq, not_false_eq_true, pu_k, mset_k, mset_j, mset_at, va_pu, va_mset, Int.reduceToNat, Int.reduceLE, and_self, true_and, and_true]
  all_goals (try rfl)
  all_goals (repeat' split)
  all_goals first | rfl | simp_all
theorem g166_2 (d : Nat) (s0 : Int) (M : mM) : ev prog (d + 5) 166 1 2 [vj, vj] [vi s0] (shp, M) = some (.inl (some (vi s0)), (shp, M)) := by
  rw [b166_2]
  try simp +decide only [b166_0, b166_1, callK_r, callK_x, psh_s, psh_n, hk_0, hk_1, hk_2, hk_3, hk_4, callK_ite, bit_bi, bit_0, bit_1, eq_self, reduceIte, Int.reduceEq, Int.reduceLT, Int.reduceNeg, Nat.reduceEqDiff, ne_eq, not_false_eq_true, pu_k, mset_k, mset_j, mset_at, va_pu, va_mset, Int.reduceToNat, Int.reduceLE, and_self, true_and, and_true]
  all_goals (try rfl)
  all_goals (repeat' split)
  all_goals first | rfl | simp_all
theorem g168_0 (d : Nat) (x1 : Int) (x2 : Int) (M : mM) : ev prog (d + 2) 168 0 0 [vr 87, vi x1, vi x2, vj, vj, vj] [] (shp, M) = if 0 ≤ (wr (2008 + x2)) ∧ (wr (2008 + x2)) < 2031 then callK (run prog (d + 1) 136 [vr 87, vi x1, vi x2] (shp, M)) (fun v σ1 => ev prog (d + 2) 168 0 2 [vr 87, vi x1, vi x2, vi (M 88 (Int.toNat (wr (2008 + x2)))), vj, vj] (psh v []) σ1) (fun e σ1 => hk [0, 0, 0, 0, 0] e σ1 (fun t => ev prog (d + 2) 168 0 t (msk (pMask prog 168 t) [vr 87, vi x1, vi x2, vi (M 88 (Int.toNat (wr (2008 + x2)))), vj, vj]) [vj] σ1)) else none := by
  rw [b168_0]
  try simp +decide only [b168_1, b168_2, b168_3, b168_5, b168_4, b168_7, b168_6, b168_8, callK_r, callK_x, psh_s, psh_n, hk_0, hk_1, hk_2, hk_3, hk_4, callK_ite, bit_bi, bit_0, bit_1, eq_self, reduceIte, Int.reduceEq, Int.reduceLT, Int.reduceNeg, Nat.reduceEqDiff, ne_eq, not_false_eq_true, pu_k, mset_k, mset_j, mset_at, va_pu, va_mset, Int.reduceToNat, Int.reduceLE, and_self, true_and, and_true]
  all_goals (try rfl)
  all_goals (repeat' split)
  all_goals first | rfl | simp_all
theorem g168_2 (d : Nat) (x1 : Int) (x2 : Int) (x3 : Int) (s0 : Int) (M : mM) : ev prog (d + 2) 168 0 2 [vr 87, vi x1, vi x2, vi x3, vj, vj] [vi s0] (shp, M) = callK (run prog (d + 1) 138 [vr 87, vi x1, vi x2] (shp, M)) (fun v σ1 => ev prog (d + 2) 168 0 3 [vj, vj, vj, vi x3, vi s0, vj] (psh v []) σ1) (fun e σ1 => hk [0, 0, 0, 0, 0] e σ1 (fun t => ev prog (d + 2) 168 0 t (msk (pMask prog 168 t) [vr 87, vi x1, vi x2, vi x3, vi s0, vj]) [vj] σ1)) := by
  rw [b168_2]
  try simp +decide only [b168_0, b168_1, b168_3, b168_5, b168_4, b168_7, b168_6, b168_8, callK_r, callK_x, psh_s, psh_n, hk_0, hk_1, hk_2, hk_3, hk_4, callK_ite, bit_bi, bit_0, bit_1, eq_self, reduceIte, Int.reduceEq, Int.reduceLT, Int.reduceNeg, Nat.reduceEqDiff, ne_eq, not_false_eq_true, pu_k, mset_k, mset_j, mset_at, va_pu, va_mset, Int.reduceToNat, Int.reduceLE, and_self, true_and, and_true]
  all_goals (try rfl)
  all_goals (repeat' split)
  all_goals first | rfl | simp_all
theorem g168_3 (d : Nat) (x3 : Int) (x4 : Int) (s0 : Int) (M : mM) : ev prog (d + 2) 168 0 3 [vj, vj, vj, vi x3, vi x4, vj] [vi s0] (shp, M) = if x3 < x4 then some (.inl (some (vi (wr (x4 - x3)))), (shp, M)) else (if s0 < x3 then some (.inl (some (vi (wr (x3 - s0)))), (shp, M)) else some (.inl (some (vi 0)), (shp, M))) := by
  rw [b168_3]
  try simp +decide only [b168_0, b168_1, b168_2, b168_5, b168_4, b168_7, b168_6, b168_8, callK_r, callK_x, psh_s, psh_n, hk_0, hk_1, hk_2, hk_3, hk_4, callK_ite, bit_bi, bit_0, bit_1, eq_self, reduceIte, Int.reduceEq, Int.reduceLT, Int.reduceNeg, Nat.reduceEqDiff, ne_eq, not_false_eq_true, pu_k, mset_k, mset_j, mset_at, va_pu, va_mset, Int.reduceToNat, Int.reduceLE, and_self, true_and, and_true]
  all_goals (try rfl)
  all_goals (repeat' split)
  all_goals first | rfl | simp_all
theorem g169_0 (d : Nat) (x1 : Int) (M : mM) : ev prog (d + 4) 169 0 0 [vr 87, vi x1] [] (shp, M) = callK (run prog (d + 3) 108 [vr 87, vi x1] (shp, mset M 87 3 0)) (fun v σ1 => ev prog (d + 4) 169 0 1 [vr 87, vi x1] (psh v []) σ1) (fun e σ1 => hk [0, 0, 0, 0, 0] e σ1 (fun t => ev prog (d + 4) 169 0 t (msk (pMask prog 169 t) [vr 87, vi x1]) [vj] σ1)) := by
  rw [b169_0]
  try simp +decide only [b169_1, b169_4, b169_2, b169_5, b169_3, b169_6, b169_7, b169_8, b169_9, b169_10, callK_r, callK_x, psh_s, psh_n, hk_0, hk_1, hk_2, hk_3, hk_4, callK_ite, bit_bi, bit_0, bit_1, eq_self, reduceIte, Int.reduceEq, Int.reduceLT, Int.reduceNeg, Nat.reduceEqDiff, ne_eq, not_false_eq_true, pu_k, mset_k, mset_j, mset_at, va_pu, va_mset, Int.reduceToNat, Int.reduceLE, and_self, true_and, and_true]
  all_goals (try rfl)
  all_goals (repeat' split)
  all_goals first | rfl | simp_all
theorem g169_1 (d : Nat) (x1 : Int) (s0 : Int) (M : mM) : ev prog (d + 4) 169 0 1 [vr 87, vi x1] [vi s0] (shp, M) = if s0 = 0 then some (.inl (some (vi 0)), (shp, mset M 87 3 1)) else callK (run prog (d + 3) 122 [vr 87, vi x1] (shp, M)) (fun v σ1 => ev prog (d + 4) 169 0 3 [vr 87, vi x1] (psh v []) σ1) (fun e σ1 => hk [0, 0, 0, 0, 0] e σ1 (fun t => ev prog (d + 4) 169 0 t (msk (pMask prog 169 t) [vr 87, vi x1]) [vj] σ1)) := by
  rw [b169_1]
  try simp +decide only [b169_0, b169_4, b169_2, b169_5, b169_3, b169_6, b169_7, b169_8, b169_9, b169_10, s53, o53, callK_r, callK_x, psh_s, psh_n, hk_0, hk_1, hk_2, hk_3, hk_4, callK_ite, bit_bi, bit_0, bit_1, eq_self, reduceIte, Int.reduceEq, Int.reduceLT, Int.reduceNeg, Nat.reduceEqDiff, ne_eq, not_false_eq_true, pu_k, mset_k, mset_j, mset_at, va_pu, va_mset, Int.reduceToNat, Int.reduceLE, and_self, true_and, and_true]
  all_goals (try rfl)
  all_goals (repeat' split)
  all_goals first | rfl | simp_all
theorem g169_3 (d : Nat) (x1 : Int) (s0 : Int) (M : mM) : ev prog (d + 4) 169 0 3 [vr 87, vi x1] [vi s0] (shp, M) = if s0 = 0 then some (.inl (some (vi 0)), (shp, mset M 87 3 1)) else callK (run prog (d + 3) 168 [vr 87, vi x1, vi 0] (shp, M)) (fun v σ1 => ev prog (d + 4) 169 0 7 [vr 87, vi x1] (psh v [vr 87]) σ1) (fun e σ1 => hk [0, 0, 0, 0, 0] e σ1 (fun t => ev prog (d + 4) 169 0 t (msk (pMask prog 169 t) [vr 87, vi x1]) [vj] σ1)) := by
  rw [b169_3]
  try simp +decide only [b169_0, b169_1, b169_4, b169_2, b169_5, b169_6, b169_7, b169_8, b169_9, b169_10, s53, o53, callK_r, callK_x, psh_s, psh_n, hk_0, hk_1, hk_2, hk_3, hk_4, callK_ite, bit_bi, bit_0, bit_1, eq_self, reduceIte, Int.reduceEq, Int.reduceLT, Int.reduceNeg, Nat.reduceEqDiff, ne_eq, not_false_eq_true, pu_k, mset_k, mset_j, mset_at, va_pu, va_mset, Int.reduceToNat, Int.reduceLE, and_self, true_and, and_true]
  all_goals (try rfl)
  all_goals (repeat' split)
  all_goals first | rfl | simp_all
theorem g169_7 (d : Nat) (x1 : Int) (s1 : Int) (M : mM) : ev prog (d + 4) 169 0 7 [vr 87, vi x1] [vi s1, vr 87] (shp, M) = callK (run prog (d + 3) 168 [vr 87, vi x1, vi 1] (shp, M)) (fun v σ1 => ev prog (d + 4) 169 0 8 [vr 87, vi x1] (psh v [vi s1, vr 87]) σ1) (fun e σ1 => hk [0, 0, 0, 0, 0] e σ1 (fun t => ev prog (d + 4) 169 0 t (msk (pMask prog 169 t) [vr 87, vi x1]) [vj] σ1)) := by
  rw [b169_7]
  try simp +decide only [b169_0, b169_1, b169_4, b169_2, b169_5, b169_3, b169_6, b169_8, b169_9, b169_10, callK_r, callK_x, psh_s, psh_n, hk_0, hk_1, hk_2, hk_3, hk_4, callK_ite, bit_bi, bit_0, bit_1, eq_self, reduceIte, Int.reduceEq, Int.reduceLT, Int.reduceNeg, Nat.reduceEqDiff, ne_eq, not_false_eq_true, pu_k, mset_k, mset_j, mset_at, va_pu, va_mset, Int.reduceToNat, Int.reduceLE, and_self, true_and, and_true]
  all_goals (try rfl)
  all_goals (repeat' split)
  all_goals first | rfl | simp_all
theorem g169_8 (d : Nat) (x1 : Int) (s1 : Int) (s2 : Int) (M : mM) : ev prog (d + 4) 169 0 8 [vr 87, vi x1] [vi s2, vi s1, vr 87] (shp, M) = callK (run prog (d + 3) 168 [vr 87, vi x1, vi 2] (shp, M)) (fun v σ1 => ev prog (d + 4) 169 0 9 [vj, vj] (psh v [vi s2, vi s1, vr 87]) σ1) (fun e σ1 => hk [0, 0, 0, 0, 0] e σ1 (fun t => ev prog (d + 4) 169 0 t (msk (pMask prog 169 t) [vr 87, vi x1]) [vj] σ1)) := by
  rw [b169_8]
  try simp +decide only [b169_0, b169_1, b169_4, b169_2, b169_5, b169_3, b169_6, b169_7, b169_9, b169_10, callK_r, callK_x, psh_s, psh_n, hk_0, hk_1, hk_2, hk_3, hk_4, callK_ite, bit_bi, bit_0, bit_1, eq_self, reduceIte, Int.reduceEq, Int.reduceLT, Int.reduceNeg, Nat.reduceEqDiff, ne_eq, not_false_eq_true, pu_k, mset_k, mset_j, mset_at, va_pu, va_mset, Int.reduceToNat, Int.reduceLE, and_self, true_and, and_true]
  all_goals (try rfl)
  all_goals (repeat' split)
  all_goals first | rfl | simp_all
theorem g169_9 (d : Nat) (s1 : Int) (s2 : Int) (s3 : Int) (M : mM) : ev prog (d + 4) 169 0 9 [vj, vj] [vi s3, vi s2, vi s1, vr 87] (shp, M) = callK (run prog (d + 3) 161 [vr 87, vi s1, vi s2, vi s3] (shp, M)) (fun v σ1 => ev prog (d + 4) 169 0 10 [vj, vj] (psh v []) σ1) (fun e σ1 => hk [0, 0, 0, 0, 0] e σ1 (fun t => ev prog (d + 4) 169 0 t (msk (pMask prog 169 t) [vj, vj]) [vj] σ1)) := by
  rw [b169_9]
  try simp +decide only [b169_0, b169_1, b169_4, b169_2, b169_5, b169_3, b169_6, b169_7, b169_8, b169_10, callK_r, callK_x, psh_s, psh_n, hk_0, hk_1, hk_2, hk_3, hk_4, callK_ite, bit_bi, bit_0, bit_1, eq_self, reduceIte, Int.reduceEq, Int.reduceLT, Int.reduceNeg, Nat.reduceEqDiff, ne_eq, not_false_eq_true, pu_k, mset_k, mset_j, mset_at, va_pu, va_mset, Int.reduceToNat, Int.reduceLE, and_self, true_and, and_true]
  all_goals (try rfl)
  all_goals (repeat' split)
  all_goals first | rfl | simp_all
theorem g169_10 (d : Nat) (s0 : Int) (M : mM) : ev prog (d + 4) 169 0 10 [vj, vj] [vi s0] (shp, M) = some (.inl (some (vi s0)), (shp, M)) := by
  rw [b169_10]
  try simp +decide only [b169_0, b169_1, b169_4, b169_2, b169_5, b169_3, b169_6, b169_7, b169_8, b169_9, callK_r, callK_x, psh_s, psh_n, hk_0, hk_1, hk_2, hk_3, hk_4, callK_ite, bit_bi, bit_0, bit_1, eq_self, reduceIte, Int.reduceEq, Int.reduceLT, Int.reduceNeg, Nat.reduceEqDiff, ne_eq, not_false_eq_true, pu_k, mset_k, mset_j, mset_at, va_pu, va_mset, Int.reduceToNat, Int.reduceLE, and_self, true_and, and_true]
  all_goals (try rfl)
  all_goals (repeat' split)
  all_goals first | rfl | simp_all
theorem g170_0 (d : Nat) (M : mM) : ev prog (d + 5) 170 0 0 [vr 72, vj] [] (shp, M) = callK (run prog (d + 4) 126 [vr 72] (shp, M)) (fun v σ1 => ev prog (d + 5) 170 0 1 [vr 72, vj] (psh v []) σ1) (fun e σ1 => hk [0, 0, 0, 0, 0] e σ1 (fun t => ev prog (d + 5) 170 0 t (msk (pMask prog 170 t) [vr 72, vj]) [vj] σ1)) := by
  rw [b170_0]
  try simp +decide only [b170_1, b170_7, b170_3, b170_4, b170_5, b170_6, callK_r, callK_x, psh_s, psh_n, hk_0, hk_1, hk_2, hk_3, hk_4, callK_ite, bit_bi, bit_0, bit_1, eq_self, reduceIte, Int.reduceEq, Int.reduceLT, Int.reduceNeg, Nat.reduceEqDiff, ne_eq, not_false_eq_true, pu_k, mset_k, mset_j, mset_at, va_pu, va_mset, Int.reduceToNat, Int.reduceLE, and_self, true_and, and_true]
  all_goals (try rfl)
  all_goals (repeat' split)
  all_goals first | rfl | simp_all
theorem g170_1 (d : Nat) (s0 : Int) (M : mM) : ev prog (d + 5) 170 0 1 [vr 72, vj] [vi s0] (shp, M) = ev prog (d + 5) 170 0 2 [vr 72, vi 0] [] (shp, M) := by
  rw [b170_1]
  try simp +decide only [b170_0, b170_7, b170_3, b170_4, b170_5, b170_6, callK_r, callK_x, psh_s, psh_n, hk_0, hk_1, hk_2, hk_3, hk_4, callK_ite, bit_bi, bit_0, bit_1, eq_self, reduceIte, Int.reduceEq, Int.reduceLT, Int.reduceNeg, Nat.reduceEqDiff, ne_eq, not_false_eq_true, pu_k, mset_k, mset_j, mset_at, va_pu, va_mset, Int.reduceToNat, Int.reduceLE, and_self, true_and, and_true]
  all_goals (try rfl)
  all_goals (repeat' split)
  all_goals first | rfl | simp_all
theorem g170_2 (d : Nat) (x1 : Int) (M : mM) : ev prog (d + 5) 170 0 2 [vr 72, vi x1] [] (shp, M) = if x1 < (M 73 1) then callK (run prog (d + 4) 157 [vr 72, vi (r30 x1 M)] (shp, M)) (fun v σ1 => ev prog (d + 5) 170 0 5 [vr 72, vi x1] (psh v [vi x1, vr 75]) σ1) (fun e σ1 => hk [0, 0, 0, 0, 0] e σ1 (fun t => ev prog (d + 5) 170 0 t (msk (pMask prog 170 t) [vr 72, vi x1]) [vj] σ1)) else some (.inl none, (shp, M)) := by
  rw [b170_2]
  try simp +decide only [b170_0, b170_1, b170_7, b170_3, b170_4, b170_5, b170_6, s30, callK_r, callK_x, psh_s, psh_n, hk_0, hk_1, hk_2, hk_3, hk_4, callK_ite, bit_bi, bit_0, bit_1, eq_self, reduceIte, Int.reduceEq, Int.reduceLT, Int.reduceNeg, Nat.reduceEqDiff, ne_eq, not_false_eq_true, pu_k, mset_k, mset_j, mset_at, va_pu, va_mset, Int.reduceToNat, Int.reduceLE, and_self, true_and, and_true]
  all_goals (try rfl)
  all_goals (repeat' split)
  all_goals first | rfl | simp_all
theorem g170_5 (d : Nat) (x1 : Int) (s1 : Int) (s2 : Int) (M : mM) : ev prog (d + 5) 170 0 5 [vr 72, vi x1] [vi s2, vi s1, vr 75] (shp, M) = ev prog (d + 5) 170 0 2 [vr 72, vi (wr (x1 + 1))] [] (shp, pu M 75 60 s1 s2) := by
  rw [b170_5]
  try simp +decide only [b170_0, b170_1, b170_7, b170_3, b170_4, b170_6, pu_75, callK_r, callK_x, psh_s, psh_n, hk_0, hk_1, hk_2, hk_3, hk_4, callK_ite, bit_bi, bit_0, bit_1, eq_self, reduceIte, Int.reduceEq, Int.reduceLT, Int.reduceNeg, Nat.reduceEqDiff, ne_eq, not_false_eq_true, pu_k, mset_k, mset_j, mset_at, va_pu, va_mset, Int.reduceToNat, Int.reduceLE, and_self, true_and, and_true]
  all_goals (try rfl)
  all_goals (repeat' split)
  all_goals first | rfl | simp_all
theorem g171_0 (d : Nat) (x1 : Int) (M : mM) : ev prog (d + 2) 171 0 0 [vr 72, vi x1, vj, vj, vj, vj] [] (shp, M) = ev prog (d + 2) 171 0 2 [vr 72, vi x1, vi (va M 75 60 x1), vi 0, vi 0, vj] [] (shp, M) := by
  rw [b171_0]
  try simp +decide only [b171_1, b171_9, b171_3, b171_4, b171_7, b171_5, b171_8, b171_6, va_75, callK_r, callK_x, psh_s, psh_n, hk_0, hk_1, hk_2, hk_3, hk_4, callK_ite, bit_bi, bit_0, bit_1, eq_self, reduceIte, Int.reduceEq, Int.reduceLT, Int.reduceNeg, Nat.reduceEqDiff, ne_eq, not_false_eq_true, pu_k, mset_k, mset_j, mset_at, va_pu, va_mset, Int.reduceToNat, Int.reduceLE, and_self, true_and, and_true]
  all_goals (try rfl)
  all_goals (repeat' split)
  all_goals first | rfl | simp_all
theorem g171_2 (d : Nat) (x1 : Int) (x2 : Int) (x3 : Int) (x4 : Int) (M : mM) : ev prog (d + 2) 171 0 2 [vr 72, vi x1, vi x2, vi x3, vi x4, vj] [] (shp, M) = if x4 < (M 73 1) then (if (va M 75 60 x4) < x2 then ev prog (d + 2) 171 0 2 [vr 72, vi x1, vi x2, vi (wr (x3 + 1)), vi (wr (x4 + 1)), vj] [] (shp, M) else (if (va M 75 60 x4) = x2 then (if x4 < x1 then ev prog (d + 2) 171 0 2 [vr 72, vi x1, vi x2, vi (wr (x3 + 1)), vi (wr (x4 + 1)), vj] [] (shp, M) else ev prog (d + 2) 171 0 2 [vr 72, vi x1, vi x2, vi x3, vi (wr (x4 + 1)), vj] [] (shp, M)) else ev prog (d + 2) 171 0 2 [vr 72, vi x1, vi x2, vi x3, vi (wr (x4 + 1)), vj] [] (shp, M))) else some (.inl (some (vi x3)), (shp, M)) := by
  rw [b171_2]
  try simp +decide only [b171_0, b171_1, b171_9, b171_3, b171_4, b171_7, b171_5, b171_8, b171_6, va_75, callK_r, callK_x, psh_s, psh_n, hk_0, hk_1, hk_2, hk_3, hk_4, callK_ite, bit_bi, bit_0, bit_1, eq_self, reduceIte, Int.reduceEq, Int.reduceLT, Int.reduceNeg, Nat.reduceEqDiff, ne_eq, not_false_eq_true, pu_k, mset_k, mset_j, mset_at, va_pu, va_mset, Int.reduceToNat, Int.reduceLE, and_self, true_and, and_true]
  all_goals (try rfl)
  all_goals (repeat' split)
  all_goals first | rfl | simp_all
theorem g172_0 (d : Nat) (x1 : Int) (M : mM) : ev prog (d + 6) 172 0 0 [vr 72, vi x1, vj] [] (shp, M) = callK (run prog (d + 5) 170 [vr 72] (shp, M)) (fun v σ1 => ev prog (d + 6) 172 0 1 [vr 72, vi x1, vj] (psh v []) σ1) (fun e σ1 => hk [0, 0, 0, 0, 0] e σ1 (fun t => ev prog (d + 6) 172 0 t (msk (pMask prog 172 t) [vr 72, vi x1, vj]) [vj] σ1)) := by
  rw [b172_0]
  try simp +decide only [b172_1, b172_8, b172_3, b172_4, b172_7, b172_5, b172_6, callK_r, callK_x, psh_s, psh_n, hk_0, hk_1, hk_2, hk_3, hk_4, callK_ite, bit_bi, bit_0, bit_1, eq_self, reduceIte, Int.reduceEq, Int.reduceLT, Int.reduceNeg, Nat.reduceEqDiff, ne_eq, not_false_eq_true, pu_k, mset_k, mset_j, mset_at, va_pu, va_mset, Int.reduceToNat, Int.reduceLE, and_self, true_and, and_true]
  all_goals (try rfl)
  all_goals (repeat' split)
  all_goals first | rfl | simp_all
theorem g172_1 (d : Nat) (x1 : Int) (M : mM) : ev prog (d + 6) 172 0 1 [vr 72, vi x1, vj] [] (shp, M) = ev prog (d + 6) 172 0 2 [vr 72, vi x1, vi 0] [] (shp, M) := by
  rw [b172_1]
  try simp +decide only [b172_0, b172_8, b172_3, b172_4, b172_7, b172_5, b172_6, callK_r, callK_x, psh_s, psh_n, hk_0, hk_1, hk_2, hk_3, hk_4, callK_ite, bit_bi, bit_0, bit_1, eq_self, reduceIte, Int.reduceEq, Int.reduceLT, Int.reduceNeg, Nat.reduceEqDiff, ne_eq, not_false_eq_true, pu_k, mset_k, mset_j, mset_at, va_pu, va_mset, Int.reduceToNat, Int.reduceLE, and_self, true_and, and_true]
  all_goals (try rfl)
  all_goals (repeat' split)
  all_goals first | rfl | simp_all
theorem g172_2 (d : Nat) (x1 : Int) (x2 : Int) (M : mM) : ev prog (d + 6) 172 0 2 [vr 72, vi x1, vi x2] [] (shp, M) = if x2 < (M 73 1) then callK (run prog (d + 5) 171 [vr 72, vi x2] (shp, M)) (fun v σ1 => ev prog (d + 6) 172 0 4 [vr 72, vi x1, vi x2] (psh v []) σ1) (fun e σ1 => hk [0, 0, 0, 0, 0] e σ1 (fun t => ev prog (d + 6) 172 0 t (msk (pMask prog 172 t) [vr 72, vi x1, vi x2]) [vj] σ1)) else some (.inl (some (vi (-1))), (shp, M)) := by
  rw [b172_2]
  try simp +decide only [b172_0, b172_1, b172_8, b172_3, b172_4, b172_7, b172_5, b172_6, callK_r, callK_x, psh_s, psh_n, hk_0, hk_1, hk_2, hk_3, hk_4, callK_ite, bit_bi, bit_0, bit_1, eq_self, reduceIte, Int.reduceEq, Int.reduceLT, Int.reduceNeg, Nat.reduceEqDiff, ne_eq, not_false_eq_true, pu_k, mset_k, mset_j, mset_at, va_pu, va_mset, Int.reduceToNat, Int.reduceLE, and_self, true_and, and_true]
  all_goals (try rfl)
  all_goals (repeat' split)
  all_goals first | rfl | simp_all
theorem g172_4 (d : Nat) (x1 : Int) (x2 : Int) (s0 : Int) (M : mM) : ev prog (d + 6) 172 0 4 [vr 72, vi x1, vi x2] [vi s0] (shp, M) = if s0 = x1 then some (.inl (some (vi (r30 x2 M))), (shp, M)) else ev prog (d + 6) 172 0 2 [vr 72, vi x1, vi (wr (x2 + 1))] [] (shp, M) := by
  rw [b172_4]
  try simp +decide only [b172_0, b172_1, b172_8, b172_3, b172_7, b172_5, b172_6, s30, callK_r, callK_x, psh_s, psh_n, hk_0, hk_1, hk_2, hk_3, hk_4, callK_ite, bit_bi, bit_0, bit_1, eq_self, reduceIte, Int.reduceEq, Int.reduceLT, Int.reduceNeg, Nat.reduceEqDiff, ne_eq, not_false_eq_true, pu_k, mset_k, mset_j, mset_at, va_pu, va_mset, Int.reduceToNat, Int.reduceLE, and_self, true_and, and_true]
  all_goals (try rfl)
  all_goals (repeat' split)
  all_goals first | rfl | simp_all
theorem g173_0 (d : Nat) (x1 : Int) (M : mM) : ev prog (d + 7) 173 0 0 [vr 5, vi x1, vj] [] (shp, M) = callK (run prog (d + 6) 172 [vr 72, vi x1] (shp, M)) (fun v σ1 => ev prog (d + 7) 173 0 1 [vj, vj, vj] (psh v []) σ1) (fun e σ1 => hk [0, 0, 0, 0, 0] e σ1 (fun t => ev prog (d + 7) 173 0 t (msk (pMask prog 173 t) [vr 5, vi x1, vj]) [vj] σ1)) := by
  rw [b173_0]
  try simp +decide only [b173_1, b173_3, b173_2, callK_r, callK_x, psh_s, psh_n, hk_0, hk_1, hk_2, hk_3, hk_4, callK_ite, bit_bi, bit_0, bit_1, eq_self, reduceIte, Int.reduceEq, Int.reduceLT, Int.reduceNeg, Nat.reduceEqDiff, ne_eq, not_false_eq_true, pu_k, mset_k, mset_j, mset_at, va_pu, va_mset, Int.reduceToNat, Int.reduceLE, and_self, true_and, and_true]
  all_goals (try rfl)
  all_goals (repeat' split)
  all_goals first | rfl | simp_all
theorem g173_1 (d : Nat) (s0 : Int) (M : mM) : ev prog (d + 7) 173 0 1 [vj, vj, vj] [vi s0] (shp, M) = if s0 = (-1) then some (.inr 2, (shp, M)) else some (.inl (some (vi s0)), (shp, M)) := by
  rw [b173_1]
  try simp +decide only [b173_0, b173_3, b173_2, callK_r, callK_x, psh_s, psh_n, hk_0, hk_1, hk_2, hk_3, hk_4, callK_ite, bit_bi, bit_0, bit_1, eq_self, reduceIte, Int.reduceEq, Int.reduceLT, Int.reduceNeg, Nat.reduceEqDiff, ne_eq, not_false_eq_true, pu_k, mset_k, mset_j, mset_at, va_pu, va_mset, Int.reduceToNat, Int.reduceLE, and_self, true_and, and_true]
  all_goals (try rfl)
  all_goals (repeat' split)
  all_goals first | rfl | simp_all
theorem g175_0 (d : Nat) (x1 : Int) (M : mM) : ev prog (d + 5) 175 0 0 [vr 87, vi x1, vj, vj] [] (shp, M) = ev prog (d + 5) 175 0 1 [vr 87, vi x1, vi 0, vi 0] [] (shp, M) := by
  rw [b175_0]
  try simp +decide only [b175_2, b175_15, b175_3, b175_4, b175_13, b175_5, b175_14, b175_6, b175_7, b175_12, b175_8, b175_9, b175_10, b175_11, callK_r, callK_x, psh_s, psh_n, hk_0, hk_1, hk_2, hk_3, hk_4, callK_ite, bit_bi, bit_0, bit_1, eq_self, reduceIte, Int.reduceEq, Int.reduceLT, Int.reduceNeg, Nat.reduceEqDiff, ne_eq, not_false_eq_true, pu_k, mset_k, mset_j, mset_at, va_pu, va_mset, Int.reduceToNat, Int.reduceLE, and_self, true_and, and_true]
  all_goals (try rfl)
  all_goals (repeat' split)
  all_goals first | rfl | simp_all
theorem g175_1 (d : Nat) (x1 : Int) (x2 : Int) (x3 : Int) (M : mM) : ev prog (d + 5) 175 0 1 [vr 87, vi x1, vi x2, vi x3] [] (shp, M) = if x3 < (M 88 2001) then callK (run prog (d + 4) 129 [vr 87, vi x3] (shp, M)) (fun v σ1 => ev prog (d + 5) 175 0 4 [vr 87, vi x1, vj, vi x3] (psh v [vi x2]) σ1) (fun e σ1 => hk [0, 0, 0, 0, 0] e σ1 (fun t => ev prog (d + 5) 175 0 t (msk (pMask prog 175 t) [vr 87, vi x1, vi x2, vi x3]) [vj] σ1)) else some (.inl (some (vi x2)), (shp, M)) := by
  rw [b175_1]
  try simp +decide only [b175_0, b175_2, b175_15, b175_3, b175_4, b175_13, b175_5, b175_14, b175_6, b175_7, b175_12, b175_8, b175_9, b175_10, b175_11, callK_r, callK_x, psh_s, psh_n, hk_0, hk_1, hk_2, hk_3, hk_4, callK_ite, bit_bi, bit_0, bit_1, eq_self, reduceIte, Int.reduceEq, Int.reduceLT, Int.reduceNeg, Nat.reduceEqDiff, ne_eq, not_false_eq_true, pu_k, mset_k, mset_j, mset_at, va_pu, va_mset, Int.reduceToNat, Int.reduceLE, and_self, true_and, and_true]
  all_goals (try rfl)
  all_goals (repeat' split)
  all_goals first | rfl | simp_all
theorem g175_4 (d : Nat) (x1 : Int) (x3 : Int) (s0 : Int) (s1 : Int) (M : mM) : ev prog (d + 5) 175 0 4 [vr 87, vi x1, vj, vi x3] [vi s1, vi s0] (shp, M) = if s1 = 0 then ev prog (d + 5) 175 0 1 [vr 87, vi x1, vi (wr (s0 + 0)), vi (wr (x3 + 1))] [] (shp, M) else callK (run prog (d + 4) 162 [vr 87, vi x3] (shp, M)) (fun v σ1 => ev prog (d + 5) 175 0 6 [vr 87, vi x1, vj, vi x3] (psh v [vi s0]) σ1) (fun e σ1 => hk [0, 0, 0, 0, 0] e σ1 (fun t => ev prog (d + 5) 175 0 t (msk (pMask prog 175 t) [vr 87, vi x1, vj, vi x3]) [vj] σ1)) := by
  rw [b175_4]
  try simp +decide only [b175_0, b175_2, b175_15, b175_3, b175_13, b175_5, b175_14, b175_6, b175_7, b175_12, b175_8, b175_9, b175_10, b175_11, callK_r, callK_x, psh_s, psh_n, hk_0, hk_1, hk_2, hk_3, hk_4, callK_ite, bit_bi, bit_0, bit_1, eq_self, reduceIte, Int.reduceEq, Int.reduceLT, Int.reduceNeg, Nat.reduceEqDiff, ne_eq, not_false_eq_true, pu_k, mset_k, mset_j, mset_at, va_pu, va_mset, Int.reduceToNat, Int.reduceLE, and_self, true_and, and_true]
  all_goals (try rfl)
  all_goals (repeat' split)
  all_goals first | rfl | simp_all
