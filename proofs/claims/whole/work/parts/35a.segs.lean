/-! FROM CUT TO CUT, 0 -/
theorem g23_0 (d : Nat) (x1 : Int) (M : mM) : ev prog (d + 4) 23 0 0 [vr 12, vi x1, vj, vj, vj] [] (shp, M) = ev prog (d + 4) 23 0 1 [vr 12, vi x1, vi (-1), vi (M 12 11), vi 0] [] (shp, M) := by
  rw [b23_0]
  try simp +decide only [b23_9, b23_2, b23_10, b23_3, b23_4, b23_6, b23_5, b23_7, b23_8, callK_r, callK_x, psh_s, psh_n, hk_0, hk_1, hk_2, hk_3, hk_4, callK_ite, bit_bi, bit_0, bit_1, eq_self, reduceIte, Int.reduceEq, Int.reduceLT, Int.reduceNeg, Nat.reduceEqDiff, ne_eq, not_false_eq_true, pu_k, mset_k, mset_j, mset_at, va_pu, va_mset, Int.reduceToNat, Int.reduceLE, and_self, true_and, and_true]
  all_goals (try rfl)
  all_goals (repeat' split)
  all_goals first | rfl | simp_all
theorem g23_1 (d : Nat) (x1 : Int) (x2 : Int) (x3 : Int) (x4 : Int) (M : mM) : ev prog (d + 4) 23 0 1 [vr 12, vi x1, vi x2, vi x3, vi x4] [] (shp, M) = if x4 < 200 then (if x3 = (-1) then callK (run prog (d + 3) 22 [vr 12, vi x2, vi x1] (shp, M)) (fun v σ1 => ev prog (d + 4) 23 0 10 [vj, vj, vj, vj, vj] (psh v []) σ1) (fun e σ1 => hk [0, 0, 0, 0, 0] e σ1 (fun t => ev prog (d + 4) 23 0 t (msk (pMask prog 23 t) [vr 12, vi x1, vi x2, vj, vj]) [vj] σ1)) else (if (bi (p21 x1 x3 (Int.tmod x4 3) M)) = 0 then ev prog (d + 4) 23 0 1 [vr 12, vi x1, vi (wr ((wr (2 * x3)) + 1)), vi (va M 13 400 (wr ((wr (2 * x3)) + 1))), vi (wr (x4 + 1))] [] (shp, M) else ev prog (d + 4) 23 0 1 [vr 12, vi x1, vi (wr ((wr (2 * x3)) + 0)), vi (va M 13 400 (wr ((wr (2 * x3)) + 0))), vi (wr (x4 + 1))] [] (shp, M))) else callK (run prog (d + 3) 22 [vr 12, vi x2, vi x1] (shp, M)) (fun v σ1 => ev prog (d + 4) 23 0 10 [vj, vj, vj, vj, vj] (psh v []) σ1) (fun e σ1 => hk [0, 0, 0, 0, 0] e σ1 (fun t => ev prog (d + 4) 23 0 t (msk (pMask prog 23 t) [vr 12, vi x1, vi x2, vj, vj]) [vj] σ1)) := by
  rw [b23_1]
  try simp +decide only [b23_0, b23_9, b23_2, b23_10, b23_3, b23_4, b23_6, b23_5, b23_7, b23_8, s21, va_13, callK_r, callK_x, psh_s, psh_n, hk_0, hk_1, hk_2, hk_3, hk_4, callK_ite, bit_bi, bit_0, bit_1, eq_self, reduceIte, Int.reduceEq, Int.reduceLT, Int.reduceNeg, Nat.reduceEqDiff, ne_eq, not_false_eq_true, pu_k, mset_k, mset_j, mset_at, va_pu, va_mset, Int.reduceToNat, Int.reduceLE, and_self, true_and, and_true]
  all_goals (try rfl)
  all_goals (repeat' split)
  all_goals first | rfl | simp_all
theorem g23_10 (d : Nat) (M : mM) : ev prog (d + 4) 23 0 10 [vj, vj, vj, vj, vj] [] (shp, M) = some (.inl none, (shp, M)) := by
  rw [b23_10]
  try simp +decide only [b23_0, b23_9, b23_2, b23_3, b23_4, b23_6, b23_5, b23_7, b23_8, callK_r, callK_x, psh_s, psh_n, hk_0, hk_1, hk_2, hk_3, hk_4, callK_ite, bit_bi, bit_0, bit_1, eq_self, reduceIte, Int.reduceEq, Int.reduceLT, Int.reduceNeg, Nat.reduceEqDiff, ne_eq, not_false_eq_true, pu_k, mset_k, mset_j, mset_at, va_pu, va_mset, Int.reduceToNat, Int.reduceLE, and_self, true_and, and_true]
  all_goals (try rfl)
  all_goals (repeat' split)
  all_goals first | rfl | simp_all
theorem g29_0 (d : Nat) (M : mM) : ev prog (d + 4) 29 0 0 [vr 12, vj, vj] [] (shp, M) = callK (run prog (d + 3) 26 [vr 12, vi (M 12 11), vi (-1)] (shp, mset (mset (mfill M 15 200 (-1)) 21 1 0) 23 1 0)) (fun v σ1 => ev prog (d + 4) 29 0 4 [vr 12, vj, vj] (psh v []) σ1) (fun e σ1 => hk [0, 0, 0, 0, 0] e σ1 (fun t => ev prog (d + 4) 29 0 t (msk (pMask prog 29 t) [vr 12, vj, vj]) [vj] σ1)) := by
  rw [b29_0]
  try simp +decide only [b29_1, b29_2, b29_3, b29_4, b29_15, b29_6, b29_7, b29_8, b29_9, b29_10, b29_11, b29_12, b29_13, b29_14, s24e, s24f, o24e, o24f, fl_15, callK_r, callK_x, psh_s, psh_n, hk_0, hk_1, hk_2, hk_3, hk_4, callK_ite, bit_bi, bit_0, bit_1, eq_self, reduceIte, Int.reduceEq, Int.reduceLT, Int.reduceNeg, Nat.reduceEqDiff, ne_eq, not_false_eq_true, pu_k, mset_k, mset_j, mset_at, va_pu, va_mset, Int.reduceToNat, Int.reduceLE, and_self, true_and, and_true]
  all_goals (try rfl)
  all_goals (repeat' split)
  all_goals first | rfl | simp_all
theorem g29_4 (d : Nat) (M : mM) : ev prog (d + 4) 29 0 4 [vr 12, vj, vj] [] (shp, M) = ev prog (d + 4) 29 0 5 [vr 12, vi 0, vj] [] (shp, M) := by
  rw [b29_4]
  try simp +decide only [b29_0, b29_1, b29_2, b29_3, b29_15, b29_6, b29_7, b29_8, b29_9, b29_10, b29_11, b29_12, b29_13, b29_14, callK_r, callK_x, psh_s, psh_n, hk_0, hk_1, hk_2, hk_3, hk_4, callK_ite, bit_bi, bit_0, bit_1, eq_self, reduceIte, Int.reduceEq, Int.reduceLT, Int.reduceNeg, Nat.reduceEqDiff, ne_eq, not_false_eq_true, pu_k, mset_k, mset_j, mset_at, va_pu, va_mset, Int.reduceToNat, Int.reduceLE, and_self, true_and, and_true]
  all_goals (try rfl)
  all_goals (repeat' split)
  all_goals first | rfl | simp_all
theorem g29_5 (d : Nat) (x1 : Int) (M : mM) : ev prog (d + 4) 29 0 5 [vr 12, vi x1, vj] [] (shp, M) = if x1 < 200 then (if 0 < (M 23 1) then callK (run prog (d + 3) 27 [vr 23] (shp, M)) (fun v σ1 => ev prog (d + 4) 29 0 8 [vr 12, vi x1, vj] (psh v []) σ1) (fun e σ1 => hk [0, 0, 0, 0, 0] e σ1 (fun t => ev prog (d + 4) 29 0 t (msk (pMask prog 29 t) [vr 12, vi x1, vj]) [vj] σ1)) else some (.inl none, (shp, M))) else some (.inl none, (shp, M)) := by
  rw [b29_5]
  try simp +decide only [b29_0, b29_1, b29_2, b29_3, b29_4, b29_15, b29_6, b29_7, b29_8, b29_9, b29_10, b29_11, b29_12, b29_13, b29_14, callK_r, callK_x, psh_s, psh_n, hk_0, hk_1, hk_2, hk_3, hk_4, callK_ite, bit_bi, bit_0, bit_1, eq_self, reduceIte, Int.reduceEq, Int.reduceLT, Int.reduceNeg, Nat.reduceEqDiff, ne_eq, not_false_eq_true, pu_k, mset_k, mset_j, mset_at, va_pu, va_mset, Int.reduceToNat, Int.reduceLE, and_self, true_and, and_true]
  all_goals (try rfl)
  all_goals (repeat' split)
  all_goals first | rfl | simp_all
theorem g29_8 (d : Nat) (x1 : Int) (s0 : Int) (M : mM) : ev prog (d + 4) 29 0 8 [vr 12, vi x1, vj] [vi s0] (shp, M) = callK (run prog (d + 3) 25 [vr 21, vi s0] (shp, pu M 20 200 s0 (M 21 1))) (fun v σ1 => ev prog (d + 4) 29 0 10 [vr 12, vi x1, vi s0] (psh v []) σ1) (fun e σ1 => hk [0, 0, 0, 0, 0] e σ1 (fun t => ev prog (d + 4) 29 0 t (msk (pMask prog 29 t) [vr 12, vi x1, vi s0]) [vj] σ1)) := by
  rw [b29_8]
  try simp +decide only [b29_0, b29_1, b29_2, b29_3, b29_4, b29_15, b29_6, b29_7, b29_9, b29_10, b29_11, b29_12, b29_13, b29_14, pu_20, callK_r, callK_x, psh_s, psh_n, hk_0, hk_1, hk_2, hk_3, hk_4, callK_ite, bit_bi, bit_0, bit_1, eq_self, reduceIte, Int.reduceEq, Int.reduceLT, Int.reduceNeg, Nat.reduceEqDiff, ne_eq, not_false_eq_true, pu_k, mset_k, mset_j, mset_at, va_pu, va_mset, Int.reduceToNat, Int.reduceLE, and_self, true_and, and_true]
  all_goals (try rfl)
  all_goals (repeat' split)
  all_goals first | rfl | simp_all
theorem g29_10 (d : Nat) (x1 : Int) (x2 : Int) (M : mM) : ev prog (d + 4) 29 0 10 [vr 12, vi x1, vi x2] [] (shp, M) = callK (run prog (d + 3) 26 [vr 12, vi (r28 x2 1 M), vi x2] (shp, M)) (fun v σ1 => ev prog (d + 4) 29 0 12 [vr 12, vi x1, vi x2] (psh v []) σ1) (fun e σ1 => hk [0, 0, 0, 0, 0] e σ1 (fun t => ev prog (d + 4) 29 0 t (msk (pMask prog 29 t) [vr 12, vi x1, vi x2]) [vj] σ1)) := by
  rw [b29_10]
  try simp +decide only [b29_0, b29_1, b29_2, b29_3, b29_4, b29_15, b29_6, b29_7, b29_8, b29_9, b29_11, b29_12, b29_13, b29_14, s28, callK_r, callK_x, psh_s, psh_n, hk_0, hk_1, hk_2, hk_3, hk_4, callK_ite, bit_bi, bit_0, bit_1, eq_self, reduceIte, Int.reduceEq, Int.reduceLT, Int.reduceNeg, Nat.reduceEqDiff, ne_eq, not_false_eq_true, pu_k, mset_k, mset_j, mset_at, va_pu, va_mset, Int.reduceToNat, Int.reduceLE, and_self, true_and, and_true]
  all_goals (try rfl)
  all_goals (repeat' split)
  all_goals first | rfl | simp_all
theorem g29_12 (d : Nat) (x1 : Int) (x2 : Int) (M : mM) : ev prog (d + 4) 29 0 12 [vr 12, vi x1, vi x2] [] (shp, M) = callK (run prog (d + 3) 26 [vr 12, vi (r28 x2 0 M), vi x2] (shp, M)) (fun v σ1 => ev prog (d + 4) 29 0 14 [vr 12, vi x1, vj] (psh v []) σ1) (fun e σ1 => hk [0, 0, 0, 0, 0] e σ1 (fun t => ev prog (d + 4) 29 0 t (msk (pMask prog 29 t) [vr 12, vi x1, vi x2]) [vj] σ1)) := by
  rw [b29_12]
  try simp +decide only [b29_0, b29_1, b29_2, b29_3, b29_4, b29_15, b29_6, b29_7, b29_8, b29_9, b29_10, b29_11, b29_13, b29_14, s28, callK_r, callK_x, psh_s, psh_n, hk_0, hk_1, hk_2, hk_3, hk_4, callK_ite, bit_bi, bit_0, bit_1, eq_self, reduceIte, Int.reduceEq, Int.reduceLT, Int.reduceNeg, Nat.reduceEqDiff, ne_eq, not_false_eq_true, pu_k, mset_k, mset_j, mset_at, va_pu, va_mset, Int.reduceToNat, Int.reduceLE, and_self, true_and, and_true]
  all_goals (try rfl)
  all_goals (repeat' split)
  all_goals first | rfl | simp_all
theorem g29_14 (d : Nat) (x1 : Int) (M : mM) : ev prog (d + 4) 29 0 14 [vr 12, vi x1, vj] [] (shp, M) = ev prog (d + 4) 29 0 5 [vr 12, vi (wr (x1 + 1)), vj] [] (shp, M) := by
  rw [b29_14]
  try simp +decide only [b29_0, b29_1, b29_2, b29_3, b29_4, b29_15, b29_6, b29_7, b29_8, b29_9, b29_10, b29_11, b29_12, b29_13, callK_r, callK_x, psh_s, psh_n, hk_0, hk_1, hk_2, hk_3, hk_4, callK_ite, bit_bi, bit_0, bit_1, eq_self, reduceIte, Int.reduceEq, Int.reduceLT, Int.reduceNeg, Nat.reduceEqDiff, ne_eq, not_false_eq_true, pu_k, mset_k, mset_j, mset_at, va_pu, va_mset, Int.reduceToNat, Int.reduceLE, and_self, true_and, and_true]
  all_goals (try rfl)
  all_goals (repeat' split)
  all_goals first | rfl | simp_all
theorem g29a_0 (d : Nat) (M : mM) : ev prog (d + 4) 29 0 0 [vr 45, vj, vj] [] (shp, M) = callK (run prog (d + 3) 26 [vr 45, vi (M 45 11), vi (-1)] (shp, mset (mset (mfill M 48 200 (-1)) 54 1 0) 56 1 0)) (fun v σ1 => ev prog (d + 4) 29 0 4 [vr 45, vj, vj] (psh v []) σ1) (fun e σ1 => hk [0, 0, 0, 0, 0] e σ1 (fun t => ev prog (d + 4) 29 0 t (msk (pMask prog 29 t) [vr 45, vj, vj]) [vj] σ1)) := by
  rw [b29a_0]
  try simp +decide only [b29a_1, b29a_2, b29a_3, b29a_4, b29a_15, b29a_6, b29a_7, b29a_8, b29a_9, b29a_10, b29a_11, b29a_12, b29a_13, b29a_14, s24g, s24h, o24g, o24h, fl_48, callK_r, callK_x, psh_s, psh_n, hk_0, hk_1, hk_2, hk_3, hk_4, callK_ite, bit_bi, bit_0, bit_1, eq_self, reduceIte, Int.reduceEq, Int.reduceLT, Int.reduceNeg, Nat.reduceEqDiff, ne_eq, not_false_eq_true, pu_k, mset_k, mset_j, mset_at, va_pu, va_mset, Int.reduceToNat, Int.reduceLE, and_self, true_and, and_true]
  all_goals (try rfl)
  all_goals (repeat' split)
  all_goals first | rfl | simp_all
theorem g29a_4 (d : Nat) (M : mM) : ev prog (d + 4) 29 0 4 [vr 45, vj, vj] [] (shp, M) = ev prog (d + 4) 29 0 5 [vr 45, vi 0, vj] [] (shp, M) := by
  rw [b29a_4]
  try simp +decide only [b29a_0, b29a_1, b29a_2, b29a_3, b29a_15, b29a_6, b29a_7, b29a_8, b29a_9, b29a_10, b29a_11, b29a_12, b29a_13, b29a_14, callK_r, callK_x, psh_s, psh_n, hk_0, hk_1, hk_2, hk_3, hk_4, callK_ite, bit_bi, bit_0, bit_1, eq_self, reduceIte, Int.reduceEq, Int.reduceLT, Int.reduceNeg, Nat.reduceEqDiff, ne_eq, not_false_eq_true, pu_k, mset_k, mset_j, mset_at, va_pu, va_mset, Int.reduceToNat, Int.reduceLE, and_self, true_and, and_true]
  all_goals (try rfl)
  all_goals (repeat' split)
  all_goals first | rfl | simp_all
theorem g29a_5 (d : Nat) (x1 : Int) (M : mM) : ev prog (d + 4) 29 0 5 [vr 45, vi x1, vj] [] (shp, M) = if x1 < 200 then (if 0 < (M 56 1) then callK (run prog (d + 3) 27 [vr 56] (shp, M)) (fun v σ1 => ev prog (d + 4) 29 0 8 [vr 45, vi x1, vj] (psh v []) σ1) (fun e σ1 => hk [0, 0, 0, 0, 0] e σ1 (fun t => ev prog (d + 4) 29 0 t (msk (pMask prog 29 t) [vr 45, vi x1, vj]) [vj] σ1)) else some (.inl none, (shp, M))) else some (.inl none, (shp, M)) := by
  rw [b29a_5]
  try simp +decide only [b29a_0, b29a_1, b29a_2, b29a_3, b29a_4, b29a_15, b29a_6, b29a_7, b29a_8, b29a_9, b29a_10, b29a_11, b29a_12, b29a_13, b29a_14, callK_r, callK_x, psh_s, psh_n, hk_0, hk_1, hk_2, hk_3, hk_4, callK_ite, bit_bi, bit_0, bit_1, eq_self, reduceIte, Int.reduceEq, Int.reduceLT, Int.reduceNeg, Nat.reduceEqDiff, ne_eq, not_false_eq_true, pu_k, mset_k, mset_j, mset_at, va_pu, va_mset, Int.reduceToNat, Int.reduceLE, and_self, true_and, and_true]
  all_goals (try rfl)
  all_goals (repeat' split)
  all_goals first | rfl | simp_all
theorem g29a_8 (d : Nat) (x1 : Int) (s0 : Int) (M : mM) : ev prog (d + 4) 29 0 8 [vr 45, vi x1, vj] [vi s0] (shp, M) = callK (run prog (d + 3) 25 [vr 54, vi s0] (shp, pu M 53 200 s0 (M 54 1))) (fun v σ1 => ev prog (d + 4) 29 0 10 [vr 45, vi x1, vi s0] (psh v []) σ1) (fun e σ1 => hk [0, 0, 0, 0, 0] e σ1 (fun t => ev prog (d + 4) 29 0 t (msk (pMask prog 29 t) [vr 45, vi x1, vi s0]) [vj] σ1)) := by
  rw [b29a_8]
  try simp +decide only [b29a_0, b29a_1, b29a_2, b29a_3, b29a_4, b29a_15, b29a_6, b29a_7, b29a_9, b29a_10, b29a_11, b29a_12, b29a_13, b29a_14, pu_53, callK_r, callK_x, psh_s, psh_n, hk_0, hk_1, hk_2, hk_3, hk_4, callK_ite, bit_bi, bit_0, bit_1, eq_self, reduceIte, Int.reduceEq, Int.reduceLT, Int.reduceNeg, Nat.reduceEqDiff, ne_eq, not_false_eq_true, pu_k, mset_k, mset_j, mset_at, va_pu, va_mset, Int.reduceToNat, Int.reduceLE, and_self, true_and, and_true]
  all_goals (try rfl)
  all_goals (repeat' split)
  all_goals first | rfl | simp_all
theorem g29a_10 (d : Nat) (x1 : Int) (x2 : Int) (M : mM) : ev prog (d + 4) 29 0 10 [vr 45, vi x1, vi x2] [] (shp, M) = callK (run prog (d + 3) 26 [vr 45, vi (r28a x2 1 M), vi x2] (shp, M)) (fun v σ1 => ev prog (d + 4) 29 0 12 [vr 45, vi x1, vi x2] (psh v []) σ1) (fun e σ1 => hk [0, 0, 0, 0, 0] e σ1 (fun t => ev prog (d + 4) 29 0 t (msk (pMask prog 29 t) [vr 45, vi x1, vi x2]) [vj] σ1)) := by
  rw [b29a_10]
  try simp +decide only [b29a_0, b29a_1, b29a_2, b29a_3, b29a_4, b29a_15, b29a_6, b29a_7, b29a_8, b29a_9, b29a_11, b29a_12, b29a_13, b29a_14, s28a, callK_r, callK_x, psh_s, psh_n, hk_0, hk_1, hk_2, hk_3, hk_4, callK_ite, bit_bi, bit_0, bit_1, eq_self, reduceIte, Int.reduceEq, Int.reduceLT, Int.reduceNeg, Nat.reduceEqDiff, ne_eq, not_false_eq_true, pu_k, mset_k, mset_j, mset_at, va_pu, va_mset, Int.reduceToNat, Int.reduceLE, and_self, true_and, and_true]
  all_goals (try rfl)
  all_goals (repeat' split)
  all_goals first | rfl | simp_all
theorem g29a_12 (d : Nat) (x1 : Int) (x2 : Int) (M : mM) : ev prog (d + 4) 29 0 12 [vr 45, vi x1, vi x2] [] (shp, M) = callK (run prog (d + 3) 26 [vr 45, vi (r28a x2 0 M), vi x2] (shp, M)) (fun v σ1 => ev prog (d + 4) 29 0 14 [vr 45, vi x1, vj] (psh v []) σ1) (fun e σ1 => hk [0, 0, 0, 0, 0] e σ1 (fun t => ev prog (d + 4) 29 0 t (msk (pMask prog 29 t) [vr 45, vi x1, vi x2]) [vj] σ1)) := by
  rw [b29a_12]
  try simp +decide only [b29a_0, b29a_1, b29a_2, b29a_3, b29a_4, b29a_15, b29a_6, b29a_7, b29a_8, b29a_9, b29a_10, b29a_11, b29a_13, b29a_14, s28a, callK_r, callK_x, psh_s, psh_n, hk_0, hk_1, hk_2, hk_3, hk_4, callK_ite, bit_bi, bit_0, bit_1, eq_self, reduceIte, Int.reduceEq, Int.reduceLT, Int.reduceNeg, Nat.reduceEqDiff, ne_eq, not_false_eq_true, pu_k, mset_k, mset_j, mset_at, va_pu, va_mset, Int.reduceToNat, Int.reduceLE, and_self, true_and, and_true]
  all_goals (try rfl)
  all_goals (repeat' split)
  all_goals first | rfl | simp_all
theorem g29a_14 (d : Nat) (x1 : Int) (M : mM) : ev prog (d + 4) 29 0 14 [vr 45, vi x1, vj] [] (shp, M) = ev prog (d + 4) 29 0 5 [vr 45, vi (wr (x1 + 1)), vj] [] (shp, M) := by
  rw [b29a_14]
  try simp +decide only [b29a_0, b29a_1, b29a_2, b29a_3, b29a_4, b29a_15, b29a_6, b29a_7, b29a_8, b29a_9, b29a_10, b29a_11, b29a_12, b29a_13, callK_r, callK_x, psh_s, psh_n, hk_0, hk_1, hk_2, hk_3, hk_4, callK_ite, bit_bi, bit_0, bit_1, eq_self, reduceIte, Int.reduceEq, Int.reduceLT, Int.reduceNeg, Nat.reduceEqDiff, ne_eq, not_false_eq_true, pu_k, mset_k, mset_j, mset_at, va_pu, va_mset, Int.reduceToNat, Int.reduceLE, and_self, true_and, and_true]
  all_goals (try rfl)
  all_goals (repeat' split)
  all_goals first | rfl | simp_all
theorem g37_0 (d : Nat) (x1 : Int) (M : mM) : ev prog (d + 3) 37 0 0 [vr 12, vi x1, vj, vj, vj, vj, vj, vj, vj] [] (shp, M) = if (bi (p32 x1 M)) = 0 then ev prog (d + 3) 37 0 13 [vr 12, vi x1, vi (r28 x1 0 M), vi (r28 x1 1 M), vi (bi (p32 x1 M)), vi 0, vj, vj, vj] [] (shp, pu (pu M 16 200 x1 (wr ((wr (1 + (r33 (r28 x1 0 M) M))) + (r33 (r28 x1 1 M) M)))) 17 200 x1 (wr ((wr (0 + (r34 (r28 x1 0 M) (pu M 16 200 x1 (wr ((wr (1 + (r33 (r28 x1 0 M) M))) + (r33 (r28 x1 1 M) M))))))) + (r34 (r28 x1 1 M) (pu M 16 200 x1 (wr ((wr (1 + (r33 (r28 x1 0 M) M))) + (r33 (r28 x1 1 M) M)))))))) else ev prog (d + 3) 37 0 13 [vr 12, vi x1, vi (r28 x1 0 M), vi (r28 x1 1 M), vi (bi (p32 x1 M)), vi 0, vj, vj, vj] [] (shp, pu (pu M 16 200 x1 (wr ((wr (1 + (r33 (r28 x1 0 M) M))) + (r33 (r28 x1 1 M) M)))) 17 200 x1 (wr ((wr (1 + (r34 (r28 x1 0 M) (pu M 16 200 x1 (wr ((wr (1 + (r33 (r28 x1 0 M) M))) + (r33 (r28 x1 1 M) M))))))) + (r34 (r28 x1 1 M) (pu M 16 200 x1 (wr ((wr (1 + (r33 (r28 x1 0 M) M))) + (r33 (r28 x1 1 M) M)))))))) := by
  rw [b37_0]
  try simp +decide only [b37_1, b37_2, b37_3, b37_4, b37_5, b37_6, b37_8, b37_7, b37_9, b37_10, b37_11, b37_12, b37_28, b37_14, b37_15, b37_16, b37_17, b37_18, b37_19, b37_21, b37_20, b37_22, b37_23, b37_25, b37_24, b37_26, b37_27, s32, s28, s34, s33, pu_16, pu_17, callK_r, callK_x, psh_s, psh_n, hk_0, hk_1, hk_2, hk_3, hk_4, callK_ite, bit_bi, bit_0, bit_1, eq_self, reduceIte, Int.reduceEq, Int.reduceLT, Int.reduceNeg, Nat.reduceEqDiff, ne_eq, not_false_eq_true, pu_k, mset_k, mset_j, mset_at, va_pu, va_mset, Int.reduceToNat, Int.reduceLE, and_self, true_and, and_true]
  all_goals (try rfl)
  all_goals (repeat' split)
  all_goals first | rfl | simp_all
theorem g37_13 (d : Nat) (x1 : Int) (x2 : Int) (x3 : Int) (x4 : Int) (x5 : Int) (M : mM) : ev prog (d + 3) 37 0 13 [vr 12, vi x1, vi x2, vi x3, vi x4, vi x5, vj, vj, vj] [] (shp, M) = if x5 < 3 then (if x4 = 0 then (if x4 = 0 then ev prog (d + 3) 37 0 13 [vr 12, vi x1, vi x2, vi x3, vi x4, vi (wr (x5 + 1)), vj, vj, vj] [] (shp, pu (pu M 18 600 (wr ((wr (3 * x1)) + x5)) (if (r35 x3 x5 M) < (r35 x2 x5 M) then (r35 x3 x5 M) else (r35 x2 x5 M))) 19 600 (wr ((wr (3 * x1)) + x5)) (if (r36 x2 x5 M) < (r36 x3 x5 M) then (r36 x3 x5 M) else (r36 x2 x5 M))) else ev prog (d + 3) 37 0 13 [vr 12, vi x1, vi x2, vi x3, vi x4, vi (wr (x5 + 1)), vj, vj, vj] [] (shp, pu (pu M 18 600 (wr ((wr (3 * x1)) + x5)) (if (r35 x3 x5 M) < (r35 x2 x5 M) then (r35 x3 x5 M) else (r35 x2 x5 M))) 19 600 (wr ((wr (3 * x1)) + x5)) (if (if (r36 x2 x5 M) < (r36 x3 x5 M) then (r36 x3 x5 M) else (r36 x2 x5 M)) < (r20 x1 x5 M) then (r20 x1 x5 M) else (if (r36 x2 x5 M) < (r36 x3 x5 M) then (r36 x3 x5 M) else (r36 x2 x5 M))))) else (if x4 = 0 then ev prog (d + 3) 37 0 13 [vr 12, vi x1, vi x2, vi x3, vi x4, vi (wr (x5 + 1)), vj, vj, vj] [] (shp, pu (pu M 18 600 (wr ((wr (3 * x1)) + x5)) (if (r20 x1 x5 M) < (if (r35 x3 x5 M) < (r35 x2 x5 M) then (r35 x3 x5 M) else (r35 x2 x5 M)) then (r20 x1 x5 M) else (if (r35 x3 x5 M) < (r35 x2 x5 M) then (r35 x3 x5 M) else (r35 x2 x5 M)))) 19 600 (wr ((wr (3 * x1)) + x5)) (if (r36 x2 x5 M) < (r36 x3 x5 M) then (r36 x3 x5 M) else (r36 x2 x5 M))) else ev prog (d + 3) 37 0 13 [vr 12, vi x1, vi x2, vi x3, vi x4, vi (wr (x5 + 1)), vj, vj, vj] [] (shp, pu (pu M 18 600 (wr ((wr (3 * x1)) + x5)) (if (r20 x1 x5 M) < (if (r35 x3 x5 M) < (r35 x2 x5 M) then (r35 x3 x5 M) else (r35 x2 x5 M)) then (r20 x1 x5 M) else (if (r35 x3 x5 M) < (r35 x2 x5 M) then (r35 x3 x5 M) else (r35 x2 x5 M)))) 19 600 (wr ((wr (3 * x1)) + x5)) (if (if (r36 x2 x5 M) < (r36 x3 x5 M) then (r36 x3 x5 M) else (r36 x2 x5 M)) < (r20 x1 x5 M) then (r20 x1 x5 M) else (if (r36 x2 x5 M) < (r36 x3 x5 M) then (r36 x3 x5 M) else (r36 x2 x5 M)))))) else some (.inl none, (shp, M)) := by
  rw [b37_13]
  try simp +decide only [b37_0, b37_1, b37_2, b37_3, b37_4, b37_5, b37_6, b37_8, b37_7, b37_9, b37_10, b37_11, b37_12, b37_28, b37_14, b37_15, b37_16, b37_17, b37_18, b37_19, b37_21, b37_20, b37_22, b37_23, b37_25, b37_24, b37_26, b37_27, s20, s36, s35, pu_18, pu_19, callK_r, callK_x, psh_s, psh_n, hk_0, hk_1, hk_2, hk_3, hk_4, callK_ite, bit_bi, bit_0, bit_1, eq_self, reduceIte, Int.reduceEq, Int.reduceLT, Int.reduceNeg, Nat.reduceEqDiff, ne_eq, not_false_eq_true, pu_k, mset_k, mset_j, mset_at, va_pu, va_mset, Int.reduceToNat, Int.reduceLE, and_self, true_and, and_true]
  all_goals (try rfl)
  all_goals (repeat' split)
  all_goals first | rfl | simp_all
theorem g37a_0 (d : Nat) (x1 : Int) (M : mM) : ev prog (d + 3) 37 0 0 [vr 45, vi x1, vj, vj, vj, vj, vj, vj, vj] [] (shp, M) = if (bi (p32a x1 M)) = 0 then ev prog (d + 3) 37 0 13 [vr 45, vi x1, vi (r28a x1 0 M), vi (r28a x1 1 M), vi (bi (p32a x1 M)), vi 0, vj, vj, vj] [] (shp, pu (pu M 49 200 x1 (wr ((wr (1 + (r33a (r28a x1 0 M) M))) + (r33a (r28a x1 1 M) M)))) 50 200 x1 (wr ((wr (0 + (r34a (r28a x1 0 M) (pu M 49 200 x1 (wr ((wr (1 + (r33a (r28a x1 0 M) M))) + (r33a (r28a x1 1 M) M))))))) + (r34a (r28a x1 1 M) (pu M 49 200 x1 (wr ((wr (1 + (r33a (r28a x1 0 M) M))) + (r33a (r28a x1 1 M) M)))))))) else ev prog (d + 3) 37 0 13 [vr 45, vi x1, vi (r28a x1 0 M), vi (r28a x1 1 M), vi (bi (p32a x1 M)), vi 0, vj, vj, vj] [] (shp, pu (pu M 49 200 x1 (wr ((wr (1 + (r33a (r28a x1 0 M) M))) + (r33a (r28a x1 1 M) M)))) 50 200 x1 (wr ((wr (1 + (r34a (r28a x1 0 M) (pu M 49 200 x1 (wr ((wr (1 + (r33a (r28a x1 0 M) M))) + (r33a (r28a x1 1 M) M))))))) + (r34a (r28a x1 1 M) (pu M 49 200 x1 (wr ((wr (1 + (r33a (r28a x1 0 M) M))) + (r33a (r28a x1 1 M) M)))))))) := by
  rw [b37a_0]
  try simp +decide only [b37a_1, b37a_2, b37a_3, b37a_4, b37a_5, b37a_6, b37a_8, b37a_7, b37a_9, b37a_10, b37a_11, b37a_12, b37a_28, b37a_14, b37a_15, b37a_16, b37a_17, b37a_18, b37a_19, b37a_21, b37a_20, b37a_22, b37a_23, b37a_25, b37a_24, b37a_26, b37a_27, s32a, s28a, s34a, s33a, pu_49, pu_50, callK_r, callK_x, psh_s, psh_n, hk_0, hk_1, hk_2, hk_3, hk_4, callK_ite, bit_bi, bit_0, bit_1, eq_self, reduceIte, Int.reduceEq, Int.reduceLT, Int.reduceNeg, Nat.reduceEqDiff, ne_eq, not_false_eq_true, pu_k, mset_k, mset_j, mset_at, va_pu, va_mset, Int.reduceToNat, Int.reduceLE, and_self, true_and, and_true]
  all_goals (try rfl)
  all_goals (repeat' split)
  all_goals first | rfl | simp_all
theorem g37a_13 (d : Nat) (x1 : Int) (x2 : Int) (x3 : Int) (x4 : Int) (x5 : Int) (M : mM) : ev prog (d + 3) 37 0 13 [vr 45, vi x1, vi x2, vi x3, vi x4, vi x5, vj, vj, vj] [] (shp, M) = if x5 < 3 then (if x4 = 0 then (if x4 = 0 then ev prog (d + 3) 37 0 13 [vr 45, vi x1, vi x2, vi x3, vi x4, vi (wr (x5 + 1)), vj, vj, vj] [] (shp, pu (pu M 51 600 (wr ((wr (3 * x1)) + x5)) (if (r35a x3 x5 M) < (r35a x2 x5 M) then (r35a x3 x5 M) else (r35a x2 x5 M))) 52 600 (wr ((wr (3 * x1)) + x5)) (if (r36a x2 x5 M) < (r36a x3 x5 M) then (r36a x3 x5 M) else (r36a x2 x5 M))) else ev prog (d + 3) 37 0 13 [vr 45, vi x1, vi x2, vi x3, vi x4, vi (wr (x5 + 1)), vj, vj, vj] [] (shp, pu (pu M 51 600 (wr ((wr (3 * x1)) + x5)) (if (r35a x3 x5 M) < (r35a x2 x5 M) then (r35a x3 x5 M) else (r35a x2 x5 M))) 52 600 (wr ((wr (3 * x1)) + x5)) (if (if (r36a x2 x5 M) < (r36a x3 x5 M) then (r36a x3 x5 M) else (r36a x2 x5 M)) < (r20a x1 x5 M) then (r20a x1 x5 M) else (if (r36a x2 x5 M) < (r36a x3 x5 M) then (r36a x3 x5 M) else (r36a x2 x5 M))))) else (if x4 = 0 then ev prog (d + 3) 37 0 13 [vr 45, vi x1, vi x2, vi x3, vi x4, vi (wr (x5 + 1)), vj, vj, vj] [] (shp, pu (pu M 51 600 (wr ((wr (3 * x1)) + x5)) (if (r20a x1 x5 M) < (if (r35a x3 x5 M) < (r35a x2 x5 M) then (r35a x3 x5 M) else (r35a x2 x5 M)) then (r20a x1 x5 M) else (if (r35a x3 x5 M) < (r35a x2 x5 M) then (r35a x3 x5 M) else (r35a x2 x5 M)))) 52 600 (wr ((wr (3 * x1)) + x5)) (if (r36a x2 x5 M) < (r36a x3 x5 M) then (r36a x3 x5 M) else (r36a x2 x5 M))) else ev prog (d + 3) 37 0 13 [vr 45, vi x1, vi x2, vi x3, vi x4, vi (wr (x5 + 1)), vj, vj, vj] [] (shp, pu (pu M 51 600 (wr ((wr (3 * x1)) + x5)) (if (r20a x1 x5 M) < (if (r35a x3 x5 M) < (r35a x2 x5 M) then (r35a x3 x5 M) else (r35a x2 x5 M)) then (r20a x1 x5 M) else (if (r35a x3 x5 M) < (r35a x2 x5 M) then (r35a x3 x5 M) else (r35a x2 x5 M)))) 52 600 (wr ((wr (3 * x1)) + x5)) (if (if (r36a x2 x5 M) < (r36a x3 x5 M) then (r36a x3 x5 M) else (r36a x2 x5 M)) < (r20a x1 x5 M) then (r20a x1 x5 M) else (if (r36a x2 x5 M) < (r36a x3 x5 M) then (r36a x3 x5 M) else (r36a x2 x5 M)))))) else some (.inl none, (shp, M)) := by
  rw [b37a_13]
  try simp +decide only [b37a_0, b37a_1, b37a_2, b37a_3, b37a_4, b37a_5, b37a_6, b37a_8, b37a_7, b37a_9, b37a_10, b37a_11, b37a_12, b37a_28, b37a_14, b37a_15, b37a_16, b37a_17, b37a_18, b37a_19, b37a_21, b37a_20, b37a_22, b37a_23, b37a_25, b37a_24, b37a_26, b37a_27, s20a, s36a, s35a, pu_51, pu_52, callK_r, callK_x, psh_s, psh_n, hk_0, hk_1, hk_2, hk_3, hk_4, callK_ite, bit_bi, bit_0, bit_1, eq_self, reduceIte, Int.reduceEq, Int.reduceLT, Int.reduceNeg, Nat.reduceEqDiff, ne_eq, not_false_eq_true, pu_k, mset_k, mset_j, mset_at, va_pu, va_mset, Int.reduceToNat, Int.reduceLE, and_self, true_and, and_true]
  all_goals (try rfl)
  all_goals (repeat' split)
  all_goals first | rfl | simp_all
theorem g38_0 (d : Nat) (M : mM) : ev prog (d + 5) 38 0 0 [vr 12, vj] [] (shp, M) = callK (run prog (d + 4) 29 [vr 12] (shp, M)) (fun v σ1 => ev prog (d + 5) 38 0 1 [vr 12, vj] (psh v []) σ1) (fun e σ1 => hk [0, 0, 0, 0, 0] e σ1 (fun t => ev prog (d + 5) 38 0 t (msk (pMask prog 38 t) [vr 12, vj]) [vj] σ1)) := by
  rw [b38_0]
  try simp +decide only [b38_1, b38_6, b38_3, b38_4, b38_5, callK_r, callK_x, psh_s, psh_n, hk_0, hk_1, hk_2, hk_3, hk_4, callK_ite, bit_bi, bit_0, bit_1, eq_self, reduceIte, Int.reduceEq, Int.reduceLT, Int.reduceNeg, Nat.reduceEqDiff, ne_eq, not_false_eq_true, pu_k, mset_k, mset_j, mset_at, va_pu, va_mset, Int.reduceToNat, Int.reduceLE, and_self, true_and, and_true]
  all_goals (try rfl)
  all_goals (repeat' split)
  all_goals first | rfl | simp_all
theorem g38_1 (d : Nat) (M : mM) : ev prog (d + 5) 38 0 1 [vr 12, vj] [] (shp, M) = ev prog (d + 5) 38 0 2 [vr 12, vi (wr ((M 21 1) - 1))] [] (shp, M) := by
  rw [b38_1]
  try simp +decide only [b38_0, b38_6, b38_3, b38_4, b38_5, callK_r, callK_x, psh_s, psh_n, hk_0, hk_1, hk_2, hk_3, hk_4, callK_ite, bit_bi, bit_0, bit_1, eq_self, reduceIte, Int.reduceEq, Int.reduceLT, Int.reduceNeg, Nat.reduceEqDiff, ne_eq, not_false_eq_true, pu_k, mset_k, mset_j, mset_at, va_pu, va_mset, Int.reduceToNat, Int.reduceLE, and_self, true_and, and_true]
  all_goals (try rfl)
  all_goals (repeat' split)
  all_goals first | rfl | simp_all
theorem g38_2 (d : Nat) (x1 : Int) (M : mM) : ev prog (d + 5) 38 0 2 [vr 12, vi x1] [] (shp, M) = if x1 < 0 then some (.inl none, (shp, M)) else callK (run prog (d + 4) 37 [vr 12, vi (r30b x1 M)] (shp, M)) (fun v σ1 => ev prog (d + 5) 38 0 5 [vr 12, vi x1] (psh v []) σ1) (fun e σ1 => hk [0, 0, 0, 0, 0] e σ1 (fun t => ev prog (d + 5) 38 0 t (msk (pMask prog 38 t) [vr 12, vi x1]) [vj] σ1)) := by
  rw [b38_2]
  try simp +decide only [b38_0, b38_1, b38_6, b38_3, b38_4, b38_5, s30b, callK_r, callK_x, psh_s, psh_n, hk_0, hk_1, hk_2, hk_3, hk_4, callK_ite, bit_bi, bit_0, bit_1, eq_self, reduceIte, Int.reduceEq, Int.reduceLT, Int.reduceNeg, Nat.reduceEqDiff, ne_eq, not_false_eq_true, pu_k, mset_k, mset_j, mset_at, va_pu, va_mset, Int.reduceToNat, Int.reduceLE, and_self, true_and, and_true]
  all_goals (try rfl)
  all_goals (repeat' split)
  all_goals first | rfl | simp_all
theorem g38_5 (d : Nat) (x1 : Int) (M : mM) : ev prog (d + 5) 38 0 5 [vr 12, vi x1] [] (shp, M) = ev prog (d + 5) 38 0 2 [vr 12, vi (wr (x1 + (-1)))] [] (shp, M) := by
  rw [b38_5]
  try simp +decide only [b38_0, b38_1, b38_6, b38_3, b38_4, callK_r, callK_x, psh_s, psh_n, hk_0, hk_1, hk_2, hk_3, hk_4, callK_ite, bit_bi, bit_0, bit_1, eq_self, reduceIte, Int.reduceEq, Int.reduceLT, Int.reduceNeg, Nat.reduceEqDiff, ne_eq, not_false_eq_true, pu_k, mset_k, mset_j, mset_at, va_pu, va_mset, Int.reduceToNat, Int.reduceLE, and_self, true_and, and_true]
  all_goals (try rfl)
  all_goals (repeat' split)
  all_goals first | rfl | simp_all
theorem g38a_0 (d : Nat) (M : mM) : ev prog (d + 5) 38 0 0 [vr 45, vj] [] (shp, M) = callK (run prog (d + 4) 29 [vr 45] (shp, M)) (fun v σ1 => ev prog (d + 5) 38 0 1 [vr 45, vj] (psh v []) σ1) (fun e σ1 => hk [0, 0, 0, 0, 0] e σ1 (fun t => ev prog (d + 5) 38 0 t (msk (pMask prog 38 t) [vr 45, vj]) [vj] σ1)) := by
  rw [b38a_0]
  try simp +decide only [b38a_1, b38a_6, b38a_3, b38a_4, b38a_5, callK_r, callK_x, psh_s, psh_n, hk_0, hk_1, hk_2, hk_3, hk_4, callK_ite, bit_bi, bit_0, bit_1, eq_self, reduceIte, Int.reduceEq, Int.reduceLT, Int.reduceNeg, Nat.reduceEqDiff, ne_eq, not_false_eq_true, pu_k, mset_k, mset_j, mset_at, va_pu, va_mset, Int.reduceToNat, Int.reduceLE, and_self, true_and, and_true]
  all_goals (try rfl)
  all_goals (repeat' split)
  all_goals first | rfl | simp_all
theorem g38a_1 (d : Nat) (M : mM) : ev prog (d + 5) 38 0 1 [vr 45, vj] [] (shp, M) = ev prog (d + 5) 38 0 2 [vr 45, vi (wr ((M 54 1) - 1))] [] (shp, M) := by
  rw [b38a_1]
  try simp +decide only [b38a_0, b38a_6, b38a_3, b38a_4, b38a_5, callK_r, callK_x, psh_s, psh_n, hk_0, hk_1, hk_2, hk_3, hk_4, callK_ite, bit_bi, bit_0, bit_1, eq_self, reduceIte, Int.reduceEq, Int.reduceLT, Int.reduceNeg, Nat.reduceEqDiff, ne_eq, not_false_eq_true, pu_k, mset_k, mset_j, mset_at, va_pu, va_mset, Int.reduceToNat, Int.reduceLE, and_self, true_and, and_true]
  all_goals (try rfl)
  all_goals (repeat' split)
  all_goals first | rfl | simp_all
theorem g38a_2 (d : Nat) (x1 : Int) (M : mM) : ev prog (d + 5) 38 0 2 [vr 45, vi x1] [] (shp, M) = if x1 < 0 then some (.inl none, (shp, M)) else callK (run prog (d + 4) 37 [vr 45, vi (r30f x1 M)] (shp, M)) (fun v σ1 => ev prog (d + 5) 38 0 5 [vr 45, vi x1] (psh v []) σ1) (fun e σ1 => hk [0, 0, 0, 0, 0] e σ1 (fun t => ev prog (d + 5) 38 0 t (msk (pMask prog 38 t) [vr 45, vi x1]) [vj] σ1)) := by
  rw [b38a_2]
  try simp +decide only [b38a_0, b38a_1, b38a_6, b38a_3, b38a_4, b38a_5, s30f, callK_r, callK_x, psh_s, psh_n, hk_0, hk_1, hk_2, hk_3, hk_4, callK_ite, bit_bi, bit_0, bit_1, eq_self, reduceIte, Int.reduceEq, Int.reduceLT, Int.reduceNeg, Nat.reduceEqDiff, ne_eq, not_false_eq_true, pu_k, mset_k, mset_j, mset_at, va_pu, va_mset, Int.reduceToNat, Int.reduceLE, and_self, true_and, and_true]
  all_goals (try rfl)
  all_goals (repeat' split)
  all_goals first | rfl | simp_all
theorem g38a_5 (d : Nat) (x1 : Int) (M : mM) : ev prog (d + 5) 38 0 5 [vr 45, vi x1] [] (shp, M) = ev prog (d + 5) 38 0 2 [vr 45, vi (wr (x1 + (-1)))] [] (shp, M) := by
  rw [b38a_5]
  try simp +decide only [b38a_0, b38a_1, b38a_6, b38a_3, b38a_4, callK_r, callK_x, psh_s, psh_n, hk_0, hk_1, hk_2, hk_3, hk_4, callK_ite, bit_bi, bit_0, bit_1, eq_self, reduceIte, Int.reduceEq, Int.reduceLT, Int.reduceNeg, Nat.reduceEqDiff, ne_eq, not_false_eq_true, pu_k, mset_k, mset_j, mset_at, va_pu, va_mset, Int.reduceToNat, Int.reduceLE, and_self, true_and, and_true]
  all_goals (try rfl)
  all_goals (repeat' split)
  all_goals first | rfl | simp_all
theorem g41_0 (d : Nat) (x1 : Int) (M : mM) : ev prog (d + 4) 41 0 0 [vr 6, vi x1, vj, vj, vj] [] (shp, M) = ev prog (d + 4) 41 0 1 [vr 6, vj, vi (-1), vi x1, vi 0] [] (shp, M) := by
  rw [b41_0]
  try simp +decide only [b41_8, b41_2, b41_3, b41_4, b41_6, b41_5, b41_7, callK_r, callK_x, psh_s, psh_n, hk_0, hk_1, hk_2, hk_3, hk_4, callK_ite, bit_bi, bit_0, bit_1, eq_self, reduceIte, Int.reduceEq, Int.reduceLT, Int.reduceNeg, Nat.reduceEqDiff, ne_eq, not_false_eq_true, pu_k, mset_k, mset_j, mset_at, va_pu, va_mset, Int.reduceToNat, Int.reduceLE, and_self, true_and, and_true]
  all_goals (try rfl)
  all_goals (repeat' split)
  all_goals first | rfl | simp_all
theorem g41_1 (d : Nat) (x2 : Int) (x3 : Int) (x4 : Int) (M : mM) : ev prog (d + 4) 41 0 1 [vr 6, vj, vi x2, vi x3, vi x4] [] (shp, M) = if x4 < 200 then (if x3 = (-1) then some (.inl (some (vi x2)), (shp, M)) else (if (bi (p40 x3 M)) = 0 then ev prog (d + 4) 41 0 1 [vr 6, vj, vi x2, vi (va M 14 200 x3), vi (wr (x4 + 1))] [] (shp, M) else ev prog (d + 4) 41 0 1 [vr 6, vj, vi x3, vi (va M 14 200 x3), vi (wr (x4 + 1))] [] (shp, M))) else some (.inl (some (vi x2)), (shp, M)) := by
  rw [b41_1]
  try simp +decide only [b41_0, b41_8, b41_2, b41_3, b41_4, b41_6, b41_5, b41_7, s40, va_14, callK_r, callK_x, psh_s, psh_n, hk_0, hk_1, hk_2, hk_3, hk_4, callK_ite, bit_bi, bit_0, bit_1, eq_self, reduceIte, Int.reduceEq, Int.reduceLT, Int.reduceNeg, Nat.reduceEqDiff, ne_eq, not_false_eq_true, pu_k, mset_k, mset_j, mset_at, va_pu, va_mset, Int.reduceToNat, Int.reduceLE, and_self, true_and, and_true]
  all_goals (try rfl)
  all_goals (repeat' split)
  all_goals first | rfl | simp_all
theorem g42_0 (d : Nat) (x1 : Int) (M : mM) : ev prog (d + 3) 42 0 0 [vr 25, vi x1, vj, vj, vj, vj] [] (shp, M) = ev prog (d + 3) 42 0 4 [vr 25, vj, vj, vi (wr ((va M 20 200 x1) + (r33 x1 (mset M 27 1 0)))), vi (va M 20 200 x1), vj] [] (shp, mset M 27 1 0) := by
  rw [b42_0]
  try simp +decide only [b42_1, b42_2, b42_3, b42_10, b42_5, b42_6, b42_7, b42_9, b42_8, s24b, s33, o24b, va_20, callK_r, callK_x, psh_s, psh_n, hk_0, hk_1, hk_2, hk_3, hk_4, callK_ite, bit_bi, bit_0, bit_1, eq_self, reduceIte, Int.reduceEq, Int.reduceLT, Int.reduceNeg, Nat.reduceEqDiff, ne_eq, not_false_eq_true, pu_k, mset_k, mset_j, mset_at, va_pu, va_mset, Int.reduceToNat, Int.reduceLE, and_self, true_and, and_true]
  all_goals (try rfl)
  all_goals (repeat' split)
  all_goals first | rfl | simp_all
theorem g42_4 (d : Nat) (x3 : Int) (x4 : Int) (M : mM) : ev prog (d + 3) 42 0 4 [vr 25, vj, vj, vi x3, vi x4, vj] [] (shp, M) = if x4 < x3 then (if (bi (p32 (r30b x4 M) M)) = 0 then ev prog (d + 3) 42 0 4 [vr 25, vj, vj, vi x3, vi (wr (x4 + 1)), vj] [] (shp, M) else callK (run prog (d + 2) 25 [vr 27, vi (r30b x4 M)] (shp, M)) (fun v σ1 => ev prog (d + 3) 42 0 9 [vr 25, vj, vj, vi x3, vi x4, vj] (psh v []) σ1) (fun e σ1 => hk [0, 0, 0, 0, 0] e σ1 (fun t => ev prog (d + 3) 42 0 t (msk (pMask prog 42 t) [vr 25, vj, vj, vi x3, vi x4, vi (r30b x4 M)]) [vj] σ1))) else some (.inl none, (shp, M)) := by
  rw [b42_4]
  try simp +decide only [b42_0, b42_1, b42_2, b42_3, b42_10, b42_5, b42_6, b42_7, b42_9, b42_8, s30b, s32, callK_r, callK_x, psh_s, psh_n, hk_0, hk_1, hk_2, hk_3, hk_4, callK_ite, bit_bi, bit_0, bit_1, eq_self, reduceIte, Int.reduceEq, Int.reduceLT, Int.reduceNeg, Nat.reduceEqDiff, ne_eq, not_false_eq_true, pu_k, mset_k, mset_j, mset_at, va_pu, va_mset, Int.reduceToNat, Int.reduceLE, and_self, true_and, and_true]
  all_goals (try rfl)
  all_goals (repeat' split)
  all_goals first | rfl | simp_all
theorem g42_9 (d : Nat) (x3 : Int) (x4 : Int) (M : mM) : ev prog (d + 3) 42 0 9 [vr 25, vj, vj, vi x3, vi x4, vj] [] (shp, M) = ev prog (d + 3) 42 0 4 [vr 25, vj, vj, vi x3, vi (wr (x4 + 1)), vj] [] (shp, M) := by
  rw [b42_9]
  try simp +decide only [b42_0, b42_1, b42_2, b42_3, b42_10, b42_5, b42_6, b42_7, b42_8, callK_r, callK_x, psh_s, psh_n, hk_0, hk_1, hk_2, hk_3, hk_4, callK_ite, bit_bi, bit_0, bit_1, eq_self, reduceIte, Int.reduceEq, Int.reduceLT, Int.reduceNeg, Nat.reduceEqDiff, ne_eq, not_false_eq_true, pu_k, mset_k, mset_j, mset_at, va_pu, va_mset, Int.reduceToNat, Int.reduceLE, and_self, true_and, and_true]
  all_goals (try rfl)
  all_goals (repeat' split)
  all_goals first | rfl | simp_all
theorem g45_0 (d : Nat) (x1 : Int) (x2 : Int) (x3 : Int) (M : mM) : ev prog (d + 4) 45 0 0 [vr 25, vi x1, vi x2, vi x3, vj, vj, vj] [] (shp, M) = ev prog (d + 4) 45 0 1 [vr 25, vi x1, vi x2, vi x3, vi (wr (x1 + 1)), vj, vj] [] (shp, M) := by
  rw [b45_0]
  try simp +decide only [b45_13, b45_2, b45_3, b45_11, b45_5, b45_12, b45_6, b45_7, b45_8, b45_9, b45_10, callK_r, callK_x, psh_s, psh_n, hk_0, hk_1, hk_2, hk_3, hk_4, callK_ite, bit_bi, bit_0, bit_1, eq_self, reduceIte, Int.reduceEq, Int.reduceLT, Int.reduceNeg, Nat.reduceEqDiff, ne_eq, not_false_eq_true, pu_k, mset_k, mset_j, mset_at, va_pu, va_mset, Int.reduceToNat, Int.reduceLE, and_self, true_and, and_true]
  all_goals (try rfl)
  all_goals (repeat' split)
  all_goals first | rfl | simp_all
theorem g45_1 (d : Nat) (x1 : Int) (x2 : Int) (x3 : Int) (x4 : Int) (M : mM) : ev prog (d + 4) 45 0 1 [vr 25, vi x1, vi x2, vi x3, vi x4, vj, vj] [] (shp, M) = if x4 < x2 then ev prog (d + 4) 45 0 4 [vr 25, vi x1, vi x2, vi x3, vi x4, vi (r30c x4 M), vi x4] [] (shp, M) else some (.inl none, (shp, M)) := by
  rw [b45_1]
  try simp +decide only [b45_0, b45_13, b45_2, b45_3, b45_11, b45_5, b45_12, b45_6, b45_7, b45_8, b45_9, b45_10, s30c, callK_r, callK_x, psh_s, psh_n, hk_0, hk_1, hk_2, hk_3, hk_4, callK_ite, bit_bi, bit_0, bit_1, eq_self, reduceIte, Int.reduceEq, Int.reduceLT, Int.reduceNeg, Nat.reduceEqDiff, ne_eq, not_false_eq_true, pu_k, mset_k, mset_j, mset_at, va_pu, va_mset, Int.reduceToNat, Int.reduceLE, and_self, true_and, and_true]
  all_goals (try rfl)
  all_goals (repeat' split)
  all_goals first | rfl | simp_all
theorem g45_4 (d : Nat) (x1 : Int) (x2 : Int) (x3 : Int) (x4 : Int) (x5 : Int) (x6 : Int) (M : mM) : ev prog (d + 4) 45 0 4 [vr 25, vi x1, vi x2, vi x3, vi x4, vi x5, vi x6] [] (shp, M) = if x1 < x6 then (if (bi (p21 x5 (r30c (wr (x6 - 1)) M) x3 M)) = 0 then ev prog (d + 4) 45 0 1 [vr 25, vi x1, vi x2, vi x3, vi (wr (x4 + 1)), vj, vj] [] (shp, pu M 28 200 x6 x5) else ev prog (d + 4) 45 0 4 [vr 25, vi x1, vi x2, vi x3, vi x4, vi x5, vi (wr (x6 + (-1)))] [] (shp, pu M 28 200 x6 (r30c (wr (x6 - 1)) M))) else ev prog (d + 4) 45 0 1 [vr 25, vi x1, vi x2, vi x3, vi (wr (x4 + 1)), vj, vj] [] (shp, pu M 28 200 x6 x5) := by
  rw [b45_4]
  try simp +decide only [b45_0, b45_13, b45_2, b45_3, b45_11, b45_5, b45_12, b45_6, b45_7, b45_8, b45_9, b45_10, s30c, s21, pu_28, callK_r, callK_x, psh_s, psh_n, hk_0, hk_1, hk_2, hk_3, hk_4, callK_ite, bit_bi, bit_0, bit_1, eq_self, reduceIte, Int.reduceEq, Int.reduceLT, Int.reduceNeg, Nat.reduceEqDiff, ne_eq, not_false_eq_true, pu_k, mset_k, mset_j, mset_at, va_pu, va_mset, Int.reduceToNat, Int.reduceLE, and_self, true_and, and_true]
  all_goals (try rfl)
  all_goals (repeat' split)
  all_goals first | rfl | simp_all
theorem g46_0 (d : Nat) (x1 : Int) (M : mM) : ev prog (d + 5) 46 0 0 [vr 25, vi x1, vj, vj, vj, vj, vj] [] (shp, M) = callK (run prog (d + 4) 45 [vr 25, vi (va M 29 60 x1), vi (va M 30 60 x1), vi (Int.tmod (va M 31 60 x1) 3)] (shp, M)) (fun v σ1 => ev prog (d + 5) 46 0 4 [vr 25, vi x1, vi (va M 29 60 x1), vi (va M 30 60 x1), vi (va M 31 60 x1), vj, vj] (psh v []) σ1) (fun e σ1 => hk [0, 0, 0, 0, 0] e σ1 (fun t => ev prog (d + 5) 46 0 t (msk (pMask prog 46 t) [vr 25, vi x1, vi (va M 29 60 x1), vi (va M 30 60 x1), vi (va M 31 60 x1), vj, vj]) [vj] σ1)) := by
  rw [b46_0]
  try simp +decide only [b46_1, b46_2, b46_3, b46_4, b46_5, b46_6, b46_7, b46_8, b46_9, va_29, va_30, va_31, callK_r, callK_x, psh_s, psh_n, hk_0, hk_1, hk_2, hk_3, hk_4, callK_ite, bit_bi, bit_0, bit_1, eq_self, reduceIte, Int.reduceEq, Int.reduceLT, Int.reduceNeg, Nat.reduceEqDiff, ne_eq, not_false_eq_true, pu_k, mset_k, mset_j, mset_at, va_pu, va_mset, Int.reduceToNat, Int.reduceLE, and_self, true_and, and_true]
  all_goals (try rfl)
  all_goals (repeat' split)
  all_goals first | rfl | simp_all
theorem g46_4 (d : Nat) (x1 : Int) (x2 : Int) (x3 : Int) (x4 : Int) (M : mM) : ev prog (d + 5) 46 0 4 [vr 25, vi x1, vi x2, vi x3, vi x4, vj, vj] [] (shp, M) = callK (run prog (d + 4) 22 [vr 12, vi (va M 32 60 x1), vi (r30c (wr (x2 + (Int.tdiv (wr (x3 - x2)) 2))) M)] (shp, M)) (fun v σ1 => ev prog (d + 5) 46 0 7 [vr 25, vj, vi x2, vi x3, vi x4, vi (wr (x2 + (Int.tdiv (wr (x3 - x2)) 2))), vi (r30c (wr (x2 + (Int.tdiv (wr (x3 - x2)) 2))) M)] (psh v []) σ1) (fun e σ1 => hk [0, 0, 0, 0, 0] e σ1 (fun t => ev prog (d + 5) 46 0 t (msk (pMask prog 46 t) [vr 25, vj, vi x2, vi x3, vi x4, vi (wr (x2 + (Int.tdiv (wr (x3 - x2)) 2))), vi (r30c (wr (x2 + (Int.tdiv (wr (x3 - x2)) 2))) M)]) [vj] σ1)) := by
  rw [b46_4]
  try simp +decide only [b46_0, b46_1, b46_2, b46_3, b46_5, b46_6, b46_7, b46_8, b46_9, s30c, va_32, callK_r, callK_x, psh_s, psh_n, hk_0, hk_1, hk_2, hk_3, hk_4, callK_ite, bit_bi, bit_0, bit_1, eq_self, reduceIte, Int.reduceEq, Int.reduceLT, Int.reduceNeg, Nat.reduceEqDiff, ne_eq, not_false_eq_true, pu_k, mset_k, mset_j, mset_at, va_pu, va_mset, Int.reduceToNat, Int.reduceLE, and_self, true_and, and_true]
  all_goals (try rfl)
  all_goals (repeat' split)
  all_goals first | rfl | simp_all
theorem g46_7 (d : Nat) (x2 : Int) (x3 : Int) (x4 : Int) (x5 : Int) (x6 : Int) (M : mM) : ev prog (d + 5) 46 0 7 [vr 25, vj, vi x2, vi x3, vi x4, vi x5, vi x6] [] (shp, M) = callK (run prog (d + 4) 44 [vr 25, vi x2, vi x5, vi (wr (x4 + 1)), vi (wr (2 * x6))] (shp, M)) (fun v σ1 => ev prog (d + 5) 46 0 8 [vr 25, vj, vj, vi x3, vi x4, vi x5, vi x6] (psh v []) σ1) (fun e σ1 => hk [0, 0, 0, 0, 0] e σ1 (fun t => ev prog (d + 5) 46 0 t (msk (pMask prog 46 t) [vr 25, vj, vi x2, vi x3, vi x4, vi x5, vi x6]) [vj] σ1)) := by
  rw [b46_7]
  try simp +decide only [b46_0, b46_1, b46_2, b46_3, b46_4, b46_5, b46_6, b46_8, b46_9, callK_r, callK_x, psh_s, psh_n, hk_0, hk_1, hk_2, hk_3, hk_4, callK_ite, bit_bi, bit_0, bit_1, eq_self, reduceIte, Int.reduceEq, Int.reduceLT, Int.reduceNeg, Nat.reduceEqDiff, ne_eq, not_false_eq_true, pu_k, mset_k, mset_j, mset_at, va_pu, va_mset, Int.reduceToNat, Int.reduceLE, and_self, true_and, and_true]
  all_goals (try rfl)
  all_goals (repeat' split)
  all_goals first | rfl | simp_all
theorem g46_8 (d : Nat) (x3 : Int) (x4 : Int) (x5 : Int) (x6 : Int) (M : mM) : ev prog (d + 5) 46 0 8 [vr 25, vj, vj, vi x3, vi x4, vi x5, vi x6] [] (shp, M) = callK (run prog (d + 4) 44 [vr 25, vi (wr (x5 + 1)), vi x3, vi (wr (x4 + 1)), vi (wr ((wr (2 * x6)) + 1))] (shp, M)) (fun v σ1 => ev prog (d + 5) 46 0 9 [vj, vj, vj, vj, vj, vj, vj] (psh v []) σ1) (fun e σ1 => hk [0, 0, 0, 0, 0] e σ1 (fun t => ev prog (d + 5) 46 0 t (msk (pMask prog 46 t) [vr 25, vj, vj, vi x3, vi x4, vi x5, vi x6]) [vj] σ1)) := by
  rw [b46_8]
  try simp +decide only [b46_0, b46_1, b46_2, b46_3, b46_4, b46_5, b46_6, b46_7, b46_9, callK_r, callK_x, psh_s, psh_n, hk_0, hk_1, hk_2, hk_3, hk_4, callK_ite, bit_bi, bit_0, bit_1, eq_self, reduceIte, Int.reduceEq, Int.reduceLT, Int.reduceNeg, Nat.reduceEqDiff, ne_eq, not_false_eq_true, pu_k, mset_k, mset_j, mset_at, va_pu, va_mset, Int.reduceToNat, Int.reduceLE, and_self, true_and, and_true]
  all_goals (try rfl)
  all_goals (repeat' split)
  all_goals first | rfl | simp_all
theorem g46_9 (d : Nat) (M : mM) : ev prog (d + 5) 46 0 9 [vj, vj, vj, vj, vj, vj, vj] [] (shp, M) = some (.inl none, (shp, M)) := by
  rw [b46_9]
  try simp +decide only [b46_0, b46_1, b46_2, b46_3, b46_4, b46_5, b46_6, b46_7, b46_8, callK_r, callK_x, psh_s, psh_n, hk_0, hk_1, hk_2, hk_3, hk_4, callK_ite, bit_bi, bit_0, bit_1, eq_self, reduceIte, Int.reduceEq, Int.reduceLT, Int.reduceNeg, Nat.reduceEqDiff, ne_eq, not_false_eq_true, pu_k, mset_k, mset_j, mset_at, va_pu, va_mset, Int.reduceToNat, Int.reduceLE, and_self, true_and, and_true]
  all_goals (try rfl)
  all_goals (repeat' split)
  all_goals first | rfl | simp_all
theorem g47_0 (d : Nat) (x1 : Int) (x2 : Int) (M : mM) : ev prog (d + 6) 47 0 0 [vr 25, vi x1, vi x2, vj, vj] [] (shp, M) = if x1 = (-1) then some (.inl none, (shp, pu M 26 4 x2 (wr ((va M 26 4 x2) + 1)))) else callK (run prog (d + 5) 42 [vr 25, vi x1] (shp, pu M 26 4 x2 (wr ((va M 26 4 x2) + 1)))) (fun v σ1 => ev prog (d + 6) 47 0 5 [vr 25, vi x1, vj, vj, vj] (psh v []) σ1) (fun e σ1 => hk [0, 0, 0, 0, 0] e σ1 (fun t => ev prog (d + 6) 47 0 t (msk (pMask prog 47 t) [vr 25, vi x1, vj, vj, vj]) [vj] σ1)) := by
  rw [b47_0]
  try simp +decide only [b47_1, b47_2, b47_4, b47_3, b47_5, b47_6, b47_7, b47_8, b47_9, b47_10, b47_11, b47_16, b47_13, b47_17, b47_14, b47_15, pu_26, va_26, callK_r, callK_x, psh_s, psh_n, hk_0, hk_1, hk_2, hk_3, hk_4, callK_ite, bit_bi, bit_0, bit_1, eq_self, reduceIte, Int.reduceEq, Int.reduceLT, Int.reduceNeg, Nat.reduceEqDiff, ne_eq, not_false_eq_true, pu_k, mset_k, mset_j, mset_at, va_pu, va_mset, Int.reduceToNat, Int.reduceLE, and_self, true_and, and_true]
  all_goals (try rfl)
  all_goals (repeat' split)
  all_goals first | rfl | simp_all
theorem g47_5 (d : Nat) (x1 : Int) (M : mM) : ev prog (d + 6) 47 0 5 [vr 25, vi x1, vj, vj, vj] [] (shp, M) = callK (run prog (d + 5) 22 [vr 12, vi (r43 x1 (pu M 26 4 3 (wr ((va M 26 4 3) + (M 27 1))))), vi (-1)] (shp, pu M 26 4 3 (wr ((va M 26 4 3) + (M 27 1))))) (fun v σ1 => ev prog (d + 6) 47 0 9 [vr 25, vi x1, vj, vi (r43 x1 (pu M 26 4 3 (wr ((va M 26 4 3) + (M 27 1))))), vj] (psh v []) σ1) (fun e σ1 => hk [0, 0, 0, 0, 0] e σ1 (fun t => ev prog (d + 6) 47 0 t (msk (pMask prog 47 t) [vr 25, vi x1, vj, vi (r43 x1 (pu M 26 4 3 (wr ((va M 26 4 3) + (M 27 1))))), vj]) [vj] σ1)) := by
  rw [b47_5]
  try simp +decide only [b47_0, b47_1, b47_2, b47_4, b47_3, b47_6, b47_7, b47_8, b47_9, b47_10, b47_11, b47_16, b47_13, b47_17, b47_14, b47_15, s43, pu_26, va_26, callK_r, callK_x, psh_s, psh_n, hk_0, hk_1, hk_2, hk_3, hk_4, callK_ite, bit_bi, bit_0, bit_1, eq_self, reduceIte, Int.reduceEq, Int.reduceLT, Int.reduceNeg, Nat.reduceEqDiff, ne_eq, not_false_eq_true, pu_k, mset_k, mset_j, mset_at, va_pu, va_mset, Int.reduceToNat, Int.reduceLE, and_self, true_and, and_true]
  all_goals (try rfl)
  all_goals (repeat' split)
  all_goals first | rfl | simp_all
theorem g47_9 (d : Nat) (x1 : Int) (x3 : Int) (M : mM) : ev prog (d + 6) 47 0 9 [vr 25, vi x1, vj, vi x3, vj] [] (shp, M) = callK (run prog (d + 5) 44 [vr 25, vi 0, vi (M 27 1), vi (va M 15 200 x1), vi x3] (shp, mset M 25 8 0)) (fun v σ1 => ev prog (d + 6) 47 0 11 [vr 25, vj, vj, vj, vj] (psh v []) σ1) (fun e σ1 => hk [0, 0, 0, 0, 0] e σ1 (fun t => ev prog (d + 6) 47 0 t (msk (pMask prog 47 t) [vr 25, vj, vj, vi x3, vj]) [vj] σ1)) := by
  rw [b47_9]
  try simp +decide only [b47_0, b47_1, b47_2, b47_4, b47_3, b47_5, b47_6, b47_7, b47_8, b47_10, b47_11, b47_16, b47_13, b47_17, b47_14, b47_15, va_15, callK_r, callK_x, psh_s, psh_n, hk_0, hk_1, hk_2, hk_3, hk_4, callK_ite, bit_bi, bit_0, bit_1, eq_self, reduceIte, Int.reduceEq, Int.reduceLT, Int.reduceNeg, Nat.reduceEqDiff, ne_eq, not_false_eq_true, pu_k, mset_k, mset_j, mset_at, va_pu, va_mset, Int.reduceToNat, Int.reduceLE, and_self, true_and, and_true]
  all_goals (try rfl)
  all_goals (repeat' split)
  all_goals first | rfl | simp_all
theorem g47_11 (d : Nat) (M : mM) : ev prog (d + 6) 47 0 11 [vr 25, vj, vj, vj, vj] [] (shp, M) = ev prog (d + 6) 47 0 12 [vr 25, vj, vj, vj, vi 0] [] (shp, M) := by
  rw [b47_11]
  try simp +decide only [b47_0, b47_1, b47_2, b47_4, b47_3, b47_5, b47_6, b47_7, b47_8, b47_9, b47_10, b47_16, b47_13, b47_17, b47_14, b47_15, callK_r, callK_x, psh_s, psh_n, hk_0, hk_1, hk_2, hk_3, hk_4, callK_ite, bit_bi, bit_0, bit_1, eq_self, reduceIte, Int.reduceEq, Int.reduceLT, Int.reduceNeg, Nat.reduceEqDiff, ne_eq, not_false_eq_true, pu_k, mset_k, mset_j, mset_at, va_pu, va_mset, Int.reduceToNat, Int.reduceLE, and_self, true_and, and_true]
  all_goals (try rfl)
  all_goals (repeat' split)
  all_goals first | rfl | simp_all
theorem g47_12 (d : Nat) (x4 : Int) (M : mM) : ev prog (d + 6) 47 0 12 [vr 25, vj, vj, vj, vi x4] [] (shp, M) = if x4 < (M 25 8) then (if x4 < 60 then callK (run prog (d + 5) 46 [vr 25, vi x4] (shp, M)) (fun v σ1 => ev prog (d + 6) 47 0 15 [vr 25, vj, vj, vj, vi x4] (psh v []) σ1) (fun e σ1 => hk [0, 0, 0, 0, 0] e σ1 (fun t => ev prog (d + 6) 47 0 t (msk (pMask prog 47 t) [vr 25, vj, vj, vj, vi x4]) [vj] σ1)) else callK (run prog (d + 5) 38 [vr 12] (shp, M)) (fun v σ1 => ev prog (d + 6) 47 0 17 [vj, vj, vj, vj, vj] (psh v []) σ1) (fun e σ1 => hk [0, 0, 0, 0, 0] e σ1 (fun t => ev prog (d + 6) 47 0 t (msk (pMask prog 47 t) [vr 25, vj, vj, vj, vj]) [vj] σ1))) else callK (run prog (d + 5) 38 [vr 12] (shp, M)) (fun v σ1 => ev prog (d + 6) 47 0 17 [vj, vj, vj, vj, vj] (psh v []) σ1) (fun e σ1 => hk [0, 0, 0, 0, 0] e σ1 (fun t => ev prog (d + 6) 47 0 t (msk (pMask prog 47 t) [vr 25, vj, vj, vj, vj]) [vj] σ1)) := by
  rw [b47_12]
  try simp +decide only [b47_0, b47_1, b47_2, b47_4, b47_3, b47_5, b47_6, b47_7, b47_8, b47_9, b47_10, b47_11, b47_16, b47_13, b47_17, b47_14, b47_15, callK_r, callK_x, psh_s, psh_n, hk_0, hk_1, hk_2, hk_3, hk_4, callK_ite, bit_bi, bit_0, bit_1, eq_self, reduceIte, Int.reduceEq, Int.reduceLT, Int.reduceNeg, Nat.reduceEqDiff, ne_eq, not_false_eq_true, pu_k, mset_k, mset_j, mset_at, va_pu, va_mset, Int.reduceToNat, Int.reduceLE, and_self, true_and, and_true]
  all_goals (try rfl)
  all_goals (repeat' split)
  all_goals first | rfl | simp_all
theorem g47_15 (d : Nat) (x4 : Int) (M : mM) : ev prog (d + 6) 47 0 15 [vr 25, vj, vj, vj, vi x4] [] (shp, M) = ev prog (d + 6) 47 0 12 [vr 25, vj, vj, vj, vi (wr (x4 + 1))] [] (shp, M) := by
  rw [b47_15]
  try simp +decide only [b47_0, b47_1, b47_2, b47_4, b47_3, b47_5, b47_6, b47_7, b47_8, b47_9, b47_10, b47_11, b47_16, b47_13, b47_17, b47_14, callK_r, callK_x, psh_s, psh_n, hk_0, hk_1, hk_2, hk_3, hk_4, callK_ite, bit_bi, bit_0, bit_1, eq_self, reduceIte, Int.reduceEq, Int.reduceLT, Int.reduceNeg, Nat.reduceEqDiff, ne_eq, not_false_eq_true, pu_k, mset_k, mset_j, mset_at, va_pu, va_mset, Int.reduceToNat, Int.reduceLE, and_self, true_and, and_true]
  all_goals (try rfl)
  all_goals (repeat' split)
  all_goals first | rfl | simp_all
theorem g47_17 (d : Nat) (M : mM) : ev prog (d + 6) 47 0 17 [vj, vj, vj, vj, vj] [] (shp, M) = some (.inl none, (shp, M)) := by
  rw [b47_17]
  try simp +decide only [b47_0, b47_1, b47_2, b47_4, b47_3, b47_5, b47_6, b47_7, b47_8, b47_9, b47_10, b47_11, b47_16, b47_13, b47_14, b47_15, callK_r, callK_x, psh_s, psh_n, hk_0, hk_1, hk_2, hk_3, hk_4, callK_ite, bit_bi, bit_0, bit_1, eq_self, reduceIte, Int.reduceEq, Int.reduceLT, Int.reduceNeg, Nat.reduceEqDiff, ne_eq, not_false_eq_true, pu_k, mset_k, mset_j, mset_at, va_pu, va_mset, Int.reduceToNat, Int.reduceLE, and_self, true_and, and_true]
  all_goals (try rfl)
  all_goals (repeat' split)
  all_goals first | rfl | simp_all
theorem g48_0 (d : Nat) (x1 : Int) (x2 : Int) (x3 : Int) (x4 : Int) (x5 : Int) (M : mM) : ev prog (d + 7) 48 0 0 [vr 6, vi x1, vi x2, vi x3, vi x4, vi x5, vj, vj] [] (shp, M) = callK (run prog (d + 6) 23 [vr 12, vi (M 7 4)] (shp, mset (mset (pu (pu (pu (pu (pu (pu M 8 600 (wr (3 * (M 7 4))) x1) 8 600 (wr ((wr (3 * (M 7 4))) + 1)) x2) 8 600 (wr ((wr (3 * (M 7 4))) + 2)) x3) 9 200 (M 7 4) x4) 10 200 (M 7 4) x5) 11 200 (M 7 4) 1) 7 4 (wr ((M 7 4) + 1))) 7 5 (wr ((M 7 5) + 1)))) (fun v σ1 => ev prog (d + 7) 48 0 2 [vr 6, vj, vj, vj, vj, vj, vi (M 7 4), vj] (psh v []) σ1) (fun e σ1 => hk [0, 0, 0, 0, 0] e σ1 (fun t => ev prog (d + 7) 48 0 t (msk (pMask prog 48 t) [vr 6, vj, vj, vj, vj, vj, vi (M 7 4), vj]) [vj] σ1)) := by
  rw [b48_0]
  try simp +decide only [b48_1, b48_2, b48_3, b48_4, b48_6, b48_5, s18, o18, callK_r, callK_x, psh_s, psh_n, hk_0, hk_1, hk_2, hk_3, hk_4, callK_ite, bit_bi, bit_0, bit_1, eq_self, reduceIte, Int.reduceEq, Int.reduceLT, Int.reduceNeg, Nat.reduceEqDiff, ne_eq, not_false_eq_true, pu_k, mset_k, mset_j, mset_at, va_pu, va_mset, Int.reduceToNat, Int.reduceLE, and_self, true_and, and_true]
  all_goals (try rfl)
  all_goals (repeat' split)
  all_goals first | rfl | simp_all
theorem g48_2 (d : Nat) (x6 : Int) (M : mM) : ev prog (d + 7) 48 0 2 [vr 6, vj, vj, vj, vj, vj, vi x6, vj] [] (shp, M) = callK (run prog (d + 6) 38 [vr 12] (shp, M)) (fun v σ1 => ev prog (d + 7) 48 0 3 [vr 6, vj, vj, vj, vj, vj, vi x6, vj] (psh v []) σ1) (fun e σ1 => hk [0, 0, 0, 0, 0] e σ1 (fun t => ev prog (d + 7) 48 0 t (msk (pMask prog 48 t) [vr 6, vj, vj, vj, vj, vj, vi x6, vj]) [vj] σ1)) := by
  rw [b48_2]
  try simp +decide only [b48_0, b48_1, b48_3, b48_4, b48_6, b48_5, callK_r, callK_x, psh_s, psh_n, hk_0, hk_1, hk_2, hk_3, hk_4, callK_ite, bit_bi, bit_0, bit_1, eq_self, reduceIte, Int.reduceEq, Int.reduceLT, Int.reduceNeg, Nat.reduceEqDiff, ne_eq, not_false_eq_true, pu_k, mset_k, mset_j, mset_at, va_pu, va_mset, Int.reduceToNat, Int.reduceLE, and_self, true_and, and_true]
  all_goals (try rfl)
  all_goals (repeat' split)
  all_goals first | rfl | simp_all
theorem g48_3 (d : Nat) (x6 : Int) (M : mM) : ev prog (d + 7) 48 0 3 [vr 6, vj, vj, vj, vj, vj, vi x6, vj] [] (shp, M) = callK (run prog (d + 6) 41 [vr 6, vi x6] (shp, M)) (fun v σ1 => ev prog (d + 7) 48 0 4 [vr 6, vj, vj, vj, vj, vj, vi x6, vj] (psh v []) σ1) (fun e σ1 => hk [0, 0, 0, 0, 0] e σ1 (fun t => ev prog (d + 7) 48 0 t (msk (pMask prog 48 t) [vr 6, vj, vj, vj, vj, vj, vi x6, vj]) [vj] σ1)) := by
  rw [b48_3]
  try simp +decide only [b48_0, b48_1, b48_2, b48_4, b48_6, b48_5, callK_r, callK_x, psh_s, psh_n, hk_0, hk_1, hk_2, hk_3, hk_4, callK_ite, bit_bi, bit_0, bit_1, eq_self, reduceIte, Int.reduceEq, Int.reduceLT, Int.reduceNeg, Nat.reduceEqDiff, ne_eq, not_false_eq_true, pu_k, mset_k, mset_j, mset_at, va_pu, va_mset, Int.reduceToNat, Int.reduceLE, and_self, true_and, and_true]
  all_goals (try rfl)
  all_goals (repeat' split)
  all_goals first | rfl | simp_all
theorem g48_4 (d : Nat) (x6 : Int) (s0 : Int) (M : mM) : ev prog (d + 7) 48 0 4 [vr 6, vj, vj, vj, vj, vj, vi x6, vj] [vi s0] (shp, M) = if s0 = (-1) then some (.inl (some (vi x6)), (shp, M)) else callK (run prog (d + 6) 47 [vr 25, vi s0, vi 0] (shp, M)) (fun v σ1 => ev prog (d + 7) 48 0 6 [vj, vj, vj, vj, vj, vj, vi x6, vj] (psh v []) σ1) (fun e σ1 => hk [0, 0, 0, 0, 0] e σ1 (fun t => ev prog (d + 7) 48 0 t (msk (pMask prog 48 t) [vr 6, vj, vj, vj, vj, vj, vi x6, vi s0]) [vj] σ1)) := by
  rw [b48_4]
  try simp +decide only [b48_0, b48_1, b48_2, b48_3, b48_6, b48_5, callK_r, callK_x, psh_s, psh_n, hk_0, hk_1, hk_2, hk_3, hk_4, callK_ite, bit_bi, bit_0, bit_1, eq_self, reduceIte, Int.reduceEq, Int.reduceLT, Int.reduceNeg, Nat.reduceEqDiff, ne_eq, not_false_eq_true, pu_k, mset_k, mset_j, mset_at, va_pu, va_mset, Int.reduceToNat, Int.reduceLE, and_self, true_and, and_true]
  all_goals (try rfl)
  all_goals (repeat' split)
  all_goals first | rfl | simp_all
theorem g48_6 (d : Nat) (x6 : Int) (M : mM) : ev prog (d + 7) 48 0 6 [vj, vj, vj, vj, vj, vj, vi x6, vj] [] (shp, M) = some (.inl (some (vi x6)), (shp, M)) := by
  rw [b48_6]
  try simp +decide only [b48_0, b48_1, b48_2, b48_3, b48_4, b48_5, callK_r, callK_x, psh_s, psh_n, hk_0, hk_1, hk_2, hk_3, hk_4, callK_ite, bit_bi, bit_0, bit_1, eq_self, reduceIte, Int.reduceEq, Int.reduceLT, Int.reduceNeg, Nat.reduceEqDiff, ne_eq, not_false_eq_true, pu_k, mset_k, mset_j, mset_at, va_pu, va_mset, Int.reduceToNat, Int.reduceLE, and_self, true_and, and_true]
  all_goals (try rfl)
  all_goals (repeat' split)
  all_goals first | rfl | simp_all
theorem g49_0 (d : Nat) (x1 : Int) (x2 : Int) (x3 : Int) (x4 : Int) (x5 : Int) (M : mM) : ev prog (d + 8) 49 0 0 [vr 5, vi x1, vi x2, vi x3, vi x4, vi x5] [] (shp, M) = if (bi (p13 x1 x2 x3 M)) = 0 then some (.inr 0, (shp, M)) else (if (bi (p14 x4 x5 M)) = 0 then some (.inr 0, (shp, M)) else (if (bi (p15 1 M)) = 0 then some (.inr 1, (shp, M)) else callK (run prog (d + 7) 48 [vr 6, vi x1, vi x2, vi x3, vi x4, vi x5] (shp, mset M 79 4 0)) (fun v σ1 => ev prog (d + 8) 49 0 10 [vj, vj, vj, vj, vj, vj] (psh v []) σ1) (fun e σ1 => hk [0, 0, 0, 0, 0] e σ1 (fun t => ev prog (d + 8) 49 0 t (msk (pMask prog 49 t) [vr 5, vi x1, vi x2, vi x3, vi x4, vi x5]) [vj] σ1)))) := by
  rw [b49_0]
  try simp +decide only [b49_1, b49_4, b49_2, b49_3, b49_5, b49_6, b49_8, b49_7, b49_9, b49_10, s16, s15, s14, s13, o16, callK_r, callK_x, psh_s, psh_n, hk_0, hk_1, hk_2, hk_3, hk_4, callK_ite, bit_bi, bit_0, bit_1, eq_self, reduceIte, Int.reduceEq, Int.reduceLT, Int.reduceNeg, Nat.reduceEqDiff, ne_eq, not_false_eq_true, pu_k, mset_k, mset_j, mset_at, va_pu, va_mset, Int.reduceToNat, Int.reduceLE, and_self, true_and, and_true]
  all_goals (try rfl)
  all_goals (repeat' split)
  all_goals first | rfl | simp_all
theorem g49_10 (d : Nat) (s0 : Int) (M : mM) : ev prog (d + 8) 49 0 10 [vj, vj, vj, vj, vj, vj] [vi s0] (shp, M) = some (.inl (some (vi s0)), (shp, M)) := by
  rw [b49_10]
  try simp +decide only [b49_0, b49_1, b49_4, b49_2, b49_3, b49_5, b49_6, b49_8, b49_7, b49_9, callK_r, callK_x, psh_s, psh_n, hk_0, hk_1, hk_2, hk_3, hk_4, callK_ite, bit_bi, bit_0, bit_1, eq_self, reduceIte, Int.reduceEq, Int.reduceLT, Int.reduceNeg, Nat.reduceEqDiff, ne_eq, not_false_eq_true, pu_k, mset_k, mset_j, mset_at, va_pu, va_mset, Int.reduceToNat, Int.reduceLE, and_self, true_and, and_true]
  all_goals (try rfl)
  all_goals (repeat' split)
  all_goals first | rfl | simp_all
theorem g54_0 (d : Nat) (M : mM) : ev prog (d + 1) 54 0 0 [vr 87, vj, vj] [] (shp, M) = ev prog (d + 1) 54 0 1 [vr 87, vi 0, vi 0] [] (shp, M) := by
  rw [b54_0]
  try simp +decide only [b54_2, b54_5, b54_3, b54_4, callK_r, callK_x, psh_s, psh_n, hk_0, hk_1, hk_2, hk_3, hk_4, callK_ite, bit_bi, bit_0, bit_1, eq_self, reduceIte, Int.reduceEq, Int.reduceLT, Int.reduceNeg, Nat.reduceEqDiff, ne_eq, not_false_eq_true, pu_k, mset_k, mset_j, mset_at, va_pu, va_mset, Int.reduceToNat, Int.reduceLE, and_self, true_and, and_true]
  all_goals (try rfl)
  all_goals (repeat' split)
  all_goals first | rfl | simp_all
theorem g54_1 (d : Nat) (x1 : Int) (x2 : Int) (M : mM) : ev prog (d + 1) 54 0 1 [vr 87, vi x1, vi x2] [] (shp, M) = if x2 < (M 88 2001) then (if 0 ≤ (wr (1000 + x2)) ∧ (wr (1000 + x2)) < 2031 then ev prog (d + 1) 54 0 1 [vr 87, vi (wr (x1 + (M 88 (Int.toNat (wr (1000 + x2)))))), vi (wr (x2 + 1))] [] (shp, M) else none) else some (.inl (some (vi x1)), (shp, M)) := by
  rw [b54_1]
  try simp +decide only [b54_0, b54_2, b54_5, b54_3, b54_4, callK_r, callK_x, psh_s, psh_n, hk_0, hk_1, hk_2, hk_3, hk_4, callK_ite, bit_bi, bit_0, bit_1, eq_self, reduceIte, Int.reduceEq, Int.reduceLT, Int.reduceNeg, Nat.reduceEqDiff, ne_eq, not_false_eq_true, pu_k, mset_k, mset_j, mset_at, va_pu, va_mset, Int.reduceToNat, Int.reduceLE, and_self, true_and, and_true]
  all_goals (try rfl)
  all_goals (repeat' split)
  all_goals first | rfl | simp_all
theorem g55_0 (d : Nat) (x1 : Int) (x2 : Int) (x3 : Int) (M : mM) : ev prog (d + 1) 55 0 0 [vr 87, vi x1, vi x2, vi x3, vj, vj] [] (shp, M) = if 0 ≤ (wr ((wr (3 * x1)) + x3)) ∧ (wr ((wr (3 * x1)) + x3)) < 2031 then (if 0 ≤ (wr ((wr (3 * x2)) + x3)) ∧ (wr ((wr (3 * x2)) + x3)) < 2031 then (if (M 88 (Int.toNat (wr ((wr (3 * x1)) + x3)))) < (M 88 (Int.toNat (wr ((wr (3 * x2)) + x3)))) then some (.inl (some (vi 1)), (shp, M)) else (if (M 88 (Int.toNat (wr ((wr (3 * x1)) + x3)))) = (M 88 (Int.toNat (wr ((wr (3 * x2)) + x3)))) then (if x1 < x2 then some (.inl (some (vi 1)), (shp, M)) else some (.inl (some (vi 0)), (shp, M))) else some (.inl (some (vi 0)), (shp, M)))) else none) else none := by
  rw [b55_0]
  try simp +decide only [b55_1, b55_2, b55_5, b55_3, b55_7, b55_6, b55_4, callK_r, callK_x, psh_s, psh_n, hk_0, hk_1, hk_2, hk_3, hk_4, callK_ite, bit_bi, bit_0, bit_1, eq_self, reduceIte, Int.reduceEq, Int.reduceLT, Int.reduceNeg, Nat.reduceEqDiff, ne_eq, not_false_eq_true, pu_k, mset_k, mset_j, mset_at, va_pu, va_mset, Int.reduceToNat, Int.reduceLE, and_self, true_and, and_true]
  all_goals (try rfl)
  all_goals (repeat' split)
  all_goals first | rfl | simp_all
theorem g56_0 (d : Nat) (x1 : Int) (x2 : Int) (x3 : Int) (M : mM) : ev prog (d + 2) 56 0 0 [vr 87, vi x1, vi x2, vi x3] [] (shp, M) = callK (run prog (d + 1) 55 [vr 87, vi x2, vi x1, vi (Int.tmod x3 3)] (shp, M)) (fun v σ1 => ev prog (d + 2) 56 0 1 [vr 87, vi x1, vj, vj] (psh v []) σ1) (fun e σ1 => hk [0, 0, 0, 0, 0] e σ1 (fun t => ev prog (d + 2) 56 0 t (msk (pMask prog 56 t) [vr 87, vi x1, vi x2, vi x3]) [vj] σ1)) := by
  rw [b56_0]
  try simp +decide only [b56_1, b56_4, b56_2, b56_5, b56_3, callK_r, callK_x, psh_s, psh_n, hk_0, hk_1, hk_2, hk_3, hk_4, callK_ite, bit_bi, bit_0, bit_1, eq_self, reduceIte, Int.reduceEq, Int.reduceLT, Int.reduceNeg, Nat.reduceEqDiff, ne_eq, not_false_eq_true, pu_k, mset_k, mset_j, mset_at, va_pu, va_mset, Int.reduceToNat, Int.reduceLE, and_self, true_and, and_true]
  all_goals (try rfl)
  all_goals (repeat' split)
  all_goals first | rfl | simp_all
theorem g56_1 (d : Nat) (x1 : Int) (s0 : Int) (M : mM) : ev prog (d + 2) 56 0 1 [vr 87, vi x1, vj, vj] [vi s0] (shp, M) = if s0 = 0 then (if 0 ≤ (wr (1600 + x1)) ∧ (wr (1600 + x1)) < 2031 then some (.inl (some (vi (M 88 (Int.toNat (wr (1600 + x1)))))), (shp, M)) else none) else (if 0 ≤ (wr (1400 + x1)) ∧ (wr (1400 + x1)) < 2031 then some (.inl (some (vi (M 88 (Int.toNat (wr (1400 + x1)))))), (shp, M)) else none) := by
  rw [b56_1]
  try simp +decide only [b56_0, b56_4, b56_2, b56_5, b56_3, callK_r, callK_x, psh_s, psh_n, hk_0, hk_1, hk_2, hk_3, hk_4, callK_ite, bit_bi, bit_0, bit_1, eq_self, reduceIte, Int.reduceEq, Int.reduceLT, Int.reduceNeg, Nat.reduceEqDiff, ne_eq, not_false_eq_true, pu_k, mset_k, mset_j, mset_at, va_pu, va_mset, Int.reduceToNat, Int.reduceLE, and_self, true_and, and_true]
  all_goals (try rfl)
  all_goals (repeat' split)
  all_goals first | rfl | simp_all
theorem g57_0 (d : Nat) (x1 : Int) (M : mM) : ev prog (d + 3) 57 0 0 [vr 87, vi x1, vj, vj, vj] [] (shp, M) = ev prog (d + 3) 57 0 2 [vr 87, vi x1, vi (-1), vi 0, vi (M 88 2000)] [] (shp, M) := by
  rw [b57_0]
  try simp +decide only [b57_1, b57_5, b57_3, b57_6, b57_4, b57_9, b57_7, b57_10, b57_8, b57_13, b57_11, b57_14, b57_12, callK_r, callK_x, psh_s, psh_n, hk_0, hk_1, hk_2, hk_3, hk_4, callK_ite, bit_bi, bit_0, bit_1, eq_self, reduceIte, Int.reduceEq, Int.reduceLT, Int.reduceNeg, Nat.reduceEqDiff, ne_eq, not_false_eq_true, pu_k, mset_k, mset_j, mset_at, va_pu, va_mset, Int.reduceToNat, Int.reduceLE, and_self, true_and, and_true]
  all_goals (try rfl)
  all_goals (repeat' split)
  all_goals first | rfl | simp_all
theorem g57_2 (d : Nat) (x1 : Int) (x2 : Int) (x3 : Int) (x4 : Int) (M : mM) : ev prog (d + 3) 57 0 2 [vr 87, vi x1, vi x2, vi x3, vi x4] [] (shp, M) = if x4 < 0 then (if 0 ≤ (wr (1800 + x1)) ∧ (wr (1800 + x1)) < 2031 then (if x2 < 0 then some (.inl none, (shp, mset (mset M 88 (Int.toNat (wr (1800 + x1))) x2) 88 2000 x1)) else callK (run prog (d + 2) 55 [vr 87, vi x1, vi x2, vi (Int.tmod (wr (x3 - 1)) 3)] (shp, mset M 88 (Int.toNat (wr (1800 + x1))) x2)) (fun v σ1 => ev prog (d + 3) 57 0 10 [vr 87, vi x1, vi x2, vj, vj] (psh v []) σ1) (fun e σ1 => hk [0, 0, 0, 0, 0] e σ1 (fun t => ev prog (d + 3) 57 0 t (msk (pMask prog 57 t) [vr 87, vi x1, vi x2, vi x3, vj]) [vj] σ1))) else none) else callK (run prog (d + 2) 56 [vr 87, vi x4, vi x1, vi (wr ((wr (x3 + 1)) - 1))] (shp, M)) (fun v σ1 => ev prog (d + 3) 57 0 4 [vr 87, vi x1, vi x4, vi (wr (x3 + 1)), vj] (psh v []) σ1) (fun e σ1 => hk [0, 0, 0, 0, 0] e σ1 (fun t => ev prog (d + 3) 57 0 t (msk (pMask prog 57 t) [vr 87, vi x1, vi x4, vi (wr (x3 + 1)), vi x4]) [vj] σ1)) := by
  rw [b57_2]
  try simp +decide only [b57_0, b57_1, b57_5, b57_3, b57_6, b57_4, b57_9, b57_7, b57_10, b57_8, b57_13, b57_11, b57_14, b57_12, callK_r, callK_x, psh_s, psh_n, hk_0, hk_1, hk_2, hk_3, hk_4, callK_ite, bit_bi, bit_0, bit_1, eq_self, reduceIte, Int.reduceEq, Int.reduceLT, Int.reduceNeg, Nat.reduceEqDiff, ne_eq, not_false_eq_true, pu_k, mset_k, mset_j, mset_at, va_pu, va_mset, Int.reduceToNat, Int.reduceLE, and_self, true_and, and_true]
  all_goals (try rfl)
  all_goals (repeat' split)
  all_goals first | rfl | simp_all
theorem g57_4 (d : Nat) (x1 : Int) (x2 : Int) (x3 : Int) (s0 : Int) (M : mM) : ev prog (d + 3) 57 0 4 [vr 87, vi x1, vi x2, vi x3, vj] [vi s0] (shp, M) = ev prog (d + 3) 57 0 2 [vr 87, vi x1, vi x2, vi x3, vi s0] [] (shp, M) := by
  rw [b57_4]
  try simp +decide only [b57_0, b57_1, b57_5, b57_3, b57_6, b57_9, b57_7, b57_10, b57_8, b57_13, b57_11, b57_14, b57_12, callK_r, callK_x, psh_s, psh_n, hk_0, hk_1, hk_2, hk_3, hk_4, callK_ite, bit_bi, bit_0, bit_1, eq_self, reduceIte, Int.reduceEq, Int.reduceLT, Int.reduceNeg, Nat.reduceEqDiff, ne_eq, not_false_eq_true, pu_k, mset_k, mset_j, mset_at, va_pu, va_mset, Int.reduceToNat, Int.reduceLE, and_self, true_and, and_true]
  all_goals (try rfl)
  all_goals (repeat' split)
  all_goals first | rfl | simp_all
theorem g57_10 (d : Nat) (x1 : Int) (x2 : Int) (s0 : Int) (M : mM) : ev prog (d + 3) 57 0 10 [vr 87, vi x1, vi x2, vj, vj] [vi s0] (shp, M) = if s0 = 0 then (if 0 ≤ (wr (1600 + x2)) ∧ (wr (1600 + x2)) < 2031 then some (.inl none, (shp, mset M 88 (Int.toNat (wr (1600 + x2))) x1)) else none) else (if 0 ≤ (wr (1400 + x2)) ∧ (wr (1400 + x2)) < 2031 then some (.inl none, (shp, mset M 88 (Int.toNat (wr (1400 + x2))) x1)) else none) := by
  rw [b57_10]
  try simp +decide only [b57_0, b57_1, b57_5, b57_3, b57_6, b57_4, b57_9, b57_7, b57_8, b57_13, b57_11, b57_14, b57_12, callK_r, callK_x, psh_s, psh_n, hk_0, hk_1, hk_2, hk_3, hk_4, callK_ite, bit_bi, bit_0, bit_1, eq_self, reduceIte, Int.reduceEq, Int.reduceLT, Int.reduceNeg, Nat.reduceEqDiff, ne_eq, not_false_eq_true, pu_k, mset_k, mset_j, mset_at, va_pu, va_mset, Int.reduceToNat, Int.reduceLE, and_self, true_and, and_true]
  all_goals (try rfl)
  all_goals (repeat' split)
  all_goals first | rfl | simp_all
theorem g58_0 (d : Nat) (x1 : Int) (M : mM) : ev prog (d + 2) 58 0 0 [vr 87, vi x1] [] (shp, M) = if x1 < 0 then some (.inl (some (vi 0)), (shp, M)) else (if 0 ≤ (wr (1400 + x1)) ∧ (wr (1400 + x1)) < 2031 then callK (run prog (d + 1) 58 [vr 87, vi (M 88 (Int.toNat (wr (1400 + x1))))] (shp, M)) (fun v σ1 => ev prog (d + 2) 58 0 4 [vr 87, vi x1] (psh v [vi 1]) σ1) (fun e σ1 => hk [0, 0, 0, 0, 0] e σ1 (fun t => ev prog (d + 2) 58 0 t (msk (pMask prog 58 t) [vr 87, vi x1]) [vj] σ1)) else none) := by
  rw [b58_0]
  try simp +decide only [b58_2, b58_1, b58_3, b58_7, b58_4, b58_5, b58_6, callK_r, callK_x, psh_s, psh_n, hk_0, hk_1, hk_2, hk_3, hk_4, callK_ite, bit_bi, bit_0, bit_1, eq_self, reduceIte, Int.reduceEq, Int.reduceLT, Int.reduceNeg, Nat.reduceEqDiff, ne_eq, not_false_eq_true, pu_k, mset_k, mset_j, mset_at, va_pu, va_mset, Int.reduceToNat, Int.reduceLE, and_self, true_and, and_true]
  all_goals (try rfl)
  all_goals (repeat' split)
  all_goals first | rfl | simp_all
theorem g58_4 (d : Nat) (x1 : Int) (s0 : Int) (s1 : Int) (M : mM) : ev prog (d + 2) 58 0 4 [vr 87, vi x1] [vi s1, vi s0] (shp, M) = if 0 ≤ (wr (1600 + x1)) ∧ (wr (1600 + x1)) < 2031 then callK (run prog (d + 1) 58 [vr 87, vi (M 88 (Int.toNat (wr (1600 + x1))))] (shp, M)) (fun v σ1 => ev prog (d + 2) 58 0 6 [vj, vj] (psh v [vi (wr (s0 + s1))]) σ1) (fun e σ1 => hk [0, 0, 0, 0, 0] e σ1 (fun t => ev prog (d + 2) 58 0 t (msk (pMask prog 58 t) [vj, vj]) [vj] σ1)) else none := by
  rw [b58_4]
  try simp +decide only [b58_0, b58_2, b58_1, b58_3, b58_7, b58_5, b58_6, callK_r, callK_x, psh_s, psh_n, hk_0, hk_1, hk_2, hk_3, hk_4, callK_ite, bit_bi, bit_0, bit_1, eq_self, reduceIte, Int.reduceEq, Int.reduceLT, Int.reduceNeg, Nat.reduceEqDiff, ne_eq, not_false_eq_true, pu_k, mset_k, mset_j, mset_at, va_pu, va_mset, Int.reduceToNat, Int.reduceLE, and_self, true_and, and_true]
  all_goals (try rfl)
  all_goals (repeat' split)
  all_goals first | rfl | simp_all
theorem g58_6 (d : Nat) (s0 : Int) (s1 : Int) (M : mM) : ev prog (d + 2) 58 0 6 [vj, vj] [vi s1, vi s0] (shp, M) = some (.inl (some (vi (wr (s0 + s1)))), (shp, M)) := by
  rw [b58_6]
  try simp +decide only [b58_0, b58_2, b58_1, b58_3, b58_7, b58_4, b58_5, callK_r, callK_x, psh_s, psh_n, hk_0, hk_1, hk_2, hk_3, hk_4, callK_ite, bit_bi, bit_0, bit_1, eq_self, reduceIte, Int.reduceEq, Int.reduceLT, Int.reduceNeg, Nat.reduceEqDiff, ne_eq, not_false_eq_true, pu_k, mset_k, mset_j, mset_at, va_pu, va_mset, Int.reduceToNat, Int.reduceLE, and_self, true_and, and_true]
  all_goals (try rfl)
  all_goals (repeat' split)
  all_goals first | rfl | simp_all
theorem g59_0 (d : Nat) (x1 : Int) (M : mM) : ev prog (d + 2) 59 0 0 [vr 87, vi x1, vj, vj] [] (shp, M) = if 0 ≤ (wr (1400 + x1)) ∧ (wr (1400 + x1)) < 2031 then callK (run prog (d + 1) 58 [vr 87, vi (M 88 (Int.toNat (wr (1400 + x1))))] (shp, M)) (fun v σ1 => ev prog (d + 2) 59 0 2 [vr 87, vi x1, vj, vj] (psh v []) σ1) (fun e σ1 => hk [0, 0, 0, 0, 0] e σ1 (fun t => ev prog (d + 2) 59 0 t (msk (pMask prog 59 t) [vr 87, vi x1, vj, vj]) [vj] σ1)) else none := by
  rw [b59_0]
  try simp +decide only [b59_1, b59_2, b59_3, b59_4, b59_6, b59_5, b59_7, b59_8, b59_10, b59_9, b59_11, callK_r, callK_x, psh_s, psh_n, hk_0, hk_1, hk_2, hk_3, hk_4, callK_ite, bit_bi, bit_0, bit_1, eq_self, reduceIte, Int.reduceEq, Int.reduceLT, Int.reduceNeg, Nat.reduceEqDiff, ne_eq, not_false_eq_true, pu_k, mset_k, mset_j, mset_at, va_pu, va_mset, Int.reduceToNat, Int.reduceLE, and_self, true_and, and_true]
  all_goals (try rfl)
  all_goals (repeat' split)
  all_goals first | rfl | simp_all
theorem g59_2 (d : Nat) (x1 : Int) (s0 : Int) (M : mM) : ev prog (d + 2) 59 0 2 [vr 87, vi x1, vj, vj] [vi s0] (shp, M) = if 0 ≤ (wr (1600 + x1)) ∧ (wr (1600 + x1)) < 2031 then callK (run prog (d + 1) 58 [vr 87, vi (M 88 (Int.toNat (wr (1600 + x1))))] (shp, M)) (fun v σ1 => ev prog (d + 2) 59 0 4 [vr 87, vj, vi s0, vj] (psh v []) σ1) (fun e σ1 => hk [0, 0, 0, 0, 0] e σ1 (fun t => ev prog (d + 2) 59 0 t (msk (pMask prog 59 t) [vr 87, vj, vi s0, vj]) [vj] σ1)) else none := by
  rw [b59_2]
  try simp +decide only [b59_0, b59_1, b59_3, b59_4, b59_6, b59_5, b59_7, b59_8, b59_10, b59_9, b59_11, callK_r, callK_x, psh_s, psh_n, hk_0, hk_1, hk_2, hk_3, hk_4, callK_ite, bit_bi, bit_0, bit_1, eq_self, reduceIte, Int.reduceEq, Int.reduceLT, Int.reduceNeg, Nat.reduceEqDiff, ne_eq, not_false_eq_true, pu_k, mset_k, mset_j, mset_at, va_pu, va_mset, Int.reduceToNat, Int.reduceLE, and_self, true_and, and_true]
  all_goals (try rfl)
  all_goals (repeat' split)
  all_goals first | rfl | simp_all
theorem g59_4 (d : Nat) (x2 : Int) (s0 : Int) (M : mM) : ev prog (d + 2) 59 0 4 [vr 87, vj, vi x2, vj] [vi s0] (shp, M) = if s0 < x2 then (if (wr ((M 88 2002) * (wr ((wr (1 + x2)) + s0)))) < (wr (100 * x2)) then some (.inl (some (vi 1)), (shp, M)) else some (.inl (some (vi 0)), (shp, M))) else (if (wr ((M 88 2002) * (wr ((wr (1 + x2)) + s0)))) < (wr (100 * s0)) then some (.inl (some (vi 1)), (shp, M)) else some (.inl (some (vi 0)), (shp, M))) := by
  rw [b59_4]
  try simp +decide only [b59_0, b59_1, b59_2, b59_3, b59_6, b59_5, b59_7, b59_8, b59_10, b59_9, b59_11, callK_r, callK_x, psh_s, psh_n, hk_0, hk_1, hk_2, hk_3, hk_4, callK_ite, bit_bi, bit_0, bit_1, eq_self, reduceIte, Int.reduceEq, Int.reduceLT, Int.reduceNeg, Nat.reduceEqDiff, ne_eq, not_false_eq_true, pu_k, mset_k, mset_j, mset_at, va_pu, va_mset, Int.reduceToNat, Int.reduceLE, and_self, true_and, and_true]
  all_goals (try rfl)
  all_goals (repeat' split)
  all_goals first | rfl | simp_all
theorem g60_0 (d : Nat) (x1 : Int) (M : mM) : ev prog (d + 1) 60 0 0 [vr 87, vi x1, vj, vj] [] (shp, M) = if 0 ≤ (wr (1800 + x1)) ∧ (wr (1800 + x1)) < 2031 then ev prog (d + 1) 60 0 2 [vr 87, vj, vi 0, vi (M 88 (Int.toNat (wr (1800 + x1))))] [] (shp, M) else none := by
  rw [b60_0]
  try simp +decide only [b60_1, b60_5, b60_3, b60_4, callK_r, callK_x, psh_s, psh_n, hk_0, hk_1, hk_2, hk_3, hk_4, callK_ite, bit_bi, bit_0, bit_1, eq_self, reduceIte, Int.reduceEq, Int.reduceLT, Int.reduceNeg, Nat.reduceEqDiff, ne_eq, not_false_eq_true, pu_k, mset_k, mset_j, mset_at, va_pu, va_mset, Int.reduceToNat, Int.reduceLE, and_self, true_and, and_true]
  all_goals (try rfl)
  all_goals (repeat' split)
  all_goals first | rfl | simp_all
theorem g60_2 (d : Nat) (x2 : Int) (x3 : Int) (M : mM) : ev prog (d + 1) 60 0 2 [vr 87, vj, vi x2, vi x3] [] (shp, M) = if x3 < 0 then some (.inl (some (vi x2)), (shp, M)) else (if 0 ≤ (wr (1800 + x3)) ∧ (wr (1800 + x3)) < 2031 then ev prog (d + 1) 60 0 2 [vr 87, vj, vi (wr (x2 + 1)), vi (M 88 (Int.toNat (wr (1800 + x3))))] [] (shp, M) else none) := by
  rw [b60_2]
  try simp +decide only [b60_0, b60_1, b60_5, b60_3, b60_4, callK_r, callK_x, psh_s, psh_n, hk_0, hk_1, hk_2, hk_3, hk_4, callK_ite, bit_bi, bit_0, bit_1, eq_self, reduceIte, Int.reduceEq, Int.reduceLT, Int.reduceNeg, Nat.reduceEqDiff, ne_eq, not_false_eq_true, pu_k, mset_k, mset_j, mset_at, va_pu, va_mset, Int.reduceToNat, Int.reduceLE, and_self, true_and, and_true]
  all_goals (try rfl)
  all_goals (repeat' split)
  all_goals first | rfl | simp_all
theorem g61_0 (d : Nat) (x1 : Int) (M : mM) : ev prog (d + 2) 61 0 0 [vr 87, vi x1] [] (shp, M) = if x1 < 0 then some (.inl none, (shp, M)) else (if 0 ≤ (wr (1200 + x1)) ∧ (wr (1200 + x1)) < 2031 then (if 0 ≤ (wr (1000 + x1)) ∧ (wr (1000 + x1)) < 2031 then (if ((mset M 88 (Int.toNat (wr (1200 + x1))) 0) 88 (Int.toNat (wr (1000 + x1)))) = 1 then (if 0 ≤ (M 87 5) ∧ (M 87 5) < 200 then (if 0 ≤ (wr (1400 + x1)) ∧ (wr (1400 + x1)) < 2031 then callK (run prog (d + 1) 61 [vr 87, vi ((mset M 88 (Int.toNat (wr (1200 + x1))) 0) 88 (Int.toNat (wr (1400 + x1))))] (shp, mset (mset (mset M 88 (Int.toNat (wr (1200 + x1))) 0) 90 (Int.toNat (M 87 5)) x1) 87 5 (wr ((M 87 5) + 1)))) (fun v σ1 => ev prog (d + 2) 61 0 9 [vr 87, vi x1] (psh v []) σ1) (fun e σ1 => hk [0, 0, 0, 0, 0] e σ1 (fun t => ev prog (d + 2) 61 0 t (msk (pMask prog 61 t) [vr 87, vi x1]) [vj] σ1)) else none) else none) else (if 0 ≤ (wr (1400 + x1)) ∧ (wr (1400 + x1)) < 2031 then callK (run prog (d + 1) 61 [vr 87, vi ((mset M 88 (Int.toNat (wr (1200 + x1))) 0) 88 (Int.toNat (wr (1400 + x1))))] (shp, mset M 88 (Int.toNat (wr (1200 + x1))) 0)) (fun v σ1 => ev prog (d + 2) 61 0 9 [vr 87, vi x1] (psh v []) σ1) (fun e σ1 => hk [0, 0, 0, 0, 0] e σ1 (fun t => ev prog (d + 2) 61 0 t (msk (pMask prog 61 t) [vr 87, vi x1]) [vj] σ1)) else none)) else none) else none) := by
  rw [b61_0]
  try simp +decide only [b61_2, b61_1, b61_3, b61_4, b61_7, b61_5, b61_8, b61_6, b61_9, b61_10, b61_11, callK_r, callK_x, psh_s, psh_n, hk_0, hk_1, hk_2, hk_3, hk_4, callK_ite, bit_bi, bit_0, bit_1, eq_self, reduceIte, Int.reduceEq, Int.reduceLT, Int.reduceNeg, Nat.reduceEqDiff, ne_eq, not_false_eq_true, pu_k, mset_k, mset_j, mset_at, va_pu, va_mset, Int.reduceToNat, Int.reduceLE, and_self, true_and, and_true]
  all_goals (try rfl)
  all_goals (repeat' split)
  all_goals first | rfl | simp_all
theorem g61_9 (d : Nat) (x1 : Int) (M : mM) : ev prog (d + 2) 61 0 9 [vr 87, vi x1] [] (shp, M) = if 0 ≤ (wr (1600 + x1)) ∧ (wr (1600 + x1)) < 2031 then callK (run prog (d + 1) 61 [vr 87, vi (M 88 (Int.toNat (wr (1600 + x1))))] (shp, M)) (fun v σ1 => ev prog (d + 2) 61 0 11 [vj, vj] (psh v []) σ1) (fun e σ1 => hk [0, 0, 0, 0, 0] e σ1 (fun t => ev prog (d + 2) 61 0 t (msk (pMask prog 61 t) [vj, vj]) [vj] σ1)) else none := by
  rw [b61_9]
  try simp +decide only [b61_0, b61_2, b61_1, b61_3, b61_4, b61_7, b61_5, b61_8, b61_6, b61_10, b61_11, callK_r, callK_x, psh_s, psh_n, hk_0, hk_1, hk_2, hk_3, hk_4, callK_ite, bit_bi, bit_0, bit_1, eq_self, reduceIte, Int.reduceEq, Int.reduceLT, Int.reduceNeg, Nat.reduceEqDiff, ne_eq, not_false_eq_true, pu_k, mset_k, mset_j, mset_at, va_pu, va_mset, Int.reduceToNat, Int.reduceLE, and_self, true_and, and_true]
  all_goals (try rfl)
  all_goals (repeat' split)
  all_goals first | rfl | simp_all
theorem g61_11 (d : Nat) (M : mM) : ev prog (d + 2) 61 0 11 [vj, vj] [] (shp, M) = some (.inl none, (shp, M)) := by
  rw [b61_11]
  try simp +decide only [b61_0, b61_2, b61_1, b61_3, b61_4, b61_7, b61_5, b61_8, b61_6, b61_9, b61_10, callK_r, callK_x, psh_s, psh_n, hk_0, hk_1, hk_2, hk_3, hk_4, callK_ite, bit_bi, bit_0, bit_1, eq_self, reduceIte, Int.reduceEq, Int.reduceLT, Int.reduceNeg, Nat.reduceEqDiff, ne_eq, not_false_eq_true, pu_k, mset_k, mset_j, mset_at, va_pu, va_mset, Int.reduceToNat, Int.reduceLE, and_self, true_and, and_true]
  all_goals (try rfl)
  all_goals (repeat' split)
  all_goals first | rfl | simp_all
theorem g62_0 (d : Nat) (x1 : Int) (x2 : Int) (x3 : Int) (M : mM) : ev prog (d + 2) 62 0 0 [vr 87, vi x1, vi x2, vi x3, vj, vj, vj] [] (shp, M) = ev prog (d + 2) 62 0 1 [vr 87, vi x1, vi x2, vi x3, vi (wr (x1 + 1)), vj, vj] [] (shp, M) := by
  rw [b62_0]
  try simp +decide only [b62_13, b62_2, b62_3, b62_11, b62_5, b62_12, b62_6, b62_7, b62_8, b62_9, b62_10, callK_r, callK_x, psh_s, psh_n, hk_0, hk_1, hk_2, hk_3, hk_4, callK_ite, bit_bi, bit_0, bit_1, eq_self, reduceIte, Int.reduceEq, Int.reduceLT, Int.reduceNeg, Nat.reduceEqDiff, ne_eq, not_false_eq_true, pu_k, mset_k, mset_j, mset_at, va_pu, va_mset, Int.reduceToNat, Int.reduceLE, and_self, true_and, and_true]
  all_goals (try rfl)
  all_goals (repeat' split)
  all_goals first | rfl | simp_all
theorem g62_1 (d : Nat) (x1 : Int) (x2 : Int) (x3 : Int) (x4 : Int) (M : mM) : ev prog (d + 2) 62 0 1 [vr 87, vi x1, vi x2, vi x3, vi x4, vj, vj] [] (shp, M) = if x4 < x2 then (if 0 ≤ x4 ∧ x4 < 200 then ev prog (d + 2) 62 0 4 [vr 87, vi x1, vi x2, vi x3, vi x4, vi (M 90 (Int.toNat x4)), vi x4] [] (shp, M) else none) else some (.inl none, (shp, M)) := by
  rw [b62_1]
  try simp +decide only [b62_0, b62_13, b62_2, b62_3, b62_11, b62_5, b62_12, b62_6, b62_7, b62_8, b62_9, b62_10, callK_r, callK_x, psh_s, psh_n, hk_0, hk_1, hk_2, hk_3, hk_4, callK_ite, bit_bi, bit_0, bit_1, eq_self, reduceIte, Int.reduceEq, Int.reduceLT, Int.reduceNeg, Nat.reduceEqDiff, ne_eq, not_false_eq_true, pu_k, mset_k, mset_j, mset_at, va_pu, va_mset, Int.reduceToNat, Int.reduceLE, and_self, true_and, and_true]
  all_goals (try rfl)
  all_goals (repeat' split)
  all_goals first | rfl | simp_all
theorem g62_4 (d : Nat) (x1 : Int) (x2 : Int) (x3 : Int) (x4 : Int) (x5 : Int) (x6 : Int) (M : mM) : ev prog (d + 2) 62 0 4 [vr 87, vi x1, vi x2, vi x3, vi x4, vi x5, vi x6] [] (shp, M) = if x1 < x6 then (if 0 ≤ (wr (x6 - 1)) ∧ (wr (x6 - 1)) < 200 then callK (run prog (d + 1) 55 [vr 87, vi x5, vi (M 90 (Int.toNat (wr (x6 - 1)))), vi x3] (shp, M)) (fun v σ1 => ev prog (d + 2) 62 0 7 [vr 87, vi x1, vi x2, vi x3, vi x4, vi x5, vi x6] (psh v []) σ1) (fun e σ1 => hk [0, 0, 0, 0, 0] e σ1 (fun t => ev prog (d + 2) 62 0 t (msk (pMask prog 62 t) [vr 87, vi x1, vi x2, vi x3, vi x4, vi x5, vi x6]) [vj] σ1)) else none) else (if 0 ≤ x6 ∧ x6 < 200 then ev prog (d + 2) 62 0 1 [vr 87, vi x1, vi x2, vi x3, vi (wr (x4 + 1)), vj, vj] [] (shp, mset M 90 (Int.toNat x6) x5) else none) := by
  rw [b62_4]
  try simp +decide only [b62_0, b62_13, b62_2, b62_3, b62_11, b62_5, b62_12, b62_6, b62_7, b62_8, b62_9, b62_10, callK_r, callK_x, psh_s, psh_n, hk_0, hk_1, hk_2, hk_3, hk_4, callK_ite, bit_bi, bit_0, bit_1, eq_self, reduceIte, Int.reduceEq, Int.reduceLT, Int.reduceNeg, Nat.reduceEqDiff, ne_eq, not_false_eq_true, pu_k, mset_k, mset_j, mset_at, va_pu, va_mset, Int.reduceToNat, Int.reduceLE, and_self, true_and, and_true]
  all_goals (try rfl)
  all_goals (repeat' split)
  all_goals first | rfl | simp_all
theorem g62_7 (d : Nat) (x1 : Int) (x2 : Int) (x3 : Int) (x4 : Int) (x5 : Int) (x6 : Int) (s0 : Int) (M : mM) : ev prog (d + 2) 62 0 7 [vr 87, vi x1, vi x2, vi x3, vi x4, vi x5, vi x6] [vi s0] (shp, M) = if s0 = 0 then (if 0 ≤ x6 ∧ x6 < 200 then ev prog (d + 2) 62 0 1 [vr 87, vi x1, vi x2, vi x3, vi (wr (x4 + 1)), vj, vj] [] (shp, mset M 90 (Int.toNat x6) x5) else none) else (if 0 ≤ (wr (x6 - 1)) ∧ (wr (x6 - 1)) < 200 then (if 0 ≤ x6 ∧ x6 < 200 then ev prog (d + 2) 62 0 4 [vr 87, vi x1, vi x2, vi x3, vi x4, vi x5, vi (wr (x6 + (-1)))] [] (shp, mset M 90 (Int.toNat x6) (M 90 (Int.toNat (wr (x6 - 1))))) else none) else none) := by
  rw [b62_7]
  try simp +decide only [b62_0, b62_13, b62_2, b62_3, b62_11, b62_5, b62_12, b62_6, b62_8, b62_9, b62_10, callK_r, callK_x, psh_s, psh_n, hk_0, hk_1, hk_2, hk_3, hk_4, callK_ite, bit_bi, bit_0, bit_1, eq_self, reduceIte, Int.reduceEq, Int.reduceLT, Int.reduceNeg, Nat.reduceEqDiff, ne_eq, not_false_eq_true, pu_k, mset_k, mset_j, mset_at, va_pu, va_mset, Int.reduceToNat, Int.reduceLE, and_self, true_and, and_true]
  all_goals (try rfl)
  all_goals (repeat' split)
  all_goals first | rfl | simp_all
theorem g63_0 (d : Nat) (x1 : Int) (x2 : Int) (x3 : Int) (x4 : Int) (M : mM) : ev prog (d + 3) 63 0 0 [vr 87, vi x1, vi x2, vi x3, vi x4, vj, vj] [] (shp, M) = if x1 = x2 then some (.inl (some (vi (-1))), (shp, M)) else callK (run prog (d + 2) 62 [vr 87, vi x1, vi x2, vi (Int.tmod x3 3)] (shp, M)) (fun v σ1 => ev prog (d + 3) 63 0 3 [vr 87, vi x1, vi x2, vi x3, vi x4, vj, vj] (psh v []) σ1) (fun e σ1 => hk [0, 0, 0, 0, 0] e σ1 (fun t => ev prog (d + 3) 63 0 t (msk (pMask prog 63 t) [vr 87, vi x1, vi x2, vi x3, vi x4, vj, vj]) [vj] σ1)) := by
  rw [b63_0]
  try simp +decide only [b63_2, b63_1, b63_3, b63_4, b63_5, b63_6, b63_7, b63_8, b63_9, b63_10, callK_r, callK_x, psh_s, psh_n, hk_0, hk_1, hk_2, hk_3, hk_4, callK_ite, bit_bi, bit_0, bit_1, eq_self, reduceIte, Int.reduceEq, Int.reduceLT, Int.reduceNeg, Nat.reduceEqDiff, ne_eq, not_false_eq_true, pu_k, mset_k, mset_j, mset_at, va_pu, va_mset, Int.reduceToNat, Int.reduceLE, and_self, true_and, and_true]
  all_goals (try rfl)
  all_goals (repeat' split)
  all_goals first | rfl | simp_all
theorem g63_3 (d : Nat) (x1 : Int) (x2 : Int) (x3 : Int) (x4 : Int) (M : mM) : ev prog (d + 3) 63 0 3 [vr 87, vi x1, vi x2, vi x3, vi x4, vj, vj] [] (shp, M) = if 0 ≤ (wr (x1 + (Int.tdiv (wr (x2 - x1)) 2))) ∧ (wr (x1 + (Int.tdiv (wr (x2 - x1)) 2))) < 200 then (if 0 ≤ (wr (1200 + (M 90 (Int.toNat (wr (x1 + (Int.tdiv (wr (x2 - x1)) 2))))))) ∧ (wr (1200 + (M 90 (Int.toNat (wr (x1 + (Int.tdiv (wr (x2 - x1)) 2))))))) < 2031 then (if 0 ≤ (wr (1800 + (M 90 (Int.toNat (wr (x1 + (Int.tdiv (wr (x2 - x1)) 2))))))) ∧ (wr (1800 + (M 90 (Int.toNat (wr (x1 + (Int.tdiv (wr (x2 - x1)) 2))))))) < 2031 then callK (run prog (d + 2) 63 [vr 87, vi x1, vi (wr (x1 + (Int.tdiv (wr (x2 - x1)) 2))), vi (wr (x3 + 1)), vi (M 90 (Int.toNat (wr (x1 + (Int.tdiv (wr (x2 - x1)) 2)))))] (shp, mset (mset M 88 (Int.toNat (wr (1200 + (M 90 (Int.toNat (wr (x1 + (Int.tdiv (wr (x2 - x1)) 2)))))))) 1) 88 (Int.toNat (wr (1800 + (M 90 (Int.toNat (wr (x1 + (Int.tdiv (wr (x2 - x1)) 2)))))))) x4)) (fun v σ1 => ev prog (d + 3) 63 0 7 [vr 87, vj, vi x2, vi x3, vj, vi (wr (x1 + (Int.tdiv (wr (x2 - x1)) 2))), vi (M 90 (Int.toNat (wr (x1 + (Int.tdiv (wr (x2 - x1)) 2)))))] (psh v [vi (wr (1400 + (M 90 (Int.toNat (wr (x1 + (Int.tdiv (wr (x2 - x1)) 2))))))), vr 88]) σ1) (fun e σ1 => hk [0, 0, 0, 0, 0] e σ1 (fun t => ev prog (d + 3) 63 0 t (msk (pMask prog 63 t) [vr 87, vi x1, vi x2, vi x3, vj, vi (wr (x1 + (Int.tdiv (wr (x2 - x1)) 2))), vi (M 90 (Int.toNat (wr (x1 + (Int.tdiv (wr (x2 - x1)) 2)))))]) [vj] σ1)) else none) else none) else none := by
  rw [b63_3]
  try simp +decide only [b63_0, b63_2, b63_1, b63_4, b63_5, b63_6, b63_7, b63_8, b63_9, b63_10, callK_r, callK_x, psh_s, psh_n, hk_0, hk_1, hk_2, hk_3, hk_4, callK_ite, bit_bi, bit_0, bit_1, eq_self, reduceIte, Int.reduceEq, Int.reduceLT, Int.reduceNeg, Nat.reduceEqDiff, ne_eq, not_false_eq_true, pu_k, mset_k, mset_j, mset_at, va_pu, va_mset, Int.reduceToNat, Int.reduceLE, and_self, true_and, and_true]
  all_goals (try rfl)
  all_goals (repeat' split)
  all_goals first | rfl | simp_all
theorem g63_7 (d : Nat) (x2 : Int) (x3 : Int) (x5 : Int) (x6 : Int) (s1 : Int) (s2 : Int) (M : mM) : ev prog (d + 3) 63 0 7 [vr 87, vj, vi x2, vi x3, vj, vi x5, vi x6] [vi s2, vi s1, vr 88] (shp, M) = if 0 ≤ s1 ∧ s1 < 2031 then callK (run prog (d + 2) 63 [vr 87, vi (wr (x5 + 1)), vi x2, vi (wr (x3 + 1)), vi x6] (shp, mset M 88 (Int.toNat s1) s2)) (fun v σ1 => ev prog (d + 3) 63 0 9 [vj, vj, vj, vj, vj, vj, vi x6] (psh v [vi (wr (1600 + x6)), vr 88]) σ1) (fun e σ1 => hk [0, 0, 0, 0, 0] e σ1 (fun t => ev prog (d + 3) 63 0 t (msk (pMask prog 63 t) [vr 87, vj, vi x2, vi x3, vj, vi x5, vi x6]) [vj] σ1)) else none := by
  rw [b63_7]
  try simp +decide only [b63_0, b63_2, b63_1, b63_3, b63_4, b63_5, b63_6, b63_8, b63_9, b63_10, callK_r, callK_x, psh_s, psh_n, hk_0, hk_1, hk_2, hk_3, hk_4, callK_ite, bit_bi, bit_0, bit_1, eq_self, reduceIte, Int.reduceEq, Int.reduceLT, Int.reduceNeg, Nat.reduceEqDiff, ne_eq, not_false_eq_true, pu_k, mset_k, mset_j, mset_at, va_pu, va_mset, Int.reduceToNat, Int.reduceLE, and_self, true_and, and_true]
  all_goals (try rfl)
  all_goals (repeat' split)
  all_goals first | rfl | simp_all
theorem g63_9 (d : Nat) (x6 : Int) (s1 : Int) (s2 : Int) (M : mM) : ev prog (d + 3) 63 0 9 [vj, vj, vj, vj, vj, vj, vi x6] [vi s2, vi s1, vr 88] (shp, M) = if 0 ≤ s1 ∧ s1 < 2031 then some (.inl (some (vi x6)), (shp, mset M 88 (Int.toNat s1) s2)) else none := by
  rw [b63_9]
  try simp +decide only [b63_0, b63_2, b63_1, b63_3, b63_4, b63_5, b63_6, b63_7, b63_8, b63_10, callK_r, callK_x, psh_s, psh_n, hk_0, hk_1, hk_2, hk_3, hk_4, callK_ite, bit_bi, bit_0, bit_1, eq_self, reduceIte, Int.reduceEq, Int.reduceLT, Int.reduceNeg, Nat.reduceEqDiff, ne_eq, not_false_eq_true, pu_k, mset_k, mset_j, mset_at, va_pu, va_mset, Int.reduceToNat, Int.reduceLE, and_self, true_and, and_true]
  all_goals (try rfl)
  all_goals (repeat' split)
  all_goals first | rfl | simp_all
theorem g64_0 (d : Nat) (x1 : Int) (M : mM) : ev prog (d + 2) 64 0 0 [vr 87, vi x1, vj, vj, vj, vj] [] (shp, M) = if x1 < 0 then some (.inl none, (shp, M)) else (if 0 ≤ (wr (1800 + x1)) ∧ (wr (1800 + x1)) < 2031 then callK (run prog (d + 1) 60 [vr 87, vi x1] (shp, M)) (fun v σ1 => ev prog (d + 2) 64 0 4 [vr 87, vi x1, vi (M 88 (Int.toNat (wr (1800 + x1)))), vj, vj, vj] (psh v []) σ1) (fun e σ1 => hk [0, 0, 0, 0, 0] e σ1 (fun t => ev prog (d + 2) 64 0 t (msk (pMask prog 64 t) [vr 87, vi x1, vi (M 88 (Int.toNat (wr (1800 + x1)))), vj, vj, vj]) [vj] σ1)) else none) := by
  rw [b64_0]
  try simp +decide only [b64_2, b64_1, b64_3, b64_4, b64_8, b64_5, b64_9, b64_6, b64_10, b64_7, b64_11, b64_12, b64_13, b64_16, b64_14, b64_19, b64_17, b64_15, b64_20, b64_18, callK_r, callK_x, psh_s, psh_n, hk_0, hk_1, hk_2, hk_3, hk_4, callK_ite, bit_bi, bit_0, bit_1, eq_self, reduceIte, Int.reduceEq, Int.reduceLT, Int.reduceNeg, Nat.reduceEqDiff, ne_eq, not_false_eq_true, pu_k, mset_k, mset_j, mset_at, va_pu, va_mset, Int.reduceToNat, Int.reduceLE, and_self, true_and, and_true]
  all_goals (try rfl)
  all_goals (repeat' split)
  all_goals first | rfl | simp_all
theorem g64_4 (d : Nat) (x1 : Int) (x2 : Int) (s0 : Int) (M : mM) : ev prog (d + 2) 64 0 4 [vr 87, vi x1, vi x2, vj, vj, vj] [vi s0] (shp, M) = if x2 < 0 then callK (run prog (d + 1) 61 [vr 87, vi x1] (shp, mset M 87 5 0)) (fun v σ1 => ev prog (d + 2) 64 0 10 [vr 87, vj, vi x2, vi s0, vi 0, vj] (psh v []) σ1) (fun e σ1 => hk [0, 0, 0, 0, 0] e σ1 (fun t => ev prog (d + 2) 64 0 t (msk (pMask prog 64 t) [vr 87, vi x1, vi x2, vi s0, vi 0, vj]) [vj] σ1)) else (if 0 ≤ (wr (1400 + x2)) ∧ (wr (1400 + x2)) < 2031 then (if (M 88 (Int.toNat (wr (1400 + x2)))) = x1 then callK (run prog (d + 1) 61 [vr 87, vi x1] (shp, mset M 87 5 0)) (fun v σ1 => ev prog (d + 2) 64 0 10 [vr 87, vj, vi x2, vi s0, vi 1, vj] (psh v []) σ1) (fun e σ1 => hk [0, 0, 0, 0, 0] e σ1 (fun t => ev prog (d + 2) 64 0 t (msk (pMask prog 64 t) [vr 87, vi x1, vi x2, vi s0, vi 1, vj]) [vj] σ1)) else callK (run prog (d + 1) 61 [vr 87, vi x1] (shp, mset M 87 5 0)) (fun v σ1 => ev prog (d + 2) 64 0 10 [vr 87, vj, vi x2, vi s0, vi 0, vj] (psh v []) σ1) (fun e σ1 => hk [0, 0, 0, 0, 0] e σ1 (fun t => ev prog (d + 2) 64 0 t (msk (pMask prog 64 t) [vr 87, vi x1, vi x2, vi s0, vi 0, vj]) [vj] σ1))) else none) := by
  rw [b64_4]
  try simp +decide only [b64_0, b64_2, b64_1, b64_3, b64_8, b64_5, b64_9, b64_6, b64_10, b64_7, b64_11, b64_12, b64_13, b64_16, b64_14, b64_19, b64_17, b64_15, b64_20, b64_18, callK_r, callK_x, psh_s, psh_n, hk_0, hk_1, hk_2, hk_3, hk_4, callK_ite, bit_bi, bit_0, bit_1, eq_self, reduceIte, Int.reduceEq, Int.reduceLT, Int.reduceNeg, Nat.reduceEqDiff, ne_eq, not_false_eq_true, pu_k, mset_k, mset_j, mset_at, va_pu, va_mset, Int.reduceToNat, Int.reduceLE, and_self, true_and, and_true]
  all_goals (try rfl)
  all_goals (repeat' split)
  all_goals first | rfl | simp_all
theorem g64_10 (d : Nat) (x2 : Int) (x3 : Int) (x4 : Int) (M : mM) : ev prog (d + 2) 64 0 10 [vr 87, vj, vi x2, vi x3, vi x4, vj] [] (shp, M) = callK (run prog (d + 1) 63 [vr 87, vi 0, vi (M 87 5), vi x3, vi x2] (shp, mset M 88 2030 (wr ((M 88 2030) + (M 87 5))))) (fun v σ1 => ev prog (d + 2) 64 0 13 [vr 87, vj, vi x2, vj, vi x4, vj] (psh v []) σ1) (fun e σ1 => hk [0, 0, 0, 0, 0] e σ1 (fun t => ev prog (d + 2) 64 0 t (msk (pMask prog 64 t) [vr 87, vj, vi x2, vi x3, vi x4, vj]) [vj] σ1)) := by
  rw [b64_10]
  try simp +decide only [b64_0, b64_2, b64_1, b64_3, b64_4, b64_8, b64_5, b64_9, b64_6, b64_7, b64_11, b64_12, b64_13, b64_16, b64_14, b64_19, b64_17, b64_15, b64_20, b64_18, callK_r, callK_x, psh_s, psh_n, hk_0, hk_1, hk_2, hk_3, hk_4, callK_ite, bit_bi, bit_0, bit_1, eq_self, reduceIte, Int.reduceEq, Int.reduceLT, Int.reduceNeg, Nat.reduceEqDiff, ne_eq, not_false_eq_true, pu_k, mset_k, mset_j, mset_at, va_pu, va_mset, Int.reduceToNat, Int.reduceLE, and_self, true_and, and_true]
  all_goals (try rfl)
  all_goals (repeat' split)
  all_goals first | rfl | simp_all
theorem g64_13 (d : Nat) (x2 : Int) (x4 : Int) (s0 : Int) (M : mM) : ev prog (d + 2) 64 0 13 [vr 87, vj, vi x2, vj, vi x4, vj] [vi s0] (shp, M) = if x2 < 0 then some (.inl none, (shp, mset M 88 2000 s0)) else (if x4 = 0 then (if 0 ≤ (wr (1600 + x2)) ∧ (wr (1600 + x2)) < 2031 then some (.inl none, (shp, mset M 88 (Int.toNat (wr (1600 + x2))) s0)) else none) else (if 0 ≤ (wr (1400 + x2)) ∧ (wr (1400 + x2)) < 2031 then some (.inl none, (shp, mset M 88 (Int.toNat (wr (1400 + x2))) s0)) else none)) := by
  rw [b64_13]
  try simp +decide only [b64_0, b64_2, b64_1, b64_3, b64_4, b64_8, b64_5, b64_9, b64_6, b64_10, b64_7, b64_11, b64_12, b64_16, b64_14, b64_19, b64_17, b64_15, b64_20, b64_18, callK_r, callK_x, psh_s, psh_n, hk_0, hk_1, hk_2, hk_3, hk_4, callK_ite, bit_bi, bit_0, bit_1, eq_self, reduceIte, Int.reduceEq, Int.reduceLT, Int.reduceNeg, Nat.reduceEqDiff, ne_eq, not_false_eq_true, pu_k, mset_k, mset_j, mset_at, va_pu, va_mset, Int.reduceToNat, Int.reduceLE, and_self, true_and, and_true]
  all_goals (try rfl)
  all_goals (repeat' split)
  all_goals first | rfl | simp_all
theorem g65_0 (d : Nat) (x1 : Int) (x2 : Int) (x3 : Int) (x4 : Int) (x5 : Int) (M : mM) : ev prog (d + 4) 65 0 0 [vr 87, vi x1, vi x2, vi x3, vi x4, vi x5, vj, vj, vj] [] (shp, M) = if 0 ≤ (wr (3 * (M 88 2001))) ∧ (wr (3 * (M 88 2001))) < 2031 then (if 0 ≤ (wr ((wr (3 * (M 88 2001))) + 1)) ∧ (wr ((wr (3 * (M 88 2001))) + 1)) < 2031 then (if 0 ≤ (wr ((wr (3 * (M 88 2001))) + 2)) ∧ (wr ((wr (3 * (M 88 2001))) + 2)) < 2031 then (if 0 ≤ (wr (600 + (M 88 2001))) ∧ (wr (600 + (M 88 2001))) < 2031 then (if 0 ≤ (wr (800 + (M 88 2001))) ∧ (wr (800 + (M 88 2001))) < 2031 then (if 0 ≤ (wr (1000 + (M 88 2001))) ∧ (wr (1000 + (M 88 2001))) < 2031 then (if 0 ≤ (wr (1200 + (M 88 2001))) ∧ (wr (1200 + (M 88 2001))) < 2031 then (if 0 ≤ (wr (1400 + (M 88 2001))) ∧ (wr (1400 + (M 88 2001))) < 2031 then (if 0 ≤ (wr (1600 + (M 88 2001))) ∧ (wr (1600 + (M 88 2001))) < 2031 then callK (run prog (d + 3) 57 [vr 87, vi (M 88 2001)] (shp, mset (mset (mset (mset (mset (mset (mset (mset (mset (mset M 88 2001 (wr ((M 88 2001) + 1))) 88 (Int.toNat (wr (3 * (M 88 2001)))) x1) 88 (Int.toNat (wr ((wr (3 * (M 88 2001))) + 1))) x2) 88 (Int.toNat (wr ((wr (3 * (M 88 2001))) + 2))) x3) 88 (Int.toNat (wr (600 + (M 88 2001)))) x4) 88 (Int.toNat (wr (800 + (M 88 2001)))) x5) 88 (Int.toNat (wr (1000 + (M 88 2001)))) 1) 88 (Int.toNat (wr (1200 + (M 88 2001)))) 1) 88 (Int.toNat (wr (1400 + (M 88 2001)))) (-1)) 88 (Int.toNat (wr (1600 + (M 88 2001)))) (-1))) (fun v σ1 => ev prog (d + 4) 65 0 13 [vr 87, vj, vj, vj, vj, vj, vi (M 88 2001), vj, vj] (psh v []) σ1) (fun e σ1 => hk [0, 0, 0, 0, 0] e σ1 (fun t => ev prog (d + 4) 65 0 t (msk (pMask prog 65 t) [vr 87, vj, vj, vj, vj, vj, vi (M 88 2001), vj, vj]) [vj] σ1)) else none) else none) else none) else none) else none) else none) else none) else none) else none := by
  rw [b65_0]
  try simp +decide only [b65_1, b65_2, b65_3, b65_4, b65_5, b65_6, b65_7, b65_8, b65_9, b65_10, b65_11, b65_12, b65_13, b65_14, b65_24, b65_16, b65_17, b65_22, b65_18, b65_23, b65_19, b65_20, b65_21, callK_r, callK_x, psh_s, psh_n, hk_0, hk_1, hk_2, hk_3, hk_4, callK_ite, bit_bi, bit_0, bit_1, eq_self, reduceIte, Int.reduceEq, Int.reduceLT, Int.reduceNeg, Nat.reduceEqDiff, ne_eq, not_false_eq_true, pu_k, mset_k, mset_j, mset_at, va_pu, va_mset, Int.reduceToNat, Int.reduceLE, and_self, true_and, and_true]
  all_goals (try rfl)
  all_goals (repeat' split)
  all_goals first | rfl | simp_all
theorem g65_13 (d : Nat) (x6 : Int) (M : mM) : ev prog (d + 4) 65 0 13 [vr 87, vj, vj, vj, vj, vj, vi x6, vj, vj] [] (shp, M) = ev prog (d + 4) 65 0 15 [vr 87, vj, vj, vj, vj, vj, vi x6, vi 0, vi (M 88 2000)] [] (shp, mset M 87 8 0) := by
  rw [b65_13]
  try simp +decide only [b65_0, b65_1, b65_2, b65_3, b65_4, b65_5, b65_6, b65_7, b65_8, b65_9, b65_10, b65_11, b65_12, b65_14, b65_24, b65_16, b65_17, b65_22, b65_18, b65_23, b65_19, b65_20, b65_21, callK_r, callK_x, psh_s, psh_n, hk_0, hk_1, hk_2, hk_3, hk_4, callK_ite, bit_bi, bit_0, bit_1, eq_self, reduceIte, Int.reduceEq, Int.reduceLT, Int.reduceNeg, Nat.reduceEqDiff, ne_eq, not_false_eq_true, pu_k, mset_k, mset_j, mset_at, va_pu, va_mset, Int.reduceToNat, Int.reduceLE, and_self, true_and, and_true]
  all_goals (try rfl)
  all_goals (repeat' split)
  all_goals first | rfl | simp_all
theorem g65_15 (d : Nat) (x6 : Int) (x7 : Int) (x8 : Int) (M : mM) : ev prog (d + 4) 65 0 15 [vr 87, vj, vj, vj, vj, vj, vi x6, vi x7, vi x8] [] (shp, M) = if x8 = x6 then some (.inl (some (vi x6)), (shp, M)) else callK (run prog (d + 3) 59 [vr 87, vi x8] (shp, M)) (fun v σ1 => ev prog (d + 4) 65 0 17 [vr 87, vj, vj, vj, vj, vj, vi x6, vi x7, vi x8] (psh v []) σ1) (fun e σ1 => hk [0, 0, 0, 0, 0] e σ1 (fun t => ev prog (d + 4) 65 0 t (msk (pMask prog 65 t) [vr 87, vj, vj, vj, vj, vj, vi x6, vi x7, vi x8]) [vj] σ1)) := by
  rw [b65_15]
  try simp +decide only [b65_0, b65_1, b65_2, b65_3, b65_4, b65_5, b65_6, b65_7, b65_8, b65_9, b65_10, b65_11, b65_12, b65_13, b65_14, b65_24, b65_16, b65_17, b65_22, b65_18, b65_23, b65_19, b65_20, b65_21, callK_r, callK_x, psh_s, psh_n, hk_0, hk_1, hk_2, hk_3, hk_4, callK_ite, bit_bi, bit_0, bit_1, eq_self, reduceIte, Int.reduceEq, Int.reduceLT, Int.reduceNeg, Nat.reduceEqDiff, ne_eq, not_false_eq_true, pu_k, mset_k, mset_j, mset_at, va_pu, va_mset, Int.reduceToNat, Int.reduceLE, and_self, true_and, and_true]
  all_goals (try rfl)
  all_goals (repeat' split)
  all_goals first | rfl | simp_all
theorem g65_17 (d : Nat) (x6 : Int) (x7 : Int) (x8 : Int) (s0 : Int) (M : mM) : ev prog (d + 4) 65 0 17 [vr 87, vj, vj, vj, vj, vj, vi x6, vi x7, vi x8] [vi s0] (shp, M) = if s0 = 0 then callK (run prog (d + 3) 56 [vr 87, vi x8, vi x6, vi x7] (shp, M)) (fun v σ1 => ev prog (d + 4) 65 0 23 [vr 87, vj, vj, vj, vj, vj, vi x6, vi x7, vj] (psh v []) σ1) (fun e σ1 => hk [0, 0, 0, 0, 0] e σ1 (fun t => ev prog (d + 4) 65 0 t (msk (pMask prog 65 t) [vr 87, vj, vj, vj, vj, vj, vi x6, vi x7, vi x8]) [vj] σ1)) else callK (run prog (d + 3) 64 [vr 87, vi x8] (shp, mset M 88 2027 (wr ((M 88 2027) + 1)))) (fun v σ1 => ev prog (d + 4) 65 0 21 [vj, vj, vj, vj, vj, vj, vi x6, vj, vj] (psh v []) σ1) (fun e σ1 => hk [0, 0, 0, 0, 0] e σ1 (fun t => ev prog (d + 4) 65 0 t (msk (pMask prog 65 t) [vr 87, vj, vj, vj, vj, vj, vi x6, vj, vi x8]) [vj] σ1)) := by
  rw [b65_17]
  try simp +decide only [b65_0, b65_1, b65_2, b65_3, b65_4, b65_5, b65_6, b65_7, b65_8, b65_9, b65_10, b65_11, b65_12, b65_13, b65_14, b65_24, b65_16, b65_22, b65_18, b65_23, b65_19, b65_20, b65_21, callK_r, callK_x, psh_s, psh_n, hk_0, hk_1, hk_2, hk_3, hk_4, callK_ite, bit_bi, bit_0, bit_1, eq_self, reduceIte, Int.reduceEq, Int.reduceLT, Int.reduceNeg, Nat.reduceEqDiff, ne_eq, not_false_eq_true, pu_k, mset_k, mset_j, mset_at, va_pu, va_mset, Int.reduceToNat, Int.reduceLE, and_self, true_and, and_true]
  all_goals (try rfl)
  all_goals (repeat' split)
  all_goals first | rfl | simp_all
theorem g65_21 (d : Nat) (x6 : Int) (M : mM) : ev prog (d + 4) 65 0 21 [vj, vj, vj, vj, vj, vj, vi x6, vj, vj] [] (shp, M) = some (.inl (some (vi x6)), (shp, M)) := by
  rw [b65_21]
  try simp +decide only [b65_0, b65_1, b65_2, b65_3, b65_4, b65_5, b65_6, b65_7, b65_8, b65_9, b65_10, b65_11, b65_12, b65_13, b65_14, b65_24, b65_16, b65_17, b65_22, b65_18, b65_23, b65_19, b65_20, callK_r, callK_x, psh_s, psh_n, hk_0, hk_1, hk_2, hk_3, hk_4, callK_ite, bit_bi, bit_0, bit_1, eq_self, reduceIte, Int.reduceEq, Int.reduceLT, Int.reduceNeg, Nat.reduceEqDiff, ne_eq, not_false_eq_true, pu_k, mset_k, mset_j, mset_at, va_pu, va_mset, Int.reduceToNat, Int.reduceLE, and_self, true_and, and_true]
  all_goals (try rfl)
  all_goals (repeat' split)
  all_goals first | rfl | simp_all
theorem g65_23 (d : Nat) (x6 : Int) (x7 : Int) (s0 : Int) (M : mM) : ev prog (d + 4) 65 0 23 [vr 87, vj, vj, vj, vj, vj, vi x6, vi x7, vj] [vi s0] (shp, M) = ev prog (d + 4) 65 0 15 [vr 87, vj, vj, vj, vj, vj, vi x6, vi (wr (x7 + 1)), vi s0] [] (shp, M) := by
  rw [b65_23]
  try simp +decide only [b65_0, b65_1, b65_2, b65_3, b65_4, b65_5, b65_6, b65_7, b65_8, b65_9, b65_10, b65_11, b65_12, b65_13, b65_14, b65_24, b65_16, b65_17, b65_22, b65_18, b65_19, b65_20, b65_21, callK_r, callK_x, psh_s, psh_n, hk_0, hk_1, hk_2, hk_3, hk_4, callK_ite, bit_bi, bit_0, bit_1, eq_self, reduceIte, Int.reduceEq, Int.reduceLT, Int.reduceNeg, Nat.reduceEqDiff, ne_eq, not_false_eq_true, pu_k, mset_k, mset_j, mset_at, va_pu, va_mset, Int.reduceToNat, Int.reduceLE, and_self, true_and, and_true]
  all_goals (try rfl)
  all_goals (repeat' split)
  all_goals first | rfl | simp_all
theorem g66_0 (d : Nat) (x1 : Int) (x2 : Int) (x3 : Int) (x4 : Int) (x5 : Int) (M : mM) : ev prog (d + 3) 66 0 0 [vr 87, vi x1, vi x2, vi x3, vi x4, vi x5] [] (shp, M) = if (bi (p52 x1 x2 x3 (mset M 87 3 0))) = 0 then some (.inl (some (vi 0)), (shp, mset (mset M 87 3 0) 87 3 1)) else (if (bi (p51 x4 0 99 (mset M 87 3 0))) = 0 then some (.inl (some (vi 0)), (shp, mset (mset M 87 3 0) 87 3 1)) else (if (bi (p51 x5 0 9 (mset M 87 3 0))) = 0 then some (.inl (some (vi 0)), (shp, mset (mset M 87 3 0) 87 3 1)) else callK (run prog (d + 2) 54 [vr 87] (shp, mset M 87 3 0)) (fun v σ1 => ev prog (d + 3) 66 0 9 [vr 87, vi x1, vi x2, vi x3, vi x4, vi x5] (psh v []) σ1) (fun e σ1 => hk [0, 0, 0, 0, 0] e σ1 (fun t => ev prog (d + 3) 66 0 t (msk (pMask prog 66 t) [vr 87, vi x1, vi x2, vi x3, vi x4, vi x5]) [vj] σ1)))) := by
  rw [b66_0]
  try simp +decide only [b66_1, b66_6, b66_2, b66_7, b66_3, b66_4, b66_5, b66_8, b66_9, b66_12, b66_10, b66_13, b66_11, b66_15, b66_14, s53, s51, s52, o53, callK_r, callK_x, psh_s, psh_n, hk_0, hk_1, hk_2, hk_3, hk_4, callK_ite, bit_bi, bit_0, bit_1, eq_self, reduceIte, Int.reduceEq, Int.reduceLT, Int.reduceNeg, Nat.reduceEqDiff, ne_eq, not_false_eq_true, pu_k, mset_k, mset_j, mset_at, va_pu, va_mset, Int.reduceToNat, Int.reduceLE, and_self, true_and, and_true]
  all_goals (try rfl)
  all_goals (repeat' split)
  all_goals first | rfl | simp_all
theorem g66_9 (d : Nat) (x1 : Int) (x2 : Int) (x3 : Int) (x4 : Int) (x5 : Int) (s0 : Int) (M : mM) : ev prog (d + 3) 66 0 9 [vr 87, vi x1, vi x2, vi x3, vi x4, vi x5] [vi s0] (shp, M) = if s0 = 60 then some (.inl (some (vi 0)), (shp, mset M 87 3 2)) else (if (M 88 2001) = 200 then some (.inl (some (vi 0)), (shp, mset M 87 3 2)) else callK (run prog (d + 2) 65 [vr 87, vi x1, vi x2, vi x3, vi x4, vi x5] (shp, M)) (fun v σ1 => ev prog (d + 3) 66 0 15 [vj, vj, vj, vj, vj, vj] (psh v []) σ1) (fun e σ1 => hk [0, 0, 0, 0, 0] e σ1 (fun t => ev prog (d + 3) 66 0 t (msk (pMask prog 66 t) [vr 87, vi x1, vi x2, vi x3, vi x4, vi x5]) [vj] σ1))) := by
  rw [b66_9]
  try simp +decide only [b66_0, b66_1, b66_6, b66_2, b66_7, b66_3, b66_4, b66_5, b66_8, b66_12, b66_10, b66_13, b66_11, b66_15, b66_14, s53, o53, callK_r, callK_x, psh_s, psh_n, hk_0, hk_1, hk_2, hk_3, hk_4, callK_ite, bit_bi, bit_0, bit_1, eq_self, reduceIte, Int.reduceEq, Int.reduceLT, Int.reduceNeg, Nat.reduceEqDiff, ne_eq, not_false_eq_true, pu_k, mset_k, mset_j, mset_at, va_pu, va_mset, Int.reduceToNat, Int.reduceLE, and_self, true_and, and_true]
  all_goals (try rfl)
  all_goals (repeat' split)
  all_goals first | rfl | simp_all
theorem g66_15 (d : Nat) (s0 : Int) (M : mM) : ev prog (d + 3) 66 0 15 [vj, vj, vj, vj, vj, vj] [vi s0] (shp, M) = some (.inl (some (vi s0)), (shp, M)) := by
  rw [b66_15]
  try simp +decide only [b66_0, b66_1, b66_6, b66_2, b66_7, b66_3, b66_4, b66_5, b66_8, b66_9, b66_12, b66_10, b66_13, b66_11, b66_14, callK_r, callK_x, psh_s, psh_n, hk_0, hk_1, hk_2, hk_3, hk_4, callK_ite, bit_bi, bit_0, bit_1, eq_self, reduceIte, Int.reduceEq, Int.reduceLT, Int.reduceNeg, Nat.reduceEqDiff, ne_eq, not_false_eq_true, pu_k, mset_k, mset_j, mset_at, va_pu, va_mset, Int.reduceToNat, Int.reduceLE, and_self, true_and, and_true]
  all_goals (try rfl)
  all_goals (repeat' split)
  all_goals first | rfl | simp_all
theorem g69_0 (d : Nat) (x1 : Int) (M : mM) : ev prog (d + 7) 69 0 0 [vr 6, vi x1, vj] [] (shp, M) = callK (run prog (d + 6) 38 [vr 12] (shp, mset (pu M 11 200 x1 0) 7 5 (wr ((M 7 5) - 1)))) (fun v σ1 => ev prog (d + 7) 69 0 2 [vr 6, vj, vj] (psh v []) σ1) (fun e σ1 => hk [0, 0, 0, 0, 0] e σ1 (fun t => ev prog (d + 7) 69 0 t (msk (pMask prog 69 t) [vr 6, vj, vj]) [vj] σ1)) := by
  rw [b69_0]
  try simp +decide only [b69_1, b69_2, b69_3, b69_5, b69_4, s68, o68, callK_r, callK_x, psh_s, psh_n, hk_0, hk_1, hk_2, hk_3, hk_4, callK_ite, bit_bi, bit_0, bit_1, eq_self, reduceIte, Int.reduceEq, Int.reduceLT, Int.reduceNeg, Nat.reduceEqDiff, ne_eq, not_false_eq_true, pu_k, mset_k, mset_j, mset_at, va_pu, va_mset, Int.reduceToNat, Int.reduceLE, and_self, true_and, and_true]
  all_goals (try rfl)
  all_goals (repeat' split)
  all_goals first | rfl | simp_all
theorem g69_2 (d : Nat) (M : mM) : ev prog (d + 7) 69 0 2 [vr 6, vj, vj] [] (shp, M) = if (wr ((r39 1 M) * (M 21 1))) < (wr ((wr ((M 21 1) - (M 7 5))) * 100)) then callK (run prog (d + 6) 47 [vr 25, vi (M 12 11), vi 1] (shp, M)) (fun v σ1 => ev prog (d + 7) 69 0 5 [vj, vj, vj] (psh v []) σ1) (fun e σ1 => hk [0, 0, 0, 0, 0] e σ1 (fun t => ev prog (d + 7) 69 0 t (msk (pMask prog 69 t) [vr 6, vj, vj]) [vj] σ1)) else some (.inl none, (shp, M)) := by
  rw [b69_2]
  try simp +decide only [b69_0, b69_1, b69_3, b69_5, b69_4, s39, callK_r, callK_x, psh_s, psh_n, hk_0, hk_1, hk_2, hk_3, hk_4, callK_ite, bit_bi, bit_0, bit_1, eq_self, reduceIte, Int.reduceEq, Int.reduceLT, Int.reduceNeg, Nat.reduceEqDiff, ne_eq, not_false_eq_true, pu_k, mset_k, mset_j, mset_at, va_pu, va_mset, Int.reduceToNat, Int.reduceLE, and_self, true_and, and_true]
  all_goals (try rfl)
  all_goals (repeat' split)
  all_goals first | rfl | simp_all
theorem g69_5 (d : Nat) (M : mM) : ev prog (d + 7) 69 0 5 [vj, vj, vj] [] (shp, M) = some (.inl none, (shp, M)) := by
  rw [b69_5]
  try simp +decide only [b69_0, b69_1, b69_2, b69_3, b69_4, callK_r, callK_x, psh_s, psh_n, hk_0, hk_1, hk_2, hk_3, hk_4, callK_ite, bit_bi, bit_0, bit_1, eq_self, reduceIte, Int.reduceEq, Int.reduceLT, Int.reduceNeg, Nat.reduceEqDiff, ne_eq, not_false_eq_true, pu_k, mset_k, mset_j, mset_at, va_pu, va_mset, Int.reduceToNat, Int.reduceLE, and_self, true_and, and_true]
  all_goals (try rfl)
  all_goals (repeat' split)
  all_goals first | rfl | simp_all
theorem g70_0 (d : Nat) (x1 : Int) (M : mM) : ev prog (d + 8) 70 0 0 [vr 5, vi x1] [] (shp, M) = if (bi (p32 x1 M)) = 0 then some (.inr 2, (shp, M)) else callK (run prog (d + 7) 69 [vr 6, vi x1] (shp, mset M 79 4 0)) (fun v σ1 => ev prog (d + 8) 70 0 5 [vr 5, vj] (psh v []) σ1) (fun e σ1 => hk [0, 0, 0, 0, 0] e σ1 (fun t => ev prog (d + 8) 70 0 t (msk (pMask prog 70 t) [vr 5, vi x1]) [vj] σ1)) := by
  rw [b70_0]
  try simp +decide only [b70_1, b70_3, b70_2, b70_4, b70_5, s16, s32, o16, callK_r, callK_x, psh_s, psh_n, hk_0, hk_1, hk_2, hk_3, hk_4, callK_ite, bit_bi, bit_0, bit_1, eq_self, reduceIte, Int.reduceEq, Int.reduceLT, Int.reduceNeg, Nat.reduceEqDiff, ne_eq, not_false_eq_true, pu_k, mset_k, mset_j, mset_at, va_pu, va_mset, Int.reduceToNat, Int.reduceLE, and_self, true_and, and_true]
  all_goals (try rfl)
  all_goals (repeat' split)
  all_goals first | rfl | simp_all
theorem g70_5 (d : Nat) (M : mM) : ev prog (d + 8) 70 0 5 [vr 5, vj] [] (shp, M) = some (.inl (some (vi (M 7 5))), (shp, M)) := by
  rw [b70_5]
  try simp +decide only [b70_0, b70_1, b70_3, b70_2, b70_4, callK_r, callK_x, psh_s, psh_n, hk_0, hk_1, hk_2, hk_3, hk_4, callK_ite, bit_bi, bit_0, bit_1, eq_self, reduceIte, Int.reduceEq, Int.reduceLT, Int.reduceNeg, Nat.reduceEqDiff, ne_eq, not_false_eq_true, pu_k, mset_k, mset_j, mset_at, va_pu, va_mset, Int.reduceToNat, Int.reduceLE, and_self, true_and, and_true]
  all_goals (try rfl)
  all_goals (repeat' split)
  all_goals first | rfl | simp_all
theorem g72_0 (d : Nat) (x1 : Int) (M : mM) : ev prog (d + 2) 72 0 0 [vr 87, vi x1] [] (shp, M) = some (.inl (some (vi (bi (p51 x1 0 (wr ((M 88 2001) - 1)) M)))), (shp, M)) := by
  rw [b72_0]
  try simp +decide only [b72_1, b72_2, s51, callK_r, callK_x, psh_s, psh_n, hk_0, hk_1, hk_2, hk_3, hk_4, callK_ite, bit_bi, bit_0, bit_1, eq_self, reduceIte, Int.reduceEq, Int.reduceLT, Int.reduceNeg, Nat.reduceEqDiff, ne_eq, not_false_eq_true, pu_k, mset_k, mset_j, mset_at, va_pu, va_mset, Int.reduceToNat, Int.reduceLE, and_self, true_and, and_true]
  all_goals (try rfl)
  all_goals (repeat' split)
  all_goals first | rfl | simp_all
theorem g73_0 (d : Nat) (x1 : Int) (M : mM) : ev prog (d + 3) 73 0 0 [vr 87, vi x1] [] (shp, M) = callK (run prog (d + 2) 72 [vr 87, vi x1] (shp, M)) (fun v σ1 => ev prog (d + 3) 73 0 1 [vr 87, vi x1] (psh v []) σ1) (fun e σ1 => hk [0, 0, 0, 0, 0] e σ1 (fun t => ev prog (d + 3) 73 0 t (msk (pMask prog 73 t) [vr 87, vi x1]) [vj] σ1)) := by
  rw [b73_0]
  try simp +decide only [b73_1, b73_5, b73_2, b73_6, b73_3, b73_4, callK_r, callK_x, psh_s, psh_n, hk_0, hk_1, hk_2, hk_3, hk_4, callK_ite, bit_bi, bit_0, bit_1, eq_self, reduceIte, Int.reduceEq, Int.reduceLT, Int.reduceNeg, Nat.reduceEqDiff, ne_eq, not_false_eq_true, pu_k, mset_k, mset_j, mset_at, va_pu, va_mset, Int.reduceToNat, Int.reduceLE, and_self, true_and, and_true]
  all_goals (try rfl)
  all_goals (repeat' split)
  all_goals first | rfl | simp_all
theorem g73_1 (d : Nat) (x1 : Int) (s0 : Int) (M : mM) : ev prog (d + 3) 73 0 1 [vr 87, vi x1] [vi s0] (shp, M) = if s0 = 0 then some (.inl (some (vi 0)), (shp, M)) else (if 0 ≤ (wr (1000 + x1)) ∧ (wr (1000 + x1)) < 2031 then (if (M 88 (Int.toNat (wr (1000 + x1)))) = 1 then some (.inl (some (vi 1)), (shp, M)) else some (.inl (some (vi 0)), (shp, M))) else none) := by
  rw [b73_1]
  try simp +decide only [b73_0, b73_5, b73_2, b73_6, b73_3, b73_4, callK_r, callK_x, psh_s, psh_n, hk_0, hk_1, hk_2, hk_3, hk_4, callK_ite, bit_bi, bit_0, bit_1, eq_self, reduceIte, Int.reduceEq, Int.reduceLT, Int.reduceNeg, Nat.reduceEqDiff, ne_eq, not_false_eq_true, pu_k, mset_k, mset_j, mset_at, va_pu, va_mset, Int.reduceToNat, Int.reduceLE, and_self, true_and, and_true]
  all_goals (try rfl)
  all_goals (repeat' split)
  all_goals first | rfl | simp_all
theorem g74_0 (d : Nat) (M : mM) : ev prog (d + 1) 74 0 0 [vr 87, vj, vj] [] (shp, M) = ev prog (d + 1) 74 0 1 [vr 87, vi 0, vi 0] [] (shp, M) := by
  rw [b74_0]
  try simp +decide only [b74_2, b74_10, b74_3, b74_4, b74_8, b74_5, b74_9, b74_6, b74_7, callK_r, callK_x, psh_s, psh_n, hk_0, hk_1, hk_2, hk_3, hk_4, callK_ite, bit_bi, bit_0, bit_1, eq_self, reduceIte, Int.reduceEq, Int.reduceLT, Int.reduceNeg, Nat.reduceEqDiff, ne_eq, not_false_eq_true, pu_k, mset_k, mset_j, mset_at, va_pu, va_mset, Int.reduceToNat, Int.reduceLE, and_self, true_and, and_true]
  all_goals (try rfl)
  all_goals (repeat' split)
  all_goals first | rfl | simp_all
theorem g74_1 (d : Nat) (x1 : Int) (x2 : Int) (M : mM) : ev prog (d + 1) 74 0 1 [vr 87, vi x1, vi x2] [] (shp, M) = if x2 < (M 88 2001) then (if 0 ≤ (wr (1200 + x2)) ∧ (wr (1200 + x2)) < 2031 then (if (M 88 (Int.toNat (wr (1200 + x2)))) = 1 then (if 0 ≤ (wr (1000 + x2)) ∧ (wr (1000 + x2)) < 2031 then (if (M 88 (Int.toNat (wr (1000 + x2)))) = 0 then ev prog (d + 1) 74 0 1 [vr 87, vi (wr (x1 + 1)), vi (wr (x2 + 1))] [] (shp, M) else ev prog (d + 1) 74 0 1 [vr 87, vi (wr (x1 + 0)), vi (wr (x2 + 1))] [] (shp, M)) else none) else ev prog (d + 1) 74 0 1 [vr 87, vi (wr (x1 + 0)), vi (wr (x2 + 1))] [] (shp, M)) else none) else some (.inl (some (vi x1)), (shp, M)) := by
  rw [b74_1]
  try simp +decide only [b74_0, b74_2, b74_10, b74_3, b74_4, b74_8, b74_5, b74_9, b74_6, b74_7, callK_r, callK_x, psh_s, psh_n, hk_0, hk_1, hk_2, hk_3, hk_4, callK_ite, bit_bi, bit_0, bit_1, eq_self, reduceIte, Int.reduceEq, Int.reduceLT, Int.reduceNeg, Nat.reduceEqDiff, ne_eq, not_false_eq_true, pu_k, mset_k, mset_j, mset_at, va_pu, va_mset, Int.reduceToNat, Int.reduceLE, and_self, true_and, and_true]
  all_goals (try rfl)
  all_goals (repeat' split)
  all_goals first | rfl | simp_all
theorem g75_0 (d : Nat) (M : mM) : ev prog (d + 1) 75 0 0 [vr 87, vj, vj] [] (shp, M) = ev prog (d + 1) 75 0 1 [vr 87, vi 0, vi 0] [] (shp, M) := by
  rw [b75_0]
  try simp +decide only [b75_2, b75_5, b75_3, b75_4, callK_r, callK_x, psh_s, psh_n, hk_0, hk_1, hk_2, hk_3, hk_4, callK_ite, bit_bi, bit_0, bit_1, eq_self, reduceIte, Int.reduceEq, Int.reduceLT, Int.reduceNeg, Nat.reduceEqDiff, ne_eq, not_false_eq_true, pu_k, mset_k, mset_j, mset_at, va_pu, va_mset, Int.reduceToNat, Int.reduceLE, and_self, true_and, and_true]
  all_goals (try rfl)
  all_goals (repeat' split)
  all_goals first | rfl | simp_all
theorem g75_1 (d : Nat) (x1 : Int) (x2 : Int) (M : mM) : ev prog (d + 1) 75 0 1 [vr 87, vi x1, vi x2] [] (shp, M) = if x2 < (M 88 2001) then (if 0 ≤ (wr (1200 + x2)) ∧ (wr (1200 + x2)) < 2031 then ev prog (d + 1) 75 0 1 [vr 87, vi (wr (x1 + (M 88 (Int.toNat (wr (1200 + x2)))))), vi (wr (x2 + 1))] [] (shp, M) else none) else some (.inl (some (vi x1)), (shp, M)) := by
  rw [b75_1]
  try simp +decide only [b75_0, b75_2, b75_5, b75_3, b75_4, callK_r, callK_x, psh_s, psh_n, hk_0, hk_1, hk_2, hk_3, hk_4, callK_ite, bit_bi, bit_0, bit_1, eq_self, reduceIte, Int.reduceEq, Int.reduceLT, Int.reduceNeg, Nat.reduceEqDiff, ne_eq, not_false_eq_true, pu_k, mset_k, mset_j, mset_at, va_pu, va_mset, Int.reduceToNat, Int.reduceLE, and_self, true_and, and_true]
  all_goals (try rfl)
  all_goals (repeat' split)
  all_goals first | rfl | simp_all
theorem g76_0 (d : Nat) (x1 : Int) (M : mM) : ev prog (d + 4) 76 0 0 [vr 87, vi x1] [] (shp, M) = callK (run prog (d + 3) 73 [vr 87, vi x1] (shp, mset M 87 3 0)) (fun v σ1 => ev prog (d + 4) 76 0 1 [vr 87, vi x1] (psh v []) σ1) (fun e σ1 => hk [0, 0, 0, 0, 0] e σ1 (fun t => ev prog (d + 4) 76 0 t (msk (pMask prog 76 t) [vr 87, vi x1]) [vj] σ1)) := by
  rw [b76_0]
  try simp +decide only [b76_1, b76_4, b76_2, b76_5, b76_3, b76_6, b76_7, b76_8, b76_13, b76_9, b76_14, b76_10, b76_11, b76_12, callK_r, callK_x, psh_s, psh_n, hk_0, hk_1, hk_2, hk_3, hk_4, callK_ite, bit_bi, bit_0, bit_1, eq_self, reduceIte, Int.reduceEq, Int.reduceLT, Int.reduceNeg, Nat.reduceEqDiff, ne_eq, not_false_eq_true, pu_k, mset_k, mset_j, mset_at, va_pu, va_mset, Int.reduceToNat, Int.reduceLE, and_self, true_and, and_true]
  all_goals (try rfl)
  all_goals (repeat' split)
  all_goals first | rfl | simp_all
theorem g76_1 (d : Nat) (x1 : Int) (s0 : Int) (M : mM) : ev prog (d + 4) 76 0 1 [vr 87, vi x1] [vi s0] (shp, M) = if s0 = 0 then some (.inl (some (vi 0)), (shp, mset M 87 3 1)) else (if 0 ≤ (wr (1000 + x1)) ∧ (wr (1000 + x1)) < 2031 then callK (run prog (d + 3) 74 [vr 87] (shp, mset (mset M 88 (Int.toNat (wr (1000 + x1))) 0) 87 8 0)) (fun v σ1 => ev prog (d + 4) 76 0 6 [vr 87, vj] (psh v [vi 100]) σ1) (fun e σ1 => hk [0, 0, 0, 0, 0] e σ1 (fun t => ev prog (d + 4) 76 0 t (msk (pMask prog 76 t) [vr 87, vj]) [vj] σ1)) else none) := by
  rw [b76_1]
  try simp +decide only [b76_0, b76_4, b76_2, b76_5, b76_3, b76_6, b76_7, b76_8, b76_13, b76_9, b76_14, b76_10, b76_11, b76_12, s53, o53, callK_r, callK_x, psh_s, psh_n, hk_0, hk_1, hk_2, hk_3, hk_4, callK_ite, bit_bi, bit_0, bit_1, eq_self, reduceIte, Int.reduceEq, Int.reduceLT, Int.reduceNeg, Nat.reduceEqDiff, ne_eq, not_false_eq_true, pu_k, mset_k, mset_j, mset_at, va_pu, va_mset, Int.reduceToNat, Int.reduceLE, and_self, true_and, and_true]
  all_goals (try rfl)
  all_goals (repeat' split)
  all_goals first | rfl | simp_all
theorem g76_6 (d : Nat) (s0 : Int) (s1 : Int) (M : mM) : ev prog (d + 4) 76 0 6 [vr 87, vj] [vi s1, vi s0] (shp, M) = callK (run prog (d + 3) 75 [vr 87] (shp, M)) (fun v σ1 => ev prog (d + 4) 76 0 8 [vr 87, vj] (psh v [vi (M 88 2003), vi (wr (s0 * s1))]) σ1) (fun e σ1 => hk [0, 0, 0, 0, 0] e σ1 (fun t => ev prog (d + 4) 76 0 t (msk (pMask prog 76 t) [vr 87, vj]) [vj] σ1)) := by
  rw [b76_6]
  try simp +decide only [b76_0, b76_1, b76_4, b76_2, b76_5, b76_3, b76_7, b76_8, b76_13, b76_9, b76_14, b76_10, b76_11, b76_12, callK_r, callK_x, psh_s, psh_n, hk_0, hk_1, hk_2, hk_3, hk_4, callK_ite, bit_bi, bit_0, bit_1, eq_self, reduceIte, Int.reduceEq, Int.reduceLT, Int.reduceNeg, Nat.reduceEqDiff, ne_eq, not_false_eq_true, pu_k, mset_k, mset_j, mset_at, va_pu, va_mset, Int.reduceToNat, Int.reduceLE, and_self, true_and, and_true]
  all_goals (try rfl)
  all_goals (repeat' split)
  all_goals first | rfl | simp_all
theorem g76_8 (d : Nat) (s0 : Int) (s1 : Int) (s2 : Int) (M : mM) : ev prog (d + 4) 76 0 8 [vr 87, vj] [vi s2, vi s1, vi s0] (shp, M) = if (wr (s1 * s2)) < s0 then callK (run prog (d + 3) 64 [vr 87, vi (M 88 2000)] (shp, mset M 88 2028 (wr ((M 88 2028) + 1)))) (fun v σ1 => ev prog (d + 4) 76 0 13 [vr 87, vj] (psh v []) σ1) (fun e σ1 => hk [0, 0, 0, 0, 0] e σ1 (fun t => ev prog (d + 4) 76 0 t (msk (pMask prog 76 t) [vr 87, vj]) [vj] σ1)) else callK (run prog (d + 3) 54 [vr 87] (shp, M)) (fun v σ1 => ev prog (d + 4) 76 0 14 [vj, vj] (psh v []) σ1) (fun e σ1 => hk [0, 0, 0, 0, 0] e σ1 (fun t => ev prog (d + 4) 76 0 t (msk (pMask prog 76 t) [vr 87, vj]) [vj] σ1)) := by
  rw [b76_8]
  try simp +decide only [b76_0, b76_1, b76_4, b76_2, b76_5, b76_3, b76_6, b76_7, b76_13, b76_9, b76_14, b76_10, b76_11, b76_12, callK_r, callK_x, psh_s, psh_n, hk_0, hk_1, hk_2, hk_3, hk_4, callK_ite, bit_bi, bit_0, bit_1, eq_self, reduceIte, Int.reduceEq, Int.reduceLT, Int.reduceNeg, Nat.reduceEqDiff, ne_eq, not_false_eq_true, pu_k, mset_k, mset_j, mset_at, va_pu, va_mset, Int.reduceToNat, Int.reduceLE, and_self, true_and, and_true]
  all_goals (try rfl)
  all_goals (repeat' split)
  all_goals first | rfl | simp_all
theorem g76_13 (d : Nat) (M : mM) : ev prog (d + 4) 76 0 13 [vr 87, vj] [] (shp, M) = callK (run prog (d + 3) 54 [vr 87] (shp, M)) (fun v σ1 => ev prog (d + 4) 76 0 14 [vj, vj] (psh v []) σ1) (fun e σ1 => hk [0, 0, 0, 0, 0] e σ1 (fun t => ev prog (d + 4) 76 0 t (msk (pMask prog 76 t) [vr 87, vj]) [vj] σ1)) := by
  rw [b76_13]
  try simp +decide only [b76_0, b76_1, b76_4, b76_2, b76_5, b76_3, b76_6, b76_7, b76_8, b76_9, b76_14, b76_10, b76_11, b76_12, callK_r, callK_x, psh_s, psh_n, hk_0, hk_1, hk_2, hk_3, hk_4, callK_ite, bit_bi, bit_0, bit_1, eq_self, reduceIte, Int.reduceEq, Int.reduceLT, Int.reduceNeg, Nat.reduceEqDiff, ne_eq, not_false_eq_true, pu_k, mset_k, mset_j, mset_at, va_pu, va_mset, Int.reduceToNat, Int.reduceLE, and_self, true_and, and_true]
  all_goals (try rfl)
  all_goals (repeat' split)
  all_goals first | rfl | simp_all
theorem g76_14 (d : Nat) (s0 : Int) (M : mM) : ev prog (d + 4) 76 0 14 [vj, vj] [vi s0] (shp, M) = some (.inl (some (vi s0)), (shp, M)) := by
  rw [b76_14]
  try simp +decide only [b76_0, b76_1, b76_4, b76_2, b76_5, b76_3, b76_6, b76_7, b76_8, b76_13, b76_9, b76_10, b76_11, b76_12, callK_r, callK_x, psh_s, psh_n, hk_0, hk_1, hk_2, hk_3, hk_4, callK_ite, bit_bi, bit_0, bit_1, eq_self, reduceIte, Int.reduceEq, Int.reduceLT, Int.reduceNeg, Nat.reduceEqDiff, ne_eq, not_false_eq_true, pu_k, mset_k, mset_j, mset_at, va_pu, va_mset, Int.reduceToNat, Int.reduceLE, and_self, true_and, and_true]
  all_goals (try rfl)
  all_goals (repeat' split)
  all_goals first | rfl | simp_all
theorem g78_0 (d : Nat) (x1 : Int) (M : mM) : ev prog (d + 4) 78 0 0 [vr 87, vi x1] [] (shp, M) = callK (run prog (d + 3) 73 [vr 87, vi x1] (shp, mset M 87 3 0)) (fun v σ1 => ev prog (d + 4) 78 0 1 [vj, vj] (psh v []) σ1) (fun e σ1 => hk [0, 0, 0, 0, 0] e σ1 (fun t => ev prog (d + 4) 78 0 t (msk (pMask prog 78 t) [vr 87, vi x1]) [vj] σ1)) := by
  rw [b78_0]
  try simp +decide only [b78_1, callK_r, callK_x, psh_s, psh_n, hk_0, hk_1, hk_2, hk_3, hk_4, callK_ite, bit_bi, bit_0, bit_1, eq_self, reduceIte, Int.reduceEq, Int.reduceLT, Int.reduceNeg, Nat.reduceEqDiff, ne_eq, not_false_eq_true, pu_k, mset_k, mset_j, mset_at, va_pu, va_mset, Int.reduceToNat, Int.reduceLE, and_self, true_and, and_true]
  all_goals (try rfl)
  all_goals (repeat' split)
  all_goals first | rfl | simp_all
theorem g78_1 (d : Nat) (s0 : Int) (M : mM) : ev prog (d + 4) 78 0 1 [vj, vj] [vi s0] (shp, M) = if bit? s0 = true then some (.inl (some (vi s0)), (shp, M)) else none := by
  rw [b78_1]
  try simp +decide only [b78_0, callK_r, callK_x, psh_s, psh_n, hk_0, hk_1, hk_2, hk_3, hk_4, callK_ite, bit_bi, bit_0, bit_1, eq_self, reduceIte, Int.reduceEq, Int.reduceLT, Int.reduceNeg, Nat.reduceEqDiff, ne_eq, not_false_eq_true, pu_k, mset_k, mset_j, mset_at, va_pu, va_mset, Int.reduceToNat, Int.reduceLE, and_self, true_and, and_true]
  all_goals (try rfl)
  all_goals (repeat' split)
  all_goals first | rfl | simp_all
theorem g84_0 (d : Nat) (x1 : Int) (x2 : Int) (M : mM) : ev prog (d + 3) 84 0 0 [vr 87, vi x1, vi x2] [] (shp, M) = callK (run prog (d + 2) 72 [vr 87, vi x1] (shp, mset M 87 3 0)) (fun v σ1 => ev prog (d + 3) 84 0 1 [vr 87, vi x1, vi x2] (psh v []) σ1) (fun e σ1 => hk [0, 0, 0, 0, 0] e σ1 (fun t => ev prog (d + 3) 84 0 t (msk (pMask prog 84 t) [vr 87, vi x1, vi x2]) [vj] σ1)) := by
  rw [b84_0]
  try simp +decide only [b84_1, b84_4, b84_2, b84_5, b84_3, b84_8, b84_6, b84_9, b84_7, callK_r, callK_x, psh_s, psh_n, hk_0, hk_1, hk_2, hk_3, hk_4, callK_ite, bit_bi, bit_0, bit_1, eq_self, reduceIte, Int.reduceEq, Int.reduceLT, Int.reduceNeg, Nat.reduceEqDiff, ne_eq, not_false_eq_true, pu_k, mset_k, mset_j, mset_at, va_pu, va_mset, Int.reduceToNat, Int.reduceLE, and_self, true_and, and_true]
  all_goals (try rfl)
  all_goals (repeat' split)
  all_goals first | rfl | simp_all
theorem g84_1 (d : Nat) (x1 : Int) (x2 : Int) (s0 : Int) (M : mM) : ev prog (d + 3) 84 0 1 [vr 87, vi x1, vi x2] [vi s0] (shp, M) = if s0 = 0 then some (.inl (some (vi 0)), (shp, mset M 87 3 1)) else (if (bi (p83 x2 M)) = 0 then some (.inl (some (vi 0)), (shp, mset M 87 3 2)) else (if 0 ≤ (wr ((wr (3 * x1)) + x2)) ∧ (wr ((wr (3 * x1)) + x2)) < 2031 then some (.inl (some (vi (M 88 (Int.toNat (wr ((wr (3 * x1)) + x2)))))), (shp, M)) else none)) := by
  rw [b84_1]
  try simp +decide only [b84_0, b84_4, b84_2, b84_5, b84_3, b84_8, b84_6, b84_9, b84_7, s53, s83, o53, callK_r, callK_x, psh_s, psh_n, hk_0, hk_1, hk_2, hk_3, hk_4, callK_ite, bit_bi, bit_0, bit_1, eq_self, reduceIte, Int.reduceEq, Int.reduceLT, Int.reduceNeg, Nat.reduceEqDiff, ne_eq, not_false_eq_true, pu_k, mset_k, mset_j, mset_at, va_pu, va_mset, Int.reduceToNat, Int.reduceLE, and_self, true_and, and_true]
  all_goals (try rfl)
  all_goals (repeat' split)
  all_goals first | rfl | simp_all
theorem g87_0 (d : Nat) (x1 : Int) (M : mM) : ev prog (d + 3) 87 0 0 [vr 87, vi x1] [] (shp, M) = callK (run prog (d + 2) 72 [vr 87, vi x1] (shp, mset M 87 3 0)) (fun v σ1 => ev prog (d + 3) 87 0 1 [vr 87, vi x1] (psh v []) σ1) (fun e σ1 => hk [0, 0, 0, 0, 0] e σ1 (fun t => ev prog (d + 3) 87 0 t (msk (pMask prog 87 t) [vr 87, vi x1]) [vj] σ1)) := by
  rw [b87_0]
  try simp +decide only [b87_1, b87_4, b87_2, b87_5, b87_3, callK_r, callK_x, psh_s, psh_n, hk_0, hk_1, hk_2, hk_3, hk_4, callK_ite, bit_bi, bit_0, bit_1, eq_self, reduceIte, Int.reduceEq, Int.reduceLT, Int.reduceNeg, Nat.reduceEqDiff, ne_eq, not_false_eq_true, pu_k, mset_k, mset_j, mset_at, va_pu, va_mset, Int.reduceToNat, Int.reduceLE, and_self, true_and, and_true]
  all_goals (try rfl)
  all_goals (repeat' split)
  all_goals first | rfl | simp_all
theorem g87_1 (d : Nat) (x1 : Int) (s0 : Int) (M : mM) : ev prog (d + 3) 87 0 1 [vr 87, vi x1] [vi s0] (shp, M) = if s0 = 0 then some (.inl (some (vi 0)), (shp, mset M 87 3 1)) else (if 0 ≤ (wr (600 + x1)) ∧ (wr (600 + x1)) < 2031 then some (.inl (some (vi (M 88 (Int.toNat (wr (600 + x1)))))), (shp, M)) else none) := by
  rw [b87_1]
  try simp +decide only [b87_0, b87_4, b87_2, b87_5, b87_3, s53, o53, callK_r, callK_x, psh_s, psh_n, hk_0, hk_1, hk_2, hk_3, hk_4, callK_ite, bit_bi, bit_0, bit_1, eq_self, reduceIte, Int.reduceEq, Int.reduceLT, Int.reduceNeg, Nat.reduceEqDiff, ne_eq, not_false_eq_true, pu_k, mset_k, mset_j, mset_at, va_pu, va_mset, Int.reduceToNat, Int.reduceLE, and_self, true_and, and_true]
  all_goals (try rfl)
  all_goals (repeat' split)
  all_goals first | rfl | simp_all
theorem g90_0 (d : Nat) (x1 : Int) (M : mM) : ev prog (d + 3) 90 0 0 [vr 87, vi x1] [] (shp, M) = callK (run prog (d + 2) 72 [vr 87, vi x1] (shp, mset M 87 3 0)) (fun v σ1 => ev prog (d + 3) 90 0 1 [vr 87, vi x1] (psh v []) σ1) (fun e σ1 => hk [0, 0, 0, 0, 0] e σ1 (fun t => ev prog (d + 3) 90 0 t (msk (pMask prog 90 t) [vr 87, vi x1]) [vj] σ1)) := by
  rw [b90_0]
  try simp +decide only [b90_1, b90_4, b90_2, b90_5, b90_3, callK_r, callK_x, psh_s, psh_n, hk_0, hk_1, hk_2, hk_3, hk_4, callK_ite, bit_bi, bit_0, bit_1, eq_self, reduceIte, Int.reduceEq, Int.reduceLT, Int.reduceNeg, Nat.reduceEqDiff, ne_eq, not_false_eq_true, pu_k, mset_k, mset_j, mset_at, va_pu, va_mset, Int.reduceToNat, Int.reduceLE, and_self, true_and, and_true]
  all_goals (try rfl)
  all_goals (repeat' split)
  all_goals first | rfl | simp_all
theorem g90_1 (d : Nat) (x1 : Int) (s0 : Int) (M : mM) : ev prog (d + 3) 90 0 1 [vr 87, vi x1] [vi s0] (shp, M) = if s0 = 0 then some (.inl (some (vi 0)), (shp, mset M 87 3 1)) else (if 0 ≤ (wr (800 + x1)) ∧ (wr (800 + x1)) < 2031 then some (.inl (some (vi (M 88 (Int.toNat (wr (800 + x1)))))), (shp, M)) else none) := by
  rw [b90_1]
  try simp +decide only [b90_0, b90_4, b90_2, b90_5, b90_3, s53, o53, callK_r, callK_x, psh_s, psh_n, hk_0, hk_1, hk_2, hk_3, hk_4, callK_ite, bit_bi, bit_0, bit_1, eq_self, reduceIte, Int.reduceEq, Int.reduceLT, Int.reduceNeg, Nat.reduceEqDiff, ne_eq, not_false_eq_true, pu_k, mset_k, mset_j, mset_at, va_pu, va_mset, Int.reduceToNat, Int.reduceLE, and_self, true_and, and_true]
  all_goals (try rfl)
  all_goals (repeat' split)
  all_goals first | rfl | simp_all
theorem g93_0 (d : Nat) (x1 : Int) (x2 : Int) (x3 : Int) (M : mM) : ev prog (d + 3) 93 0 0 [vr 87, vi x1, vi x2, vi x3, vj] [] (shp, M) = callK (run prog (d + 2) 72 [vr 87, vi x1] (shp, mset M 87 3 0)) (fun v σ1 => ev prog (d + 3) 93 0 1 [vr 87, vi x1, vi x2, vi x3, vj] (psh v []) σ1) (fun e σ1 => hk [0, 0, 0, 0, 0] e σ1 (fun t => ev prog (d + 3) 93 0 t (msk (pMask prog 93 t) [vr 87, vi x1, vi x2, vi x3, vj]) [vj] σ1)) := by
  rw [b93_0]
  try simp +decide only [b93_1, b93_4, b93_2, b93_5, b93_3, b93_8, b93_6, b93_9, b93_7, b93_10, b93_11, b93_12, b93_13, b93_14, callK_r, callK_x, psh_s, psh_n, hk_0, hk_1, hk_2, hk_3, hk_4, callK_ite, bit_bi, bit_0, bit_1, eq_self, reduceIte, Int.reduceEq, Int.reduceLT, Int.reduceNeg, Nat.reduceEqDiff, ne_eq, not_false_eq_true, pu_k, mset_k, mset_j, mset_at, va_pu, va_mset, Int.reduceToNat, Int.reduceLE, and_self, true_and, and_true]
  all_goals (try rfl)
  all_goals (repeat' split)
  all_goals first | rfl | simp_all
theorem g93_1 (d : Nat) (x1 : Int) (x2 : Int) (x3 : Int) (s0 : Int) (M : mM) : ev prog (d + 3) 93 0 1 [vr 87, vi x1, vi x2, vi x3, vj] [vi s0] (shp, M) = if s0 = 0 then some (.inl (some (vi 0)), (shp, mset M 87 3 1)) else (if (bi (p51 x2 0 99 M)) = 0 then some (.inl (some (vi 0)), (shp, mset M 87 3 2)) else (if (bi (p51 x3 0 9 M)) = 0 then some (.inl (some (vi 0)), (shp, mset M 87 3 2)) else (if 0 ≤ (wr (600 + x1)) ∧ (wr (600 + x1)) < 2031 then (if 0 ≤ (wr (800 + x1)) ∧ (wr (800 + x1)) < 2031 then (if 0 ≤ (wr (600 + x1)) ∧ (wr (600 + x1)) < 2031 then (if 0 ≤ (wr (800 + x1)) ∧ (wr (800 + x1)) < 2031 then some (.inl (some (vi (wr ((wr (10 * (M 88 (Int.toNat (wr (600 + x1)))))) + (M 88 (Int.toNat (wr (800 + x1)))))))), (shp, mset (mset M 88 (Int.toNat (wr (600 + x1))) x2) 88 (Int.toNat (wr (800 + x1))) x3)) else none) else none) else none) else none))) := by
  rw [b93_1]
  try simp +decide only [b93_0, b93_4, b93_2, b93_5, b93_3, b93_8, b93_6, b93_9, b93_7, b93_10, b93_11, b93_12, b93_13, b93_14, s53, s51, o53, callK_r, callK_x, psh_s, psh_n, hk_0, hk_1, hk_2, hk_3, hk_4, callK_ite, bit_bi, bit_0, bit_1, eq_self, reduceIte, Int.reduceEq, Int.reduceLT, Int.reduceNeg, Nat.reduceEqDiff, ne_eq, not_false_eq_true, pu_k, mset_k, mset_j, mset_at, va_pu, va_mset, Int.reduceToNat, Int.reduceLE, and_self, true_and, and_true]
  all_goals (try rfl)
  all_goals (repeat' split)
  all_goals first | rfl | simp_all
theorem g94_0 (d : Nat) (x1 : Int) (x2 : Int) (x3 : Int) (M : mM) : ev prog (d + 3) 94 0 0 [vr 12, vi x1, vi x2, vi x3, vj, vj] [] (shp, M) = ev prog (d + 3) 94 0 1 [vr 12, vi x1, vi x2, vi x3, vi 0, vj] [] (shp, M) := by
  rw [b94_0]
  try simp +decide only [b94_10, b94_2, b94_3, b94_4, b94_5, b94_6, b94_7, b94_9, b94_8, callK_r, callK_x, psh_s, psh_n, hk_0, hk_1, hk_2, hk_3, hk_4, callK_ite, bit_bi, bit_0, bit_1, eq_self, reduceIte, Int.reduceEq, Int.reduceLT, Int.reduceNeg, Nat.reduceEqDiff, ne_eq, not_false_eq_true, pu_k, mset_k, mset_j, mset_at, va_pu, va_mset, Int.reduceToNat, Int.reduceLE, and_self, true_and, and_true]
  all_goals (try rfl)
  all_goals (repeat' split)
  all_goals first | rfl | simp_all
theorem g94_1 (d : Nat) (x1 : Int) (x2 : Int) (x3 : Int) (x4 : Int) (M : mM) : ev prog (d + 3) 94 0 1 [vr 12, vi x1, vi x2, vi x3, vi x4, vj] [] (shp, M) = if x4 < (M 21 1) then (if (bi (p13 (wr ((r20 (r30b x4 M) 0 M) + x1)) (wr ((r20 (r30b x4 M) 1 M) + x2)) (wr ((r20 (r30b x4 M) 2 M) + x3)) M)) = 0 then some (.inl (some (vi 0)), (shp, M)) else ev prog (d + 3) 94 0 1 [vr 12, vi x1, vi x2, vi x3, vi (wr (x4 + 1)), vj] [] (shp, M)) else some (.inl (some (vi 1)), (shp, M)) := by
  rw [b94_1]
  try simp +decide only [b94_0, b94_10, b94_2, b94_3, b94_4, b94_5, b94_6, b94_7, b94_9, b94_8, s30b, s20, s13, callK_r, callK_x, psh_s, psh_n, hk_0, hk_1, hk_2, hk_3, hk_4, callK_ite, bit_bi, bit_0, bit_1, eq_self, reduceIte, Int.reduceEq, Int.reduceLT, Int.reduceNeg, Nat.reduceEqDiff, ne_eq, not_false_eq_true, pu_k, mset_k, mset_j, mset_at, va_pu, va_mset, Int.reduceToNat, Int.reduceLE, and_self, true_and, and_true]
  all_goals (try rfl)
  all_goals (repeat' split)
  all_goals first | rfl | simp_all
theorem g96_0 (d : Nat) (x1 : Int) (x2 : Int) (x3 : Int) (M : mM) : ev prog (d + 6) 96 0 0 [vr 12, vi x1, vi x2, vi x3, vj, vj] [] (shp, M) = ev prog (d + 6) 96 0 1 [vr 12, vi x1, vi x2, vi x3, vi 0, vj] [] (shp, M) := by
  rw [b96_0]
  try simp +decide only [b96_7, b96_2, b96_8, b96_3, b96_4, b96_5, b96_6, callK_r, callK_x, psh_s, psh_n, hk_0, hk_1, hk_2, hk_3, hk_4, callK_ite, bit_bi, bit_0, bit_1, eq_self, reduceIte, Int.reduceEq, Int.reduceLT, Int.reduceNeg, Nat.reduceEqDiff, ne_eq, not_false_eq_true, pu_k, mset_k, mset_j, mset_at, va_pu, va_mset, Int.reduceToNat, Int.reduceLE, and_self, true_and, and_true]
  all_goals (try rfl)
  all_goals (repeat' split)
  all_goals first | rfl | simp_all
theorem g96_1 (d : Nat) (x1 : Int) (x2 : Int) (x3 : Int) (x4 : Int) (M : mM) : ev prog (d + 6) 96 0 1 [vr 12, vi x1, vi x2, vi x3, vi x4, vj] [] (shp, M) = if x4 < (M 21 1) then ev prog (d + 6) 96 0 1 [vr 12, vi x1, vi x2, vi x3, vi (wr (x4 + 1)), vj] [] (shp, pu (pu (pu M 8 600 (wr ((wr (3 * (r30b x4 M))) + 0)) (wr ((r20 (r30b x4 M) 0 M) + x1))) 8 600 (wr ((wr (3 * (r30b x4 M))) + 1)) (wr ((r20 (r30b x4 M) 1 (pu M 8 600 (wr ((wr (3 * (r30b x4 M))) + 0)) (wr ((r20 (r30b x4 M) 0 M) + x1)))) + x2))) 8 600 (wr ((wr (3 * (r30b x4 M))) + 2)) (wr ((r20 (r30b x4 M) 2 (pu (pu M 8 600 (wr ((wr (3 * (r30b x4 M))) + 0)) (wr ((r20 (r30b x4 M) 0 M) + x1))) 8 600 (wr ((wr (3 * (r30b x4 M))) + 1)) (wr ((r20 (r30b x4 M) 1 (pu M 8 600 (wr ((wr (3 * (r30b x4 M))) + 0)) (wr ((r20 (r30b x4 M) 0 M) + x1)))) + x2)))) + x3))) else callK (run prog (d + 5) 38 [vr 12] (shp, M)) (fun v σ1 => ev prog (d + 6) 96 0 8 [vj, vj, vj, vj, vj, vj] (psh v []) σ1) (fun e σ1 => hk [0, 0, 0, 0, 0] e σ1 (fun t => ev prog (d + 6) 96 0 t (msk (pMask prog 96 t) [vr 12, vj, vj, vj, vj, vj]) [vj] σ1)) := by
  rw [b96_1]
  try simp +decide only [b96_0, b96_7, b96_2, b96_8, b96_3, b96_4, b96_5, b96_6, s30b, s95, o95, callK_r, callK_x, psh_s, psh_n, hk_0, hk_1, hk_2, hk_3, hk_4, callK_ite, bit_bi, bit_0, bit_1, eq_self, reduceIte, Int.reduceEq, Int.reduceLT, Int.reduceNeg, Nat.reduceEqDiff, ne_eq, not_false_eq_true, pu_k, mset_k, mset_j, mset_at, va_pu, va_mset, Int.reduceToNat, Int.reduceLE, and_self, true_and, and_true]
  all_goals (try rfl)
  all_goals (repeat' split)
  all_goals first | rfl | simp_all
theorem g96_8 (d : Nat) (M : mM) : ev prog (d + 6) 96 0 8 [vj, vj, vj, vj, vj, vj] [] (shp, M) = some (.inl none, (shp, M)) := by
  rw [b96_8]
  try simp +decide only [b96_0, b96_7, b96_2, b96_3, b96_4, b96_5, b96_6, callK_r, callK_x, psh_s, psh_n, hk_0, hk_1, hk_2, hk_3, hk_4, callK_ite, bit_bi, bit_0, bit_1, eq_self, reduceIte, Int.reduceEq, Int.reduceLT, Int.reduceNeg, Nat.reduceEqDiff, ne_eq, not_false_eq_true, pu_k, mset_k, mset_j, mset_at, va_pu, va_mset, Int.reduceToNat, Int.reduceLE, and_self, true_and, and_true]
  all_goals (try rfl)
  all_goals (repeat' split)
  all_goals first | rfl | simp_all
