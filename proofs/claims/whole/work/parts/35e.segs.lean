/-! FROM CUT TO CUT, 4 -/
theorem g279_1 (d : Nat) (s0 : Int) (M : mM) : ev prog (d + 2) 279 0 1 [vj] [vi s0] (shp, M) = some (.inl (some (vi (bi (p51 s0 48 57 M)))), (shp, M)) := by
  rw [b279_1]
  try simp +decide only [b279_0, b279_2, s51, callK_r, callK_x, psh_s, psh_n, hk_0, hk_1, hk_2, hk_3, hk_4, callK_ite, bit_bi, bit_0, bit_1, eq_self, reduceIte, Int.reduceEq, Int.reduceLT, Int.reduceNeg, Nat.reduceEqDiff, ne_eq, not_false_eq_true, pu_k, mset_k, mset_j, mset_at, va_pu, va_mset, Int.reduceToNat, Int.reduceLE, and_self, true_and, and_true]
  all_goals (try rfl)
  all_goals (repeat' split)
  all_goals first | rfl | simp_all
theorem g280_0 (d : Nat) (x1 : Int) (M : mM) : ev prog (d + 3) 280 0 0 [vr 87, vi x1, vj] [] (shp, M) = callK (run prog (d + 2) 279 [vr 87] (shp, mset M 87 15 0)) (fun v σ1 => ev prog (d + 3) 280 0 1 [vr 87, vi x1, vj] (psh v []) σ1) (fun e σ1 => hk [0, 0, 0, 0, 0] e σ1 (fun t => ev prog (d + 3) 280 0 t (msk (pMask prog 280 t) [vr 87, vi x1, vj]) [vj] σ1)) := by
  rw [b280_0]
  try simp +decide only [b280_1, b280_3, b280_2, b280_4, b280_6, b280_5, b280_12, b280_8, b280_9, b280_10, b280_11, callK_r, callK_x, psh_s, psh_n, hk_0, hk_1, hk_2, hk_3, hk_4, callK_ite, bit_bi, bit_0, bit_1, eq_self, reduceIte, Int.reduceEq, Int.reduceLT, Int.reduceNeg, Nat.reduceEqDiff, ne_eq, not_false_eq_true, pu_k, mset_k, mset_j, mset_at, va_pu, va_mset, Int.reduceToNat, Int.reduceLE, and_self, true_and, and_true]
  all_goals (try rfl)
  all_goals (repeat' split)
  all_goals first | rfl | simp_all
theorem g280_1 (d : Nat) (x1 : Int) (s0 : Int) (M : mM) : ev prog (d + 3) 280 0 1 [vr 87, vi x1, vj] [vi s0] (shp, M) = if s0 = 0 then some (.inl (some (vi 0)), (shp, M)) else callK (run prog (d + 2) 278 [vr 87, vi 48] (shp, M)) (fun v σ1 => ev prog (d + 3) 280 0 4 [vr 87, vi x1, vj] (psh v []) σ1) (fun e σ1 => hk [0, 0, 0, 0, 0] e σ1 (fun t => ev prog (d + 3) 280 0 t (msk (pMask prog 280 t) [vr 87, vi x1, vj]) [vj] σ1)) := by
  rw [b280_1]
  try simp +decide only [b280_0, b280_3, b280_2, b280_4, b280_6, b280_5, b280_12, b280_8, b280_9, b280_10, b280_11, callK_r, callK_x, psh_s, psh_n, hk_0, hk_1, hk_2, hk_3, hk_4, callK_ite, bit_bi, bit_0, bit_1, eq_self, reduceIte, Int.reduceEq, Int.reduceLT, Int.reduceNeg, Nat.reduceEqDiff, ne_eq, not_false_eq_true, pu_k, mset_k, mset_j, mset_at, va_pu, va_mset, Int.reduceToNat, Int.reduceLE, and_self, true_and, and_true]
  all_goals (try rfl)
  all_goals (repeat' split)
  all_goals first | rfl | simp_all
theorem g280_4 (d : Nat) (x1 : Int) (s0 : Int) (M : mM) : ev prog (d + 3) 280 0 4 [vr 87, vi x1, vj] [vi s0] (shp, M) = if s0 = 0 then ev prog (d + 3) 280 0 7 [vr 87, vi x1, vi 0] [] (shp, M) else some (.inl (some (vi 1)), (shp, M)) := by
  rw [b280_4]
  try simp +decide only [b280_0, b280_1, b280_3, b280_2, b280_6, b280_5, b280_12, b280_8, b280_9, b280_10, b280_11, callK_r, callK_x, psh_s, psh_n, hk_0, hk_1, hk_2, hk_3, hk_4, callK_ite, bit_bi, bit_0, bit_1, eq_self, reduceIte, Int.reduceEq, Int.reduceLT, Int.reduceNeg, Nat.reduceEqDiff, ne_eq, not_false_eq_true, pu_k, mset_k, mset_j, mset_at, va_pu, va_mset, Int.reduceToNat, Int.reduceLE, and_self, true_and, and_true]
  all_goals (try rfl)
  all_goals (repeat' split)
  all_goals first | rfl | simp_all
theorem g280_7 (d : Nat) (x1 : Int) (x2 : Int) (M : mM) : ev prog (d + 3) 280 0 7 [vr 87, vi x1, vi x2] [] (shp, M) = if x2 < x1 then callK (run prog (d + 2) 279 [vr 87] (shp, M)) (fun v σ1 => ev prog (d + 3) 280 0 9 [vr 87, vi x1, vi x2] (psh v []) σ1) (fun e σ1 => hk [0, 0, 0, 0, 0] e σ1 (fun t => ev prog (d + 3) 280 0 t (msk (pMask prog 280 t) [vr 87, vi x1, vi x2]) [vj] σ1)) else some (.inl (some (vi 1)), (shp, M)) := by
  rw [b280_7]
  try simp +decide only [b280_0, b280_1, b280_3, b280_2, b280_4, b280_6, b280_5, b280_12, b280_8, b280_9, b280_10, b280_11, callK_r, callK_x, psh_s, psh_n, hk_0, hk_1, hk_2, hk_3, hk_4, callK_ite, bit_bi, bit_0, bit_1, eq_self, reduceIte, Int.reduceEq, Int.reduceLT, Int.reduceNeg, Nat.reduceEqDiff, ne_eq, not_false_eq_true, pu_k, mset_k, mset_j, mset_at, va_pu, va_mset, Int.reduceToNat, Int.reduceLE, and_self, true_and, and_true]
  all_goals (try rfl)
  all_goals (repeat' split)
  all_goals first | rfl | simp_all
theorem g280_9 (d : Nat) (x1 : Int) (x2 : Int) (s0 : Int) (M : mM) : ev prog (d + 3) 280 0 9 [vr 87, vi x1, vi x2] [vi s0] (shp, M) = if s0 = 0 then some (.inl (some (vi 1)), (shp, M)) else callK (run prog (d + 2) 277 [vr 87] (shp, M)) (fun v σ1 => ev prog (d + 3) 280 0 11 [vr 87, vi x1, vi x2] (psh v [vi (wr (10 * (M 87 15))), vr 87]) σ1) (fun e σ1 => hk [0, 0, 0, 0, 0] e σ1 (fun t => ev prog (d + 3) 280 0 t (msk (pMask prog 280 t) [vr 87, vi x1, vi x2]) [vj] σ1)) := by
  rw [b280_9]
  try simp +decide only [b280_0, b280_1, b280_3, b280_2, b280_4, b280_6, b280_5, b280_12, b280_8, b280_10, b280_11, callK_r, callK_x, psh_s, psh_n, hk_0, hk_1, hk_2, hk_3, hk_4, callK_ite, bit_bi, bit_0, bit_1, eq_self, reduceIte, Int.reduceEq, Int.reduceLT, Int.reduceNeg, Nat.reduceEqDiff, ne_eq, not_false_eq_true, pu_k, mset_k, mset_j, mset_at, va_pu, va_mset, Int.reduceToNat, Int.reduceLE, and_self, true_and, and_true]
  all_goals (try rfl)
  all_goals (repeat' split)
  all_goals first | rfl | simp_all
theorem g280_11 (d : Nat) (x1 : Int) (x2 : Int) (s1 : Int) (s2 : Int) (M : mM) : ev prog (d + 3) 280 0 11 [vr 87, vi x1, vi x2] [vi s2, vi s1, vr 87] (shp, M) = ev prog (d + 3) 280 0 7 [vr 87, vi x1, vi (wr (x2 + 1))] [] (shp, mset (mset M 87 15 (wr ((wr (s1 + s2)) - 48))) 87 14 (wr ((M 87 14) + 1))) := by
  rw [b280_11]
  try simp +decide only [b280_0, b280_1, b280_3, b280_2, b280_4, b280_6, b280_5, b280_12, b280_8, b280_9, b280_10, callK_r, callK_x, psh_s, psh_n, hk_0, hk_1, hk_2, hk_3, hk_4, callK_ite, bit_bi, bit_0, bit_1, eq_self, reduceIte, Int.reduceEq, Int.reduceLT, Int.reduceNeg, Nat.reduceEqDiff, ne_eq, not_false_eq_true, pu_k, mset_k, mset_j, mset_at, va_pu, va_mset, Int.reduceToNat, Int.reduceLE, and_self, true_and, and_true]
  all_goals (try rfl)
  all_goals (repeat' split)
  all_goals first | rfl | simp_all
theorem g281_0 (d : Nat) (M : mM) : ev prog (d + 4) 281 0 0 [vr 87, vj, vj] [] (shp, M) = ev prog (d + 4) 281 0 1 [vr 87, vi 0, vj] [] (shp, M) := by
  rw [b281_0]
  try simp +decide only [b281_15, b281_2, b281_6, b281_3, b281_7, b281_4, b281_8, b281_5, b281_10, b281_9, b281_12, b281_11, b281_13, b281_14, callK_r, callK_x, psh_s, psh_n, hk_0, hk_1, hk_2, hk_3, hk_4, callK_ite, bit_bi, bit_0, bit_1, eq_self, reduceIte, Int.reduceEq, Int.reduceLT, Int.reduceNeg, Nat.reduceEqDiff, ne_eq, not_false_eq_true, pu_k, mset_k, mset_j, mset_at, va_pu, va_mset, Int.reduceToNat, Int.reduceLE, and_self, true_and, and_true]
  all_goals (try rfl)
  all_goals (repeat' split)
  all_goals first | rfl | simp_all
theorem g281_1 (d : Nat) (x1 : Int) (M : mM) : ev prog (d + 4) 281 0 1 [vr 87, vi x1, vj] [] (shp, M) = if x1 < 3 then (if 0 < x1 then callK (run prog (d + 3) 278 [vr 87, vi 44] (shp, M)) (fun v σ1 => ev prog (d + 4) 281 0 4 [vr 87, vi x1, vj] (psh v []) σ1) (fun e σ1 => hk [0, 0, 0, 0, 0] e σ1 (fun t => ev prog (d + 4) 281 0 t (msk (pMask prog 281 t) [vr 87, vi x1, vj]) [vj] σ1)) else callK (run prog (d + 3) 278 [vr 87, vi 45] (shp, M)) (fun v σ1 => ev prog (d + 4) 281 0 7 [vr 87, vi x1, vj] (psh v []) σ1) (fun e σ1 => hk [0, 0, 0, 0, 0] e σ1 (fun t => ev prog (d + 4) 281 0 t (msk (pMask prog 281 t) [vr 87, vi x1, vj]) [vj] σ1))) else some (.inl (some (vi 1)), (shp, M)) := by
  rw [b281_1]
  try simp +decide only [b281_0, b281_15, b281_2, b281_6, b281_3, b281_7, b281_4, b281_8, b281_5, b281_10, b281_9, b281_12, b281_11, b281_13, b281_14, callK_r, callK_x, psh_s, psh_n, hk_0, hk_1, hk_2, hk_3, hk_4, callK_ite, bit_bi, bit_0, bit_1, eq_self, reduceIte, Int.reduceEq, Int.reduceLT, Int.reduceNeg, Nat.reduceEqDiff, ne_eq, not_false_eq_true, pu_k, mset_k, mset_j, mset_at, va_pu, va_mset, Int.reduceToNat, Int.reduceLE, and_self, true_and, and_true]
  all_goals (try rfl)
  all_goals (repeat' split)
  all_goals first | rfl | simp_all
theorem g281_4 (d : Nat) (x1 : Int) (s0 : Int) (M : mM) : ev prog (d + 4) 281 0 4 [vr 87, vi x1, vj] [vi s0] (shp, M) = if s0 = 0 then some (.inl (some (vi 0)), (shp, M)) else callK (run prog (d + 3) 278 [vr 87, vi 45] (shp, M)) (fun v σ1 => ev prog (d + 4) 281 0 7 [vr 87, vi x1, vj] (psh v []) σ1) (fun e σ1 => hk [0, 0, 0, 0, 0] e σ1 (fun t => ev prog (d + 4) 281 0 t (msk (pMask prog 281 t) [vr 87, vi x1, vj]) [vj] σ1)) := by
  rw [b281_4]
  try simp +decide only [b281_0, b281_15, b281_2, b281_6, b281_3, b281_7, b281_8, b281_5, b281_10, b281_9, b281_12, b281_11, b281_13, b281_14, callK_r, callK_x, psh_s, psh_n, hk_0, hk_1, hk_2, hk_3, hk_4, callK_ite, bit_bi, bit_0, bit_1, eq_self, reduceIte, Int.reduceEq, Int.reduceLT, Int.reduceNeg, Nat.reduceEqDiff, ne_eq, not_false_eq_true, pu_k, mset_k, mset_j, mset_at, va_pu, va_mset, Int.reduceToNat, Int.reduceLE, and_self, true_and, and_true]
  all_goals (try rfl)
  all_goals (repeat' split)
  all_goals first | rfl | simp_all
theorem g281_7 (d : Nat) (x1 : Int) (s0 : Int) (M : mM) : ev prog (d + 4) 281 0 7 [vr 87, vi x1, vj] [vi s0] (shp, M) = callK (run prog (d + 3) 280 [vr 87, vi 3] (shp, M)) (fun v σ1 => ev prog (d + 4) 281 0 8 [vr 87, vi x1, vi s0] (psh v []) σ1) (fun e σ1 => hk [0, 0, 0, 0, 0] e σ1 (fun t => ev prog (d + 4) 281 0 t (msk (pMask prog 281 t) [vr 87, vi x1, vi s0]) [vj] σ1)) := by
  rw [b281_7]
  try simp +decide only [b281_0, b281_15, b281_2, b281_6, b281_3, b281_4, b281_8, b281_5, b281_10, b281_9, b281_12, b281_11, b281_13, b281_14, callK_r, callK_x, psh_s, psh_n, hk_0, hk_1, hk_2, hk_3, hk_4, callK_ite, bit_bi, bit_0, bit_1, eq_self, reduceIte, Int.reduceEq, Int.reduceLT, Int.reduceNeg, Nat.reduceEqDiff, ne_eq, not_false_eq_true, pu_k, mset_k, mset_j, mset_at, va_pu, va_mset, Int.reduceToNat, Int.reduceLE, and_self, true_and, and_true]
  all_goals (try rfl)
  all_goals (repeat' split)
  all_goals first | rfl | simp_all
theorem g281_8 (d : Nat) (x1 : Int) (x2 : Int) (s0 : Int) (M : mM) : ev prog (d + 4) 281 0 8 [vr 87, vi x1, vi x2] [vi s0] (shp, M) = if s0 = 0 then some (.inl (some (vi 0)), (shp, M)) else (if x2 = 0 then (if 0 ≤ (wr ((wr (5 * (M 87 18))) + x1)) ∧ (wr ((wr (5 * (M 87 18))) + x1)) < 100 then ev prog (d + 4) 281 0 1 [vr 87, vi (wr (x1 + 1)), vj] [] (shp, mset M 95 (Int.toNat (wr ((wr (5 * (M 87 18))) + x1))) (M 87 15)) else none) else (if 0 ≤ (wr ((wr (5 * (M 87 18))) + x1)) ∧ (wr ((wr (5 * (M 87 18))) + x1)) < 100 then ev prog (d + 4) 281 0 1 [vr 87, vi (wr (x1 + 1)), vj] [] (shp, mset M 95 (Int.toNat (wr ((wr (5 * (M 87 18))) + x1))) (wr (-(M 87 15)))) else none)) := by
  rw [b281_8]
  try simp +decide only [b281_0, b281_15, b281_2, b281_6, b281_3, b281_7, b281_4, b281_5, b281_10, b281_9, b281_12, b281_11, b281_13, b281_14, callK_r, callK_x, psh_s, psh_n, hk_0, hk_1, hk_2, hk_3, hk_4, callK_ite, bit_bi, bit_0, bit_1, eq_self, reduceIte, Int.reduceEq, Int.reduceLT, Int.reduceNeg, Nat.reduceEqDiff, ne_eq, not_false_eq_true, pu_k, mset_k, mset_j, mset_at, va_pu, va_mset, Int.reduceToNat, Int.reduceLE, and_self, true_and, and_true]
  all_goals (try rfl)
  all_goals (repeat' split)
  all_goals first | rfl | simp_all
theorem g282_0 (d : Nat) (M : mM) : ev prog (d + 5) 282 0 0 [vr 87] [] (shp, M) = callK (run prog (d + 4) 281 [vr 87] (shp, M)) (fun v σ1 => ev prog (d + 5) 282 0 1 [vr 87] (psh v []) σ1) (fun e σ1 => hk [0, 0, 0, 0, 0] e σ1 (fun t => ev prog (d + 5) 282 0 t (msk (pMask prog 282 t) [vr 87]) [vj] σ1)) := by
  rw [b282_0]
  try simp +decide only [b282_1, b282_3, b282_2, b282_4, b282_5, b282_6, b282_11, b282_7, b282_12, b282_8, b282_19, b282_13, b282_10, b282_9, b282_14, b282_16, b282_15, b282_17, b282_18, callK_r, callK_x, psh_s, psh_n, hk_0, hk_1, hk_2, hk_3, hk_4, callK_ite, bit_bi, bit_0, bit_1, eq_self, reduceIte, Int.reduceEq, Int.reduceLT, Int.reduceNeg, Nat.reduceEqDiff, ne_eq, not_false_eq_true, pu_k, mset_k, mset_j, mset_at, va_pu, va_mset, Int.reduceToNat, Int.reduceLE, and_self, true_and, and_true]
  all_goals (try rfl)
  all_goals (repeat' split)
  all_goals first | rfl | simp_all
theorem g282_1 (d : Nat) (s0 : Int) (M : mM) : ev prog (d + 5) 282 0 1 [vr 87] [vi s0] (shp, M) = if s0 = 0 then some (.inl (some (vi 0)), (shp, M)) else (if 0 ≤ (wr ((wr (5 * (M 87 18))) + 3)) ∧ (wr ((wr (5 * (M 87 18))) + 3)) < 100 then (if 0 ≤ (wr ((wr (5 * (M 87 18))) + 4)) ∧ (wr ((wr (5 * (M 87 18))) + 4)) < 100 then callK (run prog (d + 4) 278 [vr 87, vi 58] (shp, mset (mset M 95 (Int.toNat (wr ((wr (5 * (M 87 18))) + 3))) 1) 95 (Int.toNat (wr ((wr (5 * (M 87 18))) + 4))) 0)) (fun v σ1 => ev prog (d + 5) 282 0 6 [vr 87] (psh v []) σ1) (fun e σ1 => hk [0, 0, 0, 0, 0] e σ1 (fun t => ev prog (d + 5) 282 0 t (msk (pMask prog 282 t) [vr 87]) [vj] σ1)) else none) else none) := by
  rw [b282_1]
  try simp +decide only [b282_0, b282_3, b282_2, b282_4, b282_5, b282_6, b282_11, b282_7, b282_12, b282_8, b282_19, b282_13, b282_10, b282_9, b282_14, b282_16, b282_15, b282_17, b282_18, callK_r, callK_x, psh_s, psh_n, hk_0, hk_1, hk_2, hk_3, hk_4, callK_ite, bit_bi, bit_0, bit_1, eq_self, reduceIte, Int.reduceEq, Int.reduceLT, Int.reduceNeg, Nat.reduceEqDiff, ne_eq, not_false_eq_true, pu_k, mset_k, mset_j, mset_at, va_pu, va_mset, Int.reduceToNat, Int.reduceLE, and_self, true_and, and_true]
  all_goals (try rfl)
  all_goals (repeat' split)
  all_goals first | rfl | simp_all
theorem g282_6 (d : Nat) (s0 : Int) (M : mM) : ev prog (d + 5) 282 0 6 [vr 87] [vi s0] (shp, M) = if s0 = 0 then callK (run prog (d + 4) 278 [vr 87, vi 35] (shp, M)) (fun v σ1 => ev prog (d + 5) 282 0 12 [vr 87] (psh v []) σ1) (fun e σ1 => hk [0, 0, 0, 0, 0] e σ1 (fun t => ev prog (d + 5) 282 0 t (msk (pMask prog 282 t) [vr 87]) [vj] σ1)) else callK (run prog (d + 4) 280 [vr 87, vi 2] (shp, M)) (fun v σ1 => ev prog (d + 5) 282 0 8 [vr 87] (psh v []) σ1) (fun e σ1 => hk [0, 0, 0, 0, 0] e σ1 (fun t => ev prog (d + 5) 282 0 t (msk (pMask prog 282 t) [vr 87]) [vj] σ1)) := by
  rw [b282_6]
  try simp +decide only [b282_0, b282_1, b282_3, b282_2, b282_4, b282_5, b282_11, b282_7, b282_12, b282_8, b282_19, b282_13, b282_10, b282_9, b282_14, b282_16, b282_15, b282_17, b282_18, callK_r, callK_x, psh_s, psh_n, hk_0, hk_1, hk_2, hk_3, hk_4, callK_ite, bit_bi, bit_0, bit_1, eq_self, reduceIte, Int.reduceEq, Int.reduceLT, Int.reduceNeg, Nat.reduceEqDiff, ne_eq, not_false_eq_true, pu_k, mset_k, mset_j, mset_at, va_pu, va_mset, Int.reduceToNat, Int.reduceLE, and_self, true_and, and_true]
  all_goals (try rfl)
  all_goals (repeat' split)
  all_goals first | rfl | simp_all
theorem g282_8 (d : Nat) (s0 : Int) (M : mM) : ev prog (d + 5) 282 0 8 [vr 87] [vi s0] (shp, M) = if s0 = 0 then some (.inl (some (vi 0)), (shp, M)) else (if 0 ≤ (wr ((wr (5 * (M 87 18))) + 3)) ∧ (wr ((wr (5 * (M 87 18))) + 3)) < 100 then callK (run prog (d + 4) 278 [vr 87, vi 35] (shp, mset M 95 (Int.toNat (wr ((wr (5 * (M 87 18))) + 3))) (M 87 15))) (fun v σ1 => ev prog (d + 5) 282 0 12 [vr 87] (psh v []) σ1) (fun e σ1 => hk [0, 0, 0, 0, 0] e σ1 (fun t => ev prog (d + 5) 282 0 t (msk (pMask prog 282 t) [vr 87]) [vj] σ1)) else none) := by
  rw [b282_8]
  try simp +decide only [b282_0, b282_1, b282_3, b282_2, b282_4, b282_5, b282_6, b282_11, b282_7, b282_12, b282_19, b282_13, b282_10, b282_9, b282_14, b282_16, b282_15, b282_17, b282_18, callK_r, callK_x, psh_s, psh_n, hk_0, hk_1, hk_2, hk_3, hk_4, callK_ite, bit_bi, bit_0, bit_1, eq_self, reduceIte, Int.reduceEq, Int.reduceLT, Int.reduceNeg, Nat.reduceEqDiff, ne_eq, not_false_eq_true, pu_k, mset_k, mset_j, mset_at, va_pu, va_mset, Int.reduceToNat, Int.reduceLE, and_self, true_and, and_true]
  all_goals (try rfl)
  all_goals (repeat' split)
  all_goals first | rfl | simp_all
theorem g282_12 (d : Nat) (s0 : Int) (M : mM) : ev prog (d + 5) 282 0 12 [vr 87] [vi s0] (shp, M) = if s0 = 0 then some (.inl (some (vi 1)), (shp, mset M 87 18 (wr ((M 87 18) + 1)))) else callK (run prog (d + 4) 279 [vr 87] (shp, M)) (fun v σ1 => ev prog (d + 5) 282 0 14 [vr 87] (psh v []) σ1) (fun e σ1 => hk [0, 0, 0, 0, 0] e σ1 (fun t => ev prog (d + 5) 282 0 t (msk (pMask prog 282 t) [vr 87]) [vj] σ1)) := by
  rw [b282_12]
  try simp +decide only [b282_0, b282_1, b282_3, b282_2, b282_4, b282_5, b282_6, b282_11, b282_7, b282_8, b282_19, b282_13, b282_10, b282_9, b282_14, b282_16, b282_15, b282_17, b282_18, callK_r, callK_x, psh_s, psh_n, hk_0, hk_1, hk_2, hk_3, hk_4, callK_ite, bit_bi, bit_0, bit_1, eq_self, reduceIte, Int.reduceEq, Int.reduceLT, Int.reduceNeg, Nat.reduceEqDiff, ne_eq, not_false_eq_true, pu_k, mset_k, mset_j, mset_at, va_pu, va_mset, Int.reduceToNat, Int.reduceLE, and_self, true_and, and_true]
  all_goals (try rfl)
  all_goals (repeat' split)
  all_goals first | rfl | simp_all
theorem g282_14 (d : Nat) (s0 : Int) (M : mM) : ev prog (d + 5) 282 0 14 [vr 87] [vi s0] (shp, M) = if s0 = 0 then some (.inl (some (vi 0)), (shp, M)) else callK (run prog (d + 4) 277 [vr 87] (shp, M)) (fun v σ1 => ev prog (d + 5) 282 0 17 [vr 87] (psh v [vi (wr ((wr (5 * (M 87 18))) + 4)), vr 95]) σ1) (fun e σ1 => hk [0, 0, 0, 0, 0] e σ1 (fun t => ev prog (d + 5) 282 0 t (msk (pMask prog 282 t) [vr 87]) [vj] σ1)) := by
  rw [b282_14]
  try simp +decide only [b282_0, b282_1, b282_3, b282_2, b282_4, b282_5, b282_6, b282_11, b282_7, b282_12, b282_8, b282_19, b282_13, b282_10, b282_9, b282_16, b282_15, b282_17, b282_18, callK_r, callK_x, psh_s, psh_n, hk_0, hk_1, hk_2, hk_3, hk_4, callK_ite, bit_bi, bit_0, bit_1, eq_self, reduceIte, Int.reduceEq, Int.reduceLT, Int.reduceNeg, Nat.reduceEqDiff, ne_eq, not_false_eq_true, pu_k, mset_k, mset_j, mset_at, va_pu, va_mset, Int.reduceToNat, Int.reduceLE, and_self, true_and, and_true]
  all_goals (try rfl)
  all_goals (repeat' split)
  all_goals first | rfl | simp_all
theorem g282_17 (d : Nat) (s1 : Int) (s2 : Int) (M : mM) : ev prog (d + 5) 282 0 17 [vr 87] [vi s2, vi s1, vr 95] (shp, M) = if 0 ≤ s1 ∧ s1 < 100 then some (.inl (some (vi 1)), (shp, mset (mset (mset M 95 (Int.toNat s1) (wr (s2 - 48))) 87 14 (wr ((M 87 14) + 1))) 87 18 (wr ((M 87 18) + 1)))) else none := by
  rw [b282_17]
  try simp +decide only [b282_0, b282_1, b282_3, b282_2, b282_4, b282_5, b282_6, b282_11, b282_7, b282_12, b282_8, b282_19, b282_13, b282_10, b282_9, b282_14, b282_16, b282_15, b282_18, callK_r, callK_x, psh_s, psh_n, hk_0, hk_1, hk_2, hk_3, hk_4, callK_ite, bit_bi, bit_0, bit_1, eq_self, reduceIte, Int.reduceEq, Int.reduceLT, Int.reduceNeg, Nat.reduceEqDiff, ne_eq, not_false_eq_true, pu_k, mset_k, mset_j, mset_at, va_pu, va_mset, Int.reduceToNat, Int.reduceLE, and_self, true_and, and_true]
  all_goals (try rfl)
  all_goals (repeat' split)
  all_goals first | rfl | simp_all
theorem g283_0 (d : Nat) (M : mM) : ev prog (d + 6) 283 0 0 [vr 87] [] (shp, M) = ev prog (d + 6) 283 0 1 [vr 87] [] (shp, mset (mset M 87 14 0) 87 18 0) := by
  rw [b283_0]
  try simp +decide only [b283_2, b283_4, b283_3, b283_5, b283_6, b283_8, b283_7, b283_9, callK_r, callK_x, psh_s, psh_n, hk_0, hk_1, hk_2, hk_3, hk_4, callK_ite, bit_bi, bit_0, bit_1, eq_self, reduceIte, Int.reduceEq, Int.reduceLT, Int.reduceNeg, Nat.reduceEqDiff, ne_eq, not_false_eq_true, pu_k, mset_k, mset_j, mset_at, va_pu, va_mset, Int.reduceToNat, Int.reduceLE, and_self, true_and, and_true]
  all_goals (try rfl)
  all_goals (repeat' split)
  all_goals first | rfl | simp_all
theorem g283_1 (d : Nat) (M : mM) : ev prog (d + 6) 283 0 1 [vr 87] [] (shp, M) = callK (run prog (d + 5) 282 [vr 87] (shp, M)) (fun v σ1 => ev prog (d + 6) 283 0 2 [vr 87] (psh v []) σ1) (fun e σ1 => hk [0, 0, 0, 0, 0] e σ1 (fun t => ev prog (d + 6) 283 0 t (msk (pMask prog 283 t) [vr 87]) [vj] σ1)) := by
  rw [b283_1]
  try simp +decide only [b283_0, b283_2, b283_4, b283_3, b283_5, b283_6, b283_8, b283_7, b283_9, callK_r, callK_x, psh_s, psh_n, hk_0, hk_1, hk_2, hk_3, hk_4, callK_ite, bit_bi, bit_0, bit_1, eq_self, reduceIte, Int.reduceEq, Int.reduceLT, Int.reduceNeg, Nat.reduceEqDiff, ne_eq, not_false_eq_true, pu_k, mset_k, mset_j, mset_at, va_pu, va_mset, Int.reduceToNat, Int.reduceLE, and_self, true_and, and_true]
  all_goals (try rfl)
  all_goals (repeat' split)
  all_goals first | rfl | simp_all
theorem g283_2 (d : Nat) (s0 : Int) (M : mM) : ev prog (d + 6) 283 0 2 [vr 87] [vi s0] (shp, M) = if s0 = 0 then some (.inl (some (vi (M 87 14))), (shp, M)) else callK (run prog (d + 5) 278 [vr 87, vi 59] (shp, M)) (fun v σ1 => ev prog (d + 6) 283 0 5 [vr 87] (psh v []) σ1) (fun e σ1 => hk [0, 0, 0, 0, 0] e σ1 (fun t => ev prog (d + 6) 283 0 t (msk (pMask prog 283 t) [vr 87]) [vj] σ1)) := by
  rw [b283_2]
  try simp +decide only [b283_0, b283_4, b283_3, b283_5, b283_6, b283_8, b283_7, b283_9, callK_r, callK_x, psh_s, psh_n, hk_0, hk_1, hk_2, hk_3, hk_4, callK_ite, bit_bi, bit_0, bit_1, eq_self, reduceIte, Int.reduceEq, Int.reduceLT, Int.reduceNeg, Nat.reduceEqDiff, ne_eq, not_false_eq_true, pu_k, mset_k, mset_j, mset_at, va_pu, va_mset, Int.reduceToNat, Int.reduceLE, and_self, true_and, and_true]
  all_goals (try rfl)
  all_goals (repeat' split)
  all_goals first | rfl | simp_all
theorem g283_5 (d : Nat) (s0 : Int) (M : mM) : ev prog (d + 6) 283 0 5 [vr 87] [vi s0] (shp, M) = if s0 = 0 then (if (M 87 14) < (M 87 13) then some (.inl (some (vi (M 87 14))), (shp, M)) else some (.inl (some (vi (-1))), (shp, M))) else ev prog (d + 6) 283 0 1 [vr 87] [] (shp, M) := by
  rw [b283_5]
  try simp +decide only [b283_0, b283_2, b283_4, b283_3, b283_6, b283_8, b283_7, b283_9, callK_r, callK_x, psh_s, psh_n, hk_0, hk_1, hk_2, hk_3, hk_4, callK_ite, bit_bi, bit_0, bit_1, eq_self, reduceIte, Int.reduceEq, Int.reduceLT, Int.reduceNeg, Nat.reduceEqDiff, ne_eq, not_false_eq_true, pu_k, mset_k, mset_j, mset_at, va_pu, va_mset, Int.reduceToNat, Int.reduceLE, and_self, true_and, and_true]
  all_goals (try rfl)
  all_goals (repeat' split)
  all_goals first | rfl | simp_all
theorem g284_0 (d : Nat) (M : mM) : ev prog (d + 3) 284 0 0 [vr 87, vj] [] (shp, M) = ev prog (d + 3) 284 0 1 [vr 87, vi 0] [] (shp, M) := by
  rw [b284_0]
  try simp +decide only [b284_9, b284_2, b284_3, b284_4, b284_5, b284_6, b284_8, b284_7, callK_r, callK_x, psh_s, psh_n, hk_0, hk_1, hk_2, hk_3, hk_4, callK_ite, bit_bi, bit_0, bit_1, eq_self, reduceIte, Int.reduceEq, Int.reduceLT, Int.reduceNeg, Nat.reduceEqDiff, ne_eq, not_false_eq_true, pu_k, mset_k, mset_j, mset_at, va_pu, va_mset, Int.reduceToNat, Int.reduceLE, and_self, true_and, and_true]
  all_goals (try rfl)
  all_goals (repeat' split)
  all_goals first | rfl | simp_all
theorem g284_1 (d : Nat) (x1 : Int) (M : mM) : ev prog (d + 3) 284 0 1 [vr 87, vi x1] [] (shp, M) = if x1 < (M 87 18) then (if 0 ≤ (wr (5 * x1)) ∧ (wr (5 * x1)) < 100 then (if 0 ≤ (wr ((wr (5 * x1)) + 1)) ∧ (wr ((wr (5 * x1)) + 1)) < 100 then (if 0 ≤ (wr ((wr (5 * x1)) + 2)) ∧ (wr ((wr (5 * x1)) + 2)) < 100 then (if (bi (p52 (M 95 (Int.toNat (wr (5 * x1)))) (M 95 (Int.toNat (wr ((wr (5 * x1)) + 1)))) (M 95 (Int.toNat (wr ((wr (5 * x1)) + 2)))) M)) = 0 then some (.inl (some (vi 1)), (shp, M)) else ev prog (d + 3) 284 0 1 [vr 87, vi (wr (x1 + 1))] [] (shp, M)) else none) else none) else none) else some (.inl (some (vi 0)), (shp, M)) := by
  rw [b284_1]
  try simp +decide only [b284_0, b284_9, b284_2, b284_3, b284_4, b284_5, b284_6, b284_8, b284_7, s52, callK_r, callK_x, psh_s, psh_n, hk_0, hk_1, hk_2, hk_3, hk_4, callK_ite, bit_bi, bit_0, bit_1, eq_self, reduceIte, Int.reduceEq, Int.reduceLT, Int.reduceNeg, Nat.reduceEqDiff, ne_eq, not_false_eq_true, pu_k, mset_k, mset_j, mset_at, va_pu, va_mset, Int.reduceToNat, Int.reduceLE, and_self, true_and, and_true]
  all_goals (try rfl)
  all_goals (repeat' split)
  all_goals first | rfl | simp_all
theorem g285_0 (d : Nat) (M : mM) : ev prog (d + 7) 285 0 0 [vr 87, vj] [] (shp, M) = callK (run prog (d + 6) 283 [vr 87] (shp, mset M 87 3 0)) (fun v σ1 => ev prog (d + 7) 285 0 1 [vr 87, vj] (psh v [vr 87]) σ1) (fun e σ1 => hk [0, 0, 0, 0, 0] e σ1 (fun t => ev prog (d + 7) 285 0 t (msk (pMask prog 285 t) [vr 87, vj]) [vj] σ1)) := by
  rw [b285_0]
  try simp +decide only [b285_1, b285_4, b285_2, b285_5, b285_3, b285_6, b285_7, b285_10, b285_8, b285_11, b285_9, b285_12, b285_21, b285_14, b285_15, b285_16, b285_17, b285_18, b285_19, b285_20, callK_r, callK_x, psh_s, psh_n, hk_0, hk_1, hk_2, hk_3, hk_4, callK_ite, bit_bi, bit_0, bit_1, eq_self, reduceIte, Int.reduceEq, Int.reduceLT, Int.reduceNeg, Nat.reduceEqDiff, ne_eq, not_false_eq_true, pu_k, mset_k, mset_j, mset_at, va_pu, va_mset, Int.reduceToNat, Int.reduceLE, and_self, true_and, and_true]
  all_goals (try rfl)
  all_goals (repeat' split)
  all_goals first | rfl | simp_all
theorem g285_1 (d : Nat) (s1 : Int) (M : mM) : ev prog (d + 7) 285 0 1 [vr 87, vj] [vi s1, vr 87] (shp, M) = if s1 < 0 then callK (run prog (d + 6) 284 [vr 87] (shp, mset (mset M 87 16 s1) 87 13 0)) (fun v σ1 => ev prog (d + 7) 285 0 3 [vr 87, vj] (psh v []) σ1) (fun e σ1 => hk [0, 0, 0, 0, 0] e σ1 (fun t => ev prog (d + 7) 285 0 t (msk (pMask prog 285 t) [vr 87, vj]) [vj] σ1)) else some (.inl (some (vi 0)), (shp, mset (mset (mset M 87 16 s1) 87 13 0) 87 3 1)) := by
  rw [b285_1]
  try simp +decide only [b285_0, b285_4, b285_2, b285_5, b285_3, b285_6, b285_7, b285_10, b285_8, b285_11, b285_9, b285_12, b285_21, b285_14, b285_15, b285_16, b285_17, b285_18, b285_19, b285_20, s53, o53, callK_r, callK_x, psh_s, psh_n, hk_0, hk_1, hk_2, hk_3, hk_4, callK_ite, bit_bi, bit_0, bit_1, eq_self, reduceIte, Int.reduceEq, Int.reduceLT, Int.reduceNeg, Nat.reduceEqDiff, ne_eq, not_false_eq_true, pu_k, mset_k, mset_j, mset_at, va_pu, va_mset, Int.reduceToNat, Int.reduceLE, and_self, true_and, and_true]
  all_goals (try rfl)
  all_goals (repeat' split)
  all_goals first | rfl | simp_all
theorem g285_3 (d : Nat) (s0 : Int) (M : mM) : ev prog (d + 7) 285 0 3 [vr 87, vj] [vi s0] (shp, M) = if s0 = 0 then callK (run prog (d + 6) 54 [vr 87] (shp, M)) (fun v σ1 => ev prog (d + 7) 285 0 7 [vr 87, vj] (psh v []) σ1) (fun e σ1 => hk [0, 0, 0, 0, 0] e σ1 (fun t => ev prog (d + 7) 285 0 t (msk (pMask prog 285 t) [vr 87, vj]) [vj] σ1)) else some (.inl (some (vi 0)), (shp, mset M 87 3 1)) := by
  rw [b285_3]
  try simp +decide only [b285_0, b285_1, b285_4, b285_2, b285_5, b285_6, b285_7, b285_10, b285_8, b285_11, b285_9, b285_12, b285_21, b285_14, b285_15, b285_16, b285_17, b285_18, b285_19, b285_20, s53, o53, callK_r, callK_x, psh_s, psh_n, hk_0, hk_1, hk_2, hk_3, hk_4, callK_ite, bit_bi, bit_0, bit_1, eq_self, reduceIte, Int.reduceEq, Int.reduceLT, Int.reduceNeg, Nat.reduceEqDiff, ne_eq, not_false_eq_true, pu_k, mset_k, mset_j, mset_at, va_pu, va_mset, Int.reduceToNat, Int.reduceLE, and_self, true_and, and_true]
  all_goals (try rfl)
  all_goals (repeat' split)
  all_goals first | rfl | simp_all
theorem g285_7 (d : Nat) (s0 : Int) (M : mM) : ev prog (d + 7) 285 0 7 [vr 87, vj] [vi s0] (shp, M) = if 60 < (wr (s0 + (M 87 18))) then some (.inl (some (vi 0)), (shp, mset M 87 3 2)) else (if 200 < (wr ((M 88 2001) + (M 87 18))) then some (.inl (some (vi 0)), (shp, mset M 87 3 2)) else ev prog (d + 7) 285 0 13 [vr 87, vi 0] [] (shp, M)) := by
  rw [b285_7]
  try simp +decide only [b285_0, b285_1, b285_4, b285_2, b285_5, b285_3, b285_6, b285_10, b285_8, b285_11, b285_9, b285_12, b285_21, b285_14, b285_15, b285_16, b285_17, b285_18, b285_19, b285_20, s53, o53, callK_r, callK_x, psh_s, psh_n, hk_0, hk_1, hk_2, hk_3, hk_4, callK_ite, bit_bi, bit_0, bit_1, eq_self, reduceIte, Int.reduceEq, Int.reduceLT, Int.reduceNeg, Nat.reduceEqDiff, ne_eq, not_false_eq_true, pu_k, mset_k, mset_j, mset_at, va_pu, va_mset, Int.reduceToNat, Int.reduceLE, and_self, true_and, and_true]
  all_goals (try rfl)
  all_goals (repeat' split)
  all_goals first | rfl | simp_all
theorem g285_13 (d : Nat) (x1 : Int) (M : mM) : ev prog (d + 7) 285 0 13 [vr 87, vi x1] [] (shp, M) = if x1 < (M 87 18) then (if 0 ≤ (wr (5 * x1)) ∧ (wr (5 * x1)) < 100 then (if 0 ≤ (wr ((wr (5 * x1)) + 1)) ∧ (wr ((wr (5 * x1)) + 1)) < 100 then (if 0 ≤ (wr ((wr (5 * x1)) + 2)) ∧ (wr ((wr (5 * x1)) + 2)) < 100 then (if 0 ≤ (wr ((wr (5 * x1)) + 3)) ∧ (wr ((wr (5 * x1)) + 3)) < 100 then (if 0 ≤ (wr ((wr (5 * x1)) + 4)) ∧ (wr ((wr (5 * x1)) + 4)) < 100 then callK (run prog (d + 6) 65 [vr 87, vi (M 95 (Int.toNat (wr (5 * x1)))), vi (M 95 (Int.toNat (wr ((wr (5 * x1)) + 1)))), vi (M 95 (Int.toNat (wr ((wr (5 * x1)) + 2)))), vi (M 95 (Int.toNat (wr ((wr (5 * x1)) + 3)))), vi (M 95 (Int.toNat (wr ((wr (5 * x1)) + 4))))] (shp, M)) (fun v σ1 => ev prog (d + 7) 285 0 20 [vr 87, vi x1] (psh v []) σ1) (fun e σ1 => hk [0, 0, 0, 0, 0] e σ1 (fun t => ev prog (d + 7) 285 0 t (msk (pMask prog 285 t) [vr 87, vi x1]) [vj] σ1)) else none) else none) else none) else none) else none) else some (.inl (some (vi (M 87 18))), (shp, M)) := by
  rw [b285_13]
  try simp +decide only [b285_0, b285_1, b285_4, b285_2, b285_5, b285_3, b285_6, b285_7, b285_10, b285_8, b285_11, b285_9, b285_12, b285_21, b285_14, b285_15, b285_16, b285_17, b285_18, b285_19, b285_20, callK_r, callK_x, psh_s, psh_n, hk_0, hk_1, hk_2, hk_3, hk_4, callK_ite, bit_bi, bit_0, bit_1, eq_self, reduceIte, Int.reduceEq, Int.reduceLT, Int.reduceNeg, Nat.reduceEqDiff, ne_eq, not_false_eq_true, pu_k, mset_k, mset_j, mset_at, va_pu, va_mset, Int.reduceToNat, Int.reduceLE, and_self, true_and, and_true]
  all_goals (try rfl)
  all_goals (repeat' split)
  all_goals first | rfl | simp_all
theorem g285_20 (d : Nat) (x1 : Int) (s0 : Int) (M : mM) : ev prog (d + 7) 285 0 20 [vr 87, vi x1] [vi s0] (shp, M) = ev prog (d + 7) 285 0 13 [vr 87, vi (wr (x1 + 1))] [] (shp, M) := by
  rw [b285_20]
  try simp +decide only [b285_0, b285_1, b285_4, b285_2, b285_5, b285_3, b285_6, b285_7, b285_10, b285_8, b285_11, b285_9, b285_12, b285_21, b285_14, b285_15, b285_16, b285_17, b285_18, b285_19, callK_r, callK_x, psh_s, psh_n, hk_0, hk_1, hk_2, hk_3, hk_4, callK_ite, bit_bi, bit_0, bit_1, eq_self, reduceIte, Int.reduceEq, Int.reduceLT, Int.reduceNeg, Nat.reduceEqDiff, ne_eq, not_false_eq_true, pu_k, mset_k, mset_j, mset_at, va_pu, va_mset, Int.reduceToNat, Int.reduceLE, and_self, true_and, and_true]
  all_goals (try rfl)
  all_goals (repeat' split)
  all_goals first | rfl | simp_all
theorem g290_0 (d : Nat) (M : mM) : ev prog (d + 6) 290 0 0 [vr 45, vr 12] [] (shp, M) = callK (run prog (d + 5) 38 [vr 45] (shp, mset (mcpy M 13 46 400) 45 11 (M 12 11))) (fun v σ1 => ev prog (d + 6) 290 0 2 [vj, vj] (psh v []) σ1) (fun e σ1 => hk [0, 0, 0, 0, 0] e σ1 (fun t => ev prog (d + 6) 290 0 t (msk (pMask prog 290 t) [vr 45, vr 12]) [vj] σ1)) := by
  rw [b290_0]
  try simp +decide only [b290_1, b290_2, cr_13_46, callK_r, callK_x, psh_s, psh_n, hk_0, hk_1, hk_2, hk_3, hk_4, callK_ite, bit_bi, bit_0, bit_1, eq_self, reduceIte, Int.reduceEq, Int.reduceLT, Int.reduceNeg, Nat.reduceEqDiff, ne_eq, not_false_eq_true, pu_k, mset_k, mset_j, mset_at, va_pu, va_mset, Int.reduceToNat, Int.reduceLE, and_self, true_and, and_true]
  all_goals (try rfl)
  all_goals (repeat' split)
  all_goals first | rfl | simp_all
theorem g290_2 (d : Nat) (M : mM) : ev prog (d + 6) 290 0 2 [vj, vj] [] (shp, M) = some (.inl none, (shp, M)) := by
  rw [b290_2]
  try simp +decide only [b290_0, b290_1, callK_r, callK_x, psh_s, psh_n, hk_0, hk_1, hk_2, hk_3, hk_4, callK_ite, bit_bi, bit_0, bit_1, eq_self, reduceIte, Int.reduceEq, Int.reduceLT, Int.reduceNeg, Nat.reduceEqDiff, ne_eq, not_false_eq_true, pu_k, mset_k, mset_j, mset_at, va_pu, va_mset, Int.reduceToNat, Int.reduceLE, and_self, true_and, and_true]
  all_goals (try rfl)
  all_goals (repeat' split)
  all_goals first | rfl | simp_all
theorem g290a_0 (d : Nat) (M : mM) : ev prog (d + 6) 290 0 0 [vr 12, vr 45] [] (shp, M) = callK (run prog (d + 5) 38 [vr 12] (shp, mset (mcpy M 46 13 400) 12 11 (M 45 11))) (fun v σ1 => ev prog (d + 6) 290 0 2 [vj, vj] (psh v []) σ1) (fun e σ1 => hk [0, 0, 0, 0, 0] e σ1 (fun t => ev prog (d + 6) 290 0 t (msk (pMask prog 290 t) [vr 12, vr 45]) [vj] σ1)) := by
  rw [b290a_0]
  try simp +decide only [b290a_1, b290a_2, cr_46_13, callK_r, callK_x, psh_s, psh_n, hk_0, hk_1, hk_2, hk_3, hk_4, callK_ite, bit_bi, bit_0, bit_1, eq_self, reduceIte, Int.reduceEq, Int.reduceLT, Int.reduceNeg, Nat.reduceEqDiff, ne_eq, not_false_eq_true, pu_k, mset_k, mset_j, mset_at, va_pu, va_mset, Int.reduceToNat, Int.reduceLE, and_self, true_and, and_true]
  all_goals (try rfl)
  all_goals (repeat' split)
  all_goals first | rfl | simp_all
theorem g290a_2 (d : Nat) (M : mM) : ev prog (d + 6) 290 0 2 [vj, vj] [] (shp, M) = some (.inl none, (shp, M)) := by
  rw [b290a_2]
  try simp +decide only [b290a_0, b290a_1, callK_r, callK_x, psh_s, psh_n, hk_0, hk_1, hk_2, hk_3, hk_4, callK_ite, bit_bi, bit_0, bit_1, eq_self, reduceIte, Int.reduceEq, Int.reduceLT, Int.reduceNeg, Nat.reduceEqDiff, ne_eq, not_false_eq_true, pu_k, mset_k, mset_j, mset_at, va_pu, va_mset, Int.reduceToNat, Int.reduceLE, and_self, true_and, and_true]
  all_goals (try rfl)
  all_goals (repeat' split)
  all_goals first | rfl | simp_all
theorem g293_0 (d : Nat) (M : mM) : ev prog (d + 7) 293 0 0 [vr 39, vr 6] [] (shp, M) = callK (run prog (d + 6) 290 [vr 45, vr 12] (shp, mset (mset (mcpy (mcpy (mcpy (mcpy M 8 41 600) 9 42 200) 10 43 200) 11 44 200) 40 4 (M 7 4)) 40 5 (M 7 5))) (fun v σ1 => ev prog (d + 7) 293 0 2 [vr 39, vr 6] (psh v []) σ1) (fun e σ1 => hk [0, 0, 0, 0, 0] e σ1 (fun t => ev prog (d + 7) 293 0 t (msk (pMask prog 293 t) [vr 39, vr 6]) [vj] σ1)) := by
  rw [b293_0]
  try simp +decide only [b293_1, b293_2, b293_3, b293_4, s289, o289, callK_r, callK_x, psh_s, psh_n, hk_0, hk_1, hk_2, hk_3, hk_4, callK_ite, bit_bi, bit_0, bit_1, eq_self, reduceIte, Int.reduceEq, Int.reduceLT, Int.reduceNeg, Nat.reduceEqDiff, ne_eq, not_false_eq_true, pu_k, mset_k, mset_j, mset_at, va_pu, va_mset, Int.reduceToNat, Int.reduceLE, and_self, true_and, and_true]
  all_goals (try rfl)
  all_goals (repeat' split)
  all_goals first | rfl | simp_all
theorem g293_2 (d : Nat) (M : mM) : ev prog (d + 7) 293 0 2 [vr 39, vr 6] [] (shp, M) = some (.inl none, (shp, mcpy (mcpy (mcpy (mcpy (mcpy (mcpy M 26 59 4) 34 67 6) 35 68 3) 36 69 3) 37 70 3) 38 71 10)) := by
  rw [b293_2]
  try simp +decide only [b293_0, b293_1, b293_3, b293_4, s291, s292, o291, o292, callK_r, callK_x, psh_s, psh_n, hk_0, hk_1, hk_2, hk_3, hk_4, callK_ite, bit_bi, bit_0, bit_1, eq_self, reduceIte, Int.reduceEq, Int.reduceLT, Int.reduceNeg, Nat.reduceEqDiff, ne_eq, not_false_eq_true, pu_k, mset_k, mset_j, mset_at, va_pu, va_mset, Int.reduceToNat, Int.reduceLE, and_self, true_and, and_true]
  all_goals (try rfl)
  all_goals (repeat' split)
  all_goals first | rfl | simp_all
theorem g293a_0 (d : Nat) (M : mM) : ev prog (d + 7) 293 0 0 [vr 6, vr 39] [] (shp, M) = callK (run prog (d + 6) 290 [vr 12, vr 45] (shp, mset (mset (mcpy (mcpy (mcpy (mcpy M 41 8 600) 42 9 200) 43 10 200) 44 11 200) 7 4 (M 40 4)) 7 5 (M 40 5))) (fun v σ1 => ev prog (d + 7) 293 0 2 [vr 6, vr 39] (psh v []) σ1) (fun e σ1 => hk [0, 0, 0, 0, 0] e σ1 (fun t => ev prog (d + 7) 293 0 t (msk (pMask prog 293 t) [vr 6, vr 39]) [vj] σ1)) := by
  rw [b293a_0]
  try simp +decide only [b293a_1, b293a_2, b293a_3, b293a_4, s289a, o289a, callK_r, callK_x, psh_s, psh_n, hk_0, hk_1, hk_2, hk_3, hk_4, callK_ite, bit_bi, bit_0, bit_1, eq_self, reduceIte, Int.reduceEq, Int.reduceLT, Int.reduceNeg, Nat.reduceEqDiff, ne_eq, not_false_eq_true, pu_k, mset_k, mset_j, mset_at, va_pu, va_mset, Int.reduceToNat, Int.reduceLE, and_self, true_and, and_true]
  all_goals (try rfl)
  all_goals (repeat' split)
  all_goals first | rfl | simp_all
theorem g293a_2 (d : Nat) (M : mM) : ev prog (d + 7) 293 0 2 [vr 6, vr 39] [] (shp, M) = some (.inl none, (shp, mcpy (mcpy (mcpy (mcpy (mcpy (mcpy M 59 26 4) 67 34 6) 68 35 3) 69 36 3) 70 37 3) 71 38 10)) := by
  rw [b293a_2]
  try simp +decide only [b293a_0, b293a_1, b293a_3, b293a_4, s291a, s292a, o291a, o292a, callK_r, callK_x, psh_s, psh_n, hk_0, hk_1, hk_2, hk_3, hk_4, callK_ite, bit_bi, bit_0, bit_1, eq_self, reduceIte, Int.reduceEq, Int.reduceLT, Int.reduceNeg, Nat.reduceEqDiff, ne_eq, not_false_eq_true, pu_k, mset_k, mset_j, mset_at, va_pu, va_mset, Int.reduceToNat, Int.reduceLE, and_self, true_and, and_true]
  all_goals (try rfl)
  all_goals (repeat' split)
  all_goals first | rfl | simp_all
theorem g294_0 (d : Nat) (M : mM) : ev prog (d + 8) 294 0 0 [vr 5] [] (shp, M) = callK (run prog (d + 7) 293 [vr 39, vr 6] (shp, M)) (fun v σ1 => ev prog (d + 8) 294 0 1 [vr 5] (psh v []) σ1) (fun e σ1 => hk [0, 0, 0, 0, 0] e σ1 (fun t => ev prog (d + 8) 294 0 t (msk (pMask prog 294 t) [vr 5]) [vj] σ1)) := by
  rw [b294_0]
  try simp +decide only [b294_1, callK_r, callK_x, psh_s, psh_n, hk_0, hk_1, hk_2, hk_3, hk_4, callK_ite, bit_bi, bit_0, bit_1, eq_self, reduceIte, Int.reduceEq, Int.reduceLT, Int.reduceNeg, Nat.reduceEqDiff, ne_eq, not_false_eq_true, pu_k, mset_k, mset_j, mset_at, va_pu, va_mset, Int.reduceToNat, Int.reduceLE, and_self, true_and, and_true]
  all_goals (try rfl)
  all_goals (repeat' split)
  all_goals first | rfl | simp_all
theorem g294_1 (d : Nat) (M : mM) : ev prog (d + 8) 294 0 1 [vr 5] [] (shp, M) = some (.inl none, (shp, mset M 5 5 1)) := by
  rw [b294_1]
  try simp +decide only [b294_0, callK_r, callK_x, psh_s, psh_n, hk_0, hk_1, hk_2, hk_3, hk_4, callK_ite, bit_bi, bit_0, bit_1, eq_self, reduceIte, Int.reduceEq, Int.reduceLT, Int.reduceNeg, Nat.reduceEqDiff, ne_eq, not_false_eq_true, pu_k, mset_k, mset_j, mset_at, va_pu, va_mset, Int.reduceToNat, Int.reduceLE, and_self, true_and, and_true]
  all_goals (try rfl)
  all_goals (repeat' split)
  all_goals first | rfl | simp_all
theorem g295_0 (d : Nat) (M : mM) : ev prog (d + 1) 295 0 0 [vr 87, vj] [] (shp, M) = ev prog (d + 1) 295 0 1 [vr 87, vi 0] [] (shp, mset (mset M 87 3 0) 87 2 1) := by
  rw [b295_0]
  try simp +decide only [b295_5, b295_2, b295_3, b295_4, callK_r, callK_x, psh_s, psh_n, hk_0, hk_1, hk_2, hk_3, hk_4, callK_ite, bit_bi, bit_0, bit_1, eq_self, reduceIte, Int.reduceEq, Int.reduceLT, Int.reduceNeg, Nat.reduceEqDiff, ne_eq, not_false_eq_true, pu_k, mset_k, mset_j, mset_at, va_pu, va_mset, Int.reduceToNat, Int.reduceLE, and_self, true_and, and_true]
  all_goals (try rfl)
  all_goals (repeat' split)
  all_goals first | rfl | simp_all
theorem g295_1 (d : Nat) (x1 : Int) (M : mM) : ev prog (d + 1) 295 0 1 [vr 87, vi x1] [] (shp, M) = if x1 < 2031 then (if 0 ≤ x1 ∧ x1 < 2031 then (if 0 ≤ x1 ∧ x1 < 2031 then ev prog (d + 1) 295 0 1 [vr 87, vi (wr (x1 + 1))] [] (shp, mset M 89 (Int.toNat x1) (M 88 (Int.toNat x1))) else none) else none) else some (.inl none, (shp, M)) := by
  rw [b295_1]
  try simp +decide only [b295_0, b295_5, b295_2, b295_3, b295_4, callK_r, callK_x, psh_s, psh_n, hk_0, hk_1, hk_2, hk_3, hk_4, callK_ite, bit_bi, bit_0, bit_1, eq_self, reduceIte, Int.reduceEq, Int.reduceLT, Int.reduceNeg, Nat.reduceEqDiff, ne_eq, not_false_eq_true, pu_k, mset_k, mset_j, mset_at, va_pu, va_mset, Int.reduceToNat, Int.reduceLE, and_self, true_and, and_true]
  all_goals (try rfl)
  all_goals (repeat' split)
  all_goals first | rfl | simp_all
theorem g296_0 (d : Nat) (M : mM) : ev prog (d + 8) 296 0 0 [vr 5] [] (shp, M) = if (M 5 5) = 0 then some (.inr 1, (shp, M)) else callK (run prog (d + 7) 293 [vr 6, vr 39] (shp, mset M 79 4 0)) (fun v σ1 => ev prog (d + 8) 296 0 4 [vj] (psh v []) σ1) (fun e σ1 => hk [0, 0, 0, 0, 0] e σ1 (fun t => ev prog (d + 8) 296 0 t (msk (pMask prog 296 t) [vr 5]) [vj] σ1)) := by
  rw [b296_0]
  try simp +decide only [b296_2, b296_1, b296_3, b296_4, s16, o16, callK_r, callK_x, psh_s, psh_n, hk_0, hk_1, hk_2, hk_3, hk_4, callK_ite, bit_bi, bit_0, bit_1, eq_self, reduceIte, Int.reduceEq, Int.reduceLT, Int.reduceNeg, Nat.reduceEqDiff, ne_eq, not_false_eq_true, pu_k, mset_k, mset_j, mset_at, va_pu, va_mset, Int.reduceToNat, Int.reduceLE, and_self, true_and, and_true]
  all_goals (try rfl)
  all_goals (repeat' split)
  all_goals first | rfl | simp_all
theorem g296_4 (d : Nat) (M : mM) : ev prog (d + 8) 296 0 4 [vj] [] (shp, M) = some (.inl none, (shp, M)) := by
  rw [b296_4]
  try simp +decide only [b296_0, b296_2, b296_1, b296_3, callK_r, callK_x, psh_s, psh_n, hk_0, hk_1, hk_2, hk_3, hk_4, callK_ite, bit_bi, bit_0, bit_1, eq_self, reduceIte, Int.reduceEq, Int.reduceLT, Int.reduceNeg, Nat.reduceEqDiff, ne_eq, not_false_eq_true, pu_k, mset_k, mset_j, mset_at, va_pu, va_mset, Int.reduceToNat, Int.reduceLE, and_self, true_and, and_true]
  all_goals (try rfl)
  all_goals (repeat' split)
  all_goals first | rfl | simp_all
theorem g298_0 (d : Nat) (M : mM) : ev prog (d + 1) 298 0 0 [vr 87, vj] [] (shp, M) = if (M 87 2) = 0 then some (.inl none, (shp, mset (mset M 87 3 0) 87 3 1)) else ev prog (d + 1) 298 0 3 [vr 87, vi 0] [] (shp, mset M 87 3 0) := by
  rw [b298_0]
  try simp +decide only [b298_2, b298_1, b298_7, b298_4, b298_5, b298_6, callK_r, callK_x, psh_s, psh_n, hk_0, hk_1, hk_2, hk_3, hk_4, callK_ite, bit_bi, bit_0, bit_1, eq_self, reduceIte, Int.reduceEq, Int.reduceLT, Int.reduceNeg, Nat.reduceEqDiff, ne_eq, not_false_eq_true, pu_k, mset_k, mset_j, mset_at, va_pu, va_mset, Int.reduceToNat, Int.reduceLE, and_self, true_and, and_true]
  all_goals (try rfl)
  all_goals (repeat' split)
  all_goals first | rfl | simp_all
theorem g298_3 (d : Nat) (x1 : Int) (M : mM) : ev prog (d + 1) 298 0 3 [vr 87, vi x1] [] (shp, M) = if x1 < 2031 then (if 0 ≤ x1 ∧ x1 < 2031 then (if 0 ≤ x1 ∧ x1 < 2031 then ev prog (d + 1) 298 0 3 [vr 87, vi (wr (x1 + 1))] [] (shp, mset M 88 (Int.toNat x1) (M 89 (Int.toNat x1))) else none) else none) else some (.inl none, (shp, mset M 87 8 0)) := by
  rw [b298_3]
  try simp +decide only [b298_0, b298_2, b298_1, b298_7, b298_4, b298_5, b298_6, callK_r, callK_x, psh_s, psh_n, hk_0, hk_1, hk_2, hk_3, hk_4, callK_ite, bit_bi, bit_0, bit_1, eq_self, reduceIte, Int.reduceEq, Int.reduceLT, Int.reduceNeg, Nat.reduceEqDiff, ne_eq, not_false_eq_true, pu_k, mset_k, mset_j, mset_at, va_pu, va_mset, Int.reduceToNat, Int.reduceLE, and_self, true_and, and_true]
  all_goals (try rfl)
  all_goals (repeat' split)
  all_goals first | rfl | simp_all
