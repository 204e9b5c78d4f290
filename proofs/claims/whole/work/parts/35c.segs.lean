/-! FROM CUT TO CUT, 2 -/
theorem g175_6 (d : Nat) (x1 : Int) (x3 : Int) (s0 : Int) (s1 : Int) (M : mM) : ev prog (d + 5) 175 0 6 [vr 87, vi x1, vj, vi x3] [vi s1, vi s0] (shp, M) = callK (run prog (d + 4) 162 [vr 87, vi x1] (shp, M)) (fun v σ1 => ev prog (d + 5) 175 0 7 [vr 87, vi x1, vj, vi x3] (psh v [vi s1, vi s0]) σ1) (fun e σ1 => hk [0, 0, 0, 0, 0] e σ1 (fun t => ev prog (d + 5) 175 0 t (msk (pMask prog 175 t) [vr 87, vi x1, vj, vi x3]) [vj] σ1)) := by
  rw [b175_6]
  try simp +decide only [b175_0, b175_2, b175_15, b175_3, b175_4, b175_13, b175_5, b175_14, b175_7, b175_12, b175_8, b175_9, b175_10, b175_11, callK_r, callK_x, psh_s, psh_n, hk_0, hk_1, hk_2, hk_3, hk_4, callK_ite, bit_bi, bit_0, bit_1, eq_self, reduceIte, Int.reduceEq, Int.reduceLT, Int.reduceNeg, Nat.reduceEqDiff, ne_eq, not_false_eq_true, pu_k, mset_k, mset_j, mset_at, va_pu, va_mset, Int.reduceToNat, Int.reduceLE, and_self, true_and, and_true]
  all_goals (try rfl)
  all_goals (repeat' split)
  all_goals first | rfl | simp_all
theorem g175_7 (d : Nat) (x1 : Int) (x3 : Int) (s0 : Int) (s1 : Int) (s2 : Int) (M : mM) : ev prog (d + 5) 175 0 7 [vr 87, vi x1, vj, vi x3] [vi s2, vi s1, vi s0] (shp, M) = if s1 < s2 then ev prog (d + 5) 175 0 1 [vr 87, vi x1, vi (wr (s0 + 1)), vi (wr (x3 + 1))] [] (shp, M) else callK (run prog (d + 4) 162 [vr 87, vi x3] (shp, M)) (fun v σ1 => ev prog (d + 5) 175 0 9 [vr 87, vi x1, vj, vi x3] (psh v [vi s0]) σ1) (fun e σ1 => hk [0, 0, 0, 0, 0] e σ1 (fun t => ev prog (d + 5) 175 0 t (msk (pMask prog 175 t) [vr 87, vi x1, vj, vi x3]) [vj] σ1)) := by
  rw [b175_7]
  try simp +decide only [b175_0, b175_2, b175_15, b175_3, b175_4, b175_13, b175_5, b175_14, b175_6, b175_12, b175_8, b175_9, b175_10, b175_11, callK_r, callK_x, psh_s, psh_n, hk_0, hk_1, hk_2, hk_3, hk_4, callK_ite, bit_bi, bit_0, bit_1, eq_self, reduceIte, Int.reduceEq, Int.reduceLT, Int.reduceNeg, Nat.reduceEqDiff, ne_eq, not_false_eq_true, pu_k, mset_k, mset_j, mset_at, va_pu, va_mset, Int.reduceToNat, Int.reduceLE, and_self, true_and, and_true]
  all_goals (try rfl)
  all_goals (repeat' split)
  all_goals first | rfl | simp_all
theorem g175_9 (d : Nat) (x1 : Int) (x3 : Int) (s0 : Int) (s1 : Int) (M : mM) : ev prog (d + 5) 175 0 9 [vr 87, vi x1, vj, vi x3] [vi s1, vi s0] (shp, M) = callK (run prog (d + 4) 162 [vr 87, vi x1] (shp, M)) (fun v σ1 => ev prog (d + 5) 175 0 10 [vr 87, vi x1, vj, vi x3] (psh v [vi s1, vi s0]) σ1) (fun e σ1 => hk [0, 0, 0, 0, 0] e σ1 (fun t => ev prog (d + 5) 175 0 t (msk (pMask prog 175 t) [vr 87, vi x1, vj, vi x3]) [vj] σ1)) := by
  rw [b175_9]
  try simp +decide only [b175_0, b175_2, b175_15, b175_3, b175_4, b175_13, b175_5, b175_14, b175_6, b175_7, b175_12, b175_8, b175_10, b175_11, callK_r, callK_x, psh_s, psh_n, hk_0, hk_1, hk_2, hk_3, hk_4, callK_ite, bit_bi, bit_0, bit_1, eq_self, reduceIte, Int.reduceEq, Int.reduceLT, Int.reduceNeg, Nat.reduceEqDiff, ne_eq, not_false_eq_true, pu_k, mset_k, mset_j, mset_at, va_pu, va_mset, Int.reduceToNat, Int.reduceLE, and_self, true_and, and_true]
  all_goals (try rfl)
  all_goals (repeat' split)
  all_goals first | rfl | simp_all
theorem g175_10 (d : Nat) (x1 : Int) (x3 : Int) (s0 : Int) (s1 : Int) (s2 : Int) (M : mM) : ev prog (d + 5) 175 0 10 [vr 87, vi x1, vj, vi x3] [vi s2, vi s1, vi s0] (shp, M) = if s1 = s2 then (if x3 < x1 then ev prog (d + 5) 175 0 1 [vr 87, vi x1, vi (wr (s0 + 1)), vi (wr (x3 + 1))] [] (shp, M) else ev prog (d + 5) 175 0 1 [vr 87, vi x1, vi (wr (s0 + 0)), vi (wr (x3 + 1))] [] (shp, M)) else ev prog (d + 5) 175 0 1 [vr 87, vi x1, vi (wr (s0 + 0)), vi (wr (x3 + 1))] [] (shp, M) := by
  rw [b175_10]
  try simp +decide only [b175_0, b175_2, b175_15, b175_3, b175_4, b175_13, b175_5, b175_14, b175_6, b175_7, b175_12, b175_8, b175_9, b175_11, callK_r, callK_x, psh_s, psh_n, hk_0, hk_1, hk_2, hk_3, hk_4, callK_ite, bit_bi, bit_0, bit_1, eq_self, reduceIte, Int.reduceEq, Int.reduceLT, Int.reduceNeg, Nat.reduceEqDiff, ne_eq, not_false_eq_true, pu_k, mset_k, mset_j, mset_at, va_pu, va_mset, Int.reduceToNat, Int.reduceLE, and_self, true_and, and_true]
  all_goals (try rfl)
  all_goals (repeat' split)
  all_goals first | rfl | simp_all
theorem g176_0 (d : Nat) (x1 : Int) (M : mM) : ev prog (d + 6) 176 0 0 [vr 87, vi x1, vj] [] (shp, M) = ev prog (d + 6) 176 0 1 [vr 87, vi x1, vi 0] [] (shp, mset M 87 3 0) := by
  rw [b176_0]
  try simp +decide only [b176_2, b176_9, b176_3, b176_10, b176_4, b176_8, b176_5, b176_6, b176_7, callK_r, callK_x, psh_s, psh_n, hk_0, hk_1, hk_2, hk_3, hk_4, callK_ite, bit_bi, bit_0, bit_1, eq_self, reduceIte, Int.reduceEq, Int.reduceLT, Int.reduceNeg, Nat.reduceEqDiff, ne_eq, not_false_eq_true, pu_k, mset_k, mset_j, mset_at, va_pu, va_mset, Int.reduceToNat, Int.reduceLE, and_self, true_and, and_true]
  all_goals (try rfl)
  all_goals (repeat' split)
  all_goals first | rfl | simp_all
theorem g176_1 (d : Nat) (x1 : Int) (x2 : Int) (M : mM) : ev prog (d + 6) 176 0 1 [vr 87, vi x1, vi x2] [] (shp, M) = if x2 < (M 88 2001) then callK (run prog (d + 5) 129 [vr 87, vi x2] (shp, M)) (fun v σ1 => ev prog (d + 6) 176 0 4 [vr 87, vi x1, vi x2] (psh v []) σ1) (fun e σ1 => hk [0, 0, 0, 0, 0] e σ1 (fun t => ev prog (d + 6) 176 0 t (msk (pMask prog 176 t) [vr 87, vi x1, vi x2]) [vj] σ1)) else some (.inl (some (vi 0)), (shp, mset M 87 3 1)) := by
  rw [b176_1]
  try simp +decide only [b176_0, b176_2, b176_9, b176_3, b176_10, b176_4, b176_8, b176_5, b176_6, b176_7, s53, o53, callK_r, callK_x, psh_s, psh_n, hk_0, hk_1, hk_2, hk_3, hk_4, callK_ite, bit_bi, bit_0, bit_1, eq_self, reduceIte, Int.reduceEq, Int.reduceLT, Int.reduceNeg, Nat.reduceEqDiff, ne_eq, not_false_eq_true, pu_k, mset_k, mset_j, mset_at, va_pu, va_mset, Int.reduceToNat, Int.reduceLE, and_self, true_and, and_true]
  all_goals (try rfl)
  all_goals (repeat' split)
  all_goals first | rfl | simp_all
theorem g176_4 (d : Nat) (x1 : Int) (x2 : Int) (s0 : Int) (M : mM) : ev prog (d + 6) 176 0 4 [vr 87, vi x1, vi x2] [vi s0] (shp, M) = if s0 = 0 then ev prog (d + 6) 176 0 1 [vr 87, vi x1, vi (wr (x2 + 1))] [] (shp, M) else callK (run prog (d + 5) 175 [vr 87, vi x2] (shp, M)) (fun v σ1 => ev prog (d + 6) 176 0 6 [vr 87, vi x1, vi x2] (psh v []) σ1) (fun e σ1 => hk [0, 0, 0, 0, 0] e σ1 (fun t => ev prog (d + 6) 176 0 t (msk (pMask prog 176 t) [vr 87, vi x1, vi x2]) [vj] σ1)) := by
  rw [b176_4]
  try simp +decide only [b176_0, b176_2, b176_9, b176_3, b176_10, b176_8, b176_5, b176_6, b176_7, callK_r, callK_x, psh_s, psh_n, hk_0, hk_1, hk_2, hk_3, hk_4, callK_ite, bit_bi, bit_0, bit_1, eq_self, reduceIte, Int.reduceEq, Int.reduceLT, Int.reduceNeg, Nat.reduceEqDiff, ne_eq, not_false_eq_true, pu_k, mset_k, mset_j, mset_at, va_pu, va_mset, Int.reduceToNat, Int.reduceLE, and_self, true_and, and_true]
  all_goals (try rfl)
  all_goals (repeat' split)
  all_goals first | rfl | simp_all
theorem g176_6 (d : Nat) (x1 : Int) (x2 : Int) (s0 : Int) (M : mM) : ev prog (d + 6) 176 0 6 [vr 87, vi x1, vi x2] [vi s0] (shp, M) = if s0 = x1 then some (.inl (some (vi x2)), (shp, M)) else ev prog (d + 6) 176 0 1 [vr 87, vi x1, vi (wr (x2 + 1))] [] (shp, M) := by
  rw [b176_6]
  try simp +decide only [b176_0, b176_2, b176_9, b176_3, b176_10, b176_4, b176_8, b176_5, b176_7, callK_r, callK_x, psh_s, psh_n, hk_0, hk_1, hk_2, hk_3, hk_4, callK_ite, bit_bi, bit_0, bit_1, eq_self, reduceIte, Int.reduceEq, Int.reduceLT, Int.reduceNeg, Nat.reduceEqDiff, ne_eq, not_false_eq_true, pu_k, mset_k, mset_j, mset_at, va_pu, va_mset, Int.reduceToNat, Int.reduceLE, and_self, true_and, and_true]
  all_goals (try rfl)
  all_goals (repeat' split)
  all_goals first | rfl | simp_all
theorem g177_0 (d : Nat) (M : mM) : ev prog (d + 6) 177 0 0 [vr 72, vj, vj] [] (shp, M) = callK (run prog (d + 5) 170 [vr 72] (shp, M)) (fun v σ1 => ev prog (d + 6) 177 0 1 [vr 72, vj, vj] (psh v []) σ1) (fun e σ1 => hk [0, 0, 0, 0, 0] e σ1 (fun t => ev prog (d + 6) 177 0 t (msk (pMask prog 177 t) [vr 72, vj, vj]) [vj] σ1)) := by
  rw [b177_0]
  try simp +decide only [b177_1, b177_9, b177_3, b177_11, b177_10, b177_7, b177_4, b177_12, b177_8, b177_5, b177_6, callK_r, callK_x, psh_s, psh_n, hk_0, hk_1, hk_2, hk_3, hk_4, callK_ite, bit_bi, bit_0, bit_1, eq_self, reduceIte, Int.reduceEq, Int.reduceLT, Int.reduceNeg, Nat.reduceEqDiff, ne_eq, not_false_eq_true, pu_k, mset_k, mset_j, mset_at, va_pu, va_mset, Int.reduceToNat, Int.reduceLE, and_self, true_and, and_true]
  all_goals (try rfl)
  all_goals (repeat' split)
  all_goals first | rfl | simp_all
theorem g177_1 (d : Nat) (M : mM) : ev prog (d + 6) 177 0 1 [vr 72, vj, vj] [] (shp, M) = ev prog (d + 6) 177 0 2 [vr 72, vi (-1), vi 0] [] (shp, M) := by
  rw [b177_1]
  try simp +decide only [b177_0, b177_9, b177_3, b177_11, b177_10, b177_7, b177_4, b177_12, b177_8, b177_5, b177_6, callK_r, callK_x, psh_s, psh_n, hk_0, hk_1, hk_2, hk_3, hk_4, callK_ite, bit_bi, bit_0, bit_1, eq_self, reduceIte, Int.reduceEq, Int.reduceLT, Int.reduceNeg, Nat.reduceEqDiff, ne_eq, not_false_eq_true, pu_k, mset_k, mset_j, mset_at, va_pu, va_mset, Int.reduceToNat, Int.reduceLE, and_self, true_and, and_true]
  all_goals (try rfl)
  all_goals (repeat' split)
  all_goals first | rfl | simp_all
theorem g177_2 (d : Nat) (x1 : Int) (x2 : Int) (M : mM) : ev prog (d + 6) 177 0 2 [vr 72, vi x1, vi x2] [] (shp, M) = if x2 < (M 73 1) then (if x1 = (-1) then ev prog (d + 6) 177 0 2 [vr 72, vi x2, vi (wr (x2 + 1))] [] (shp, M) else (if (va M 75 60 x1) < (va M 75 60 x2) then ev prog (d + 6) 177 0 2 [vr 72, vi x2, vi (wr (x2 + 1))] [] (shp, M) else ev prog (d + 6) 177 0 2 [vr 72, vi x1, vi (wr (x2 + 1))] [] (shp, M))) else (if x1 = (-1) then some (.inl (some (vi (-1))), (shp, M)) else some (.inl (some (vi (r30 x1 M))), (shp, M))) := by
  rw [b177_2]
  try simp +decide only [b177_0, b177_1, b177_9, b177_3, b177_11, b177_10, b177_7, b177_4, b177_12, b177_8, b177_5, b177_6, s30, va_75, callK_r, callK_x, psh_s, psh_n, hk_0, hk_1, hk_2, hk_3, hk_4, callK_ite, bit_bi, bit_0, bit_1, eq_self, reduceIte, Int.reduceEq, Int.reduceLT, Int.reduceNeg, Nat.reduceEqDiff, ne_eq, not_false_eq_true, pu_k, mset_k, mset_j, mset_at, va_pu, va_mset, Int.reduceToNat, Int.reduceLE, and_self, true_and, and_true]
  all_goals (try rfl)
  all_goals (repeat' split)
  all_goals first | rfl | simp_all
theorem g178_0 (d : Nat) (M : mM) : ev prog (d + 7) 178 0 0 [vr 5, vj] [] (shp, M) = callK (run prog (d + 6) 177 [vr 72] (shp, M)) (fun v σ1 => ev prog (d + 7) 178 0 1 [vj, vj] (psh v []) σ1) (fun e σ1 => hk [0, 0, 0, 0, 0] e σ1 (fun t => ev prog (d + 7) 178 0 t (msk (pMask prog 178 t) [vr 5, vj]) [vj] σ1)) := by
  rw [b178_0]
  try simp +decide only [b178_1, b178_3, b178_2, callK_r, callK_x, psh_s, psh_n, hk_0, hk_1, hk_2, hk_3, hk_4, callK_ite, bit_bi, bit_0, bit_1, eq_self, reduceIte, Int.reduceEq, Int.reduceLT, Int.reduceNeg, Nat.reduceEqDiff, ne_eq, not_false_eq_true, pu_k, mset_k, mset_j, mset_at, va_pu, va_mset, Int.reduceToNat, Int.reduceLE, and_self, true_and, and_true]
  all_goals (try rfl)
  all_goals (repeat' split)
  all_goals first | rfl | simp_all
theorem g178_1 (d : Nat) (s0 : Int) (M : mM) : ev prog (d + 7) 178 0 1 [vj, vj] [vi s0] (shp, M) = if s0 = (-1) then some (.inr 2, (shp, M)) else some (.inl (some (vi s0)), (shp, M)) := by
  rw [b178_1]
  try simp +decide only [b178_0, b178_3, b178_2, callK_r, callK_x, psh_s, psh_n, hk_0, hk_1, hk_2, hk_3, hk_4, callK_ite, bit_bi, bit_0, bit_1, eq_self, reduceIte, Int.reduceEq, Int.reduceLT, Int.reduceNeg, Nat.reduceEqDiff, ne_eq, not_false_eq_true, pu_k, mset_k, mset_j, mset_at, va_pu, va_mset, Int.reduceToNat, Int.reduceLE, and_self, true_and, and_true]
  all_goals (try rfl)
  all_goals (repeat' split)
  all_goals first | rfl | simp_all
theorem g180_0 (d : Nat) (M : mM) : ev prog (d + 5) 180 0 0 [vr 87, vj, vj] [] (shp, M) = ev prog (d + 5) 180 0 1 [vr 87, vi (-1), vi 0] [] (shp, mset M 87 3 0) := by
  rw [b180_0]
  try simp +decide only [b180_2, b180_11, b180_3, b180_14, b180_12, b180_4, b180_15, b180_13, b180_10, b180_5, b180_9, b180_6, b180_7, b180_8, callK_r, callK_x, psh_s, psh_n, hk_0, hk_1, hk_2, hk_3, hk_4, callK_ite, bit_bi, bit_0, bit_1, eq_self, reduceIte, Int.reduceEq, Int.reduceLT, Int.reduceNeg, Nat.reduceEqDiff, ne_eq, not_false_eq_true, pu_k, mset_k, mset_j, mset_at, va_pu, va_mset, Int.reduceToNat, Int.reduceLE, and_self, true_and, and_true]
  all_goals (try rfl)
  all_goals (repeat' split)
  all_goals first | rfl | simp_all
theorem g180_1 (d : Nat) (x1 : Int) (x2 : Int) (M : mM) : ev prog (d + 5) 180 0 1 [vr 87, vi x1, vi x2] [] (shp, M) = if x2 < (M 88 2001) then callK (run prog (d + 4) 129 [vr 87, vi x2] (shp, M)) (fun v σ1 => ev prog (d + 5) 180 0 4 [vr 87, vi x1, vi x2] (psh v []) σ1) (fun e σ1 => hk [0, 0, 0, 0, 0] e σ1 (fun t => ev prog (d + 5) 180 0 t (msk (pMask prog 180 t) [vr 87, vi x1, vi x2]) [vj] σ1)) else (if x1 < 0 then some (.inl (some (vi 0)), (shp, mset M 87 3 1)) else some (.inl (some (vi x1)), (shp, M))) := by
  rw [b180_1]
  try simp +decide only [b180_0, b180_2, b180_11, b180_3, b180_14, b180_12, b180_4, b180_15, b180_13, b180_10, b180_5, b180_9, b180_6, b180_7, b180_8, s53, o53, callK_r, callK_x, psh_s, psh_n, hk_0, hk_1, hk_2, hk_3, hk_4, callK_ite, bit_bi, bit_0, bit_1, eq_self, reduceIte, Int.reduceEq, Int.reduceLT, Int.reduceNeg, Nat.reduceEqDiff, ne_eq, not_false_eq_true, pu_k, mset_k, mset_j, mset_at, va_pu, va_mset, Int.reduceToNat, Int.reduceLE, and_self, true_and, and_true]
  all_goals (try rfl)
  all_goals (repeat' split)
  all_goals first | rfl | simp_all
theorem g180_4 (d : Nat) (x1 : Int) (x2 : Int) (s0 : Int) (M : mM) : ev prog (d + 5) 180 0 4 [vr 87, vi x1, vi x2] [vi s0] (shp, M) = if s0 = 0 then ev prog (d + 5) 180 0 1 [vr 87, vi x1, vi (wr (x2 + 1))] [] (shp, M) else (if x1 < 0 then ev prog (d + 5) 180 0 1 [vr 87, vi x2, vi (wr (x2 + 1))] [] (shp, M) else callK (run prog (d + 4) 162 [vr 87, vi x2] (shp, M)) (fun v σ1 => ev prog (d + 5) 180 0 7 [vr 87, vi x1, vi x2] (psh v []) σ1) (fun e σ1 => hk [0, 0, 0, 0, 0] e σ1 (fun t => ev prog (d + 5) 180 0 t (msk (pMask prog 180 t) [vr 87, vi x1, vi x2]) [vj] σ1))) := by
  rw [b180_4]
  try simp +decide only [b180_0, b180_2, b180_11, b180_3, b180_14, b180_12, b180_15, b180_13, b180_10, b180_5, b180_9, b180_6, b180_7, b180_8, callK_r, callK_x, psh_s, psh_n, hk_0, hk_1, hk_2, hk_3, hk_4, callK_ite, bit_bi, bit_0, bit_1, eq_self, reduceIte, Int.reduceEq, Int.reduceLT, Int.reduceNeg, Nat.reduceEqDiff, ne_eq, not_false_eq_true, pu_k, mset_k, mset_j, mset_at, va_pu, va_mset, Int.reduceToNat, Int.reduceLE, and_self, true_and, and_true]
  all_goals (try rfl)
  all_goals (repeat' split)
  all_goals first | rfl | simp_all
theorem g180_7 (d : Nat) (x1 : Int) (x2 : Int) (s0 : Int) (M : mM) : ev prog (d + 5) 180 0 7 [vr 87, vi x1, vi x2] [vi s0] (shp, M) = callK (run prog (d + 4) 162 [vr 87, vi x1] (shp, M)) (fun v σ1 => ev prog (d + 5) 180 0 8 [vr 87, vi x1, vi x2] (psh v [vi s0]) σ1) (fun e σ1 => hk [0, 0, 0, 0, 0] e σ1 (fun t => ev prog (d + 5) 180 0 t (msk (pMask prog 180 t) [vr 87, vi x1, vi x2]) [vj] σ1)) := by
  rw [b180_7]
  try simp +decide only [b180_0, b180_2, b180_11, b180_3, b180_14, b180_12, b180_4, b180_15, b180_13, b180_10, b180_5, b180_9, b180_6, b180_8, callK_r, callK_x, psh_s, psh_n, hk_0, hk_1, hk_2, hk_3, hk_4, callK_ite, bit_bi, bit_0, bit_1, eq_self, reduceIte, Int.reduceEq, Int.reduceLT, Int.reduceNeg, Nat.reduceEqDiff, ne_eq, not_false_eq_true, pu_k, mset_k, mset_j, mset_at, va_pu, va_mset, Int.reduceToNat, Int.reduceLE, and_self, true_and, and_true]
  all_goals (try rfl)
  all_goals (repeat' split)
  all_goals first | rfl | simp_all
theorem g180_8 (d : Nat) (x1 : Int) (x2 : Int) (s0 : Int) (s1 : Int) (M : mM) : ev prog (d + 5) 180 0 8 [vr 87, vi x1, vi x2] [vi s1, vi s0] (shp, M) = if s1 < s0 then ev prog (d + 5) 180 0 1 [vr 87, vi x2, vi (wr (x2 + 1))] [] (shp, M) else ev prog (d + 5) 180 0 1 [vr 87, vi x1, vi (wr (x2 + 1))] [] (shp, M) := by
  rw [b180_8]
  try simp +decide only [b180_0, b180_2, b180_11, b180_3, b180_14, b180_12, b180_4, b180_15, b180_13, b180_10, b180_5, b180_9, b180_6, b180_7, callK_r, callK_x, psh_s, psh_n, hk_0, hk_1, hk_2, hk_3, hk_4, callK_ite, bit_bi, bit_0, bit_1, eq_self, reduceIte, Int.reduceEq, Int.reduceLT, Int.reduceNeg, Nat.reduceEqDiff, ne_eq, not_false_eq_true, pu_k, mset_k, mset_j, mset_at, va_pu, va_mset, Int.reduceToNat, Int.reduceLE, and_self, true_and, and_true]
  all_goals (try rfl)
  all_goals (repeat' split)
  all_goals first | rfl | simp_all
theorem g181_0 (d : Nat) (x1 : Int) (M : mM) : ev prog (d + 6) 181 0 0 [vr 72, vi x1, vj, vj] [] (shp, M) = callK (run prog (d + 5) 170 [vr 72] (shp, M)) (fun v σ1 => ev prog (d + 6) 181 0 1 [vr 72, vi x1, vj, vj] (psh v []) σ1) (fun e σ1 => hk [0, 0, 0, 0, 0] e σ1 (fun t => ev prog (d + 6) 181 0 t (msk (pMask prog 181 t) [vr 72, vi x1, vj, vj]) [vj] σ1)) := by
  rw [b181_0]
  try simp +decide only [b181_1, b181_7, b181_3, b181_4, b181_6, b181_5, callK_r, callK_x, psh_s, psh_n, hk_0, hk_1, hk_2, hk_3, hk_4, callK_ite, bit_bi, bit_0, bit_1, eq_self, reduceIte, Int.reduceEq, Int.reduceLT, Int.reduceNeg, Nat.reduceEqDiff, ne_eq, not_false_eq_true, pu_k, mset_k, mset_j, mset_at, va_pu, va_mset, Int.reduceToNat, Int.reduceLE, and_self, true_and, and_true]
  all_goals (try rfl)
  all_goals (repeat' split)
  all_goals first | rfl | simp_all
theorem g181_1 (d : Nat) (x1 : Int) (M : mM) : ev prog (d + 6) 181 0 1 [vr 72, vi x1, vj, vj] [] (shp, M) = ev prog (d + 6) 181 0 2 [vr 72, vi x1, vi 0, vi 0] [] (shp, M) := by
  rw [b181_1]
  try simp +decide only [b181_0, b181_7, b181_3, b181_4, b181_6, b181_5, callK_r, callK_x, psh_s, psh_n, hk_0, hk_1, hk_2, hk_3, hk_4, callK_ite, bit_bi, bit_0, bit_1, eq_self, reduceIte, Int.reduceEq, Int.reduceLT, Int.reduceNeg, Nat.reduceEqDiff, ne_eq, not_false_eq_true, pu_k, mset_k, mset_j, mset_at, va_pu, va_mset, Int.reduceToNat, Int.reduceLE, and_self, true_and, and_true]
  all_goals (try rfl)
  all_goals (repeat' split)
  all_goals first | rfl | simp_all
theorem g181_2 (d : Nat) (x1 : Int) (x2 : Int) (x3 : Int) (M : mM) : ev prog (d + 6) 181 0 2 [vr 72, vi x1, vi x2, vi x3] [] (shp, M) = if x3 < (M 73 1) then (if x1 < (va M 75 60 x3) then ev prog (d + 6) 181 0 2 [vr 72, vi x1, vi x2, vi (wr (x3 + 1))] [] (shp, M) else ev prog (d + 6) 181 0 2 [vr 72, vi x1, vi (wr (x2 + 1)), vi (wr (x3 + 1))] [] (shp, M)) else some (.inl (some (vi x2)), (shp, M)) := by
  rw [b181_2]
  try simp +decide only [b181_0, b181_1, b181_7, b181_3, b181_4, b181_6, b181_5, va_75, callK_r, callK_x, psh_s, psh_n, hk_0, hk_1, hk_2, hk_3, hk_4, callK_ite, bit_bi, bit_0, bit_1, eq_self, reduceIte, Int.reduceEq, Int.reduceLT, Int.reduceNeg, Nat.reduceEqDiff, ne_eq, not_false_eq_true, pu_k, mset_k, mset_j, mset_at, va_pu, va_mset, Int.reduceToNat, Int.reduceLE, and_self, true_and, and_true]
  all_goals (try rfl)
  all_goals (repeat' split)
  all_goals first | rfl | simp_all
theorem g182_0 (d : Nat) (x1 : Int) (M : mM) : ev prog (d + 7) 182 0 0 [vr 5, vi x1] [] (shp, M) = callK (run prog (d + 6) 181 [vr 72, vi x1] (shp, M)) (fun v σ1 => ev prog (d + 7) 182 0 1 [vj, vj] (psh v []) σ1) (fun e σ1 => hk [0, 0, 0, 0, 0] e σ1 (fun t => ev prog (d + 7) 182 0 t (msk (pMask prog 182 t) [vr 5, vi x1]) [vj] σ1)) := by
  rw [b182_0]
  try simp +decide only [b182_1, callK_r, callK_x, psh_s, psh_n, hk_0, hk_1, hk_2, hk_3, hk_4, callK_ite, bit_bi, bit_0, bit_1, eq_self, reduceIte, Int.reduceEq, Int.reduceLT, Int.reduceNeg, Nat.reduceEqDiff, ne_eq, not_false_eq_true, pu_k, mset_k, mset_j, mset_at, va_pu, va_mset, Int.reduceToNat, Int.reduceLE, and_self, true_and, and_true]
  all_goals (try rfl)
  all_goals (repeat' split)
  all_goals first | rfl | simp_all
theorem g182_1 (d : Nat) (s0 : Int) (M : mM) : ev prog (d + 7) 182 0 1 [vj, vj] [vi s0] (shp, M) = some (.inl (some (vi s0)), (shp, M)) := by
  rw [b182_1]
  try simp +decide only [b182_0, callK_r, callK_x, psh_s, psh_n, hk_0, hk_1, hk_2, hk_3, hk_4, callK_ite, bit_bi, bit_0, bit_1, eq_self, reduceIte, Int.reduceEq, Int.reduceLT, Int.reduceNeg, Nat.reduceEqDiff, ne_eq, not_false_eq_true, pu_k, mset_k, mset_j, mset_at, va_pu, va_mset, Int.reduceToNat, Int.reduceLE, and_self, true_and, and_true]
  all_goals (try rfl)
  all_goals (repeat' split)
  all_goals first | rfl | simp_all
theorem g183_0 (d : Nat) (x1 : Int) (M : mM) : ev prog (d + 5) 183 0 0 [vr 87, vi x1, vj, vj] [] (shp, M) = ev prog (d + 5) 183 0 1 [vr 87, vi x1, vi 0, vi 0] [] (shp, mset M 87 3 0) := by
  rw [b183_0]
  try simp +decide only [b183_2, b183_10, b183_3, b183_4, b183_8, b183_5, b183_9, b183_6, b183_7, callK_r, callK_x, psh_s, psh_n, hk_0, hk_1, hk_2, hk_3, hk_4, callK_ite, bit_bi, bit_0, bit_1, eq_self, reduceIte, Int.reduceEq, Int.reduceLT, Int.reduceNeg, Nat.reduceEqDiff, ne_eq, not_false_eq_true, pu_k, mset_k, mset_j, mset_at, va_pu, va_mset, Int.reduceToNat, Int.reduceLE, and_self, true_and, and_true]
  all_goals (try rfl)
  all_goals (repeat' split)
  all_goals first | rfl | simp_all
theorem g183_1 (d : Nat) (x1 : Int) (x2 : Int) (x3 : Int) (M : mM) : ev prog (d + 5) 183 0 1 [vr 87, vi x1, vi x2, vi x3] [] (shp, M) = if x3 < (M 88 2001) then callK (run prog (d + 4) 129 [vr 87, vi x3] (shp, M)) (fun v σ1 => ev prog (d + 5) 183 0 4 [vr 87, vi x1, vj, vi x3] (psh v [vi x2]) σ1) (fun e σ1 => hk [0, 0, 0, 0, 0] e σ1 (fun t => ev prog (d + 5) 183 0 t (msk (pMask prog 183 t) [vr 87, vi x1, vi x2, vi x3]) [vj] σ1)) else some (.inl (some (vi x2)), (shp, M)) := by
  rw [b183_1]
  try simp +decide only [b183_0, b183_2, b183_10, b183_3, b183_4, b183_8, b183_5, b183_9, b183_6, b183_7, callK_r, callK_x, psh_s, psh_n, hk_0, hk_1, hk_2, hk_3, hk_4, callK_ite, bit_bi, bit_0, bit_1, eq_self, reduceIte, Int.reduceEq, Int.reduceLT, Int.reduceNeg, Nat.reduceEqDiff, ne_eq, not_false_eq_true, pu_k, mset_k, mset_j, mset_at, va_pu, va_mset, Int.reduceToNat, Int.reduceLE, and_self, true_and, and_true]
  all_goals (try rfl)
  all_goals (repeat' split)
  all_goals first | rfl | simp_all
theorem g183_4 (d : Nat) (x1 : Int) (x3 : Int) (s0 : Int) (s1 : Int) (M : mM) : ev prog (d + 5) 183 0 4 [vr 87, vi x1, vj, vi x3] [vi s1, vi s0] (shp, M) = if s1 = 0 then ev prog (d + 5) 183 0 1 [vr 87, vi x1, vi (wr (s0 + 0)), vi (wr (x3 + 1))] [] (shp, M) else callK (run prog (d + 4) 162 [vr 87, vi x3] (shp, M)) (fun v σ1 => ev prog (d + 5) 183 0 6 [vr 87, vi x1, vj, vi x3] (psh v [vi s0]) σ1) (fun e σ1 => hk [0, 0, 0, 0, 0] e σ1 (fun t => ev prog (d + 5) 183 0 t (msk (pMask prog 183 t) [vr 87, vi x1, vj, vi x3]) [vj] σ1)) := by
  rw [b183_4]
  try simp +decide only [b183_0, b183_2, b183_10, b183_3, b183_8, b183_5, b183_9, b183_6, b183_7, callK_r, callK_x, psh_s, psh_n, hk_0, hk_1, hk_2, hk_3, hk_4, callK_ite, bit_bi, bit_0, bit_1, eq_self, reduceIte, Int.reduceEq, Int.reduceLT, Int.reduceNeg, Nat.reduceEqDiff, ne_eq, not_false_eq_true, pu_k, mset_k, mset_j, mset_at, va_pu, va_mset, Int.reduceToNat, Int.reduceLE, and_self, true_and, and_true]
  all_goals (try rfl)
  all_goals (repeat' split)
  all_goals first | rfl | simp_all
theorem g183_6 (d : Nat) (x1 : Int) (x3 : Int) (s0 : Int) (s1 : Int) (M : mM) : ev prog (d + 5) 183 0 6 [vr 87, vi x1, vj, vi x3] [vi s1, vi s0] (shp, M) = if x1 < s1 then ev prog (d + 5) 183 0 1 [vr 87, vi x1, vi (wr (s0 + 0)), vi (wr (x3 + 1))] [] (shp, M) else ev prog (d + 5) 183 0 1 [vr 87, vi x1, vi (wr (s0 + 1)), vi (wr (x3 + 1))] [] (shp, M) := by
  rw [b183_6]
  try simp +decide only [b183_0, b183_2, b183_10, b183_3, b183_4, b183_8, b183_5, b183_9, b183_7, callK_r, callK_x, psh_s, psh_n, hk_0, hk_1, hk_2, hk_3, hk_4, callK_ite, bit_bi, bit_0, bit_1, eq_self, reduceIte, Int.reduceEq, Int.reduceLT, Int.reduceNeg, Nat.reduceEqDiff, ne_eq, not_false_eq_true, pu_k, mset_k, mset_j, mset_at, va_pu, va_mset, Int.reduceToNat, Int.reduceLE, and_self, true_and, and_true]
  all_goals (try rfl)
  all_goals (repeat' split)
  all_goals first | rfl | simp_all
theorem g184_0 (d : Nat) (x1 : Int) (M : mM) : ev prog (d + 6) 184 0 0 [vr 72, vi x1, vj, vj, vj, vj] [] (shp, M) = callK (run prog (d + 5) 170 [vr 72] (shp, M)) (fun v σ1 => ev prog (d + 6) 184 0 1 [vr 72, vi x1, vj, vj, vj, vj] (psh v []) σ1) (fun e σ1 => hk [0, 0, 0, 0, 0] e σ1 (fun t => ev prog (d + 6) 184 0 t (msk (pMask prog 184 t) [vr 72, vi x1, vj, vj, vj, vj]) [vj] σ1)) := by
  rw [b184_0]
  try simp +decide only [b184_1, b184_12, b184_3, b184_4, b184_11, b184_5, b184_6, b184_7, b184_8, b184_9, b184_10, callK_r, callK_x, psh_s, psh_n, hk_0, hk_1, hk_2, hk_3, hk_4, callK_ite, bit_bi, bit_0, bit_1, eq_self, reduceIte, Int.reduceEq, Int.reduceLT, Int.reduceNeg, Nat.reduceEqDiff, ne_eq, not_false_eq_true, pu_k, mset_k, mset_j, mset_at, va_pu, va_mset, Int.reduceToNat, Int.reduceLE, and_self, true_and, and_true]
  all_goals (try rfl)
  all_goals (repeat' split)
  all_goals first | rfl | simp_all
theorem g184_1 (d : Nat) (x1 : Int) (M : mM) : ev prog (d + 6) 184 0 1 [vr 72, vi x1, vj, vj, vj, vj] [] (shp, M) = ev prog (d + 6) 184 0 2 [vr 72, vi x1, vd FP.dconst0, vj, vi 0, vj] [] (shp, M) := by
  rw [b184_1]
  try simp +decide only [b184_0, b184_12, b184_3, b184_4, b184_11, b184_5, b184_6, b184_7, b184_8, b184_9, b184_10, callK_r, callK_x, psh_s, psh_n, hk_0, hk_1, hk_2, hk_3, hk_4, callK_ite, bit_bi, bit_0, bit_1, eq_self, reduceIte, Int.reduceEq, Int.reduceLT, Int.reduceNeg, Nat.reduceEqDiff, ne_eq, not_false_eq_true, pu_k, mset_k, mset_j, mset_at, va_pu, va_mset, Int.reduceToNat, Int.reduceLE, and_self, true_and, and_true]
  all_goals (try rfl)
  all_goals (repeat' split)
  all_goals first | rfl | simp_all
theorem g184_2 (d : Nat) (x1 : Int) (x2 : UInt64) (x4 : Int) (M : mM) : ev prog (d + 6) 184 0 2 [vr 72, vi x1, vd x2, vj, vi x4, vj] [] (shp, M) = if x4 < (M 73 1) then (if (va M 75 60 x4) < 0 then ev prog (d + 6) 184 0 2 [vr 72, vi x1, vd x2, vj, vi (wr (x4 + 1)), vj] [] (shp, M) else (if x1 < (va M 75 60 x4) then ev prog (d + 6) 184 0 2 [vr 72, vi x1, vd x2, vj, vi (wr (x4 + 1)), vj] [] (shp, M) else (if nn64 (FP.ddiv (FP.i2d (Int32.ofInt (va M 9 200 (r30 x4 M)))) (FP.i2d (Int32.ofInt (wr (1 + (va M 75 60 x4)))))) = true then (if nn64 (FP.dadd x2 (FP.ddiv (FP.i2d (Int32.ofInt (va M 9 200 (r30 x4 M)))) (FP.i2d (Int32.ofInt (wr (1 + (va M 75 60 x4))))))) = true then ev prog (d + 6) 184 0 2 [vr 72, vi x1, vd (FP.dadd x2 (FP.ddiv (FP.i2d (Int32.ofInt (va M 9 200 (r30 x4 M)))) (FP.i2d (Int32.ofInt (wr (1 + (va M 75 60 x4))))))), vj, vi (wr (x4 + 1)), vj] [] (shp, M) else none) else none))) else some (.inl (some (vd x2)), (shp, M)) := by
  rw [b184_2]
  try simp +decide only [b184_0, b184_1, b184_12, b184_3, b184_4, b184_11, b184_5, b184_6, b184_7, b184_8, b184_9, b184_10, s30, va_75, va_9, callK_r, callK_x, psh_s, psh_n, hk_0, hk_1, hk_2, hk_3, hk_4, callK_ite, bit_bi, bit_0, bit_1, eq_self, reduceIte, Int.reduceEq, Int.reduceLT, Int.reduceNeg, Nat.reduceEqDiff, ne_eq, not_false_eq_true, pu_k, mset_k, mset_j, mset_at, va_pu, va_mset, Int.reduceToNat, Int.reduceLE, and_self, true_and, and_true]
  all_goals (try rfl)
  all_goals (repeat' split)
  all_goals first | rfl | simp_all
theorem g185_0 (d : Nat) (x1 : Int) (M : mM) : ev prog (d + 7) 185 0 0 [vr 5, vi x1] [] (shp, M) = callK (run prog (d + 6) 184 [vr 72, vi x1] (shp, M)) (fun v σ1 => ev prog (d + 7) 185 0 1 [vj, vj] (psh v []) σ1) (fun e σ1 => hk [0, 0, 0, 0, 0] e σ1 (fun t => ev prog (d + 7) 185 0 t (msk (pMask prog 185 t) [vr 5, vi x1]) [vj] σ1)) := by
  rw [b185_0]
  try simp +decide only [b185_1, callK_r, callK_x, psh_s, psh_n, hk_0, hk_1, hk_2, hk_3, hk_4, callK_ite, bit_bi, bit_0, bit_1, eq_self, reduceIte, Int.reduceEq, Int.reduceLT, Int.reduceNeg, Nat.reduceEqDiff, ne_eq, not_false_eq_true, pu_k, mset_k, mset_j, mset_at, va_pu, va_mset, Int.reduceToNat, Int.reduceLE, and_self, true_and, and_true]
  all_goals (try rfl)
  all_goals (repeat' split)
  all_goals first | rfl | simp_all
theorem g185_1 (d : Nat) (s0 : UInt64) (M : mM) : ev prog (d + 7) 185 0 1 [vj, vj] [vd s0] (shp, M) = some (.inl (some (vd s0)), (shp, M)) := by
  rw [b185_1]
  try simp +decide only [b185_0, callK_r, callK_x, psh_s, psh_n, hk_0, hk_1, hk_2, hk_3, hk_4, callK_ite, bit_bi, bit_0, bit_1, eq_self, reduceIte, Int.reduceEq, Int.reduceLT, Int.reduceNeg, Nat.reduceEqDiff, ne_eq, not_false_eq_true, pu_k, mset_k, mset_j, mset_at, va_pu, va_mset, Int.reduceToNat, Int.reduceLE, and_self, true_and, and_true]
  all_goals (try rfl)
  all_goals (repeat' split)
  all_goals first | rfl | simp_all
theorem g186_0 (d : Nat) (x1 : Int) (M : mM) : ev prog (d + 5) 186 0 0 [vr 87, vi x1, vj, vj, vj] [] (shp, M) = ev prog (d + 5) 186 0 1 [vr 87, vi x1, vd FP.dconst0, vj, vi 0] [] (shp, mset M 87 3 0) := by
  rw [b186_0]
  try simp +decide only [b186_2, b186_13, b186_3, b186_4, b186_12, b186_5, b186_6, b186_7, b186_8, b186_9, b186_10, b186_11, callK_r, callK_x, psh_s, psh_n, hk_0, hk_1, hk_2, hk_3, hk_4, callK_ite, bit_bi, bit_0, bit_1, eq_self, reduceIte, Int.reduceEq, Int.reduceLT, Int.reduceNeg, Nat.reduceEqDiff, ne_eq, not_false_eq_true, pu_k, mset_k, mset_j, mset_at, va_pu, va_mset, Int.reduceToNat, Int.reduceLE, and_self, true_and, and_true]
  all_goals (try rfl)
  all_goals (repeat' split)
  all_goals first | rfl | simp_all
theorem g186_1 (d : Nat) (x1 : Int) (x2 : UInt64) (x4 : Int) (M : mM) : ev prog (d + 5) 186 0 1 [vr 87, vi x1, vd x2, vj, vi x4] [] (shp, M) = if x4 < (M 88 2001) then callK (run prog (d + 4) 129 [vr 87, vi x4] (shp, M)) (fun v σ1 => ev prog (d + 5) 186 0 4 [vr 87, vi x1, vd x2, vj, vi x4] (psh v []) σ1) (fun e σ1 => hk [0, 0, 0, 0, 0] e σ1 (fun t => ev prog (d + 5) 186 0 t (msk (pMask prog 186 t) [vr 87, vi x1, vd x2, vj, vi x4]) [vj] σ1)) else some (.inl (some (vd x2)), (shp, M)) := by
  rw [b186_1]
  try simp +decide only [b186_0, b186_2, b186_13, b186_3, b186_4, b186_12, b186_5, b186_6, b186_7, b186_8, b186_9, b186_10, b186_11, callK_r, callK_x, psh_s, psh_n, hk_0, hk_1, hk_2, hk_3, hk_4, callK_ite, bit_bi, bit_0, bit_1, eq_self, reduceIte, Int.reduceEq, Int.reduceLT, Int.reduceNeg, Nat.reduceEqDiff, ne_eq, not_false_eq_true, pu_k, mset_k, mset_j, mset_at, va_pu, va_mset, Int.reduceToNat, Int.reduceLE, and_self, true_and, and_true]
  all_goals (try rfl)
  all_goals (repeat' split)
  all_goals first | rfl | simp_all
theorem g186_4 (d : Nat) (x1 : Int) (x2 : UInt64) (x4 : Int) (s0 : Int) (M : mM) : ev prog (d + 5) 186 0 4 [vr 87, vi x1, vd x2, vj, vi x4] [vi s0] (shp, M) = if s0 = 0 then ev prog (d + 5) 186 0 1 [vr 87, vi x1, vd x2, vj, vi (wr (x4 + 1))] [] (shp, M) else callK (run prog (d + 4) 162 [vr 87, vi x4] (shp, M)) (fun v σ1 => ev prog (d + 5) 186 0 6 [vr 87, vi x1, vd x2, vj, vi x4] (psh v []) σ1) (fun e σ1 => hk [0, 0, 0, 0, 0] e σ1 (fun t => ev prog (d + 5) 186 0 t (msk (pMask prog 186 t) [vr 87, vi x1, vd x2, vj, vi x4]) [vj] σ1)) := by
  rw [b186_4]
  try simp +decide only [b186_0, b186_2, b186_13, b186_3, b186_12, b186_5, b186_6, b186_7, b186_8, b186_9, b186_10, b186_11, callK_r, callK_x, psh_s, psh_n, hk_0, hk_1, hk_2, hk_3, hk_4, callK_ite, bit_bi, bit_0, bit_1, eq_self, reduceIte, Int.reduceEq, Int.reduceLT, Int.reduceNeg, Nat.reduceEqDiff, ne_eq, not_false_eq_true, pu_k, mset_k, mset_j, mset_at, va_pu, va_mset, Int.reduceToNat, Int.reduceLE, and_self, true_and, and_true]
  all_goals (try rfl)
  all_goals (repeat' split)
  all_goals first | rfl | simp_all
theorem g186_6 (d : Nat) (x1 : Int) (x2 : UInt64) (x4 : Int) (s0 : Int) (M : mM) : ev prog (d + 5) 186 0 6 [vr 87, vi x1, vd x2, vj, vi x4] [vi s0] (shp, M) = if x1 < s0 then ev prog (d + 5) 186 0 1 [vr 87, vi x1, vd x2, vj, vi (wr (x4 + 1))] [] (shp, M) else (if 0 ≤ (wr (600 + x4)) ∧ (wr (600 + x4)) < 2031 then callK (run prog (d + 4) 162 [vr 87, vi x4] (shp, M)) (fun v σ1 => ev prog (d + 5) 186 0 9 [vr 87, vi x1, vj, vj, vi x4] (psh v [vi 1, vd (FP.i2d (Int32.ofInt (M 88 (Int.toNat (wr (600 + x4)))))), vd x2]) σ1) (fun e σ1 => hk [0, 0, 0, 0, 0] e σ1 (fun t => ev prog (d + 5) 186 0 t (msk (pMask prog 186 t) [vr 87, vi x1, vj, vj, vi x4]) [vj] σ1)) else none) := by
  rw [b186_6]
  try simp +decide only [b186_0, b186_2, b186_13, b186_3, b186_4, b186_12, b186_5, b186_7, b186_8, b186_9, b186_10, b186_11, callK_r, callK_x, psh_s, psh_n, hk_0, hk_1, hk_2, hk_3, hk_4, callK_ite, bit_bi, bit_0, bit_1, eq_self, reduceIte, Int.reduceEq, Int.reduceLT, Int.reduceNeg, Nat.reduceEqDiff, ne_eq, not_false_eq_true, pu_k, mset_k, mset_j, mset_at, va_pu, va_mset, Int.reduceToNat, Int.reduceLE, and_self, true_and, and_true]
  all_goals (try rfl)
  all_goals (repeat' split)
  all_goals first | rfl | simp_all
theorem g186_9 (d : Nat) (x1 : Int) (x4 : Int) (s0 : UInt64) (s1 : UInt64) (s2 : Int) (s3 : Int) (M : mM) : ev prog (d + 5) 186 0 9 [vr 87, vi x1, vj, vj, vi x4] [vi s3, vi s2, vd s1, vd s0] (shp, M) = if nn64 (FP.ddiv s1 (FP.i2d (Int32.ofInt (wr (s2 + s3))))) = true then (if nn64 (FP.dadd s0 (FP.ddiv s1 (FP.i2d (Int32.ofInt (wr (s2 + s3)))))) = true then ev prog (d + 5) 186 0 1 [vr 87, vi x1, vd (FP.dadd s0 (FP.ddiv s1 (FP.i2d (Int32.ofInt (wr (s2 + s3)))))), vj, vi (wr (x4 + 1))] [] (shp, M) else none) else none := by
  rw [b186_9]
  try simp +decide only [b186_0, b186_2, b186_13, b186_3, b186_4, b186_12, b186_5, b186_6, b186_7, b186_8, b186_10, b186_11, callK_r, callK_x, psh_s, psh_n, hk_0, hk_1, hk_2, hk_3, hk_4, callK_ite, bit_bi, bit_0, bit_1, eq_self, reduceIte, Int.reduceEq, Int.reduceLT, Int.reduceNeg, Nat.reduceEqDiff, ne_eq, not_false_eq_true, pu_k, mset_k, mset_j, mset_at, va_pu, va_mset, Int.reduceToNat, Int.reduceLE, and_self, true_and, and_true]
  all_goals (try rfl)
  all_goals (repeat' split)
  all_goals first | rfl | simp_all
theorem g187_0 (d : Nat) (x1 : Int) (x2 : Int) (M : mM) : ev prog (d + 4) 187 0 0 [vr 72, vi x1, vi x2] [] (shp, M) = callK (run prog (d + 3) 156 [vr 33, vi (wr (Int.natAbs (wr ((r20 x1 0 M) - (r20 x2 0 M))) : Int)), vi (wr (Int.natAbs (wr ((r20 x1 1 M) - (r20 x2 1 M))) : Int)), vi (wr (Int.natAbs (wr ((r20 x1 2 M) - (r20 x2 2 M))) : Int))] (shp, M)) (fun v σ1 => ev prog (d + 4) 187 0 7 [vj, vj, vj] (psh v []) σ1) (fun e σ1 => hk [0, 0, 0, 0, 0] e σ1 (fun t => ev prog (d + 4) 187 0 t (msk (pMask prog 187 t) [vj, vj, vj]) [vj] σ1)) := by
  rw [b187_0]
  try simp +decide only [b187_1, b187_2, b187_3, b187_4, b187_5, b187_6, b187_7, s20, callK_r, callK_x, psh_s, psh_n, hk_0, hk_1, hk_2, hk_3, hk_4, callK_ite, bit_bi, bit_0, bit_1, eq_self, reduceIte, Int.reduceEq, Int.reduceLT, Int.reduceNeg, Nat.reduceEqDiff, ne_eq, not_false_eq_true, pu_k, mset_k, mset_j, mset_at, va_pu, va_mset, Int.reduceToNat, Int.reduceLE, and_self, true_and, and_true]
  all_goals (try rfl)
  all_goals (repeat' split)
  all_goals first | rfl | simp_all
theorem g187_7 (d : Nat) (s0 : Int) (M : mM) : ev prog (d + 4) 187 0 7 [vj, vj, vj] [vi s0] (shp, M) = some (.inl (some (vi s0)), (shp, M)) := by
  rw [b187_7]
  try simp +decide only [b187_0, b187_1, b187_2, b187_3, b187_4, b187_5, b187_6, callK_r, callK_x, psh_s, psh_n, hk_0, hk_1, hk_2, hk_3, hk_4, callK_ite, bit_bi, bit_0, bit_1, eq_self, reduceIte, Int.reduceEq, Int.reduceLT, Int.reduceNeg, Nat.reduceEqDiff, ne_eq, not_false_eq_true, pu_k, mset_k, mset_j, mset_at, va_pu, va_mset, Int.reduceToNat, Int.reduceLE, and_self, true_and, and_true]
  all_goals (try rfl)
  all_goals (repeat' split)
  all_goals first | rfl | simp_all
theorem g188_0 (d : Nat) (x1 : Int) (x2 : Int) (M : mM) : ev prog (d + 5) 188 0 0 [vr 72, vi x1, vi x2, vj] [] (shp, M) = callK (run prog (d + 4) 187 [vr 72, vi x1, vi x2] (shp, M)) (fun v σ1 => ev prog (d + 5) 188 0 1 [vr 72, vi x1, vi x2, vj] (psh v []) σ1) (fun e σ1 => hk [0, 0, 0, 0, 0] e σ1 (fun t => ev prog (d + 5) 188 0 t (msk (pMask prog 188 t) [vr 72, vi x1, vi x2, vj]) [vj] σ1)) := by
  rw [b188_0]
  try simp +decide only [b188_1, b188_3, b188_2, b188_4, callK_r, callK_x, psh_s, psh_n, hk_0, hk_1, hk_2, hk_3, hk_4, callK_ite, bit_bi, bit_0, bit_1, eq_self, reduceIte, Int.reduceEq, Int.reduceLT, Int.reduceNeg, Nat.reduceEqDiff, ne_eq, not_false_eq_true, pu_k, mset_k, mset_j, mset_at, va_pu, va_mset, Int.reduceToNat, Int.reduceLE, and_self, true_and, and_true]
  all_goals (try rfl)
  all_goals (repeat' split)
  all_goals first | rfl | simp_all
theorem g188_1 (d : Nat) (x1 : Int) (x2 : Int) (s0 : Int) (M : mM) : ev prog (d + 5) 188 0 1 [vr 72, vi x1, vi x2, vj] [vi s0] (shp, M) = if (M 72 7) = (-1) then some (.inl none, (shp, mset (mset (mset M 72 7 x1) 72 8 x2) 72 9 s0)) else (if s0 < (M 72 9) then some (.inl none, (shp, mset (mset (mset M 72 7 x1) 72 8 x2) 72 9 s0)) else some (.inl none, (shp, M))) := by
  rw [b188_1]
  try simp +decide only [b188_0, b188_3, b188_2, b188_4, callK_r, callK_x, psh_s, psh_n, hk_0, hk_1, hk_2, hk_3, hk_4, callK_ite, bit_bi, bit_0, bit_1, eq_self, reduceIte, Int.reduceEq, Int.reduceLT, Int.reduceNeg, Nat.reduceEqDiff, ne_eq, not_false_eq_true, pu_k, mset_k, mset_j, mset_at, va_pu, va_mset, Int.reduceToNat, Int.reduceLE, and_self, true_and, and_true]
  all_goals (try rfl)
  all_goals (repeat' split)
  all_goals first | rfl | simp_all
theorem g189_0 (d : Nat) (M : mM) : ev prog (d + 6) 189 0 0 [vr 72, vj, vj] [] (shp, M) = callK (run prog (d + 5) 126 [vr 72] (shp, M)) (fun v σ1 => ev prog (d + 6) 189 0 1 [vr 72, vj, vj] (psh v []) σ1) (fun e σ1 => hk [0, 0, 0, 0, 0] e σ1 (fun t => ev prog (d + 6) 189 0 t (msk (pMask prog 189 t) [vr 72, vj, vj]) [vj] σ1)) := by
  rw [b189_0]
  try simp +decide only [b189_1, b189_10, b189_3, b189_9, b189_5, b189_6, b189_7, b189_8, callK_r, callK_x, psh_s, psh_n, hk_0, hk_1, hk_2, hk_3, hk_4, callK_ite, bit_bi, bit_0, bit_1, eq_self, reduceIte, Int.reduceEq, Int.reduceLT, Int.reduceNeg, Nat.reduceEqDiff, ne_eq, not_false_eq_true, pu_k, mset_k, mset_j, mset_at, va_pu, va_mset, Int.reduceToNat, Int.reduceLE, and_self, true_and, and_true]
  all_goals (try rfl)
  all_goals (repeat' split)
  all_goals first | rfl | simp_all
theorem g189_1 (d : Nat) (s0 : Int) (M : mM) : ev prog (d + 6) 189 0 1 [vr 72, vj, vj] [vi s0] (shp, M) = ev prog (d + 6) 189 0 2 [vr 72, vi 0, vj] [] (shp, mset M 72 7 (-1)) := by
  rw [b189_1]
  try simp +decide only [b189_0, b189_10, b189_3, b189_9, b189_5, b189_6, b189_7, b189_8, callK_r, callK_x, psh_s, psh_n, hk_0, hk_1, hk_2, hk_3, hk_4, callK_ite, bit_bi, bit_0, bit_1, eq_self, reduceIte, Int.reduceEq, Int.reduceLT, Int.reduceNeg, Nat.reduceEqDiff, ne_eq, not_false_eq_true, pu_k, mset_k, mset_j, mset_at, va_pu, va_mset, Int.reduceToNat, Int.reduceLE, and_self, true_and, and_true]
  all_goals (try rfl)
  all_goals (repeat' split)
  all_goals first | rfl | simp_all
theorem g189_2 (d : Nat) (x1 : Int) (M : mM) : ev prog (d + 6) 189 0 2 [vr 72, vi x1, vj] [] (shp, M) = if x1 < (M 73 1) then ev prog (d + 6) 189 0 4 [vr 72, vi x1, vi (wr (x1 + 1))] [] (shp, M) else some (.inl none, (shp, M)) := by
  rw [b189_2]
  try simp +decide only [b189_0, b189_1, b189_10, b189_3, b189_9, b189_5, b189_6, b189_7, b189_8, callK_r, callK_x, psh_s, psh_n, hk_0, hk_1, hk_2, hk_3, hk_4, callK_ite, bit_bi, bit_0, bit_1, eq_self, reduceIte, Int.reduceEq, Int.reduceLT, Int.reduceNeg, Nat.reduceEqDiff, ne_eq, not_false_eq_true, pu_k, mset_k, mset_j, mset_at, va_pu, va_mset, Int.reduceToNat, Int.reduceLE, and_self, true_and, and_true]
  all_goals (try rfl)
  all_goals (repeat' split)
  all_goals first | rfl | simp_all
theorem g189_4 (d : Nat) (x1 : Int) (x2 : Int) (M : mM) : ev prog (d + 6) 189 0 4 [vr 72, vi x1, vi x2] [] (shp, M) = if x2 < (M 73 1) then callK (run prog (d + 5) 188 [vr 72, vi (r30 x1 M), vi (r30 x2 M)] (shp, M)) (fun v σ1 => ev prog (d + 6) 189 0 8 [vr 72, vi x1, vi x2] (psh v []) σ1) (fun e σ1 => hk [0, 0, 0, 0, 0] e σ1 (fun t => ev prog (d + 6) 189 0 t (msk (pMask prog 189 t) [vr 72, vi x1, vi x2]) [vj] σ1)) else ev prog (d + 6) 189 0 2 [vr 72, vi (wr (x1 + 1)), vj] [] (shp, M) := by
  rw [b189_4]
  try simp +decide only [b189_0, b189_1, b189_10, b189_3, b189_9, b189_5, b189_6, b189_7, b189_8, s30, callK_r, callK_x, psh_s, psh_n, hk_0, hk_1, hk_2, hk_3, hk_4, callK_ite, bit_bi, bit_0, bit_1, eq_self, reduceIte, Int.reduceEq, Int.reduceLT, Int.reduceNeg, Nat.reduceEqDiff, ne_eq, not_false_eq_true, pu_k, mset_k, mset_j, mset_at, va_pu, va_mset, Int.reduceToNat, Int.reduceLE, and_self, true_and, and_true]
  all_goals (try rfl)
  all_goals (repeat' split)
  all_goals first | rfl | simp_all
theorem g189_8 (d : Nat) (x1 : Int) (x2 : Int) (M : mM) : ev prog (d + 6) 189 0 8 [vr 72, vi x1, vi x2] [] (shp, M) = ev prog (d + 6) 189 0 4 [vr 72, vi x1, vi (wr (x2 + 1))] [] (shp, M) := by
  rw [b189_8]
  try simp +decide only [b189_0, b189_1, b189_10, b189_3, b189_9, b189_5, b189_6, b189_7, callK_r, callK_x, psh_s, psh_n, hk_0, hk_1, hk_2, hk_3, hk_4, callK_ite, bit_bi, bit_0, bit_1, eq_self, reduceIte, Int.reduceEq, Int.reduceLT, Int.reduceNeg, Nat.reduceEqDiff, ne_eq, not_false_eq_true, pu_k, mset_k, mset_j, mset_at, va_pu, va_mset, Int.reduceToNat, Int.reduceLE, and_self, true_and, and_true]
  all_goals (try rfl)
  all_goals (repeat' split)
  all_goals first | rfl | simp_all
theorem g190_0 (d : Nat) (x1 : Int) (M : mM) : ev prog (d + 7) 190 0 0 [vr 5, vi x1] [] (shp, M) = if x1 < 0 then some (.inr 0, (shp, M)) else (if 2 < x1 then some (.inr 0, (shp, M)) else callK (run prog (d + 6) 189 [vr 72] (shp, M)) (fun v σ1 => ev prog (d + 7) 190 0 4 [vr 5, vi x1] (psh v []) σ1) (fun e σ1 => hk [0, 0, 0, 0, 0] e σ1 (fun t => ev prog (d + 7) 190 0 t (msk (pMask prog 190 t) [vr 5, vi x1]) [vj] σ1))) := by
  rw [b190_0]
  try simp +decide only [b190_2, b190_1, b190_3, b190_4, b190_6, b190_5, b190_8, b190_7, b190_10, b190_9, b190_11, callK_r, callK_x, psh_s, psh_n, hk_0, hk_1, hk_2, hk_3, hk_4, callK_ite, bit_bi, bit_0, bit_1, eq_self, reduceIte, Int.reduceEq, Int.reduceLT, Int.reduceNeg, Nat.reduceEqDiff, ne_eq, not_false_eq_true, pu_k, mset_k, mset_j, mset_at, va_pu, va_mset, Int.reduceToNat, Int.reduceLE, and_self, true_and, and_true]
  all_goals (try rfl)
  all_goals (repeat' split)
  all_goals first | rfl | simp_all
theorem g190_4 (d : Nat) (x1 : Int) (M : mM) : ev prog (d + 7) 190 0 4 [vr 5, vi x1] [] (shp, M) = if (M 72 7) = (-1) then some (.inr 2, (shp, M)) else (if x1 = 0 then some (.inl (some (vi (M 72 7))), (shp, M)) else (if x1 = 1 then some (.inl (some (vi (M 72 8))), (shp, M)) else some (.inl (some (vi (M 72 9))), (shp, M)))) := by
  rw [b190_4]
  try simp +decide only [b190_0, b190_2, b190_1, b190_3, b190_6, b190_5, b190_8, b190_7, b190_10, b190_9, b190_11, callK_r, callK_x, psh_s, psh_n, hk_0, hk_1, hk_2, hk_3, hk_4, callK_ite, bit_bi, bit_0, bit_1, eq_self, reduceIte, Int.reduceEq, Int.reduceLT, Int.reduceNeg, Nat.reduceEqDiff, ne_eq, not_false_eq_true, pu_k, mset_k, mset_j, mset_at, va_pu, va_mset, Int.reduceToNat, Int.reduceLE, and_self, true_and, and_true]
  all_goals (try rfl)
  all_goals (repeat' split)
  all_goals first | rfl | simp_all
theorem g192_0 (d : Nat) (x1 : Int) (x2 : Int) (M : mM) : ev prog (d + 3) 192 0 0 [vr 87, vi x1, vi x2] [] (shp, M) = if 0 ≤ (wr (3 * x1)) ∧ (wr (3 * x1)) < 2031 then (if 0 ≤ (wr (3 * x2)) ∧ (wr (3 * x2)) < 2031 then (if 0 ≤ (wr ((wr (3 * x1)) + 1)) ∧ (wr ((wr (3 * x1)) + 1)) < 2031 then (if 0 ≤ (wr ((wr (3 * x2)) + 1)) ∧ (wr ((wr (3 * x2)) + 1)) < 2031 then (if 0 ≤ (wr ((wr (3 * x1)) + 2)) ∧ (wr ((wr (3 * x1)) + 2)) < 2031 then (if 0 ≤ (wr ((wr (3 * x2)) + 2)) ∧ (wr ((wr (3 * x2)) + 2)) < 2031 then callK (run prog (d + 2) 161 [vr 87, vi (r160 (M 88 (Int.toNat (wr (3 * x1)))) (M 88 (Int.toNat (wr (3 * x2)))) M), vi (r160 (M 88 (Int.toNat (wr ((wr (3 * x1)) + 1)))) (M 88 (Int.toNat (wr ((wr (3 * x2)) + 1)))) M), vi (r160 (M 88 (Int.toNat (wr ((wr (3 * x1)) + 2)))) (M 88 (Int.toNat (wr ((wr (3 * x2)) + 2)))) M)] (shp, M)) (fun v σ1 => ev prog (d + 3) 192 0 10 [vj, vj, vj] (psh v []) σ1) (fun e σ1 => hk [0, 0, 0, 0, 0] e σ1 (fun t => ev prog (d + 3) 192 0 t (msk (pMask prog 192 t) [vj, vj, vj]) [vj] σ1)) else none) else none) else none) else none) else none) else none := by
  rw [b192_0]
  try simp +decide only [b192_1, b192_2, b192_3, b192_4, b192_5, b192_6, b192_7, b192_8, b192_9, b192_10, s160, callK_r, callK_x, psh_s, psh_n, hk_0, hk_1, hk_2, hk_3, hk_4, callK_ite, bit_bi, bit_0, bit_1, eq_self, reduceIte, Int.reduceEq, Int.reduceLT, Int.reduceNeg, Nat.reduceEqDiff, ne_eq, not_false_eq_true, pu_k, mset_k, mset_j, mset_at, va_pu, va_mset, Int.reduceToNat, Int.reduceLE, and_self, true_and, and_true]
  all_goals (try rfl)
  all_goals (repeat' split)
  all_goals first | rfl | simp_all
theorem g192_10 (d : Nat) (s0 : Int) (M : mM) : ev prog (d + 3) 192 0 10 [vj, vj, vj] [vi s0] (shp, M) = some (.inl (some (vi s0)), (shp, M)) := by
  rw [b192_10]
  try simp +decide only [b192_0, b192_1, b192_2, b192_3, b192_4, b192_5, b192_6, b192_7, b192_8, b192_9, callK_r, callK_x, psh_s, psh_n, hk_0, hk_1, hk_2, hk_3, hk_4, callK_ite, bit_bi, bit_0, bit_1, eq_self, reduceIte, Int.reduceEq, Int.reduceLT, Int.reduceNeg, Nat.reduceEqDiff, ne_eq, not_false_eq_true, pu_k, mset_k, mset_j, mset_at, va_pu, va_mset, Int.reduceToNat, Int.reduceLE, and_self, true_and, and_true]
  all_goals (try rfl)
  all_goals (repeat' split)
  all_goals first | rfl | simp_all
theorem g193_0 (d : Nat) (x1 : Int) (M : mM) : ev prog (d + 6) 193 0 0 [vr 87, vi x1, vj, vj, vj, vj] [] (shp, M) = if (bi (p51 x1 0 2 (mset M 87 3 0))) = 0 then some (.inl (some (vi 0)), (shp, mset (mset M 87 3 0) 87 3 1)) else callK (run prog (d + 5) 130 [vr 87] (shp, mset M 87 3 0)) (fun v σ1 => ev prog (d + 6) 193 0 5 [vr 87, vi x1, vj, vj, vj, vj] (psh v []) σ1) (fun e σ1 => hk [0, 0, 0, 0, 0] e σ1 (fun t => ev prog (d + 6) 193 0 t (msk (pMask prog 193 t) [vr 87, vi x1, vj, vj, vj, vj]) [vj] σ1)) := by
  rw [b193_0]
  try simp +decide only [b193_1, b193_4, b193_2, b193_5, b193_3, b193_8, b193_6, b193_7, b193_10, b193_25, b193_11, b193_27, b193_26, b193_29, b193_28, b193_30, b193_13, b193_24, b193_14, b193_15, b193_23, b193_16, b193_17, b193_18, b193_22, b193_19, b193_20, b193_21, s53, s51, o53, callK_r, callK_x, psh_s, psh_n, hk_0, hk_1, hk_2, hk_3, hk_4, callK_ite, bit_bi, bit_0, bit_1, eq_self, reduceIte, Int.reduceEq, Int.reduceLT, Int.reduceNeg, Nat.reduceEqDiff, ne_eq, not_false_eq_true, pu_k, mset_k, mset_j, mset_at, va_pu, va_mset, Int.reduceToNat, Int.reduceLE, and_self, true_and, and_true]
  all_goals (try rfl)
  all_goals (repeat' split)
  all_goals first | rfl | simp_all
theorem g193_5 (d : Nat) (x1 : Int) (s0 : Int) (M : mM) : ev prog (d + 6) 193 0 5 [vr 87, vi x1, vj, vj, vj, vj] [vi s0] (shp, M) = if s0 < 2 then some (.inl (some (vi 0)), (shp, mset M 87 3 2)) else ev prog (d + 6) 193 0 9 [vr 87, vi x1, vi (-1), vi (-1), vi 0, vj] [] (shp, M) := by
  rw [b193_5]
  try simp +decide only [b193_0, b193_1, b193_4, b193_2, b193_3, b193_8, b193_6, b193_7, b193_10, b193_25, b193_11, b193_27, b193_26, b193_29, b193_28, b193_30, b193_13, b193_24, b193_14, b193_15, b193_23, b193_16, b193_17, b193_18, b193_22, b193_19, b193_20, b193_21, s53, o53, callK_r, callK_x, psh_s, psh_n, hk_0, hk_1, hk_2, hk_3, hk_4, callK_ite, bit_bi, bit_0, bit_1, eq_self, reduceIte, Int.reduceEq, Int.reduceLT, Int.reduceNeg, Nat.reduceEqDiff, ne_eq, not_false_eq_true, pu_k, mset_k, mset_j, mset_at, va_pu, va_mset, Int.reduceToNat, Int.reduceLE, and_self, true_and, and_true]
  all_goals (try rfl)
  all_goals (repeat' split)
  all_goals first | rfl | simp_all
theorem g193_9 (d : Nat) (x1 : Int) (x2 : Int) (x3 : Int) (x4 : Int) (M : mM) : ev prog (d + 6) 193 0 9 [vr 87, vi x1, vi x2, vi x3, vi x4, vj] [] (shp, M) = if x4 < (M 88 2001) then ev prog (d + 6) 193 0 12 [vr 87, vi x1, vi x2, vi x3, vi x4, vi (wr (x4 + 1))] [] (shp, M) else (if x1 = 0 then some (.inl (some (vi x2)), (shp, M)) else (if x1 = 1 then some (.inl (some (vi x3)), (shp, M)) else callK (run prog (d + 5) 192 [vr 87, vi x2, vi x3] (shp, M)) (fun v σ1 => ev prog (d + 6) 193 0 30 [vj, vj, vj, vj, vj, vj] (psh v []) σ1) (fun e σ1 => hk [0, 0, 0, 0, 0] e σ1 (fun t => ev prog (d + 6) 193 0 t (msk (pMask prog 193 t) [vr 87, vj, vi x2, vi x3, vj, vj]) [vj] σ1)))) := by
  rw [b193_9]
  try simp +decide only [b193_0, b193_1, b193_4, b193_2, b193_5, b193_3, b193_8, b193_6, b193_7, b193_10, b193_25, b193_11, b193_27, b193_26, b193_29, b193_28, b193_30, b193_13, b193_24, b193_14, b193_15, b193_23, b193_16, b193_17, b193_18, b193_22, b193_19, b193_20, b193_21, callK_r, callK_x, psh_s, psh_n, hk_0, hk_1, hk_2, hk_3, hk_4, callK_ite, bit_bi, bit_0, bit_1, eq_self, reduceIte, Int.reduceEq, Int.reduceLT, Int.reduceNeg, Nat.reduceEqDiff, ne_eq, not_false_eq_true, pu_k, mset_k, mset_j, mset_at, va_pu, va_mset, Int.reduceToNat, Int.reduceLE, and_self, true_and, and_true]
  all_goals (try rfl)
  all_goals (repeat' split)
  all_goals first | rfl | simp_all
theorem g193_30 (d : Nat) (s0 : Int) (M : mM) : ev prog (d + 6) 193 0 30 [vj, vj, vj, vj, vj, vj] [vi s0] (shp, M) = some (.inl (some (vi s0)), (shp, M)) := by
  rw [b193_30]
  try simp +decide only [b193_0, b193_1, b193_4, b193_2, b193_5, b193_3, b193_8, b193_6, b193_7, b193_10, b193_25, b193_11, b193_27, b193_26, b193_29, b193_28, b193_13, b193_24, b193_14, b193_15, b193_23, b193_16, b193_17, b193_18, b193_22, b193_19, b193_20, b193_21, callK_r, callK_x, psh_s, psh_n, hk_0, hk_1, hk_2, hk_3, hk_4, callK_ite, bit_bi, bit_0, bit_1, eq_self, reduceIte, Int.reduceEq, Int.reduceLT, Int.reduceNeg, Nat.reduceEqDiff, ne_eq, not_false_eq_true, pu_k, mset_k, mset_j, mset_at, va_pu, va_mset, Int.reduceToNat, Int.reduceLE, and_self, true_and, and_true]
  all_goals (try rfl)
  all_goals (repeat' split)
  all_goals first | rfl | simp_all
theorem g193_12 (d : Nat) (x1 : Int) (x2 : Int) (x3 : Int) (x4 : Int) (x5 : Int) (M : mM) : ev prog (d + 6) 193 0 12 [vr 87, vi x1, vi x2, vi x3, vi x4, vi x5] [] (shp, M) = if x5 < (M 88 2001) then callK (run prog (d + 5) 129 [vr 87, vi x4] (shp, M)) (fun v σ1 => ev prog (d + 6) 193 0 15 [vr 87, vi x1, vi x2, vi x3, vi x4, vi x5] (psh v []) σ1) (fun e σ1 => hk [0, 0, 0, 0, 0] e σ1 (fun t => ev prog (d + 6) 193 0 t (msk (pMask prog 193 t) [vr 87, vi x1, vi x2, vi x3, vi x4, vi x5]) [vj] σ1)) else ev prog (d + 6) 193 0 9 [vr 87, vi x1, vi x2, vi x3, vi (wr (x4 + 1)), vj] [] (shp, M) := by
  rw [b193_12]
  try simp +decide only [b193_0, b193_1, b193_4, b193_2, b193_5, b193_3, b193_8, b193_6, b193_7, b193_10, b193_25, b193_11, b193_27, b193_26, b193_29, b193_28, b193_30, b193_13, b193_24, b193_14, b193_15, b193_23, b193_16, b193_17, b193_18, b193_22, b193_19, b193_20, b193_21, callK_r, callK_x, psh_s, psh_n, hk_0, hk_1, hk_2, hk_3, hk_4, callK_ite, bit_bi, bit_0, bit_1, eq_self, reduceIte, Int.reduceEq, Int.reduceLT, Int.reduceNeg, Nat.reduceEqDiff, ne_eq, not_false_eq_true, pu_k, mset_k, mset_j, mset_at, va_pu, va_mset, Int.reduceToNat, Int.reduceLE, and_self, true_and, and_true]
  all_goals (try rfl)
  all_goals (repeat' split)
  all_goals first | rfl | simp_all
theorem g193_15 (d : Nat) (x1 : Int) (x2 : Int) (x3 : Int) (x4 : Int) (x5 : Int) (s0 : Int) (M : mM) : ev prog (d + 6) 193 0 15 [vr 87, vi x1, vi x2, vi x3, vi x4, vi x5] [vi s0] (shp, M) = if s0 = 0 then ev prog (d + 6) 193 0 12 [vr 87, vi x1, vi x2, vi x3, vi x4, vi (wr (x5 + 1))] [] (shp, M) else callK (run prog (d + 5) 129 [vr 87, vi x5] (shp, M)) (fun v σ1 => ev prog (d + 6) 193 0 17 [vr 87, vi x1, vi x2, vi x3, vi x4, vi x5] (psh v []) σ1) (fun e σ1 => hk [0, 0, 0, 0, 0] e σ1 (fun t => ev prog (d + 6) 193 0 t (msk (pMask prog 193 t) [vr 87, vi x1, vi x2, vi x3, vi x4, vi x5]) [vj] σ1)) := by
  rw [b193_15]
  try simp +decide only [b193_0, b193_1, b193_4, b193_2, b193_5, b193_3, b193_8, b193_6, b193_7, b193_10, b193_25, b193_11, b193_27, b193_26, b193_29, b193_28, b193_30, b193_13, b193_24, b193_14, b193_23, b193_16, b193_17, b193_18, b193_22, b193_19, b193_20, b193_21, callK_r, callK_x, psh_s, psh_n, hk_0, hk_1, hk_2, hk_3, hk_4, callK_ite, bit_bi, bit_0, bit_1, eq_self, reduceIte, Int.reduceEq, Int.reduceLT, Int.reduceNeg, Nat.reduceEqDiff, ne_eq, not_false_eq_true, pu_k, mset_k, mset_j, mset_at, va_pu, va_mset, Int.reduceToNat, Int.reduceLE, and_self, true_and, and_true]
  all_goals (try rfl)
  all_goals (repeat' split)
  all_goals first | rfl | simp_all
theorem g193_17 (d : Nat) (x1 : Int) (x2 : Int) (x3 : Int) (x4 : Int) (x5 : Int) (s0 : Int) (M : mM) : ev prog (d + 6) 193 0 17 [vr 87, vi x1, vi x2, vi x3, vi x4, vi x5] [vi s0] (shp, M) = if s0 = 0 then ev prog (d + 6) 193 0 12 [vr 87, vi x1, vi x2, vi x3, vi x4, vi (wr (x5 + 1))] [] (shp, M) else (if x2 < 0 then ev prog (d + 6) 193 0 12 [vr 87, vi x1, vi x4, vi x5, vi x4, vi (wr (x5 + 1))] [] (shp, M) else callK (run prog (d + 5) 192 [vr 87, vi x4, vi x5] (shp, M)) (fun v σ1 => ev prog (d + 6) 193 0 20 [vr 87, vi x1, vi x2, vi x3, vi x4, vi x5] (psh v []) σ1) (fun e σ1 => hk [0, 0, 0, 0, 0] e σ1 (fun t => ev prog (d + 6) 193 0 t (msk (pMask prog 193 t) [vr 87, vi x1, vi x2, vi x3, vi x4, vi x5]) [vj] σ1))) := by
  rw [b193_17]
  try simp +decide only [b193_0, b193_1, b193_4, b193_2, b193_5, b193_3, b193_8, b193_6, b193_7, b193_10, b193_25, b193_11, b193_27, b193_26, b193_29, b193_28, b193_30, b193_13, b193_24, b193_14, b193_15, b193_23, b193_16, b193_18, b193_22, b193_19, b193_20, b193_21, callK_r, callK_x, psh_s, psh_n, hk_0, hk_1, hk_2, hk_3, hk_4, callK_ite, bit_bi, bit_0, bit_1, eq_self, reduceIte, Int.reduceEq, Int.reduceLT, Int.reduceNeg, Nat.reduceEqDiff, ne_eq, not_false_eq_true, pu_k, mset_k, mset_j, mset_at, va_pu, va_mset, Int.reduceToNat, Int.reduceLE, and_self, true_and, and_true]
  all_goals (try rfl)
  all_goals (repeat' split)
  all_goals first | rfl | simp_all
theorem g193_20 (d : Nat) (x1 : Int) (x2 : Int) (x3 : Int) (x4 : Int) (x5 : Int) (s0 : Int) (M : mM) : ev prog (d + 6) 193 0 20 [vr 87, vi x1, vi x2, vi x3, vi x4, vi x5] [vi s0] (shp, M) = callK (run prog (d + 5) 192 [vr 87, vi x2, vi x3] (shp, M)) (fun v σ1 => ev prog (d + 6) 193 0 21 [vr 87, vi x1, vi x2, vi x3, vi x4, vi x5] (psh v [vi s0]) σ1) (fun e σ1 => hk [0, 0, 0, 0, 0] e σ1 (fun t => ev prog (d + 6) 193 0 t (msk (pMask prog 193 t) [vr 87, vi x1, vi x2, vi x3, vi x4, vi x5]) [vj] σ1)) := by
  rw [b193_20]
  try simp +decide only [b193_0, b193_1, b193_4, b193_2, b193_5, b193_3, b193_8, b193_6, b193_7, b193_10, b193_25, b193_11, b193_27, b193_26, b193_29, b193_28, b193_30, b193_13, b193_24, b193_14, b193_15, b193_23, b193_16, b193_17, b193_18, b193_22, b193_19, b193_21, callK_r, callK_x, psh_s, psh_n, hk_0, hk_1, hk_2, hk_3, hk_4, callK_ite, bit_bi, bit_0, bit_1, eq_self, reduceIte, Int.reduceEq, Int.reduceLT, Int.reduceNeg, Nat.reduceEqDiff, ne_eq, not_false_eq_true, pu_k, mset_k, mset_j, mset_at, va_pu, va_mset, Int.reduceToNat, Int.reduceLE, and_self, true_and, and_true]
  all_goals (try rfl)
  all_goals (repeat' split)
  all_goals first | rfl | simp_all
theorem g193_21 (d : Nat) (x1 : Int) (x2 : Int) (x3 : Int) (x4 : Int) (x5 : Int) (s0 : Int) (s1 : Int) (M : mM) : ev prog (d + 6) 193 0 21 [vr 87, vi x1, vi x2, vi x3, vi x4, vi x5] [vi s1, vi s0] (shp, M) = if s0 < s1 then ev prog (d + 6) 193 0 12 [vr 87, vi x1, vi x4, vi x5, vi x4, vi (wr (x5 + 1))] [] (shp, M) else ev prog (d + 6) 193 0 12 [vr 87, vi x1, vi x2, vi x3, vi x4, vi (wr (x5 + 1))] [] (shp, M) := by
  rw [b193_21]
  try simp +decide only [b193_0, b193_1, b193_4, b193_2, b193_5, b193_3, b193_8, b193_6, b193_7, b193_10, b193_25, b193_11, b193_27, b193_26, b193_29, b193_28, b193_30, b193_13, b193_24, b193_14, b193_15, b193_23, b193_16, b193_17, b193_18, b193_22, b193_19, b193_20, callK_r, callK_x, psh_s, psh_n, hk_0, hk_1, hk_2, hk_3, hk_4, callK_ite, bit_bi, bit_0, bit_1, eq_self, reduceIte, Int.reduceEq, Int.reduceLT, Int.reduceNeg, Nat.reduceEqDiff, ne_eq, not_false_eq_true, pu_k, mset_k, mset_j, mset_at, va_pu, va_mset, Int.reduceToNat, Int.reduceLE, and_self, true_and, and_true]
  all_goals (try rfl)
  all_goals (repeat' split)
  all_goals first | rfl | simp_all
theorem g195_0 (d : Nat) (x1 : Int) (M : mM) : ev prog (d + 5) 195 0 0 [vr 72, vi x1, vj, vj, vj, vj, vj] [] (shp, M) = ev prog (d + 5) 195 0 1 [vr 72, vi x1, vi (-1), vi 0, vi 0, vj, vj] [] (shp, M) := by
  rw [b195_0]
  try simp +decide only [b195_9, b195_2, b195_3, b195_4, b195_8, b195_5, b195_7, b195_6, callK_r, callK_x, psh_s, psh_n, hk_0, hk_1, hk_2, hk_3, hk_4, callK_ite, bit_bi, bit_0, bit_1, eq_self, reduceIte, Int.reduceEq, Int.reduceLT, Int.reduceNeg, Nat.reduceEqDiff, ne_eq, not_false_eq_true, pu_k, mset_k, mset_j, mset_at, va_pu, va_mset, Int.reduceToNat, Int.reduceLE, and_self, true_and, and_true]
  all_goals (try rfl)
  all_goals (repeat' split)
  all_goals first | rfl | simp_all
theorem g195_1 (d : Nat) (x1 : Int) (x2 : Int) (x3 : Int) (x4 : Int) (M : mM) : ev prog (d + 5) 195 0 1 [vr 72, vi x1, vi x2, vi x3, vi x4, vj, vj] [] (shp, M) = if x4 < (M 73 1) then callK (run prog (d + 4) 187 [vr 72, vi x1, vi (r30 x4 M)] (shp, M)) (fun v σ1 => ev prog (d + 5) 195 0 4 [vr 72, vi x1, vi x2, vi x3, vi x4, vi (r30 x4 M), vj] (psh v []) σ1) (fun e σ1 => hk [0, 0, 0, 0, 0] e σ1 (fun t => ev prog (d + 5) 195 0 t (msk (pMask prog 195 t) [vr 72, vi x1, vi x2, vi x3, vi x4, vi (r30 x4 M), vj]) [vj] σ1)) else some (.inl (some (vi x2)), (shp, M)) := by
  rw [b195_1]
  try simp +decide only [b195_0, b195_9, b195_2, b195_3, b195_4, b195_8, b195_5, b195_7, b195_6, s30, callK_r, callK_x, psh_s, psh_n, hk_0, hk_1, hk_2, hk_3, hk_4, callK_ite, bit_bi, bit_0, bit_1, eq_self, reduceIte, Int.reduceEq, Int.reduceLT, Int.reduceNeg, Nat.reduceEqDiff, ne_eq, not_false_eq_true, pu_k, mset_k, mset_j, mset_at, va_pu, va_mset, Int.reduceToNat, Int.reduceLE, and_self, true_and, and_true]
  all_goals (try rfl)
  all_goals (repeat' split)
  all_goals first | rfl | simp_all
theorem g195_4 (d : Nat) (x1 : Int) (x2 : Int) (x3 : Int) (x4 : Int) (x5 : Int) (s0 : Int) (M : mM) : ev prog (d + 5) 195 0 4 [vr 72, vi x1, vi x2, vi x3, vi x4, vi x5, vj] [vi s0] (shp, M) = if x5 = x1 then ev prog (d + 5) 195 0 1 [vr 72, vi x1, vi x2, vi x3, vi (wr (x4 + 1)), vj, vj] [] (shp, M) else (if x2 = (-1) then ev prog (d + 5) 195 0 1 [vr 72, vi x1, vi x5, vi s0, vi (wr (x4 + 1)), vj, vj] [] (shp, M) else (if s0 < x3 then ev prog (d + 5) 195 0 1 [vr 72, vi x1, vi x5, vi s0, vi (wr (x4 + 1)), vj, vj] [] (shp, M) else ev prog (d + 5) 195 0 1 [vr 72, vi x1, vi x2, vi x3, vi (wr (x4 + 1)), vj, vj] [] (shp, M))) := by
  rw [b195_4]
  try simp +decide only [b195_0, b195_9, b195_2, b195_3, b195_8, b195_5, b195_7, b195_6, callK_r, callK_x, psh_s, psh_n, hk_0, hk_1, hk_2, hk_3, hk_4, callK_ite, bit_bi, bit_0, bit_1, eq_self, reduceIte, Int.reduceEq, Int.reduceLT, Int.reduceNeg, Nat.reduceEqDiff, ne_eq, not_false_eq_true, pu_k, mset_k, mset_j, mset_at, va_pu, va_mset, Int.reduceToNat, Int.reduceLE, and_self, true_and, and_true]
  all_goals (try rfl)
  all_goals (repeat' split)
  all_goals first | rfl | simp_all
theorem g196_0 (d : Nat) (x1 : Int) (M : mM) : ev prog (d + 6) 196 0 0 [vr 72, vi x1, vj, vj] [] (shp, M) = callK (run prog (d + 5) 126 [vr 72] (shp, M)) (fun v σ1 => ev prog (d + 6) 196 0 1 [vr 72, vi x1, vj, vj] (psh v []) σ1) (fun e σ1 => hk [0, 0, 0, 0, 0] e σ1 (fun t => ev prog (d + 6) 196 0 t (msk (pMask prog 196 t) [vr 72, vi x1, vj, vj]) [vj] σ1)) := by
  rw [b196_0]
  try simp +decide only [b196_1, b196_8, b196_3, b196_4, b196_5, b196_7, b196_6, callK_r, callK_x, psh_s, psh_n, hk_0, hk_1, hk_2, hk_3, hk_4, callK_ite, bit_bi, bit_0, bit_1, eq_self, reduceIte, Int.reduceEq, Int.reduceLT, Int.reduceNeg, Nat.reduceEqDiff, ne_eq, not_false_eq_true, pu_k, mset_k, mset_j, mset_at, va_pu, va_mset, Int.reduceToNat, Int.reduceLE, and_self, true_and, and_true]
  all_goals (try rfl)
  all_goals (repeat' split)
  all_goals first | rfl | simp_all
theorem g196_1 (d : Nat) (x1 : Int) (s0 : Int) (M : mM) : ev prog (d + 6) 196 0 1 [vr 72, vi x1, vj, vj] [vi s0] (shp, M) = ev prog (d + 6) 196 0 2 [vr 72, vi x1, vi 0, vi 0] [] (shp, M) := by
  rw [b196_1]
  try simp +decide only [b196_0, b196_8, b196_3, b196_4, b196_5, b196_7, b196_6, callK_r, callK_x, psh_s, psh_n, hk_0, hk_1, hk_2, hk_3, hk_4, callK_ite, bit_bi, bit_0, bit_1, eq_self, reduceIte, Int.reduceEq, Int.reduceLT, Int.reduceNeg, Nat.reduceEqDiff, ne_eq, not_false_eq_true, pu_k, mset_k, mset_j, mset_at, va_pu, va_mset, Int.reduceToNat, Int.reduceLE, and_self, true_and, and_true]
  all_goals (try rfl)
  all_goals (repeat' split)
  all_goals first | rfl | simp_all
theorem g196_2 (d : Nat) (x1 : Int) (x2 : Int) (x3 : Int) (M : mM) : ev prog (d + 6) 196 0 2 [vr 72, vi x1, vi x2, vi x3] [] (shp, M) = if x3 < (M 73 1) then callK (run prog (d + 5) 195 [vr 72, vi (r30 x3 M)] (shp, M)) (fun v σ1 => ev prog (d + 6) 196 0 5 [vr 72, vi x1, vi x2, vi x3] (psh v []) σ1) (fun e σ1 => hk [0, 0, 0, 0, 0] e σ1 (fun t => ev prog (d + 6) 196 0 t (msk (pMask prog 196 t) [vr 72, vi x1, vi x2, vi x3]) [vj] σ1)) else some (.inl (some (vi x2)), (shp, M)) := by
  rw [b196_2]
  try simp +decide only [b196_0, b196_1, b196_8, b196_3, b196_4, b196_5, b196_7, b196_6, s30, callK_r, callK_x, psh_s, psh_n, hk_0, hk_1, hk_2, hk_3, hk_4, callK_ite, bit_bi, bit_0, bit_1, eq_self, reduceIte, Int.reduceEq, Int.reduceLT, Int.reduceNeg, Nat.reduceEqDiff, ne_eq, not_false_eq_true, pu_k, mset_k, mset_j, mset_at, va_pu, va_mset, Int.reduceToNat, Int.reduceLE, and_self, true_and, and_true]
  all_goals (try rfl)
  all_goals (repeat' split)
  all_goals first | rfl | simp_all
theorem g196_5 (d : Nat) (x1 : Int) (x2 : Int) (x3 : Int) (s0 : Int) (M : mM) : ev prog (d + 6) 196 0 5 [vr 72, vi x1, vi x2, vi x3] [vi s0] (shp, M) = if s0 = x1 then ev prog (d + 6) 196 0 2 [vr 72, vi x1, vi (wr (x2 + 1)), vi (wr (x3 + 1))] [] (shp, M) else ev prog (d + 6) 196 0 2 [vr 72, vi x1, vi x2, vi (wr (x3 + 1))] [] (shp, M) := by
  rw [b196_5]
  try simp +decide only [b196_0, b196_1, b196_8, b196_3, b196_4, b196_7, b196_6, callK_r, callK_x, psh_s, psh_n, hk_0, hk_1, hk_2, hk_3, hk_4, callK_ite, bit_bi, bit_0, bit_1, eq_self, reduceIte, Int.reduceEq, Int.reduceLT, Int.reduceNeg, Nat.reduceEqDiff, ne_eq, not_false_eq_true, pu_k, mset_k, mset_j, mset_at, va_pu, va_mset, Int.reduceToNat, Int.reduceLE, and_self, true_and, and_true]
  all_goals (try rfl)
  all_goals (repeat' split)
  all_goals first | rfl | simp_all
theorem g197_0 (d : Nat) (x1 : Int) (M : mM) : ev prog (d + 7) 197 0 0 [vr 5, vi x1] [] (shp, M) = if (bi (p125 x1 M)) = 0 then some (.inr 2, (shp, M)) else callK (run prog (d + 6) 196 [vr 72, vi x1] (shp, M)) (fun v σ1 => ev prog (d + 7) 197 1 2 [vj, vj] (psh v []) σ1) (fun e σ1 => hk [0, 0, 0, 0, 0] e σ1 (fun t => ev prog (d + 7) 197 1 t (msk (pMask prog 197 t) [vr 5, vi x1]) [vj] σ1)) := by
  rw [b197_0]
  try simp +decide only [b197_1, b197_2, s194, o194, callK_r, callK_x, psh_s, psh_n, hk_0, hk_1, hk_2, hk_3, hk_4, callK_ite, bit_bi, bit_0, bit_1, eq_self, reduceIte, Int.reduceEq, Int.reduceLT, Int.reduceNeg, Nat.reduceEqDiff, ne_eq, not_false_eq_true, pu_k, mset_k, mset_j, mset_at, va_pu, va_mset, Int.reduceToNat, Int.reduceLE, and_self, true_and, and_true]
  all_goals (try rfl)
  all_goals (repeat' split)
  all_goals first | rfl | simp_all
theorem g197_2 (d : Nat) (s0 : Int) (M : mM) : ev prog (d + 7) 197 1 2 [vj, vj] [vi s0] (shp, M) = some (.inl (some (vi s0)), (shp, M)) := by
  rw [b197_2]
  try simp +decide only [b197_0, b197_1, callK_r, callK_x, psh_s, psh_n, hk_0, hk_1, hk_2, hk_3, hk_4, callK_ite, bit_bi, bit_0, bit_1, eq_self, reduceIte, Int.reduceEq, Int.reduceLT, Int.reduceNeg, Nat.reduceEqDiff, ne_eq, not_false_eq_true, pu_k, mset_k, mset_j, mset_at, va_pu, va_mset, Int.reduceToNat, Int.reduceLE, and_self, true_and, and_true]
  all_goals (try rfl)
  all_goals (repeat' split)
  all_goals first | rfl | simp_all
theorem g199_0 (d : Nat) (x1 : Int) (M : mM) : ev prog (d + 5) 199 0 0 [vr 87, vi x1, vj, vj] [] (shp, M) = ev prog (d + 5) 199 0 1 [vr 87, vi x1, vi (-1), vi 0] [] (shp, M) := by
  rw [b199_0]
  try simp +decide only [b199_2, b199_12, b199_3, b199_11, b199_4, b199_5, b199_6, b199_10, b199_7, b199_8, b199_9, callK_r, callK_x, psh_s, psh_n, hk_0, hk_1, hk_2, hk_3, hk_4, callK_ite, bit_bi, bit_0, bit_1, eq_self, reduceIte, Int.reduceEq, Int.reduceLT, Int.reduceNeg, Nat.reduceEqDiff, ne_eq, not_false_eq_true, pu_k, mset_k, mset_j, mset_at, va_pu, va_mset, Int.reduceToNat, Int.reduceLE, and_self, true_and, and_true]
  all_goals (try rfl)
  all_goals (repeat' split)
  all_goals first | rfl | simp_all
theorem g199_1 (d : Nat) (x1 : Int) (x2 : Int) (x3 : Int) (M : mM) : ev prog (d + 5) 199 0 1 [vr 87, vi x1, vi x2, vi x3] [] (shp, M) = if x3 < (M 88 2001) then (if x3 = x1 then ev prog (d + 5) 199 0 1 [vr 87, vi x1, vi x2, vi (wr (x3 + 1))] [] (shp, M) else callK (run prog (d + 4) 129 [vr 87, vi x3] (shp, M)) (fun v σ1 => ev prog (d + 5) 199 0 5 [vr 87, vi x1, vi x2, vi x3] (psh v []) σ1) (fun e σ1 => hk [0, 0, 0, 0, 0] e σ1 (fun t => ev prog (d + 5) 199 0 t (msk (pMask prog 199 t) [vr 87, vi x1, vi x2, vi x3]) [vj] σ1))) else some (.inl (some (vi x2)), (shp, M)) := by
  rw [b199_1]
  try simp +decide only [b199_0, b199_2, b199_12, b199_3, b199_11, b199_4, b199_5, b199_6, b199_10, b199_7, b199_8, b199_9, callK_r, callK_x, psh_s, psh_n, hk_0, hk_1, hk_2, hk_3, hk_4, callK_ite, bit_bi, bit_0, bit_1, eq_self, reduceIte, Int.reduceEq, Int.reduceLT, Int.reduceNeg, Nat.reduceEqDiff, ne_eq, not_false_eq_true, pu_k, mset_k, mset_j, mset_at, va_pu, va_mset, Int.reduceToNat, Int.reduceLE, and_self, true_and, and_true]
  all_goals (try rfl)
  all_goals (repeat' split)
  all_goals first | rfl | simp_all
theorem g199_5 (d : Nat) (x1 : Int) (x2 : Int) (x3 : Int) (s0 : Int) (M : mM) : ev prog (d + 5) 199 0 5 [vr 87, vi x1, vi x2, vi x3] [vi s0] (shp, M) = if s0 = 0 then ev prog (d + 5) 199 0 1 [vr 87, vi x1, vi x2, vi (wr (x3 + 1))] [] (shp, M) else (if x2 < 0 then ev prog (d + 5) 199 0 1 [vr 87, vi x1, vi x3, vi (wr (x3 + 1))] [] (shp, M) else callK (run prog (d + 4) 192 [vr 87, vi x1, vi x3] (shp, M)) (fun v σ1 => ev prog (d + 5) 199 0 8 [vr 87, vi x1, vi x2, vi x3] (psh v []) σ1) (fun e σ1 => hk [0, 0, 0, 0, 0] e σ1 (fun t => ev prog (d + 5) 199 0 t (msk (pMask prog 199 t) [vr 87, vi x1, vi x2, vi x3]) [vj] σ1))) := by
  rw [b199_5]
  try simp +decide only [b199_0, b199_2, b199_12, b199_3, b199_11, b199_4, b199_6, b199_10, b199_7, b199_8, b199_9, callK_r, callK_x, psh_s, psh_n, hk_0, hk_1, hk_2, hk_3, hk_4, callK_ite, bit_bi, bit_0, bit_1, eq_self, reduceIte, Int.reduceEq, Int.reduceLT, Int.reduceNeg, Nat.reduceEqDiff, ne_eq, not_false_eq_true, pu_k, mset_k, mset_j, mset_at, va_pu, va_mset, Int.reduceToNat, Int.reduceLE, and_self, true_and, and_true]
  all_goals (try rfl)
  all_goals (repeat' split)
  all_goals first | rfl | simp_all
theorem g199_8 (d : Nat) (x1 : Int) (x2 : Int) (x3 : Int) (s0 : Int) (M : mM) : ev prog (d + 5) 199 0 8 [vr 87, vi x1, vi x2, vi x3] [vi s0] (shp, M) = callK (run prog (d + 4) 192 [vr 87, vi x1, vi x2] (shp, M)) (fun v σ1 => ev prog (d + 5) 199 0 9 [vr 87, vi x1, vi x2, vi x3] (psh v [vi s0]) σ1) (fun e σ1 => hk [0, 0, 0, 0, 0] e σ1 (fun t => ev prog (d + 5) 199 0 t (msk (pMask prog 199 t) [vr 87, vi x1, vi x2, vi x3]) [vj] σ1)) := by
  rw [b199_8]
  try simp +decide only [b199_0, b199_2, b199_12, b199_3, b199_11, b199_4, b199_5, b199_6, b199_10, b199_7, b199_9, callK_r, callK_x, psh_s, psh_n, hk_0, hk_1, hk_2, hk_3, hk_4, callK_ite, bit_bi, bit_0, bit_1, eq_self, reduceIte, Int.reduceEq, Int.reduceLT, Int.reduceNeg, Nat.reduceEqDiff, ne_eq, not_false_eq_true, pu_k, mset_k, mset_j, mset_at, va_pu, va_mset, Int.reduceToNat, Int.reduceLE, and_self, true_and, and_true]
  all_goals (try rfl)
  all_goals (repeat' split)
  all_goals first | rfl | simp_all
theorem g199_9 (d : Nat) (x1 : Int) (x2 : Int) (x3 : Int) (s0 : Int) (s1 : Int) (M : mM) : ev prog (d + 5) 199 0 9 [vr 87, vi x1, vi x2, vi x3] [vi s1, vi s0] (shp, M) = if s0 < s1 then ev prog (d + 5) 199 0 1 [vr 87, vi x1, vi x3, vi (wr (x3 + 1))] [] (shp, M) else ev prog (d + 5) 199 0 1 [vr 87, vi x1, vi x2, vi (wr (x3 + 1))] [] (shp, M) := by
  rw [b199_9]
  try simp +decide only [b199_0, b199_2, b199_12, b199_3, b199_11, b199_4, b199_5, b199_6, b199_10, b199_7, b199_8, callK_r, callK_x, psh_s, psh_n, hk_0, hk_1, hk_2, hk_3, hk_4, callK_ite, bit_bi, bit_0, bit_1, eq_self, reduceIte, Int.reduceEq, Int.reduceLT, Int.reduceNeg, Nat.reduceEqDiff, ne_eq, not_false_eq_true, pu_k, mset_k, mset_j, mset_at, va_pu, va_mset, Int.reduceToNat, Int.reduceLE, and_self, true_and, and_true]
  all_goals (try rfl)
  all_goals (repeat' split)
  all_goals first | rfl | simp_all
theorem g200_0 (d : Nat) (x1 : Int) (M : mM) : ev prog (d + 6) 200 0 0 [vr 87, vi x1, vj, vj] [] (shp, M) = callK (run prog (d + 5) 129 [vr 87, vi x1] (shp, mset M 87 3 0)) (fun v σ1 => ev prog (d + 6) 200 0 1 [vr 87, vi x1, vj, vj] (psh v []) σ1) (fun e σ1 => hk [0, 0, 0, 0, 0] e σ1 (fun t => ev prog (d + 6) 200 0 t (msk (pMask prog 200 t) [vr 87, vi x1, vj, vj]) [vj] σ1)) := by
  rw [b200_0]
  try simp +decide only [b200_1, b200_4, b200_2, b200_3, b200_6, b200_15, b200_7, b200_13, b200_8, b200_14, b200_9, b200_10, b200_11, b200_12, callK_r, callK_x, psh_s, psh_n, hk_0, hk_1, hk_2, hk_3, hk_4, callK_ite, bit_bi, bit_0, bit_1, eq_self, reduceIte, Int.reduceEq, Int.reduceLT, Int.reduceNeg, Nat.reduceEqDiff, ne_eq, not_false_eq_true, pu_k, mset_k, mset_j, mset_at, va_pu, va_mset, Int.reduceToNat, Int.reduceLE, and_self, true_and, and_true]
  all_goals (try rfl)
  all_goals (repeat' split)
  all_goals first | rfl | simp_all
theorem g200_1 (d : Nat) (x1 : Int) (s0 : Int) (M : mM) : ev prog (d + 6) 200 0 1 [vr 87, vi x1, vj, vj] [vi s0] (shp, M) = if s0 = 0 then some (.inl (some (vi 0)), (shp, mset M 87 3 1)) else ev prog (d + 6) 200 0 5 [vr 87, vi x1, vi 0, vi 0] [] (shp, M) := by
  rw [b200_1]
  try simp +decide only [b200_0, b200_4, b200_2, b200_3, b200_6, b200_15, b200_7, b200_13, b200_8, b200_14, b200_9, b200_10, b200_11, b200_12, s53, o53, callK_r, callK_x, psh_s, psh_n, hk_0, hk_1, hk_2, hk_3, hk_4, callK_ite, bit_bi, bit_0, bit_1, eq_self, reduceIte, Int.reduceEq, Int.reduceLT, Int.reduceNeg, Nat.reduceEqDiff, ne_eq, not_false_eq_true, pu_k, mset_k, mset_j, mset_at, va_pu, va_mset, Int.reduceToNat, Int.reduceLE, and_self, true_and, and_true]
  all_goals (try rfl)
  all_goals (repeat' split)
  all_goals first | rfl | simp_all
theorem g200_5 (d : Nat) (x1 : Int) (x2 : Int) (x3 : Int) (M : mM) : ev prog (d + 6) 200 0 5 [vr 87, vi x1, vi x2, vi x3] [] (shp, M) = if x3 < (M 88 2001) then (if x3 = x1 then ev prog (d + 6) 200 0 5 [vr 87, vi x1, vi (wr (x2 + 0)), vi (wr (x3 + 1))] [] (shp, M) else callK (run prog (d + 5) 129 [vr 87, vi x3] (shp, M)) (fun v σ1 => ev prog (d + 6) 200 0 9 [vr 87, vi x1, vj, vi x3] (psh v [vi x2]) σ1) (fun e σ1 => hk [0, 0, 0, 0, 0] e σ1 (fun t => ev prog (d + 6) 200 0 t (msk (pMask prog 200 t) [vr 87, vi x1, vj, vi x3]) [vj] σ1))) else some (.inl (some (vi x2)), (shp, M)) := by
  rw [b200_5]
  try simp +decide only [b200_0, b200_1, b200_4, b200_2, b200_3, b200_6, b200_15, b200_7, b200_13, b200_8, b200_14, b200_9, b200_10, b200_11, b200_12, callK_r, callK_x, psh_s, psh_n, hk_0, hk_1, hk_2, hk_3, hk_4, callK_ite, bit_bi, bit_0, bit_1, eq_self, reduceIte, Int.reduceEq, Int.reduceLT, Int.reduceNeg, Nat.reduceEqDiff, ne_eq, not_false_eq_true, pu_k, mset_k, mset_j, mset_at, va_pu, va_mset, Int.reduceToNat, Int.reduceLE, and_self, true_and, and_true]
  all_goals (try rfl)
  all_goals (repeat' split)
  all_goals first | rfl | simp_all
theorem g200_9 (d : Nat) (x1 : Int) (x3 : Int) (s0 : Int) (s1 : Int) (M : mM) : ev prog (d + 6) 200 0 9 [vr 87, vi x1, vj, vi x3] [vi s1, vi s0] (shp, M) = if s1 = 0 then ev prog (d + 6) 200 0 5 [vr 87, vi x1, vi (wr (s0 + 0)), vi (wr (x3 + 1))] [] (shp, M) else callK (run prog (d + 5) 199 [vr 87, vi x3] (shp, M)) (fun v σ1 => ev prog (d + 6) 200 0 11 [vr 87, vi x1, vj, vi x3] (psh v [vi s0]) σ1) (fun e σ1 => hk [0, 0, 0, 0, 0] e σ1 (fun t => ev prog (d + 6) 200 0 t (msk (pMask prog 200 t) [vr 87, vi x1, vj, vi x3]) [vj] σ1)) := by
  rw [b200_9]
  try simp +decide only [b200_0, b200_1, b200_4, b200_2, b200_3, b200_6, b200_15, b200_7, b200_13, b200_8, b200_14, b200_10, b200_11, b200_12, callK_r, callK_x, psh_s, psh_n, hk_0, hk_1, hk_2, hk_3, hk_4, callK_ite, bit_bi, bit_0, bit_1, eq_self, reduceIte, Int.reduceEq, Int.reduceLT, Int.reduceNeg, Nat.reduceEqDiff, ne_eq, not_false_eq_true, pu_k, mset_k, mset_j, mset_at, va_pu, va_mset, Int.reduceToNat, Int.reduceLE, and_self, true_and, and_true]
  all_goals (try rfl)
  all_goals (repeat' split)
  all_goals first | rfl | simp_all
theorem g200_11 (d : Nat) (x1 : Int) (x3 : Int) (s0 : Int) (s1 : Int) (M : mM) : ev prog (d + 6) 200 0 11 [vr 87, vi x1, vj, vi x3] [vi s1, vi s0] (shp, M) = if s1 = x1 then ev prog (d + 6) 200 0 5 [vr 87, vi x1, vi (wr (s0 + 1)), vi (wr (x3 + 1))] [] (shp, M) else ev prog (d + 6) 200 0 5 [vr 87, vi x1, vi (wr (s0 + 0)), vi (wr (x3 + 1))] [] (shp, M) := by
  rw [b200_11]
  try simp +decide only [b200_0, b200_1, b200_4, b200_2, b200_3, b200_6, b200_15, b200_7, b200_13, b200_8, b200_14, b200_9, b200_10, b200_12, callK_r, callK_x, psh_s, psh_n, hk_0, hk_1, hk_2, hk_3, hk_4, callK_ite, bit_bi, bit_0, bit_1, eq_self, reduceIte, Int.reduceEq, Int.reduceLT, Int.reduceNeg, Nat.reduceEqDiff, ne_eq, not_false_eq_true, pu_k, mset_k, mset_j, mset_at, va_pu, va_mset, Int.reduceToNat, Int.reduceLE, and_self, true_and, and_true]
  all_goals (try rfl)
  all_goals (repeat' split)
  all_goals first | rfl | simp_all
theorem g201_0 (d : Nat) (x1 : Int) (x2 : Int) (x3 : Int) (M : mM) : ev prog (d + 5) 201 0 0 [vr 72, vi x1, vi x2, vi x3, vj] [] (shp, M) = ev prog (d + 5) 201 0 1 [vr 72, vi x1, vi x2, vi x3, vi 0] [] (shp, M) := by
  rw [b201_0]
  try simp +decide only [b201_11, b201_2, b201_3, b201_10, b201_4, b201_5, b201_6, b201_7, b201_8, b201_9, callK_r, callK_x, psh_s, psh_n, hk_0, hk_1, hk_2, hk_3, hk_4, callK_ite, bit_bi, bit_0, bit_1, eq_self, reduceIte, Int.reduceEq, Int.reduceLT, Int.reduceNeg, Nat.reduceEqDiff, ne_eq, not_false_eq_true, pu_k, mset_k, mset_j, mset_at, va_pu, va_mset, Int.reduceToNat, Int.reduceLE, and_self, true_and, and_true]
  all_goals (try rfl)
  all_goals (repeat' split)
  all_goals first | rfl | simp_all
theorem g201_1 (d : Nat) (x1 : Int) (x2 : Int) (x3 : Int) (x4 : Int) (M : mM) : ev prog (d + 5) 201 0 1 [vr 72, vi x1, vi x2, vi x3, vi x4] [] (shp, M) = if x4 < (M 73 1) then (if (va M 76 60 x4) = (-1) then callK (run prog (d + 4) 187 [vr 72, vi (r30 x1 M), vi (r30 x4 M)] (shp, M)) (fun v σ1 => ev prog (d + 5) 201 0 7 [vr 72, vi x1, vi x2, vi x3, vi x4] (psh v []) σ1) (fun e σ1 => hk [0, 0, 0, 0, 0] e σ1 (fun t => ev prog (d + 5) 201 0 t (msk (pMask prog 201 t) [vr 72, vi x1, vi x2, vi x3, vi x4]) [vj] σ1)) else ev prog (d + 5) 201 0 1 [vr 72, vi x1, vi x2, vi x3, vi (wr (x4 + 1))] [] (shp, M)) else some (.inl none, (shp, M)) := by
  rw [b201_1]
  try simp +decide only [b201_0, b201_11, b201_2, b201_3, b201_10, b201_4, b201_5, b201_6, b201_7, b201_8, b201_9, s30, va_76, callK_r, callK_x, psh_s, psh_n, hk_0, hk_1, hk_2, hk_3, hk_4, callK_ite, bit_bi, bit_0, bit_1, eq_self, reduceIte, Int.reduceEq, Int.reduceLT, Int.reduceNeg, Nat.reduceEqDiff, ne_eq, not_false_eq_true, pu_k, mset_k, mset_j, mset_at, va_pu, va_mset, Int.reduceToNat, Int.reduceLE, and_self, true_and, and_true]
  all_goals (try rfl)
  all_goals (repeat' split)
  all_goals first | rfl | simp_all
theorem g201_7 (d : Nat) (x1 : Int) (x2 : Int) (x3 : Int) (x4 : Int) (s0 : Int) (M : mM) : ev prog (d + 5) 201 0 7 [vr 72, vi x1, vi x2, vi x3, vi x4] [vi s0] (shp, M) = if x3 < s0 then ev prog (d + 5) 201 0 1 [vr 72, vi x1, vi x2, vi x3, vi (wr (x4 + 1))] [] (shp, M) else callK (run prog (d + 4) 25 [vr 77, vi x4] (shp, pu M 76 60 x4 x2)) (fun v σ1 => ev prog (d + 5) 201 0 10 [vr 72, vi x1, vi x2, vi x3, vi x4] (psh v []) σ1) (fun e σ1 => hk [0, 0, 0, 0, 0] e σ1 (fun t => ev prog (d + 5) 201 0 t (msk (pMask prog 201 t) [vr 72, vi x1, vi x2, vi x3, vi x4]) [vj] σ1)) := by
  rw [b201_7]
  try simp +decide only [b201_0, b201_11, b201_2, b201_3, b201_10, b201_4, b201_5, b201_6, b201_8, b201_9, pu_76, callK_r, callK_x, psh_s, psh_n, hk_0, hk_1, hk_2, hk_3, hk_4, callK_ite, bit_bi, bit_0, bit_1, eq_self, reduceIte, Int.reduceEq, Int.reduceLT, Int.reduceNeg, Nat.reduceEqDiff, ne_eq, not_false_eq_true, pu_k, mset_k, mset_j, mset_at, va_pu, va_mset, Int.reduceToNat, Int.reduceLE, and_self, true_and, and_true]
  all_goals (try rfl)
  all_goals (repeat' split)
  all_goals first | rfl | simp_all
theorem g201_10 (d : Nat) (x1 : Int) (x2 : Int) (x3 : Int) (x4 : Int) (M : mM) : ev prog (d + 5) 201 0 10 [vr 72, vi x1, vi x2, vi x3, vi x4] [] (shp, M) = ev prog (d + 5) 201 0 1 [vr 72, vi x1, vi x2, vi x3, vi (wr (x4 + 1))] [] (shp, M) := by
  rw [b201_10]
  try simp +decide only [b201_0, b201_11, b201_2, b201_3, b201_4, b201_5, b201_6, b201_7, b201_8, b201_9, callK_r, callK_x, psh_s, psh_n, hk_0, hk_1, hk_2, hk_3, hk_4, callK_ite, bit_bi, bit_0, bit_1, eq_self, reduceIte, Int.reduceEq, Int.reduceLT, Int.reduceNeg, Nat.reduceEqDiff, ne_eq, not_false_eq_true, pu_k, mset_k, mset_j, mset_at, va_pu, va_mset, Int.reduceToNat, Int.reduceLE, and_self, true_and, and_true]
  all_goals (try rfl)
  all_goals (repeat' split)
  all_goals first | rfl | simp_all
theorem g202_0 (d : Nat) (x1 : Int) (x2 : Int) (M : mM) : ev prog (d + 6) 202 0 0 [vr 72, vi x1, vi x2, vj] [] (shp, M) = callK (run prog (d + 5) 25 [vr 77, vi x1] (shp, mset (pu M 76 60 x1 x1) 77 1 0)) (fun v σ1 => ev prog (d + 6) 202 0 3 [vr 72, vi x1, vi x2, vj] (psh v []) σ1) (fun e σ1 => hk [0, 0, 0, 0, 0] e σ1 (fun t => ev prog (d + 6) 202 0 t (msk (pMask prog 202 t) [vr 72, vi x1, vi x2, vj]) [vj] σ1)) := by
  rw [b202_0]
  try simp +decide only [b202_1, b202_2, b202_3, b202_9, b202_5, b202_6, b202_7, b202_8, s24a, o24a, pu_76, callK_r, callK_x, psh_s, psh_n, hk_0, hk_1, hk_2, hk_3, hk_4, callK_ite, bit_bi, bit_0, bit_1, eq_self, reduceIte, Int.reduceEq, Int.reduceLT, Int.reduceNeg, Nat.reduceEqDiff, ne_eq, not_false_eq_true, pu_k, mset_k, mset_j, mset_at, va_pu, va_mset, Int.reduceToNat, Int.reduceLE, and_self, true_and, and_true]
  all_goals (try rfl)
  all_goals (repeat' split)
  all_goals first | rfl | simp_all
theorem g202_3 (d : Nat) (x1 : Int) (x2 : Int) (M : mM) : ev prog (d + 6) 202 0 3 [vr 72, vi x1, vi x2, vj] [] (shp, M) = ev prog (d + 6) 202 0 4 [vr 72, vi x1, vi x2, vi 0] [] (shp, M) := by
  rw [b202_3]
  try simp +decide only [b202_0, b202_1, b202_2, b202_9, b202_5, b202_6, b202_7, b202_8, callK_r, callK_x, psh_s, psh_n, hk_0, hk_1, hk_2, hk_3, hk_4, callK_ite, bit_bi, bit_0, bit_1, eq_self, reduceIte, Int.reduceEq, Int.reduceLT, Int.reduceNeg, Nat.reduceEqDiff, ne_eq, not_false_eq_true, pu_k, mset_k, mset_j, mset_at, va_pu, va_mset, Int.reduceToNat, Int.reduceLE, and_self, true_and, and_true]
  all_goals (try rfl)
  all_goals (repeat' split)
  all_goals first | rfl | simp_all
theorem g202_4 (d : Nat) (x1 : Int) (x2 : Int) (x3 : Int) (M : mM) : ev prog (d + 6) 202 0 4 [vr 72, vi x1, vi x2, vi x3] [] (shp, M) = if x3 < 60 then (if x3 < (M 77 1) then callK (run prog (d + 5) 201 [vr 72, vi (r30a x3 M), vi x1, vi x2] (shp, M)) (fun v σ1 => ev prog (d + 6) 202 0 8 [vr 72, vi x1, vi x2, vi x3] (psh v []) σ1) (fun e σ1 => hk [0, 0, 0, 0, 0] e σ1 (fun t => ev prog (d + 6) 202 0 t (msk (pMask prog 202 t) [vr 72, vi x1, vi x2, vi x3]) [vj] σ1)) else some (.inl none, (shp, M))) else some (.inl none, (shp, M)) := by
  rw [b202_4]
  try simp +decide only [b202_0, b202_1, b202_2, b202_3, b202_9, b202_5, b202_6, b202_7, b202_8, s30a, callK_r, callK_x, psh_s, psh_n, hk_0, hk_1, hk_2, hk_3, hk_4, callK_ite, bit_bi, bit_0, bit_1, eq_self, reduceIte, Int.reduceEq, Int.reduceLT, Int.reduceNeg, Nat.reduceEqDiff, ne_eq, not_false_eq_true, pu_k, mset_k, mset_j, mset_at, va_pu, va_mset, Int.reduceToNat, Int.reduceLE, and_self, true_and, and_true]
  all_goals (try rfl)
  all_goals (repeat' split)
  all_goals first | rfl | simp_all
theorem g202_8 (d : Nat) (x1 : Int) (x2 : Int) (x3 : Int) (M : mM) : ev prog (d + 6) 202 0 8 [vr 72, vi x1, vi x2, vi x3] [] (shp, M) = ev prog (d + 6) 202 0 4 [vr 72, vi x1, vi x2, vi (wr (x3 + 1))] [] (shp, M) := by
  rw [b202_8]
  try simp +decide only [b202_0, b202_1, b202_2, b202_3, b202_9, b202_5, b202_6, b202_7, callK_r, callK_x, psh_s, psh_n, hk_0, hk_1, hk_2, hk_3, hk_4, callK_ite, bit_bi, bit_0, bit_1, eq_self, reduceIte, Int.reduceEq, Int.reduceLT, Int.reduceNeg, Nat.reduceEqDiff, ne_eq, not_false_eq_true, pu_k, mset_k, mset_j, mset_at, va_pu, va_mset, Int.reduceToNat, Int.reduceLE, and_self, true_and, and_true]
  all_goals (try rfl)
  all_goals (repeat' split)
  all_goals first | rfl | simp_all
theorem g203_0 (d : Nat) (x1 : Int) (M : mM) : ev prog (d + 7) 203 0 0 [vr 72, vi x1, vj, vj] [] (shp, M) = callK (run prog (d + 6) 126 [vr 72] (shp, M)) (fun v σ1 => ev prog (d + 7) 203 0 1 [vr 72, vi x1, vj, vj] (psh v []) σ1) (fun e σ1 => hk [0, 0, 0, 0, 0] e σ1 (fun t => ev prog (d + 7) 203 0 t (msk (pMask prog 203 t) [vr 72, vi x1, vj, vj]) [vj] σ1)) := by
  rw [b203_0]
  try simp +decide only [b203_1, b203_2, b203_9, b203_4, b203_5, b203_8, b203_6, b203_7, callK_r, callK_x, psh_s, psh_n, hk_0, hk_1, hk_2, hk_3, hk_4, callK_ite, bit_bi, bit_0, bit_1, eq_self, reduceIte, Int.reduceEq, Int.reduceLT, Int.reduceNeg, Nat.reduceEqDiff, ne_eq, not_false_eq_true, pu_k, mset_k, mset_j, mset_at, va_pu, va_mset, Int.reduceToNat, Int.reduceLE, and_self, true_and, and_true]
  all_goals (try rfl)
  all_goals (repeat' split)
  all_goals first | rfl | simp_all
theorem g203_1 (d : Nat) (x1 : Int) (s0 : Int) (M : mM) : ev prog (d + 7) 203 0 1 [vr 72, vi x1, vj, vj] [vi s0] (shp, M) = ev prog (d + 7) 203 0 3 [vr 72, vi x1, vi 0, vi 0] [] (shp, mfill M 76 60 (-1)) := by
  rw [b203_1]
  try simp +decide only [b203_0, b203_2, b203_9, b203_4, b203_5, b203_8, b203_6, b203_7, fl_76, callK_r, callK_x, psh_s, psh_n, hk_0, hk_1, hk_2, hk_3, hk_4, callK_ite, bit_bi, bit_0, bit_1, eq_self, reduceIte, Int.reduceEq, Int.reduceLT, Int.reduceNeg, Nat.reduceEqDiff, ne_eq, not_false_eq_true, pu_k, mset_k, mset_j, mset_at, va_pu, va_mset, Int.reduceToNat, Int.reduceLE, and_self, true_and, and_true]
  all_goals (try rfl)
  all_goals (repeat' split)
  all_goals first | rfl | simp_all
theorem g203_3 (d : Nat) (x1 : Int) (x2 : Int) (x3 : Int) (M : mM) : ev prog (d + 7) 203 0 3 [vr 72, vi x1, vi x2, vi x3] [] (shp, M) = if x3 < (M 73 1) then (if (va M 76 60 x3) = (-1) then callK (run prog (d + 6) 202 [vr 72, vi x3, vi x1] (shp, M)) (fun v σ1 => ev prog (d + 7) 203 0 7 [vr 72, vi x1, vi x2, vi x3] (psh v []) σ1) (fun e σ1 => hk [0, 0, 0, 0, 0] e σ1 (fun t => ev prog (d + 7) 203 0 t (msk (pMask prog 203 t) [vr 72, vi x1, vi x2, vi x3]) [vj] σ1)) else ev prog (d + 7) 203 0 3 [vr 72, vi x1, vi x2, vi (wr (x3 + 1))] [] (shp, M)) else some (.inl (some (vi x2)), (shp, M)) := by
  rw [b203_3]
  try simp +decide only [b203_0, b203_1, b203_2, b203_9, b203_4, b203_5, b203_8, b203_6, b203_7, va_76, callK_r, callK_x, psh_s, psh_n, hk_0, hk_1, hk_2, hk_3, hk_4, callK_ite, bit_bi, bit_0, bit_1, eq_self, reduceIte, Int.reduceEq, Int.reduceLT, Int.reduceNeg, Nat.reduceEqDiff, ne_eq, not_false_eq_true, pu_k, mset_k, mset_j, mset_at, va_pu, va_mset, Int.reduceToNat, Int.reduceLE, and_self, true_and, and_true]
  all_goals (try rfl)
  all_goals (repeat' split)
  all_goals first | rfl | simp_all
theorem g203_7 (d : Nat) (x1 : Int) (x2 : Int) (x3 : Int) (M : mM) : ev prog (d + 7) 203 0 7 [vr 72, vi x1, vi x2, vi x3] [] (shp, M) = ev prog (d + 7) 203 0 3 [vr 72, vi x1, vi (wr (x2 + 1)), vi (wr (x3 + 1))] [] (shp, M) := by
  rw [b203_7]
  try simp +decide only [b203_0, b203_1, b203_2, b203_9, b203_4, b203_5, b203_8, b203_6, callK_r, callK_x, psh_s, psh_n, hk_0, hk_1, hk_2, hk_3, hk_4, callK_ite, bit_bi, bit_0, bit_1, eq_self, reduceIte, Int.reduceEq, Int.reduceLT, Int.reduceNeg, Nat.reduceEqDiff, ne_eq, not_false_eq_true, pu_k, mset_k, mset_j, mset_at, va_pu, va_mset, Int.reduceToNat, Int.reduceLE, and_self, true_and, and_true]
  all_goals (try rfl)
  all_goals (repeat' split)
  all_goals first | rfl | simp_all
theorem g204_0 (d : Nat) (x1 : Int) (M : mM) : ev prog (d + 8) 204 0 0 [vr 5, vi x1] [] (shp, M) = callK (run prog (d + 7) 203 [vr 72, vi x1] (shp, M)) (fun v σ1 => ev prog (d + 8) 204 0 1 [vj, vj] (psh v []) σ1) (fun e σ1 => hk [0, 0, 0, 0, 0] e σ1 (fun t => ev prog (d + 8) 204 0 t (msk (pMask prog 204 t) [vr 5, vi x1]) [vj] σ1)) := by
  rw [b204_0]
  try simp +decide only [b204_1, callK_r, callK_x, psh_s, psh_n, hk_0, hk_1, hk_2, hk_3, hk_4, callK_ite, bit_bi, bit_0, bit_1, eq_self, reduceIte, Int.reduceEq, Int.reduceLT, Int.reduceNeg, Nat.reduceEqDiff, ne_eq, not_false_eq_true, pu_k, mset_k, mset_j, mset_at, va_pu, va_mset, Int.reduceToNat, Int.reduceLE, and_self, true_and, and_true]
  all_goals (try rfl)
  all_goals (repeat' split)
  all_goals first | rfl | simp_all
theorem g204_1 (d : Nat) (s0 : Int) (M : mM) : ev prog (d + 8) 204 0 1 [vj, vj] [vi s0] (shp, M) = some (.inl (some (vi s0)), (shp, M)) := by
  rw [b204_1]
  try simp +decide only [b204_0, callK_r, callK_x, psh_s, psh_n, hk_0, hk_1, hk_2, hk_3, hk_4, callK_ite, bit_bi, bit_0, bit_1, eq_self, reduceIte, Int.reduceEq, Int.reduceLT, Int.reduceNeg, Nat.reduceEqDiff, ne_eq, not_false_eq_true, pu_k, mset_k, mset_j, mset_at, va_pu, va_mset, Int.reduceToNat, Int.reduceLE, and_self, true_and, and_true]
  all_goals (try rfl)
  all_goals (repeat' split)
  all_goals first | rfl | simp_all
theorem g205_0 (d : Nat) (x1 : Int) (M : mM) : ev prog (d + 5) 205 0 0 [vr 87, vi x1, vj, vj, vj, vj] [] (shp, M) = ev prog (d + 5) 205 0 1 [vr 87, vi x1, vi 0, vi 0, vj, vj] [] (shp, M) := by
  rw [b205_0]
  try simp +decide only [b205_2, b205_9, b205_3, b205_4, b205_32, b205_11, b205_8, b205_5, b205_6, b205_41, b205_34, b205_31, b205_13, b205_7, b205_35, b205_36, b205_30, b205_15, b205_37, b205_16, b205_39, b205_38, b205_17, b205_40, b205_18, b205_19, b205_29, b205_20, b205_21, b205_22, b205_23, b205_24, b205_25, b205_26, b205_27, b205_28, callK_r, callK_x, psh_s, psh_n, hk_0, hk_1, hk_2, hk_3, hk_4, callK_ite, bit_bi, bit_0, bit_1, eq_self, reduceIte, Int.reduceEq, Int.reduceLT, Int.reduceNeg, Nat.reduceEqDiff, ne_eq, not_false_eq_true, pu_k, mset_k, mset_j, mset_at, va_pu, va_mset, Int.reduceToNat, Int.reduceLE, and_self, true_and, and_true]
  all_goals (try rfl)
  all_goals (repeat' split)
  all_goals first | rfl | simp_all
theorem g205_1 (d : Nat) (x1 : Int) (x2 : Int) (x3 : Int) (M : mM) : ev prog (d + 5) 205 0 1 [vr 87, vi x1, vi x2, vi x3, vj, vj] [] (shp, M) = if x3 < (M 88 2001) then callK (run prog (d + 4) 129 [vr 87, vi x3] (shp, M)) (fun v σ1 => ev prog (d + 5) 205 0 4 [vr 87, vi x1, vi x2, vi x3, vj, vj] (psh v []) σ1) (fun e σ1 => hk [0, 0, 0, 0, 0] e σ1 (fun t => ev prog (d + 5) 205 0 t (msk (pMask prog 205 t) [vr 87, vi x1, vi x2, vi x3, vj, vj]) [vj] σ1)) else ev prog (d + 5) 205 0 10 [vr 87, vi x1, vi x2, vi 1, vj, vj] [] (shp, M) := by
  rw [b205_1]
  try simp +decide only [b205_0, b205_2, b205_9, b205_3, b205_4, b205_32, b205_11, b205_8, b205_5, b205_6, b205_41, b205_34, b205_31, b205_13, b205_7, b205_35, b205_36, b205_30, b205_15, b205_37, b205_16, b205_39, b205_38, b205_17, b205_40, b205_18, b205_19, b205_29, b205_20, b205_21, b205_22, b205_23, b205_24, b205_25, b205_26, b205_27, b205_28, callK_r, callK_x, psh_s, psh_n, hk_0, hk_1, hk_2, hk_3, hk_4, callK_ite, bit_bi, bit_0, bit_1, eq_self, reduceIte, Int.reduceEq, Int.reduceLT, Int.reduceNeg, Nat.reduceEqDiff, ne_eq, not_false_eq_true, pu_k, mset_k, mset_j, mset_at, va_pu, va_mset, Int.reduceToNat, Int.reduceLE, and_self, true_and, and_true]
  all_goals (try rfl)
  all_goals (repeat' split)
  all_goals first | rfl | simp_all
theorem g205_4 (d : Nat) (x1 : Int) (x2 : Int) (x3 : Int) (s0 : Int) (M : mM) : ev prog (d + 5) 205 0 4 [vr 87, vi x1, vi x2, vi x3, vj, vj] [vi s0] (shp, M) = if s0 = 0 then ev prog (d + 5) 205 0 1 [vr 87, vi x1, vi x2, vi (wr (x3 + 1)), vj, vj] [] (shp, M) else (if 0 ≤ x3 ∧ x3 < 200 then (if 0 ≤ x2 ∧ x2 < 60 then ev prog (d + 5) 205 0 1 [vr 87, vi x1, vi (wr (x2 + 1)), vi (wr (x3 + 1)), vj, vj] [] (shp, mset (mset M 91 (Int.toNat x3) x3) 92 (Int.toNat x2) x3) else none) else none) := by
  rw [b205_4]
  try simp +decide only [b205_0, b205_2, b205_9, b205_3, b205_32, b205_11, b205_8, b205_5, b205_6, b205_41, b205_34, b205_31, b205_13, b205_7, b205_35, b205_36, b205_30, b205_15, b205_37, b205_16, b205_39, b205_38, b205_17, b205_40, b205_18, b205_19, b205_29, b205_20, b205_21, b205_22, b205_23, b205_24, b205_25, b205_26, b205_27, b205_28, callK_r, callK_x, psh_s, psh_n, hk_0, hk_1, hk_2, hk_3, hk_4, callK_ite, bit_bi, bit_0, bit_1, eq_self, reduceIte, Int.reduceEq, Int.reduceLT, Int.reduceNeg, Nat.reduceEqDiff, ne_eq, not_false_eq_true, pu_k, mset_k, mset_j, mset_at, va_pu, va_mset, Int.reduceToNat, Int.reduceLE, and_self, true_and, and_true]
  all_goals (try rfl)
  all_goals (repeat' split)
  all_goals first | rfl | simp_all
theorem g205_10 (d : Nat) (x1 : Int) (x2 : Int) (x3 : Int) (M : mM) : ev prog (d + 5) 205 0 10 [vr 87, vi x1, vi x2, vi x3, vj, vj] [] (shp, M) = if x3 = 0 then ev prog (d + 5) 205 0 33 [vr 87, vj, vi x2, vj, vi 0, vi 0] [] (shp, M) else ev prog (d + 5) 205 0 12 [vr 87, vi x1, vi x2, vi 0, vi 0, vj] [] (shp, M) := by
  rw [b205_10]
  try simp +decide only [b205_0, b205_2, b205_9, b205_3, b205_4, b205_32, b205_11, b205_8, b205_5, b205_6, b205_41, b205_34, b205_31, b205_13, b205_7, b205_35, b205_36, b205_30, b205_15, b205_37, b205_16, b205_39, b205_38, b205_17, b205_40, b205_18, b205_19, b205_29, b205_20, b205_21, b205_22, b205_23, b205_24, b205_25, b205_26, b205_27, b205_28, callK_r, callK_x, psh_s, psh_n, hk_0, hk_1, hk_2, hk_3, hk_4, callK_ite, bit_bi, bit_0, bit_1, eq_self, reduceIte, Int.reduceEq, Int.reduceLT, Int.reduceNeg, Nat.reduceEqDiff, ne_eq, not_false_eq_true, pu_k, mset_k, mset_j, mset_at, va_pu, va_mset, Int.reduceToNat, Int.reduceLE, and_self, true_and, and_true]
  all_goals (try rfl)
  all_goals (repeat' split)
  all_goals first | rfl | simp_all
theorem g205_33 (d : Nat) (x2 : Int) (x4 : Int) (x5 : Int) (M : mM) : ev prog (d + 5) 205 0 33 [vr 87, vj, vi x2, vj, vi x4, vi x5] [] (shp, M) = if x5 < x2 then (if 0 ≤ x5 ∧ x5 < 60 then (if 0 ≤ (M 92 (Int.toNat x5)) ∧ (M 92 (Int.toNat x5)) < 200 then (if 0 ≤ x5 ∧ x5 < 60 then (if (M 91 (Int.toNat (M 92 (Int.toNat x5)))) = (M 92 (Int.toNat x5)) then ev prog (d + 5) 205 0 33 [vr 87, vj, vi x2, vj, vi (wr (x4 + 1)), vi (wr (x5 + 1))] [] (shp, M) else ev prog (d + 5) 205 0 33 [vr 87, vj, vi x2, vj, vi (wr (x4 + 0)), vi (wr (x5 + 1))] [] (shp, M)) else none) else none) else none) else some (.inl (some (vi x4)), (shp, M)) := by
  rw [b205_33]
  try simp +decide only [b205_0, b205_2, b205_9, b205_3, b205_4, b205_32, b205_11, b205_8, b205_5, b205_6, b205_41, b205_34, b205_31, b205_13, b205_7, b205_35, b205_36, b205_30, b205_15, b205_37, b205_16, b205_39, b205_38, b205_17, b205_40, b205_18, b205_19, b205_29, b205_20, b205_21, b205_22, b205_23, b205_24, b205_25, b205_26, b205_27, b205_28, callK_r, callK_x, psh_s, psh_n, hk_0, hk_1, hk_2, hk_3, hk_4, callK_ite, bit_bi, bit_0, bit_1, eq_self, reduceIte, Int.reduceEq, Int.reduceLT, Int.reduceNeg, Nat.reduceEqDiff, ne_eq, not_false_eq_true, pu_k, mset_k, mset_j, mset_at, va_pu, va_mset, Int.reduceToNat, Int.reduceLE, and_self, true_and, and_true]
  all_goals (try rfl)
  all_goals (repeat' split)
  all_goals first | rfl | simp_all
theorem g205_12 (d : Nat) (x1 : Int) (x2 : Int) (x3 : Int) (x4 : Int) (M : mM) : ev prog (d + 5) 205 0 12 [vr 87, vi x1, vi x2, vi x3, vi x4, vj] [] (shp, M) = if x4 < x2 then ev prog (d + 5) 205 0 14 [vr 87, vi x1, vi x2, vi x3, vi x4, vi 0] [] (shp, M) else ev prog (d + 5) 205 0 10 [vr 87, vi x1, vi x2, vi x3, vj, vj] [] (shp, M) := by
  rw [b205_12]
  try simp +decide only [b205_0, b205_2, b205_9, b205_3, b205_4, b205_32, b205_11, b205_8, b205_5, b205_6, b205_41, b205_34, b205_31, b205_13, b205_7, b205_35, b205_36, b205_30, b205_15, b205_37, b205_16, b205_39, b205_38, b205_17, b205_40, b205_18, b205_19, b205_29, b205_20, b205_21, b205_22, b205_23, b205_24, b205_25, b205_26, b205_27, b205_28, callK_r, callK_x, psh_s, psh_n, hk_0, hk_1, hk_2, hk_3, hk_4, callK_ite, bit_bi, bit_0, bit_1, eq_self, reduceIte, Int.reduceEq, Int.reduceLT, Int.reduceNeg, Nat.reduceEqDiff, ne_eq, not_false_eq_true, pu_k, mset_k, mset_j, mset_at, va_pu, va_mset, Int.reduceToNat, Int.reduceLE, and_self, true_and, and_true]
  all_goals (try rfl)
  all_goals (repeat' split)
  all_goals first | rfl | simp_all
theorem g205_14 (d : Nat) (x1 : Int) (x2 : Int) (x3 : Int) (x4 : Int) (x5 : Int) (M : mM) : ev prog (d + 5) 205 0 14 [vr 87, vi x1, vi x2, vi x3, vi x4, vi x5] [] (shp, M) = if x5 < x2 then (if 0 ≤ x5 ∧ x5 < 60 then (if 0 ≤ (M 92 (Int.toNat x5)) ∧ (M 92 (Int.toNat x5)) < 200 then (if 0 ≤ x4 ∧ x4 < 60 then (if 0 ≤ (M 92 (Int.toNat x4)) ∧ (M 92 (Int.toNat x4)) < 200 then (if (M 91 (Int.toNat (M 92 (Int.toNat x5)))) < (M 91 (Int.toNat (M 92 (Int.toNat x4)))) then (if 0 ≤ x4 ∧ x4 < 60 then (if 0 ≤ x5 ∧ x5 < 60 then callK (run prog (d + 4) 192 [vr 87, vi (M 92 (Int.toNat x4)), vi (M 92 (Int.toNat x5))] (shp, M)) (fun v σ1 => ev prog (d + 5) 205 0 23 [vr 87, vi x1, vi x2, vi x3, vi x4, vi x5] (psh v []) σ1) (fun e σ1 => hk [0, 0, 0, 0, 0] e σ1 (fun t => ev prog (d + 5) 205 0 t (msk (pMask prog 205 t) [vr 87, vi x1, vi x2, vi x3, vi x4, vi x5]) [vj] σ1)) else none) else none) else ev prog (d + 5) 205 0 14 [vr 87, vi x1, vi x2, vi x3, vi x4, vi (wr (x5 + 1))] [] (shp, M)) else none) else none) else none) else none) else ev prog (d + 5) 205 0 12 [vr 87, vi x1, vi x2, vi x3, vi (wr (x4 + 1)), vj] [] (shp, M) := by
  rw [b205_14]
  try simp +decide only [b205_0, b205_2, b205_9, b205_3, b205_4, b205_32, b205_11, b205_8, b205_5, b205_6, b205_41, b205_34, b205_31, b205_13, b205_7, b205_35, b205_36, b205_30, b205_15, b205_37, b205_16, b205_39, b205_38, b205_17, b205_40, b205_18, b205_19, b205_29, b205_20, b205_21, b205_22, b205_23, b205_24, b205_25, b205_26, b205_27, b205_28, callK_r, callK_x, psh_s, psh_n, hk_0, hk_1, hk_2, hk_3, hk_4, callK_ite, bit_bi, bit_0, bit_1, eq_self, reduceIte, Int.reduceEq, Int.reduceLT, Int.reduceNeg, Nat.reduceEqDiff, ne_eq, not_false_eq_true, pu_k, mset_k, mset_j, mset_at, va_pu, va_mset, Int.reduceToNat, Int.reduceLE, and_self, true_and, and_true]
  all_goals (try rfl)
  all_goals (repeat' split)
  all_goals first | rfl | simp_all
theorem g205_23 (d : Nat) (x1 : Int) (x2 : Int) (x3 : Int) (x4 : Int) (x5 : Int) (s0 : Int) (M : mM) : ev prog (d + 5) 205 0 23 [vr 87, vi x1, vi x2, vi x3, vi x4, vi x5] [vi s0] (shp, M) = if x1 < s0 then ev prog (d + 5) 205 0 14 [vr 87, vi x1, vi x2, vi x3, vi x4, vi (wr (x5 + 1))] [] (shp, M) else (if 0 ≤ x4 ∧ x4 < 60 then (if 0 ≤ x5 ∧ x5 < 60 then (if 0 ≤ (M 92 (Int.toNat x5)) ∧ (M 92 (Int.toNat x5)) < 200 then (if 0 ≤ (M 92 (Int.toNat x4)) ∧ (M 92 (Int.toNat x4)) < 200 then ev prog (d + 5) 205 0 14 [vr 87, vi x1, vi x2, vi 1, vi x4, vi (wr (x5 + 1))] [] (shp, mset M 91 (Int.toNat (M 92 (Int.toNat x4))) (M 91 (Int.toNat (M 92 (Int.toNat x5))))) else none) else none) else none) else none) := by
  rw [b205_23]
  try simp +decide only [b205_0, b205_2, b205_9, b205_3, b205_4, b205_32, b205_11, b205_8, b205_5, b205_6, b205_41, b205_34, b205_31, b205_13, b205_7, b205_35, b205_36, b205_30, b205_15, b205_37, b205_16, b205_39, b205_38, b205_17, b205_40, b205_18, b205_19, b205_29, b205_20, b205_21, b205_22, b205_24, b205_25, b205_26, b205_27, b205_28, callK_r, callK_x, psh_s, psh_n, hk_0, hk_1, hk_2, hk_3, hk_4, callK_ite, bit_bi, bit_0, bit_1, eq_self, reduceIte, Int.reduceEq, Int.reduceLT, Int.reduceNeg, Nat.reduceEqDiff, ne_eq, not_false_eq_true, pu_k, mset_k, mset_j, mset_at, va_pu, va_mset, Int.reduceToNat, Int.reduceLE, and_self, true_and, and_true]
  all_goals (try rfl)
  all_goals (repeat' split)
  all_goals first | rfl | simp_all
theorem g206_0 (d : Nat) (x1 : Int) (M : mM) : ev prog (d + 6) 206 0 0 [vr 87, vi x1] [] (shp, M) = callK (run prog (d + 5) 205 [vr 87, vi x1] (shp, mset M 87 3 0)) (fun v σ1 => ev prog (d + 6) 206 0 1 [vj, vj] (psh v []) σ1) (fun e σ1 => hk [0, 0, 0, 0, 0] e σ1 (fun t => ev prog (d + 6) 206 0 t (msk (pMask prog 206 t) [vr 87, vi x1]) [vj] σ1)) := by
  rw [b206_0]
  try simp +decide only [b206_1, callK_r, callK_x, psh_s, psh_n, hk_0, hk_1, hk_2, hk_3, hk_4, callK_ite, bit_bi, bit_0, bit_1, eq_self, reduceIte, Int.reduceEq, Int.reduceLT, Int.reduceNeg, Nat.reduceEqDiff, ne_eq, not_false_eq_true, pu_k, mset_k, mset_j, mset_at, va_pu, va_mset, Int.reduceToNat, Int.reduceLE, and_self, true_and, and_true]
  all_goals (try rfl)
  all_goals (repeat' split)
  all_goals first | rfl | simp_all
theorem g206_1 (d : Nat) (s0 : Int) (M : mM) : ev prog (d + 6) 206 0 1 [vj, vj] [vi s0] (shp, M) = some (.inl (some (vi s0)), (shp, M)) := by
  rw [b206_1]
  try simp +decide only [b206_0, callK_r, callK_x, psh_s, psh_n, hk_0, hk_1, hk_2, hk_3, hk_4, callK_ite, bit_bi, bit_0, bit_1, eq_self, reduceIte, Int.reduceEq, Int.reduceLT, Int.reduceNeg, Nat.reduceEqDiff, ne_eq, not_false_eq_true, pu_k, mset_k, mset_j, mset_at, va_pu, va_mset, Int.reduceToNat, Int.reduceLE, and_self, true_and, and_true]
  all_goals (try rfl)
  all_goals (repeat' split)
  all_goals first | rfl | simp_all
theorem g207_0 (d : Nat) (x1 : Int) (M : mM) : ev prog (d + 3) 207 0 0 [vr 72, vi x1, vj] [] (shp, M) = ev prog (d + 3) 207 0 1 [vr 72, vi x1, vi 0] [] (shp, M) := by
  rw [b207_0]
  try simp +decide only [b207_8, b207_2, b207_3, b207_7, b207_4, b207_5, b207_6, callK_r, callK_x, psh_s, psh_n, hk_0, hk_1, hk_2, hk_3, hk_4, callK_ite, bit_bi, bit_0, bit_1, eq_self, reduceIte, Int.reduceEq, Int.reduceLT, Int.reduceNeg, Nat.reduceEqDiff, ne_eq, not_false_eq_true, pu_k, mset_k, mset_j, mset_at, va_pu, va_mset, Int.reduceToNat, Int.reduceLE, and_self, true_and, and_true]
  all_goals (try rfl)
  all_goals (repeat' split)
  all_goals first | rfl | simp_all
theorem g207_1 (d : Nat) (x1 : Int) (x2 : Int) (M : mM) : ev prog (d + 3) 207 0 1 [vr 72, vi x1, vi x2] [] (shp, M) = if x2 < (M 73 1) then (if (r30 x2 M) = x1 then some (.inl (some (vi (r30 (va M 76 60 x2) M))), (shp, M)) else ev prog (d + 3) 207 0 1 [vr 72, vi x1, vi (wr (x2 + 1))] [] (shp, M)) else some (.inl (some (vi (-1))), (shp, M)) := by
  rw [b207_1]
  try simp +decide only [b207_0, b207_8, b207_2, b207_3, b207_7, b207_4, b207_5, b207_6, s30, va_76, callK_r, callK_x, psh_s, psh_n, hk_0, hk_1, hk_2, hk_3, hk_4, callK_ite, bit_bi, bit_0, bit_1, eq_self, reduceIte, Int.reduceEq, Int.reduceLT, Int.reduceNeg, Nat.reduceEqDiff, ne_eq, not_false_eq_true, pu_k, mset_k, mset_j, mset_at, va_pu, va_mset, Int.reduceToNat, Int.reduceLE, and_self, true_and, and_true]
  all_goals (try rfl)
  all_goals (repeat' split)
  all_goals first | rfl | simp_all
theorem g208_0 (d : Nat) (x1 : Int) (x2 : Int) (M : mM) : ev prog (d + 8) 208 0 0 [vr 5, vi x1, vi x2] [] (shp, M) = if (bi (p125 x1 M)) = 0 then some (.inr 2, (shp, M)) else callK (run prog (d + 7) 203 [vr 72, vi x2] (shp, M)) (fun v σ1 => ev prog (d + 8) 208 1 2 [vr 5, vi x1, vj] (psh v []) σ1) (fun e σ1 => hk [0, 0, 0, 0, 0] e σ1 (fun t => ev prog (d + 8) 208 1 t (msk (pMask prog 208 t) [vr 5, vi x1, vi x2]) [vj] σ1)) := by
  rw [b208_0]
  try simp +decide only [b208_1, b208_2, b208_3, s194, o194, callK_r, callK_x, psh_s, psh_n, hk_0, hk_1, hk_2, hk_3, hk_4, callK_ite, bit_bi, bit_0, bit_1, eq_self, reduceIte, Int.reduceEq, Int.reduceLT, Int.reduceNeg, Nat.reduceEqDiff, ne_eq, not_false_eq_true, pu_k, mset_k, mset_j, mset_at, va_pu, va_mset, Int.reduceToNat, Int.reduceLE, and_self, true_and, and_true]
  all_goals (try rfl)
  all_goals (repeat' split)
  all_goals first | rfl | simp_all
theorem g208_2 (d : Nat) (x1 : Int) (s0 : Int) (M : mM) : ev prog (d + 8) 208 1 2 [vr 5, vi x1, vj] [vi s0] (shp, M) = callK (run prog (d + 7) 207 [vr 72, vi x1] (shp, M)) (fun v σ1 => ev prog (d + 8) 208 1 3 [vj, vj, vj] (psh v []) σ1) (fun e σ1 => hk [0, 0, 0, 0, 0] e σ1 (fun t => ev prog (d + 8) 208 1 t (msk (pMask prog 208 t) [vr 5, vi x1, vj]) [vj] σ1)) := by
  rw [b208_2]
  try simp +decide only [b208_0, b208_1, b208_3, callK_r, callK_x, psh_s, psh_n, hk_0, hk_1, hk_2, hk_3, hk_4, callK_ite, bit_bi, bit_0, bit_1, eq_self, reduceIte, Int.reduceEq, Int.reduceLT, Int.reduceNeg, Nat.reduceEqDiff, ne_eq, not_false_eq_true, pu_k, mset_k, mset_j, mset_at, va_pu, va_mset, Int.reduceToNat, Int.reduceLE, and_self, true_and, and_true]
  all_goals (try rfl)
  all_goals (repeat' split)
  all_goals first | rfl | simp_all
theorem g208_3 (d : Nat) (s0 : Int) (M : mM) : ev prog (d + 8) 208 1 3 [vj, vj, vj] [vi s0] (shp, M) = some (.inl (some (vi s0)), (shp, M)) := by
  rw [b208_3]
  try simp +decide only [b208_0, b208_1, b208_2, callK_r, callK_x, psh_s, psh_n, hk_0, hk_1, hk_2, hk_3, hk_4, callK_ite, bit_bi, bit_0, bit_1, eq_self, reduceIte, Int.reduceEq, Int.reduceLT, Int.reduceNeg, Nat.reduceEqDiff, ne_eq, not_false_eq_true, pu_k, mset_k, mset_j, mset_at, va_pu, va_mset, Int.reduceToNat, Int.reduceLE, and_self, true_and, and_true]
  all_goals (try rfl)
  all_goals (repeat' split)
  all_goals first | rfl | simp_all
theorem g210_0 (d : Nat) (x1 : Int) (x2 : Int) (M : mM) : ev prog (d + 6) 210 0 0 [vr 87, vi x1, vi x2] [] (shp, M) = callK (run prog (d + 5) 129 [vr 87, vi x1] (shp, mset M 87 3 0)) (fun v σ1 => ev prog (d + 6) 210 0 1 [vr 87, vi x1, vi x2] (psh v []) σ1) (fun e σ1 => hk [0, 0, 0, 0, 0] e σ1 (fun t => ev prog (d + 6) 210 0 t (msk (pMask prog 210 t) [vr 87, vi x1, vi x2]) [vj] σ1)) := by
  rw [b210_0]
  try simp +decide only [b210_1, b210_4, b210_2, b210_5, b210_3, b210_6, callK_r, callK_x, psh_s, psh_n, hk_0, hk_1, hk_2, hk_3, hk_4, callK_ite, bit_bi, bit_0, bit_1, eq_self, reduceIte, Int.reduceEq, Int.reduceLT, Int.reduceNeg, Nat.reduceEqDiff, ne_eq, not_false_eq_true, pu_k, mset_k, mset_j, mset_at, va_pu, va_mset, Int.reduceToNat, Int.reduceLE, and_self, true_and, and_true]
  all_goals (try rfl)
  all_goals (repeat' split)
  all_goals first | rfl | simp_all
theorem g210_1 (d : Nat) (x1 : Int) (x2 : Int) (s0 : Int) (M : mM) : ev prog (d + 6) 210 0 1 [vr 87, vi x1, vi x2] [vi s0] (shp, M) = if s0 = 0 then some (.inl (some (vi 0)), (shp, mset M 87 3 1)) else callK (run prog (d + 5) 205 [vr 87, vi x2] (shp, M)) (fun v σ1 => ev prog (d + 6) 210 0 5 [vr 87, vi x1, vj] (psh v []) σ1) (fun e σ1 => hk [0, 0, 0, 0, 0] e σ1 (fun t => ev prog (d + 6) 210 0 t (msk (pMask prog 210 t) [vr 87, vi x1, vi x2]) [vj] σ1)) := by
  rw [b210_1]
  try simp +decide only [b210_0, b210_4, b210_2, b210_5, b210_3, b210_6, s53, o53, callK_r, callK_x, psh_s, psh_n, hk_0, hk_1, hk_2, hk_3, hk_4, callK_ite, bit_bi, bit_0, bit_1, eq_self, reduceIte, Int.reduceEq, Int.reduceLT, Int.reduceNeg, Nat.reduceEqDiff, ne_eq, not_false_eq_true, pu_k, mset_k, mset_j, mset_at, va_pu, va_mset, Int.reduceToNat, Int.reduceLE, and_self, true_and, and_true]
  all_goals (try rfl)
  all_goals (repeat' split)
  all_goals first | rfl | simp_all
theorem g210_5 (d : Nat) (x1 : Int) (s0 : Int) (M : mM) : ev prog (d + 6) 210 0 5 [vr 87, vi x1, vj] [vi s0] (shp, M) = if 0 ≤ x1 ∧ x1 < 200 then some (.inl (some (vi (M 91 (Int.toNat x1)))), (shp, M)) else none := by
  rw [b210_5]
  try simp +decide only [b210_0, b210_1, b210_4, b210_2, b210_3, b210_6, callK_r, callK_x, psh_s, psh_n, hk_0, hk_1, hk_2, hk_3, hk_4, callK_ite, bit_bi, bit_0, bit_1, eq_self, reduceIte, Int.reduceEq, Int.reduceLT, Int.reduceNeg, Nat.reduceEqDiff, ne_eq, not_false_eq_true, pu_k, mset_k, mset_j, mset_at, va_pu, va_mset, Int.reduceToNat, Int.reduceLE, and_self, true_and, and_true]
  all_goals (try rfl)
  all_goals (repeat' split)
  all_goals first | rfl | simp_all
theorem g213_0 (d : Nat) (x1 : Int) (x2 : Int) (x3 : Int) (x4 : Int) (M : mM) : ev prog (d + 3) 213 0 0 [vr 87, vi x1, vi x2, vi x3, vi x4] [] (shp, M) = if (bi (p51 x1 0 1 (mset M 87 3 0))) = 0 then (if (bi (p51 x1 0 1 (mset M 87 3 0))) = 0 then some (.inl none, (shp, mset (mset M 87 3 0) 87 3 1)) else some (.inl none, (shp, mset (mset M 87 3 0) 87 3 2))) else (if (bi (p52 x2 x3 x4 (mset M 87 3 0))) = 0 then (if (bi (p51 x1 0 1 (mset M 87 3 0))) = 0 then some (.inl none, (shp, mset (mset M 87 3 0) 87 3 1)) else some (.inl none, (shp, mset (mset M 87 3 0) 87 3 2))) else (if 0 ≤ (wr (2011 + (wr (3 * x1)))) ∧ (wr (2011 + (wr (3 * x1)))) < 2031 then (if 0 ≤ (wr ((wr (2011 + (wr (3 * x1)))) + 1)) ∧ (wr ((wr (2011 + (wr (3 * x1)))) + 1)) < 2031 then (if 0 ≤ (wr ((wr (2011 + (wr (3 * x1)))) + 2)) ∧ (wr ((wr (2011 + (wr (3 * x1)))) + 2)) < 2031 then some (.inl none, (shp, mset (mset (mset (mset M 87 3 0) 88 (Int.toNat (wr (2011 + (wr (3 * x1))))) x2) 88 (Int.toNat (wr ((wr (2011 + (wr (3 * x1)))) + 1))) x3) 88 (Int.toNat (wr ((wr (2011 + (wr (3 * x1)))) + 2))) x4)) else none) else none) else none)) := by
  rw [b213_0]
  try simp +decide only [b213_1, b213_4, b213_2, b213_5, b213_3, b213_7, b213_6, b213_9, b213_8, b213_10, b213_11, b213_12, s51, s52, callK_r, callK_x, psh_s, psh_n, hk_0, hk_1, hk_2, hk_3, hk_4, callK_ite, bit_bi, bit_0, bit_1, eq_self, reduceIte, Int.reduceEq, Int.reduceLT, Int.reduceNeg, Nat.reduceEqDiff, ne_eq, not_false_eq_true, pu_k, mset_k, mset_j, mset_at, va_pu, va_mset, Int.reduceToNat, Int.reduceLE, and_self, true_and, and_true]
  all_goals (try rfl)
  all_goals (repeat' split)
  all_goals first | rfl | simp_all
theorem g214_0 (d : Nat) (x1 : Int) (M : mM) : ev prog (d + 3) 214 0 0 [vr 72, vi x1, vj, vj] [] (shp, M) = ev prog (d + 3) 214 0 1 [vr 72, vi x1, vi 0, vj] [] (shp, M) := by
  rw [b214_0]
  try simp +decide only [b214_9, b214_2, b214_3, b214_4, b214_7, b214_5, b214_6, b214_8, callK_r, callK_x, psh_s, psh_n, hk_0, hk_1, hk_2, hk_3, hk_4, callK_ite, bit_bi, bit_0, bit_1, eq_self, reduceIte, Int.reduceEq, Int.reduceLT, Int.reduceNeg, Nat.reduceEqDiff, ne_eq, not_false_eq_true, pu_k, mset_k, mset_j, mset_at, va_pu, va_mset, Int.reduceToNat, Int.reduceLE, and_self, true_and, and_true]
  all_goals (try rfl)
  all_goals (repeat' split)
  all_goals first | rfl | simp_all
theorem g214_1 (d : Nat) (x1 : Int) (x2 : Int) (M : mM) : ev prog (d + 3) 214 0 1 [vr 72, vi x1, vi x2, vj] [] (shp, M) = if x2 < 3 then (if (r20 x1 x2 M) < (va M 36 3 x2) then some (.inl (some (vi 0)), (shp, M)) else (if (va M 37 3 x2) < (r20 x1 x2 M) then some (.inl (some (vi 0)), (shp, M)) else ev prog (d + 3) 214 0 1 [vr 72, vi x1, vi (wr (x2 + 1)), vj] [] (shp, M))) else some (.inl (some (vi 1)), (shp, M)) := by
  rw [b214_1]
  try simp +decide only [b214_0, b214_9, b214_2, b214_3, b214_4, b214_7, b214_5, b214_6, b214_8, s20, va_36, va_37, callK_r, callK_x, psh_s, psh_n, hk_0, hk_1, hk_2, hk_3, hk_4, callK_ite, bit_bi, bit_0, bit_1, eq_self, reduceIte, Int.reduceEq, Int.reduceLT, Int.reduceNeg, Nat.reduceEqDiff, ne_eq, not_false_eq_true, pu_k, mset_k, mset_j, mset_at, va_pu, va_mset, Int.reduceToNat, Int.reduceLE, and_self, true_and, and_true]
  all_goals (try rfl)
  all_goals (repeat' split)
  all_goals first | rfl | simp_all
theorem g215_0 (d : Nat) (M : mM) : ev prog (d + 4) 215 0 0 [vr 72, vj] [] (shp, M) = ev prog (d + 4) 215 0 2 [vr 72, vi 0] [] (shp, mset M 73 1 0) := by
  rw [b215_0]
  try simp +decide only [b215_1, b215_9, b215_3, b215_4, b215_8, b215_5, b215_6, b215_7, s24, o24, callK_r, callK_x, psh_s, psh_n, hk_0, hk_1, hk_2, hk_3, hk_4, callK_ite, bit_bi, bit_0, bit_1, eq_self, reduceIte, Int.reduceEq, Int.reduceLT, Int.reduceNeg, Nat.reduceEqDiff, ne_eq, not_false_eq_true, pu_k, mset_k, mset_j, mset_at, va_pu, va_mset, Int.reduceToNat, Int.reduceLE, and_self, true_and, and_true]
  all_goals (try rfl)
  all_goals (repeat' split)
  all_goals first | rfl | simp_all
theorem g215_2 (d : Nat) (x1 : Int) (M : mM) : ev prog (d + 4) 215 0 2 [vr 72, vi x1] [] (shp, M) = if x1 < (M 7 4) then (if (bi (p125 x1 M)) = 0 then ev prog (d + 4) 215 0 2 [vr 72, vi (wr (x1 + 1))] [] (shp, M) else callK (run prog (d + 3) 214 [vr 72, vi x1] (shp, M)) (fun v σ1 => ev prog (d + 4) 215 0 6 [vr 72, vi x1] (psh v []) σ1) (fun e σ1 => hk [0, 0, 0, 0, 0] e σ1 (fun t => ev prog (d + 4) 215 0 t (msk (pMask prog 215 t) [vr 72, vi x1]) [vj] σ1))) else some (.inl (some (vi (M 73 1))), (shp, M)) := by
  rw [b215_2]
  try simp +decide only [b215_0, b215_1, b215_9, b215_3, b215_4, b215_8, b215_5, b215_6, b215_7, s125, callK_r, callK_x, psh_s, psh_n, hk_0, hk_1, hk_2, hk_3, hk_4, callK_ite, bit_bi, bit_0, bit_1, eq_self, reduceIte, Int.reduceEq, Int.reduceLT, Int.reduceNeg, Nat.reduceEqDiff, ne_eq, not_false_eq_true, pu_k, mset_k, mset_j, mset_at, va_pu, va_mset, Int.reduceToNat, Int.reduceLE, and_self, true_and, and_true]
  all_goals (try rfl)
  all_goals (repeat' split)
  all_goals first | rfl | simp_all
theorem g215_6 (d : Nat) (x1 : Int) (s0 : Int) (M : mM) : ev prog (d + 4) 215 0 6 [vr 72, vi x1] [vi s0] (shp, M) = if s0 = 0 then ev prog (d + 4) 215 0 2 [vr 72, vi (wr (x1 + 1))] [] (shp, M) else callK (run prog (d + 3) 25 [vr 73, vi x1] (shp, M)) (fun v σ1 => ev prog (d + 4) 215 0 8 [vr 72, vi x1] (psh v []) σ1) (fun e σ1 => hk [0, 0, 0, 0, 0] e σ1 (fun t => ev prog (d + 4) 215 0 t (msk (pMask prog 215 t) [vr 72, vi x1]) [vj] σ1)) := by
  rw [b215_6]
  try simp +decide only [b215_0, b215_1, b215_9, b215_3, b215_4, b215_8, b215_5, b215_7, callK_r, callK_x, psh_s, psh_n, hk_0, hk_1, hk_2, hk_3, hk_4, callK_ite, bit_bi, bit_0, bit_1, eq_self, reduceIte, Int.reduceEq, Int.reduceLT, Int.reduceNeg, Nat.reduceEqDiff, ne_eq, not_false_eq_true, pu_k, mset_k, mset_j, mset_at, va_pu, va_mset, Int.reduceToNat, Int.reduceLE, and_self, true_and, and_true]
  all_goals (try rfl)
  all_goals (repeat' split)
  all_goals first | rfl | simp_all
theorem g215_8 (d : Nat) (x1 : Int) (M : mM) : ev prog (d + 4) 215 0 8 [vr 72, vi x1] [] (shp, M) = ev prog (d + 4) 215 0 2 [vr 72, vi (wr (x1 + 1))] [] (shp, M) := by
  rw [b215_8]
  try simp +decide only [b215_0, b215_1, b215_9, b215_3, b215_4, b215_5, b215_6, b215_7, callK_r, callK_x, psh_s, psh_n, hk_0, hk_1, hk_2, hk_3, hk_4, callK_ite, bit_bi, bit_0, bit_1, eq_self, reduceIte, Int.reduceEq, Int.reduceLT, Int.reduceNeg, Nat.reduceEqDiff, ne_eq, not_false_eq_true, pu_k, mset_k, mset_j, mset_at, va_pu, va_mset, Int.reduceToNat, Int.reduceLE, and_self, true_and, and_true]
  all_goals (try rfl)
  all_goals (repeat' split)
  all_goals first | rfl | simp_all
theorem g216_0 (d : Nat) (M : mM) : ev prog (d + 5) 216 0 0 [vr 5] [] (shp, M) = callK (run prog (d + 4) 215 [vr 72] (shp, M)) (fun v σ1 => ev prog (d + 5) 216 0 1 [vj] (psh v []) σ1) (fun e σ1 => hk [0, 0, 0, 0, 0] e σ1 (fun t => ev prog (d + 5) 216 0 t (msk (pMask prog 216 t) [vr 5]) [vj] σ1)) := by
  rw [b216_0]
  try simp +decide only [b216_1, callK_r, callK_x, psh_s, psh_n, hk_0, hk_1, hk_2, hk_3, hk_4, callK_ite, bit_bi, bit_0, bit_1, eq_self, reduceIte, Int.reduceEq, Int.reduceLT, Int.reduceNeg, Nat.reduceEqDiff, ne_eq, not_false_eq_true, pu_k, mset_k, mset_j, mset_at, va_pu, va_mset, Int.reduceToNat, Int.reduceLE, and_self, true_and, and_true]
  all_goals (try rfl)
  all_goals (repeat' split)
  all_goals first | rfl | simp_all
theorem g216_1 (d : Nat) (s0 : Int) (M : mM) : ev prog (d + 5) 216 0 1 [vj] [vi s0] (shp, M) = some (.inl (some (vi s0)), (shp, M)) := by
  rw [b216_1]
  try simp +decide only [b216_0, callK_r, callK_x, psh_s, psh_n, hk_0, hk_1, hk_2, hk_3, hk_4, callK_ite, bit_bi, bit_0, bit_1, eq_self, reduceIte, Int.reduceEq, Int.reduceLT, Int.reduceNeg, Nat.reduceEqDiff, ne_eq, not_false_eq_true, pu_k, mset_k, mset_j, mset_at, va_pu, va_mset, Int.reduceToNat, Int.reduceLE, and_self, true_and, and_true]
  all_goals (try rfl)
  all_goals (repeat' split)
  all_goals first | rfl | simp_all
theorem g217_0 (d : Nat) (x1 : Int) (M : mM) : ev prog (d + 5) 217 0 0 [vr 87, vi x1, vj, vj] [] (shp, M) = callK (run prog (d + 4) 129 [vr 87, vi x1] (shp, M)) (fun v σ1 => ev prog (d + 5) 217 0 1 [vr 87, vi x1, vj, vj] (psh v []) σ1) (fun e σ1 => hk [0, 0, 0, 0, 0] e σ1 (fun t => ev prog (d + 5) 217 0 t (msk (pMask prog 217 t) [vr 87, vi x1, vj, vj]) [vj] σ1)) := by
  rw [b217_0]
  try simp +decide only [b217_1, b217_9, b217_3, b217_4, b217_5, b217_6, b217_7, b217_8, callK_r, callK_x, psh_s, psh_n, hk_0, hk_1, hk_2, hk_3, hk_4, callK_ite, bit_bi, bit_0, bit_1, eq_self, reduceIte, Int.reduceEq, Int.reduceLT, Int.reduceNeg, Nat.reduceEqDiff, ne_eq, not_false_eq_true, pu_k, mset_k, mset_j, mset_at, va_pu, va_mset, Int.reduceToNat, Int.reduceLE, and_self, true_and, and_true]
  all_goals (try rfl)
  all_goals (repeat' split)
  all_goals first | rfl | simp_all
theorem g217_1 (d : Nat) (x1 : Int) (s0 : Int) (M : mM) : ev prog (d + 5) 217 0 1 [vr 87, vi x1, vj, vj] [vi s0] (shp, M) = ev prog (d + 5) 217 0 2 [vr 87, vi x1, vi s0, vi 0] [] (shp, M) := by
  rw [b217_1]
  try simp +decide only [b217_0, b217_9, b217_3, b217_4, b217_5, b217_6, b217_7, b217_8, callK_r, callK_x, psh_s, psh_n, hk_0, hk_1, hk_2, hk_3, hk_4, callK_ite, bit_bi, bit_0, bit_1, eq_self, reduceIte, Int.reduceEq, Int.reduceLT, Int.reduceNeg, Nat.reduceEqDiff, ne_eq, not_false_eq_true, pu_k, mset_k, mset_j, mset_at, va_pu, va_mset, Int.reduceToNat, Int.reduceLE, and_self, true_and, and_true]
  all_goals (try rfl)
  all_goals (repeat' split)
  all_goals first | rfl | simp_all
theorem g217_2 (d : Nat) (x1 : Int) (x2 : Int) (x3 : Int) (M : mM) : ev prog (d + 5) 217 0 2 [vr 87, vi x1, vi x2, vi x3] [] (shp, M) = if x3 < 3 then (if x2 = 0 then (if bit? x2 = true then some (.inl (some (vi x2)), (shp, M)) else none) else (if 0 ≤ (wr ((wr (3 * x1)) + x3)) ∧ (wr ((wr (3 * x1)) + x3)) < 2031 then (if 0 ≤ (wr (2011 + x3)) ∧ (wr (2011 + x3)) < 2031 then (if 0 ≤ (wr (2014 + x3)) ∧ (wr (2014 + x3)) < 2031 then ev prog (d + 5) 217 0 2 [vr 87, vi x1, vi (bi (p51 (M 88 (Int.toNat (wr ((wr (3 * x1)) + x3)))) (M 88 (Int.toNat (wr (2011 + x3)))) (M 88 (Int.toNat (wr (2014 + x3)))) M)), vi (wr (x3 + 1))] [] (shp, M) else none) else none) else none)) else (if bit? x2 = true then some (.inl (some (vi x2)), (shp, M)) else none) := by
  rw [b217_2]
  try simp +decide only [b217_0, b217_1, b217_9, b217_3, b217_4, b217_5, b217_6, b217_7, b217_8, s51, callK_r, callK_x, psh_s, psh_n, hk_0, hk_1, hk_2, hk_3, hk_4, callK_ite, bit_bi, bit_0, bit_1, eq_self, reduceIte, Int.reduceEq, Int.reduceLT, Int.reduceNeg, Nat.reduceEqDiff, ne_eq, not_false_eq_true, pu_k, mset_k, mset_j, mset_at, va_pu, va_mset, Int.reduceToNat, Int.reduceLE, and_self, true_and, and_true]
  all_goals (try rfl)
  all_goals (repeat' split)
  all_goals first | rfl | simp_all
theorem g218_0 (d : Nat) (x1 : Int) (M : mM) : ev prog (d + 6) 218 0 0 [vr 87, vi x1, vj, vj] [] (shp, M) = ev prog (d + 6) 218 0 1 [vr 87, vi x1, vi 0, vi 0] [] (shp, M) := by
  rw [b218_0]
  try simp +decide only [b218_7, b218_2, b218_3, b218_5, b218_4, b218_6, callK_r, callK_x, psh_s, psh_n, hk_0, hk_1, hk_2, hk_3, hk_4, callK_ite, bit_bi, bit_0, bit_1, eq_self, reduceIte, Int.reduceEq, Int.reduceLT, Int.reduceNeg, Nat.reduceEqDiff, ne_eq, not_false_eq_true, pu_k, mset_k, mset_j, mset_at, va_pu, va_mset, Int.reduceToNat, Int.reduceLE, and_self, true_and, and_true]
  all_goals (try rfl)
  all_goals (repeat' split)
  all_goals first | rfl | simp_all
theorem g218_1 (d : Nat) (x1 : Int) (x2 : Int) (x3 : Int) (M : mM) : ev prog (d + 6) 218 0 1 [vr 87, vi x1, vi x2, vi x3] [] (shp, M) = if x3 < x1 then callK (run prog (d + 5) 217 [vr 87, vi x3] (shp, M)) (fun v σ1 => ev prog (d + 6) 218 0 3 [vr 87, vi x1, vj, vi x3] (psh v [vi x2]) σ1) (fun e σ1 => hk [0, 0, 0, 0, 0] e σ1 (fun t => ev prog (d + 6) 218 0 t (msk (pMask prog 218 t) [vr 87, vi x1, vi x2, vi x3]) [vj] σ1)) else some (.inl (some (vi x2)), (shp, M)) := by
  rw [b218_1]
  try simp +decide only [b218_0, b218_7, b218_2, b218_3, b218_5, b218_4, b218_6, callK_r, callK_x, psh_s, psh_n, hk_0, hk_1, hk_2, hk_3, hk_4, callK_ite, bit_bi, bit_0, bit_1, eq_self, reduceIte, Int.reduceEq, Int.reduceLT, Int.reduceNeg, Nat.reduceEqDiff, ne_eq, not_false_eq_true, pu_k, mset_k, mset_j, mset_at, va_pu, va_mset, Int.reduceToNat, Int.reduceLE, and_self, true_and, and_true]
  all_goals (try rfl)
  all_goals (repeat' split)
  all_goals first | rfl | simp_all
theorem g218_3 (d : Nat) (x1 : Int) (x3 : Int) (s0 : Int) (s1 : Int) (M : mM) : ev prog (d + 6) 218 0 3 [vr 87, vi x1, vj, vi x3] [vi s1, vi s0] (shp, M) = if s1 = 0 then ev prog (d + 6) 218 0 1 [vr 87, vi x1, vi (wr (s0 + 0)), vi (wr (x3 + 1))] [] (shp, M) else ev prog (d + 6) 218 0 1 [vr 87, vi x1, vi (wr (s0 + 1)), vi (wr (x3 + 1))] [] (shp, M) := by
  rw [b218_3]
  try simp +decide only [b218_0, b218_7, b218_2, b218_5, b218_4, b218_6, callK_r, callK_x, psh_s, psh_n, hk_0, hk_1, hk_2, hk_3, hk_4, callK_ite, bit_bi, bit_0, bit_1, eq_self, reduceIte, Int.reduceEq, Int.reduceLT, Int.reduceNeg, Nat.reduceEqDiff, ne_eq, not_false_eq_true, pu_k, mset_k, mset_j, mset_at, va_pu, va_mset, Int.reduceToNat, Int.reduceLE, and_self, true_and, and_true]
  all_goals (try rfl)
  all_goals (repeat' split)
  all_goals first | rfl | simp_all
theorem g219_0 (d : Nat) (M : mM) : ev prog (d + 7) 219 0 0 [vr 87] [] (shp, M) = callK (run prog (d + 6) 218 [vr 87, vi (M 88 2001)] (shp, mset M 87 3 0)) (fun v σ1 => ev prog (d + 7) 219 0 2 [vj] (psh v []) σ1) (fun e σ1 => hk [0, 0, 0, 0, 0] e σ1 (fun t => ev prog (d + 7) 219 0 t (msk (pMask prog 219 t) [vj]) [vj] σ1)) := by
  rw [b219_0]
  try simp +decide only [b219_1, b219_2, callK_r, callK_x, psh_s, psh_n, hk_0, hk_1, hk_2, hk_3, hk_4, callK_ite, bit_bi, bit_0, bit_1, eq_self, reduceIte, Int.reduceEq, Int.reduceLT, Int.reduceNeg, Nat.reduceEqDiff, ne_eq, not_false_eq_true, pu_k, mset_k, mset_j, mset_at, va_pu, va_mset, Int.reduceToNat, Int.reduceLE, and_self, true_and, and_true]
  all_goals (try rfl)
  all_goals (repeat' split)
  all_goals first | rfl | simp_all
theorem g219_2 (d : Nat) (s0 : Int) (M : mM) : ev prog (d + 7) 219 0 2 [vj] [vi s0] (shp, M) = some (.inl (some (vi s0)), (shp, M)) := by
  rw [b219_2]
  try simp +decide only [b219_0, b219_1, callK_r, callK_x, psh_s, psh_n, hk_0, hk_1, hk_2, hk_3, hk_4, callK_ite, bit_bi, bit_0, bit_1, eq_self, reduceIte, Int.reduceEq, Int.reduceLT, Int.reduceNeg, Nat.reduceEqDiff, ne_eq, not_false_eq_true, pu_k, mset_k, mset_j, mset_at, va_pu, va_mset, Int.reduceToNat, Int.reduceLE, and_self, true_and, and_true]
  all_goals (try rfl)
  all_goals (repeat' split)
  all_goals first | rfl | simp_all
theorem g220_0 (d : Nat) (x1 : Int) (M : mM) : ev prog (d + 5) 220 0 0 [vr 5, vi x1, vj] [] (shp, M) = callK (run prog (d + 4) 215 [vr 72] (shp, M)) (fun v σ1 => ev prog (d + 5) 220 0 1 [vr 5, vi x1, vj] (psh v []) σ1) (fun e σ1 => hk [0, 0, 0, 0, 0] e σ1 (fun t => ev prog (d + 5) 220 0 t (msk (pMask prog 220 t) [vr 5, vi x1, vj]) [vj] σ1)) := by
  rw [b220_0]
  try simp +decide only [b220_1, b220_3, b220_2, b220_4, b220_5, callK_r, callK_x, psh_s, psh_n, hk_0, hk_1, hk_2, hk_3, hk_4, callK_ite, bit_bi, bit_0, bit_1, eq_self, reduceIte, Int.reduceEq, Int.reduceLT, Int.reduceNeg, Nat.reduceEqDiff, ne_eq, not_false_eq_true, pu_k, mset_k, mset_j, mset_at, va_pu, va_mset, Int.reduceToNat, Int.reduceLE, and_self, true_and, and_true]
  all_goals (try rfl)
  all_goals (repeat' split)
  all_goals first | rfl | simp_all
theorem g220_1 (d : Nat) (x1 : Int) (s0 : Int) (M : mM) : ev prog (d + 5) 220 0 1 [vr 5, vi x1, vj] [vi s0] (shp, M) = if x1 < 0 then some (.inr 2, (shp, M)) else (if x1 < s0 then some (.inl (some (vi (r30 x1 M))), (shp, M)) else some (.inr 2, (shp, M))) := by
  rw [b220_1]
  try simp +decide only [b220_0, b220_3, b220_2, b220_4, b220_5, s30, callK_r, callK_x, psh_s, psh_n, hk_0, hk_1, hk_2, hk_3, hk_4, callK_ite, bit_bi, bit_0, bit_1, eq_self, reduceIte, Int.reduceEq, Int.reduceLT, Int.reduceNeg, Nat.reduceEqDiff, ne_eq, not_false_eq_true, pu_k, mset_k, mset_j, mset_at, va_pu, va_mset, Int.reduceToNat, Int.reduceLE, and_self, true_and, and_true]
  all_goals (try rfl)
  all_goals (repeat' split)
  all_goals first | rfl | simp_all
theorem g222_0 (d : Nat) (x1 : Int) (M : mM) : ev prog (d + 7) 222 0 0 [vr 87, vi x1, vj] [] (shp, M) = ev prog (d + 7) 222 0 1 [vr 87, vi x1, vi 0] [] (shp, mset M 87 3 0) := by
  rw [b222_0]
  try simp +decide only [b222_2, b222_9, b222_3, b222_10, b222_4, b222_8, b222_5, b222_6, b222_7, callK_r, callK_x, psh_s, psh_n, hk_0, hk_1, hk_2, hk_3, hk_4, callK_ite, bit_bi, bit_0, bit_1, eq_self, reduceIte, Int.reduceEq, Int.reduceLT, Int.reduceNeg, Nat.reduceEqDiff, ne_eq, not_false_eq_true, pu_k, mset_k, mset_j, mset_at, va_pu, va_mset, Int.reduceToNat, Int.reduceLE, and_self, true_and, and_true]
  all_goals (try rfl)
  all_goals (repeat' split)
  all_goals first | rfl | simp_all
