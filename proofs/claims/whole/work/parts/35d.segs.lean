/-! FROM CUT TO CUT, 3 -/
theorem g222_1 (d : Nat) (x1 : Int) (x2 : Int) (M : mM) : ev prog (d + 7) 222 0 1 [vr 87, vi x1, vi x2] [] (shp, M) = if x2 < (M 88 2001) then callK (run prog (d + 6) 217 [vr 87, vi x2] (shp, M)) (fun v σ1 => ev prog (d + 7) 222 0 4 [vr 87, vi x1, vi x2] (psh v []) σ1) (fun e σ1 => hk [0, 0, 0, 0, 0] e σ1 (fun t => ev prog (d + 7) 222 0 t (msk (pMask prog 222 t) [vr 87, vi x1, vi x2]) [vj] σ1)) else some (.inl (some (vi 0)), (shp, mset M 87 3 1)) := by
  rw [b222_1]
  try simp +decide only [b222_0, b222_2, b222_9, b222_3, b222_10, b222_4, b222_8, b222_5, b222_6, b222_7, s53, o53, callK_r, callK_x, psh_s, psh_n, hk_0, hk_1, hk_2, hk_3, hk_4, callK_ite, bit_bi, bit_0, bit_1, eq_self, reduceIte, Int.reduceEq, Int.reduceLT, Int.reduceNeg, Nat.reduceEqDiff, ne_eq, not_false_eq_true, pu_k, mset_k, mset_j, mset_at, va_pu, va_mset, Int.reduceToNat, Int.reduceLE, and_self, true_and, and_true]
  all_goals (try rfl)
  all_goals (repeat' split)
  all_goals first | rfl | simp_all
theorem g222_4 (d : Nat) (x1 : Int) (x2 : Int) (s0 : Int) (M : mM) : ev prog (d + 7) 222 0 4 [vr 87, vi x1, vi x2] [vi s0] (shp, M) = if s0 = 0 then ev prog (d + 7) 222 0 1 [vr 87, vi x1, vi (wr (x2 + 1))] [] (shp, M) else callK (run prog (d + 6) 218 [vr 87, vi x2] (shp, M)) (fun v σ1 => ev prog (d + 7) 222 0 6 [vr 87, vi x1, vi x2] (psh v []) σ1) (fun e σ1 => hk [0, 0, 0, 0, 0] e σ1 (fun t => ev prog (d + 7) 222 0 t (msk (pMask prog 222 t) [vr 87, vi x1, vi x2]) [vj] σ1)) := by
  rw [b222_4]
  try simp +decide only [b222_0, b222_2, b222_9, b222_3, b222_10, b222_8, b222_5, b222_6, b222_7, callK_r, callK_x, psh_s, psh_n, hk_0, hk_1, hk_2, hk_3, hk_4, callK_ite, bit_bi, bit_0, bit_1, eq_self, reduceIte, Int.reduceEq, Int.reduceLT, Int.reduceNeg, Nat.reduceEqDiff, ne_eq, not_false_eq_true, pu_k, mset_k, mset_j, mset_at, va_pu, va_mset, Int.reduceToNat, Int.reduceLE, and_self, true_and, and_true]
  all_goals (try rfl)
  all_goals (repeat' split)
  all_goals first | rfl | simp_all
theorem g222_6 (d : Nat) (x1 : Int) (x2 : Int) (s0 : Int) (M : mM) : ev prog (d + 7) 222 0 6 [vr 87, vi x1, vi x2] [vi s0] (shp, M) = if s0 = x1 then some (.inl (some (vi x2)), (shp, M)) else ev prog (d + 7) 222 0 1 [vr 87, vi x1, vi (wr (x2 + 1))] [] (shp, M) := by
  rw [b222_6]
  try simp +decide only [b222_0, b222_2, b222_9, b222_3, b222_10, b222_4, b222_8, b222_5, b222_7, callK_r, callK_x, psh_s, psh_n, hk_0, hk_1, hk_2, hk_3, hk_4, callK_ite, bit_bi, bit_0, bit_1, eq_self, reduceIte, Int.reduceEq, Int.reduceLT, Int.reduceNeg, Nat.reduceEqDiff, ne_eq, not_false_eq_true, pu_k, mset_k, mset_j, mset_at, va_pu, va_mset, Int.reduceToNat, Int.reduceLE, and_self, true_and, and_true]
  all_goals (try rfl)
  all_goals (repeat' split)
  all_goals first | rfl | simp_all
theorem g223_0 (d : Nat) (M : mM) : ev prog (d + 3) 223 0 0 [vr 72, vj, vj] [] (shp, M) = ev prog (d + 3) 223 0 1 [vr 72, vi 0, vi 0] [] (shp, M) := by
  rw [b223_0]
  try simp +decide only [b223_5, b223_2, b223_3, b223_4, callK_r, callK_x, psh_s, psh_n, hk_0, hk_1, hk_2, hk_3, hk_4, callK_ite, bit_bi, bit_0, bit_1, eq_self, reduceIte, Int.reduceEq, Int.reduceLT, Int.reduceNeg, Nat.reduceEqDiff, ne_eq, not_false_eq_true, pu_k, mset_k, mset_j, mset_at, va_pu, va_mset, Int.reduceToNat, Int.reduceLE, and_self, true_and, and_true]
  all_goals (try rfl)
  all_goals (repeat' split)
  all_goals first | rfl | simp_all
theorem g223_1 (d : Nat) (x1 : Int) (x2 : Int) (M : mM) : ev prog (d + 3) 223 0 1 [vr 72, vi x1, vi x2] [] (shp, M) = if x2 < (M 73 1) then ev prog (d + 3) 223 0 1 [vr 72, vi (wr (x1 + (va M 9 200 (r30 x2 M)))), vi (wr (x2 + 1))] [] (shp, M) else some (.inl (some (vi x1)), (shp, M)) := by
  rw [b223_1]
  try simp +decide only [b223_0, b223_5, b223_2, b223_3, b223_4, s30, va_9, callK_r, callK_x, psh_s, psh_n, hk_0, hk_1, hk_2, hk_3, hk_4, callK_ite, bit_bi, bit_0, bit_1, eq_self, reduceIte, Int.reduceEq, Int.reduceLT, Int.reduceNeg, Nat.reduceEqDiff, ne_eq, not_false_eq_true, pu_k, mset_k, mset_j, mset_at, va_pu, va_mset, Int.reduceToNat, Int.reduceLE, and_self, true_and, and_true]
  all_goals (try rfl)
  all_goals (repeat' split)
  all_goals first | rfl | simp_all
theorem g224_0 (d : Nat) (M : mM) : ev prog (d + 5) 224 0 0 [vr 5] [] (shp, M) = callK (run prog (d + 4) 215 [vr 72] (shp, M)) (fun v σ1 => ev prog (d + 5) 224 0 1 [vr 5] (psh v []) σ1) (fun e σ1 => hk [0, 0, 0, 0, 0] e σ1 (fun t => ev prog (d + 5) 224 0 t (msk (pMask prog 224 t) [vr 5]) [vj] σ1)) := by
  rw [b224_0]
  try simp +decide only [b224_1, b224_2, callK_r, callK_x, psh_s, psh_n, hk_0, hk_1, hk_2, hk_3, hk_4, callK_ite, bit_bi, bit_0, bit_1, eq_self, reduceIte, Int.reduceEq, Int.reduceLT, Int.reduceNeg, Nat.reduceEqDiff, ne_eq, not_false_eq_true, pu_k, mset_k, mset_j, mset_at, va_pu, va_mset, Int.reduceToNat, Int.reduceLE, and_self, true_and, and_true]
  all_goals (try rfl)
  all_goals (repeat' split)
  all_goals first | rfl | simp_all
theorem g224_1 (d : Nat) (s0 : Int) (M : mM) : ev prog (d + 5) 224 0 1 [vr 5] [vi s0] (shp, M) = callK (run prog (d + 4) 223 [vr 72] (shp, M)) (fun v σ1 => ev prog (d + 5) 224 0 2 [vj] (psh v []) σ1) (fun e σ1 => hk [0, 0, 0, 0, 0] e σ1 (fun t => ev prog (d + 5) 224 0 t (msk (pMask prog 224 t) [vr 5]) [vj] σ1)) := by
  rw [b224_1]
  try simp +decide only [b224_0, b224_2, callK_r, callK_x, psh_s, psh_n, hk_0, hk_1, hk_2, hk_3, hk_4, callK_ite, bit_bi, bit_0, bit_1, eq_self, reduceIte, Int.reduceEq, Int.reduceLT, Int.reduceNeg, Nat.reduceEqDiff, ne_eq, not_false_eq_true, pu_k, mset_k, mset_j, mset_at, va_pu, va_mset, Int.reduceToNat, Int.reduceLE, and_self, true_and, and_true]
  all_goals (try rfl)
  all_goals (repeat' split)
  all_goals first | rfl | simp_all
theorem g224_2 (d : Nat) (s0 : Int) (M : mM) : ev prog (d + 5) 224 0 2 [vj] [vi s0] (shp, M) = some (.inl (some (vi s0)), (shp, M)) := by
  rw [b224_2]
  try simp +decide only [b224_0, b224_1, callK_r, callK_x, psh_s, psh_n, hk_0, hk_1, hk_2, hk_3, hk_4, callK_ite, bit_bi, bit_0, bit_1, eq_self, reduceIte, Int.reduceEq, Int.reduceLT, Int.reduceNeg, Nat.reduceEqDiff, ne_eq, not_false_eq_true, pu_k, mset_k, mset_j, mset_at, va_pu, va_mset, Int.reduceToNat, Int.reduceLE, and_self, true_and, and_true]
  all_goals (try rfl)
  all_goals (repeat' split)
  all_goals first | rfl | simp_all
theorem g225_0 (d : Nat) (M : mM) : ev prog (d + 6) 225 0 0 [vr 87, vj, vj] [] (shp, M) = ev prog (d + 6) 225 0 1 [vr 87, vi 0, vi 0] [] (shp, M) := by
  rw [b225_0]
  try simp +decide only [b225_2, b225_9, b225_3, b225_4, b225_7, b225_5, b225_8, b225_6, callK_r, callK_x, psh_s, psh_n, hk_0, hk_1, hk_2, hk_3, hk_4, callK_ite, bit_bi, bit_0, bit_1, eq_self, reduceIte, Int.reduceEq, Int.reduceLT, Int.reduceNeg, Nat.reduceEqDiff, ne_eq, not_false_eq_true, pu_k, mset_k, mset_j, mset_at, va_pu, va_mset, Int.reduceToNat, Int.reduceLE, and_self, true_and, and_true]
  all_goals (try rfl)
  all_goals (repeat' split)
  all_goals first | rfl | simp_all
theorem g225_1 (d : Nat) (x1 : Int) (x2 : Int) (M : mM) : ev prog (d + 6) 225 0 1 [vr 87, vi x1, vi x2] [] (shp, M) = if x2 < (M 88 2001) then callK (run prog (d + 5) 217 [vr 87, vi x2] (shp, M)) (fun v σ1 => ev prog (d + 6) 225 0 4 [vr 87, vj, vi x2] (psh v [vi x1]) σ1) (fun e σ1 => hk [0, 0, 0, 0, 0] e σ1 (fun t => ev prog (d + 6) 225 0 t (msk (pMask prog 225 t) [vr 87, vi x1, vi x2]) [vj] σ1)) else some (.inl (some (vi x1)), (shp, M)) := by
  rw [b225_1]
  try simp +decide only [b225_0, b225_2, b225_9, b225_3, b225_4, b225_7, b225_5, b225_8, b225_6, callK_r, callK_x, psh_s, psh_n, hk_0, hk_1, hk_2, hk_3, hk_4, callK_ite, bit_bi, bit_0, bit_1, eq_self, reduceIte, Int.reduceEq, Int.reduceLT, Int.reduceNeg, Nat.reduceEqDiff, ne_eq, not_false_eq_true, pu_k, mset_k, mset_j, mset_at, va_pu, va_mset, Int.reduceToNat, Int.reduceLE, and_self, true_and, and_true]
  all_goals (try rfl)
  all_goals (repeat' split)
  all_goals first | rfl | simp_all
theorem g225_4 (d : Nat) (x2 : Int) (s0 : Int) (s1 : Int) (M : mM) : ev prog (d + 6) 225 0 4 [vr 87, vj, vi x2] [vi s1, vi s0] (shp, M) = if s1 = 0 then ev prog (d + 6) 225 0 1 [vr 87, vi (wr (s0 + 0)), vi (wr (x2 + 1))] [] (shp, M) else (if 0 ≤ (wr (600 + x2)) ∧ (wr (600 + x2)) < 2031 then ev prog (d + 6) 225 0 1 [vr 87, vi (wr (s0 + (M 88 (Int.toNat (wr (600 + x2)))))), vi (wr (x2 + 1))] [] (shp, M) else none) := by
  rw [b225_4]
  try simp +decide only [b225_0, b225_2, b225_9, b225_3, b225_7, b225_5, b225_8, b225_6, callK_r, callK_x, psh_s, psh_n, hk_0, hk_1, hk_2, hk_3, hk_4, callK_ite, bit_bi, bit_0, bit_1, eq_self, reduceIte, Int.reduceEq, Int.reduceLT, Int.reduceNeg, Nat.reduceEqDiff, ne_eq, not_false_eq_true, pu_k, mset_k, mset_j, mset_at, va_pu, va_mset, Int.reduceToNat, Int.reduceLE, and_self, true_and, and_true]
  all_goals (try rfl)
  all_goals (repeat' split)
  all_goals first | rfl | simp_all
theorem g226_0 (d : Nat) (M : mM) : ev prog (d + 7) 226 0 0 [vr 87] [] (shp, M) = callK (run prog (d + 6) 225 [vr 87] (shp, mset M 87 3 0)) (fun v σ1 => ev prog (d + 7) 226 0 1 [vj] (psh v []) σ1) (fun e σ1 => hk [0, 0, 0, 0, 0] e σ1 (fun t => ev prog (d + 7) 226 0 t (msk (pMask prog 226 t) [vr 87]) [vj] σ1)) := by
  rw [b226_0]
  try simp +decide only [b226_1, callK_r, callK_x, psh_s, psh_n, hk_0, hk_1, hk_2, hk_3, hk_4, callK_ite, bit_bi, bit_0, bit_1, eq_self, reduceIte, Int.reduceEq, Int.reduceLT, Int.reduceNeg, Nat.reduceEqDiff, ne_eq, not_false_eq_true, pu_k, mset_k, mset_j, mset_at, va_pu, va_mset, Int.reduceToNat, Int.reduceLE, and_self, true_and, and_true]
  all_goals (try rfl)
  all_goals (repeat' split)
  all_goals first | rfl | simp_all
theorem g226_1 (d : Nat) (s0 : Int) (M : mM) : ev prog (d + 7) 226 0 1 [vj] [vi s0] (shp, M) = some (.inl (some (vi s0)), (shp, M)) := by
  rw [b226_1]
  try simp +decide only [b226_0, callK_r, callK_x, psh_s, psh_n, hk_0, hk_1, hk_2, hk_3, hk_4, callK_ite, bit_bi, bit_0, bit_1, eq_self, reduceIte, Int.reduceEq, Int.reduceLT, Int.reduceNeg, Nat.reduceEqDiff, ne_eq, not_false_eq_true, pu_k, mset_k, mset_j, mset_at, va_pu, va_mset, Int.reduceToNat, Int.reduceLE, and_self, true_and, and_true]
  all_goals (try rfl)
  all_goals (repeat' split)
  all_goals first | rfl | simp_all
theorem g227_0 (d : Nat) (x1 : Int) (M : mM) : ev prog (d + 3) 227 0 0 [vr 72, vi x1, vj, vj, vj] [] (shp, M) = ev prog (d + 3) 227 0 1 [vr 72, vi x1, vi 0, vi 0, vj] [] (shp, M) := by
  rw [b227_0]
  try simp +decide only [b227_6, b227_2, b227_3, b227_4, b227_5, callK_r, callK_x, psh_s, psh_n, hk_0, hk_1, hk_2, hk_3, hk_4, callK_ite, bit_bi, bit_0, bit_1, eq_self, reduceIte, Int.reduceEq, Int.reduceLT, Int.reduceNeg, Nat.reduceEqDiff, ne_eq, not_false_eq_true, pu_k, mset_k, mset_j, mset_at, va_pu, va_mset, Int.reduceToNat, Int.reduceLE, and_self, true_and, and_true]
  all_goals (try rfl)
  all_goals (repeat' split)
  all_goals first | rfl | simp_all
theorem g227_1 (d : Nat) (x1 : Int) (x2 : Int) (x3 : Int) (M : mM) : ev prog (d + 3) 227 0 1 [vr 72, vi x1, vi x2, vi x3, vj] [] (shp, M) = if x3 < (M 73 1) then ev prog (d + 3) 227 0 1 [vr 72, vi x1, vi (wr (x2 + (wr ((r20 (r30 x3 M) x1 M) * (va M 9 200 (r30 x3 M)))))), vi (wr (x3 + 1)), vj] [] (shp, M) else some (.inl (some (vi x2)), (shp, M)) := by
  rw [b227_1]
  try simp +decide only [b227_0, b227_6, b227_2, b227_3, b227_4, b227_5, s30, s20, va_9, callK_r, callK_x, psh_s, psh_n, hk_0, hk_1, hk_2, hk_3, hk_4, callK_ite, bit_bi, bit_0, bit_1, eq_self, reduceIte, Int.reduceEq, Int.reduceLT, Int.reduceNeg, Nat.reduceEqDiff, ne_eq, not_false_eq_true, pu_k, mset_k, mset_j, mset_at, va_pu, va_mset, Int.reduceToNat, Int.reduceLE, and_self, true_and, and_true]
  all_goals (try rfl)
  all_goals (repeat' split)
  all_goals first | rfl | simp_all
theorem g228_0 (d : Nat) (x1 : Int) (M : mM) : ev prog (d + 5) 228 0 0 [vr 5, vi x1, vj] [] (shp, M) = if x1 < 0 then some (.inr 0, (shp, M)) else (if x1 < 3 then callK (run prog (d + 4) 215 [vr 72] (shp, M)) (fun v σ1 => ev prog (d + 5) 228 1 2 [vr 5, vi x1, vj] (psh v []) σ1) (fun e σ1 => hk [0, 0, 0, 0, 0] e σ1 (fun t => ev prog (d + 5) 228 1 t (msk (pMask prog 228 t) [vr 5, vi x1, vj]) [vj] σ1)) else some (.inr 0, (shp, M))) := by
  rw [b228_0]
  try simp +decide only [b228_1, b228_2, b228_3, b228_5, b228_4, b228_6, b228_7, s80, o80, callK_r, callK_x, psh_s, psh_n, hk_0, hk_1, hk_2, hk_3, hk_4, callK_ite, bit_bi, bit_0, bit_1, eq_self, reduceIte, Int.reduceEq, Int.reduceLT, Int.reduceNeg, Nat.reduceEqDiff, ne_eq, not_false_eq_true, pu_k, mset_k, mset_j, mset_at, va_pu, va_mset, Int.reduceToNat, Int.reduceLE, and_self, true_and, and_true]
  all_goals (try rfl)
  all_goals (repeat' split)
  all_goals first | rfl | simp_all
theorem g228_2 (d : Nat) (x1 : Int) (s0 : Int) (M : mM) : ev prog (d + 5) 228 1 2 [vr 5, vi x1, vj] [vi s0] (shp, M) = callK (run prog (d + 4) 223 [vr 72] (shp, M)) (fun v σ1 => ev prog (d + 5) 228 1 3 [vr 5, vi x1, vj] (psh v []) σ1) (fun e σ1 => hk [0, 0, 0, 0, 0] e σ1 (fun t => ev prog (d + 5) 228 1 t (msk (pMask prog 228 t) [vr 5, vi x1, vj]) [vj] σ1)) := by
  rw [b228_2]
  try simp +decide only [b228_0, b228_1, b228_3, b228_5, b228_4, b228_6, b228_7, callK_r, callK_x, psh_s, psh_n, hk_0, hk_1, hk_2, hk_3, hk_4, callK_ite, bit_bi, bit_0, bit_1, eq_self, reduceIte, Int.reduceEq, Int.reduceLT, Int.reduceNeg, Nat.reduceEqDiff, ne_eq, not_false_eq_true, pu_k, mset_k, mset_j, mset_at, va_pu, va_mset, Int.reduceToNat, Int.reduceLE, and_self, true_and, and_true]
  all_goals (try rfl)
  all_goals (repeat' split)
  all_goals first | rfl | simp_all
theorem g228_3 (d : Nat) (x1 : Int) (s0 : Int) (M : mM) : ev prog (d + 5) 228 1 3 [vr 5, vi x1, vj] [vi s0] (shp, M) = if s0 = 0 then some (.inr 4, (shp, M)) else callK (run prog (d + 4) 227 [vr 72, vi x1] (shp, M)) (fun v σ1 => ev prog (d + 5) 228 1 6 [vj, vj, vi s0] (psh v []) σ1) (fun e σ1 => hk [0, 0, 0, 0, 0] e σ1 (fun t => ev prog (d + 5) 228 1 t (msk (pMask prog 228 t) [vr 5, vi x1, vi s0]) [vj] σ1)) := by
  rw [b228_3]
  try simp +decide only [b228_0, b228_1, b228_2, b228_5, b228_4, b228_6, b228_7, callK_r, callK_x, psh_s, psh_n, hk_0, hk_1, hk_2, hk_3, hk_4, callK_ite, bit_bi, bit_0, bit_1, eq_self, reduceIte, Int.reduceEq, Int.reduceLT, Int.reduceNeg, Nat.reduceEqDiff, ne_eq, not_false_eq_true, pu_k, mset_k, mset_j, mset_at, va_pu, va_mset, Int.reduceToNat, Int.reduceLE, and_self, true_and, and_true]
  all_goals (try rfl)
  all_goals (repeat' split)
  all_goals first | rfl | simp_all
theorem g228_6 (d : Nat) (x2 : Int) (s0 : Int) (M : mM) : ev prog (d + 5) 228 1 6 [vj, vj, vi x2] [vi s0] (shp, M) = if nn64 (FP.ddiv (FP.i2d (Int32.ofInt s0)) (FP.i2d (Int32.ofInt x2))) = true then some (.inl (some (vd (FP.ddiv (FP.i2d (Int32.ofInt s0)) (FP.i2d (Int32.ofInt x2))))), (shp, M)) else none := by
  rw [b228_6]
  try simp +decide only [b228_0, b228_1, b228_2, b228_3, b228_5, b228_4, b228_7, callK_r, callK_x, psh_s, psh_n, hk_0, hk_1, hk_2, hk_3, hk_4, callK_ite, bit_bi, bit_0, bit_1, eq_self, reduceIte, Int.reduceEq, Int.reduceLT, Int.reduceNeg, Nat.reduceEqDiff, ne_eq, not_false_eq_true, pu_k, mset_k, mset_j, mset_at, va_pu, va_mset, Int.reduceToNat, Int.reduceLE, and_self, true_and, and_true]
  all_goals (try rfl)
  all_goals (repeat' split)
  all_goals first | rfl | simp_all
theorem g230_0 (d : Nat) (x1 : Int) (M : mM) : ev prog (d + 7) 230 0 0 [vr 87, vi x1, vj, vj, vj] [] (shp, M) = if (bi (p83 x1 (mset M 87 3 0))) = 0 then some (.inl (some (vd FP.dconst0)), (shp, mset (mset M 87 3 0) 87 3 1)) else callK (run prog (d + 6) 225 [vr 87] (shp, mset M 87 3 0)) (fun v σ1 => ev prog (d + 7) 230 0 4 [vr 87, vi x1, vj, vj, vj] (psh v []) σ1) (fun e σ1 => hk [0, 0, 0, 0, 0] e σ1 (fun t => ev prog (d + 7) 230 0 t (msk (pMask prog 230 t) [vr 87, vi x1, vj, vj, vj]) [vj] σ1)) := by
  rw [b230_0]
  try simp +decide only [b230_1, b230_3, b230_2, b230_4, b230_6, b230_5, b230_8, b230_16, b230_9, b230_17, b230_10, b230_14, b230_11, b230_15, b230_12, b230_13, s83, callK_r, callK_x, psh_s, psh_n, hk_0, hk_1, hk_2, hk_3, hk_4, callK_ite, bit_bi, bit_0, bit_1, eq_self, reduceIte, Int.reduceEq, Int.reduceLT, Int.reduceNeg, Nat.reduceEqDiff, ne_eq, not_false_eq_true, pu_k, mset_k, mset_j, mset_at, va_pu, va_mset, Int.reduceToNat, Int.reduceLE, and_self, true_and, and_true]
  all_goals (try rfl)
  all_goals (repeat' split)
  all_goals first | rfl | simp_all
theorem g230_4 (d : Nat) (x1 : Int) (s0 : Int) (M : mM) : ev prog (d + 7) 230 0 4 [vr 87, vi x1, vj, vj, vj] [vi s0] (shp, M) = if s0 = 0 then some (.inl (some (vd FP.dconst0)), (shp, mset M 87 3 2)) else ev prog (d + 7) 230 0 7 [vr 87, vi x1, vi s0, vi 0, vi 0] [] (shp, M) := by
  rw [b230_4]
  try simp +decide only [b230_0, b230_1, b230_3, b230_2, b230_6, b230_5, b230_8, b230_16, b230_9, b230_17, b230_10, b230_14, b230_11, b230_15, b230_12, b230_13, callK_r, callK_x, psh_s, psh_n, hk_0, hk_1, hk_2, hk_3, hk_4, callK_ite, bit_bi, bit_0, bit_1, eq_self, reduceIte, Int.reduceEq, Int.reduceLT, Int.reduceNeg, Nat.reduceEqDiff, ne_eq, not_false_eq_true, pu_k, mset_k, mset_j, mset_at, va_pu, va_mset, Int.reduceToNat, Int.reduceLE, and_self, true_and, and_true]
  all_goals (try rfl)
  all_goals (repeat' split)
  all_goals first | rfl | simp_all
theorem g230_7 (d : Nat) (x1 : Int) (x2 : Int) (x3 : Int) (x4 : Int) (M : mM) : ev prog (d + 7) 230 0 7 [vr 87, vi x1, vi x2, vi x3, vi x4] [] (shp, M) = if x4 < (M 88 2001) then callK (run prog (d + 6) 217 [vr 87, vi x4] (shp, M)) (fun v σ1 => ev prog (d + 7) 230 0 10 [vr 87, vi x1, vi x2, vj, vi x4] (psh v [vi x3]) σ1) (fun e σ1 => hk [0, 0, 0, 0, 0] e σ1 (fun t => ev prog (d + 7) 230 0 t (msk (pMask prog 230 t) [vr 87, vi x1, vi x2, vi x3, vi x4]) [vj] σ1)) else (if nn64 (FP.ddiv (FP.i2d (Int32.ofInt x3)) (FP.i2d (Int32.ofInt x2))) = true then some (.inl (some (vd (FP.ddiv (FP.i2d (Int32.ofInt x3)) (FP.i2d (Int32.ofInt x2))))), (shp, M)) else none) := by
  rw [b230_7]
  try simp +decide only [b230_0, b230_1, b230_3, b230_2, b230_4, b230_6, b230_5, b230_8, b230_16, b230_9, b230_17, b230_10, b230_14, b230_11, b230_15, b230_12, b230_13, callK_r, callK_x, psh_s, psh_n, hk_0, hk_1, hk_2, hk_3, hk_4, callK_ite, bit_bi, bit_0, bit_1, eq_self, reduceIte, Int.reduceEq, Int.reduceLT, Int.reduceNeg, Nat.reduceEqDiff, ne_eq, not_false_eq_true, pu_k, mset_k, mset_j, mset_at, va_pu, va_mset, Int.reduceToNat, Int.reduceLE, and_self, true_and, and_true]
  all_goals (try rfl)
  all_goals (repeat' split)
  all_goals first | rfl | simp_all
theorem g230_10 (d : Nat) (x1 : Int) (x2 : Int) (x4 : Int) (s0 : Int) (s1 : Int) (M : mM) : ev prog (d + 7) 230 0 10 [vr 87, vi x1, vi x2, vj, vi x4] [vi s1, vi s0] (shp, M) = if s1 = 0 then ev prog (d + 7) 230 0 7 [vr 87, vi x1, vi x2, vi (wr (s0 + 0)), vi (wr (x4 + 1))] [] (shp, M) else (if 0 ≤ (wr (600 + x4)) ∧ (wr (600 + x4)) < 2031 then (if 0 ≤ (wr ((wr (3 * x4)) + x1)) ∧ (wr ((wr (3 * x4)) + x1)) < 2031 then ev prog (d + 7) 230 0 7 [vr 87, vi x1, vi x2, vi (wr (s0 + (wr ((M 88 (Int.toNat (wr (600 + x4)))) * (M 88 (Int.toNat (wr ((wr (3 * x4)) + x1)))))))), vi (wr (x4 + 1))] [] (shp, M) else none) else none) := by
  rw [b230_10]
  try simp +decide only [b230_0, b230_1, b230_3, b230_2, b230_4, b230_6, b230_5, b230_8, b230_16, b230_9, b230_17, b230_14, b230_11, b230_15, b230_12, b230_13, callK_r, callK_x, psh_s, psh_n, hk_0, hk_1, hk_2, hk_3, hk_4, callK_ite, bit_bi, bit_0, bit_1, eq_self, reduceIte, Int.reduceEq, Int.reduceLT, Int.reduceNeg, Nat.reduceEqDiff, ne_eq, not_false_eq_true, pu_k, mset_k, mset_j, mset_at, va_pu, va_mset, Int.reduceToNat, Int.reduceLE, and_self, true_and, and_true]
  all_goals (try rfl)
  all_goals (repeat' split)
  all_goals first | rfl | simp_all
theorem g232_0 (d : Nat) (x1 : Int) (M : mM) : ev prog (d + 3) 232 0 0 [vr 72, vi x1, vj, vj, vj] [] (shp, M) = if (r34 x1 M) = 0 then some (.inl (some (vi 0)), (shp, M)) else ev prog (d + 3) 232 0 4 [vr 72, vi x1, vi 0, vj, vj] [] (shp, M) := by
  rw [b232_0]
  try simp +decide only [b232_1, b232_3, b232_2, b232_12, b232_5, b232_6, b232_7, b232_8, b232_9, b232_11, b232_10, s34, callK_r, callK_x, psh_s, psh_n, hk_0, hk_1, hk_2, hk_3, hk_4, callK_ite, bit_bi, bit_0, bit_1, eq_self, reduceIte, Int.reduceEq, Int.reduceLT, Int.reduceNeg, Nat.reduceEqDiff, ne_eq, not_false_eq_true, pu_k, mset_k, mset_j, mset_at, va_pu, va_mset, Int.reduceToNat, Int.reduceLE, and_self, true_and, and_true]
  all_goals (try rfl)
  all_goals (repeat' split)
  all_goals first | rfl | simp_all
theorem g232_4 (d : Nat) (x1 : Int) (x2 : Int) (M : mM) : ev prog (d + 3) 232 0 4 [vr 72, vi x1, vi x2, vj, vj] [] (shp, M) = if x2 < 3 then (if (if (va M 37 3 x2) < (r36 x1 x2 M) then (va M 37 3 x2) else (r36 x1 x2 M)) < (if (r35 x1 x2 M) < (va M 36 3 x2) then (va M 36 3 x2) else (r35 x1 x2 M)) then some (.inl (some (vi 0)), (shp, M)) else ev prog (d + 3) 232 0 4 [vr 72, vi x1, vi (wr (x2 + 1)), vj, vj] [] (shp, M)) else some (.inl (some (vi 1)), (shp, M)) := by
  rw [b232_4]
  try simp +decide only [b232_0, b232_1, b232_3, b232_2, b232_12, b232_5, b232_6, b232_7, b232_8, b232_9, b232_11, b232_10, s36, s35, va_36, va_37, callK_r, callK_x, psh_s, psh_n, hk_0, hk_1, hk_2, hk_3, hk_4, callK_ite, bit_bi, bit_0, bit_1, eq_self, reduceIte, Int.reduceEq, Int.reduceLT, Int.reduceNeg, Nat.reduceEqDiff, ne_eq, not_false_eq_true, pu_k, mset_k, mset_j, mset_at, va_pu, va_mset, Int.reduceToNat, Int.reduceLE, and_self, true_and, and_true]
  all_goals (try rfl)
  all_goals (repeat' split)
  all_goals first | rfl | simp_all
theorem g233_0 (d : Nat) (M : mM) : ev prog (d + 4) 233 0 0 [vr 72, vj, vj] [] (shp, M) = callK (run prog (d + 3) 231 [vr 77, vi (M 12 11)] (shp, mset M 77 1 0)) (fun v σ1 => ev prog (d + 4) 233 0 2 [vr 72, vj, vj] (psh v []) σ1) (fun e σ1 => hk [0, 0, 0, 0, 0] e σ1 (fun t => ev prog (d + 4) 233 0 t (msk (pMask prog 233 t) [vr 72, vj, vj]) [vj] σ1)) := by
  rw [b233_0]
  try simp +decide only [b233_1, b233_2, b233_13, b233_4, b233_5, b233_6, b233_7, b233_12, b233_8, b233_9, b233_10, b233_11, s24a, o24a, callK_r, callK_x, psh_s, psh_n, hk_0, hk_1, hk_2, hk_3, hk_4, callK_ite, bit_bi, bit_0, bit_1, eq_self, reduceIte, Int.reduceEq, Int.reduceLT, Int.reduceNeg, Nat.reduceEqDiff, ne_eq, not_false_eq_true, pu_k, mset_k, mset_j, mset_at, va_pu, va_mset, Int.reduceToNat, Int.reduceLE, and_self, true_and, and_true]
  all_goals (try rfl)
  all_goals (repeat' split)
  all_goals first | rfl | simp_all
theorem g233_2 (d : Nat) (M : mM) : ev prog (d + 4) 233 0 2 [vr 72, vj, vj] [] (shp, M) = ev prog (d + 4) 233 0 3 [vr 72, vi 0, vj] [] (shp, M) := by
  rw [b233_2]
  try simp +decide only [b233_0, b233_1, b233_13, b233_4, b233_5, b233_6, b233_7, b233_12, b233_8, b233_9, b233_10, b233_11, callK_r, callK_x, psh_s, psh_n, hk_0, hk_1, hk_2, hk_3, hk_4, callK_ite, bit_bi, bit_0, bit_1, eq_self, reduceIte, Int.reduceEq, Int.reduceLT, Int.reduceNeg, Nat.reduceEqDiff, ne_eq, not_false_eq_true, pu_k, mset_k, mset_j, mset_at, va_pu, va_mset, Int.reduceToNat, Int.reduceLE, and_self, true_and, and_true]
  all_goals (try rfl)
  all_goals (repeat' split)
  all_goals first | rfl | simp_all
theorem g233_3 (d : Nat) (x1 : Int) (M : mM) : ev prog (d + 4) 233 0 3 [vr 72, vi x1, vj] [] (shp, M) = if x1 < 200 then (if x1 < (M 77 1) then callK (run prog (d + 3) 232 [vr 72, vi (r30a x1 M)] (shp, M)) (fun v σ1 => ev prog (d + 4) 233 0 7 [vr 72, vi x1, vi (r30a x1 M)] (psh v []) σ1) (fun e σ1 => hk [0, 0, 0, 0, 0] e σ1 (fun t => ev prog (d + 4) 233 0 t (msk (pMask prog 233 t) [vr 72, vi x1, vi (r30a x1 M)]) [vj] σ1)) else some (.inl (some (vi (M 77 1))), (shp, M))) else some (.inl (some (vi (M 77 1))), (shp, M)) := by
  rw [b233_3]
  try simp +decide only [b233_0, b233_1, b233_2, b233_13, b233_4, b233_5, b233_6, b233_7, b233_12, b233_8, b233_9, b233_10, b233_11, s30a, callK_r, callK_x, psh_s, psh_n, hk_0, hk_1, hk_2, hk_3, hk_4, callK_ite, bit_bi, bit_0, bit_1, eq_self, reduceIte, Int.reduceEq, Int.reduceLT, Int.reduceNeg, Nat.reduceEqDiff, ne_eq, not_false_eq_true, pu_k, mset_k, mset_j, mset_at, va_pu, va_mset, Int.reduceToNat, Int.reduceLE, and_self, true_and, and_true]
  all_goals (try rfl)
  all_goals (repeat' split)
  all_goals first | rfl | simp_all
theorem g233_7 (d : Nat) (x1 : Int) (x2 : Int) (s0 : Int) (M : mM) : ev prog (d + 4) 233 0 7 [vr 72, vi x1, vi x2] [vi s0] (shp, M) = if s0 = 0 then ev prog (d + 4) 233 0 3 [vr 72, vi (wr (x1 + 1)), vj] [] (shp, M) else callK (run prog (d + 3) 231 [vr 77, vi (r28 x2 0 M)] (shp, M)) (fun v σ1 => ev prog (d + 4) 233 0 10 [vr 72, vi x1, vi x2] (psh v []) σ1) (fun e σ1 => hk [0, 0, 0, 0, 0] e σ1 (fun t => ev prog (d + 4) 233 0 t (msk (pMask prog 233 t) [vr 72, vi x1, vi x2]) [vj] σ1)) := by
  rw [b233_7]
  try simp +decide only [b233_0, b233_1, b233_2, b233_13, b233_4, b233_5, b233_6, b233_12, b233_8, b233_9, b233_10, b233_11, s28, callK_r, callK_x, psh_s, psh_n, hk_0, hk_1, hk_2, hk_3, hk_4, callK_ite, bit_bi, bit_0, bit_1, eq_self, reduceIte, Int.reduceEq, Int.reduceLT, Int.reduceNeg, Nat.reduceEqDiff, ne_eq, not_false_eq_true, pu_k, mset_k, mset_j, mset_at, va_pu, va_mset, Int.reduceToNat, Int.reduceLE, and_self, true_and, and_true]
  all_goals (try rfl)
  all_goals (repeat' split)
  all_goals first | rfl | simp_all
theorem g233_10 (d : Nat) (x1 : Int) (x2 : Int) (M : mM) : ev prog (d + 4) 233 0 10 [vr 72, vi x1, vi x2] [] (shp, M) = callK (run prog (d + 3) 231 [vr 77, vi (r28 x2 1 M)] (shp, M)) (fun v σ1 => ev prog (d + 4) 233 0 12 [vr 72, vi x1, vj] (psh v []) σ1) (fun e σ1 => hk [0, 0, 0, 0, 0] e σ1 (fun t => ev prog (d + 4) 233 0 t (msk (pMask prog 233 t) [vr 72, vi x1, vj]) [vj] σ1)) := by
  rw [b233_10]
  try simp +decide only [b233_0, b233_1, b233_2, b233_13, b233_4, b233_5, b233_6, b233_7, b233_12, b233_8, b233_9, b233_11, s28, callK_r, callK_x, psh_s, psh_n, hk_0, hk_1, hk_2, hk_3, hk_4, callK_ite, bit_bi, bit_0, bit_1, eq_self, reduceIte, Int.reduceEq, Int.reduceLT, Int.reduceNeg, Nat.reduceEqDiff, ne_eq, not_false_eq_true, pu_k, mset_k, mset_j, mset_at, va_pu, va_mset, Int.reduceToNat, Int.reduceLE, and_self, true_and, and_true]
  all_goals (try rfl)
  all_goals (repeat' split)
  all_goals first | rfl | simp_all
theorem g233_12 (d : Nat) (x1 : Int) (M : mM) : ev prog (d + 4) 233 0 12 [vr 72, vi x1, vj] [] (shp, M) = ev prog (d + 4) 233 0 3 [vr 72, vi (wr (x1 + 1)), vj] [] (shp, M) := by
  rw [b233_12]
  try simp +decide only [b233_0, b233_1, b233_2, b233_13, b233_4, b233_5, b233_6, b233_7, b233_8, b233_9, b233_10, b233_11, callK_r, callK_x, psh_s, psh_n, hk_0, hk_1, hk_2, hk_3, hk_4, callK_ite, bit_bi, bit_0, bit_1, eq_self, reduceIte, Int.reduceEq, Int.reduceLT, Int.reduceNeg, Nat.reduceEqDiff, ne_eq, not_false_eq_true, pu_k, mset_k, mset_j, mset_at, va_pu, va_mset, Int.reduceToNat, Int.reduceLE, and_self, true_and, and_true]
  all_goals (try rfl)
  all_goals (repeat' split)
  all_goals first | rfl | simp_all
theorem g234_0 (d : Nat) (M : mM) : ev prog (d + 5) 234 0 0 [vr 5] [] (shp, M) = callK (run prog (d + 4) 233 [vr 72] (shp, M)) (fun v σ1 => ev prog (d + 5) 234 0 1 [vj] (psh v []) σ1) (fun e σ1 => hk [0, 0, 0, 0, 0] e σ1 (fun t => ev prog (d + 5) 234 0 t (msk (pMask prog 234 t) [vr 5]) [vj] σ1)) := by
  rw [b234_0]
  try simp +decide only [b234_1, callK_r, callK_x, psh_s, psh_n, hk_0, hk_1, hk_2, hk_3, hk_4, callK_ite, bit_bi, bit_0, bit_1, eq_self, reduceIte, Int.reduceEq, Int.reduceLT, Int.reduceNeg, Nat.reduceEqDiff, ne_eq, not_false_eq_true, pu_k, mset_k, mset_j, mset_at, va_pu, va_mset, Int.reduceToNat, Int.reduceLE, and_self, true_and, and_true]
  all_goals (try rfl)
  all_goals (repeat' split)
  all_goals first | rfl | simp_all
theorem g234_1 (d : Nat) (s0 : Int) (M : mM) : ev prog (d + 5) 234 0 1 [vj] [vi s0] (shp, M) = some (.inl (some (vi s0)), (shp, M)) := by
  rw [b234_1]
  try simp +decide only [b234_0, callK_r, callK_x, psh_s, psh_n, hk_0, hk_1, hk_2, hk_3, hk_4, callK_ite, bit_bi, bit_0, bit_1, eq_self, reduceIte, Int.reduceEq, Int.reduceLT, Int.reduceNeg, Nat.reduceEqDiff, ne_eq, not_false_eq_true, pu_k, mset_k, mset_j, mset_at, va_pu, va_mset, Int.reduceToNat, Int.reduceLE, and_self, true_and, and_true]
  all_goals (try rfl)
  all_goals (repeat' split)
  all_goals first | rfl | simp_all
theorem g235_0 (d : Nat) (x1 : Int) (M : mM) : ev prog (d + 2) 235 0 0 [vr 87, vi x1, vj, vj] [] (shp, M) = callK (run prog (d + 1) 122 [vr 87, vi x1] (shp, M)) (fun v σ1 => ev prog (d + 2) 235 0 1 [vr 87, vi x1, vj, vj] (psh v []) σ1) (fun e σ1 => hk [0, 0, 0, 0, 0] e σ1 (fun t => ev prog (d + 2) 235 0 t (msk (pMask prog 235 t) [vr 87, vi x1, vj, vj]) [vj] σ1)) := by
  rw [b235_0]
  try simp +decide only [b235_1, b235_3, b235_2, b235_4, b235_17, b235_6, b235_7, b235_8, b235_9, b235_10, b235_11, b235_12, b235_13, b235_15, b235_14, b235_16, callK_r, callK_x, psh_s, psh_n, hk_0, hk_1, hk_2, hk_3, hk_4, callK_ite, bit_bi, bit_0, bit_1, eq_self, reduceIte, Int.reduceEq, Int.reduceLT, Int.reduceNeg, Nat.reduceEqDiff, ne_eq, not_false_eq_true, pu_k, mset_k, mset_j, mset_at, va_pu, va_mset, Int.reduceToNat, Int.reduceLE, and_self, true_and, and_true]
  all_goals (try rfl)
  all_goals (repeat' split)
  all_goals first | rfl | simp_all
theorem g235_1 (d : Nat) (x1 : Int) (s0 : Int) (M : mM) : ev prog (d + 2) 235 0 1 [vr 87, vi x1, vj, vj] [vi s0] (shp, M) = if 0 < s0 then ev prog (d + 2) 235 0 5 [vr 87, vi x1, vi 1, vi 0] [] (shp, M) else ev prog (d + 2) 235 0 5 [vr 87, vi x1, vi 0, vi 0] [] (shp, M) := by
  rw [b235_1]
  try simp +decide only [b235_0, b235_3, b235_2, b235_4, b235_17, b235_6, b235_7, b235_8, b235_9, b235_10, b235_11, b235_12, b235_13, b235_15, b235_14, b235_16, callK_r, callK_x, psh_s, psh_n, hk_0, hk_1, hk_2, hk_3, hk_4, callK_ite, bit_bi, bit_0, bit_1, eq_self, reduceIte, Int.reduceEq, Int.reduceLT, Int.reduceNeg, Nat.reduceEqDiff, ne_eq, not_false_eq_true, pu_k, mset_k, mset_j, mset_at, va_pu, va_mset, Int.reduceToNat, Int.reduceLE, and_self, true_and, and_true]
  all_goals (try rfl)
  all_goals (repeat' split)
  all_goals first | rfl | simp_all
theorem g235_5 (d : Nat) (x1 : Int) (x2 : Int) (x3 : Int) (M : mM) : ev prog (d + 2) 235 0 5 [vr 87, vi x1, vi x2, vi x3] [] (shp, M) = if x3 < 3 then (if x2 = 0 then (if bit? x2 = true then some (.inl (some (vi x2)), (shp, M)) else none) else callK (run prog (d + 1) 136 [vr 87, vi x1, vi x3] (shp, M)) (fun v σ1 => ev prog (d + 2) 235 0 8 [vr 87, vi x1, vj, vi x3] (psh v []) σ1) (fun e σ1 => hk [0, 0, 0, 0, 0] e σ1 (fun t => ev prog (d + 2) 235 0 t (msk (pMask prog 235 t) [vr 87, vi x1, vj, vi x3]) [vj] σ1))) else (if bit? x2 = true then some (.inl (some (vi x2)), (shp, M)) else none) := by
  rw [b235_5]
  try simp +decide only [b235_0, b235_1, b235_3, b235_2, b235_4, b235_17, b235_6, b235_7, b235_8, b235_9, b235_10, b235_11, b235_12, b235_13, b235_15, b235_14, b235_16, callK_r, callK_x, psh_s, psh_n, hk_0, hk_1, hk_2, hk_3, hk_4, callK_ite, bit_bi, bit_0, bit_1, eq_self, reduceIte, Int.reduceEq, Int.reduceLT, Int.reduceNeg, Nat.reduceEqDiff, ne_eq, not_false_eq_true, pu_k, mset_k, mset_j, mset_at, va_pu, va_mset, Int.reduceToNat, Int.reduceLE, and_self, true_and, and_true]
  all_goals (try rfl)
  all_goals (repeat' split)
  all_goals first | rfl | simp_all
theorem g235_8 (d : Nat) (x1 : Int) (x3 : Int) (s0 : Int) (M : mM) : ev prog (d + 2) 235 0 8 [vr 87, vi x1, vj, vi x3] [vi s0] (shp, M) = if 0 ≤ (wr (2011 + x3)) ∧ (wr (2011 + x3)) < 2031 then callK (run prog (d + 1) 138 [vr 87, vi x1, vi x3] (shp, M)) (fun v σ1 => ev prog (d + 2) 235 0 11 [vr 87, vi x1, vj, vi x3] (psh v [vi (r137 s0 (M 88 (Int.toNat (wr (2011 + x3)))) M)]) σ1) (fun e σ1 => hk [0, 0, 0, 0, 0] e σ1 (fun t => ev prog (d + 2) 235 0 t (msk (pMask prog 235 t) [vr 87, vi x1, vj, vi x3]) [vj] σ1)) else none := by
  rw [b235_8]
  try simp +decide only [b235_0, b235_1, b235_3, b235_2, b235_4, b235_17, b235_6, b235_7, b235_9, b235_10, b235_11, b235_12, b235_13, b235_15, b235_14, b235_16, s137, callK_r, callK_x, psh_s, psh_n, hk_0, hk_1, hk_2, hk_3, hk_4, callK_ite, bit_bi, bit_0, bit_1, eq_self, reduceIte, Int.reduceEq, Int.reduceLT, Int.reduceNeg, Nat.reduceEqDiff, ne_eq, not_false_eq_true, pu_k, mset_k, mset_j, mset_at, va_pu, va_mset, Int.reduceToNat, Int.reduceLE, and_self, true_and, and_true]
  all_goals (try rfl)
  all_goals (repeat' split)
  all_goals first | rfl | simp_all
theorem g235_11 (d : Nat) (x1 : Int) (x3 : Int) (s0 : Int) (s1 : Int) (M : mM) : ev prog (d + 2) 235 0 11 [vr 87, vi x1, vj, vi x3] [vi s1, vi s0] (shp, M) = if 0 ≤ (wr (2014 + x3)) ∧ (wr (2014 + x3)) < 2031 then (if (r135 s1 (M 88 (Int.toNat (wr (2014 + x3)))) M) < s0 then ev prog (d + 2) 235 0 5 [vr 87, vi x1, vi 0, vi (wr (x3 + 1))] [] (shp, M) else ev prog (d + 2) 235 0 5 [vr 87, vi x1, vi 1, vi (wr (x3 + 1))] [] (shp, M)) else none := by
  rw [b235_11]
  try simp +decide only [b235_0, b235_1, b235_3, b235_2, b235_4, b235_17, b235_6, b235_7, b235_8, b235_9, b235_10, b235_12, b235_13, b235_15, b235_14, b235_16, s135, callK_r, callK_x, psh_s, psh_n, hk_0, hk_1, hk_2, hk_3, hk_4, callK_ite, bit_bi, bit_0, bit_1, eq_self, reduceIte, Int.reduceEq, Int.reduceLT, Int.reduceNeg, Nat.reduceEqDiff, ne_eq, not_false_eq_true, pu_k, mset_k, mset_j, mset_at, va_pu, va_mset, Int.reduceToNat, Int.reduceLE, and_self, true_and, and_true]
  all_goals (try rfl)
  all_goals (repeat' split)
  all_goals first | rfl | simp_all
theorem g236_0 (d : Nat) (x1 : Int) (M : mM) : ev prog (d + 2) 236 0 0 [vr 87, vi x1] [] (shp, M) = if x1 < 0 then some (.inl (some (vi 0)), (shp, M)) else callK (run prog (d + 1) 235 [vr 87, vi x1] (shp, M)) (fun v σ1 => ev prog (d + 2) 236 0 3 [vr 87, vi x1] (psh v []) σ1) (fun e σ1 => hk [0, 0, 0, 0, 0] e σ1 (fun t => ev prog (d + 2) 236 0 t (msk (pMask prog 236 t) [vr 87, vi x1]) [vj] σ1)) := by
  rw [b236_0]
  try simp +decide only [b236_2, b236_1, b236_3, b236_9, b236_4, b236_10, b236_5, b236_6, b236_7, b236_8, callK_r, callK_x, psh_s, psh_n, hk_0, hk_1, hk_2, hk_3, hk_4, callK_ite, bit_bi, bit_0, bit_1, eq_self, reduceIte, Int.reduceEq, Int.reduceLT, Int.reduceNeg, Nat.reduceEqDiff, ne_eq, not_false_eq_true, pu_k, mset_k, mset_j, mset_at, va_pu, va_mset, Int.reduceToNat, Int.reduceLE, and_self, true_and, and_true]
  all_goals (try rfl)
  all_goals (repeat' split)
  all_goals first | rfl | simp_all
theorem g236_3 (d : Nat) (x1 : Int) (s0 : Int) (M : mM) : ev prog (d + 2) 236 0 3 [vr 87, vi x1] [vi s0] (shp, M) = if s0 = 0 then some (.inl (some (vi 1)), (shp, M)) else (if 0 ≤ (wr (1400 + x1)) ∧ (wr (1400 + x1)) < 2031 then callK (run prog (d + 1) 236 [vr 87, vi (M 88 (Int.toNat (wr (1400 + x1))))] (shp, M)) (fun v σ1 => ev prog (d + 2) 236 0 6 [vr 87, vi x1] (psh v [vi 1]) σ1) (fun e σ1 => hk [0, 0, 0, 0, 0] e σ1 (fun t => ev prog (d + 2) 236 0 t (msk (pMask prog 236 t) [vr 87, vi x1]) [vj] σ1)) else none) := by
  rw [b236_3]
  try simp +decide only [b236_0, b236_2, b236_1, b236_9, b236_4, b236_10, b236_5, b236_6, b236_7, b236_8, callK_r, callK_x, psh_s, psh_n, hk_0, hk_1, hk_2, hk_3, hk_4, callK_ite, bit_bi, bit_0, bit_1, eq_self, reduceIte, Int.reduceEq, Int.reduceLT, Int.reduceNeg, Nat.reduceEqDiff, ne_eq, not_false_eq_true, pu_k, mset_k, mset_j, mset_at, va_pu, va_mset, Int.reduceToNat, Int.reduceLE, and_self, true_and, and_true]
  all_goals (try rfl)
  all_goals (repeat' split)
  all_goals first | rfl | simp_all
theorem g236_6 (d : Nat) (x1 : Int) (s0 : Int) (s1 : Int) (M : mM) : ev prog (d + 2) 236 0 6 [vr 87, vi x1] [vi s1, vi s0] (shp, M) = if 0 ≤ (wr (1600 + x1)) ∧ (wr (1600 + x1)) < 2031 then callK (run prog (d + 1) 236 [vr 87, vi (M 88 (Int.toNat (wr (1600 + x1))))] (shp, M)) (fun v σ1 => ev prog (d + 2) 236 0 8 [vj, vj] (psh v [vi (wr (s0 + s1))]) σ1) (fun e σ1 => hk [0, 0, 0, 0, 0] e σ1 (fun t => ev prog (d + 2) 236 0 t (msk (pMask prog 236 t) [vj, vj]) [vj] σ1)) else none := by
  rw [b236_6]
  try simp +decide only [b236_0, b236_2, b236_1, b236_3, b236_9, b236_4, b236_10, b236_5, b236_7, b236_8, callK_r, callK_x, psh_s, psh_n, hk_0, hk_1, hk_2, hk_3, hk_4, callK_ite, bit_bi, bit_0, bit_1, eq_self, reduceIte, Int.reduceEq, Int.reduceLT, Int.reduceNeg, Nat.reduceEqDiff, ne_eq, not_false_eq_true, pu_k, mset_k, mset_j, mset_at, va_pu, va_mset, Int.reduceToNat, Int.reduceLE, and_self, true_and, and_true]
  all_goals (try rfl)
  all_goals (repeat' split)
  all_goals first | rfl | simp_all
theorem g236_8 (d : Nat) (s0 : Int) (s1 : Int) (M : mM) : ev prog (d + 2) 236 0 8 [vj, vj] [vi s1, vi s0] (shp, M) = some (.inl (some (vi (wr (s0 + s1)))), (shp, M)) := by
  rw [b236_8]
  try simp +decide only [b236_0, b236_2, b236_1, b236_3, b236_9, b236_4, b236_10, b236_5, b236_6, b236_7, callK_r, callK_x, psh_s, psh_n, hk_0, hk_1, hk_2, hk_3, hk_4, callK_ite, bit_bi, bit_0, bit_1, eq_self, reduceIte, Int.reduceEq, Int.reduceLT, Int.reduceNeg, Nat.reduceEqDiff, ne_eq, not_false_eq_true, pu_k, mset_k, mset_j, mset_at, va_pu, va_mset, Int.reduceToNat, Int.reduceLE, and_self, true_and, and_true]
  all_goals (try rfl)
  all_goals (repeat' split)
  all_goals first | rfl | simp_all
theorem g237_0 (d : Nat) (M : mM) : ev prog (d + 2) 237 0 0 [vr 87] [] (shp, M) = callK (run prog (d + 1) 236 [vr 87, vi (M 88 2000)] (shp, mset M 87 3 0)) (fun v σ1 => ev prog (d + 2) 237 0 2 [vj] (psh v []) σ1) (fun e σ1 => hk [0, 0, 0, 0, 0] e σ1 (fun t => ev prog (d + 2) 237 0 t (msk (pMask prog 237 t) [vj]) [vj] σ1)) := by
  rw [b237_0]
  try simp +decide only [b237_1, b237_2, callK_r, callK_x, psh_s, psh_n, hk_0, hk_1, hk_2, hk_3, hk_4, callK_ite, bit_bi, bit_0, bit_1, eq_self, reduceIte, Int.reduceEq, Int.reduceLT, Int.reduceNeg, Nat.reduceEqDiff, ne_eq, not_false_eq_true, pu_k, mset_k, mset_j, mset_at, va_pu, va_mset, Int.reduceToNat, Int.reduceLE, and_self, true_and, and_true]
  all_goals (try rfl)
  all_goals (repeat' split)
  all_goals first | rfl | simp_all
theorem g237_2 (d : Nat) (s0 : Int) (M : mM) : ev prog (d + 2) 237 0 2 [vj] [vi s0] (shp, M) = some (.inl (some (vi s0)), (shp, M)) := by
  rw [b237_2]
  try simp +decide only [b237_0, b237_1, callK_r, callK_x, psh_s, psh_n, hk_0, hk_1, hk_2, hk_3, hk_4, callK_ite, bit_bi, bit_0, bit_1, eq_self, reduceIte, Int.reduceEq, Int.reduceLT, Int.reduceNeg, Nat.reduceEqDiff, ne_eq, not_false_eq_true, pu_k, mset_k, mset_j, mset_at, va_pu, va_mset, Int.reduceToNat, Int.reduceLE, and_self, true_and, and_true]
  all_goals (try rfl)
  all_goals (repeat' split)
  all_goals first | rfl | simp_all
theorem g239_0 (d : Nat) (M : mM) : ev prog (d + 4) 239 0 0 [vr 79, vj] [] (shp, M) = ev prog (d + 4) 239 0 1 [vr 79, vi 0] [] (shp, M) := by
  rw [b239_0]
  try simp +decide only [b239_5, b239_2, b239_3, b239_4, callK_r, callK_x, psh_s, psh_n, hk_0, hk_1, hk_2, hk_3, hk_4, callK_ite, bit_bi, bit_0, bit_1, eq_self, reduceIte, Int.reduceEq, Int.reduceLT, Int.reduceNeg, Nat.reduceEqDiff, ne_eq, not_false_eq_true, pu_k, mset_k, mset_j, mset_at, va_pu, va_mset, Int.reduceToNat, Int.reduceLE, and_self, true_and, and_true]
  all_goals (try rfl)
  all_goals (repeat' split)
  all_goals first | rfl | simp_all
theorem g239_1 (d : Nat) (x1 : Int) (M : mM) : ev prog (d + 4) 239 0 1 [vr 79, vi x1] [] (shp, M) = if x1 < (M 21 1) then callK (run prog (d + 3) 238 [vr 79, vi (r30b x1 M)] (shp, M)) (fun v σ1 => ev prog (d + 4) 239 0 4 [vr 79, vi x1] (psh v []) σ1) (fun e σ1 => hk [0, 0, 0, 0, 0] e σ1 (fun t => ev prog (d + 4) 239 0 t (msk (pMask prog 239 t) [vr 79, vi x1]) [vj] σ1)) else some (.inl none, (shp, M)) := by
  rw [b239_1]
  try simp +decide only [b239_0, b239_5, b239_2, b239_3, b239_4, s30b, callK_r, callK_x, psh_s, psh_n, hk_0, hk_1, hk_2, hk_3, hk_4, callK_ite, bit_bi, bit_0, bit_1, eq_self, reduceIte, Int.reduceEq, Int.reduceLT, Int.reduceNeg, Nat.reduceEqDiff, ne_eq, not_false_eq_true, pu_k, mset_k, mset_j, mset_at, va_pu, va_mset, Int.reduceToNat, Int.reduceLE, and_self, true_and, and_true]
  all_goals (try rfl)
  all_goals (repeat' split)
  all_goals first | rfl | simp_all
theorem g239_4 (d : Nat) (x1 : Int) (M : mM) : ev prog (d + 4) 239 0 4 [vr 79, vi x1] [] (shp, M) = ev prog (d + 4) 239 0 1 [vr 79, vi (wr (x1 + 1))] [] (shp, M) := by
  rw [b239_4]
  try simp +decide only [b239_0, b239_5, b239_2, b239_3, callK_r, callK_x, psh_s, psh_n, hk_0, hk_1, hk_2, hk_3, hk_4, callK_ite, bit_bi, bit_0, bit_1, eq_self, reduceIte, Int.reduceEq, Int.reduceLT, Int.reduceNeg, Nat.reduceEqDiff, ne_eq, not_false_eq_true, pu_k, mset_k, mset_j, mset_at, va_pu, va_mset, Int.reduceToNat, Int.reduceLE, and_self, true_and, and_true]
  all_goals (try rfl)
  all_goals (repeat' split)
  all_goals first | rfl | simp_all
theorem g240_0 (d : Nat) (x1 : Int) (M : mM) : ev prog (d + 3) 240 0 0 [vr 79, vi x1, vj, vj] [] (shp, M) = ev prog (d + 3) 240 0 1 [vr 79, vj, vi x1, vi 0] [] (shp, M) := by
  rw [b240_0]
  try simp +decide only [b240_6, b240_2, b240_3, b240_4, b240_5, callK_r, callK_x, psh_s, psh_n, hk_0, hk_1, hk_2, hk_3, hk_4, callK_ite, bit_bi, bit_0, bit_1, eq_self, reduceIte, Int.reduceEq, Int.reduceLT, Int.reduceNeg, Nat.reduceEqDiff, ne_eq, not_false_eq_true, pu_k, mset_k, mset_j, mset_at, va_pu, va_mset, Int.reduceToNat, Int.reduceLE, and_self, true_and, and_true]
  all_goals (try rfl)
  all_goals (repeat' split)
  all_goals first | rfl | simp_all
theorem g240_1 (d : Nat) (x2 : Int) (x3 : Int) (M : mM) : ev prog (d + 3) 240 0 1 [vr 79, vj, vi x2, vi x3] [] (shp, M) = if x3 < 200 then (if x2 = (-1) then some (.inl none, (shp, M)) else callK (run prog (d + 2) 25 [vr 82, vi x2] (shp, M)) (fun v σ1 => ev prog (d + 3) 240 0 4 [vr 79, vj, vi x2, vi x3] (psh v []) σ1) (fun e σ1 => hk [0, 0, 0, 0, 0] e σ1 (fun t => ev prog (d + 3) 240 0 t (msk (pMask prog 240 t) [vr 79, vj, vi x2, vi x3]) [vj] σ1))) else some (.inl none, (shp, M)) := by
  rw [b240_1]
  try simp +decide only [b240_0, b240_6, b240_2, b240_3, b240_4, b240_5, callK_r, callK_x, psh_s, psh_n, hk_0, hk_1, hk_2, hk_3, hk_4, callK_ite, bit_bi, bit_0, bit_1, eq_self, reduceIte, Int.reduceEq, Int.reduceLT, Int.reduceNeg, Nat.reduceEqDiff, ne_eq, not_false_eq_true, pu_k, mset_k, mset_j, mset_at, va_pu, va_mset, Int.reduceToNat, Int.reduceLE, and_self, true_and, and_true]
  all_goals (try rfl)
  all_goals (repeat' split)
  all_goals first | rfl | simp_all
theorem g240_4 (d : Nat) (x2 : Int) (x3 : Int) (M : mM) : ev prog (d + 3) 240 0 4 [vr 79, vj, vi x2, vi x3] [] (shp, M) = ev prog (d + 3) 240 0 1 [vr 79, vj, vi (r28 x2 0 M), vi (wr (x3 + 1))] [] (shp, M) := by
  rw [b240_4]
  try simp +decide only [b240_0, b240_6, b240_2, b240_3, b240_5, s28, callK_r, callK_x, psh_s, psh_n, hk_0, hk_1, hk_2, hk_3, hk_4, callK_ite, bit_bi, bit_0, bit_1, eq_self, reduceIte, Int.reduceEq, Int.reduceLT, Int.reduceNeg, Nat.reduceEqDiff, ne_eq, not_false_eq_true, pu_k, mset_k, mset_j, mset_at, va_pu, va_mset, Int.reduceToNat, Int.reduceLE, and_self, true_and, and_true]
  all_goals (try rfl)
  all_goals (repeat' split)
  all_goals first | rfl | simp_all
theorem g241_0 (d : Nat) (M : mM) : ev prog (d + 4) 241 0 0 [vr 79, vj, vj] [] (shp, M) = callK (run prog (d + 3) 240 [vr 79, vi (M 12 11)] (shp, M)) (fun v σ1 => ev prog (d + 4) 241 0 1 [vr 79, vj, vj] (psh v []) σ1) (fun e σ1 => hk [0, 0, 0, 0, 0] e σ1 (fun t => ev prog (d + 4) 241 0 t (msk (pMask prog 241 t) [vr 79, vj, vj]) [vj] σ1)) := by
  rw [b241_0]
  try simp +decide only [b241_1, b241_9, b241_3, b241_4, b241_5, b241_6, b241_7, b241_8, callK_r, callK_x, psh_s, psh_n, hk_0, hk_1, hk_2, hk_3, hk_4, callK_ite, bit_bi, bit_0, bit_1, eq_self, reduceIte, Int.reduceEq, Int.reduceLT, Int.reduceNeg, Nat.reduceEqDiff, ne_eq, not_false_eq_true, pu_k, mset_k, mset_j, mset_at, va_pu, va_mset, Int.reduceToNat, Int.reduceLE, and_self, true_and, and_true]
  all_goals (try rfl)
  all_goals (repeat' split)
  all_goals first | rfl | simp_all
theorem g241_1 (d : Nat) (M : mM) : ev prog (d + 4) 241 0 1 [vr 79, vj, vj] [] (shp, M) = ev prog (d + 4) 241 0 2 [vr 79, vi 0, vj] [] (shp, M) := by
  rw [b241_1]
  try simp +decide only [b241_0, b241_9, b241_3, b241_4, b241_5, b241_6, b241_7, b241_8, callK_r, callK_x, psh_s, psh_n, hk_0, hk_1, hk_2, hk_3, hk_4, callK_ite, bit_bi, bit_0, bit_1, eq_self, reduceIte, Int.reduceEq, Int.reduceLT, Int.reduceNeg, Nat.reduceEqDiff, ne_eq, not_false_eq_true, pu_k, mset_k, mset_j, mset_at, va_pu, va_mset, Int.reduceToNat, Int.reduceLE, and_self, true_and, and_true]
  all_goals (try rfl)
  all_goals (repeat' split)
  all_goals first | rfl | simp_all
theorem g241_2 (d : Nat) (x1 : Int) (M : mM) : ev prog (d + 4) 241 0 2 [vr 79, vi x1, vj] [] (shp, M) = if x1 < 200 then (if 0 < (M 82 1) then callK (run prog (d + 3) 27 [vr 82] (shp, M)) (fun v σ1 => ev prog (d + 4) 241 0 5 [vr 79, vi x1, vj] (psh v []) σ1) (fun e σ1 => hk [0, 0, 0, 0, 0] e σ1 (fun t => ev prog (d + 4) 241 0 t (msk (pMask prog 241 t) [vr 79, vi x1, vj]) [vj] σ1)) else some (.inl none, (shp, M))) else some (.inl none, (shp, M)) := by
  rw [b241_2]
  try simp +decide only [b241_0, b241_1, b241_9, b241_3, b241_4, b241_5, b241_6, b241_7, b241_8, callK_r, callK_x, psh_s, psh_n, hk_0, hk_1, hk_2, hk_3, hk_4, callK_ite, bit_bi, bit_0, bit_1, eq_self, reduceIte, Int.reduceEq, Int.reduceLT, Int.reduceNeg, Nat.reduceEqDiff, ne_eq, not_false_eq_true, pu_k, mset_k, mset_j, mset_at, va_pu, va_mset, Int.reduceToNat, Int.reduceLE, and_self, true_and, and_true]
  all_goals (try rfl)
  all_goals (repeat' split)
  all_goals first | rfl | simp_all
theorem g241_5 (d : Nat) (x1 : Int) (s0 : Int) (M : mM) : ev prog (d + 4) 241 0 5 [vr 79, vi x1, vj] [vi s0] (shp, M) = callK (run prog (d + 3) 238 [vr 79, vi s0] (shp, M)) (fun v σ1 => ev prog (d + 4) 241 0 6 [vr 79, vi x1, vi s0] (psh v []) σ1) (fun e σ1 => hk [0, 0, 0, 0, 0] e σ1 (fun t => ev prog (d + 4) 241 0 t (msk (pMask prog 241 t) [vr 79, vi x1, vi s0]) [vj] σ1)) := by
  rw [b241_5]
  try simp +decide only [b241_0, b241_1, b241_9, b241_3, b241_4, b241_6, b241_7, b241_8, callK_r, callK_x, psh_s, psh_n, hk_0, hk_1, hk_2, hk_3, hk_4, callK_ite, bit_bi, bit_0, bit_1, eq_self, reduceIte, Int.reduceEq, Int.reduceLT, Int.reduceNeg, Nat.reduceEqDiff, ne_eq, not_false_eq_true, pu_k, mset_k, mset_j, mset_at, va_pu, va_mset, Int.reduceToNat, Int.reduceLE, and_self, true_and, and_true]
  all_goals (try rfl)
  all_goals (repeat' split)
  all_goals first | rfl | simp_all
theorem g241_6 (d : Nat) (x1 : Int) (x2 : Int) (M : mM) : ev prog (d + 4) 241 0 6 [vr 79, vi x1, vi x2] [] (shp, M) = callK (run prog (d + 3) 240 [vr 79, vi (r28 x2 1 M)] (shp, M)) (fun v σ1 => ev prog (d + 4) 241 0 8 [vr 79, vi x1, vj] (psh v []) σ1) (fun e σ1 => hk [0, 0, 0, 0, 0] e σ1 (fun t => ev prog (d + 4) 241 0 t (msk (pMask prog 241 t) [vr 79, vi x1, vj]) [vj] σ1)) := by
  rw [b241_6]
  try simp +decide only [b241_0, b241_1, b241_9, b241_3, b241_4, b241_5, b241_7, b241_8, s28, callK_r, callK_x, psh_s, psh_n, hk_0, hk_1, hk_2, hk_3, hk_4, callK_ite, bit_bi, bit_0, bit_1, eq_self, reduceIte, Int.reduceEq, Int.reduceLT, Int.reduceNeg, Nat.reduceEqDiff, ne_eq, not_false_eq_true, pu_k, mset_k, mset_j, mset_at, va_pu, va_mset, Int.reduceToNat, Int.reduceLE, and_self, true_and, and_true]
  all_goals (try rfl)
  all_goals (repeat' split)
  all_goals first | rfl | simp_all
theorem g241_8 (d : Nat) (x1 : Int) (M : mM) : ev prog (d + 4) 241 0 8 [vr 79, vi x1, vj] [] (shp, M) = ev prog (d + 4) 241 0 2 [vr 79, vi (wr (x1 + 1)), vj] [] (shp, M) := by
  rw [b241_8]
  try simp +decide only [b241_0, b241_1, b241_9, b241_3, b241_4, b241_5, b241_6, b241_7, callK_r, callK_x, psh_s, psh_n, hk_0, hk_1, hk_2, hk_3, hk_4, callK_ite, bit_bi, bit_0, bit_1, eq_self, reduceIte, Int.reduceEq, Int.reduceLT, Int.reduceNeg, Nat.reduceEqDiff, ne_eq, not_false_eq_true, pu_k, mset_k, mset_j, mset_at, va_pu, va_mset, Int.reduceToNat, Int.reduceLE, and_self, true_and, and_true]
  all_goals (try rfl)
  all_goals (repeat' split)
  all_goals first | rfl | simp_all
theorem g242_0 (d : Nat) (M : mM) : ev prog (d + 4) 242 0 0 [vr 79, vj, vj] [] (shp, M) = callK (run prog (d + 3) 231 [vr 82, vi (M 12 11)] (shp, M)) (fun v σ1 => ev prog (d + 4) 242 0 1 [vr 79, vj, vj] (psh v []) σ1) (fun e σ1 => hk [0, 0, 0, 0, 0] e σ1 (fun t => ev prog (d + 4) 242 0 t (msk (pMask prog 242 t) [vr 79, vj, vj]) [vj] σ1)) := by
  rw [b242_0]
  try simp +decide only [b242_1, b242_11, b242_3, b242_4, b242_5, b242_6, b242_7, b242_8, b242_9, b242_10, callK_r, callK_x, psh_s, psh_n, hk_0, hk_1, hk_2, hk_3, hk_4, callK_ite, bit_bi, bit_0, bit_1, eq_self, reduceIte, Int.reduceEq, Int.reduceLT, Int.reduceNeg, Nat.reduceEqDiff, ne_eq, not_false_eq_true, pu_k, mset_k, mset_j, mset_at, va_pu, va_mset, Int.reduceToNat, Int.reduceLE, and_self, true_and, and_true]
  all_goals (try rfl)
  all_goals (repeat' split)
  all_goals first | rfl | simp_all
theorem g242_1 (d : Nat) (M : mM) : ev prog (d + 4) 242 0 1 [vr 79, vj, vj] [] (shp, M) = ev prog (d + 4) 242 0 2 [vr 79, vi 0, vj] [] (shp, M) := by
  rw [b242_1]
  try simp +decide only [b242_0, b242_11, b242_3, b242_4, b242_5, b242_6, b242_7, b242_8, b242_9, b242_10, callK_r, callK_x, psh_s, psh_n, hk_0, hk_1, hk_2, hk_3, hk_4, callK_ite, bit_bi, bit_0, bit_1, eq_self, reduceIte, Int.reduceEq, Int.reduceLT, Int.reduceNeg, Nat.reduceEqDiff, ne_eq, not_false_eq_true, pu_k, mset_k, mset_j, mset_at, va_pu, va_mset, Int.reduceToNat, Int.reduceLE, and_self, true_and, and_true]
  all_goals (try rfl)
  all_goals (repeat' split)
  all_goals first | rfl | simp_all
theorem g242_2 (d : Nat) (x1 : Int) (M : mM) : ev prog (d + 4) 242 0 2 [vr 79, vi x1, vj] [] (shp, M) = if x1 < 200 then (if x1 < (M 82 1) then callK (run prog (d + 3) 238 [vr 79, vi (r30e x1 M)] (shp, M)) (fun v σ1 => ev prog (d + 4) 242 0 6 [vr 79, vi x1, vi (r30e x1 M)] (psh v []) σ1) (fun e σ1 => hk [0, 0, 0, 0, 0] e σ1 (fun t => ev prog (d + 4) 242 0 t (msk (pMask prog 242 t) [vr 79, vi x1, vi (r30e x1 M)]) [vj] σ1)) else some (.inl none, (shp, M))) else some (.inl none, (shp, M)) := by
  rw [b242_2]
  try simp +decide only [b242_0, b242_1, b242_11, b242_3, b242_4, b242_5, b242_6, b242_7, b242_8, b242_9, b242_10, s30e, callK_r, callK_x, psh_s, psh_n, hk_0, hk_1, hk_2, hk_3, hk_4, callK_ite, bit_bi, bit_0, bit_1, eq_self, reduceIte, Int.reduceEq, Int.reduceLT, Int.reduceNeg, Nat.reduceEqDiff, ne_eq, not_false_eq_true, pu_k, mset_k, mset_j, mset_at, va_pu, va_mset, Int.reduceToNat, Int.reduceLE, and_self, true_and, and_true]
  all_goals (try rfl)
  all_goals (repeat' split)
  all_goals first | rfl | simp_all
theorem g242_6 (d : Nat) (x1 : Int) (x2 : Int) (M : mM) : ev prog (d + 4) 242 0 6 [vr 79, vi x1, vi x2] [] (shp, M) = callK (run prog (d + 3) 231 [vr 82, vi (r28 x2 0 M)] (shp, M)) (fun v σ1 => ev prog (d + 4) 242 0 8 [vr 79, vi x1, vi x2] (psh v []) σ1) (fun e σ1 => hk [0, 0, 0, 0, 0] e σ1 (fun t => ev prog (d + 4) 242 0 t (msk (pMask prog 242 t) [vr 79, vi x1, vi x2]) [vj] σ1)) := by
  rw [b242_6]
  try simp +decide only [b242_0, b242_1, b242_11, b242_3, b242_4, b242_5, b242_7, b242_8, b242_9, b242_10, s28, callK_r, callK_x, psh_s, psh_n, hk_0, hk_1, hk_2, hk_3, hk_4, callK_ite, bit_bi, bit_0, bit_1, eq_self, reduceIte, Int.reduceEq, Int.reduceLT, Int.reduceNeg, Nat.reduceEqDiff, ne_eq, not_false_eq_true, pu_k, mset_k, mset_j, mset_at, va_pu, va_mset, Int.reduceToNat, Int.reduceLE, and_self, true_and, and_true]
  all_goals (try rfl)
  all_goals (repeat' split)
  all_goals first | rfl | simp_all
theorem g242_8 (d : Nat) (x1 : Int) (x2 : Int) (M : mM) : ev prog (d + 4) 242 0 8 [vr 79, vi x1, vi x2] [] (shp, M) = callK (run prog (d + 3) 231 [vr 82, vi (r28 x2 1 M)] (shp, M)) (fun v σ1 => ev prog (d + 4) 242 0 10 [vr 79, vi x1, vj] (psh v []) σ1) (fun e σ1 => hk [0, 0, 0, 0, 0] e σ1 (fun t => ev prog (d + 4) 242 0 t (msk (pMask prog 242 t) [vr 79, vi x1, vj]) [vj] σ1)) := by
  rw [b242_8]
  try simp +decide only [b242_0, b242_1, b242_11, b242_3, b242_4, b242_5, b242_6, b242_7, b242_9, b242_10, s28, callK_r, callK_x, psh_s, psh_n, hk_0, hk_1, hk_2, hk_3, hk_4, callK_ite, bit_bi, bit_0, bit_1, eq_self, reduceIte, Int.reduceEq, Int.reduceLT, Int.reduceNeg, Nat.reduceEqDiff, ne_eq, not_false_eq_true, pu_k, mset_k, mset_j, mset_at, va_pu, va_mset, Int.reduceToNat, Int.reduceLE, and_self, true_and, and_true]
  all_goals (try rfl)
  all_goals (repeat' split)
  all_goals first | rfl | simp_all
theorem g242_10 (d : Nat) (x1 : Int) (M : mM) : ev prog (d + 4) 242 0 10 [vr 79, vi x1, vj] [] (shp, M) = ev prog (d + 4) 242 0 2 [vr 79, vi (wr (x1 + 1)), vj] [] (shp, M) := by
  rw [b242_10]
  try simp +decide only [b242_0, b242_1, b242_11, b242_3, b242_4, b242_5, b242_6, b242_7, b242_8, b242_9, callK_r, callK_x, psh_s, psh_n, hk_0, hk_1, hk_2, hk_3, hk_4, callK_ite, bit_bi, bit_0, bit_1, eq_self, reduceIte, Int.reduceEq, Int.reduceLT, Int.reduceNeg, Nat.reduceEqDiff, ne_eq, not_false_eq_true, pu_k, mset_k, mset_j, mset_at, va_pu, va_mset, Int.reduceToNat, Int.reduceLE, and_self, true_and, and_true]
  all_goals (try rfl)
  all_goals (repeat' split)
  all_goals first | rfl | simp_all
theorem g243_0 (d : Nat) (x1 : Int) (M : mM) : ev prog (d + 5) 243 0 0 [vr 79, vi x1] [] (shp, M) = ev prog (d + 5) 243 0 2 [vr 79, vi x1] [] (shp, mset (mset M 80 1 0) 82 1 0) := by
  rw [b243_0]
  try simp +decide only [b243_1, b243_3, b243_5, b243_7, b243_4, b243_6, b243_8, s24c, s24d, o24c, o24d, callK_r, callK_x, psh_s, psh_n, hk_0, hk_1, hk_2, hk_3, hk_4, callK_ite, bit_bi, bit_0, bit_1, eq_self, reduceIte, Int.reduceEq, Int.reduceLT, Int.reduceNeg, Nat.reduceEqDiff, ne_eq, not_false_eq_true, pu_k, mset_k, mset_j, mset_at, va_pu, va_mset, Int.reduceToNat, Int.reduceLE, and_self, true_and, and_true]
  all_goals (try rfl)
  all_goals (repeat' split)
  all_goals first | rfl | simp_all
theorem g243_3 (d : Nat) (M : mM) : ev prog (d + 5) 243 0 3 [vr 79, vj] [] (shp, M) = callK (run prog (d + 4) 239 [vr 79] (shp, M)) (fun v σ1 => ev prog (d + 5) 243 0 4 [vr 79, vj] (psh v []) σ1) (fun e σ1 => hk [0, 0, 0, 0, 0] e σ1 (fun t => ev prog (d + 5) 243 0 t (msk (pMask prog 243 t) [vr 79, vj]) [vj] σ1)) := by
  rw [b243_3]
  try simp +decide only [b243_0, b243_1, b243_5, b243_7, b243_4, b243_6, b243_8, callK_r, callK_x, psh_s, psh_n, hk_0, hk_1, hk_2, hk_3, hk_4, callK_ite, bit_bi, bit_0, bit_1, eq_self, reduceIte, Int.reduceEq, Int.reduceLT, Int.reduceNeg, Nat.reduceEqDiff, ne_eq, not_false_eq_true, pu_k, mset_k, mset_j, mset_at, va_pu, va_mset, Int.reduceToNat, Int.reduceLE, and_self, true_and, and_true]
  all_goals (try rfl)
  all_goals (repeat' split)
  all_goals first | rfl | simp_all
theorem g243_5 (d : Nat) (M : mM) : ev prog (d + 5) 243 0 5 [vr 79, vj] [] (shp, M) = callK (run prog (d + 4) 241 [vr 79] (shp, M)) (fun v σ1 => ev prog (d + 5) 243 0 6 [vr 79, vj] (psh v []) σ1) (fun e σ1 => hk [0, 0, 0, 0, 0] e σ1 (fun t => ev prog (d + 5) 243 0 t (msk (pMask prog 243 t) [vr 79, vj]) [vj] σ1)) := by
  rw [b243_5]
  try simp +decide only [b243_0, b243_1, b243_3, b243_7, b243_4, b243_6, b243_8, callK_r, callK_x, psh_s, psh_n, hk_0, hk_1, hk_2, hk_3, hk_4, callK_ite, bit_bi, bit_0, bit_1, eq_self, reduceIte, Int.reduceEq, Int.reduceLT, Int.reduceNeg, Nat.reduceEqDiff, ne_eq, not_false_eq_true, pu_k, mset_k, mset_j, mset_at, va_pu, va_mset, Int.reduceToNat, Int.reduceLE, and_self, true_and, and_true]
  all_goals (try rfl)
  all_goals (repeat' split)
  all_goals first | rfl | simp_all
theorem g243_7 (d : Nat) (M : mM) : ev prog (d + 5) 243 0 7 [vr 79, vj] [] (shp, M) = callK (run prog (d + 4) 242 [vr 79] (shp, M)) (fun v σ1 => ev prog (d + 5) 243 0 8 [vr 79, vj] (psh v []) σ1) (fun e σ1 => hk [0, 0, 0, 0, 0] e σ1 (fun t => ev prog (d + 5) 243 0 t (msk (pMask prog 243 t) [vr 79, vj]) [vj] σ1)) := by
  rw [b243_7]
  try simp +decide only [b243_0, b243_1, b243_3, b243_5, b243_4, b243_6, b243_8, callK_r, callK_x, psh_s, psh_n, hk_0, hk_1, hk_2, hk_3, hk_4, callK_ite, bit_bi, bit_0, bit_1, eq_self, reduceIte, Int.reduceEq, Int.reduceLT, Int.reduceNeg, Nat.reduceEqDiff, ne_eq, not_false_eq_true, pu_k, mset_k, mset_j, mset_at, va_pu, va_mset, Int.reduceToNat, Int.reduceLE, and_self, true_and, and_true]
  all_goals (try rfl)
  all_goals (repeat' split)
  all_goals first | rfl | simp_all
theorem g243_4 (d : Nat) (M : mM) : ev prog (d + 5) 243 0 4 [vr 79, vj] [] (shp, M) = some (.inl (some (vi (M 80 1))), (shp, M)) := by
  rw [b243_4]
  try simp +decide only [b243_0, b243_1, b243_3, b243_5, b243_7, b243_6, b243_8, callK_r, callK_x, psh_s, psh_n, hk_0, hk_1, hk_2, hk_3, hk_4, callK_ite, bit_bi, bit_0, bit_1, eq_self, reduceIte, Int.reduceEq, Int.reduceLT, Int.reduceNeg, Nat.reduceEqDiff, ne_eq, not_false_eq_true, pu_k, mset_k, mset_j, mset_at, va_pu, va_mset, Int.reduceToNat, Int.reduceLE, and_self, true_and, and_true]
  all_goals (try rfl)
  all_goals (repeat' split)
  all_goals first | rfl | simp_all
theorem g243_6 (d : Nat) (M : mM) : ev prog (d + 5) 243 0 6 [vr 79, vj] [] (shp, M) = some (.inl (some (vi (M 80 1))), (shp, M)) := by
  rw [b243_6]
  try simp +decide only [b243_0, b243_1, b243_3, b243_5, b243_7, b243_4, b243_8, callK_r, callK_x, psh_s, psh_n, hk_0, hk_1, hk_2, hk_3, hk_4, callK_ite, bit_bi, bit_0, bit_1, eq_self, reduceIte, Int.reduceEq, Int.reduceLT, Int.reduceNeg, Nat.reduceEqDiff, ne_eq, not_false_eq_true, pu_k, mset_k, mset_j, mset_at, va_pu, va_mset, Int.reduceToNat, Int.reduceLE, and_self, true_and, and_true]
  all_goals (try rfl)
  all_goals (repeat' split)
  all_goals first | rfl | simp_all
theorem g243_8 (d : Nat) (M : mM) : ev prog (d + 5) 243 0 8 [vr 79, vj] [] (shp, M) = some (.inl (some (vi (M 80 1))), (shp, M)) := by
  rw [b243_8]
  try simp +decide only [b243_0, b243_1, b243_3, b243_5, b243_7, b243_4, b243_6, callK_r, callK_x, psh_s, psh_n, hk_0, hk_1, hk_2, hk_3, hk_4, callK_ite, bit_bi, bit_0, bit_1, eq_self, reduceIte, Int.reduceEq, Int.reduceLT, Int.reduceNeg, Nat.reduceEqDiff, ne_eq, not_false_eq_true, pu_k, mset_k, mset_j, mset_at, va_pu, va_mset, Int.reduceToNat, Int.reduceLE, and_self, true_and, and_true]
  all_goals (try rfl)
  all_goals (repeat' split)
  all_goals first | rfl | simp_all
theorem g244_0 (d : Nat) (x1 : Int) (M : mM) : ev prog (d + 6) 244 0 0 [vr 5, vi x1] [] (shp, M) = if x1 = 0 then callK (run prog (d + 5) 243 [vr 79, vi x1] (shp, M)) (fun v σ1 => ev prog (d + 6) 244 0 5 [vj, vj] (psh v []) σ1) (fun e σ1 => hk [0, 0, 0, 0, 0] e σ1 (fun t => ev prog (d + 6) 244 0 t (msk (pMask prog 244 t) [vr 5, vi x1]) [vj] σ1)) else (if x1 = 1 then callK (run prog (d + 5) 243 [vr 79, vi x1] (shp, M)) (fun v σ1 => ev prog (d + 6) 244 0 5 [vj, vj] (psh v []) σ1) (fun e σ1 => hk [0, 0, 0, 0, 0] e σ1 (fun t => ev prog (d + 6) 244 0 t (msk (pMask prog 244 t) [vr 5, vi x1]) [vj] σ1)) else (if x1 = 2 then callK (run prog (d + 5) 243 [vr 79, vi x1] (shp, M)) (fun v σ1 => ev prog (d + 6) 244 0 5 [vj, vj] (psh v []) σ1) (fun e σ1 => hk [0, 0, 0, 0, 0] e σ1 (fun t => ev prog (d + 6) 244 0 t (msk (pMask prog 244 t) [vr 5, vi x1]) [vj] σ1)) else some (.inr 0, (shp, M)))) := by
  rw [b244_0]
  try simp +decide only [b244_4, b244_1, b244_5, b244_2, b244_3, callK_r, callK_x, psh_s, psh_n, hk_0, hk_1, hk_2, hk_3, hk_4, callK_ite, bit_bi, bit_0, bit_1, eq_self, reduceIte, Int.reduceEq, Int.reduceLT, Int.reduceNeg, Nat.reduceEqDiff, ne_eq, not_false_eq_true, pu_k, mset_k, mset_j, mset_at, va_pu, va_mset, Int.reduceToNat, Int.reduceLE, and_self, true_and, and_true]
  all_goals (try rfl)
  all_goals (repeat' split)
  all_goals first | rfl | simp_all
theorem g244_5 (d : Nat) (s0 : Int) (M : mM) : ev prog (d + 6) 244 0 5 [vj, vj] [vi s0] (shp, M) = some (.inl (some (vi s0)), (shp, M)) := by
  rw [b244_5]
  try simp +decide only [b244_0, b244_4, b244_1, b244_2, b244_3, callK_r, callK_x, psh_s, psh_n, hk_0, hk_1, hk_2, hk_3, hk_4, callK_ite, bit_bi, bit_0, bit_1, eq_self, reduceIte, Int.reduceEq, Int.reduceLT, Int.reduceNeg, Nat.reduceEqDiff, ne_eq, not_false_eq_true, pu_k, mset_k, mset_j, mset_at, va_pu, va_mset, Int.reduceToNat, Int.reduceLE, and_self, true_and, and_true]
  all_goals (try rfl)
  all_goals (repeat' split)
  all_goals first | rfl | simp_all
theorem g246_0 (d : Nat) (x1 : Int) (M : mM) : ev prog (d + 1) 246 0 0 [vr 87, vi x1] [] (shp, M) = if 0 ≤ (wr (1000 + x1)) ∧ (wr (1000 + x1)) < 2031 then (if (M 88 (Int.toNat (wr (1000 + x1)))) = 1 then (if 0 ≤ (M 87 10) ∧ (M 87 10) < 200 then some (.inl none, (shp, mset (mset M 93 (Int.toNat (M 87 10)) x1) 87 10 (wr ((M 87 10) + 1)))) else none) else some (.inl none, (shp, M))) else none := by
  rw [b246_0]
  try simp +decide only [b246_1, b246_4, b246_2, b246_3, callK_r, callK_x, psh_s, psh_n, hk_0, hk_1, hk_2, hk_3, hk_4, callK_ite, bit_bi, bit_0, bit_1, eq_self, reduceIte, Int.reduceEq, Int.reduceLT, Int.reduceNeg, Nat.reduceEqDiff, ne_eq, not_false_eq_true, pu_k, mset_k, mset_j, mset_at, va_pu, va_mset, Int.reduceToNat, Int.reduceLE, and_self, true_and, and_true]
  all_goals (try rfl)
  all_goals (repeat' split)
  all_goals first | rfl | simp_all
theorem g247_0 (d : Nat) (x1 : Int) (M : mM) : ev prog (d + 2) 247 0 0 [vr 87, vi x1] [] (shp, M) = if x1 < 0 then some (.inl none, (shp, M)) else callK (run prog (d + 1) 246 [vr 87, vi x1] (shp, M)) (fun v σ1 => ev prog (d + 2) 247 0 3 [vr 87, vi x1] (psh v []) σ1) (fun e σ1 => hk [0, 0, 0, 0, 0] e σ1 (fun t => ev prog (d + 2) 247 0 t (msk (pMask prog 247 t) [vr 87, vi x1]) [vj] σ1)) := by
  rw [b247_0]
  try simp +decide only [b247_2, b247_1, b247_3, b247_4, b247_5, b247_6, b247_7, callK_r, callK_x, psh_s, psh_n, hk_0, hk_1, hk_2, hk_3, hk_4, callK_ite, bit_bi, bit_0, bit_1, eq_self, reduceIte, Int.reduceEq, Int.reduceLT, Int.reduceNeg, Nat.reduceEqDiff, ne_eq, not_false_eq_true, pu_k, mset_k, mset_j, mset_at, va_pu, va_mset, Int.reduceToNat, Int.reduceLE, and_self, true_and, and_true]
  all_goals (try rfl)
  all_goals (repeat' split)
  all_goals first | rfl | simp_all
theorem g247_3 (d : Nat) (x1 : Int) (M : mM) : ev prog (d + 2) 247 0 3 [vr 87, vi x1] [] (shp, M) = if 0 ≤ (wr (1400 + x1)) ∧ (wr (1400 + x1)) < 2031 then callK (run prog (d + 1) 247 [vr 87, vi (M 88 (Int.toNat (wr (1400 + x1))))] (shp, M)) (fun v σ1 => ev prog (d + 2) 247 0 5 [vr 87, vi x1] (psh v []) σ1) (fun e σ1 => hk [0, 0, 0, 0, 0] e σ1 (fun t => ev prog (d + 2) 247 0 t (msk (pMask prog 247 t) [vr 87, vi x1]) [vj] σ1)) else none := by
  rw [b247_3]
  try simp +decide only [b247_0, b247_2, b247_1, b247_4, b247_5, b247_6, b247_7, callK_r, callK_x, psh_s, psh_n, hk_0, hk_1, hk_2, hk_3, hk_4, callK_ite, bit_bi, bit_0, bit_1, eq_self, reduceIte, Int.reduceEq, Int.reduceLT, Int.reduceNeg, Nat.reduceEqDiff, ne_eq, not_false_eq_true, pu_k, mset_k, mset_j, mset_at, va_pu, va_mset, Int.reduceToNat, Int.reduceLE, and_self, true_and, and_true]
  all_goals (try rfl)
  all_goals (repeat' split)
  all_goals first | rfl | simp_all
theorem g247_5 (d : Nat) (x1 : Int) (M : mM) : ev prog (d + 2) 247 0 5 [vr 87, vi x1] [] (shp, M) = if 0 ≤ (wr (1600 + x1)) ∧ (wr (1600 + x1)) < 2031 then callK (run prog (d + 1) 247 [vr 87, vi (M 88 (Int.toNat (wr (1600 + x1))))] (shp, M)) (fun v σ1 => ev prog (d + 2) 247 0 7 [vj, vj] (psh v []) σ1) (fun e σ1 => hk [0, 0, 0, 0, 0] e σ1 (fun t => ev prog (d + 2) 247 0 t (msk (pMask prog 247 t) [vj, vj]) [vj] σ1)) else none := by
  rw [b247_5]
  try simp +decide only [b247_0, b247_2, b247_1, b247_3, b247_4, b247_6, b247_7, callK_r, callK_x, psh_s, psh_n, hk_0, hk_1, hk_2, hk_3, hk_4, callK_ite, bit_bi, bit_0, bit_1, eq_self, reduceIte, Int.reduceEq, Int.reduceLT, Int.reduceNeg, Nat.reduceEqDiff, ne_eq, not_false_eq_true, pu_k, mset_k, mset_j, mset_at, va_pu, va_mset, Int.reduceToNat, Int.reduceLE, and_self, true_and, and_true]
  all_goals (try rfl)
  all_goals (repeat' split)
  all_goals first | rfl | simp_all
theorem g247_7 (d : Nat) (M : mM) : ev prog (d + 2) 247 0 7 [vj, vj] [] (shp, M) = some (.inl none, (shp, M)) := by
  rw [b247_7]
  try simp +decide only [b247_0, b247_2, b247_1, b247_3, b247_4, b247_5, b247_6, callK_r, callK_x, psh_s, psh_n, hk_0, hk_1, hk_2, hk_3, hk_4, callK_ite, bit_bi, bit_0, bit_1, eq_self, reduceIte, Int.reduceEq, Int.reduceLT, Int.reduceNeg, Nat.reduceEqDiff, ne_eq, not_false_eq_true, pu_k, mset_k, mset_j, mset_at, va_pu, va_mset, Int.reduceToNat, Int.reduceLE, and_self, true_and, and_true]
  all_goals (try rfl)
  all_goals (repeat' split)
  all_goals first | rfl | simp_all
theorem g248_0 (d : Nat) (x1 : Int) (M : mM) : ev prog (d + 2) 248 0 0 [vr 87, vi x1] [] (shp, M) = if x1 < 0 then some (.inl none, (shp, M)) else (if 0 ≤ (wr (1400 + x1)) ∧ (wr (1400 + x1)) < 2031 then callK (run prog (d + 1) 248 [vr 87, vi (M 88 (Int.toNat (wr (1400 + x1))))] (shp, M)) (fun v σ1 => ev prog (d + 2) 248 0 4 [vr 87, vi x1] (psh v []) σ1) (fun e σ1 => hk [0, 0, 0, 0, 0] e σ1 (fun t => ev prog (d + 2) 248 0 t (msk (pMask prog 248 t) [vr 87, vi x1]) [vj] σ1)) else none) := by
  rw [b248_0]
  try simp +decide only [b248_2, b248_1, b248_3, b248_4, b248_5, b248_6, b248_7, callK_r, callK_x, psh_s, psh_n, hk_0, hk_1, hk_2, hk_3, hk_4, callK_ite, bit_bi, bit_0, bit_1, eq_self, reduceIte, Int.reduceEq, Int.reduceLT, Int.reduceNeg, Nat.reduceEqDiff, ne_eq, not_false_eq_true, pu_k, mset_k, mset_j, mset_at, va_pu, va_mset, Int.reduceToNat, Int.reduceLE, and_self, true_and, and_true]
  all_goals (try rfl)
  all_goals (repeat' split)
  all_goals first | rfl | simp_all
theorem g248_4 (d : Nat) (x1 : Int) (M : mM) : ev prog (d + 2) 248 0 4 [vr 87, vi x1] [] (shp, M) = callK (run prog (d + 1) 246 [vr 87, vi x1] (shp, M)) (fun v σ1 => ev prog (d + 2) 248 0 5 [vr 87, vi x1] (psh v []) σ1) (fun e σ1 => hk [0, 0, 0, 0, 0] e σ1 (fun t => ev prog (d + 2) 248 0 t (msk (pMask prog 248 t) [vr 87, vi x1]) [vj] σ1)) := by
  rw [b248_4]
  try simp +decide only [b248_0, b248_2, b248_1, b248_3, b248_5, b248_6, b248_7, callK_r, callK_x, psh_s, psh_n, hk_0, hk_1, hk_2, hk_3, hk_4, callK_ite, bit_bi, bit_0, bit_1, eq_self, reduceIte, Int.reduceEq, Int.reduceLT, Int.reduceNeg, Nat.reduceEqDiff, ne_eq, not_false_eq_true, pu_k, mset_k, mset_j, mset_at, va_pu, va_mset, Int.reduceToNat, Int.reduceLE, and_self, true_and, and_true]
  all_goals (try rfl)
  all_goals (repeat' split)
  all_goals first | rfl | simp_all
theorem g248_5 (d : Nat) (x1 : Int) (M : mM) : ev prog (d + 2) 248 0 5 [vr 87, vi x1] [] (shp, M) = if 0 ≤ (wr (1600 + x1)) ∧ (wr (1600 + x1)) < 2031 then callK (run prog (d + 1) 248 [vr 87, vi (M 88 (Int.toNat (wr (1600 + x1))))] (shp, M)) (fun v σ1 => ev prog (d + 2) 248 0 7 [vj, vj] (psh v []) σ1) (fun e σ1 => hk [0, 0, 0, 0, 0] e σ1 (fun t => ev prog (d + 2) 248 0 t (msk (pMask prog 248 t) [vj, vj]) [vj] σ1)) else none := by
  rw [b248_5]
  try simp +decide only [b248_0, b248_2, b248_1, b248_3, b248_4, b248_6, b248_7, callK_r, callK_x, psh_s, psh_n, hk_0, hk_1, hk_2, hk_3, hk_4, callK_ite, bit_bi, bit_0, bit_1, eq_self, reduceIte, Int.reduceEq, Int.reduceLT, Int.reduceNeg, Nat.reduceEqDiff, ne_eq, not_false_eq_true, pu_k, mset_k, mset_j, mset_at, va_pu, va_mset, Int.reduceToNat, Int.reduceLE, and_self, true_and, and_true]
  all_goals (try rfl)
  all_goals (repeat' split)
  all_goals first | rfl | simp_all
theorem g248_7 (d : Nat) (M : mM) : ev prog (d + 2) 248 0 7 [vj, vj] [] (shp, M) = some (.inl none, (shp, M)) := by
  rw [b248_7]
  try simp +decide only [b248_0, b248_2, b248_1, b248_3, b248_4, b248_5, b248_6, callK_r, callK_x, psh_s, psh_n, hk_0, hk_1, hk_2, hk_3, hk_4, callK_ite, bit_bi, bit_0, bit_1, eq_self, reduceIte, Int.reduceEq, Int.reduceLT, Int.reduceNeg, Nat.reduceEqDiff, ne_eq, not_false_eq_true, pu_k, mset_k, mset_j, mset_at, va_pu, va_mset, Int.reduceToNat, Int.reduceLE, and_self, true_and, and_true]
  all_goals (try rfl)
  all_goals (repeat' split)
  all_goals first | rfl | simp_all
theorem g249_0 (d : Nat) (x1 : Int) (x2 : Int) (M : mM) : ev prog (d + 2) 249 0 0 [vr 87, vi x1, vi x2] [] (shp, M) = if x1 < 0 then some (.inl none, (shp, M)) else (if x2 = 0 then callK (run prog (d + 1) 246 [vr 87, vi x1] (shp, M)) (fun v σ1 => ev prog (d + 2) 249 0 4 [vj, vj, vj] (psh v []) σ1) (fun e σ1 => hk [0, 0, 0, 0, 0] e σ1 (fun t => ev prog (d + 2) 249 0 t (msk (pMask prog 249 t) [vr 87, vi x1, vj]) [vj] σ1)) else (if 0 ≤ (wr (1400 + x1)) ∧ (wr (1400 + x1)) < 2031 then callK (run prog (d + 1) 249 [vr 87, vi (M 88 (Int.toNat (wr (1400 + x1)))), vi (wr (x2 - 1))] (shp, M)) (fun v σ1 => ev prog (d + 2) 249 0 7 [vr 87, vi x1, vi x2] (psh v []) σ1) (fun e σ1 => hk [0, 0, 0, 0, 0] e σ1 (fun t => ev prog (d + 2) 249 0 t (msk (pMask prog 249 t) [vr 87, vi x1, vi x2]) [vj] σ1)) else none)) := by
  rw [b249_0]
  try simp +decide only [b249_2, b249_1, b249_5, b249_3, b249_6, b249_4, b249_7, b249_8, b249_9, callK_r, callK_x, psh_s, psh_n, hk_0, hk_1, hk_2, hk_3, hk_4, callK_ite, bit_bi, bit_0, bit_1, eq_self, reduceIte, Int.reduceEq, Int.reduceLT, Int.reduceNeg, Nat.reduceEqDiff, ne_eq, not_false_eq_true, pu_k, mset_k, mset_j, mset_at, va_pu, va_mset, Int.reduceToNat, Int.reduceLE, and_self, true_and, and_true]
  all_goals (try rfl)
  all_goals (repeat' split)
  all_goals first | rfl | simp_all
theorem g249_4 (d : Nat) (M : mM) : ev prog (d + 2) 249 0 4 [vj, vj, vj] [] (shp, M) = some (.inl none, (shp, M)) := by
  rw [b249_4]
  try simp +decide only [b249_0, b249_2, b249_1, b249_5, b249_3, b249_6, b249_7, b249_8, b249_9, callK_r, callK_x, psh_s, psh_n, hk_0, hk_1, hk_2, hk_3, hk_4, callK_ite, bit_bi, bit_0, bit_1, eq_self, reduceIte, Int.reduceEq, Int.reduceLT, Int.reduceNeg, Nat.reduceEqDiff, ne_eq, not_false_eq_true, pu_k, mset_k, mset_j, mset_at, va_pu, va_mset, Int.reduceToNat, Int.reduceLE, and_self, true_and, and_true]
  all_goals (try rfl)
  all_goals (repeat' split)
  all_goals first | rfl | simp_all
theorem g249_7 (d : Nat) (x1 : Int) (x2 : Int) (M : mM) : ev prog (d + 2) 249 0 7 [vr 87, vi x1, vi x2] [] (shp, M) = if 0 ≤ (wr (1600 + x1)) ∧ (wr (1600 + x1)) < 2031 then callK (run prog (d + 1) 249 [vr 87, vi (M 88 (Int.toNat (wr (1600 + x1)))), vi (wr (x2 - 1))] (shp, M)) (fun v σ1 => ev prog (d + 2) 249 0 9 [vj, vj, vj] (psh v []) σ1) (fun e σ1 => hk [0, 0, 0, 0, 0] e σ1 (fun t => ev prog (d + 2) 249 0 t (msk (pMask prog 249 t) [vj, vj, vi x2]) [vj] σ1)) else none := by
  rw [b249_7]
  try simp +decide only [b249_0, b249_2, b249_1, b249_5, b249_3, b249_6, b249_4, b249_8, b249_9, callK_r, callK_x, psh_s, psh_n, hk_0, hk_1, hk_2, hk_3, hk_4, callK_ite, bit_bi, bit_0, bit_1, eq_self, reduceIte, Int.reduceEq, Int.reduceLT, Int.reduceNeg, Nat.reduceEqDiff, ne_eq, not_false_eq_true, pu_k, mset_k, mset_j, mset_at, va_pu, va_mset, Int.reduceToNat, Int.reduceLE, and_self, true_and, and_true]
  all_goals (try rfl)
  all_goals (repeat' split)
  all_goals first | rfl | simp_all
theorem g249_9 (d : Nat) (M : mM) : ev prog (d + 2) 249 0 9 [vj, vj, vj] [] (shp, M) = some (.inl none, (shp, M)) := by
  rw [b249_9]
  try simp +decide only [b249_0, b249_2, b249_1, b249_5, b249_3, b249_6, b249_4, b249_7, b249_8, callK_r, callK_x, psh_s, psh_n, hk_0, hk_1, hk_2, hk_3, hk_4, callK_ite, bit_bi, bit_0, bit_1, eq_self, reduceIte, Int.reduceEq, Int.reduceLT, Int.reduceNeg, Nat.reduceEqDiff, ne_eq, not_false_eq_true, pu_k, mset_k, mset_j, mset_at, va_pu, va_mset, Int.reduceToNat, Int.reduceLE, and_self, true_and, and_true]
  all_goals (try rfl)
  all_goals (repeat' split)
  all_goals first | rfl | simp_all
theorem g250_0 (d : Nat) (x1 : Int) (M : mM) : ev prog (d + 2) 250 0 0 [vr 87, vi x1, vj] [] (shp, M) = if (bi (p51 x1 0 2 (mset M 87 3 0))) = 0 then some (.inl (some (vi 0)), (shp, mset (mset M 87 3 0) 87 3 1)) else (if x1 = 0 then callK (run prog (d + 1) 247 [vr 87, vi (M 88 2000)] (shp, mset (mset (mset (mset M 87 3 0) 87 10 0) 87 11 0) 87 8 1)) (fun v σ1 => ev prog (d + 2) 250 0 7 [vr 87, vi x1, vj] (psh v []) σ1) (fun e σ1 => hk [0, 0, 0, 0, 0] e σ1 (fun t => ev prog (d + 2) 250 0 t (msk (pMask prog 250 t) [vr 87, vi x1, vj]) [vj] σ1)) else (if x1 = 1 then callK (run prog (d + 1) 248 [vr 87, vi (M 88 2000)] (shp, mset (mset (mset (mset M 87 3 0) 87 10 0) 87 11 0) 87 8 1)) (fun v σ1 => ev prog (d + 2) 250 0 11 [vr 87, vi x1, vj] (psh v []) σ1) (fun e σ1 => hk [0, 0, 0, 0, 0] e σ1 (fun t => ev prog (d + 2) 250 0 t (msk (pMask prog 250 t) [vr 87, vi x1, vj]) [vj] σ1)) else ev prog (d + 2) 250 0 12 [vr 87, vi x1, vi 0] [] (shp, mset (mset (mset (mset M 87 3 0) 87 10 0) 87 11 0) 87 8 1))) := by
  rw [b250_0]
  try simp +decide only [b250_1, b250_4, b250_2, b250_8, b250_5, b250_3, b250_11, b250_9, b250_6, b250_10, b250_7, b250_19, b250_13, b250_14, b250_15, b250_16, b250_17, b250_18, s53, s51, o53, callK_r, callK_x, psh_s, psh_n, hk_0, hk_1, hk_2, hk_3, hk_4, callK_ite, bit_bi, bit_0, bit_1, eq_self, reduceIte, Int.reduceEq, Int.reduceLT, Int.reduceNeg, Nat.reduceEqDiff, ne_eq, not_false_eq_true, pu_k, mset_k, mset_j, mset_at, va_pu, va_mset, Int.reduceToNat, Int.reduceLE, and_self, true_and, and_true]
  all_goals (try rfl)
  all_goals (repeat' split)
  all_goals first | rfl | simp_all
theorem g250_7 (d : Nat) (x1 : Int) (M : mM) : ev prog (d + 2) 250 0 7 [vr 87, vi x1, vj] [] (shp, M) = ev prog (d + 2) 250 0 12 [vr 87, vi x1, vi 0] [] (shp, M) := by
  rw [b250_7]
  try simp +decide only [b250_0, b250_1, b250_4, b250_2, b250_8, b250_5, b250_3, b250_11, b250_9, b250_6, b250_10, b250_19, b250_13, b250_14, b250_15, b250_16, b250_17, b250_18, callK_r, callK_x, psh_s, psh_n, hk_0, hk_1, hk_2, hk_3, hk_4, callK_ite, bit_bi, bit_0, bit_1, eq_self, reduceIte, Int.reduceEq, Int.reduceLT, Int.reduceNeg, Nat.reduceEqDiff, ne_eq, not_false_eq_true, pu_k, mset_k, mset_j, mset_at, va_pu, va_mset, Int.reduceToNat, Int.reduceLE, and_self, true_and, and_true]
  all_goals (try rfl)
  all_goals (repeat' split)
  all_goals first | rfl | simp_all
theorem g250_11 (d : Nat) (x1 : Int) (M : mM) : ev prog (d + 2) 250 0 11 [vr 87, vi x1, vj] [] (shp, M) = ev prog (d + 2) 250 0 12 [vr 87, vi x1, vi 0] [] (shp, M) := by
  rw [b250_11]
  try simp +decide only [b250_0, b250_1, b250_4, b250_2, b250_8, b250_5, b250_3, b250_9, b250_6, b250_10, b250_7, b250_19, b250_13, b250_14, b250_15, b250_16, b250_17, b250_18, callK_r, callK_x, psh_s, psh_n, hk_0, hk_1, hk_2, hk_3, hk_4, callK_ite, bit_bi, bit_0, bit_1, eq_self, reduceIte, Int.reduceEq, Int.reduceLT, Int.reduceNeg, Nat.reduceEqDiff, ne_eq, not_false_eq_true, pu_k, mset_k, mset_j, mset_at, va_pu, va_mset, Int.reduceToNat, Int.reduceLE, and_self, true_and, and_true]
  all_goals (try rfl)
  all_goals (repeat' split)
  all_goals first | rfl | simp_all
theorem g250_12 (d : Nat) (x1 : Int) (x2 : Int) (M : mM) : ev prog (d + 2) 250 0 12 [vr 87, vi x1, vi x2] [] (shp, M) = if x1 = 2 then callK (run prog (d + 1) 118 [vr 87, vi (M 88 2000)] (shp, M)) (fun v σ1 => ev prog (d + 2) 250 0 15 [vr 87, vi x1, vi x2] (psh v [vi x2]) σ1) (fun e σ1 => hk [0, 0, 0, 0, 0] e σ1 (fun t => ev prog (d + 2) 250 0 t (msk (pMask prog 250 t) [vr 87, vi x1, vi x2]) [vj] σ1)) else some (.inl (some (vi (M 87 10))), (shp, M)) := by
  rw [b250_12]
  try simp +decide only [b250_0, b250_1, b250_4, b250_2, b250_8, b250_5, b250_3, b250_11, b250_9, b250_6, b250_10, b250_7, b250_19, b250_13, b250_14, b250_15, b250_16, b250_17, b250_18, callK_r, callK_x, psh_s, psh_n, hk_0, hk_1, hk_2, hk_3, hk_4, callK_ite, bit_bi, bit_0, bit_1, eq_self, reduceIte, Int.reduceEq, Int.reduceLT, Int.reduceNeg, Nat.reduceEqDiff, ne_eq, not_false_eq_true, pu_k, mset_k, mset_j, mset_at, va_pu, va_mset, Int.reduceToNat, Int.reduceLE, and_self, true_and, and_true]
  all_goals (try rfl)
  all_goals (repeat' split)
  all_goals first | rfl | simp_all
theorem g250_15 (d : Nat) (x1 : Int) (x2 : Int) (s0 : Int) (s1 : Int) (M : mM) : ev prog (d + 2) 250 0 15 [vr 87, vi x1, vi x2] [vi s1, vi s0] (shp, M) = if s0 < s1 then callK (run prog (d + 1) 249 [vr 87, vi (M 88 2000), vi x2] (shp, M)) (fun v σ1 => ev prog (d + 2) 250 0 18 [vr 87, vi x1, vi x2] (psh v []) σ1) (fun e σ1 => hk [0, 0, 0, 0, 0] e σ1 (fun t => ev prog (d + 2) 250 0 t (msk (pMask prog 250 t) [vr 87, vi x1, vi x2]) [vj] σ1)) else some (.inl (some (vi (M 87 10))), (shp, M)) := by
  rw [b250_15]
  try simp +decide only [b250_0, b250_1, b250_4, b250_2, b250_8, b250_5, b250_3, b250_11, b250_9, b250_6, b250_10, b250_7, b250_19, b250_13, b250_14, b250_16, b250_17, b250_18, callK_r, callK_x, psh_s, psh_n, hk_0, hk_1, hk_2, hk_3, hk_4, callK_ite, bit_bi, bit_0, bit_1, eq_self, reduceIte, Int.reduceEq, Int.reduceLT, Int.reduceNeg, Nat.reduceEqDiff, ne_eq, not_false_eq_true, pu_k, mset_k, mset_j, mset_at, va_pu, va_mset, Int.reduceToNat, Int.reduceLE, and_self, true_and, and_true]
  all_goals (try rfl)
  all_goals (repeat' split)
  all_goals first | rfl | simp_all
theorem g250_18 (d : Nat) (x1 : Int) (x2 : Int) (M : mM) : ev prog (d + 2) 250 0 18 [vr 87, vi x1, vi x2] [] (shp, M) = ev prog (d + 2) 250 0 12 [vr 87, vi x1, vi (wr (x2 + 1))] [] (shp, M) := by
  rw [b250_18]
  try simp +decide only [b250_0, b250_1, b250_4, b250_2, b250_8, b250_5, b250_3, b250_11, b250_9, b250_6, b250_10, b250_7, b250_19, b250_13, b250_14, b250_15, b250_16, b250_17, callK_r, callK_x, psh_s, psh_n, hk_0, hk_1, hk_2, hk_3, hk_4, callK_ite, bit_bi, bit_0, bit_1, eq_self, reduceIte, Int.reduceEq, Int.reduceLT, Int.reduceNeg, Nat.reduceEqDiff, ne_eq, not_false_eq_true, pu_k, mset_k, mset_j, mset_at, va_pu, va_mset, Int.reduceToNat, Int.reduceLE, and_self, true_and, and_true]
  all_goals (try rfl)
  all_goals (repeat' split)
  all_goals first | rfl | simp_all
theorem g259_0 (d : Nat) (M : mM) : ev prog (d + 2) 259 0 0 [vr 87] [] (shp, M) = if (M 87 8) = 0 then some (.inl (some (vi 0)), (shp, mset (mset M 87 3 0) 87 3 1)) else (if (M 87 11) = (M 87 10) then some (.inl (some (vi 0)), (shp, mset (mset M 87 3 0) 87 3 2)) else (if 0 ≤ (wr ((wr ((M 87 11) + 1)) - 1)) ∧ (wr ((wr ((M 87 11) + 1)) - 1)) < 200 then some (.inl (some (vi (M 93 (Int.toNat (wr ((wr ((M 87 11) + 1)) - 1)))))), (shp, mset (mset M 87 3 0) 87 11 (wr ((M 87 11) + 1)))) else none)) := by
  rw [b259_0]
  try simp +decide only [b259_3, b259_1, b259_6, b259_4, b259_2, b259_7, b259_5, s53, o53, callK_r, callK_x, psh_s, psh_n, hk_0, hk_1, hk_2, hk_3, hk_4, callK_ite, bit_bi, bit_0, bit_1, eq_self, reduceIte, Int.reduceEq, Int.reduceLT, Int.reduceNeg, Nat.reduceEqDiff, ne_eq, not_false_eq_true, pu_k, mset_k, mset_j, mset_at, va_pu, va_mset, Int.reduceToNat, Int.reduceLE, and_self, true_and, and_true]
  all_goals (try rfl)
  all_goals (repeat' split)
  all_goals first | rfl | simp_all
theorem g260_0 (d : Nat) (x1 : Int) (M : mM) : ev prog (d + 1) 260 0 0 [vr 84, vi x1] [] (shp, M) = if (M 84 2) < 0 then some (.inl none, (shp, M)) else (if (M 84 2) < 90 then (if (0 ≤ (M 84 2) ∧ (M 84 2) < 90) ∧ 0 ≤ x1 ∧ x1 < 65536 then some (.inl none, (shp, mset (mset M 85 (Int.toNat (M 84 2)) x1) 84 2 (wr ((M 84 2) + 1)))) else none) else some (.inl none, (shp, M))) := by
  rw [b260_0]
  try simp +decide only [b260_5, b260_1, b260_2, b260_3, b260_4, callK_r, callK_x, psh_s, psh_n, hk_0, hk_1, hk_2, hk_3, hk_4, callK_ite, bit_bi, bit_0, bit_1, eq_self, reduceIte, Int.reduceEq, Int.reduceLT, Int.reduceNeg, Nat.reduceEqDiff, ne_eq, not_false_eq_true, pu_k, mset_k, mset_j, mset_at, va_pu, va_mset, Int.reduceToNat, Int.reduceLE, and_self, true_and, and_true]
  all_goals (try rfl)
  all_goals (repeat' split)
  all_goals first | rfl | simp_all
theorem g261_0 (d : Nat) (x1 : Int) (M : mM) : ev prog (d + 2) 261 0 0 [vr 5, vi x1] [] (shp, M) = if (M 84 2) < 90 then callK (run prog (d + 1) 260 [vr 84, vi x1] (shp, M)) (fun v σ1 => ev prog (d + 2) 261 0 3 [vj, vj] (psh v []) σ1) (fun e σ1 => hk [0, 0, 0, 0, 0] e σ1 (fun t => ev prog (d + 2) 261 0 t (msk (pMask prog 261 t) [vr 5, vi x1]) [vj] σ1)) else some (.inr 1, (shp, M)) := by
  rw [b261_0]
  try simp +decide only [b261_2, b261_1, b261_3, callK_r, callK_x, psh_s, psh_n, hk_0, hk_1, hk_2, hk_3, hk_4, callK_ite, bit_bi, bit_0, bit_1, eq_self, reduceIte, Int.reduceEq, Int.reduceLT, Int.reduceNeg, Nat.reduceEqDiff, ne_eq, not_false_eq_true, pu_k, mset_k, mset_j, mset_at, va_pu, va_mset, Int.reduceToNat, Int.reduceLE, and_self, true_and, and_true]
  all_goals (try rfl)
  all_goals (repeat' split)
  all_goals first | rfl | simp_all
theorem g261_3 (d : Nat) (M : mM) : ev prog (d + 2) 261 0 3 [vj, vj] [] (shp, M) = some (.inl none, (shp, M)) := by
  rw [b261_3]
  try simp +decide only [b261_0, b261_2, b261_1, callK_r, callK_x, psh_s, psh_n, hk_0, hk_1, hk_2, hk_3, hk_4, callK_ite, bit_bi, bit_0, bit_1, eq_self, reduceIte, Int.reduceEq, Int.reduceLT, Int.reduceNeg, Nat.reduceEqDiff, ne_eq, not_false_eq_true, pu_k, mset_k, mset_j, mset_at, va_pu, va_mset, Int.reduceToNat, Int.reduceLE, and_self, true_and, and_true]
  all_goals (try rfl)
  all_goals (repeat' split)
  all_goals first | rfl | simp_all
theorem g263_0 (d : Nat) (x1 : Int) (M : mM) : ev prog (d + 1) 263 0 0 [vr 87, vi x1] [] (shp, M) = if (M 87 13) = 90 then some (.inl none, (shp, mset (mset M 87 3 0) 87 3 1)) else (if 0 ≤ (M 87 13) ∧ (M 87 13) < 90 then some (.inl none, (shp, mset (mset (mset M 87 3 0) 94 (Int.toNat (M 87 13)) x1) 87 13 (wr ((M 87 13) + 1)))) else none) := by
  rw [b263_0]
  try simp +decide only [b263_2, b263_1, b263_3, callK_r, callK_x, psh_s, psh_n, hk_0, hk_1, hk_2, hk_3, hk_4, callK_ite, bit_bi, bit_0, bit_1, eq_self, reduceIte, Int.reduceEq, Int.reduceLT, Int.reduceNeg, Nat.reduceEqDiff, ne_eq, not_false_eq_true, pu_k, mset_k, mset_j, mset_at, va_pu, va_mset, Int.reduceToNat, Int.reduceLE, and_self, true_and, and_true]
  all_goals (try rfl)
  all_goals (repeat' split)
  all_goals first | rfl | simp_all
theorem g264_0 (d : Nat) (M : mM) : ev prog (d + 1) 264 0 0 [vr 84] [] (shp, M) = if (M 84 3) < 0 then some (.inl (some (vi 0)), (shp, M)) else (if (M 84 3) < (M 84 2) then (if (M 84 3) < 90 then some (.inl (some (vi 1)), (shp, M)) else some (.inl (some (vi 0)), (shp, M))) else some (.inl (some (vi 0)), (shp, M))) := by
  rw [b264_0]
  try simp +decide only [b264_5, b264_1, b264_6, b264_2, b264_3, b264_4, callK_r, callK_x, psh_s, psh_n, hk_0, hk_1, hk_2, hk_3, hk_4, callK_ite, bit_bi, bit_0, bit_1, eq_self, reduceIte, Int.reduceEq, Int.reduceLT, Int.reduceNeg, Nat.reduceEqDiff, ne_eq, not_false_eq_true, pu_k, mset_k, mset_j, mset_at, va_pu, va_mset, Int.reduceToNat, Int.reduceLE, and_self, true_and, and_true]
  all_goals (try rfl)
  all_goals (repeat' split)
  all_goals first | rfl | simp_all
theorem g265_0 (d : Nat) (x1 : Int) (M : mM) : ev prog (d + 2) 265 0 0 [vr 84, vi x1] [] (shp, M) = if (M 84 5) = (-1) then callK (run prog (d + 1) 264 [vr 84] (shp, M)) (fun v σ1 => ev prog (d + 2) 265 0 2 [vr 84, vi x1] (psh v []) σ1) (fun e σ1 => hk [0, 0, 0, 0, 0] e σ1 (fun t => ev prog (d + 2) 265 0 t (msk (pMask prog 265 t) [vr 84, vi x1]) [vj] σ1)) else some (.inl (some (vi 0)), (shp, M)) := by
  rw [b265_0]
  try simp +decide only [b265_5, b265_1, b265_2, b265_3, b265_4, b265_6, callK_r, callK_x, psh_s, psh_n, hk_0, hk_1, hk_2, hk_3, hk_4, callK_ite, bit_bi, bit_0, bit_1, eq_self, reduceIte, Int.reduceEq, Int.reduceLT, Int.reduceNeg, Nat.reduceEqDiff, ne_eq, not_false_eq_true, pu_k, mset_k, mset_j, mset_at, va_pu, va_mset, Int.reduceToNat, Int.reduceLE, and_self, true_and, and_true]
  all_goals (try rfl)
  all_goals (repeat' split)
  all_goals first | rfl | simp_all
theorem g265_2 (d : Nat) (x1 : Int) (s0 : Int) (M : mM) : ev prog (d + 2) 265 0 2 [vr 84, vi x1] [vi s0] (shp, M) = if s0 = 0 then some (.inl (some (vi 0)), (shp, M)) else (if 0 ≤ (M 84 3) ∧ (M 84 3) < 90 then (if (M 85 (Int.toNat (M 84 3))) = x1 then some (.inl (some (vi 1)), (shp, mset M 84 3 (wr ((M 84 3) + 1)))) else some (.inl (some (vi 0)), (shp, M))) else none) := by
  rw [b265_2]
  try simp +decide only [b265_0, b265_5, b265_1, b265_3, b265_4, b265_6, callK_r, callK_x, psh_s, psh_n, hk_0, hk_1, hk_2, hk_3, hk_4, callK_ite, bit_bi, bit_0, bit_1, eq_self, reduceIte, Int.reduceEq, Int.reduceLT, Int.reduceNeg, Nat.reduceEqDiff, ne_eq, not_false_eq_true, pu_k, mset_k, mset_j, mset_at, va_pu, va_mset, Int.reduceToNat, Int.reduceLE, and_self, true_and, and_true]
  all_goals (try rfl)
  all_goals (repeat' split)
  all_goals first | rfl | simp_all
theorem g267_0 (d : Nat) (x1 : Int) (M : mM) : ev prog (d + 3) 267 0 0 [vr 84, vi x1] [] (shp, M) = callK (run prog (d + 2) 265 [vr 84, vi x1] (shp, M)) (fun v σ1 => ev prog (d + 3) 267 0 1 [vr 84, vj] (psh v []) σ1) (fun e σ1 => hk [0, 0, 0, 0, 0] e σ1 (fun t => ev prog (d + 3) 267 0 t (msk (pMask prog 267 t) [vr 84, vi x1]) [vj] σ1)) := by
  rw [b267_0]
  try simp +decide only [b267_1, b267_3, b267_2, callK_r, callK_x, psh_s, psh_n, hk_0, hk_1, hk_2, hk_3, hk_4, callK_ite, bit_bi, bit_0, bit_1, eq_self, reduceIte, Int.reduceEq, Int.reduceLT, Int.reduceNeg, Nat.reduceEqDiff, ne_eq, not_false_eq_true, pu_k, mset_k, mset_j, mset_at, va_pu, va_mset, Int.reduceToNat, Int.reduceLE, and_self, true_and, and_true]
  all_goals (try rfl)
  all_goals (repeat' split)
  all_goals first | rfl | simp_all
theorem g267_1 (d : Nat) (s0 : Int) (M : mM) : ev prog (d + 3) 267 0 1 [vr 84, vj] [vi s0] (shp, M) = if s0 = 0 then callK (run prog (d + 2) 266 [vr 84] (shp, M)) (fun v σ1 => ev prog (d + 3) 267 0 3 [vj, vj] (psh v []) σ1) (fun e σ1 => hk [0, 0, 0, 0, 0] e σ1 (fun t => ev prog (d + 3) 267 0 t (msk (pMask prog 267 t) [vr 84, vj]) [vj] σ1)) else some (.inl none, (shp, M)) := by
  rw [b267_1]
  try simp +decide only [b267_0, b267_3, b267_2, callK_r, callK_x, psh_s, psh_n, hk_0, hk_1, hk_2, hk_3, hk_4, callK_ite, bit_bi, bit_0, bit_1, eq_self, reduceIte, Int.reduceEq, Int.reduceLT, Int.reduceNeg, Nat.reduceEqDiff, ne_eq, not_false_eq_true, pu_k, mset_k, mset_j, mset_at, va_pu, va_mset, Int.reduceToNat, Int.reduceLE, and_self, true_and, and_true]
  all_goals (try rfl)
  all_goals (repeat' split)
  all_goals first | rfl | simp_all
theorem g267_3 (d : Nat) (M : mM) : ev prog (d + 3) 267 0 3 [vj, vj] [] (shp, M) = some (.inl none, (shp, M)) := by
  rw [b267_3]
  try simp +decide only [b267_0, b267_1, b267_2, callK_r, callK_x, psh_s, psh_n, hk_0, hk_1, hk_2, hk_3, hk_4, callK_ite, bit_bi, bit_0, bit_1, eq_self, reduceIte, Int.reduceEq, Int.reduceLT, Int.reduceNeg, Nat.reduceEqDiff, ne_eq, not_false_eq_true, pu_k, mset_k, mset_j, mset_at, va_pu, va_mset, Int.reduceToNat, Int.reduceLE, and_self, true_and, and_true]
  all_goals (try rfl)
  all_goals (repeat' split)
  all_goals first | rfl | simp_all
theorem g268_0 (d : Nat) (M : mM) : ev prog (d + 2) 268 0 0 [vr 84] [] (shp, M) = if (M 84 5) = (-1) then callK (run prog (d + 1) 264 [vr 84] (shp, M)) (fun v σ1 => ev prog (d + 2) 268 0 2 [vr 84] (psh v []) σ1) (fun e σ1 => hk [0, 0, 0, 0, 0] e σ1 (fun t => ev prog (d + 2) 268 0 t (msk (pMask prog 268 t) [vr 84]) [vj] σ1)) else some (.inl (some (vi 0)), (shp, M)) := by
  rw [b268_0]
  try simp +decide only [b268_8, b268_1, b268_9, b268_2, b268_3, b268_4, b268_5, b268_6, b268_7, callK_r, callK_x, psh_s, psh_n, hk_0, hk_1, hk_2, hk_3, hk_4, callK_ite, bit_bi, bit_0, bit_1, eq_self, reduceIte, Int.reduceEq, Int.reduceLT, Int.reduceNeg, Nat.reduceEqDiff, ne_eq, not_false_eq_true, pu_k, mset_k, mset_j, mset_at, va_pu, va_mset, Int.reduceToNat, Int.reduceLE, and_self, true_and, and_true]
  all_goals (try rfl)
  all_goals (repeat' split)
  all_goals first | rfl | simp_all
theorem g268_2 (d : Nat) (s0 : Int) (M : mM) : ev prog (d + 2) 268 0 2 [vr 84] [vi s0] (shp, M) = if s0 = 0 then some (.inl (some (vi 0)), (shp, M)) else (if 0 ≤ (M 84 3) ∧ (M 84 3) < 90 then (if (M 85 (Int.toNat (M 84 3))) < 48 then some (.inl (some (vi 0)), (shp, M)) else (if 0 ≤ (M 84 3) ∧ (M 84 3) < 90 then (if 57 < (M 85 (Int.toNat (M 84 3))) then some (.inl (some (vi 0)), (shp, M)) else some (.inl (some (vi 1)), (shp, M))) else none)) else none) := by
  rw [b268_2]
  try simp +decide only [b268_0, b268_8, b268_1, b268_9, b268_3, b268_4, b268_5, b268_6, b268_7, callK_r, callK_x, psh_s, psh_n, hk_0, hk_1, hk_2, hk_3, hk_4, callK_ite, bit_bi, bit_0, bit_1, eq_self, reduceIte, Int.reduceEq, Int.reduceLT, Int.reduceNeg, Nat.reduceEqDiff, ne_eq, not_false_eq_true, pu_k, mset_k, mset_j, mset_at, va_pu, va_mset, Int.reduceToNat, Int.reduceLE, and_self, true_and, and_true]
  all_goals (try rfl)
  all_goals (repeat' split)
  all_goals first | rfl | simp_all
theorem g269_0 (d : Nat) (x1 : Int) (M : mM) : ev prog (d + 3) 269 0 0 [vr 84, vi x1, vj, vj] [] (shp, M) = ev prog (d + 3) 269 0 1 [vr 84, vi x1, vi 0, vi 0] [] (shp, M) := by
  rw [b269_0]
  try simp +decide only [b269_8, b269_2, b269_10, b269_9, b269_3, b269_4, b269_6, b269_5, b269_7, callK_r, callK_x, psh_s, psh_n, hk_0, hk_1, hk_2, hk_3, hk_4, callK_ite, bit_bi, bit_0, bit_1, eq_self, reduceIte, Int.reduceEq, Int.reduceLT, Int.reduceNeg, Nat.reduceEqDiff, ne_eq, not_false_eq_true, pu_k, mset_k, mset_j, mset_at, va_pu, va_mset, Int.reduceToNat, Int.reduceLE, and_self, true_and, and_true]
  all_goals (try rfl)
  all_goals (repeat' split)
  all_goals first | rfl | simp_all
theorem g269_1 (d : Nat) (x1 : Int) (x2 : Int) (x3 : Int) (M : mM) : ev prog (d + 3) 269 0 1 [vr 84, vi x1, vi x2, vi x3] [] (shp, M) = if x3 < x1 then callK (run prog (d + 2) 268 [vr 84] (shp, M)) (fun v σ1 => ev prog (d + 3) 269 0 3 [vr 84, vi x1, vi x2, vi x3] (psh v []) σ1) (fun e σ1 => hk [0, 0, 0, 0, 0] e σ1 (fun t => ev prog (d + 3) 269 0 t (msk (pMask prog 269 t) [vr 84, vi x1, vi x2, vi x3]) [vj] σ1)) else (if x3 = 0 then callK (run prog (d + 2) 266 [vr 84] (shp, M)) (fun v σ1 => ev prog (d + 3) 269 0 10 [vj, vj, vi x2, vj] (psh v []) σ1) (fun e σ1 => hk [0, 0, 0, 0, 0] e σ1 (fun t => ev prog (d + 3) 269 0 t (msk (pMask prog 269 t) [vr 84, vj, vi x2, vj]) [vj] σ1)) else some (.inl (some (vi x2)), (shp, M))) := by
  rw [b269_1]
  try simp +decide only [b269_0, b269_8, b269_2, b269_10, b269_9, b269_3, b269_4, b269_6, b269_5, b269_7, callK_r, callK_x, psh_s, psh_n, hk_0, hk_1, hk_2, hk_3, hk_4, callK_ite, bit_bi, bit_0, bit_1, eq_self, reduceIte, Int.reduceEq, Int.reduceLT, Int.reduceNeg, Nat.reduceEqDiff, ne_eq, not_false_eq_true, pu_k, mset_k, mset_j, mset_at, va_pu, va_mset, Int.reduceToNat, Int.reduceLE, and_self, true_and, and_true]
  all_goals (try rfl)
  all_goals (repeat' split)
  all_goals first | rfl | simp_all
theorem g269_3 (d : Nat) (x1 : Int) (x2 : Int) (x3 : Int) (s0 : Int) (M : mM) : ev prog (d + 3) 269 0 3 [vr 84, vi x1, vi x2, vi x3] [vi s0] (shp, M) = if s0 = 0 then (if x3 = 0 then callK (run prog (d + 2) 266 [vr 84] (shp, M)) (fun v σ1 => ev prog (d + 3) 269 0 10 [vj, vj, vi x2, vj] (psh v []) σ1) (fun e σ1 => hk [0, 0, 0, 0, 0] e σ1 (fun t => ev prog (d + 3) 269 0 t (msk (pMask prog 269 t) [vr 84, vj, vi x2, vj]) [vj] σ1)) else some (.inl (some (vi x2)), (shp, M))) else (if x3 = 0 then (if 0 ≤ (M 84 3) ∧ (M 84 3) < 90 then ev prog (d + 3) 269 0 1 [vr 84, vi x1, vi (wr ((wr (10 * x2)) + (wr ((M 85 (Int.toNat (M 84 3))) - 48)))), vi (wr (x3 + 1))] [] (shp, mset M 84 3 (wr ((M 84 3) + 1))) else none) else (if x2 = 0 then (if x3 = 0 then callK (run prog (d + 2) 266 [vr 84] (shp, M)) (fun v σ1 => ev prog (d + 3) 269 0 10 [vj, vj, vi x2, vj] (psh v []) σ1) (fun e σ1 => hk [0, 0, 0, 0, 0] e σ1 (fun t => ev prog (d + 3) 269 0 t (msk (pMask prog 269 t) [vr 84, vj, vi x2, vj]) [vj] σ1)) else some (.inl (some (vi x2)), (shp, M))) else (if 0 ≤ (M 84 3) ∧ (M 84 3) < 90 then ev prog (d + 3) 269 0 1 [vr 84, vi x1, vi (wr ((wr (10 * x2)) + (wr ((M 85 (Int.toNat (M 84 3))) - 48)))), vi (wr (x3 + 1))] [] (shp, mset M 84 3 (wr ((M 84 3) + 1))) else none))) := by
  rw [b269_3]
  try simp +decide only [b269_0, b269_8, b269_2, b269_10, b269_9, b269_4, b269_6, b269_5, b269_7, callK_r, callK_x, psh_s, psh_n, hk_0, hk_1, hk_2, hk_3, hk_4, callK_ite, bit_bi, bit_0, bit_1, eq_self, reduceIte, Int.reduceEq, Int.reduceLT, Int.reduceNeg, Nat.reduceEqDiff, ne_eq, not_false_eq_true, pu_k, mset_k, mset_j, mset_at, va_pu, va_mset, Int.reduceToNat, Int.reduceLE, and_self, true_and, and_true]
  all_goals (try rfl)
  all_goals (repeat' split)
  all_goals first | rfl | simp_all
theorem g269_10 (d : Nat) (x2 : Int) (M : mM) : ev prog (d + 3) 269 0 10 [vj, vj, vi x2, vj] [] (shp, M) = some (.inl (some (vi x2)), (shp, M)) := by
  rw [b269_10]
  try simp +decide only [b269_0, b269_8, b269_2, b269_9, b269_3, b269_4, b269_6, b269_5, b269_7, callK_r, callK_x, psh_s, psh_n, hk_0, hk_1, hk_2, hk_3, hk_4, callK_ite, bit_bi, bit_0, bit_1, eq_self, reduceIte, Int.reduceEq, Int.reduceLT, Int.reduceNeg, Nat.reduceEqDiff, ne_eq, not_false_eq_true, pu_k, mset_k, mset_j, mset_at, va_pu, va_mset, Int.reduceToNat, Int.reduceLE, and_self, true_and, and_true]
  all_goals (try rfl)
  all_goals (repeat' split)
  all_goals first | rfl | simp_all
theorem g271_0 (d : Nat) (x1 : Int) (M : mM) : ev prog (d + 4) 271 0 0 [vr 84, vi x1, vj, vj] [] (shp, M) = callK (run prog (d + 3) 265 [vr 84, vi 45] (shp, M)) (fun v σ1 => ev prog (d + 4) 271 0 1 [vr 84, vi x1, vj, vj] (psh v []) σ1) (fun e σ1 => hk [0, 0, 0, 0, 0] e σ1 (fun t => ev prog (d + 4) 271 0 t (msk (pMask prog 271 t) [vr 84, vi x1, vj, vj]) [vj] σ1)) := by
  rw [b271_0]
  try simp +decide only [b271_1, b271_2, b271_4, b271_3, b271_6, b271_5, b271_7, b271_8, callK_r, callK_x, psh_s, psh_n, hk_0, hk_1, hk_2, hk_3, hk_4, callK_ite, bit_bi, bit_0, bit_1, eq_self, reduceIte, Int.reduceEq, Int.reduceLT, Int.reduceNeg, Nat.reduceEqDiff, ne_eq, not_false_eq_true, pu_k, mset_k, mset_j, mset_at, va_pu, va_mset, Int.reduceToNat, Int.reduceLE, and_self, true_and, and_true]
  all_goals (try rfl)
  all_goals (repeat' split)
  all_goals first | rfl | simp_all
theorem g271_1 (d : Nat) (x1 : Int) (s0 : Int) (M : mM) : ev prog (d + 4) 271 0 1 [vr 84, vi x1, vj, vj] [vi s0] (shp, M) = callK (run prog (d + 3) 269 [vr 84, vi 3] (shp, M)) (fun v σ1 => ev prog (d + 4) 271 0 2 [vr 84, vi x1, vi s0, vj] (psh v []) σ1) (fun e σ1 => hk [0, 0, 0, 0, 0] e σ1 (fun t => ev prog (d + 4) 271 0 t (msk (pMask prog 271 t) [vr 84, vi x1, vi s0, vj]) [vj] σ1)) := by
  rw [b271_1]
  try simp +decide only [b271_0, b271_2, b271_4, b271_3, b271_6, b271_5, b271_7, b271_8, callK_r, callK_x, psh_s, psh_n, hk_0, hk_1, hk_2, hk_3, hk_4, callK_ite, bit_bi, bit_0, bit_1, eq_self, reduceIte, Int.reduceEq, Int.reduceLT, Int.reduceNeg, Nat.reduceEqDiff, ne_eq, not_false_eq_true, pu_k, mset_k, mset_j, mset_at, va_pu, va_mset, Int.reduceToNat, Int.reduceLE, and_self, true_and, and_true]
  all_goals (try rfl)
  all_goals (repeat' split)
  all_goals first | rfl | simp_all
theorem g271_2 (d : Nat) (x1 : Int) (x2 : Int) (s0 : Int) (M : mM) : ev prog (d + 4) 271 0 2 [vr 84, vi x1, vi x2, vj] [vi s0] (shp, M) = if 100 < s0 then (if x2 = 0 then some (.inl none, (shp, pu (mset M 84 6 1) 86 80 (wr ((wr (5 * ((mset M 84 6 1) 84 4))) + x1)) s0)) else some (.inl none, (shp, pu (mset M 84 6 1) 86 80 (wr ((wr (5 * ((mset M 84 6 1) 84 4))) + x1)) (wr (-s0))))) else (if x2 = 0 then some (.inl none, (shp, pu M 86 80 (wr ((wr (5 * (M 84 4))) + x1)) s0)) else some (.inl none, (shp, pu M 86 80 (wr ((wr (5 * (M 84 4))) + x1)) (wr (-s0))))) := by
  rw [b271_2]
  try simp +decide only [b271_0, b271_1, b271_4, b271_3, b271_6, b271_5, b271_7, b271_8, s270, o270, callK_r, callK_x, psh_s, psh_n, hk_0, hk_1, hk_2, hk_3, hk_4, callK_ite, bit_bi, bit_0, bit_1, eq_self, reduceIte, Int.reduceEq, Int.reduceLT, Int.reduceNeg, Nat.reduceEqDiff, ne_eq, not_false_eq_true, pu_k, mset_k, mset_j, mset_at, va_pu, va_mset, Int.reduceToNat, Int.reduceLE, and_self, true_and, and_true]
  all_goals (try rfl)
  all_goals (repeat' split)
  all_goals first | rfl | simp_all
theorem g272_0 (d : Nat) (M : mM) : ev prog (d + 5) 272 0 0 [vr 84, vj] [] (shp, M) = ev prog (d + 5) 272 0 1 [vr 84, vi 0] [] (shp, M) := by
  rw [b272_0]
  try simp +decide only [b272_7, b272_2, b272_8, b272_3, b272_11, b272_9, b272_5, b272_4, b272_12, b272_10, b272_6, b272_13, b272_14, b272_17, b272_15, b272_18, b272_16, b272_19, callK_r, callK_x, psh_s, psh_n, hk_0, hk_1, hk_2, hk_3, hk_4, callK_ite, bit_bi, bit_0, bit_1, eq_self, reduceIte, Int.reduceEq, Int.reduceLT, Int.reduceNeg, Nat.reduceEqDiff, ne_eq, not_false_eq_true, pu_k, mset_k, mset_j, mset_at, va_pu, va_mset, Int.reduceToNat, Int.reduceLE, and_self, true_and, and_true]
  all_goals (try rfl)
  all_goals (repeat' split)
  all_goals first | rfl | simp_all
theorem g272_1 (d : Nat) (x1 : Int) (M : mM) : ev prog (d + 5) 272 0 1 [vr 84, vi x1] [] (shp, M) = if x1 < 3 then (if (M 84 5) = (-1) then (if 0 < x1 then callK (run prog (d + 4) 267 [vr 84, vi 44] (shp, M)) (fun v σ1 => ev prog (d + 5) 272 0 5 [vr 84, vi x1] (psh v []) σ1) (fun e σ1 => hk [0, 0, 0, 0, 0] e σ1 (fun t => ev prog (d + 5) 272 0 t (msk (pMask prog 272 t) [vr 84, vi x1]) [vj] σ1)) else callK (run prog (d + 4) 271 [vr 84, vi x1] (shp, M)) (fun v σ1 => ev prog (d + 5) 272 0 6 [vr 84, vi x1] (psh v []) σ1) (fun e σ1 => hk [0, 0, 0, 0, 0] e σ1 (fun t => ev prog (d + 5) 272 0 t (msk (pMask prog 272 t) [vr 84, vi x1]) [vj] σ1))) else callK (run prog (d + 4) 265 [vr 84, vi 58] (shp, M)) (fun v σ1 => ev prog (d + 5) 272 0 8 [vr 84, vj] (psh v [vi 3, vr 84]) σ1) (fun e σ1 => hk [0, 0, 0, 0, 0] e σ1 (fun t => ev prog (d + 5) 272 0 t (msk (pMask prog 272 t) [vr 84, vj]) [vj] σ1))) else callK (run prog (d + 4) 265 [vr 84, vi 58] (shp, M)) (fun v σ1 => ev prog (d + 5) 272 0 8 [vr 84, vj] (psh v [vi 3, vr 84]) σ1) (fun e σ1 => hk [0, 0, 0, 0, 0] e σ1 (fun t => ev prog (d + 5) 272 0 t (msk (pMask prog 272 t) [vr 84, vj]) [vj] σ1)) := by
  rw [b272_1]
  try simp +decide only [b272_0, b272_7, b272_2, b272_8, b272_3, b272_11, b272_9, b272_5, b272_4, b272_12, b272_10, b272_6, b272_13, b272_14, b272_17, b272_15, b272_18, b272_16, b272_19, callK_r, callK_x, psh_s, psh_n, hk_0, hk_1, hk_2, hk_3, hk_4, callK_ite, bit_bi, bit_0, bit_1, eq_self, reduceIte, Int.reduceEq, Int.reduceLT, Int.reduceNeg, Nat.reduceEqDiff, ne_eq, not_false_eq_true, pu_k, mset_k, mset_j, mset_at, va_pu, va_mset, Int.reduceToNat, Int.reduceLE, and_self, true_and, and_true]
  all_goals (try rfl)
  all_goals (repeat' split)
  all_goals first | rfl | simp_all
theorem g272_5 (d : Nat) (x1 : Int) (M : mM) : ev prog (d + 5) 272 0 5 [vr 84, vi x1] [] (shp, M) = callK (run prog (d + 4) 271 [vr 84, vi x1] (shp, M)) (fun v σ1 => ev prog (d + 5) 272 0 6 [vr 84, vi x1] (psh v []) σ1) (fun e σ1 => hk [0, 0, 0, 0, 0] e σ1 (fun t => ev prog (d + 5) 272 0 t (msk (pMask prog 272 t) [vr 84, vi x1]) [vj] σ1)) := by
  rw [b272_5]
  try simp +decide only [b272_0, b272_7, b272_2, b272_8, b272_3, b272_11, b272_9, b272_4, b272_12, b272_10, b272_6, b272_13, b272_14, b272_17, b272_15, b272_18, b272_16, b272_19, callK_r, callK_x, psh_s, psh_n, hk_0, hk_1, hk_2, hk_3, hk_4, callK_ite, bit_bi, bit_0, bit_1, eq_self, reduceIte, Int.reduceEq, Int.reduceLT, Int.reduceNeg, Nat.reduceEqDiff, ne_eq, not_false_eq_true, pu_k, mset_k, mset_j, mset_at, va_pu, va_mset, Int.reduceToNat, Int.reduceLE, and_self, true_and, and_true]
  all_goals (try rfl)
  all_goals (repeat' split)
  all_goals first | rfl | simp_all
theorem g272_6 (d : Nat) (x1 : Int) (M : mM) : ev prog (d + 5) 272 0 6 [vr 84, vi x1] [] (shp, M) = ev prog (d + 5) 272 0 1 [vr 84, vi (wr (x1 + 1))] [] (shp, M) := by
  rw [b272_6]
  try simp +decide only [b272_0, b272_7, b272_2, b272_8, b272_3, b272_11, b272_9, b272_5, b272_4, b272_12, b272_10, b272_13, b272_14, b272_17, b272_15, b272_18, b272_16, b272_19, callK_r, callK_x, psh_s, psh_n, hk_0, hk_1, hk_2, hk_3, hk_4, callK_ite, bit_bi, bit_0, bit_1, eq_self, reduceIte, Int.reduceEq, Int.reduceLT, Int.reduceNeg, Nat.reduceEqDiff, ne_eq, not_false_eq_true, pu_k, mset_k, mset_j, mset_at, va_pu, va_mset, Int.reduceToNat, Int.reduceLE, and_self, true_and, and_true]
  all_goals (try rfl)
  all_goals (repeat' split)
  all_goals first | rfl | simp_all
theorem g272_8 (d : Nat) (s1 : Int) (s2 : Int) (M : mM) : ev prog (d + 5) 272 0 8 [vr 84, vj] [vi s2, vi s1, vr 84] (shp, M) = if s2 = 0 then callK (run prog (d + 4) 265 [vr 84, vi 35] (shp, pu M 86 80 (wr ((wr (5 * (M 84 4))) + s1)) 1)) (fun v σ1 => ev prog (d + 5) 272 0 14 [vr 84, vj] (psh v [vi 4, vr 84]) σ1) (fun e σ1 => hk [0, 0, 0, 0, 0] e σ1 (fun t => ev prog (d + 5) 272 0 t (msk (pMask prog 272 t) [vr 84, vj]) [vj] σ1)) else callK (run prog (d + 4) 269 [vr 84, vi 2] (shp, M)) (fun v σ1 => ev prog (d + 5) 272 0 10 [vr 84, vj] (psh v [vi s1, vr 84]) σ1) (fun e σ1 => hk [0, 0, 0, 0, 0] e σ1 (fun t => ev prog (d + 5) 272 0 t (msk (pMask prog 272 t) [vr 84, vj]) [vj] σ1)) := by
  rw [b272_8]
  try simp +decide only [b272_0, b272_7, b272_2, b272_3, b272_11, b272_9, b272_5, b272_4, b272_12, b272_10, b272_6, b272_13, b272_14, b272_17, b272_15, b272_18, b272_16, b272_19, s270, o270, callK_r, callK_x, psh_s, psh_n, hk_0, hk_1, hk_2, hk_3, hk_4, callK_ite, bit_bi, bit_0, bit_1, eq_self, reduceIte, Int.reduceEq, Int.reduceLT, Int.reduceNeg, Nat.reduceEqDiff, ne_eq, not_false_eq_true, pu_k, mset_k, mset_j, mset_at, va_pu, va_mset, Int.reduceToNat, Int.reduceLE, and_self, true_and, and_true]
  all_goals (try rfl)
  all_goals (repeat' split)
  all_goals first | rfl | simp_all
theorem g272_10 (d : Nat) (s1 : Int) (s2 : Int) (M : mM) : ev prog (d + 5) 272 0 10 [vr 84, vj] [vi s2, vi s1, vr 84] (shp, M) = callK (run prog (d + 4) 265 [vr 84, vi 35] (shp, pu M 86 80 (wr ((wr (5 * (M 84 4))) + s1)) s2)) (fun v σ1 => ev prog (d + 5) 272 0 14 [vr 84, vj] (psh v [vi 4, vr 84]) σ1) (fun e σ1 => hk [0, 0, 0, 0, 0] e σ1 (fun t => ev prog (d + 5) 272 0 t (msk (pMask prog 272 t) [vr 84, vj]) [vj] σ1)) := by
  rw [b272_10]
  try simp +decide only [b272_0, b272_7, b272_2, b272_8, b272_3, b272_11, b272_9, b272_5, b272_4, b272_12, b272_6, b272_13, b272_14, b272_17, b272_15, b272_18, b272_16, b272_19, s270, o270, callK_r, callK_x, psh_s, psh_n, hk_0, hk_1, hk_2, hk_3, hk_4, callK_ite, bit_bi, bit_0, bit_1, eq_self, reduceIte, Int.reduceEq, Int.reduceLT, Int.reduceNeg, Nat.reduceEqDiff, ne_eq, not_false_eq_true, pu_k, mset_k, mset_j, mset_at, va_pu, va_mset, Int.reduceToNat, Int.reduceLE, and_self, true_and, and_true]
  all_goals (try rfl)
  all_goals (repeat' split)
  all_goals first | rfl | simp_all
theorem g272_14 (d : Nat) (s1 : Int) (s2 : Int) (M : mM) : ev prog (d + 5) 272 0 14 [vr 84, vj] [vi s2, vi s1, vr 84] (shp, M) = if s2 = 0 then some (.inl none, (shp, mset (pu M 86 80 (wr ((wr (5 * (M 84 4))) + s1)) 0) 84 4 (wr ((M 84 4) + 1)))) else callK (run prog (d + 4) 269 [vr 84, vi 1] (shp, M)) (fun v σ1 => ev prog (d + 5) 272 0 16 [vr 84, vj] (psh v [vi s1, vr 84]) σ1) (fun e σ1 => hk [0, 0, 0, 0, 0] e σ1 (fun t => ev prog (d + 5) 272 0 t (msk (pMask prog 272 t) [vr 84, vj]) [vj] σ1)) := by
  rw [b272_14]
  try simp +decide only [b272_0, b272_7, b272_2, b272_8, b272_3, b272_11, b272_9, b272_5, b272_4, b272_12, b272_10, b272_6, b272_13, b272_17, b272_15, b272_18, b272_16, b272_19, s270, o270, callK_r, callK_x, psh_s, psh_n, hk_0, hk_1, hk_2, hk_3, hk_4, callK_ite, bit_bi, bit_0, bit_1, eq_self, reduceIte, Int.reduceEq, Int.reduceLT, Int.reduceNeg, Nat.reduceEqDiff, ne_eq, not_false_eq_true, pu_k, mset_k, mset_j, mset_at, va_pu, va_mset, Int.reduceToNat, Int.reduceLE, and_self, true_and, and_true]
  all_goals (try rfl)
  all_goals (repeat' split)
  all_goals first | rfl | simp_all
theorem g272_16 (d : Nat) (s1 : Int) (s2 : Int) (M : mM) : ev prog (d + 5) 272 0 16 [vr 84, vj] [vi s2, vi s1, vr 84] (shp, M) = some (.inl none, (shp, mset (pu M 86 80 (wr ((wr (5 * (M 84 4))) + s1)) s2) 84 4 (wr ((M 84 4) + 1)))) := by
  rw [b272_16]
  try simp +decide only [b272_0, b272_7, b272_2, b272_8, b272_3, b272_11, b272_9, b272_5, b272_4, b272_12, b272_10, b272_6, b272_13, b272_14, b272_17, b272_15, b272_18, b272_19, s270, o270, callK_r, callK_x, psh_s, psh_n, hk_0, hk_1, hk_2, hk_3, hk_4, callK_ite, bit_bi, bit_0, bit_1, eq_self, reduceIte, Int.reduceEq, Int.reduceLT, Int.reduceNeg, Nat.reduceEqDiff, ne_eq, not_false_eq_true, pu_k, mset_k, mset_j, mset_at, va_pu, va_mset, Int.reduceToNat, Int.reduceLE, and_self, true_and, and_true]
  all_goals (try rfl)
  all_goals (repeat' split)
  all_goals first | rfl | simp_all
theorem g273_0 (d : Nat) (M : mM) : ev prog (d + 6) 273 0 0 [vr 84, vj, vj] [] (shp, M) = ev prog (d + 6) 273 0 1 [vr 84, vi 1, vi 0] [] (shp, mset (mset (mset (mset M 84 3 0) 84 4 0) 84 5 (-1)) 84 6 0) := by
  rw [b273_0]
  try simp +decide only [b273_15, b273_2, b273_3, b273_4, b273_7, b273_5, b273_8, b273_6, b273_14, b273_9, b273_10, b273_12, b273_11, b273_13, callK_r, callK_x, psh_s, psh_n, hk_0, hk_1, hk_2, hk_3, hk_4, callK_ite, bit_bi, bit_0, bit_1, eq_self, reduceIte, Int.reduceEq, Int.reduceLT, Int.reduceNeg, Nat.reduceEqDiff, ne_eq, not_false_eq_true, pu_k, mset_k, mset_j, mset_at, va_pu, va_mset, Int.reduceToNat, Int.reduceLE, and_self, true_and, and_true]
  all_goals (try rfl)
  all_goals (repeat' split)
  all_goals first | rfl | simp_all
theorem g273_1 (d : Nat) (x1 : Int) (x2 : Int) (M : mM) : ev prog (d + 6) 273 0 1 [vr 84, vi x1, vi x2] [] (shp, M) = if x2 < 16 then (if x1 = 0 then some (.inl none, (shp, mset M 84 2 0)) else callK (run prog (d + 5) 272 [vr 84] (shp, M)) (fun v σ1 => ev prog (d + 6) 273 0 4 [vr 84, vj, vi x2] (psh v []) σ1) (fun e σ1 => hk [0, 0, 0, 0, 0] e σ1 (fun t => ev prog (d + 6) 273 0 t (msk (pMask prog 273 t) [vr 84, vj, vi x2]) [vj] σ1))) else some (.inl none, (shp, mset M 84 2 0)) := by
  rw [b273_1]
  try simp +decide only [b273_0, b273_15, b273_2, b273_3, b273_4, b273_7, b273_5, b273_8, b273_6, b273_14, b273_9, b273_10, b273_12, b273_11, b273_13, callK_r, callK_x, psh_s, psh_n, hk_0, hk_1, hk_2, hk_3, hk_4, callK_ite, bit_bi, bit_0, bit_1, eq_self, reduceIte, Int.reduceEq, Int.reduceLT, Int.reduceNeg, Nat.reduceEqDiff, ne_eq, not_false_eq_true, pu_k, mset_k, mset_j, mset_at, va_pu, va_mset, Int.reduceToNat, Int.reduceLE, and_self, true_and, and_true]
  all_goals (try rfl)
  all_goals (repeat' split)
  all_goals first | rfl | simp_all
theorem g273_4 (d : Nat) (x2 : Int) (M : mM) : ev prog (d + 6) 273 0 4 [vr 84, vj, vi x2] [] (shp, M) = if (M 84 5) = (-1) then (if (M 84 3) < (M 84 2) then callK (run prog (d + 5) 267 [vr 84, vi 59] (shp, M)) (fun v σ1 => ev prog (d + 6) 273 0 10 [vr 84, vj, vi x2] (psh v []) σ1) (fun e σ1 => hk [0, 0, 0, 0, 0] e σ1 (fun t => ev prog (d + 6) 273 0 t (msk (pMask prog 273 t) [vr 84, vj, vi x2]) [vj] σ1)) else ev prog (d + 6) 273 0 1 [vr 84, vi 0, vi (wr (x2 + 1))] [] (shp, M)) else ev prog (d + 6) 273 0 1 [vr 84, vi 0, vi (wr (x2 + 1))] [] (shp, M) := by
  rw [b273_4]
  try simp +decide only [b273_0, b273_15, b273_2, b273_3, b273_7, b273_5, b273_8, b273_6, b273_14, b273_9, b273_10, b273_12, b273_11, b273_13, callK_r, callK_x, psh_s, psh_n, hk_0, hk_1, hk_2, hk_3, hk_4, callK_ite, bit_bi, bit_0, bit_1, eq_self, reduceIte, Int.reduceEq, Int.reduceLT, Int.reduceNeg, Nat.reduceEqDiff, ne_eq, not_false_eq_true, pu_k, mset_k, mset_j, mset_at, va_pu, va_mset, Int.reduceToNat, Int.reduceLE, and_self, true_and, and_true]
  all_goals (try rfl)
  all_goals (repeat' split)
  all_goals first | rfl | simp_all
theorem g273_10 (d : Nat) (x2 : Int) (M : mM) : ev prog (d + 6) 273 0 10 [vr 84, vj, vi x2] [] (shp, M) = if (M 84 5) = (-1) then ev prog (d + 6) 273 0 1 [vr 84, vi 1, vi (wr (x2 + 1))] [] (shp, M) else ev prog (d + 6) 273 0 1 [vr 84, vi 0, vi (wr (x2 + 1))] [] (shp, M) := by
  rw [b273_10]
  try simp +decide only [b273_0, b273_15, b273_2, b273_3, b273_4, b273_7, b273_5, b273_8, b273_6, b273_14, b273_9, b273_12, b273_11, b273_13, callK_r, callK_x, psh_s, psh_n, hk_0, hk_1, hk_2, hk_3, hk_4, callK_ite, bit_bi, bit_0, bit_1, eq_self, reduceIte, Int.reduceEq, Int.reduceLT, Int.reduceNeg, Nat.reduceEqDiff, ne_eq, not_false_eq_true, pu_k, mset_k, mset_j, mset_at, va_pu, va_mset, Int.reduceToNat, Int.reduceLE, and_self, true_and, and_true]
  all_goals (try rfl)
  all_goals (repeat' split)
  all_goals first | rfl | simp_all
theorem g275_0 (d : Nat) (M : mM) : ev prog (d + 8) 275 0 0 [vr 5, vj] [] (shp, M) = callK (run prog (d + 7) 273 [vr 84] (shp, M)) (fun v σ1 => ev prog (d + 8) 275 0 1 [vr 5, vj] (psh v []) σ1) (fun e σ1 => hk [0, 0, 0, 0, 0] e σ1 (fun t => ev prog (d + 8) 275 0 t (msk (pMask prog 275 t) [vr 5, vj]) [vj] σ1)) := by
  rw [b275_0]
  try simp +decide only [b275_1, b275_3, b275_2, b275_4, b275_5, b275_7, b275_6, b275_8, b275_17, b275_10, b275_11, b275_12, b275_13, b275_14, b275_15, b275_16, callK_r, callK_x, psh_s, psh_n, hk_0, hk_1, hk_2, hk_3, hk_4, callK_ite, bit_bi, bit_0, bit_1, eq_self, reduceIte, Int.reduceEq, Int.reduceLT, Int.reduceNeg, Nat.reduceEqDiff, ne_eq, not_false_eq_true, pu_k, mset_k, mset_j, mset_at, va_pu, va_mset, Int.reduceToNat, Int.reduceLE, and_self, true_and, and_true]
  all_goals (try rfl)
  all_goals (repeat' split)
  all_goals first | rfl | simp_all
theorem g275_1 (d : Nat) (M : mM) : ev prog (d + 8) 275 0 1 [vr 5, vj] [] (shp, M) = if (M 84 5) = (-1) then (if (M 84 6) = 0 then (if (bi (p15 (M 84 4) M)) = 0 then some (.inr 1, (shp, M)) else ev prog (d + 8) 275 0 9 [vr 5, vi 0] [] (shp, mset M 79 4 0)) else some (.inr 0, (shp, M))) else some (.inr 0, (shp, M)) := by
  rw [b275_1]
  try simp +decide only [b275_0, b275_3, b275_2, b275_4, b275_5, b275_7, b275_6, b275_8, b275_17, b275_10, b275_11, b275_12, b275_13, b275_14, b275_15, b275_16, s16, s15, o16, callK_r, callK_x, psh_s, psh_n, hk_0, hk_1, hk_2, hk_3, hk_4, callK_ite, bit_bi, bit_0, bit_1, eq_self, reduceIte, Int.reduceEq, Int.reduceLT, Int.reduceNeg, Nat.reduceEqDiff, ne_eq, not_false_eq_true, pu_k, mset_k, mset_j, mset_at, va_pu, va_mset, Int.reduceToNat, Int.reduceLE, and_self, true_and, and_true]
  all_goals (try rfl)
  all_goals (repeat' split)
  all_goals first | rfl | simp_all
theorem g275_9 (d : Nat) (x1 : Int) (M : mM) : ev prog (d + 8) 275 0 9 [vr 5, vi x1] [] (shp, M) = if x1 < (M 84 4) then callK (run prog (d + 7) 48 [vr 6, vi (r274 x1 0 M), vi (r274 x1 1 M), vi (r274 x1 2 M), vi (r274 x1 3 M), vi (r274 x1 4 M)] (shp, M)) (fun v σ1 => ev prog (d + 8) 275 0 16 [vr 5, vi x1] (psh v []) σ1) (fun e σ1 => hk [0, 0, 0, 0, 0] e σ1 (fun t => ev prog (d + 8) 275 0 t (msk (pMask prog 275 t) [vr 5, vi x1]) [vj] σ1)) else some (.inl (some (vi (M 84 4))), (shp, M)) := by
  rw [b275_9]
  try simp +decide only [b275_0, b275_1, b275_3, b275_2, b275_4, b275_5, b275_7, b275_6, b275_8, b275_17, b275_10, b275_11, b275_12, b275_13, b275_14, b275_15, b275_16, s274, callK_r, callK_x, psh_s, psh_n, hk_0, hk_1, hk_2, hk_3, hk_4, callK_ite, bit_bi, bit_0, bit_1, eq_self, reduceIte, Int.reduceEq, Int.reduceLT, Int.reduceNeg, Nat.reduceEqDiff, ne_eq, not_false_eq_true, pu_k, mset_k, mset_j, mset_at, va_pu, va_mset, Int.reduceToNat, Int.reduceLE, and_self, true_and, and_true]
  all_goals (try rfl)
  all_goals (repeat' split)
  all_goals first | rfl | simp_all
theorem g275_16 (d : Nat) (x1 : Int) (s0 : Int) (M : mM) : ev prog (d + 8) 275 0 16 [vr 5, vi x1] [vi s0] (shp, M) = ev prog (d + 8) 275 0 9 [vr 5, vi (wr (x1 + 1))] [] (shp, M) := by
  rw [b275_16]
  try simp +decide only [b275_0, b275_1, b275_3, b275_2, b275_4, b275_5, b275_7, b275_6, b275_8, b275_17, b275_10, b275_11, b275_12, b275_13, b275_14, b275_15, callK_r, callK_x, psh_s, psh_n, hk_0, hk_1, hk_2, hk_3, hk_4, callK_ite, bit_bi, bit_0, bit_1, eq_self, reduceIte, Int.reduceEq, Int.reduceLT, Int.reduceNeg, Nat.reduceEqDiff, ne_eq, not_false_eq_true, pu_k, mset_k, mset_j, mset_at, va_pu, va_mset, Int.reduceToNat, Int.reduceLE, and_self, true_and, and_true]
  all_goals (try rfl)
  all_goals (repeat' split)
  all_goals first | rfl | simp_all
theorem g277_0 (d : Nat) (M : mM) : ev prog (d + 1) 277 0 0 [vr 87] [] (shp, M) = if (M 87 14) < (M 87 13) then (if 0 ≤ (M 87 14) ∧ (M 87 14) < 90 then some (.inl (some (vi (M 94 (Int.toNat (M 87 14))))), (shp, M)) else none) else some (.inl (some (vi (-1))), (shp, M)) := by
  rw [b277_0]
  try simp +decide only [b277_3, b277_1, b277_4, b277_2, callK_r, callK_x, psh_s, psh_n, hk_0, hk_1, hk_2, hk_3, hk_4, callK_ite, bit_bi, bit_0, bit_1, eq_self, reduceIte, Int.reduceEq, Int.reduceLT, Int.reduceNeg, Nat.reduceEqDiff, ne_eq, not_false_eq_true, pu_k, mset_k, mset_j, mset_at, va_pu, va_mset, Int.reduceToNat, Int.reduceLE, and_self, true_and, and_true]
  all_goals (try rfl)
  all_goals (repeat' split)
  all_goals first | rfl | simp_all
theorem g278_0 (d : Nat) (x1 : Int) (M : mM) : ev prog (d + 2) 278 0 0 [vr 87, vi x1] [] (shp, M) = callK (run prog (d + 1) 277 [vr 87] (shp, M)) (fun v σ1 => ev prog (d + 2) 278 0 1 [vr 87, vi x1] (psh v []) σ1) (fun e σ1 => hk [0, 0, 0, 0, 0] e σ1 (fun t => ev prog (d + 2) 278 0 t (msk (pMask prog 278 t) [vr 87, vi x1]) [vj] σ1)) := by
  rw [b278_0]
  try simp +decide only [b278_1, b278_3, b278_2, callK_r, callK_x, psh_s, psh_n, hk_0, hk_1, hk_2, hk_3, hk_4, callK_ite, bit_bi, bit_0, bit_1, eq_self, reduceIte, Int.reduceEq, Int.reduceLT, Int.reduceNeg, Nat.reduceEqDiff, ne_eq, not_false_eq_true, pu_k, mset_k, mset_j, mset_at, va_pu, va_mset, Int.reduceToNat, Int.reduceLE, and_self, true_and, and_true]
  all_goals (try rfl)
  all_goals (repeat' split)
  all_goals first | rfl | simp_all
theorem g278_1 (d : Nat) (x1 : Int) (s0 : Int) (M : mM) : ev prog (d + 2) 278 0 1 [vr 87, vi x1] [vi s0] (shp, M) = if s0 = x1 then some (.inl (some (vi 1)), (shp, mset M 87 14 (wr ((M 87 14) + 1)))) else some (.inl (some (vi 0)), (shp, M)) := by
  rw [b278_1]
  try simp +decide only [b278_0, b278_3, b278_2, callK_r, callK_x, psh_s, psh_n, hk_0, hk_1, hk_2, hk_3, hk_4, callK_ite, bit_bi, bit_0, bit_1, eq_self, reduceIte, Int.reduceEq, Int.reduceLT, Int.reduceNeg, Nat.reduceEqDiff, ne_eq, not_false_eq_true, pu_k, mset_k, mset_j, mset_at, va_pu, va_mset, Int.reduceToNat, Int.reduceLE, and_self, true_and, and_true]
  all_goals (try rfl)
  all_goals (repeat' split)
  all_goals first | rfl | simp_all
theorem g279_0 (d : Nat) (M : mM) : ev prog (d + 2) 279 0 0 [vr 87] [] (shp, M) = callK (run prog (d + 1) 277 [vr 87] (shp, M)) (fun v σ1 => ev prog (d + 2) 279 0 1 [vj] (psh v []) σ1) (fun e σ1 => hk [0, 0, 0, 0, 0] e σ1 (fun t => ev prog (d + 2) 279 0 t (msk (pMask prog 279 t) [vr 87]) [vj] σ1)) := by
  rw [b279_0]
  try simp +decide only [b279_1, b279_2, callK_r, callK_x, psh_s, psh_n, hk_0, hk_1, hk_2, hk_3, hk_4, callK_ite, bit_bi, bit_0, bit_1, eq_self, reduceIte, Int.reduceEq, Int.reduceLT, Int.reduceNeg, Nat.reduceEqDiff, ne_eq, not_false_eq_true, pu_k, mset_k, mset_j, mset_at, va_pu, va_mset, Int.reduceToNat, Int.reduceLE, and_self, true_and, and_true]
  all_goals (try rfl)
  all_goals (repeat' split)
  all_goals first | rfl | simp_all
