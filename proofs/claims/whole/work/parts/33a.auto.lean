/-! METHODS WITHOUT LOOPS -/
def p12 (x0 : Int) (x1 : Int) (M : mM) : Bool := if x0 < (wr (-x1)) then false else (if x1 < x0 then false else true)
theorem s12 (d : Nat) (x0 : Int) (x1 : Int) (M : mM) : run prog (d + 1) 12 [vi x0, vi x1] (shp, M) = some (.inl (some (vi (bi (p12 x0 x1 M)))), (shp, M)) := by
  show ev prog (d + 1) 12 0 0 [vi x0, vi x1] [] (shp, M) = _
  simp +decide only [b12_0, b12_3, b12_1, b12_4, b12_2, p12, callK_r, callK_x, psh_s, psh_n, hk_0, hk_1, hk_2, hk_3, hk_4, callK_ite, bit_bi, bit_0, bit_1, eq_self, reduceIte, Int.reduceEq, Int.reduceLT, Int.reduceNeg, Nat.reduceEqDiff, ne_eq, not_false_eq_true, pu_k, mset_k, mset_j, mset_at, va_pu, va_mset]
  repeat' split
  all_goals first | rfl | simp_all
def p13 (x0 : Int) (x1 : Int) (x2 : Int) (M : mM) : Bool := if (bi (p12 x0 100 M)) = 0 then false else (if (bi (p12 x1 100 M)) = 0 then false else (if (bi (p12 x2 100 M)) = 0 then false else true))
theorem s13 (d : Nat) (x0 : Int) (x1 : Int) (x2 : Int) (M : mM) : run prog (d + 2) 13 [vi x0, vi x1, vi x2] (shp, M) = some (.inl (some (vi (bi (p13 x0 x1 x2 M)))), (shp, M)) := by
  show ev prog (d + 2) 13 0 0 [vi x0, vi x1, vi x2] [] (shp, M) = _
  simp +decide only [b13_0, b13_1, b13_7, b13_2, b13_8, b13_3, b13_4, b13_5, b13_6, s12, p13, callK_r, callK_x, psh_s, psh_n, hk_0, hk_1, hk_2, hk_3, hk_4, callK_ite, bit_bi, bit_0, bit_1, eq_self, reduceIte, Int.reduceEq, Int.reduceLT, Int.reduceNeg, Nat.reduceEqDiff, ne_eq, not_false_eq_true, pu_k, mset_k, mset_j, mset_at, va_pu, va_mset]
  repeat' split
  all_goals first | rfl | simp_all
def p14 (x0 : Int) (x1 : Int) (M : mM) : Bool := if x0 < 0 then false else (if 99 < x0 then false else (if x1 < 0 then false else (if 9 < x1 then false else true)))
theorem s14 (d : Nat) (x0 : Int) (x1 : Int) (M : mM) : run prog (d + 1) 14 [vi x0, vi x1] (shp, M) = some (.inl (some (vi (bi (p14 x0 x1 M)))), (shp, M)) := by
  show ev prog (d + 1) 14 0 0 [vi x0, vi x1] [] (shp, M) = _
  simp +decide only [b14_0, b14_5, b14_1, b14_6, b14_2, b14_3, b14_4, p14, callK_r, callK_x, psh_s, psh_n, hk_0, hk_1, hk_2, hk_3, hk_4, callK_ite, bit_bi, bit_0, bit_1, eq_self, reduceIte, Int.reduceEq, Int.reduceLT, Int.reduceNeg, Nat.reduceEqDiff, ne_eq, not_false_eq_true, pu_k, mset_k, mset_j, mset_at, va_pu, va_mset]
  repeat' split
  all_goals first | rfl | simp_all
def p15 (x1 : Int) (M : mM) : Bool := if 60 < (wr ((M 7 5) + x1)) then false else (if 200 < (wr ((M 7 4) + x1)) then false else true)
theorem s15 (d : Nat) (x1 : Int) (M : mM) : run prog (d + 1) 15 [vr 7, vi x1] (shp, M) = some (.inl (some (vi (bi (p15 x1 M)))), (shp, M)) := by
  show ev prog (d + 1) 15 0 0 [vr 7, vi x1] [] (shp, M) = _
  simp +decide only [b15_0, b15_3, b15_1, b15_4, b15_2, p15, callK_r, callK_x, psh_s, psh_n, hk_0, hk_1, hk_2, hk_3, hk_4, callK_ite, bit_bi, bit_0, bit_1, eq_self, reduceIte, Int.reduceEq, Int.reduceLT, Int.reduceNeg, Nat.reduceEqDiff, ne_eq, not_false_eq_true, pu_k, mset_k, mset_j, mset_at, va_pu, va_mset]
  repeat' split
  all_goals first | rfl | simp_all
def o16 (M : mM) : mR := some (.inl none, (shp, mset M 79 4 0))
theorem s16 (d : Nat) (M : mM) : run prog (d + 1) 16 [vr 79] (shp, M) = o16 M := by
  show ev prog (d + 1) 16 0 0 [vr 79] [] (shp, M) = _
  simp +decide only [b16_0, o16, callK_r, callK_x, psh_s, psh_n, hk_0, hk_1, hk_2, hk_3, hk_4, callK_ite, bit_bi, bit_0, bit_1, eq_self, reduceIte, Int.reduceEq, Int.reduceLT, Int.reduceNeg, Nat.reduceEqDiff, ne_eq, not_false_eq_true, pu_k, mset_k, mset_j, mset_at, va_pu, va_mset]
  repeat' split
  all_goals first | rfl | simp_all
def o18 (x1 : Int) (x2 : Int) (x3 : Int) (x4 : Int) (x5 : Int) (M : mM) : mR := some (.inl (some (vi (M 7 4))), (shp, mset (mset (pu (pu (pu (pu (pu (pu M 8 600 (wr (3 * (M 7 4))) x1) 8 600 (wr ((wr (3 * (M 7 4))) + 1)) x2) 8 600 (wr ((wr (3 * (M 7 4))) + 2)) x3) 9 200 (M 7 4) x4) 10 200 (M 7 4) x5) 11 200 (M 7 4) 1) 7 4 (wr ((M 7 4) + 1))) 7 5 (wr ((M 7 5) + 1))))
theorem s18 (d : Nat) (x1 : Int) (x2 : Int) (x3 : Int) (x4 : Int) (x5 : Int) (M : mM) : run prog (d + 2) 18 [vr 7, vi x1, vi x2, vi x3, vi x4, vi x5] (shp, M) = o18 x1 x2 x3 x4 x5 M := by
  show ev prog (d + 2) 18 0 0 [vr 7, vi x1, vi x2, vi x3, vi x4, vi x5, vj] [] (shp, M) = _
  simp +decide only [b18_0, b18_1, b18_2, b18_3, b18_4, b18_5, b18_6, pu_10, pu_11, pu_8, pu_9, o18, callK_r, callK_x, psh_s, psh_n, hk_0, hk_1, hk_2, hk_3, hk_4, callK_ite, bit_bi, bit_0, bit_1, eq_self, reduceIte, Int.reduceEq, Int.reduceLT, Int.reduceNeg, Nat.reduceEqDiff, ne_eq, not_false_eq_true, pu_k, mset_k, mset_j, mset_at, va_pu, va_mset]
  repeat' split
  all_goals first | rfl | simp_all
def r20 (x1 : Int) (x2 : Int) (M : mM) : Int := va M 8 600 (wr ((wr (3 * x1)) + x2))
theorem s20 (d : Nat) (x1 : Int) (x2 : Int) (M : mM) : run prog (d + 2) 20 [vr 7, vi x1, vi x2] (shp, M) = some (.inl (some (vi (r20 x1 x2 M))), (shp, M)) := by
  show ev prog (d + 2) 20 0 0 [vr 7, vi x1, vi x2] [] (shp, M) = _
  simp +decide only [b20_0, b20_1, va_8, r20, callK_r, callK_x, psh_s, psh_n, hk_0, hk_1, hk_2, hk_3, hk_4, callK_ite, bit_bi, bit_0, bit_1, eq_self, reduceIte, Int.reduceEq, Int.reduceLT, Int.reduceNeg, Nat.reduceEqDiff, ne_eq, not_false_eq_true, pu_k, mset_k, mset_j, mset_at, va_pu, va_mset]
  repeat' split
  all_goals first | rfl | simp_all
def r20a (x1 : Int) (x2 : Int) (M : mM) : Int := va M 41 600 (wr ((wr (3 * x1)) + x2))
theorem s20a (d : Nat) (x1 : Int) (x2 : Int) (M : mM) : run prog (d + 2) 20 [vr 40, vi x1, vi x2] (shp, M) = some (.inl (some (vi (r20a x1 x2 M))), (shp, M)) := by
  show ev prog (d + 2) 20 0 0 [vr 40, vi x1, vi x2] [] (shp, M) = _
  simp +decide only [b20a_0, b20a_1, va_41, r20a, callK_r, callK_x, psh_s, psh_n, hk_0, hk_1, hk_2, hk_3, hk_4, callK_ite, bit_bi, bit_0, bit_1, eq_self, reduceIte, Int.reduceEq, Int.reduceLT, Int.reduceNeg, Nat.reduceEqDiff, ne_eq, not_false_eq_true, pu_k, mset_k, mset_j, mset_at, va_pu, va_mset]
  repeat' split
  all_goals first | rfl | simp_all
def p21 (x1 : Int) (x2 : Int) (x3 : Int) (M : mM) : Bool := if (r20 x1 x3 M) < (r20 x2 x3 M) then true else (if (r20 x1 x3 M) = (r20 x2 x3 M) then (if x1 < x2 then true else false) else false)
theorem s21 (d : Nat) (x1 : Int) (x2 : Int) (x3 : Int) (M : mM) : run prog (d + 3) 21 [vr 7, vi x1, vi x2, vi x3] (shp, M) = some (.inl (some (vi (bi (p21 x1 x2 x3 M)))), (shp, M)) := by
  show ev prog (d + 3) 21 0 0 [vr 7, vi x1, vi x2, vi x3, vj, vj] [] (shp, M) = _
  simp +decide only [b21_0, b21_1, b21_2, b21_5, b21_3, b21_7, b21_6, b21_4, s20, p21, callK_r, callK_x, psh_s, psh_n, hk_0, hk_1, hk_2, hk_3, hk_4, callK_ite, bit_bi, bit_0, bit_1, eq_self, reduceIte, Int.reduceEq, Int.reduceLT, Int.reduceNeg, Nat.reduceEqDiff, ne_eq, not_false_eq_true, pu_k, mset_k, mset_j, mset_at, va_pu, va_mset]
  repeat' split
  all_goals first | rfl | simp_all
def o22 (x1 : Int) (x2 : Int) (M : mM) : mR := if x1 = (-1) then (if x2 = (-1) then some (.inl none, (shp, mset M 12 11 x2)) else some (.inl none, (shp, pu (pu (mset M 12 11 x2) 13 400 (wr (2 * x2)) (-1)) 13 400 (wr ((wr (2 * x2)) + 1)) (-1)))) else (if x2 = (-1) then some (.inl none, (shp, pu M 13 400 x1 x2)) else some (.inl none, (shp, pu (pu (pu M 13 400 x1 x2) 13 400 (wr (2 * x2)) (-1)) 13 400 (wr ((wr (2 * x2)) + 1)) (-1))))
theorem s22 (d : Nat) (x1 : Int) (x2 : Int) (M : mM) : run prog (d + 2) 22 [vr 12, vi x1, vi x2] (shp, M) = o22 x1 x2 M := by
  show ev prog (d + 2) 22 0 0 [vr 12, vi x1, vi x2] [] (shp, M) = _
  simp +decide only [b22_0, b22_2, b22_1, b22_3, b22_6, b22_4, b22_5, pu_13, o22, callK_r, callK_x, psh_s, psh_n, hk_0, hk_1, hk_2, hk_3, hk_4, callK_ite, bit_bi, bit_0, bit_1, eq_self, reduceIte, Int.reduceEq, Int.reduceLT, Int.reduceNeg, Nat.reduceEqDiff, ne_eq, not_false_eq_true, pu_k, mset_k, mset_j, mset_at, va_pu, va_mset]
  repeat' split
  all_goals first | rfl | simp_all
def o24 (M : mM) : mR := some (.inl none, (shp, mset M 73 1 0))
theorem s24 (d : Nat) (M : mM) : run prog (d + 1) 24 [vr 73] (shp, M) = o24 M := by
  show ev prog (d + 1) 24 0 0 [vr 73] [] (shp, M) = _
  simp +decide only [b24_0, o24, callK_r, callK_x, psh_s, psh_n, hk_0, hk_1, hk_2, hk_3, hk_4, callK_ite, bit_bi, bit_0, bit_1, eq_self, reduceIte, Int.reduceEq, Int.reduceLT, Int.reduceNeg, Nat.reduceEqDiff, ne_eq, not_false_eq_true, pu_k, mset_k, mset_j, mset_at, va_pu, va_mset]
  repeat' split
  all_goals first | rfl | simp_all
def o24a (M : mM) : mR := some (.inl none, (shp, mset M 77 1 0))
theorem s24a (d : Nat) (M : mM) : run prog (d + 1) 24 [vr 77] (shp, M) = o24a M := by
  show ev prog (d + 1) 24 0 0 [vr 77] [] (shp, M) = _
  simp +decide only [b24a_0, o24a, callK_r, callK_x, psh_s, psh_n, hk_0, hk_1, hk_2, hk_3, hk_4, callK_ite, bit_bi, bit_0, bit_1, eq_self, reduceIte, Int.reduceEq, Int.reduceLT, Int.reduceNeg, Nat.reduceEqDiff, ne_eq, not_false_eq_true, pu_k, mset_k, mset_j, mset_at, va_pu, va_mset]
  repeat' split
  all_goals first | rfl | simp_all
def o24b (M : mM) : mR := some (.inl none, (shp, mset M 27 1 0))
theorem s24b (d : Nat) (M : mM) : run prog (d + 1) 24 [vr 27] (shp, M) = o24b M := by
  show ev prog (d + 1) 24 0 0 [vr 27] [] (shp, M) = _
  simp +decide only [b24b_0, o24b, callK_r, callK_x, psh_s, psh_n, hk_0, hk_1, hk_2, hk_3, hk_4, callK_ite, bit_bi, bit_0, bit_1, eq_self, reduceIte, Int.reduceEq, Int.reduceLT, Int.reduceNeg, Nat.reduceEqDiff, ne_eq, not_false_eq_true, pu_k, mset_k, mset_j, mset_at, va_pu, va_mset]
  repeat' split
  all_goals first | rfl | simp_all
def o24c (M : mM) : mR := some (.inl none, (shp, mset M 80 1 0))
theorem s24c (d : Nat) (M : mM) : run prog (d + 1) 24 [vr 80] (shp, M) = o24c M := by
  show ev prog (d + 1) 24 0 0 [vr 80] [] (shp, M) = _
  simp +decide only [b24c_0, o24c, callK_r, callK_x, psh_s, psh_n, hk_0, hk_1, hk_2, hk_3, hk_4, callK_ite, bit_bi, bit_0, bit_1, eq_self, reduceIte, Int.reduceEq, Int.reduceLT, Int.reduceNeg, Nat.reduceEqDiff, ne_eq, not_false_eq_true, pu_k, mset_k, mset_j, mset_at, va_pu, va_mset]
  repeat' split
  all_goals first | rfl | simp_all
def o24d (M : mM) : mR := some (.inl none, (shp, mset M 82 1 0))
theorem s24d (d : Nat) (M : mM) : run prog (d + 1) 24 [vr 82] (shp, M) = o24d M := by
  show ev prog (d + 1) 24 0 0 [vr 82] [] (shp, M) = _
  simp +decide only [b24d_0, o24d, callK_r, callK_x, psh_s, psh_n, hk_0, hk_1, hk_2, hk_3, hk_4, callK_ite, bit_bi, bit_0, bit_1, eq_self, reduceIte, Int.reduceEq, Int.reduceLT, Int.reduceNeg, Nat.reduceEqDiff, ne_eq, not_false_eq_true, pu_k, mset_k, mset_j, mset_at, va_pu, va_mset]
  repeat' split
  all_goals first | rfl | simp_all
def o24e (M : mM) : mR := some (.inl none, (shp, mset M 21 1 0))
theorem s24e (d : Nat) (M : mM) : run prog (d + 1) 24 [vr 21] (shp, M) = o24e M := by
  show ev prog (d + 1) 24 0 0 [vr 21] [] (shp, M) = _
  simp +decide only [b24e_0, o24e, callK_r, callK_x, psh_s, psh_n, hk_0, hk_1, hk_2, hk_3, hk_4, callK_ite, bit_bi, bit_0, bit_1, eq_self, reduceIte, Int.reduceEq, Int.reduceLT, Int.reduceNeg, Nat.reduceEqDiff, ne_eq, not_false_eq_true, pu_k, mset_k, mset_j, mset_at, va_pu, va_mset]
  repeat' split
  all_goals first | rfl | simp_all
def o24f (M : mM) : mR := some (.inl none, (shp, mset M 23 1 0))
theorem s24f (d : Nat) (M : mM) : run prog (d + 1) 24 [vr 23] (shp, M) = o24f M := by
  show ev prog (d + 1) 24 0 0 [vr 23] [] (shp, M) = _
  simp +decide only [b24f_0, o24f, callK_r, callK_x, psh_s, psh_n, hk_0, hk_1, hk_2, hk_3, hk_4, callK_ite, bit_bi, bit_0, bit_1, eq_self, reduceIte, Int.reduceEq, Int.reduceLT, Int.reduceNeg, Nat.reduceEqDiff, ne_eq, not_false_eq_true, pu_k, mset_k, mset_j, mset_at, va_pu, va_mset]
  repeat' split
  all_goals first | rfl | simp_all
def o24g (M : mM) : mR := some (.inl none, (shp, mset M 54 1 0))
theorem s24g (d : Nat) (M : mM) : run prog (d + 1) 24 [vr 54] (shp, M) = o24g M := by
  show ev prog (d + 1) 24 0 0 [vr 54] [] (shp, M) = _
  simp +decide only [b24g_0, o24g, callK_r, callK_x, psh_s, psh_n, hk_0, hk_1, hk_2, hk_3, hk_4, callK_ite, bit_bi, bit_0, bit_1, eq_self, reduceIte, Int.reduceEq, Int.reduceLT, Int.reduceNeg, Nat.reduceEqDiff, ne_eq, not_false_eq_true, pu_k, mset_k, mset_j, mset_at, va_pu, va_mset]
  repeat' split
  all_goals first | rfl | simp_all
def o24h (M : mM) : mR := some (.inl none, (shp, mset M 56 1 0))
theorem s24h (d : Nat) (M : mM) : run prog (d + 1) 24 [vr 56] (shp, M) = o24h M := by
  show ev prog (d + 1) 24 0 0 [vr 56] [] (shp, M) = _
  simp +decide only [b24h_0, o24h, callK_r, callK_x, psh_s, psh_n, hk_0, hk_1, hk_2, hk_3, hk_4, callK_ite, bit_bi, bit_0, bit_1, eq_self, reduceIte, Int.reduceEq, Int.reduceLT, Int.reduceNeg, Nat.reduceEqDiff, ne_eq, not_false_eq_true, pu_k, mset_k, mset_j, mset_at, va_pu, va_mset]
  repeat' split
  all_goals first | rfl | simp_all
def o25 (x1 : Int) (M : mM) : mR := if (M 73 1) < 200 then some (.inl none, (shp, mset (pu M 74 200 (M 73 1) x1) 73 1 (wr ((M 73 1) + 1)))) else some (.inl none, (shp, M))
theorem s25 (d : Nat) (x1 : Int) (M : mM) : run prog (d + 2) 25 [vr 73, vi x1] (shp, M) = o25 x1 M := by
  show ev prog (d + 2) 25 0 0 [vr 73, vi x1] [] (shp, M) = _
  simp +decide only [b25_0, b25_3, b25_1, b25_2, pu_74, o25, callK_r, callK_x, psh_s, psh_n, hk_0, hk_1, hk_2, hk_3, hk_4, callK_ite, bit_bi, bit_0, bit_1, eq_self, reduceIte, Int.reduceEq, Int.reduceLT, Int.reduceNeg, Nat.reduceEqDiff, ne_eq, not_false_eq_true, pu_k, mset_k, mset_j, mset_at, va_pu, va_mset]
  repeat' split
  all_goals first | rfl | simp_all
def o25a (x1 : Int) (M : mM) : mR := if (M 27 1) < 200 then some (.inl none, (shp, mset (pu M 28 200 (M 27 1) x1) 27 1 (wr ((M 27 1) + 1)))) else some (.inl none, (shp, M))
theorem s25a (d : Nat) (x1 : Int) (M : mM) : run prog (d + 2) 25 [vr 27, vi x1] (shp, M) = o25a x1 M := by
  show ev prog (d + 2) 25 0 0 [vr 27, vi x1] [] (shp, M) = _
  simp +decide only [b25a_0, b25a_3, b25a_1, b25a_2, pu_28, o25a, callK_r, callK_x, psh_s, psh_n, hk_0, hk_1, hk_2, hk_3, hk_4, callK_ite, bit_bi, bit_0, bit_1, eq_self, reduceIte, Int.reduceEq, Int.reduceLT, Int.reduceNeg, Nat.reduceEqDiff, ne_eq, not_false_eq_true, pu_k, mset_k, mset_j, mset_at, va_pu, va_mset]
  repeat' split
  all_goals first | rfl | simp_all
def o25b (x1 : Int) (M : mM) : mR := if (M 77 1) < 200 then some (.inl none, (shp, mset (pu M 78 200 (M 77 1) x1) 77 1 (wr ((M 77 1) + 1)))) else some (.inl none, (shp, M))
theorem s25b (d : Nat) (x1 : Int) (M : mM) : run prog (d + 2) 25 [vr 77, vi x1] (shp, M) = o25b x1 M := by
  show ev prog (d + 2) 25 0 0 [vr 77, vi x1] [] (shp, M) = _
  simp +decide only [b25b_0, b25b_3, b25b_1, b25b_2, pu_78, o25b, callK_r, callK_x, psh_s, psh_n, hk_0, hk_1, hk_2, hk_3, hk_4, callK_ite, bit_bi, bit_0, bit_1, eq_self, reduceIte, Int.reduceEq, Int.reduceLT, Int.reduceNeg, Nat.reduceEqDiff, ne_eq, not_false_eq_true, pu_k, mset_k, mset_j, mset_at, va_pu, va_mset]
  repeat' split
  all_goals first | rfl | simp_all
def o25c (x1 : Int) (M : mM) : mR := if (M 21 1) < 200 then some (.inl none, (shp, mset (pu M 22 200 (M 21 1) x1) 21 1 (wr ((M 21 1) + 1)))) else some (.inl none, (shp, M))
theorem s25c (d : Nat) (x1 : Int) (M : mM) : run prog (d + 2) 25 [vr 21, vi x1] (shp, M) = o25c x1 M := by
  show ev prog (d + 2) 25 0 0 [vr 21, vi x1] [] (shp, M) = _
  simp +decide only [b25c_0, b25c_3, b25c_1, b25c_2, pu_22, o25c, callK_r, callK_x, psh_s, psh_n, hk_0, hk_1, hk_2, hk_3, hk_4, callK_ite, bit_bi, bit_0, bit_1, eq_self, reduceIte, Int.reduceEq, Int.reduceLT, Int.reduceNeg, Nat.reduceEqDiff, ne_eq, not_false_eq_true, pu_k, mset_k, mset_j, mset_at, va_pu, va_mset]
  repeat' split
  all_goals first | rfl | simp_all
def o25d (x1 : Int) (M : mM) : mR := if (M 23 1) < 200 then some (.inl none, (shp, mset (pu M 24 200 (M 23 1) x1) 23 1 (wr ((M 23 1) + 1)))) else some (.inl none, (shp, M))
theorem s25d (d : Nat) (x1 : Int) (M : mM) : run prog (d + 2) 25 [vr 23, vi x1] (shp, M) = o25d x1 M := by
  show ev prog (d + 2) 25 0 0 [vr 23, vi x1] [] (shp, M) = _
  simp +decide only [b25d_0, b25d_3, b25d_1, b25d_2, pu_24, o25d, callK_r, callK_x, psh_s, psh_n, hk_0, hk_1, hk_2, hk_3, hk_4, callK_ite, bit_bi, bit_0, bit_1, eq_self, reduceIte, Int.reduceEq, Int.reduceLT, Int.reduceNeg, Nat.reduceEqDiff, ne_eq, not_false_eq_true, pu_k, mset_k, mset_j, mset_at, va_pu, va_mset]
  repeat' split
  all_goals first | rfl | simp_all
def o25e (x1 : Int) (M : mM) : mR := if (M 80 1) < 200 then some (.inl none, (shp, mset (pu M 81 200 (M 80 1) x1) 80 1 (wr ((M 80 1) + 1)))) else some (.inl none, (shp, M))
theorem s25e (d : Nat) (x1 : Int) (M : mM) : run prog (d + 2) 25 [vr 80, vi x1] (shp, M) = o25e x1 M := by
  show ev prog (d + 2) 25 0 0 [vr 80, vi x1] [] (shp, M) = _
  simp +decide only [b25e_0, b25e_3, b25e_1, b25e_2, pu_81, o25e, callK_r, callK_x, psh_s, psh_n, hk_0, hk_1, hk_2, hk_3, hk_4, callK_ite, bit_bi, bit_0, bit_1, eq_self, reduceIte, Int.reduceEq, Int.reduceLT, Int.reduceNeg, Nat.reduceEqDiff, ne_eq, not_false_eq_true, pu_k, mset_k, mset_j, mset_at, va_pu, va_mset]
  repeat' split
  all_goals first | rfl | simp_all
def o25f (x1 : Int) (M : mM) : mR := if (M 82 1) < 200 then some (.inl none, (shp, mset (pu M 83 200 (M 82 1) x1) 82 1 (wr ((M 82 1) + 1)))) else some (.inl none, (shp, M))
theorem s25f (d : Nat) (x1 : Int) (M : mM) : run prog (d + 2) 25 [vr 82, vi x1] (shp, M) = o25f x1 M := by
  show ev prog (d + 2) 25 0 0 [vr 82, vi x1] [] (shp, M) = _
  simp +decide only [b25f_0, b25f_3, b25f_1, b25f_2, pu_83, o25f, callK_r, callK_x, psh_s, psh_n, hk_0, hk_1, hk_2, hk_3, hk_4, callK_ite, bit_bi, bit_0, bit_1, eq_self, reduceIte, Int.reduceEq, Int.reduceLT, Int.reduceNeg, Nat.reduceEqDiff, ne_eq, not_false_eq_true, pu_k, mset_k, mset_j, mset_at, va_pu, va_mset]
  repeat' split
  all_goals first | rfl | simp_all
def o25g (x1 : Int) (M : mM) : mR := if (M 54 1) < 200 then some (.inl none, (shp, mset (pu M 55 200 (M 54 1) x1) 54 1 (wr ((M 54 1) + 1)))) else some (.inl none, (shp, M))
theorem s25g (d : Nat) (x1 : Int) (M : mM) : run prog (d + 2) 25 [vr 54, vi x1] (shp, M) = o25g x1 M := by
  show ev prog (d + 2) 25 0 0 [vr 54, vi x1] [] (shp, M) = _
  simp +decide only [b25g_0, b25g_3, b25g_1, b25g_2, pu_55, o25g, callK_r, callK_x, psh_s, psh_n, hk_0, hk_1, hk_2, hk_3, hk_4, callK_ite, bit_bi, bit_0, bit_1, eq_self, reduceIte, Int.reduceEq, Int.reduceLT, Int.reduceNeg, Nat.reduceEqDiff, ne_eq, not_false_eq_true, pu_k, mset_k, mset_j, mset_at, va_pu, va_mset]
  repeat' split
  all_goals first | rfl | simp_all
def o25h (x1 : Int) (M : mM) : mR := if (M 56 1) < 200 then some (.inl none, (shp, mset (pu M 57 200 (M 56 1) x1) 56 1 (wr ((M 56 1) + 1)))) else some (.inl none, (shp, M))
theorem s25h (d : Nat) (x1 : Int) (M : mM) : run prog (d + 2) 25 [vr 56, vi x1] (shp, M) = o25h x1 M := by
  show ev prog (d + 2) 25 0 0 [vr 56, vi x1] [] (shp, M) = _
  simp +decide only [b25h_0, b25h_3, b25h_1, b25h_2, pu_57, o25h, callK_r, callK_x, psh_s, psh_n, hk_0, hk_1, hk_2, hk_3, hk_4, callK_ite, bit_bi, bit_0, bit_1, eq_self, reduceIte, Int.reduceEq, Int.reduceLT, Int.reduceNeg, Nat.reduceEqDiff, ne_eq, not_false_eq_true, pu_k, mset_k, mset_j, mset_at, va_pu, va_mset]
  repeat' split
  all_goals first | rfl | simp_all
def o26 (x1 : Int) (x2 : Int) (M : mM) : mR := if x1 = (-1) then some (.inl none, (shp, M)) else (if x2 = (-1) then (if ((pu (pu M 14 200 x1 x2) 15 200 x1 0) 23 1) < 200 then some (.inl none, (shp, mset (pu (pu (pu M 14 200 x1 x2) 15 200 x1 0) 24 200 ((pu (pu M 14 200 x1 x2) 15 200 x1 0) 23 1) x1) 23 1 (wr (((pu (pu M 14 200 x1 x2) 15 200 x1 0) 23 1) + 1)))) else some (.inl none, (shp, pu (pu M 14 200 x1 x2) 15 200 x1 0))) else (if ((pu (pu M 14 200 x1 x2) 15 200 x1 (wr ((va M 15 200 x2) + 1))) 23 1) < 200 then some (.inl none, (shp, mset (pu (pu (pu M 14 200 x1 x2) 15 200 x1 (wr ((va M 15 200 x2) + 1))) 24 200 ((pu (pu M 14 200 x1 x2) 15 200 x1 (wr ((va M 15 200 x2) + 1))) 23 1) x1) 23 1 (wr (((pu (pu M 14 200 x1 x2) 15 200 x1 (wr ((va M 15 200 x2) + 1))) 23 1) + 1)))) else some (.inl none, (shp, pu (pu M 14 200 x1 x2) 15 200 x1 (wr ((va M 15 200 x2) + 1))))))
theorem s26 (d : Nat) (x1 : Int) (x2 : Int) (M : mM) : run prog (d + 3) 26 [vr 12, vi x1, vi x2] (shp, M) = o26 x1 x2 M := by
  show ev prog (d + 3) 26 0 0 [vr 12, vi x1, vi x2] [] (shp, M) = _
  simp +decide only [b26_0, b26_2, b26_1, b26_3, b26_5, b26_4, b26_6, b26_7, b26_8, b26_9, s25d, o25d, pu_14, pu_15, va_15, o26, callK_r, callK_x, psh_s, psh_n, hk_0, hk_1, hk_2, hk_3, hk_4, callK_ite, bit_bi, bit_0, bit_1, eq_self, reduceIte, Int.reduceEq, Int.reduceLT, Int.reduceNeg, Nat.reduceEqDiff, ne_eq, not_false_eq_true, pu_k, mset_k, mset_j, mset_at, va_pu, va_mset]
  repeat' split
  all_goals first | rfl | simp_all
def o26a (x1 : Int) (x2 : Int) (M : mM) : mR := if x1 = (-1) then some (.inl none, (shp, M)) else (if x2 = (-1) then (if ((pu (pu M 47 200 x1 x2) 48 200 x1 0) 56 1) < 200 then some (.inl none, (shp, mset (pu (pu (pu M 47 200 x1 x2) 48 200 x1 0) 57 200 ((pu (pu M 47 200 x1 x2) 48 200 x1 0) 56 1) x1) 56 1 (wr (((pu (pu M 47 200 x1 x2) 48 200 x1 0) 56 1) + 1)))) else some (.inl none, (shp, pu (pu M 47 200 x1 x2) 48 200 x1 0))) else (if ((pu (pu M 47 200 x1 x2) 48 200 x1 (wr ((va M 48 200 x2) + 1))) 56 1) < 200 then some (.inl none, (shp, mset (pu (pu (pu M 47 200 x1 x2) 48 200 x1 (wr ((va M 48 200 x2) + 1))) 57 200 ((pu (pu M 47 200 x1 x2) 48 200 x1 (wr ((va M 48 200 x2) + 1))) 56 1) x1) 56 1 (wr (((pu (pu M 47 200 x1 x2) 48 200 x1 (wr ((va M 48 200 x2) + 1))) 56 1) + 1)))) else some (.inl none, (shp, pu (pu M 47 200 x1 x2) 48 200 x1 (wr ((va M 48 200 x2) + 1))))))
theorem s26a (d : Nat) (x1 : Int) (x2 : Int) (M : mM) : run prog (d + 3) 26 [vr 45, vi x1, vi x2] (shp, M) = o26a x1 x2 M := by
  show ev prog (d + 3) 26 0 0 [vr 45, vi x1, vi x2] [] (shp, M) = _
  simp +decide only [b26a_0, b26a_2, b26a_1, b26a_3, b26a_5, b26a_4, b26a_6, b26a_7, b26a_8, b26a_9, s25h, o25h, pu_47, pu_48, va_48, o26a, callK_r, callK_x, psh_s, psh_n, hk_0, hk_1, hk_2, hk_3, hk_4, callK_ite, bit_bi, bit_0, bit_1, eq_self, reduceIte, Int.reduceEq, Int.reduceLT, Int.reduceNeg, Nat.reduceEqDiff, ne_eq, not_false_eq_true, pu_k, mset_k, mset_j, mset_at, va_pu, va_mset]
  repeat' split
  all_goals first | rfl | simp_all
def o27 (M : mM) : mR := if (M 23 1) = 0 then some (.inl (some (vi (-1))), (shp, M)) else some (.inl (some (vi (va M 24 200 (wr ((M 23 1) - 1))))), (shp, mset M 23 1 (wr ((M 23 1) - 1))))
theorem s27 (d : Nat) (M : mM) : run prog (d + 2) 27 [vr 23] (shp, M) = o27 M := by
  show ev prog (d + 2) 27 0 0 [vr 23] [] (shp, M) = _
  simp +decide only [b27_0, b27_2, b27_1, b27_3, va_24, o27, callK_r, callK_x, psh_s, psh_n, hk_0, hk_1, hk_2, hk_3, hk_4, callK_ite, bit_bi, bit_0, bit_1, eq_self, reduceIte, Int.reduceEq, Int.reduceLT, Int.reduceNeg, Nat.reduceEqDiff, ne_eq, not_false_eq_true, pu_k, mset_k, mset_j, mset_at, va_pu, va_mset]
  repeat' split
  all_goals first | rfl | simp_all
def o27a (M : mM) : mR := if (M 82 1) = 0 then some (.inl (some (vi (-1))), (shp, M)) else some (.inl (some (vi (va M 83 200 (wr ((M 82 1) - 1))))), (shp, mset M 82 1 (wr ((M 82 1) - 1))))
theorem s27a (d : Nat) (M : mM) : run prog (d + 2) 27 [vr 82] (shp, M) = o27a M := by
  show ev prog (d + 2) 27 0 0 [vr 82] [] (shp, M) = _
  simp +decide only [b27a_0, b27a_2, b27a_1, b27a_3, va_83, o27a, callK_r, callK_x, psh_s, psh_n, hk_0, hk_1, hk_2, hk_3, hk_4, callK_ite, bit_bi, bit_0, bit_1, eq_self, reduceIte, Int.reduceEq, Int.reduceLT, Int.reduceNeg, Nat.reduceEqDiff, ne_eq, not_false_eq_true, pu_k, mset_k, mset_j, mset_at, va_pu, va_mset]
  repeat' split
  all_goals first | rfl | simp_all
def o27b (M : mM) : mR := if (M 56 1) = 0 then some (.inl (some (vi (-1))), (shp, M)) else some (.inl (some (vi (va M 57 200 (wr ((M 56 1) - 1))))), (shp, mset M 56 1 (wr ((M 56 1) - 1))))
theorem s27b (d : Nat) (M : mM) : run prog (d + 2) 27 [vr 56] (shp, M) = o27b M := by
  show ev prog (d + 2) 27 0 0 [vr 56] [] (shp, M) = _
  simp +decide only [b27b_0, b27b_2, b27b_1, b27b_3, va_57, o27b, callK_r, callK_x, psh_s, psh_n, hk_0, hk_1, hk_2, hk_3, hk_4, callK_ite, bit_bi, bit_0, bit_1, eq_self, reduceIte, Int.reduceEq, Int.reduceLT, Int.reduceNeg, Nat.reduceEqDiff, ne_eq, not_false_eq_true, pu_k, mset_k, mset_j, mset_at, va_pu, va_mset]
  repeat' split
  all_goals first | rfl | simp_all
def r28 (x1 : Int) (x2 : Int) (M : mM) : Int := if x1 < 0 then (-1) else va M 13 400 (wr ((wr (2 * x1)) + x2))
theorem s28 (d : Nat) (x1 : Int) (x2 : Int) (M : mM) : run prog (d + 2) 28 [vr 12, vi x1, vi x2] (shp, M) = some (.inl (some (vi (r28 x1 x2 M))), (shp, M)) := by
  show ev prog (d + 2) 28 0 0 [vr 12, vi x1, vi x2] [] (shp, M) = _
  simp +decide only [b28_0, b28_2, b28_1, b28_3, va_13, r28, callK_r, callK_x, psh_s, psh_n, hk_0, hk_1, hk_2, hk_3, hk_4, callK_ite, bit_bi, bit_0, bit_1, eq_self, reduceIte, Int.reduceEq, Int.reduceLT, Int.reduceNeg, Nat.reduceEqDiff, ne_eq, not_false_eq_true, pu_k, mset_k, mset_j, mset_at, va_pu, va_mset]
  repeat' split
  all_goals first | rfl | simp_all
def r28a (x1 : Int) (x2 : Int) (M : mM) : Int := if x1 < 0 then (-1) else va M 46 400 (wr ((wr (2 * x1)) + x2))
theorem s28a (d : Nat) (x1 : Int) (x2 : Int) (M : mM) : run prog (d + 2) 28 [vr 45, vi x1, vi x2] (shp, M) = some (.inl (some (vi (r28a x1 x2 M))), (shp, M)) := by
  show ev prog (d + 2) 28 0 0 [vr 45, vi x1, vi x2] [] (shp, M) = _
  simp +decide only [b28a_0, b28a_2, b28a_1, b28a_3, va_46, r28a, callK_r, callK_x, psh_s, psh_n, hk_0, hk_1, hk_2, hk_3, hk_4, callK_ite, bit_bi, bit_0, bit_1, eq_self, reduceIte, Int.reduceEq, Int.reduceLT, Int.reduceNeg, Nat.reduceEqDiff, ne_eq, not_false_eq_true, pu_k, mset_k, mset_j, mset_at, va_pu, va_mset]
  repeat' split
  all_goals first | rfl | simp_all
def r30 (x1 : Int) (M : mM) : Int := va M 74 200 x1
theorem s30 (d : Nat) (x1 : Int) (M : mM) : run prog (d + 2) 30 [vr 73, vi x1] (shp, M) = some (.inl (some (vi (r30 x1 M))), (shp, M)) := by
  show ev prog (d + 2) 30 0 0 [vr 73, vi x1] [] (shp, M) = _
  simp +decide only [b30_0, b30_1, va_74, r30, callK_r, callK_x, psh_s, psh_n, hk_0, hk_1, hk_2, hk_3, hk_4, callK_ite, bit_bi, bit_0, bit_1, eq_self, reduceIte, Int.reduceEq, Int.reduceLT, Int.reduceNeg, Nat.reduceEqDiff, ne_eq, not_false_eq_true, pu_k, mset_k, mset_j, mset_at, va_pu, va_mset]
  repeat' split
  all_goals first | rfl | simp_all
def r30a (x1 : Int) (M : mM) : Int := va M 78 200 x1
theorem s30a (d : Nat) (x1 : Int) (M : mM) : run prog (d + 2) 30 [vr 77, vi x1] (shp, M) = some (.inl (some (vi (r30a x1 M))), (shp, M)) := by
  show ev prog (d + 2) 30 0 0 [vr 77, vi x1] [] (shp, M) = _
  simp +decide only [b30a_0, b30a_1, va_78, r30a, callK_r, callK_x, psh_s, psh_n, hk_0, hk_1, hk_2, hk_3, hk_4, callK_ite, bit_bi, bit_0, bit_1, eq_self, reduceIte, Int.reduceEq, Int.reduceLT, Int.reduceNeg, Nat.reduceEqDiff, ne_eq, not_false_eq_true, pu_k, mset_k, mset_j, mset_at, va_pu, va_mset]
  repeat' split
  all_goals first | rfl | simp_all
def r30b (x1 : Int) (M : mM) : Int := va M 22 200 x1
theorem s30b (d : Nat) (x1 : Int) (M : mM) : run prog (d + 2) 30 [vr 21, vi x1] (shp, M) = some (.inl (some (vi (r30b x1 M))), (shp, M)) := by
  show ev prog (d + 2) 30 0 0 [vr 21, vi x1] [] (shp, M) = _
  simp +decide only [b30b_0, b30b_1, va_22, r30b, callK_r, callK_x, psh_s, psh_n, hk_0, hk_1, hk_2, hk_3, hk_4, callK_ite, bit_bi, bit_0, bit_1, eq_self, reduceIte, Int.reduceEq, Int.reduceLT, Int.reduceNeg, Nat.reduceEqDiff, ne_eq, not_false_eq_true, pu_k, mset_k, mset_j, mset_at, va_pu, va_mset]
  repeat' split
  all_goals first | rfl | simp_all
def r30c (x1 : Int) (M : mM) : Int := va M 28 200 x1
theorem s30c (d : Nat) (x1 : Int) (M : mM) : run prog (d + 2) 30 [vr 27, vi x1] (shp, M) = some (.inl (some (vi (r30c x1 M))), (shp, M)) := by
  show ev prog (d + 2) 30 0 0 [vr 27, vi x1] [] (shp, M) = _
  simp +decide only [b30c_0, b30c_1, va_28, r30c, callK_r, callK_x, psh_s, psh_n, hk_0, hk_1, hk_2, hk_3, hk_4, callK_ite, bit_bi, bit_0, bit_1, eq_self, reduceIte, Int.reduceEq, Int.reduceLT, Int.reduceNeg, Nat.reduceEqDiff, ne_eq, not_false_eq_true, pu_k, mset_k, mset_j, mset_at, va_pu, va_mset]
  repeat' split
  all_goals first | rfl | simp_all
def r30d (x1 : Int) (M : mM) : Int := va M 81 200 x1
theorem s30d (d : Nat) (x1 : Int) (M : mM) : run prog (d + 2) 30 [vr 80, vi x1] (shp, M) = some (.inl (some (vi (r30d x1 M))), (shp, M)) := by
  show ev prog (d + 2) 30 0 0 [vr 80, vi x1] [] (shp, M) = _
  simp +decide only [b30d_0, b30d_1, va_81, r30d, callK_r, callK_x, psh_s, psh_n, hk_0, hk_1, hk_2, hk_3, hk_4, callK_ite, bit_bi, bit_0, bit_1, eq_self, reduceIte, Int.reduceEq, Int.reduceLT, Int.reduceNeg, Nat.reduceEqDiff, ne_eq, not_false_eq_true, pu_k, mset_k, mset_j, mset_at, va_pu, va_mset]
  repeat' split
  all_goals first | rfl | simp_all
def r30e (x1 : Int) (M : mM) : Int := va M 83 200 x1
theorem s30e (d : Nat) (x1 : Int) (M : mM) : run prog (d + 2) 30 [vr 82, vi x1] (shp, M) = some (.inl (some (vi (r30e x1 M))), (shp, M)) := by
  show ev prog (d + 2) 30 0 0 [vr 82, vi x1] [] (shp, M) = _
  simp +decide only [b30e_0, b30e_1, va_83, r30e, callK_r, callK_x, psh_s, psh_n, hk_0, hk_1, hk_2, hk_3, hk_4, callK_ite, bit_bi, bit_0, bit_1, eq_self, reduceIte, Int.reduceEq, Int.reduceLT, Int.reduceNeg, Nat.reduceEqDiff, ne_eq, not_false_eq_true, pu_k, mset_k, mset_j, mset_at, va_pu, va_mset]
  repeat' split
  all_goals first | rfl | simp_all
def r30f (x1 : Int) (M : mM) : Int := va M 55 200 x1
theorem s30f (d : Nat) (x1 : Int) (M : mM) : run prog (d + 2) 30 [vr 54, vi x1] (shp, M) = some (.inl (some (vi (r30f x1 M))), (shp, M)) := by
  show ev prog (d + 2) 30 0 0 [vr 54, vi x1] [] (shp, M) = _
  simp +decide only [b30f_0, b30f_1, va_55, r30f, callK_r, callK_x, psh_s, psh_n, hk_0, hk_1, hk_2, hk_3, hk_4, callK_ite, bit_bi, bit_0, bit_1, eq_self, reduceIte, Int.reduceEq, Int.reduceLT, Int.reduceNeg, Nat.reduceEqDiff, ne_eq, not_false_eq_true, pu_k, mset_k, mset_j, mset_at, va_pu, va_mset]
  repeat' split
  all_goals first | rfl | simp_all
def p31 (x1 : Int) (M : mM) : Bool := if x1 < 0 then false else (if x1 < (M 7 4) then true else false)
theorem s31 (d : Nat) (x1 : Int) (M : mM) : run prog (d + 1) 31 [vr 7, vi x1] (shp, M) = some (.inl (some (vi (bi (p31 x1 M)))), (shp, M)) := by
  show ev prog (d + 1) 31 0 0 [vr 7, vi x1] [] (shp, M) = _
  simp +decide only [b31_0, b31_3, b31_1, b31_4, b31_2, p31, callK_r, callK_x, psh_s, psh_n, hk_0, hk_1, hk_2, hk_3, hk_4, callK_ite, bit_bi, bit_0, bit_1, eq_self, reduceIte, Int.reduceEq, Int.reduceLT, Int.reduceNeg, Nat.reduceEqDiff, ne_eq, not_false_eq_true, pu_k, mset_k, mset_j, mset_at, va_pu, va_mset]
  repeat' split
  all_goals first | rfl | simp_all
def p31a (x1 : Int) (M : mM) : Bool := if x1 < 0 then false else (if x1 < (M 40 4) then true else false)
theorem s31a (d : Nat) (x1 : Int) (M : mM) : run prog (d + 1) 31 [vr 40, vi x1] (shp, M) = some (.inl (some (vi (bi (p31a x1 M)))), (shp, M)) := by
  show ev prog (d + 1) 31 0 0 [vr 40, vi x1] [] (shp, M) = _
  simp +decide only [b31a_0, b31a_3, b31a_1, b31a_4, b31a_2, p31a, callK_r, callK_x, psh_s, psh_n, hk_0, hk_1, hk_2, hk_3, hk_4, callK_ite, bit_bi, bit_0, bit_1, eq_self, reduceIte, Int.reduceEq, Int.reduceLT, Int.reduceNeg, Nat.reduceEqDiff, ne_eq, not_false_eq_true, pu_k, mset_k, mset_j, mset_at, va_pu, va_mset]
  repeat' split
  all_goals first | rfl | simp_all
def p32 (x1 : Int) (M : mM) : Bool := if (bi (p31 x1 M)) = 0 then false else (if (va M 11 200 x1) = 1 then true else false)
theorem s32 (d : Nat) (x1 : Int) (M : mM) : run prog (d + 2) 32 [vr 7, vi x1] (shp, M) = some (.inl (some (vi (bi (p32 x1 M)))), (shp, M)) := by
  show ev prog (d + 2) 32 0 0 [vr 7, vi x1] [] (shp, M) = _
  simp +decide only [b32_0, b32_1, b32_5, b32_2, b32_6, b32_3, b32_4, s31, va_11, p32, callK_r, callK_x, psh_s, psh_n, hk_0, hk_1, hk_2, hk_3, hk_4, callK_ite, bit_bi, bit_0, bit_1, eq_self, reduceIte, Int.reduceEq, Int.reduceLT, Int.reduceNeg, Nat.reduceEqDiff, ne_eq, not_false_eq_true, pu_k, mset_k, mset_j, mset_at, va_pu, va_mset]
  repeat' split
  all_goals first | rfl | simp_all
def p32a (x1 : Int) (M : mM) : Bool := if (bi (p31a x1 M)) = 0 then false else (if (va M 44 200 x1) = 1 then true else false)
theorem s32a (d : Nat) (x1 : Int) (M : mM) : run prog (d + 2) 32 [vr 40, vi x1] (shp, M) = some (.inl (some (vi (bi (p32a x1 M)))), (shp, M)) := by
  show ev prog (d + 2) 32 0 0 [vr 40, vi x1] [] (shp, M) = _
  simp +decide only [b32a_0, b32a_1, b32a_5, b32a_2, b32a_6, b32a_3, b32a_4, s31a, va_44, p32a, callK_r, callK_x, psh_s, psh_n, hk_0, hk_1, hk_2, hk_3, hk_4, callK_ite, bit_bi, bit_0, bit_1, eq_self, reduceIte, Int.reduceEq, Int.reduceLT, Int.reduceNeg, Nat.reduceEqDiff, ne_eq, not_false_eq_true, pu_k, mset_k, mset_j, mset_at, va_pu, va_mset]
  repeat' split
  all_goals first | rfl | simp_all
def r33 (x1 : Int) (M : mM) : Int := if x1 < 0 then 0 else va M 16 200 x1
theorem s33 (d : Nat) (x1 : Int) (M : mM) : run prog (d + 2) 33 [vr 12, vi x1] (shp, M) = some (.inl (some (vi (r33 x1 M))), (shp, M)) := by
  show ev prog (d + 2) 33 0 0 [vr 12, vi x1] [] (shp, M) = _
  simp +decide only [b33_0, b33_2, b33_1, b33_3, va_16, r33, callK_r, callK_x, psh_s, psh_n, hk_0, hk_1, hk_2, hk_3, hk_4, callK_ite, bit_bi, bit_0, bit_1, eq_self, reduceIte, Int.reduceEq, Int.reduceLT, Int.reduceNeg, Nat.reduceEqDiff, ne_eq, not_false_eq_true, pu_k, mset_k, mset_j, mset_at, va_pu, va_mset]
  repeat' split
  all_goals first | rfl | simp_all
def r33a (x1 : Int) (M : mM) : Int := if x1 < 0 then 0 else va M 49 200 x1
theorem s33a (d : Nat) (x1 : Int) (M : mM) : run prog (d + 2) 33 [vr 45, vi x1] (shp, M) = some (.inl (some (vi (r33a x1 M))), (shp, M)) := by
  show ev prog (d + 2) 33 0 0 [vr 45, vi x1] [] (shp, M) = _
  simp +decide only [b33a_0, b33a_2, b33a_1, b33a_3, va_49, r33a, callK_r, callK_x, psh_s, psh_n, hk_0, hk_1, hk_2, hk_3, hk_4, callK_ite, bit_bi, bit_0, bit_1, eq_self, reduceIte, Int.reduceEq, Int.reduceLT, Int.reduceNeg, Nat.reduceEqDiff, ne_eq, not_false_eq_true, pu_k, mset_k, mset_j, mset_at, va_pu, va_mset]
  repeat' split
  all_goals first | rfl | simp_all
def r34 (x1 : Int) (M : mM) : Int := if x1 < 0 then 0 else va M 17 200 x1
theorem s34 (d : Nat) (x1 : Int) (M : mM) : run prog (d + 2) 34 [vr 12, vi x1] (shp, M) = some (.inl (some (vi (r34 x1 M))), (shp, M)) := by
  show ev prog (d + 2) 34 0 0 [vr 12, vi x1] [] (shp, M) = _
  simp +decide only [b34_0, b34_2, b34_1, b34_3, va_17, r34, callK_r, callK_x, psh_s, psh_n, hk_0, hk_1, hk_2, hk_3, hk_4, callK_ite, bit_bi, bit_0, bit_1, eq_self, reduceIte, Int.reduceEq, Int.reduceLT, Int.reduceNeg, Nat.reduceEqDiff, ne_eq, not_false_eq_true, pu_k, mset_k, mset_j, mset_at, va_pu, va_mset]
  repeat' split
  all_goals first | rfl | simp_all
def r34a (x1 : Int) (M : mM) : Int := if x1 < 0 then 0 else va M 50 200 x1
theorem s34a (d : Nat) (x1 : Int) (M : mM) : run prog (d + 2) 34 [vr 45, vi x1] (shp, M) = some (.inl (some (vi (r34a x1 M))), (shp, M)) := by
  show ev prog (d + 2) 34 0 0 [vr 45, vi x1] [] (shp, M) = _
  simp +decide only [b34a_0, b34a_2, b34a_1, b34a_3, va_50, r34a, callK_r, callK_x, psh_s, psh_n, hk_0, hk_1, hk_2, hk_3, hk_4, callK_ite, bit_bi, bit_0, bit_1, eq_self, reduceIte, Int.reduceEq, Int.reduceLT, Int.reduceNeg, Nat.reduceEqDiff, ne_eq, not_false_eq_true, pu_k, mset_k, mset_j, mset_at, va_pu, va_mset]
  repeat' split
  all_goals first | rfl | simp_all
def r35 (x1 : Int) (x2 : Int) (M : mM) : Int := if x1 < 0 then 101 else va M 18 600 (wr ((wr (3 * x1)) + x2))
theorem s35 (d : Nat) (x1 : Int) (x2 : Int) (M : mM) : run prog (d + 2) 35 [vr 12, vi x1, vi x2] (shp, M) = some (.inl (some (vi (r35 x1 x2 M))), (shp, M)) := by
  show ev prog (d + 2) 35 0 0 [vr 12, vi x1, vi x2] [] (shp, M) = _
  simp +decide only [b35_0, b35_2, b35_1, b35_3, va_18, r35, callK_r, callK_x, psh_s, psh_n, hk_0, hk_1, hk_2, hk_3, hk_4, callK_ite, bit_bi, bit_0, bit_1, eq_self, reduceIte, Int.reduceEq, Int.reduceLT, Int.reduceNeg, Nat.reduceEqDiff, ne_eq, not_false_eq_true, pu_k, mset_k, mset_j, mset_at, va_pu, va_mset]
  repeat' split
  all_goals first | rfl | simp_all
def r35a (x1 : Int) (x2 : Int) (M : mM) : Int := if x1 < 0 then 101 else va M 51 600 (wr ((wr (3 * x1)) + x2))
theorem s35a (d : Nat) (x1 : Int) (x2 : Int) (M : mM) : run prog (d + 2) 35 [vr 45, vi x1, vi x2] (shp, M) = some (.inl (some (vi (r35a x1 x2 M))), (shp, M)) := by
  show ev prog (d + 2) 35 0 0 [vr 45, vi x1, vi x2] [] (shp, M) = _
  simp +decide only [b35a_0, b35a_2, b35a_1, b35a_3, va_51, r35a, callK_r, callK_x, psh_s, psh_n, hk_0, hk_1, hk_2, hk_3, hk_4, callK_ite, bit_bi, bit_0, bit_1, eq_self, reduceIte, Int.reduceEq, Int.reduceLT, Int.reduceNeg, Nat.reduceEqDiff, ne_eq, not_false_eq_true, pu_k, mset_k, mset_j, mset_at, va_pu, va_mset]
  repeat' split
  all_goals first | rfl | simp_all
def r36 (x1 : Int) (x2 : Int) (M : mM) : Int := if x1 < 0 then (-101) else va M 19 600 (wr ((wr (3 * x1)) + x2))
theorem s36 (d : Nat) (x1 : Int) (x2 : Int) (M : mM) : run prog (d + 2) 36 [vr 12, vi x1, vi x2] (shp, M) = some (.inl (some (vi (r36 x1 x2 M))), (shp, M)) := by
  show ev prog (d + 2) 36 0 0 [vr 12, vi x1, vi x2] [] (shp, M) = _
  simp +decide only [b36_0, b36_2, b36_1, b36_3, va_19, r36, callK_r, callK_x, psh_s, psh_n, hk_0, hk_1, hk_2, hk_3, hk_4, callK_ite, bit_bi, bit_0, bit_1, eq_self, reduceIte, Int.reduceEq, Int.reduceLT, Int.reduceNeg, Nat.reduceEqDiff, ne_eq, not_false_eq_true, pu_k, mset_k, mset_j, mset_at, va_pu, va_mset]
  repeat' split
  all_goals first | rfl | simp_all
def r36a (x1 : Int) (x2 : Int) (M : mM) : Int := if x1 < 0 then (-101) else va M 52 600 (wr ((wr (3 * x1)) + x2))
theorem s36a (d : Nat) (x1 : Int) (x2 : Int) (M : mM) : run prog (d + 2) 36 [vr 45, vi x1, vi x2] (shp, M) = some (.inl (some (vi (r36a x1 x2 M))), (shp, M)) := by
  show ev prog (d + 2) 36 0 0 [vr 45, vi x1, vi x2] [] (shp, M) = _
  simp +decide only [b36a_0, b36a_2, b36a_1, b36a_3, va_52, r36a, callK_r, callK_x, psh_s, psh_n, hk_0, hk_1, hk_2, hk_3, hk_4, callK_ite, bit_bi, bit_0, bit_1, eq_self, reduceIte, Int.reduceEq, Int.reduceLT, Int.reduceNeg, Nat.reduceEqDiff, ne_eq, not_false_eq_true, pu_k, mset_k, mset_j, mset_at, va_pu, va_mset]
  repeat' split
  all_goals first | rfl | simp_all
def r39 (x1 : Int) (M : mM) : Int := va M 34 6 x1
theorem s39 (d : Nat) (x1 : Int) (M : mM) : run prog (d + 2) 39 [vr 33, vi x1] (shp, M) = some (.inl (some (vi (r39 x1 M))), (shp, M)) := by
  show ev prog (d + 2) 39 0 0 [vr 33, vi x1] [] (shp, M) = _
  simp +decide only [b39_0, b39_1, va_34, r39, callK_r, callK_x, psh_s, psh_n, hk_0, hk_1, hk_2, hk_3, hk_4, callK_ite, bit_bi, bit_0, bit_1, eq_self, reduceIte, Int.reduceEq, Int.reduceLT, Int.reduceNeg, Nat.reduceEqDiff, ne_eq, not_false_eq_true, pu_k, mset_k, mset_j, mset_at, va_pu, va_mset]
  repeat' split
  all_goals first | rfl | simp_all
def p40 (x1 : Int) (M : mM) : Bool := if (wr ((r39 0 M) * (r33 x1 M))) < (wr ((if (r33 (r28 x1 0 M) M) < (r33 (r28 x1 1 M) M) then (r33 (r28 x1 1 M) M) else (r33 (r28 x1 0 M) M)) * 100)) then true else false
theorem s40 (d : Nat) (x1 : Int) (M : mM) : run prog (d + 3) 40 [vr 6, vi x1] (shp, M) = some (.inl (some (vi (bi (p40 x1 M)))), (shp, M)) := by
  show ev prog (d + 3) 40 0 0 [vr 6, vi x1, vj, vj, vj] [] (shp, M) = _
  simp +decide only [b40_0, b40_1, b40_2, b40_3, b40_4, b40_5, b40_6, b40_8, b40_7, b40_9, s33, s28, s39, p40, callK_r, callK_x, psh_s, psh_n, hk_0, hk_1, hk_2, hk_3, hk_4, callK_ite, bit_bi, bit_0, bit_1, eq_self, reduceIte, Int.reduceEq, Int.reduceLT, Int.reduceNeg, Nat.reduceEqDiff, ne_eq, not_false_eq_true, pu_k, mset_k, mset_j, mset_at, va_pu, va_mset]
  repeat' split
  all_goals first | rfl | simp_all
def r43 (x1 : Int) (M : mM) : Int := if (va M 14 200 x1) = (-1) then (-1) else (if (r28 (va M 14 200 x1) 0 M) = x1 then wr ((wr (2 * (va M 14 200 x1))) + 0) else wr ((wr (2 * (va M 14 200 x1))) + 1))
theorem s43 (d : Nat) (x1 : Int) (M : mM) : run prog (d + 3) 43 [vr 12, vi x1] (shp, M) = some (.inl (some (vi (r43 x1 M))), (shp, M)) := by
  show ev prog (d + 3) 43 0 0 [vr 12, vi x1, vj] [] (shp, M) = _
  simp +decide only [b43_0, b43_1, b43_3, b43_2, b43_4, b43_6, b43_5, b43_7, s28, va_14, r43, callK_r, callK_x, psh_s, psh_n, hk_0, hk_1, hk_2, hk_3, hk_4, callK_ite, bit_bi, bit_0, bit_1, eq_self, reduceIte, Int.reduceEq, Int.reduceLT, Int.reduceNeg, Nat.reduceEqDiff, ne_eq, not_false_eq_true, pu_k, mset_k, mset_j, mset_at, va_pu, va_mset]
  repeat' split
  all_goals first | rfl | simp_all
def o44 (x1 : Int) (x2 : Int) (x3 : Int) (x4 : Int) (M : mM) : mR := if x1 < x2 then some (.inl none, (shp, mset (pu (pu (pu (pu M 29 60 (M 25 8) x1) 30 60 (M 25 8) x2) 31 60 (M 25 8) x3) 32 60 (M 25 8) x4) 25 8 (wr ((M 25 8) + 1)))) else some (.inl none, (shp, M))
theorem s44 (d : Nat) (x1 : Int) (x2 : Int) (x3 : Int) (x4 : Int) (M : mM) : run prog (d + 2) 44 [vr 25, vi x1, vi x2, vi x3, vi x4] (shp, M) = o44 x1 x2 x3 x4 M := by
  show ev prog (d + 2) 44 0 0 [vr 25, vi x1, vi x2, vi x3, vi x4] [] (shp, M) = _
  simp +decide only [b44_0, b44_2, b44_1, b44_3, b44_4, b44_5, b44_6, pu_29, pu_30, pu_31, pu_32, o44, callK_r, callK_x, psh_s, psh_n, hk_0, hk_1, hk_2, hk_3, hk_4, callK_ite, bit_bi, bit_0, bit_1, eq_self, reduceIte, Int.reduceEq, Int.reduceLT, Int.reduceNeg, Nat.reduceEqDiff, ne_eq, not_false_eq_true, pu_k, mset_k, mset_j, mset_at, va_pu, va_mset]
  repeat' split
  all_goals first | rfl | simp_all
def p51 (x0 : Int) (x1 : Int) (x2 : Int) (M : mM) : Bool := if x0 < x1 then false else (if x2 < x0 then false else true)
theorem s51 (d : Nat) (x0 : Int) (x1 : Int) (x2 : Int) (M : mM) : run prog (d + 1) 51 [vi x0, vi x1, vi x2] (shp, M) = some (.inl (some (vi (bi (p51 x0 x1 x2 M)))), (shp, M)) := by
  show ev prog (d + 1) 51 0 0 [vi x0, vi x1, vi x2] [] (shp, M) = _
  simp +decide only [b51_0, b51_3, b51_1, b51_4, b51_2, p51, callK_r, callK_x, psh_s, psh_n, hk_0, hk_1, hk_2, hk_3, hk_4, callK_ite, bit_bi, bit_0, bit_1, eq_self, reduceIte, Int.reduceEq, Int.reduceLT, Int.reduceNeg, Nat.reduceEqDiff, ne_eq, not_false_eq_true, pu_k, mset_k, mset_j, mset_at, va_pu, va_mset]
  repeat' split
  all_goals first | rfl | simp_all
def p52 (x0 : Int) (x1 : Int) (x2 : Int) (M : mM) : Bool := if (bi (p51 x0 (-100) 100 M)) = 0 then false else (if (bi (p51 x1 (-100) 100 M)) = 0 then false else (if (bi (p51 x2 (-100) 100 M)) = 0 then false else true))
theorem s52 (d : Nat) (x0 : Int) (x1 : Int) (x2 : Int) (M : mM) : run prog (d + 2) 52 [vi x0, vi x1, vi x2] (shp, M) = some (.inl (some (vi (bi (p52 x0 x1 x2 M)))), (shp, M)) := by
  show ev prog (d + 2) 52 0 0 [vi x0, vi x1, vi x2] [] (shp, M) = _
  simp +decide only [b52_0, b52_1, b52_7, b52_2, b52_8, b52_3, b52_4, b52_5, b52_6, s51, p52, callK_r, callK_x, psh_s, psh_n, hk_0, hk_1, hk_2, hk_3, hk_4, callK_ite, bit_bi, bit_0, bit_1, eq_self, reduceIte, Int.reduceEq, Int.reduceLT, Int.reduceNeg, Nat.reduceEqDiff, ne_eq, not_false_eq_true, pu_k, mset_k, mset_j, mset_at, va_pu, va_mset]
  repeat' split
  all_goals first | rfl | simp_all
def o53 (x1 : Int) (M : mM) : mR := some (.inl (some (vi 0)), (shp, mset M 87 3 x1))
theorem s53 (d : Nat) (x1 : Int) (M : mM) : run prog (d + 1) 53 [vr 87, vi x1] (shp, M) = o53 x1 M := by
  show ev prog (d + 1) 53 0 0 [vr 87, vi x1] [] (shp, M) = _
  simp +decide only [b53_0, o53, callK_r, callK_x, psh_s, psh_n, hk_0, hk_1, hk_2, hk_3, hk_4, callK_ite, bit_bi, bit_0, bit_1, eq_self, reduceIte, Int.reduceEq, Int.reduceLT, Int.reduceNeg, Nat.reduceEqDiff, ne_eq, not_false_eq_true, pu_k, mset_k, mset_j, mset_at, va_pu, va_mset]
  repeat' split
  all_goals first | rfl | simp_all
def r67 (M : mM) : Int := M 87 3
theorem s67 (d : Nat) (M : mM) : run prog (d + 1) 67 [vr 87] (shp, M) = some (.inl (some (vi (r67 M))), (shp, M)) := by
  show ev prog (d + 1) 67 0 0 [vr 87] [] (shp, M) = _
  simp +decide only [b67_0, r67, callK_r, callK_x, psh_s, psh_n, hk_0, hk_1, hk_2, hk_3, hk_4, callK_ite, bit_bi, bit_0, bit_1, eq_self, reduceIte, Int.reduceEq, Int.reduceLT, Int.reduceNeg, Nat.reduceEqDiff, ne_eq, not_false_eq_true, pu_k, mset_k, mset_j, mset_at, va_pu, va_mset]
  repeat' split
  all_goals first | rfl | simp_all
def o68 (x1 : Int) (M : mM) : mR := some (.inl none, (shp, mset (pu M 11 200 x1 0) 7 5 (wr ((M 7 5) - 1))))
theorem s68 (d : Nat) (x1 : Int) (M : mM) : run prog (d + 2) 68 [vr 7, vi x1] (shp, M) = o68 x1 M := by
  show ev prog (d + 2) 68 0 0 [vr 7, vi x1] [] (shp, M) = _
  simp +decide only [b68_0, b68_1, pu_11, o68, callK_r, callK_x, psh_s, psh_n, hk_0, hk_1, hk_2, hk_3, hk_4, callK_ite, bit_bi, bit_0, bit_1, eq_self, reduceIte, Int.reduceEq, Int.reduceLT, Int.reduceNeg, Nat.reduceEqDiff, ne_eq, not_false_eq_true, pu_k, mset_k, mset_j, mset_at, va_pu, va_mset]
  repeat' split
  all_goals first | rfl | simp_all
def p77 (x1 : Int) (M : mM) : Bool := (p32 x1 M)
theorem s77 (d : Nat) (x1 : Int) (M : mM) : run prog (d + 3) 77 [vr 5, vi x1] (shp, M) = some (.inl (some (vi (bi (p77 x1 M)))), (shp, M)) := by
  show ev prog (d + 3) 77 0 0 [vr 5, vi x1] [] (shp, M) = _
  simp +decide only [b77_0, b77_1, s32, p77, callK_r, callK_x, psh_s, psh_n, hk_0, hk_1, hk_2, hk_3, hk_4, callK_ite, bit_bi, bit_0, bit_1, eq_self, reduceIte, Int.reduceEq, Int.reduceLT, Int.reduceNeg, Nat.reduceEqDiff, ne_eq, not_false_eq_true, pu_k, mset_k, mset_j, mset_at, va_pu, va_mset]
  repeat' split
  all_goals first | rfl | simp_all
def o79 (x1 : Int) (M : mM) : mR := if (bi (p31 x1 M)) = 0 then some (.inr 2, (shp, M)) else some (.inl none, (shp, M))
theorem s79 (d : Nat) (x1 : Int) (M : mM) : run prog (d + 2) 79 [vr 5, vi x1] (shp, M) = o79 x1 M := by
  show ev prog (d + 2) 79 0 0 [vr 5, vi x1] [] (shp, M) = _
  simp +decide only [b79_0, b79_1, b79_3, b79_2, s31, o79, callK_r, callK_x, psh_s, psh_n, hk_0, hk_1, hk_2, hk_3, hk_4, callK_ite, bit_bi, bit_0, bit_1, eq_self, reduceIte, Int.reduceEq, Int.reduceLT, Int.reduceNeg, Nat.reduceEqDiff, ne_eq, not_false_eq_true, pu_k, mset_k, mset_j, mset_at, va_pu, va_mset]
  repeat' split
  all_goals first | rfl | simp_all
def o80 (x1 : Int) (M : mM) : mR := if x1 < 0 then some (.inr 0, (shp, M)) else (if x1 < 3 then some (.inl none, (shp, M)) else some (.inr 0, (shp, M)))
theorem s80 (d : Nat) (x1 : Int) (M : mM) : run prog (d + 1) 80 [vr 5, vi x1] (shp, M) = o80 x1 M := by
  show ev prog (d + 1) 80 0 0 [vr 5, vi x1] [] (shp, M) = _
  simp +decide only [b80_0, b80_2, b80_1, b80_3, o80, callK_r, callK_x, psh_s, psh_n, hk_0, hk_1, hk_2, hk_3, hk_4, callK_ite, bit_bi, bit_0, bit_1, eq_self, reduceIte, Int.reduceEq, Int.reduceLT, Int.reduceNeg, Nat.reduceEqDiff, ne_eq, not_false_eq_true, pu_k, mset_k, mset_j, mset_at, va_pu, va_mset]
  repeat' split
  all_goals first | rfl | simp_all
def o81 (x1 : Int) (x2 : Int) (M : mM) : mR := if (bi (p31 x1 M)) = 0 then some (.inr 2, (shp, M)) else (if x2 < 0 then some (.inr 0, (shp, M)) else (if x2 < 3 then some (.inl (some (vi (r20 x1 x2 M))), (shp, M)) else some (.inr 0, (shp, M))))
theorem s81 (d : Nat) (x1 : Int) (x2 : Int) (M : mM) : run prog (d + 3) 81 [vr 5, vi x1, vi x2] (shp, M) = o81 x1 x2 M := by
  show ev prog (d + 3) 81 0 0 [vr 5, vi x1, vi x2] [] (shp, M) = _
  simp +decide only [b81_0, b81_1, b81_2, b81_3, s20, s80, s79, o80, o79, o81, callK_r, callK_x, psh_s, psh_n, hk_0, hk_1, hk_2, hk_3, hk_4, callK_ite, bit_bi, bit_0, bit_1, eq_self, reduceIte, Int.reduceEq, Int.reduceLT, Int.reduceNeg, Nat.reduceEqDiff, ne_eq, not_false_eq_true, pu_k, mset_k, mset_j, mset_at, va_pu, va_mset]
  repeat' split
  all_goals first | rfl | simp_all
def p83 (x0 : Int) (M : mM) : Bool := (p51 x0 0 2 M)
theorem s83 (d : Nat) (x0 : Int) (M : mM) : run prog (d + 2) 83 [vi x0] (shp, M) = some (.inl (some (vi (bi (p83 x0 M)))), (shp, M)) := by
  show ev prog (d + 2) 83 0 0 [vi x0] [] (shp, M) = _
  simp +decide only [b83_0, b83_1, s51, p83, callK_r, callK_x, psh_s, psh_n, hk_0, hk_1, hk_2, hk_3, hk_4, callK_ite, bit_bi, bit_0, bit_1, eq_self, reduceIte, Int.reduceEq, Int.reduceLT, Int.reduceNeg, Nat.reduceEqDiff, ne_eq, not_false_eq_true, pu_k, mset_k, mset_j, mset_at, va_pu, va_mset]
  repeat' split
  all_goals first | rfl | simp_all
def o85 (x1 : Int) (M : mM) : mR := if (bi (p31 x1 M)) = 0 then some (.inr 2, (shp, M)) else some (.inl (some (vi (va M 9 200 x1))), (shp, M))
theorem s85 (d : Nat) (x1 : Int) (M : mM) : run prog (d + 3) 85 [vr 5, vi x1] (shp, M) = o85 x1 M := by
  show ev prog (d + 3) 85 0 0 [vr 5, vi x1] [] (shp, M) = _
  simp +decide only [b85_0, b85_1, b85_2, s79, o79, va_9, o85, callK_r, callK_x, psh_s, psh_n, hk_0, hk_1, hk_2, hk_3, hk_4, callK_ite, bit_bi, bit_0, bit_1, eq_self, reduceIte, Int.reduceEq, Int.reduceLT, Int.reduceNeg, Nat.reduceEqDiff, ne_eq, not_false_eq_true, pu_k, mset_k, mset_j, mset_at, va_pu, va_mset]
  repeat' split
  all_goals first | rfl | simp_all
def o88 (x1 : Int) (M : mM) : mR := if (bi (p31 x1 M)) = 0 then some (.inr 2, (shp, M)) else some (.inl (some (vi (va M 10 200 x1))), (shp, M))
theorem s88 (d : Nat) (x1 : Int) (M : mM) : run prog (d + 3) 88 [vr 5, vi x1] (shp, M) = o88 x1 M := by
  show ev prog (d + 3) 88 0 0 [vr 5, vi x1] [] (shp, M) = _
  simp +decide only [b88_0, b88_1, b88_2, s79, o79, va_10, o88, callK_r, callK_x, psh_s, psh_n, hk_0, hk_1, hk_2, hk_3, hk_4, callK_ite, bit_bi, bit_0, bit_1, eq_self, reduceIte, Int.reduceEq, Int.reduceLT, Int.reduceNeg, Nat.reduceEqDiff, ne_eq, not_false_eq_true, pu_k, mset_k, mset_j, mset_at, va_pu, va_mset]
  repeat' split
  all_goals first | rfl | simp_all
def o91 (x1 : Int) (x2 : Int) (x3 : Int) (M : mM) : mR := if (bi (p31 x1 M)) = 0 then some (.inr 2, (shp, M)) else (if (bi (p14 x2 x3 M)) = 0 then some (.inr 0, (shp, M)) else some (.inl (some (vi (wr ((wr (10 * (va M 9 200 x1))) + (va M 10 200 x1))))), (shp, pu (pu M 9 200 x1 x2) 10 200 x1 x3)))
theorem s91 (d : Nat) (x1 : Int) (x2 : Int) (x3 : Int) (M : mM) : run prog (d + 3) 91 [vr 5, vi x1, vi x2, vi x3] (shp, M) = o91 x1 x2 x3 M := by
  show ev prog (d + 3) 91 0 0 [vr 5, vi x1, vi x2, vi x3, vj] [] (shp, M) = _
  simp +decide only [b91_0, b91_1, b91_2, b91_4, b91_3, b91_5, b91_6, b91_7, b91_8, s14, s79, o79, pu_10, pu_9, va_10, va_9, o91, callK_r, callK_x, psh_s, psh_n, hk_0, hk_1, hk_2, hk_3, hk_4, callK_ite, bit_bi, bit_0, bit_1, eq_self, reduceIte, Int.reduceEq, Int.reduceLT, Int.reduceNeg, Nat.reduceEqDiff, ne_eq, not_false_eq_true, pu_k, mset_k, mset_j, mset_at, va_pu, va_mset]
  repeat' split
  all_goals first | rfl | simp_all
def o95 (x1 : Int) (x2 : Int) (x3 : Int) (M : mM) : mR := some (.inl none, (shp, pu M 8 600 (wr ((wr (3 * x1)) + x2)) (wr ((r20 x1 x2 M) + x3))))
theorem s95 (d : Nat) (x1 : Int) (x2 : Int) (x3 : Int) (M : mM) : run prog (d + 3) 95 [vr 7, vi x1, vi x2, vi x3] (shp, M) = o95 x1 x2 x3 M := by
  show ev prog (d + 3) 95 0 0 [vr 7, vi x1, vi x2, vi x3] [] (shp, M) = _
  simp +decide only [b95_0, b95_1, b95_2, s20, pu_8, o95, callK_r, callK_x, psh_s, psh_n, hk_0, hk_1, hk_2, hk_3, hk_4, callK_ite, bit_bi, bit_0, bit_1, eq_self, reduceIte, Int.reduceEq, Int.reduceLT, Int.reduceNeg, Nat.reduceEqDiff, ne_eq, not_false_eq_true, pu_k, mset_k, mset_j, mset_at, va_pu, va_mset]
  repeat' split
  all_goals first | rfl | simp_all
def o101 (M : mM) : mR := if (M 12 11) = (-1) then some (.inr 2, (shp, M)) else some (.inl (some (vi (M 12 11))), (shp, M))
theorem s101 (d : Nat) (M : mM) : run prog (d + 1) 101 [vr 5] (shp, M) = o101 M := by
  show ev prog (d + 1) 101 0 0 [vr 5] [] (shp, M) = _
  simp +decide only [b101_0, b101_2, b101_1, o101, callK_r, callK_x, psh_s, psh_n, hk_0, hk_1, hk_2, hk_3, hk_4, callK_ite, bit_bi, bit_0, bit_1, eq_self, reduceIte, Int.reduceEq, Int.reduceLT, Int.reduceNeg, Nat.reduceEqDiff, ne_eq, not_false_eq_true, pu_k, mset_k, mset_j, mset_at, va_pu, va_mset]
  repeat' split
  all_goals first | rfl | simp_all
def p104 (x1 : Int) (M : mM) : Bool := if (va M 15 200 x1) < 0 then false else true
theorem s104 (d : Nat) (x1 : Int) (M : mM) : run prog (d + 2) 104 [vr 12, vi x1] (shp, M) = some (.inl (some (vi (bi (p104 x1 M)))), (shp, M)) := by
  show ev prog (d + 2) 104 0 0 [vr 12, vi x1] [] (shp, M) = _
  simp +decide only [b104_0, b104_1, b104_3, b104_2, b104_4, va_15, p104, callK_r, callK_x, psh_s, psh_n, hk_0, hk_1, hk_2, hk_3, hk_4, callK_ite, bit_bi, bit_0, bit_1, eq_self, reduceIte, Int.reduceEq, Int.reduceLT, Int.reduceNeg, Nat.reduceEqDiff, ne_eq, not_false_eq_true, pu_k, mset_k, mset_j, mset_at, va_pu, va_mset]
  repeat' split
  all_goals first | rfl | simp_all
def o105 (x1 : Int) (M : mM) : mR := if (bi (p104 x1 M)) = 0 then some (.inr 2, (shp, M)) else some (.inl none, (shp, M))
theorem s105 (d : Nat) (x1 : Int) (M : mM) : run prog (d + 3) 105 [vr 5, vi x1] (shp, M) = o105 x1 M := by
  show ev prog (d + 3) 105 0 0 [vr 5, vi x1] [] (shp, M) = _
  simp +decide only [b105_0, b105_1, b105_3, b105_2, s104, o105, callK_r, callK_x, psh_s, psh_n, hk_0, hk_1, hk_2, hk_3, hk_4, callK_ite, bit_bi, bit_0, bit_1, eq_self, reduceIte, Int.reduceEq, Int.reduceLT, Int.reduceNeg, Nat.reduceEqDiff, ne_eq, not_false_eq_true, pu_k, mset_k, mset_j, mset_at, va_pu, va_mset]
  repeat' split
  all_goals first | rfl | simp_all
def o106 (x1 : Int) (x2 : Int) (M : mM) : mR := if (bi (p104 x1 M)) = 0 then some (.inr 2, (shp, M)) else (if x2 = 0 then some (.inl (some (vi (r28 x1 x2 M))), (shp, M)) else (if x2 = 1 then some (.inl (some (vi (r28 x1 x2 M))), (shp, M)) else some (.inr 0, (shp, M))))
theorem s106 (d : Nat) (x1 : Int) (x2 : Int) (M : mM) : run prog (d + 4) 106 [vr 5, vi x1, vi x2] (shp, M) = o106 x1 x2 M := by
  show ev prog (d + 4) 106 0 0 [vr 5, vi x1, vi x2] [] (shp, M) = _
  simp +decide only [b106_0, b106_1, b106_4, b106_2, b106_5, b106_3, s105, s28, o105, o106, callK_r, callK_x, psh_s, psh_n, hk_0, hk_1, hk_2, hk_3, hk_4, callK_ite, bit_bi, bit_0, bit_1, eq_self, reduceIte, Int.reduceEq, Int.reduceLT, Int.reduceNeg, Nat.reduceEqDiff, ne_eq, not_false_eq_true, pu_k, mset_k, mset_j, mset_at, va_pu, va_mset]
  repeat' split
  all_goals first | rfl | simp_all
def o110 (x1 : Int) (M : mM) : mR := if (bi (p104 x1 M)) = 0 then some (.inr 2, (shp, M)) else some (.inl (some (vi (va M 14 200 x1))), (shp, M))
theorem s110 (d : Nat) (x1 : Int) (M : mM) : run prog (d + 4) 110 [vr 5, vi x1] (shp, M) = o110 x1 M := by
  show ev prog (d + 4) 110 0 0 [vr 5, vi x1] [] (shp, M) = _
  simp +decide only [b110_0, b110_1, b110_2, s105, o105, va_14, o110, callK_r, callK_x, psh_s, psh_n, hk_0, hk_1, hk_2, hk_3, hk_4, callK_ite, bit_bi, bit_0, bit_1, eq_self, reduceIte, Int.reduceEq, Int.reduceLT, Int.reduceNeg, Nat.reduceEqDiff, ne_eq, not_false_eq_true, pu_k, mset_k, mset_j, mset_at, va_pu, va_mset]
  repeat' split
  all_goals first | rfl | simp_all
def o113 (x1 : Int) (M : mM) : mR := if (bi (p104 x1 M)) = 0 then some (.inr 2, (shp, M)) else some (.inl (some (vi (va M 15 200 x1))), (shp, M))
theorem s113 (d : Nat) (x1 : Int) (M : mM) : run prog (d + 4) 113 [vr 5, vi x1] (shp, M) = o113 x1 M := by
  show ev prog (d + 4) 113 0 0 [vr 5, vi x1] [] (shp, M) = _
  simp +decide only [b113_0, b113_1, b113_2, s105, o105, va_15, o113, callK_r, callK_x, psh_s, psh_n, hk_0, hk_1, hk_2, hk_3, hk_4, callK_ite, bit_bi, bit_0, bit_1, eq_self, reduceIte, Int.reduceEq, Int.reduceLT, Int.reduceNeg, Nat.reduceEqDiff, ne_eq, not_false_eq_true, pu_k, mset_k, mset_j, mset_at, va_pu, va_mset]
  repeat' split
  all_goals first | rfl | simp_all
def o120 (x1 : Int) (x2 : Int) (M : mM) : mR := if (bi (p104 x1 M)) = 0 then some (.inr 2, (shp, M)) else (if x2 = 0 then (if x2 = 0 then some (.inl (some (vi (r33 x1 M))), (shp, M)) else some (.inl (some (vi (r34 x1 M))), (shp, M))) else (if x2 = 1 then (if x2 = 0 then some (.inl (some (vi (r33 x1 M))), (shp, M)) else some (.inl (some (vi (r34 x1 M))), (shp, M))) else some (.inr 0, (shp, M))))
theorem s120 (d : Nat) (x1 : Int) (x2 : Int) (M : mM) : run prog (d + 4) 120 [vr 5, vi x1, vi x2] (shp, M) = o120 x1 x2 M := by
  show ev prog (d + 4) 120 0 0 [vr 5, vi x1, vi x2] [] (shp, M) = _
  simp +decide only [b120_0, b120_1, b120_4, b120_2, b120_7, b120_5, b120_3, b120_8, b120_6, s105, s33, s34, o105, o120, callK_r, callK_x, psh_s, psh_n, hk_0, hk_1, hk_2, hk_3, hk_4, callK_ite, bit_bi, bit_0, bit_1, eq_self, reduceIte, Int.reduceEq, Int.reduceLT, Int.reduceNeg, Nat.reduceEqDiff, ne_eq, not_false_eq_true, pu_k, mset_k, mset_j, mset_at, va_pu, va_mset]
  repeat' split
  all_goals first | rfl | simp_all
def p124 (x1 : Int) (M : mM) : Bool := if (va M 38 10 x1) = 1 then true else false
theorem s124 (d : Nat) (x1 : Int) (M : mM) : run prog (d + 2) 124 [vr 33, vi x1] (shp, M) = some (.inl (some (vi (bi (p124 x1 M)))), (shp, M)) := by
  show ev prog (d + 2) 124 0 0 [vr 33, vi x1] [] (shp, M) = _
  simp +decide only [b124_0, b124_1, b124_3, b124_2, b124_4, va_38, p124, callK_r, callK_x, psh_s, psh_n, hk_0, hk_1, hk_2, hk_3, hk_4, callK_ite, bit_bi, bit_0, bit_1, eq_self, reduceIte, Int.reduceEq, Int.reduceLT, Int.reduceNeg, Nat.reduceEqDiff, ne_eq, not_false_eq_true, pu_k, mset_k, mset_j, mset_at, va_pu, va_mset]
  repeat' split
  all_goals first | rfl | simp_all
def p125 (x1 : Int) (M : mM) : Bool := if (bi (p32 x1 M)) = 0 then false else (if (bi (p124 (va M 10 200 x1) M)) = 0 then true else false)
theorem s125 (d : Nat) (x1 : Int) (M : mM) : run prog (d + 3) 125 [vr 72, vi x1] (shp, M) = some (.inl (some (vi (bi (p125 x1 M)))), (shp, M)) := by
  show ev prog (d + 3) 125 0 0 [vr 72, vi x1] [] (shp, M) = _
  simp +decide only [b125_0, b125_1, b125_6, b125_2, b125_7, b125_3, b125_4, b125_5, s32, s124, va_10, p125, callK_r, callK_x, psh_s, psh_n, hk_0, hk_1, hk_2, hk_3, hk_4, callK_ite, bit_bi, bit_0, bit_1, eq_self, reduceIte, Int.reduceEq, Int.reduceLT, Int.reduceNeg, Nat.reduceEqDiff, ne_eq, not_false_eq_true, pu_k, mset_k, mset_j, mset_at, va_pu, va_mset]
  repeat' split
  all_goals first | rfl | simp_all
def o132 (x1 : Int) (M : mM) : mR := if (bi (p104 x1 M)) = 0 then some (.inr 2, (shp, M)) else (if (r34 x1 M) = 0 then some (.inr 2, (shp, M)) else some (.inl none, (shp, M)))
theorem s132 (d : Nat) (x1 : Int) (M : mM) : run prog (d + 3) 132 [vr 5, vi x1] (shp, M) = o132 x1 M := by
  show ev prog (d + 3) 132 0 0 [vr 5, vi x1] [] (shp, M) = _
  simp +decide only [b132_0, b132_1, b132_4, b132_2, b132_3, b132_5, s34, s104, o132, callK_r, callK_x, psh_s, psh_n, hk_0, hk_1, hk_2, hk_3, hk_4, callK_ite, bit_bi, bit_0, bit_1, eq_self, reduceIte, Int.reduceEq, Int.reduceLT, Int.reduceNeg, Nat.reduceEqDiff, ne_eq, not_false_eq_true, pu_k, mset_k, mset_j, mset_at, va_pu, va_mset]
  repeat' split
  all_goals first | rfl | simp_all
def o133 (x1 : Int) (x2 : Int) (x3 : Int) (M : mM) : mR := if (bi (p104 x1 M)) = 0 then some (.inr 2, (shp, M)) else (if (r34 x1 M) = 0 then some (.inr 2, (shp, M)) else (if x2 < 0 then some (.inr 0, (shp, M)) else (if x2 < 3 then (if x3 = 0 then (if x3 = 0 then some (.inl (some (vi (r35 x1 x2 M))), (shp, M)) else some (.inl (some (vi (r36 x1 x2 M))), (shp, M))) else (if x3 = 1 then (if x3 = 0 then some (.inl (some (vi (r35 x1 x2 M))), (shp, M)) else some (.inl (some (vi (r36 x1 x2 M))), (shp, M))) else some (.inr 0, (shp, M)))) else some (.inr 0, (shp, M)))))
theorem s133 (d : Nat) (x1 : Int) (x2 : Int) (x3 : Int) (M : mM) : run prog (d + 4) 133 [vr 5, vi x1, vi x2, vi x3] (shp, M) = o133 x1 x2 x3 M := by
  show ev prog (d + 4) 133 0 0 [vr 5, vi x1, vi x2, vi x3] [] (shp, M) = _
  simp +decide only [b133_0, b133_1, b133_2, b133_5, b133_3, b133_8, b133_6, b133_4, b133_9, b133_7, s80, s36, s35, s132, o80, o132, o133, callK_r, callK_x, psh_s, psh_n, hk_0, hk_1, hk_2, hk_3, hk_4, callK_ite, bit_bi, bit_0, bit_1, eq_self, reduceIte, Int.reduceEq, Int.reduceLT, Int.reduceNeg, Nat.reduceEqDiff, ne_eq, not_false_eq_true, pu_k, mset_k, mset_j, mset_at, va_pu, va_mset]
  repeat' split
  all_goals first | rfl | simp_all
def r135 (x0 : Int) (x1 : Int) (M : mM) : Int := if x0 < x1 then x0 else x1
theorem s135 (d : Nat) (x0 : Int) (x1 : Int) (M : mM) : run prog (d + 1) 135 [vi x0, vi x1] (shp, M) = some (.inl (some (vi (r135 x0 x1 M))), (shp, M)) := by
  show ev prog (d + 1) 135 0 0 [vi x0, vi x1] [] (shp, M) = _
  simp +decide only [b135_0, b135_2, b135_1, b135_3, r135, callK_r, callK_x, psh_s, psh_n, hk_0, hk_1, hk_2, hk_3, hk_4, callK_ite, bit_bi, bit_0, bit_1, eq_self, reduceIte, Int.reduceEq, Int.reduceLT, Int.reduceNeg, Nat.reduceEqDiff, ne_eq, not_false_eq_true, pu_k, mset_k, mset_j, mset_at, va_pu, va_mset]
  repeat' split
  all_goals first | rfl | simp_all
def r137 (x0 : Int) (x1 : Int) (M : mM) : Int := if x1 < x0 then x0 else x1
theorem s137 (d : Nat) (x0 : Int) (x1 : Int) (M : mM) : run prog (d + 1) 137 [vi x0, vi x1] (shp, M) = some (.inl (some (vi (r137 x0 x1 M))), (shp, M)) := by
  show ev prog (d + 1) 137 0 0 [vi x0, vi x1] [] (shp, M) = _
  simp +decide only [b137_0, b137_2, b137_1, b137_3, r137, callK_r, callK_x, psh_s, psh_n, hk_0, hk_1, hk_2, hk_3, hk_4, callK_ite, bit_bi, bit_0, bit_1, eq_self, reduceIte, Int.reduceEq, Int.reduceLT, Int.reduceNeg, Nat.reduceEqDiff, ne_eq, not_false_eq_true, pu_k, mset_k, mset_j, mset_at, va_pu, va_mset]
  repeat' split
  all_goals first | rfl | simp_all
def o140 (x1 : Int) (x2 : Int) (M : mM) : mR := if x1 < 0 then some (.inr 3, (shp, M)) else (if x1 < 6 then (if x2 < (va M 1 6 x1) then some (.inr 0, (shp, M)) else (if (va M 2 6 x1) < x2 then some (.inr 0, (shp, M)) else some (.inl (some (vi (r39 x1 M))), (shp, pu M 34 6 x1 x2)))) else some (.inr 3, (shp, M)))
theorem s140 (d : Nat) (x1 : Int) (x2 : Int) (M : mM) : run prog (d + 3) 140 [vr 5, vi x1, vi x2] (shp, M) = o140 x1 x2 M := by
  show ev prog (d + 3) 140 0 0 [vr 5, vi x1, vi x2, vj] [] (shp, M) = _
  simp +decide only [b140_0, b140_2, b140_1, b140_3, b140_4, b140_7, b140_5, b140_6, b140_8, b140_9, b140_10, s39, pu_34, va_1, va_2, o140, callK_r, callK_x, psh_s, psh_n, hk_0, hk_1, hk_2, hk_3, hk_4, callK_ite, bit_bi, bit_0, bit_1, eq_self, reduceIte, Int.reduceEq, Int.reduceLT, Int.reduceNeg, Nat.reduceEqDiff, ne_eq, not_false_eq_true, pu_k, mset_k, mset_j, mset_at, va_pu, va_mset]
  repeat' split
  all_goals first | rfl | simp_all
def o146 (x1 : Int) (M : mM) : mR := if x1 < 0 then some (.inr 0, (shp, M)) else (if x1 < 4 then some (.inl (some (vi (va M 26 4 x1))), (shp, M)) else some (.inr 0, (shp, M)))
theorem s146 (d : Nat) (x1 : Int) (M : mM) : run prog (d + 2) 146 [vr 5, vi x1] (shp, M) = o146 x1 M := by
  show ev prog (d + 2) 146 0 0 [vr 5, vi x1] [] (shp, M) = _
  simp +decide only [b146_0, b146_2, b146_1, b146_3, b146_4, va_26, o146, callK_r, callK_x, psh_s, psh_n, hk_0, hk_1, hk_2, hk_3, hk_4, callK_ite, bit_bi, bit_0, bit_1, eq_self, reduceIte, Int.reduceEq, Int.reduceLT, Int.reduceNeg, Nat.reduceEqDiff, ne_eq, not_false_eq_true, pu_k, mset_k, mset_j, mset_at, va_pu, va_mset]
  repeat' split
  all_goals first | rfl | simp_all
def o150 (x1 : Int) (x2 : Int) (x3 : Int) (M : mM) : mR := if (bi (p13 x1 x2 x3 M)) = 0 then some (.inr 0, (shp, M)) else some (.inl none, (shp, mset (mset (mset M 35 0 x1) 35 1 x2) 35 2 x3))
theorem s150 (d : Nat) (x1 : Int) (x2 : Int) (x3 : Int) (M : mM) : run prog (d + 3) 150 [vr 5, vi x1, vi x2, vi x3] (shp, M) = o150 x1 x2 x3 M := by
  show ev prog (d + 3) 150 0 0 [vr 5, vi x1, vi x2, vi x3] [] (shp, M) = _
  simp +decide only [b150_0, b150_1, b150_3, b150_2, b150_4, s13, pp_35, o150, callK_r, callK_x, psh_s, psh_n, hk_0, hk_1, hk_2, hk_3, hk_4, callK_ite, bit_bi, bit_0, bit_1, eq_self, reduceIte, Int.reduceEq, Int.reduceLT, Int.reduceNeg, Nat.reduceEqDiff, ne_eq, not_false_eq_true, pu_k, mset_k, mset_j, mset_at, va_pu, va_mset]
  repeat' split
  all_goals first | rfl | simp_all
def o153 (x1 : Int) (x2 : Int) (M : mM) : mR := if x1 < 0 then some (.inr 0, (shp, M)) else (if 9 < x1 then some (.inr 0, (shp, M)) else (if x2 = 0 then some (.inl (some (vi (bi (p124 x1 M)))), (shp, pu M 38 10 x1 0)) else some (.inl (some (vi (bi (p124 x1 M)))), (shp, pu M 38 10 x1 1))))
theorem s153 (d : Nat) (x1 : Int) (x2 : Int) (M : mM) : run prog (d + 3) 153 [vr 5, vi x1, vi x2] (shp, M) = o153 x1 x2 M := by
  show ev prog (d + 3) 153 0 0 [vr 5, vi x1, vi x2, vj] [] (shp, M) = _
  simp +decide only [b153_0, b153_2, b153_1, b153_3, b153_4, b153_6, b153_5, b153_7, b153_8, s124, pu_38, o153, callK_r, callK_x, psh_s, psh_n, hk_0, hk_1, hk_2, hk_3, hk_4, callK_ite, bit_bi, bit_0, bit_1, eq_self, reduceIte, Int.reduceEq, Int.reduceLT, Int.reduceNeg, Nat.reduceEqDiff, ne_eq, not_false_eq_true, pu_k, mset_k, mset_j, mset_at, va_pu, va_mset]
  repeat' split
  all_goals first | rfl | simp_all
def r160 (x0 : Int) (x1 : Int) (M : mM) : Int := if x0 < x1 then wr (x1 - x0) else wr (x0 - x1)
theorem s160 (d : Nat) (x0 : Int) (x1 : Int) (M : mM) : run prog (d + 1) 160 [vi x0, vi x1] (shp, M) = some (.inl (some (vi (r160 x0 x1 M))), (shp, M)) := by
  show ev prog (d + 1) 160 0 0 [vi x0, vi x1] [] (shp, M) = _
  simp +decide only [b160_0, b160_2, b160_1, b160_3, r160, callK_r, callK_x, psh_s, psh_n, hk_0, hk_1, hk_2, hk_3, hk_4, callK_ite, bit_bi, bit_0, bit_1, eq_self, reduceIte, Int.reduceEq, Int.reduceLT, Int.reduceNeg, Nat.reduceEqDiff, ne_eq, not_false_eq_true, pu_k, mset_k, mset_j, mset_at, va_pu, va_mset]
  repeat' split
  all_goals first | rfl | simp_all
def r164 (x1 : Int) (x2 : Int) (M : mM) : Int := if 0 < (if (wr ((r35 x1 x2 M) - (va M 35 3 x2))) < (wr ((va M 35 3 x2) - (r36 x1 x2 M))) then (wr ((va M 35 3 x2) - (r36 x1 x2 M))) else (wr ((r35 x1 x2 M) - (va M 35 3 x2)))) then (if (wr ((r35 x1 x2 M) - (va M 35 3 x2))) < (wr ((va M 35 3 x2) - (r36 x1 x2 M))) then (wr ((va M 35 3 x2) - (r36 x1 x2 M))) else (wr ((r35 x1 x2 M) - (va M 35 3 x2)))) else 0
theorem s164 (d : Nat) (x1 : Int) (x2 : Int) (M : mM) : run prog (d + 3) 164 [vr 72, vi x1, vi x2] (shp, M) = some (.inl (some (vi (r164 x1 x2 M))), (shp, M)) := by
  show ev prog (d + 3) 164 0 0 [vr 72, vi x1, vi x2, vj, vj, vj] [] (shp, M) = _
  simp +decide only [b164_0, b164_1, b164_2, b164_3, s35, s36, va_35, r164, callK_r, callK_x, psh_s, psh_n, hk_0, hk_1, hk_2, hk_3, hk_4, callK_ite, bit_bi, bit_0, bit_1, eq_self, reduceIte, Int.reduceEq, Int.reduceLT, Int.reduceNeg, Nat.reduceEqDiff, ne_eq, not_false_eq_true, pu_k, mset_k, mset_j, mset_at, va_pu, va_mset]
  repeat' split
  all_goals first | rfl | simp_all
def o194 (x1 : Int) (M : mM) : mR := if (bi (p125 x1 M)) = 0 then some (.inr 2, (shp, M)) else some (.inl none, (shp, M))
theorem s194 (d : Nat) (x1 : Int) (M : mM) : run prog (d + 4) 194 [vr 5, vi x1] (shp, M) = o194 x1 M := by
  show ev prog (d + 4) 194 0 0 [vr 5, vi x1] [] (shp, M) = _
  simp +decide only [b194_0, b194_1, b194_3, b194_2, s125, o194, callK_r, callK_x, psh_s, psh_n, hk_0, hk_1, hk_2, hk_3, hk_4, callK_ite, bit_bi, bit_0, bit_1, eq_self, reduceIte, Int.reduceEq, Int.reduceLT, Int.reduceNeg, Nat.reduceEqDiff, ne_eq, not_false_eq_true, pu_k, mset_k, mset_j, mset_at, va_pu, va_mset]
  repeat' split
  all_goals first | rfl | simp_all
def o211 (x1 : Int) (x2 : Int) (x3 : Int) (x4 : Int) (M : mM) : mR := if x1 = 0 then (if (bi (p13 x2 x3 x4 M)) = 0 then some (.inr 0, (shp, M)) else (if x1 = 0 then some (.inl none, (shp, mset (mset (mset M 36 0 x2) 36 1 x3) 36 2 x4)) else some (.inl none, (shp, mset (mset (mset M 37 0 x2) 37 1 x3) 37 2 x4)))) else (if x1 = 1 then (if (bi (p13 x2 x3 x4 M)) = 0 then some (.inr 0, (shp, M)) else (if x1 = 0 then some (.inl none, (shp, mset (mset (mset M 36 0 x2) 36 1 x3) 36 2 x4)) else some (.inl none, (shp, mset (mset (mset M 37 0 x2) 37 1 x3) 37 2 x4)))) else some (.inr 3, (shp, M)))
theorem s211 (d : Nat) (x1 : Int) (x2 : Int) (x3 : Int) (x4 : Int) (M : mM) : run prog (d + 3) 211 [vr 5, vi x1, vi x2, vi x3, vi x4] (shp, M) = o211 x1 x2 x3 x4 M := by
  show ev prog (d + 3) 211 0 0 [vr 5, vi x1, vi x2, vi x3, vi x4] [] (shp, M) = _
  simp +decide only [b211_0, b211_3, b211_1, b211_4, b211_2, b211_6, b211_5, b211_8, b211_7, b211_9, b211_9', b211_10, s13, pp_36, pp_37, o211, callK_r, callK_x, psh_s, psh_n, hk_0, hk_1, hk_2, hk_3, hk_4, callK_ite, bit_bi, bit_0, bit_1, eq_self, reduceIte, Int.reduceEq, Int.reduceLT, Int.reduceNeg, Nat.reduceEqDiff, ne_eq, not_false_eq_true, pu_k, mset_k, mset_j, mset_at, va_pu, va_mset]
  repeat' split
  all_goals first | rfl | simp_all
def o231 (x1 : Int) (M : mM) : mR := if x1 = (-1) then some (.inl none, (shp, M)) else (if (M 77 1) < 200 then some (.inl none, (shp, mset (pu M 78 200 (M 77 1) x1) 77 1 (wr ((M 77 1) + 1)))) else some (.inl none, (shp, M)))
theorem s231 (d : Nat) (x1 : Int) (M : mM) : run prog (d + 3) 231 [vr 77, vi x1] (shp, M) = o231 x1 M := by
  show ev prog (d + 3) 231 0 0 [vr 77, vi x1] [] (shp, M) = _
  simp +decide only [b231_0, b231_2, b231_1, s25b, o25b, o231, callK_r, callK_x, psh_s, psh_n, hk_0, hk_1, hk_2, hk_3, hk_4, callK_ite, bit_bi, bit_0, bit_1, eq_self, reduceIte, Int.reduceEq, Int.reduceLT, Int.reduceNeg, Nat.reduceEqDiff, ne_eq, not_false_eq_true, pu_k, mset_k, mset_j, mset_at, va_pu, va_mset]
  repeat' split
  all_goals first | rfl | simp_all
def o231a (x1 : Int) (M : mM) : mR := if x1 = (-1) then some (.inl none, (shp, M)) else (if (M 82 1) < 200 then some (.inl none, (shp, mset (pu M 83 200 (M 82 1) x1) 82 1 (wr ((M 82 1) + 1)))) else some (.inl none, (shp, M)))
theorem s231a (d : Nat) (x1 : Int) (M : mM) : run prog (d + 3) 231 [vr 82, vi x1] (shp, M) = o231a x1 M := by
  show ev prog (d + 3) 231 0 0 [vr 82, vi x1] [] (shp, M) = _
  simp +decide only [b231a_0, b231a_2, b231a_1, s25f, o25f, o231a, callK_r, callK_x, psh_s, psh_n, hk_0, hk_1, hk_2, hk_3, hk_4, callK_ite, bit_bi, bit_0, bit_1, eq_self, reduceIte, Int.reduceEq, Int.reduceLT, Int.reduceNeg, Nat.reduceEqDiff, ne_eq, not_false_eq_true, pu_k, mset_k, mset_j, mset_at, va_pu, va_mset]
  repeat' split
  all_goals first | rfl | simp_all
def o238 (x1 : Int) (M : mM) : mR := if (bi (p32 x1 M)) = 0 then some (.inl none, (shp, M)) else (if (M 80 1) < 200 then some (.inl none, (shp, mset (pu M 81 200 (M 80 1) x1) 80 1 (wr ((M 80 1) + 1)))) else some (.inl none, (shp, M)))
theorem s238 (d : Nat) (x1 : Int) (M : mM) : run prog (d + 3) 238 [vr 79, vi x1] (shp, M) = o238 x1 M := by
  show ev prog (d + 3) 238 0 0 [vr 79, vi x1] [] (shp, M) = _
  simp +decide only [b238_0, b238_1, b238_3, b238_2, s32, s25e, o25e, o238, callK_r, callK_x, psh_s, psh_n, hk_0, hk_1, hk_2, hk_3, hk_4, callK_ite, bit_bi, bit_0, bit_1, eq_self, reduceIte, Int.reduceEq, Int.reduceLT, Int.reduceNeg, Nat.reduceEqDiff, ne_eq, not_false_eq_true, pu_k, mset_k, mset_j, mset_at, va_pu, va_mset]
  repeat' split
  all_goals first | rfl | simp_all
def o251 (M : mM) : mR := if (M 79 4) = 0 then some (.inr 1, (shp, M)) else some (.inl none, (shp, M))
theorem s251 (d : Nat) (M : mM) : run prog (d + 1) 251 [vr 5] (shp, M) = o251 M := by
  show ev prog (d + 1) 251 0 0 [vr 5] [] (shp, M) = _
  simp +decide only [b251_0, b251_2, b251_1, o251, callK_r, callK_x, psh_s, psh_n, hk_0, hk_1, hk_2, hk_3, hk_4, callK_ite, bit_bi, bit_0, bit_1, eq_self, reduceIte, Int.reduceEq, Int.reduceLT, Int.reduceNeg, Nat.reduceEqDiff, ne_eq, not_false_eq_true, pu_k, mset_k, mset_j, mset_at, va_pu, va_mset]
  repeat' split
  all_goals first | rfl | simp_all
def p252 (M : mM) : Bool := if (M 79 3) < (M 80 1) then true else false
theorem s252 (d : Nat) (M : mM) : run prog (d + 1) 252 [vr 79] (shp, M) = some (.inl (some (vi (bi (p252 M)))), (shp, M)) := by
  show ev prog (d + 1) 252 0 0 [vr 79] [] (shp, M) = _
  simp +decide only [b252_0, b252_2, b252_1, b252_3, p252, callK_r, callK_x, psh_s, psh_n, hk_0, hk_1, hk_2, hk_3, hk_4, callK_ite, bit_bi, bit_0, bit_1, eq_self, reduceIte, Int.reduceEq, Int.reduceLT, Int.reduceNeg, Nat.reduceEqDiff, ne_eq, not_false_eq_true, pu_k, mset_k, mset_j, mset_at, va_pu, va_mset]
  repeat' split
  all_goals first | rfl | simp_all
def o253 (M : mM) : mR := if (M 79 4) = 0 then some (.inr 1, (shp, M)) else some (.inl (some (vi (bi (p252 M)))), (shp, M))
theorem s253 (d : Nat) (M : mM) : run prog (d + 2) 253 [vr 5] (shp, M) = o253 M := by
  show ev prog (d + 2) 253 0 0 [vr 5] [] (shp, M) = _
  simp +decide only [b253_0, b253_1, b253_2, s251, s252, o251, o253, callK_r, callK_x, psh_s, psh_n, hk_0, hk_1, hk_2, hk_3, hk_4, callK_ite, bit_bi, bit_0, bit_1, eq_self, reduceIte, Int.reduceEq, Int.reduceLT, Int.reduceNeg, Nat.reduceEqDiff, ne_eq, not_false_eq_true, pu_k, mset_k, mset_j, mset_at, va_pu, va_mset]
  repeat' split
  all_goals first | rfl | simp_all
def o255 (M : mM) : mR := if (M 87 8) = 0 then (if (M 87 8) = 0 then some (.inl (some (vi 0)), (shp, mset M 87 3 1)) else (if (M 87 11) < (M 87 10) then some (.inl (some (vi 1)), (shp, mset M 87 3 1)) else some (.inl (some (vi 0)), (shp, mset M 87 3 1)))) else (if (M 87 8) = 0 then some (.inl (some (vi 0)), (shp, mset M 87 3 0)) else (if (M 87 11) < (M 87 10) then some (.inl (some (vi 1)), (shp, mset M 87 3 0)) else some (.inl (some (vi 0)), (shp, mset M 87 3 0))))
theorem s255 (d : Nat) (M : mM) : run prog (d + 1) 255 [vr 87] (shp, M) = o255 M := by
  show ev prog (d + 1) 255 0 0 [vr 87] [] (shp, M) = _
  simp +decide only [b255_0, b255_2, b255_1, b255_3, b255_6, b255_4, b255_7, b255_5, o255, callK_r, callK_x, psh_s, psh_n, hk_0, hk_1, hk_2, hk_3, hk_4, callK_ite, bit_bi, bit_0, bit_1, eq_self, reduceIte, Int.reduceEq, Int.reduceLT, Int.reduceNeg, Nat.reduceEqDiff, ne_eq, not_false_eq_true, pu_k, mset_k, mset_j, mset_at, va_pu, va_mset]
  repeat' split
  all_goals first | rfl | simp_all
def o256 (M : mM) : mR := some (.inl (some (vi (r30d (M 79 3) M))), (shp, mset M 79 3 (wr ((M 79 3) + 1))))
theorem s256 (d : Nat) (M : mM) : run prog (d + 3) 256 [vr 79] (shp, M) = o256 M := by
  show ev prog (d + 3) 256 0 0 [vr 79, vj] [] (shp, M) = _
  simp +decide only [b256_0, b256_1, s30d, o256, callK_r, callK_x, psh_s, psh_n, hk_0, hk_1, hk_2, hk_3, hk_4, callK_ite, bit_bi, bit_0, bit_1, eq_self, reduceIte, Int.reduceEq, Int.reduceLT, Int.reduceNeg, Nat.reduceEqDiff, ne_eq, not_false_eq_true, pu_k, mset_k, mset_j, mset_at, va_pu, va_mset]
  repeat' split
  all_goals first | rfl | simp_all
def o257 (M : mM) : mR := if (M 79 4) = 0 then some (.inr 1, (shp, M)) else (if (bi (p252 M)) = 0 then some (.inr 2, (shp, M)) else some (.inl (some (vi (r30d (M 79 3) M))), (shp, mset M 79 3 (wr ((M 79 3) + 1)))))
theorem s257 (d : Nat) (M : mM) : run prog (d + 4) 257 [vr 5] (shp, M) = o257 M := by
  show ev prog (d + 4) 257 0 0 [vr 5] [] (shp, M) = _
  simp +decide only [b257_0, b257_1, b257_2, b257_4, b257_3, b257_5, s251, s252, s256, o251, o256, o257, callK_r, callK_x, psh_s, psh_n, hk_0, hk_1, hk_2, hk_3, hk_4, callK_ite, bit_bi, bit_0, bit_1, eq_self, reduceIte, Int.reduceEq, Int.reduceLT, Int.reduceNeg, Nat.reduceEqDiff, ne_eq, not_false_eq_true, pu_k, mset_k, mset_j, mset_at, va_pu, va_mset]
  repeat' split
  all_goals first | rfl | simp_all
def o266 (M : mM) : mR := if (M 84 5) = (-1) then some (.inl none, (shp, mset M 84 5 (M 84 3))) else some (.inl none, (shp, M))
theorem s266 (d : Nat) (M : mM) : run prog (d + 1) 266 [vr 84] (shp, M) = o266 M := by
  show ev prog (d + 1) 266 0 0 [vr 84] [] (shp, M) = _
  simp +decide only [b266_0, b266_2, b266_1, o266, callK_r, callK_x, psh_s, psh_n, hk_0, hk_1, hk_2, hk_3, hk_4, callK_ite, bit_bi, bit_0, bit_1, eq_self, reduceIte, Int.reduceEq, Int.reduceLT, Int.reduceNeg, Nat.reduceEqDiff, ne_eq, not_false_eq_true, pu_k, mset_k, mset_j, mset_at, va_pu, va_mset]
  repeat' split
  all_goals first | rfl | simp_all
def o270 (x1 : Int) (x2 : Int) (M : mM) : mR := some (.inl none, (shp, pu M 86 80 (wr ((wr (5 * (M 84 4))) + x1)) x2))
theorem s270 (d : Nat) (x1 : Int) (x2 : Int) (M : mM) : run prog (d + 2) 270 [vr 84, vi x1, vi x2] (shp, M) = o270 x1 x2 M := by
  show ev prog (d + 2) 270 0 0 [vr 84, vi x1, vi x2] [] (shp, M) = _
  simp +decide only [b270_0, b270_1, pu_86, o270, callK_r, callK_x, psh_s, psh_n, hk_0, hk_1, hk_2, hk_3, hk_4, callK_ite, bit_bi, bit_0, bit_1, eq_self, reduceIte, Int.reduceEq, Int.reduceLT, Int.reduceNeg, Nat.reduceEqDiff, ne_eq, not_false_eq_true, pu_k, mset_k, mset_j, mset_at, va_pu, va_mset]
  repeat' split
  all_goals first | rfl | simp_all
def r274 (x1 : Int) (x2 : Int) (M : mM) : Int := va M 86 80 (wr ((wr (5 * x1)) + x2))
theorem s274 (d : Nat) (x1 : Int) (x2 : Int) (M : mM) : run prog (d + 2) 274 [vr 84, vi x1, vi x2] (shp, M) = some (.inl (some (vi (r274 x1 x2 M))), (shp, M)) := by
  show ev prog (d + 2) 274 0 0 [vr 84, vi x1, vi x2] [] (shp, M) = _
  simp +decide only [b274_0, b274_1, va_86, r274, callK_r, callK_x, psh_s, psh_n, hk_0, hk_1, hk_2, hk_3, hk_4, callK_ite, bit_bi, bit_0, bit_1, eq_self, reduceIte, Int.reduceEq, Int.reduceLT, Int.reduceNeg, Nat.reduceEqDiff, ne_eq, not_false_eq_true, pu_k, mset_k, mset_j, mset_at, va_pu, va_mset]
  repeat' split
  all_goals first | rfl | simp_all
def r286 (M : mM) : Int := M 84 5
theorem s286 (d : Nat) (M : mM) : run prog (d + 1) 286 [vr 5] (shp, M) = some (.inl (some (vi (r286 M))), (shp, M)) := by
  show ev prog (d + 1) 286 0 0 [vr 5] [] (shp, M) = _
  simp +decide only [b286_0, r286, callK_r, callK_x, psh_s, psh_n, hk_0, hk_1, hk_2, hk_3, hk_4, callK_ite, bit_bi, bit_0, bit_1, eq_self, reduceIte, Int.reduceEq, Int.reduceLT, Int.reduceNeg, Nat.reduceEqDiff, ne_eq, not_false_eq_true, pu_k, mset_k, mset_j, mset_at, va_pu, va_mset]
  repeat' split
  all_goals first | rfl | simp_all
def o287 (M : mM) : mR := some (.inl (some (vi (M 87 16))), (shp, mset M 87 3 0))
theorem s287 (d : Nat) (M : mM) : run prog (d + 1) 287 [vr 87] (shp, M) = o287 M := by
  show ev prog (d + 1) 287 0 0 [vr 87] [] (shp, M) = _
  simp +decide only [b287_0, o287, callK_r, callK_x, psh_s, psh_n, hk_0, hk_1, hk_2, hk_3, hk_4, callK_ite, bit_bi, bit_0, bit_1, eq_self, reduceIte, Int.reduceEq, Int.reduceLT, Int.reduceNeg, Nat.reduceEqDiff, ne_eq, not_false_eq_true, pu_k, mset_k, mset_j, mset_at, va_pu, va_mset]
  repeat' split
  all_goals first | rfl | simp_all
def o289 (M : mM) : mR := some (.inl none, (shp, mset (mset (mcpy (mcpy (mcpy (mcpy M 8 41 600) 9 42 200) 10 43 200) 11 44 200) 40 4 (M 7 4)) 40 5 (M 7 5)))
theorem s289 (d : Nat) (M : mM) : run prog (d + 2) 289 [vr 40, vr 7] (shp, M) = o289 M := by
  show ev prog (d + 2) 289 0 0 [vr 40, vr 7] [] (shp, M) = _
  simp +decide only [b289_0, b289_1, b289_2, b289_3, b289_4, cr_10_43, cr_11_44, cr_8_41, cr_9_42, o289, callK_r, callK_x, psh_s, psh_n, hk_0, hk_1, hk_2, hk_3, hk_4, callK_ite, bit_bi, bit_0, bit_1, eq_self, reduceIte, Int.reduceEq, Int.reduceLT, Int.reduceNeg, Nat.reduceEqDiff, ne_eq, not_false_eq_true, pu_k, mset_k, mset_j, mset_at, va_pu, va_mset]
  repeat' split
  all_goals first | rfl | simp_all
def o289a (M : mM) : mR := some (.inl none, (shp, mset (mset (mcpy (mcpy (mcpy (mcpy M 41 8 600) 42 9 200) 43 10 200) 44 11 200) 7 4 (M 40 4)) 7 5 (M 40 5)))
theorem s289a (d : Nat) (M : mM) : run prog (d + 2) 289 [vr 7, vr 40] (shp, M) = o289a M := by
  show ev prog (d + 2) 289 0 0 [vr 7, vr 40] [] (shp, M) = _
  simp +decide only [b289a_0, b289a_1, b289a_2, b289a_3, b289a_4, cr_41_8, cr_42_9, cr_43_10, cr_44_11, o289a, callK_r, callK_x, psh_s, psh_n, hk_0, hk_1, hk_2, hk_3, hk_4, callK_ite, bit_bi, bit_0, bit_1, eq_self, reduceIte, Int.reduceEq, Int.reduceLT, Int.reduceNeg, Nat.reduceEqDiff, ne_eq, not_false_eq_true, pu_k, mset_k, mset_j, mset_at, va_pu, va_mset]
  repeat' split
  all_goals first | rfl | simp_all
def o291 (M : mM) : mR := some (.inl none, (shp, mcpy M 26 59 4))
theorem s291 (d : Nat) (M : mM) : run prog (d + 2) 291 [vr 58, vr 25] (shp, M) = o291 M := by
  show ev prog (d + 2) 291 0 0 [vr 58, vr 25] [] (shp, M) = _
  simp +decide only [b291_0, b291_1, cr_26_59, o291, callK_r, callK_x, psh_s, psh_n, hk_0, hk_1, hk_2, hk_3, hk_4, callK_ite, bit_bi, bit_0, bit_1, eq_self, reduceIte, Int.reduceEq, Int.reduceLT, Int.reduceNeg, Nat.reduceEqDiff, ne_eq, not_false_eq_true, pu_k, mset_k, mset_j, mset_at, va_pu, va_mset]
  repeat' split
  all_goals first | rfl | simp_all
def o291a (M : mM) : mR := some (.inl none, (shp, mcpy M 59 26 4))
theorem s291a (d : Nat) (M : mM) : run prog (d + 2) 291 [vr 25, vr 58] (shp, M) = o291a M := by
  show ev prog (d + 2) 291 0 0 [vr 25, vr 58] [] (shp, M) = _
  simp +decide only [b291a_0, b291a_1, cr_59_26, o291a, callK_r, callK_x, psh_s, psh_n, hk_0, hk_1, hk_2, hk_3, hk_4, callK_ite, bit_bi, bit_0, bit_1, eq_self, reduceIte, Int.reduceEq, Int.reduceLT, Int.reduceNeg, Nat.reduceEqDiff, ne_eq, not_false_eq_true, pu_k, mset_k, mset_j, mset_at, va_pu, va_mset]
  repeat' split
  all_goals first | rfl | simp_all
def o292 (M : mM) : mR := some (.inl none, (shp, mcpy (mcpy (mcpy (mcpy (mcpy M 34 67 6) 35 68 3) 36 69 3) 37 70 3) 38 71 10))
theorem s292 (d : Nat) (M : mM) : run prog (d + 2) 292 [vr 66, vr 33] (shp, M) = o292 M := by
  show ev prog (d + 2) 292 0 0 [vr 66, vr 33] [] (shp, M) = _
  simp +decide only [b292_0, b292_1, b292_2, b292_3, b292_4, b292_5, cr_34_67, cr_35_68, cr_36_69, cr_37_70, cr_38_71, o292, callK_r, callK_x, psh_s, psh_n, hk_0, hk_1, hk_2, hk_3, hk_4, callK_ite, bit_bi, bit_0, bit_1, eq_self, reduceIte, Int.reduceEq, Int.reduceLT, Int.reduceNeg, Nat.reduceEqDiff, ne_eq, not_false_eq_true, pu_k, mset_k, mset_j, mset_at, va_pu, va_mset]
  repeat' split
  all_goals first | rfl | simp_all
def o292a (M : mM) : mR := some (.inl none, (shp, mcpy (mcpy (mcpy (mcpy (mcpy M 67 34 6) 68 35 3) 69 36 3) 70 37 3) 71 38 10))
theorem s292a (d : Nat) (M : mM) : run prog (d + 2) 292 [vr 33, vr 66] (shp, M) = o292a M := by
  show ev prog (d + 2) 292 0 0 [vr 33, vr 66] [] (shp, M) = _
  simp +decide only [b292a_0, b292a_1, b292a_2, b292a_3, b292a_4, b292a_5, cr_67_34, cr_68_35, cr_69_36, cr_70_37, cr_71_38, o292a, callK_r, callK_x, psh_s, psh_n, hk_0, hk_1, hk_2, hk_3, hk_4, callK_ite, bit_bi, bit_0, bit_1, eq_self, reduceIte, Int.reduceEq, Int.reduceLT, Int.reduceNeg, Nat.reduceEqDiff, ne_eq, not_false_eq_true, pu_k, mset_k, mset_j, mset_at, va_pu, va_mset]
  repeat' split
  all_goals first | rfl | simp_all
