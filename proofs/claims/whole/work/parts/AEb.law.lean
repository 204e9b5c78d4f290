/-! THE LAW, BLOCKS, 1 -/
set_option maxRecDepth 8000 in
theorem b299_415 (d u : Nat) (x5 : Int) (s0 : Int) (s1 : Int) (M : mM) : ev prog (d + 1) 299 u 415 [vr 3, vr 5, vr 87, vr 96, vr 97, vi x5, vj, vj, vj, vj] [vi s1, vi s0] (shp, M) = if s0 = s1 then ev prog (d + 1) 299 u 503 [vr 3, vr 5, vr 87, vr 96, vr 97, vi x5, vj, vj, vj, vj] [] (shp, M) else ev prog (d + 1) 299 u 416 [vj, vj, vj, vj, vj, vj, vj, vj, vj, vj] [] (shp, M) := by rw [ev_eq]; rfl
set_option maxRecDepth 8000 in
theorem b299_419 (d u : Nat) (x5 : Int) (s0 : Int) (M : mM) : ev prog (d + 1) 299 u 419 [vr 3, vr 5, vr 87, vr 96, vr 97, vi x5, vj, vj, vj, vj] [vi s0] (shp, M) = if 0 ≤ (wr (x5 + 1)) ∧ (wr (x5 + 1)) < M 4 0 then ev prog (d + 1) 299 u 420 [vr 3, vr 5, vr 87, vr 96, vr 97, vi x5, vi s0, vj, vj, vj] [vi (M 3 (Int.toNat (wr (x5 + 1)))), vr 87] (shp, M) else none := by rw [ev_eq]; rfl
set_option maxRecDepth 8000 in
theorem b299_435 (d u : Nat) (x5 : Int) (s0 : Int) (s1 : Int) (M : mM) : ev prog (d + 1) 299 u 435 [vr 3, vr 5, vr 87, vr 96, vr 97, vi x5, vj, vj, vj, vj] [vi s1, vi s0] (shp, M) = if s0 = s1 then ev prog (d + 1) 299 u 503 [vr 3, vr 5, vr 87, vr 96, vr 97, vi x5, vj, vj, vj, vj] [] (shp, M) else ev prog (d + 1) 299 u 436 [vj, vj, vj, vj, vj, vj, vj, vj, vj, vj] [] (shp, M) := by rw [ev_eq]; rfl
set_option maxRecDepth 8000 in
theorem b299_439 (d u : Nat) (x5 : Int) (s0 : Int) (M : mM) : ev prog (d + 1) 299 u 439 [vr 3, vr 5, vr 87, vr 96, vr 97, vi x5, vj, vj, vj, vj] [vi s0] (shp, M) = if 0 ≤ (wr (x5 + 1)) ∧ (wr (x5 + 1)) < M 4 0 then ev prog (d + 1) 299 u 440 [vr 3, vr 5, vr 87, vr 96, vr 97, vi x5, vi s0, vj, vj, vj] [vi (M 3 (Int.toNat (wr (x5 + 1)))), vr 87] (shp, M) else none := by rw [ev_eq]; rfl
set_option maxRecDepth 8000 in
theorem b299_451 (d u : Nat) (x5 : Int) (x6 : Int) (s0 : Int) (M : mM) (h : u + 0 ≤ 3400) : ev prog (d + 1) 299 u 451 [vr 3, vr 5, vr 87, vr 96, vr 97, vi x5, vi x6, vj, vj, vj] [vi s0] (shp, M) = callK (run prog d 67 [vr 87] (shp, M)) (fun v σ1 => ev prog (d + 1) 299 (u + 0) 452 [vr 3, vr 5, vr 87, vr 96, vr 97, vi x5, vi x6, vi s0, vj, vj] (psh v []) σ1) (fun e σ1 => hk [0, 0, 0, 0, 0] e σ1 (fun t => ev prog (d + 1) 299 (u + 0) t (msk (pMask prog 299 t) [vr 3, vr 5, vr 87, vr 96, vr 97, vi x5, vi x6, vi s0, vj, vj]) [vj] σ1)) := by
  rw [ev_eq]
  show (match ((true && decide (u + 0 ≤ 3400)) && true) with
    | true => _
    | false => none) = _
  rw [decide_eq_true h]
  rfl
set_option maxRecDepth 8000 in
theorem b299_464 (d u : Nat) (x5 : Int) (x6 : Int) (s0 : Int) (M : mM) (h : u + 0 ≤ 3400) : ev prog (d + 1) 299 u 464 [vr 3, vr 5, vr 87, vr 96, vr 97, vi x5, vi x6, vj, vj, vj] [vi s0] (shp, M) = callK (run prog d 67 [vr 87] (shp, M)) (fun v σ1 => ev prog (d + 1) 299 (u + 0) 465 [vr 3, vr 5, vr 87, vr 96, vr 97, vi x5, vi x6, vi s0, vj, vj] (psh v []) σ1) (fun e σ1 => hk [0, 0, 0, 0, 0] e σ1 (fun t => ev prog (d + 1) 299 (u + 0) t (msk (pMask prog 299 t) [vr 3, vr 5, vr 87, vr 96, vr 97, vi x5, vi x6, vi s0, vj, vj]) [vj] σ1)) := by
  rw [ev_eq]
  show (match ((true && decide (u + 0 ≤ 3400)) && true) with
    | true => _
    | false => none) = _
  rw [decide_eq_true h]
  rfl
set_option maxRecDepth 8000 in
theorem b299_474 (d u : Nat) (x5 : Int) (s0 : Int) (M : mM) : ev prog (d + 1) 299 u 474 [vr 3, vr 5, vr 87, vr 96, vr 97, vi x5, vj, vj, vj, vj] [vi s0] (shp, M) = if 0 ≤ (wr (x5 + 1)) ∧ (wr (x5 + 1)) < M 4 0 then ev prog (d + 1) 299 u 475 [vr 3, vr 5, vr 87, vr 96, vr 97, vi x5, vi s0, vj, vj, vj] [vi (M 3 (Int.toNat (wr (x5 + 1)))), vr 87] (shp, M) else none := by rw [ev_eq]; rfl
set_option maxRecDepth 8000 in
theorem b299_482 (d u : Nat) (x5 : Int) (x6 : Int) (s0 : Int) (M : mM) (h : u + 0 ≤ 3400) : ev prog (d + 1) 299 u 482 [vr 3, vr 5, vr 87, vr 96, vr 97, vi x5, vi x6, vj, vj, vj] [vi s0] (shp, M) = callK (run prog d 67 [vr 87] (shp, M)) (fun v σ1 => ev prog (d + 1) 299 (u + 0) 483 [vr 3, vr 5, vr 87, vr 96, vr 97, vi x5, vi x6, vi s0, vj, vj] (psh v []) σ1) (fun e σ1 => hk [0, 0, 0, 0, 0] e σ1 (fun t => ev prog (d + 1) 299 (u + 0) t (msk (pMask prog 299 t) [vr 3, vr 5, vr 87, vr 96, vr 97, vi x5, vi x6, vi s0, vj, vj]) [vj] σ1)) := by
  rw [ev_eq]
  show (match ((true && decide (u + 0 ≤ 3400)) && true) with
    | true => _
    | false => none) = _
  rw [decide_eq_true h]
  rfl
set_option maxRecDepth 8000 in
theorem b299_492 (d u : Nat) (x5 : Int) (s0 : Int) (s1 : Int) (M : mM) : ev prog (d + 1) 299 u 492 [vr 3, vr 5, vr 87, vr 96, vr 97, vi x5, vj, vj, vj, vj] [vi s1, vi s0] (shp, M) = if s0 = s1 then ev prog (d + 1) 299 u 503 [vr 3, vr 5, vr 87, vr 96, vr 97, vi x5, vj, vj, vj, vj] [] (shp, M) else ev prog (d + 1) 299 u 493 [vj, vj, vj, vj, vj, vj, vj, vj, vj, vj] [] (shp, M) := by rw [ev_eq]; rfl
set_option maxRecDepth 8000 in
theorem b299_496 (d u : Nat) (x5 : Int) (M : mM) : ev prog (d + 1) 299 u 496 [vr 3, vr 5, vr 87, vr 96, vr 97, vi x5, vj, vj, vj, vj] [] (shp, M) = ev prog (d + 1) 299 u 503 [vr 3, vr 5, vr 87, vr 96, vr 97, vi x5, vj, vj, vj, vj] [] (shp, M) := by rw [ev_eq]; rfl
set_option maxRecDepth 8000 in
theorem b299_499 (d u : Nat) (x5 : Int) (x6 : Int) (M : mM) (h : u + 0 ≤ 3400) : ev prog (d + 1) 299 u 499 [vr 3, vr 5, vr 87, vr 96, vr 97, vi x5, vi x6, vj, vj, vj] [] (shp, M) = callK (run prog d 67 [vr 87] (shp, M)) (fun v σ1 => ev prog (d + 1) 299 (u + 0) 500 [vr 3, vr 5, vr 87, vr 96, vr 97, vi x5, vi x6, vj, vj, vj] (psh v []) σ1) (fun e σ1 => hk [0, 0, 0, 0, 0] e σ1 (fun t => ev prog (d + 1) 299 (u + 0) t (msk (pMask prog 299 t) [vr 3, vr 5, vr 87, vr 96, vr 97, vi x5, vi x6, vj, vj, vj]) [vj] σ1)) := by
  rw [ev_eq]
  show (match ((true && decide (u + 0 ≤ 3400)) && true) with
    | true => _
    | false => none) = _
  rw [decide_eq_true h]
  rfl
set_option maxRecDepth 8000 in
theorem b299_14 (d u : Nat) (x5 : Int) (s1 : Int) (s2 : Int) (s3 : Int) (M : mM) : ev prog (d + 1) 299 u 14 [vr 3, vr 5, vr 87, vr 96, vr 97, vi x5, vj, vj, vj, vj] [vi s3, vi s2, vi s1, vr 5] (shp, M) = if 0 ≤ (wr (x5 + 4)) ∧ (wr (x5 + 4)) < M 4 0 then ev prog (d + 1) 299 u 15 [vr 3, vr 5, vr 87, vr 96, vr 97, vi x5, vj, vj, vj, vj] [vi (M 3 (Int.toNat (wr (x5 + 4)))), vi s3, vi s2, vi s1, vr 5] (shp, M) else none := by rw [ev_eq]; rfl
set_option maxRecDepth 8000 in
theorem b299_34 (d u : Nat) (x5 : Int) (x6 : Int) (s1 : Int) (M : mM) (h : u + 0 ≤ 3400) : ev prog (d + 1) 299 u 34 [vr 3, vr 5, vr 87, vr 96, vr 97, vi x5, vi x6, vj, vj, vj] [vi s1, vr 87] (shp, M) = callK (run prog d 76 [vr 87, vi s1] (shp, M)) (fun v σ1 => ev prog (d + 1) 299 (u + 0) 35 [vr 3, vr 5, vr 87, vr 96, vr 97, vi x5, vi x6, vj, vj, vj] (psh v []) σ1) (fun e σ1 => hk [0, 0, 0, 0, 0] e σ1 (fun t => ev prog (d + 1) 299 (u + 0) t (msk (pMask prog 299 t) [vr 3, vr 5, vr 87, vr 96, vr 97, vi x5, vi x6, vj, vj, vj]) [vj] σ1)) := by
  rw [ev_eq]
  show (match ((true && decide (u + 0 ≤ 3400)) && true) with
    | true => _
    | false => none) = _
  rw [decide_eq_true h]
  rfl
set_option maxRecDepth 8000 in
theorem b299_46 (d u : Nat) (x5 : Int) (s0 : Int) (s2 : Int) (M : mM) (h : u + 0 ≤ 3400) : ev prog (d + 1) 299 u 46 [vr 3, vr 5, vr 87, vr 96, vr 97, vi x5, vj, vj, vj, vj] [vi s2, vr 87, vi s0] (shp, M) = callK (run prog d 78 [vr 87, vi s2] (shp, M)) (fun v σ1 => ev prog (d + 1) 299 (u + 0) 47 [vr 3, vr 5, vr 87, vr 96, vr 97, vi x5, vj, vj, vj, vj] (psh v [vi s0]) σ1) (fun e σ1 => hk [0, 0, 0, 0, 0] e σ1 (fun t => ev prog (d + 1) 299 (u + 0) t (msk (pMask prog 299 t) [vr 3, vr 5, vr 87, vr 96, vr 97, vi x5, vj, vj, vj, vj]) [vj] σ1)) := by
  rw [ev_eq]
  show (match ((true && decide (u + 0 ≤ 3400)) && true) with
    | true => _
    | false => none) = _
  rw [decide_eq_true h]
  rfl
set_option maxRecDepth 8000 in
theorem b299_52 (d u : Nat) (x5 : Int) (s0 : Int) (M : mM) : ev prog (d + 1) 299 u 52 [vr 3, vr 5, vr 87, vr 96, vr 97, vi x5, vj, vj, vj, vj] [vi s0] (shp, M) = if 0 ≤ (wr (x5 + 1)) ∧ (wr (x5 + 1)) < M 4 0 then ev prog (d + 1) 299 u 53 [vr 3, vr 5, vr 87, vr 96, vr 97, vi x5, vi s0, vj, vj, vj] [vi (M 3 (Int.toNat (wr (x5 + 1)))), vr 87] (shp, M) else none := by rw [ev_eq]; rfl
set_option maxRecDepth 8000 in
theorem b299_66 (d u : Nat) (x5 : Int) (x6 : Int) (s1 : Int) (M : mM) (h : u + 0 ≤ 3400) : ev prog (d + 1) 299 u 66 [vr 3, vr 5, vr 87, vr 96, vr 97, vi x5, vi x6, vj, vj, vj] [vi s1, vr 87] (shp, M) = callK (run prog d 87 [vr 87, vi s1] (shp, M)) (fun v σ1 => ev prog (d + 1) 299 (u + 0) 67 [vr 3, vr 5, vr 87, vr 96, vr 97, vi x5, vi x6, vj, vj, vj] (psh v []) σ1) (fun e σ1 => hk [0, 0, 0, 0, 0] e σ1 (fun t => ev prog (d + 1) 299 (u + 0) t (msk (pMask prog 299 t) [vr 3, vr 5, vr 87, vr 96, vr 97, vi x5, vi x6, vj, vj, vj]) [vj] σ1)) := by
  rw [ev_eq]
  show (match ((true && decide (u + 0 ≤ 3400)) && true) with
    | true => _
    | false => none) = _
  rw [decide_eq_true h]
  rfl
set_option maxRecDepth 8000 in
theorem b299_78 (d u : Nat) (x5 : Int) (x6 : Int) (s1 : Int) (M : mM) (h : u + 0 ≤ 3400) : ev prog (d + 1) 299 u 78 [vr 3, vr 5, vr 87, vr 96, vr 97, vi x5, vi x6, vj, vj, vj] [vi s1, vr 87] (shp, M) = callK (run prog d 90 [vr 87, vi s1] (shp, M)) (fun v σ1 => ev prog (d + 1) 299 (u + 0) 79 [vr 3, vr 5, vr 87, vr 96, vr 97, vi x5, vi x6, vj, vj, vj] (psh v []) σ1) (fun e σ1 => hk [0, 0, 0, 0, 0] e σ1 (fun t => ev prog (d + 1) 299 (u + 0) t (msk (pMask prog 299 t) [vr 3, vr 5, vr 87, vr 96, vr 97, vi x5, vi x6, vj, vj, vj]) [vj] σ1)) := by
  rw [ev_eq]
  show (match ((true && decide (u + 0 ≤ 3400)) && true) with
    | true => _
    | false => none) = _
  rw [decide_eq_true h]
  rfl
set_option maxRecDepth 8000 in
theorem b299_90 (d u : Nat) (x5 : Int) (s1 : Int) (s2 : Int) (s3 : Int) (M : mM) (h : u + 2 ≤ 3400) : ev prog (d + 1) 299 u 90 [vr 3, vr 5, vr 87, vr 96, vr 97, vi x5, vj, vj, vj, vj] [vi s3, vi s2, vi s1, vr 5] (shp, M) = callK (run prog d 92 [vr 5, vi s1, vi s2, vi s3, vr 96] (shp, M)) (fun v σ1 => ev prog (d + 1) 299 (u + 2) 91 [vr 3, vr 5, vr 87, vr 96, vr 97, vi x5, vj, vj, vj, vj] (psh v []) σ1) (fun e σ1 => hk [0, 0, 0, 0, 0] e σ1 (fun t => ev prog (d + 1) 299 (u + 2) t (msk (pMask prog 299 t) [vr 3, vr 5, vr 87, vr 96, vr 97, vi x5, vj, vj, vj, vj]) [vj] σ1)) := by
  rw [ev_eq]
  show (match ((true && decide (u + 2 ≤ 3400)) && true) with
    | true => _
    | false => none) = _
  rw [decide_eq_true h]
  rfl
set_option maxRecDepth 8000 in
theorem b299_106 (d u : Nat) (x5 : Int) (s1 : Int) (s2 : Int) (s3 : Int) (M : mM) (h : u + 1 ≤ 3400) : ev prog (d + 1) 299 u 106 [vr 3, vr 5, vr 87, vr 96, vr 97, vi x5, vj, vj, vj, vj] [vi s3, vi s2, vi s1, vr 5] (shp, M) = callK (run prog d 98 [vr 5, vi s1, vi s2, vi s3, vr 96] (shp, M)) (fun v σ1 => ev prog (d + 1) 299 (u + 1) 107 [vr 3, vr 5, vr 87, vr 96, vr 97, vi x5, vj, vj, vj, vj] (psh v []) σ1) (fun e σ1 => hk [0, 0, 0, 0, 0] e σ1 (fun t => ev prog (d + 1) 299 (u + 1) t (msk (pMask prog 299 t) [vr 3, vr 5, vr 87, vr 96, vr 97, vi x5, vj, vj, vj, vj]) [vj] σ1)) := by
  rw [ev_eq]
  show (match ((true && decide (u + 1 ≤ 3400)) && true) with
    | true => _
    | false => none) = _
  rw [decide_eq_true h]
  rfl
set_option maxRecDepth 8000 in
theorem b299_122 (d u : Nat) (x5 : Int) (x6 : Int) (x7 : Int) (s0 : Int) (M : mM) : ev prog (d + 1) 299 u 122 [vr 3, vr 5, vr 87, vr 96, vr 97, vi x5, vi x6, vi x7, vj, vj] [vi s0] (shp, M) = if s0 = x6 then ev prog (d + 1) 299 u 124 [vr 3, vr 5, vr 87, vr 96, vr 97, vi x5, vi x6, vi x7, vj, vj] [] (shp, M) else ev prog (d + 1) 299 u 123 [vj, vj, vj, vj, vj, vj, vj, vj, vj, vj] [] (shp, M) := by rw [ev_eq]; rfl
set_option maxRecDepth 8000 in
theorem b299_132 (d u : Nat) (x5 : Int) (s0 : Int) (M : mM) : ev prog (d + 1) 299 u 132 [vr 3, vr 5, vr 87, vr 96, vr 97, vi x5, vj, vj, vj, vj] [vi s0] (shp, M) = if 0 ≤ (wr (x5 + 1)) ∧ (wr (x5 + 1)) < M 4 0 then ev prog (d + 1) 299 u 133 [vr 3, vr 5, vr 87, vr 96, vr 97, vi x5, vi s0, vj, vj, vj] [vi (M 3 (Int.toNat (wr (x5 + 1)))), vr 87] (shp, M) else none := by rw [ev_eq]; rfl
set_option maxRecDepth 8000 in
theorem b299_146 (d u : Nat) (x5 : Int) (x6 : Int) (s1 : Int) (M : mM) (h : u + 0 ≤ 3400) : ev prog (d + 1) 299 u 146 [vr 3, vr 5, vr 87, vr 96, vr 97, vi x5, vi x6, vj, vj, vj] [vi s1, vr 87] (shp, M) = callK (run prog d 112 [vr 87, vi s1] (shp, M)) (fun v σ1 => ev prog (d + 1) 299 (u + 0) 147 [vr 3, vr 5, vr 87, vr 96, vr 97, vi x5, vi x6, vj, vj, vj] (psh v []) σ1) (fun e σ1 => hk [0, 0, 0, 0, 0] e σ1 (fun t => ev prog (d + 1) 299 (u + 0) t (msk (pMask prog 299 t) [vr 3, vr 5, vr 87, vr 96, vr 97, vi x5, vi x6, vj, vj, vj]) [vj] σ1)) := by
  rw [ev_eq]
  show (match ((true && decide (u + 0 ≤ 3400)) && true) with
    | true => _
    | false => none) = _
  rw [decide_eq_true h]
  rfl
set_option maxRecDepth 8000 in
theorem b299_158 (d u : Nat) (x5 : Int) (x6 : Int) (s1 : Int) (M : mM) (h : u + 0 ≤ 3400) : ev prog (d + 1) 299 u 158 [vr 3, vr 5, vr 87, vr 96, vr 97, vi x5, vi x6, vj, vj, vj] [vi s1, vr 87] (shp, M) = callK (run prog d 115 [vr 87, vi s1] (shp, M)) (fun v σ1 => ev prog (d + 1) 299 (u + 0) 159 [vr 3, vr 5, vr 87, vr 96, vr 97, vi x5, vi x6, vj, vj, vj] (psh v []) σ1) (fun e σ1 => hk [0, 0, 0, 0, 0] e σ1 (fun t => ev prog (d + 1) 299 (u + 0) t (msk (pMask prog 299 t) [vr 3, vr 5, vr 87, vr 96, vr 97, vi x5, vi x6, vj, vj, vj]) [vj] σ1)) := by
  rw [ev_eq]
  show (match ((true && decide (u + 0 ≤ 3400)) && true) with
    | true => _
    | false => none) = _
  rw [decide_eq_true h]
  rfl
set_option maxRecDepth 8000 in
theorem b299_170 (d u : Nat) (M : mM) : ev prog (d + 1) 299 u 170 [vj, vj, vj, vj, vj, vj, vj, vj, vj, vj] [] (shp, M) = some (.inl (some (vi 0)), (shp, M)) := by rw [ev_eq]; rfl
set_option maxRecDepth 8000 in
theorem b299_174 (d u : Nat) (x5 : Int) (s0 : Int) (M : mM) : ev prog (d + 1) 299 u 174 [vr 3, vr 5, vr 87, vr 96, vr 97, vi x5, vj, vj, vj, vj] [vi s0] (shp, M) = if 0 ≤ (wr (x5 + 1)) ∧ (wr (x5 + 1)) < M 4 0 then ev prog (d + 1) 299 u 175 [vr 3, vr 5, vr 87, vr 96, vr 97, vi x5, vi s0, vj, vj, vj] [vi (M 3 (Int.toNat (wr (x5 + 1)))), vr 87] (shp, M) else none := by rw [ev_eq]; rfl
set_option maxRecDepth 8000 in
theorem b299_188 (d u : Nat) (x5 : Int) (x6 : Int) (s1 : Int) (M : mM) (h : u + 0 ≤ 3400) : ev prog (d + 1) 299 u 188 [vr 3, vr 5, vr 87, vr 96, vr 97, vi x5, vi x6, vj, vj, vj] [vi s1, vr 87] (shp, M) = callK (run prog d 131 [vr 87, vi s1] (shp, M)) (fun v σ1 => ev prog (d + 1) 299 (u + 0) 189 [vr 3, vr 5, vr 87, vr 96, vr 97, vi x5, vi x6, vj, vj, vj] (psh v []) σ1) (fun e σ1 => hk [0, 0, 0, 0, 0] e σ1 (fun t => ev prog (d + 1) 299 (u + 0) t (msk (pMask prog 299 t) [vr 3, vr 5, vr 87, vr 96, vr 97, vi x5, vi x6, vj, vj, vj]) [vj] σ1)) := by
  rw [ev_eq]
  show (match ((true && decide (u + 0 ≤ 3400)) && true) with
    | true => _
    | false => none) = _
  rw [decide_eq_true h]
  rfl
set_option maxRecDepth 8000 in
theorem b299_200 (d u : Nat) (x5 : Int) (s1 : Int) (s2 : Int) (s3 : Int) (M : mM) (h : u + 3 ≤ 3400) : ev prog (d + 1) 299 u 200 [vr 3, vr 5, vr 87, vr 96, vr 97, vi x5, vj, vj, vj, vj] [vi s3, vi s2, vi s1, vr 5] (shp, M) = callK (run prog d 134 [vr 5, vi s1, vi s2, vi s3, vr 96] (shp, M)) (fun v σ1 => ev prog (d + 1) 299 (u + 3) 201 [vr 3, vr 5, vr 87, vr 96, vr 97, vi x5, vj, vj, vj, vj] (psh v []) σ1) (fun e σ1 => hk [0, 0, 0, 0, 0] e σ1 (fun t => ev prog (d + 1) 299 (u + 3) t (msk (pMask prog 299 t) [vr 3, vr 5, vr 87, vr 96, vr 97, vi x5, vj, vj, vj, vj]) [vj] σ1)) := by
  rw [ev_eq]
  show (match ((true && decide (u + 3 ≤ 3400)) && true) with
    | true => _
    | false => none) = _
  rw [decide_eq_true h]
  rfl
set_option maxRecDepth 8000 in
theorem b299_216 (d u : Nat) (x5 : Int) (s0 : Int) (M : mM) : ev prog (d + 1) 299 u 216 [vr 3, vr 5, vr 87, vr 96, vr 97, vi x5, vj, vj, vj, vj] [vi s0] (shp, M) = if 0 ≤ (wr (x5 + 1)) ∧ (wr (x5 + 1)) < M 4 0 then ev prog (d + 1) 299 u 217 [vr 3, vr 5, vr 87, vr 96, vr 97, vi x5, vi s0, vj, vj, vj] [vi (M 3 (Int.toNat (wr (x5 + 1)))), vr 87] (shp, M) else none := by rw [ev_eq]; rfl
set_option maxRecDepth 8000 in
theorem b299_230 (d u : Nat) (M : mM) : ev prog (d + 1) 299 u 230 [vj, vj, vj, vj, vj, vj, vj, vj, vj, vj] [] (shp, M) = some (.inl (some (vi 0)), (shp, M)) := by rw [ev_eq]; rfl
set_option maxRecDepth 8000 in
theorem b299_234 (d u : Nat) (x5 : Int) (x6 : Int) (s1 : Int) (M : mM) (h : u + 0 ≤ 3400) : ev prog (d + 1) 299 u 234 [vr 3, vr 5, vr 87, vr 96, vr 97, vi x5, vi x6, vj, vj, vj] [vi s1, vr 87] (shp, M) = callK (run prog d 148 [vr 87, vi s1] (shp, M)) (fun v σ1 => ev prog (d + 1) 299 (u + 0) 235 [vr 3, vr 5, vr 87, vr 96, vr 97, vi x5, vi x6, vj, vj, vj] (psh v []) σ1) (fun e σ1 => hk [0, 0, 0, 0, 0] e σ1 (fun t => ev prog (d + 1) 299 (u + 0) t (msk (pMask prog 299 t) [vr 3, vr 5, vr 87, vr 96, vr 97, vi x5, vi x6, vj, vj, vj]) [vj] σ1)) := by
  rw [ev_eq]
  show (match ((true && decide (u + 0 ≤ 3400)) && true) with
    | true => _
    | false => none) = _
  rw [decide_eq_true h]
  rfl
set_option maxRecDepth 8000 in
theorem b299_246 (d u : Nat) (x5 : Int) (s1 : Int) (s2 : Int) (s3 : Int) (M : mM) (h : u + 1 ≤ 3400) : ev prog (d + 1) 299 u 246 [vr 3, vr 5, vr 87, vr 96, vr 97, vi x5, vj, vj, vj, vj] [vi s3, vi s2, vi s1, vr 5] (shp, M) = callK (run prog d 151 [vr 5, vi s1, vi s2, vi s3] (shp, M)) (fun v σ1 => ev prog (d + 1) 299 (u + 1) 247 [vr 3, vr 5, vr 87, vr 96, vr 97, vi x5, vj, vj, vj, vj] (psh v []) σ1) (fun e σ1 => hk [0, 0, 0, 0, 0] e σ1 (fun t => ev prog (d + 1) 299 (u + 1) t (msk (pMask prog 299 t) [vr 3, vr 5, vr 87, vr 96, vr 97, vi x5, vj, vj, vj, vj]) [vj] σ1)) := by
  rw [ev_eq]
  show (match ((true && decide (u + 1 ≤ 3400)) && true) with
    | true => _
    | false => none) = _
  rw [decide_eq_true h]
  rfl
set_option maxRecDepth 8000 in
theorem b299_259 (d u : Nat) (x5 : Int) (s1 : Int) (M : mM) : ev prog (d + 1) 299 u 259 [vr 3, vr 5, vr 87, vr 96, vr 97, vi x5, vj, vj, vj, vj] [vi s1, vr 5] (shp, M) = ev prog (d + 1) 299 u 260 [vr 3, vr 5, vr 87, vr 96, vr 97, vi x5, vj, vj, vj, vj] [vi 0, vi s1, vr 5] (shp, M) := by rw [ev_eq]; rfl
set_option maxRecDepth 8000 in
theorem b299_258 (d u : Nat) (x5 : Int) (s1 : Int) (M : mM) : ev prog (d + 1) 299 u 258 [vr 3, vr 5, vr 87, vr 96, vr 97, vi x5, vj, vj, vj, vj] [vi s1, vr 5] (shp, M) = ev prog (d + 1) 299 u 260 [vr 3, vr 5, vr 87, vr 96, vr 97, vi x5, vj, vj, vj, vj] [vi 1, vi s1, vr 5] (shp, M) := by rw [ev_eq]; rfl
set_option maxRecDepth 8000 in
theorem b299_281 (d u : Nat) (x5 : Int) (x6 : Int) (s1 : Int) (M : mM) (h : u + 0 ≤ 3400) : ev prog (d + 1) 299 u 281 [vr 3, vr 5, vr 87, vr 96, vr 97, vi x5, vi x6, vj, vj, vj] [vi s1, vr 87] (shp, M) = callK (run prog d 163 [vr 87, vi s1] (shp, M)) (fun v σ1 => ev prog (d + 1) 299 (u + 0) 282 [vr 3, vr 5, vr 87, vr 96, vr 97, vi x5, vi x6, vj, vj, vj] (psh v []) σ1) (fun e σ1 => hk [0, 0, 0, 0, 0] e σ1 (fun t => ev prog (d + 1) 299 (u + 0) t (msk (pMask prog 299 t) [vr 3, vr 5, vr 87, vr 96, vr 97, vi x5, vi x6, vj, vj, vj]) [vj] σ1)) := by
  rw [ev_eq]
  show (match ((true && decide (u + 0 ≤ 3400)) && true) with
    | true => _
    | false => none) = _
  rw [decide_eq_true h]
  rfl
set_option maxRecDepth 8000 in
theorem b299_293 (d u : Nat) (x5 : Int) (x6 : Int) (s1 : Int) (M : mM) (h : u + 0 ≤ 3400) : ev prog (d + 1) 299 u 293 [vr 3, vr 5, vr 87, vr 96, vr 97, vi x5, vi x6, vj, vj, vj] [vi s1, vr 87] (shp, M) = callK (run prog d 169 [vr 87, vi s1] (shp, M)) (fun v σ1 => ev prog (d + 1) 299 (u + 0) 294 [vr 3, vr 5, vr 87, vr 96, vr 97, vi x5, vi x6, vj, vj, vj] (psh v []) σ1) (fun e σ1 => hk [0, 0, 0, 0, 0] e σ1 (fun t => ev prog (d + 1) 299 (u + 0) t (msk (pMask prog 299 t) [vr 3, vr 5, vr 87, vr 96, vr 97, vi x5, vi x6, vj, vj, vj]) [vj] σ1)) := by
  rw [ev_eq]
  show (match ((true && decide (u + 0 ≤ 3400)) && true) with
    | true => _
    | false => none) = _
  rw [decide_eq_true h]
  rfl
set_option maxRecDepth 8000 in
theorem b299_305 (d u : Nat) (x5 : Int) (x6 : Int) (s1 : Int) (M : mM) (h : u + 0 ≤ 3400) : ev prog (d + 1) 299 u 305 [vr 3, vr 5, vr 87, vr 96, vr 97, vi x5, vi x6, vj, vj, vj] [vi s1, vr 87] (shp, M) = callK (run prog d 176 [vr 87, vi s1] (shp, M)) (fun v σ1 => ev prog (d + 1) 299 (u + 0) 306 [vr 3, vr 5, vr 87, vr 96, vr 97, vi x5, vi x6, vj, vj, vj] (psh v []) σ1) (fun e σ1 => hk [0, 0, 0, 0, 0] e σ1 (fun t => ev prog (d + 1) 299 (u + 0) t (msk (pMask prog 299 t) [vr 3, vr 5, vr 87, vr 96, vr 97, vi x5, vi x6, vj, vj, vj]) [vj] σ1)) := by
  rw [ev_eq]
  show (match ((true && decide (u + 0 ≤ 3400)) && true) with
    | true => _
    | false => none) = _
  rw [decide_eq_true h]
  rfl
set_option maxRecDepth 8000 in
theorem b299_317 (d u : Nat) (x5 : Int) (x6 : Int) (x7 : Int) (s0 : Int) (M : mM) : ev prog (d + 1) 299 u 317 [vr 3, vr 5, vr 87, vr 96, vr 97, vi x5, vi x6, vi x7, vj, vj] [vi s0] (shp, M) = if s0 = x6 then ev prog (d + 1) 299 u 319 [vr 3, vr 5, vr 87, vr 96, vr 97, vi x5, vi x6, vi x7, vj, vj] [] (shp, M) else ev prog (d + 1) 299 u 318 [vj, vj, vj, vj, vj, vj, vj, vj, vj, vj] [] (shp, M) := by rw [ev_eq]; rfl
set_option maxRecDepth 8000 in
theorem b299_327 (d u : Nat) (x5 : Int) (s0 : Int) (s2 : Int) (M : mM) (h : u + 0 ≤ 3400) : ev prog (d + 1) 299 u 327 [vr 3, vr 5, vr 87, vr 96, vr 97, vi x5, vj, vj, vj, vj] [vi s2, vr 87, vi s0] (shp, M) = callK (run prog d 183 [vr 87, vi s2] (shp, M)) (fun v σ1 => ev prog (d + 1) 299 (u + 0) 328 [vr 3, vr 5, vr 87, vr 96, vr 97, vi x5, vj, vj, vj, vj] (psh v [vi s0]) σ1) (fun e σ1 => hk [0, 0, 0, 0, 0] e σ1 (fun t => ev prog (d + 1) 299 (u + 0) t (msk (pMask prog 299 t) [vr 3, vr 5, vr 87, vr 96, vr 97, vi x5, vj, vj, vj, vj]) [vj] σ1)) := by
  rw [ev_eq]
  show (match ((true && decide (u + 0 ≤ 3400)) && true) with
    | true => _
    | false => none) = _
  rw [decide_eq_true h]
  rfl
set_option maxRecDepth 8000 in
theorem b299_333 (d u : Nat) (x5 : Int) (x6 : UInt64) (s1 : Int) (M : mM) (h : u + 0 ≤ 3400) : ev prog (d + 1) 299 u 333 [vr 3, vr 5, vr 87, vr 96, vr 97, vi x5, vd x6, vj, vj, vj] [vi s1, vr 87] (shp, M) = callK (run prog d 186 [vr 87, vi s1] (shp, M)) (fun v σ1 => ev prog (d + 1) 299 (u + 0) 334 [vr 3, vr 5, vr 87, vr 96, vr 97, vi x5, vd x6, vj, vj, vj] (psh v []) σ1) (fun e σ1 => hk [0, 0, 0, 0, 0] e σ1 (fun t => ev prog (d + 1) 299 (u + 0) t (msk (pMask prog 299 t) [vr 3, vr 5, vr 87, vr 96, vr 97, vi x5, vd x6, vj, vj, vj]) [vj] σ1)) := by
  rw [ev_eq]
  show (match ((true && decide (u + 0 ≤ 3400)) && true) with
    | true => _
    | false => none) = _
  rw [decide_eq_true h]
  rfl
set_option maxRecDepth 8000 in
theorem b299_342 (d u : Nat) (x5 : Int) (x6 : Int) (s1 : Int) (M : mM) (h : u + 0 ≤ 3400) : ev prog (d + 1) 299 u 342 [vr 3, vr 5, vr 87, vr 96, vr 97, vi x5, vi x6, vj, vj, vj] [vi s1, vr 87] (shp, M) = callK (run prog d 193 [vr 87, vi s1] (shp, M)) (fun v σ1 => ev prog (d + 1) 299 (u + 0) 343 [vr 3, vr 5, vr 87, vr 96, vr 97, vi x5, vi x6, vj, vj, vj] (psh v []) σ1) (fun e σ1 => hk [0, 0, 0, 0, 0] e σ1 (fun t => ev prog (d + 1) 299 (u + 0) t (msk (pMask prog 299 t) [vr 3, vr 5, vr 87, vr 96, vr 97, vi x5, vi x6, vj, vj, vj]) [vj] σ1)) := by
  rw [ev_eq]
  show (match ((true && decide (u + 0 ≤ 3400)) && true) with
    | true => _
    | false => none) = _
  rw [decide_eq_true h]
  rfl
set_option maxRecDepth 8000 in
theorem b299_354 (d u : Nat) (x5 : Int) (x6 : Int) (s1 : Int) (M : mM) (h : u + 0 ≤ 3400) : ev prog (d + 1) 299 u 354 [vr 3, vr 5, vr 87, vr 96, vr 97, vi x5, vi x6, vj, vj, vj] [vi s1, vr 87] (shp, M) = callK (run prog d 200 [vr 87, vi s1] (shp, M)) (fun v σ1 => ev prog (d + 1) 299 (u + 0) 355 [vr 3, vr 5, vr 87, vr 96, vr 97, vi x5, vi x6, vj, vj, vj] (psh v []) σ1) (fun e σ1 => hk [0, 0, 0, 0, 0] e σ1 (fun t => ev prog (d + 1) 299 (u + 0) t (msk (pMask prog 299 t) [vr 3, vr 5, vr 87, vr 96, vr 97, vi x5, vi x6, vj, vj, vj]) [vj] σ1)) := by
  rw [ev_eq]
  show (match ((true && decide (u + 0 ≤ 3400)) && true) with
    | true => _
    | false => none) = _
  rw [decide_eq_true h]
  rfl
set_option maxRecDepth 8000 in
theorem b299_366 (d u : Nat) (x5 : Int) (s0 : Int) (s2 : Int) (M : mM) (h : u + 0 ≤ 3400) : ev prog (d + 1) 299 u 366 [vr 3, vr 5, vr 87, vr 96, vr 97, vi x5, vj, vj, vj, vj] [vi s2, vr 87, vi s0] (shp, M) = callK (run prog d 206 [vr 87, vi s2] (shp, M)) (fun v σ1 => ev prog (d + 1) 299 (u + 0) 367 [vr 3, vr 5, vr 87, vr 96, vr 97, vi x5, vj, vj, vj, vj] (psh v [vi s0]) σ1) (fun e σ1 => hk [0, 0, 0, 0, 0] e σ1 (fun t => ev prog (d + 1) 299 (u + 0) t (msk (pMask prog 299 t) [vr 3, vr 5, vr 87, vr 96, vr 97, vi x5, vj, vj, vj, vj]) [vj] σ1)) := by
  rw [ev_eq]
  show (match ((true && decide (u + 0 ≤ 3400)) && true) with
    | true => _
    | false => none) = _
  rw [decide_eq_true h]
  rfl
set_option maxRecDepth 8000 in
theorem b299_372 (d u : Nat) (x5 : Int) (s0 : Int) (M : mM) : ev prog (d + 1) 299 u 372 [vr 3, vr 5, vr 87, vr 96, vr 97, vi x5, vj, vj, vj, vj] [vi s0] (shp, M) = if 0 ≤ (wr (x5 + 1)) ∧ (wr (x5 + 1)) < M 4 0 then ev prog (d + 1) 299 u 373 [vr 3, vr 5, vr 87, vr 96, vr 97, vi x5, vi s0, vj, vj, vj] [vi (M 3 (Int.toNat (wr (x5 + 1)))), vr 87] (shp, M) else none := by rw [ev_eq]; rfl
set_option maxRecDepth 8000 in
theorem b299_386 (d u : Nat) (x5 : Int) (s1 : Int) (s2 : Int) (s3 : Int) (M : mM) : ev prog (d + 1) 299 u 386 [vr 3, vr 5, vr 87, vr 96, vr 97, vi x5, vj, vj, vj, vj] [vi s3, vi s2, vi s1, vr 5] (shp, M) = if 0 ≤ (wr (x5 + 4)) ∧ (wr (x5 + 4)) < M 4 0 then ev prog (d + 1) 299 u 387 [vr 3, vr 5, vr 87, vr 96, vr 97, vi x5, vj, vj, vj, vj] [vi (M 3 (Int.toNat (wr (x5 + 4)))), vi s3, vi s2, vi s1, vr 5] (shp, M) else none := by rw [ev_eq]; rfl
set_option maxRecDepth 8000 in
theorem b299_400 (d u : Nat) (M : mM) : ev prog (d + 1) 299 u 400 [vj, vj, vj, vj, vj, vj, vj, vj, vj, vj] [] (shp, M) = some (.inl (some (vi 0)), (shp, M)) := by rw [ev_eq]; rfl
set_option maxRecDepth 8000 in
theorem b299_404 (d u : Nat) (x5 : Int) (x6 : Int) (s1 : Int) (M : mM) (h : u + 0 ≤ 3400) : ev prog (d + 1) 299 u 404 [vr 3, vr 5, vr 87, vr 96, vr 97, vi x5, vi x6, vj, vj, vj] [vi s1, vr 87] (shp, M) = callK (run prog d 222 [vr 87, vi s1] (shp, M)) (fun v σ1 => ev prog (d + 1) 299 (u + 0) 405 [vr 3, vr 5, vr 87, vr 96, vr 97, vi x5, vi x6, vj, vj, vj] (psh v []) σ1) (fun e σ1 => hk [0, 0, 0, 0, 0] e σ1 (fun t => ev prog (d + 1) 299 (u + 0) t (msk (pMask prog 299 t) [vr 3, vr 5, vr 87, vr 96, vr 97, vi x5, vi x6, vj, vj, vj]) [vj] σ1)) := by
  rw [ev_eq]
  show (match ((true && decide (u + 0 ≤ 3400)) && true) with
    | true => _
    | false => none) = _
  rw [decide_eq_true h]
  rfl
set_option maxRecDepth 8000 in
theorem b299_416 (d u : Nat) (M : mM) : ev prog (d + 1) 299 u 416 [vj, vj, vj, vj, vj, vj, vj, vj, vj, vj] [] (shp, M) = some (.inl (some (vi 0)), (shp, M)) := by rw [ev_eq]; rfl
set_option maxRecDepth 8000 in
theorem b299_420 (d u : Nat) (x5 : Int) (x6 : Int) (s1 : Int) (M : mM) (h : u + 0 ≤ 3400) : ev prog (d + 1) 299 u 420 [vr 3, vr 5, vr 87, vr 96, vr 97, vi x5, vi x6, vj, vj, vj] [vi s1, vr 87] (shp, M) = callK (run prog d 230 [vr 87, vi s1] (shp, M)) (fun v σ1 => ev prog (d + 1) 299 (u + 0) 421 [vr 3, vr 5, vr 87, vr 96, vr 97, vi x5, vi x6, vj, vj, vj] (psh v []) σ1) (fun e σ1 => hk [0, 0, 0, 0, 0] e σ1 (fun t => ev prog (d + 1) 299 (u + 0) t (msk (pMask prog 299 t) [vr 3, vr 5, vr 87, vr 96, vr 97, vi x5, vi x6, vj, vj, vj]) [vj] σ1)) := by
  rw [ev_eq]
  show (match ((true && decide (u + 0 ≤ 3400)) && true) with
    | true => _
    | false => none) = _
  rw [decide_eq_true h]
  rfl
set_option maxRecDepth 8000 in
theorem b299_436 (d u : Nat) (M : mM) : ev prog (d + 1) 299 u 436 [vj, vj, vj, vj, vj, vj, vj, vj, vj, vj] [] (shp, M) = some (.inl (some (vi 0)), (shp, M)) := by rw [ev_eq]; rfl
set_option maxRecDepth 8000 in
theorem b299_440 (d u : Nat) (x5 : Int) (x6 : Int) (s1 : Int) (M : mM) (h : u + 0 ≤ 3400) : ev prog (d + 1) 299 u 440 [vr 3, vr 5, vr 87, vr 96, vr 97, vi x5, vi x6, vj, vj, vj] [vi s1, vr 87] (shp, M) = callK (run prog d 250 [vr 87, vi s1] (shp, M)) (fun v σ1 => ev prog (d + 1) 299 (u + 0) 441 [vr 3, vr 5, vr 87, vr 96, vr 97, vi x5, vi x6, vj, vj, vj] (psh v []) σ1) (fun e σ1 => hk [0, 0, 0, 0, 0] e σ1 (fun t => ev prog (d + 1) 299 (u + 0) t (msk (pMask prog 299 t) [vr 3, vr 5, vr 87, vr 96, vr 97, vi x5, vi x6, vj, vj, vj]) [vj] σ1)) := by
  rw [ev_eq]
  show (match ((true && decide (u + 0 ≤ 3400)) && true) with
    | true => _
    | false => none) = _
  rw [decide_eq_true h]
  rfl
set_option maxRecDepth 8000 in
theorem b299_452 (d u : Nat) (x5 : Int) (x6 : Int) (x7 : Int) (s0 : Int) (M : mM) : ev prog (d + 1) 299 u 452 [vr 3, vr 5, vr 87, vr 96, vr 97, vi x5, vi x6, vi x7, vj, vj] [vi s0] (shp, M) = if s0 = x6 then ev prog (d + 1) 299 u 454 [vr 3, vr 5, vr 87, vr 96, vr 97, vi x5, vi x6, vi x7, vj, vj] [] (shp, M) else ev prog (d + 1) 299 u 453 [vj, vj, vj, vj, vj, vj, vj, vj, vj, vj] [] (shp, M) := by rw [ev_eq]; rfl
set_option maxRecDepth 8000 in
theorem b299_465 (d u : Nat) (x5 : Int) (x6 : Int) (x7 : Int) (s0 : Int) (M : mM) : ev prog (d + 1) 299 u 465 [vr 3, vr 5, vr 87, vr 96, vr 97, vi x5, vi x6, vi x7, vj, vj] [vi s0] (shp, M) = if s0 = x6 then ev prog (d + 1) 299 u 467 [vr 3, vr 5, vr 87, vr 96, vr 97, vi x5, vi x6, vi x7, vj, vj] [] (shp, M) else ev prog (d + 1) 299 u 466 [vj, vj, vj, vj, vj, vj, vj, vj, vj, vj] [] (shp, M) := by rw [ev_eq]; rfl
set_option maxRecDepth 8000 in
theorem b299_475 (d u : Nat) (x5 : Int) (x6 : Int) (s1 : Int) (M : mM) (h : u + 0 ≤ 3400) : ev prog (d + 1) 299 u 475 [vr 3, vr 5, vr 87, vr 96, vr 97, vi x5, vi x6, vj, vj, vj] [vi s1, vr 87] (shp, M) = callK (run prog d 263 [vr 87, vi (s1 % 65536)] (shp, M)) (fun v σ1 => ev prog (d + 1) 299 (u + 0) 476 [vr 3, vr 5, vr 87, vr 96, vr 97, vi x5, vi x6, vj, vj, vj] (psh v []) σ1) (fun e σ1 => hk [0, 0, 0, 0, 0] e σ1 (fun t => ev prog (d + 1) 299 (u + 0) t (msk (pMask prog 299 t) [vr 3, vr 5, vr 87, vr 96, vr 97, vi x5, vi x6, vj, vj, vj]) [vj] σ1)) := by
  rw [ev_eq]
  show (match ((true && decide (u + 0 ≤ 3400)) && true) with
    | true => _
    | false => none) = _
  rw [decide_eq_true h]
  rfl
set_option maxRecDepth 8000 in
theorem b299_483 (d u : Nat) (x5 : Int) (x6 : Int) (x7 : Int) (s0 : Int) (M : mM) : ev prog (d + 1) 299 u 483 [vr 3, vr 5, vr 87, vr 96, vr 97, vi x5, vi x6, vi x7, vj, vj] [vi s0] (shp, M) = if s0 = x6 then ev prog (d + 1) 299 u 485 [vr 3, vr 5, vr 87, vr 96, vr 97, vi x5, vi x6, vi x7, vj, vj] [] (shp, M) else ev prog (d + 1) 299 u 484 [vj, vj, vj, vj, vj, vj, vj, vj, vj, vj] [] (shp, M) := by rw [ev_eq]; rfl
set_option maxRecDepth 8000 in
theorem b299_493 (d u : Nat) (M : mM) : ev prog (d + 1) 299 u 493 [vj, vj, vj, vj, vj, vj, vj, vj, vj, vj] [] (shp, M) = some (.inl (some (vi 0)), (shp, M)) := by rw [ev_eq]; rfl
set_option maxRecDepth 8000 in
theorem b299_500 (d u : Nat) (x5 : Int) (x6 : Int) (s0 : Int) (M : mM) : ev prog (d + 1) 299 u 500 [vr 3, vr 5, vr 87, vr 96, vr 97, vi x5, vi x6, vj, vj, vj] [vi s0] (shp, M) = if s0 = x6 then ev prog (d + 1) 299 u 502 [vr 3, vr 5, vr 87, vr 96, vr 97, vi x5, vj, vj, vj, vj] [] (shp, M) else ev prog (d + 1) 299 u 501 [vj, vj, vj, vj, vj, vj, vj, vj, vj, vj] [] (shp, M) := by rw [ev_eq]; rfl
set_option maxRecDepth 8000 in
theorem b299_15 (d u : Nat) (x5 : Int) (s1 : Int) (s2 : Int) (s3 : Int) (s4 : Int) (M : mM) : ev prog (d + 1) 299 u 15 [vr 3, vr 5, vr 87, vr 96, vr 97, vi x5, vj, vj, vj, vj] [vi s4, vi s3, vi s2, vi s1, vr 5] (shp, M) = if 0 ≤ (wr (x5 + 5)) ∧ (wr (x5 + 5)) < M 4 0 then ev prog (d + 1) 299 u 16 [vr 3, vr 5, vr 87, vr 96, vr 97, vi x5, vj, vj, vj, vj] [vi (M 3 (Int.toNat (wr (x5 + 5)))), vi s4, vi s3, vi s2, vi s1, vr 5] (shp, M) else none := by rw [ev_eq]; rfl
set_option maxRecDepth 8000 in
theorem b299_35 (d u : Nat) (x5 : Int) (x6 : Int) (s0 : Int) (M : mM) (h : u + 0 ≤ 3400) : ev prog (d + 1) 299 u 35 [vr 3, vr 5, vr 87, vr 96, vr 97, vi x5, vi x6, vj, vj, vj] [vi s0] (shp, M) = callK (run prog d 67 [vr 87] (shp, M)) (fun v σ1 => ev prog (d + 1) 299 (u + 0) 36 [vr 3, vr 5, vr 87, vr 96, vr 97, vi x5, vi x6, vi s0, vj, vj] (psh v []) σ1) (fun e σ1 => hk [0, 0, 0, 0, 0] e σ1 (fun t => ev prog (d + 1) 299 (u + 0) t (msk (pMask prog 299 t) [vr 3, vr 5, vr 87, vr 96, vr 97, vi x5, vi x6, vi s0, vj, vj]) [vj] σ1)) := by
  rw [ev_eq]
  show (match ((true && decide (u + 0 ≤ 3400)) && true) with
    | true => _
    | false => none) = _
  rw [decide_eq_true h]
  rfl
set_option maxRecDepth 8000 in
theorem b299_47 (d u : Nat) (x5 : Int) (s0 : Int) (s1 : Int) (M : mM) : ev prog (d + 1) 299 u 47 [vr 3, vr 5, vr 87, vr 96, vr 97, vi x5, vj, vj, vj, vj] [vi s1, vi s0] (shp, M) = if s0 = s1 then ev prog (d + 1) 299 u 503 [vr 3, vr 5, vr 87, vr 96, vr 97, vi x5, vj, vj, vj, vj] [] (shp, M) else ev prog (d + 1) 299 u 48 [vj, vj, vj, vj, vj, vj, vj, vj, vj, vj] [] (shp, M) := by rw [ev_eq]; rfl
set_option maxRecDepth 8000 in
theorem b299_53 (d u : Nat) (x5 : Int) (x6 : Int) (s1 : Int) (M : mM) : ev prog (d + 1) 299 u 53 [vr 3, vr 5, vr 87, vr 96, vr 97, vi x5, vi x6, vj, vj, vj] [vi s1, vr 87] (shp, M) = if 0 ≤ (wr (x5 + 2)) ∧ (wr (x5 + 2)) < M 4 0 then ev prog (d + 1) 299 u 54 [vr 3, vr 5, vr 87, vr 96, vr 97, vi x5, vi x6, vj, vj, vj] [vi (M 3 (Int.toNat (wr (x5 + 2)))), vi s1, vr 87] (shp, M) else none := by rw [ev_eq]; rfl
set_option maxRecDepth 8000 in
theorem b299_67 (d u : Nat) (x5 : Int) (x6 : Int) (s0 : Int) (M : mM) (h : u + 0 ≤ 3400) : ev prog (d + 1) 299 u 67 [vr 3, vr 5, vr 87, vr 96, vr 97, vi x5, vi x6, vj, vj, vj] [vi s0] (shp, M) = callK (run prog d 67 [vr 87] (shp, M)) (fun v σ1 => ev prog (d + 1) 299 (u + 0) 68 [vr 3, vr 5, vr 87, vr 96, vr 97, vi x5, vi x6, vi s0, vj, vj] (psh v []) σ1) (fun e σ1 => hk [0, 0, 0, 0, 0] e σ1 (fun t => ev prog (d + 1) 299 (u + 0) t (msk (pMask prog 299 t) [vr 3, vr 5, vr 87, vr 96, vr 97, vi x5, vi x6, vi s0, vj, vj]) [vj] σ1)) := by
  rw [ev_eq]
  show (match ((true && decide (u + 0 ≤ 3400)) && true) with
    | true => _
    | false => none) = _
  rw [decide_eq_true h]
  rfl
set_option maxRecDepth 8000 in
theorem b299_79 (d u : Nat) (x5 : Int) (x6 : Int) (s0 : Int) (M : mM) (h : u + 0 ≤ 3400) : ev prog (d + 1) 299 u 79 [vr 3, vr 5, vr 87, vr 96, vr 97, vi x5, vi x6, vj, vj, vj] [vi s0] (shp, M) = callK (run prog d 67 [vr 87] (shp, M)) (fun v σ1 => ev prog (d + 1) 299 (u + 0) 80 [vr 3, vr 5, vr 87, vr 96, vr 97, vi x5, vi x6, vi s0, vj, vj] (psh v []) σ1) (fun e σ1 => hk [0, 0, 0, 0, 0] e σ1 (fun t => ev prog (d + 1) 299 (u + 0) t (msk (pMask prog 299 t) [vr 3, vr 5, vr 87, vr 96, vr 97, vi x5, vi x6, vi s0, vj, vj]) [vj] σ1)) := by
  rw [ev_eq]
  show (match ((true && decide (u + 0 ≤ 3400)) && true) with
    | true => _
    | false => none) = _
  rw [decide_eq_true h]
  rfl
set_option maxRecDepth 8000 in
theorem b299_91 (d u : Nat) (x5 : Int) (s0 : Int) (M : mM) : ev prog (d + 1) 299 u 91 [vr 3, vr 5, vr 87, vr 96, vr 97, vi x5, vj, vj, vj, vj] [vi s0] (shp, M) = if 0 ≤ (wr (x5 + 1)) ∧ (wr (x5 + 1)) < M 4 0 then ev prog (d + 1) 299 u 92 [vr 3, vr 5, vr 87, vr 96, vr 97, vi x5, vi s0, vj, vj, vj] [vi (M 3 (Int.toNat (wr (x5 + 1)))), vr 87] (shp, M) else none := by rw [ev_eq]; rfl
set_option maxRecDepth 8000 in
theorem b299_107 (d u : Nat) (x5 : Int) (s0 : Int) (M : mM) : ev prog (d + 1) 299 u 107 [vr 3, vr 5, vr 87, vr 96, vr 97, vi x5, vj, vj, vj, vj] [vi s0] (shp, M) = if 0 ≤ (wr (x5 + 1)) ∧ (wr (x5 + 1)) < M 4 0 then ev prog (d + 1) 299 u 108 [vr 3, vr 5, vr 87, vr 96, vr 97, vi x5, vi s0, vj, vj, vj] [vi (M 3 (Int.toNat (wr (x5 + 1)))), vr 87] (shp, M) else none := by rw [ev_eq]; rfl
set_option maxRecDepth 8000 in
theorem b299_124 (d u : Nat) (x5 : Int) (x6 : Int) (x7 : Int) (M : mM) : ev prog (d + 1) 299 u 124 [vr 3, vr 5, vr 87, vr 96, vr 97, vi x5, vi x6, vi x7, vj, vj] [] (shp, M) = if x6 = 0 then ev prog (d + 1) 299 u 125 [vr 3, vr 5, vr 87, vr 96, vr 97, vi x5, vj, vi x7, vj, vj] [] (shp, M) else ev prog (d + 1) 299 u 128 [vr 3, vr 5, vr 87, vr 96, vr 97, vi x5, vj, vj, vj, vj] [] (shp, M) := by rw [ev_eq]; rfl
set_option maxRecDepth 8000 in
theorem b299_123 (d u : Nat) (M : mM) : ev prog (d + 1) 299 u 123 [vj, vj, vj, vj, vj, vj, vj, vj, vj, vj] [] (shp, M) = some (.inl (some (vi 0)), (shp, M)) := by rw [ev_eq]; rfl
set_option maxRecDepth 8000 in
theorem b299_133 (d u : Nat) (x5 : Int) (x6 : Int) (s1 : Int) (M : mM) : ev prog (d + 1) 299 u 133 [vr 3, vr 5, vr 87, vr 96, vr 97, vi x5, vi x6, vj, vj, vj] [vi s1, vr 87] (shp, M) = if 0 ≤ (wr (x5 + 2)) ∧ (wr (x5 + 2)) < M 4 0 then ev prog (d + 1) 299 u 134 [vr 3, vr 5, vr 87, vr 96, vr 97, vi x5, vi x6, vj, vj, vj] [vi (M 3 (Int.toNat (wr (x5 + 2)))), vi s1, vr 87] (shp, M) else none := by rw [ev_eq]; rfl
set_option maxRecDepth 8000 in
theorem b299_147 (d u : Nat) (x5 : Int) (x6 : Int) (s0 : Int) (M : mM) (h : u + 0 ≤ 3400) : ev prog (d + 1) 299 u 147 [vr 3, vr 5, vr 87, vr 96, vr 97, vi x5, vi x6, vj, vj, vj] [vi s0] (shp, M) = callK (run prog d 67 [vr 87] (shp, M)) (fun v σ1 => ev prog (d + 1) 299 (u + 0) 148 [vr 3, vr 5, vr 87, vr 96, vr 97, vi x5, vi x6, vi s0, vj, vj] (psh v []) σ1) (fun e σ1 => hk [0, 0, 0, 0, 0] e σ1 (fun t => ev prog (d + 1) 299 (u + 0) t (msk (pMask prog 299 t) [vr 3, vr 5, vr 87, vr 96, vr 97, vi x5, vi x6, vi s0, vj, vj]) [vj] σ1)) := by
  rw [ev_eq]
  show (match ((true && decide (u + 0 ≤ 3400)) && true) with
    | true => _
    | false => none) = _
  rw [decide_eq_true h]
  rfl
set_option maxRecDepth 8000 in
theorem b299_159 (d u : Nat) (x5 : Int) (x6 : Int) (s0 : Int) (M : mM) (h : u + 0 ≤ 3400) : ev prog (d + 1) 299 u 159 [vr 3, vr 5, vr 87, vr 96, vr 97, vi x5, vi x6, vj, vj, vj] [vi s0] (shp, M) = callK (run prog d 67 [vr 87] (shp, M)) (fun v σ1 => ev prog (d + 1) 299 (u + 0) 160 [vr 3, vr 5, vr 87, vr 96, vr 97, vi x5, vi x6, vi s0, vj, vj] (psh v []) σ1) (fun e σ1 => hk [0, 0, 0, 0, 0] e σ1 (fun t => ev prog (d + 1) 299 (u + 0) t (msk (pMask prog 299 t) [vr 3, vr 5, vr 87, vr 96, vr 97, vi x5, vi x6, vi s0, vj, vj]) [vj] σ1)) := by
  rw [ev_eq]
  show (match ((true && decide (u + 0 ≤ 3400)) && true) with
    | true => _
    | false => none) = _
  rw [decide_eq_true h]
  rfl
set_option maxRecDepth 8000 in
theorem b299_175 (d u : Nat) (x5 : Int) (x6 : Int) (s1 : Int) (M : mM) : ev prog (d + 1) 299 u 175 [vr 3, vr 5, vr 87, vr 96, vr 97, vi x5, vi x6, vj, vj, vj] [vi s1, vr 87] (shp, M) = if 0 ≤ (wr (x5 + 2)) ∧ (wr (x5 + 2)) < M 4 0 then ev prog (d + 1) 299 u 176 [vr 3, vr 5, vr 87, vr 96, vr 97, vi x5, vi x6, vj, vj, vj] [vi (M 3 (Int.toNat (wr (x5 + 2)))), vi s1, vr 87] (shp, M) else none := by rw [ev_eq]; rfl
set_option maxRecDepth 8000 in
theorem b299_189 (d u : Nat) (x5 : Int) (x6 : Int) (s0 : Int) (M : mM) (h : u + 0 ≤ 3400) : ev prog (d + 1) 299 u 189 [vr 3, vr 5, vr 87, vr 96, vr 97, vi x5, vi x6, vj, vj, vj] [vi s0] (shp, M) = callK (run prog d 67 [vr 87] (shp, M)) (fun v σ1 => ev prog (d + 1) 299 (u + 0) 190 [vr 3, vr 5, vr 87, vr 96, vr 97, vi x5, vi x6, vi s0, vj, vj] (psh v []) σ1) (fun e σ1 => hk [0, 0, 0, 0, 0] e σ1 (fun t => ev prog (d + 1) 299 (u + 0) t (msk (pMask prog 299 t) [vr 3, vr 5, vr 87, vr 96, vr 97, vi x5, vi x6, vi s0, vj, vj]) [vj] σ1)) := by
  rw [ev_eq]
  show (match ((true && decide (u + 0 ≤ 3400)) && true) with
    | true => _
    | false => none) = _
  rw [decide_eq_true h]
  rfl
set_option maxRecDepth 8000 in
theorem b299_201 (d u : Nat) (x5 : Int) (s0 : Int) (M : mM) : ev prog (d + 1) 299 u 201 [vr 3, vr 5, vr 87, vr 96, vr 97, vi x5, vj, vj, vj, vj] [vi s0] (shp, M) = if 0 ≤ (wr (x5 + 1)) ∧ (wr (x5 + 1)) < M 4 0 then ev prog (d + 1) 299 u 202 [vr 3, vr 5, vr 87, vr 96, vr 97, vi x5, vi s0, vj, vj, vj] [vi (M 3 (Int.toNat (wr (x5 + 1)))), vr 87] (shp, M) else none := by rw [ev_eq]; rfl
set_option maxRecDepth 8000 in
theorem b299_217 (d u : Nat) (x5 : Int) (x6 : Int) (s1 : Int) (M : mM) : ev prog (d + 1) 299 u 217 [vr 3, vr 5, vr 87, vr 96, vr 97, vi x5, vi x6, vj, vj, vj] [vi s1, vr 87] (shp, M) = if 0 ≤ (wr (x5 + 2)) ∧ (wr (x5 + 2)) < M 4 0 then ev prog (d + 1) 299 u 218 [vr 3, vr 5, vr 87, vr 96, vr 97, vi x5, vi x6, vj, vj, vj] [vi (M 3 (Int.toNat (wr (x5 + 2)))), vi s1, vr 87] (shp, M) else none := by rw [ev_eq]; rfl
set_option maxRecDepth 8000 in
theorem b299_235 (d u : Nat) (x5 : Int) (x6 : Int) (s0 : Int) (M : mM) (h : u + 0 ≤ 3400) : ev prog (d + 1) 299 u 235 [vr 3, vr 5, vr 87, vr 96, vr 97, vi x5, vi x6, vj, vj, vj] [vi s0] (shp, M) = callK (run prog d 67 [vr 87] (shp, M)) (fun v σ1 => ev prog (d + 1) 299 (u + 0) 236 [vr 3, vr 5, vr 87, vr 96, vr 97, vi x5, vi x6, vi s0, vj, vj] (psh v []) σ1) (fun e σ1 => hk [0, 0, 0, 0, 0] e σ1 (fun t => ev prog (d + 1) 299 (u + 0) t (msk (pMask prog 299 t) [vr 3, vr 5, vr 87, vr 96, vr 97, vi x5, vi x6, vi s0, vj, vj]) [vj] σ1)) := by
  rw [ev_eq]
  show (match ((true && decide (u + 0 ≤ 3400)) && true) with
    | true => _
    | false => none) = _
  rw [decide_eq_true h]
  rfl
set_option maxRecDepth 8000 in
theorem b299_247 (d u : Nat) (x5 : Int) (s0 : Int) (M : mM) : ev prog (d + 1) 299 u 247 [vr 3, vr 5, vr 87, vr 96, vr 97, vi x5, vj, vj, vj, vj] [vi s0] (shp, M) = if 0 ≤ (wr (x5 + 1)) ∧ (wr (x5 + 1)) < M 4 0 then ev prog (d + 1) 299 u 248 [vr 3, vr 5, vr 87, vr 96, vr 97, vi x5, vi s0, vj, vj, vj] [vi (M 3 (Int.toNat (wr (x5 + 1)))), vr 87] (shp, M) else none := by rw [ev_eq]; rfl
set_option maxRecDepth 8000 in
theorem b299_260 (d u : Nat) (x5 : Int) (s1 : Int) (s2 : Int) (M : mM) (h : u + 1 ≤ 3400) : ev prog (d + 1) 299 u 260 [vr 3, vr 5, vr 87, vr 96, vr 97, vi x5, vj, vj, vj, vj] [vi s2, vi s1, vr 5] (shp, M) = callK (run prog d 154 [vr 5, vi s1, vi s2, vr 96] (shp, M)) (fun v σ1 => ev prog (d + 1) 299 (u + 1) 261 [vr 3, vr 5, vr 87, vr 96, vr 97, vi x5, vj, vj, vj, vj] (psh v []) σ1) (fun e σ1 => hk [0, 0, 0, 0, 0] e σ1 (fun t => ev prog (d + 1) 299 (u + 1) t (msk (pMask prog 299 t) [vr 3, vr 5, vr 87, vr 96, vr 97, vi x5, vj, vj, vj, vj]) [vj] σ1)) := by
  rw [ev_eq]
  show (match ((true && decide (u + 1 ≤ 3400)) && true) with
    | true => _
    | false => none) = _
  rw [decide_eq_true h]
  rfl
set_option maxRecDepth 8000 in
theorem b299_282 (d u : Nat) (x5 : Int) (x6 : Int) (s0 : Int) (M : mM) (h : u + 0 ≤ 3400) : ev prog (d + 1) 299 u 282 [vr 3, vr 5, vr 87, vr 96, vr 97, vi x5, vi x6, vj, vj, vj] [vi s0] (shp, M) = callK (run prog d 67 [vr 87] (shp, M)) (fun v σ1 => ev prog (d + 1) 299 (u + 0) 283 [vr 3, vr 5, vr 87, vr 96, vr 97, vi x5, vi x6, vi s0, vj, vj] (psh v []) σ1) (fun e σ1 => hk [0, 0, 0, 0, 0] e σ1 (fun t => ev prog (d + 1) 299 (u + 0) t (msk (pMask prog 299 t) [vr 3, vr 5, vr 87, vr 96, vr 97, vi x5, vi x6, vi s0, vj, vj]) [vj] σ1)) := by
  rw [ev_eq]
  show (match ((true && decide (u + 0 ≤ 3400)) && true) with
    | true => _
    | false => none) = _
  rw [decide_eq_true h]
  rfl
set_option maxRecDepth 8000 in
theorem b299_294 (d u : Nat) (x5 : Int) (x6 : Int) (s0 : Int) (M : mM) (h : u + 0 ≤ 3400) : ev prog (d + 1) 299 u 294 [vr 3, vr 5, vr 87, vr 96, vr 97, vi x5, vi x6, vj, vj, vj] [vi s0] (shp, M) = callK (run prog d 67 [vr 87] (shp, M)) (fun v σ1 => ev prog (d + 1) 299 (u + 0) 295 [vr 3, vr 5, vr 87, vr 96, vr 97, vi x5, vi x6, vi s0, vj, vj] (psh v []) σ1) (fun e σ1 => hk [0, 0, 0, 0, 0] e σ1 (fun t => ev prog (d + 1) 299 (u + 0) t (msk (pMask prog 299 t) [vr 3, vr 5, vr 87, vr 96, vr 97, vi x5, vi x6, vi s0, vj, vj]) [vj] σ1)) := by
  rw [ev_eq]
  show (match ((true && decide (u + 0 ≤ 3400)) && true) with
    | true => _
    | false => none) = _
  rw [decide_eq_true h]
  rfl
set_option maxRecDepth 8000 in
theorem b299_306 (d u : Nat) (x5 : Int) (x6 : Int) (s0 : Int) (M : mM) (h : u + 0 ≤ 3400) : ev prog (d + 1) 299 u 306 [vr 3, vr 5, vr 87, vr 96, vr 97, vi x5, vi x6, vj, vj, vj] [vi s0] (shp, M) = callK (run prog d 67 [vr 87] (shp, M)) (fun v σ1 => ev prog (d + 1) 299 (u + 0) 307 [vr 3, vr 5, vr 87, vr 96, vr 97, vi x5, vi x6, vi s0, vj, vj] (psh v []) σ1) (fun e σ1 => hk [0, 0, 0, 0, 0] e σ1 (fun t => ev prog (d + 1) 299 (u + 0) t (msk (pMask prog 299 t) [vr 3, vr 5, vr 87, vr 96, vr 97, vi x5, vi x6, vi s0, vj, vj]) [vj] σ1)) := by
  rw [ev_eq]
  show (match ((true && decide (u + 0 ≤ 3400)) && true) with
    | true => _
    | false => none) = _
  rw [decide_eq_true h]
  rfl
set_option maxRecDepth 8000 in
theorem b299_319 (d u : Nat) (x5 : Int) (x6 : Int) (x7 : Int) (M : mM) : ev prog (d + 1) 299 u 319 [vr 3, vr 5, vr 87, vr 96, vr 97, vi x5, vi x6, vi x7, vj, vj] [] (shp, M) = if x6 = 0 then ev prog (d + 1) 299 u 320 [vr 3, vr 5, vr 87, vr 96, vr 97, vi x5, vj, vi x7, vj, vj] [] (shp, M) else ev prog (d + 1) 299 u 323 [vr 3, vr 5, vr 87, vr 96, vr 97, vi x5, vj, vj, vj, vj] [] (shp, M) := by rw [ev_eq]; rfl
set_option maxRecDepth 8000 in
theorem b299_318 (d u : Nat) (M : mM) : ev prog (d + 1) 299 u 318 [vj, vj, vj, vj, vj, vj, vj, vj, vj, vj] [] (shp, M) = some (.inl (some (vi 0)), (shp, M)) := by rw [ev_eq]; rfl
set_option maxRecDepth 8000 in
theorem b299_328 (d u : Nat) (x5 : Int) (s0 : Int) (s1 : Int) (M : mM) : ev prog (d + 1) 299 u 328 [vr 3, vr 5, vr 87, vr 96, vr 97, vi x5, vj, vj, vj, vj] [vi s1, vi s0] (shp, M) = if s0 = s1 then ev prog (d + 1) 299 u 503 [vr 3, vr 5, vr 87, vr 96, vr 97, vi x5, vj, vj, vj, vj] [] (shp, M) else ev prog (d + 1) 299 u 329 [vj, vj, vj, vj, vj, vj, vj, vj, vj, vj] [] (shp, M) := by rw [ev_eq]; rfl
set_option maxRecDepth 8000 in
theorem b299_334 (d u : Nat) (x5 : Int) (x6 : UInt64) (s0 : UInt64) (M : mM) : ev prog (d + 1) 299 u 334 [vr 3, vr 5, vr 87, vr 96, vr 97, vi x5, vd x6, vj, vj, vj] [vd s0] (shp, M) = if ((Op.cmpValue (FP.dcmp x6 s0) .l).toInt) = 0 then ev prog (d + 1) 299 u 338 [vr 3, vr 5, vr 87, vr 96, vr 97, vi x5, vj, vj, vj, vj] [] (shp, M) else ev prog (d + 1) 299 u 335 [vr 3, vr 5, vr 87, vr 96, vr 97, vi x5, vd x6, vj, vd s0, vj] [] (shp, M) := by rw [ev_eq]; rfl
set_option maxRecDepth 8000 in
theorem b299_343 (d u : Nat) (x5 : Int) (x6 : Int) (s0 : Int) (M : mM) (h : u + 0 ≤ 3400) : ev prog (d + 1) 299 u 343 [vr 3, vr 5, vr 87, vr 96, vr 97, vi x5, vi x6, vj, vj, vj] [vi s0] (shp, M) = callK (run prog d 67 [vr 87] (shp, M)) (fun v σ1 => ev prog (d + 1) 299 (u + 0) 344 [vr 3, vr 5, vr 87, vr 96, vr 97, vi x5, vi x6, vi s0, vj, vj] (psh v []) σ1) (fun e σ1 => hk [0, 0, 0, 0, 0] e σ1 (fun t => ev prog (d + 1) 299 (u + 0) t (msk (pMask prog 299 t) [vr 3, vr 5, vr 87, vr 96, vr 97, vi x5, vi x6, vi s0, vj, vj]) [vj] σ1)) := by
  rw [ev_eq]
  show (match ((true && decide (u + 0 ≤ 3400)) && true) with
    | true => _
    | false => none) = _
  rw [decide_eq_true h]
  rfl
set_option maxRecDepth 8000 in
theorem b299_355 (d u : Nat) (x5 : Int) (x6 : Int) (s0 : Int) (M : mM) (h : u + 0 ≤ 3400) : ev prog (d + 1) 299 u 355 [vr 3, vr 5, vr 87, vr 96, vr 97, vi x5, vi x6, vj, vj, vj] [vi s0] (shp, M) = callK (run prog d 67 [vr 87] (shp, M)) (fun v σ1 => ev prog (d + 1) 299 (u + 0) 356 [vr 3, vr 5, vr 87, vr 96, vr 97, vi x5, vi x6, vi s0, vj, vj] (psh v []) σ1) (fun e σ1 => hk [0, 0, 0, 0, 0] e σ1 (fun t => ev prog (d + 1) 299 (u + 0) t (msk (pMask prog 299 t) [vr 3, vr 5, vr 87, vr 96, vr 97, vi x5, vi x6, vi s0, vj, vj]) [vj] σ1)) := by
  rw [ev_eq]
  show (match ((true && decide (u + 0 ≤ 3400)) && true) with
    | true => _
    | false => none) = _
  rw [decide_eq_true h]
  rfl
set_option maxRecDepth 8000 in
theorem b299_367 (d u : Nat) (x5 : Int) (s0 : Int) (s1 : Int) (M : mM) : ev prog (d + 1) 299 u 367 [vr 3, vr 5, vr 87, vr 96, vr 97, vi x5, vj, vj, vj, vj] [vi s1, vi s0] (shp, M) = if s0 = s1 then ev prog (d + 1) 299 u 503 [vr 3, vr 5, vr 87, vr 96, vr 97, vi x5, vj, vj, vj, vj] [] (shp, M) else ev prog (d + 1) 299 u 368 [vj, vj, vj, vj, vj, vj, vj, vj, vj, vj] [] (shp, M) := by rw [ev_eq]; rfl
set_option maxRecDepth 8000 in
theorem b299_373 (d u : Nat) (x5 : Int) (x6 : Int) (s1 : Int) (M : mM) : ev prog (d + 1) 299 u 373 [vr 3, vr 5, vr 87, vr 96, vr 97, vi x5, vi x6, vj, vj, vj] [vi s1, vr 87] (shp, M) = if 0 ≤ (wr (x5 + 2)) ∧ (wr (x5 + 2)) < M 4 0 then ev prog (d + 1) 299 u 374 [vr 3, vr 5, vr 87, vr 96, vr 97, vi x5, vi x6, vj, vj, vj] [vi (M 3 (Int.toNat (wr (x5 + 2)))), vi s1, vr 87] (shp, M) else none := by rw [ev_eq]; rfl
set_option maxRecDepth 8000 in
theorem b299_387 (d u : Nat) (x5 : Int) (s1 : Int) (s2 : Int) (s3 : Int) (s4 : Int) (M : mM) (h : u + 1 ≤ 3400) : ev prog (d + 1) 299 u 387 [vr 3, vr 5, vr 87, vr 96, vr 97, vi x5, vj, vj, vj, vj] [vi s4, vi s3, vi s2, vi s1, vr 5] (shp, M) = callK (run prog d 212 [vr 5, vi s1, vi s2, vi s3, vi s4] (shp, M)) (fun v σ1 => ev prog (d + 1) 299 (u + 1) 388 [vr 3, vr 5, vr 87, vr 96, vr 97, vi x5, vj, vj, vj, vj] (psh v []) σ1) (fun e σ1 => hk [0, 0, 0, 0, 0] e σ1 (fun t => ev prog (d + 1) 299 (u + 1) t (msk (pMask prog 299 t) [vr 3, vr 5, vr 87, vr 96, vr 97, vi x5, vj, vj, vj, vj]) [vj] σ1)) := by
  rw [ev_eq]
  show (match ((true && decide (u + 1 ≤ 3400)) && true) with
    | true => _
    | false => none) = _
  rw [decide_eq_true h]
  rfl
set_option maxRecDepth 8000 in
theorem b299_405 (d u : Nat) (x5 : Int) (x6 : Int) (s0 : Int) (M : mM) (h : u + 0 ≤ 3400) : ev prog (d + 1) 299 u 405 [vr 3, vr 5, vr 87, vr 96, vr 97, vi x5, vi x6, vj, vj, vj] [vi s0] (shp, M) = callK (run prog d 67 [vr 87] (shp, M)) (fun v σ1 => ev prog (d + 1) 299 (u + 0) 406 [vr 3, vr 5, vr 87, vr 96, vr 97, vi x5, vi x6, vi s0, vj, vj] (psh v []) σ1) (fun e σ1 => hk [0, 0, 0, 0, 0] e σ1 (fun t => ev prog (d + 1) 299 (u + 0) t (msk (pMask prog 299 t) [vr 3, vr 5, vr 87, vr 96, vr 97, vi x5, vi x6, vi s0, vj, vj]) [vj] σ1)) := by
  rw [ev_eq]
  show (match ((true && decide (u + 0 ≤ 3400)) && true) with
    | true => _
    | false => none) = _
  rw [decide_eq_true h]
  rfl
set_option maxRecDepth 8000 in
theorem b299_421 (d u : Nat) (x5 : Int) (x6 : Int) (s0 : UInt64) (M : mM) (h : u + 0 ≤ 3400) : ev prog (d + 1) 299 u 421 [vr 3, vr 5, vr 87, vr 96, vr 97, vi x5, vi x6, vj, vj, vj] [vd s0] (shp, M) = callK (run prog d 67 [vr 87] (shp, M)) (fun v σ1 => ev prog (d + 1) 299 (u + 0) 422 [vr 3, vr 5, vr 87, vr 96, vr 97, vi x5, vi x6, vd s0, vj, vj] (psh v []) σ1) (fun e σ1 => hk [0, 0, 0, 0, 0] e σ1 (fun t => ev prog (d + 1) 299 (u + 0) t (msk (pMask prog 299 t) [vr 3, vr 5, vr 87, vr 96, vr 97, vi x5, vi x6, vd s0, vj, vj]) [vj] σ1)) := by
  rw [ev_eq]
  show (match ((true && decide (u + 0 ≤ 3400)) && true) with
    | true => _
    | false => none) = _
  rw [decide_eq_true h]
  rfl
set_option maxRecDepth 8000 in
theorem b299_441 (d u : Nat) (x5 : Int) (x6 : Int) (s0 : Int) (M : mM) (h : u + 0 ≤ 3400) : ev prog (d + 1) 299 u 441 [vr 3, vr 5, vr 87, vr 96, vr 97, vi x5, vi x6, vj, vj, vj] [vi s0] (shp, M) = callK (run prog d 67 [vr 87] (shp, M)) (fun v σ1 => ev prog (d + 1) 299 (u + 0) 442 [vr 3, vr 5, vr 87, vr 96, vr 97, vi x5, vi x6, vi s0, vj, vj] (psh v []) σ1) (fun e σ1 => hk [0, 0, 0, 0, 0] e σ1 (fun t => ev prog (d + 1) 299 (u + 0) t (msk (pMask prog 299 t) [vr 3, vr 5, vr 87, vr 96, vr 97, vi x5, vi x6, vi s0, vj, vj]) [vj] σ1)) := by
  rw [ev_eq]
  show (match ((true && decide (u + 0 ≤ 3400)) && true) with
    | true => _
    | false => none) = _
  rw [decide_eq_true h]
  rfl
set_option maxRecDepth 8000 in
theorem b299_454 (d u : Nat) (x5 : Int) (x6 : Int) (x7 : Int) (M : mM) : ev prog (d + 1) 299 u 454 [vr 3, vr 5, vr 87, vr 96, vr 97, vi x5, vi x6, vi x7, vj, vj] [] (shp, M) = if x6 = 0 then ev prog (d + 1) 299 u 455 [vr 3, vr 5, vr 87, vr 96, vr 97, vi x5, vj, vi x7, vj, vj] [] (shp, M) else ev prog (d + 1) 299 u 461 [vr 3, vr 5, vr 87, vr 96, vr 97, vi x5, vj, vj, vj, vj] [] (shp, M) := by rw [ev_eq]; rfl
set_option maxRecDepth 8000 in
theorem b299_453 (d u : Nat) (M : mM) : ev prog (d + 1) 299 u 453 [vj, vj, vj, vj, vj, vj, vj, vj, vj, vj] [] (shp, M) = some (.inl (some (vi 0)), (shp, M)) := by rw [ev_eq]; rfl
set_option maxRecDepth 8000 in
theorem b299_467 (d u : Nat) (x5 : Int) (x6 : Int) (x7 : Int) (M : mM) : ev prog (d + 1) 299 u 467 [vr 3, vr 5, vr 87, vr 96, vr 97, vi x5, vi x6, vi x7, vj, vj] [] (shp, M) = if x6 = 0 then ev prog (d + 1) 299 u 468 [vr 3, vr 5, vr 87, vr 96, vr 97, vi x5, vj, vi x7, vj, vj] [] (shp, M) else ev prog (d + 1) 299 u 471 [vr 3, vr 5, vr 87, vr 96, vr 97, vi x5, vj, vj, vj, vj] [] (shp, M) := by rw [ev_eq]; rfl
set_option maxRecDepth 8000 in
theorem b299_466 (d u : Nat) (M : mM) : ev prog (d + 1) 299 u 466 [vj, vj, vj, vj, vj, vj, vj, vj, vj, vj] [] (shp, M) = some (.inl (some (vi 0)), (shp, M)) := by rw [ev_eq]; rfl
set_option maxRecDepth 8000 in
theorem b299_476 (d u : Nat) (x5 : Int) (x6 : Int) (M : mM) (h : u + 0 ≤ 3400) : ev prog (d + 1) 299 u 476 [vr 3, vr 5, vr 87, vr 96, vr 97, vi x5, vi x6, vj, vj, vj] [] (shp, M) = callK (run prog d 67 [vr 87] (shp, M)) (fun v σ1 => ev prog (d + 1) 299 (u + 0) 477 [vr 3, vr 5, vr 87, vr 96, vr 97, vi x5, vi x6, vj, vj, vj] (psh v []) σ1) (fun e σ1 => hk [0, 0, 0, 0, 0] e σ1 (fun t => ev prog (d + 1) 299 (u + 0) t (msk (pMask prog 299 t) [vr 3, vr 5, vr 87, vr 96, vr 97, vi x5, vi x6, vj, vj, vj]) [vj] σ1)) := by
  rw [ev_eq]
  show (match ((true && decide (u + 0 ≤ 3400)) && true) with
    | true => _
    | false => none) = _
  rw [decide_eq_true h]
  rfl
set_option maxRecDepth 8000 in
theorem b299_485 (d u : Nat) (x5 : Int) (x6 : Int) (x7 : Int) (M : mM) : ev prog (d + 1) 299 u 485 [vr 3, vr 5, vr 87, vr 96, vr 97, vi x5, vi x6, vi x7, vj, vj] [] (shp, M) = if x6 = 0 then ev prog (d + 1) 299 u 486 [vr 3, vr 5, vr 87, vr 96, vr 97, vi x5, vj, vi x7, vj, vj] [] (shp, M) else ev prog (d + 1) 299 u 489 [vr 3, vr 5, vr 87, vr 96, vr 97, vi x5, vj, vj, vj, vj] [] (shp, M) := by rw [ev_eq]; rfl
set_option maxRecDepth 8000 in
theorem b299_484 (d u : Nat) (M : mM) : ev prog (d + 1) 299 u 484 [vj, vj, vj, vj, vj, vj, vj, vj, vj, vj] [] (shp, M) = some (.inl (some (vi 0)), (shp, M)) := by rw [ev_eq]; rfl
set_option maxRecDepth 8000 in
theorem b299_502 (d u : Nat) (x5 : Int) (M : mM) : ev prog (d + 1) 299 u 502 [vr 3, vr 5, vr 87, vr 96, vr 97, vi x5, vj, vj, vj, vj] [] (shp, M) = ev prog (d + 1) 299 u 503 [vr 3, vr 5, vr 87, vr 96, vr 97, vi x5, vj, vj, vj, vj] [] (shp, M) := by rw [ev_eq]; rfl
set_option maxRecDepth 8000 in
theorem b299_501 (d u : Nat) (M : mM) : ev prog (d + 1) 299 u 501 [vj, vj, vj, vj, vj, vj, vj, vj, vj, vj] [] (shp, M) = some (.inl (some (vi 0)), (shp, M)) := by rw [ev_eq]; rfl
set_option maxRecDepth 8000 in
theorem b299_16 (d u : Nat) (x5 : Int) (s1 : Int) (s2 : Int) (s3 : Int) (s4 : Int) (s5 : Int) (M : mM) (h : u + 1 ≤ 3400) : ev prog (d + 1) 299 u 16 [vr 3, vr 5, vr 87, vr 96, vr 97, vi x5, vj, vj, vj, vj] [vi s5, vi s4, vi s3, vi s2, vi s1, vr 5] (shp, M) = callK (run prog d 50 [vr 5, vi s1, vi s2, vi s3, vi s4, vi s5, vr 96] (shp, M)) (fun v σ1 => ev prog (d + 1) 299 (u + 1) 17 [vr 3, vr 5, vr 87, vr 96, vr 97, vi x5, vj, vj, vj, vj] (psh v []) σ1) (fun e σ1 => hk [0, 0, 0, 0, 0] e σ1 (fun t => ev prog (d + 1) 299 (u + 1) t (msk (pMask prog 299 t) [vr 3, vr 5, vr 87, vr 96, vr 97, vi x5, vj, vj, vj, vj]) [vj] σ1)) := by
  rw [ev_eq]
  show (match ((true && decide (u + 1 ≤ 3400)) && true) with
    | true => _
    | false => none) = _
  rw [decide_eq_true h]
  rfl
set_option maxRecDepth 8000 in
theorem b299_36 (d u : Nat) (x5 : Int) (x6 : Int) (x7 : Int) (s0 : Int) (M : mM) : ev prog (d + 1) 299 u 36 [vr 3, vr 5, vr 87, vr 96, vr 97, vi x5, vi x6, vi x7, vj, vj] [vi s0] (shp, M) = if s0 = x6 then ev prog (d + 1) 299 u 38 [vr 3, vr 5, vr 87, vr 96, vr 97, vi x5, vi x6, vi x7, vj, vj] [] (shp, M) else ev prog (d + 1) 299 u 37 [vj, vj, vj, vj, vj, vj, vj, vj, vj, vj] [] (shp, M) := by rw [ev_eq]; rfl
set_option maxRecDepth 8000 in
theorem b299_48 (d u : Nat) (M : mM) : ev prog (d + 1) 299 u 48 [vj, vj, vj, vj, vj, vj, vj, vj, vj, vj] [] (shp, M) = some (.inl (some (vi 0)), (shp, M)) := by rw [ev_eq]; rfl
set_option maxRecDepth 8000 in
theorem b299_54 (d u : Nat) (x5 : Int) (x6 : Int) (s1 : Int) (s2 : Int) (M : mM) (h : u + 0 ≤ 3400) : ev prog (d + 1) 299 u 54 [vr 3, vr 5, vr 87, vr 96, vr 97, vi x5, vi x6, vj, vj, vj] [vi s2, vi s1, vr 87] (shp, M) = callK (run prog d 84 [vr 87, vi s1, vi s2] (shp, M)) (fun v σ1 => ev prog (d + 1) 299 (u + 0) 55 [vr 3, vr 5, vr 87, vr 96, vr 97, vi x5, vi x6, vj, vj, vj] (psh v []) σ1) (fun e σ1 => hk [0, 0, 0, 0, 0] e σ1 (fun t => ev prog (d + 1) 299 (u + 0) t (msk (pMask prog 299 t) [vr 3, vr 5, vr 87, vr 96, vr 97, vi x5, vi x6, vj, vj, vj]) [vj] σ1)) := by
  rw [ev_eq]
  show (match ((true && decide (u + 0 ≤ 3400)) && true) with
    | true => _
    | false => none) = _
  rw [decide_eq_true h]
  rfl
set_option maxRecDepth 8000 in
theorem b299_68 (d u : Nat) (x5 : Int) (x6 : Int) (x7 : Int) (s0 : Int) (M : mM) : ev prog (d + 1) 299 u 68 [vr 3, vr 5, vr 87, vr 96, vr 97, vi x5, vi x6, vi x7, vj, vj] [vi s0] (shp, M) = if s0 = x6 then ev prog (d + 1) 299 u 70 [vr 3, vr 5, vr 87, vr 96, vr 97, vi x5, vi x6, vi x7, vj, vj] [] (shp, M) else ev prog (d + 1) 299 u 69 [vj, vj, vj, vj, vj, vj, vj, vj, vj, vj] [] (shp, M) := by rw [ev_eq]; rfl
set_option maxRecDepth 8000 in
theorem b299_80 (d u : Nat) (x5 : Int) (x6 : Int) (x7 : Int) (s0 : Int) (M : mM) : ev prog (d + 1) 299 u 80 [vr 3, vr 5, vr 87, vr 96, vr 97, vi x5, vi x6, vi x7, vj, vj] [vi s0] (shp, M) = if s0 = x6 then ev prog (d + 1) 299 u 82 [vr 3, vr 5, vr 87, vr 96, vr 97, vi x5, vi x6, vi x7, vj, vj] [] (shp, M) else ev prog (d + 1) 299 u 81 [vj, vj, vj, vj, vj, vj, vj, vj, vj, vj] [] (shp, M) := by rw [ev_eq]; rfl
set_option maxRecDepth 8000 in
theorem b299_92 (d u : Nat) (x5 : Int) (x6 : Int) (s1 : Int) (M : mM) : ev prog (d + 1) 299 u 92 [vr 3, vr 5, vr 87, vr 96, vr 97, vi x5, vi x6, vj, vj, vj] [vi s1, vr 87] (shp, M) = if 0 ≤ (wr (x5 + 2)) ∧ (wr (x5 + 2)) < M 4 0 then ev prog (d + 1) 299 u 93 [vr 3, vr 5, vr 87, vr 96, vr 97, vi x5, vi x6, vj, vj, vj] [vi (M 3 (Int.toNat (wr (x5 + 2)))), vi s1, vr 87] (shp, M) else none := by rw [ev_eq]; rfl
set_option maxRecDepth 8000 in
theorem b299_108 (d u : Nat) (x5 : Int) (x6 : Int) (s1 : Int) (M : mM) : ev prog (d + 1) 299 u 108 [vr 3, vr 5, vr 87, vr 96, vr 97, vi x5, vi x6, vj, vj, vj] [vi s1, vr 87] (shp, M) = if 0 ≤ (wr (x5 + 2)) ∧ (wr (x5 + 2)) < M 4 0 then ev prog (d + 1) 299 u 109 [vr 3, vr 5, vr 87, vr 96, vr 97, vi x5, vi x6, vj, vj, vj] [vi (M 3 (Int.toNat (wr (x5 + 2)))), vi s1, vr 87] (shp, M) else none := by rw [ev_eq]; rfl
set_option maxRecDepth 8000 in
theorem b299_128 (d u : Nat) (x5 : Int) (M : mM) : ev prog (d + 1) 299 u 128 [vr 3, vr 5, vr 87, vr 96, vr 97, vi x5, vj, vj, vj, vj] [] (shp, M) = ev prog (d + 1) 299 u 503 [vr 3, vr 5, vr 87, vr 96, vr 97, vi x5, vj, vj, vj, vj] [] (shp, M) := by rw [ev_eq]; rfl
set_option maxRecDepth 8000 in
theorem b299_125 (d u : Nat) (x5 : Int) (x7 : Int) (M : mM) : ev prog (d + 1) 299 u 125 [vr 3, vr 5, vr 87, vr 96, vr 97, vi x5, vj, vi x7, vj, vj] [] (shp, M) = if 0 ≤ 0 ∧ 0 < 1 then ev prog (d + 1) 299 u 126 [vr 3, vr 5, vr 87, vr 96, vr 97, vi x5, vj, vi x7, vj, vj] [vl (M 96 (Int.toNat 0))] (shp, M) else none := by rw [ev_eq]; rfl
set_option maxRecDepth 8000 in
theorem b299_134 (d u : Nat) (x5 : Int) (x6 : Int) (s1 : Int) (s2 : Int) (M : mM) (h : u + 0 ≤ 3400) : ev prog (d + 1) 299 u 134 [vr 3, vr 5, vr 87, vr 96, vr 97, vi x5, vi x6, vj, vj, vj] [vi s2, vi s1, vr 87] (shp, M) = callK (run prog d 109 [vr 87, vi s1, vi s2] (shp, M)) (fun v σ1 => ev prog (d + 1) 299 (u + 0) 135 [vr 3, vr 5, vr 87, vr 96, vr 97, vi x5, vi x6, vj, vj, vj] (psh v []) σ1) (fun e σ1 => hk [0, 0, 0, 0, 0] e σ1 (fun t => ev prog (d + 1) 299 (u + 0) t (msk (pMask prog 299 t) [vr 3, vr 5, vr 87, vr 96, vr 97, vi x5, vi x6, vj, vj, vj]) [vj] σ1)) := by
  rw [ev_eq]
  show (match ((true && decide (u + 0 ≤ 3400)) && true) with
    | true => _
    | false => none) = _
  rw [decide_eq_true h]
  rfl
set_option maxRecDepth 8000 in
theorem b299_148 (d u : Nat) (x5 : Int) (x6 : Int) (x7 : Int) (s0 : Int) (M : mM) : ev prog (d + 1) 299 u 148 [vr 3, vr 5, vr 87, vr 96, vr 97, vi x5, vi x6, vi x7, vj, vj] [vi s0] (shp, M) = if s0 = x6 then ev prog (d + 1) 299 u 150 [vr 3, vr 5, vr 87, vr 96, vr 97, vi x5, vi x6, vi x7, vj, vj] [] (shp, M) else ev prog (d + 1) 299 u 149 [vj, vj, vj, vj, vj, vj, vj, vj, vj, vj] [] (shp, M) := by rw [ev_eq]; rfl
set_option maxRecDepth 8000 in
theorem b299_160 (d u : Nat) (x5 : Int) (x6 : Int) (x7 : Int) (s0 : Int) (M : mM) : ev prog (d + 1) 299 u 160 [vr 3, vr 5, vr 87, vr 96, vr 97, vi x5, vi x6, vi x7, vj, vj] [vi s0] (shp, M) = if s0 = x6 then ev prog (d + 1) 299 u 162 [vr 3, vr 5, vr 87, vr 96, vr 97, vi x5, vi x6, vi x7, vj, vj] [] (shp, M) else ev prog (d + 1) 299 u 161 [vj, vj, vj, vj, vj, vj, vj, vj, vj, vj] [] (shp, M) := by rw [ev_eq]; rfl
set_option maxRecDepth 8000 in
theorem b299_176 (d u : Nat) (x5 : Int) (x6 : Int) (s1 : Int) (s2 : Int) (M : mM) (h : u + 0 ≤ 3400) : ev prog (d + 1) 299 u 176 [vr 3, vr 5, vr 87, vr 96, vr 97, vi x5, vi x6, vj, vj, vj] [vi s2, vi s1, vr 87] (shp, M) = callK (run prog d 123 [vr 87, vi s1, vi s2] (shp, M)) (fun v σ1 => ev prog (d + 1) 299 (u + 0) 177 [vr 3, vr 5, vr 87, vr 96, vr 97, vi x5, vi x6, vj, vj, vj] (psh v []) σ1) (fun e σ1 => hk [0, 0, 0, 0, 0] e σ1 (fun t => ev prog (d + 1) 299 (u + 0) t (msk (pMask prog 299 t) [vr 3, vr 5, vr 87, vr 96, vr 97, vi x5, vi x6, vj, vj, vj]) [vj] σ1)) := by
  rw [ev_eq]
  show (match ((true && decide (u + 0 ≤ 3400)) && true) with
    | true => _
    | false => none) = _
  rw [decide_eq_true h]
  rfl
set_option maxRecDepth 8000 in
theorem b299_190 (d u : Nat) (x5 : Int) (x6 : Int) (x7 : Int) (s0 : Int) (M : mM) : ev prog (d + 1) 299 u 190 [vr 3, vr 5, vr 87, vr 96, vr 97, vi x5, vi x6, vi x7, vj, vj] [vi s0] (shp, M) = if s0 = x6 then ev prog (d + 1) 299 u 192 [vr 3, vr 5, vr 87, vr 96, vr 97, vi x5, vi x6, vi x7, vj, vj] [] (shp, M) else ev prog (d + 1) 299 u 191 [vj, vj, vj, vj, vj, vj, vj, vj, vj, vj] [] (shp, M) := by rw [ev_eq]; rfl
set_option maxRecDepth 8000 in
theorem b299_202 (d u : Nat) (x5 : Int) (x6 : Int) (s1 : Int) (M : mM) : ev prog (d + 1) 299 u 202 [vr 3, vr 5, vr 87, vr 96, vr 97, vi x5, vi x6, vj, vj, vj] [vi s1, vr 87] (shp, M) = if 0 ≤ (wr (x5 + 2)) ∧ (wr (x5 + 2)) < M 4 0 then ev prog (d + 1) 299 u 203 [vr 3, vr 5, vr 87, vr 96, vr 97, vi x5, vi x6, vj, vj, vj] [vi (M 3 (Int.toNat (wr (x5 + 2)))), vi s1, vr 87] (shp, M) else none := by rw [ev_eq]; rfl
set_option maxRecDepth 8000 in
theorem b299_218 (d u : Nat) (x5 : Int) (x6 : Int) (s1 : Int) (s2 : Int) (M : mM) (h : u + 0 ≤ 3400) : ev prog (d + 1) 299 u 218 [vr 3, vr 5, vr 87, vr 96, vr 97, vi x5, vi x6, vj, vj, vj] [vi s2, vi s1, vr 87] (shp, M) = callK (run prog d 143 [vr 87, vi s1, vi s2] (shp, M)) (fun v σ1 => ev prog (d + 1) 299 (u + 0) 219 [vr 3, vr 5, vr 87, vr 96, vr 97, vi x5, vi x6, vj, vj, vj] (psh v []) σ1) (fun e σ1 => hk [0, 0, 0, 0, 0] e σ1 (fun t => ev prog (d + 1) 299 (u + 0) t (msk (pMask prog 299 t) [vr 3, vr 5, vr 87, vr 96, vr 97, vi x5, vi x6, vj, vj, vj]) [vj] σ1)) := by
  rw [ev_eq]
  show (match ((true && decide (u + 0 ≤ 3400)) && true) with
    | true => _
    | false => none) = _
  rw [decide_eq_true h]
  rfl
set_option maxRecDepth 8000 in
theorem b299_236 (d u : Nat) (x5 : Int) (x6 : Int) (x7 : Int) (s0 : Int) (M : mM) : ev prog (d + 1) 299 u 236 [vr 3, vr 5, vr 87, vr 96, vr 97, vi x5, vi x6, vi x7, vj, vj] [vi s0] (shp, M) = if s0 = x6 then ev prog (d + 1) 299 u 238 [vr 3, vr 5, vr 87, vr 96, vr 97, vi x5, vi x6, vi x7, vj, vj] [] (shp, M) else ev prog (d + 1) 299 u 237 [vj, vj, vj, vj, vj, vj, vj, vj, vj, vj] [] (shp, M) := by rw [ev_eq]; rfl
set_option maxRecDepth 8000 in
theorem b299_248 (d u : Nat) (x5 : Int) (x6 : Int) (s1 : Int) (M : mM) : ev prog (d + 1) 299 u 248 [vr 3, vr 5, vr 87, vr 96, vr 97, vi x5, vi x6, vj, vj, vj] [vi s1, vr 87] (shp, M) = if 0 ≤ (wr (x5 + 2)) ∧ (wr (x5 + 2)) < M 4 0 then ev prog (d + 1) 299 u 249 [vr 3, vr 5, vr 87, vr 96, vr 97, vi x5, vi x6, vj, vj, vj] [vi (M 3 (Int.toNat (wr (x5 + 2)))), vi s1, vr 87] (shp, M) else none := by rw [ev_eq]; rfl
set_option maxRecDepth 8000 in
theorem b299_261 (d u : Nat) (x5 : Int) (s0 : Int) (M : mM) : ev prog (d + 1) 299 u 261 [vr 3, vr 5, vr 87, vr 96, vr 97, vi x5, vj, vj, vj, vj] [vi s0] (shp, M) = if 0 ≤ (wr (x5 + 1)) ∧ (wr (x5 + 1)) < M 4 0 then ev prog (d + 1) 299 u 262 [vr 3, vr 5, vr 87, vr 96, vr 97, vi x5, vi s0, vj, vj, vj] [vi (M 3 (Int.toNat (wr (x5 + 1)))), vr 87] (shp, M) else none := by rw [ev_eq]; rfl
set_option maxRecDepth 8000 in
theorem b299_283 (d u : Nat) (x5 : Int) (x6 : Int) (x7 : Int) (s0 : Int) (M : mM) : ev prog (d + 1) 299 u 283 [vr 3, vr 5, vr 87, vr 96, vr 97, vi x5, vi x6, vi x7, vj, vj] [vi s0] (shp, M) = if s0 = x6 then ev prog (d + 1) 299 u 285 [vr 3, vr 5, vr 87, vr 96, vr 97, vi x5, vi x6, vi x7, vj, vj] [] (shp, M) else ev prog (d + 1) 299 u 284 [vj, vj, vj, vj, vj, vj, vj, vj, vj, vj] [] (shp, M) := by rw [ev_eq]; rfl
set_option maxRecDepth 8000 in
theorem b299_295 (d u : Nat) (x5 : Int) (x6 : Int) (x7 : Int) (s0 : Int) (M : mM) : ev prog (d + 1) 299 u 295 [vr 3, vr 5, vr 87, vr 96, vr 97, vi x5, vi x6, vi x7, vj, vj] [vi s0] (shp, M) = if s0 = x6 then ev prog (d + 1) 299 u 297 [vr 3, vr 5, vr 87, vr 96, vr 97, vi x5, vi x6, vi x7, vj, vj] [] (shp, M) else ev prog (d + 1) 299 u 296 [vj, vj, vj, vj, vj, vj, vj, vj, vj, vj] [] (shp, M) := by rw [ev_eq]; rfl
set_option maxRecDepth 8000 in
theorem b299_307 (d u : Nat) (x5 : Int) (x6 : Int) (x7 : Int) (s0 : Int) (M : mM) : ev prog (d + 1) 299 u 307 [vr 3, vr 5, vr 87, vr 96, vr 97, vi x5, vi x6, vi x7, vj, vj] [vi s0] (shp, M) = if s0 = x6 then ev prog (d + 1) 299 u 309 [vr 3, vr 5, vr 87, vr 96, vr 97, vi x5, vi x6, vi x7, vj, vj] [] (shp, M) else ev prog (d + 1) 299 u 308 [vj, vj, vj, vj, vj, vj, vj, vj, vj, vj] [] (shp, M) := by rw [ev_eq]; rfl
set_option maxRecDepth 8000 in
theorem b299_323 (d u : Nat) (x5 : Int) (M : mM) : ev prog (d + 1) 299 u 323 [vr 3, vr 5, vr 87, vr 96, vr 97, vi x5, vj, vj, vj, vj] [] (shp, M) = ev prog (d + 1) 299 u 503 [vr 3, vr 5, vr 87, vr 96, vr 97, vi x5, vj, vj, vj, vj] [] (shp, M) := by rw [ev_eq]; rfl
set_option maxRecDepth 8000 in
theorem b299_320 (d u : Nat) (x5 : Int) (x7 : Int) (M : mM) : ev prog (d + 1) 299 u 320 [vr 3, vr 5, vr 87, vr 96, vr 97, vi x5, vj, vi x7, vj, vj] [] (shp, M) = if 0 ≤ 0 ∧ 0 < 1 then ev prog (d + 1) 299 u 321 [vr 3, vr 5, vr 87, vr 96, vr 97, vi x5, vj, vi x7, vj, vj] [vl (M 96 (Int.toNat 0))] (shp, M) else none := by rw [ev_eq]; rfl
set_option maxRecDepth 8000 in
theorem b299_329 (d u : Nat) (M : mM) : ev prog (d + 1) 299 u 329 [vj, vj, vj, vj, vj, vj, vj, vj, vj, vj] [] (shp, M) = some (.inl (some (vi 0)), (shp, M)) := by rw [ev_eq]; rfl
set_option maxRecDepth 8000 in
theorem b299_338 (d u : Nat) (x5 : Int) (M : mM) : ev prog (d + 1) 299 u 338 [vr 3, vr 5, vr 87, vr 96, vr 97, vi x5, vj, vj, vj, vj] [] (shp, M) = ev prog (d + 1) 299 u 503 [vr 3, vr 5, vr 87, vr 96, vr 97, vi x5, vj, vj, vj, vj] [] (shp, M) := by rw [ev_eq]; rfl
set_option maxRecDepth 8000 in
theorem b299_335 (d u : Nat) (x5 : Int) (x6 : UInt64) (x8 : UInt64) (M : mM) : ev prog (d + 1) 299 u 335 [vr 3, vr 5, vr 87, vr 96, vr 97, vi x5, vd x6, vj, vd x8, vj] [] (shp, M) = if ((Op.cmpValue (FP.dcmp x6 x6) .l).toInt) = 0 then ev prog (d + 1) 299 u 337 [vj, vj, vj, vj, vj, vj, vj, vj, vj, vj] [] (shp, M) else ev prog (d + 1) 299 u 336 [vr 3, vr 5, vr 87, vr 96, vr 97, vi x5, vj, vj, vd x8, vj] [] (shp, M) := by rw [ev_eq]; rfl
set_option maxRecDepth 8000 in
theorem b299_344 (d u : Nat) (x5 : Int) (x6 : Int) (x7 : Int) (s0 : Int) (M : mM) : ev prog (d + 1) 299 u 344 [vr 3, vr 5, vr 87, vr 96, vr 97, vi x5, vi x6, vi x7, vj, vj] [vi s0] (shp, M) = if s0 = x6 then ev prog (d + 1) 299 u 346 [vr 3, vr 5, vr 87, vr 96, vr 97, vi x5, vi x6, vi x7, vj, vj] [] (shp, M) else ev prog (d + 1) 299 u 345 [vj, vj, vj, vj, vj, vj, vj, vj, vj, vj] [] (shp, M) := by rw [ev_eq]; rfl
set_option maxRecDepth 8000 in
theorem b299_356 (d u : Nat) (x5 : Int) (x6 : Int) (x7 : Int) (s0 : Int) (M : mM) : ev prog (d + 1) 299 u 356 [vr 3, vr 5, vr 87, vr 96, vr 97, vi x5, vi x6, vi x7, vj, vj] [vi s0] (shp, M) = if s0 = x6 then ev prog (d + 1) 299 u 358 [vr 3, vr 5, vr 87, vr 96, vr 97, vi x5, vi x6, vi x7, vj, vj] [] (shp, M) else ev prog (d + 1) 299 u 357 [vj, vj, vj, vj, vj, vj, vj, vj, vj, vj] [] (shp, M) := by rw [ev_eq]; rfl
