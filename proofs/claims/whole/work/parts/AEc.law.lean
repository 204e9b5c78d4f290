/-! THE LAW, BLOCKS, 2 -/
set_option maxRecDepth 8000 in
theorem b299_368 (d u : Nat) (M : mM) : ev prog (d + 1) 299 u 368 [vj, vj, vj, vj, vj, vj, vj, vj, vj, vj] [] (shp, M) = some (.inl (some (vi 0)), (shp, M)) := by rw [ev_eq]; rfl
set_option maxRecDepth 8000 in
theorem b299_374 (d u : Nat) (x5 : Int) (x6 : Int) (s1 : Int) (s2 : Int) (M : mM) (h : u + 0 ≤ 3400) : ev prog (d + 1) 299 u 374 [vr 3, vr 5, vr 87, vr 96, vr 97, vi x5, vi x6, vj, vj, vj] [vi s2, vi s1, vr 87] (shp, M) = callK (run prog d 210 [vr 87, vi s1, vi s2] (shp, M)) (fun v σ1 => ev prog (d + 1) 299 (u + 0) 375 [vr 3, vr 5, vr 87, vr 96, vr 97, vi x5, vi x6, vj, vj, vj] (psh v []) σ1) (fun e σ1 => hk [0, 0, 0, 0, 0] e σ1 (fun t => ev prog (d + 1) 299 (u + 0) t (msk (pMask prog 299 t) [vr 3, vr 5, vr 87, vr 96, vr 97, vi x5, vi x6, vj, vj, vj]) [vj] σ1)) := by
  rw [ev_eq]
  show (match ((true && decide (u + 0 ≤ 3400)) && true) with
    | true => _
    | false => none) = _
  rw [decide_eq_true h]
  rfl
set_option maxRecDepth 8000 in
theorem b299_388 (d u : Nat) (x5 : Int) (s0 : Int) (M : mM) : ev prog (d + 1) 299 u 388 [vr 3, vr 5, vr 87, vr 96, vr 97, vi x5, vj, vj, vj, vj] [vi s0] (shp, M) = if 0 ≤ (wr (x5 + 1)) ∧ (wr (x5 + 1)) < M 4 0 then ev prog (d + 1) 299 u 389 [vr 3, vr 5, vr 87, vr 96, vr 97, vi x5, vi s0, vj, vj, vj] [vi (M 3 (Int.toNat (wr (x5 + 1)))), vr 87] (shp, M) else none := by rw [ev_eq]; rfl
set_option maxRecDepth 8000 in
theorem b299_406 (d u : Nat) (x5 : Int) (x6 : Int) (x7 : Int) (s0 : Int) (M : mM) : ev prog (d + 1) 299 u 406 [vr 3, vr 5, vr 87, vr 96, vr 97, vi x5, vi x6, vi x7, vj, vj] [vi s0] (shp, M) = if s0 = x6 then ev prog (d + 1) 299 u 408 [vr 3, vr 5, vr 87, vr 96, vr 97, vi x5, vi x6, vi x7, vj, vj] [] (shp, M) else ev prog (d + 1) 299 u 407 [vj, vj, vj, vj, vj, vj, vj, vj, vj, vj] [] (shp, M) := by rw [ev_eq]; rfl
set_option maxRecDepth 8000 in
theorem b299_422 (d u : Nat) (x5 : Int) (x6 : Int) (x7 : UInt64) (s0 : Int) (M : mM) : ev prog (d + 1) 299 u 422 [vr 3, vr 5, vr 87, vr 96, vr 97, vi x5, vi x6, vd x7, vj, vj] [vi s0] (shp, M) = if s0 = x6 then ev prog (d + 1) 299 u 424 [vr 3, vr 5, vr 87, vr 96, vr 97, vi x5, vi x6, vd x7, vj, vj] [] (shp, M) else ev prog (d + 1) 299 u 423 [vj, vj, vj, vj, vj, vj, vj, vj, vj, vj] [] (shp, M) := by rw [ev_eq]; rfl
set_option maxRecDepth 8000 in
theorem b299_442 (d u : Nat) (x5 : Int) (x6 : Int) (x7 : Int) (s0 : Int) (M : mM) : ev prog (d + 1) 299 u 442 [vr 3, vr 5, vr 87, vr 96, vr 97, vi x5, vi x6, vi x7, vj, vj] [vi s0] (shp, M) = if s0 = x6 then ev prog (d + 1) 299 u 444 [vr 3, vr 5, vr 87, vr 96, vr 97, vi x5, vi x6, vi x7, vj, vj] [] (shp, M) else ev prog (d + 1) 299 u 443 [vj, vj, vj, vj, vj, vj, vj, vj, vj, vj] [] (shp, M) := by rw [ev_eq]; rfl
set_option maxRecDepth 8000 in
theorem b299_461 (d u : Nat) (x5 : Int) (M : mM) : ev prog (d + 1) 299 u 461 [vr 3, vr 5, vr 87, vr 96, vr 97, vi x5, vj, vj, vj, vj] [] (shp, M) = ev prog (d + 1) 299 u 503 [vr 3, vr 5, vr 87, vr 96, vr 97, vi x5, vj, vj, vj, vj] [] (shp, M) := by rw [ev_eq]; rfl
set_option maxRecDepth 8000 in
theorem b299_455 (d u : Nat) (x5 : Int) (x7 : Int) (M : mM) : ev prog (d + 1) 299 u 455 [vr 3, vr 5, vr 87, vr 96, vr 97, vi x5, vj, vi x7, vj, vj] [] (shp, M) = if 0 ≤ 0 ∧ 0 < 1 then ev prog (d + 1) 299 u 456 [vr 3, vr 5, vr 87, vr 96, vr 97, vi x5, vj, vi x7, vj, vj] [vl (M 96 (Int.toNat 0))] (shp, M) else none := by rw [ev_eq]; rfl
set_option maxRecDepth 8000 in
theorem b299_471 (d u : Nat) (x5 : Int) (M : mM) : ev prog (d + 1) 299 u 471 [vr 3, vr 5, vr 87, vr 96, vr 97, vi x5, vj, vj, vj, vj] [] (shp, M) = ev prog (d + 1) 299 u 503 [vr 3, vr 5, vr 87, vr 96, vr 97, vi x5, vj, vj, vj, vj] [] (shp, M) := by rw [ev_eq]; rfl
set_option maxRecDepth 8000 in
theorem b299_468 (d u : Nat) (x5 : Int) (x7 : Int) (M : mM) : ev prog (d + 1) 299 u 468 [vr 3, vr 5, vr 87, vr 96, vr 97, vi x5, vj, vi x7, vj, vj] [] (shp, M) = if 0 ≤ 0 ∧ 0 < 1 then ev prog (d + 1) 299 u 469 [vr 3, vr 5, vr 87, vr 96, vr 97, vi x5, vj, vi x7, vj, vj] [vl (M 96 (Int.toNat 0))] (shp, M) else none := by rw [ev_eq]; rfl
set_option maxRecDepth 8000 in
theorem b299_477 (d u : Nat) (x5 : Int) (x6 : Int) (s0 : Int) (M : mM) : ev prog (d + 1) 299 u 477 [vr 3, vr 5, vr 87, vr 96, vr 97, vi x5, vi x6, vj, vj, vj] [vi s0] (shp, M) = if s0 = x6 then ev prog (d + 1) 299 u 479 [vr 3, vr 5, vr 87, vr 96, vr 97, vi x5, vj, vj, vj, vj] [] (shp, M) else ev prog (d + 1) 299 u 478 [vj, vj, vj, vj, vj, vj, vj, vj, vj, vj] [] (shp, M) := by rw [ev_eq]; rfl
set_option maxRecDepth 8000 in
theorem b299_489 (d u : Nat) (x5 : Int) (M : mM) : ev prog (d + 1) 299 u 489 [vr 3, vr 5, vr 87, vr 96, vr 97, vi x5, vj, vj, vj, vj] [] (shp, M) = ev prog (d + 1) 299 u 503 [vr 3, vr 5, vr 87, vr 96, vr 97, vi x5, vj, vj, vj, vj] [] (shp, M) := by rw [ev_eq]; rfl
set_option maxRecDepth 8000 in
theorem b299_486 (d u : Nat) (x5 : Int) (x7 : Int) (M : mM) : ev prog (d + 1) 299 u 486 [vr 3, vr 5, vr 87, vr 96, vr 97, vi x5, vj, vi x7, vj, vj] [] (shp, M) = if 0 ≤ 0 ∧ 0 < 1 then ev prog (d + 1) 299 u 487 [vr 3, vr 5, vr 87, vr 96, vr 97, vi x5, vj, vi x7, vj, vj] [vl (M 96 (Int.toNat 0))] (shp, M) else none := by rw [ev_eq]; rfl
set_option maxRecDepth 8000 in
theorem b299_17 (d u : Nat) (x5 : Int) (s0 : Int) (M : mM) : ev prog (d + 1) 299 u 17 [vr 3, vr 5, vr 87, vr 96, vr 97, vi x5, vj, vj, vj, vj] [vi s0] (shp, M) = if 0 ≤ (wr (x5 + 1)) ∧ (wr (x5 + 1)) < M 4 0 then ev prog (d + 1) 299 u 18 [vr 3, vr 5, vr 87, vr 96, vr 97, vi x5, vi s0, vj, vj, vj] [vi (M 3 (Int.toNat (wr (x5 + 1)))), vr 87] (shp, M) else none := by rw [ev_eq]; rfl
set_option maxRecDepth 8000 in
theorem b299_38 (d u : Nat) (x5 : Int) (x6 : Int) (x7 : Int) (M : mM) : ev prog (d + 1) 299 u 38 [vr 3, vr 5, vr 87, vr 96, vr 97, vi x5, vi x6, vi x7, vj, vj] [] (shp, M) = if x6 = 0 then ev prog (d + 1) 299 u 39 [vr 3, vr 5, vr 87, vr 96, vr 97, vi x5, vj, vi x7, vj, vj] [] (shp, M) else ev prog (d + 1) 299 u 42 [vr 3, vr 5, vr 87, vr 96, vr 97, vi x5, vj, vj, vj, vj] [] (shp, M) := by rw [ev_eq]; rfl
set_option maxRecDepth 8000 in
theorem b299_37 (d u : Nat) (M : mM) : ev prog (d + 1) 299 u 37 [vj, vj, vj, vj, vj, vj, vj, vj, vj, vj] [] (shp, M) = some (.inl (some (vi 0)), (shp, M)) := by rw [ev_eq]; rfl
set_option maxRecDepth 8000 in
theorem b299_55 (d u : Nat) (x5 : Int) (x6 : Int) (s0 : Int) (M : mM) (h : u + 0 ≤ 3400) : ev prog (d + 1) 299 u 55 [vr 3, vr 5, vr 87, vr 96, vr 97, vi x5, vi x6, vj, vj, vj] [vi s0] (shp, M) = callK (run prog d 67 [vr 87] (shp, M)) (fun v σ1 => ev prog (d + 1) 299 (u + 0) 56 [vr 3, vr 5, vr 87, vr 96, vr 97, vi x5, vi x6, vi s0, vj, vj] (psh v []) σ1) (fun e σ1 => hk [0, 0, 0, 0, 0] e σ1 (fun t => ev prog (d + 1) 299 (u + 0) t (msk (pMask prog 299 t) [vr 3, vr 5, vr 87, vr 96, vr 97, vi x5, vi x6, vi s0, vj, vj]) [vj] σ1)) := by
  rw [ev_eq]
  show (match ((true && decide (u + 0 ≤ 3400)) && true) with
    | true => _
    | false => none) = _
  rw [decide_eq_true h]
  rfl
set_option maxRecDepth 8000 in
theorem b299_70 (d u : Nat) (x5 : Int) (x6 : Int) (x7 : Int) (M : mM) : ev prog (d + 1) 299 u 70 [vr 3, vr 5, vr 87, vr 96, vr 97, vi x5, vi x6, vi x7, vj, vj] [] (shp, M) = if x6 = 0 then ev prog (d + 1) 299 u 71 [vr 3, vr 5, vr 87, vr 96, vr 97, vi x5, vj, vi x7, vj, vj] [] (shp, M) else ev prog (d + 1) 299 u 74 [vr 3, vr 5, vr 87, vr 96, vr 97, vi x5, vj, vj, vj, vj] [] (shp, M) := by rw [ev_eq]; rfl
set_option maxRecDepth 8000 in
theorem b299_69 (d u : Nat) (M : mM) : ev prog (d + 1) 299 u 69 [vj, vj, vj, vj, vj, vj, vj, vj, vj, vj] [] (shp, M) = some (.inl (some (vi 0)), (shp, M)) := by rw [ev_eq]; rfl
set_option maxRecDepth 8000 in
theorem b299_82 (d u : Nat) (x5 : Int) (x6 : Int) (x7 : Int) (M : mM) : ev prog (d + 1) 299 u 82 [vr 3, vr 5, vr 87, vr 96, vr 97, vi x5, vi x6, vi x7, vj, vj] [] (shp, M) = if x6 = 0 then ev prog (d + 1) 299 u 83 [vr 3, vr 5, vr 87, vr 96, vr 97, vi x5, vj, vi x7, vj, vj] [] (shp, M) else ev prog (d + 1) 299 u 86 [vr 3, vr 5, vr 87, vr 96, vr 97, vi x5, vj, vj, vj, vj] [] (shp, M) := by rw [ev_eq]; rfl
set_option maxRecDepth 8000 in
theorem b299_81 (d u : Nat) (M : mM) : ev prog (d + 1) 299 u 81 [vj, vj, vj, vj, vj, vj, vj, vj, vj, vj] [] (shp, M) = some (.inl (some (vi 0)), (shp, M)) := by rw [ev_eq]; rfl
set_option maxRecDepth 8000 in
theorem b299_93 (d u : Nat) (x5 : Int) (x6 : Int) (s1 : Int) (s2 : Int) (M : mM) : ev prog (d + 1) 299 u 93 [vr 3, vr 5, vr 87, vr 96, vr 97, vi x5, vi x6, vj, vj, vj] [vi s2, vi s1, vr 87] (shp, M) = if 0 ≤ (wr (x5 + 3)) ∧ (wr (x5 + 3)) < M 4 0 then ev prog (d + 1) 299 u 94 [vr 3, vr 5, vr 87, vr 96, vr 97, vi x5, vi x6, vj, vj, vj] [vi (M 3 (Int.toNat (wr (x5 + 3)))), vi s2, vi s1, vr 87] (shp, M) else none := by rw [ev_eq]; rfl
set_option maxRecDepth 8000 in
theorem b299_109 (d u : Nat) (x5 : Int) (x6 : Int) (s1 : Int) (s2 : Int) (M : mM) : ev prog (d + 1) 299 u 109 [vr 3, vr 5, vr 87, vr 96, vr 97, vi x5, vi x6, vj, vj, vj] [vi s2, vi s1, vr 87] (shp, M) = if 0 ≤ (wr (x5 + 3)) ∧ (wr (x5 + 3)) < M 4 0 then ev prog (d + 1) 299 u 110 [vr 3, vr 5, vr 87, vr 96, vr 97, vi x5, vi x6, vj, vj, vj] [vi (M 3 (Int.toNat (wr (x5 + 3)))), vi s2, vi s1, vr 87] (shp, M) else none := by rw [ev_eq]; rfl
set_option maxRecDepth 8000 in
theorem b299_126 (d u : Nat) (x5 : Int) (x7 : Int) (s0 : Int) (M : mM) : ev prog (d + 1) 299 u 126 [vr 3, vr 5, vr 87, vr 96, vr 97, vi x5, vj, vi x7, vj, vj] [vl s0] (shp, M) = if (cmpL s0 x7) = 0 then ev prog (d + 1) 299 u 128 [vr 3, vr 5, vr 87, vr 96, vr 97, vi x5, vj, vj, vj, vj] [] (shp, M) else ev prog (d + 1) 299 u 127 [vj, vj, vj, vj, vj, vj, vj, vj, vj, vj] [] (shp, M) := by rw [ev_eq]; rfl
set_option maxRecDepth 8000 in
theorem b299_135 (d u : Nat) (x5 : Int) (x6 : Int) (s0 : Int) (M : mM) (h : u + 0 ≤ 3400) : ev prog (d + 1) 299 u 135 [vr 3, vr 5, vr 87, vr 96, vr 97, vi x5, vi x6, vj, vj, vj] [vi s0] (shp, M) = callK (run prog d 67 [vr 87] (shp, M)) (fun v σ1 => ev prog (d + 1) 299 (u + 0) 136 [vr 3, vr 5, vr 87, vr 96, vr 97, vi x5, vi x6, vi s0, vj, vj] (psh v []) σ1) (fun e σ1 => hk [0, 0, 0, 0, 0] e σ1 (fun t => ev prog (d + 1) 299 (u + 0) t (msk (pMask prog 299 t) [vr 3, vr 5, vr 87, vr 96, vr 97, vi x5, vi x6, vi s0, vj, vj]) [vj] σ1)) := by
  rw [ev_eq]
  show (match ((true && decide (u + 0 ≤ 3400)) && true) with
    | true => _
    | false => none) = _
  rw [decide_eq_true h]
  rfl
set_option maxRecDepth 8000 in
theorem b299_150 (d u : Nat) (x5 : Int) (x6 : Int) (x7 : Int) (M : mM) : ev prog (d + 1) 299 u 150 [vr 3, vr 5, vr 87, vr 96, vr 97, vi x5, vi x6, vi x7, vj, vj] [] (shp, M) = if x6 = 0 then ev prog (d + 1) 299 u 151 [vr 3, vr 5, vr 87, vr 96, vr 97, vi x5, vj, vi x7, vj, vj] [] (shp, M) else ev prog (d + 1) 299 u 154 [vr 3, vr 5, vr 87, vr 96, vr 97, vi x5, vj, vj, vj, vj] [] (shp, M) := by rw [ev_eq]; rfl
set_option maxRecDepth 8000 in
theorem b299_149 (d u : Nat) (M : mM) : ev prog (d + 1) 299 u 149 [vj, vj, vj, vj, vj, vj, vj, vj, vj, vj] [] (shp, M) = some (.inl (some (vi 0)), (shp, M)) := by rw [ev_eq]; rfl
set_option maxRecDepth 8000 in
theorem b299_162 (d u : Nat) (x5 : Int) (x6 : Int) (x7 : Int) (M : mM) : ev prog (d + 1) 299 u 162 [vr 3, vr 5, vr 87, vr 96, vr 97, vi x5, vi x6, vi x7, vj, vj] [] (shp, M) = if x6 = 0 then ev prog (d + 1) 299 u 163 [vr 3, vr 5, vr 87, vr 96, vr 97, vi x5, vj, vi x7, vj, vj] [] (shp, M) else ev prog (d + 1) 299 u 166 [vr 3, vr 5, vr 87, vr 96, vr 97, vi x5, vj, vj, vj, vj] [] (shp, M) := by rw [ev_eq]; rfl
set_option maxRecDepth 8000 in
theorem b299_161 (d u : Nat) (M : mM) : ev prog (d + 1) 299 u 161 [vj, vj, vj, vj, vj, vj, vj, vj, vj, vj] [] (shp, M) = some (.inl (some (vi 0)), (shp, M)) := by rw [ev_eq]; rfl
set_option maxRecDepth 8000 in
theorem b299_177 (d u : Nat) (x5 : Int) (x6 : Int) (s0 : Int) (M : mM) (h : u + 0 ≤ 3400) : ev prog (d + 1) 299 u 177 [vr 3, vr 5, vr 87, vr 96, vr 97, vi x5, vi x6, vj, vj, vj] [vi s0] (shp, M) = callK (run prog d 67 [vr 87] (shp, M)) (fun v σ1 => ev prog (d + 1) 299 (u + 0) 178 [vr 3, vr 5, vr 87, vr 96, vr 97, vi x5, vi x6, vi s0, vj, vj] (psh v []) σ1) (fun e σ1 => hk [0, 0, 0, 0, 0] e σ1 (fun t => ev prog (d + 1) 299 (u + 0) t (msk (pMask prog 299 t) [vr 3, vr 5, vr 87, vr 96, vr 97, vi x5, vi x6, vi s0, vj, vj]) [vj] σ1)) := by
  rw [ev_eq]
  show (match ((true && decide (u + 0 ≤ 3400)) && true) with
    | true => _
    | false => none) = _
  rw [decide_eq_true h]
  rfl
set_option maxRecDepth 8000 in
theorem b299_192 (d u : Nat) (x5 : Int) (x6 : Int) (x7 : Int) (M : mM) : ev prog (d + 1) 299 u 192 [vr 3, vr 5, vr 87, vr 96, vr 97, vi x5, vi x6, vi x7, vj, vj] [] (shp, M) = if x6 = 0 then ev prog (d + 1) 299 u 193 [vr 3, vr 5, vr 87, vr 96, vr 97, vi x5, vj, vi x7, vj, vj] [] (shp, M) else ev prog (d + 1) 299 u 196 [vr 3, vr 5, vr 87, vr 96, vr 97, vi x5, vj, vj, vj, vj] [] (shp, M) := by rw [ev_eq]; rfl
set_option maxRecDepth 8000 in
theorem b299_191 (d u : Nat) (M : mM) : ev prog (d + 1) 299 u 191 [vj, vj, vj, vj, vj, vj, vj, vj, vj, vj] [] (shp, M) = some (.inl (some (vi 0)), (shp, M)) := by rw [ev_eq]; rfl
set_option maxRecDepth 8000 in
theorem b299_203 (d u : Nat) (x5 : Int) (x6 : Int) (s1 : Int) (s2 : Int) (M : mM) : ev prog (d + 1) 299 u 203 [vr 3, vr 5, vr 87, vr 96, vr 97, vi x5, vi x6, vj, vj, vj] [vi s2, vi s1, vr 87] (shp, M) = if 0 ≤ (wr (x5 + 3)) ∧ (wr (x5 + 3)) < M 4 0 then ev prog (d + 1) 299 u 204 [vr 3, vr 5, vr 87, vr 96, vr 97, vi x5, vi x6, vj, vj, vj] [vi (M 3 (Int.toNat (wr (x5 + 3)))), vi s2, vi s1, vr 87] (shp, M) else none := by rw [ev_eq]; rfl
set_option maxRecDepth 8000 in
theorem b299_219 (d u : Nat) (x5 : Int) (x6 : Int) (s0 : Int) (M : mM) (h : u + 0 ≤ 3400) : ev prog (d + 1) 299 u 219 [vr 3, vr 5, vr 87, vr 96, vr 97, vi x5, vi x6, vj, vj, vj] [vi s0] (shp, M) = callK (run prog d 67 [vr 87] (shp, M)) (fun v σ1 => ev prog (d + 1) 299 (u + 0) 220 [vr 3, vr 5, vr 87, vr 96, vr 97, vi x5, vi x6, vi s0, vj, vj] (psh v []) σ1) (fun e σ1 => hk [0, 0, 0, 0, 0] e σ1 (fun t => ev prog (d + 1) 299 (u + 0) t (msk (pMask prog 299 t) [vr 3, vr 5, vr 87, vr 96, vr 97, vi x5, vi x6, vi s0, vj, vj]) [vj] σ1)) := by
  rw [ev_eq]
  show (match ((true && decide (u + 0 ≤ 3400)) && true) with
    | true => _
    | false => none) = _
  rw [decide_eq_true h]
  rfl
set_option maxRecDepth 8000 in
theorem b299_238 (d u : Nat) (x5 : Int) (x6 : Int) (x7 : Int) (M : mM) : ev prog (d + 1) 299 u 238 [vr 3, vr 5, vr 87, vr 96, vr 97, vi x5, vi x6, vi x7, vj, vj] [] (shp, M) = if x6 = 0 then ev prog (d + 1) 299 u 239 [vr 3, vr 5, vr 87, vr 96, vr 97, vi x5, vj, vi x7, vj, vj] [] (shp, M) else ev prog (d + 1) 299 u 242 [vr 3, vr 5, vr 87, vr 96, vr 97, vi x5, vj, vj, vj, vj] [] (shp, M) := by rw [ev_eq]; rfl
set_option maxRecDepth 8000 in
theorem b299_237 (d u : Nat) (M : mM) : ev prog (d + 1) 299 u 237 [vj, vj, vj, vj, vj, vj, vj, vj, vj, vj] [] (shp, M) = some (.inl (some (vi 0)), (shp, M)) := by rw [ev_eq]; rfl
set_option maxRecDepth 8000 in
theorem b299_249 (d u : Nat) (x5 : Int) (x6 : Int) (s1 : Int) (s2 : Int) (M : mM) : ev prog (d + 1) 299 u 249 [vr 3, vr 5, vr 87, vr 96, vr 97, vi x5, vi x6, vj, vj, vj] [vi s2, vi s1, vr 87] (shp, M) = if 0 ≤ (wr (x5 + 3)) ∧ (wr (x5 + 3)) < M 4 0 then ev prog (d + 1) 299 u 250 [vr 3, vr 5, vr 87, vr 96, vr 97, vi x5, vi x6, vj, vj, vj] [vi (M 3 (Int.toNat (wr (x5 + 3)))), vi s2, vi s1, vr 87] (shp, M) else none := by rw [ev_eq]; rfl
set_option maxRecDepth 8000 in
theorem b299_262 (d u : Nat) (x5 : Int) (x6 : Int) (s1 : Int) (M : mM) : ev prog (d + 1) 299 u 262 [vr 3, vr 5, vr 87, vr 96, vr 97, vi x5, vi x6, vj, vj, vj] [vi s1, vr 87] (shp, M) = if 0 ≤ (wr (x5 + 2)) ∧ (wr (x5 + 2)) < M 4 0 then ev prog (d + 1) 299 u 263 [vr 3, vr 5, vr 87, vr 96, vr 97, vi x5, vi x6, vj, vj, vj] [vi (M 3 (Int.toNat (wr (x5 + 2)))), vi s1, vr 87] (shp, M) else none := by rw [ev_eq]; rfl
set_option maxRecDepth 8000 in
theorem b299_285 (d u : Nat) (x5 : Int) (x6 : Int) (x7 : Int) (M : mM) : ev prog (d + 1) 299 u 285 [vr 3, vr 5, vr 87, vr 96, vr 97, vi x5, vi x6, vi x7, vj, vj] [] (shp, M) = if x6 = 0 then ev prog (d + 1) 299 u 286 [vr 3, vr 5, vr 87, vr 96, vr 97, vi x5, vj, vi x7, vj, vj] [] (shp, M) else ev prog (d + 1) 299 u 289 [vr 3, vr 5, vr 87, vr 96, vr 97, vi x5, vj, vj, vj, vj] [] (shp, M) := by rw [ev_eq]; rfl
set_option maxRecDepth 8000 in
theorem b299_284 (d u : Nat) (M : mM) : ev prog (d + 1) 299 u 284 [vj, vj, vj, vj, vj, vj, vj, vj, vj, vj] [] (shp, M) = some (.inl (some (vi 0)), (shp, M)) := by rw [ev_eq]; rfl
set_option maxRecDepth 8000 in
theorem b299_297 (d u : Nat) (x5 : Int) (x6 : Int) (x7 : Int) (M : mM) : ev prog (d + 1) 299 u 297 [vr 3, vr 5, vr 87, vr 96, vr 97, vi x5, vi x6, vi x7, vj, vj] [] (shp, M) = if x6 = 0 then ev prog (d + 1) 299 u 298 [vr 3, vr 5, vr 87, vr 96, vr 97, vi x5, vj, vi x7, vj, vj] [] (shp, M) else ev prog (d + 1) 299 u 301 [vr 3, vr 5, vr 87, vr 96, vr 97, vi x5, vj, vj, vj, vj] [] (shp, M) := by rw [ev_eq]; rfl
set_option maxRecDepth 8000 in
theorem b299_296 (d u : Nat) (M : mM) : ev prog (d + 1) 299 u 296 [vj, vj, vj, vj, vj, vj, vj, vj, vj, vj] [] (shp, M) = some (.inl (some (vi 0)), (shp, M)) := by rw [ev_eq]; rfl
set_option maxRecDepth 8000 in
theorem b299_309 (d u : Nat) (x5 : Int) (x6 : Int) (x7 : Int) (M : mM) : ev prog (d + 1) 299 u 309 [vr 3, vr 5, vr 87, vr 96, vr 97, vi x5, vi x6, vi x7, vj, vj] [] (shp, M) = if x6 = 0 then ev prog (d + 1) 299 u 310 [vr 3, vr 5, vr 87, vr 96, vr 97, vi x5, vj, vi x7, vj, vj] [] (shp, M) else ev prog (d + 1) 299 u 313 [vr 3, vr 5, vr 87, vr 96, vr 97, vi x5, vj, vj, vj, vj] [] (shp, M) := by rw [ev_eq]; rfl
set_option maxRecDepth 8000 in
theorem b299_308 (d u : Nat) (M : mM) : ev prog (d + 1) 299 u 308 [vj, vj, vj, vj, vj, vj, vj, vj, vj, vj] [] (shp, M) = some (.inl (some (vi 0)), (shp, M)) := by rw [ev_eq]; rfl
set_option maxRecDepth 8000 in
theorem b299_321 (d u : Nat) (x5 : Int) (x7 : Int) (s0 : Int) (M : mM) : ev prog (d + 1) 299 u 321 [vr 3, vr 5, vr 87, vr 96, vr 97, vi x5, vj, vi x7, vj, vj] [vl s0] (shp, M) = if (cmpL s0 x7) = 0 then ev prog (d + 1) 299 u 323 [vr 3, vr 5, vr 87, vr 96, vr 97, vi x5, vj, vj, vj, vj] [] (shp, M) else ev prog (d + 1) 299 u 322 [vj, vj, vj, vj, vj, vj, vj, vj, vj, vj] [] (shp, M) := by rw [ev_eq]; rfl
set_option maxRecDepth 8000 in
theorem b299_337 (d u : Nat) (M : mM) : ev prog (d + 1) 299 u 337 [vj, vj, vj, vj, vj, vj, vj, vj, vj, vj] [] (shp, M) = some (.inl (some (vi 0)), (shp, M)) := by rw [ev_eq]; rfl
set_option maxRecDepth 8000 in
theorem b299_336 (d u : Nat) (x5 : Int) (x8 : UInt64) (M : mM) : ev prog (d + 1) 299 u 336 [vr 3, vr 5, vr 87, vr 96, vr 97, vi x5, vj, vj, vd x8, vj] [] (shp, M) = if ((Op.cmpValue (FP.dcmp x8 x8) .l).toInt) = 0 then ev prog (d + 1) 299 u 337 [vj, vj, vj, vj, vj, vj, vj, vj, vj, vj] [] (shp, M) else ev prog (d + 1) 299 u 338 [vr 3, vr 5, vr 87, vr 96, vr 97, vi x5, vj, vj, vj, vj] [] (shp, M) := by rw [ev_eq]; rfl
set_option maxRecDepth 8000 in
theorem b299_346 (d u : Nat) (x5 : Int) (x6 : Int) (x7 : Int) (M : mM) : ev prog (d + 1) 299 u 346 [vr 3, vr 5, vr 87, vr 96, vr 97, vi x5, vi x6, vi x7, vj, vj] [] (shp, M) = if x6 = 0 then ev prog (d + 1) 299 u 347 [vr 3, vr 5, vr 87, vr 96, vr 97, vi x5, vj, vi x7, vj, vj] [] (shp, M) else ev prog (d + 1) 299 u 350 [vr 3, vr 5, vr 87, vr 96, vr 97, vi x5, vj, vj, vj, vj] [] (shp, M) := by rw [ev_eq]; rfl
set_option maxRecDepth 8000 in
theorem b299_345 (d u : Nat) (M : mM) : ev prog (d + 1) 299 u 345 [vj, vj, vj, vj, vj, vj, vj, vj, vj, vj] [] (shp, M) = some (.inl (some (vi 0)), (shp, M)) := by rw [ev_eq]; rfl
set_option maxRecDepth 8000 in
theorem b299_358 (d u : Nat) (x5 : Int) (x6 : Int) (x7 : Int) (M : mM) : ev prog (d + 1) 299 u 358 [vr 3, vr 5, vr 87, vr 96, vr 97, vi x5, vi x6, vi x7, vj, vj] [] (shp, M) = if x6 = 0 then ev prog (d + 1) 299 u 359 [vr 3, vr 5, vr 87, vr 96, vr 97, vi x5, vj, vi x7, vj, vj] [] (shp, M) else ev prog (d + 1) 299 u 362 [vr 3, vr 5, vr 87, vr 96, vr 97, vi x5, vj, vj, vj, vj] [] (shp, M) := by rw [ev_eq]; rfl
set_option maxRecDepth 8000 in
theorem b299_357 (d u : Nat) (M : mM) : ev prog (d + 1) 299 u 357 [vj, vj, vj, vj, vj, vj, vj, vj, vj, vj] [] (shp, M) = some (.inl (some (vi 0)), (shp, M)) := by rw [ev_eq]; rfl
set_option maxRecDepth 8000 in
theorem b299_375 (d u : Nat) (x5 : Int) (x6 : Int) (s0 : Int) (M : mM) (h : u + 0 ≤ 3400) : ev prog (d + 1) 299 u 375 [vr 3, vr 5, vr 87, vr 96, vr 97, vi x5, vi x6, vj, vj, vj] [vi s0] (shp, M) = callK (run prog d 67 [vr 87] (shp, M)) (fun v σ1 => ev prog (d + 1) 299 (u + 0) 376 [vr 3, vr 5, vr 87, vr 96, vr 97, vi x5, vi x6, vi s0, vj, vj] (psh v []) σ1) (fun e σ1 => hk [0, 0, 0, 0, 0] e σ1 (fun t => ev prog (d + 1) 299 (u + 0) t (msk (pMask prog 299 t) [vr 3, vr 5, vr 87, vr 96, vr 97, vi x5, vi x6, vi s0, vj, vj]) [vj] σ1)) := by
  rw [ev_eq]
  show (match ((true && decide (u + 0 ≤ 3400)) && true) with
    | true => _
    | false => none) = _
  rw [decide_eq_true h]
  rfl
set_option maxRecDepth 8000 in
theorem b299_389 (d u : Nat) (x5 : Int) (x6 : Int) (s1 : Int) (M : mM) : ev prog (d + 1) 299 u 389 [vr 3, vr 5, vr 87, vr 96, vr 97, vi x5, vi x6, vj, vj, vj] [vi s1, vr 87] (shp, M) = if 0 ≤ (wr (x5 + 2)) ∧ (wr (x5 + 2)) < M 4 0 then ev prog (d + 1) 299 u 390 [vr 3, vr 5, vr 87, vr 96, vr 97, vi x5, vi x6, vj, vj, vj] [vi (M 3 (Int.toNat (wr (x5 + 2)))), vi s1, vr 87] (shp, M) else none := by rw [ev_eq]; rfl
set_option maxRecDepth 8000 in
theorem b299_408 (d u : Nat) (x5 : Int) (x6 : Int) (x7 : Int) (M : mM) : ev prog (d + 1) 299 u 408 [vr 3, vr 5, vr 87, vr 96, vr 97, vi x5, vi x6, vi x7, vj, vj] [] (shp, M) = if x6 = 0 then ev prog (d + 1) 299 u 409 [vr 3, vr 5, vr 87, vr 96, vr 97, vi x5, vj, vi x7, vj, vj] [] (shp, M) else ev prog (d + 1) 299 u 412 [vr 3, vr 5, vr 87, vr 96, vr 97, vi x5, vj, vj, vj, vj] [] (shp, M) := by rw [ev_eq]; rfl
set_option maxRecDepth 8000 in
theorem b299_407 (d u : Nat) (M : mM) : ev prog (d + 1) 299 u 407 [vj, vj, vj, vj, vj, vj, vj, vj, vj, vj] [] (shp, M) = some (.inl (some (vi 0)), (shp, M)) := by rw [ev_eq]; rfl
set_option maxRecDepth 8000 in
theorem b299_424 (d u : Nat) (x5 : Int) (x6 : Int) (x7 : UInt64) (M : mM) : ev prog (d + 1) 299 u 424 [vr 3, vr 5, vr 87, vr 96, vr 97, vi x5, vi x6, vd x7, vj, vj] [] (shp, M) = if x6 = 0 then ev prog (d + 1) 299 u 425 [vr 3, vr 5, vr 87, vr 96, vr 97, vi x5, vj, vd x7, vj, vj] [] (shp, M) else ev prog (d + 1) 299 u 432 [vr 3, vr 5, vr 87, vr 96, vr 97, vi x5, vj, vj, vj, vj] [] (shp, M) := by rw [ev_eq]; rfl
set_option maxRecDepth 8000 in
theorem b299_423 (d u : Nat) (M : mM) : ev prog (d + 1) 299 u 423 [vj, vj, vj, vj, vj, vj, vj, vj, vj, vj] [] (shp, M) = some (.inl (some (vi 0)), (shp, M)) := by rw [ev_eq]; rfl
set_option maxRecDepth 8000 in
theorem b299_444 (d u : Nat) (x5 : Int) (x6 : Int) (x7 : Int) (M : mM) : ev prog (d + 1) 299 u 444 [vr 3, vr 5, vr 87, vr 96, vr 97, vi x5, vi x6, vi x7, vj, vj] [] (shp, M) = if x6 = 0 then ev prog (d + 1) 299 u 445 [vr 3, vr 5, vr 87, vr 96, vr 97, vi x5, vj, vi x7, vj, vj] [] (shp, M) else ev prog (d + 1) 299 u 448 [vr 3, vr 5, vr 87, vr 96, vr 97, vi x5, vj, vj, vj, vj] [] (shp, M) := by rw [ev_eq]; rfl
set_option maxRecDepth 8000 in
theorem b299_443 (d u : Nat) (M : mM) : ev prog (d + 1) 299 u 443 [vj, vj, vj, vj, vj, vj, vj, vj, vj, vj] [] (shp, M) = some (.inl (some (vi 0)), (shp, M)) := by rw [ev_eq]; rfl
set_option maxRecDepth 8000 in
theorem b299_456 (d u : Nat) (x5 : Int) (x7 : Int) (s0 : Int) (M : mM) : ev prog (d + 1) 299 u 456 [vr 3, vr 5, vr 87, vr 96, vr 97, vi x5, vj, vi x7, vj, vj] [vl s0] (shp, M) = if x7 = 0 then ev prog (d + 1) 299 u 458 [vr 3, vr 5, vr 87, vr 96, vr 97, vi x5, vj, vj, vj, vj] [vl s0] (shp, M) else ev prog (d + 1) 299 u 457 [vr 3, vr 5, vr 87, vr 96, vr 97, vi x5, vj, vj, vj, vj] [vl s0] (shp, M) := by rw [ev_eq]; rfl
set_option maxRecDepth 8000 in
theorem b299_469 (d u : Nat) (x5 : Int) (x7 : Int) (s0 : Int) (M : mM) : ev prog (d + 1) 299 u 469 [vr 3, vr 5, vr 87, vr 96, vr 97, vi x5, vj, vi x7, vj, vj] [vl s0] (shp, M) = if (cmpL s0 x7) = 0 then ev prog (d + 1) 299 u 471 [vr 3, vr 5, vr 87, vr 96, vr 97, vi x5, vj, vj, vj, vj] [] (shp, M) else ev prog (d + 1) 299 u 470 [vj, vj, vj, vj, vj, vj, vj, vj, vj, vj] [] (shp, M) := by rw [ev_eq]; rfl
set_option maxRecDepth 8000 in
theorem b299_479 (d u : Nat) (x5 : Int) (M : mM) : ev prog (d + 1) 299 u 479 [vr 3, vr 5, vr 87, vr 96, vr 97, vi x5, vj, vj, vj, vj] [] (shp, M) = ev prog (d + 1) 299 u 503 [vr 3, vr 5, vr 87, vr 96, vr 97, vi x5, vj, vj, vj, vj] [] (shp, M) := by rw [ev_eq]; rfl
set_option maxRecDepth 8000 in
theorem b299_478 (d u : Nat) (M : mM) : ev prog (d + 1) 299 u 478 [vj, vj, vj, vj, vj, vj, vj, vj, vj, vj] [] (shp, M) = some (.inl (some (vi 0)), (shp, M)) := by rw [ev_eq]; rfl
set_option maxRecDepth 8000 in
theorem b299_487 (d u : Nat) (x5 : Int) (x7 : Int) (s0 : Int) (M : mM) : ev prog (d + 1) 299 u 487 [vr 3, vr 5, vr 87, vr 96, vr 97, vi x5, vj, vi x7, vj, vj] [vl s0] (shp, M) = if (cmpL s0 x7) = 0 then ev prog (d + 1) 299 u 489 [vr 3, vr 5, vr 87, vr 96, vr 97, vi x5, vj, vj, vj, vj] [] (shp, M) else ev prog (d + 1) 299 u 488 [vj, vj, vj, vj, vj, vj, vj, vj, vj, vj] [] (shp, M) := by rw [ev_eq]; rfl
set_option maxRecDepth 8000 in
theorem b299_18 (d u : Nat) (x5 : Int) (x6 : Int) (s1 : Int) (M : mM) : ev prog (d + 1) 299 u 18 [vr 3, vr 5, vr 87, vr 96, vr 97, vi x5, vi x6, vj, vj, vj] [vi s1, vr 87] (shp, M) = if 0 ≤ (wr (x5 + 2)) ∧ (wr (x5 + 2)) < M 4 0 then ev prog (d + 1) 299 u 19 [vr 3, vr 5, vr 87, vr 96, vr 97, vi x5, vi x6, vj, vj, vj] [vi (M 3 (Int.toNat (wr (x5 + 2)))), vi s1, vr 87] (shp, M) else none := by rw [ev_eq]; rfl
set_option maxRecDepth 8000 in
theorem b299_42 (d u : Nat) (x5 : Int) (M : mM) : ev prog (d + 1) 299 u 42 [vr 3, vr 5, vr 87, vr 96, vr 97, vi x5, vj, vj, vj, vj] [] (shp, M) = ev prog (d + 1) 299 u 503 [vr 3, vr 5, vr 87, vr 96, vr 97, vi x5, vj, vj, vj, vj] [] (shp, M) := by rw [ev_eq]; rfl
set_option maxRecDepth 8000 in
theorem b299_39 (d u : Nat) (x5 : Int) (x7 : Int) (M : mM) : ev prog (d + 1) 299 u 39 [vr 3, vr 5, vr 87, vr 96, vr 97, vi x5, vj, vi x7, vj, vj] [] (shp, M) = if 0 ≤ 0 ∧ 0 < 1 then ev prog (d + 1) 299 u 40 [vr 3, vr 5, vr 87, vr 96, vr 97, vi x5, vj, vi x7, vj, vj] [vl (M 96 (Int.toNat 0))] (shp, M) else none := by rw [ev_eq]; rfl
set_option maxRecDepth 8000 in
theorem b299_56 (d u : Nat) (x5 : Int) (x6 : Int) (x7 : Int) (s0 : Int) (M : mM) : ev prog (d + 1) 299 u 56 [vr 3, vr 5, vr 87, vr 96, vr 97, vi x5, vi x6, vi x7, vj, vj] [vi s0] (shp, M) = if s0 = x6 then ev prog (d + 1) 299 u 58 [vr 3, vr 5, vr 87, vr 96, vr 97, vi x5, vi x6, vi x7, vj, vj] [] (shp, M) else ev prog (d + 1) 299 u 57 [vj, vj, vj, vj, vj, vj, vj, vj, vj, vj] [] (shp, M) := by rw [ev_eq]; rfl
set_option maxRecDepth 8000 in
theorem b299_74 (d u : Nat) (x5 : Int) (M : mM) : ev prog (d + 1) 299 u 74 [vr 3, vr 5, vr 87, vr 96, vr 97, vi x5, vj, vj, vj, vj] [] (shp, M) = ev prog (d + 1) 299 u 503 [vr 3, vr 5, vr 87, vr 96, vr 97, vi x5, vj, vj, vj, vj] [] (shp, M) := by rw [ev_eq]; rfl
set_option maxRecDepth 8000 in
theorem b299_71 (d u : Nat) (x5 : Int) (x7 : Int) (M : mM) : ev prog (d + 1) 299 u 71 [vr 3, vr 5, vr 87, vr 96, vr 97, vi x5, vj, vi x7, vj, vj] [] (shp, M) = if 0 ≤ 0 ∧ 0 < 1 then ev prog (d + 1) 299 u 72 [vr 3, vr 5, vr 87, vr 96, vr 97, vi x5, vj, vi x7, vj, vj] [vl (M 96 (Int.toNat 0))] (shp, M) else none := by rw [ev_eq]; rfl
set_option maxRecDepth 8000 in
theorem b299_86 (d u : Nat) (x5 : Int) (M : mM) : ev prog (d + 1) 299 u 86 [vr 3, vr 5, vr 87, vr 96, vr 97, vi x5, vj, vj, vj, vj] [] (shp, M) = ev prog (d + 1) 299 u 503 [vr 3, vr 5, vr 87, vr 96, vr 97, vi x5, vj, vj, vj, vj] [] (shp, M) := by rw [ev_eq]; rfl
set_option maxRecDepth 8000 in
theorem b299_83 (d u : Nat) (x5 : Int) (x7 : Int) (M : mM) : ev prog (d + 1) 299 u 83 [vr 3, vr 5, vr 87, vr 96, vr 97, vi x5, vj, vi x7, vj, vj] [] (shp, M) = if 0 ≤ 0 ∧ 0 < 1 then ev prog (d + 1) 299 u 84 [vr 3, vr 5, vr 87, vr 96, vr 97, vi x5, vj, vi x7, vj, vj] [vl (M 96 (Int.toNat 0))] (shp, M) else none := by rw [ev_eq]; rfl
set_option maxRecDepth 8000 in
theorem b299_94 (d u : Nat) (x5 : Int) (x6 : Int) (s1 : Int) (s2 : Int) (s3 : Int) (M : mM) (h : u + 0 ≤ 3400) : ev prog (d + 1) 299 u 94 [vr 3, vr 5, vr 87, vr 96, vr 97, vi x5, vi x6, vj, vj, vj] [vi s3, vi s2, vi s1, vr 87] (shp, M) = callK (run prog d 93 [vr 87, vi s1, vi s2, vi s3] (shp, M)) (fun v σ1 => ev prog (d + 1) 299 (u + 0) 95 [vr 3, vr 5, vr 87, vr 96, vr 97, vi x5, vi x6, vj, vj, vj] (psh v []) σ1) (fun e σ1 => hk [0, 0, 0, 0, 0] e σ1 (fun t => ev prog (d + 1) 299 (u + 0) t (msk (pMask prog 299 t) [vr 3, vr 5, vr 87, vr 96, vr 97, vi x5, vi x6, vj, vj, vj]) [vj] σ1)) := by
  rw [ev_eq]
  show (match ((true && decide (u + 0 ≤ 3400)) && true) with
    | true => _
    | false => none) = _
  rw [decide_eq_true h]
  rfl
set_option maxRecDepth 8000 in
theorem b299_110 (d u : Nat) (x5 : Int) (x6 : Int) (s1 : Int) (s2 : Int) (s3 : Int) (M : mM) (h : u + 0 ≤ 3400) : ev prog (d + 1) 299 u 110 [vr 3, vr 5, vr 87, vr 96, vr 97, vi x5, vi x6, vj, vj, vj] [vi s3, vi s2, vi s1, vr 87] (shp, M) = callK (run prog d 100 [vr 87, vi s1, vi s2, vi s3] (shp, M)) (fun v σ1 => ev prog (d + 1) 299 (u + 0) 111 [vr 3, vr 5, vr 87, vr 96, vr 97, vi x5, vi x6, vj, vj, vj] (psh v []) σ1) (fun e σ1 => hk [0, 0, 0, 0, 0] e σ1 (fun t => ev prog (d + 1) 299 (u + 0) t (msk (pMask prog 299 t) [vr 3, vr 5, vr 87, vr 96, vr 97, vi x5, vi x6, vj, vj, vj]) [vj] σ1)) := by
  rw [ev_eq]
  show (match ((true && decide (u + 0 ≤ 3400)) && true) with
    | true => _
    | false => none) = _
  rw [decide_eq_true h]
  rfl
set_option maxRecDepth 8000 in
theorem b299_127 (d u : Nat) (M : mM) : ev prog (d + 1) 299 u 127 [vj, vj, vj, vj, vj, vj, vj, vj, vj, vj] [] (shp, M) = some (.inl (some (vi 0)), (shp, M)) := by rw [ev_eq]; rfl
set_option maxRecDepth 8000 in
theorem b299_136 (d u : Nat) (x5 : Int) (x6 : Int) (x7 : Int) (s0 : Int) (M : mM) : ev prog (d + 1) 299 u 136 [vr 3, vr 5, vr 87, vr 96, vr 97, vi x5, vi x6, vi x7, vj, vj] [vi s0] (shp, M) = if s0 = x6 then ev prog (d + 1) 299 u 138 [vr 3, vr 5, vr 87, vr 96, vr 97, vi x5, vi x6, vi x7, vj, vj] [] (shp, M) else ev prog (d + 1) 299 u 137 [vj, vj, vj, vj, vj, vj, vj, vj, vj, vj] [] (shp, M) := by rw [ev_eq]; rfl
set_option maxRecDepth 8000 in
theorem b299_154 (d u : Nat) (x5 : Int) (M : mM) : ev prog (d + 1) 299 u 154 [vr 3, vr 5, vr 87, vr 96, vr 97, vi x5, vj, vj, vj, vj] [] (shp, M) = ev prog (d + 1) 299 u 503 [vr 3, vr 5, vr 87, vr 96, vr 97, vi x5, vj, vj, vj, vj] [] (shp, M) := by rw [ev_eq]; rfl
set_option maxRecDepth 8000 in
theorem b299_151 (d u : Nat) (x5 : Int) (x7 : Int) (M : mM) : ev prog (d + 1) 299 u 151 [vr 3, vr 5, vr 87, vr 96, vr 97, vi x5, vj, vi x7, vj, vj] [] (shp, M) = if 0 ≤ 0 ∧ 0 < 1 then ev prog (d + 1) 299 u 152 [vr 3, vr 5, vr 87, vr 96, vr 97, vi x5, vj, vi x7, vj, vj] [vl (M 96 (Int.toNat 0))] (shp, M) else none := by rw [ev_eq]; rfl
set_option maxRecDepth 8000 in
theorem b299_166 (d u : Nat) (x5 : Int) (M : mM) : ev prog (d + 1) 299 u 166 [vr 3, vr 5, vr 87, vr 96, vr 97, vi x5, vj, vj, vj, vj] [] (shp, M) = ev prog (d + 1) 299 u 503 [vr 3, vr 5, vr 87, vr 96, vr 97, vi x5, vj, vj, vj, vj] [] (shp, M) := by rw [ev_eq]; rfl
set_option maxRecDepth 8000 in
theorem b299_163 (d u : Nat) (x5 : Int) (x7 : Int) (M : mM) : ev prog (d + 1) 299 u 163 [vr 3, vr 5, vr 87, vr 96, vr 97, vi x5, vj, vi x7, vj, vj] [] (shp, M) = if 0 ≤ 0 ∧ 0 < 1 then ev prog (d + 1) 299 u 164 [vr 3, vr 5, vr 87, vr 96, vr 97, vi x5, vj, vi x7, vj, vj] [vl (M 96 (Int.toNat 0))] (shp, M) else none := by rw [ev_eq]; rfl
set_option maxRecDepth 8000 in
theorem b299_178 (d u : Nat) (x5 : Int) (x6 : Int) (x7 : Int) (s0 : Int) (M : mM) : ev prog (d + 1) 299 u 178 [vr 3, vr 5, vr 87, vr 96, vr 97, vi x5, vi x6, vi x7, vj, vj] [vi s0] (shp, M) = if s0 = x6 then ev prog (d + 1) 299 u 180 [vr 3, vr 5, vr 87, vr 96, vr 97, vi x5, vi x6, vi x7, vj, vj] [] (shp, M) else ev prog (d + 1) 299 u 179 [vj, vj, vj, vj, vj, vj, vj, vj, vj, vj] [] (shp, M) := by rw [ev_eq]; rfl
set_option maxRecDepth 8000 in
theorem b299_196 (d u : Nat) (x5 : Int) (M : mM) : ev prog (d + 1) 299 u 196 [vr 3, vr 5, vr 87, vr 96, vr 97, vi x5, vj, vj, vj, vj] [] (shp, M) = ev prog (d + 1) 299 u 503 [vr 3, vr 5, vr 87, vr 96, vr 97, vi x5, vj, vj, vj, vj] [] (shp, M) := by rw [ev_eq]; rfl
set_option maxRecDepth 8000 in
theorem b299_193 (d u : Nat) (x5 : Int) (x7 : Int) (M : mM) : ev prog (d + 1) 299 u 193 [vr 3, vr 5, vr 87, vr 96, vr 97, vi x5, vj, vi x7, vj, vj] [] (shp, M) = if 0 ≤ 0 ∧ 0 < 1 then ev prog (d + 1) 299 u 194 [vr 3, vr 5, vr 87, vr 96, vr 97, vi x5, vj, vi x7, vj, vj] [vl (M 96 (Int.toNat 0))] (shp, M) else none := by rw [ev_eq]; rfl
set_option maxRecDepth 8000 in
theorem b299_204 (d u : Nat) (x5 : Int) (x6 : Int) (s1 : Int) (s2 : Int) (s3 : Int) (M : mM) (h : u + 0 ≤ 3400) : ev prog (d + 1) 299 u 204 [vr 3, vr 5, vr 87, vr 96, vr 97, vi x5, vi x6, vj, vj, vj] [vi s3, vi s2, vi s1, vr 87] (shp, M) = callK (run prog d 139 [vr 87, vi s1, vi s2, vi s3] (shp, M)) (fun v σ1 => ev prog (d + 1) 299 (u + 0) 205 [vr 3, vr 5, vr 87, vr 96, vr 97, vi x5, vi x6, vj, vj, vj] (psh v []) σ1) (fun e σ1 => hk [0, 0, 0, 0, 0] e σ1 (fun t => ev prog (d + 1) 299 (u + 0) t (msk (pMask prog 299 t) [vr 3, vr 5, vr 87, vr 96, vr 97, vi x5, vi x6, vj, vj, vj]) [vj] σ1)) := by
  rw [ev_eq]
  show (match ((true && decide (u + 0 ≤ 3400)) && true) with
    | true => _
    | false => none) = _
  rw [decide_eq_true h]
  rfl
set_option maxRecDepth 8000 in
theorem b299_220 (d u : Nat) (x5 : Int) (x6 : Int) (x7 : Int) (s0 : Int) (M : mM) : ev prog (d + 1) 299 u 220 [vr 3, vr 5, vr 87, vr 96, vr 97, vi x5, vi x6, vi x7, vj, vj] [vi s0] (shp, M) = if s0 = x6 then ev prog (d + 1) 299 u 222 [vr 3, vr 5, vr 87, vr 96, vr 97, vi x5, vi x6, vi x7, vj, vj] [] (shp, M) else ev prog (d + 1) 299 u 221 [vj, vj, vj, vj, vj, vj, vj, vj, vj, vj] [] (shp, M) := by rw [ev_eq]; rfl
set_option maxRecDepth 8000 in
theorem b299_242 (d u : Nat) (x5 : Int) (M : mM) : ev prog (d + 1) 299 u 242 [vr 3, vr 5, vr 87, vr 96, vr 97, vi x5, vj, vj, vj, vj] [] (shp, M) = ev prog (d + 1) 299 u 503 [vr 3, vr 5, vr 87, vr 96, vr 97, vi x5, vj, vj, vj, vj] [] (shp, M) := by rw [ev_eq]; rfl
set_option maxRecDepth 8000 in
theorem b299_239 (d u : Nat) (x5 : Int) (x7 : Int) (M : mM) : ev prog (d + 1) 299 u 239 [vr 3, vr 5, vr 87, vr 96, vr 97, vi x5, vj, vi x7, vj, vj] [] (shp, M) = if 0 ≤ 0 ∧ 0 < 1 then ev prog (d + 1) 299 u 240 [vr 3, vr 5, vr 87, vr 96, vr 97, vi x5, vj, vi x7, vj, vj] [vl (M 96 (Int.toNat 0))] (shp, M) else none := by rw [ev_eq]; rfl
set_option maxRecDepth 8000 in
theorem b299_250 (d u : Nat) (x5 : Int) (x6 : Int) (s1 : Int) (s2 : Int) (s3 : Int) (M : mM) (h : u + 0 ≤ 3400) : ev prog (d + 1) 299 u 250 [vr 3, vr 5, vr 87, vr 96, vr 97, vi x5, vi x6, vj, vj, vj] [vi s3, vi s2, vi s1, vr 87] (shp, M) = callK (run prog d 152 [vr 87, vi s1, vi s2, vi s3] (shp, M)) (fun v σ1 => ev prog (d + 1) 299 (u + 0) 251 [vr 3, vr 5, vr 87, vr 96, vr 97, vi x5, vi x6, vj, vj, vj] (psh v []) σ1) (fun e σ1 => hk [0, 0, 0, 0, 0] e σ1 (fun t => ev prog (d + 1) 299 (u + 0) t (msk (pMask prog 299 t) [vr 3, vr 5, vr 87, vr 96, vr 97, vi x5, vi x6, vj, vj, vj]) [vj] σ1)) := by
  rw [ev_eq]
  show (match ((true && decide (u + 0 ≤ 3400)) && true) with
    | true => _
    | false => none) = _
  rw [decide_eq_true h]
  rfl
set_option maxRecDepth 8000 in
theorem b299_263 (d u : Nat) (x5 : Int) (x6 : Int) (s1 : Int) (s2 : Int) (M : mM) : ev prog (d + 1) 299 u 263 [vr 3, vr 5, vr 87, vr 96, vr 97, vi x5, vi x6, vj, vj, vj] [vi s2, vi s1, vr 87] (shp, M) = if s2 = 0 then ev prog (d + 1) 299 u 265 [vr 3, vr 5, vr 87, vr 96, vr 97, vi x5, vi x6, vj, vj, vj] [vi s1, vr 87] (shp, M) else ev prog (d + 1) 299 u 264 [vr 3, vr 5, vr 87, vr 96, vr 97, vi x5, vi x6, vj, vj, vj] [vi s1, vr 87] (shp, M) := by rw [ev_eq]; rfl
set_option maxRecDepth 8000 in
theorem b299_289 (d u : Nat) (x5 : Int) (M : mM) : ev prog (d + 1) 299 u 289 [vr 3, vr 5, vr 87, vr 96, vr 97, vi x5, vj, vj, vj, vj] [] (shp, M) = ev prog (d + 1) 299 u 503 [vr 3, vr 5, vr 87, vr 96, vr 97, vi x5, vj, vj, vj, vj] [] (shp, M) := by rw [ev_eq]; rfl
set_option maxRecDepth 8000 in
theorem b299_286 (d u : Nat) (x5 : Int) (x7 : Int) (M : mM) : ev prog (d + 1) 299 u 286 [vr 3, vr 5, vr 87, vr 96, vr 97, vi x5, vj, vi x7, vj, vj] [] (shp, M) = if 0 ≤ 0 ∧ 0 < 1 then ev prog (d + 1) 299 u 287 [vr 3, vr 5, vr 87, vr 96, vr 97, vi x5, vj, vi x7, vj, vj] [vl (M 96 (Int.toNat 0))] (shp, M) else none := by rw [ev_eq]; rfl
set_option maxRecDepth 8000 in
theorem b299_301 (d u : Nat) (x5 : Int) (M : mM) : ev prog (d + 1) 299 u 301 [vr 3, vr 5, vr 87, vr 96, vr 97, vi x5, vj, vj, vj, vj] [] (shp, M) = ev prog (d + 1) 299 u 503 [vr 3, vr 5, vr 87, vr 96, vr 97, vi x5, vj, vj, vj, vj] [] (shp, M) := by rw [ev_eq]; rfl
set_option maxRecDepth 8000 in
theorem b299_298 (d u : Nat) (x5 : Int) (x7 : Int) (M : mM) : ev prog (d + 1) 299 u 298 [vr 3, vr 5, vr 87, vr 96, vr 97, vi x5, vj, vi x7, vj, vj] [] (shp, M) = if 0 ≤ 0 ∧ 0 < 1 then ev prog (d + 1) 299 u 299 [vr 3, vr 5, vr 87, vr 96, vr 97, vi x5, vj, vi x7, vj, vj] [vl (M 96 (Int.toNat 0))] (shp, M) else none := by rw [ev_eq]; rfl
set_option maxRecDepth 8000 in
theorem b299_313 (d u : Nat) (x5 : Int) (M : mM) : ev prog (d + 1) 299 u 313 [vr 3, vr 5, vr 87, vr 96, vr 97, vi x5, vj, vj, vj, vj] [] (shp, M) = ev prog (d + 1) 299 u 503 [vr 3, vr 5, vr 87, vr 96, vr 97, vi x5, vj, vj, vj, vj] [] (shp, M) := by rw [ev_eq]; rfl
set_option maxRecDepth 8000 in
theorem b299_310 (d u : Nat) (x5 : Int) (x7 : Int) (M : mM) : ev prog (d + 1) 299 u 310 [vr 3, vr 5, vr 87, vr 96, vr 97, vi x5, vj, vi x7, vj, vj] [] (shp, M) = if 0 ≤ 0 ∧ 0 < 1 then ev prog (d + 1) 299 u 311 [vr 3, vr 5, vr 87, vr 96, vr 97, vi x5, vj, vi x7, vj, vj] [vl (M 96 (Int.toNat 0))] (shp, M) else none := by rw [ev_eq]; rfl
set_option maxRecDepth 8000 in
theorem b299_322 (d u : Nat) (M : mM) : ev prog (d + 1) 299 u 322 [vj, vj, vj, vj, vj, vj, vj, vj, vj, vj] [] (shp, M) = some (.inl (some (vi 0)), (shp, M)) := by rw [ev_eq]; rfl
set_option maxRecDepth 8000 in
theorem b299_350 (d u : Nat) (x5 : Int) (M : mM) : ev prog (d + 1) 299 u 350 [vr 3, vr 5, vr 87, vr 96, vr 97, vi x5, vj, vj, vj, vj] [] (shp, M) = ev prog (d + 1) 299 u 503 [vr 3, vr 5, vr 87, vr 96, vr 97, vi x5, vj, vj, vj, vj] [] (shp, M) := by rw [ev_eq]; rfl
set_option maxRecDepth 8000 in
theorem b299_347 (d u : Nat) (x5 : Int) (x7 : Int) (M : mM) : ev prog (d + 1) 299 u 347 [vr 3, vr 5, vr 87, vr 96, vr 97, vi x5, vj, vi x7, vj, vj] [] (shp, M) = if 0 ≤ 0 ∧ 0 < 1 then ev prog (d + 1) 299 u 348 [vr 3, vr 5, vr 87, vr 96, vr 97, vi x5, vj, vi x7, vj, vj] [vl (M 96 (Int.toNat 0))] (shp, M) else none := by rw [ev_eq]; rfl
set_option maxRecDepth 8000 in
theorem b299_362 (d u : Nat) (x5 : Int) (M : mM) : ev prog (d + 1) 299 u 362 [vr 3, vr 5, vr 87, vr 96, vr 97, vi x5, vj, vj, vj, vj] [] (shp, M) = ev prog (d + 1) 299 u 503 [vr 3, vr 5, vr 87, vr 96, vr 97, vi x5, vj, vj, vj, vj] [] (shp, M) := by rw [ev_eq]; rfl
set_option maxRecDepth 8000 in
theorem b299_359 (d u : Nat) (x5 : Int) (x7 : Int) (M : mM) : ev prog (d + 1) 299 u 359 [vr 3, vr 5, vr 87, vr 96, vr 97, vi x5, vj, vi x7, vj, vj] [] (shp, M) = if 0 ≤ 0 ∧ 0 < 1 then ev prog (d + 1) 299 u 360 [vr 3, vr 5, vr 87, vr 96, vr 97, vi x5, vj, vi x7, vj, vj] [vl (M 96 (Int.toNat 0))] (shp, M) else none := by rw [ev_eq]; rfl
set_option maxRecDepth 8000 in
theorem b299_376 (d u : Nat) (x5 : Int) (x6 : Int) (x7 : Int) (s0 : Int) (M : mM) : ev prog (d + 1) 299 u 376 [vr 3, vr 5, vr 87, vr 96, vr 97, vi x5, vi x6, vi x7, vj, vj] [vi s0] (shp, M) = if s0 = x6 then ev prog (d + 1) 299 u 378 [vr 3, vr 5, vr 87, vr 96, vr 97, vi x5, vi x6, vi x7, vj, vj] [] (shp, M) else ev prog (d + 1) 299 u 377 [vj, vj, vj, vj, vj, vj, vj, vj, vj, vj] [] (shp, M) := by rw [ev_eq]; rfl
set_option maxRecDepth 8000 in
theorem b299_390 (d u : Nat) (x5 : Int) (x6 : Int) (s1 : Int) (s2 : Int) (M : mM) : ev prog (d + 1) 299 u 390 [vr 3, vr 5, vr 87, vr 96, vr 97, vi x5, vi x6, vj, vj, vj] [vi s2, vi s1, vr 87] (shp, M) = if 0 ≤ (wr (x5 + 3)) ∧ (wr (x5 + 3)) < M 4 0 then ev prog (d + 1) 299 u 391 [vr 3, vr 5, vr 87, vr 96, vr 97, vi x5, vi x6, vj, vj, vj] [vi (M 3 (Int.toNat (wr (x5 + 3)))), vi s2, vi s1, vr 87] (shp, M) else none := by rw [ev_eq]; rfl
set_option maxRecDepth 8000 in
theorem b299_412 (d u : Nat) (x5 : Int) (M : mM) : ev prog (d + 1) 299 u 412 [vr 3, vr 5, vr 87, vr 96, vr 97, vi x5, vj, vj, vj, vj] [] (shp, M) = ev prog (d + 1) 299 u 503 [vr 3, vr 5, vr 87, vr 96, vr 97, vi x5, vj, vj, vj, vj] [] (shp, M) := by rw [ev_eq]; rfl
set_option maxRecDepth 8000 in
theorem b299_409 (d u : Nat) (x5 : Int) (x7 : Int) (M : mM) : ev prog (d + 1) 299 u 409 [vr 3, vr 5, vr 87, vr 96, vr 97, vi x5, vj, vi x7, vj, vj] [] (shp, M) = if 0 ≤ 0 ∧ 0 < 1 then ev prog (d + 1) 299 u 410 [vr 3, vr 5, vr 87, vr 96, vr 97, vi x5, vj, vi x7, vj, vj] [vl (M 96 (Int.toNat 0))] (shp, M) else none := by rw [ev_eq]; rfl
set_option maxRecDepth 8000 in
theorem b299_432 (d u : Nat) (x5 : Int) (M : mM) : ev prog (d + 1) 299 u 432 [vr 3, vr 5, vr 87, vr 96, vr 97, vi x5, vj, vj, vj, vj] [] (shp, M) = ev prog (d + 1) 299 u 503 [vr 3, vr 5, vr 87, vr 96, vr 97, vi x5, vj, vj, vj, vj] [] (shp, M) := by rw [ev_eq]; rfl
set_option maxRecDepth 8000 in
theorem b299_425 (d u : Nat) (x5 : Int) (x7 : UInt64) (M : mM) : ev prog (d + 1) 299 u 425 [vr 3, vr 5, vr 87, vr 96, vr 97, vi x5, vj, vd x7, vj, vj] [] (shp, M) = if 0 ≤ 0 ∧ 0 < 1 then ev prog (d + 1) 299 u 426 [vr 3, vr 5, vr 87, vr 96, vr 97, vi x5, vj, vd x7, vj, vj] [vd (UInt64.ofNat (Int.toNat (M 97 (Int.toNat 0))))] (shp, M) else none := by rw [ev_eq]; rfl
set_option maxRecDepth 8000 in
theorem b299_448 (d u : Nat) (x5 : Int) (M : mM) : ev prog (d + 1) 299 u 448 [vr 3, vr 5, vr 87, vr 96, vr 97, vi x5, vj, vj, vj, vj] [] (shp, M) = ev prog (d + 1) 299 u 503 [vr 3, vr 5, vr 87, vr 96, vr 97, vi x5, vj, vj, vj, vj] [] (shp, M) := by rw [ev_eq]; rfl
set_option maxRecDepth 8000 in
theorem b299_445 (d u : Nat) (x5 : Int) (x7 : Int) (M : mM) : ev prog (d + 1) 299 u 445 [vr 3, vr 5, vr 87, vr 96, vr 97, vi x5, vj, vi x7, vj, vj] [] (shp, M) = if 0 ≤ 0 ∧ 0 < 1 then ev prog (d + 1) 299 u 446 [vr 3, vr 5, vr 87, vr 96, vr 97, vi x5, vj, vi x7, vj, vj] [vl (M 96 (Int.toNat 0))] (shp, M) else none := by rw [ev_eq]; rfl
set_option maxRecDepth 8000 in
theorem b299_458 (d u : Nat) (x5 : Int) (s0 : Int) (M : mM) : ev prog (d + 1) 299 u 458 [vr 3, vr 5, vr 87, vr 96, vr 97, vi x5, vj, vj, vj, vj] [vl s0] (shp, M) = ev prog (d + 1) 299 u 459 [vr 3, vr 5, vr 87, vr 96, vr 97, vi x5, vj, vj, vj, vj] [vl 0, vl s0] (shp, M) := by rw [ev_eq]; rfl
set_option maxRecDepth 8000 in
theorem b299_457 (d u : Nat) (x5 : Int) (s0 : Int) (M : mM) : ev prog (d + 1) 299 u 457 [vr 3, vr 5, vr 87, vr 96, vr 97, vi x5, vj, vj, vj, vj] [vl s0] (shp, M) = ev prog (d + 1) 299 u 459 [vr 3, vr 5, vr 87, vr 96, vr 97, vi x5, vj, vj, vj, vj] [vl 1, vl s0] (shp, M) := by rw [ev_eq]; rfl
set_option maxRecDepth 8000 in
theorem b299_470 (d u : Nat) (M : mM) : ev prog (d + 1) 299 u 470 [vj, vj, vj, vj, vj, vj, vj, vj, vj, vj] [] (shp, M) = some (.inl (some (vi 0)), (shp, M)) := by rw [ev_eq]; rfl
set_option maxRecDepth 8000 in
theorem b299_488 (d u : Nat) (M : mM) : ev prog (d + 1) 299 u 488 [vj, vj, vj, vj, vj, vj, vj, vj, vj, vj] [] (shp, M) = some (.inl (some (vi 0)), (shp, M)) := by rw [ev_eq]; rfl
set_option maxRecDepth 8000 in
theorem b299_19 (d u : Nat) (x5 : Int) (x6 : Int) (s1 : Int) (s2 : Int) (M : mM) : ev prog (d + 1) 299 u 19 [vr 3, vr 5, vr 87, vr 96, vr 97, vi x5, vi x6, vj, vj, vj] [vi s2, vi s1, vr 87] (shp, M) = if 0 ≤ (wr (x5 + 3)) ∧ (wr (x5 + 3)) < M 4 0 then ev prog (d + 1) 299 u 20 [vr 3, vr 5, vr 87, vr 96, vr 97, vi x5, vi x6, vj, vj, vj] [vi (M 3 (Int.toNat (wr (x5 + 3)))), vi s2, vi s1, vr 87] (shp, M) else none := by rw [ev_eq]; rfl
set_option maxRecDepth 8000 in
theorem b299_40 (d u : Nat) (x5 : Int) (x7 : Int) (s0 : Int) (M : mM) : ev prog (d + 1) 299 u 40 [vr 3, vr 5, vr 87, vr 96, vr 97, vi x5, vj, vi x7, vj, vj] [vl s0] (shp, M) = if (cmpL s0 x7) = 0 then ev prog (d + 1) 299 u 42 [vr 3, vr 5, vr 87, vr 96, vr 97, vi x5, vj, vj, vj, vj] [] (shp, M) else ev prog (d + 1) 299 u 41 [vj, vj, vj, vj, vj, vj, vj, vj, vj, vj] [] (shp, M) := by rw [ev_eq]; rfl
set_option maxRecDepth 8000 in
theorem b299_58 (d u : Nat) (x5 : Int) (x6 : Int) (x7 : Int) (M : mM) : ev prog (d + 1) 299 u 58 [vr 3, vr 5, vr 87, vr 96, vr 97, vi x5, vi x6, vi x7, vj, vj] [] (shp, M) = if x6 = 0 then ev prog (d + 1) 299 u 59 [vr 3, vr 5, vr 87, vr 96, vr 97, vi x5, vj, vi x7, vj, vj] [] (shp, M) else ev prog (d + 1) 299 u 62 [vr 3, vr 5, vr 87, vr 96, vr 97, vi x5, vj, vj, vj, vj] [] (shp, M) := by rw [ev_eq]; rfl
set_option maxRecDepth 8000 in
theorem b299_57 (d u : Nat) (M : mM) : ev prog (d + 1) 299 u 57 [vj, vj, vj, vj, vj, vj, vj, vj, vj, vj] [] (shp, M) = some (.inl (some (vi 0)), (shp, M)) := by rw [ev_eq]; rfl
set_option maxRecDepth 8000 in
theorem b299_72 (d u : Nat) (x5 : Int) (x7 : Int) (s0 : Int) (M : mM) : ev prog (d + 1) 299 u 72 [vr 3, vr 5, vr 87, vr 96, vr 97, vi x5, vj, vi x7, vj, vj] [vl s0] (shp, M) = if (cmpL s0 x7) = 0 then ev prog (d + 1) 299 u 74 [vr 3, vr 5, vr 87, vr 96, vr 97, vi x5, vj, vj, vj, vj] [] (shp, M) else ev prog (d + 1) 299 u 73 [vj, vj, vj, vj, vj, vj, vj, vj, vj, vj] [] (shp, M) := by rw [ev_eq]; rfl
set_option maxRecDepth 8000 in
theorem b299_84 (d u : Nat) (x5 : Int) (x7 : Int) (s0 : Int) (M : mM) : ev prog (d + 1) 299 u 84 [vr 3, vr 5, vr 87, vr 96, vr 97, vi x5, vj, vi x7, vj, vj] [vl s0] (shp, M) = if (cmpL s0 x7) = 0 then ev prog (d + 1) 299 u 86 [vr 3, vr 5, vr 87, vr 96, vr 97, vi x5, vj, vj, vj, vj] [] (shp, M) else ev prog (d + 1) 299 u 85 [vj, vj, vj, vj, vj, vj, vj, vj, vj, vj] [] (shp, M) := by rw [ev_eq]; rfl
set_option maxRecDepth 8000 in
theorem b299_95 (d u : Nat) (x5 : Int) (x6 : Int) (s0 : Int) (M : mM) (h : u + 0 ≤ 3400) : ev prog (d + 1) 299 u 95 [vr 3, vr 5, vr 87, vr 96, vr 97, vi x5, vi x6, vj, vj, vj] [vi s0] (shp, M) = callK (run prog d 67 [vr 87] (shp, M)) (fun v σ1 => ev prog (d + 1) 299 (u + 0) 96 [vr 3, vr 5, vr 87, vr 96, vr 97, vi x5, vi x6, vi s0, vj, vj] (psh v []) σ1) (fun e σ1 => hk [0, 0, 0, 0, 0] e σ1 (fun t => ev prog (d + 1) 299 (u + 0) t (msk (pMask prog 299 t) [vr 3, vr 5, vr 87, vr 96, vr 97, vi x5, vi x6, vi s0, vj, vj]) [vj] σ1)) := by
  rw [ev_eq]
  show (match ((true && decide (u + 0 ≤ 3400)) && true) with
    | true => _
    | false => none) = _
  rw [decide_eq_true h]
  rfl
set_option maxRecDepth 8000 in
theorem b299_111 (d u : Nat) (x5 : Int) (x6 : Int) (s0 : Int) (M : mM) (h : u + 0 ≤ 3400) : ev prog (d + 1) 299 u 111 [vr 3, vr 5, vr 87, vr 96, vr 97, vi x5, vi x6, vj, vj, vj] [vi s0] (shp, M) = callK (run prog d 67 [vr 87] (shp, M)) (fun v σ1 => ev prog (d + 1) 299 (u + 0) 112 [vr 3, vr 5, vr 87, vr 96, vr 97, vi x5, vi x6, vi s0, vj, vj] (psh v []) σ1) (fun e σ1 => hk [0, 0, 0, 0, 0] e σ1 (fun t => ev prog (d + 1) 299 (u + 0) t (msk (pMask prog 299 t) [vr 3, vr 5, vr 87, vr 96, vr 97, vi x5, vi x6, vi s0, vj, vj]) [vj] σ1)) := by
  rw [ev_eq]
  show (match ((true && decide (u + 0 ≤ 3400)) && true) with
    | true => _
    | false => none) = _
  rw [decide_eq_true h]
  rfl
set_option maxRecDepth 8000 in
theorem b299_138 (d u : Nat) (x5 : Int) (x6 : Int) (x7 : Int) (M : mM) : ev prog (d + 1) 299 u 138 [vr 3, vr 5, vr 87, vr 96, vr 97, vi x5, vi x6, vi x7, vj, vj] [] (shp, M) = if x6 = 0 then ev prog (d + 1) 299 u 139 [vr 3, vr 5, vr 87, vr 96, vr 97, vi x5, vj, vi x7, vj, vj] [] (shp, M) else ev prog (d + 1) 299 u 142 [vr 3, vr 5, vr 87, vr 96, vr 97, vi x5, vj, vj, vj, vj] [] (shp, M) := by rw [ev_eq]; rfl
set_option maxRecDepth 8000 in
theorem b299_137 (d u : Nat) (M : mM) : ev prog (d + 1) 299 u 137 [vj, vj, vj, vj, vj, vj, vj, vj, vj, vj] [] (shp, M) = some (.inl (some (vi 0)), (shp, M)) := by rw [ev_eq]; rfl
set_option maxRecDepth 8000 in
theorem b299_152 (d u : Nat) (x5 : Int) (x7 : Int) (s0 : Int) (M : mM) : ev prog (d + 1) 299 u 152 [vr 3, vr 5, vr 87, vr 96, vr 97, vi x5, vj, vi x7, vj, vj] [vl s0] (shp, M) = if (cmpL s0 x7) = 0 then ev prog (d + 1) 299 u 154 [vr 3, vr 5, vr 87, vr 96, vr 97, vi x5, vj, vj, vj, vj] [] (shp, M) else ev prog (d + 1) 299 u 153 [vj, vj, vj, vj, vj, vj, vj, vj, vj, vj] [] (shp, M) := by rw [ev_eq]; rfl
set_option maxRecDepth 8000 in
theorem b299_164 (d u : Nat) (x5 : Int) (x7 : Int) (s0 : Int) (M : mM) : ev prog (d + 1) 299 u 164 [vr 3, vr 5, vr 87, vr 96, vr 97, vi x5, vj, vi x7, vj, vj] [vl s0] (shp, M) = if (cmpL s0 x7) = 0 then ev prog (d + 1) 299 u 166 [vr 3, vr 5, vr 87, vr 96, vr 97, vi x5, vj, vj, vj, vj] [] (shp, M) else ev prog (d + 1) 299 u 165 [vj, vj, vj, vj, vj, vj, vj, vj, vj, vj] [] (shp, M) := by rw [ev_eq]; rfl
set_option maxRecDepth 8000 in
theorem b299_180 (d u : Nat) (x5 : Int) (x6 : Int) (x7 : Int) (M : mM) : ev prog (d + 1) 299 u 180 [vr 3, vr 5, vr 87, vr 96, vr 97, vi x5, vi x6, vi x7, vj, vj] [] (shp, M) = if x6 = 0 then ev prog (d + 1) 299 u 181 [vr 3, vr 5, vr 87, vr 96, vr 97, vi x5, vj, vi x7, vj, vj] [] (shp, M) else ev prog (d + 1) 299 u 184 [vr 3, vr 5, vr 87, vr 96, vr 97, vi x5, vj, vj, vj, vj] [] (shp, M) := by rw [ev_eq]; rfl
set_option maxRecDepth 8000 in
theorem b299_179 (d u : Nat) (M : mM) : ev prog (d + 1) 299 u 179 [vj, vj, vj, vj, vj, vj, vj, vj, vj, vj] [] (shp, M) = some (.inl (some (vi 0)), (shp, M)) := by rw [ev_eq]; rfl
set_option maxRecDepth 8000 in
theorem b299_194 (d u : Nat) (x5 : Int) (x7 : Int) (s0 : Int) (M : mM) : ev prog (d + 1) 299 u 194 [vr 3, vr 5, vr 87, vr 96, vr 97, vi x5, vj, vi x7, vj, vj] [vl s0] (shp, M) = if (cmpL s0 x7) = 0 then ev prog (d + 1) 299 u 196 [vr 3, vr 5, vr 87, vr 96, vr 97, vi x5, vj, vj, vj, vj] [] (shp, M) else ev prog (d + 1) 299 u 195 [vj, vj, vj, vj, vj, vj, vj, vj, vj, vj] [] (shp, M) := by rw [ev_eq]; rfl
set_option maxRecDepth 8000 in
theorem b299_205 (d u : Nat) (x5 : Int) (x6 : Int) (s0 : Int) (M : mM) (h : u + 0 ≤ 3400) : ev prog (d + 1) 299 u 205 [vr 3, vr 5, vr 87, vr 96, vr 97, vi x5, vi x6, vj, vj, vj] [vi s0] (shp, M) = callK (run prog d 67 [vr 87] (shp, M)) (fun v σ1 => ev prog (d + 1) 299 (u + 0) 206 [vr 3, vr 5, vr 87, vr 96, vr 97, vi x5, vi x6, vi s0, vj, vj] (psh v []) σ1) (fun e σ1 => hk [0, 0, 0, 0, 0] e σ1 (fun t => ev prog (d + 1) 299 (u + 0) t (msk (pMask prog 299 t) [vr 3, vr 5, vr 87, vr 96, vr 97, vi x5, vi x6, vi s0, vj, vj]) [vj] σ1)) := by
  rw [ev_eq]
  show (match ((true && decide (u + 0 ≤ 3400)) && true) with
    | true => _
    | false => none) = _
  rw [decide_eq_true h]
  rfl
set_option maxRecDepth 8000 in
theorem b299_222 (d u : Nat) (x5 : Int) (x6 : Int) (x7 : Int) (M : mM) : ev prog (d + 1) 299 u 222 [vr 3, vr 5, vr 87, vr 96, vr 97, vi x5, vi x6, vi x7, vj, vj] [] (shp, M) = if x6 = 0 then ev prog (d + 1) 299 u 223 [vr 3, vr 5, vr 87, vr 96, vr 97, vi x5, vj, vi x7, vj, vj] [] (shp, M) else ev prog (d + 1) 299 u 226 [vr 3, vr 5, vr 87, vr 96, vr 97, vi x5, vj, vj, vj, vj] [] (shp, M) := by rw [ev_eq]; rfl
set_option maxRecDepth 8000 in
theorem b299_221 (d u : Nat) (M : mM) : ev prog (d + 1) 299 u 221 [vj, vj, vj, vj, vj, vj, vj, vj, vj, vj] [] (shp, M) = some (.inl (some (vi 0)), (shp, M)) := by rw [ev_eq]; rfl
