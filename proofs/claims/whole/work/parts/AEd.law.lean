/-! THE LAW, BLOCKS, 3 -/
set_option maxRecDepth 8000 in
theorem b299_240 (d u : Nat) (x5 : Int) (x7 : Int) (s0 : Int) (M : mM) : ev prog (d + 1) 299 u 240 [vr 3, vr 5, vr 87, vr 96, vr 97, vi x5, vj, vi x7, vj, vj] [vl s0] (shp, M) = if (cmpL s0 x7) = 0 then ev prog (d + 1) 299 u 242 [vr 3, vr 5, vr 87, vr 96, vr 97, vi x5, vj, vj, vj, vj] [] (shp, M) else ev prog (d + 1) 299 u 241 [vj, vj, vj, vj, vj, vj, vj, vj, vj, vj] [] (shp, M) := by rw [ev_eq]; rfl
set_option maxRecDepth 8000 in
theorem b299_251 (d u : Nat) (x5 : Int) (x6 : Int) (M : mM) (h : u + 0 ≤ 3400) : ev prog (d + 1) 299 u 251 [vr 3, vr 5, vr 87, vr 96, vr 97, vi x5, vi x6, vj, vj, vj] [] (shp, M) = callK (run prog d 67 [vr 87] (shp, M)) (fun v σ1 => ev prog (d + 1) 299 (u + 0) 252 [vr 3, vr 5, vr 87, vr 96, vr 97, vi x5, vi x6, vj, vj, vj] (psh v []) σ1) (fun e σ1 => hk [0, 0, 0, 0, 0] e σ1 (fun t => ev prog (d + 1) 299 (u + 0) t (msk (pMask prog 299 t) [vr 3, vr 5, vr 87, vr 96, vr 97, vi x5, vi x6, vj, vj, vj]) [vj] σ1)) := by
  rw [ev_eq]
  show (match ((true && decide (u + 0 ≤ 3400)) && true) with
    | true => _
    | false => none) = _
  rw [decide_eq_true h]
  rfl
set_option maxRecDepth 8000 in
theorem b299_265 (d u : Nat) (x5 : Int) (x6 : Int) (s1 : Int) (M : mM) : ev prog (d + 1) 299 u 265 [vr 3, vr 5, vr 87, vr 96, vr 97, vi x5, vi x6, vj, vj, vj] [vi s1, vr 87] (shp, M) = ev prog (d + 1) 299 u 266 [vr 3, vr 5, vr 87, vr 96, vr 97, vi x5, vi x6, vj, vj, vj] [vi 0, vi s1, vr 87] (shp, M) := by rw [ev_eq]; rfl
set_option maxRecDepth 8000 in
theorem b299_264 (d u : Nat) (x5 : Int) (x6 : Int) (s1 : Int) (M : mM) : ev prog (d + 1) 299 u 264 [vr 3, vr 5, vr 87, vr 96, vr 97, vi x5, vi x6, vj, vj, vj] [vi s1, vr 87] (shp, M) = ev prog (d + 1) 299 u 266 [vr 3, vr 5, vr 87, vr 96, vr 97, vi x5, vi x6, vj, vj, vj] [vi 1, vi s1, vr 87] (shp, M) := by rw [ev_eq]; rfl
set_option maxRecDepth 8000 in
theorem b299_287 (d u : Nat) (x5 : Int) (x7 : Int) (s0 : Int) (M : mM) : ev prog (d + 1) 299 u 287 [vr 3, vr 5, vr 87, vr 96, vr 97, vi x5, vj, vi x7, vj, vj] [vl s0] (shp, M) = if (cmpL s0 x7) = 0 then ev prog (d + 1) 299 u 289 [vr 3, vr 5, vr 87, vr 96, vr 97, vi x5, vj, vj, vj, vj] [] (shp, M) else ev prog (d + 1) 299 u 288 [vj, vj, vj, vj, vj, vj, vj, vj, vj, vj] [] (shp, M) := by rw [ev_eq]; rfl
set_option maxRecDepth 8000 in
theorem b299_299 (d u : Nat) (x5 : Int) (x7 : Int) (s0 : Int) (M : mM) : ev prog (d + 1) 299 u 299 [vr 3, vr 5, vr 87, vr 96, vr 97, vi x5, vj, vi x7, vj, vj] [vl s0] (shp, M) = if (cmpL s0 x7) = 0 then ev prog (d + 1) 299 u 301 [vr 3, vr 5, vr 87, vr 96, vr 97, vi x5, vj, vj, vj, vj] [] (shp, M) else ev prog (d + 1) 299 u 300 [vj, vj, vj, vj, vj, vj, vj, vj, vj, vj] [] (shp, M) := by rw [ev_eq]; rfl
set_option maxRecDepth 8000 in
theorem b299_311 (d u : Nat) (x5 : Int) (x7 : Int) (s0 : Int) (M : mM) : ev prog (d + 1) 299 u 311 [vr 3, vr 5, vr 87, vr 96, vr 97, vi x5, vj, vi x7, vj, vj] [vl s0] (shp, M) = if (cmpL s0 x7) = 0 then ev prog (d + 1) 299 u 313 [vr 3, vr 5, vr 87, vr 96, vr 97, vi x5, vj, vj, vj, vj] [] (shp, M) else ev prog (d + 1) 299 u 312 [vj, vj, vj, vj, vj, vj, vj, vj, vj, vj] [] (shp, M) := by rw [ev_eq]; rfl
set_option maxRecDepth 8000 in
theorem b299_348 (d u : Nat) (x5 : Int) (x7 : Int) (s0 : Int) (M : mM) : ev prog (d + 1) 299 u 348 [vr 3, vr 5, vr 87, vr 96, vr 97, vi x5, vj, vi x7, vj, vj] [vl s0] (shp, M) = if (cmpL s0 x7) = 0 then ev prog (d + 1) 299 u 350 [vr 3, vr 5, vr 87, vr 96, vr 97, vi x5, vj, vj, vj, vj] [] (shp, M) else ev prog (d + 1) 299 u 349 [vj, vj, vj, vj, vj, vj, vj, vj, vj, vj] [] (shp, M) := by rw [ev_eq]; rfl
set_option maxRecDepth 8000 in
theorem b299_360 (d u : Nat) (x5 : Int) (x7 : Int) (s0 : Int) (M : mM) : ev prog (d + 1) 299 u 360 [vr 3, vr 5, vr 87, vr 96, vr 97, vi x5, vj, vi x7, vj, vj] [vl s0] (shp, M) = if (cmpL s0 x7) = 0 then ev prog (d + 1) 299 u 362 [vr 3, vr 5, vr 87, vr 96, vr 97, vi x5, vj, vj, vj, vj] [] (shp, M) else ev prog (d + 1) 299 u 361 [vj, vj, vj, vj, vj, vj, vj, vj, vj, vj] [] (shp, M) := by rw [ev_eq]; rfl
set_option maxRecDepth 8000 in
theorem b299_378 (d u : Nat) (x5 : Int) (x6 : Int) (x7 : Int) (M : mM) : ev prog (d + 1) 299 u 378 [vr 3, vr 5, vr 87, vr 96, vr 97, vi x5, vi x6, vi x7, vj, vj] [] (shp, M) = if x6 = 0 then ev prog (d + 1) 299 u 379 [vr 3, vr 5, vr 87, vr 96, vr 97, vi x5, vj, vi x7, vj, vj] [] (shp, M) else ev prog (d + 1) 299 u 382 [vr 3, vr 5, vr 87, vr 96, vr 97, vi x5, vj, vj, vj, vj] [] (shp, M) := by rw [ev_eq]; rfl
set_option maxRecDepth 8000 in
theorem b299_377 (d u : Nat) (M : mM) : ev prog (d + 1) 299 u 377 [vj, vj, vj, vj, vj, vj, vj, vj, vj, vj] [] (shp, M) = some (.inl (some (vi 0)), (shp, M)) := by rw [ev_eq]; rfl
set_option maxRecDepth 8000 in
theorem b299_391 (d u : Nat) (x5 : Int) (x6 : Int) (s1 : Int) (s2 : Int) (s3 : Int) (M : mM) : ev prog (d + 1) 299 u 391 [vr 3, vr 5, vr 87, vr 96, vr 97, vi x5, vi x6, vj, vj, vj] [vi s3, vi s2, vi s1, vr 87] (shp, M) = if 0 ≤ (wr (x5 + 4)) ∧ (wr (x5 + 4)) < M 4 0 then ev prog (d + 1) 299 u 392 [vr 3, vr 5, vr 87, vr 96, vr 97, vi x5, vi x6, vj, vj, vj] [vi (M 3 (Int.toNat (wr (x5 + 4)))), vi s3, vi s2, vi s1, vr 87] (shp, M) else none := by rw [ev_eq]; rfl
set_option maxRecDepth 8000 in
theorem b299_410 (d u : Nat) (x5 : Int) (x7 : Int) (s0 : Int) (M : mM) : ev prog (d + 1) 299 u 410 [vr 3, vr 5, vr 87, vr 96, vr 97, vi x5, vj, vi x7, vj, vj] [vl s0] (shp, M) = if (cmpL s0 x7) = 0 then ev prog (d + 1) 299 u 412 [vr 3, vr 5, vr 87, vr 96, vr 97, vi x5, vj, vj, vj, vj] [] (shp, M) else ev prog (d + 1) 299 u 411 [vj, vj, vj, vj, vj, vj, vj, vj, vj, vj] [] (shp, M) := by rw [ev_eq]; rfl
set_option maxRecDepth 8000 in
theorem b299_426 (d u : Nat) (x5 : Int) (x7 : UInt64) (s0 : UInt64) (M : mM) : ev prog (d + 1) 299 u 426 [vr 3, vr 5, vr 87, vr 96, vr 97, vi x5, vj, vd x7, vj, vj] [vd s0] (shp, M) = if ((Op.cmpValue (FP.dcmp s0 x7) .l).toInt) = 0 then ev prog (d + 1) 299 u 432 [vr 3, vr 5, vr 87, vr 96, vr 97, vi x5, vj, vj, vj, vj] [] (shp, M) else ev prog (d + 1) 299 u 427 [vr 3, vr 5, vr 87, vr 96, vr 97, vi x5, vj, vd x7, vj, vj] [] (shp, M) := by rw [ev_eq]; rfl
set_option maxRecDepth 8000 in
theorem b299_446 (d u : Nat) (x5 : Int) (x7 : Int) (s0 : Int) (M : mM) : ev prog (d + 1) 299 u 446 [vr 3, vr 5, vr 87, vr 96, vr 97, vi x5, vj, vi x7, vj, vj] [vl s0] (shp, M) = if (cmpL s0 x7) = 0 then ev prog (d + 1) 299 u 448 [vr 3, vr 5, vr 87, vr 96, vr 97, vi x5, vj, vj, vj, vj] [] (shp, M) else ev prog (d + 1) 299 u 447 [vj, vj, vj, vj, vj, vj, vj, vj, vj, vj] [] (shp, M) := by rw [ev_eq]; rfl
set_option maxRecDepth 8000 in
theorem b299_459 (d u : Nat) (x5 : Int) (s0 : Int) (s1 : Int) (M : mM) : ev prog (d + 1) 299 u 459 [vr 3, vr 5, vr 87, vr 96, vr 97, vi x5, vj, vj, vj, vj] [vl s1, vl s0] (shp, M) = if (cmpL s0 s1) = 0 then ev prog (d + 1) 299 u 461 [vr 3, vr 5, vr 87, vr 96, vr 97, vi x5, vj, vj, vj, vj] [] (shp, M) else ev prog (d + 1) 299 u 460 [vj, vj, vj, vj, vj, vj, vj, vj, vj, vj] [] (shp, M) := by rw [ev_eq]; rfl
set_option maxRecDepth 8000 in
theorem b299_20 (d u : Nat) (x5 : Int) (x6 : Int) (s1 : Int) (s2 : Int) (s3 : Int) (M : mM) : ev prog (d + 1) 299 u 20 [vr 3, vr 5, vr 87, vr 96, vr 97, vi x5, vi x6, vj, vj, vj] [vi s3, vi s2, vi s1, vr 87] (shp, M) = if 0 ≤ (wr (x5 + 4)) ∧ (wr (x5 + 4)) < M 4 0 then ev prog (d + 1) 299 u 21 [vr 3, vr 5, vr 87, vr 96, vr 97, vi x5, vi x6, vj, vj, vj] [vi (M 3 (Int.toNat (wr (x5 + 4)))), vi s3, vi s2, vi s1, vr 87] (shp, M) else none := by rw [ev_eq]; rfl
set_option maxRecDepth 8000 in
theorem b299_41 (d u : Nat) (M : mM) : ev prog (d + 1) 299 u 41 [vj, vj, vj, vj, vj, vj, vj, vj, vj, vj] [] (shp, M) = some (.inl (some (vi 0)), (shp, M)) := by rw [ev_eq]; rfl
set_option maxRecDepth 8000 in
theorem b299_62 (d u : Nat) (x5 : Int) (M : mM) : ev prog (d + 1) 299 u 62 [vr 3, vr 5, vr 87, vr 96, vr 97, vi x5, vj, vj, vj, vj] [] (shp, M) = ev prog (d + 1) 299 u 503 [vr 3, vr 5, vr 87, vr 96, vr 97, vi x5, vj, vj, vj, vj] [] (shp, M) := by rw [ev_eq]; rfl
set_option maxRecDepth 8000 in
theorem b299_59 (d u : Nat) (x5 : Int) (x7 : Int) (M : mM) : ev prog (d + 1) 299 u 59 [vr 3, vr 5, vr 87, vr 96, vr 97, vi x5, vj, vi x7, vj, vj] [] (shp, M) = if 0 ≤ 0 ∧ 0 < 1 then ev prog (d + 1) 299 u 60 [vr 3, vr 5, vr 87, vr 96, vr 97, vi x5, vj, vi x7, vj, vj] [vl (M 96 (Int.toNat 0))] (shp, M) else none := by rw [ev_eq]; rfl
set_option maxRecDepth 8000 in
theorem b299_73 (d u : Nat) (M : mM) : ev prog (d + 1) 299 u 73 [vj, vj, vj, vj, vj, vj, vj, vj, vj, vj] [] (shp, M) = some (.inl (some (vi 0)), (shp, M)) := by rw [ev_eq]; rfl
set_option maxRecDepth 8000 in
theorem b299_85 (d u : Nat) (M : mM) : ev prog (d + 1) 299 u 85 [vj, vj, vj, vj, vj, vj, vj, vj, vj, vj] [] (shp, M) = some (.inl (some (vi 0)), (shp, M)) := by rw [ev_eq]; rfl
set_option maxRecDepth 8000 in
theorem b299_96 (d u : Nat) (x5 : Int) (x6 : Int) (x7 : Int) (s0 : Int) (M : mM) : ev prog (d + 1) 299 u 96 [vr 3, vr 5, vr 87, vr 96, vr 97, vi x5, vi x6, vi x7, vj, vj] [vi s0] (shp, M) = if s0 = x6 then ev prog (d + 1) 299 u 98 [vr 3, vr 5, vr 87, vr 96, vr 97, vi x5, vi x6, vi x7, vj, vj] [] (shp, M) else ev prog (d + 1) 299 u 97 [vj, vj, vj, vj, vj, vj, vj, vj, vj, vj] [] (shp, M) := by rw [ev_eq]; rfl
set_option maxRecDepth 8000 in
theorem b299_112 (d u : Nat) (x5 : Int) (x6 : Int) (x7 : Int) (s0 : Int) (M : mM) : ev prog (d + 1) 299 u 112 [vr 3, vr 5, vr 87, vr 96, vr 97, vi x5, vi x6, vi x7, vj, vj] [vi s0] (shp, M) = if s0 = x6 then ev prog (d + 1) 299 u 114 [vr 3, vr 5, vr 87, vr 96, vr 97, vi x5, vi x6, vi x7, vj, vj] [] (shp, M) else ev prog (d + 1) 299 u 113 [vj, vj, vj, vj, vj, vj, vj, vj, vj, vj] [] (shp, M) := by rw [ev_eq]; rfl
set_option maxRecDepth 8000 in
theorem b299_142 (d u : Nat) (x5 : Int) (M : mM) : ev prog (d + 1) 299 u 142 [vr 3, vr 5, vr 87, vr 96, vr 97, vi x5, vj, vj, vj, vj] [] (shp, M) = ev prog (d + 1) 299 u 503 [vr 3, vr 5, vr 87, vr 96, vr 97, vi x5, vj, vj, vj, vj] [] (shp, M) := by rw [ev_eq]; rfl
set_option maxRecDepth 8000 in
theorem b299_139 (d u : Nat) (x5 : Int) (x7 : Int) (M : mM) : ev prog (d + 1) 299 u 139 [vr 3, vr 5, vr 87, vr 96, vr 97, vi x5, vj, vi x7, vj, vj] [] (shp, M) = if 0 ≤ 0 ∧ 0 < 1 then ev prog (d + 1) 299 u 140 [vr 3, vr 5, vr 87, vr 96, vr 97, vi x5, vj, vi x7, vj, vj] [vl (M 96 (Int.toNat 0))] (shp, M) else none := by rw [ev_eq]; rfl
set_option maxRecDepth 8000 in
theorem b299_153 (d u : Nat) (M : mM) : ev prog (d + 1) 299 u 153 [vj, vj, vj, vj, vj, vj, vj, vj, vj, vj] [] (shp, M) = some (.inl (some (vi 0)), (shp, M)) := by rw [ev_eq]; rfl
set_option maxRecDepth 8000 in
theorem b299_165 (d u : Nat) (M : mM) : ev prog (d + 1) 299 u 165 [vj, vj, vj, vj, vj, vj, vj, vj, vj, vj] [] (shp, M) = some (.inl (some (vi 0)), (shp, M)) := by rw [ev_eq]; rfl
set_option maxRecDepth 8000 in
theorem b299_184 (d u : Nat) (x5 : Int) (M : mM) : ev prog (d + 1) 299 u 184 [vr 3, vr 5, vr 87, vr 96, vr 97, vi x5, vj, vj, vj, vj] [] (shp, M) = ev prog (d + 1) 299 u 503 [vr 3, vr 5, vr 87, vr 96, vr 97, vi x5, vj, vj, vj, vj] [] (shp, M) := by rw [ev_eq]; rfl
set_option maxRecDepth 8000 in
theorem b299_181 (d u : Nat) (x5 : Int) (x7 : Int) (M : mM) : ev prog (d + 1) 299 u 181 [vr 3, vr 5, vr 87, vr 96, vr 97, vi x5, vj, vi x7, vj, vj] [] (shp, M) = if 0 ≤ 0 ∧ 0 < 1 then ev prog (d + 1) 299 u 182 [vr 3, vr 5, vr 87, vr 96, vr 97, vi x5, vj, vi x7, vj, vj] [vl (M 96 (Int.toNat 0))] (shp, M) else none := by rw [ev_eq]; rfl
set_option maxRecDepth 8000 in
theorem b299_195 (d u : Nat) (M : mM) : ev prog (d + 1) 299 u 195 [vj, vj, vj, vj, vj, vj, vj, vj, vj, vj] [] (shp, M) = some (.inl (some (vi 0)), (shp, M)) := by rw [ev_eq]; rfl
set_option maxRecDepth 8000 in
theorem b299_206 (d u : Nat) (x5 : Int) (x6 : Int) (x7 : Int) (s0 : Int) (M : mM) : ev prog (d + 1) 299 u 206 [vr 3, vr 5, vr 87, vr 96, vr 97, vi x5, vi x6, vi x7, vj, vj] [vi s0] (shp, M) = if s0 = x6 then ev prog (d + 1) 299 u 208 [vr 3, vr 5, vr 87, vr 96, vr 97, vi x5, vi x6, vi x7, vj, vj] [] (shp, M) else ev prog (d + 1) 299 u 207 [vj, vj, vj, vj, vj, vj, vj, vj, vj, vj] [] (shp, M) := by rw [ev_eq]; rfl
set_option maxRecDepth 8000 in
theorem b299_226 (d u : Nat) (x5 : Int) (M : mM) : ev prog (d + 1) 299 u 226 [vr 3, vr 5, vr 87, vr 96, vr 97, vi x5, vj, vj, vj, vj] [] (shp, M) = ev prog (d + 1) 299 u 503 [vr 3, vr 5, vr 87, vr 96, vr 97, vi x5, vj, vj, vj, vj] [] (shp, M) := by rw [ev_eq]; rfl
set_option maxRecDepth 8000 in
theorem b299_223 (d u : Nat) (x5 : Int) (x7 : Int) (M : mM) : ev prog (d + 1) 299 u 223 [vr 3, vr 5, vr 87, vr 96, vr 97, vi x5, vj, vi x7, vj, vj] [] (shp, M) = if 0 ≤ 0 ∧ 0 < 1 then ev prog (d + 1) 299 u 224 [vr 3, vr 5, vr 87, vr 96, vr 97, vi x5, vj, vi x7, vj, vj] [vl (M 96 (Int.toNat 0))] (shp, M) else none := by rw [ev_eq]; rfl
set_option maxRecDepth 8000 in
theorem b299_241 (d u : Nat) (M : mM) : ev prog (d + 1) 299 u 241 [vj, vj, vj, vj, vj, vj, vj, vj, vj, vj] [] (shp, M) = some (.inl (some (vi 0)), (shp, M)) := by rw [ev_eq]; rfl
set_option maxRecDepth 8000 in
theorem b299_252 (d u : Nat) (x5 : Int) (x6 : Int) (s0 : Int) (M : mM) : ev prog (d + 1) 299 u 252 [vr 3, vr 5, vr 87, vr 96, vr 97, vi x5, vi x6, vj, vj, vj] [vi s0] (shp, M) = if s0 = x6 then ev prog (d + 1) 299 u 254 [vr 3, vr 5, vr 87, vr 96, vr 97, vi x5, vj, vj, vj, vj] [] (shp, M) else ev prog (d + 1) 299 u 253 [vj, vj, vj, vj, vj, vj, vj, vj, vj, vj] [] (shp, M) := by rw [ev_eq]; rfl
set_option maxRecDepth 8000 in
theorem b299_266 (d u : Nat) (x5 : Int) (x6 : Int) (s1 : Int) (s2 : Int) (M : mM) (h : u + 0 ≤ 3400) : ev prog (d + 1) 299 u 266 [vr 3, vr 5, vr 87, vr 96, vr 97, vi x5, vi x6, vj, vj, vj] [vi s2, vi s1, vr 87] (shp, M) = callK (run prog d 155 [vr 87, vi s1, vi s2] (shp, M)) (fun v σ1 => ev prog (d + 1) 299 (u + 0) 267 [vr 3, vr 5, vr 87, vr 96, vr 97, vi x5, vi x6, vj, vj, vj] (psh v []) σ1) (fun e σ1 => hk [0, 0, 0, 0, 0] e σ1 (fun t => ev prog (d + 1) 299 (u + 0) t (msk (pMask prog 299 t) [vr 3, vr 5, vr 87, vr 96, vr 97, vi x5, vi x6, vj, vj, vj]) [vj] σ1)) := by
  rw [ev_eq]
  show (match ((true && decide (u + 0 ≤ 3400)) && true) with
    | true => _
    | false => none) = _
  rw [decide_eq_true h]
  rfl
set_option maxRecDepth 8000 in
theorem b299_288 (d u : Nat) (M : mM) : ev prog (d + 1) 299 u 288 [vj, vj, vj, vj, vj, vj, vj, vj, vj, vj] [] (shp, M) = some (.inl (some (vi 0)), (shp, M)) := by rw [ev_eq]; rfl
set_option maxRecDepth 8000 in
theorem b299_300 (d u : Nat) (M : mM) : ev prog (d + 1) 299 u 300 [vj, vj, vj, vj, vj, vj, vj, vj, vj, vj] [] (shp, M) = some (.inl (some (vi 0)), (shp, M)) := by rw [ev_eq]; rfl
set_option maxRecDepth 8000 in
theorem b299_312 (d u : Nat) (M : mM) : ev prog (d + 1) 299 u 312 [vj, vj, vj, vj, vj, vj, vj, vj, vj, vj] [] (shp, M) = some (.inl (some (vi 0)), (shp, M)) := by rw [ev_eq]; rfl
set_option maxRecDepth 8000 in
theorem b299_349 (d u : Nat) (M : mM) : ev prog (d + 1) 299 u 349 [vj, vj, vj, vj, vj, vj, vj, vj, vj, vj] [] (shp, M) = some (.inl (some (vi 0)), (shp, M)) := by rw [ev_eq]; rfl
set_option maxRecDepth 8000 in
theorem b299_361 (d u : Nat) (M : mM) : ev prog (d + 1) 299 u 361 [vj, vj, vj, vj, vj, vj, vj, vj, vj, vj] [] (shp, M) = some (.inl (some (vi 0)), (shp, M)) := by rw [ev_eq]; rfl
set_option maxRecDepth 8000 in
theorem b299_382 (d u : Nat) (x5 : Int) (M : mM) : ev prog (d + 1) 299 u 382 [vr 3, vr 5, vr 87, vr 96, vr 97, vi x5, vj, vj, vj, vj] [] (shp, M) = ev prog (d + 1) 299 u 503 [vr 3, vr 5, vr 87, vr 96, vr 97, vi x5, vj, vj, vj, vj] [] (shp, M) := by rw [ev_eq]; rfl
set_option maxRecDepth 8000 in
theorem b299_379 (d u : Nat) (x5 : Int) (x7 : Int) (M : mM) : ev prog (d + 1) 299 u 379 [vr 3, vr 5, vr 87, vr 96, vr 97, vi x5, vj, vi x7, vj, vj] [] (shp, M) = if 0 ≤ 0 ∧ 0 < 1 then ev prog (d + 1) 299 u 380 [vr 3, vr 5, vr 87, vr 96, vr 97, vi x5, vj, vi x7, vj, vj] [vl (M 96 (Int.toNat 0))] (shp, M) else none := by rw [ev_eq]; rfl
set_option maxRecDepth 8000 in
theorem b299_392 (d u : Nat) (x5 : Int) (x6 : Int) (s1 : Int) (s2 : Int) (s3 : Int) (s4 : Int) (M : mM) (h : u + 0 ≤ 3400) : ev prog (d + 1) 299 u 392 [vr 3, vr 5, vr 87, vr 96, vr 97, vi x5, vi x6, vj, vj, vj] [vi s4, vi s3, vi s2, vi s1, vr 87] (shp, M) = callK (run prog d 213 [vr 87, vi s1, vi s2, vi s3, vi s4] (shp, M)) (fun v σ1 => ev prog (d + 1) 299 (u + 0) 393 [vr 3, vr 5, vr 87, vr 96, vr 97, vi x5, vi x6, vj, vj, vj] (psh v []) σ1) (fun e σ1 => hk [0, 0, 0, 0, 0] e σ1 (fun t => ev prog (d + 1) 299 (u + 0) t (msk (pMask prog 299 t) [vr 3, vr 5, vr 87, vr 96, vr 97, vi x5, vi x6, vj, vj, vj]) [vj] σ1)) := by
  rw [ev_eq]
  show (match ((true && decide (u + 0 ≤ 3400)) && true) with
    | true => _
    | false => none) = _
  rw [decide_eq_true h]
  rfl
set_option maxRecDepth 8000 in
theorem b299_411 (d u : Nat) (M : mM) : ev prog (d + 1) 299 u 411 [vj, vj, vj, vj, vj, vj, vj, vj, vj, vj] [] (shp, M) = some (.inl (some (vi 0)), (shp, M)) := by rw [ev_eq]; rfl
set_option maxRecDepth 8000 in
theorem b299_427 (d u : Nat) (x5 : Int) (x7 : UInt64) (M : mM) : ev prog (d + 1) 299 u 427 [vr 3, vr 5, vr 87, vr 96, vr 97, vi x5, vj, vd x7, vj, vj] [] (shp, M) = if 0 ≤ 0 ∧ 0 < 1 then ev prog (d + 1) 299 u 428 [vr 3, vr 5, vr 87, vr 96, vr 97, vi x5, vj, vd x7, vj, vj] [vd (UInt64.ofNat (Int.toNat (M 97 (Int.toNat 0))))] (shp, M) else none := by rw [ev_eq]; rfl
set_option maxRecDepth 8000 in
theorem b299_447 (d u : Nat) (M : mM) : ev prog (d + 1) 299 u 447 [vj, vj, vj, vj, vj, vj, vj, vj, vj, vj] [] (shp, M) = some (.inl (some (vi 0)), (shp, M)) := by rw [ev_eq]; rfl
set_option maxRecDepth 8000 in
theorem b299_460 (d u : Nat) (M : mM) : ev prog (d + 1) 299 u 460 [vj, vj, vj, vj, vj, vj, vj, vj, vj, vj] [] (shp, M) = some (.inl (some (vi 0)), (shp, M)) := by rw [ev_eq]; rfl
set_option maxRecDepth 8000 in
theorem b299_21 (d u : Nat) (x5 : Int) (x6 : Int) (s1 : Int) (s2 : Int) (s3 : Int) (s4 : Int) (M : mM) : ev prog (d + 1) 299 u 21 [vr 3, vr 5, vr 87, vr 96, vr 97, vi x5, vi x6, vj, vj, vj] [vi s4, vi s3, vi s2, vi s1, vr 87] (shp, M) = if 0 ≤ (wr (x5 + 5)) ∧ (wr (x5 + 5)) < M 4 0 then ev prog (d + 1) 299 u 22 [vr 3, vr 5, vr 87, vr 96, vr 97, vi x5, vi x6, vj, vj, vj] [vi (M 3 (Int.toNat (wr (x5 + 5)))), vi s4, vi s3, vi s2, vi s1, vr 87] (shp, M) else none := by rw [ev_eq]; rfl
set_option maxRecDepth 8000 in
theorem b299_60 (d u : Nat) (x5 : Int) (x7 : Int) (s0 : Int) (M : mM) : ev prog (d + 1) 299 u 60 [vr 3, vr 5, vr 87, vr 96, vr 97, vi x5, vj, vi x7, vj, vj] [vl s0] (shp, M) = if (cmpL s0 x7) = 0 then ev prog (d + 1) 299 u 62 [vr 3, vr 5, vr 87, vr 96, vr 97, vi x5, vj, vj, vj, vj] [] (shp, M) else ev prog (d + 1) 299 u 61 [vj, vj, vj, vj, vj, vj, vj, vj, vj, vj] [] (shp, M) := by rw [ev_eq]; rfl
set_option maxRecDepth 8000 in
theorem b299_98 (d u : Nat) (x5 : Int) (x6 : Int) (x7 : Int) (M : mM) : ev prog (d + 1) 299 u 98 [vr 3, vr 5, vr 87, vr 96, vr 97, vi x5, vi x6, vi x7, vj, vj] [] (shp, M) = if x6 = 0 then ev prog (d + 1) 299 u 99 [vr 3, vr 5, vr 87, vr 96, vr 97, vi x5, vj, vi x7, vj, vj] [] (shp, M) else ev prog (d + 1) 299 u 102 [vr 3, vr 5, vr 87, vr 96, vr 97, vi x5, vj, vj, vj, vj] [] (shp, M) := by rw [ev_eq]; rfl
set_option maxRecDepth 8000 in
theorem b299_97 (d u : Nat) (M : mM) : ev prog (d + 1) 299 u 97 [vj, vj, vj, vj, vj, vj, vj, vj, vj, vj] [] (shp, M) = some (.inl (some (vi 0)), (shp, M)) := by rw [ev_eq]; rfl
set_option maxRecDepth 8000 in
theorem b299_114 (d u : Nat) (x5 : Int) (x6 : Int) (x7 : Int) (M : mM) : ev prog (d + 1) 299 u 114 [vr 3, vr 5, vr 87, vr 96, vr 97, vi x5, vi x6, vi x7, vj, vj] [] (shp, M) = if x6 = 0 then ev prog (d + 1) 299 u 115 [vr 3, vr 5, vr 87, vr 96, vr 97, vi x5, vj, vi x7, vj, vj] [] (shp, M) else ev prog (d + 1) 299 u 118 [vr 3, vr 5, vr 87, vr 96, vr 97, vi x5, vj, vj, vj, vj] [] (shp, M) := by rw [ev_eq]; rfl
set_option maxRecDepth 8000 in
theorem b299_113 (d u : Nat) (M : mM) : ev prog (d + 1) 299 u 113 [vj, vj, vj, vj, vj, vj, vj, vj, vj, vj] [] (shp, M) = some (.inl (some (vi 0)), (shp, M)) := by rw [ev_eq]; rfl
set_option maxRecDepth 8000 in
theorem b299_140 (d u : Nat) (x5 : Int) (x7 : Int) (s0 : Int) (M : mM) : ev prog (d + 1) 299 u 140 [vr 3, vr 5, vr 87, vr 96, vr 97, vi x5, vj, vi x7, vj, vj] [vl s0] (shp, M) = if (cmpL s0 x7) = 0 then ev prog (d + 1) 299 u 142 [vr 3, vr 5, vr 87, vr 96, vr 97, vi x5, vj, vj, vj, vj] [] (shp, M) else ev prog (d + 1) 299 u 141 [vj, vj, vj, vj, vj, vj, vj, vj, vj, vj] [] (shp, M) := by rw [ev_eq]; rfl
set_option maxRecDepth 8000 in
theorem b299_182 (d u : Nat) (x5 : Int) (x7 : Int) (s0 : Int) (M : mM) : ev prog (d + 1) 299 u 182 [vr 3, vr 5, vr 87, vr 96, vr 97, vi x5, vj, vi x7, vj, vj] [vl s0] (shp, M) = if (cmpL s0 x7) = 0 then ev prog (d + 1) 299 u 184 [vr 3, vr 5, vr 87, vr 96, vr 97, vi x5, vj, vj, vj, vj] [] (shp, M) else ev prog (d + 1) 299 u 183 [vj, vj, vj, vj, vj, vj, vj, vj, vj, vj] [] (shp, M) := by rw [ev_eq]; rfl
set_option maxRecDepth 8000 in
theorem b299_208 (d u : Nat) (x5 : Int) (x6 : Int) (x7 : Int) (M : mM) : ev prog (d + 1) 299 u 208 [vr 3, vr 5, vr 87, vr 96, vr 97, vi x5, vi x6, vi x7, vj, vj] [] (shp, M) = if x6 = 0 then ev prog (d + 1) 299 u 209 [vr 3, vr 5, vr 87, vr 96, vr 97, vi x5, vj, vi x7, vj, vj] [] (shp, M) else ev prog (d + 1) 299 u 212 [vr 3, vr 5, vr 87, vr 96, vr 97, vi x5, vj, vj, vj, vj] [] (shp, M) := by rw [ev_eq]; rfl
set_option maxRecDepth 8000 in
theorem b299_207 (d u : Nat) (M : mM) : ev prog (d + 1) 299 u 207 [vj, vj, vj, vj, vj, vj, vj, vj, vj, vj] [] (shp, M) = some (.inl (some (vi 0)), (shp, M)) := by rw [ev_eq]; rfl
set_option maxRecDepth 8000 in
theorem b299_224 (d u : Nat) (x5 : Int) (x7 : Int) (s0 : Int) (M : mM) : ev prog (d + 1) 299 u 224 [vr 3, vr 5, vr 87, vr 96, vr 97, vi x5, vj, vi x7, vj, vj] [vl s0] (shp, M) = if (cmpL s0 x7) = 0 then ev prog (d + 1) 299 u 226 [vr 3, vr 5, vr 87, vr 96, vr 97, vi x5, vj, vj, vj, vj] [] (shp, M) else ev prog (d + 1) 299 u 225 [vj, vj, vj, vj, vj, vj, vj, vj, vj, vj] [] (shp, M) := by rw [ev_eq]; rfl
set_option maxRecDepth 8000 in
theorem b299_254 (d u : Nat) (x5 : Int) (M : mM) : ev prog (d + 1) 299 u 254 [vr 3, vr 5, vr 87, vr 96, vr 97, vi x5, vj, vj, vj, vj] [] (shp, M) = ev prog (d + 1) 299 u 503 [vr 3, vr 5, vr 87, vr 96, vr 97, vi x5, vj, vj, vj, vj] [] (shp, M) := by rw [ev_eq]; rfl
set_option maxRecDepth 8000 in
theorem b299_253 (d u : Nat) (M : mM) : ev prog (d + 1) 299 u 253 [vj, vj, vj, vj, vj, vj, vj, vj, vj, vj] [] (shp, M) = some (.inl (some (vi 0)), (shp, M)) := by rw [ev_eq]; rfl
set_option maxRecDepth 8000 in
theorem b299_267 (d u : Nat) (x5 : Int) (x6 : Int) (s0 : Int) (M : mM) (h : u + 0 ≤ 3400) : ev prog (d + 1) 299 u 267 [vr 3, vr 5, vr 87, vr 96, vr 97, vi x5, vi x6, vj, vj, vj] [vi s0] (shp, M) = callK (run prog d 67 [vr 87] (shp, M)) (fun v σ1 => ev prog (d + 1) 299 (u + 0) 268 [vr 3, vr 5, vr 87, vr 96, vr 97, vi x5, vi x6, vi s0, vj, vj] (psh v []) σ1) (fun e σ1 => hk [0, 0, 0, 0, 0] e σ1 (fun t => ev prog (d + 1) 299 (u + 0) t (msk (pMask prog 299 t) [vr 3, vr 5, vr 87, vr 96, vr 97, vi x5, vi x6, vi s0, vj, vj]) [vj] σ1)) := by
  rw [ev_eq]
  show (match ((true && decide (u + 0 ≤ 3400)) && true) with
    | true => _
    | false => none) = _
  rw [decide_eq_true h]
  rfl
set_option maxRecDepth 8000 in
theorem b299_380 (d u : Nat) (x5 : Int) (x7 : Int) (s0 : Int) (M : mM) : ev prog (d + 1) 299 u 380 [vr 3, vr 5, vr 87, vr 96, vr 97, vi x5, vj, vi x7, vj, vj] [vl s0] (shp, M) = if (cmpL s0 x7) = 0 then ev prog (d + 1) 299 u 382 [vr 3, vr 5, vr 87, vr 96, vr 97, vi x5, vj, vj, vj, vj] [] (shp, M) else ev prog (d + 1) 299 u 381 [vj, vj, vj, vj, vj, vj, vj, vj, vj, vj] [] (shp, M) := by rw [ev_eq]; rfl
set_option maxRecDepth 8000 in
theorem b299_393 (d u : Nat) (x5 : Int) (x6 : Int) (M : mM) (h : u + 0 ≤ 3400) : ev prog (d + 1) 299 u 393 [vr 3, vr 5, vr 87, vr 96, vr 97, vi x5, vi x6, vj, vj, vj] [] (shp, M) = callK (run prog d 67 [vr 87] (shp, M)) (fun v σ1 => ev prog (d + 1) 299 (u + 0) 394 [vr 3, vr 5, vr 87, vr 96, vr 97, vi x5, vi x6, vj, vj, vj] (psh v []) σ1) (fun e σ1 => hk [0, 0, 0, 0, 0] e σ1 (fun t => ev prog (d + 1) 299 (u + 0) t (msk (pMask prog 299 t) [vr 3, vr 5, vr 87, vr 96, vr 97, vi x5, vi x6, vj, vj, vj]) [vj] σ1)) := by
  rw [ev_eq]
  show (match ((true && decide (u + 0 ≤ 3400)) && true) with
    | true => _
    | false => none) = _
  rw [decide_eq_true h]
  rfl
set_option maxRecDepth 8000 in
theorem b299_428 (d u : Nat) (x5 : Int) (x7 : UInt64) (s0 : UInt64) (M : mM) : ev prog (d + 1) 299 u 428 [vr 3, vr 5, vr 87, vr 96, vr 97, vi x5, vj, vd x7, vj, vj] [vd s0] (shp, M) = if 0 ≤ 0 ∧ 0 < 1 then ev prog (d + 1) 299 u 429 [vr 3, vr 5, vr 87, vr 96, vr 97, vi x5, vj, vd x7, vj, vj] [vd (UInt64.ofNat (Int.toNat (M 97 (Int.toNat 0)))), vd s0] (shp, M) else none := by rw [ev_eq]; rfl
set_option maxRecDepth 8000 in
theorem b299_22 (d u : Nat) (x5 : Int) (x6 : Int) (s1 : Int) (s2 : Int) (s3 : Int) (s4 : Int) (s5 : Int) (M : mM) (h : u + 0 ≤ 3400) : ev prog (d + 1) 299 u 22 [vr 3, vr 5, vr 87, vr 96, vr 97, vi x5, vi x6, vj, vj, vj] [vi s5, vi s4, vi s3, vi s2, vi s1, vr 87] (shp, M) = callK (run prog d 66 [vr 87, vi s1, vi s2, vi s3, vi s4, vi s5] (shp, M)) (fun v σ1 => ev prog (d + 1) 299 (u + 0) 23 [vr 3, vr 5, vr 87, vr 96, vr 97, vi x5, vi x6, vj, vj, vj] (psh v []) σ1) (fun e σ1 => hk [0, 0, 0, 0, 0] e σ1 (fun t => ev prog (d + 1) 299 (u + 0) t (msk (pMask prog 299 t) [vr 3, vr 5, vr 87, vr 96, vr 97, vi x5, vi x6, vj, vj, vj]) [vj] σ1)) := by
  rw [ev_eq]
  show (match ((true && decide (u + 0 ≤ 3400)) && true) with
    | true => _
    | false => none) = _
  rw [decide_eq_true h]
  rfl
set_option maxRecDepth 8000 in
theorem b299_61 (d u : Nat) (M : mM) : ev prog (d + 1) 299 u 61 [vj, vj, vj, vj, vj, vj, vj, vj, vj, vj] [] (shp, M) = some (.inl (some (vi 0)), (shp, M)) := by rw [ev_eq]; rfl
set_option maxRecDepth 8000 in
theorem b299_102 (d u : Nat) (x5 : Int) (M : mM) : ev prog (d + 1) 299 u 102 [vr 3, vr 5, vr 87, vr 96, vr 97, vi x5, vj, vj, vj, vj] [] (shp, M) = ev prog (d + 1) 299 u 503 [vr 3, vr 5, vr 87, vr 96, vr 97, vi x5, vj, vj, vj, vj] [] (shp, M) := by rw [ev_eq]; rfl
set_option maxRecDepth 8000 in
theorem b299_99 (d u : Nat) (x5 : Int) (x7 : Int) (M : mM) : ev prog (d + 1) 299 u 99 [vr 3, vr 5, vr 87, vr 96, vr 97, vi x5, vj, vi x7, vj, vj] [] (shp, M) = if 0 ≤ 0 ∧ 0 < 1 then ev prog (d + 1) 299 u 100 [vr 3, vr 5, vr 87, vr 96, vr 97, vi x5, vj, vi x7, vj, vj] [vl (M 96 (Int.toNat 0))] (shp, M) else none := by rw [ev_eq]; rfl
set_option maxRecDepth 8000 in
theorem b299_118 (d u : Nat) (x5 : Int) (M : mM) : ev prog (d + 1) 299 u 118 [vr 3, vr 5, vr 87, vr 96, vr 97, vi x5, vj, vj, vj, vj] [] (shp, M) = ev prog (d + 1) 299 u 503 [vr 3, vr 5, vr 87, vr 96, vr 97, vi x5, vj, vj, vj, vj] [] (shp, M) := by rw [ev_eq]; rfl
set_option maxRecDepth 8000 in
theorem b299_115 (d u : Nat) (x5 : Int) (x7 : Int) (M : mM) : ev prog (d + 1) 299 u 115 [vr 3, vr 5, vr 87, vr 96, vr 97, vi x5, vj, vi x7, vj, vj] [] (shp, M) = if 0 ≤ 0 ∧ 0 < 1 then ev prog (d + 1) 299 u 116 [vr 3, vr 5, vr 87, vr 96, vr 97, vi x5, vj, vi x7, vj, vj] [vl (M 96 (Int.toNat 0))] (shp, M) else none := by rw [ev_eq]; rfl
set_option maxRecDepth 8000 in
theorem b299_141 (d u : Nat) (M : mM) : ev prog (d + 1) 299 u 141 [vj, vj, vj, vj, vj, vj, vj, vj, vj, vj] [] (shp, M) = some (.inl (some (vi 0)), (shp, M)) := by rw [ev_eq]; rfl
set_option maxRecDepth 8000 in
theorem b299_183 (d u : Nat) (M : mM) : ev prog (d + 1) 299 u 183 [vj, vj, vj, vj, vj, vj, vj, vj, vj, vj] [] (shp, M) = some (.inl (some (vi 0)), (shp, M)) := by rw [ev_eq]; rfl
set_option maxRecDepth 8000 in
theorem b299_212 (d u : Nat) (x5 : Int) (M : mM) : ev prog (d + 1) 299 u 212 [vr 3, vr 5, vr 87, vr 96, vr 97, vi x5, vj, vj, vj, vj] [] (shp, M) = ev prog (d + 1) 299 u 503 [vr 3, vr 5, vr 87, vr 96, vr 97, vi x5, vj, vj, vj, vj] [] (shp, M) := by rw [ev_eq]; rfl
set_option maxRecDepth 8000 in
theorem b299_209 (d u : Nat) (x5 : Int) (x7 : Int) (M : mM) : ev prog (d + 1) 299 u 209 [vr 3, vr 5, vr 87, vr 96, vr 97, vi x5, vj, vi x7, vj, vj] [] (shp, M) = if 0 ≤ 0 ∧ 0 < 1 then ev prog (d + 1) 299 u 210 [vr 3, vr 5, vr 87, vr 96, vr 97, vi x5, vj, vi x7, vj, vj] [vl (M 96 (Int.toNat 0))] (shp, M) else none := by rw [ev_eq]; rfl
set_option maxRecDepth 8000 in
theorem b299_225 (d u : Nat) (M : mM) : ev prog (d + 1) 299 u 225 [vj, vj, vj, vj, vj, vj, vj, vj, vj, vj] [] (shp, M) = some (.inl (some (vi 0)), (shp, M)) := by rw [ev_eq]; rfl
set_option maxRecDepth 8000 in
theorem b299_268 (d u : Nat) (x5 : Int) (x6 : Int) (x7 : Int) (s0 : Int) (M : mM) : ev prog (d + 1) 299 u 268 [vr 3, vr 5, vr 87, vr 96, vr 97, vi x5, vi x6, vi x7, vj, vj] [vi s0] (shp, M) = if s0 = x6 then ev prog (d + 1) 299 u 270 [vr 3, vr 5, vr 87, vr 96, vr 97, vi x5, vi x6, vi x7, vj, vj] [] (shp, M) else ev prog (d + 1) 299 u 269 [vj, vj, vj, vj, vj, vj, vj, vj, vj, vj] [] (shp, M) := by rw [ev_eq]; rfl
set_option maxRecDepth 8000 in
theorem b299_381 (d u : Nat) (M : mM) : ev prog (d + 1) 299 u 381 [vj, vj, vj, vj, vj, vj, vj, vj, vj, vj] [] (shp, M) = some (.inl (some (vi 0)), (shp, M)) := by rw [ev_eq]; rfl
set_option maxRecDepth 8000 in
theorem b299_394 (d u : Nat) (x5 : Int) (x6 : Int) (s0 : Int) (M : mM) : ev prog (d + 1) 299 u 394 [vr 3, vr 5, vr 87, vr 96, vr 97, vi x5, vi x6, vj, vj, vj] [vi s0] (shp, M) = if s0 = x6 then ev prog (d + 1) 299 u 396 [vr 3, vr 5, vr 87, vr 96, vr 97, vi x5, vj, vj, vj, vj] [] (shp, M) else ev prog (d + 1) 299 u 395 [vj, vj, vj, vj, vj, vj, vj, vj, vj, vj] [] (shp, M) := by rw [ev_eq]; rfl
set_option maxRecDepth 8000 in
theorem b299_429 (d u : Nat) (x5 : Int) (x7 : UInt64) (s0 : UInt64) (s1 : UInt64) (M : mM) : ev prog (d + 1) 299 u 429 [vr 3, vr 5, vr 87, vr 96, vr 97, vi x5, vj, vd x7, vj, vj] [vd s1, vd s0] (shp, M) = if ((Op.cmpValue (FP.dcmp s0 s1) .l).toInt) = 0 then ev prog (d + 1) 299 u 431 [vj, vj, vj, vj, vj, vj, vj, vj, vj, vj] [] (shp, M) else ev prog (d + 1) 299 u 430 [vr 3, vr 5, vr 87, vr 96, vr 97, vi x5, vj, vd x7, vj, vj] [] (shp, M) := by rw [ev_eq]; rfl
set_option maxRecDepth 8000 in
theorem b299_23 (d u : Nat) (x5 : Int) (x6 : Int) (s0 : Int) (M : mM) (h : u + 0 ≤ 3400) : ev prog (d + 1) 299 u 23 [vr 3, vr 5, vr 87, vr 96, vr 97, vi x5, vi x6, vj, vj, vj] [vi s0] (shp, M) = callK (run prog d 67 [vr 87] (shp, M)) (fun v σ1 => ev prog (d + 1) 299 (u + 0) 24 [vr 3, vr 5, vr 87, vr 96, vr 97, vi x5, vi x6, vi s0, vj, vj] (psh v []) σ1) (fun e σ1 => hk [0, 0, 0, 0, 0] e σ1 (fun t => ev prog (d + 1) 299 (u + 0) t (msk (pMask prog 299 t) [vr 3, vr 5, vr 87, vr 96, vr 97, vi x5, vi x6, vi s0, vj, vj]) [vj] σ1)) := by
  rw [ev_eq]
  show (match ((true && decide (u + 0 ≤ 3400)) && true) with
    | true => _
    | false => none) = _
  rw [decide_eq_true h]
  rfl
set_option maxRecDepth 8000 in
theorem b299_100 (d u : Nat) (x5 : Int) (x7 : Int) (s0 : Int) (M : mM) : ev prog (d + 1) 299 u 100 [vr 3, vr 5, vr 87, vr 96, vr 97, vi x5, vj, vi x7, vj, vj] [vl s0] (shp, M) = if (cmpL s0 x7) = 0 then ev prog (d + 1) 299 u 102 [vr 3, vr 5, vr 87, vr 96, vr 97, vi x5, vj, vj, vj, vj] [] (shp, M) else ev prog (d + 1) 299 u 101 [vj, vj, vj, vj, vj, vj, vj, vj, vj, vj] [] (shp, M) := by rw [ev_eq]; rfl
set_option maxRecDepth 8000 in
theorem b299_116 (d u : Nat) (x5 : Int) (x7 : Int) (s0 : Int) (M : mM) : ev prog (d + 1) 299 u 116 [vr 3, vr 5, vr 87, vr 96, vr 97, vi x5, vj, vi x7, vj, vj] [vl s0] (shp, M) = if (cmpL s0 x7) = 0 then ev prog (d + 1) 299 u 118 [vr 3, vr 5, vr 87, vr 96, vr 97, vi x5, vj, vj, vj, vj] [] (shp, M) else ev prog (d + 1) 299 u 117 [vj, vj, vj, vj, vj, vj, vj, vj, vj, vj] [] (shp, M) := by rw [ev_eq]; rfl
set_option maxRecDepth 8000 in
theorem b299_210 (d u : Nat) (x5 : Int) (x7 : Int) (s0 : Int) (M : mM) : ev prog (d + 1) 299 u 210 [vr 3, vr 5, vr 87, vr 96, vr 97, vi x5, vj, vi x7, vj, vj] [vl s0] (shp, M) = if (cmpL s0 x7) = 0 then ev prog (d + 1) 299 u 212 [vr 3, vr 5, vr 87, vr 96, vr 97, vi x5, vj, vj, vj, vj] [] (shp, M) else ev prog (d + 1) 299 u 211 [vj, vj, vj, vj, vj, vj, vj, vj, vj, vj] [] (shp, M) := by rw [ev_eq]; rfl
set_option maxRecDepth 8000 in
theorem b299_270 (d u : Nat) (x5 : Int) (x6 : Int) (x7 : Int) (M : mM) : ev prog (d + 1) 299 u 270 [vr 3, vr 5, vr 87, vr 96, vr 97, vi x5, vi x6, vi x7, vj, vj] [] (shp, M) = if x6 = 0 then ev prog (d + 1) 299 u 271 [vr 3, vr 5, vr 87, vr 96, vr 97, vi x5, vj, vi x7, vj, vj] [] (shp, M) else ev prog (d + 1) 299 u 277 [vr 3, vr 5, vr 87, vr 96, vr 97, vi x5, vj, vj, vj, vj] [] (shp, M) := by rw [ev_eq]; rfl
set_option maxRecDepth 8000 in
theorem b299_269 (d u : Nat) (M : mM) : ev prog (d + 1) 299 u 269 [vj, vj, vj, vj, vj, vj, vj, vj, vj, vj] [] (shp, M) = some (.inl (some (vi 0)), (shp, M)) := by rw [ev_eq]; rfl
set_option maxRecDepth 8000 in
theorem b299_396 (d u : Nat) (x5 : Int) (M : mM) : ev prog (d + 1) 299 u 396 [vr 3, vr 5, vr 87, vr 96, vr 97, vi x5, vj, vj, vj, vj] [] (shp, M) = ev prog (d + 1) 299 u 503 [vr 3, vr 5, vr 87, vr 96, vr 97, vi x5, vj, vj, vj, vj] [] (shp, M) := by rw [ev_eq]; rfl
set_option maxRecDepth 8000 in
theorem b299_395 (d u : Nat) (M : mM) : ev prog (d + 1) 299 u 395 [vj, vj, vj, vj, vj, vj, vj, vj, vj, vj] [] (shp, M) = some (.inl (some (vi 0)), (shp, M)) := by rw [ev_eq]; rfl
set_option maxRecDepth 8000 in
theorem b299_431 (d u : Nat) (M : mM) : ev prog (d + 1) 299 u 431 [vj, vj, vj, vj, vj, vj, vj, vj, vj, vj] [] (shp, M) = some (.inl (some (vi 0)), (shp, M)) := by rw [ev_eq]; rfl
set_option maxRecDepth 8000 in
theorem b299_430 (d u : Nat) (x5 : Int) (x7 : UInt64) (M : mM) : ev prog (d + 1) 299 u 430 [vr 3, vr 5, vr 87, vr 96, vr 97, vi x5, vj, vd x7, vj, vj] [] (shp, M) = if ((Op.cmpValue (FP.dcmp x7 x7) .l).toInt) = 0 then ev prog (d + 1) 299 u 431 [vj, vj, vj, vj, vj, vj, vj, vj, vj, vj] [] (shp, M) else ev prog (d + 1) 299 u 432 [vr 3, vr 5, vr 87, vr 96, vr 97, vi x5, vj, vj, vj, vj] [] (shp, M) := by rw [ev_eq]; rfl
set_option maxRecDepth 8000 in
theorem b299_24 (d u : Nat) (x5 : Int) (x6 : Int) (x7 : Int) (s0 : Int) (M : mM) : ev prog (d + 1) 299 u 24 [vr 3, vr 5, vr 87, vr 96, vr 97, vi x5, vi x6, vi x7, vj, vj] [vi s0] (shp, M) = if s0 = x6 then ev prog (d + 1) 299 u 26 [vr 3, vr 5, vr 87, vr 96, vr 97, vi x5, vi x6, vi x7, vj, vj] [] (shp, M) else ev prog (d + 1) 299 u 25 [vj, vj, vj, vj, vj, vj, vj, vj, vj, vj] [] (shp, M) := by rw [ev_eq]; rfl
set_option maxRecDepth 8000 in
theorem b299_101 (d u : Nat) (M : mM) : ev prog (d + 1) 299 u 101 [vj, vj, vj, vj, vj, vj, vj, vj, vj, vj] [] (shp, M) = some (.inl (some (vi 0)), (shp, M)) := by rw [ev_eq]; rfl
set_option maxRecDepth 8000 in
theorem b299_117 (d u : Nat) (M : mM) : ev prog (d + 1) 299 u 117 [vj, vj, vj, vj, vj, vj, vj, vj, vj, vj] [] (shp, M) = some (.inl (some (vi 0)), (shp, M)) := by rw [ev_eq]; rfl
set_option maxRecDepth 8000 in
theorem b299_211 (d u : Nat) (M : mM) : ev prog (d + 1) 299 u 211 [vj, vj, vj, vj, vj, vj, vj, vj, vj, vj] [] (shp, M) = some (.inl (some (vi 0)), (shp, M)) := by rw [ev_eq]; rfl
set_option maxRecDepth 8000 in
theorem b299_277 (d u : Nat) (x5 : Int) (M : mM) : ev prog (d + 1) 299 u 277 [vr 3, vr 5, vr 87, vr 96, vr 97, vi x5, vj, vj, vj, vj] [] (shp, M) = ev prog (d + 1) 299 u 503 [vr 3, vr 5, vr 87, vr 96, vr 97, vi x5, vj, vj, vj, vj] [] (shp, M) := by rw [ev_eq]; rfl
set_option maxRecDepth 8000 in
theorem b299_271 (d u : Nat) (x5 : Int) (x7 : Int) (M : mM) : ev prog (d + 1) 299 u 271 [vr 3, vr 5, vr 87, vr 96, vr 97, vi x5, vj, vi x7, vj, vj] [] (shp, M) = if 0 ≤ 0 ∧ 0 < 1 then ev prog (d + 1) 299 u 272 [vr 3, vr 5, vr 87, vr 96, vr 97, vi x5, vj, vi x7, vj, vj] [vl (M 96 (Int.toNat 0))] (shp, M) else none := by rw [ev_eq]; rfl
set_option maxRecDepth 8000 in
theorem b299_26 (d u : Nat) (x5 : Int) (x6 : Int) (x7 : Int) (M : mM) : ev prog (d + 1) 299 u 26 [vr 3, vr 5, vr 87, vr 96, vr 97, vi x5, vi x6, vi x7, vj, vj] [] (shp, M) = if x6 = 0 then ev prog (d + 1) 299 u 27 [vr 3, vr 5, vr 87, vr 96, vr 97, vi x5, vj, vi x7, vj, vj] [] (shp, M) else ev prog (d + 1) 299 u 30 [vr 3, vr 5, vr 87, vr 96, vr 97, vi x5, vj, vj, vj, vj] [] (shp, M) := by rw [ev_eq]; rfl
set_option maxRecDepth 8000 in
theorem b299_25 (d u : Nat) (M : mM) : ev prog (d + 1) 299 u 25 [vj, vj, vj, vj, vj, vj, vj, vj, vj, vj] [] (shp, M) = some (.inl (some (vi 0)), (shp, M)) := by rw [ev_eq]; rfl
set_option maxRecDepth 8000 in
theorem b299_272 (d u : Nat) (x5 : Int) (x7 : Int) (s0 : Int) (M : mM) : ev prog (d + 1) 299 u 272 [vr 3, vr 5, vr 87, vr 96, vr 97, vi x5, vj, vi x7, vj, vj] [vl s0] (shp, M) = if x7 = 0 then ev prog (d + 1) 299 u 274 [vr 3, vr 5, vr 87, vr 96, vr 97, vi x5, vj, vj, vj, vj] [vl s0] (shp, M) else ev prog (d + 1) 299 u 273 [vr 3, vr 5, vr 87, vr 96, vr 97, vi x5, vj, vj, vj, vj] [vl s0] (shp, M) := by rw [ev_eq]; rfl
set_option maxRecDepth 8000 in
theorem b299_30 (d u : Nat) (x5 : Int) (M : mM) : ev prog (d + 1) 299 u 30 [vr 3, vr 5, vr 87, vr 96, vr 97, vi x5, vj, vj, vj, vj] [] (shp, M) = ev prog (d + 1) 299 u 503 [vr 3, vr 5, vr 87, vr 96, vr 97, vi x5, vj, vj, vj, vj] [] (shp, M) := by rw [ev_eq]; rfl
set_option maxRecDepth 8000 in
theorem b299_27 (d u : Nat) (x5 : Int) (x7 : Int) (M : mM) : ev prog (d + 1) 299 u 27 [vr 3, vr 5, vr 87, vr 96, vr 97, vi x5, vj, vi x7, vj, vj] [] (shp, M) = if 0 ≤ 0 ∧ 0 < 1 then ev prog (d + 1) 299 u 28 [vr 3, vr 5, vr 87, vr 96, vr 97, vi x5, vj, vi x7, vj, vj] [vl (M 96 (Int.toNat 0))] (shp, M) else none := by rw [ev_eq]; rfl
set_option maxRecDepth 8000 in
theorem b299_274 (d u : Nat) (x5 : Int) (s0 : Int) (M : mM) : ev prog (d + 1) 299 u 274 [vr 3, vr 5, vr 87, vr 96, vr 97, vi x5, vj, vj, vj, vj] [vl s0] (shp, M) = ev prog (d + 1) 299 u 275 [vr 3, vr 5, vr 87, vr 96, vr 97, vi x5, vj, vj, vj, vj] [vl 0, vl s0] (shp, M) := by rw [ev_eq]; rfl
set_option maxRecDepth 8000 in
theorem b299_273 (d u : Nat) (x5 : Int) (s0 : Int) (M : mM) : ev prog (d + 1) 299 u 273 [vr 3, vr 5, vr 87, vr 96, vr 97, vi x5, vj, vj, vj, vj] [vl s0] (shp, M) = ev prog (d + 1) 299 u 275 [vr 3, vr 5, vr 87, vr 96, vr 97, vi x5, vj, vj, vj, vj] [vl 1, vl s0] (shp, M) := by rw [ev_eq]; rfl
set_option maxRecDepth 8000 in
theorem b299_28 (d u : Nat) (x5 : Int) (x7 : Int) (s0 : Int) (M : mM) : ev prog (d + 1) 299 u 28 [vr 3, vr 5, vr 87, vr 96, vr 97, vi x5, vj, vi x7, vj, vj] [vl s0] (shp, M) = if (cmpL s0 x7) = 0 then ev prog (d + 1) 299 u 30 [vr 3, vr 5, vr 87, vr 96, vr 97, vi x5, vj, vj, vj, vj] [] (shp, M) else ev prog (d + 1) 299 u 29 [vj, vj, vj, vj, vj, vj, vj, vj, vj, vj] [] (shp, M) := by rw [ev_eq]; rfl
set_option maxRecDepth 8000 in
theorem b299_275 (d u : Nat) (x5 : Int) (s0 : Int) (s1 : Int) (M : mM) : ev prog (d + 1) 299 u 275 [vr 3, vr 5, vr 87, vr 96, vr 97, vi x5, vj, vj, vj, vj] [vl s1, vl s0] (shp, M) = if (cmpL s0 s1) = 0 then ev prog (d + 1) 299 u 277 [vr 3, vr 5, vr 87, vr 96, vr 97, vi x5, vj, vj, vj, vj] [] (shp, M) else ev prog (d + 1) 299 u 276 [vj, vj, vj, vj, vj, vj, vj, vj, vj, vj] [] (shp, M) := by rw [ev_eq]; rfl
set_option maxRecDepth 8000 in
theorem b299_29 (d u : Nat) (M : mM) : ev prog (d + 1) 299 u 29 [vj, vj, vj, vj, vj, vj, vj, vj, vj, vj] [] (shp, M) = some (.inl (some (vi 0)), (shp, M)) := by rw [ev_eq]; rfl
set_option maxRecDepth 8000 in
theorem b299_276 (d u : Nat) (M : mM) : ev prog (d + 1) 299 u 276 [vj, vj, vj, vj, vj, vj, vj, vj, vj, vj] [] (shp, M) = some (.inl (some (vi 0)), (shp, M)) := by rw [ev_eq]; rfl
