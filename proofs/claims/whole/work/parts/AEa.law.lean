/-! THE LAW, BLOCKS, 0 -/
set_option maxRecDepth 8000 in
theorem b299_7 (d u : Nat) (x5 : Int) (M : mM) : ev prog (d + 1) 299 u 7 [vr 3, vr 5, vr 87, vr 96, vr 97, vi x5, vj, vj, vj, vj] [] (shp, M) = ev prog (d + 1) 299 u 8 [vr 3, vr 5, vr 87, vr 96, vr 97, vi x5, vj, vj, vj, vj] [vi (M 4 0), vi x5] (shp, M) := by rw [ev_eq]; rfl
set_option maxRecDepth 8000 in
theorem b299_8 (d u : Nat) (x5 : Int) (s0 : Int) (s1 : Int) (M : mM) : ev prog (d + 1) 299 u 8 [vr 3, vr 5, vr 87, vr 96, vr 97, vi x5, vj, vj, vj, vj] [vi s1, vi s0] (shp, M) = if (wr (s1 - 6)) < s0 then ev prog (d + 1) 299 u 504 [vj, vj, vj, vj, vj, vj, vj, vj, vj, vj] [] (shp, M) else ev prog (d + 1) 299 u 9 [vr 3, vr 5, vr 87, vr 96, vr 97, vi x5, vj, vj, vj, vj] [] (shp, M) := by rw [ev_eq]; rfl
set_option maxRecDepth 8000 in
theorem b299_504 (d u : Nat) (M : mM) : ev prog (d + 1) 299 u 504 [vj, vj, vj, vj, vj, vj, vj, vj, vj, vj] [] (shp, M) = some (.inl (some (vi 1)), (shp, M)) := by rw [ev_eq]; rfl
set_option maxRecDepth 8000 in
theorem b299_9 (d u : Nat) (x5 : Int) (M : mM) : ev prog (d + 1) 299 u 9 [vr 3, vr 5, vr 87, vr 96, vr 97, vi x5, vj, vj, vj, vj] [] (shp, M) = if 0 ≤ x5 ∧ x5 < M 4 0 then ev prog (d + 1) 299 u 10 [vr 3, vr 5, vr 87, vr 96, vr 97, vi x5, vj, vj, vj, vj] [vi (M 3 (Int.toNat x5))] (shp, M) else none := by rw [ev_eq]; rfl
def sw299 : Nat → Nat := fun c => [11, 31, 43, 49, 63, 75, 87, 103, 119, 129, 143, 155, 167, 171, 185, 197, 213, 227, 231, 243, 255, 278, 290, 302, 314, 324, 330, 339, 351, 363, 369, 383, 397, 401, 413, 417, 433, 437, 449, 462, 472, 480, 490, 494, 497].getD c 503
set_option maxRecDepth 8000 in
theorem b299_10 (d u : Nat) (x5 : Int) (s0 : Int) (M : mM) : ev prog (d + 1) 299 u 10 [vr 3, vr 5, vr 87, vr 96, vr 97, vi x5, vj, vj, vj, vj] [vi s0] (shp, M) = ev prog (d + 1) 299 u (swT 0 [11, 31, 43, 49, 63, 75, 87, 103, 119, 129, 143, 155, 167, 171, 185, 197, 213, 227, 231, 243, 255, 278, 290, 302, 314, 324, 330, 339, 351, 363, 369, 383, 397, 401, 413, 417, 433, 437, 449, 462, 472, 480, 490, 494, 497] 503 (s0 % 64)) (msk (pMask prog 299 (swT 0 [11, 31, 43, 49, 63, 75, 87, 103, 119, 129, 143, 155, 167, 171, 185, 197, 213, 227, 231, 243, 255, 278, 290, 302, 314, 324, 330, 339, 351, 363, 369, 383, 397, 401, 413, 417, 433, 437, 449, 462, 472, 480, 490, 494, 497] 503 (s0 % 64))) [vr 3, vr 5, vr 87, vr 96, vr 97, vi x5, vj, vj, vj, vj]) [] (shp, M) := by rw [ev_eq]; rfl
set_option maxRecDepth 8000 in
theorem b299_11 (d u : Nat) (x5 : Int) (M : mM) : ev prog (d + 1) 299 u 11 [vr 3, vr 5, vr 87, vr 96, vr 97, vi x5, vj, vj, vj, vj] [] (shp, M) = if 0 ≤ (wr (x5 + 1)) ∧ (wr (x5 + 1)) < M 4 0 then ev prog (d + 1) 299 u 12 [vr 3, vr 5, vr 87, vr 96, vr 97, vi x5, vj, vj, vj, vj] [vi (M 3 (Int.toNat (wr (x5 + 1)))), vr 5] (shp, M) else none := by rw [ev_eq]; rfl
set_option maxRecDepth 8000 in
theorem b299_31 (d u : Nat) (x5 : Int) (M : mM) : ev prog (d + 1) 299 u 31 [vr 3, vr 5, vr 87, vr 96, vr 97, vi x5, vj, vj, vj, vj] [] (shp, M) = if 0 ≤ (wr (x5 + 1)) ∧ (wr (x5 + 1)) < M 4 0 then ev prog (d + 1) 299 u 32 [vr 3, vr 5, vr 87, vr 96, vr 97, vi x5, vj, vj, vj, vj] [vi (M 3 (Int.toNat (wr (x5 + 1)))), vr 5] (shp, M) else none := by rw [ev_eq]; rfl
set_option maxRecDepth 8000 in
theorem b299_43 (d u : Nat) (x5 : Int) (M : mM) : ev prog (d + 1) 299 u 43 [vr 3, vr 5, vr 87, vr 96, vr 97, vi x5, vj, vj, vj, vj] [] (shp, M) = if 0 ≤ (wr (x5 + 1)) ∧ (wr (x5 + 1)) < M 4 0 then ev prog (d + 1) 299 u 44 [vr 3, vr 5, vr 87, vr 96, vr 97, vi x5, vj, vj, vj, vj] [vi (M 3 (Int.toNat (wr (x5 + 1)))), vr 5] (shp, M) else none := by rw [ev_eq]; rfl
set_option maxRecDepth 8000 in
theorem b299_49 (d u : Nat) (x5 : Int) (M : mM) : ev prog (d + 1) 299 u 49 [vr 3, vr 5, vr 87, vr 96, vr 97, vi x5, vj, vj, vj, vj] [] (shp, M) = if 0 ≤ (wr (x5 + 1)) ∧ (wr (x5 + 1)) < M 4 0 then ev prog (d + 1) 299 u 50 [vr 3, vr 5, vr 87, vr 96, vr 97, vi x5, vj, vj, vj, vj] [vi (M 3 (Int.toNat (wr (x5 + 1)))), vr 5] (shp, M) else none := by rw [ev_eq]; rfl
set_option maxRecDepth 8000 in
theorem b299_63 (d u : Nat) (x5 : Int) (M : mM) : ev prog (d + 1) 299 u 63 [vr 3, vr 5, vr 87, vr 96, vr 97, vi x5, vj, vj, vj, vj] [] (shp, M) = if 0 ≤ (wr (x5 + 1)) ∧ (wr (x5 + 1)) < M 4 0 then ev prog (d + 1) 299 u 64 [vr 3, vr 5, vr 87, vr 96, vr 97, vi x5, vj, vj, vj, vj] [vi (M 3 (Int.toNat (wr (x5 + 1)))), vr 5] (shp, M) else none := by rw [ev_eq]; rfl
set_option maxRecDepth 8000 in
theorem b299_75 (d u : Nat) (x5 : Int) (M : mM) : ev prog (d + 1) 299 u 75 [vr 3, vr 5, vr 87, vr 96, vr 97, vi x5, vj, vj, vj, vj] [] (shp, M) = if 0 ≤ (wr (x5 + 1)) ∧ (wr (x5 + 1)) < M 4 0 then ev prog (d + 1) 299 u 76 [vr 3, vr 5, vr 87, vr 96, vr 97, vi x5, vj, vj, vj, vj] [vi (M 3 (Int.toNat (wr (x5 + 1)))), vr 5] (shp, M) else none := by rw [ev_eq]; rfl
set_option maxRecDepth 8000 in
theorem b299_87 (d u : Nat) (x5 : Int) (M : mM) : ev prog (d + 1) 299 u 87 [vr 3, vr 5, vr 87, vr 96, vr 97, vi x5, vj, vj, vj, vj] [] (shp, M) = if 0 ≤ (wr (x5 + 1)) ∧ (wr (x5 + 1)) < M 4 0 then ev prog (d + 1) 299 u 88 [vr 3, vr 5, vr 87, vr 96, vr 97, vi x5, vj, vj, vj, vj] [vi (M 3 (Int.toNat (wr (x5 + 1)))), vr 5] (shp, M) else none := by rw [ev_eq]; rfl
set_option maxRecDepth 8000 in
theorem b299_103 (d u : Nat) (x5 : Int) (M : mM) : ev prog (d + 1) 299 u 103 [vr 3, vr 5, vr 87, vr 96, vr 97, vi x5, vj, vj, vj, vj] [] (shp, M) = if 0 ≤ (wr (x5 + 1)) ∧ (wr (x5 + 1)) < M 4 0 then ev prog (d + 1) 299 u 104 [vr 3, vr 5, vr 87, vr 96, vr 97, vi x5, vj, vj, vj, vj] [vi (M 3 (Int.toNat (wr (x5 + 1)))), vr 5] (shp, M) else none := by rw [ev_eq]; rfl
set_option maxRecDepth 8000 in
theorem b299_119 (d u : Nat) (x5 : Int) (M : mM) (h : u + 1 ≤ 3400) : ev prog (d + 1) 299 u 119 [vr 3, vr 5, vr 87, vr 96, vr 97, vi x5, vj, vj, vj, vj] [] (shp, M) = callK (run prog d 102 [vr 5, vr 96] (shp, M)) (fun v σ1 => ev prog (d + 1) 299 (u + 1) 120 [vr 3, vr 5, vr 87, vr 96, vr 97, vi x5, vj, vj, vj, vj] (psh v []) σ1) (fun e σ1 => hk [0, 0, 0, 0, 0] e σ1 (fun t => ev prog (d + 1) 299 (u + 1) t (msk (pMask prog 299 t) [vr 3, vr 5, vr 87, vr 96, vr 97, vi x5, vj, vj, vj, vj]) [vj] σ1)) := by
  rw [ev_eq]
  show (match ((true && decide (u + 1 ≤ 3400)) && true) with
    | true => _
    | false => none) = _
  rw [decide_eq_true h]
  rfl
set_option maxRecDepth 8000 in
theorem b299_129 (d u : Nat) (x5 : Int) (M : mM) : ev prog (d + 1) 299 u 129 [vr 3, vr 5, vr 87, vr 96, vr 97, vi x5, vj, vj, vj, vj] [] (shp, M) = if 0 ≤ (wr (x5 + 1)) ∧ (wr (x5 + 1)) < M 4 0 then ev prog (d + 1) 299 u 130 [vr 3, vr 5, vr 87, vr 96, vr 97, vi x5, vj, vj, vj, vj] [vi (M 3 (Int.toNat (wr (x5 + 1)))), vr 5] (shp, M) else none := by rw [ev_eq]; rfl
set_option maxRecDepth 8000 in
theorem b299_143 (d u : Nat) (x5 : Int) (M : mM) : ev prog (d + 1) 299 u 143 [vr 3, vr 5, vr 87, vr 96, vr 97, vi x5, vj, vj, vj, vj] [] (shp, M) = if 0 ≤ (wr (x5 + 1)) ∧ (wr (x5 + 1)) < M 4 0 then ev prog (d + 1) 299 u 144 [vr 3, vr 5, vr 87, vr 96, vr 97, vi x5, vj, vj, vj, vj] [vi (M 3 (Int.toNat (wr (x5 + 1)))), vr 5] (shp, M) else none := by rw [ev_eq]; rfl
set_option maxRecDepth 8000 in
theorem b299_155 (d u : Nat) (x5 : Int) (M : mM) : ev prog (d + 1) 299 u 155 [vr 3, vr 5, vr 87, vr 96, vr 97, vi x5, vj, vj, vj, vj] [] (shp, M) = if 0 ≤ (wr (x5 + 1)) ∧ (wr (x5 + 1)) < M 4 0 then ev prog (d + 1) 299 u 156 [vr 3, vr 5, vr 87, vr 96, vr 97, vi x5, vj, vj, vj, vj] [vi (M 3 (Int.toNat (wr (x5 + 1)))), vr 5] (shp, M) else none := by rw [ev_eq]; rfl
set_option maxRecDepth 8000 in
theorem b299_167 (d u : Nat) (x5 : Int) (M : mM) (h : u + 0 ≤ 3400) : ev prog (d + 1) 299 u 167 [vr 3, vr 5, vr 87, vr 96, vr 97, vi x5, vj, vj, vj, vj] [] (shp, M) = callK (run prog d 117 [vr 5] (shp, M)) (fun v σ1 => ev prog (d + 1) 299 (u + 0) 168 [vr 3, vr 5, vr 87, vr 96, vr 97, vi x5, vj, vj, vj, vj] (psh v []) σ1) (fun e σ1 => hk [0, 0, 0, 0, 0] e σ1 (fun t => ev prog (d + 1) 299 (u + 0) t (msk (pMask prog 299 t) [vr 3, vr 5, vr 87, vr 96, vr 97, vi x5, vj, vj, vj, vj]) [vj] σ1)) := by
  rw [ev_eq]
  show (match ((true && decide (u + 0 ≤ 3400)) && true) with
    | true => _
    | false => none) = _
  rw [decide_eq_true h]
  rfl
set_option maxRecDepth 8000 in
theorem b299_171 (d u : Nat) (x5 : Int) (M : mM) : ev prog (d + 1) 299 u 171 [vr 3, vr 5, vr 87, vr 96, vr 97, vi x5, vj, vj, vj, vj] [] (shp, M) = if 0 ≤ (wr (x5 + 1)) ∧ (wr (x5 + 1)) < M 4 0 then ev prog (d + 1) 299 u 172 [vr 3, vr 5, vr 87, vr 96, vr 97, vi x5, vj, vj, vj, vj] [vi (M 3 (Int.toNat (wr (x5 + 1)))), vr 5] (shp, M) else none := by rw [ev_eq]; rfl
set_option maxRecDepth 8000 in
theorem b299_185 (d u : Nat) (x5 : Int) (M : mM) : ev prog (d + 1) 299 u 185 [vr 3, vr 5, vr 87, vr 96, vr 97, vi x5, vj, vj, vj, vj] [] (shp, M) = if 0 ≤ (wr (x5 + 1)) ∧ (wr (x5 + 1)) < M 4 0 then ev prog (d + 1) 299 u 186 [vr 3, vr 5, vr 87, vr 96, vr 97, vi x5, vj, vj, vj, vj] [vi (M 3 (Int.toNat (wr (x5 + 1)))), vr 5] (shp, M) else none := by rw [ev_eq]; rfl
set_option maxRecDepth 8000 in
theorem b299_197 (d u : Nat) (x5 : Int) (M : mM) : ev prog (d + 1) 299 u 197 [vr 3, vr 5, vr 87, vr 96, vr 97, vi x5, vj, vj, vj, vj] [] (shp, M) = if 0 ≤ (wr (x5 + 1)) ∧ (wr (x5 + 1)) < M 4 0 then ev prog (d + 1) 299 u 198 [vr 3, vr 5, vr 87, vr 96, vr 97, vi x5, vj, vj, vj, vj] [vi (M 3 (Int.toNat (wr (x5 + 1)))), vr 5] (shp, M) else none := by rw [ev_eq]; rfl
set_option maxRecDepth 8000 in
theorem b299_213 (d u : Nat) (x5 : Int) (M : mM) : ev prog (d + 1) 299 u 213 [vr 3, vr 5, vr 87, vr 96, vr 97, vi x5, vj, vj, vj, vj] [] (shp, M) = if 0 ≤ (wr (x5 + 1)) ∧ (wr (x5 + 1)) < M 4 0 then ev prog (d + 1) 299 u 214 [vr 3, vr 5, vr 87, vr 96, vr 97, vi x5, vj, vj, vj, vj] [vi (M 3 (Int.toNat (wr (x5 + 1)))), vr 5] (shp, M) else none := by rw [ev_eq]; rfl
set_option maxRecDepth 8000 in
theorem b299_227 (d u : Nat) (x5 : Int) (M : mM) (h : u + 0 ≤ 3400) : ev prog (d + 1) 299 u 227 [vr 3, vr 5, vr 87, vr 96, vr 97, vi x5, vj, vj, vj, vj] [] (shp, M) = callK (run prog d 144 [vr 5] (shp, M)) (fun v σ1 => ev prog (d + 1) 299 (u + 0) 228 [vr 3, vr 5, vr 87, vr 96, vr 97, vi x5, vj, vj, vj, vj] (psh v []) σ1) (fun e σ1 => hk [0, 0, 0, 0, 0] e σ1 (fun t => ev prog (d + 1) 299 (u + 0) t (msk (pMask prog 299 t) [vr 3, vr 5, vr 87, vr 96, vr 97, vi x5, vj, vj, vj, vj]) [vj] σ1)) := by
  rw [ev_eq]
  show (match ((true && decide (u + 0 ≤ 3400)) && true) with
    | true => _
    | false => none) = _
  rw [decide_eq_true h]
  rfl
set_option maxRecDepth 8000 in
theorem b299_231 (d u : Nat) (x5 : Int) (M : mM) : ev prog (d + 1) 299 u 231 [vr 3, vr 5, vr 87, vr 96, vr 97, vi x5, vj, vj, vj, vj] [] (shp, M) = if 0 ≤ (wr (x5 + 1)) ∧ (wr (x5 + 1)) < M 4 0 then ev prog (d + 1) 299 u 232 [vr 3, vr 5, vr 87, vr 96, vr 97, vi x5, vj, vj, vj, vj] [vi (M 3 (Int.toNat (wr (x5 + 1)))), vr 5] (shp, M) else none := by rw [ev_eq]; rfl
set_option maxRecDepth 8000 in
theorem b299_243 (d u : Nat) (x5 : Int) (M : mM) : ev prog (d + 1) 299 u 243 [vr 3, vr 5, vr 87, vr 96, vr 97, vi x5, vj, vj, vj, vj] [] (shp, M) = if 0 ≤ (wr (x5 + 1)) ∧ (wr (x5 + 1)) < M 4 0 then ev prog (d + 1) 299 u 244 [vr 3, vr 5, vr 87, vr 96, vr 97, vi x5, vj, vj, vj, vj] [vi (M 3 (Int.toNat (wr (x5 + 1)))), vr 5] (shp, M) else none := by rw [ev_eq]; rfl
set_option maxRecDepth 8000 in
theorem b299_255 (d u : Nat) (x5 : Int) (M : mM) : ev prog (d + 1) 299 u 255 [vr 3, vr 5, vr 87, vr 96, vr 97, vi x5, vj, vj, vj, vj] [] (shp, M) = if 0 ≤ (wr (x5 + 1)) ∧ (wr (x5 + 1)) < M 4 0 then ev prog (d + 1) 299 u 256 [vr 3, vr 5, vr 87, vr 96, vr 97, vi x5, vj, vj, vj, vj] [vi (M 3 (Int.toNat (wr (x5 + 1)))), vr 5] (shp, M) else none := by rw [ev_eq]; rfl
set_option maxRecDepth 8000 in
theorem b299_278 (d u : Nat) (x5 : Int) (M : mM) : ev prog (d + 1) 299 u 278 [vr 3, vr 5, vr 87, vr 96, vr 97, vi x5, vj, vj, vj, vj] [] (shp, M) = if 0 ≤ (wr (x5 + 1)) ∧ (wr (x5 + 1)) < M 4 0 then ev prog (d + 1) 299 u 279 [vr 3, vr 5, vr 87, vr 96, vr 97, vi x5, vj, vj, vj, vj] [vi (M 3 (Int.toNat (wr (x5 + 1)))), vr 5] (shp, M) else none := by rw [ev_eq]; rfl
set_option maxRecDepth 8000 in
theorem b299_290 (d u : Nat) (x5 : Int) (M : mM) : ev prog (d + 1) 299 u 290 [vr 3, vr 5, vr 87, vr 96, vr 97, vi x5, vj, vj, vj, vj] [] (shp, M) = if 0 ≤ (wr (x5 + 1)) ∧ (wr (x5 + 1)) < M 4 0 then ev prog (d + 1) 299 u 291 [vr 3, vr 5, vr 87, vr 96, vr 97, vi x5, vj, vj, vj, vj] [vi (M 3 (Int.toNat (wr (x5 + 1)))), vr 5] (shp, M) else none := by rw [ev_eq]; rfl
set_option maxRecDepth 8000 in
theorem b299_302 (d u : Nat) (x5 : Int) (M : mM) : ev prog (d + 1) 299 u 302 [vr 3, vr 5, vr 87, vr 96, vr 97, vi x5, vj, vj, vj, vj] [] (shp, M) = if 0 ≤ (wr (x5 + 1)) ∧ (wr (x5 + 1)) < M 4 0 then ev prog (d + 1) 299 u 303 [vr 3, vr 5, vr 87, vr 96, vr 97, vi x5, vj, vj, vj, vj] [vi (M 3 (Int.toNat (wr (x5 + 1)))), vr 5] (shp, M) else none := by rw [ev_eq]; rfl
set_option maxRecDepth 8000 in
theorem b299_314 (d u : Nat) (x5 : Int) (M : mM) (h : u + 1 ≤ 3400) : ev prog (d + 1) 299 u 314 [vr 3, vr 5, vr 87, vr 96, vr 97, vi x5, vj, vj, vj, vj] [] (shp, M) = callK (run prog d 179 [vr 5, vr 96] (shp, M)) (fun v σ1 => ev prog (d + 1) 299 (u + 1) 315 [vr 3, vr 5, vr 87, vr 96, vr 97, vi x5, vj, vj, vj, vj] (psh v []) σ1) (fun e σ1 => hk [0, 0, 0, 0, 0] e σ1 (fun t => ev prog (d + 1) 299 (u + 1) t (msk (pMask prog 299 t) [vr 3, vr 5, vr 87, vr 96, vr 97, vi x5, vj, vj, vj, vj]) [vj] σ1)) := by
  rw [ev_eq]
  show (match ((true && decide (u + 1 ≤ 3400)) && true) with
    | true => _
    | false => none) = _
  rw [decide_eq_true h]
  rfl
set_option maxRecDepth 8000 in
theorem b299_324 (d u : Nat) (x5 : Int) (M : mM) : ev prog (d + 1) 299 u 324 [vr 3, vr 5, vr 87, vr 96, vr 97, vi x5, vj, vj, vj, vj] [] (shp, M) = if 0 ≤ (wr (x5 + 1)) ∧ (wr (x5 + 1)) < M 4 0 then ev prog (d + 1) 299 u 325 [vr 3, vr 5, vr 87, vr 96, vr 97, vi x5, vj, vj, vj, vj] [vi (M 3 (Int.toNat (wr (x5 + 1)))), vr 5] (shp, M) else none := by rw [ev_eq]; rfl
set_option maxRecDepth 8000 in
theorem b299_330 (d u : Nat) (x5 : Int) (M : mM) : ev prog (d + 1) 299 u 330 [vr 3, vr 5, vr 87, vr 96, vr 97, vi x5, vj, vj, vj, vj] [] (shp, M) = if 0 ≤ (wr (x5 + 1)) ∧ (wr (x5 + 1)) < M 4 0 then ev prog (d + 1) 299 u 331 [vr 3, vr 5, vr 87, vr 96, vr 97, vi x5, vj, vj, vj, vj] [vi (M 3 (Int.toNat (wr (x5 + 1)))), vr 5] (shp, M) else none := by rw [ev_eq]; rfl
set_option maxRecDepth 8000 in
theorem b299_339 (d u : Nat) (x5 : Int) (M : mM) : ev prog (d + 1) 299 u 339 [vr 3, vr 5, vr 87, vr 96, vr 97, vi x5, vj, vj, vj, vj] [] (shp, M) = if 0 ≤ (wr (x5 + 1)) ∧ (wr (x5 + 1)) < M 4 0 then ev prog (d + 1) 299 u 340 [vr 3, vr 5, vr 87, vr 96, vr 97, vi x5, vj, vj, vj, vj] [vi (M 3 (Int.toNat (wr (x5 + 1)))), vr 5] (shp, M) else none := by rw [ev_eq]; rfl
set_option maxRecDepth 8000 in
theorem b299_351 (d u : Nat) (x5 : Int) (M : mM) : ev prog (d + 1) 299 u 351 [vr 3, vr 5, vr 87, vr 96, vr 97, vi x5, vj, vj, vj, vj] [] (shp, M) = if 0 ≤ (wr (x5 + 1)) ∧ (wr (x5 + 1)) < M 4 0 then ev prog (d + 1) 299 u 352 [vr 3, vr 5, vr 87, vr 96, vr 97, vi x5, vj, vj, vj, vj] [vi (M 3 (Int.toNat (wr (x5 + 1)))), vr 5] (shp, M) else none := by rw [ev_eq]; rfl
set_option maxRecDepth 8000 in
theorem b299_363 (d u : Nat) (x5 : Int) (M : mM) : ev prog (d + 1) 299 u 363 [vr 3, vr 5, vr 87, vr 96, vr 97, vi x5, vj, vj, vj, vj] [] (shp, M) = if 0 ≤ (wr (x5 + 1)) ∧ (wr (x5 + 1)) < M 4 0 then ev prog (d + 1) 299 u 364 [vr 3, vr 5, vr 87, vr 96, vr 97, vi x5, vj, vj, vj, vj] [vi (M 3 (Int.toNat (wr (x5 + 1)))), vr 5] (shp, M) else none := by rw [ev_eq]; rfl
set_option maxRecDepth 8000 in
theorem b299_369 (d u : Nat) (x5 : Int) (M : mM) : ev prog (d + 1) 299 u 369 [vr 3, vr 5, vr 87, vr 96, vr 97, vi x5, vj, vj, vj, vj] [] (shp, M) = if 0 ≤ (wr (x5 + 1)) ∧ (wr (x5 + 1)) < M 4 0 then ev prog (d + 1) 299 u 370 [vr 3, vr 5, vr 87, vr 96, vr 97, vi x5, vj, vj, vj, vj] [vi (M 3 (Int.toNat (wr (x5 + 1)))), vr 5] (shp, M) else none := by rw [ev_eq]; rfl
set_option maxRecDepth 8000 in
theorem b299_383 (d u : Nat) (x5 : Int) (M : mM) : ev prog (d + 1) 299 u 383 [vr 3, vr 5, vr 87, vr 96, vr 97, vi x5, vj, vj, vj, vj] [] (shp, M) = if 0 ≤ (wr (x5 + 1)) ∧ (wr (x5 + 1)) < M 4 0 then ev prog (d + 1) 299 u 384 [vr 3, vr 5, vr 87, vr 96, vr 97, vi x5, vj, vj, vj, vj] [vi (M 3 (Int.toNat (wr (x5 + 1)))), vr 5] (shp, M) else none := by rw [ev_eq]; rfl
set_option maxRecDepth 8000 in
theorem b299_397 (d u : Nat) (x5 : Int) (M : mM) (h : u + 0 ≤ 3400) : ev prog (d + 1) 299 u 397 [vr 3, vr 5, vr 87, vr 96, vr 97, vi x5, vj, vj, vj, vj] [] (shp, M) = callK (run prog d 216 [vr 5] (shp, M)) (fun v σ1 => ev prog (d + 1) 299 (u + 0) 398 [vr 3, vr 5, vr 87, vr 96, vr 97, vi x5, vj, vj, vj, vj] (psh v []) σ1) (fun e σ1 => hk [0, 0, 0, 0, 0] e σ1 (fun t => ev prog (d + 1) 299 (u + 0) t (msk (pMask prog 299 t) [vr 3, vr 5, vr 87, vr 96, vr 97, vi x5, vj, vj, vj, vj]) [vj] σ1)) := by
  rw [ev_eq]
  show (match ((true && decide (u + 0 ≤ 3400)) && true) with
    | true => _
    | false => none) = _
  rw [decide_eq_true h]
  rfl
set_option maxRecDepth 8000 in
theorem b299_401 (d u : Nat) (x5 : Int) (M : mM) : ev prog (d + 1) 299 u 401 [vr 3, vr 5, vr 87, vr 96, vr 97, vi x5, vj, vj, vj, vj] [] (shp, M) = if 0 ≤ (wr (x5 + 1)) ∧ (wr (x5 + 1)) < M 4 0 then ev prog (d + 1) 299 u 402 [vr 3, vr 5, vr 87, vr 96, vr 97, vi x5, vj, vj, vj, vj] [vi (M 3 (Int.toNat (wr (x5 + 1)))), vr 5] (shp, M) else none := by rw [ev_eq]; rfl
set_option maxRecDepth 8000 in
theorem b299_413 (d u : Nat) (x5 : Int) (M : mM) (h : u + 0 ≤ 3400) : ev prog (d + 1) 299 u 413 [vr 3, vr 5, vr 87, vr 96, vr 97, vi x5, vj, vj, vj, vj] [] (shp, M) = callK (run prog d 224 [vr 5] (shp, M)) (fun v σ1 => ev prog (d + 1) 299 (u + 0) 414 [vr 3, vr 5, vr 87, vr 96, vr 97, vi x5, vj, vj, vj, vj] (psh v []) σ1) (fun e σ1 => hk [0, 0, 0, 0, 0] e σ1 (fun t => ev prog (d + 1) 299 (u + 0) t (msk (pMask prog 299 t) [vr 3, vr 5, vr 87, vr 96, vr 97, vi x5, vj, vj, vj, vj]) [vj] σ1)) := by
  rw [ev_eq]
  show (match ((true && decide (u + 0 ≤ 3400)) && true) with
    | true => _
    | false => none) = _
  rw [decide_eq_true h]
  rfl
set_option maxRecDepth 8000 in
theorem b299_417 (d u : Nat) (x5 : Int) (M : mM) : ev prog (d + 1) 299 u 417 [vr 3, vr 5, vr 87, vr 96, vr 97, vi x5, vj, vj, vj, vj] [] (shp, M) = if 0 ≤ (wr (x5 + 1)) ∧ (wr (x5 + 1)) < M 4 0 then ev prog (d + 1) 299 u 418 [vr 3, vr 5, vr 87, vr 96, vr 97, vi x5, vj, vj, vj, vj] [vi (M 3 (Int.toNat (wr (x5 + 1)))), vr 5] (shp, M) else none := by rw [ev_eq]; rfl
set_option maxRecDepth 8000 in
theorem b299_433 (d u : Nat) (x5 : Int) (M : mM) (h : u + 0 ≤ 3400) : ev prog (d + 1) 299 u 433 [vr 3, vr 5, vr 87, vr 96, vr 97, vi x5, vj, vj, vj, vj] [] (shp, M) = callK (run prog d 234 [vr 5] (shp, M)) (fun v σ1 => ev prog (d + 1) 299 (u + 0) 434 [vr 3, vr 5, vr 87, vr 96, vr 97, vi x5, vj, vj, vj, vj] (psh v []) σ1) (fun e σ1 => hk [0, 0, 0, 0, 0] e σ1 (fun t => ev prog (d + 1) 299 (u + 0) t (msk (pMask prog 299 t) [vr 3, vr 5, vr 87, vr 96, vr 97, vi x5, vj, vj, vj, vj]) [vj] σ1)) := by
  rw [ev_eq]
  show (match ((true && decide (u + 0 ≤ 3400)) && true) with
    | true => _
    | false => none) = _
  rw [decide_eq_true h]
  rfl
set_option maxRecDepth 8000 in
theorem b299_437 (d u : Nat) (x5 : Int) (M : mM) : ev prog (d + 1) 299 u 437 [vr 3, vr 5, vr 87, vr 96, vr 97, vi x5, vj, vj, vj, vj] [] (shp, M) = if 0 ≤ (wr (x5 + 1)) ∧ (wr (x5 + 1)) < M 4 0 then ev prog (d + 1) 299 u 438 [vr 3, vr 5, vr 87, vr 96, vr 97, vi x5, vj, vj, vj, vj] [vi (M 3 (Int.toNat (wr (x5 + 1)))), vr 5] (shp, M) else none := by rw [ev_eq]; rfl
set_option maxRecDepth 8000 in
theorem b299_449 (d u : Nat) (x5 : Int) (M : mM) (h : u + 1 ≤ 3400) : ev prog (d + 1) 299 u 449 [vr 3, vr 5, vr 87, vr 96, vr 97, vi x5, vj, vj, vj, vj] [] (shp, M) = callK (run prog d 254 [vr 5, vr 96] (shp, M)) (fun v σ1 => ev prog (d + 1) 299 (u + 1) 450 [vr 3, vr 5, vr 87, vr 96, vr 97, vi x5, vj, vj, vj, vj] (psh v []) σ1) (fun e σ1 => hk [0, 0, 0, 0, 0] e σ1 (fun t => ev prog (d + 1) 299 (u + 1) t (msk (pMask prog 299 t) [vr 3, vr 5, vr 87, vr 96, vr 97, vi x5, vj, vj, vj, vj]) [vj] σ1)) := by
  rw [ev_eq]
  show (match ((true && decide (u + 1 ≤ 3400)) && true) with
    | true => _
    | false => none) = _
  rw [decide_eq_true h]
  rfl
set_option maxRecDepth 8000 in
theorem b299_462 (d u : Nat) (x5 : Int) (M : mM) (h : u + 2 ≤ 3400) : ev prog (d + 1) 299 u 462 [vr 3, vr 5, vr 87, vr 96, vr 97, vi x5, vj, vj, vj, vj] [] (shp, M) = callK (run prog d 258 [vr 5, vr 96] (shp, M)) (fun v σ1 => ev prog (d + 1) 299 (u + 2) 463 [vr 3, vr 5, vr 87, vr 96, vr 97, vi x5, vj, vj, vj, vj] (psh v []) σ1) (fun e σ1 => hk [0, 0, 0, 0, 0] e σ1 (fun t => ev prog (d + 1) 299 (u + 2) t (msk (pMask prog 299 t) [vr 3, vr 5, vr 87, vr 96, vr 97, vi x5, vj, vj, vj, vj]) [vj] σ1)) := by
  rw [ev_eq]
  show (match ((true && decide (u + 2 ≤ 3400)) && true) with
    | true => _
    | false => none) = _
  rw [decide_eq_true h]
  rfl
set_option maxRecDepth 8000 in
theorem b299_472 (d u : Nat) (x5 : Int) (M : mM) : ev prog (d + 1) 299 u 472 [vr 3, vr 5, vr 87, vr 96, vr 97, vi x5, vj, vj, vj, vj] [] (shp, M) = if 0 ≤ (wr (x5 + 1)) ∧ (wr (x5 + 1)) < M 4 0 then ev prog (d + 1) 299 u 473 [vr 3, vr 5, vr 87, vr 96, vr 97, vi x5, vj, vj, vj, vj] [vi (M 3 (Int.toNat (wr (x5 + 1)))), vr 5] (shp, M) else none := by rw [ev_eq]; rfl
set_option maxRecDepth 8000 in
theorem b299_480 (d u : Nat) (x5 : Int) (M : mM) (h : u + 1 ≤ 3400) : ev prog (d + 1) 299 u 480 [vr 3, vr 5, vr 87, vr 96, vr 97, vi x5, vj, vj, vj, vj] [] (shp, M) = callK (run prog d 276 [vr 5, vr 96] (shp, M)) (fun v σ1 => ev prog (d + 1) 299 (u + 1) 481 [vr 3, vr 5, vr 87, vr 96, vr 97, vi x5, vj, vj, vj, vj] (psh v []) σ1) (fun e σ1 => hk [0, 0, 0, 0, 0] e σ1 (fun t => ev prog (d + 1) 299 (u + 1) t (msk (pMask prog 299 t) [vr 3, vr 5, vr 87, vr 96, vr 97, vi x5, vj, vj, vj, vj]) [vj] σ1)) := by
  rw [ev_eq]
  show (match ((true && decide (u + 1 ≤ 3400)) && true) with
    | true => _
    | false => none) = _
  rw [decide_eq_true h]
  rfl
set_option maxRecDepth 8000 in
theorem b299_490 (d u : Nat) (x5 : Int) (M : mM) (h : u + 0 ≤ 3400) : ev prog (d + 1) 299 u 490 [vr 3, vr 5, vr 87, vr 96, vr 97, vi x5, vj, vj, vj, vj] [] (shp, M) = callK (run prog d 286 [vr 5] (shp, M)) (fun v σ1 => ev prog (d + 1) 299 (u + 0) 491 [vr 3, vr 5, vr 87, vr 96, vr 97, vi x5, vj, vj, vj, vj] (psh v []) σ1) (fun e σ1 => hk [0, 0, 0, 0, 0] e σ1 (fun t => ev prog (d + 1) 299 (u + 0) t (msk (pMask prog 299 t) [vr 3, vr 5, vr 87, vr 96, vr 97, vi x5, vj, vj, vj, vj]) [vj] σ1)) := by
  rw [ev_eq]
  show (match ((true && decide (u + 0 ≤ 3400)) && true) with
    | true => _
    | false => none) = _
  rw [decide_eq_true h]
  rfl
set_option maxRecDepth 8000 in
theorem b299_494 (d u : Nat) (x5 : Int) (M : mM) (h : u + 0 ≤ 3400) : ev prog (d + 1) 299 u 494 [vr 3, vr 5, vr 87, vr 96, vr 97, vi x5, vj, vj, vj, vj] [] (shp, M) = callK (run prog d 294 [vr 5] (shp, M)) (fun v σ1 => ev prog (d + 1) 299 (u + 0) 495 [vr 3, vr 5, vr 87, vr 96, vr 97, vi x5, vj, vj, vj, vj] (psh v []) σ1) (fun e σ1 => hk [0, 0, 0, 0, 0] e σ1 (fun t => ev prog (d + 1) 299 (u + 0) t (msk (pMask prog 299 t) [vr 3, vr 5, vr 87, vr 96, vr 97, vi x5, vj, vj, vj, vj]) [vj] σ1)) := by
  rw [ev_eq]
  show (match ((true && decide (u + 0 ≤ 3400)) && true) with
    | true => _
    | false => none) = _
  rw [decide_eq_true h]
  rfl
set_option maxRecDepth 8000 in
theorem b299_497 (d u : Nat) (x5 : Int) (M : mM) (h : u + 1 ≤ 3400) : ev prog (d + 1) 299 u 497 [vr 3, vr 5, vr 87, vr 96, vr 97, vi x5, vj, vj, vj, vj] [] (shp, M) = callK (run prog d 297 [vr 5] (shp, M)) (fun v σ1 => ev prog (d + 1) 299 (u + 1) 498 [vr 3, vr 5, vr 87, vr 96, vr 97, vi x5, vj, vj, vj, vj] (psh v []) σ1) (fun e σ1 => hk [0, 0, 0, 0, 0] e σ1 (fun t => ev prog (d + 1) 299 (u + 1) t (msk (pMask prog 299 t) [vr 3, vr 5, vr 87, vr 96, vr 97, vi x5, vj, vj, vj, vj]) [vj] σ1)) := by
  rw [ev_eq]
  show (match ((true && decide (u + 1 ≤ 3400)) && true) with
    | true => _
    | false => none) = _
  rw [decide_eq_true h]
  rfl
set_option maxRecDepth 8000 in
theorem b299_503 (d u : Nat) (x5 : Int) (M : mM) : ev prog (d + 1) 299 u 503 [vr 3, vr 5, vr 87, vr 96, vr 97, vi x5, vj, vj, vj, vj] [] (shp, M) = ev prog (d + 1) 299 u 7 [vr 3, vr 5, vr 87, vr 96, vr 97, vi (wr (x5 + 6)), vj, vj, vj, vj] [] (shp, M) := by rw [ev_eq]; rfl
set_option maxRecDepth 8000 in
theorem b299_12 (d u : Nat) (x5 : Int) (s1 : Int) (M : mM) : ev prog (d + 1) 299 u 12 [vr 3, vr 5, vr 87, vr 96, vr 97, vi x5, vj, vj, vj, vj] [vi s1, vr 5] (shp, M) = if 0 ≤ (wr (x5 + 2)) ∧ (wr (x5 + 2)) < M 4 0 then ev prog (d + 1) 299 u 13 [vr 3, vr 5, vr 87, vr 96, vr 97, vi x5, vj, vj, vj, vj] [vi (M 3 (Int.toNat (wr (x5 + 2)))), vi s1, vr 5] (shp, M) else none := by rw [ev_eq]; rfl
set_option maxRecDepth 8000 in
theorem b299_32 (d u : Nat) (x5 : Int) (s1 : Int) (M : mM) (h : u + 1 ≤ 3400) : ev prog (d + 1) 299 u 32 [vr 3, vr 5, vr 87, vr 96, vr 97, vi x5, vj, vj, vj, vj] [vi s1, vr 5] (shp, M) = callK (run prog d 71 [vr 5, vi s1, vr 96] (shp, M)) (fun v σ1 => ev prog (d + 1) 299 (u + 1) 33 [vr 3, vr 5, vr 87, vr 96, vr 97, vi x5, vj, vj, vj, vj] (psh v []) σ1) (fun e σ1 => hk [0, 0, 0, 0, 0] e σ1 (fun t => ev prog (d + 1) 299 (u + 1) t (msk (pMask prog 299 t) [vr 3, vr 5, vr 87, vr 96, vr 97, vi x5, vj, vj, vj, vj]) [vj] σ1)) := by
  rw [ev_eq]
  show (match ((true && decide (u + 1 ≤ 3400)) && true) with
    | true => _
    | false => none) = _
  rw [decide_eq_true h]
  rfl
set_option maxRecDepth 8000 in
theorem b299_44 (d u : Nat) (x5 : Int) (s1 : Int) (M : mM) (h : u + 0 ≤ 3400) : ev prog (d + 1) 299 u 44 [vr 3, vr 5, vr 87, vr 96, vr 97, vi x5, vj, vj, vj, vj] [vi s1, vr 5] (shp, M) = callK (run prog d 77 [vr 5, vi s1] (shp, M)) (fun v σ1 => ev prog (d + 1) 299 (u + 0) 45 [vr 3, vr 5, vr 87, vr 96, vr 97, vi x5, vj, vj, vj, vj] (psh v []) σ1) (fun e σ1 => hk [0, 0, 0, 0, 0] e σ1 (fun t => ev prog (d + 1) 299 (u + 0) t (msk (pMask prog 299 t) [vr 3, vr 5, vr 87, vr 96, vr 97, vi x5, vj, vj, vj, vj]) [vj] σ1)) := by
  rw [ev_eq]
  show (match ((true && decide (u + 0 ≤ 3400)) && true) with
    | true => _
    | false => none) = _
  rw [decide_eq_true h]
  rfl
set_option maxRecDepth 8000 in
theorem b299_50 (d u : Nat) (x5 : Int) (s1 : Int) (M : mM) : ev prog (d + 1) 299 u 50 [vr 3, vr 5, vr 87, vr 96, vr 97, vi x5, vj, vj, vj, vj] [vi s1, vr 5] (shp, M) = if 0 ≤ (wr (x5 + 2)) ∧ (wr (x5 + 2)) < M 4 0 then ev prog (d + 1) 299 u 51 [vr 3, vr 5, vr 87, vr 96, vr 97, vi x5, vj, vj, vj, vj] [vi (M 3 (Int.toNat (wr (x5 + 2)))), vi s1, vr 5] (shp, M) else none := by rw [ev_eq]; rfl
set_option maxRecDepth 8000 in
theorem b299_64 (d u : Nat) (x5 : Int) (s1 : Int) (M : mM) (h : u + 1 ≤ 3400) : ev prog (d + 1) 299 u 64 [vr 3, vr 5, vr 87, vr 96, vr 97, vi x5, vj, vj, vj, vj] [vi s1, vr 5] (shp, M) = callK (run prog d 86 [vr 5, vi s1, vr 96] (shp, M)) (fun v σ1 => ev prog (d + 1) 299 (u + 1) 65 [vr 3, vr 5, vr 87, vr 96, vr 97, vi x5, vj, vj, vj, vj] (psh v []) σ1) (fun e σ1 => hk [0, 0, 0, 0, 0] e σ1 (fun t => ev prog (d + 1) 299 (u + 1) t (msk (pMask prog 299 t) [vr 3, vr 5, vr 87, vr 96, vr 97, vi x5, vj, vj, vj, vj]) [vj] σ1)) := by
  rw [ev_eq]
  show (match ((true && decide (u + 1 ≤ 3400)) && true) with
    | true => _
    | false => none) = _
  rw [decide_eq_true h]
  rfl
set_option maxRecDepth 8000 in
theorem b299_76 (d u : Nat) (x5 : Int) (s1 : Int) (M : mM) (h : u + 1 ≤ 3400) : ev prog (d + 1) 299 u 76 [vr 3, vr 5, vr 87, vr 96, vr 97, vi x5, vj, vj, vj, vj] [vi s1, vr 5] (shp, M) = callK (run prog d 89 [vr 5, vi s1, vr 96] (shp, M)) (fun v σ1 => ev prog (d + 1) 299 (u + 1) 77 [vr 3, vr 5, vr 87, vr 96, vr 97, vi x5, vj, vj, vj, vj] (psh v []) σ1) (fun e σ1 => hk [0, 0, 0, 0, 0] e σ1 (fun t => ev prog (d + 1) 299 (u + 1) t (msk (pMask prog 299 t) [vr 3, vr 5, vr 87, vr 96, vr 97, vi x5, vj, vj, vj, vj]) [vj] σ1)) := by
  rw [ev_eq]
  show (match ((true && decide (u + 1 ≤ 3400)) && true) with
    | true => _
    | false => none) = _
  rw [decide_eq_true h]
  rfl
set_option maxRecDepth 8000 in
theorem b299_88 (d u : Nat) (x5 : Int) (s1 : Int) (M : mM) : ev prog (d + 1) 299 u 88 [vr 3, vr 5, vr 87, vr 96, vr 97, vi x5, vj, vj, vj, vj] [vi s1, vr 5] (shp, M) = if 0 ≤ (wr (x5 + 2)) ∧ (wr (x5 + 2)) < M 4 0 then ev prog (d + 1) 299 u 89 [vr 3, vr 5, vr 87, vr 96, vr 97, vi x5, vj, vj, vj, vj] [vi (M 3 (Int.toNat (wr (x5 + 2)))), vi s1, vr 5] (shp, M) else none := by rw [ev_eq]; rfl
set_option maxRecDepth 8000 in
theorem b299_104 (d u : Nat) (x5 : Int) (s1 : Int) (M : mM) : ev prog (d + 1) 299 u 104 [vr 3, vr 5, vr 87, vr 96, vr 97, vi x5, vj, vj, vj, vj] [vi s1, vr 5] (shp, M) = if 0 ≤ (wr (x5 + 2)) ∧ (wr (x5 + 2)) < M 4 0 then ev prog (d + 1) 299 u 105 [vr 3, vr 5, vr 87, vr 96, vr 97, vi x5, vj, vj, vj, vj] [vi (M 3 (Int.toNat (wr (x5 + 2)))), vi s1, vr 5] (shp, M) else none := by rw [ev_eq]; rfl
set_option maxRecDepth 8000 in
theorem b299_120 (d u : Nat) (x5 : Int) (s0 : Int) (M : mM) (h : u + 0 ≤ 3400) : ev prog (d + 1) 299 u 120 [vr 3, vr 5, vr 87, vr 96, vr 97, vi x5, vj, vj, vj, vj] [vi s0] (shp, M) = callK (run prog d 103 [vr 87] (shp, M)) (fun v σ1 => ev prog (d + 1) 299 (u + 0) 121 [vr 3, vr 5, vr 87, vr 96, vr 97, vi x5, vi s0, vj, vj, vj] (psh v []) σ1) (fun e σ1 => hk [0, 0, 0, 0, 0] e σ1 (fun t => ev prog (d + 1) 299 (u + 0) t (msk (pMask prog 299 t) [vr 3, vr 5, vr 87, vr 96, vr 97, vi x5, vi s0, vj, vj, vj]) [vj] σ1)) := by
  rw [ev_eq]
  show (match ((true && decide (u + 0 ≤ 3400)) && true) with
    | true => _
    | false => none) = _
  rw [decide_eq_true h]
  rfl
set_option maxRecDepth 8000 in
theorem b299_130 (d u : Nat) (x5 : Int) (s1 : Int) (M : mM) : ev prog (d + 1) 299 u 130 [vr 3, vr 5, vr 87, vr 96, vr 97, vi x5, vj, vj, vj, vj] [vi s1, vr 5] (shp, M) = if 0 ≤ (wr (x5 + 2)) ∧ (wr (x5 + 2)) < M 4 0 then ev prog (d + 1) 299 u 131 [vr 3, vr 5, vr 87, vr 96, vr 97, vi x5, vj, vj, vj, vj] [vi (M 3 (Int.toNat (wr (x5 + 2)))), vi s1, vr 5] (shp, M) else none := by rw [ev_eq]; rfl
set_option maxRecDepth 8000 in
theorem b299_144 (d u : Nat) (x5 : Int) (s1 : Int) (M : mM) (h : u + 1 ≤ 3400) : ev prog (d + 1) 299 u 144 [vr 3, vr 5, vr 87, vr 96, vr 97, vi x5, vj, vj, vj, vj] [vi s1, vr 5] (shp, M) = callK (run prog d 111 [vr 5, vi s1, vr 96] (shp, M)) (fun v σ1 => ev prog (d + 1) 299 (u + 1) 145 [vr 3, vr 5, vr 87, vr 96, vr 97, vi x5, vj, vj, vj, vj] (psh v []) σ1) (fun e σ1 => hk [0, 0, 0, 0, 0] e σ1 (fun t => ev prog (d + 1) 299 (u + 1) t (msk (pMask prog 299 t) [vr 3, vr 5, vr 87, vr 96, vr 97, vi x5, vj, vj, vj, vj]) [vj] σ1)) := by
  rw [ev_eq]
  show (match ((true && decide (u + 1 ≤ 3400)) && true) with
    | true => _
    | false => none) = _
  rw [decide_eq_true h]
  rfl
set_option maxRecDepth 8000 in
theorem b299_156 (d u : Nat) (x5 : Int) (s1 : Int) (M : mM) (h : u + 1 ≤ 3400) : ev prog (d + 1) 299 u 156 [vr 3, vr 5, vr 87, vr 96, vr 97, vi x5, vj, vj, vj, vj] [vi s1, vr 5] (shp, M) = callK (run prog d 114 [vr 5, vi s1, vr 96] (shp, M)) (fun v σ1 => ev prog (d + 1) 299 (u + 1) 157 [vr 3, vr 5, vr 87, vr 96, vr 97, vi x5, vj, vj, vj, vj] (psh v []) σ1) (fun e σ1 => hk [0, 0, 0, 0, 0] e σ1 (fun t => ev prog (d + 1) 299 (u + 1) t (msk (pMask prog 299 t) [vr 3, vr 5, vr 87, vr 96, vr 97, vi x5, vj, vj, vj, vj]) [vj] σ1)) := by
  rw [ev_eq]
  show (match ((true && decide (u + 1 ≤ 3400)) && true) with
    | true => _
    | false => none) = _
  rw [decide_eq_true h]
  rfl
set_option maxRecDepth 8000 in
theorem b299_168 (d u : Nat) (x5 : Int) (s0 : Int) (M : mM) (h : u + 0 ≤ 3400) : ev prog (d + 1) 299 u 168 [vr 3, vr 5, vr 87, vr 96, vr 97, vi x5, vj, vj, vj, vj] [vi s0] (shp, M) = callK (run prog d 119 [vr 87] (shp, M)) (fun v σ1 => ev prog (d + 1) 299 (u + 0) 169 [vr 3, vr 5, vr 87, vr 96, vr 97, vi x5, vj, vj, vj, vj] (psh v [vi s0]) σ1) (fun e σ1 => hk [0, 0, 0, 0, 0] e σ1 (fun t => ev prog (d + 1) 299 (u + 0) t (msk (pMask prog 299 t) [vr 3, vr 5, vr 87, vr 96, vr 97, vi x5, vj, vj, vj, vj]) [vj] σ1)) := by
  rw [ev_eq]
  show (match ((true && decide (u + 0 ≤ 3400)) && true) with
    | true => _
    | false => none) = _
  rw [decide_eq_true h]
  rfl
set_option maxRecDepth 8000 in
theorem b299_172 (d u : Nat) (x5 : Int) (s1 : Int) (M : mM) : ev prog (d + 1) 299 u 172 [vr 3, vr 5, vr 87, vr 96, vr 97, vi x5, vj, vj, vj, vj] [vi s1, vr 5] (shp, M) = if 0 ≤ (wr (x5 + 2)) ∧ (wr (x5 + 2)) < M 4 0 then ev prog (d + 1) 299 u 173 [vr 3, vr 5, vr 87, vr 96, vr 97, vi x5, vj, vj, vj, vj] [vi (M 3 (Int.toNat (wr (x5 + 2)))), vi s1, vr 5] (shp, M) else none := by rw [ev_eq]; rfl
set_option maxRecDepth 8000 in
theorem b299_186 (d u : Nat) (x5 : Int) (s1 : Int) (M : mM) (h : u + 1 ≤ 3400) : ev prog (d + 1) 299 u 186 [vr 3, vr 5, vr 87, vr 96, vr 97, vi x5, vj, vj, vj, vj] [vi s1, vr 5] (shp, M) = callK (run prog d 128 [vr 5, vi s1, vr 96] (shp, M)) (fun v σ1 => ev prog (d + 1) 299 (u + 1) 187 [vr 3, vr 5, vr 87, vr 96, vr 97, vi x5, vj, vj, vj, vj] (psh v []) σ1) (fun e σ1 => hk [0, 0, 0, 0, 0] e σ1 (fun t => ev prog (d + 1) 299 (u + 1) t (msk (pMask prog 299 t) [vr 3, vr 5, vr 87, vr 96, vr 97, vi x5, vj, vj, vj, vj]) [vj] σ1)) := by
  rw [ev_eq]
  show (match ((true && decide (u + 1 ≤ 3400)) && true) with
    | true => _
    | false => none) = _
  rw [decide_eq_true h]
  rfl
set_option maxRecDepth 8000 in
theorem b299_198 (d u : Nat) (x5 : Int) (s1 : Int) (M : mM) : ev prog (d + 1) 299 u 198 [vr 3, vr 5, vr 87, vr 96, vr 97, vi x5, vj, vj, vj, vj] [vi s1, vr 5] (shp, M) = if 0 ≤ (wr (x5 + 2)) ∧ (wr (x5 + 2)) < M 4 0 then ev prog (d + 1) 299 u 199 [vr 3, vr 5, vr 87, vr 96, vr 97, vi x5, vj, vj, vj, vj] [vi (M 3 (Int.toNat (wr (x5 + 2)))), vi s1, vr 5] (shp, M) else none := by rw [ev_eq]; rfl
set_option maxRecDepth 8000 in
theorem b299_214 (d u : Nat) (x5 : Int) (s1 : Int) (M : mM) : ev prog (d + 1) 299 u 214 [vr 3, vr 5, vr 87, vr 96, vr 97, vi x5, vj, vj, vj, vj] [vi s1, vr 5] (shp, M) = if 0 ≤ (wr (x5 + 2)) ∧ (wr (x5 + 2)) < M 4 0 then ev prog (d + 1) 299 u 215 [vr 3, vr 5, vr 87, vr 96, vr 97, vi x5, vj, vj, vj, vj] [vi (M 3 (Int.toNat (wr (x5 + 2)))), vi s1, vr 5] (shp, M) else none := by rw [ev_eq]; rfl
set_option maxRecDepth 8000 in
theorem b299_228 (d u : Nat) (x5 : Int) (s0 : Int) (M : mM) (h : u + 0 ≤ 3400) : ev prog (d + 1) 299 u 228 [vr 3, vr 5, vr 87, vr 96, vr 97, vi x5, vj, vj, vj, vj] [vi s0] (shp, M) = callK (run prog d 145 [vr 87] (shp, M)) (fun v σ1 => ev prog (d + 1) 299 (u + 0) 229 [vr 3, vr 5, vr 87, vr 96, vr 97, vi x5, vj, vj, vj, vj] (psh v [vi s0]) σ1) (fun e σ1 => hk [0, 0, 0, 0, 0] e σ1 (fun t => ev prog (d + 1) 299 (u + 0) t (msk (pMask prog 299 t) [vr 3, vr 5, vr 87, vr 96, vr 97, vi x5, vj, vj, vj, vj]) [vj] σ1)) := by
  rw [ev_eq]
  show (match ((true && decide (u + 0 ≤ 3400)) && true) with
    | true => _
    | false => none) = _
  rw [decide_eq_true h]
  rfl
set_option maxRecDepth 8000 in
theorem b299_232 (d u : Nat) (x5 : Int) (s1 : Int) (M : mM) (h : u + 1 ≤ 3400) : ev prog (d + 1) 299 u 232 [vr 3, vr 5, vr 87, vr 96, vr 97, vi x5, vj, vj, vj, vj] [vi s1, vr 5] (shp, M) = callK (run prog d 147 [vr 5, vi s1, vr 96] (shp, M)) (fun v σ1 => ev prog (d + 1) 299 (u + 1) 233 [vr 3, vr 5, vr 87, vr 96, vr 97, vi x5, vj, vj, vj, vj] (psh v []) σ1) (fun e σ1 => hk [0, 0, 0, 0, 0] e σ1 (fun t => ev prog (d + 1) 299 (u + 1) t (msk (pMask prog 299 t) [vr 3, vr 5, vr 87, vr 96, vr 97, vi x5, vj, vj, vj, vj]) [vj] σ1)) := by
  rw [ev_eq]
  show (match ((true && decide (u + 1 ≤ 3400)) && true) with
    | true => _
    | false => none) = _
  rw [decide_eq_true h]
  rfl
set_option maxRecDepth 8000 in
theorem b299_244 (d u : Nat) (x5 : Int) (s1 : Int) (M : mM) : ev prog (d + 1) 299 u 244 [vr 3, vr 5, vr 87, vr 96, vr 97, vi x5, vj, vj, vj, vj] [vi s1, vr 5] (shp, M) = if 0 ≤ (wr (x5 + 2)) ∧ (wr (x5 + 2)) < M 4 0 then ev prog (d + 1) 299 u 245 [vr 3, vr 5, vr 87, vr 96, vr 97, vi x5, vj, vj, vj, vj] [vi (M 3 (Int.toNat (wr (x5 + 2)))), vi s1, vr 5] (shp, M) else none := by rw [ev_eq]; rfl
set_option maxRecDepth 8000 in
theorem b299_256 (d u : Nat) (x5 : Int) (s1 : Int) (M : mM) : ev prog (d + 1) 299 u 256 [vr 3, vr 5, vr 87, vr 96, vr 97, vi x5, vj, vj, vj, vj] [vi s1, vr 5] (shp, M) = if 0 ≤ (wr (x5 + 2)) ∧ (wr (x5 + 2)) < M 4 0 then ev prog (d + 1) 299 u 257 [vr 3, vr 5, vr 87, vr 96, vr 97, vi x5, vj, vj, vj, vj] [vi (M 3 (Int.toNat (wr (x5 + 2)))), vi s1, vr 5] (shp, M) else none := by rw [ev_eq]; rfl
set_option maxRecDepth 8000 in
theorem b299_279 (d u : Nat) (x5 : Int) (s1 : Int) (M : mM) (h : u + 1 ≤ 3400) : ev prog (d + 1) 299 u 279 [vr 3, vr 5, vr 87, vr 96, vr 97, vi x5, vj, vj, vj, vj] [vi s1, vr 5] (shp, M) = callK (run prog d 159 [vr 5, vi s1, vr 96] (shp, M)) (fun v σ1 => ev prog (d + 1) 299 (u + 1) 280 [vr 3, vr 5, vr 87, vr 96, vr 97, vi x5, vj, vj, vj, vj] (psh v []) σ1) (fun e σ1 => hk [0, 0, 0, 0, 0] e σ1 (fun t => ev prog (d + 1) 299 (u + 1) t (msk (pMask prog 299 t) [vr 3, vr 5, vr 87, vr 96, vr 97, vi x5, vj, vj, vj, vj]) [vj] σ1)) := by
  rw [ev_eq]
  show (match ((true && decide (u + 1 ≤ 3400)) && true) with
    | true => _
    | false => none) = _
  rw [decide_eq_true h]
  rfl
set_option maxRecDepth 8000 in
theorem b299_291 (d u : Nat) (x5 : Int) (s1 : Int) (M : mM) (h : u + 1 ≤ 3400) : ev prog (d + 1) 299 u 291 [vr 3, vr 5, vr 87, vr 96, vr 97, vi x5, vj, vj, vj, vj] [vi s1, vr 5] (shp, M) = callK (run prog d 167 [vr 5, vi s1, vr 96] (shp, M)) (fun v σ1 => ev prog (d + 1) 299 (u + 1) 292 [vr 3, vr 5, vr 87, vr 96, vr 97, vi x5, vj, vj, vj, vj] (psh v []) σ1) (fun e σ1 => hk [0, 0, 0, 0, 0] e σ1 (fun t => ev prog (d + 1) 299 (u + 1) t (msk (pMask prog 299 t) [vr 3, vr 5, vr 87, vr 96, vr 97, vi x5, vj, vj, vj, vj]) [vj] σ1)) := by
  rw [ev_eq]
  show (match ((true && decide (u + 1 ≤ 3400)) && true) with
    | true => _
    | false => none) = _
  rw [decide_eq_true h]
  rfl
set_option maxRecDepth 8000 in
theorem b299_303 (d u : Nat) (x5 : Int) (s1 : Int) (M : mM) (h : u + 1 ≤ 3400) : ev prog (d + 1) 299 u 303 [vr 3, vr 5, vr 87, vr 96, vr 97, vi x5, vj, vj, vj, vj] [vi s1, vr 5] (shp, M) = callK (run prog d 174 [vr 5, vi s1, vr 96] (shp, M)) (fun v σ1 => ev prog (d + 1) 299 (u + 1) 304 [vr 3, vr 5, vr 87, vr 96, vr 97, vi x5, vj, vj, vj, vj] (psh v []) σ1) (fun e σ1 => hk [0, 0, 0, 0, 0] e σ1 (fun t => ev prog (d + 1) 299 (u + 1) t (msk (pMask prog 299 t) [vr 3, vr 5, vr 87, vr 96, vr 97, vi x5, vj, vj, vj, vj]) [vj] σ1)) := by
  rw [ev_eq]
  show (match ((true && decide (u + 1 ≤ 3400)) && true) with
    | true => _
    | false => none) = _
  rw [decide_eq_true h]
  rfl
set_option maxRecDepth 8000 in
theorem b299_315 (d u : Nat) (x5 : Int) (s0 : Int) (M : mM) (h : u + 0 ≤ 3400) : ev prog (d + 1) 299 u 315 [vr 3, vr 5, vr 87, vr 96, vr 97, vi x5, vj, vj, vj, vj] [vi s0] (shp, M) = callK (run prog d 180 [vr 87] (shp, M)) (fun v σ1 => ev prog (d + 1) 299 (u + 0) 316 [vr 3, vr 5, vr 87, vr 96, vr 97, vi x5, vi s0, vj, vj, vj] (psh v []) σ1) (fun e σ1 => hk [0, 0, 0, 0, 0] e σ1 (fun t => ev prog (d + 1) 299 (u + 0) t (msk (pMask prog 299 t) [vr 3, vr 5, vr 87, vr 96, vr 97, vi x5, vi s0, vj, vj, vj]) [vj] σ1)) := by
  rw [ev_eq]
  show (match ((true && decide (u + 0 ≤ 3400)) && true) with
    | true => _
    | false => none) = _
  rw [decide_eq_true h]
  rfl
set_option maxRecDepth 8000 in
theorem b299_325 (d u : Nat) (x5 : Int) (s1 : Int) (M : mM) (h : u + 0 ≤ 3400) : ev prog (d + 1) 299 u 325 [vr 3, vr 5, vr 87, vr 96, vr 97, vi x5, vj, vj, vj, vj] [vi s1, vr 5] (shp, M) = callK (run prog d 182 [vr 5, vi s1] (shp, M)) (fun v σ1 => ev prog (d + 1) 299 (u + 0) 326 [vr 3, vr 5, vr 87, vr 96, vr 97, vi x5, vj, vj, vj, vj] (psh v []) σ1) (fun e σ1 => hk [0, 0, 0, 0, 0] e σ1 (fun t => ev prog (d + 1) 299 (u + 0) t (msk (pMask prog 299 t) [vr 3, vr 5, vr 87, vr 96, vr 97, vi x5, vj, vj, vj, vj]) [vj] σ1)) := by
  rw [ev_eq]
  show (match ((true && decide (u + 0 ≤ 3400)) && true) with
    | true => _
    | false => none) = _
  rw [decide_eq_true h]
  rfl
set_option maxRecDepth 8000 in
theorem b299_331 (d u : Nat) (x5 : Int) (s1 : Int) (M : mM) (h : u + 0 ≤ 3400) : ev prog (d + 1) 299 u 331 [vr 3, vr 5, vr 87, vr 96, vr 97, vi x5, vj, vj, vj, vj] [vi s1, vr 5] (shp, M) = callK (run prog d 185 [vr 5, vi s1] (shp, M)) (fun v σ1 => ev prog (d + 1) 299 (u + 0) 332 [vr 3, vr 5, vr 87, vr 96, vr 97, vi x5, vj, vj, vj, vj] (psh v []) σ1) (fun e σ1 => hk [0, 0, 0, 0, 0] e σ1 (fun t => ev prog (d + 1) 299 (u + 0) t (msk (pMask prog 299 t) [vr 3, vr 5, vr 87, vr 96, vr 97, vi x5, vj, vj, vj, vj]) [vj] σ1)) := by
  rw [ev_eq]
  show (match ((true && decide (u + 0 ≤ 3400)) && true) with
    | true => _
    | false => none) = _
  rw [decide_eq_true h]
  rfl
set_option maxRecDepth 8000 in
theorem b299_340 (d u : Nat) (x5 : Int) (s1 : Int) (M : mM) (h : u + 1 ≤ 3400) : ev prog (d + 1) 299 u 340 [vr 3, vr 5, vr 87, vr 96, vr 97, vi x5, vj, vj, vj, vj] [vi s1, vr 5] (shp, M) = callK (run prog d 191 [vr 5, vi s1, vr 96] (shp, M)) (fun v σ1 => ev prog (d + 1) 299 (u + 1) 341 [vr 3, vr 5, vr 87, vr 96, vr 97, vi x5, vj, vj, vj, vj] (psh v []) σ1) (fun e σ1 => hk [0, 0, 0, 0, 0] e σ1 (fun t => ev prog (d + 1) 299 (u + 1) t (msk (pMask prog 299 t) [vr 3, vr 5, vr 87, vr 96, vr 97, vi x5, vj, vj, vj, vj]) [vj] σ1)) := by
  rw [ev_eq]
  show (match ((true && decide (u + 1 ≤ 3400)) && true) with
    | true => _
    | false => none) = _
  rw [decide_eq_true h]
  rfl
set_option maxRecDepth 8000 in
theorem b299_352 (d u : Nat) (x5 : Int) (s1 : Int) (M : mM) (h : u + 1 ≤ 3400) : ev prog (d + 1) 299 u 352 [vr 3, vr 5, vr 87, vr 96, vr 97, vi x5, vj, vj, vj, vj] [vi s1, vr 5] (shp, M) = callK (run prog d 198 [vr 5, vi s1, vr 96] (shp, M)) (fun v σ1 => ev prog (d + 1) 299 (u + 1) 353 [vr 3, vr 5, vr 87, vr 96, vr 97, vi x5, vj, vj, vj, vj] (psh v []) σ1) (fun e σ1 => hk [0, 0, 0, 0, 0] e σ1 (fun t => ev prog (d + 1) 299 (u + 1) t (msk (pMask prog 299 t) [vr 3, vr 5, vr 87, vr 96, vr 97, vi x5, vj, vj, vj, vj]) [vj] σ1)) := by
  rw [ev_eq]
  show (match ((true && decide (u + 1 ≤ 3400)) && true) with
    | true => _
    | false => none) = _
  rw [decide_eq_true h]
  rfl
set_option maxRecDepth 8000 in
theorem b299_364 (d u : Nat) (x5 : Int) (s1 : Int) (M : mM) (h : u + 0 ≤ 3400) : ev prog (d + 1) 299 u 364 [vr 3, vr 5, vr 87, vr 96, vr 97, vi x5, vj, vj, vj, vj] [vi s1, vr 5] (shp, M) = callK (run prog d 204 [vr 5, vi s1] (shp, M)) (fun v σ1 => ev prog (d + 1) 299 (u + 0) 365 [vr 3, vr 5, vr 87, vr 96, vr 97, vi x5, vj, vj, vj, vj] (psh v []) σ1) (fun e σ1 => hk [0, 0, 0, 0, 0] e σ1 (fun t => ev prog (d + 1) 299 (u + 0) t (msk (pMask prog 299 t) [vr 3, vr 5, vr 87, vr 96, vr 97, vi x5, vj, vj, vj, vj]) [vj] σ1)) := by
  rw [ev_eq]
  show (match ((true && decide (u + 0 ≤ 3400)) && true) with
    | true => _
    | false => none) = _
  rw [decide_eq_true h]
  rfl
set_option maxRecDepth 8000 in
theorem b299_370 (d u : Nat) (x5 : Int) (s1 : Int) (M : mM) : ev prog (d + 1) 299 u 370 [vr 3, vr 5, vr 87, vr 96, vr 97, vi x5, vj, vj, vj, vj] [vi s1, vr 5] (shp, M) = if 0 ≤ (wr (x5 + 2)) ∧ (wr (x5 + 2)) < M 4 0 then ev prog (d + 1) 299 u 371 [vr 3, vr 5, vr 87, vr 96, vr 97, vi x5, vj, vj, vj, vj] [vi (M 3 (Int.toNat (wr (x5 + 2)))), vi s1, vr 5] (shp, M) else none := by rw [ev_eq]; rfl
set_option maxRecDepth 8000 in
theorem b299_384 (d u : Nat) (x5 : Int) (s1 : Int) (M : mM) : ev prog (d + 1) 299 u 384 [vr 3, vr 5, vr 87, vr 96, vr 97, vi x5, vj, vj, vj, vj] [vi s1, vr 5] (shp, M) = if 0 ≤ (wr (x5 + 2)) ∧ (wr (x5 + 2)) < M 4 0 then ev prog (d + 1) 299 u 385 [vr 3, vr 5, vr 87, vr 96, vr 97, vi x5, vj, vj, vj, vj] [vi (M 3 (Int.toNat (wr (x5 + 2)))), vi s1, vr 5] (shp, M) else none := by rw [ev_eq]; rfl
set_option maxRecDepth 8000 in
theorem b299_398 (d u : Nat) (x5 : Int) (s0 : Int) (M : mM) (h : u + 0 ≤ 3400) : ev prog (d + 1) 299 u 398 [vr 3, vr 5, vr 87, vr 96, vr 97, vi x5, vj, vj, vj, vj] [vi s0] (shp, M) = callK (run prog d 219 [vr 87] (shp, M)) (fun v σ1 => ev prog (d + 1) 299 (u + 0) 399 [vr 3, vr 5, vr 87, vr 96, vr 97, vi x5, vj, vj, vj, vj] (psh v [vi s0]) σ1) (fun e σ1 => hk [0, 0, 0, 0, 0] e σ1 (fun t => ev prog (d + 1) 299 (u + 0) t (msk (pMask prog 299 t) [vr 3, vr 5, vr 87, vr 96, vr 97, vi x5, vj, vj, vj, vj]) [vj] σ1)) := by
  rw [ev_eq]
  show (match ((true && decide (u + 0 ≤ 3400)) && true) with
    | true => _
    | false => none) = _
  rw [decide_eq_true h]
  rfl
set_option maxRecDepth 8000 in
theorem b299_402 (d u : Nat) (x5 : Int) (s1 : Int) (M : mM) (h : u + 1 ≤ 3400) : ev prog (d + 1) 299 u 402 [vr 3, vr 5, vr 87, vr 96, vr 97, vi x5, vj, vj, vj, vj] [vi s1, vr 5] (shp, M) = callK (run prog d 221 [vr 5, vi s1, vr 96] (shp, M)) (fun v σ1 => ev prog (d + 1) 299 (u + 1) 403 [vr 3, vr 5, vr 87, vr 96, vr 97, vi x5, vj, vj, vj, vj] (psh v []) σ1) (fun e σ1 => hk [0, 0, 0, 0, 0] e σ1 (fun t => ev prog (d + 1) 299 (u + 1) t (msk (pMask prog 299 t) [vr 3, vr 5, vr 87, vr 96, vr 97, vi x5, vj, vj, vj, vj]) [vj] σ1)) := by
  rw [ev_eq]
  show (match ((true && decide (u + 1 ≤ 3400)) && true) with
    | true => _
    | false => none) = _
  rw [decide_eq_true h]
  rfl
set_option maxRecDepth 8000 in
theorem b299_414 (d u : Nat) (x5 : Int) (s0 : Int) (M : mM) (h : u + 0 ≤ 3400) : ev prog (d + 1) 299 u 414 [vr 3, vr 5, vr 87, vr 96, vr 97, vi x5, vj, vj, vj, vj] [vi s0] (shp, M) = callK (run prog d 226 [vr 87] (shp, M)) (fun v σ1 => ev prog (d + 1) 299 (u + 0) 415 [vr 3, vr 5, vr 87, vr 96, vr 97, vi x5, vj, vj, vj, vj] (psh v [vi s0]) σ1) (fun e σ1 => hk [0, 0, 0, 0, 0] e σ1 (fun t => ev prog (d + 1) 299 (u + 0) t (msk (pMask prog 299 t) [vr 3, vr 5, vr 87, vr 96, vr 97, vi x5, vj, vj, vj, vj]) [vj] σ1)) := by
  rw [ev_eq]
  show (match ((true && decide (u + 0 ≤ 3400)) && true) with
    | true => _
    | false => none) = _
  rw [decide_eq_true h]
  rfl
set_option maxRecDepth 8000 in
theorem b299_418 (d u : Nat) (x5 : Int) (s1 : Int) (M : mM) (h : u + 2 ≤ 3400) : ev prog (d + 1) 299 u 418 [vr 3, vr 5, vr 87, vr 96, vr 97, vi x5, vj, vj, vj, vj] [vi s1, vr 5] (shp, M) = callK (run prog d 229 [vr 5, vi s1, vr 97] (shp, M)) (fun v σ1 => ev prog (d + 1) 299 (u + 2) 419 [vr 3, vr 5, vr 87, vr 96, vr 97, vi x5, vj, vj, vj, vj] (psh v []) σ1) (fun e σ1 => hk [0, 0, 0, 0, 0] e σ1 (fun t => ev prog (d + 1) 299 (u + 2) t (msk (pMask prog 299 t) [vr 3, vr 5, vr 87, vr 96, vr 97, vi x5, vj, vj, vj, vj]) [vj] σ1)) := by
  rw [ev_eq]
  show (match ((true && decide (u + 2 ≤ 3400)) && true) with
    | true => _
    | false => none) = _
  rw [decide_eq_true h]
  rfl
set_option maxRecDepth 8000 in
theorem b299_434 (d u : Nat) (x5 : Int) (s0 : Int) (M : mM) (h : u + 0 ≤ 3400) : ev prog (d + 1) 299 u 434 [vr 3, vr 5, vr 87, vr 96, vr 97, vi x5, vj, vj, vj, vj] [vi s0] (shp, M) = callK (run prog d 237 [vr 87] (shp, M)) (fun v σ1 => ev prog (d + 1) 299 (u + 0) 435 [vr 3, vr 5, vr 87, vr 96, vr 97, vi x5, vj, vj, vj, vj] (psh v [vi s0]) σ1) (fun e σ1 => hk [0, 0, 0, 0, 0] e σ1 (fun t => ev prog (d + 1) 299 (u + 0) t (msk (pMask prog 299 t) [vr 3, vr 5, vr 87, vr 96, vr 97, vi x5, vj, vj, vj, vj]) [vj] σ1)) := by
  rw [ev_eq]
  show (match ((true && decide (u + 0 ≤ 3400)) && true) with
    | true => _
    | false => none) = _
  rw [decide_eq_true h]
  rfl
set_option maxRecDepth 8000 in
theorem b299_438 (d u : Nat) (x5 : Int) (s1 : Int) (M : mM) (h : u + 1 ≤ 3400) : ev prog (d + 1) 299 u 438 [vr 3, vr 5, vr 87, vr 96, vr 97, vi x5, vj, vj, vj, vj] [vi s1, vr 5] (shp, M) = callK (run prog d 245 [vr 5, vi s1, vr 96] (shp, M)) (fun v σ1 => ev prog (d + 1) 299 (u + 1) 439 [vr 3, vr 5, vr 87, vr 96, vr 97, vi x5, vj, vj, vj, vj] (psh v []) σ1) (fun e σ1 => hk [0, 0, 0, 0, 0] e σ1 (fun t => ev prog (d + 1) 299 (u + 1) t (msk (pMask prog 299 t) [vr 3, vr 5, vr 87, vr 96, vr 97, vi x5, vj, vj, vj, vj]) [vj] σ1)) := by
  rw [ev_eq]
  show (match ((true && decide (u + 1 ≤ 3400)) && true) with
    | true => _
    | false => none) = _
  rw [decide_eq_true h]
  rfl
set_option maxRecDepth 8000 in
theorem b299_450 (d u : Nat) (x5 : Int) (s0 : Int) (M : mM) (h : u + 0 ≤ 3400) : ev prog (d + 1) 299 u 450 [vr 3, vr 5, vr 87, vr 96, vr 97, vi x5, vj, vj, vj, vj] [vi s0] (shp, M) = callK (run prog d 255 [vr 87] (shp, M)) (fun v σ1 => ev prog (d + 1) 299 (u + 0) 451 [vr 3, vr 5, vr 87, vr 96, vr 97, vi x5, vi s0, vj, vj, vj] (psh v []) σ1) (fun e σ1 => hk [0, 0, 0, 0, 0] e σ1 (fun t => ev prog (d + 1) 299 (u + 0) t (msk (pMask prog 299 t) [vr 3, vr 5, vr 87, vr 96, vr 97, vi x5, vi s0, vj, vj, vj]) [vj] σ1)) := by
  rw [ev_eq]
  show (match ((true && decide (u + 0 ≤ 3400)) && true) with
    | true => _
    | false => none) = _
  rw [decide_eq_true h]
  rfl
set_option maxRecDepth 8000 in
theorem b299_463 (d u : Nat) (x5 : Int) (s0 : Int) (M : mM) (h : u + 0 ≤ 3400) : ev prog (d + 1) 299 u 463 [vr 3, vr 5, vr 87, vr 96, vr 97, vi x5, vj, vj, vj, vj] [vi s0] (shp, M) = callK (run prog d 259 [vr 87] (shp, M)) (fun v σ1 => ev prog (d + 1) 299 (u + 0) 464 [vr 3, vr 5, vr 87, vr 96, vr 97, vi x5, vi s0, vj, vj, vj] (psh v []) σ1) (fun e σ1 => hk [0, 0, 0, 0, 0] e σ1 (fun t => ev prog (d + 1) 299 (u + 0) t (msk (pMask prog 299 t) [vr 3, vr 5, vr 87, vr 96, vr 97, vi x5, vi s0, vj, vj, vj]) [vj] σ1)) := by
  rw [ev_eq]
  show (match ((true && decide (u + 0 ≤ 3400)) && true) with
    | true => _
    | false => none) = _
  rw [decide_eq_true h]
  rfl
set_option maxRecDepth 8000 in
theorem b299_473 (d u : Nat) (x5 : Int) (s1 : Int) (M : mM) (h : u + 1 ≤ 3400) : ev prog (d + 1) 299 u 473 [vr 3, vr 5, vr 87, vr 96, vr 97, vi x5, vj, vj, vj, vj] [vi s1, vr 5] (shp, M) = callK (run prog d 262 [vr 5, vi (s1 % 65536)] (shp, M)) (fun v σ1 => ev prog (d + 1) 299 (u + 1) 474 [vr 3, vr 5, vr 87, vr 96, vr 97, vi x5, vj, vj, vj, vj] (psh v []) σ1) (fun e σ1 => hk [0, 0, 0, 0, 0] e σ1 (fun t => ev prog (d + 1) 299 (u + 1) t (msk (pMask prog 299 t) [vr 3, vr 5, vr 87, vr 96, vr 97, vi x5, vj, vj, vj, vj]) [vj] σ1)) := by
  rw [ev_eq]
  show (match ((true && decide (u + 1 ≤ 3400)) && true) with
    | true => _
    | false => none) = _
  rw [decide_eq_true h]
  rfl
set_option maxRecDepth 8000 in
theorem b299_481 (d u : Nat) (x5 : Int) (s0 : Int) (M : mM) (h : u + 0 ≤ 3400) : ev prog (d + 1) 299 u 481 [vr 3, vr 5, vr 87, vr 96, vr 97, vi x5, vj, vj, vj, vj] [vi s0] (shp, M) = callK (run prog d 285 [vr 87] (shp, M)) (fun v σ1 => ev prog (d + 1) 299 (u + 0) 482 [vr 3, vr 5, vr 87, vr 96, vr 97, vi x5, vi s0, vj, vj, vj] (psh v []) σ1) (fun e σ1 => hk [0, 0, 0, 0, 0] e σ1 (fun t => ev prog (d + 1) 299 (u + 0) t (msk (pMask prog 299 t) [vr 3, vr 5, vr 87, vr 96, vr 97, vi x5, vi s0, vj, vj, vj]) [vj] σ1)) := by
  rw [ev_eq]
  show (match ((true && decide (u + 0 ≤ 3400)) && true) with
    | true => _
    | false => none) = _
  rw [decide_eq_true h]
  rfl
set_option maxRecDepth 8000 in
theorem b299_491 (d u : Nat) (x5 : Int) (s0 : Int) (M : mM) (h : u + 0 ≤ 3400) : ev prog (d + 1) 299 u 491 [vr 3, vr 5, vr 87, vr 96, vr 97, vi x5, vj, vj, vj, vj] [vi s0] (shp, M) = callK (run prog d 287 [vr 87] (shp, M)) (fun v σ1 => ev prog (d + 1) 299 (u + 0) 492 [vr 3, vr 5, vr 87, vr 96, vr 97, vi x5, vj, vj, vj, vj] (psh v [vi s0]) σ1) (fun e σ1 => hk [0, 0, 0, 0, 0] e σ1 (fun t => ev prog (d + 1) 299 (u + 0) t (msk (pMask prog 299 t) [vr 3, vr 5, vr 87, vr 96, vr 97, vi x5, vj, vj, vj, vj]) [vj] σ1)) := by
  rw [ev_eq]
  show (match ((true && decide (u + 0 ≤ 3400)) && true) with
    | true => _
    | false => none) = _
  rw [decide_eq_true h]
  rfl
set_option maxRecDepth 8000 in
theorem b299_495 (d u : Nat) (x5 : Int) (M : mM) (h : u + 0 ≤ 3400) : ev prog (d + 1) 299 u 495 [vr 3, vr 5, vr 87, vr 96, vr 97, vi x5, vj, vj, vj, vj] [] (shp, M) = callK (run prog d 295 [vr 87] (shp, M)) (fun v σ1 => ev prog (d + 1) 299 (u + 0) 496 [vr 3, vr 5, vr 87, vr 96, vr 97, vi x5, vj, vj, vj, vj] (psh v []) σ1) (fun e σ1 => hk [0, 0, 0, 0, 0] e σ1 (fun t => ev prog (d + 1) 299 (u + 0) t (msk (pMask prog 299 t) [vr 3, vr 5, vr 87, vr 96, vr 97, vi x5, vj, vj, vj, vj]) [vj] σ1)) := by
  rw [ev_eq]
  show (match ((true && decide (u + 0 ≤ 3400)) && true) with
    | true => _
    | false => none) = _
  rw [decide_eq_true h]
  rfl
set_option maxRecDepth 8000 in
theorem b299_498 (d u : Nat) (x5 : Int) (s0 : Int) (M : mM) (h : u + 0 ≤ 3400) : ev prog (d + 1) 299 u 498 [vr 3, vr 5, vr 87, vr 96, vr 97, vi x5, vj, vj, vj, vj] [vi s0] (shp, M) = callK (run prog d 298 [vr 87] (shp, M)) (fun v σ1 => ev prog (d + 1) 299 (u + 0) 499 [vr 3, vr 5, vr 87, vr 96, vr 97, vi x5, vi s0, vj, vj, vj] (psh v []) σ1) (fun e σ1 => hk [0, 0, 0, 0, 0] e σ1 (fun t => ev prog (d + 1) 299 (u + 0) t (msk (pMask prog 299 t) [vr 3, vr 5, vr 87, vr 96, vr 97, vi x5, vi s0, vj, vj, vj]) [vj] σ1)) := by
  rw [ev_eq]
  show (match ((true && decide (u + 0 ≤ 3400)) && true) with
    | true => _
    | false => none) = _
  rw [decide_eq_true h]
  rfl
set_option maxRecDepth 8000 in
theorem b299_13 (d u : Nat) (x5 : Int) (s1 : Int) (s2 : Int) (M : mM) : ev prog (d + 1) 299 u 13 [vr 3, vr 5, vr 87, vr 96, vr 97, vi x5, vj, vj, vj, vj] [vi s2, vi s1, vr 5] (shp, M) = if 0 ≤ (wr (x5 + 3)) ∧ (wr (x5 + 3)) < M 4 0 then ev prog (d + 1) 299 u 14 [vr 3, vr 5, vr 87, vr 96, vr 97, vi x5, vj, vj, vj, vj] [vi (M 3 (Int.toNat (wr (x5 + 3)))), vi s2, vi s1, vr 5] (shp, M) else none := by rw [ev_eq]; rfl
set_option maxRecDepth 8000 in
theorem b299_33 (d u : Nat) (x5 : Int) (s0 : Int) (M : mM) : ev prog (d + 1) 299 u 33 [vr 3, vr 5, vr 87, vr 96, vr 97, vi x5, vj, vj, vj, vj] [vi s0] (shp, M) = if 0 ≤ (wr (x5 + 1)) ∧ (wr (x5 + 1)) < M 4 0 then ev prog (d + 1) 299 u 34 [vr 3, vr 5, vr 87, vr 96, vr 97, vi x5, vi s0, vj, vj, vj] [vi (M 3 (Int.toNat (wr (x5 + 1)))), vr 87] (shp, M) else none := by rw [ev_eq]; rfl
set_option maxRecDepth 8000 in
theorem b299_45 (d u : Nat) (x5 : Int) (s0 : Int) (M : mM) : ev prog (d + 1) 299 u 45 [vr 3, vr 5, vr 87, vr 96, vr 97, vi x5, vj, vj, vj, vj] [vi s0] (shp, M) = if 0 ≤ (wr (x5 + 1)) ∧ (wr (x5 + 1)) < M 4 0 then ev prog (d + 1) 299 u 46 [vr 3, vr 5, vr 87, vr 96, vr 97, vi x5, vj, vj, vj, vj] [vi (M 3 (Int.toNat (wr (x5 + 1)))), vr 87, vi s0] (shp, M) else none := by rw [ev_eq]; rfl
set_option maxRecDepth 8000 in
theorem b299_51 (d u : Nat) (x5 : Int) (s1 : Int) (s2 : Int) (M : mM) (h : u + 2 ≤ 3400) : ev prog (d + 1) 299 u 51 [vr 3, vr 5, vr 87, vr 96, vr 97, vi x5, vj, vj, vj, vj] [vi s2, vi s1, vr 5] (shp, M) = callK (run prog d 82 [vr 5, vi s1, vi s2, vr 96] (shp, M)) (fun v σ1 => ev prog (d + 1) 299 (u + 2) 52 [vr 3, vr 5, vr 87, vr 96, vr 97, vi x5, vj, vj, vj, vj] (psh v []) σ1) (fun e σ1 => hk [0, 0, 0, 0, 0] e σ1 (fun t => ev prog (d + 1) 299 (u + 2) t (msk (pMask prog 299 t) [vr 3, vr 5, vr 87, vr 96, vr 97, vi x5, vj, vj, vj, vj]) [vj] σ1)) := by
  rw [ev_eq]
  show (match ((true && decide (u + 2 ≤ 3400)) && true) with
    | true => _
    | false => none) = _
  rw [decide_eq_true h]
  rfl
set_option maxRecDepth 8000 in
theorem b299_65 (d u : Nat) (x5 : Int) (s0 : Int) (M : mM) : ev prog (d + 1) 299 u 65 [vr 3, vr 5, vr 87, vr 96, vr 97, vi x5, vj, vj, vj, vj] [vi s0] (shp, M) = if 0 ≤ (wr (x5 + 1)) ∧ (wr (x5 + 1)) < M 4 0 then ev prog (d + 1) 299 u 66 [vr 3, vr 5, vr 87, vr 96, vr 97, vi x5, vi s0, vj, vj, vj] [vi (M 3 (Int.toNat (wr (x5 + 1)))), vr 87] (shp, M) else none := by rw [ev_eq]; rfl
set_option maxRecDepth 8000 in
theorem b299_77 (d u : Nat) (x5 : Int) (s0 : Int) (M : mM) : ev prog (d + 1) 299 u 77 [vr 3, vr 5, vr 87, vr 96, vr 97, vi x5, vj, vj, vj, vj] [vi s0] (shp, M) = if 0 ≤ (wr (x5 + 1)) ∧ (wr (x5 + 1)) < M 4 0 then ev prog (d + 1) 299 u 78 [vr 3, vr 5, vr 87, vr 96, vr 97, vi x5, vi s0, vj, vj, vj] [vi (M 3 (Int.toNat (wr (x5 + 1)))), vr 87] (shp, M) else none := by rw [ev_eq]; rfl
set_option maxRecDepth 8000 in
theorem b299_89 (d u : Nat) (x5 : Int) (s1 : Int) (s2 : Int) (M : mM) : ev prog (d + 1) 299 u 89 [vr 3, vr 5, vr 87, vr 96, vr 97, vi x5, vj, vj, vj, vj] [vi s2, vi s1, vr 5] (shp, M) = if 0 ≤ (wr (x5 + 3)) ∧ (wr (x5 + 3)) < M 4 0 then ev prog (d + 1) 299 u 90 [vr 3, vr 5, vr 87, vr 96, vr 97, vi x5, vj, vj, vj, vj] [vi (M 3 (Int.toNat (wr (x5 + 3)))), vi s2, vi s1, vr 5] (shp, M) else none := by rw [ev_eq]; rfl
set_option maxRecDepth 8000 in
theorem b299_105 (d u : Nat) (x5 : Int) (s1 : Int) (s2 : Int) (M : mM) : ev prog (d + 1) 299 u 105 [vr 3, vr 5, vr 87, vr 96, vr 97, vi x5, vj, vj, vj, vj] [vi s2, vi s1, vr 5] (shp, M) = if 0 ≤ (wr (x5 + 3)) ∧ (wr (x5 + 3)) < M 4 0 then ev prog (d + 1) 299 u 106 [vr 3, vr 5, vr 87, vr 96, vr 97, vi x5, vj, vj, vj, vj] [vi (M 3 (Int.toNat (wr (x5 + 3)))), vi s2, vi s1, vr 5] (shp, M) else none := by rw [ev_eq]; rfl
set_option maxRecDepth 8000 in
theorem b299_121 (d u : Nat) (x5 : Int) (x6 : Int) (s0 : Int) (M : mM) (h : u + 0 ≤ 3400) : ev prog (d + 1) 299 u 121 [vr 3, vr 5, vr 87, vr 96, vr 97, vi x5, vi x6, vj, vj, vj] [vi s0] (shp, M) = callK (run prog d 67 [vr 87] (shp, M)) (fun v σ1 => ev prog (d + 1) 299 (u + 0) 122 [vr 3, vr 5, vr 87, vr 96, vr 97, vi x5, vi x6, vi s0, vj, vj] (psh v []) σ1) (fun e σ1 => hk [0, 0, 0, 0, 0] e σ1 (fun t => ev prog (d + 1) 299 (u + 0) t (msk (pMask prog 299 t) [vr 3, vr 5, vr 87, vr 96, vr 97, vi x5, vi x6, vi s0, vj, vj]) [vj] σ1)) := by
  rw [ev_eq]
  show (match ((true && decide (u + 0 ≤ 3400)) && true) with
    | true => _
    | false => none) = _
  rw [decide_eq_true h]
  rfl
set_option maxRecDepth 8000 in
theorem b299_131 (d u : Nat) (x5 : Int) (s1 : Int) (s2 : Int) (M : mM) (h : u + 2 ≤ 3400) : ev prog (d + 1) 299 u 131 [vr 3, vr 5, vr 87, vr 96, vr 97, vi x5, vj, vj, vj, vj] [vi s2, vi s1, vr 5] (shp, M) = callK (run prog d 107 [vr 5, vi s1, vi s2, vr 96] (shp, M)) (fun v σ1 => ev prog (d + 1) 299 (u + 2) 132 [vr 3, vr 5, vr 87, vr 96, vr 97, vi x5, vj, vj, vj, vj] (psh v []) σ1) (fun e σ1 => hk [0, 0, 0, 0, 0] e σ1 (fun t => ev prog (d + 1) 299 (u + 2) t (msk (pMask prog 299 t) [vr 3, vr 5, vr 87, vr 96, vr 97, vi x5, vj, vj, vj, vj]) [vj] σ1)) := by
  rw [ev_eq]
  show (match ((true && decide (u + 2 ≤ 3400)) && true) with
    | true => _
    | false => none) = _
  rw [decide_eq_true h]
  rfl
set_option maxRecDepth 8000 in
theorem b299_145 (d u : Nat) (x5 : Int) (s0 : Int) (M : mM) : ev prog (d + 1) 299 u 145 [vr 3, vr 5, vr 87, vr 96, vr 97, vi x5, vj, vj, vj, vj] [vi s0] (shp, M) = if 0 ≤ (wr (x5 + 1)) ∧ (wr (x5 + 1)) < M 4 0 then ev prog (d + 1) 299 u 146 [vr 3, vr 5, vr 87, vr 96, vr 97, vi x5, vi s0, vj, vj, vj] [vi (M 3 (Int.toNat (wr (x5 + 1)))), vr 87] (shp, M) else none := by rw [ev_eq]; rfl
set_option maxRecDepth 8000 in
theorem b299_157 (d u : Nat) (x5 : Int) (s0 : Int) (M : mM) : ev prog (d + 1) 299 u 157 [vr 3, vr 5, vr 87, vr 96, vr 97, vi x5, vj, vj, vj, vj] [vi s0] (shp, M) = if 0 ≤ (wr (x5 + 1)) ∧ (wr (x5 + 1)) < M 4 0 then ev prog (d + 1) 299 u 158 [vr 3, vr 5, vr 87, vr 96, vr 97, vi x5, vi s0, vj, vj, vj] [vi (M 3 (Int.toNat (wr (x5 + 1)))), vr 87] (shp, M) else none := by rw [ev_eq]; rfl
set_option maxRecDepth 8000 in
theorem b299_169 (d u : Nat) (x5 : Int) (s0 : Int) (s1 : Int) (M : mM) : ev prog (d + 1) 299 u 169 [vr 3, vr 5, vr 87, vr 96, vr 97, vi x5, vj, vj, vj, vj] [vi s1, vi s0] (shp, M) = if s0 = s1 then ev prog (d + 1) 299 u 503 [vr 3, vr 5, vr 87, vr 96, vr 97, vi x5, vj, vj, vj, vj] [] (shp, M) else ev prog (d + 1) 299 u 170 [vj, vj, vj, vj, vj, vj, vj, vj, vj, vj] [] (shp, M) := by rw [ev_eq]; rfl
set_option maxRecDepth 8000 in
theorem b299_173 (d u : Nat) (x5 : Int) (s1 : Int) (s2 : Int) (M : mM) (h : u + 2 ≤ 3400) : ev prog (d + 1) 299 u 173 [vr 3, vr 5, vr 87, vr 96, vr 97, vi x5, vj, vj, vj, vj] [vi s2, vi s1, vr 5] (shp, M) = callK (run prog d 121 [vr 5, vi s1, vi s2, vr 96] (shp, M)) (fun v σ1 => ev prog (d + 1) 299 (u + 2) 174 [vr 3, vr 5, vr 87, vr 96, vr 97, vi x5, vj, vj, vj, vj] (psh v []) σ1) (fun e σ1 => hk [0, 0, 0, 0, 0] e σ1 (fun t => ev prog (d + 1) 299 (u + 2) t (msk (pMask prog 299 t) [vr 3, vr 5, vr 87, vr 96, vr 97, vi x5, vj, vj, vj, vj]) [vj] σ1)) := by
  rw [ev_eq]
  show (match ((true && decide (u + 2 ≤ 3400)) && true) with
    | true => _
    | false => none) = _
  rw [decide_eq_true h]
  rfl
set_option maxRecDepth 8000 in
theorem b299_187 (d u : Nat) (x5 : Int) (s0 : Int) (M : mM) : ev prog (d + 1) 299 u 187 [vr 3, vr 5, vr 87, vr 96, vr 97, vi x5, vj, vj, vj, vj] [vi s0] (shp, M) = if 0 ≤ (wr (x5 + 1)) ∧ (wr (x5 + 1)) < M 4 0 then ev prog (d + 1) 299 u 188 [vr 3, vr 5, vr 87, vr 96, vr 97, vi x5, vi s0, vj, vj, vj] [vi (M 3 (Int.toNat (wr (x5 + 1)))), vr 87] (shp, M) else none := by rw [ev_eq]; rfl
set_option maxRecDepth 8000 in
theorem b299_199 (d u : Nat) (x5 : Int) (s1 : Int) (s2 : Int) (M : mM) : ev prog (d + 1) 299 u 199 [vr 3, vr 5, vr 87, vr 96, vr 97, vi x5, vj, vj, vj, vj] [vi s2, vi s1, vr 5] (shp, M) = if 0 ≤ (wr (x5 + 3)) ∧ (wr (x5 + 3)) < M 4 0 then ev prog (d + 1) 299 u 200 [vr 3, vr 5, vr 87, vr 96, vr 97, vi x5, vj, vj, vj, vj] [vi (M 3 (Int.toNat (wr (x5 + 3)))), vi s2, vi s1, vr 5] (shp, M) else none := by rw [ev_eq]; rfl
set_option maxRecDepth 8000 in
theorem b299_215 (d u : Nat) (x5 : Int) (s1 : Int) (s2 : Int) (M : mM) (h : u + 1 ≤ 3400) : ev prog (d + 1) 299 u 215 [vr 3, vr 5, vr 87, vr 96, vr 97, vi x5, vj, vj, vj, vj] [vi s2, vi s1, vr 5] (shp, M) = callK (run prog d 141 [vr 5, vi s1, vi s2, vr 96] (shp, M)) (fun v σ1 => ev prog (d + 1) 299 (u + 1) 216 [vr 3, vr 5, vr 87, vr 96, vr 97, vi x5, vj, vj, vj, vj] (psh v []) σ1) (fun e σ1 => hk [0, 0, 0, 0, 0] e σ1 (fun t => ev prog (d + 1) 299 (u + 1) t (msk (pMask prog 299 t) [vr 3, vr 5, vr 87, vr 96, vr 97, vi x5, vj, vj, vj, vj]) [vj] σ1)) := by
  rw [ev_eq]
  show (match ((true && decide (u + 1 ≤ 3400)) && true) with
    | true => _
    | false => none) = _
  rw [decide_eq_true h]
  rfl
set_option maxRecDepth 8000 in
theorem b299_229 (d u : Nat) (x5 : Int) (s0 : Int) (s1 : Int) (M : mM) : ev prog (d + 1) 299 u 229 [vr 3, vr 5, vr 87, vr 96, vr 97, vi x5, vj, vj, vj, vj] [vi s1, vi s0] (shp, M) = if s0 = s1 then ev prog (d + 1) 299 u 503 [vr 3, vr 5, vr 87, vr 96, vr 97, vi x5, vj, vj, vj, vj] [] (shp, M) else ev prog (d + 1) 299 u 230 [vj, vj, vj, vj, vj, vj, vj, vj, vj, vj] [] (shp, M) := by rw [ev_eq]; rfl
set_option maxRecDepth 8000 in
theorem b299_233 (d u : Nat) (x5 : Int) (s0 : Int) (M : mM) : ev prog (d + 1) 299 u 233 [vr 3, vr 5, vr 87, vr 96, vr 97, vi x5, vj, vj, vj, vj] [vi s0] (shp, M) = if 0 ≤ (wr (x5 + 1)) ∧ (wr (x5 + 1)) < M 4 0 then ev prog (d + 1) 299 u 234 [vr 3, vr 5, vr 87, vr 96, vr 97, vi x5, vi s0, vj, vj, vj] [vi (M 3 (Int.toNat (wr (x5 + 1)))), vr 87] (shp, M) else none := by rw [ev_eq]; rfl
set_option maxRecDepth 8000 in
theorem b299_245 (d u : Nat) (x5 : Int) (s1 : Int) (s2 : Int) (M : mM) : ev prog (d + 1) 299 u 245 [vr 3, vr 5, vr 87, vr 96, vr 97, vi x5, vj, vj, vj, vj] [vi s2, vi s1, vr 5] (shp, M) = if 0 ≤ (wr (x5 + 3)) ∧ (wr (x5 + 3)) < M 4 0 then ev prog (d + 1) 299 u 246 [vr 3, vr 5, vr 87, vr 96, vr 97, vi x5, vj, vj, vj, vj] [vi (M 3 (Int.toNat (wr (x5 + 3)))), vi s2, vi s1, vr 5] (shp, M) else none := by rw [ev_eq]; rfl
set_option maxRecDepth 8000 in
theorem b299_257 (d u : Nat) (x5 : Int) (s1 : Int) (s2 : Int) (M : mM) : ev prog (d + 1) 299 u 257 [vr 3, vr 5, vr 87, vr 96, vr 97, vi x5, vj, vj, vj, vj] [vi s2, vi s1, vr 5] (shp, M) = if s2 = 0 then ev prog (d + 1) 299 u 259 [vr 3, vr 5, vr 87, vr 96, vr 97, vi x5, vj, vj, vj, vj] [vi s1, vr 5] (shp, M) else ev prog (d + 1) 299 u 258 [vr 3, vr 5, vr 87, vr 96, vr 97, vi x5, vj, vj, vj, vj] [vi s1, vr 5] (shp, M) := by rw [ev_eq]; rfl
set_option maxRecDepth 8000 in
theorem b299_280 (d u : Nat) (x5 : Int) (s0 : Int) (M : mM) : ev prog (d + 1) 299 u 280 [vr 3, vr 5, vr 87, vr 96, vr 97, vi x5, vj, vj, vj, vj] [vi s0] (shp, M) = if 0 ≤ (wr (x5 + 1)) ∧ (wr (x5 + 1)) < M 4 0 then ev prog (d + 1) 299 u 281 [vr 3, vr 5, vr 87, vr 96, vr 97, vi x5, vi s0, vj, vj, vj] [vi (M 3 (Int.toNat (wr (x5 + 1)))), vr 87] (shp, M) else none := by rw [ev_eq]; rfl
set_option maxRecDepth 8000 in
theorem b299_292 (d u : Nat) (x5 : Int) (s0 : Int) (M : mM) : ev prog (d + 1) 299 u 292 [vr 3, vr 5, vr 87, vr 96, vr 97, vi x5, vj, vj, vj, vj] [vi s0] (shp, M) = if 0 ≤ (wr (x5 + 1)) ∧ (wr (x5 + 1)) < M 4 0 then ev prog (d + 1) 299 u 293 [vr 3, vr 5, vr 87, vr 96, vr 97, vi x5, vi s0, vj, vj, vj] [vi (M 3 (Int.toNat (wr (x5 + 1)))), vr 87] (shp, M) else none := by rw [ev_eq]; rfl
set_option maxRecDepth 8000 in
theorem b299_304 (d u : Nat) (x5 : Int) (s0 : Int) (M : mM) : ev prog (d + 1) 299 u 304 [vr 3, vr 5, vr 87, vr 96, vr 97, vi x5, vj, vj, vj, vj] [vi s0] (shp, M) = if 0 ≤ (wr (x5 + 1)) ∧ (wr (x5 + 1)) < M 4 0 then ev prog (d + 1) 299 u 305 [vr 3, vr 5, vr 87, vr 96, vr 97, vi x5, vi s0, vj, vj, vj] [vi (M 3 (Int.toNat (wr (x5 + 1)))), vr 87] (shp, M) else none := by rw [ev_eq]; rfl
set_option maxRecDepth 8000 in
theorem b299_316 (d u : Nat) (x5 : Int) (x6 : Int) (s0 : Int) (M : mM) (h : u + 0 ≤ 3400) : ev prog (d + 1) 299 u 316 [vr 3, vr 5, vr 87, vr 96, vr 97, vi x5, vi x6, vj, vj, vj] [vi s0] (shp, M) = callK (run prog d 67 [vr 87] (shp, M)) (fun v σ1 => ev prog (d + 1) 299 (u + 0) 317 [vr 3, vr 5, vr 87, vr 96, vr 97, vi x5, vi x6, vi s0, vj, vj] (psh v []) σ1) (fun e σ1 => hk [0, 0, 0, 0, 0] e σ1 (fun t => ev prog (d + 1) 299 (u + 0) t (msk (pMask prog 299 t) [vr 3, vr 5, vr 87, vr 96, vr 97, vi x5, vi x6, vi s0, vj, vj]) [vj] σ1)) := by
  rw [ev_eq]
  show (match ((true && decide (u + 0 ≤ 3400)) && true) with
    | true => _
    | false => none) = _
  rw [decide_eq_true h]
  rfl
set_option maxRecDepth 8000 in
theorem b299_326 (d u : Nat) (x5 : Int) (s0 : Int) (M : mM) : ev prog (d + 1) 299 u 326 [vr 3, vr 5, vr 87, vr 96, vr 97, vi x5, vj, vj, vj, vj] [vi s0] (shp, M) = if 0 ≤ (wr (x5 + 1)) ∧ (wr (x5 + 1)) < M 4 0 then ev prog (d + 1) 299 u 327 [vr 3, vr 5, vr 87, vr 96, vr 97, vi x5, vj, vj, vj, vj] [vi (M 3 (Int.toNat (wr (x5 + 1)))), vr 87, vi s0] (shp, M) else none := by rw [ev_eq]; rfl
set_option maxRecDepth 8000 in
theorem b299_332 (d u : Nat) (x5 : Int) (s0 : UInt64) (M : mM) : ev prog (d + 1) 299 u 332 [vr 3, vr 5, vr 87, vr 96, vr 97, vi x5, vj, vj, vj, vj] [vd s0] (shp, M) = if 0 ≤ (wr (x5 + 1)) ∧ (wr (x5 + 1)) < M 4 0 then ev prog (d + 1) 299 u 333 [vr 3, vr 5, vr 87, vr 96, vr 97, vi x5, vd s0, vj, vj, vj] [vi (M 3 (Int.toNat (wr (x5 + 1)))), vr 87] (shp, M) else none := by rw [ev_eq]; rfl
set_option maxRecDepth 8000 in
theorem b299_341 (d u : Nat) (x5 : Int) (s0 : Int) (M : mM) : ev prog (d + 1) 299 u 341 [vr 3, vr 5, vr 87, vr 96, vr 97, vi x5, vj, vj, vj, vj] [vi s0] (shp, M) = if 0 ≤ (wr (x5 + 1)) ∧ (wr (x5 + 1)) < M 4 0 then ev prog (d + 1) 299 u 342 [vr 3, vr 5, vr 87, vr 96, vr 97, vi x5, vi s0, vj, vj, vj] [vi (M 3 (Int.toNat (wr (x5 + 1)))), vr 87] (shp, M) else none := by rw [ev_eq]; rfl
set_option maxRecDepth 8000 in
theorem b299_353 (d u : Nat) (x5 : Int) (s0 : Int) (M : mM) : ev prog (d + 1) 299 u 353 [vr 3, vr 5, vr 87, vr 96, vr 97, vi x5, vj, vj, vj, vj] [vi s0] (shp, M) = if 0 ≤ (wr (x5 + 1)) ∧ (wr (x5 + 1)) < M 4 0 then ev prog (d + 1) 299 u 354 [vr 3, vr 5, vr 87, vr 96, vr 97, vi x5, vi s0, vj, vj, vj] [vi (M 3 (Int.toNat (wr (x5 + 1)))), vr 87] (shp, M) else none := by rw [ev_eq]; rfl
set_option maxRecDepth 8000 in
theorem b299_365 (d u : Nat) (x5 : Int) (s0 : Int) (M : mM) : ev prog (d + 1) 299 u 365 [vr 3, vr 5, vr 87, vr 96, vr 97, vi x5, vj, vj, vj, vj] [vi s0] (shp, M) = if 0 ≤ (wr (x5 + 1)) ∧ (wr (x5 + 1)) < M 4 0 then ev prog (d + 1) 299 u 366 [vr 3, vr 5, vr 87, vr 96, vr 97, vi x5, vj, vj, vj, vj] [vi (M 3 (Int.toNat (wr (x5 + 1)))), vr 87, vi s0] (shp, M) else none := by rw [ev_eq]; rfl
set_option maxRecDepth 8000 in
theorem b299_371 (d u : Nat) (x5 : Int) (s1 : Int) (s2 : Int) (M : mM) (h : u + 1 ≤ 3400) : ev prog (d + 1) 299 u 371 [vr 3, vr 5, vr 87, vr 96, vr 97, vi x5, vj, vj, vj, vj] [vi s2, vi s1, vr 5] (shp, M) = callK (run prog d 209 [vr 5, vi s1, vi s2, vr 96] (shp, M)) (fun v σ1 => ev prog (d + 1) 299 (u + 1) 372 [vr 3, vr 5, vr 87, vr 96, vr 97, vi x5, vj, vj, vj, vj] (psh v []) σ1) (fun e σ1 => hk [0, 0, 0, 0, 0] e σ1 (fun t => ev prog (d + 1) 299 (u + 1) t (msk (pMask prog 299 t) [vr 3, vr 5, vr 87, vr 96, vr 97, vi x5, vj, vj, vj, vj]) [vj] σ1)) := by
  rw [ev_eq]
  show (match ((true && decide (u + 1 ≤ 3400)) && true) with
    | true => _
    | false => none) = _
  rw [decide_eq_true h]
  rfl
set_option maxRecDepth 8000 in
theorem b299_385 (d u : Nat) (x5 : Int) (s1 : Int) (s2 : Int) (M : mM) : ev prog (d + 1) 299 u 385 [vr 3, vr 5, vr 87, vr 96, vr 97, vi x5, vj, vj, vj, vj] [vi s2, vi s1, vr 5] (shp, M) = if 0 ≤ (wr (x5 + 3)) ∧ (wr (x5 + 3)) < M 4 0 then ev prog (d + 1) 299 u 386 [vr 3, vr 5, vr 87, vr 96, vr 97, vi x5, vj, vj, vj, vj] [vi (M 3 (Int.toNat (wr (x5 + 3)))), vi s2, vi s1, vr 5] (shp, M) else none := by rw [ev_eq]; rfl
set_option maxRecDepth 8000 in
theorem b299_399 (d u : Nat) (x5 : Int) (s0 : Int) (s1 : Int) (M : mM) : ev prog (d + 1) 299 u 399 [vr 3, vr 5, vr 87, vr 96, vr 97, vi x5, vj, vj, vj, vj] [vi s1, vi s0] (shp, M) = if s0 = s1 then ev prog (d + 1) 299 u 503 [vr 3, vr 5, vr 87, vr 96, vr 97, vi x5, vj, vj, vj, vj] [] (shp, M) else ev prog (d + 1) 299 u 400 [vj, vj, vj, vj, vj, vj, vj, vj, vj, vj] [] (shp, M) := by rw [ev_eq]; rfl
set_option maxRecDepth 8000 in
theorem b299_403 (d u : Nat) (x5 : Int) (s0 : Int) (M : mM) : ev prog (d + 1) 299 u 403 [vr 3, vr 5, vr 87, vr 96, vr 97, vi x5, vj, vj, vj, vj] [vi s0] (shp, M) = if 0 ≤ (wr (x5 + 1)) ∧ (wr (x5 + 1)) < M 4 0 then ev prog (d + 1) 299 u 404 [vr 3, vr 5, vr 87, vr 96, vr 97, vi x5, vi s0, vj, vj, vj] [vi (M 3 (Int.toNat (wr (x5 + 1)))), vr 87] (shp, M) else none := by rw [ev_eq]; rfl
