/-! PLAIN ANSWERS OF THE MODEL -/
theorem Iv.thr {M : mM} (h : Iv M) (k : Int) : Iv (mset M 87 3 k) := h.same same_mset (by decide)
theorem p31_thr (M : mM) (k x : Int) : p31 x (mset M 87 3 k) = p31 x M := cp31 (same_mset 7 (by decide)) x
theorem p32_thr (M : mM) (k x : Int) : p32 x (mset M 87 3 k) = p32 x M := cp32 (same_mset 7 (by decide)) (same_mset 11 (by decide)) x
theorem sp78 {M : mM} (h : Iv M) (d : Nat) (x : Int) : run prog (d + 4) 78 [vr 87, vi x] (shp, M) = some (.inl (some (vi (bi (p32 x M)))), (shp, mset M 87 3 0)) := by
  show ev prog (d + 4) 78 0 0 [vr 87, vi x] [] (shp, M) = _
  rw [g78_0, sp73 (h.thr 0) d, p32_thr, callK_r, psh_s, g78_1, if_pos (bit_bi _)]
theorem axis_iff (x : Int) (M : mM) : p83 x M = decide (0 ≤ x ∧ x < 3) := by
  unfold p83 p51
  by_cases h0 : x < 0
  · rw [if_pos h0]; symm; rw [decide_eq_false_iff_not]; omega
  · rw [if_neg h0]
    by_cases h1 : 2 < x
    · rw [if_pos h1]; symm; rw [decide_eq_false_iff_not]; omega
    · rw [if_neg h1]; symm; rw [decide_eq_true_eq]; omega
theorem o81_eq (x y : Int) (M : mM) : o81 x y M = some (match p31 x M, decide (0 ≤ y ∧ y < 3) with
    | false, _ => .inr 2
    | true, false => .inr 0
    | true, true => .inl (some (vi (r20 x y M))), (shp, M)) := by
  unfold o81
  cases hp : p31 x M with
  | false => rfl
  | true =>
    rw [if_neg (show ¬ bi true = 0 by decide)]
    by_cases h0 : y < 0
    · rw [if_pos h0, decide_eq_false (by omega)]
    · rw [if_neg h0]
      by_cases h1 : y < 3
      · rw [if_pos h1, decide_eq_true (by omega)]
      · rw [if_neg h1, decide_eq_false (by omega)]
theorem sp84 {M : mM} (h : Iv M) (d : Nat) (x y : Int) : run prog (d + 3) 84 [vr 87, vi x, vi y] (shp, M) = match p31 x M, decide (0 ≤ y ∧ y < 3) with
    | false, _ => some (.inl (some (vi 0)), (shp, mset (mset M 87 3 0) 87 3 1))
    | true, false => some (.inl (some (vi 0)), (shp, mset (mset M 87 3 0) 87 3 2))
    | true, true => some (.inl (some (vi (r20 x y M))), (shp, mset M 87 3 0)) := by
  show ev prog (d + 3) 84 0 0 [vr 87, vi x, vi y] [] (shp, M) = _
  rw [g84_0, sp72 (h.thr 0) d, p31_thr, callK_r, psh_s, g84_1, axis_iff]
  cases hp : p31 x M with
  | false => rfl
  | true =>
    obtain ⟨p, rfl, h2, -⟩ := p31_range h hp
    rw [if_neg (show ¬ bi true = 0 by decide)]
    by_cases h1 : 0 ≤ y ∧ y < 3
    · obtain ⟨a, rfl⟩ : ∃ a : Nat, y = (a : Int) := ⟨y.toNat, by omega⟩
      have e0 : wr (3 * (p : Int)) = 3 * (p : Int) := wr_id (by unfold inR; omega)
      have e1 : wr (3 * (p : Int) + (a : Int)) = ((3 * p + a : Nat) : Int) := by rw [wr_id (show inR (3 * (p : Int) + (a : Int)) by unfold inR; omega)]; omega
      rw [decide_eq_true h1, if_neg (show ¬ bi true = 0 by decide), e0, e1, if_pos (by omega), Int.toNat_natCast, r20_at M h2 (by omega), mset_k (by decide)]
      have := (h.co (3 * p + a) (by omega)).1
      rw [Nat.zero_add] at this
      rw [this]
    · rw [decide_eq_false h1]
      rfl
theorem sp87 {M : mM} (h : Iv M) (d : Nat) (x : Int) : run prog (d + 3) 87 [vr 87, vi x] (shp, M) = match p31 x M with
    | false => some (.inl (some (vi 0)), (shp, mset (mset M 87 3 0) 87 3 1))
    | true => some (.inl (some (vi (va M 9 200 x))), (shp, mset M 87 3 0)) := by
  show ev prog (d + 3) 87 0 0 [vr 87, vi x] [] (shp, M) = _
  rw [g87_0, sp72 (h.thr 0) d, p31_thr, callK_r, psh_s, g87_1]
  cases hp : p31 x M with
  | false => rfl
  | true =>
    obtain ⟨p, rfl, h2, -⟩ := p31_range h hp
    obtain ⟨e1, e2, e3⟩ := ix 600 p (by omega)
    have e4 : wr (600 + (p : Int)) = wr (((600 : Nat) : Int) + (p : Int)) := rfl
    rw [if_neg (show ¬ bi true = 0 by decide), e4, if_pos e2, e3, mset_k (by decide), rw2_at h.we h2, va_in ⟨by omega, by omega⟩, Int.toNat_natCast]
theorem sp90 {M : mM} (h : Iv M) (d : Nat) (x : Int) : run prog (d + 3) 90 [vr 87, vi x] (shp, M) = match p31 x M with
    | false => some (.inl (some (vi 0)), (shp, mset (mset M 87 3 0) 87 3 1))
    | true => some (.inl (some (vi (va M 10 200 x))), (shp, mset M 87 3 0)) := by
  show ev prog (d + 3) 90 0 0 [vr 87, vi x] [] (shp, M) = _
  rw [g90_0, sp72 (h.thr 0) d, p31_thr, callK_r, psh_s, g90_1]
  cases hp : p31 x M with
  | false => rfl
  | true =>
    obtain ⟨p, rfl, h2, -⟩ := p31_range h hp
    obtain ⟨e1, e2, e3⟩ := ix 800 p (by omega)
    have e4 : wr (800 + (p : Int)) = wr (((800 : Nat) : Int) + (p : Int)) := rfl
    rw [if_neg (show ¬ bi true = 0 by decide), e4, if_pos e2, e3, mset_k (by decide), rw2_at h.ta h2, va_in ⟨by omega, by omega⟩, Int.toNat_natCast]
