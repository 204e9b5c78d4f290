/-! DOUBLES THAT ARE NUMBERS -/
theorem nn_of {r : UInt64} (h : FP.Core.val64 r ≠ .nan) : nn64 r = true := by
  have h1 := (FP.Core.ne_nan r).mp h
  unfold nn64
  rw [decide_eq_true_eq, UInt64.le_iff_toNat_le, UInt64.toNat_and]
  have e : (0x7fffffffffffffff : UInt64).toNat = 2 ^ 63 - 1 := by decide
  rw [e, Nat.and_two_pow_sub_one_eq_mod]
  exact h1
theorem i32_of {a : Int} (h : inR a) : (Int32.ofInt a).toInt = a := ofI_toInt h
theorem i2d_fin {a : Int} (h : inR a) : ∃ c q, FP.Core.val64 (FP.Core.i2d (Int32.ofInt a)) = .fin (decide (a < 0)) c q ∧ (a ≠ 0 → c ≠ 0) := by
  have h1 := FP.Core.i2d_int (Int32.ofInt a)
  have h2 := FP.Core.val64_i2d (Int32.ofInt a)
  rw [i32_of h] at h1 h2
  have h3 : FP.Core.sgn (FP.Core.val64 (FP.Core.i2d (Int32.ofInt a))) = decide (a < 0) := by
    rw [h2]
    exact FP.Core.sgn_roundRatio _ _ _ _ _
  unfold FP.Core.DInt at h1
  cases hx : FP.Core.val64 (FP.Core.i2d (Int32.ofInt a)) with
  | nan => rw [hx] at h1; exact h1.elim
  | inf s => rw [hx] at h1; exact h1.elim
  | fin s c q =>
    rw [hx] at h1 h3
    have h3 : s = decide (a < 0) := h3
    refine ⟨c, q, by rw [h3], fun ha hc => ?_⟩
    subst hc
    have h1 : FP.Core.signed s (0 * 2 ^ q.toNat) = a * ((2 ^ (-q).toNat : Nat) : Int) := h1
    rw [Nat.zero_mul] at h1
    have h4 : FP.Core.signed s 0 = 0 := by cases s <;> rfl
    rw [h4] at h1
    have := Nat.two_pow_pos (-q).toNat
    rcases Int.mul_eq_zero.mp h1.symm with h5 | h5
    · exact ha h5
    · omega
/-- a number, not below zero -/
def dpos (x : UInt64) : Prop := FP.Core.val64 x ≠ .nan ∧ FP.Core.sgn (FP.Core.val64 x) = false
theorem ddiv_nn {a b : Int} (ha : inR a) (hb : inR b) (h0 : b ≠ 0) : FP.Core.val64 (FP.ddiv (FP.i2d (Int32.ofInt a)) (FP.i2d (Int32.ofInt b))) ≠ .nan := by
  obtain ⟨c, q, h1, -⟩ := i2d_fin ha
  obtain ⟨d, r, h2, h3⟩ := i2d_fin hb
  show FP.Core.val64 (FP.Core.ddiv (FP.Core.i2d (Int32.ofInt a)) (FP.Core.i2d (Int32.ofInt b))) ≠ .nan
  rw [FP.Core.val64_ddiv, h1, h2]
  show (if d = 0 then (if c = 0 then .nan else .inf _) else FP.Core.roundRatio FP.Core.b64 _ c d (q - r)) ≠ FP.Core.Datum.nan
  rw [if_neg (h3 h0)]
  exact FP.Core.roundRatio_ne_nan _ _ _ _ _
theorem ddiv_pos {a b : Int} (ha : inR a) (hb : inR b) (ha0 : 0 ≤ a) (h0 : 0 < b) : dpos (FP.ddiv (FP.i2d (Int32.ofInt a)) (FP.i2d (Int32.ofInt b))) := by
  refine ⟨ddiv_nn ha hb (by omega), ?_⟩
  obtain ⟨c, q, h1, -⟩ := i2d_fin ha
  obtain ⟨d, r, h2, h3⟩ := i2d_fin hb
  show FP.Core.sgn (FP.Core.val64 (FP.Core.ddiv (FP.Core.i2d (Int32.ofInt a)) (FP.Core.i2d (Int32.ofInt b)))) = false
  rw [FP.Core.val64_ddiv, h1, h2, decide_eq_false (by omega), decide_eq_false (by omega)]
  show FP.Core.sgn (if d = 0 then (if c = 0 then .nan else .inf _) else FP.Core.roundRatio FP.Core.b64 _ c d (q - r)) = false
  rw [if_neg (h3 (by omega)), FP.Core.sgn_roundRatio]
  rfl
theorem dpos_0 : dpos FP.dconst0 := by
  have e : FP.Core.val64 FP.dconst0 = _ := FP.Core.val64_dconst0
  unfold dpos
  rw [e]
  exact ⟨FP.Core.Datum.noConfusion, rfl⟩
theorem dadd_pos {x y : UInt64} (hx : dpos x) (hy : dpos y) : dpos (FP.dadd x y) := by
  obtain ⟨x1, x2⟩ := hx
  obtain ⟨y1, y2⟩ := hy
  have e : FP.Core.val64 (FP.dadd x y) = FP.Core.round FP.Core.b64 (FP.Core.exactSum (FP.Core.val64 x) (FP.Core.val64 y)) := FP.Core.val64_dadd x y
  unfold dpos
  rw [e]
  cases hx : FP.Core.val64 x with
  | nan => exact absurd hx x1
  | inf s =>
    rw [hx] at x2
    have x2 : s = false := x2
    subst x2
    cases hy : FP.Core.val64 y with
    | nan => exact absurd hy y1
    | inf t =>
      rw [hy] at y2
      have y2 : t = false := y2
      subst y2
      exact ⟨FP.Core.Datum.noConfusion, rfl⟩
    | fin t d r => exact ⟨FP.Core.Datum.noConfusion, rfl⟩
  | fin s c q =>
    rw [hx] at x2
    have x2 : s = false := x2
    subst x2
    cases hy : FP.Core.val64 y with
    | nan => exact absurd hy y1
    | inf t =>
      rw [hy] at y2
      have y2 : t = false := y2
      subst y2
      exact ⟨FP.Core.Datum.noConfusion, rfl⟩
    | fin t d r =>
      rw [hy] at y2
      have y2 : t = false := y2
      subst y2
      refine ⟨FP.Core.roundRatio_ne_nan _ _ _ _ _, ?_⟩
      show FP.Core.sgn (FP.Core.roundRatio _ _ _ _ _) = false
      rw [FP.Core.sgn_roundRatio]
      unfold FP.Core.sumSign
      split
      · rfl
      · rename_i hz
        rw [decide_eq_false_iff_not]
        have : FP.Core.sumUnits false c q false d r (min q r) = ((FP.Core.inUnits c q (min q r) : Nat) : Int) + ((FP.Core.inUnits d r (min q r) : Nat) : Int) := rfl
        rw [this]
        omega
