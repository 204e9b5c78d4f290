def inR (x : Int) : Prop := -2147483648 ≤ x ∧ x < 2147483648
theorem wr_toInt (x : Int) : (Int32.ofInt x).toInt = wr x := by
  rw [Int32.toInt_ofInt]; rfl
theorem wr_inR (x : Int) : inR (wr x) := by
  unfold wr inR
  have h1 := @Int.le_bmod x 4294967296 (by decide)
  have h2 := @Int.bmod_lt x 4294967296 (by decide)
  exact ⟨by omega, by omega⟩
theorem wr_id {x : Int} (h : inR x) : wr x = x := by
  unfold wr inR at *
  rw [Int.bmod_eq_of_le] <;> omega
theorem ofI_toInt {x : Int} (h : inR x) : (Int32.ofInt x).toInt = x := by rw [wr_toInt, wr_id h]
theorem ofI_wr (x : Int) : Int32.ofInt (wr x) = Int32.ofInt x := by
  apply Int32.toInt_inj.mp
  rw [wr_toInt, wr_toInt, wr_id (wr_inR x)]
theorem toI_inR (x : Int32) : inR x.toInt := ⟨Int32.le_toInt x, Int32.toInt_lt x⟩
theorem ofI_of (x : Int32) : Int32.ofInt x.toInt = x := Int32.ofInt_toInt x
theorem ofI_add (x y : Int) : Int32.ofInt x + Int32.ofInt y = Int32.ofInt (wr (x + y)) := by rw [ofI_wr, Int32.ofInt_add]
theorem ofI_sub (x y : Int) : Int32.ofInt x - Int32.ofInt y = Int32.ofInt (wr (x - y)) := by rw [ofI_wr, Int32.ofInt_sub]
theorem ofI_mul (x y : Int) : Int32.ofInt x * Int32.ofInt y = Int32.ofInt (wr (x * y)) := by rw [ofI_wr, Int32.ofInt_mul]
theorem ofI_neg (x : Int) : -Int32.ofInt x = Int32.ofInt (wr (-x)) := by rw [ofI_wr, Int32.ofInt_neg]
theorem ofI_lt {x y : Int} (hx : inR x) (hy : inR y) : Int32.ofInt x < Int32.ofInt y ↔ x < y := by
  rw [Int32.lt_iff_toInt_lt, ofI_toInt hx, ofI_toInt hy]
theorem ofI_le {x y : Int} (hx : inR x) (hy : inR y) : Int32.ofInt x ≤ Int32.ofInt y ↔ x ≤ y := by
  rw [Int32.le_iff_toInt_le, ofI_toInt hx, ofI_toInt hy]
theorem ofI_eq {x y : Int} (hx : inR x) (hy : inR y) : Int32.ofInt x = Int32.ofInt y ↔ x = y := by
  rw [← Int32.toInt_inj, ofI_toInt hx, ofI_toInt hy]
theorem inR_0 : inR 0 := by unfold inR; omega
theorem ofI_0 : Int32.ofInt 0 = 0 := rfl
theorem ofI_clamp {x : Int} (h : inR x) : (Int32.ofInt x).toNatClampNeg = x.toNat := by
  show (Int32.ofInt x).toInt.toNat = _
  rw [ofI_toInt h]
theorem ofI_in {x : Int} {n : Nat} (h : inR x) (h0 : 0 ≤ x) (hn : x < n) : vp_in (Int32.ofInt x) n := by
  rw [vp_in_iff, ofI_toInt h]
  exact ⟨h0, hn⟩
theorem ofI_tdiv {x y : Int} (hx : inR x) (hy : inR y) (h0 : 0 < y) : Int32.ofInt x / Int32.ofInt y = Int32.ofInt (x.tdiv y) := by
  apply Int32.toInt_inj.mp
  have h2 : inR (x.tdiv y) := by
    have h3 := Int.natAbs_tdiv_le_natAbs x y
    by_cases hx0 : 0 ≤ x
    · have := Int.tdiv_nonneg hx0 (Int.le_of_lt h0)
      unfold inR at *; omega
    · have h5 : x.tdiv y ≤ 0 := by
        have h6 : 0 ≤ (-x).tdiv y := Int.tdiv_nonneg (by omega) (Int.le_of_lt h0)
        rw [Int.neg_tdiv] at h6
        omega
      unfold inR at *; omega
  rw [Int32.toInt_div, ofI_toInt hx, ofI_toInt hy, ofI_toInt h2]
  exact wr_id h2
theorem tdiv_inR {x y : Int} (hx : inR x) (h0 : 0 < y) : inR (x.tdiv y) := by
  have h3 := Int.natAbs_tdiv_le_natAbs x y
  by_cases hx0 : 0 ≤ x
  · have := Int.tdiv_nonneg hx0 (Int.le_of_lt h0)
    unfold inR at *; omega
  · have h5 : x.tdiv y ≤ 0 := by
      have h6 : 0 ≤ (-x).tdiv y := Int.tdiv_nonneg (by omega) (Int.le_of_lt h0)
      rw [Int.neg_tdiv] at h6
      omega
    unfold inR at *; omega
theorem tmod_inR {x y : Int} (hy : inR y) (h0 : 0 < y) : inR (x.tmod y) := by
  have h := tmod_bounds (a := x) h0
  unfold inR at *; omega
theorem ofI_tmod {x y : Int} (hx : inR x) (hy : inR y) (h0 : 0 < y) : Int32.ofInt x - Int32.ofInt x / Int32.ofInt y * Int32.ofInt y = Int32.ofInt (x.tmod y) := by
  rw [ofI_tdiv hx hy h0, ofI_mul, ofI_sub, ofI_wr]
  apply Int32.toInt_inj.mp
  rw [wr_toInt, wr_toInt]
  have h1 := Int.mul_tdiv_add_tmod x y
  have h2 : x - wr (x.tdiv y * y) = x.tmod y + (x.tdiv y * y - wr (x.tdiv y * y)) := by
    rw [Int.mul_comm] at h1
    omega
  rw [h2]
  unfold wr
  rw [show x.tmod y + (x.tdiv y * y - (x.tdiv y * y).bmod 4294967296) = x.tmod y + x.tdiv y * y - (x.tdiv y * y).bmod 4294967296 by omega]
  rw [Int.sub_bmod_bmod]
  congr 1
  omega
theorem ofI_max {x y : Int} (hx : inR x) (hy : inR y) : (if Int32.ofInt x < Int32.ofInt y then Int32.ofInt y else Int32.ofInt x) = Int32.ofInt (if x < y then y else x) := by
  by_cases h : x < y
  · rw [if_pos h, if_pos ((ofI_lt hx hy).mpr h)]
  · rw [if_neg h, if_neg (fun q => h ((ofI_lt hx hy).mp q))]
theorem ofI_min {x y : Int} (hx : inR x) (hy : inR y) : (if Int32.ofInt y < Int32.ofInt x then Int32.ofInt y else Int32.ofInt x) = Int32.ofInt (if y < x then y else x) := by
  by_cases h : y < x
  · rw [if_pos h, if_pos ((ofI_lt hy hx).mpr h)]
  · rw [if_neg h, if_neg (fun q => h ((ofI_lt hy hx).mp q))]
theorem ofI_abs {x : Int} (hx : inR x) : (if 0 ≤ Int32.ofInt x then Int32.ofInt x else 0 - Int32.ofInt x) = Int32.ofInt (wr (x.natAbs : Int)) := by
  have h0 : (0 ≤ Int32.ofInt x) ↔ 0 ≤ x := ofI_le (x := 0) inR_0 hx
  by_cases h : 0 ≤ x
  · rw [if_pos (h0.mpr h), ofI_wr]
    congr 1
    omega
  · rw [if_neg (fun q => h (h0.mp q)), show (0 : Int32) = Int32.ofInt 0 from rfl, ofI_sub, ofI_wr, ofI_wr]
    congr 1
    omega
theorem ofL_toInt {x : Int} (hx : inR x) : (Int64.ofInt x).toInt = x := by
  rw [Int64.toInt_ofInt]
  unfold inR at hx
  show Int.bmod x 18446744073709551616 = x
  rw [Int.bmod_eq_of_le] <;> omega
theorem ofI_i2l {x : Int} (hx : inR x) : (Int32.ofInt x).toInt64 = Int64.ofInt x := by
  apply Int64.toInt_inj.mp
  rw [Int32.toInt_toInt64, ofI_toInt hx, ofL_toInt hx]
theorem cmpL_inR (x y : Int) : inR (cmpL x y) := by
  unfold cmpL inR
  split
  · omega
  · split <;> omega
theorem ofL_cmp {x y : Int} (hx : inR x) (hy : inR y) : lg_cmp (Int64.ofInt x) (Int64.ofInt y) = Int32.ofInt (cmpL x y) := by
  unfold lg_cmp cmpL
  simp only [Int64.lt_iff_toInt_lt, ← Int64.toInt_inj, ofL_toInt hx, ofL_toInt hy]
  by_cases h1 : x < y
  · have h2 : ¬ y < x := by omega
    have h3 : ¬ x = y := by omega
    rw [if_neg h2, if_neg h3, if_pos h1]
    rfl
  · by_cases h2 : x = y
    · simp [h2]
    · have h3 : y < x := by omega
      simp [h1, h2, h3]
theorem bv_mod (X : Int32) : ∃ q : Int, X.toInt = (X.toBitVec.toNat : Int) + 4294967296 * q := by
  have h : X.toInt = X.toBitVec.toInt := rfl
  rw [h, BitVec.toInt_eq_toNat_cond]
  split
  · exact ⟨0, by omega⟩
  · exact ⟨-1, by omega⟩
theorem ofI_and63 {x : Int} (hx : inR x) : Int32.ofInt x &&& Int32.ofInt 63 = Int32.ofInt (x % 64) := by
  rw [pk_and (Int32.ofInt x) (m := Int32.ofInt 63) 6 (by decide)]
  obtain ⟨q, hq⟩ := bv_mod (Int32.ofInt x)
  rw [ofI_toInt hx] at hq
  show Int32.ofNat _ = _
  rw [← Int32.ofInt_eq_ofNat]
  congr 1
  omega
theorem ofI_i2c {x : Int} (hx : inR x) : ((Int32.ofInt x).toUInt32 % 65536).toInt32 = Int32.ofInt (x % 65536) := by
  rw [pk_char]
  obtain ⟨q, hq⟩ := bv_mod (Int32.ofInt x)
  rw [ofI_toInt hx] at hq
  show Int32.ofNat _ = _
  rw [← Int32.ofInt_eq_ofNat]
  congr 1
  omega
