/-! PLACES IN THE MODEL'S ROW -/
theorem x600 {p : Nat} (h : p < 200) : wr (600 + (p : Int)) = ((600 + p : Nat) : Int) := by
  rw [wr_id (show inR (600 + (p : Int)) by unfold inR; omega)]
  omega
theorem x800 {p : Nat} (h : p < 200) : wr (800 + (p : Int)) = ((800 + p : Nat) : Int) := by
  rw [wr_id (show inR (800 + (p : Int)) by unfold inR; omega)]
  omega
theorem x1000 {p : Nat} (h : p < 200) : wr (1000 + (p : Int)) = ((1000 + p : Nat) : Int) := by
  rw [wr_id (show inR (1000 + (p : Int)) by unfold inR; omega)]
  omega
theorem x1200 {p : Nat} (h : p < 200) : wr (1200 + (p : Int)) = ((1200 + p : Nat) : Int) := by
  rw [wr_id (show inR (1200 + (p : Int)) by unfold inR; omega)]
  omega
theorem x1400 {p : Nat} (h : p < 200) : wr (1400 + (p : Int)) = ((1400 + p : Nat) : Int) := by
  rw [wr_id (show inR (1400 + (p : Int)) by unfold inR; omega)]
  omega
theorem x1600 {p : Nat} (h : p < 200) : wr (1600 + (p : Int)) = ((1600 + p : Nat) : Int) := by
  rw [wr_id (show inR (1600 + (p : Int)) by unfold inR; omega)]
  omega
theorem x1800 {p : Nat} (h : p < 200) : wr (1800 + (p : Int)) = ((1800 + p : Nat) : Int) := by
  rw [wr_id (show inR (1800 + (p : Int)) by unfold inR; omega)]
  omega
theorem x2002 {p : Nat} (h : p < 6) : wr (2002 + (p : Int)) = ((2002 + p : Nat) : Int) := by
  rw [wr_id (show inR (2002 + (p : Int)) by unfold inR; omega)]
  omega
theorem x2011 {p : Nat} (h : p < 3) : wr (2011 + (p : Int)) = ((2011 + p : Nat) : Int) := by
  rw [wr_id (show inR (2011 + (p : Int)) by unfold inR; omega)]
  omega
theorem x2014 {p : Nat} (h : p < 3) : wr (2014 + (p : Int)) = ((2014 + p : Nat) : Int) := by
  rw [wr_id (show inR (2014 + (p : Int)) by unfold inR; omega)]
  omega
theorem x2017 {p : Nat} (h : p < 10) : wr (2017 + (p : Int)) = ((2017 + p : Nat) : Int) := by
  rw [wr_id (show inR (2017 + (p : Int)) by unfold inR; omega)]
  omega
theorem x2027 {p : Nat} (h : p < 4) : wr (2027 + (p : Int)) = ((2027 + p : Nat) : Int) := by
  rw [wr_id (show inR (2027 + (p : Int)) by unfold inR; omega)]
  omega
theorem x3 {p : Nat} (h : p < 200) : wr (3 * (p : Int)) = ((3 * p : Nat) : Int) := by
  rw [wr_id (show inR (3 * (p : Int)) by unfold inR; omega)]
  omega
theorem x3a {p a : Nat} (h : p < 200) (ha : a < 3) : wr (wr (3 * (p : Int)) + (a : Int)) = ((3 * p + a : Nat) : Int) := by
  rw [x3 h, wr_id (show inR (((3 * p : Nat) : Int) + (a : Int)) by unfold inR; omega)]
  omega
theorem x30 {p : Nat} (h : p < 200) : wr (wr (3 * (p : Int)) + 0) = ((3 * p : Nat) : Int) := x3a h (a := 0) (by decide)
theorem x31 {p : Nat} (h : p < 200) : wr (wr (3 * (p : Int)) + 1) = ((3 * p + 1 : Nat) : Int) := x3a h (a := 1) (by decide)
theorem x32 {p : Nat} (h : p < 200) : wr (wr (3 * (p : Int)) + 2) = ((3 * p + 2 : Nat) : Int) := x3a h (a := 2) (by decide)
theorem x2 {p : Nat} (h : p < 400) : wr (2 * (p : Int)) = ((2 * p : Nat) : Int) := by
  rw [wr_id (show inR (2 * (p : Int)) by unfold inR; omega)]
  omega
theorem x20 {p : Nat} (h : p < 400) : wr (wr (2 * (p : Int)) + 0) = ((2 * p : Nat) : Int) := by
  rw [x2 h, wr_id (show inR (((2 * p : Nat) : Int) + 0) by unfold inR; omega)]
  omega
theorem x21 {p : Nat} (h : p < 400) : wr (wr (2 * (p : Int)) + 1) = ((2 * p + 1 : Nat) : Int) := by
  rw [x2 h, wr_id (show inR (((2 * p : Nat) : Int) + 1) by unfold inR; omega)]
  omega
theorem g8 {M : mM} (h : Iv M) {j : Nat} (hj : j < 600) : M 88 j = M 8 j := by
  have := (h.co j hj).1
  rw [Nat.zero_add] at this
  exact this.symm
theorem gi2031 {n : Nat} (h : n < 2031) : 0 ≤ (n : Int) ∧ (n : Int) < 2031 := by omega
theorem gi200 {n : Nat} (h : n < 200) : 0 ≤ (n : Int) ∧ (n : Int) < 200 := by omega
theorem gi60 {n : Nat} (h : n < 60) : 0 ≤ (n : Int) ∧ (n : Int) < 60 := by omega
theorem gi90 {n : Nat} (h : n < 90) : 0 ≤ (n : Int) ∧ (n : Int) < 90 := by omega
theorem gi100 {n : Nat} (h : n < 100) : 0 ≤ (n : Int) ∧ (n : Int) < 100 := by omega
theorem gi400 {n : Nat} (h : n < 400) : 0 ≤ (n : Int) ∧ (n : Int) < 400 := by omega
theorem gi600 {n : Nat} (h : n < 600) : 0 ≤ (n : Int) ∧ (n : Int) < 600 := by omega
theorem wrR {x : Int} (h0 : -2147483648 ≤ x) (h1 : x < 2147483648) : wr x = x := wr_id (by unfold inR; exact ⟨h0, h1⟩)
