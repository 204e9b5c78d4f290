/-! DISTANCES -/
def met (M : mM) (a b c : Int) : Int := if M 34 2 = 1 then (if a < (if b < c then c else b) then (if b < c then c else b) else a) else if M 34 2 = 2 then a * a + b * b + c * c else if M 34 2 = 3 then M 34 3 * a + M 34 4 * b + M 34 5 * c else a + b + c
def d3 (a : Int) : Prop := 0 ≤ a ∧ a ≤ 300
theorem mul_le3 {a b A B : Int} (ha : 0 ≤ a ∧ a ≤ A) (hb : 0 ≤ b ∧ b ≤ B) : 0 ≤ a * b ∧ a * b ≤ A * B :=
  ⟨Int.mul_nonneg ha.1 hb.1, Int.mul_le_mul ha.2 hb.2 hb.1 (by omega)⟩
theorem wr3 {x y z : Int} (hx : 0 ≤ x ∧ x ≤ 90000) (hy : 0 ≤ y ∧ y ≤ 90000) (hz : 0 ≤ z ∧ z ≤ 90000) : wr (wr (wr x + wr y) + wr z) = x + y + z := by
  rw [wr_id (show inR x by unfold inR; omega), wr_id (show inR y by unfold inR; omega), wr_id (show inR z by unfold inR; omega), wr_id (show inR (x + y) by unfold inR; omega), wr_id (show inR (x + y + z) by unfold inR; omega)]
theorem met_le {M : mM} (h : Iv M) {a b c : Int} (ha : d3 a) (hb : d3 b) (hc : d3 c) : 0 ≤ met M a b c ∧ met M a b c ≤ 270000 := by
  obtain ⟨-, -, h3, h4, h5⟩ := h.op
  unfold d3 at ha hb hc
  unfold met
  have m1 := mul_le3 ha ha
  have m2 := mul_le3 hb hb
  have m3 := mul_le3 hc hc
  have m4 := mul_le3 (⟨by omega, h3.2⟩ : 0 ≤ M 34 3 ∧ M 34 3 ≤ 9) ha
  have m5 := mul_le3 (⟨by omega, h4.2⟩ : 0 ≤ M 34 4 ∧ M 34 4 ≤ 9) hb
  have m6 := mul_le3 (⟨by omega, h5.2⟩ : 0 ≤ M 34 5 ∧ M 34 5 ≤ 9) hc
  split
  · split <;> split <;> omega
  · split
    · omega
    · split <;> omega
theorem sp156 {M : mM} (h : Iv M) (d : Nat) {a b c : Int} (ha : d3 a) (hb : d3 b) (hc : d3 c) : run prog (d + 3) 156 [vr 33, vi a, vi b, vi c] (shp, M) = some (.inl (some (vi (met M a b c))), (shp, M)) := by
  show ev prog (d + 3) 156 0 0 [vr 33, vi a, vi b, vi c] [] (shp, M) = _
  obtain ⟨h1, h2, h3, h4, h5⟩ := h.op
  have r2 : r39 2 M = M 34 2 := va_in ⟨by decide, by decide⟩
  have r3 : r39 3 M = M 34 3 := va_in ⟨by decide, by decide⟩
  have r4 : r39 4 M = M 34 4 := va_in ⟨by decide, by decide⟩
  have r5 : r39 5 M = M 34 5 := va_in ⟨by decide, by decide⟩
  have h0 := (h1 2 (by decide)).2.1
  unfold d3 at ha hb hc
  rw [g156_0, r2]
  unfold met
  by_cases c1 : M 34 2 = 1
  · rw [if_pos c1, c1, b156_1_1, g156_2]
  · rw [if_neg c1]
    by_cases c2 : M 34 2 = 2
    · rw [if_pos c2, c2, b156_1_2, g156_3, wr3 (mul_le3 ha ha) (mul_le3 hb hb) (mul_le3 hc hc)]
    · rw [if_neg c2]
      by_cases c3 : M 34 2 = 3
      · have m4 := mul_le3 (⟨by omega, h3.2⟩ : 0 ≤ M 34 3 ∧ M 34 3 ≤ 9) ha
        have m5 := mul_le3 (⟨by omega, h4.2⟩ : 0 ≤ M 34 4 ∧ M 34 4 ≤ 9) hb
        have m6 := mul_le3 (⟨by omega, h5.2⟩ : 0 ≤ M 34 5 ∧ M 34 5 ≤ 9) hc
        rw [if_pos c3, c3, b156_1_3, g156_4, r3, r4, r5, wr3 (by omega) (by omega) (by omega)]
      · rw [if_neg c3, b156_1_df _ _ _ _ _ _ (by omega), g156_8, wr_id (show inR (a + b) by unfold inR; omega), wr_id (show inR (a + b + c) by unfold inR; omega)]
theorem sp161 {M : mM} (h : Iv M) (d : Nat) {a b c : Int} (ha : d3 a) (hb : d3 b) (hc : d3 c) : run prog (d + 2) 161 [vr 87, vi a, vi b, vi c] (shp, M) = some (.inl (some (vi (met M a b c))), (shp, M)) := by
  show ev prog (d + 2) 161 0 0 [vr 87, vi a, vi b, vi c] [] (shp, M) = _
  obtain ⟨h1, h2, h3, h4, h5⟩ := h.op
  have r2 : M 88 2004 = M 34 2 := rw2_at h1 (p := 2) (by decide)
  have r3 : M 88 2005 = M 34 3 := rw2_at h1 (p := 3) (by decide)
  have r4 : M 88 2006 = M 34 4 := rw2_at h1 (p := 4) (by decide)
  have r5 : M 88 2007 = M 34 5 := rw2_at h1 (p := 5) (by decide)
  have h0 := (h1 2 (by decide)).2.1
  unfold d3 at ha hb hc
  rw [g161_0, r2]
  unfold met
  by_cases c1 : M 34 2 = 1
  · rw [if_pos c1, c1, b161_1_1, g161_3]
    unfold r137
    have e : (if c < b then b else c) = (if b < c then c else b) := by split <;> split <;> omega
    rw [e]
    have e2 : ∀ m : Int, (if m < a then a else m) = (if a < m then m else a) := fun m => by split <;> split <;> omega
    rw [e2]
  · rw [if_neg c1]
    by_cases c2 : M 34 2 = 2
    · rw [if_pos c2, c2, b161_1_2, g161_6, wr3 (mul_le3 ha ha) (mul_le3 hb hb) (mul_le3 hc hc)]
    · rw [if_neg c2]
      by_cases c3 : M 34 2 = 3
      · have m4 := mul_le3 (⟨by omega, h3.2⟩ : 0 ≤ M 34 3 ∧ M 34 3 ≤ 9) ha
        have m5 := mul_le3 (⟨by omega, h4.2⟩ : 0 ≤ M 34 4 ∧ M 34 4 ≤ 9) hb
        have m6 := mul_le3 (⟨by omega, h5.2⟩ : 0 ≤ M 34 5 ∧ M 34 5 ≤ 9) hc
        rw [if_pos c3, c3, b161_1_df _ _ _ _ _ _ (by omega), g161_7, r3, r4, r5, wr3 (by omega) (by omega) (by omega)]
      · have c0 : M 34 2 = 0 := by omega
        rw [if_neg c3, c0, b161_1_0, g161_2, wr_id (show inR (a + b) by unfold inR; omega), wr_id (show inR (a + b + c) by unfold inR; omega)]
/-- the distance of two numbers -/
def ab (a b : Int) : Int := if a < b then b - a else a - b
theorem ab_d3 {a b : Int} (ha : -100 ≤ a ∧ a ≤ 100) (hb : -100 ≤ b ∧ b ≤ 100) : d3 (ab a b) ∧ wr (Int.natAbs (wr (a - b)) : Int) = ab a b ∧ (if a < b then wr (b - a) else wr (a - b)) = ab a b := by
  have e1 : wr (a - b) = a - b := wr_id (by unfold inR; omega)
  have e2 : wr (b - a) = b - a := wr_id (by unfold inR; omega)
  rw [e1, e2]
  have e3 : ((a - b).natAbs : Int) = ab a b := by unfold ab; split <;> omega
  have e4 : d3 (ab a b) := by unfold ab d3; split <;> omega
  rw [e3]
  refine ⟨e4, wr_id ?_, rfl⟩
  unfold d3 at e4
  unfold inR
  omega
def dq (M : mM) (p : Nat) : Int := met M (ab (M 8 (3 * p)) (M 35 0)) (ab (M 8 (3 * p + 1)) (M 35 1)) (ab (M 8 (3 * p + 2)) (M 35 2))
def db (M : mM) (p q : Nat) : Int := met M (ab (M 8 (3 * p)) (M 8 (3 * q))) (ab (M 8 (3 * p + 1)) (M 8 (3 * q + 1))) (ab (M 8 (3 * p + 2)) (M 8 (3 * q + 2)))
theorem r20_at (M : mM) {p a : Nat} (hp : p < 200) (ha : a < 3) : r20 (p : Int) (a : Int) M = M 8 (3 * p + a) := by
  unfold r20
  rw [wr_id (show inR (3 * (p : Int)) by unfold inR; omega), wr_id (show inR (3 * (p : Int) + (a : Int)) by unfold inR; omega), va_in ⟨by omega, by omega⟩]
  congr 1
theorem sp157 {M : mM} (h : Iv M) (d : Nat) {p : Nat} (hp : p < 200) : run prog (d + 4) 157 [vr 72, vi (p : Int)] (shp, M) = some (.inl (some (vi (dq M p))), (shp, M)) := by
  show ev prog (d + 4) 157 0 0 [vr 72, vi (p : Int), vj] [] (shp, M) = _
  have c0 := (h.co (3 * p) (by omega)).2
  have c1 := (h.co (3 * p + 1) (by omega)).2
  have c2 := (h.co (3 * p + 2) (by omega)).2
  have q0 := (h.qu 0 (by decide)).2
  have q1 := (h.qu 1 (by decide)).2
  have q2 := (h.qu 2 (by decide)).2
  have v0 : va M 35 3 0 = M 35 0 := va_in ⟨by decide, by decide⟩
  have v1 : va M 35 3 1 = M 35 1 := va_in ⟨by decide, by decide⟩
  have v2 : va M 35 3 2 = M 35 2 := va_in ⟨by decide, by decide⟩
  have e0 : r20 (p : Int) 0 M = M 8 (3 * p) := r20_at M hp (a := 0) (by decide)
  have e1 : r20 (p : Int) 1 M = M 8 (3 * p + 1) := r20_at M hp (a := 1) (by decide)
  have e2 : r20 (p : Int) 2 M = M 8 (3 * p + 2) := r20_at M hp (a := 2) (by decide)
  obtain ⟨a0, b0, -⟩ := ab_d3 c0 q0
  obtain ⟨a1, b1, -⟩ := ab_d3 c1 q1
  obtain ⟨a2, b2, -⟩ := ab_d3 c2 q2
  rw [g157_0, e0, e1, e2, v0, v1, v2, b0, b1, b2, sp156 h d a0 a1 a2, callK_r, psh_s, g157_7]
  rfl
theorem sp187 {M : mM} (h : Iv M) (d : Nat) {p q : Nat} (hp : p < 200) (hq : q < 200) : run prog (d + 4) 187 [vr 72, vi (p : Int), vi (q : Int)] (shp, M) = some (.inl (some (vi (db M p q))), (shp, M)) := by
  show ev prog (d + 4) 187 0 0 [vr 72, vi (p : Int), vi (q : Int)] [] (shp, M) = _
  obtain ⟨a0, b0, -⟩ := ab_d3 (h.co (3 * p) (by omega)).2 (h.co (3 * q) (by omega)).2
  obtain ⟨a1, b1, -⟩ := ab_d3 (h.co (3 * p + 1) (by omega)).2 (h.co (3 * q + 1) (by omega)).2
  obtain ⟨a2, b2, -⟩ := ab_d3 (h.co (3 * p + 2) (by omega)).2 (h.co (3 * q + 2) (by omega)).2
  have e0 : ∀ {p : Nat}, p < 200 → r20 (p : Int) 0 M = M 8 (3 * p) := fun hp => r20_at M hp (a := 0) (by decide)
  have e1 : ∀ {p : Nat}, p < 200 → r20 (p : Int) 1 M = M 8 (3 * p + 1) := fun hp => r20_at M hp (a := 1) (by decide)
  have e2 : ∀ {p : Nat}, p < 200 → r20 (p : Int) 2 M = M 8 (3 * p + 2) := fun hp => r20_at M hp (a := 2) (by decide)
  rw [g187_0, e0 hp, e1 hp, e2 hp, e0 hq, e1 hq, e2 hq, b0, b1, b2, sp156 h d a0 a1 a2, callK_r, psh_s, g187_7]
  rfl
theorem ix3 {p : Nat} (hp : p < 200) : wr (3 * (p : Int)) = ((3 * p : Nat) : Int) ∧ wr (wr (3 * (p : Int)) + 1) = ((3 * p + 1 : Nat) : Int) ∧ wr (wr (3 * (p : Int)) + 2) = ((3 * p + 2 : Nat) : Int) := by
  have e : wr (3 * (p : Int)) = ((3 * p : Nat) : Int) := by rw [wr_id (show inR (3 * (p : Int)) by unfold inR; omega)]; omega
  rw [e]
  exact ⟨rfl, wr_id (by unfold inR; omega), wr_id (by unfold inR; omega)⟩
theorem sp162 {M : mM} (h : Iv M) (d : Nat) {p : Nat} (hp : p < 200) : run prog (d + 3) 162 [vr 87, vi (p : Int)] (shp, M) = some (.inl (some (vi (dq M p))), (shp, M)) := by
  show ev prog (d + 3) 162 0 0 [vr 87, vi (p : Int)] [] (shp, M) = _
  obtain ⟨i0, i1, i2⟩ := ix3 hp
  have g : ∀ j, j < 600 → M 88 j = M 8 j := fun j hj => by have := (h.co j hj).1; rw [Nat.zero_add] at this; exact this.symm
  have q0 : M 88 2008 = M 35 0 := rw2_at h.qu (p := 0) (by decide)
  have q1 : M 88 2009 = M 35 1 := rw2_at h.qu (p := 1) (by decide)
  have q2 : M 88 2010 = M 35 2 := rw2_at h.qu (p := 2) (by decide)
  obtain ⟨a0, -, b0⟩ := ab_d3 (h.co (3 * p) (by omega)).2 (h.qu 0 (by decide)).2
  obtain ⟨a1, -, b1⟩ := ab_d3 (h.co (3 * p + 1) (by omega)).2 (h.qu 1 (by decide)).2
  obtain ⟨a2, -, b2⟩ := ab_d3 (h.co (3 * p + 2) (by omega)).2 (h.qu 2 (by decide)).2
  rw [g162_0, i1, i2, i0, if_pos (by omega), if_pos (by omega), if_pos (by omega), Int.toNat_natCast, Int.toNat_natCast, Int.toNat_natCast, g (3 * p) (by omega), g (3 * p + 1) (by omega), g (3 * p + 2) (by omega), q0, q1, q2]
  unfold r160
  rw [b0, b1, b2, sp161 h d a0 a1 a2, callK_r, psh_s, g162_10]
  rfl
theorem sp192 {M : mM} (h : Iv M) (d : Nat) {p q : Nat} (hp : p < 200) (hq : q < 200) : run prog (d + 3) 192 [vr 87, vi (p : Int), vi (q : Int)] (shp, M) = some (.inl (some (vi (db M p q))), (shp, M)) := by
  show ev prog (d + 3) 192 0 0 [vr 87, vi (p : Int), vi (q : Int)] [] (shp, M) = _
  obtain ⟨i0, i1, i2⟩ := ix3 hp
  obtain ⟨k0, k1, k2⟩ := ix3 hq
  have g : ∀ j, j < 600 → M 88 j = M 8 j := fun j hj => by have := (h.co j hj).1; rw [Nat.zero_add] at this; exact this.symm
  obtain ⟨a0, -, b0⟩ := ab_d3 (h.co (3 * p) (by omega)).2 (h.co (3 * q) (by omega)).2
  obtain ⟨a1, -, b1⟩ := ab_d3 (h.co (3 * p + 1) (by omega)).2 (h.co (3 * q + 1) (by omega)).2
  obtain ⟨a2, -, b2⟩ := ab_d3 (h.co (3 * p + 2) (by omega)).2 (h.co (3 * q + 2) (by omega)).2
  rw [g192_0, i1, i2, i0, k1, k2, k0, if_pos (by omega), if_pos (by omega), if_pos (by omega), if_pos (by omega), if_pos (by omega), if_pos (by omega)]
  simp only [Int.toNat_natCast]
  rw [g (3 * p) (by omega), g (3 * p + 1) (by omega), g (3 * p + 2) (by omega), g (3 * q) (by omega), g (3 * q + 1) (by omega), g (3 * q + 2) (by omega)]
  unfold r160
  rw [b0, b1, b2, sp161 h d a0 a1 a2, callK_r, psh_s, g192_10]
  rfl
