/-! WHAT CLASS AND MODEL HAVE IN COMMON, TREE ASIDE -/
def rw2 (M : mM) (k g n : Nat) (lo hi : Int) : Prop := ∀ j, j < n → M k j = M 88 (g + j) ∧ lo ≤ M k j ∧ M k j ≤ hi
def Iv (M : mM) : Prop :=
  (∃ n : Nat, M 7 4 = (n : Int) ∧ n ≤ 200 ∧ M 88 2001 = (n : Int)) ∧ rw2 M 8 0 600 (-100) 100 ∧ rw2 M 9 600 200 0 99 ∧ rw2 M 10 800 200 0 9 ∧ rw2 M 11 1000 200 0 1 ∧
  (rw2 M 34 2002 6 0 95 ∧ M 34 2 ≤ 3 ∧ (1 ≤ M 34 3 ∧ M 34 3 ≤ 9) ∧ (1 ≤ M 34 4 ∧ M 34 4 ≤ 9) ∧ (1 ≤ M 34 5 ∧ M 34 5 ≤ 9)) ∧
  rw2 M 35 2008 3 (-100) 100 ∧ rw2 M 36 2011 3 (-100) 100 ∧ rw2 M 37 2014 3 (-100) 100 ∧ rw2 M 38 2017 10 0 1
theorem Iv.cr {M : mM} (h : Iv M) : ∃ n : Nat, M 7 4 = (n : Int) ∧ n ≤ 200 ∧ M 88 2001 = (n : Int) := h.1
theorem Iv.co {M : mM} (h : Iv M) : rw2 M 8 0 600 (-100) 100 := h.2.1
theorem Iv.we {M : mM} (h : Iv M) : rw2 M 9 600 200 0 99 := h.2.2.1
theorem Iv.ta {M : mM} (h : Iv M) : rw2 M 10 800 200 0 9 := h.2.2.2.1
theorem Iv.li {M : mM} (h : Iv M) : rw2 M 11 1000 200 0 1 := h.2.2.2.2.1
theorem Iv.op {M : mM} (h : Iv M) : rw2 M 34 2002 6 0 95 ∧ M 34 2 ≤ 3 ∧ (1 ≤ M 34 3 ∧ M 34 3 ≤ 9) ∧ (1 ≤ M 34 4 ∧ M 34 4 ≤ 9) ∧ (1 ≤ M 34 5 ∧ M 34 5 ≤ 9) := h.2.2.2.2.2.1
theorem Iv.qu {M : mM} (h : Iv M) : rw2 M 35 2008 3 (-100) 100 := h.2.2.2.2.2.2.1
theorem Iv.lc {M : mM} (h : Iv M) : rw2 M 36 2011 3 (-100) 100 := h.2.2.2.2.2.2.2.1
theorem Iv.uc {M : mM} (h : Iv M) : rw2 M 37 2014 3 (-100) 100 := h.2.2.2.2.2.2.2.2.1
theorem Iv.ex {M : mM} (h : Iv M) : rw2 M 38 2017 10 0 1 := h.2.2.2.2.2.2.2.2.2
theorem Iv.keep {M M' : mM} (h : Iv M) (h7 : M' 7 = M 7) (h8 : M' 8 = M 8) (h9 : M' 9 = M 9) (h10 : M' 10 = M 10) (h11 : M' 11 = M 11) (h34 : M' 34 = M 34) (h35 : M' 35 = M 35) (h36 : M' 36 = M 36) (h37 : M' 37 = M 37) (h38 : M' 38 = M 38) (h88 : M' 88 = M 88) : Iv M' := by
  unfold Iv rw2 at h ⊢
  rw [h7, h8, h9, h10, h11, h34, h35, h36, h37, h38, h88]
  exact h
/-- isPoint of the model is exists of the class; isAlive; isSeen is isVisible -/
theorem p31_iff {M : mM} {n : Nat} (hn : M 7 4 = (n : Int)) (x : Int) : p31 x M = decide (0 ≤ x ∧ x < (n : Int)) := by
  unfold p31
  rw [hn]
  by_cases h0 : x < 0
  · rw [if_pos h0]; symm; rw [decide_eq_false_iff_not]; omega
  · rw [if_neg h0]
    by_cases h1 : x < (n : Int)
    · rw [if_pos h1]; symm; rw [decide_eq_true_eq]; omega
    · rw [if_neg h1]; symm; rw [decide_eq_false_iff_not]; omega
theorem sp72 {M : mM} (h : Iv M) (d : Nat) (x : Int) : run prog (d + 2) 72 [vr 87, vi x] (shp, M) = some (.inl (some (vi (bi (p31 x M)))), (shp, M)) := by
  obtain ⟨n, h1, h2, h3⟩ := h.cr
  show ev prog (d + 2) 72 0 0 [vr 87, vi x] [] (shp, M) = _
  rw [g72_0, h3, wr_id (show inR ((n : Int) - 1) by unfold inR; omega), p31_iff h1]
  have e : p51 x 0 ((n : Int) - 1) M = decide (0 ≤ x ∧ x < (n : Int)) := by
    unfold p51
    by_cases h0 : x < 0
    · rw [if_pos h0]; symm; rw [decide_eq_false_iff_not]; omega
    · rw [if_neg h0]
      by_cases h1 : (n : Int) - 1 < x
      · rw [if_pos h1]; symm; rw [decide_eq_false_iff_not]; omega
      · rw [if_neg h1]; symm; rw [decide_eq_true_eq]; omega
  rw [e]
theorem p31_range {M : mM} (h : Iv M) {x : Int} (hp : p31 x M = true) : ∃ p : Nat, x = (p : Int) ∧ p < 200 ∧ ∃ n : Nat, M 7 4 = (n : Int) ∧ p < n := by
  obtain ⟨n, h1, h2, h3⟩ := h.cr
  rw [p31_iff h1, decide_eq_true_eq] at hp
  exact ⟨x.toNat, by omega, by omega, n, h1, by omega⟩
theorem rw2_at {M : mM} {k g n : Nat} {lo hi : Int} (h : rw2 M k g n lo hi) {p : Nat} (hp : p < n) : M 88 (g + p) = M k p := (h p hp).1.symm
theorem ix (g p : Nat) (h : g + p < 2031) : wr ((g : Int) + (p : Int)) = ((g + p : Nat) : Int) ∧ (0 ≤ wr ((g : Int) + (p : Int)) ∧ wr ((g : Int) + (p : Int)) < 2031) ∧ (wr ((g : Int) + (p : Int))).toNat = g + p := by
  have e : wr ((g : Int) + (p : Int)) = ((g + p : Nat) : Int) := by
    rw [wr_id (show inR ((g : Int) + (p : Int)) by unfold inR; omega)]
    omega
  rw [e]
  exact ⟨rfl, by omega, by omega⟩
theorem sp73 {M : mM} (h : Iv M) (d : Nat) (x : Int) : run prog (d + 3) 73 [vr 87, vi x] (shp, M) = some (.inl (some (vi (bi (p32 x M)))), (shp, M)) := by
  show ev prog (d + 3) 73 0 0 [vr 87, vi x] [] (shp, M) = _
  rw [g73_0, sp72 h, callK_r, psh_s, g73_1]
  unfold p32
  cases hp : p31 x M with
  | false => rfl
  | true =>
    obtain ⟨p, rfl, h2, -⟩ := p31_range h hp
    obtain ⟨e1, e2, e3⟩ := ix 1000 p (by omega)
    have e4 : wr (1000 + (p : Int)) = wr (((1000 : Nat) : Int) + (p : Int)) := rfl
    rw [if_neg (show ¬ bi true = 0 by decide), if_neg (show ¬ bi true = 0 by decide), e4, if_pos e2, e3, rw2_at h.li h2, va_in ⟨by omega, by omega⟩, Int.toNat_natCast]
    by_cases hv : M 11 p = 1
    · rw [if_pos hv, if_pos hv]; rfl
    · rw [if_neg hv, if_neg hv]; rfl
theorem sp129 {M : mM} (h : Iv M) (d : Nat) (x : Int) : run prog (d + 4) 129 [vr 87, vi x] (shp, M) = some (.inl (some (vi (bi (p125 x M)))), (shp, M)) := by
  show ev prog (d + 4) 129 0 0 [vr 87, vi x] [] (shp, M) = _
  rw [g129_0, sp73 h, callK_r, psh_s, g129_1]
  unfold p125
  cases hp : p32 x M with
  | false => rfl
  | true =>
    have hp1 : p31 x M = true := by
      unfold p32 at hp
      cases hq : p31 x M with
      | false => rw [hq] at hp; cases hp
      | true => rfl
    obtain ⟨p, rfl, h2, -⟩ := p31_range h hp1
    obtain ⟨e1, e2, e3⟩ := ix 800 p (by omega)
    have e4 : wr (800 + (p : Int)) = wr (((800 : Nat) : Int) + (p : Int)) := rfl
    obtain ⟨t1, t2, t3⟩ := h.ta p h2
    obtain ⟨t, ht⟩ : ∃ t : Nat, M 10 p = (t : Int) := ⟨(M 10 p).toNat, by omega⟩
    obtain ⟨f1, f2, f3⟩ := ix 2017 t (by omega)
    have f4 : wr (2017 + (t : Int)) = wr (((2017 : Nat) : Int) + (t : Int)) := rfl
    have hx := h.ex t (by omega)
    rw [if_neg (show ¬ bi true = 0 by decide), if_neg (show ¬ bi true = 0 by decide), e4, if_pos e2, e3, rw2_at h.ta h2, ht, f4, if_pos f2, f3, rw2_at h.ex (by omega), va_in ⟨by omega, by omega⟩, Int.toNat_natCast, ht]
    unfold p124
    rw [va_in ⟨by omega, by omega⟩, Int.toNat_natCast]
    by_cases hv : M 38 t = 1
    · rw [if_neg (by omega), if_pos hv]; rfl
    · rw [if_pos (by omega), if_neg hv]; rfl
