/-! THE MODEL COUNTS -/
def liveN (M : mM) (n : Nat) : Nat := ((List.range n).filter fun (i : Nat) => decide (M 11 i = 1)).length
theorem liveN_s {M : mM} (n : Nat) (h : 0 ≤ M 11 n ∧ M 11 n ≤ 1) : ((liveN M (n + 1) : Nat) : Int) = (liveN M n : Int) + M 11 n := by
  unfold liveN
  rw [List.range_succ, List.filter_append, List.length_append]
  by_cases h1 : M 11 n = 1
  · simp [List.filter, h1]
  · simp [List.filter, h1]; omega
theorem liveN_le (M : mM) (n : Nat) : liveN M n ≤ n := by
  unfold liveN
  exact Nat.le_trans (List.length_filter_le _ _) (by rw [List.length_range]; exact Nat.le_refl _)
theorem sp54 {M : mM} (h : Iv M) {n : Nat} (hn : M 7 4 = (n : Int)) (d : Nat) : run prog (d + 1) 54 [vr 87] (shp, M) = some (.inl (some (vi (liveN M n : Int))), (shp, M)) := by
  show ev prog (d + 1) 54 0 0 [vr 87, vj, vj] [] (shp, M) = _
  obtain ⟨n', h1, h2, h3⟩ := h.cr
  have e : n' = n := by omega
  subst e
  have loop : ∀ (q i : Nat), i + q = n' → ev prog (d + 1) 54 0 1 [vr 87, vi (liveN M i : Int), vi (i : Int)] [] (shp, M) = some (.inl (some (vi (liveN M n' : Int))), (shp, M)) := by
    intro q
    induction q with
    | zero =>
      intro i hi
      rw [g54_1, h3, if_neg (by omega), show i = n' by omega]
    | succ q ih =>
      intro i hi
      obtain ⟨e1, e2, e3⟩ := ix 1000 i (by omega)
      have e4 : wr (1000 + (i : Int)) = wr (((1000 : Nat) : Int) + (i : Int)) := rfl
      have hl := h.li i (by omega)
      have := liveN_le M i
      rw [g54_1, h3, if_pos (by omega), e4, if_pos e2, e3, rw2_at h.li (by omega), ← liveN_s i hl.2]
      have h9 : (liveN M (i + 1) : Int) = (liveN M i : Int) + M 11 i := liveN_s i hl.2
      rw [wr_id (show inR (liveN M (i + 1) : Int) by unfold inR; omega), wr_id (show inR ((i : Int) + 1) by unfold inR; omega)]
      exact ih (i + 1) (by omega)
  rw [g54_0]
  exact loop n' 0 (by omega)
theorem sp130 {M : mM} (h : Iv M) {n : Nat} (hn : M 7 4 = (n : Int)) (d : Nat) : run prog (d + 5) 130 [vr 87] (shp, M) = some (.inl (some (vi ((visL M n).length : Int))), (shp, M)) := by
  show ev prog (d + 5) 130 0 0 [vr 87, vj, vj] [] (shp, M) = _
  obtain ⟨n', h1, h2, h3⟩ := h.cr
  have e : n' = n := by omega
  subst e
  have loop : ∀ (q i : Nat), i + q = n' → ev prog (d + 5) 130 0 1 [vr 87, vi ((visL M i).length : Int), vi (i : Int)] [] (shp, M) = some (.inl (some (vi ((visL M n').length : Int))), (shp, M)) := by
    intro q
    induction q with
    | zero =>
      intro i hi
      rw [g130_1, h3, if_neg (by omega), show i = n' by omega]
    | succ q ih =>
      intro i hi
      have hle := visL_le M i
      have hw : wr ((i : Int) + 1) = ((i + 1 : Nat) : Int) := wr_id (by unfold inR; omega)
      have hs := visL_s M i
      rw [g130_1, h3, if_pos (by omega), sp129 h d, callK_r, psh_s, g130_4, hw]
      cases hv : p125 (i : Int) M with
      | false =>
        rw [hv] at hs
        have hs : visL M (i + 1) = visL M i := hs
        have := ih (i + 1) (by omega)
        rw [hs] at this
        rw [if_pos (show bi false = 0 from rfl), wr_id (show inR (((visL M i).length : Int) + 0) by unfold inR; omega), Int.add_zero]
        exact this
      | true =>
        rw [hv] at hs
        have hs : visL M (i + 1) = visL M i ++ [(i : Int)] := hs
        have := ih (i + 1) (by omega)
        rw [hs, List.length_append] at this
        rw [if_neg (show ¬ bi true = 0 by decide), wr_id (show inR (((visL M i).length : Int) + 1) by unfold inR; omega)]
        exact this
  rw [g130_0]
  exact loop n' 0 (by omega)
