/-! THE LINKS -/
def lkB (P : mP) (q : mLk) : Bool := match q.2.1 with
  | 0 => match mcl[q.2.2.2.2.1]? with
    | some c => decide (lw_tbl[q.1]? = some (.fieldLink (cN q.2.2.1) q.2.2.2.1 (c.2.1 q.2.2.2.2.2).1 (c.2.1 q.2.2.2.2.2).2.1 (c.2.1 q.2.2.2.2.2).2.2.1))
    | none => false
  | 1 => decide (lw_tbl[q.1]? = some (.methodLink (cN q.2.2.1) q.2.2.2.1 (P q.2.2.2.2.1).1.1))
  | 2 => match lw_tbl[q.1]? with
    | some (.methodLinkNest o i y _) => decide (o = cN q.2.2.1) && (decide (i = q.2.2.2.1) && decide (y = (P q.2.2.2.2.1).1.1))
    | _ => false
  | 3 => decide (lw_tbl[q.1]? = some (.fieldLink (cN q.2.2.1) q.2.2.2.1 "SpatialPoints" (stN q.2.2.2.2.1) "[I"))
  | 4 => decide (lw_tbl[q.1]? = some (.fieldLinkNest (cN q.2.2.1) q.2.2.2.1 "SpatialPoints" (stN q.2.2.2.2.1) "[I" "SpatialPoints"))
  | 5 => decide (lw_tbl[q.1]? = some (.methodLink (cN q.2.2.1) q.2.2.2.1 (libN q.2.2.2.2.1)))
  | 6 => match mcl[q.2.2.2.2.1]? with
    | some c => decide (lw_tbl[q.1]? = some (.classLink (cN q.2.2.1) q.2.2.2.1 c.1))
    | none => false
  | 7 => decide (lw_tbl[q.1]? = some (.classLink (cN q.2.2.1) q.2.2.2.1 (exN q.2.2.2.2.1)))
  | 8 => match lw_tbl[q.1]? with
    | some (.stringRef o i _) => decide (o = cN q.2.2.1) && decide (i = q.2.2.2.1)
    | _ => false
  | 9 => decide (lw_tbl[q.1]? = some (.classLink (cN q.2.2.1) q.2.2.2.1 "[I"))
  | _ => true
theorem lkB_ok {P : mP} {q : mLk} (h : lkB P q = true) : lkP P q := by
  obtain ⟨p, k, o, i, a, b⟩ := q
  rcases k with _ | _ | _ | _ | _ | _ | _ | _ | _ | _ | k
  · show ∃ c : vw_C, mcl[a]? = some c ∧ lw_tbl[p]? = some (.fieldLink (cN o) i (c.2.1 b).1 (c.2.1 b).2.1 (c.2.1 b).2.2.1)
    replace h : (match mcl[a]? with
      | some c => decide (lw_tbl[p]? = some (.fieldLink (cN o) i (c.2.1 b).1 (c.2.1 b).2.1 (c.2.1 b).2.2.1))
      | none => false) = true := h
    split at h
    · rename_i c hc
      exact ⟨c, hc, of_decide_eq_true h⟩
    · cases h
  · exact of_decide_eq_true (p := lw_tbl[p]? = some (.methodLink (cN o) i (P a).1.1)) h
  · show ∃ h : String, lw_tbl[p]? = some (.methodLinkNest (cN o) i (P a).1.1 h)
    replace h : (match lw_tbl[p]? with
      | some (.methodLinkNest o' i' y _) => decide (o' = cN o) && (decide (i' = i) && decide (y = (P a).1.1))
      | _ => false) = true := h
    split at h
    · rename_i o' i' y' h' hw
      simp only [Bool.and_eq_true, decide_eq_true_eq] at h
      obtain ⟨rfl, rfl, rfl⟩ := h
      exact ⟨h', hw⟩
    · cases h
  · exact of_decide_eq_true (p := lw_tbl[p]? = some (.fieldLink (cN o) i "SpatialPoints" (stN a) "[I")) h
  · exact of_decide_eq_true (p := lw_tbl[p]? = some (.fieldLinkNest (cN o) i "SpatialPoints" (stN a) "[I" "SpatialPoints")) h
  · exact of_decide_eq_true (p := lw_tbl[p]? = some (.methodLink (cN o) i (libN a))) h
  · show ∃ c : vw_C, mcl[a]? = some c ∧ lw_tbl[p]? = some (.classLink (cN o) i c.1)
    replace h : (match mcl[a]? with
      | some c => decide (lw_tbl[p]? = some (.classLink (cN o) i c.1))
      | none => false) = true := h
    split at h
    · rename_i c hc
      exact ⟨c, hc, of_decide_eq_true h⟩
    · cases h
  · exact of_decide_eq_true (p := lw_tbl[p]? = some (.classLink (cN o) i (exN a))) h
  · show ∃ t : String, lw_tbl[p]? = some (.stringRef (cN o) i t)
    replace h : (match lw_tbl[p]? with
      | some (.stringRef o' i' _) => decide (o' = cN o) && decide (i' = i)
      | _ => false) = true := h
    split at h
    · rename_i o' i' t' hw
      simp only [Bool.and_eq_true, decide_eq_true_eq] at h
      obtain ⟨rfl, rfl⟩ := h
      exact ⟨t', hw⟩
    · cases h
  · exact of_decide_eq_true (p := lw_tbl[p]? = some (.classLink (cN o) i "[I")) h
  · trivial
