/-! FOLLOWERS: THE CLASS'S NUMBER -/
def nF (M : mM) (n : Nat) (p : Int) (l : List Int) : Nat := (l.filter fun x => decide ((neL M x (visL M n)).getD (-1) = p)).length
theorem nF_snoc (M : mM) (n : Nat) (p : Int) (l : List Int) (x : Int) : nF M n p (l ++ [x]) = nF M n p l + (if (neL M x (visL M n)).getD (-1) = p then 1 else 0) := by
  unfold nF
  rw [List.filter_append, List.length_append]
  by_cases h : (neL M x (visL M n)).getD (-1) = p <;> simp [List.filter, h]
theorem nF_le (M : mM) (n : Nat) (p : Int) (l : List Int) : nF M n p l ≤ l.length := List.length_filter_le _ _
theorem sp196 {M : mM} (h : Iv M) (d : Nat) {n : Nat} (hn : M 7 4 = (n : Int)) (p : Int) : ∃ M', run prog (d + 6) 196 [vr 72, vi p] (shp, M) = some (.inl (some (vi (nF M n p (visL M n) : Int))), (shp, M')) ∧ same [73, 74] M M' := by
  show ∃ M', ev prog (d + 6) 196 0 0 [vr 72, vi p, vj, vj] [] (shp, M) = _ ∧ _
  obtain ⟨n', h1, h2, h3⟩ := h.cr
  have e : n' = n := by omega
  subst e
  obtain ⟨M1, a1, a2, a3⟩ := sp126 (d + 1) M hn h2
  refine ⟨M1, ?_, a3⟩
  have hll := visL_le M n'
  have loop : ∀ (q i : Nat), i + q = (visL M n').length → ev prog (d + 6) 196 0 2 [vr 72, vi p, vi (nF M n' p ((visL M n').take i) : Int), vi (i : Int)] [] (shp, M1) = some (.inl (some (vi (nF M n' p (visL M n') : Int))), (shp, M1)) := by
    intro q
    induction q with
    | zero =>
      intro i hi
      rw [g196_2, a2.1, if_neg (by omega), List.take_of_length_le (by omega)]
    | succ q ih =>
      intro i hi
      have hil : i < (visL M n').length := by omega
      obtain ⟨x, x1, x2, -⟩ := visL_at (List.getElem?_eq_getElem hil)
      have hw : wr ((i : Int) + 1) = ((i + 1 : Nat) : Int) := wr_id (by unfold inR; omega)
      have hc := nF_snoc M n' p ((visL M n').take i) (visL M n')[i]
      rw [← take_s hil, x1] at hc
      have hle := nF_le M n' p ((visL M n').take i)
      have hlt : ((visL M n').take i).length = i := by rw [List.length_take]; omega
      have w1 : wr ((nF M n' p ((visL M n').take i) : Int) + 1) = (nF M n' p ((visL M n').take i) : Int) + 1 := wr_id (by unfold inR; omega)
      have := ih (i + 1) (by omega)
      rw [hc] at this
      rw [g196_2, a2.1, if_pos (by omega), r30_at (by omega) a2 hil, x1, sp195 h d h2 a2 a3 (by omega), callK_r, psh_s, g196_5, hw, w1]
      by_cases c : (neL M (x : Int) (visL M n')).getD (-1) = p
      · rw [if_pos c] at this ⊢
        exact this
      · rw [if_neg c, Nat.add_zero] at this
        rw [if_neg c]
        exact this
  rw [g196_0, a1, callK_r, psh_s, g196_1]
  exact loop (visL M n').length 0 (by omega)
theorem sp197 {M : mM} (h : Iv M) (d : Nat) {n : Nat} (hn : M 7 4 = (n : Int)) (p : Int) : ∃ M', run prog (d + 7) 197 [vr 5, vi p] (shp, M) = some (match p125 p M with
    | true => .inl (some (vi (nF M n p (visL M n) : Int)))
    | false => .inr 2, (shp, M')) ∧ same [73, 74] M M' := by
  show ∃ M', ev prog (d + 7) 197 0 0 [vr 5, vi p] [] (shp, M) = _ ∧ _
  rw [g197_0]
  cases hp : p125 p M with
  | false => exact ⟨M, rfl, same.rf⟩
  | true =>
    obtain ⟨M1, a1, a2⟩ := sp196 h d hn p
    exact ⟨M1, by rw [if_neg (show ¬ bi true = 0 by decide), a1, callK_r, psh_s, g197_2], a2⟩
