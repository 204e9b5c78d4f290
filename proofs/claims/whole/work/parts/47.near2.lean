/-! NEAREST, BOTH SIDES -/
theorem visL_pre {M : mM} {i n : Nat} (h : i ≤ n) : ∃ t, visL M n = visL M i ++ t := by
  induction h with
  | refl => exact ⟨[], by rw [List.append_nil]⟩
  | step _ ih =>
    rename_i m _
    obtain ⟨t, ht⟩ := ih
    have hs := visL_s M m
    cases hv : p125 (m : Int) M with
    | false =>
      rw [hv] at hs
      exact ⟨t, by rw [show visL M (m + 1) = visL M m from hs]; exact ht⟩
    | true =>
      rw [hv] at hs
      exact ⟨t ++ [(m : Int)], by rw [show visL M (m + 1) = visL M m ++ [(m : Int)] from hs, ht, List.append_assoc]⟩
theorem find_take {f : Int → Bool} {l : List Int} {i : Nat} {x : Int} (h : (l.take i).find? f = some x) : l.find? f = some x := by
  have h1 : (l.take i ++ l.drop i).find? f = some x := by rw [List.find?_append, h]; rfl
  rwa [List.take_append_drop] at h1
theorem find_pre {f : Int → Bool} {l t : List Int} {x : Int} (h : l.find? f = some x) : (l ++ t).find? f = some x := by
  rw [List.find?_append, h]; rfl
/-- which visible point has the index -/
def nth (M : mM) (n : Nat) (ix : Int) : Option Int := (visL M n).find? fun x => decide ((rk M (dq M x.toNat) x (visL M n) : Int) = ix)
theorem sp172 {M : mM} (h : Iv M) (d : Nat) {n : Nat} (hn : M 7 4 = (n : Int)) (h60 : (visL M n).length ≤ 60) (ix : Int) : ∃ M', run prog (d + 6) 172 [vr 72, vi ix] (shp, M) = some (.inl (some (vi ((nth M n ix).getD (-1)))), (shp, M')) ∧ same [73, 74, 75] M M' := by
  show ∃ M', ev prog (d + 6) 172 0 0 [vr 72, vi ix, vj] [] (shp, M) = _ ∧ _
  obtain ⟨M1, a1, a2, a3, a4⟩ := sp170 h d hn h60
  refine ⟨M1, ?_, a4⟩
  have loop : ∀ (q i : Nat), i + q = (visL M n).length → ((visL M n).take i).find? (fun x => decide ((rk M (dq M x.toNat) x (visL M n) : Int) = ix)) = none → ev prog (d + 6) 172 0 2 [vr 72, vi ix, vi (i : Int)] [] (shp, M1) = some (.inl (some (vi ((nth M n ix).getD (-1)))), (shp, M1)) := by
    intro q
    induction q with
    | zero =>
      intro i hi hf
      rw [List.take_of_length_le (by omega)] at hf
      have hf : nth M n ix = none := hf
      rw [g172_2, a2.1, if_neg (by omega), hf]
      rfl
    | succ q ih =>
      intro i hi hf
      have hil : i < (visL M n).length := by omega
      have hx := List.getElem?_eq_getElem hil
      have hw : wr ((i : Int) + 1) = ((i + 1 : Nat) : Int) := wr_id (by unfold inR; omega)
      have hr : r30 (i : Int) M1 = (visL M n)[i] := by
        show va M1 74 200 (i : Int) = _
        rw [va_in ⟨by omega, by omega⟩, Int.toNat_natCast]
        exact a2.2 i _ hx
      rw [g172_2, a2.1, if_pos (by omega), sp171 (d + 3) ⟨a2, a3⟩ h60 hx, callK_r, psh_s, g172_4, hw, hr]
      have hs : ((visL M n).take (i + 1)).find? (fun x => decide ((rk M (dq M x.toNat) x (visL M n) : Int) = ix)) = if (rk M (dq M (visL M n)[i].toNat) (visL M n)[i] (visL M n) : Int) = ix then some (visL M n)[i] else none := by
        rw [take_s hil, List.find?_append, hf]
        by_cases hq : (rk M (dq M (visL M n)[i].toNat) (visL M n)[i] (visL M n) : Int) = ix
        · rw [if_pos hq]
          simp [List.find?, hq]
        · rw [if_neg hq]
          simp [List.find?, hq]
      by_cases hq : (rk M (dq M (visL M n)[i].toNat) (visL M n)[i] (visL M n) : Int) = ix
      · rw [if_pos hq] at hs
        have : nth M n ix = some (visL M n)[i] := find_take hs
        rw [if_pos hq, this]
        rfl
      · rw [if_neg hq] at hs
        rw [if_neg hq]
        exact ih (i + 1) (by omega) hs
  rw [g172_0, a1, callK_r, psh_n, g172_1]
  exact loop (visL M n).length 0 (by omega) rfl
theorem nth_pos {M : mM} {n : Nat} {ix x : Int} (h : nth M n ix = some x) : ∃ p : Nat, x = (p : Int) ∧ p < n := by
  obtain ⟨j, hj⟩ := List.mem_iff_getElem?.mp (List.mem_of_find?_eq_some h)
  obtain ⟨p, h1, h2, -⟩ := visL_at hj
  exact ⟨p, h1, h2⟩
theorem sp173 {M : mM} (h : Iv M) (d : Nat) {n : Nat} (hn : M 7 4 = (n : Int)) (h60 : (visL M n).length ≤ 60) (ix : Int) : ∃ M', run prog (d + 7) 173 [vr 5, vi ix] (shp, M) = some (match nth M n ix with
    | some x => .inl (some (vi x))
    | none => .inr 2, (shp, M')) ∧ same [73, 74, 75] M M' := by
  show ∃ M', ev prog (d + 7) 173 0 0 [vr 5, vi ix, vj] [] (shp, M) = _ ∧ _
  obtain ⟨M1, a1, a2⟩ := sp172 h d hn h60 ix
  refine ⟨M1, ?_, a2⟩
  rw [g173_0, a1, callK_r, psh_s, g173_1]
  cases hx : nth M n ix with
  | none => rfl
  | some x =>
    obtain ⟨p, h1, h2⟩ := nth_pos hx
    show (if x = -1 then _ else _) = _
    rw [if_neg (by omega)]
    rfl
theorem sp175 {M : mM} (h : Iv M) (d : Nat) {n : Nat} (hn : M 7 4 = (n : Int)) {p : Nat} (hp : p < 200) : run prog (d + 5) 175 [vr 87, vi (p : Int)] (shp, M) = some (.inl (some (vi (rk M (dq M p) (p : Int) (visL M n) : Int))), (shp, M)) := by
  show ev prog (d + 5) 175 0 0 [vr 87, vi (p : Int), vj, vj] [] (shp, M) = _
  obtain ⟨n', h1, h2, h3⟩ := h.cr
  have e : n' = n := by omega
  subst e
  have loop : ∀ (q i : Nat), i + q = n' → ev prog (d + 5) 175 0 1 [vr 87, vi (p : Int), vi (rk M (dq M p) (p : Int) (visL M i) : Int), vi (i : Int)] [] (shp, M) = some (.inl (some (vi (rk M (dq M p) (p : Int) (visL M n') : Int))), (shp, M)) := by
    intro q
    induction q with
    | zero =>
      intro i hi
      rw [g175_1, h3, if_neg (by omega), show i = n' by omega]
    | succ q ih =>
      intro i hi
      have hle := rk_le M (dq M p) (p : Int) (visL M i)
      have hle2 := visL_le M i
      have hw : wr ((i : Int) + 1) = ((i + 1 : Nat) : Int) := wr_id (by unfold inR; omega)
      have hs1 := visL_s M i
      have w0 : wr ((rk M (dq M p) (p : Int) (visL M i) : Int) + 0) = (rk M (dq M p) (p : Int) (visL M i) : Int) := by rw [Int.add_zero]; exact wr_id (by unfold inR; omega)
      have w1 : wr ((rk M (dq M p) (p : Int) (visL M i) : Int) + 1) = (rk M (dq M p) (p : Int) (visL M i) : Int) + 1 := wr_id (by unfold inR; omega)
      have := ih (i + 1) (by omega)
      rw [g175_1, h3, if_pos (by omega), sp129 h d, callK_r, psh_s, g175_4, hw, w0]
      cases hv : p125 (i : Int) M with
      | false =>
        rw [hv] at hs1
        rw [show visL M (i + 1) = visL M i from hs1] at this
        rw [if_pos (show bi false = 0 from rfl)]
        exact this
      | true =>
        rw [hv] at hs1
        rw [show visL M (i + 1) = visL M i ++ [(i : Int)] from hs1, rk_snoc, Int.toNat_natCast] at this
        rw [if_neg (show ¬ bi true = 0 by decide), sp162 h (d + 1) (by omega), callK_r, psh_s, g175_6, sp162 h (d + 1) hp, callK_r, psh_s, g175_7, hw, w1]
        by_cases c1 : dq M i < dq M p
        · rw [if_pos (Or.inl c1)] at this
          rw [if_pos c1]
          exact this
        · rw [if_neg c1, sp162 h (d + 1) (by omega), callK_r, psh_s, g175_9, sp162 h (d + 1) hp, callK_r, psh_s, g175_10, hw, w1, w0]
          by_cases c2 : dq M i = dq M p
          · rw [if_pos c2]
            by_cases c3 : (i : Int) < (p : Int)
            · rw [if_pos (Or.inr ⟨c2, c3⟩)] at this
              rw [if_pos c3]
              exact this
            · rw [if_neg (fun z => z.elim c1 (fun z => c3 z.2)), Nat.add_zero] at this
              rw [if_neg c3]
              exact this
          · rw [if_neg (fun z => z.elim c1 (fun z => c2 z.1)), Nat.add_zero] at this
            rw [if_neg c2]
            exact this
  rw [g175_0]
  exact loop n' 0 (by omega)
theorem sp176 {M : mM} (h : Iv M) (d : Nat) {n : Nat} (hn : M 7 4 = (n : Int)) (ix : Int) : run prog (d + 6) 176 [vr 87, vi ix] (shp, M) = match nth M n ix with
    | some x => some (.inl (some (vi x)), (shp, mset M 87 3 0))
    | none => some (.inl (some (vi 0)), (shp, mset (mset M 87 3 0) 87 3 1)) := by
  show ev prog (d + 6) 176 0 0 [vr 87, vi ix, vj] [] (shp, M) = _
  obtain ⟨n', h1, h2, h3⟩ := h.cr
  have e : n' = n := by omega
  subst e
  have hs : same [87] M (mset M 87 3 0) := same_mset
  have hI : Iv (mset M 87 3 0) := h.same hs (by decide)
  have h3' : (mset M 87 3 0) 88 2001 = (n' : Int) := by rw [mset_k (by decide)]; exact h3
  have h4' : (mset M 87 3 0) 7 4 = (n' : Int) := by rw [mset_k (by decide)]; exact hn
  have hp : ∀ x, p125 x (mset M 87 3 0) = p125 x M := fun x => cp125 (hs 7 (by decide)) (hs 10 (by decide)) (hs 11 (by decide)) (hs 38 (by decide)) x
  have hd : ∀ p, dq (mset M 87 3 0) p = dq M p := fun p => dq_c (hs 8 (by decide)) (hs 34 (by decide)) (hs 35 (by decide)) p
  have hv0 : ∀ n, visL (mset M 87 3 0) n = visL M n := fun n => by unfold visL; simp only [hp]
  have hk : ∀ m x l, rk (mset M 87 3 0) m x l = rk M m x l := fun m x l => by unfold rk; simp only [hd]
  have loop : ∀ (q i : Nat), i + q = n' → (visL M i).find? (fun x => decide ((rk M (dq M x.toNat) x (visL M n') : Int) = ix)) = none → ev prog (d + 6) 176 0 1 [vr 87, vi ix, vi (i : Int)] [] (shp, mset M 87 3 0) = match nth M n' ix with
    | some x => some (.inl (some (vi x)), (shp, mset M 87 3 0))
    | none => some (.inl (some (vi 0)), (shp, mset (mset M 87 3 0) 87 3 1)) := by
    intro q
    induction q with
    | zero =>
      intro i hi hf
      have e : i = n' := by omega
      subst e
      rw [show nth M i ix = none from hf, g176_1, h3', if_neg (by omega)]
    | succ q ih =>
      intro i hi hf
      have hw : wr ((i : Int) + 1) = ((i + 1 : Nat) : Int) := wr_id (by unfold inR; omega)
      have hs1 := visL_s M i
      rw [g176_1, h3', if_pos (by omega), sp129 hI (d + 1), hp, callK_r, psh_s, g176_4, hw]
      cases hv : p125 (i : Int) M with
      | false =>
        rw [hv] at hs1
        rw [if_pos (show bi false = 0 from rfl)]
        exact ih (i + 1) (by omega) (by rw [show visL M (i + 1) = visL M i from hs1]; exact hf)
      | true =>
        rw [hv] at hs1
        have hs1 : visL M (i + 1) = visL M i ++ [(i : Int)] := hs1
        have hq9 : (visL M (i + 1)).find? (fun x => decide ((rk M (dq M x.toNat) x (visL M n') : Int) = ix)) = if (rk M (dq M i) (i : Int) (visL M n') : Int) = ix then some (i : Int) else none := by
          rw [hs1, List.find?_append, hf]
          by_cases hq : (rk M (dq M i) (i : Int) (visL M n') : Int) = ix
          · rw [if_pos hq]
            simp [List.find?, hq]
          · rw [if_neg hq]
            simp [List.find?, hq]
        rw [if_neg (show ¬ bi true = 0 by decide), sp175 hI d h4' (by omega), callK_r, psh_s, g176_6, hw, hd, hv0, hk]
        by_cases hq : (rk M (dq M i) (i : Int) (visL M n') : Int) = ix
        · rw [if_pos hq] at hq9
          obtain ⟨t, ht⟩ := visL_pre (M := M) (show i + 1 ≤ n' by omega)
          have hn9 : nth M n' ix = some (i : Int) := by
            show (visL M n').find? (fun x => decide ((rk M (dq M x.toNat) x (visL M n') : Int) = ix)) = _
            have := find_pre (t := t) hq9
            rwa [← ht] at this
          rw [if_pos hq, hn9]
        · rw [if_neg hq] at hq9
          rw [if_neg hq]
          exact ih (i + 1) (by omega) hq9
  rw [g176_0]
  exact loop n' 0 (by omega) rfl
