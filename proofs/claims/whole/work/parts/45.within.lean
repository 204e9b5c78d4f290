/-! WITHIN A RADIUS -/
def nW (M : mM) (r : Int) (l : List Int) : Nat := (l.filter fun x => decide (dq M x.toNat ≤ r)).length
theorem nW_snoc (M : mM) (r : Int) (l : List Int) (x : Int) : nW M r (l ++ [x]) = nW M r l + (if dq M x.toNat ≤ r then 1 else 0) := by
  unfold nW
  rw [List.filter_append, List.length_append]
  by_cases h : dq M x.toNat ≤ r <;> simp [List.filter, h]
theorem nW_le (M : mM) (r : Int) (l : List Int) : nW M r l ≤ l.length := List.length_filter_le _ _
theorem take_s {l : List Int} {i : Nat} (h : i < l.length) : l.take (i + 1) = l.take i ++ [l[i]] := by
  rw [List.take_succ, List.getElem?_eq_getElem h]
  rfl
theorem sp181 {M : mM} (h : Iv M) (d : Nat) {n : Nat} (hn : M 7 4 = (n : Int)) (h60 : (visL M n).length ≤ 60) (r : Int) : ∃ M', run prog (d + 6) 181 [vr 72, vi r] (shp, M) = some (.inl (some (vi (nW M r (visL M n) : Int))), (shp, M')) ∧ same [73, 74, 75] M M' := by
  show ∃ M', ev prog (d + 6) 181 0 0 [vr 72, vi r, vj, vj] [] (shp, M) = _ ∧ _
  obtain ⟨M1, a1, a2, a3, a4⟩ := sp170 h d hn h60
  refine ⟨M1, ?_, a4⟩
  have loop : ∀ (q i : Nat), i + q = (visL M n).length → ev prog (d + 6) 181 0 2 [vr 72, vi r, vi (nW M r ((visL M n).take i) : Int), vi (i : Int)] [] (shp, M1) = some (.inl (some (vi (nW M r (visL M n) : Int))), (shp, M1)) := by
    intro q
    induction q with
    | zero =>
      intro i hi
      rw [g181_2, a2.1, if_neg (by omega), List.take_of_length_le (by omega)]
    | succ q ih =>
      intro i hi
      have hil : i < (visL M n).length := by omega
      have hc := nW_snoc M r ((visL M n).take i) (visL M n)[i]
      rw [← take_s hil] at hc
      have hle := nW_le M r ((visL M n).take i)
      have hlt : ((visL M n).take i).length = i := by rw [List.length_take]; omega
      have hw : wr ((i : Int) + 1) = ((i + 1 : Nat) : Int) := wr_id (by unfold inR; omega)
      have hv : va M1 75 60 (i : Int) = dq M (visL M n)[i].toNat := by
        rw [va_in ⟨by omega, by omega⟩, Int.toNat_natCast]
        exact a3 i _ (List.getElem?_eq_getElem hil)
      rw [g181_2, a2.1, if_pos (by omega), hv, hw]
      by_cases hd : dq M (visL M n)[i].toNat ≤ r
      · rw [if_pos hd] at hc
        rw [if_neg (by omega), wr_id (show inR ((nW M r ((visL M n).take i) : Int) + 1) by unfold inR; omega)]
        have := ih (i + 1) (by omega)
        rw [hc] at this
        exact this
      · rw [if_neg hd, Nat.add_zero] at hc
        rw [if_pos (by omega)]
        have := ih (i + 1) (by omega)
        rw [hc] at this
        exact this
  rw [g181_0, a1, callK_r, psh_n, g181_1]
  exact loop (visL M n).length 0 (by omega)
theorem sp182 {M : mM} (h : Iv M) (d : Nat) {n : Nat} (hn : M 7 4 = (n : Int)) (h60 : (visL M n).length ≤ 60) (r : Int) : ∃ M', run prog (d + 7) 182 [vr 5, vi r] (shp, M) = some (.inl (some (vi (nW M r (visL M n) : Int))), (shp, M')) ∧ same [73, 74, 75] M M' := by
  show ∃ M', ev prog (d + 7) 182 0 0 [vr 5, vi r] [] (shp, M) = _ ∧ _
  obtain ⟨M1, a1, a2⟩ := sp181 h d hn h60 r
  exact ⟨M1, by rw [g182_0, a1, callK_r, psh_s, g182_1], a2⟩
theorem sp183 {M : mM} (h : Iv M) (d : Nat) {n : Nat} (hn : M 7 4 = (n : Int)) (r : Int) : run prog (d + 5) 183 [vr 87, vi r] (shp, M) = some (.inl (some (vi (nW M r (visL M n) : Int))), (shp, mset M 87 3 0)) := by
  show ev prog (d + 5) 183 0 0 [vr 87, vi r, vj, vj] [] (shp, M) = _
  obtain ⟨n', h1, h2, h3⟩ := h.cr
  have e : n' = n := by omega
  subst e
  have hs : same [87] M (mset M 87 3 0) := same_mset
  have hI : Iv (mset M 87 3 0) := h.same hs (by decide)
  have h3' : (mset M 87 3 0) 88 2001 = (n' : Int) := by rw [mset_k (by decide)]; exact h3
  have hp : ∀ x, p125 x (mset M 87 3 0) = p125 x M := fun x => cp125 (hs 7 (by decide)) (hs 10 (by decide)) (hs 11 (by decide)) (hs 38 (by decide)) x
  have hd : ∀ p, dq (mset M 87 3 0) p = dq M p := fun p => dq_c (hs 8 (by decide)) (hs 34 (by decide)) (hs 35 (by decide)) p
  have loop : ∀ (q i : Nat), i + q = n' → ev prog (d + 5) 183 0 1 [vr 87, vi r, vi (nW M r (visL M i) : Int), vi (i : Int)] [] (shp, mset M 87 3 0) = some (.inl (some (vi (nW M r (visL M n') : Int))), (shp, mset M 87 3 0)) := by
    intro q
    induction q with
    | zero =>
      intro i hi
      rw [g183_1, h3', if_neg (by omega), show i = n' by omega]
    | succ q ih =>
      intro i hi
      have hle := nW_le M r (visL M i)
      have hle2 := visL_le M i
      have hw : wr ((i : Int) + 1) = ((i + 1 : Nat) : Int) := wr_id (by unfold inR; omega)
      have hs1 := visL_s M i
      have h0 : wr ((nW M r (visL M i) : Int) + 0) = (nW M r (visL M i) : Int) := by rw [Int.add_zero]; exact wr_id (by unfold inR; omega)
      have := ih (i + 1) (by omega)
      rw [g183_1, h3', if_pos (by omega), sp129 hI d, hp, callK_r, psh_s, g183_4, hw, h0]
      cases hv : p125 (i : Int) M with
      | false =>
        rw [hv] at hs1
        have hs1 : visL M (i + 1) = visL M i := hs1
        rw [hs1] at this
        rw [if_pos (show bi false = 0 from rfl)]
        exact this
      | true =>
        rw [hv] at hs1
        have hs1 : visL M (i + 1) = visL M i ++ [(i : Int)] := hs1
        rw [hs1, nW_snoc, Int.toNat_natCast] at this
        rw [if_neg (show ¬ bi true = 0 by decide), sp162 hI (d + 1) (by omega), hd, callK_r, psh_s, g183_6, hw, h0]
        by_cases hr : dq M i ≤ r
        · rw [if_pos hr] at this
          rw [if_neg (by omega), wr_id (show inR ((nW M r (visL M i) : Int) + 1) by unfold inR; omega)]
          exact this
        · rw [if_neg hr, Nat.add_zero] at this
          rw [if_pos (by omega)]
          exact this
  rw [g183_0]
  exact loop n' 0 (by omega)
