/-! THE NEAREST POINTS -/
/-- how many of l come ahead of a point at distance m and number p -/
def rk (M : mM) (m : Int) (p : Int) (l : List Int) : Nat := (l.filter fun x => decide (dq M x.toNat < m ∨ (dq M x.toNat = m ∧ x < p))).length
theorem rk_snoc (M : mM) (m p : Int) (l : List Int) (x : Int) : rk M m p (l ++ [x]) = rk M m p l + (if dq M x.toNat < m ∨ (dq M x.toNat = m ∧ x < p) then 1 else 0) := by
  unfold rk
  rw [List.filter_append, List.length_append]
  by_cases h : dq M x.toNat < m ∨ (dq M x.toNat = m ∧ x < p) <;> simp [List.filter, h]
theorem rk_le (M : mM) (m p : Int) (l : List Int) : rk M m p l ≤ l.length := List.length_filter_le _ _
theorem visL_lt {M : mM} : ∀ {n i j : Nat} {x y : Int}, (visL M n)[i]? = some x → (visL M n)[j]? = some y → (i < j ↔ x < y) := by
  intro n
  induction n with
  | zero => intro i j x y h; simp [visL] at h
  | succ n ih =>
    intro i j x y hi hj
    have hs := visL_s M n
    cases hv : p125 (n : Int) M with
    | false =>
      rw [hv] at hs
      have hs : visL M (n + 1) = visL M n := hs
      rw [hs] at hi hj
      exact ih hi hj
    | true =>
      rw [hv] at hs
      have hs : visL M (n + 1) = visL M n ++ [(n : Int)] := hs
      rw [hs] at hi hj
      have key : ∀ {i : Nat} {x : Int}, (visL M n ++ [(n : Int)])[i]? = some x → (i < (visL M n).length ∧ (visL M n)[i]? = some x ∧ x < (n : Int)) ∨ (i = (visL M n).length ∧ x = (n : Int)) := by
        intro i x h
        by_cases hl : i < (visL M n).length
        · rw [List.getElem?_append_left hl] at h
          obtain ⟨p, rfl, h2, -⟩ := visL_at h
          exact Or.inl ⟨hl, h, by omega⟩
        · rw [List.getElem?_append_right (by omega)] at h
          have h0 : i - (visL M n).length = 0 := by
            have := (List.getElem?_eq_some_iff.mp h).1
            simp at this
            omega
          rw [h0] at h
          simp at h
          exact Or.inr ⟨by omega, h.symm⟩
      rcases key hi with ⟨a1, a2, a3⟩ | ⟨a1, a2⟩ <;> rcases key hj with ⟨b1, b2, b3⟩ | ⟨b1, b2⟩
      · exact ih a2 b2
      · omega
      · omega
      · omega
/-- the distances stand in cell 75, the points in 73 -/
def meas (M M1 : mM) (n : Nat) : Prop := nums M1 73 (visL M n) ∧ (∀ (j : Nat) (x : Int), (visL M n)[j]? = some x → M1 75 j = dq M x.toNat)
theorem sp171 {M M1 : mM} (d : Nat) {n k : Nat} {p : Int} (hm : meas M M1 n) (h60 : (visL M n).length ≤ 60) (hk : (visL M n)[k]? = some p) : run prog (d + 2) 171 [vr 72, vi (k : Int)] (shp, M1) = some (.inl (some (vi (rk M (dq M p.toNat) p (visL M n) : Int))), (shp, M1)) := by
  show ev prog (d + 2) 171 0 0 [vr 72, vi (k : Int), vj, vj, vj, vj] [] (shp, M1) = _
  obtain ⟨a2, a3⟩ := hm
  have hkl := (List.getElem?_eq_some_iff.mp hk).1
  have hv : ∀ (i : Nat) (x : Int), (visL M n)[i]? = some x → va M1 75 60 (i : Int) = dq M x.toNat := fun i x hx => by
    have := (List.getElem?_eq_some_iff.mp hx).1
    rw [va_in ⟨by omega, by omega⟩, Int.toNat_natCast]
    exact a3 i x hx
  have loop : ∀ (q i : Nat), i + q = (visL M n).length → ev prog (d + 2) 171 0 2 [vr 72, vi (k : Int), vi (dq M p.toNat), vi (rk M (dq M p.toNat) p ((visL M n).take i) : Int), vi (i : Int), vj] [] (shp, M1) = some (.inl (some (vi (rk M (dq M p.toNat) p (visL M n) : Int))), (shp, M1)) := by
    intro q
    induction q with
    | zero =>
      intro i hi
      rw [g171_2, a2.1, if_neg (by omega), List.take_of_length_le (by omega)]
    | succ q ih =>
      intro i hi
      have hil : i < (visL M n).length := by omega
      have hx := List.getElem?_eq_getElem hil
      have hc := rk_snoc M (dq M p.toNat) p ((visL M n).take i) (visL M n)[i]
      rw [← take_s hil] at hc
      have hle := rk_le M (dq M p.toNat) p ((visL M n).take i)
      have hlt : ((visL M n).take i).length = i := by rw [List.length_take]; omega
      have hw : wr ((i : Int) + 1) = ((i + 1 : Nat) : Int) := wr_id (by unfold inR; omega)
      have ho := visL_lt hx hk
      have := ih (i + 1) (by omega)
      have w1 : wr ((rk M (dq M p.toNat) p ((visL M n).take i) : Int) + 1) = (rk M (dq M p.toNat) p ((visL M n).take i) : Int) + 1 := wr_id (by unfold inR; omega)
      rw [g171_2, a2.1, if_pos (by omega), hv i _ hx, hw, w1]
      by_cases h1 : dq M (visL M n)[i].toNat < dq M p.toNat
      · rw [if_pos (Or.inl h1)] at hc
        rw [hc] at this
        rw [if_pos h1]
        exact this
      · rw [if_neg h1]
        by_cases h2 : dq M (visL M n)[i].toNat = dq M p.toNat
        · rw [if_pos h2]
          by_cases h3 : i < k
          · rw [if_pos (Or.inr ⟨h2, ho.mp h3⟩)] at hc
            rw [hc] at this
            rw [if_pos (by omega)]
            exact this
          · rw [if_neg (fun z => z.elim h1 (fun z => h3 (ho.mpr z.2))), Nat.add_zero] at hc
            rw [hc] at this
            rw [if_neg (by omega)]
            exact this
        · rw [if_neg (fun z => z.elim h1 (fun z => h2 z.1)), Nat.add_zero] at hc
          rw [hc] at this
          rw [if_neg h2]
          exact this
  rw [g171_0, hv k p hk]
  exact loop (visL M n).length 0 (by omega)
