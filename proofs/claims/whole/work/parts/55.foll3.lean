/-! THE CLOSEST OTHER POINT: THE MODEL -/
theorem neL_mem {M : mM} {p : Int} : ∀ {l : List Int} {b : Int}, neL M p l = some b → b ∈ l := by
  have key : ∀ (l : List Int) (o : Option Int) (b : Int), l.foldl (stn M p) o = some b → o = some b ∨ b ∈ l := by
    intro l
    induction l with
    | nil => intro o b h; exact Or.inl h
    | cons x l ih =>
      intro o b h
      rcases ih _ b h with h1 | h1
      · unfold stn at h1
        split at h1
        · exact Or.inl h1
        · cases o with
          | none => cases h1; exact Or.inr List.mem_cons_self
          | some c =>
            have h1 : (if db M p.toNat x.toNat < db M p.toNat c.toNat then some x else some c) = some b := h1
            split at h1
            · cases h1; exact Or.inr List.mem_cons_self
            · exact Or.inl h1
      · exact Or.inr (List.mem_cons_of_mem _ h1)
  intro l b h
  rcases key l none b h with h1 | h1
  · cases h1
  · exact h1
theorem sp199 {M : mM} (h : Iv M) (d : Nat) {n : Nat} (hn : M 7 4 = (n : Int)) {p : Nat} (hp : p < 200) : run prog (d + 5) 199 [vr 87, vi (p : Int)] (shp, M) = some (.inl (some (vi ((neL M (p : Int) (visL M n)).getD (-1)))), (shp, M)) := by
  show ev prog (d + 5) 199 0 0 [vr 87, vi (p : Int), vj, vj] [] (shp, M) = _
  obtain ⟨n', h1, h2, h3⟩ := h.cr
  have e : n' = n := by omega
  subst e
  have loop : ∀ (q i : Nat), i + q = n' → ev prog (d + 5) 199 0 1 [vr 87, vi (p : Int), vi ((neL M (p : Int) (visL M i)).getD (-1)), vi (i : Int)] [] (shp, M) = some (.inl (some (vi ((neL M (p : Int) (visL M n')).getD (-1)))), (shp, M)) := by
    intro q
    induction q with
    | zero =>
      intro i hi
      rw [g199_1, h3, if_neg (by omega), show i = n' by omega]
    | succ q ih =>
      intro i hi
      have hw : wr ((i : Int) + 1) = ((i + 1 : Nat) : Int) := wr_id (by unfold inR; omega)
      have hs1 := visL_s M i
      have := ih (i + 1) (by omega)
      rw [g199_1, h3, if_pos (by omega), hw]
      by_cases c : (i : Int) = (p : Int)
      · rw [if_pos c]
        cases hv : p125 (i : Int) M with
        | false =>
          rw [hv] at hs1
          rw [show visL M (i + 1) = visL M i from hs1] at this
          exact this
        | true =>
          rw [hv] at hs1
          rw [show visL M (i + 1) = visL M i ++ [(i : Int)] from hs1, neL_snoc] at this
          unfold stn at this
          rw [if_pos c] at this
          exact this
      · rw [if_neg c, sp129 h d, callK_r, psh_s, g199_5, hw]
        cases hv : p125 (i : Int) M with
        | false =>
          rw [hv] at hs1
          rw [show visL M (i + 1) = visL M i from hs1] at this
          rw [if_pos (show bi false = 0 from rfl)]
          exact this
        | true =>
          rw [hv] at hs1
          rw [show visL M (i + 1) = visL M i ++ [(i : Int)] from hs1, neL_snoc] at this
          unfold stn at this
          rw [if_neg c] at this
          rw [if_neg (show ¬ bi true = 0 by decide)]
          cases hx : neL M (p : Int) (visL M i) with
          | none =>
            rw [hx] at this
            rw [if_pos (show (none : Option Int).getD (-1) < 0 by decide)]
            exact this
          | some b =>
            rw [hx] at this
            obtain ⟨j, hj⟩ := List.mem_iff_getElem?.mp (neL_mem hx)
            obtain ⟨r, rfl, r2, -⟩ := visL_at hj
            have e9 : (some (r : Int)).getD (-1) = (r : Int) := rfl
            rw [e9, if_neg (by omega), sp192 h (d + 1) hp (by omega), callK_r, psh_s, g199_8, sp192 h (d + 1) hp (by omega), callK_r, psh_s, g199_9, hw]
            have this : ev prog (d + 5) 199 0 1 [vr 87, vi (p : Int), vi ((if db M p i < db M p r then some (i : Int) else some (r : Int)).getD (-1)), vi ((i + 1 : Nat) : Int)] [] (shp, M) = _ := this
            by_cases c2 : db M p i < db M p r
            · rw [if_pos c2] at this ⊢
              exact this
            · rw [if_neg c2] at this ⊢
              exact this
  rw [g199_0]
  exact loop n' 0 (by omega)
