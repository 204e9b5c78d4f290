/-! FOLLOWERS: THE CLASS -/
def stn (M : mM) (p : Int) (o : Option Int) (x : Int) : Option Int := if x = p then o else match o with
  | none => some x
  | some b => if db M p.toNat x.toNat < db M p.toNat b.toNat then some x else some b
def neL (M : mM) (p : Int) (l : List Int) : Option Int := l.foldl (stn M p) none
theorem neL_snoc (M : mM) (p : Int) (l : List Int) (x : Int) : neL M p (l ++ [x]) = stn M p (neL M p l) x := by
  unfold neL
  rw [List.foldl_append]
  rfl
theorem r30_at {M M1 : mM} {n : Nat} (h200 : (visL M n).length ≤ 200) (a2 : nums M1 73 (visL M n)) {i : Nat} (hi : i < (visL M n).length) : r30 (i : Int) M1 = (visL M n)[i] := by
  show va M1 74 200 (i : Int) = _
  rw [va_in ⟨by omega, by omega⟩, Int.toNat_natCast]
  exact a2.2 i _ (List.getElem?_eq_getElem hi)
theorem sp195 {M M1 : mM} (h : Iv M) (d : Nat) {n : Nat} (h200 : n ≤ 200) (a2 : nums M1 73 (visL M n)) (hs : same [73, 74] M M1) {p : Nat} (hp : p < 200) : run prog (d + 5) 195 [vr 72, vi (p : Int)] (shp, M1) = some (.inl (some (vi ((neL M (p : Int) (visL M n)).getD (-1)))), (shp, M1)) := by
  show ev prog (d + 5) 195 0 0 [vr 72, vi (p : Int), vj, vj, vj, vj, vj] [] (shp, M1) = _
  have hI : Iv M1 := h.same hs (by decide)
  have hd : ∀ p q, db M1 p q = db M p q := fun p q => db_c (hs 8 (by decide)) (hs 34 (by decide)) p q
  have hll := visL_le M n
  have loop : ∀ (q i : Nat) (z w : Int), i + q = (visL M n).length → ((z = -1 ∧ neL M (p : Int) ((visL M n).take i) = none) ∨ ∃ b : Nat, z = (b : Int) ∧ w = db M p b ∧ neL M (p : Int) ((visL M n).take i) = some (b : Int)) →
      ev prog (d + 5) 195 0 1 [vr 72, vi (p : Int), vi z, vi w, vi (i : Int), vj, vj] [] (shp, M1) = some (.inl (some (vi ((neL M (p : Int) (visL M n)).getD (-1)))), (shp, M1)) := by
    intro q
    induction q with
    | zero =>
      intro i z w hi hz
      rw [List.take_of_length_le (by omega)] at hz
      rw [g195_1, a2.1, if_neg (by omega)]
      rcases hz with ⟨z1, z2⟩ | ⟨b, z1, -, z2⟩
      · rw [z2, z1]; rfl
      · rw [z2, z1]; rfl
    | succ q ih =>
      intro i z w hi hz
      have hil : i < (visL M n).length := by omega
      obtain ⟨x, x1, x2, -⟩ := visL_at (List.getElem?_eq_getElem hil)
      have hw : wr ((i : Int) + 1) = ((i + 1 : Nat) : Int) := wr_id (by unfold inR; omega)
      have hsn := neL_snoc M (p : Int) ((visL M n).take i) (visL M n)[i]
      rw [← take_s hil, x1] at hsn
      unfold stn at hsn
      rw [g195_1, a2.1, if_pos (by omega), r30_at (by omega) a2 hil, x1, sp187 hI d hp (by omega), hd, callK_r, psh_s, g195_4, hw]
      by_cases c : (x : Int) = (p : Int)
      · rw [if_pos c] at hsn ⊢
        exact ih (i + 1) z w (by omega) (by rw [hsn]; exact hz)
      · rw [if_neg c] at hsn ⊢
        rcases hz with ⟨z1, z2⟩ | ⟨b, z1, z3, z2⟩
        · rw [z2] at hsn
          rw [if_pos z1]
          exact ih (i + 1) _ _ (by omega) (Or.inr ⟨x, rfl, rfl, hsn⟩)
        · rw [z2] at hsn
          have hsn : neL M (p : Int) ((visL M n).take (i + 1)) = if db M p x < db M p b then some (x : Int) else some (b : Int) := hsn
          rw [if_neg (by omega), z3]
          by_cases c2 : db M p x < db M p b
          · rw [if_pos c2] at hsn ⊢
            exact ih (i + 1) _ _ (by omega) (Or.inr ⟨x, rfl, rfl, hsn⟩)
          · rw [if_neg c2] at hsn ⊢
            exact ih (i + 1) _ _ (by omega) (Or.inr ⟨b, z1, rfl, hsn⟩)
  rw [g195_0]
  exact loop (visL M n).length 0 (-1) 0 (by omega) (Or.inl ⟨rfl, rfl⟩)
