/-! THE CLOSEST PAIR: WHAT THE CLASS ANSWERS -/
def clo (M : mM) (n : Nat) : Option (Int × Int) := (prs (visL M n)).foldl (stp M) none
def cloA (M : mM) (b : Int × Int) (w : Int) : Int := if w = 0 then b.1 else if w = 1 then b.2 else db M b.1.toNat b.2.toNat
theorem sp190 {M : mM} (h : Iv M) (d : Nat) {n : Nat} (hn : M 7 4 = (n : Int)) (w : Int) : ∃ M', run prog (d + 7) 190 [vr 5, vi w] (shp, M) = some (match decide (0 ≤ w ∧ w ≤ 2), clo M n with
    | false, _ => .inr 0
    | true, none => .inr 2
    | true, some b => .inl (some (vi (cloA M b w))), (shp, M')) ∧ same [72, 73, 74] M M' := by
  show ∃ M', ev prog (d + 7) 190 0 0 [vr 5, vi w] [] (shp, M) = _ ∧ _
  rw [g190_0]
  by_cases c1 : w < 0
  · exact ⟨M, by rw [if_pos c1, decide_eq_false (by omega)], same.rf⟩
  · by_cases c2 : 2 < w
    · exact ⟨M, by rw [if_neg c1, if_pos c2, decide_eq_false (by omega)], same.rf⟩
    · obtain ⟨M1, a1, a2, a3⟩ := sp189 h d hn
      refine ⟨M1, ?_, a3⟩
      rw [if_neg c1, if_neg c2, a1, callK_r, psh_n, g190_4, decide_eq_true (by omega)]
      have a2 : pst M M1 (clo M n) := a2
      cases hc : clo M n with
      | none =>
        rw [hc] at a2
        rw [if_pos (show M1 72 7 = -1 from a2)]
      | some b =>
        rw [hc] at a2
        obtain ⟨b1, b2, b3, b4⟩ := a2
        rw [if_neg (by omega), b1, b2, b3]
        show _ = some (Sum.inl (some (vi (cloA M b w))), (shp, M1))
        unfold cloA
        by_cases e0 : w = 0
        · rw [if_pos e0, if_pos e0]
        · rw [if_neg e0, if_neg e0]
          by_cases e1 : w = 1
          · rw [if_pos e1, if_pos e1]
          · rw [if_neg e1, if_neg e1]
