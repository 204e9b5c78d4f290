/-! OPERATIONS: EXCLUSIONS, CORNERS -/
variable {K : KK}
section OX
variable {M : mM}
theorem op20 (hI : Inv K M) (d : Nat) (x v : Int) : OpB K (d + 600) 154 [vr 5, vi x, vi v, vr 96] 155 [vr 87, vi x, vi v] M := by
  obtain ⟨n, t, b⟩ := hI.1
  have b : Bt M n t := b
  have c := s153 (d + 596) x v M
  unfold o153 at c
  by_cases hx : 0 ≤ x ∧ x ≤ 9
  · obtain ⟨k, rfl⟩ : ∃ k : Nat, x = (k : Int) := ⟨x.toNat, by omega⟩
    have hk : k < 10 := by omega
    have i88 : (0 ≤ ((2017 + k : Nat) : Int) ∧ ((2017 + k : Nat) : Int) < 2031) := gi2031 (by omega)
    have hold := b.I.ex k hk
    obtain ⟨w, hw⟩ : ∃ w : Int, w = if v = 0 then 0 else 1 := ⟨_, rfl⟩
    have hw01 : 0 ≤ w ∧ w ≤ 1 := by rw [hw]; split <;> decide
    have ep : p124 (k : Int) M = decide (M 38 k = 1) := by
      unfold p124
      rw [va_in ⟨by omega, by omega⟩, Int.toNat_natCast]
      by_cases q : M 38 k = 1
      · rw [if_pos q, decide_eq_true q]
      · rw [if_neg q, decide_eq_false q]
    have c : run prog (d + 599) 153 [vr 5, vi (k : Int), vi v] (shp, M) = some (.inl (some (vi (bi (decide (M 38 k = 1))))), (shp, mset M 38 k w)) := by
      rw [show d + 599 = d + 596 + 3 from rfl, c, if_neg (by omega), if_neg (by omega), ep, pu_in ⟨by omega, by omega⟩, pu_in ⟨by omega, by omega⟩, Int.toNat_natCast, hw]
      by_cases q : v = 0
      · rw [if_pos q, if_pos q]
      · rw [if_neg q, if_neg q]
    obtain ⟨M1, hM1⟩ : ∃ M1, M1 = mset (mset M 38 k w) 96 0 (bi (decide (M 38 k = 1))) := ⟨_, rfl⟩
    have s1 : same [38, 96] M M1 := by rw [hM1]; exact (same_mset.mono (by decide)).tr (same_mset.mono (by decide))
    obtain ⟨M2, hM2⟩ : ∃ M2, M2 = mset (mset M1 87 3 0) 88 (2017 + k) w := ⟨_, rfl⟩
    have s2 : same [38, 87, 88, 96] M M2 := by rw [hM2]; exact ((s1.mono (by decide)).tr (same_mset.mono (by decide))).tr (same_mset.mono (by decide))
    have o88 : ∀ j, j ≠ 2017 + k → M2 88 j = M 88 j := fun j hj => by rw [hM2, mset_j hj, mset_k (by decide), s1 88 (by decide)]
    have e38 : ∀ j, M2 38 j = mset M 38 k w 38 j := fun j => by rw [hM2, mset_k (by decide), mset_k (by decide), hM1, mset_k (by decide)]
    have I2 : Iv M2 := by
      refine b.I.upd 2017 2027 (by decide) (fun r hr => s2 r ?_) (fun j hj => o88 j (by omega)) (Or.inl ⟨s2 34 (by decide), by decide⟩) (Or.inl ⟨s2 35 (by decide), by decide⟩) (Or.inl ⟨s2 36 (by decide), by decide⟩) (Or.inl ⟨s2 37 (by decide), by decide⟩) (Or.inr ?_)
      · simp only [List.mem_cons, List.not_mem_nil, or_false] at hr ⊢; omega
      · exact rw2_set b.I.ex hw01 ((e38 k).trans (mset_at _ _ _ _)) (by rw [hM2]; exact mset_at _ _ _ _) fun j hj hn => ⟨(e38 j).trans (mset_j hn), o88 _ (by omega)⟩
    refine ⟨0, decide (M 38 k = 1), M1, M2, sc s1 (by decide), ?_, ?_, ?_, fun _ => ?_, hI.opt I2 (s2.mono (by decide)) 2017 2027 (by decide) (by decide) (fun j hj => o88 j (by omega)) (fun j hj => ?_)⟩
    · rw [hM1]; exact w154_r (d + 599) (k : Int) v M _ _ c
    · show ev prog (d + 600) 155 0 0 [vr 87, vi (k : Int), vi v, vj] [] (shp, M1) = _
      rw [g155_0, p51_d, decide_eq_true (by omega), if_neg (show ¬ bi true = 0 by decide), x2017 hk, if_pos i88, if_pos i88, if_pos i88, if_pos i88, if_pos i88, Int.toNat_natCast, s1 88 (by decide), ← hold.1]
      by_cases q : M 38 k = 1
      · rw [if_pos q, decide_eq_true q]
        by_cases q2 : v = 0
        · rw [if_pos q2, hM2, hw, if_pos q2]; rfl
        · rw [if_neg q2, hM2, hw, if_neg q2]; rfl
      · rw [if_neg q, decide_eq_false q]
        by_cases q2 : v = 0
        · rw [if_pos q2, hM2, hw, if_pos q2]; rfl
        · rw [if_neg q2, hM2, hw, if_neg q2]; rfl
    · rw [hM2, mset_k (by decide), mset_at]
    · rw [hM2, mset_k (by decide), mset_k (by decide), hM1, mset_at]
    · rw [hM2, mset_k (by decide), mset_j hj, s1 87 (by decide)]
  · have c : run prog (d + 599) 153 [vr 5, vi x, vi v] (shp, M) = some (.inr 0, (shp, M)) := by
      rw [show d + 599 = d + 596 + 3 from rfl, c]
      by_cases q : x < 0
      · rw [if_pos q]
      · rw [if_neg q, if_pos (by omega)]
    refine OpB_x hI fq.rf (k := 1) (by decide) (w154_x0 (d + 599) x v M M c) ?_
    show ev prog (d + 600) 155 0 0 [vr 87, vi x, vi v, vj] [] (shp, M) = _
    rw [g155_0, p51_d, decide_eq_false (by omega), if_pos (show bi false = 0 from rfl)]
    rfl
theorem op31 (hI : Inv K M) (d : Nat) (w x y z : Int) : OpV K (d + 600) 212 [vr 5, vi w, vi x, vi y, vi z] 213 [vr 87, vi w, vi x, vi y, vi z] M := by
  obtain ⟨n, t, b⟩ := hI.1
  have b : Bt M n t := b
  have c := s211 (d + 596) w x y z M
  unfold o211 at c
  rw [p13_iff] at c
  by_cases hw : w = 0 ∨ w = 1
  · by_cases h : (-100 ≤ x ∧ x ≤ 100) ∧ (-100 ≤ y ∧ y ≤ 100) ∧ (-100 ≤ z ∧ z ≤ 100)
    · -- the row and the place
      have go : ∀ (k r g : Nat), w = (k : Int) → (k = 0 ∧ r = 36 ∧ g = 2011 ∨ k = 1 ∧ r = 37 ∧ g = 2014) → run prog (d + 599) 211 [vr 5, vi w, vi x, vi y, vi z] (shp, M) = some (.inl none, (shp, mset (mset (mset M r 0 x) r 1 y) r 2 z)) → OpV K (d + 600) 212 [vr 5, vi w, vi x, vi y, vi z] 213 [vr 87, vi w, vi x, vi y, vi z] M := by
        intro k r g hk hr c
        have r88 : r ≠ 88 ∧ r ≠ 87 := by omega
        obtain ⟨M1, hM1⟩ : ∃ M1, M1 = mset (mset (mset M r 0 x) r 1 y) r 2 z := ⟨_, rfl⟩
        rw [← hM1] at c
        have s1 : same [r] M M1 := by rw [hM1]; exact (same_mset.tr same_mset).tr same_mset
        have k87 : ∀ j, M1 87 j = M 87 j := fun j => by rw [s1 87 (by simp; omega)]
        have k88 : ∀ j, M1 88 j = M 88 j := fun j => by rw [s1 88 (by simp; omega)]
        obtain ⟨M2, hM2⟩ : ∃ M2, M2 = mset (mset (mset (mset M1 87 3 0) 88 g x) 88 (g + 1) y) 88 (g + 2) z := ⟨_, rfl⟩
        have s2 : same [r, 87, 88] M M2 := by
          rw [hM2]
          exact ((((s1.mono (by simp)).tr (same_mset.mono (by simp))).tr (same_mset.mono (by simp))).tr (same_mset.mono (by simp))).tr (same_mset.mono (by simp))
        have o88 : ∀ j, (j < g ∨ g + 3 ≤ j) → M2 88 j = M 88 j := fun j hj => by rw [hM2, mset_j (by omega), mset_j (by omega), mset_j (by omega), mset_k (by decide), k88]
        have er : ∀ j, M2 r j = M1 r j := fun j => by rw [hM2, mset_k r88.1, mset_k r88.1, mset_k r88.1, mset_k r88.2]
        have hrw : rw2 M2 r g 3 (-100) 100 := by
          refine rw2_3 h ⟨?_, ?_, ?_⟩ ⟨?_, ?_, ?_⟩
          · rw [er, hM1, mset_j (by decide), mset_j (by decide), mset_at]
          · rw [er, hM1, mset_j (by decide), mset_at]
          · rw [er, hM1, mset_at]
          · rw [hM2, mset_j (by omega), mset_j (by omega), mset_at]
          · rw [hM2, mset_j (by omega), mset_at]
          · rw [hM2, mset_at]
        have nr : ∀ q, q ≠ r → q ≠ 87 → q ≠ 88 → M2 q = M q := fun q h1 h2 h3 => s2 q (by simp only [List.mem_cons, List.not_mem_nil, or_false]; omega)
        have I2 : Iv M2 := by
          refine b.I.upd g (g + 3) (by omega) (fun q hq => nr q ?_ ?_ ?_) o88 (Or.inl ⟨nr 34 (by omega) (by decide) (by decide), by omega⟩) (Or.inl ⟨nr 35 (by omega) (by decide) (by decide), by omega⟩) ?_ ?_ (Or.inl ⟨nr 38 (by omega) (by decide) (by decide), by omega⟩)
          · simp only [List.mem_cons, List.not_mem_nil, or_false] at hq; omega
          · simp only [List.mem_cons, List.not_mem_nil, or_false] at hq; omega
          · simp only [List.mem_cons, List.not_mem_nil, or_false] at hq; omega
          · rcases hr with ⟨-, rfl, rfl⟩ | ⟨-, rfl, rfl⟩
            · exact Or.inr hrw
            · exact Or.inl ⟨nr 36 (by decide) (by decide) (by decide), by decide⟩
          · rcases hr with ⟨-, rfl, rfl⟩ | ⟨-, rfl, rfl⟩
            · exact Or.inl ⟨nr 37 (by decide) (by decide) (by decide), by decide⟩
            · exact Or.inr hrw
        have e3 : wr (3 * w) = ((3 * k : Nat) : Int) := by rw [hk, wrR (by omega) (by omega)]; omega
        have eg : wr (2011 + ((3 * k : Nat) : Int)) = (g : Int) := by rw [wrR (by clear e3; omega) (by clear e3; omega)]; clear e3; omega
        have eg1 : wr ((g : Int) + 1) = ((g + 1 : Nat) : Int) := wI (by clear e3 eg; omega)
        have eg2 : wr ((g : Int) + 2) = ((g + 2 : Nat) : Int) := by rw [wrR (by clear e3 eg eg1; omega) (by clear e3 eg eg1; omega)]; clear e3 eg eg1; omega
        have i0 : 0 ≤ (g : Int) ∧ (g : Int) < 2031 := gi2031 (by clear e3 eg eg1 eg2; omega)
        have i1 : 0 ≤ ((g + 1 : Nat) : Int) ∧ ((g + 1 : Nat) : Int) < 2031 := gi2031 (by clear e3 eg eg1 eg2; omega)
        have i2 : 0 ≤ ((g + 2 : Nat) : Int) ∧ ((g + 2 : Nat) : Int) < 2031 := gi2031 (by clear e3 eg eg1 eg2; omega)
        have hw1 : 0 ≤ w ∧ w ≤ 1 := by clear e3 eg eg1 eg2; omega
        refine ⟨0, M1, M2, ⟨s1 3 (by clear e3 eg eg1 eg2; simp; omega), s1 4 (by clear e3 eg eg1 eg2; simp; omega)⟩, w212_r (d + 599) w x y z M M1 c, ?_, ?_, hI.opt I2 (s2.mono ?_) g (g + 3) (by clear e3 eg eg1 eg2; omega) (by clear e3 eg eg1 eg2; omega) o88 (fun j hj => ?_)⟩
        · show ev prog (d + 600) 213 0 0 [vr 87, vi w, vi x, vi y, vi z] [] (shp, M1) = _
          rw [g213_0, p51_d, decide_eq_true hw1, if_neg (show ¬ bi true = 0 by decide), p52_d, decide_eq_true h, if_neg (show ¬ bi true = 0 by decide), e3, eg, eg1, eg2, if_pos i0, if_pos i1, if_pos i2, Int.toNat_natCast, Int.toNat_natCast, Int.toNat_natCast, ← hM2]
        · rw [hM2, mset_k (by decide), mset_k (by decide), mset_k (by decide), mset_at]
        · intro q hq
          simp only [List.mem_cons, List.not_mem_nil, or_false] at hq ⊢
          clear e3 eg eg1 eg2
          omega
        · rw [hM2, mset_k (by decide), mset_k (by decide), mset_k (by decide), mset_j hj, k87]
      rcases hw with rfl | rfl
      · rw [decide_eq_true h, if_pos rfl, if_neg (show ¬ bi true = 0 by decide), if_pos rfl] at c
        exact go 0 36 2011 rfl (Or.inl ⟨rfl, rfl, rfl⟩) c
      · rw [decide_eq_true h, if_neg (show ¬ (1 : Int) = 0 by decide), if_pos rfl, if_neg (show ¬ bi true = 0 by decide), if_neg (show ¬ (1 : Int) = 0 by decide)] at c
        exact go 1 37 2014 rfl (Or.inr ⟨rfl, rfl, rfl⟩) c
    · have c : run prog (d + 599) 211 [vr 5, vi w, vi x, vi y, vi z] (shp, M) = some (.inr 0, (shp, M)) := by
        rw [show d + 599 = d + 596 + 3 from rfl, c, decide_eq_false h, if_pos (show bi false = 0 from rfl)]
        rcases hw with rfl | rfl
        · rw [if_pos rfl]
        · rw [if_neg (by decide), if_pos rfl]
      refine OpV_x hI fq.rf (k := 2) (w212_x0 (d + 599) w x y z M M c) ?_
      show ev prog (d + 600) 213 0 0 [vr 87, vi w, vi x, vi y, vi z] [] (shp, M) = _
      rw [g213_0, p51_d, decide_eq_true (by omega), if_neg (show ¬ bi true = 0 by decide), p52_d, decide_eq_false h, if_pos (show bi false = 0 from rfl), if_neg (show ¬ bi true = 0 by decide)]
  · have c : run prog (d + 599) 211 [vr 5, vi w, vi x, vi y, vi z] (shp, M) = some (.inr 3, (shp, M)) := by
      rw [show d + 599 = d + 596 + 3 from rfl, c, if_neg (show ¬ w = 0 by omega), if_neg (by omega)]
    refine OpV_x hI fq.rf (k := 1) (w212_x3 (d + 599) w x y z M M c) ?_
    show ev prog (d + 600) 213 0 0 [vr 87, vi w, vi x, vi y, vi z] [] (shp, M) = _
    rw [g213_0, p51_d, decide_eq_false (by omega), if_pos (show bi false = 0 from rfl), if_pos (show bi false = 0 from rfl)]
end OX
