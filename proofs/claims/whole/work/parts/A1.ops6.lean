/-! OPERATIONS: LABELS AND SETTINGS -/
variable {K : KK}
theorem p14_d (x y : Int) (M : mM) : p14 x y M = (decide (0 ≤ x ∧ x ≤ 99) && decide (0 ≤ y ∧ y ≤ 9)) := by
  unfold p14
  by_cases h : 0 ≤ x ∧ x ≤ 99
  · rw [decide_eq_true h]
    by_cases h2 : 0 ≤ y ∧ y ≤ 9
    · rw [decide_eq_true h2]
      simp [show ¬ x < 0 by omega, show ¬ 99 < x by omega, show ¬ y < 0 by omega, show ¬ 9 < y by omega]
    · rw [decide_eq_false h2]
      simp [show ¬ x < 0 by omega, show ¬ 99 < x by omega]
      omega
  · rw [decide_eq_false h]
    simp
    omega
theorem p52_d (x y z : Int) (M : mM) : p52 x y z M = decide ((-100 ≤ x ∧ x ≤ 100) ∧ (-100 ≤ y ∧ y ≤ 100) ∧ (-100 ≤ z ∧ z ≤ 100)) := by
  unfold p52
  rw [p51_d, p51_d, p51_d]
  by_cases hx : -100 ≤ x ∧ x ≤ 100
  · rw [decide_eq_true hx, if_neg (show ¬ bi true = 0 by decide)]
    by_cases hy : -100 ≤ y ∧ y ≤ 100
    · rw [decide_eq_true hy, if_neg (show ¬ bi true = 0 by decide)]
      by_cases hz : -100 ≤ z ∧ z ≤ 100
      · rw [decide_eq_true hz, if_neg (show ¬ bi true = 0 by decide), decide_eq_true ⟨hx, hy, hz⟩]
      · rw [decide_eq_false hz, if_pos (show bi false = 0 from rfl), decide_eq_false (fun q => hz q.2.2)]
    · rw [decide_eq_false hy, if_pos (show bi false = 0 from rfl), decide_eq_false (fun q => hy q.2.1)]
  · rw [decide_eq_false hx, if_pos (show bi false = 0 from rfl), decide_eq_false (fun q => hx q.1)]
theorem rw2_set {M M' : mM} {k g n p : Nat} {lo hi v : Int} (h : rw2 M k g n lo hi) (hv : lo ≤ v ∧ v ≤ hi) (h1 : M' k p = v) (h2 : M' 88 (g + p) = v) (ho : ∀ j, j < n → j ≠ p → M' k j = M k j ∧ M' 88 (g + j) = M 88 (g + j)) : rw2 M' k g n lo hi := by
  intro j hj
  by_cases e : j = p
  · subst e; rw [h1, h2]; exact ⟨rfl, hv⟩
  · obtain ⟨a, b⟩ := ho j hj e
    rw [a, b]
    exact h j hj
theorem rw2_eq {M M' : mM} {k g n : Nat} {lo hi : Int} (h : rw2 M k g n lo hi) (ho : ∀ j, j < n → M' k j = M k j ∧ M' 88 (g + j) = M 88 (g + j)) : rw2 M' k g n lo hi := by
  intro j hj
  obtain ⟨a, b⟩ := ho j hj
  rw [a, b]
  exact h j hj
theorem MT_88 {M M' : mM} {n : Nat} {t : Tr} (h200 : n ≤ 200) (hlt : ∀ x ∈ ks t, x < n) (h : MT M n t) (h88 : ∀ j, 1200 ≤ j → j ≤ 2000 → M' 88 j = M 88 j) : MT M' n t := by
  obtain ⟨h1, h2, h3⟩ := h
  refine ⟨?_, ?_, fun k hk => by rw [h88 _ (by omega) (by omega)]; exact h3 k hk⟩
  · rw [h88 2000 (by decide) (by decide)]
    refine isT_c (fun k hk => ?_) h1
    have := hlt k hk
    exact ⟨h88 _ (by omega) (by omega), h88 _ (by omega) (by omega)⟩
  · refine isU_c (fun k hk => ?_) h2
    have := hlt k hk
    exact h88 _ (by omega) (by omega)
theorem Bt.set {M M' : mM} {n : Nat} {t : Tr} (b : Bt M n t) (hI' : Iv M') (hs : ∀ k, k ∈ [7, 8, 11, 12, 13, 14, 15, 16, 17, 18, 19, 20, 21, 22, 26] → M' k = M k) (h88 : ∀ j, (1200 ≤ j ∧ j ≤ 2000) ∨ 2027 ≤ j → M' 88 j = M 88 j) : Bt M' n t := by
  obtain ⟨⟨b1, b2, b3, b4, b5, b6, b7⟩, bD⟩ := b
  refine ⟨⟨hI', ?_, ?_, ?_, MT_88 b2.2 b4.2.2 b5 (fun j h1 h2 => h88 j (Or.inl ⟨h1, h2⟩)), ?_, ?_⟩, TD_c (fun k hk => hs k ?_) bD⟩
  · rw [hs 7 (by decide)]; exact b2
  · rw [hs 7 (by decide), liveN_c (hs 11 (by decide))]; exact b3
  · rw [clf_c (hs 13 (by decide)), crf_c (hs 13 (by decide)), hs 12 (by decide)]; exact b4
  · rw [alv_c (hs 11 (by decide))]; exact b6
  · intro j hj; rw [hs 26 (by decide), h88 _ (by omega)]; exact b7 j hj
  · simp only [List.mem_cons, List.not_mem_nil, or_false] at hk ⊢; omega
/-- is it a point, of a memory that the class has changed -/
theorem sp72v {M : mM} {n : Nat} (hn : M 7 4 = (n : Int)) (h3 : M 88 2001 = (n : Int)) (h200 : n ≤ 200) (d : Nat) (x : Int) : run prog (d + 2) 72 [vr 87, vi x] (shp, M) = some (.inl (some (vi (bi (p31 x M)))), (shp, M)) := by
  show ev prog (d + 2) 72 0 0 [vr 87, vi x] [] (shp, M) = _
  rw [g72_0, h3, wrR (by omega) (by omega), p31_iff hn, p51_d]
  rw [show decide (0 ≤ x ∧ x ≤ (n : Int) - 1) = decide (0 ≤ x ∧ x < (n : Int)) from decide_eq_decide.mpr (by omega)]
theorem p31_lt {M : mM} {n : Nat} (hn : M 7 4 = (n : Int)) {x : Int} (h : p31 x M = true) : ∃ k : Nat, x = (k : Int) ∧ k < n := by
  rw [p31_iff hn, decide_eq_true_eq] at h
  exact ⟨x.toNat, by omega, by omega⟩
section OV
variable {M : mM}
theorem op6 (hI : Inv K M) (d : Nat) (x y z : Int) : Op K (d + 600) 92 [vr 5, vi x, vi y, vi z, vr 96] 93 [vr 87, vi x, vi y, vi z] M := by
  obtain ⟨n, t, b⟩ := hI.1
  have b : Bt M n t := b
  obtain ⟨n', q1, q2, q3⟩ := b.I.cr
  have en : n' = n := by have := b.n; omega
  subst en
  have c := s91 (d + 596) x y z M
  unfold o91 at c
  have head : ∀ M1, fq M M1 → ev prog (d + 600) 93 0 0 [vr 87, vi x, vi y, vi z, vj] [] (shp, M1) = ev prog (d + 600) 93 0 1 [vr 87, vi x, vi y, vi z, vj] [vi (bi (p31 x M))] (shp, mset M1 87 3 0) := by
    intro M1 f
    have f' := f.tr (fq_thr (k := 0))
    rw [g93_0, show run prog (d + 597 + 2) 72 [vr 87, vi x] (shp, mset M1 87 3 0) = _ from sp72 (b.fq f').I (d + 597) x, callK_r, psh_s, p31_k f'.cq]
  cases h : p31 x M with
  | false =>
    rw [h, if_pos (show bi false = 0 from rfl)] at c
    refine Op_x hI fq.rf (k := 1) (b := 0) (by decide) (w92_x2 (d + 599) x y z M M c) ?_
    show ev prog (d + 600) 93 0 0 [vr 87, vi x, vi y, vi z, vj] [] (shp, M) = _
    rw [head M fq.rf, h, g93_1, if_pos (show bi false = 0 from rfl)]
  | true =>
    rw [h, if_neg (show ¬ bi true = 0 by decide), p14_d] at c
    obtain ⟨k, rfl, hk⟩ := p31_lt q1 h
    by_cases hy : (0 ≤ y ∧ y ≤ 99) ∧ (0 ≤ z ∧ z ≤ 9)
    · rw [decide_eq_true hy.1, decide_eq_true hy.2, if_neg (show ¬ bi (true && true) = 0 by decide), va_in ⟨by omega, by omega⟩, va_in ⟨by omega, by omega⟩, pu_in ⟨by omega, by omega⟩, pu_in ⟨by omega, by omega⟩, Int.toNat_natCast] at c
      have hw := b.I.we k (by omega)
      have ht := b.I.ta k (by omega)
      obtain ⟨v, hv⟩ : ∃ v, v = wr (wr (10 * M 9 k) + M 10 k) := ⟨_, rfl⟩
      rw [← hv] at c
      obtain ⟨M1, hM1⟩ : ∃ M1, M1 = mset (mset (mset M 9 k y) 10 k z) 96 0 v := ⟨_, rfl⟩
      have s1 : same [9, 10, 96] M M1 := by rw [hM1]; exact ((same_mset.mono (by decide)).tr (same_mset.mono (by decide))).tr (same_mset.mono (by decide))
      have m88 : ∀ j, (mset M1 87 3 0) 88 j = M 88 j := fun j => by rw [mset_k (by decide), s1 88 (by decide)]
      obtain ⟨M2, hM2⟩ : ∃ M2, M2 = mset (mset (mset M1 87 3 0) 88 (600 + k) y) 88 (800 + k) z := ⟨_, rfl⟩
      have s2 : same [9, 10, 87, 88, 96] M M2 := by rw [hM2]; exact (((s1.mono (by decide)).tr (same_mset.mono (by decide))).tr (same_mset.mono (by decide))).tr (same_mset.mono (by decide))
      have o88 : ∀ j, j ≠ 600 + k → j ≠ 800 + k → M2 88 j = M 88 j := fun j h1 h2 => by rw [hM2, mset_j h2, mset_j h1, m88]
      have e9 : ∀ j, M2 9 j = mset M 9 k y 9 j := fun j => by rw [hM2, mset_k (by decide), mset_k (by decide), mset_k (by decide), hM1, mset_k (by decide), mset_k (by decide)]
      have e10 : ∀ j, M2 10 j = mset (mset M 9 k y) 10 k z 10 j := fun j => by rw [hM2, mset_k (by decide), mset_k (by decide), mset_k (by decide), hM1, mset_k (by decide)]
      have I2 : Iv M2 := by
        obtain ⟨a1, a2, a3, a4, a5, a6, a7, a8, a9, a10⟩ := b.I
        have ro : ∀ r g w, (r = 8 ∨ r = 11 ∨ r = 34 ∨ r = 35 ∨ r = 36 ∨ r = 37 ∨ r = 38) → (g + w ≤ 600 ∨ 1000 ≤ g) → ∀ lo hi, rw2 M r g w lo hi → rw2 M2 r g w lo hi := fun r g w hr hg lo hi h => rw2_eq h fun j hj => ⟨by rw [s2 r (by rcases hr with rfl | rfl | rfl | rfl | rfl | rfl | rfl <;> decide)], o88 _ (by omega) (by omega)⟩
        refine ⟨⟨n', by rw [s2 7 (by decide)]; exact q1, q2, by rw [o88 _ (by omega) (by omega)]; exact q3⟩, ro 8 0 600 (by decide) (by decide) _ _ a2, ?_, ?_, ro 11 1000 200 (by decide) (by decide) _ _ a5, ⟨ro 34 2002 6 (by decide) (by decide) _ _ a6.1, ?_⟩, ro 35 2008 3 (by decide) (by decide) _ _ a7, ro 36 2011 3 (by decide) (by decide) _ _ a8, ro 37 2014 3 (by decide) (by decide) _ _ a9, ro 38 2017 10 (by decide) (by decide) _ _ a10⟩
        · refine rw2_set a3 hy.1 ((e9 k).trans (mset_at _ _ _ _)) (by rw [hM2, mset_j (by omega)]; exact mset_at _ _ _ _) fun j hj hn => ⟨(e9 j).trans (mset_j hn), o88 _ (by omega) (by omega)⟩
        · refine rw2_set a4 hy.2 ((e10 k).trans (mset_at _ _ _ _)) (by rw [hM2]; exact mset_at _ _ _ _) fun j hj hn => ⟨((e10 j).trans (mset_j hn)).trans (mset_k (by decide)), o88 _ (by omega) (by omega)⟩
        · rw [s2 34 (by decide)]; exact a6.2
      refine ⟨0, v, M1, M2, sc s1 (by decide), ?_, ?_, ?_, fun _ => ?_, ?_⟩
      · rw [hM1]; exact w92_r (d + 599) (k : Int) y z M _ _ c
      · show ev prog (d + 600) 93 0 0 [vr 87, vi (k : Int), vi y, vi z, vj] [] (shp, M1) = _
        rw [g93_0, show run prog (d + 597 + 2) 72 [vr 87, vi (k : Int)] (shp, mset M1 87 3 0) = _ from sp72v (n := n') (by rw [mset_k (by decide), s1 7 (by decide)]; exact q1) (by rw [m88]; exact q3) q2 (d + 597) (k : Int), callK_r, psh_s, cp31 ((mset_ne (by decide)).trans (s1 7 (by decide))), h, g93_1, if_neg (show ¬ bi true = 0 by decide), p51_d, decide_eq_true hy.1, if_neg (show ¬ bi true = 0 by decide), p51_d, decide_eq_true hy.2, if_neg (show ¬ bi true = 0 by decide), x600 (by omega), x800 (by omega), if_pos (gi2031 (by omega)), if_pos (gi2031 (by omega)), if_pos (gi2031 (by omega)), if_pos (gi2031 (by omega)), Int.toNat_natCast, Int.toNat_natCast, m88, m88, ← hw.1, ← ht.1, ← hv, ← hM2]
      · rw [hM2, mset_k (by decide), mset_k (by decide), mset_at]
      · rw [hM2, mset_k (by decide), mset_k (by decide), mset_k (by decide), hM1, mset_at]
      · refine hI.part ⟨n', t, b.set I2 (fun k hk => s2 k ?_) (fun j hj => o88 j (by omega) (by omega))⟩ (fun k hk => s2 k ?_) (fun j hj => ?_) (Cur_c (fun j _ => by rw [s2 79 (by decide)]) (s2 80 (by decide)) (s2 81 (by decide)) (s2 93 (by decide)) (fun j hj => ?_) hI.2.2.1)
        · simp only [List.mem_cons, List.not_mem_nil, or_false] at hk ⊢; omega
        · simp only [List.mem_cons, List.not_mem_nil, or_false] at hk ⊢; omega
        · rw [hM2, mset_k (by decide), mset_k (by decide), mset_j (by intro e; subst e; exact absurd hj (by decide)), s1 87 (by decide)]
        · rw [hM2, mset_k (by decide), mset_k (by decide), mset_j (by omega), s1 87 (by decide)]
    · have e0 : (decide (0 ≤ y ∧ y ≤ 99) && decide (0 ≤ z ∧ z ≤ 9)) = false := by
        rw [← Bool.not_eq_true, Bool.and_eq_true, decide_eq_true_eq, decide_eq_true_eq]
        exact hy
      rw [e0, if_pos (show bi false = 0 from rfl)] at c
      refine Op_x hI fq.rf (k := 2) (b := 0) (by decide) (w92_x0 (d + 599) (k : Int) y z M M c) ?_
      show ev prog (d + 600) 93 0 0 [vr 87, vi (k : Int), vi y, vi z, vj] [] (shp, M) = _
      rw [head M fq.rf, h, g93_1, if_neg (show ¬ bi true = 0 by decide), p51_d, p51_d]
      by_cases q : 0 ≤ y ∧ y ≤ 99
      · rw [decide_eq_true q, if_neg (show ¬ bi true = 0 by decide), decide_eq_false (fun r => hy ⟨q, r⟩), if_pos (show bi false = 0 from rfl)]
      · rw [decide_eq_false q, if_pos (show bi false = 0 from rfl)]
end OV
