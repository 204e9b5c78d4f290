/-! OPERATIONS: RESTORE -/
variable {K : KK}
section PE
variable {M : mM}
theorem op44 (hI : Inv K M) (d : Nat) : OpV K (d + 600) 297 [vr 5] 298 [vr 87] M := by
  obtain ⟨i1, ⟨v1, v2⟩, i4, i5, i6⟩ := hI
  have hI : Inv K M := ⟨i1, ⟨v1, v2⟩, i4, i5, i6⟩
  rcases v2 with v2 | ⟨v2, n, t, B⟩
  · have c : run prog (d + 599) 296 [vr 5] (shp, M) = some (.inr 1, (shp, M)) := by
      show ev prog (d + 591 + 8) 296 0 0 [vr 5] [] (shp, M) = _
      rw [g296_0, if_pos v2]
    refine OpV_x hI fq.rf (k := 1) (w297_x1 (d + 599) M M c) ?_
    show ev prog (d + 600) 298 0 0 [vr 87, vj] [] (shp, M) = _
    rw [g298_0, v1, if_pos v2]
  · have sn : ∀ r, r ≠ 88 → snp M r = M (r + 33) := fun r hr => if_neg hr
    have hlt : ∀ x ∈ ks t, x < 200 := fun x hx => by have := B.2.2.2.1.2.2 x hx; have := B.2.1.2; omega
    obtain ⟨C0, hC0⟩ : ∃ C0, C0 = mset M 79 4 0 := ⟨_, rfl⟩
    have s0 : same [79] M C0 := by rw [hC0]; exact same_mset
    obtain ⟨C1, hC1⟩ : ∃ C1, C1 = mset (mset (mcpy (mcpy (mcpy (mcpy C0 41 8 600) 42 9 200) 43 10 200) 44 11 200) 7 4 (C0 40 4)) 7 5 (C0 40 5) := ⟨_, rfl⟩
    have s1 : same [7, 8, 9, 10, 11] C0 C1 := by rw [hC1]; exact (((((same_mcpy.mono (by decide)).tr (same_mcpy.mono (by decide))).tr (same_mcpy.mono (by decide))).tr (same_mcpy.mono (by decide))).tr (same_mset.mono (by decide))).tr (same_mset.mono (by decide))
    obtain ⟨C2, hC2⟩ : ∃ C2, C2 = mset (mcpy C1 46 13 400) 12 11 (C1 45 11) := ⟨_, rfl⟩
    have s2 : same [12, 13] C1 C2 := by rw [hC2]; exact (same_mcpy.mono (by decide)).tr (same_mset.mono (by decide))
    have f13 : ∀ j, j < 400 → C2 13 j = snp M 13 j := fun j hj => by rw [sn 13 (by decide), hC2, mset_k (by decide), mcpy_at hj, s1 46 (by decide), s0 46 (by decide)]
    have f12 : C2 12 11 = snp M 12 11 := by rw [sn 12 (by decide), hC2, mset_at, s1 45 (by decide), s0 45 (by decide)]
    have f74 : C1 7 4 = snp M 7 4 := by rw [sn 7 (by decide), hC1, mset_j (by decide), mset_at, s0 40 (by decide)]
    have f75 : C1 7 5 = snp M 7 5 := by rw [sn 7 (by decide), hC1, mset_at, s0 40 (by decide)]
    obtain ⟨C3, a1, a2, a3⟩ := sp38 (d + 591) (M := C2) (n := n) (t := t) (by rw [s2 7 (by decide), f74]; exact B.2.1.1) B.2.1.2 (by rw [f12]; exact isT_ce f13 hlt B.2.2.2.1.1) B.2.2.2.1.2.1 B.2.2.2.1.2.2
    obtain ⟨C4, hC4⟩ : ∃ C4, C4 = mcpy (mcpy (mcpy (mcpy (mcpy (mcpy C3 59 26 4) 67 34 6) 68 35 3) 69 36 3) 70 37 3) 71 38 10 := ⟨_, rfl⟩
    have s4 : same [26, 34, 35, 36, 37, 38] C3 C4 := by rw [hC4]; exact (((((same_mcpy.mono (by decide)).tr (same_mcpy.mono (by decide))).tr (same_mcpy.mono (by decide))).tr (same_mcpy.mono (by decide))).tr (same_mcpy.mono (by decide))).tr (same_mcpy.mono (by decide))
    have c : run prog (d + 599) 296 [vr 5] (shp, M) = some (.inl none, (shp, C4)) := by
      have c290 : run prog (d + 591 + 6) 290 [vr 12, vr 45] (shp, C1) = some (.inl none, (shp, C3)) := by
        show ev prog (d + 591 + 6) 290 0 0 [vr 12, vr 45] [] (shp, C1) = _
        rw [g290a_0, ← hC2, show run prog (d + 591 + 5) 38 [vr 12] (shp, C2) = _ from a1, callK_r, psh_n, g290a_2]
      have c293 : run prog (d + 591 + 7) 293 [vr 6, vr 39] (shp, C0) = some (.inl none, (shp, C4)) := by
        show ev prog (d + 591 + 7) 293 0 0 [vr 6, vr 39] [] (shp, C0) = _
        rw [g293a_0, ← hC1, c290, callK_r, psh_n, g293a_2, hC4]
      show ev prog (d + 591 + 8) 296 0 0 [vr 5] [] (shp, M) = _
      rw [g296_0, if_neg (by omega), ← hC0, c293, callK_r, psh_n, g296_4]
    obtain ⟨N', m1, m2, m3⟩ := l298 (d + 599) (mset C4 87 3 0)
    obtain ⟨M2, hM2⟩ : ∃ M2, M2 = mset N' 87 8 0 := ⟨_, rfl⟩
    have sA : same [7, 8, 9, 10, 11, 12, 13, 14, 15, 16, 17, 18, 19, 20, 21, 22, 23, 24, 26, 34, 35, 36, 37, 38, 79] M C4 := ((((s0.mono (by decide)).tr (s1.mono (by decide))).tr (s2.mono (by decide))).tr (a2.mono (by decide))).tr (s4.mono (by decide))
    have sN : same [87, 88] C4 M2 := by rw [hM2]; exact ((same_mset.mono (by decide)).tr (m2.mono (by decide))).tr (same_mset.mono (by decide))
    have sB : same [7, 8, 9, 10, 11, 12, 13, 14, 15, 16, 17, 18, 19, 20, 21, 22, 23, 24, 26, 34, 35, 36, 37, 38, 79, 87, 88] M M2 := (sA.mono (by decide)).tr (sN.mono (by decide))
    have k87 : ∀ j, j ≠ 3 → j ≠ 8 → M2 87 j = M 87 j := fun j h3 h8 => by rw [hM2, mset_j h8, m2 87 (by decide), mset_j h3, sA 87 (by decide)]
    have e87 : C4 87 2 = 1 := by rw [sA 87 (by decide), v1]; exact v2
    refine ⟨0, C4, M2, sc sA (by decide), w297_r (d + 599) M C4 c, ?_, ?_, ?_⟩
    · show ev prog (d + 600) 298 0 0 [vr 87, vj] [] (shp, C4) = _
      rw [g298_0, e87, if_neg (by decide), m1, hM2]
    · rw [hM2, mset_j (by decide), m2 87 (by decide), mset_at]
    · have e4 : ∀ r, r ∉ [26, 34, 35, 36, 37, 38, 87, 88] → M2 r = C3 r := fun r hr => ((s4.mono (ks' := [26, 34, 35, 36, 37, 38, 87, 88]) (by decide)).tr (sN.mono (by decide))) r hr
      have e1 : ∀ r, r ∈ [7, 8, 9, 10, 11] → M2 r = C1 r := fun r hr => by
        simp only [List.mem_cons, List.not_mem_nil, or_false] at hr
        rw [e4 r (by simp only [List.mem_cons, List.not_mem_nil, or_false]; omega), a2 r (by simp only [List.mem_cons, List.not_mem_nil, or_false]; omega), s2 r (by simp only [List.mem_cons, List.not_mem_nil, or_false]; omega)]
      have e2 : ∀ r, r ∈ [12, 13] → M2 r = C2 r := fun r hr => by
        simp only [List.mem_cons, List.not_mem_nil, or_false] at hr
        rw [e4 r (by simp only [List.mem_cons, List.not_mem_nil, or_false]; omega), a2 r (by simp only [List.mem_cons, List.not_mem_nil, or_false]; omega)]
      have c3 : ∀ r, r ∉ [7, 8, 9, 10, 11, 12, 13, 14, 15, 16, 17, 18, 19, 20, 21, 22, 23, 24, 79] → C3 r = M r := fun r hr => ((((s0.mono (ks' := [7, 8, 9, 10, 11, 12, 13, 14, 15, 16, 17, 18, 19, 20, 21, 22, 23, 24, 79]) (by decide)).tr (s1.mono (by decide))).tr (s2.mono (by decide))).tr (a2.mono (by decide))) r hr
      have hce : ce (snp M) M2 := by
        refine ⟨⟨?_, ?_, ?_⟩, fun j hj => ?_, fun j hj => ?_, fun j hj => ?_, fun j hj => ?_, fun j hj => ?_, fun j hj => ?_, fun j hj => ?_, fun j hj => ?_, fun j hj => ?_, fun j hj => ?_, fun j hj => ?_, fun j hj => ?_⟩
        · rw [e1 7 (by decide), f74]
        · rw [e1 7 (by decide), f75]
        · rw [e2 12 (by decide), f12]
        · rw [sn 8 (by decide), e1 8 (by decide), hC1, mset_k (by decide), mset_k (by decide), mcpy_k (by decide), mcpy_k (by decide), mcpy_k (by decide), mcpy_at hj, s0 41 (by decide)]
        · rw [sn 9 (by decide), e1 9 (by decide), hC1, mset_k (by decide), mset_k (by decide), mcpy_k (by decide), mcpy_k (by decide), mcpy_at hj, mcpy_k (by decide), s0 42 (by decide)]
        · rw [sn 10 (by decide), e1 10 (by decide), hC1, mset_k (by decide), mset_k (by decide), mcpy_k (by decide), mcpy_at hj, mcpy_k (by decide), mcpy_k (by decide), s0 43 (by decide)]
        · rw [sn 11 (by decide), e1 11 (by decide), hC1, mset_k (by decide), mset_k (by decide), mcpy_at hj, mcpy_k (by decide), mcpy_k (by decide), mcpy_k (by decide), s0 44 (by decide)]
        · rw [e2 13 (by decide), f13 j hj]
        · rw [sn 26 (by decide), sN 26 (by decide), hC4, mcpy_k (by decide), mcpy_k (by decide), mcpy_k (by decide), mcpy_k (by decide), mcpy_k (by decide), mcpy_at hj, c3 59 (by decide)]
        · rw [sn 34 (by decide), sN 34 (by decide), hC4, mcpy_k (by decide), mcpy_k (by decide), mcpy_k (by decide), mcpy_k (by decide), mcpy_at hj, mcpy_k (by decide), c3 67 (by decide)]
        · rw [sn 35 (by decide), sN 35 (by decide), hC4, mcpy_k (by decide), mcpy_k (by decide), mcpy_k (by decide), mcpy_at hj, mcpy_k (by decide), mcpy_k (by decide), c3 68 (by decide)]
        · rw [sn 36 (by decide), sN 36 (by decide), hC4, mcpy_k (by decide), mcpy_k (by decide), mcpy_at hj, mcpy_k (by decide), mcpy_k (by decide), mcpy_k (by decide), c3 69 (by decide)]
        · rw [sn 37 (by decide), sN 37 (by decide), hC4, mcpy_k (by decide), mcpy_at hj, mcpy_k (by decide), mcpy_k (by decide), mcpy_k (by decide), mcpy_k (by decide), c3 70 (by decide)]
        · rw [sn 38 (by decide), sN 38 (by decide), hC4, mcpy_at hj, mcpy_k (by decide), mcpy_k (by decide), mcpy_k (by decide), mcpy_k (by decide), mcpy_k (by decide), c3 71 (by decide)]
        · show M2 88 j = M 89 j
          rw [hM2, mset_k (by decide), m3 j hj, mset_k (by decide), sA 89 (by decide)]
      have hB := Bs_ce B hce
      have hD : TD M2 t := TD_c (fun k hk => e4 k (by simp only [List.mem_cons, List.not_mem_nil, or_false] at hk ⊢; omega)) a3
      refine hI.part ⟨n, t, hB, hD⟩ (fun k hk => sB k ?_) (fun j hj => k87 j (by intro e; subst e; exact absurd hj (by decide)) (by intro e; subst e; exact absurd hj (by decide))) (Cur_0 (by rw [hM2, mset_at]) ?_)
      · simp only [List.mem_cons, List.not_mem_nil, or_false] at hk ⊢; omega
      · rw [sN 79 (by decide), s4 79 (by decide), a2 79 (by decide), s2 79 (by decide), s1 79 (by decide), hC0, mset_at]
end PE
