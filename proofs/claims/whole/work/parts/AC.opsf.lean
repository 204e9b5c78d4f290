/-! OPERATIONS: SAVE, RESTORE -/
variable {K : KK}
theorem mcpy_at {M : mM} {ks kd n j : Nat} (h : j < n) : mcpy M ks kd n kd j = M ks j := by unfold mcpy; rw [if_pos ⟨rfl, h⟩]
theorem mcpy_k {M : mM} {ks kd n a : Nat} (h : a ≠ kd) : mcpy M ks kd n a = M a := by funext j; unfold mcpy; rw [if_neg (fun q => h q.1)]
/-- equal in the cells that count -/
def ce (M M' : mM) : Prop := (M' 7 4 = M 7 4 ∧ M' 7 5 = M 7 5 ∧ M' 12 11 = M 12 11) ∧ (∀ j, j < 600 → M' 8 j = M 8 j) ∧ (∀ j, j < 200 → M' 9 j = M 9 j) ∧ (∀ j, j < 200 → M' 10 j = M 10 j) ∧ (∀ j, j < 200 → M' 11 j = M 11 j) ∧ (∀ j, j < 400 → M' 13 j = M 13 j) ∧ (∀ j, j < 4 → M' 26 j = M 26 j) ∧ (∀ j, j < 6 → M' 34 j = M 34 j) ∧ (∀ j, j < 3 → M' 35 j = M 35 j) ∧ (∀ j, j < 3 → M' 36 j = M 36 j) ∧ (∀ j, j < 3 → M' 37 j = M 37 j) ∧ (∀ j, j < 10 → M' 38 j = M 38 j) ∧ ∀ j, j < 2031 → M' 88 j = M 88 j
theorem isT_ce {M M' : mM} (h13 : ∀ j, j < 400 → M' 13 j = M 13 j) {t : Tr} {x : Int} (hlt : ∀ k ∈ ks t, k < 200) (h : isT (clf M) (crf M) t x) : isT (clf M') (crf M') t x := by
  refine isT_c (fun k hk => ?_) h
  have := hlt k hk
  exact ⟨h13 _ (by omega), h13 _ (by omega)⟩
theorem Bs_ce {M M' : mM} {n : Nat} {t : Tr} (h : Bs M n t) (c : ce M M') : Bs M' n t := by
  obtain ⟨⟨c74, c75, c12⟩, c8, c9, c10, c11, c13, c26, c34, c35, c36, c37, c38, c88⟩ := c
  obtain ⟨⟨⟨n', a1, a1', a1''⟩, a2, a3, a4, a5, a6, a7, a8, a9, a10⟩, b2, b3, b4, b5, b6, b7⟩ := h
  have hlt : ∀ x ∈ ks t, x < 200 := fun x hx => by have := b4.2.2 x hx; omega
  have hl : liveN M' n = liveN M n := by
    unfold liveN
    congr 1
    refine List.filter_congr fun i hi => ?_
    have := List.mem_range.mp hi
    rw [c11 i (by omega)]
  refine ⟨⟨⟨n', by rw [c74]; exact a1, a1', by rw [c88 _ (by decide)]; exact a1''⟩, rw2_eq a2 fun j hj => ⟨c8 j hj, c88 _ (by omega)⟩, rw2_eq a3 fun j hj => ⟨c9 j hj, c88 _ (by omega)⟩, rw2_eq a4 fun j hj => ⟨c10 j hj, c88 _ (by omega)⟩, rw2_eq a5 fun j hj => ⟨c11 j hj, c88 _ (by omega)⟩, ⟨rw2_eq a6.1 fun j hj => ⟨c34 j hj, c88 _ (by omega)⟩, ?_⟩, rw2_eq a7 fun j hj => ⟨c35 j hj, c88 _ (by omega)⟩, rw2_eq a8 fun j hj => ⟨c36 j hj, c88 _ (by omega)⟩, rw2_eq a9 fun j hj => ⟨c37 j hj, c88 _ (by omega)⟩, rw2_eq a10 fun j hj => ⟨c38 j hj, c88 _ (by omega)⟩⟩, ⟨by rw [c74]; exact b2.1, b2.2⟩, ⟨by rw [c75, hl]; exact b3.1, by rw [hl]; exact b3.2⟩, ⟨by rw [c12]; exact isT_ce c13 hlt b4.1, b4.2⟩, MT_88 b2.2 b4.2.2 b5 (fun j _ h2 => c88 j (by omega)), ?_, ?_⟩
  · rw [c34 2 (by decide), c34 3 (by decide), c34 4 (by decide), c34 5 (by decide)]; exact a6.2
  · intro p hp ha
    refine b6 p hp ?_
    unfold alv at ha ⊢
    rw [c11 p (by omega)] at ha
    exact ha
  · intro j hj; rw [c26 j hj, c88 _ (by omega)]; exact b7 j hj
def OpW (K : KK) (D w : Nat) (aw : List mV) (m : Nat) (am : List mV) (M : mM) : Prop := ∃ (M1 M2 : mM), (M1 3 = M 3 ∧ M1 4 = M 4) ∧ run prog D w aw (shp, M) = some (.inl none, (shp, M1)) ∧ run prog D m am (shp, M1) = some (.inl none, (shp, M2)) ∧ Inv K M2
section PD
variable {M : mM}
/-- the model's copies -/
theorem l295 (d : Nat) (N : mM) : ∃ N', ev prog (d + 1) 295 0 1 [vr 87, vi 0] [] (shp, N) = some (.inl none, (shp, N')) ∧ same [89] N N' ∧ ∀ j, j < 2031 → N' 89 j = N 88 j := by
  obtain ⟨N', a1, a2, a3⟩ := up_inv (fun M i => ev prog (d + 1) 295 0 1 [vr 87, vi (i : Int)] [] (shp, M)) (fun i M => same [89] N M ∧ ∀ j, j < i → M 89 j = N 88 j) 2031 (fun i M hi hI => by
    refine ⟨mset M 89 i (M 88 i), ?_, hI.1.tr same_mset, fun j hj => ?_⟩
    · show ev prog (d + 1) 295 0 1 [vr 87, vi (i : Int)] [] (shp, M) = ev prog (d + 1) 295 0 1 [vr 87, vi ((i + 1 : Nat) : Int)] [] (shp, mset M 89 i (M 88 i))
      rw [g295_1, if_pos (by omega), if_pos (gi2031 hi), if_pos (gi2031 hi), Int.toNat_natCast, wI (by omega)]
    · by_cases e : j = i
      · rw [e, mset_at, hI.1 88 (by decide)]
      · rw [mset_j e]; exact hI.2 j (by omega)) (M := N) ⟨same.rf, fun j hj => absurd hj (Nat.not_lt_zero _)⟩
  refine ⟨N', ?_, a2, a3⟩
  have a1 : ev prog (d + 1) 295 0 1 [vr 87, vi 0] [] (shp, N) = ev prog (d + 1) 295 0 1 [vr 87, vi ((2031 : Nat) : Int)] [] (shp, N') := a1
  rw [a1, g295_1, if_neg (by decide)]
theorem l298 (d : Nat) (N : mM) : ∃ N', ev prog (d + 1) 298 0 3 [vr 87, vi 0] [] (shp, N) = some (.inl none, (shp, mset N' 87 8 0)) ∧ same [88] N N' ∧ ∀ j, j < 2031 → N' 88 j = N 89 j := by
  obtain ⟨N', a1, a2, a3⟩ := up_inv (fun M i => ev prog (d + 1) 298 0 3 [vr 87, vi (i : Int)] [] (shp, M)) (fun i M => same [88] N M ∧ ∀ j, j < i → M 88 j = N 89 j) 2031 (fun i M hi hI => by
    refine ⟨mset M 88 i (M 89 i), ?_, hI.1.tr same_mset, fun j hj => ?_⟩
    · show ev prog (d + 1) 298 0 3 [vr 87, vi (i : Int)] [] (shp, M) = ev prog (d + 1) 298 0 3 [vr 87, vi ((i + 1 : Nat) : Int)] [] (shp, mset M 88 i (M 89 i))
      rw [g298_3, if_pos (by omega), if_pos (gi2031 hi), if_pos (gi2031 hi), Int.toNat_natCast, wI (by omega)]
    · by_cases e : j = i
      · rw [e, mset_at, hI.1 89 (by decide)]
      · rw [mset_j e]; exact hI.2 j (by omega)) (M := N) ⟨same.rf, fun j hj => absurd hj (Nat.not_lt_zero _)⟩
  refine ⟨N', ?_, a2, a3⟩
  have a1 : ev prog (d + 1) 298 0 3 [vr 87, vi 0] [] (shp, N) = ev prog (d + 1) 298 0 3 [vr 87, vi ((2031 : Nat) : Int)] [] (shp, N') := a1
  rw [a1, g298_3, if_neg (by decide)]
theorem op43 (hI : Inv K M) (d : Nat) : OpW K (d + 600) 294 [vr 5] 295 [vr 87] M := by
  obtain ⟨n, t, b⟩ := hI.1
  have b : Bt M n t := b
  obtain ⟨C1, hC1⟩ : ∃ C1, C1 = mset (mset (mcpy (mcpy (mcpy (mcpy M 8 41 600) 9 42 200) 10 43 200) 11 44 200) 40 4 (M 7 4)) 40 5 (M 7 5) := ⟨_, rfl⟩
  have s1 : same [40, 41, 42, 43, 44] M C1 := by rw [hC1]; exact (((((same_mcpy.mono (by decide)).tr (same_mcpy.mono (by decide))).tr (same_mcpy.mono (by decide))).tr (same_mcpy.mono (by decide))).tr (same_mset.mono (by decide))).tr (same_mset.mono (by decide))
  obtain ⟨C2, hC2⟩ : ∃ C2, C2 = mset (mcpy C1 13 46 400) 45 11 (C1 12 11) := ⟨_, rfl⟩
  have s2 : same [45, 46] C1 C2 := by rw [hC2]; exact (same_mcpy.mono (by decide)).tr (same_mset.mono (by decide))
  obtain ⟨C3, a1, a2⟩ := t38 (d + 592) C2
  obtain ⟨C4, hC4⟩ : ∃ C4, C4 = mset (mcpy (mcpy (mcpy (mcpy (mcpy (mcpy C3 26 59 4) 34 67 6) 35 68 3) 36 69 3) 37 70 3) 38 71 10) 5 5 1 := ⟨_, rfl⟩
  have s4 : same [5, 59, 67, 68, 69, 70, 71] C3 C4 := by rw [hC4]; exact ((((((same_mcpy.mono (by decide)).tr (same_mcpy.mono (by decide))).tr (same_mcpy.mono (by decide))).tr (same_mcpy.mono (by decide))).tr (same_mcpy.mono (by decide))).tr (same_mcpy.mono (by decide))).tr (same_mset.mono (by decide))
  have c : run prog (d + 600) 294 [vr 5] (shp, M) = some (.inl none, (shp, C4)) := by
    have c290 : run prog (d + 592 + 6) 290 [vr 45, vr 12] (shp, C1) = some (.inl none, (shp, C3)) := by
      show ev prog (d + 592 + 6) 290 0 0 [vr 45, vr 12] [] (shp, C1) = _
      rw [g290_0, ← hC2, show run prog (d + 592 + 5) 38 [vr 45] (shp, C2) = _ from a1, callK_r, psh_n, g290_2]
    have c293 : run prog (d + 592 + 7) 293 [vr 39, vr 6] (shp, M) = some (.inl none, (shp, mcpy (mcpy (mcpy (mcpy (mcpy (mcpy C3 26 59 4) 34 67 6) 35 68 3) 36 69 3) 37 70 3) 38 71 10)) := by
      show ev prog (d + 592 + 7) 293 0 0 [vr 39, vr 6] [] (shp, M) = _
      rw [g293_0, ← hC1, c290, callK_r, psh_n, g293_2]
    show ev prog (d + 592 + 8) 294 0 0 [vr 5] [] (shp, M) = _
    rw [g294_0, c293, callK_r, psh_n, g294_1, hC4]
  obtain ⟨N, hN⟩ : ∃ N, N = mset (mset C4 87 3 0) 87 2 1 := ⟨_, rfl⟩
  obtain ⟨M2, m1, m2, m3⟩ := l295 (d + 599) N
  have sN : same [87] C4 N := by rw [hN]; exact same_mset.tr same_mset
  have sA : same [5, 40, 41, 42, 43, 44, 45, 46, 47, 48, 49, 50, 51, 52, 53, 54, 55, 56, 57, 59, 67, 68, 69, 70, 71] M C4 := ((((s1.mono (by decide)).tr (s2.mono (by decide))).tr (a2.mono (by decide))).tr (s4.mono (by decide)))
  have sB : same [5, 40, 41, 42, 43, 44, 45, 46, 47, 48, 49, 50, 51, 52, 53, 54, 55, 56, 57, 59, 67, 68, 69, 70, 71, 87, 89] M M2 := ((sA.mono (by decide)).tr (sN.mono (by decide))).tr (m2.mono (by decide))
  have k87 : ∀ j, j ≠ 2 → j ≠ 3 → M2 87 j = M 87 j := fun j h2 h3 => by rw [m2 87 (by decide), hN, mset_j h2, mset_j h3, sA 87 (by decide)]
  refine ⟨C4, M2, sc sA (by decide), c, ?_, ?_⟩
  · show ev prog (d + 600) 295 0 0 [vr 87, vj] [] (shp, C4) = _
    rw [g295_0, ← hN]
    exact m1
  · obtain ⟨-, -, i4, i5, i6⟩ := hI
    have r5 : ∀ r, r ∉ [5, 87, 89] → M2 r = C4 r := fun r hr => ((sN.mono (ks' := [5, 87, 89]) (by decide)).tr (m2.mono (by decide))) r hr
    have hce : ce M (snp M2) := by
      have sn : ∀ r, r ≠ 88 → snp M2 r = M2 (r + 33) := fun r hr => if_neg hr
      have e3 : ∀ r, r ∉ [5, 59, 67, 68, 69, 70, 71, 87, 89] → M2 r = C3 r := fun r hr => by
        rw [r5 r (fun q => hr (by simp only [List.mem_cons, List.not_mem_nil, or_false] at q ⊢; omega)), s4 r (fun q => hr (by simp only [List.mem_cons, List.not_mem_nil, or_false] at q ⊢; omega))]
      have e1 : ∀ r, r ∈ [40, 41, 42, 43, 44] → M2 r = C1 r := fun r hr => by
        simp only [List.mem_cons, List.not_mem_nil, or_false] at hr
        rw [e3 r (by simp only [List.mem_cons, List.not_mem_nil, or_false]; omega), a2 r (by simp only [List.mem_cons, List.not_mem_nil, or_false]; omega), s2 r (by simp only [List.mem_cons, List.not_mem_nil, or_false]; omega)]
      have e2 : ∀ r, r ∈ [45, 46] → M2 r = C2 r := fun r hr => by
        simp only [List.mem_cons, List.not_mem_nil, or_false] at hr
        rw [e3 r (by simp only [List.mem_cons, List.not_mem_nil, or_false]; omega), a2 r (by simp only [List.mem_cons, List.not_mem_nil, or_false]; omega)]
      have c3 : ∀ r, r ∉ [40, 41, 42, 43, 44, 45, 46, 47, 48, 49, 50, 51, 52, 53, 54, 55, 56, 57] → C3 r = M r := fun r hr => (((s1.mono (ks' := [40, 41, 42, 43, 44, 45, 46, 47, 48, 49, 50, 51, 52, 53, 54, 55, 56, 57]) (by decide)).tr (s2.mono (by decide))).tr (a2.mono (by decide))) r hr
      refine ⟨⟨?_, ?_, ?_⟩, fun j hj => ?_, fun j hj => ?_, fun j hj => ?_, fun j hj => ?_, fun j hj => ?_, fun j hj => ?_, fun j hj => ?_, fun j hj => ?_, fun j hj => ?_, fun j hj => ?_, fun j hj => ?_, fun j hj => ?_⟩
      · rw [sn 7 (by decide), e1 40 (by decide), hC1, mset_j (by decide), mset_at]
      · rw [sn 7 (by decide), e1 40 (by decide), hC1, mset_at]
      · rw [sn 12 (by decide), e2 45 (by decide), hC2, mset_at, s1 12 (by decide)]
      · rw [sn 8 (by decide), e1 41 (by decide), hC1, mset_k (by decide), mset_k (by decide), mcpy_k (by decide), mcpy_k (by decide), mcpy_k (by decide), mcpy_at hj]
      · rw [sn 9 (by decide), e1 42 (by decide), hC1, mset_k (by decide), mset_k (by decide), mcpy_k (by decide), mcpy_k (by decide), mcpy_at hj, mcpy_k (by decide)]
      · rw [sn 10 (by decide), e1 43 (by decide), hC1, mset_k (by decide), mset_k (by decide), mcpy_k (by decide), mcpy_at hj, mcpy_k (by decide), mcpy_k (by decide)]
      · rw [sn 11 (by decide), e1 44 (by decide), hC1, mset_k (by decide), mset_k (by decide), mcpy_at hj, mcpy_k (by decide), mcpy_k (by decide), mcpy_k (by decide)]
      · rw [sn 13 (by decide), e2 46 (by decide), hC2, mset_k (by decide), mcpy_at hj, s1 13 (by decide)]
      · rw [sn 26 (by decide), r5 59 (by decide), hC4, mset_k (by decide), mcpy_k (by decide), mcpy_k (by decide), mcpy_k (by decide), mcpy_k (by decide), mcpy_k (by decide), mcpy_at hj, c3 26 (by decide)]
      · rw [sn 34 (by decide), r5 67 (by decide), hC4, mset_k (by decide), mcpy_k (by decide), mcpy_k (by decide), mcpy_k (by decide), mcpy_k (by decide), mcpy_at hj, mcpy_k (by decide), c3 34 (by decide)]
      · rw [sn 35 (by decide), r5 68 (by decide), hC4, mset_k (by decide), mcpy_k (by decide), mcpy_k (by decide), mcpy_k (by decide), mcpy_at hj, mcpy_k (by decide), mcpy_k (by decide), c3 35 (by decide)]
      · rw [sn 36 (by decide), r5 69 (by decide), hC4, mset_k (by decide), mcpy_k (by decide), mcpy_k (by decide), mcpy_at hj, mcpy_k (by decide), mcpy_k (by decide), mcpy_k (by decide), c3 36 (by decide)]
      · rw [sn 37 (by decide), r5 70 (by decide), hC4, mset_k (by decide), mcpy_k (by decide), mcpy_at hj, mcpy_k (by decide), mcpy_k (by decide), mcpy_k (by decide), mcpy_k (by decide), c3 37 (by decide)]
      · rw [sn 38 (by decide), r5 71 (by decide), hC4, mset_k (by decide), mcpy_at hj, mcpy_k (by decide), mcpy_k (by decide), mcpy_k (by decide), mcpy_k (by decide), mcpy_k (by decide), c3 38 (by decide)]
      · show M2 89 j = M 88 j
        rw [m3 j hj, sN 88 (by decide), sA 88 (by decide)]
    have h5 : M2 5 5 = 1 := by rw [m2 5 (by decide), sN 5 (by decide), hC4, mset_at]
    refine ⟨⟨n, t, Bs_c (fun k hk => sB k ?_) b.1, TD_c (fun k hk => sB k ?_) b.2⟩, ⟨?_, Or.inr ⟨h5, n, t, Bs_ce b.1 hce⟩⟩, Cur_c (fun j _ => by rw [sB 79 (by decide)]) (sB 80 (by decide)) (sB 81 (by decide)) (sB 93 (by decide)) (fun j hj => k87 j (by omega) (by omega)) i4, Txt_c (fun j _ => by rw [sB 84 (by decide)]) (sB 85 (by decide)) (sB 94 (by decide)) (fun j hj => k87 j (by omega) (by omega)) i5, Sta_c (sB 1 (by decide)) (sB 2 (by decide)) (sB 3 (by decide)) (sB 4 (by decide)) i6⟩
    · simp only [List.mem_cons, List.not_mem_nil, or_false] at hk ⊢; omega
    · simp only [List.mem_cons, List.not_mem_nil, or_false] at hk ⊢; omega
    · rw [h5, m2 87 (by decide), hN, mset_at]
end PD
