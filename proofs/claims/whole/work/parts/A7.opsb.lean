/-! OPERATIONS: REMOVE -/
variable {K : KK}
theorem sp73v {N V : mM} {n : Nat} (h7 : N 7 4 = (n : Int)) (h3 : N 88 2001 = (n : Int)) (h200 : n ≤ 200) {p : Nat} (hp : p < n) (d : Nat) : run prog (d + 3) 73 [vr 87, vi (p : Int)] (shp, N) = some (.inl (some (vi (bi (decide (N 88 (1000 + p) = 1))))), (shp, N)) := by
  show ev prog (d + 3) 73 0 0 [vr 87, vi (p : Int)] [] (shp, N) = _
  rw [g73_0, sp72v h7 h3 h200, callK_r, psh_s, g73_1, p31_iff h7, decide_eq_true (show 0 ≤ (p : Int) ∧ (p : Int) < (n : Int) by omega), if_neg (show ¬ bi true = 0 by decide), x1000 (by omega), if_pos (gi2031 (by omega)), Int.toNat_natCast]
  by_cases c : N 88 (1000 + p) = 1
  · rw [if_pos c, decide_eq_true c]; rfl
  · rw [if_neg c, decide_eq_false c]; rfl
theorem lk_live2 {V : mM} {n : Nat} {t : Tr} (nd : (ks t).Nodup) (lt : ∀ x ∈ ks t, x < n) (cov : ∀ p, p < n → alv V p = true → p ∈ ks t) : (lk V t).length = liveN V n := by
  have hm : ∀ k, k ∈ lk V t ↔ k ∈ ks t ∧ alv V k = true := fun k => by
    unfold lk
    rw [List.mem_filter]
  have h := cnt_L (L := lk V t) (n := n) (List.Pairwise.filter _ nd) (fun x hx => lt x ((hm x).mp hx).1)
  rw [← h]
  unfold cnt liveN
  congr 1
  refine List.filter_congr fun i hi => ?_
  have hi := List.mem_range.mp hi
  show decide (i ∈ lk V t) = alv V i
  cases ha : alv V i with
  | true => exact decide_eq_true ((hm i).mpr ⟨cov i hi ha, ha⟩)
  | false => exact decide_eq_false (fun q => by have := ((hm i).mp q).2; rw [ha] at this; cases this)
theorem liveN_rm {C V : mM} {n p : Nat} (hC : C 11 p = 1) (h1 : V 11 p = 0) (ho : ∀ j, j ≠ p → V 11 j = C 11 j) (hb : ∀ j, j < n → 0 ≤ C 11 j ∧ C 11 j ≤ 1) : ∀ m, m ≤ n → (p < m → liveN V m + 1 = liveN C m) ∧ (m ≤ p → liveN V m = liveN C m) := by
  intro m
  induction m with
  | zero => intro _; exact ⟨fun h => absurd h (Nat.not_lt_zero _), fun _ => rfl⟩
  | succ m ih =>
    intro hm
    obtain ⟨i1, i2⟩ := ih (by omega)
    have a := liveN_s (M := C) m (hb m (by omega))
    have b := liveN_s (M := V) m (by
      by_cases e : m = p
      · subst e; rw [h1]; decide
      · rw [ho m e]; exact hb m (by omega))
    by_cases e : m = p
    · subst e
      rw [h1] at b
      rw [hC] at a
      have := i2 (Nat.le_refl _)
      exact ⟨fun _ => by omega, fun h => by omega⟩
    · rw [ho m e] at b
      exact ⟨fun h => by have := i1 (by omega); omega, fun h => by have := i2 (by omega); omega⟩
section PA
variable {M : mM}
/-- the rows after a removal -/
theorem rm_fin {n p : Nat} {t T : Tr} (b : Bt M n t) (hp : p < n) {V C' M2 : mM} (hV : V = kpM (mset M 79 4 0) p) (sC : same [12, 13, 14, 15, 16, 17, 18, 19, 20, 21, 22, 23, 24, 25, 26, 27, 28, 29, 30, 31, 32] V C') (hCT : CT C' n T) (hMT : MT M2 n T)
    (l88 : ∀ j, (j < 1200 ∨ (2001 ≤ j ∧ j < 2027)) → M2 88 j = if j = 1000 + p then 0 else M 88 j) (hc : ∀ q, q < n → alv V q = true → q ∈ ks T) (hs : ∀ j, j < 4 → C' 26 j = M2 88 (2027 + j)) (hl : V 7 5 = (liveN V n : Int)) (h60 : liveN V n ≤ 60) : Bs (mrg C' M2) n T := by
  have sV : same [7, 11, 79] M V := by rw [hV]; exact (same_mset.mono (by decide)).tr (kpM_s.mono (by decide))
  have v11 : V 11 p = 0 ∧ ∀ j, j ≠ p → V 11 j = M 11 j := by
    rw [hV]; unfold kpM
    refine ⟨by rw [mset_k (by decide), mset_at], fun j hj => by rw [mset_k (by decide), mset_j hj, mset_k (by decide)]⟩
  have v7 : V 7 4 = M 7 4 := by rw [hV]; unfold kpM; rw [mset_j (by decide), mset_k (by decide), mset_k (by decide)]
  obtain ⟨n', q1, q2, q3⟩ := b.I.cr
  have en : n' = n := by have := b.n; omega
  subst en
  have k88 : ∀ j, mrg C' M2 88 j = M2 88 j := fun j => by rw [mrg_88]
  have o88 : ∀ j, (j < 1200 ∨ (2001 ≤ j ∧ j < 2027)) → j ≠ 1000 + p → M2 88 j = M 88 j := fun j h1 h2 => by rw [l88 j h1, if_neg h2]
  have cr : ∀ r, r ∉ [7, 11, 12, 13, 14, 15, 16, 17, 18, 19, 20, 21, 22, 23, 24, 25, 26, 27, 28, 29, 30, 31, 32, 79] → C' r = M r := fun r hr => ((sV.mono (ks' := [7, 11, 12, 13, 14, 15, 16, 17, 18, 19, 20, 21, 22, 23, 24, 25, 26, 27, 28, 29, 30, 31, 32, 79]) (by decide)).tr (sC.mono (by decide))) r hr
  have ro : ∀ r g w lo hi, r ≠ 88 → C' r = M r → (g + w ≤ 1000 ∨ (2001 ≤ g ∧ g + w ≤ 2027)) → rw2 M r g w lo hi → rw2 (mrg C' M2) r g w lo hi := fun r g w lo hi hr he hg h => rw2_eq h fun j hj => ⟨by rw [mrg_k hr, he], by rw [k88]; exact o88 _ (by omega) (by omega)⟩
  obtain ⟨-, i2, i3, i4, i5, i6, i7, i8, i9, i10⟩ := b.I
  have e11 : mrg C' M2 11 = V 11 := (mrg_k (by decide)).trans (sC 11 (by decide))
  have e7 : mrg C' M2 7 = V 7 := (mrg_k (by decide)).trans (sC 7 (by decide))
  refine ⟨⟨⟨n', ?_, q2, ?_⟩, ro 8 0 600 _ _ (by decide) (cr 8 (by decide)) (by decide) i2, ro 9 600 200 _ _ (by decide) (cr 9 (by decide)) (by decide) i3, ro 10 800 200 _ _ (by decide) (cr 10 (by decide)) (by decide) i4, ?_, ⟨ro 34 2002 6 _ _ (by decide) (cr 34 (by decide)) (by decide) i6.1, ?_⟩, ro 35 2008 3 _ _ (by decide) (cr 35 (by decide)) (by decide) i7, ro 36 2011 3 _ _ (by decide) (cr 36 (by decide)) (by decide) i8, ro 37 2014 3 _ _ (by decide) (cr 37 (by decide)) (by decide) i9, ro 38 2017 10 _ _ (by decide) (cr 38 (by decide)) (by decide) i10⟩, ⟨?_, q2⟩, ⟨?_, ?_⟩, ⟨?_, hCT.2.2.2.1, hCT.2.2.2.2.1⟩, MT_c mrg_88 hMT, ?_, ?_⟩
  · rw [e7, v7]; exact q1
  · rw [k88, o88 _ (by omega) (by omega)]; exact q3
  · refine rw2_set i5 (v := 0) (p := p) (by decide) (by rw [e11]; exact v11.1) (by rw [k88, l88 _ (by omega), if_pos rfl]) fun j hj hn => ⟨by rw [e11]; exact v11.2 j hn, by rw [k88]; exact o88 _ (by omega) (by omega)⟩
  · rw [mrg_k (by decide), cr 34 (by decide)]; exact i6.2
  · rw [e7, v7]; exact q1
  · rw [e7, liveN_c e11]; exact hl
  · rw [liveN_c e11]; exact h60
  · rw [clf_c (show mrg C' M2 13 = C' 13 from mrg_k (by decide)), crf_c (show mrg C' M2 13 = C' 13 from mrg_k (by decide)), mrg_k (by decide)]; exact hCT.2.2.1
  · intro q hq ha
    rw [alv_c e11] at ha
    exact hc q hq ha
  · intro j hj
    rw [mrg_k (by decide), k88]
    exact hs j hj
theorem op1 (hI : Inv K M) (d : Nat) (x : Int) : Op K (d + 600) 71 [vr 5, vi x, vr 96] 76 [vr 87, vi x] M := by
  obtain ⟨n, t, b⟩ := hI.1
  have b : Bt M n t := b
  have h200 := b.l
  have c : run prog (d + 599) 70 [vr 5, vi x] (shp, M) = _ := g70_0 (d + 591) x M
  cases ha : p32 x M with
  | false =>
    rw [ha, if_pos (show bi false = 0 from rfl)] at c
    refine Op_x hI fq.rf (k := 1) (b := 0) (by decide) (w71_x2 (d + 599) x M M c) ?_
    have f := fq_thr (M := M) (k := 0)
    show ev prog (d + 600) 76 0 0 [vr 87, vi x] [] (shp, M) = _
    rw [g76_0 (d + 596), sp73 (b.fq f).I, callK_r, psh_s, p32_k f.cq, ha, g76_1, if_pos (show bi false = 0 from rfl)]
  | true =>
    rw [ha, if_neg (show ¬ bi true = 0 by decide)] at c
    obtain ⟨n', q1, q2, q3⟩ := b.I.cr
    have en : n' = n := by have := b.n; omega
    subst en
    have h31 : p31 x M = true := by
      unfold p32 at ha
      cases h : p31 x M with
      | true => rfl
      | false => rw [h] at ha; cases ha
    obtain ⟨p, rfl, hp⟩ := p31_lt q1 h31
    have halv : M 11 p = 1 := by
      rw [p32_alv q1 q2 hp] at ha
      exact of_decide_eq_true ha
    obtain ⟨C0, hC0⟩ : ∃ C0, C0 = mset M 79 4 0 := ⟨_, rfl⟩
    rw [← hC0] at c
    have s0 : same [79] M C0 := by rw [hC0]; exact same_mset
    have b0 : Bt C0 n' t := ⟨Bs_c (fun k hk => s0 k (by simp only [List.mem_cons, List.not_mem_nil, or_false] at hk ⊢; omega)) b.1, TD_c (fun k hk => s0 k (by simp only [List.mem_cons, List.not_mem_nil, or_false] at hk ⊢; omega)) b.2⟩
    obtain ⟨V, hV⟩ : ∃ V, V = kpM C0 p := ⟨_, rfl⟩
    have sV : same [7, 11] C0 V := by rw [hV]; exact kpM_s
    have v11 : V 11 p = 0 ∧ ∀ j, j ≠ p → V 11 j = M 11 j := by
      rw [hV]; unfold kpM
      refine ⟨by rw [mset_k (by decide), mset_at], fun j hj => by rw [mset_k (by decide), mset_j hj, s0 11 (by decide)]⟩
    have v74 : V 7 4 = (n' : Int) := by rw [hV]; unfold kpM; rw [mset_j (by decide), mset_k (by decide), s0 7 (by decide)]; exact q1
    have hlr := (liveN_rm halv v11.1 v11.2 (fun j hj => (b.I.li j (by omega)).2) n' (Nat.le_refl _)).1 hp
    have hlive := b.1.2.2.1
    have v75 : V 7 5 = (liveN V n' : Int) := by
      have e : V 7 5 = wr (C0 7 5 - 1) := by rw [hV]; unfold kpM; exact mset_at _ _ _ _
      rw [e, s0 7 (by decide), hlive.1, wrR (by omega) (by omega)]
      omega
    have cov : ∀ q, q < n' → alv V q = true → q ∈ ks t := fun q hq h => by
      refine b.1.2.2.2.2.2.1 q hq ?_
      unfold alv at h ⊢
      by_cases e : q = p
      · subst e; rw [v11.1] at h; cases h
      · rw [v11.2 q e] at h; exact h
    have hlkV := lk_live2 (V := V) b.nd b.lt cov
    have hop1 := (b.I.op.1 1 (by decide)).2
    have c34 : C0 34 1 = M 34 1 := by rw [s0 34 (by decide)]
    obtain ⟨C', a1, a2, a3, a4⟩ := sp69 (d + 591) (by rw [c34]; exact hop1) b0.C hp (lc := liveN V n') (by rw [← hV]; exact v75) (by omega) (by rw [← hV]; omega)
    rw [← hV] at a2 a3 a4
    rw [a1, callK_r, psh_n, g70_5, a2 7 (by decide), v75] at c
    have sC : same [7, 11, 12, 13, 14, 15, 16, 17, 18, 19, 20, 21, 22, 23, 24, 25, 26, 27, 28, 29, 30, 31, 32, 79] M C' := ((s0.mono (by decide)).tr (sV.mono (by decide))).tr (a2.mono (by decide))
    obtain ⟨M1, hM1⟩ : ∃ M1, M1 = mset C' 96 0 (liveN V n' : Int) := ⟨_, rfl⟩
    obtain ⟨N1, hN1⟩ : ∃ N1, N1 = mset M1 87 3 0 := ⟨_, rfl⟩
    have sN1 : same [87, 96] C' N1 := by rw [hN1, hM1]; exact (same_mset.mono (by decide)).tr (same_mset.mono (by decide))
    obtain ⟨N2, hN2⟩ : ∃ N2, N2 = mset (mset N1 88 (1000 + p) 0) 87 8 0 := ⟨_, rfl⟩
    have sN2 : same [87, 88, 96] C' N2 := by rw [hN2]; exact ((sN1.mono (by decide)).tr (same_mset.mono (by decide))).tr (same_mset.mono (by decide))
    have n88 : ∀ j, N2 88 j = if j = 1000 + p then 0 else M 88 j := fun j => by
      rw [hN2, mset_k (by decide)]
      by_cases e : j = 1000 + p
      · rw [if_pos e, e, mset_at]
      · rw [if_neg e, mset_j e, sN1 88 (by decide), sC 88 (by decide)]
    have N1_88 : N1 88 = M 88 := by rw [sN1 88 (by decide), sC 88 (by decide)]
    have e11 : N2 11 = V 11 := by rw [sN2 11 (by decide), a2 11 (by decide)]
    have e7 : N2 7 4 = (n' : Int) := by rw [sN2 7 (by decide), a2 7 (by decide)]; exact v74
    have M2t : MT N2 n' t := MT_88 q2 b.lt b.M (fun j h1 h2 => by rw [n88, if_neg (by omega)])
    have I2 : Iv N2 := by
      have cr : ∀ r, r ∉ [7, 11, 12, 13, 14, 15, 16, 17, 18, 19, 20, 21, 22, 23, 24, 25, 26, 27, 28, 29, 30, 31, 32, 79, 87, 88, 96] → N2 r = M r := fun r hr => ((sC.mono (ks' := [7, 11, 12, 13, 14, 15, 16, 17, 18, 19, 20, 21, 22, 23, 24, 25, 26, 27, 28, 29, 30, 31, 32, 79, 87, 88, 96]) (by decide)).tr (sN2.mono (by decide))) r hr
      have ro : ∀ r g w lo hi, N2 r = M r → (g + w ≤ 1000 ∨ 2001 ≤ g) → rw2 M r g w lo hi → rw2 N2 r g w lo hi := fun r g w lo hi he hg h => rw2_eq h fun j hj => ⟨by rw [he], by rw [n88, if_neg (by omega)]⟩
      obtain ⟨-, i2, i3, i4, i5, i6, i7, i8, i9, i10⟩ := b.I
      refine ⟨⟨n', e7, q2, by rw [n88, if_neg (by omega)]; exact q3⟩, ro 8 0 600 _ _ (cr 8 (by decide)) (by decide) i2, ro 9 600 200 _ _ (cr 9 (by decide)) (by decide) i3, ro 10 800 200 _ _ (cr 10 (by decide)) (by decide) i4, ?_, ⟨ro 34 2002 6 _ _ (cr 34 (by decide)) (by decide) i6.1, by rw [cr 34 (by decide)]; exact i6.2⟩, ro 35 2008 3 _ _ (cr 35 (by decide)) (by decide) i7, ro 36 2011 3 _ _ (cr 36 (by decide)) (by decide) i8, ro 37 2014 3 _ _ (cr 37 (by decide)) (by decide) i9, ro 38 2017 10 _ _ (cr 38 (by decide)) (by decide) i10⟩
      exact rw2_set i5 (v := 0) (p := p) (by decide) (by rw [e11]; exact v11.1) (by rw [n88, if_pos rfl]) fun j hj hn => ⟨by rw [e11]; exact v11.2 j hn, by rw [n88, if_neg (by omega)]⟩
    have m73 : run prog (d + 596 + 3) 73 [vr 87, vi (p : Int)] (shp, N1) = some (.inl (some (vi (bi true))), (shp, N1)) := by
      have h := sp73v (V := V) (N := N1) (n := n') (by rw [sN1 7 (by decide), a2 7 (by decide)]; exact v74) (by rw [N1_88]; exact q3) q2 hp (d + 596)
      rw [N1_88, rw2_at b.I.li (by omega), decide_eq_true halv] at h
      exact h
    have m74 := sp74 I2 (by rw [n88, if_neg (by omega)]; exact q3) q2 b.nd b.lt M2t.2.2 (d + 598)
    have edk : dk N2 t = dk V t := by unfold dk; rw [alv_c e11]
    rw [edk] at m74
    have m75 := sp75 (M := N2) (by rw [n88, if_neg (by omega)]; exact q3) q2 b.nd b.lt M2t.2.2 (d + 598)
    have hdk := lk_dk V t
    have hsz := sz_le b.M.1 b.nd
    have e03 : N2 88 2003 = V 34 1 := by
      rw [n88, if_neg (by omega), sV 34 (by decide), c34]
      exact rw2_at b.I.op.1 (p := 1) (by decide)
    have v34 : V 34 1 = M 34 1 := by rw [sV 34 (by decide), c34]
    have pr := mul_le3 (A := 95) (B := 200) hop1 (show 0 ≤ (sz t : Int) ∧ (sz t : Int) ≤ 200 by omega)
    have w1 : wr (100 * ((dk V t).length : Int)) = ((sz t : Int) - V 7 5) * 100 := by rw [wrR (by omega) (by omega), v75]; omega
    have head : ev prog (d + 600) 76 0 0 [vr 87, vi (p : Int)] [] (shp, M1) = if V 34 1 * (sz t : Int) < ((sz t : Int) - V 7 5) * 100 then callK (run prog (d + 596 + 3) 64 [vr 87, vi (N2 88 2000)] (shp, mset N2 88 2028 (wr ((N2 88 2028) + 1)))) (fun v σ1 => ev prog (d + 596 + 4) 76 0 13 [vr 87, vj] (psh v []) σ1) (fun e σ1 => hk [0, 0, 0, 0, 0] e σ1 (fun t => ev prog (d + 596 + 4) 76 0 t (msk (pMask prog 76 t) [vr 87, vj]) [vj] σ1)) else some (.inl (some (vi (liveN V n' : Int))), (shp, N2)) := by
      have w2 : wr (V 34 1 * (sz t : Int)) = V 34 1 * (sz t : Int) := by rw [v34]; exact wrR (by clear w1; omega) (by clear w1; omega)
      have m54 := sp54 I2 e7 (d + 598)
      rw [liveN_c e11] at m54
      rw [g76_0 (d + 596), ← hN1, m73, callK_r, psh_s, g76_1, if_neg (show ¬ bi true = 0 by decide), x1000 (by clear w1 w2; omega), if_pos (gi2031 (by clear w1 w2; omega)), Int.toNat_natCast, ← hN2, show run prog (d + 596 + 3) 74 [vr 87] (shp, N2) = _ from m74, callK_r, psh_s, g76_6, show run prog (d + 596 + 3) 75 [vr 87] (shp, N2) = _ from m75, callK_r, psh_s, g76_8, e03, w1, w2, show run prog (d + 596 + 3) 54 [vr 87] (shp, N2) = _ from m54, callK_r, psh_s, g76_14]
    have h4 : C' 79 4 = 0 := by rw [a2 79 (by decide), sV 79 (by decide), hC0, mset_at]
    have hw := w71_r (d + 599) (p : Int) M C' _ c
    rw [← hM1] at hw
    have k87 : ∀ j, j ≠ 3 → j ≠ 8 → N2 87 j = M 87 j := fun j h3 h8 => by rw [hN2, mset_j h8, mset_k (by decide), hN1, mset_j h3, hM1, mset_k (by decide), sC 87 (by decide)]
    have k3 : N2 87 3 = 0 := by rw [hN2, mset_j (by decide), mset_k (by decide), hN1, mset_at]
    have k96 : N2 96 0 = (liveN V n' : Int) := by rw [hN2, mset_k (by decide), mset_k (by decide), hN1, mset_k (by decide), hM1, mset_at]
    have old26 := b.1.2.2.2.2.2.2
    have c26 : ∀ j, C0 26 j = M 26 j := fun j => by rw [s0 26 (by decide)]
    by_cases hr : V 34 1 * (sz t : Int) < ((sz t : Int) - V 7 5) * 100
    · rw [if_pos hr] at head
      obtain ⟨z1, z2, z3, z4⟩ := a4 (decide_eq_true hr)
      obtain ⟨T, hT⟩ : ∃ T, T = bld V (lk V t) 0 := ⟨_, rfl⟩
      rw [← hT] at z1
      have hpm : (ks T).Perm (lk V t) := by rw [hT]; exact bld_perm V _ _ _ (Nat.le_refl _)
      obtain ⟨N3, hN3⟩ : ∃ N3, N3 = mset N2 88 2028 (wr ((N2 88 2028) + 1)) := ⟨_, rfl⟩
      have o3 : ∀ j, j ≠ 2028 → N3 88 j = N2 88 j := fun j hj => by rw [hN3, mset_j hj]
      have v3 : vw N3 V := by
        have hvI : vw N2 N2 := vw_Iv I2
        obtain ⟨f1, f2, f3, f4, f5⟩ := hvI
        have e8 : N2 8 = V 8 := by rw [sN2 8 (by decide), a2 8 (by decide)]
        have e34 : N2 34 = V 34 := by rw [sN2 34 (by decide), a2 34 (by decide)]
        exact vw_c (M := N2) ⟨fun j hj => by rw [← e8]; exact f1 j hj, fun k hk => by rw [← e11]; exact f2 k hk, by rw [← e34]; exact f3, by rw [← e34]; exact ⟨f4, f5⟩⟩ (fun j hj => o3 j (by omega))
      have M3t : MT N3 n' t := MT_88 q2 b.lt M2t (fun j h1 h2 => o3 j (by omega))
      obtain ⟨N4, r1, r2, r3, r4, r5, r6⟩ := mreb (d + 389) v3 q2 M3t b.nd b.lt
      rw [← hT] at r4
      have e20 : N2 88 2000 = N3 88 2000 := (o3 2000 (by decide)).symm
      have l4 : ∀ j, (j < 1200 ∨ (2001 ≤ j ∧ j ≠ 2030)) → j ≠ 2028 → N4 88 j = if j = 1000 + p then 0 else M 88 j := fun j h1 h2 => by rw [r6 j h1, o3 j h2, n88]
      have m54 : run prog (d + 596 + 3) 54 [vr 87] (shp, N4) = some (.inl (some (vi (liveN V n' : Int))), (shp, N4)) := sp54v (by rw [l4 _ (by omega) (by omega), if_neg (by omega)]; exact q3) q2 (fun k hk => by
        have := I2.li k hk
        rw [e11] at this
        rw [r6 _ (by omega), o3 _ (by omega)]
        exact ⟨this.1.symm, this.2⟩) (d + 598)
      rw [← hN3, e20, show run prog (d + 596 + 3) 64 [vr 87, vi (N3 88 2000)] (shp, N3) = _ from r1, callK_r, psh_n, g76_13, m54, callK_r, psh_s, g76_14] at head
      refine ⟨0, (liveN V n' : Int), M1, N4, ⟨by rw [hM1, mset_ne (by decide), sC 3 (by decide)], by rw [hM1, mset_ne (by decide), sC 4 (by decide)]⟩, hw, head, ?_, fun _ => ?_, ?_⟩
      · rw [r3 3 (by decide), hN3, mset_k (by decide)]; exact k3
      · rw [r2 96 (by decide), hN3, mset_k (by decide)]; exact k96
      · have hB : Bs (mrg C' N4) n' T := by
          refine rm_fin b hp (by rw [hV, hC0]) a2 z1 r4 (fun j hj => l4 j (by omega) (by omega)) (fun q hq h => hpm.mem_iff.mpr (List.mem_filter.mpr ⟨cov q hq h, h⟩)) (fun j hj => ?_) v75 (by omega)
          obtain rfl | rfl | rfl | rfl : j = 0 ∨ j = 1 ∨ j = 2 ∨ j = 3 := by omega
          · rw [z4 0 (by decide) (by decide), c26, l4 _ (by omega) (by omega), if_neg (by omega)]; exact old26 0 (by decide)
          · rw [z2, c26, r6 _ (by omega), hN3, mset_at, n88, if_neg (by omega), old26 1 (by decide)]
          · rw [z4 2 (by decide) (by decide), c26, l4 _ (by omega) (by omega), if_neg (by omega)]; exact old26 2 (by decide)
          · have r5 : N4 88 (2027 + 3) = st3 V t (N3 88 2030) := r5
            rw [z3, c26, r5, o3 _ (by omega), n88, if_neg (by omega), old26 3 (by decide)]
        refine hI.mut (C := C') (sC.mono (by decide)) z1.2.2.2.2.2 (((sN2.mono (ks' := [87, 88, 90, 95, 96]) (by decide)).tr (by rw [hN3]; exact same_mset.mono (by decide))).tr (r2.mono (by decide))) hB (fun j hj => ?_) (by rw [sC 84 (by decide)]) (by rw [r3 8 (by decide), hN3, mset_k (by decide), hN2, mset_at]) h4
        rw [r3 j (by intro e; subst e; exact absurd hj (by decide)), hN3, mset_k (by decide), k87 j (by intro e; subst e; exact absurd hj (by decide)) (by intro e; subst e; exact absurd hj (by decide))]
    · rw [if_neg hr] at head
      obtain ⟨z1, z2⟩ := a3 (decide_eq_false hr)
      refine ⟨0, (liveN V n' : Int), M1, N2, ⟨by rw [hM1, mset_ne (by decide), sC 3 (by decide)], by rw [hM1, mset_ne (by decide), sC 4 (by decide)]⟩, hw, head, k3, fun _ => k96, ?_⟩
      have hB : Bs (mrg C' N2) n' t := rm_fin b hp (by rw [hV, hC0]) a2 z1 M2t (fun j hj => n88 j) cov (fun j hj => by rw [z2 j, c26, n88, if_neg (by omega)]; exact old26 j hj) v75 (by omega)
      refine hI.mut (C := C') (sC.mono (by decide)) z1.2.2.2.2.2 (sN2.mono (by decide)) hB (fun j hj => k87 j (by intro e; subst e; exact absurd hj (by decide)) (by intro e; subst e; exact absurd hj (by decide))) (by rw [sC 84 (by decide)]) (by rw [hN2, mset_at]) h4
end PA
