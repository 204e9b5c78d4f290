/-! OPERATIONS: INSERT -/
variable {K : KK}
theorem sp54v {M V : mM} {n : Nat} (h3 : M 88 2001 = (n : Int)) (h200 : n ≤ 200) (hl : ∀ k, k < 200 → M 88 (1000 + k) = V 11 k ∧ 0 ≤ V 11 k ∧ V 11 k ≤ 1) (d : Nat) : run prog (d + 1) 54 [vr 87] (shp, M) = some (.inl (some (vi (liveN V n : Int))), (shp, M)) := by
  show ev prog (d + 1) 54 0 0 [vr 87, vj, vj] [] (shp, M) = _
  rw [g54_0]
  have key := up_to (fun i => ev prog (d + 1) 54 0 1 [vr 87, vi (liveN V i : Int), vi (i : Int)] [] (shp, M)) n (fun i hi => by
    have h9 := liveN_s (M := V) i (hl i (by omega)).2
    have hle := liveN_le V i
    have hb := (hl i (by omega)).2
    have e : wr ((liveN V i : Int) + V 11 i) = (liveN V (i + 1) : Int) := by rw [wrR (by omega) (by omega)]; omega
    show ev prog (d + 1) 54 0 1 [vr 87, vi (liveN V i : Int), vi (i : Int)] [] (shp, M) = ev prog (d + 1) 54 0 1 [vr 87, vi (liveN V (i + 1) : Int), vi ((i + 1 : Nat) : Int)] [] (shp, M)
    rw [g54_1, h3, if_pos (by clear e; omega), x1000 (by clear e; omega), if_pos (gi2031 (by clear e; omega)), Int.toNat_natCast, (hl i (by clear e; omega)).1, e, wI (by clear e; omega)])
  have key : ev prog (d + 1) 54 0 1 [vr 87, vi 0, vi 0] [] (shp, M) = ev prog (d + 1) 54 0 1 [vr 87, vi (liveN V n : Int), vi (n : Int)] [] (shp, M) := key
  rw [key, g54_1, h3, if_neg (Int.lt_irrefl _)]
theorem Bs_mrg {M C N : mM} {n : Nat} {t : Tr} (h : Bs M n t) (hC : ∀ k, k ∈ [7, 8, 9, 10, 11, 12, 13, 26, 34, 35, 36, 37, 38] → C k = M k) (h88 : N 88 = M 88) : Bs (mrg C N) n t := by
  refine Bs_c (fun k hk => ?_) h
  by_cases e : k = 88
  · subst e; rw [mrg_88, h88]
  · rw [mrg_k e]
    refine hC k ?_
    simp only [List.mem_cons, List.not_mem_nil, or_false] at hk ⊢
    omega
theorem Bs_un {C N : mM} {n : Nat} {t : Tr} (h : Bs (mrg C N) n t) {M : mM} (hC : ∀ k, k ∈ [7, 8, 9, 10, 11, 12, 13, 26, 34, 35, 36, 37, 38] → M k = C k) (h88 : M 88 = N 88) : Bs M n t := by
  refine Bs_c (fun k hk => ?_) h
  by_cases e : k = 88
  · subst e; rw [mrg_88, h88]
  · rw [mrg_k e]
    refine hC k ?_
    simp only [List.mem_cons, List.not_mem_nil, or_false] at hk ⊢
    omega
/-- what holds after a change of points or tree: the class's memory C, then the model's M2 -/
theorem Inv.mut {M C M2 : mM} (hI : Inv K M) {n : Nat} {T : Tr} (sC : same [7, 8, 9, 10, 11, 12, 13, 14, 15, 16, 17, 18, 19, 20, 21, 22, 23, 24, 25, 26, 27, 28, 29, 30, 31, 32, 79, 84, 86] M C) (hD : TD C T) (s2 : same [87, 88, 90, 95, 96] C M2) (hB : Bs (mrg C M2) n T) (h87 : ∀ j, j ∈ [2, 13, 16] → M2 87 j = M 87 j) (h84 : C 84 = M 84) (h8 : M2 87 8 = 0) (h4 : C 79 4 = 0) : Inv K M2 := by
  have s : same [7, 8, 9, 10, 11, 12, 13, 14, 15, 16, 17, 18, 19, 20, 21, 22, 23, 24, 25, 26, 27, 28, 29, 30, 31, 32, 79, 84, 86, 87, 88, 90, 95, 96] M M2 := (sC.mono (by decide)).tr (s2.mono (by decide))
  refine hI.part ⟨n, T, Bs_un hB (fun k hk => s2 k ?_) rfl, TD_c (fun k hk => s2 k ?_) hD⟩ (fun k hk => ?_) h87 (Cur_0 h8 (by rw [s2 79 (by decide)]; exact h4))
  · simp only [List.mem_cons, List.not_mem_nil, or_false] at hk ⊢; omega
  · simp only [List.mem_cons, List.not_mem_nil, or_false] at hk ⊢; omega
  · by_cases e : k = 84
    · subst e; rw [s2 84 (by decide), h84]
    · refine s k ?_
      simp only [List.mem_cons, List.not_mem_nil, or_false] at hk ⊢; omega
section OY
variable {M : mM}
theorem p15_d {n : Nat} {t : Tr} (b : Bt M n t) {k : Nat} (hk : k ≤ 100) : p15 (k : Int) M = (decide (liveN M n + k ≤ 60) && decide (n + k ≤ 200)) := by
  have h5 := b.1.2.2.1
  have hl := b.l
  unfold p15
  rw [h5.1, b.n, wrR (x := (liveN M n : Int) + (k : Int)) (by omega) (by omega), wrR (x := (n : Int) + (k : Int)) (by omega) (by omega)]
  by_cases c : liveN M n + k ≤ 60
  · rw [if_neg (by omega), decide_eq_true c, Bool.true_and]
    by_cases c2 : n + k ≤ 200
    · rw [if_neg (by omega), decide_eq_true c2]
    · rw [if_pos (by omega), decide_eq_false c2]
  · rw [if_pos (by omega), decide_eq_false c, Bool.false_and]
theorem op0 (hI : Inv K M) (d : Nat) (x y z w g : Int) : Op K (d + 600) 50 [vr 5, vi x, vi y, vi z, vi w, vi g, vr 96] 66 [vr 87, vi x, vi y, vi z, vi w, vi g] M := by
  obtain ⟨n, t, b⟩ := hI.1
  have b : Bt M n t := b
  have c : run prog (d + 599) 49 [vr 5, vi x, vi y, vi z, vi w, vi g] (shp, M) = _ := g49_0 (d + 591) x y z w g M
  rw [p13_iff, p14_d] at c
  by_cases hp : (-100 ≤ x ∧ x ≤ 100) ∧ (-100 ≤ y ∧ y ≤ 100) ∧ (-100 ≤ z ∧ z ≤ 100)
  · rw [decide_eq_true hp, if_neg (show ¬ bi true = 0 by decide)] at c
    by_cases hq : (0 ≤ w ∧ w ≤ 99) ∧ (0 ≤ g ∧ g ≤ 9)
    · rw [decide_eq_true hq.1, decide_eq_true hq.2, if_neg (show ¬ bi (true && true) = 0 by decide)] at c
      have e15 := p15_d b (k := 1) (by decide)
      have e15 : p15 1 M = _ := e15
      rw [e15] at c
      have headM : ∀ N, ev prog (d + 600) 66 0 0 [vr 87, vi x, vi y, vi z, vi w, vi g] [] (shp, N) = callK (run prog (d + 597 + 2) 54 [vr 87] (shp, mset N 87 3 0)) (fun v σ1 => ev prog (d + 597 + 3) 66 0 9 [vr 87, vi x, vi y, vi z, vi w, vi g] (psh v []) σ1) (fun e σ1 => hk [0, 0, 0, 0, 0] e σ1 (fun t => ev prog (d + 597 + 3) 66 0 t (msk (pMask prog 66 t) [vr 87, vi x, vi y, vi z, vi w, vi g]) [vj] σ1)) := fun N => by
        rw [g66_0 (d + 597), p52_d, decide_eq_true hp, if_neg (show ¬ bi true = 0 by decide), p51_d, decide_eq_true hq.1, if_neg (show ¬ bi true = 0 by decide), p51_d, decide_eq_true hq.2, if_neg (show ¬ bi true = 0 by decide)]
      by_cases hr : liveN M n + 1 ≤ 60 ∧ n + 1 ≤ 200
      · rw [decide_eq_true hr.1, decide_eq_true hr.2, if_neg (show ¬ bi (true && true) = 0 by decide)] at c
        obtain ⟨C0, hC0⟩ : ∃ C0, C0 = mset M 79 4 0 := ⟨_, rfl⟩
        rw [← hC0] at c
        have s0 : same [79] M C0 := by rw [hC0]; exact same_mset
        have l0 : liveN C0 n = liveN M n := liveN_c (s0 11 (by decide)) n
        have B0 : ∀ N, N 88 = M 88 → Bs (mrg C0 N) n t := fun N hN => Bs_mrg b.1 (fun k hk => s0 k (by simp only [List.mem_cons, List.not_mem_nil, or_false] at hk ⊢; omega)) hN
        have D0 : TD C0 t := TD_c (fun k hk => s0 k (by simp only [List.mem_cons, List.not_mem_nil, or_false] at hk ⊢; omega)) b.2
        obtain ⟨C', T, a1, a2, a3, a4, a5⟩ := step (B0 M rfl) D0 (by omega) (by omega) hp.1 hp.2.1 hp.2.2 hq.1 hq.2 (d + 591) (d + 388)
        rw [a1, callK_r, psh_s, g49_10] at c
        obtain ⟨M1, hM1⟩ : ∃ M1, M1 = mset C' 96 0 (n : Int) := ⟨_, rfl⟩
        obtain ⟨N, hN⟩ : ∃ N, N = mset M1 87 3 0 := ⟨_, rfl⟩
        have sN : same [87, 96] C' N := by rw [hN, hM1]; exact (same_mset.mono (by decide)).tr (same_mset.mono (by decide))
        have N88 : N 88 = M 88 := by rw [sN 88 (by decide), a2 88 (by decide), s0 88 (by decide)]
        obtain ⟨N', m1, m2, m3, m4, m5⟩ := a5 N (B0 N N88)
        obtain ⟨n', q1, q2, q3⟩ := b.I.cr
        have en : n' = n := by have := b.n; omega
        subst en
        have m54 : run prog (d + 597 + 2) 54 [vr 87] (shp, N) = some (.inl (some (vi (liveN M n' : Int))), (shp, N)) := sp54v (by rw [N88]; exact q3) q2 (fun k hk => by rw [N88]; exact ⟨(b.I.li k hk).1.symm, (b.I.li k hk).2⟩) (d + 598)
        refine ⟨0, (n' : Int), M1, N', ⟨by rw [hM1, mset_ne (by decide), a2 3 (by decide), s0 3 (by decide)], by rw [hM1, mset_ne (by decide), a2 4 (by decide), s0 4 (by decide)]⟩, ?_, ?_, ?_, fun _ => ?_, ?_⟩
        · rw [hM1]; exact w50_r (d + 599) x y z w g M C' _ c
        · show ev prog (d + 600) 66 0 0 [vr 87, vi x, vi y, vi z, vi w, vi g] [] (shp, M1) = _
          rw [headM, ← hN, m54, callK_r, psh_s, g66_9, if_neg (by omega), show N 88 2001 = (n' : Int) from by rw [N88]; exact q3, if_neg (by omega), show run prog (d + 597 + 2) 65 [vr 87, vi x, vi y, vi z, vi w, vi g] (shp, N) = _ from m1, callK_r, psh_s, g66_15]
        · rw [m4 3 (by decide) (by decide), hN, mset_at]
        · rw [m2 96 (by decide), hN, mset_k (by decide), hM1, mset_at]
        · have h79 : C' 79 4 = 0 := by rw [a2 79 (by decide), hC0, mset_at]
          refine hI.mut (C := C') ((s0.mono (by decide)).tr (a2.mono (by decide))) a3 ((sN.mono (by decide)).tr (m2.mono (by decide))) m5 (fun j hj => ?_) (by rw [a2 84 (by decide), s0 84 (by decide)]) m3 h79
          rw [m4 j (by intro e; subst e; exact absurd hj (by decide)) (by intro e; subst e; exact absurd hj (by decide)), hN, mset_j (by intro e; subst e; exact absurd hj (by decide)), hM1, mset_k (by decide), a2 87 (by decide), s0 87 (by decide)]
      · have e0 : (decide (liveN M n + 1 ≤ 60) && decide (n + 1 ≤ 200)) = false := by
          rw [← Bool.not_eq_true, Bool.and_eq_true, decide_eq_true_eq, decide_eq_true_eq]
          exact hr
        rw [e0, if_pos (show bi false = 0 from rfl)] at c
        refine Op_x hI fq.rf (k := 2) (b := 0) (by decide) (w50_x1 (d + 599) x y z w g M M c) ?_
        have b' := b.fq (fq_thr (k := 0))
        have m := sp54 b'.I b'.n (d + 598)
        rw [liveN_c (show (mset M 87 3 0) 11 = M 11 from mset_ne (by decide))] at m
        obtain ⟨n', q1, q2, q3⟩ := b.I.cr
        have en : n' = n := by have := b.n; omega
        subst en
        have h60 := b.1.2.2.1.2
        show ev prog (d + 600) 66 0 0 [vr 87, vi x, vi y, vi z, vi w, vi g] [] (shp, M) = _
        rw [headM, show run prog (d + 597 + 2) 54 [vr 87] (shp, mset M 87 3 0) = _ from m, callK_r, psh_s, g66_9]
        by_cases c60 : liveN M n' = 60
        · rw [if_pos (by omega)]
        · rw [if_neg (by omega), mset_k (show 88 ≠ 87 by decide), q3, if_pos (by omega)]
    · have e0 : (decide (0 ≤ w ∧ w ≤ 99) && decide (0 ≤ g ∧ g ≤ 9)) = false := by
        rw [← Bool.not_eq_true, Bool.and_eq_true, decide_eq_true_eq, decide_eq_true_eq]
        exact hq
      rw [e0, if_pos (show bi false = 0 from rfl)] at c
      refine Op_x hI fq.rf (k := 1) (b := 0) (by decide) (w50_x0 (d + 599) x y z w g M M c) ?_
      show ev prog (d + 600) 66 0 0 [vr 87, vi x, vi y, vi z, vi w, vi g] [] (shp, M) = _
      rw [g66_0 (d + 597), p52_d, decide_eq_true hp, if_neg (show ¬ bi true = 0 by decide), p51_d, p51_d]
      by_cases q : 0 ≤ w ∧ w ≤ 99
      · rw [decide_eq_true q, if_neg (show ¬ bi true = 0 by decide), decide_eq_false (fun r => hq ⟨q, r⟩), if_pos (show bi false = 0 from rfl)]
      · rw [decide_eq_false q, if_pos (show bi false = 0 from rfl)]
  · rw [decide_eq_false hp, if_pos (show bi false = 0 from rfl)] at c
    refine Op_x hI fq.rf (k := 1) (b := 0) (by decide) (w50_x0 (d + 599) x y z w g M M c) ?_
    show ev prog (d + 600) 66 0 0 [vr 87, vi x, vi y, vi z, vi w, vi g] [] (shp, M) = _
    rw [g66_0 (d + 597), p52_d, decide_eq_false hp, if_pos (show bi false = 0 from rfl)]
end OY
