/-! OPERATIONS: APPEND, READ -/
variable {K : KK}
theorem Inv.txt {M M' : mM} (hI : Inv K M) (s : same [84, 85, 86, 87, 94, 95, 96] M M') (h87 : ∀ j, j ∈ [2, 8, 10, 11] → M' 87 j = M 87 j) (hT : Txt M') : Inv K M' := by
  obtain ⟨⟨n, t, i1, i2⟩, i3, i4, i5, i6⟩ := hI
  refine ⟨⟨n, t, Bs_c (fun k hk => s k ?_) i1, TD_c (fun k hk => s k ?_) i2⟩, Sav_c (s 5 (by decide)) (h87 2 (by decide)) (fun k hk => s k ?_) i3, Cur_c (fun j _ => by rw [s 79 (by decide)]) (s 80 (by decide)) (s 81 (by decide)) (s 93 (by decide)) (fun j hj => h87 j ?_) i4, hT, Sta_c (s 1 (by decide)) (s 2 (by decide)) (s 3 (by decide)) (s 4 (by decide)) i6⟩
  · simp only [List.mem_cons, List.not_mem_nil, or_false] at hk ⊢; omega
  · simp only [List.mem_cons, List.not_mem_nil, or_false] at hk ⊢; omega
  · simp only [List.mem_cons, List.not_mem_nil, or_false] at hk ⊢; omega
  · rcases hj with rfl | rfl | rfl <;> decide
section PC
variable {M : mM}
theorem op40 (hI : Inv K M) (d : Nat) {c : Int} (hc : 0 ≤ c ∧ c < 65536) : OpV K (d + 600) 262 [vr 5, vi c] 263 [vr 87, vi c] M := by
  obtain ⟨x1, n, x2, x3, x4, x5⟩ := hI.2.2.2.1
  by_cases h : n < 90
  · obtain ⟨M1, hM1⟩ : ∃ M1, M1 = mset (mset M 85 n c) 84 2 ((n + 1 : Nat) : Int) := ⟨_, rfl⟩
    have s1 : same [84, 85] M M1 := by rw [hM1]; exact (same_mset.mono (by decide)).tr (same_mset.mono (by decide))
    have w : wr ((n : Int) + 1) = ((n + 1 : Nat) : Int) := wI (by omega)
    have i90 : 0 ≤ (n : Int) ∧ (n : Int) < 90 := gi90 h
    have cl : run prog (d + 599) 261 [vr 5, vi c] (shp, M) = some (.inl none, (shp, M1)) := by
      show ev prog (d + 599) 261 0 0 [vr 5, vi c] [] (shp, M) = _
      rw [g261_0 (d + 597), x3, if_pos (show (n : Int) < 90 from i90.2)]
      have c260 : run prog (d + 597 + 1) 260 [vr 84, vi c] (shp, M) = some (.inl none, (shp, M1)) := by
        show ev prog (d + 597 + 1) 260 0 0 [vr 84, vi c] [] (shp, M) = _
        rw [g260_0, x3, if_neg (show ¬ (n : Int) < 0 by clear w; omega), if_pos (show (n : Int) < 90 from i90.2), if_pos ⟨i90, hc⟩, Int.toNat_natCast, w, hM1]
      rw [c260, callK_r, psh_n, g261_3]
    obtain ⟨M2, hM2⟩ : ∃ M2, M2 = mset (mset (mset M1 87 3 0) 94 n c) 87 13 ((n + 1 : Nat) : Int) := ⟨_, rfl⟩
    have s2 : same [84, 85, 87, 94] M M2 := by rw [hM2]; exact (((s1.mono (by decide)).tr (same_mset.mono (by decide))).tr (same_mset.mono (by decide))).tr (same_mset.mono (by decide))
    have k87 : ∀ j, M1 87 j = M 87 j := fun j => by rw [s1 87 (by decide)]
    refine ⟨0, M1, M2, sc s1 (by decide), w262_r (d + 599) c M M1 cl, ?_, ?_, hI.txt (s2.mono (by decide)) (fun j hj => ?_) ⟨?_, n + 1, by clear w; omega, ?_, ?_, fun j hj => ?_⟩⟩
    · show ev prog (d + 600) 263 0 0 [vr 87, vi c] [] (shp, M1) = _
      rw [g263_0, k87, x4, if_neg (show ¬ (n : Int) = 90 by clear w; omega), if_pos i90, Int.toNat_natCast, w, hM2]
    · rw [hM2, mset_j (by decide), mset_k (by decide), mset_at]
    · rw [hM2, mset_j (by intro e; subst e; exact absurd hj (by decide)), mset_k (by decide), mset_j (by intro e; subst e; exact absurd hj (by decide)), k87]
    · rw [hM2, mset_j (by decide), mset_k (by decide), mset_j (by decide), k87, mset_k (by decide), mset_k (by decide), mset_k (by decide), hM1, mset_j (by decide), mset_k (by decide)]
      exact x1
    · rw [hM2, mset_k (by decide), mset_k (by decide), mset_k (by decide), hM1, mset_at]
    · rw [hM2, mset_at]
    · have a85 : M2 85 j = mset M 85 n c 85 j := by rw [hM2, mset_k (show 85 ≠ 87 by decide), mset_k (show 85 ≠ 94 by decide), mset_k (show 85 ≠ 87 by decide), hM1, mset_k (show 85 ≠ 84 by decide)]
      have a94 : M2 94 j = mset (mset M1 87 3 0) 94 n c 94 j := by rw [hM2, mset_k (show 94 ≠ 87 by decide)]
      rw [a85, a94]
      by_cases e : j = n
      · rw [e, mset_at, mset_at]
      · rw [mset_j e, mset_j e, mset_k (show 94 ≠ 87 by decide), s1 94 (by decide)]
        exact x5 j (by clear w; omega)
  · have e : n = 90 := by omega
    have cl : run prog (d + 599) 261 [vr 5, vi c] (shp, M) = some (.inr 1, (shp, M)) := by
      show ev prog (d + 599) 261 0 0 [vr 5, vi c] [] (shp, M) = _
      rw [g261_0 (d + 597), x3, if_neg (by omega)]
    refine OpV_x hI fq.rf (k := 1) (w262_x1 (d + 599) c M M cl) ?_
    show ev prog (d + 600) 263 0 0 [vr 87, vi c] [] (shp, M) = _
    rw [g263_0, x4, if_pos (by omega)]
theorem op41 (hI : Inv K M) (d : Nat) : Op K (d + 600) 276 [vr 5, vr 96] 285 [vr 87] M := by
  obtain ⟨n, t, b⟩ := hI.1
  have b : Bt M n t := b
  obtain ⟨x1, m, x2, x3, x4, x5'⟩ := hI.2.2.2.1
  obtain ⟨n', q1, q2, q3⟩ := b.I.cr
  have en : n' = n := by have := b.n; omega
  subst en
  have c0 : run prog (d + 599) 275 [vr 5] (shp, M) = _ := g275_0 (d + 591) M
  have o1 := sp273 (T := M 85) (d + 592) x3 x2 (fun j _ => rfl)
  have f0 : same [87] M (mset M 87 3 0) := same_mset
  have f87 : ∀ j, j ≠ 3 → mset M 87 3 0 87 j = M 87 j := fun j hj => mset_j hj
  -- the model, from any memory that the class left
  have headM : ∀ M1, same [84, 86] M M1 → uL (run prog (d + 599) 283 [vr 87] (shp, mset M1 87 3 0)) (mset M1 87 3 0) 0 (pL (M 85) m 16 0) := fun M1 s1 => sp283 (T := M 85) (d + 593) (by rw [mset_j (by decide), s1 87 (by decide)]; exact x4) x2 (fun j hj => by rw [mset_k (by decide), s1 94 (by decide)]; exact x5' j hj)
  cases hl : pL (M 85) m 16 0 with
  | inl e =>
    rw [hl] at o1
    obtain ⟨M1, a1, a2, a3, a4⟩ := o1
    have c : run prog (d + 599) 275 [vr 5] (shp, M) = some (.inr 0, (shp, M1)) := by
      rw [c0, show run prog (d + 591 + 7) 273 [vr 84] (shp, M) = _ from a1, callK_r, psh_n, g275_1, a3, if_neg (by omega)]
    have hu := headM M1 a4
    rw [hl] at hu
    obtain ⟨N1, u1, u2⟩ := hu
    obtain ⟨M2, hM2⟩ : ∃ M2, M2 = mset (mset (mset N1 87 16 (e : Int)) 87 13 0) 87 3 1 := ⟨_, rfl⟩
    have sN : same [87, 95] M1 N1 := (show same [87, 95] M1 (mset M1 87 3 0) from same_mset.mono (by decide)).tr u2.1
    have s2 : same [84, 86, 87, 95] M M2 := by rw [hM2]; exact ((((a4.mono (by decide)).tr (sN.mono (by decide))).tr (same_mset.mono (by decide))).tr (same_mset.mono (by decide))).tr (same_mset.mono (by decide))
    have k84 : ∀ j, M2 84 j = M1 84 j := fun j => by rw [hM2, mset_k (by decide), mset_k (by decide), mset_k (by decide), sN 84 (by decide)]
    refine ⟨1, 0, M1, M2, sc a4 (by decide), w276_x0 (d + 599) M M1 c, ?_, ?_, fun q => absurd q (by decide), hI.txt (s2.mono (by decide)) (fun j hj => ?_) ⟨?_, 0, Nat.zero_le _, ?_, ?_, fun j hj => absurd hj (Nat.not_lt_zero _)⟩⟩
    · show ev prog (d + 600) 285 0 0 [vr 87, vj] [] (shp, M1) = _
      rw [g285_0 (d + 593), show run prog (d + 593 + 6) 283 [vr 87] (shp, mset M1 87 3 0) = _ from u1, callK_r, psh_s, g285_1, if_neg (by omega), hM2]
    · rw [hM2, mset_at]
    · have h14 : j ≠ 14 ∧ j ≠ 15 ∧ j ≠ 18 ∧ j ≠ 3 ∧ j ≠ 13 ∧ j ≠ 16 := by refine ⟨?_, ?_, ?_, ?_, ?_, ?_⟩ <;> (intro e; subst e; exact absurd hj (by decide))
      rw [hM2, mset_j h14.2.2.2.1, mset_j h14.2.2.2.2.1, mset_j h14.2.2.2.2.2, u2.2 j h14.1 h14.2.1 h14.2.2.1, mset_j h14.2.2.2.1, a4 87 (by decide)]
    · rw [k84, a3, hM2, mset_j (by decide), mset_j (by decide), mset_at]
    · rw [k84, a2]; rfl
    · rw [hM2, mset_j (by decide), mset_at]; rfl
  | inr L =>
    rw [hl] at o1
    obtain ⟨M1, a1, a2, a3, a4, a5, a6, -, a8⟩ := o1
    obtain ⟨hwok, hlen, hne⟩ := pL_u 16 0 L hl
    have a4 : M1 84 4 = (L.length : Int) := by rw [a4, Nat.zero_add]
    have b1 : Bt M1 n' t := ⟨Bs_c (fun k hk => a8 k (by simp only [List.mem_cons, List.not_mem_nil, or_false] at hk ⊢; omega)) b.1, TD_c (fun k hk => a8 k (by simp only [List.mem_cons, List.not_mem_nil, or_false] at hk ⊢; omega)) b.2⟩
    -- what the model comes to before it checks
    have mdl : ∀ C, same [84, 86, 7, 8, 9, 10, 11, 12, 13, 14, 15, 16, 17, 18, 19, 20, 21, 22, 23, 24, 25, 26, 27, 28, 29, 30, 31, 32, 79, 96] M C → ∃ N, ev prog (d + 593 + 7) 285 0 0 [vr 87, vj] [] (shp, C) = ev prog (d + 593 + 7) 285 0 3 [vr 87, vj] [vi (bi (!(L.all cok)))] (shp, N) ∧ same [87, 95] C N ∧ N 87 18 = (L.length : Int) ∧ (∀ (j : Nat) (h : j < L.length), pt5u N (0 + j) L[j]) ∧ N 87 16 = -1 ∧ N 87 13 = 0 ∧ N 87 3 = 0 ∧ ∀ j, j ∈ [2, 8, 10, 11] → N 87 j = M 87 j := by
      intro C sC
      have hu : uL (run prog (d + 599) 283 [vr 87] (shp, mset C 87 3 0)) (mset C 87 3 0) 0 (pL (M 85) m 16 0) := sp283 (T := M 85) (d + 593) (by rw [mset_j (by decide), sC 87 (by decide)]; exact x4) x2 (fun j hj => by rw [mset_k (by decide), sC 94 (by decide)]; exact x5' j hj)
      rw [hl] at hu
      obtain ⟨N1, u1, u2, u3, -, u5⟩ := hu
      obtain ⟨N, hN⟩ : ∃ N, N = mset (mset N1 87 16 (-1)) 87 13 0 := ⟨_, rfl⟩
      have k : ∀ j, j ≠ 16 → j ≠ 13 → N 87 j = N1 87 j := fun j h1 h2 => by rw [hN, mset_j h2, mset_j h1]
      have h18 : N 87 18 = (L.length : Int) := by rw [k 18 (by decide) (by decide), u2, Nat.zero_add]
      have hpp : ∀ (j : Nat) (h : j < L.length), pt5u N (0 + j) L[j] := fun j hj => by
        have := u3 j hj
        unfold pt5u at this ⊢
        rw [hN]
        simp only [mset_k (show 95 ≠ 87 by decide)]
        exact this
      have h284 := sp284 (d + 596) (N := N) L 0 (by omega) (by rw [h18, Nat.zero_add]) hpp
      have r284 : run prog (d + 593 + 6) 284 [vr 87] (shp, N) = some (.inl (some (vi (bi (!(L.all cok))))), (shp, N)) := by
        show ev prog (d + 596 + 3) 284 0 0 [vr 87, vj] [] (shp, N) = _
        rw [g284_0]
        exact h284
      refine ⟨N, ?_, ?_, h18, hpp, ?_, ?_, ?_, fun j hj => ?_⟩
      · rw [g285_0, show run prog (d + 593 + 6) 283 [vr 87] (shp, mset C 87 3 0) = _ from u1, callK_r, psh_s, g285_1, if_pos (by decide), ← hN, r284, callK_r, psh_s]
      · rw [hN]; exact (((same_mset.mono (by decide)).tr u5.1).tr (same_mset.mono (by decide))).tr (same_mset.mono (by decide))
      · rw [hN, mset_j (by decide), mset_at]
      · rw [hN, mset_at]
      · rw [k 3 (by decide) (by decide), u5.2 3 (by decide) (by decide) (by decide), mset_at]
      · have h14 : j ≠ 14 ∧ j ≠ 15 ∧ j ≠ 18 ∧ j ≠ 3 ∧ j ≠ 13 ∧ j ≠ 16 := by refine ⟨?_, ?_, ?_, ?_, ?_, ?_⟩ <;> (intro e; subst e; exact absurd hj (by decide))
        rw [k j h14.2.2.2.2.2 h14.2.2.2.2.1, u5.2 j h14.1 h14.2.1 h14.2.2.1, mset_j h14.2.2.2.1, sC 87 (by decide)]
    -- a failure with nothing changed
    have bad : ∀ (code : Int) (N : mM), same [87, 95] M1 N → N 87 16 = -1 → N 87 13 = 0 → (∀ j, j ∈ [2, 8, 10, 11] → N 87 j = M 87 j) → Inv K (mset N 87 3 code) := by
      intro code N sN h16 h13 h87
      have s2 : same [84, 86, 87, 95] M (mset N 87 3 code) := ((a8.mono (by decide)).tr (sN.mono (by decide))).tr (same_mset.mono (by decide))
      refine hI.txt (s2.mono (by decide)) (fun j hj => by rw [mset_j (by intro e; subst e; exact absurd hj (by decide))]; exact h87 j hj) ⟨?_, 0, Nat.zero_le _, ?_, ?_, fun j hj => absurd hj (Nat.not_lt_zero _)⟩
      · rw [mset_j (by decide), mset_k (by decide), sN 84 (by decide), a3]; exact h16
      · rw [mset_k (by decide), sN 84 (by decide), a2]; rfl
      · rw [mset_j (by decide)]; exact h13
    cases hall : L.all cok with
    | false =>
      have c : run prog (d + 599) 275 [vr 5] (shp, M) = some (.inr 0, (shp, M1)) := by
        rw [c0, show run prog (d + 591 + 7) 273 [vr 84] (shp, M) = _ from a1, callK_r, psh_n, g275_1, if_pos a3, a5, bvL_d, hall, if_neg (show ¬ false = true by decide), if_neg (show ¬ (1 : Int) = 0 by decide)]
      obtain ⟨N, r1, r2, r3, r4, r5, r6, r7, r8⟩ := mdl M1 (a8.mono (by decide))
      refine ⟨1, 0, M1, mset N 87 3 1, sc a8 (by decide), w276_x0 (d + 599) M M1 c, ?_, mset_at _ _ _ _, fun q => absurd q (by decide), bad 1 N r2 r5 r6 r8⟩
      show ev prog (d + 593 + 7) 285 0 0 [vr 87, vj] [] (shp, M1) = _
      rw [r1, hall, g285_3, if_neg (show ¬ bi (!false) = 0 by decide)]
    | true =>
      have e15 := p15_d b1 (k := L.length) (by omega)
      have lv1 : liveN M1 n' = liveN M n' := liveN_c (a8 11 (by decide)) n'
      rw [lv1] at e15
      have h60 := b.1.2.2.1.2
      by_cases hr : liveN M n' + L.length ≤ 60 ∧ n' + L.length ≤ 200
      · rw [decide_eq_true hr.1, decide_eq_true hr.2] at e15
        obtain ⟨C0, hC0⟩ : ∃ C0, C0 = mset M1 79 4 0 := ⟨_, rfl⟩
        have sC0 : same [79, 84, 86] M C0 := by rw [hC0]; exact (a8.mono (by decide)).tr (same_mset.mono (by decide))
        have B0 : ∀ N, N 88 = M 88 → Bs (mrg C0 N) n' t := fun N hN => Bs_mrg b.1 (fun k hk => sC0 k (by simp only [List.mem_cons, List.not_mem_nil, or_false] at hk ⊢; omega)) hN
        have D0 : TD C0 t := TD_c (fun k hk => sC0 k (by simp only [List.mem_cons, List.not_mem_nil, or_false] at hk ⊢; omega)) b.2
        obtain ⟨C', T, r1, r2, r3, r4⟩ := lread (d + 591) (d + 388) L 0 n' C0 M t (B0 M rfl) D0 hr.2 (by rw [liveN_c (sC0 11 (by decide))]; exact hr.1) (by omega) (fun v hv => ⟨hwok v hv, List.all_eq_true.mp hall v hv⟩) (fun j hj => by
          have := a6 j hj
          unfold pt5 at this ⊢
          rw [hC0, mset_ne (by decide)]
          exact this) (by rw [hC0, mset_k (by decide), a4, Nat.zero_add])
        rw [Nat.zero_add] at r1 r4
        have c : run prog (d + 599) 275 [vr 5] (shp, M) = some (.inl (some (vi (L.length : Int))), (shp, C')) := by
          rw [c0, show run prog (d + 591 + 7) 273 [vr 84] (shp, M) = _ from a1, callK_r, psh_n, g275_1, if_pos a3, a5, bvL_d, hall, if_pos (show true = true from rfl), if_pos (show (0 : Int) = 0 from rfl), a4, e15, if_neg (show ¬ bi (true && true) = 0 by decide), ← hC0]
          exact r1
        obtain ⟨M2, hM2⟩ : ∃ M2, M2 = mset C' 96 0 (L.length : Int) := ⟨_, rfl⟩
        have sM2 : same [84, 86, 7, 8, 9, 10, 11, 12, 13, 14, 15, 16, 17, 18, 19, 20, 21, 22, 23, 24, 25, 26, 27, 28, 29, 30, 31, 32, 79, 96] M M2 := by rw [hM2]; exact ((sC0.mono (by decide)).tr (r2.mono (by decide))).tr (same_mset.mono (by decide))
        obtain ⟨N, m1, m2, m3, m4, m5, m6, m7, m8⟩ := mdl M2 sM2
        have N88 : N 88 = M 88 := by rw [m2 88 (by decide), sM2 88 (by decide)]
        obtain ⟨N', z1, z2, z3, z4, z5⟩ := r4 N (B0 N N88) m4 m3
        have m54 : run prog (d + 593 + 6) 54 [vr 87] (shp, N) = some (.inl (some (vi (liveN M n' : Int))), (shp, N)) := sp54v (by rw [N88]; exact q3) q2 (fun k hk => by rw [N88]; exact ⟨(b.I.li k hk).1.symm, (b.I.li k hk).2⟩) (d + 598)
        refine ⟨0, (L.length : Int), M2, N', sc sM2 (by decide), ?_, ?_, ?_, fun _ => ?_, ?_⟩
        · rw [hM2]; exact w276_r (d + 599) M C' _ c
        · show ev prog (d + 593 + 7) 285 0 0 [vr 87, vj] [] (shp, M2) = _
          rw [m1, hall, g285_3, if_pos (show bi (!true) = 0 from rfl), m54, callK_r, psh_s, g285_7, m3, show N 88 2001 = (n' : Int) from by rw [N88]; exact q3, wrR (x := (liveN M n' : Int) + (L.length : Int)) (by omega) (by omega), wrR (x := (n' : Int) + (L.length : Int)) (by omega) (by omega), if_neg (by omega), if_neg (by omega)]
          exact z1
        · rw [z4 3 (by decide) (by decide)]; exact m7
        · rw [z2 96 (by decide), m2 96 (by decide), hM2, mset_at]
        · have s2 : same [87, 88, 90, 95, 96] C' N' := by
            have q : same [87, 95, 96] C' N := by
              have : same [96] C' M2 := by rw [hM2]; exact same_mset
              exact (this.mono (by decide)).tr (m2.mono (by decide))
            exact (q.mono (by decide)).tr (z2.mono (by decide))
          have hB : Bs (mrg C' N') (n' + L.length) T := z5
          have sAll : same [7, 8, 9, 10, 11, 12, 13, 14, 15, 16, 17, 18, 19, 20, 21, 22, 23, 24, 25, 26, 27, 28, 29, 30, 31, 32, 79, 84, 86, 87, 88, 90, 95, 96] M N' := ((sC0.mono (by decide)).tr (r2.mono (by decide))).tr (s2.mono (by decide))
          have k84 : ∀ j, N' 84 j = M1 84 j := fun j => by rw [s2 84 (by decide), r2 84 (by decide), hC0, mset_k (by decide)]
          have h79 : N' 79 4 = 0 := by rw [s2 79 (by decide), r2 79 (by decide), hC0, mset_at]
          obtain ⟨-, i3, -, -, i6⟩ := hI
          refine ⟨⟨n' + L.length, T, Bs_un hB (fun k hk => s2 k ?_) rfl, TD_c (fun k hk => s2 k ?_) r3⟩, Sav_c (sAll 5 (by decide)) ?_ (fun k hk => sAll k ?_) i3, Cur_0 (z3 hne) h79, ⟨?_, 0, Nat.zero_le _, ?_, ?_, fun j hj => absurd hj (Nat.not_lt_zero _)⟩, Sta_c (sAll 1 (by decide)) (sAll 2 (by decide)) (sAll 3 (by decide)) (sAll 4 (by decide)) i6⟩
          · simp only [List.mem_cons, List.not_mem_nil, or_false] at hk ⊢; omega
          · simp only [List.mem_cons, List.not_mem_nil, or_false] at hk ⊢; omega
          · rw [z4 2 (by decide) (by decide)]; exact m8 2 (by decide)
          · simp only [List.mem_cons, List.not_mem_nil, or_false] at hk ⊢; omega
          · rw [k84, a3, z4 16 (by decide) (by decide)]; exact m5
          · rw [k84, a2]; rfl
          · rw [z4 13 (by decide) (by decide)]; exact m6
      · have e0 : (decide (liveN M n' + L.length ≤ 60) && decide (n' + L.length ≤ 200)) = false := by
          rw [← Bool.not_eq_true, Bool.and_eq_true, decide_eq_true_eq, decide_eq_true_eq]
          exact hr
        rw [e0] at e15
        have c : run prog (d + 599) 275 [vr 5] (shp, M) = some (.inr 1, (shp, M1)) := by
          rw [c0, show run prog (d + 591 + 7) 273 [vr 84] (shp, M) = _ from a1, callK_r, psh_n, g275_1, if_pos a3, a5, bvL_d, hall, if_pos (show true = true from rfl), if_pos (show (0 : Int) = 0 from rfl), a4, e15, if_pos (show bi false = 0 from rfl)]
        obtain ⟨N, r1, r2, r3, r4, r5, r6, r7, r8⟩ := mdl M1 (a8.mono (by decide))
        have N88 : N 88 = M 88 := by rw [r2 88 (by decide), a8 88 (by decide)]
        have m54 : run prog (d + 593 + 6) 54 [vr 87] (shp, N) = some (.inl (some (vi (liveN M n' : Int))), (shp, N)) := sp54v (by rw [N88]; exact q3) q2 (fun k hk => by rw [N88]; exact ⟨(b.I.li k hk).1.symm, (b.I.li k hk).2⟩) (d + 598)
        refine ⟨2, 0, M1, mset N 87 3 2, sc a8 (by decide), w276_x1 (d + 599) M M1 c, ?_, mset_at _ _ _ _, fun q => absurd q (by decide), bad 2 N r2 r5 r6 r8⟩
        show ev prog (d + 593 + 7) 285 0 0 [vr 87, vj] [] (shp, M1) = _
        rw [r1, hall, g285_3, if_pos (show bi (!true) = 0 from rfl), m54, callK_r, psh_s, g285_7, r3, show N 88 2001 = (n' : Int) from by rw [N88]; exact q3, wrR (x := (liveN M n' : Int) + (L.length : Int)) (by omega) (by omega), wrR (x := (n' : Int) + (L.length : Int)) (by omega) (by omega)]
        by_cases c60 : liveN M n' + L.length ≤ 60
        · rw [if_neg (by omega), if_pos (by omega)]
        · rw [if_pos (by omega)]
end PC
