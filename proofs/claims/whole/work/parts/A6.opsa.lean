/-! OPERATIONS: REBUILD, REMOVE -/
variable {K : KK}
theorem rplB_root {s k : Nat} {v : Unit} {l r B : Tr} : rplB (.inner s k v l r) k B = B := by unfold rplB; rw [if_pos rfl]
theorem subT_root {s k : Nat} {v : Unit} {l r : Tr} : subT (.inner s k v l r) k = .inner s k v l r := by unfold subT; rw [if_pos rfl]
theorem dpt_root {s k : Nat} {v : Unit} {l r : Tr} : dpt (.inner s k v l r) k = 0 := by unfold dpt; rw [if_pos rfl]
/-- the model rebuilds the whole tree -/
theorem mreb {N V : mM} (d : Nat) (hV : vw N V) {n : Nat} (h200 : n ≤ 200) {t : Tr} (hT : MT N n t) (hnd : (ks t).Nodup) (hlt : ∀ x ∈ ks t, x < n) :
    ∃ N', run prog (d + 210) 64 [vr 87, vi (N 88 2000)] (shp, N) = some (.inl none, (shp, N')) ∧ same [87, 88, 90] N N' ∧ (∀ j, j ≠ 5 → N' 87 j = N 87 j) ∧ MT N' n (bld V (lk V t) 0) ∧ N' 88 2030 = st3 V t (N 88 2030) ∧ ∀ j, (j < 1200 ∨ (2001 ≤ j ∧ j ≠ 2030)) → N' 88 j = N 88 j := by
  have e := isT_rt hT.1
  cases t with
  | leaf =>
    have e : N 88 2000 = -1 := e
    rw [e]
    exact ⟨N, sp64n d, same.rf, fun _ _ => rfl, hT, rfl, fun _ _ => rfl⟩
  | inner s k v l r =>
    have e : N 88 2000 = (k : Int) := e
    rw [e]
    obtain ⟨N', a1, a2, a3, a4, a5, a6⟩ := sp64 d hV h200 hT hnd hlt (k := k) List.mem_cons_self
    rw [subT_root, dpt_root, rplB_root] at a4
    rw [subT_root] at a5
    exact ⟨N', a1, a2, a3, a4, a5, a6⟩
section OZ
variable {M : mM}
theorem op17 (hI : Inv K M) (d : Nat) : Op0 K (d + 600) 144 [vr 5] 145 [vr 87] M := by
  obtain ⟨n, t, b⟩ := hI.1
  have b : Bt M n t := b
  have h200 := b.l
  obtain ⟨n', q1, q2, q3⟩ := b.I.cr
  have en : n' = n := by have := b.n; omega
  subst en
  obtain ⟨C0, hC0⟩ : ∃ C0, C0 = mset M 79 4 0 := ⟨_, rfl⟩
  have s0 : same [79] M C0 := by rw [hC0]; exact same_mset
  have b0 : Bt C0 n' t := ⟨Bs_c (fun k hk => s0 k (by simp only [List.mem_cons, List.not_mem_nil, or_false] at hk ⊢; omega)) b.1, TD_c (fun k hk => s0 k (by simp only [List.mem_cons, List.not_mem_nil, or_false] at hk ⊢; omega)) b.2⟩
  have hl0 := lk_live b0
  have h60 := b0.1.2.2.1.2
  have hd := lk_dk M t
  have hlk0 : lk C0 t = lk M t := lk_c (s0 11 (by decide)) t
  rw [hlk0] at hl0
  have hsz := sz_le b.M.1 b.nd
  obtain ⟨C', a1, a2, a3, a4, a5, a6⟩ := sp47r (d + 593) b0.C (by rw [hlk0]; omega) (c := 2) (by decide)
  obtain ⟨T, hT⟩ : ∃ T, T = bld C0 (lk C0 t) 0 := ⟨_, rfl⟩
  rw [← hT] at a3
  have hpm : (ks T).Perm (lk M t) := by rw [hT, hlk0]; exact bld_perm C0 _ _ _ (Nat.le_refl _)
  have hlen : sz T = (lk M t).length := hpm.length_eq
  have h21 : C' 21 1 = (sz T : Int) := by rw [a3.2.2.2.2.2.1.1, natI_len]; rfl
  have h21' : M 21 1 = (sz t : Int) := by rw [b.2.1.1, natI_len]; rfl
  have e12 : C0 12 11 = M 12 11 := by rw [s0 12 (by decide)]
  rw [e12] at a1
  have c : run prog (d + 600) 144 [vr 5] (shp, M) = some (.inl (some (vi ((dk M t).length : Int))), (shp, C')) := by
    show ev prog (d + 600) 144 0 0 [vr 5, vj] [] (shp, M) = _
    rw [g144_0 (d + 593), ← hC0, show run prog (d + 593 + 6) 47 [vr 25, vi (M 12 11), vi 2] (shp, C0) = _ from a1, callK_r, psh_n, g144_2, h21, h21', wrR (by omega) (by omega), show (sz t : Int) - (sz T : Int) = ((dk M t).length : Int) by omega]
  obtain ⟨N1, hN1⟩ : ∃ N1, N1 = mset C' 87 3 0 := ⟨_, rfl⟩
  have sC : same [12, 13, 14, 15, 16, 17, 18, 19, 20, 21, 22, 23, 24, 25, 26, 27, 28, 29, 30, 31, 32, 79] M C' := (s0.mono (by decide)).tr (a2.mono (by decide))
  have s1 : same [12, 13, 14, 15, 16, 17, 18, 19, 20, 21, 22, 23, 24, 25, 26, 27, 28, 29, 30, 31, 32, 79, 87] M N1 := by rw [hN1]; exact (sC.mono (by decide)).tr (same_mset.mono (by decide))
  have I1 : Iv N1 := b.I.keep (s1 7 (by decide)) (s1 8 (by decide)) (s1 9 (by decide)) (s1 10 (by decide)) (s1 11 (by decide)) (s1 34 (by decide)) (s1 35 (by decide)) (s1 36 (by decide)) (s1 37 (by decide)) (s1 38 (by decide)) (s1 88 (by decide))
  have M1 : MT N1 n' t := MT_c (s1 88 (by decide)) b.M
  have m74 := sp74 I1 (by rw [s1 88 (by decide)]; exact q3) q2 b.nd b.lt M1.2.2 (d + 598)
  have edk : dk N1 t = dk M t := by unfold dk; rw [alv_c (s1 11 (by decide))]
  rw [edk] at m74
  obtain ⟨N2, hN2⟩ : ∃ N2, N2 = mset (mset N1 87 8 0) 88 2029 (wr (N1 88 2029 + 1)) := ⟨_, rfl⟩
  have o2 : ∀ j, j ≠ 2029 → N2 88 j = M 88 j := fun j hj => by rw [hN2, mset_j hj, mset_k (by decide), s1 88 (by decide)]
  have s2 : same [12, 13, 14, 15, 16, 17, 18, 19, 20, 21, 22, 23, 24, 25, 26, 27, 28, 29, 30, 31, 32, 79, 87, 88] M N2 := by rw [hN2]; exact ((s1.mono (by decide)).tr (same_mset.mono (by decide))).tr (same_mset.mono (by decide))
  have v2 : vw N2 C0 := by
    have := vw_Iv b0.I
    exact vw_c this (fun j hj => by rw [o2 j (by omega), s0 88 (by decide)])
  have M2 : MT N2 n' t := MT_88 q2 b.lt b.M (fun j h1 h2 => o2 j (by omega))
  obtain ⟨N3, r1, r2, r3, r4, r5, r6⟩ := mreb (d + 389) v2 q2 M2 b.nd b.lt
  rw [← hT] at r4
  have e20 : N1 88 2000 = N2 88 2000 := by rw [hN2, mset_j (by decide), mset_k (by decide)]
  refine ⟨((dk M t).length : Int), C', N3, sc sC (by decide), c, ?_, ?_⟩
  · show ev prog (d + 600) 145 0 0 [vr 87, vj] [] (shp, C') = _
    rw [g145_0 (d + 598), ← hN1, m74, callK_r, psh_s, g145_1, ← hN2, e20, show run prog (d + 598 + 1) 64 [vr 87, vi (N2 88 2000)] (shp, N2) = _ from r1, callK_r, psh_n, g145_5]
  · have sN : same [87, 88, 90] C' N3 := by
      have : same [87, 88] C' N2 := by rw [hN2, hN1]; exact ((same_mset.mono (by decide)).tr (same_mset.mono (by decide))).tr (same_mset.mono (by decide))
      exact (this.mono (by decide)).tr (r2.mono (by decide))
    have h8 : N3 87 8 = 0 := by rw [r3 8 (by decide), hN2, mset_k (by decide), mset_at]
    have h79 : C' 79 4 = 0 := by rw [a2 79 (by decide), hC0, mset_at]
    refine hI.mut (C := C') (T := T) (n := n') (sC.mono (by decide)) a3.2.2.2.2.2 (sN.mono (by decide)) ?_ (fun j hj => ?_) (by rw [sC 84 (by decide)]) h8 h79
    · have k88 : ∀ j, mrg C' N3 88 j = N3 88 j := fun j => by rw [mrg_88]
      have l88 : ∀ j, (j < 1200 ∨ (2001 ≤ j ∧ j < 2029)) → N3 88 j = M 88 j := fun j hj => by rw [r6 j (by omega), o2 j (by omega)]
      have ro : ∀ r g w lo hi, r ≠ 88 → C' r = M r → (g + w ≤ 1200 ∨ (2001 ≤ g ∧ g + w ≤ 2029)) → rw2 M r g w lo hi → rw2 (mrg C' N3) r g w lo hi := fun r g w lo hi hr he hg h => rw2_eq h fun j hj => ⟨by rw [mrg_k hr, he], by rw [k88]; exact l88 _ (by omega)⟩
      obtain ⟨-, i2, i3, i4, i5, i6, i7, i8, i9, i10⟩ := b.I
      have e11 : mrg C' N3 11 = M 11 := (mrg_k (by decide)).trans (sC 11 (by decide))
      refine ⟨⟨⟨n', ?_, q2, ?_⟩, ro 8 0 600 _ _ (by decide) (sC 8 (by decide)) (by decide) i2, ro 9 600 200 _ _ (by decide) (sC 9 (by decide)) (by decide) i3, ro 10 800 200 _ _ (by decide) (sC 10 (by decide)) (by decide) i4, ro 11 1000 200 _ _ (by decide) (sC 11 (by decide)) (by decide) i5, ⟨ro 34 2002 6 _ _ (by decide) (sC 34 (by decide)) (by decide) i6.1, ?_⟩, ro 35 2008 3 _ _ (by decide) (sC 35 (by decide)) (by decide) i7, ro 36 2011 3 _ _ (by decide) (sC 36 (by decide)) (by decide) i8, ro 37 2014 3 _ _ (by decide) (sC 37 (by decide)) (by decide) i9, ro 38 2017 10 _ _ (by decide) (sC 38 (by decide)) (by decide) i10⟩, ⟨?_, q2⟩, ⟨?_, ?_⟩, ⟨?_, a3.2.2.2.1, a3.2.2.2.2.1⟩, MT_c mrg_88 r4, ?_, ?_⟩
      · rw [mrg_k (by decide), sC 7 (by decide)]; exact q1
      · rw [k88, l88 _ (by omega)]; exact q3
      · rw [mrg_k (by decide), sC 34 (by decide)]; exact i6.2
      · rw [mrg_k (by decide), sC 7 (by decide)]; exact q1
      · rw [mrg_k (by decide), sC 7 (by decide), liveN_c e11]; exact b.1.2.2.1.1
      · rw [liveN_c e11]; exact b.1.2.2.1.2
      · rw [clf_c (show mrg C' N3 13 = C' 13 from mrg_k (by decide)), crf_c (show mrg C' N3 13 = C' 13 from mrg_k (by decide)), mrg_k (by decide)]; exact a3.2.2.1
      · intro p hp ha
        rw [alv_c e11] at ha
        exact hpm.mem_iff.mpr (List.mem_filter.mpr ⟨b.1.2.2.2.2.2.1 p hp ha, ha⟩)
      · intro j hj
        have old := b.1.2.2.2.2.2.2
        have c26 : ∀ j, C0 26 j = M 26 j := fun j => by rw [s0 26 (by decide)]
        rw [mrg_k (by decide), k88]
        obtain rfl | rfl | rfl | rfl : j = 0 ∨ j = 1 ∨ j = 2 ∨ j = 3 := by omega
        · rw [a6 0 (by decide) (by decide), c26, r6 _ (by omega), o2 _ (by omega)]; exact old 0 (by decide)
        · rw [a6 1 (by decide) (by decide), c26, r6 _ (by omega), o2 _ (by omega)]; exact old 1 (by decide)
        · rw [a4, c26, r6 _ (by omega), hN2, mset_at, s1 88 (by decide), old 2 (by decide)]
        · have r5 : N3 88 (2027 + 3) = st3 C0 t (N2 88 2030) := r5
          rw [a5, c26, r5, o2 _ (by omega), old 3 (by decide)]
    · rw [r3 j (by intro e; subst e; exact absurd hj (by decide)), hN2, mset_k (by decide), mset_j (by intro e; subst e; exact absurd hj (by decide)), hN1, mset_j (by intro e; subst e; exact absurd hj (by decide)), sC 87 (by decide)]
end OZ
