/-! A POINT IS CREATED, BY THE CLASS AND BY THE MODEL -/
variable {K : KK}
/-- the class's rows of C, the model's row of M -/
def mrg (C M : mM) : mM := fun k => if k = 88 then M 88 else C k
theorem mrg_k {C M : mM} {k : Nat} (h : k ≠ 88) : mrg C M k = C k := if_neg h
theorem mrg_88 {C M : mM} : mrg C M 88 = M 88 := if_pos rfl
theorem mrg_self (M : mM) : mrg M M = M := by
  funext k
  by_cases h : k = 88
  · subst h; exact mrg_88
  · exact mrg_k h
theorem lk_leN {V : mM} {T : Tr} {m : Nat} (hnd : (ks T).Nodup) (hlt : ∀ x ∈ ks T, x < m) : (lk V T).length ≤ liveN V m := by
  unfold liveN
  refine nodup_sub (List.Pairwise.filter _ hnd) fun x hx => ?_
  obtain ⟨a, b⟩ := List.mem_filter.mp hx
  exact List.mem_filter.mpr ⟨List.mem_range.mpr (hlt x a), b⟩
theorem liveN_new {C V : mM} {n : Nat} (h1 : V 11 n = 1) (ho : ∀ j, j ≠ n → V 11 j = C 11 j) : liveN V (n + 1) = liveN C n + 1 := by
  have a := liveN_s (M := V) n (by rw [h1]; decide)
  rw [h1] at a
  have b : liveN V n = liveN C n := by
    unfold liveN
    congr 1
    refine List.filter_congr fun i hi => ?_
    have := List.mem_range.mp hi
    rw [ho i (by omega)]
  omega
section ST
variable {C M : mM} {n : Nat} {x y z w g : Int}
theorem cp8 {lc : Int} (j : Nat) : cpM C n lc x y z w g 8 j = if j = 3 * n + 2 then z else if j = 3 * n + 1 then y else if j = 3 * n then x else C 8 j := by
  unfold cpM
  rw [mset_k (by decide), mset_k (by decide), mset_k (by decide), mset_k (by decide), mset_k (by decide)]
  by_cases h2 : j = 3 * n + 2
  · rw [if_pos h2, h2, mset_at]
  rw [if_neg h2, mset_j h2]
  by_cases h1 : j = 3 * n + 1
  · rw [if_pos h1, h1, mset_at]
  rw [if_neg h1, mset_j h1]
  by_cases h0 : j = 3 * n
  · rw [if_pos h0, h0, mset_at]
  rw [if_neg h0, mset_j h0]
theorem cp9 {lc : Int} (j : Nat) : cpM C n lc x y z w g 9 j = if j = n then w else C 9 j := by
  unfold cpM
  rw [mset_k (by decide), mset_k (by decide), mset_k (by decide), mset_k (by decide)]
  by_cases h : j = n
  · rw [if_pos h, h, mset_at]
  · rw [if_neg h, mset_j h, mset_k (by decide), mset_k (by decide), mset_k (by decide)]
theorem cp10 {lc : Int} (j : Nat) : cpM C n lc x y z w g 10 j = if j = n then g else C 10 j := by
  unfold cpM
  rw [mset_k (by decide), mset_k (by decide), mset_k (by decide)]
  by_cases h : j = n
  · rw [if_pos h, h, mset_at]
  · rw [if_neg h, mset_j h, mset_k (by decide), mset_k (by decide), mset_k (by decide), mset_k (by decide)]
theorem mc88 (j : Nat) (hn : n < 200) (hj : j < 1200 ∨ (2001 ≤ j ∧ j < 2031)) : mcM M n x y z w g 88 j = if j = 1000 + n then 1 else if j = 800 + n then g else if j = 600 + n then w else if j = 3 * n + 2 then z else if j = 3 * n + 1 then y else if j = 3 * n then x else if j = 2001 then ((n + 1 : Nat) : Int) else M 88 j := by
  unfold mcM
  rw [mset_j (by omega), mset_j (by omega), mset_j (by omega)]
  by_cases h1 : j = 1000 + n
  · rw [if_pos h1, h1, mset_at]
  rw [if_neg h1, mset_j h1]
  by_cases h2 : j = 800 + n
  · rw [if_pos h2, h2, mset_at]
  rw [if_neg h2, mset_j h2]
  by_cases h3 : j = 600 + n
  · rw [if_pos h3, h3, mset_at]
  rw [if_neg h3, mset_j h3]
  by_cases h4 : j = 3 * n + 2
  · rw [if_pos h4, h4, mset_at]
  rw [if_neg h4, mset_j h4]
  by_cases h5 : j = 3 * n + 1
  · rw [if_pos h5, h5, mset_at]
  rw [if_neg h5, mset_j h5]
  by_cases h6 : j = 3 * n
  · rw [if_pos h6, h6, mset_at]
  rw [if_neg h6, mset_j h6]
  by_cases h7 : j = 2001
  · rw [if_pos h7, h7, mset_at]
  rw [if_neg h7, mset_j h7]
/-- the rows of a new point, on both sides -/
theorem new_rows (h : Iv (mrg C M)) (hn : n < 200) {lc : Int} (hx : -100 ≤ x ∧ x ≤ 100) (hy : -100 ≤ y ∧ y ≤ 100) (hz : -100 ≤ z ∧ z ≤ 100) (hw : 0 ≤ w ∧ w ≤ 99) (hg : 0 ≤ g ∧ g ≤ 9) :
    (∀ j, j < 600 → cpM C n lc x y z w g 8 j = mcM M n x y z w g 88 j ∧ -100 ≤ cpM C n lc x y z w g 8 j ∧ cpM C n lc x y z w g 8 j ≤ 100) ∧ (∀ j, j < 200 → cpM C n lc x y z w g 9 j = mcM M n x y z w g 88 (600 + j) ∧ 0 ≤ cpM C n lc x y z w g 9 j ∧ cpM C n lc x y z w g 9 j ≤ 99) ∧
    (∀ j, j < 200 → cpM C n lc x y z w g 10 j = mcM M n x y z w g 88 (800 + j) ∧ 0 ≤ cpM C n lc x y z w g 10 j ∧ cpM C n lc x y z w g 10 j ≤ 9) ∧ (∀ j, j < 200 → cpM C n lc x y z w g 11 j = mcM M n x y z w g 88 (1000 + j) ∧ 0 ≤ cpM C n lc x y z w g 11 j ∧ cpM C n lc x y z w g 11 j ≤ 1) := by
  refine ⟨fun j hj => ?_, fun j hj => ?_, fun j hj => ?_, fun j hj => ?_⟩
  · have old := h.co j hj
    rw [mrg_k (by decide), mrg_88, Nat.zero_add] at old
    rw [cp8, mc88 j hn (by omega), if_neg (show ¬ j = 1000 + n by omega), if_neg (show ¬ j = 800 + n by omega), if_neg (show ¬ j = 600 + n by omega)]
    by_cases h2 : j = 3 * n + 2
    · rw [if_pos h2, if_pos h2]; exact ⟨rfl, hz⟩
    rw [if_neg h2, if_neg h2]
    by_cases h1 : j = 3 * n + 1
    · rw [if_pos h1, if_pos h1]; exact ⟨rfl, hy⟩
    rw [if_neg h1, if_neg h1]
    by_cases h0 : j = 3 * n
    · rw [if_pos h0, if_pos h0]; exact ⟨rfl, hx⟩
    rw [if_neg h0, if_neg h0, if_neg (show ¬ j = 2001 by omega)]
    exact old
  · have old := h.we j hj
    rw [mrg_k (by decide), mrg_88] at old
    rw [cp9, mc88 (600 + j) hn (by omega), if_neg (show ¬ 600 + j = 1000 + n by omega), if_neg (show ¬ 600 + j = 800 + n by omega)]
    by_cases e : j = n
    · rw [if_pos e, if_pos (by omega)]; exact ⟨rfl, hw⟩
    · rw [if_neg e, if_neg (show ¬ 600 + j = 600 + n by omega), if_neg (show ¬ 600 + j = 3 * n + 2 by omega), if_neg (show ¬ 600 + j = 3 * n + 1 by omega), if_neg (show ¬ 600 + j = 3 * n by omega), if_neg (show ¬ 600 + j = 2001 by omega)]
      exact old
  · have old := h.ta j hj
    rw [mrg_k (by decide), mrg_88] at old
    rw [cp10, mc88 (800 + j) hn (by omega), if_neg (show ¬ 800 + j = 1000 + n by omega)]
    by_cases e : j = n
    · rw [if_pos e, if_pos (by omega)]; exact ⟨rfl, hg⟩
    · rw [if_neg e, if_neg (show ¬ 800 + j = 800 + n by omega), if_neg (show ¬ 800 + j = 600 + n by omega), if_neg (show ¬ 800 + j = 3 * n + 2 by omega), if_neg (show ¬ 800 + j = 3 * n + 1 by omega), if_neg (show ¬ 800 + j = 3 * n by omega), if_neg (show ¬ 800 + j = 2001 by omega)]
      exact old
  · have old := h.li j hj
    rw [mrg_k (by decide), mrg_88] at old
    rw [mc88 (1000 + j) hn (by omega)]
    by_cases e : j = n
    · subst e; rw [cpM_11.1, if_pos rfl]; decide
    · rw [cpM_11.2 j e, if_neg (show ¬ 1000 + j = 1000 + n by omega), if_neg (show ¬ 1000 + j = 800 + n by omega), if_neg (show ¬ 1000 + j = 600 + n by omega), if_neg (show ¬ 1000 + j = 3 * n + 2 by omega), if_neg (show ¬ 1000 + j = 3 * n + 1 by omega), if_neg (show ¬ 1000 + j = 3 * n by omega), if_neg (show ¬ 1000 + j = 2001 by omega)]
      exact old
/-- one point on both sides -/
theorem step {t : Tr} (hB : Bs (mrg C M) n t) (hD : TD C t) (hn : n < 200) (hl : liveN C n < 60) (hx : -100 ≤ x ∧ x ≤ 100) (hy : -100 ≤ y ∧ y ≤ 100) (hz : -100 ≤ z ∧ z ≤ 100) (hw : 0 ≤ w ∧ w ≤ 99) (hg : 0 ≤ g ∧ g ≤ 9) (d d' : Nat) :
    ∃ C' T, run prog (d + 7) 48 [vr 6, vi x, vi y, vi z, vi w, vi g] (shp, C) = some (.inl (some (vi (n : Int))), (shp, C')) ∧ same [7, 8, 9, 10, 11, 12, 13, 14, 15, 16, 17, 18, 19, 20, 21, 22, 23, 24, 25, 26, 27, 28, 29, 30, 31, 32] C C' ∧ TD C' T ∧ liveN C' (n + 1) = liveN C n + 1 ∧
      ∀ N, Bs (mrg C N) n t → ∃ N', run prog (d' + 211) 65 [vr 87, vi x, vi y, vi z, vi w, vi g] (shp, N) = some (.inl (some (vi (n : Int))), (shp, N')) ∧ same [87, 88, 90] N N' ∧ N' 87 8 = 0 ∧ (∀ j, j ≠ 5 → j ≠ 8 → N' 87 j = N 87 j) ∧ Bs (mrg C' N') (n + 1) T := by
  obtain ⟨V, hV⟩ : ∃ V, V = cpM C n (C 7 5) x y z w g := ⟨_, rfl⟩
  obtain ⟨b1, b2, b3, b4, b5, b6, b7⟩ := hB
  have c12 : mrg C M 12 = C 12 := mrg_k (by decide)
  have hCT : CT C n t := by
    refine ⟨?_, b2.2, ?_, b4.2.1, b4.2.2, hD⟩
    · have := b2.1; rw [mrg_k (by decide)] at this; exact this
    · have h := b4.1
      rw [clf_c (mrg_k (show 13 ≠ 88 by decide)), crf_c (mrg_k (show 13 ≠ 88 by decide)), mrg_k (show 12 ≠ 88 by decide)] at h
      exact h
  have hnt : n ∉ ks t := fun q => absurd (b4.2.2 n q) (Nat.lt_irrefl _)
  have hip := ins_perm V n t 0
  have hind : (ks (ins V n t 0)).Nodup := hip.nodup_iff.mpr (List.nodup_cons.mpr ⟨hnt, b4.2.1⟩)
  have hilt : ∀ x ∈ ks (ins V n t 0), x < n + 1 := fun x hx => by
    rcases List.mem_cons.mp (hip.mem_iff.mp hx) with e | e
    · omega
    · have := b4.2.2 x e; omega
  have hln : liveN V (n + 1) = liveN C n + 1 := liveN_new (by rw [hV]; exact cpM_11.1) (fun j hj => by rw [hV]; exact cpM_11.2 j hj)
  have h34 : ∀ j, mrg C M 34 j = C 34 j := fun j => by rw [mrg_k (by decide)]
  have hop : 0 ≤ C 34 0 ∧ C 34 0 ≤ 95 := by
    have := (b1.op.1 0 (by decide)).2
    rw [h34] at this
    exact this
  have h60 : (lk V (ins V n t 0)).length ≤ 60 := by
    have := lk_leN (V := V) hind hilt
    omega
  obtain ⟨C', a1, a2, a3, a4⟩ := sp48 d hop hCT hn x y z w g (by rw [← hV]; exact h60)
  rw [← hV] at a2 a3 a4
  have sV : same [7, 8, 9, 10, 11] C V := by rw [hV]; exact cpM_s
  have sC : same [7, 8, 9, 10, 11, 12, 13, 14, 15, 16, 17, 18, 19, 20, 21, 22, 23, 24, 25, 26, 27, 28, 29, 30, 31, 32] C C' := (sV.mono (by decide)).tr (a3.mono (by decide))
  have e11 : C' 11 = V 11 := a3 11 (by decide)
  refine ⟨C', crT V n t, a1, sC, a2.2.2.2.2.2, by rw [liveN_c e11]; exact hln, fun N hN => ?_⟩
  obtain ⟨r8, r9, r10, r11⟩ := new_rows hN.1 hn (lc := C 7 5) hx hy hz hw hg
  rw [← hV] at r8 r9 r10 r11
  obtain ⟨n', q1, q2, q3⟩ := hN.1.cr
  have en : n' = n := by have := hN.2.1.1; omega
  subst en
  rw [mrg_88] at q3
  have MTN : MT N n' t := MT_c (M := mrg C N) mrg_88.symm hN.2.2.2.2.1
  have hvw : vw (mcM N n' x y z w g) V := by
    refine ⟨fun j hj => ⟨(r8 j hj).1.symm, (r8 j hj).2⟩, fun k hk => ⟨(r11 k hk).1.symm, (r11 k hk).2⟩, ?_, ?_⟩
    · rw [mc88 2002 hn (by decide), if_neg (by omega), if_neg (by omega), if_neg (by omega), if_neg (by omega), if_neg (by omega), if_neg (by omega), if_neg (by decide), sV 34 (by decide)]
      have := (hN.1.op.1 0 (by decide)).1
      rw [mrg_k (show 34 ≠ 88 by decide), mrg_88] at this
      exact this.symm
    · rw [sV 34 (by decide)]; exact hop
  have hv26 : ∀ j, j < 4 → V 26 j = N 88 (2027 + j) := fun j hj => by
    have := hN.2.2.2.2.2.2 j hj
    rw [mrg_k (show 26 ≠ 88 by decide), mrg_88] at this
    rw [sV 26 (by decide)]
    exact this
  obtain ⟨N', m1, m2, m3, m4, m5, m6, m7⟩ := sp65 d' hn q3 x y z w g hvw hv26 MTN b4.2.1 b4.2.2
  refine ⟨N', m1, m2, m3, m4, ?_⟩
  have k88 : ∀ j, mrg C' N' 88 j = N' 88 j := fun j => by rw [mrg_88]
  have hi : ∀ j, 2002 ≤ j → j < 2027 → N' 88 j = N 88 j := fun j h1 h2 => by
    rw [m7 j (by omega), mc88 j hn (by omega), if_neg (by omega), if_neg (by omega), if_neg (by omega), if_neg (by omega), if_neg (by omega), if_neg (by omega), if_neg (by omega)]
  have ro : ∀ r k w lo hi', r ≠ 88 → C' r = C r → 2002 ≤ k → k + w ≤ 2027 → rw2 (mrg C N) r k w lo hi' → rw2 (mrg C' N') r k w lo hi' := fun r k w lo hi' hr he h1 h2 h => rw2_eq h fun j hj => ⟨by rw [mrg_k hr, mrg_k hr, he], by rw [k88, mrg_88]; exact hi _ (by omega) (by omega)⟩
  obtain ⟨-, -, -, -, -, i6, i7, i8, i9, i10⟩ := hN.1
  refine ⟨⟨⟨n' + 1, ?_, by omega, ?_⟩, ?_, ?_, ?_, ?_, ⟨ro 34 2002 6 _ _ (by decide) (sC 34 (by decide)) (by decide) (by decide) i6.1, ?_⟩, ro 35 2008 3 _ _ (by decide) (sC 35 (by decide)) (by decide) (by decide) i7, ro 36 2011 3 _ _ (by decide) (sC 36 (by decide)) (by decide) (by decide) i8, ro 37 2014 3 _ _ (by decide) (sC 37 (by decide)) (by decide) (by decide) i9, ro 38 2017 10 _ _ (by decide) (sC 38 (by decide)) (by decide) (by decide) i10⟩, ⟨?_, by omega⟩, ⟨?_, ?_⟩, ⟨?_, a2.2.2.2.1, a2.2.2.2.2.1⟩, MT_c mrg_88 m5, ?_, ?_⟩
  · rw [mrg_k (by decide)]; exact a2.1
  · rw [k88, m7 _ (by omega), mc88 2001 hn (by decide), if_neg (by omega), if_neg (by omega), if_neg (by omega), if_neg (by omega), if_neg (by omega), if_neg (by omega), if_pos rfl]
  · intro j hj
    rw [mrg_k (by decide), k88, Nat.zero_add, a3 8 (by decide), m7 _ (by omega)]
    exact r8 j hj
  · intro j hj
    rw [mrg_k (by decide), k88, a3 9 (by decide), m7 _ (by omega)]
    exact r9 j hj
  · intro j hj
    rw [mrg_k (by decide), k88, a3 10 (by decide), m7 _ (by omega)]
    exact r10 j hj
  · intro j hj
    rw [mrg_k (by decide), k88, e11, m7 _ (by omega)]
    exact r11 j hj
  · have := i6.2
    rw [mrg_k (by decide)] at this
    rw [mrg_k (by decide), sC 34 (by decide)]
    exact this
  · rw [mrg_k (by decide)]; exact a2.1
  · have h5 := hN.2.2.1.1
    rw [mrg_k (by decide), liveN_c (show mrg C N 11 = C 11 from mrg_k (by decide))] at h5
    have e7 : V 7 5 = wr (C 7 5 + 1) := by rw [hV]; exact cpM_7.2
    rw [mrg_k (by decide), liveN_c (show mrg C' N' 11 = V 11 from (mrg_k (by decide)).trans e11), a3 7 (by decide), e7, h5, hln, wI (by omega)]
  · rw [liveN_c (show mrg C' N' 11 = V 11 from (mrg_k (by decide)).trans e11), hln]
    omega
  · rw [clf_c (show mrg C' N' 13 = C' 13 from mrg_k (by decide)), crf_c (show mrg C' N' 13 = C' 13 from mrg_k (by decide)), mrg_k (by decide)]
    exact a2.2.2.1
  · intro p hp ha
    rw [alv_c (show mrg C' N' 11 = V 11 from (mrg_k (by decide)).trans e11)] at ha
    have hpi : p ∈ ks (ins V n' t 0) := by
      refine hip.mem_iff.mpr ?_
      by_cases e : p = n'
      · rw [e]; exact List.mem_cons_self
      · refine List.mem_cons_of_mem _ (hN.2.2.2.2.2.1 p (by omega) ?_)
        rw [alv_c (show mrg C N 11 = C 11 from mrg_k (by decide))]
        have h11 : V 11 p = C 11 p := by rw [hV]; exact cpM_11.2 p e
        unfold alv at ha ⊢
        rw [← h11]
        exact ha
    unfold crT
    by_cases c : tu V n' (ins V n' t 0) = -1
    · rw [if_pos c]; exact hpi
    · rw [if_neg c]
      obtain ⟨k, hk, hke⟩ := (tu_mem (M := V) (p := n') (t := ins V n' t 0)).resolve_left c
      rw [hke, Int.toNat_natCast]
      exact ((rebuilt (M := V) hind hk (dpt (ins V n' t 0) k)).2 p).mpr ⟨hpi, fun _ => ha⟩
  · intro j hj
    rw [mrg_k (by decide), k88, a4 j, m6 j hj]
end ST
