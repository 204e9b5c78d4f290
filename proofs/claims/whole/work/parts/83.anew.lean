/-! THE MODEL REBUILDS A SUBTREE -/
theorem rpl_U {u u' : Nat → Int} {B : Tr} : ∀ {t : Tr} {p : Int} {k : Nat}, isU u t p → (ks t).Nodup → k ∈ ks t → isU u' B (parT t p k) → (∀ x ∈ ks t, x ∉ ks (subT t k) → u' x = u x) → isU u' (rplB t k B) p := by
  intro t
  induction t with
  | leaf => intro p k _ _ hk; exact absurd hk List.not_mem_nil
  | inner s x v l r ihl ihr =>
    intro p k hU hnd hk hB hx
    obtain ⟨n1, n2, n3, n4, n5⟩ := nd_i hnd
    obtain ⟨h1, h2, h3⟩ := hU
    unfold rplB
    unfold parT at hB
    unfold subT at hx
    by_cases c : k = x
    · rw [if_pos c]
      rw [if_pos c] at hB
      exact hB
    · rw [if_neg c]
      rw [if_neg c] at hB hx
      by_cases c2 : k ∈ ks l
      · rw [if_pos c2]
        rw [if_pos c2] at hB hx
        refine ⟨by rw [hx x List.mem_cons_self (fun h => n1 (sub_mem h))]; exact h1, ihl h2 n3 c2 hB (fun y hy hyn => hx y (mem_l hy) hyn), isU_c (fun y hy => hx y (mem_r hy) (fun h => n5 y (sub_mem h) hy)) h3⟩
      · rw [if_neg c2]
        rw [if_neg c2] at hB hx
        have c3 : k ∈ ks r := by rcases mem_i hk with h | h | h; exact absurd h c; exact absurd h c2; exact h
        refine ⟨by rw [hx x List.mem_cons_self (fun h => n2 (sub_mem h))]; exact h1, isU_c (fun y hy => hx y (mem_l hy) (fun h => n5 y hy (sub_mem h))) h2, ihr h3 n4 c3 hB (fun y hy hyn => hx y (mem_r hy) hyn)⟩
theorem dpt_1k {t : Tr} {k : Nat} (hk : k ∈ ks t) (hsz : sz t ≤ 200) : dpt t k < 200 := by
  have h1 := dpt_lt hk
  have h2 := ht_le t
  omega
theorem ht_sub : ∀ {t : Tr} {k : Nat}, ht (subT t k) ≤ ht t := by
  intro t
  induction t with
  | leaf => intro k; exact Nat.le_refl _
  | inner s x v l r ihl ihr =>
    intro k
    unfold subT
    by_cases c : k = x
    · rw [if_pos c]; exact Nat.le_refl _
    · rw [if_neg c, ht_i]
      by_cases c2 : k ∈ ks l
      · rw [if_pos c2]; have := ihl (k := k); split <;> omega
      · rw [if_neg c2]; have := ihr (k := k); split <;> omega
theorem rt_sub {t : Tr} {k : Nat} (hk : k ∈ ks t) : rt (subT t k) = (k : Int) := by
  induction t with
  | leaf => exact absurd hk List.not_mem_nil
  | inner s x v l r ihl ihr =>
    unfold subT
    by_cases c : k = x
    · rw [if_pos c, c]; rfl
    · rw [if_neg c]
      by_cases c2 : k ∈ ks l
      · rw [if_pos c2]; exact ihl c2
      · rw [if_neg c2]
        rcases mem_i hk with h | h | h
        · exact absurd h c
        · exact absurd h c2
        · exact ihr h
theorem sp64 {M V : mM} (d : Nat) (hV : vw M V) {n : Nat} (h200 : n ≤ 200) {t : Tr} (hT : MT M n t) (hnd : (ks t).Nodup) (hlt : ∀ x ∈ ks t, x < n) {k : Nat} (hk : k ∈ ks t) :
    ∃ M', run prog (d + 210) 64 [vr 87, vi (k : Int)] (shp, M) = some (.inl none, (shp, M')) ∧ same [87, 88, 90] M M' ∧ (∀ j, j ≠ 5 → M' 87 j = M 87 j) ∧ MT M' n (rplB t k (bld V (lk V (subT t k)) (dpt t k))) ∧ M' 88 2030 = wr (M 88 2030 + ((lk V (subT t k)).length : Int)) ∧ ∀ j, (j < 1200 ∨ (2001 ≤ j ∧ j ≠ 2030)) → M' 88 j = M 88 j := by
  show ∃ M', ev prog (d + 210) 64 0 0 [vr 87, vi (k : Int), vj, vj, vj, vj] [] (shp, M) = _ ∧ _
  obtain ⟨t1, t2, t3⟩ := hT
  have hrt := isT_rt t1
  rw [hrt] at t1
  have hk2 := hlt k hk
  have hsz := sz_le t1 hnd
  have hhs := ht_sub (t := t) (k := k)
  have hhl := ht_le t
  have hlt2 : ∀ x ∈ ks t, x < 200 := isT_lt t1
  obtain ⟨L, hL⟩ : ∃ L, L = lk V (subT t k) := ⟨_, rfl⟩
  rw [← hL]
  have hLs : ∀ x ∈ L, x ∈ ks (subT t k) := fun x hx => lk_sub (by rw [← hL]; exact hx)
  have hLn : L.Nodup := by rw [hL]; exact List.Pairwise.filter _ (sub_nd hnd)
  have hLle : L.length ≤ sz (subT t k) := by rw [hL]; exact lk_le V _
  have hss := sub_sz hk
  have hdp := dpt_1k hk hsz
  obtain ⟨up, hup⟩ : ∃ up, up = parT t (-1) k := ⟨_, rfl⟩
  have e18 : M 88 (1800 + k) = up := by rw [hup]; exact isU_at t2 hk
  have hsa := slt_at (f := mlf M) (g := mrf M) (p := -1) (sl := -1) t1 hnd hk
  -- the points are gathered
  obtain ⟨M1, hM1⟩ : ∃ M1, M1 = mset M 87 5 0 := ⟨_, rfl⟩
  have s1 : same [87] M M1 := by rw [hM1]; exact same_mset
  have sT1 : isT (mlf M1) (mrf M1) (subT t k) (rt (subT t k)) := by
    rw [rt_sub hk]
    exact mT_c (sub_T t1 hk) (fun x _ => by rw [s1 88 (by decide)]; exact ⟨rfl, rfl⟩)
  obtain ⟨M2, a1, a2, a3, a4, a5, a6, a7, a8⟩ := sp61 (V := V) (subT t k) (d + 207) M1 0 (vw_c hV (fun j _ => by rw [s1 88 (by decide)])) sT1 (sub_nd hnd) (by omega) (by rw [hM1, mset_at]; rfl) (by rw [← hL]; omega)
  rw [← hL, Nat.zero_add] at a4
  rw [← hL] at a5
  rw [rt_sub hk] at a1
  have hsublt : ∀ x ∈ ks (subT t k), x < 200 := fun x hx => hlt2 x (sub_mem hx)
  -- and counted
  obtain ⟨M3, hM3⟩ : ∃ M3, M3 = mset M2 88 2030 (wr (M2 88 2030 + M2 87 5)) := ⟨_, rfl⟩
  have m3' : ∀ j, j ≠ 2030 → M3 88 j = M2 88 j := fun j hj => by rw [hM3, mset_j hj]
  have m12 : ∀ j, (∀ x ∈ ks (subT t k), j ≠ 1200 + x) → M2 88 j = M 88 j := fun j hj => (a8 j hj).trans (by rw [s1 88 (by decide)])
  have m2030 : M2 88 2030 = M 88 2030 := m12 _ (fun x hx => by have := hsublt x hx; omega)
  have hV3 : vw M3 V := vw_c hV (fun j hj => (m3' j (by omega)).trans (m12 j (fun x hx => by have := hsublt x hx; omega)))
  have s3 : same [88] M2 M3 := by rw [hM3]; exact same_mset
  -- they are built
  obtain ⟨M4, b1, b2, b3, b4, b5, b6, b7⟩ := sp63 (V := V) (d + 206) L 0 (dpt t k) up M3 hV3 (slc_c a5 (fun j _ _ => by rw [s3 90 (by decide)])) (fun x hx => hsublt x (hLs x hx)) hLn (by omega) (by omega) (by omega)
  obtain ⟨B, hB⟩ : ∃ B, B = bld V L (dpt t k) := ⟨_, rfl⟩
  rw [← hB] at b1 b3 b4 ⊢
  have hBp : (ks B).Perm L := by rw [hB]; exact bld_perm V _ L _ (Nat.le_refl _)
  have m4 : ∀ j, (∀ x ∈ ks (subT t k), j ≠ 1200 + x ∧ j ≠ 1400 + x ∧ j ≠ 1600 + x ∧ j ≠ 1800 + x) → j ≠ 2030 → M4 88 j = M 88 j := fun j h1 h2 => by
    rw [b6 j (fun x hx => h1 x (hLs x hx)), m3' j h2, m12 j (fun x hx => (h1 x hx).1)]
  have m42030 : M4 88 2030 = wr (M 88 2030 + (L.length : Int)) := by
    rw [b6 2030 (fun x hx => by have := hsublt x (hLs x hx); omega), hM3, mset_at, m2030, a4]
  have s4 : same [87, 88, 90] M M4 := (s1.mono (by decide)).tr (a2.tr ((s3.mono (by decide)).tr (b2.mono (by decide))))
  have m487 : ∀ j, j ≠ 5 → M4 87 j = M 87 j := fun j hj => by rw [b2 87 (by decide), s3 87 (by decide), a3 j hj, hM1, mset_j hj]
  -- who is there now
  obtain ⟨r1, r2⟩ := rebuilt (M := V) hnd hk (dpt t k)
  rw [← hL, ← hB] at r1 r2
  have there : ∀ x, x < n → M4 88 (1200 + x) = if x ∈ ks (rplB t k B) then 1 else 0 := by
    intro x hx
    by_cases c : x ∈ ks (subT t k)
    · by_cases c2 : x ∈ L
      · rw [b5 x c2, if_pos ((r2 x).mpr ⟨sub_mem c, fun _ => by rw [hL] at c2; exact (List.mem_filter.mp c2).2⟩)]
      · rw [b6 _ (fun y hy => by
          have : x ≠ y := fun e => c2 (by rw [e]; exact hy)
          have := hsublt y (hLs y hy)
          omega), m3' _ (by omega), a7 x c, if_neg]
        intro q
        have := ((r2 x).mp q).2 c
        exact c2 (by rw [hL]; exact List.mem_filter.mpr ⟨c, this⟩)
    · rw [m4 _ (fun y hy => by
        have : x ≠ y := fun e => c (by rw [e]; exact hy)
        have := hsublt y hy
        omega) (by omega), t3 x hx]
      by_cases c2 : x ∈ ks t
      · rw [if_pos c2, if_pos ((r2 x).mpr ⟨c2, fun q => absurd q c⟩)]
      · rw [if_neg c2, if_neg (fun q => c2 ((r2 x).mp q).1)]
  -- links of the other nodes
  have lkl : ∀ x ∈ ks t, x ∉ ks (subT t k) → M4 88 (1400 + x) = M 88 (1400 + x) ∧ M4 88 (1600 + x) = M 88 (1600 + x) ∧ M4 88 (1800 + x) = M 88 (1800 + x) := by
    intro x hx hxn
    have h9 := hlt2 x hx
    have hd : ∀ y ∈ ks (subT t k), y ≠ x := fun y hy e => hxn (by rw [← e]; exact hy)
    exact ⟨m4 _ (fun y hy => by have := hd y hy; have := hsublt y hy; omega) (by omega), m4 _ (fun y hy => by have := hd y hy; have := hsublt y hy; omega) (by omega), m4 _ (fun y hy => by have := hd y hy; have := hsublt y hy; omega) (by omega)⟩
  have finU : ∀ M5 : mM, (∀ x ∈ ks t, M5 88 (1800 + x) = M4 88 (1800 + x)) → isU (mup M5) (rplB t k B) (-1) := by
    intro M5 h5
    refine rpl_U (u := mup M) t2 hnd hk (isU_c (fun x hx => h5 x (sub_mem (hLs x (hBp.mem_iff.mp hx)))) (by rw [← hup]; exact b4)) (fun x hx hxn => ?_)
    show M5 88 (1800 + x) = M 88 (1800 + x)
    rw [h5 x hx, (lkl x hx hxn).2.2]
  have b1 : run prog (d + 209) 63 [vr 87, vi 0, vi (L.length : Int), vi (dpt t k : Int), vi up] (shp, M3) = some (.inl (some (vi (rt B))), (shp, M4)) := by
    have e9 : ((0 + L.length : Nat) : Int) = (L.length : Int) := by rw [Nat.zero_add]
    rw [← e9]
    exact b1
  have hkt := sp60 (d + 208) t2 hlt2 hsz hk
  have tail : ∀ w : Int, ev prog (d + 210) 64 0 10 [vr 87, vj, vi up, vi (dpt t k : Int), vi w, vj] [] (shp, M2) = ev prog (d + 210) 64 0 13 [vr 87, vj, vi up, vj, vi w, vj] [vi (rt B)] (shp, M4) := by
    intro w
    rw [g64_10, ← hM3, a4, b1, callK_r, psh_s]
  have a1 : run prog (d + 209) 61 [vr 87, vi (k : Int)] (shp, M1) = some (.inl none, (shp, M2)) := a1
  have hkt : run prog (d + 209) 60 [vr 87, vi (k : Int)] (shp, M) = some (.inl (some (vi (dpt t k : Int))), (shp, M)) := hkt
  rw [g64_0, if_neg (by omega), x1800 (by omega), if_pos (gi2031 (by omega)), Int.toNat_natCast, e18, hkt, callK_r, psh_s, g64_4, ← hM1]
  have mono : ∀ (M5 : mM) (j0 : Nat) (w : Int), M5 = mset M4 88 j0 w → (1400 ≤ j0 ∧ j0 ≤ 2000) → same [87, 88, 90] M M5 ∧ (∀ j, j ≠ 5 → M5 87 j = M 87 j) ∧ M5 88 2030 = wr (M 88 2030 + (L.length : Int)) ∧ (∀ j, (j < 1200 ∨ (2001 ≤ j ∧ j ≠ 2030)) → M5 88 j = M 88 j) ∧ ∀ x, x < n → M5 88 (1200 + x) = if x ∈ ks (rplB t k B) then 1 else 0 := by
    intro M5 j0 w h5 hj0
    have hm : same [88] M4 M5 := by rw [h5]; exact same_mset
    refine ⟨s4.tr (hm.mono (by decide)), fun j hj => by rw [hm 87 (by decide)]; exact m487 j hj, by rw [h5, mset_j (by omega)]; exact m42030, fun j hj => ?_, fun x hx => by rw [h5, mset_j (by omega)]; exact there x hx⟩
    rw [h5, mset_j (by omega)]
    exact m4 j (fun x hx => by have := hsublt x hx; omega) (by omega)
  rcases hsa with ⟨q1, q2, q3⟩ | ⟨q, q1, q2, q3, q4⟩
  · -- the root
    have hu : up = -1 := by rw [hup]; exact q2
    obtain ⟨M5, hM5⟩ : ∃ M5, M5 = mset M4 88 2000 (rt B) := ⟨_, rfl⟩
    obtain ⟨z1, z2, z3, z4, z5⟩ := mono M5 2000 _ hM5 (by omega)
    have m5 : ∀ j, j ≠ 2000 → M5 88 j = M4 88 j := fun j hj => by rw [hM5, mset_j hj]
    refine ⟨M5, ?_, z1, z2, ⟨?_, finU M5 (fun x hx => m5 _ (by have := hlt2 x hx; omega)), z5⟩, z3, z4⟩
    · rw [if_pos (by omega), a1, callK_r, psh_n, tail, g64_13, if_pos (by omega), ← hM5]
    · have key := rpl_T (f := mlf M) (g := mrf M) (f' := mlf M5) (g' := mrf M5) (B := B) (mT_c b3 (fun x hx => by
        have := hsublt x (hLs x (hBp.mem_iff.mp hx))
        exact ⟨m5 _ (by omega), m5 _ (by omega)⟩)) (sl := -1) t1 hnd hk (fun x hx hxn => by
        have h9 := hlt2 x hx
        rw [q3, if_neg (by omega), if_neg (by omega)]
        exact ⟨(m5 _ (by omega)).trans (lkl x hx hxn).1, (m5 _ (by omega)).trans (lkl x hx hxn).2.1⟩)
      rw [if_pos q1] at key
      rw [hM5, mset_at, ← hM5]
      exact key
  · -- another node
    have hu : up = (q : Int) := by rw [hup]; exact q3
    have hq := hlt2 q q1
    have hql := lkl q q1 q2
    have hrk : rt t ≠ (k : Int) := by
      intro e
      cases t with
      | leaf => exact absurd hk List.not_mem_nil
      | inner s2 x2 v2 l2 r2 =>
        have e : (x2 : Int) = (k : Int) := e
        have e : k = x2 := by omega
        apply q2
        unfold subT
        rw [if_pos e]
        exact q1
    have h2000 : M4 88 2000 = rt t := by
      rw [m4 2000 (fun x hx => by have := hsublt x hx; omega) (by omega)]
      exact hrt
    rw [if_neg (by omega), hu, x1400 hq, if_pos (gi2031 (by omega)), Int.toNat_natCast]
    rw [hu] at tail
    rcases q4 with ⟨w1, w2⟩ | ⟨w1, w2, w3⟩
    · obtain ⟨M5, hM5⟩ : ∃ M5, M5 = mset M4 88 (1400 + q) (rt B) := ⟨_, rfl⟩
      obtain ⟨z1, z2, z3, z4, z5⟩ := mono M5 _ _ hM5 (by omega)
      have m5 : ∀ j, j ≠ 1400 + q → M5 88 j = M4 88 j := fun j hj => by rw [hM5, mset_j hj]
      refine ⟨M5, ?_, z1, z2, ⟨?_, finU M5 (fun x hx => m5 _ (by have := hlt2 x hx; omega)), z5⟩, z3, z4⟩
      · have w1 : M 88 (1400 + q) = (k : Int) := w1
        rw [if_pos w1, a1, callK_r, psh_n, tail, g64_13, if_neg (by omega), if_neg (by decide), x1400 hq, if_pos (gi2031 (by omega)), Int.toNat_natCast, ← hM5]
      · have key := rpl_T (f := mlf M) (g := mrf M) (f' := mlf M5) (g' := mrf M5) (B := B) (mT_c b3 (fun x hx => by
          have h8 := hLs x (hBp.mem_iff.mp hx)
          have h7 := hsublt x h8
          have : x ≠ q := fun e => q2 (by rw [← e]; exact h8)
          exact ⟨m5 _ (by omega), m5 _ (by omega)⟩)) (sl := -1) t1 hnd hk (fun x hx hxn => by
          have h9 := hlt2 x hx
          rw [w2]
          constructor
          · by_cases e : x = q
            · rw [e, if_pos rfl]
              show M5 88 (1400 + q) = _
              rw [hM5, mset_at]
            · rw [if_neg (by omega)]
              exact (m5 _ (by omega)).trans (lkl x hx hxn).1
          · rw [if_neg (by omega)]
            exact (m5 _ (by omega)).trans (lkl x hx hxn).2.1)
        rw [if_neg hrk] at key
        rw [m5 2000 (by omega), h2000]
        exact key
    · obtain ⟨M5, hM5⟩ : ∃ M5, M5 = mset M4 88 (1600 + q) (rt B) := ⟨_, rfl⟩
      obtain ⟨z1, z2, z3, z4, z5⟩ := mono M5 _ _ hM5 (by omega)
      have m5 : ∀ j, j ≠ 1600 + q → M5 88 j = M4 88 j := fun j hj => by rw [hM5, mset_j hj]
      refine ⟨M5, ?_, z1, z2, ⟨?_, finU M5 (fun x hx => m5 _ (by have := hlt2 x hx; omega)), z5⟩, z3, z4⟩
      · have w1 : ¬ M 88 (1400 + q) = (k : Int) := w1
        rw [if_neg w1, a1, callK_r, psh_n, tail, g64_13, if_neg (by omega), if_pos rfl, x1600 hq, if_pos (gi2031 (by omega)), Int.toNat_natCast, ← hM5]
      · have key := rpl_T (f := mlf M) (g := mrf M) (f' := mlf M5) (g' := mrf M5) (B := B) (mT_c b3 (fun x hx => by
          have h8 := hLs x (hBp.mem_iff.mp hx)
          have h7 := hsublt x h8
          have : x ≠ q := fun e => q2 (by rw [← e]; exact h8)
          exact ⟨m5 _ (by omega), m5 _ (by omega)⟩)) (sl := -1) t1 hnd hk (fun x hx hxn => by
          have h9 := hlt2 x hx
          rw [w3]
          constructor
          · rw [if_neg (by omega)]
            exact (m5 _ (by omega)).trans (lkl x hx hxn).1
          · by_cases e : x = q
            · rw [e, if_pos rfl]
              show M5 88 (1600 + q) = _
              rw [hM5, mset_at]
            · rw [if_neg (by omega)]
              exact (m5 _ (by omega)).trans (lkl x hx hxn).2.1)
        rw [if_neg hrk] at key
        rw [m5 2000 (by omega), h2000]
        exact key
theorem sp64n {M : mM} (d : Nat) : run prog (d + 210) 64 [vr 87, vi (-1)] (shp, M) = some (.inl none, (shp, M)) := by
  show ev prog (d + 210) 64 0 0 [vr 87, vi (-1), vj, vj, vj, vj] [] (shp, M) = _
  rw [g64_0, if_pos (by decide)]
