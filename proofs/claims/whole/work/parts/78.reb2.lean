/-! THE CLASS REBUILDS A SUBTREE: THE RUN -/
theorem dpt_lt : ∀ {t : Tr} {k : Nat}, k ∈ ks t → dpt t k < ht t := by
  intro t
  induction t with
  | leaf => intro k hk; exact absurd hk List.not_mem_nil
  | inner s x v l r ihl ihr =>
    intro k hk
    have hh : ht (.inner s x v l r : Tr) = 1 + (if ht l < ht r then ht r else ht l) := rfl
    have h1 : ht l ≤ (if ht l < ht r then ht r else ht l) := by split <;> omega
    have h2 : ht r ≤ (if ht l < ht r then ht r else ht l) := by split <;> omega
    rw [hh]
    unfold dpt
    by_cases c : k = x
    · rw [if_pos c]; omega
    · rw [if_neg c]
      by_cases c2 : k ∈ ks l
      · rw [if_pos c2]; have := ihl c2; omega
      · rw [if_neg c2]
        have c3 : k ∈ ks r := by rcases mem_i hk with h | h | h; exact absurd h c; exact absurd h c2; exact h
        have := ihr c3; omega
theorem TD_c {M M' : mM} {t : Tr} (hk : ∀ k ∈ [8, 11, 14, 15, 16, 17, 18, 19, 20, 21, 22], M' k = M k) (h : TD M t) : TD M' t := by
  obtain ⟨h1, h2, h3, h4⟩ := h
  have e14 := hk 14 (by decide)
  have e15 := hk 15 (by decide)
  have e16 := hk 16 (by decide)
  have e17 := hk 17 (by decide)
  have e18 := hk 18 (by decide)
  have e19 := hk 19 (by decide)
  have e20 := hk 20 (by decide)
  exact ⟨nums_same h1 (hk 21 (by decide)) (hk 22 (by decide)), dv_c (fun k _ => by rw [e14, e15, e20]; exact ⟨rfl, rfl, rfl⟩) h2, sm_c (hk 8 (by decide)) (hk 11 (by decide)) (fun k _ => by rw [e16, e17, e18, e19]; exact ⟨rfl, rfl, fun _ _ => ⟨rfl, rfl⟩⟩) h3, fun j hj hjt => by rw [e15]; exact h4 j hj hjt⟩
theorem sub_sz {t : Tr} {k : Nat} (hk : k ∈ ks t) : posT t k + sz (subT t k) ≤ sz t := by
  obtain ⟨s, v, l, r, e⟩ := sub_form hk
  have hp : 0 < sz (subT t k) := by rw [e, sz_i]; omega
  have hi : sz (subT t k) - 1 < (ks (subT t k)).length := by show _ < sz (subT t k); omega
  have := sub_pos hk _ _ (List.getElem?_eq_getElem hi)
  have hl := (List.getElem?_eq_some_iff.mp this).1
  have hl : posT t k + (sz (subT t k) - 1) < sz t := hl
  omega
theorem sp42 {M : mM} (d : Nat) {n : Nat} (hn : M 7 4 = (n : Int)) (h200 : n ≤ 200) {t : Tr} (hlt : ∀ x ∈ ks t, x < n) (hnd : (ks t).Nodup) (hD : TD M t) {k : Nat} (hk : k ∈ ks t) :
    ∃ M', run prog (d + 3) 42 [vr 25, vi (k : Int)] (shp, M) = some (.inl none, (shp, M')) ∧ nums M' 27 (natI (lk M (subT t k))) ∧ same [27, 28] M M' := by
  show ∃ M', ev prog (d + 3) 42 0 0 [vr 25, vi (k : Int), vj, vj, vj, vj] [] (shp, M) = _ ∧ _
  obtain ⟨hD1, hD2, hD3, hD4⟩ := hD
  have hk2 := hlt k hk
  have hsz : sz t ≤ 200 := nodup_le 200 _ hnd (fun x hx => by have := hlt x hx; omega)
  have hss := sub_sz hk
  obtain ⟨-, -, hp⟩ := dv_at hD2 hk
  rw [Nat.zero_add] at hp
  obtain ⟨s, v, l, r, e⟩ := sub_form hk
  have h16 : M 16 k = (sz (subT t k) : Int) := by
    have := sub_sm (k := k) hD3
    rw [e] at this ⊢
    exact this.1.1
  have e0 : va M 20 200 (k : Int) = (posT t k : Int) := by rw [va_in ⟨by omega, by omega⟩, Int.toNat_natCast, hp]
  have e1 : r33 (k : Int) (mset M 27 1 0) = (sz (subT t k) : Int) := by
    unfold r33
    rw [if_neg (by omega), va_mset (by decide), va_in ⟨by omega, by omega⟩, Int.toNat_natCast, h16]
  have e2 : wr ((posT t k : Int) + (sz (subT t k) : Int)) = ((posT t k + sz (subT t k) : Nat) : Int) := by rw [wrR (by omega) (by omega)]; omega
  rw [g42_0, e0, e1, e2]
  clear e2
  obtain ⟨M', a1, a2, a3⟩ := up_inv (fun M1 j => ev prog (d + 3) 42 0 4 [vr 25, vj, vj, vi ((posT t k + sz (subT t k) : Nat) : Int), vi ((posT t k + j : Nat) : Int), vj] [] (shp, M1)) (fun j M1 => nums M1 27 (natI (((ks (subT t k)).take j).filter (alv M))) ∧ same [27, 28] M M1) (sz (subT t k)) (fun j M1 hj hI => by
    obtain ⟨k1, k2⟩ := hI
    have hjl : j < (ks (subT t k)).length := hj
    have hx := List.getElem?_eq_getElem hjl
    have hxt := sub_pos hk j _ hx
    have hxn := hlt _ (List.mem_of_getElem? hxt)
    have hr : r30b ((posT t k + j : Nat) : Int) M1 = ((ks (subT t k))[j] : Int) := by
      show va M1 22 200 _ = _
      rw [va_in ⟨by omega, by omega⟩, Int.toNat_natCast, k2 22 (by decide)]
      exact hD1.2 _ _ (natI_at hxt)
    have h7 : M1 7 4 = (n : Int) := by rw [k2 7 (by decide)]; exact hn
    have ha : alv M1 = alv M := alv_c (k2 11 (by decide))
    have htk : (ks (subT t k)).take (j + 1) = (ks (subT t k)).take j ++ [(ks (subT t k))[j]] := by rw [List.take_succ, List.getElem?_eq_getElem hjl]; rfl
    show ∃ M', ev prog (d + 3) 42 0 4 [vr 25, vj, vj, vi ((posT t k + sz (subT t k) : Nat) : Int), vi ((posT t k + j : Nat) : Int), vj] [] (shp, M1) = ev prog (d + 3) 42 0 4 [vr 25, vj, vj, vi ((posT t k + sz (subT t k) : Nat) : Int), vi ((posT t k + (j + 1) : Nat) : Int), vj] [] (shp, M') ∧ _
    rw [g42_4, if_pos (by omega), hr, p32_alv h7 h200 hxn, ha, wI (by omega)]
    cases hv : alv M ((ks (subT t k))[j]) with
    | false =>
      refine ⟨M1, by rw [if_pos (show bi false = 0 from rfl)]; rfl, ?_, k2⟩
      rw [htk, List.filter_append, List.filter_cons_of_neg (by rw [hv]; decide)]
      show nums M1 27 (natI (List.filter (alv M) _ ++ []))
      rw [List.append_nil]
      exact k1
    | true =>
      have hl200 : (natI (((ks (subT t k)).take j).filter (alv M))).length < 200 := by
        rw [natI_len]
        have h1 := List.length_filter_le (alv M) ((ks (subT t k)).take j)
        rw [List.length_take] at h1
        omega
      obtain ⟨z1, z2⟩ := nums_add (x := ((ks (subT t k))[j] : Int)) k1 hl200
      refine ⟨_, ?_, ?_, k2.tr z2⟩
      · rw [if_neg (show ¬ bi true = 0 by decide), s25a d]
        unfold o25a
        rw [if_pos (by rw [k1.1]; omega), callK_r, psh_n, g42_9, wI (by omega)]
        rfl
      · rw [htk, List.filter_append, List.filter_cons_of_pos hv, natI_app]
        exact z1) (M := mset M 27 1 0) ⟨nums_nil, same_mset.mono (by decide)⟩
  have e3 : (ks (subT t k)).take (sz (subT t k)) = ks (subT t k) := List.take_length
  rw [e3] at a2
  refine ⟨M', ?_, a2, a3⟩
  refine Eq.trans a1 ?_
  show ev prog (d + 3) 42 0 4 [vr 25, vj, vj, vi ((posT t k + sz (subT t k) : Nat) : Int), vi ((posT t k + sz (subT t k) : Nat) : Int), vj] [] (shp, M') = _
  rw [g42_4, if_neg (by omega)]
theorem lk_sub {M : mM} {t : Tr} {x : Nat} (h : x ∈ lk M t) : x ∈ ks t := (List.mem_filter.mp h).1
theorem r43_at {M : mM} {t : Tr} (hT : isT (clf M) (crf M) t (rt t)) (hnd : (ks t).Nodup) (hdv : dv M t (-1) 0 0) {k : Nat} (hk : k ∈ ks t) : r43 (k : Int) M = sltT t (-1) k := by
  have hk2 := isT_lt hT k hk
  obtain ⟨h14, -, -⟩ := dv_at hdv hk
  have e0 : va M 14 200 (k : Int) = parT t (-1) k := by rw [va_in ⟨by omega, by omega⟩, Int.toNat_natCast, h14]
  unfold r43
  rw [e0]
  rcases slt_at (p := -1) (sl := -1) hT hnd hk with ⟨a1, a2, a3⟩ | ⟨q, a1, a2, a3, a4⟩
  · rw [a2, if_pos rfl, a3]
  · have hq := isT_lt hT q a1
    have e1 : r28 (q : Int) 0 M = clf M q := by
      unfold r28 clf
      rw [if_neg (by omega), x20 (by omega), va_in ⟨by omega, by omega⟩, Int.toNat_natCast]
    rw [a3, if_neg (by omega), e1, x20 (by omega), x21 (by omega)]
    rcases a4 with ⟨b1, b2⟩ | ⟨b1, b2, b3⟩
    · rw [if_pos b1, b2]
    · rw [if_neg b1, b3]
theorem sp47 {M : mM} (d : Nat) {n : Nat} (hn : M 7 4 = (n : Int)) (h200 : n ≤ 200) {t : Tr} (hT : isT (clf M) (crf M) t (M 12 11)) (hnd : (ks t).Nodup) (hlt : ∀ x ∈ ks t, x < n) (hD : TD M t) {k : Nat} (hk : k ∈ ks t) (h60 : (lk M (subT t k)).length ≤ 60) {c : Nat} (hc : c < 3) :
    ∃ M', run prog (d + 6) 47 [vr 25, vi (k : Int), vi (c : Int)] (shp, M) = some (.inl none, (shp, M')) ∧ same [12, 13, 14, 15, 16, 17, 18, 19, 20, 21, 22, 23, 24, 25, 26, 27, 28, 29, 30, 31, 32] M M' ∧
      isT (clf M') (crf M') (rplB t k (bld M (lk M (subT t k)) (dpt t k))) (M' 12 11) ∧ TD M' (rplB t k (bld M (lk M (subT t k)) (dpt t k))) ∧ M' 26 c = wr (M 26 c + 1) ∧ M' 26 3 = wr (M 26 3 + ((lk M (subT t k)).length : Int)) ∧ ∀ j, j ≠ c → j ≠ 3 → M' 26 j = M 26 j := by
  show ∃ M', ev prog (d + 6) 47 0 0 [vr 25, vi (k : Int), vi (c : Int), vj, vj] [] (shp, M) = _ ∧ _
  have hrt := isT_rt hT
  rw [hrt] at hT
  have hk2 := hlt k hk
  have hsz := sz_le hT hnd
  obtain ⟨L, hL⟩ : ∃ L, L = lk M (subT t k) := ⟨_, rfl⟩
  rw [← hL] at h60 ⊢
  have hLs : ∀ x ∈ L, x ∈ ks (subT t k) := fun x hx => lk_sub (by rw [← hL]; exact hx)
  have hLn : L.Nodup := by rw [hL]; exact List.Pairwise.filter _ (sub_nd hnd)
  have hL200 : ∀ x ∈ L, x < 200 := fun x hx => isT_lt hT x (sub_mem (hLs x hx))
  obtain ⟨sl, hsl⟩ : ∃ sl, sl = sltT t (-1) k := ⟨_, rfl⟩
  have hsa := slt_at (p := -1) (sl := -1) hT hnd hk
  rw [← hsl] at hsa
  have hso : okS sl := by
    rcases hsa with ⟨a1, a2, a3⟩ | ⟨q, a1, a2, a3, a4⟩
    · exact Or.inl a3
    · have := isT_lt hT q a1
      rcases a4 with ⟨b1, b2⟩ | ⟨b1, b2, b3⟩
      · exact Or.inr ⟨_, b2, by omega⟩
      · exact Or.inr ⟨_, b3, by omega⟩
  have hsn : ∀ y ∈ ks (subT t k), sl ≠ ((2 * y : Nat) : Int) ∧ sl ≠ ((2 * y + 1 : Nat) : Int) := by
    intro y hy
    rcases hsa with ⟨a1, a2, a3⟩ | ⟨q, a1, a2, a3, a4⟩
    · omega
    · have : q ≠ y := fun e => a2 (by rw [e]; exact hy)
      rcases a4 with ⟨b1, b2⟩ | ⟨b1, b2, b3⟩ <;> omega
  have hdp := dpt_lt hk
  have hht := ht_le t
  -- the cause is counted, the members gathered
  obtain ⟨M1, hM1⟩ : ∃ M1, M1 = mset M 26 c (wr (M 26 c + 1)) := ⟨_, rfl⟩
  have s1 : same [26] M M1 := by rw [hM1]; exact same_mset
  obtain ⟨M2, b1, b2, b3⟩ := sp42 (M := M1) (d + 2) (by rw [s1 7 (by decide)]; exact hn) h200 hlt hnd (TD_c (fun x hx => s1 x (by simp at hx ⊢; omega)) hD) hk
  rw [lk_c (s1 11 (by decide)), ← hL] at b2
  obtain ⟨M3, hM3⟩ : ∃ M3, M3 = mset M2 26 3 (wr (M2 26 3 + M2 27 1)) := ⟨_, rfl⟩
  have s3 : same [26, 27, 28] M M3 := by rw [hM3]; exact ((s1.mono (by decide)).tr (b3.mono (by decide))).tr (same_mset.mono (by decide))
  have h43 : r43 (k : Int) M3 = sl := by
    rw [hsl]
    exact r43_at (by rw [clf_c (s3 13 (by decide)), crf_c (s3 13 (by decide))]; exact hT) hnd (dv_c (fun x _ => by rw [s3 14 (by decide), s3 15 (by decide), s3 20 (by decide)]; exact ⟨rfl, rfl, rfl⟩) hD.2.1) hk
  obtain ⟨M4, c1, c2, c3, c4, c5⟩ := sp22n (M := M3) (d + 3) hso
  obtain ⟨M5, hM5⟩ : ∃ M5, M5 = mset M4 25 8 0 := ⟨_, rfl⟩
  have s5 : same [12, 13, 25] M3 M5 := by rw [hM5]; exact (c2.mono (by decide)).tr (same_mset.mono (by decide))
  obtain ⟨M6, d1, d2, d3, d4, -⟩ := sp44 (M := M5) (d + 3) (c := 0) (by rw [hM5]; exact mset_at _ _ _ _) ((0, L, dpt t k, sl) : Tk) (by show 0 + L.length ≤ 60; omega)
  have s6 : same [12, 13, 25, 26, 27, 28, 29, 30, 31, 32] M M6 := (s3.mono (by decide)).tr ((s5.mono (by decide)).tr (d2.mono (by decide)))
  have h2728 : nums M6 27 (natI L) := by
    have : nums M3 27 (natI L) := by rw [hM3]; exact nums_put b2 _ _ 26 (by decide) (by decide)
    exact nums_same (nums_same this (s5 27 (by decide)) (s5 28 (by decide))) (d2 27 (by decide)) (d2 28 (by decide))
  have hP : okP9 M6 0 (nz (0, L, dpt t k, sl)) := by
    refine ⟨fun j x hj => d4 j x hj, by rw [d3], fun x hx => ?_, ?_, ?_, fun x hx y hy => ?_, ?_⟩
    · obtain ⟨e1, e2⟩ := nz_mem hx
      subst e1
      refine ⟨e2, fun j x hj => ?_, ?_, hL200, hso, ?_⟩
      · show M6 28 (0 + j) = _
        rw [Nat.zero_add]
        exact h2728.2 j _ (natI_at hj)
      · show 0 + L.length ≤ 200; omega
      · show dpt t k + L.length ≤ 1000; omega
    · rw [el_nz]; exact hLn
    · cases hLc : L with
      | nil => exact List.Pairwise.nil
      | cons a t => exact List.pairwise_cons.mpr ⟨fun _ h => absurd h List.not_mem_nil, List.Pairwise.nil⟩
    · obtain ⟨e1, e2⟩ := nz_mem hx
      subst e1
      rw [el_nz] at hy
      exact hsn y (hLs y hy)
    · rw [el_nz]; show 0 + L.length ≤ 60; omega
  obtain ⟨M7, i', f1, f2, f3, f4, f5, f6⟩ := sp47l d _ 0 M6 _ (Nat.le_refl _) hP
  rw [el_nz] at f5
  have s7 : same [12, 13, 25, 26, 27, 28, 29, 30, 31, 32] M M7 := s6.tr (f3.mono (by decide))
  have hb8 : ∀ l dp, bld M6 l dp = bld M l dp := fun l dp => bld_c (s6 8 (by decide)) l dp
  obtain ⟨B, hB⟩ : ∃ B, B = bld M L (dpt t k) := ⟨_, rfl⟩
  -- what stands at the slot
  have hslot : isT (clf M7) (crf M7) B (lkS M7 sl) := by
    by_cases e : L = []
    · have eB : B = .leaf := by rw [hB, e]; rfl
      rw [eB]
      show lkS M7 sl = -1
      rw [← c5]
      have enz : nz (0, L, dpt t k, sl) = [] := by rw [e]; rfl
      rw [enz] at f5 f6
      have s46 : M6 13 = M4 13 ∧ M6 12 = M4 12 := ⟨(d2 13 (by decide)).trans (by rw [hM5]; exact same_mset 13 (by decide)), (d2 12 (by decide)).trans (by rw [hM5]; exact same_mset 12 (by decide))⟩
      unfold lkS
      by_cases e2 : sl = -1
      · rw [if_pos e2, if_pos e2, f6 (fun x hx => absurd hx List.not_mem_nil), s46.2]
      · rw [if_neg e2, if_neg e2]
        obtain ⟨j, hj, -⟩ := hso.resolve_left e2
        rw [hj, Int.toNat_natCast, f5 j (fun x hx => absurd hx List.not_mem_nil) (fun y hy => by
          have hy : y ∈ L := hy
          rw [e] at hy
          exact absurd hy List.not_mem_nil), s46.1]
    · have := f4 _ (nz_in (x := (0, L, dpt t k, sl)) e)
      have this : isT (clf M7) (crf M7) (bld M6 L (dpt t k)) (lkS M7 sl) := this
      rw [hb8, ← hB] at this
      exact this
  have hlk := isT_rt hslot
  rw [hlk] at hslot
  have hfr : ∀ j : Nat, sl ≠ (j : Int) → (∀ y ∈ L, j ≠ 2 * y ∧ j ≠ 2 * y + 1) → M7 13 j = M 13 j := by
    intro j h1 h2
    rw [f5 j (fun x hx => by obtain ⟨e1, -⟩ := nz_mem hx; subst e1; exact h1) h2, d2 13 (by decide), hM5, mset_k (by decide), c3 j h1, s3 13 (by decide)]
  have hT7 := rpl_T (f := clf M) (g := crf M) (f' := clf M7) (g' := crf M7) hslot (sl := -1) hT hnd hk (fun x hx hxn => by
    have hne : ∀ y ∈ L, y ≠ x := fun y hy e => hxn (by rw [← e]; exact hLs y hy)
    rw [← hsl]
    constructor
    · by_cases e : sl = ((2 * x : Nat) : Int)
      · rw [if_pos e, ← hlk]
        unfold lkS clf
        rw [if_neg (by omega), e, Int.toNat_natCast]
      · rw [if_neg e]
        exact hfr (2 * x) e (fun y hy => by have := hne y hy; omega)
    · by_cases e : sl = ((2 * x + 1 : Nat) : Int)
      · rw [if_pos e, ← hlk]
        unfold lkS crf
        rw [if_neg (by omega), e, Int.toNat_natCast]
      · rw [if_neg e]
        exact hfr (2 * x + 1) e (fun y hy => by have := hne y hy; omega))
  have htop : M7 12 11 = if rt t = (k : Int) then rt B else rt t := by
    rcases hsa with ⟨a1, a2, a3⟩ | ⟨q, a1, a2, a3, a4⟩
    · rw [if_pos a1, ← hlk]
      unfold lkS
      rw [if_pos a3]
    · have hne : sl ≠ -1 := by rcases a4 with ⟨b1, b2⟩ | ⟨b1, b2, b3⟩ <;> omega
      have hrk : rt t ≠ (k : Int) := by
        intro e
        cases t with
        | leaf => exact absurd hk List.not_mem_nil
        | inner s2 x2 v2 l2 r2 =>
          have e : (x2 : Int) = (k : Int) := e
          have e : k = x2 := by omega
          apply a2
          unfold subT
          rw [if_pos e]
          exact a1
      rw [if_neg hrk, f6 (fun x hx => by obtain ⟨e1, -⟩ := nz_mem hx; subst e1; exact hne), d2 12 (by decide), hM5, mset_k (by decide), c4 hne, s3 12 (by decide), hrt]
  have hTr : isT (clf M7) (crf M7) (rplB t k B) (M7 12 11) := by rw [htop]; exact hT7
  have hBp : (ks B).Perm L := by rw [hB]; exact bld_perm M _ L _ (Nat.le_refl _)
  have hBs : ∀ x ∈ ks B, x ∈ ks (subT t k) := fun x hx => hLs x (hBp.mem_iff.mp hx)
  obtain ⟨M8, g1, g2, g3⟩ := sp38 (M := M7) d (by rw [s7 7 (by decide)]; exact hn) h200 hTr (rpl_nd (hBp.nodup_iff.mpr hLn) hnd hk hBs) (fun x hx => hlt x ((rpl_mem hnd hk x).mp hx |>.elim (fun h => h.1) (fun h => sub_mem (hBs x h))))
  have p26 : ∀ (N : mM) (j : Nat) (w : Int), j < 4 → pu N 26 4 (j : Int) w = mset N 26 j w := fun N j w hj => by rw [pu_in ⟨by omega, by omega⟩, Int.toNat_natCast]
  have p26' : ∀ (N : mM) (w : Int), pu N 26 4 3 w = mset N 26 3 w := fun N w => p26 N 3 w (by decide)
  have v26 : va M 26 4 (c : Int) = M 26 c := by rw [va_in ⟨by omega, by omega⟩, Int.toNat_natCast]
  have v26' : va M2 26 4 3 = M2 26 3 := va_in ⟨by decide, by decide⟩
  have v15 : va M4 15 200 (k : Int) = (dpt t k : Int) := by
    rw [va_in ⟨by omega, by omega⟩, Int.toNat_natCast, c2 15 (by decide), s3 15 (by decide), (dv_at hD.2.1 hk).2.1, Nat.zero_add]
  have m27 : M4 27 1 = (L.length : Int) := by
    rw [c2 27 (by decide), hM3, mset_k (by decide), b2.1, natI_len]
  have d1 : run prog (d + 5) 44 [vr 25, vi 0, vi (L.length : Int), vi (dpt t k : Int), vi sl] (shp, M5) = some (.inl none, (shp, M6)) := by
    have e9 : ((0 + L.length : Nat) : Int) = (L.length : Int) := by rw [Nat.zero_add]
    rw [← e9]
    exact d1
  have m26 : M7 26 = M3 26 := by rw [f3 26 (by decide), d2 26 (by decide), s5 26 (by decide)]
  refine ⟨M8, ?_, (s7.mono (by decide)).tr (g2.mono (by decide)), ?_, ?_, ?_, ?_, fun j h1 h2 => ?_⟩
  · rw [g47_0, if_neg (by omega), v26, p26 _ c _ (by omega), ← hM1, b1, callK_r, psh_n, g47_5, v26', p26', ← hM3, h43, c1, callK_r, psh_n, g47_9, ← hM5, m27, v15, d1, callK_r, psh_n, g47_11]
    refine Eq.trans f1 ?_
    rw [g47_12, f2, if_neg (by omega), g1, callK_r, psh_n, g47_17]
  · rw [← hB, clf_c (g2 13 (by decide)), crf_c (g2 13 (by decide)), g2 12 (by decide)]
    exact hTr
  · rw [← hB]
    exact g3
  · rw [g2 26 (by decide), m26, hM3, mset_j (by omega), b3 26 (by decide), hM1, mset_at]
  · rw [g2 26 (by decide), m26, hM3, mset_at, b2.1, natI_len, b3 26 (by decide), hM1, mset_j (by omega)]
  · rw [g2 26 (by decide), m26, hM3, mset_j h2, b3 26 (by decide), hM1, mset_j h1]
theorem sp47n {M : mM} (d : Nat) {c : Nat} (hc : c < 3) : run prog (d + 6) 47 [vr 25, vi (-1), vi (c : Int)] (shp, M) = some (.inl none, (shp, mset M 26 c (wr (M 26 c + 1)))) := by
  show ev prog (d + 6) 47 0 0 [vr 25, vi (-1), vi (c : Int), vj, vj] [] (shp, M) = _
  rw [g47_0, if_pos rfl, va_in ⟨by omega, by omega⟩, pu_in ⟨by omega, by omega⟩, Int.toNat_natCast]
