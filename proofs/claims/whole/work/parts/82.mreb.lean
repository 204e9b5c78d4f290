/-! THE MODEL REBUILDS: THE POINTS ARE GATHERED -/
theorem mT_c {M M' : mM} {t : Tr} {n : Int} (h : isT (mlf M) (mrf M) t n) (hk : ∀ k ∈ ks t, M' 88 (1400 + k) = M 88 (1400 + k) ∧ M' 88 (1600 + k) = M 88 (1600 + k)) : isT (mlf M') (mrf M') t n := isT_c (fun k q => hk k q) h
theorem sp61 {V : mM} : ∀ (t : Tr) (D : Nat) (M : mM) (r0 : Nat), vw M V → isT (mlf M) (mrf M) t (rt t) → (ks t).Nodup → ht t ≤ D → M 87 5 = (r0 : Int) → r0 + (lk V t).length ≤ 200 →
    ∃ M', run prog (D + 2) 61 [vr 87, vi (rt t)] (shp, M) = some (.inl none, (shp, M')) ∧ same [87, 88, 90] M M' ∧ (∀ j, j ≠ 5 → M' 87 j = M 87 j) ∧ M' 87 5 = ((r0 + (lk V t).length : Nat) : Int) ∧ slc M' 90 r0 (lk V t) ∧ (∀ j, j < r0 → M' 90 j = M 90 j) ∧ (∀ k ∈ ks t, M' 88 (1200 + k) = 0) ∧ ∀ j, (∀ k ∈ ks t, j ≠ 1200 + k) → M' 88 j = M 88 j := by
  intro t
  induction t with
  | leaf =>
    intro D M r0 _ _ _ _ hr _
    refine ⟨M, ?_, same.rf, fun j _ => rfl, hr, slc_nil, fun j _ => rfl, fun k hk => absurd hk List.not_mem_nil, fun j _ => rfl⟩
    show ev prog (D + 2) 61 0 0 [vr 87, vi (-1)] [] (shp, M) = _
    rw [g61_0, if_pos (by decide)]
  | inner s k v l r ihl ihr =>
    intro D M r0 hV hT hnd hD hr hcap
    obtain ⟨n1, n2, n3, n4, n5⟩ := nd_i hnd
    obtain ⟨D', rfl, d1, d2⟩ := ht_s hD
    have hltl : ∀ x ∈ ks l, x < 200 := fun x hx => isT_lt hT x (mem_l hx)
    have hltr : ∀ x ∈ ks r, x < 200 := fun x hx => isT_lt hT x (mem_r hx)
    obtain ⟨hk, e3, e4, h3, h4⟩ := mT_i hT
    have rest : ∀ (M1 : mM) (r1 : Nat), vw M1 V → isT (mlf M1) (mrf M1) l (rt l) → isT (mlf M1) (mrf M1) r (rt r) → M1 88 (1600 + k) = rt r → M1 87 5 = (r1 : Int) → r1 + (lk V l).length + (lk V r).length ≤ 200 →
        ∃ M2 M', run prog (D' + 1 + 1) 61 [vr 87, vi (rt l)] (shp, M1) = some (.inl none, (shp, M2)) ∧ ev prog (D' + 1 + 2) 61 0 9 [vr 87, vi (k : Int)] [] (shp, M2) = some (.inl none, (shp, M')) ∧ same [87, 88, 90] M1 M' ∧ (∀ j, j ≠ 5 → M' 87 j = M1 87 j) ∧ M' 87 5 = ((r1 + (lk V l).length + (lk V r).length : Nat) : Int) ∧ slc M' 90 r1 (lk V l ++ lk V r) ∧ (∀ j, j < r1 → M' 90 j = M1 90 j) ∧ (∀ x, x ∈ ks l ∨ x ∈ ks r → M' 88 (1200 + x) = 0) ∧ ∀ j, (∀ x, x ∈ ks l ∨ x ∈ ks r → j ≠ 1200 + x) → M' 88 j = M1 88 j := by
      intro M1 r1 q1 q2 q3 q4 q5 q6
      obtain ⟨M2, a1, a2, a3, a4, a5, a6, a7, a8⟩ := ihl D' M1 r1 q1 q2 n3 d1 q5 (by omega)
      have hM2r : isT (mlf M2) (mrf M2) r (rt r) := mT_c q3 (fun x hx => ⟨a8 _ (fun y hy => by have := hltl y hy; omega), a8 _ (fun y hy => by have := hltl y hy; omega)⟩)
      obtain ⟨M3, b1, b2, b3, b4, b5, b6, b7, b8⟩ := ihr D' M2 (r1 + (lk V l).length) (vw_c q1 (fun j hj => a8 j (fun y hy => by have := hltl y hy; omega))) hM2r n4 d2 a4 q6
      have a1 : run prog (D' + 1 + 1) 61 [vr 87, vi (rt l)] (shp, M1) = _ := a1
      have b1 : run prog (D' + 1 + 1) 61 [vr 87, vi (rt r)] (shp, M2) = _ := b1
      refine ⟨M2, M3, a1, ?_, a2.tr b2, fun j hj => (b3 j hj).trans (a3 j hj), b4, ?_, fun j hj => (b6 j (by omega)).trans (a6 j hj), fun x hx => ?_, fun j hj => (b8 j (fun y hy => hj y (Or.inr hy))).trans (a8 j (fun y hy => hj y (Or.inl hy)))⟩
      · rw [g61_9, x1600 hk, if_pos (gi2031 (by omega)), Int.toNat_natCast, a8 _ (fun y hy => by have := hltl y hy; omega), q4, b1, callK_r, psh_n, g61_11]
      · rw [slc_app]
        exact ⟨slc_c a5 (fun j h1 h2 => b6 j (by omega)), b5⟩
      · rcases hx with hx | hx
        · rw [b8 _ (fun y hy => by
            have : x ≠ y := fun e => n5 x hx (by rw [e]; exact hy)
            omega)]
          exact a7 x hx
        · exact b7 x hx
    rw [rt_i]
    show ∃ M', ev prog (D' + 1 + 2) 61 0 0 [vr 87, vi (k : Int)] [] (shp, M) = _ ∧ _
    have z1 : ∀ w : Int, (mset M 88 (1200 + k) w) 88 (1000 + k) = M 88 (1000 + k) := fun w => mset_j (by omega)
    have z2 : ∀ w : Int, (mset M 88 (1200 + k) w) 88 (1400 + k) = rt l := fun w => by rw [mset_j (by omega)]; exact e3
    have hmem : ∀ x, x ∈ ks (.inner s k v l r) → x = k ∨ (x ∈ ks l ∨ x ∈ ks r) := fun x hx => mem_i hx
    have hlk := lk_i V s k v l r
    rw [hlk] at hcap ⊢
    rw [List.length_append, List.length_append] at hcap
    cases ha : alv V k with
    | true =>
      rw [ha] at hcap
      have hcap : r0 + (1 + ((lk V l).length + (lk V r).length)) ≤ 200 := hcap
      obtain ⟨M1, hM1⟩ : ∃ M1, M1 = mset (mset (mset M 88 (1200 + k) 0) 90 r0 (k : Int)) 87 5 ((r0 + 1 : Nat) : Int) := ⟨_, rfl⟩
      have m88 : ∀ j, j ≠ 1200 + k → M1 88 j = M 88 j := fun j hj => by rw [hM1, mset_k (by decide), mset_k (by decide), mset_j hj]
      have m88k : M1 88 (1200 + k) = 0 := by rw [hM1, mset_k (by decide), mset_k (by decide), mset_at]
      have m90 : ∀ j, j ≠ r0 → M1 90 j = M 90 j := fun j hj => by rw [hM1, mset_k (by decide), mset_j hj, mset_k (by decide)]
      have m90k : M1 90 r0 = (k : Int) := by rw [hM1, mset_k (by decide), mset_at]
      have m87 : ∀ j, j ≠ 5 → M1 87 j = M 87 j := fun j hj => by rw [hM1, mset_j hj, mset_k (by decide), mset_k (by decide)]
      have s1 : same [87, 88, 90] M M1 := by rw [hM1]; exact ((same_mset.mono (by decide)).tr (same_mset.mono (by decide))).tr (same_mset.mono (by decide))
      obtain ⟨M2, M', a1, a2, a3, a4, a5, a6, a7, a8, a9⟩ := rest M1 (r0 + 1) (vw_c hV (fun j hj => m88 j (by omega))) (mT_c h3 (fun x _ => ⟨m88 _ (by omega), m88 _ (by omega)⟩)) (mT_c h4 (fun x _ => ⟨m88 _ (by omega), m88 _ (by omega)⟩)) (by rw [m88 _ (by omega)]; exact e4) (by rw [hM1]; exact mset_at _ _ _ _) (by omega)
      refine ⟨M', ?_, s1.tr a3, fun j hj => (a4 j hj).trans (m87 j hj), ?_, ?_, fun j hj => (a7 j (by omega)).trans (m90 j (by omega)), fun x hx => ?_, fun j hj => (a9 j (fun x hx => hj x (hx.elim mem_l mem_r))).trans (m88 j (hj k List.mem_cons_self))⟩
      · rw [g61_0, if_neg (by omega), x1200 hk, if_pos (gi2031 (by omega)), x1000 hk, if_pos (gi2031 (by omega)), Int.toNat_natCast, Int.toNat_natCast, z1, (hV.2.1 k hk).1, if_pos (alv_t ha), hr, if_pos (gi200 (by omega)), x1400 hk, if_pos (gi2031 (by omega)), Int.toNat_natCast, z2, Int.toNat_natCast, wI (by omega), ← hM1, a1, callK_r, psh_n]
        exact a2
      · rw [a5, List.length_append, List.length_append]
        show _ = ((r0 + (1 + _) : Nat) : Int)
        omega
      · show slc M' 90 r0 ([k] ++ (lk V l ++ lk V r))
        rw [slc_app, slc_one]
        exact ⟨by rw [a7 r0 (by omega)]; exact m90k, a6⟩
      · rcases hmem x hx with e | h
        · rw [e, a9 _ (fun y hy => by
            have : k ≠ y := fun e => hy.elim (fun h => n1 (by rw [e]; exact h)) (fun h => n2 (by rw [e]; exact h))
            omega)]
          exact m88k
        · exact a8 x h
    | false =>
      rw [ha] at hcap
      have hcap : r0 + (0 + ((lk V l).length + (lk V r).length)) ≤ 200 := hcap
      have hv0 : V 11 k ≠ 1 := of_decide_eq_false ha
      obtain ⟨M1, hM1⟩ : ∃ M1, M1 = mset M 88 (1200 + k) 0 := ⟨_, rfl⟩
      have m88 : ∀ j, j ≠ 1200 + k → M1 88 j = M 88 j := fun j hj => by rw [hM1, mset_j hj]
      have m88k : M1 88 (1200 + k) = 0 := by rw [hM1, mset_at]
      have s1 : same [88] M M1 := by rw [hM1]; exact same_mset
      obtain ⟨M2, M', a1, a2, a3, a4, a5, a6, a7, a8, a9⟩ := rest M1 r0 (vw_c hV (fun j hj => m88 j (by omega))) (mT_c h3 (fun x _ => ⟨m88 _ (by omega), m88 _ (by omega)⟩)) (mT_c h4 (fun x _ => ⟨m88 _ (by omega), m88 _ (by omega)⟩)) (by rw [m88 _ (by omega)]; exact e4) (by rw [s1 87 (by decide)]; exact hr) (by omega)
      refine ⟨M', ?_, (s1.mono (by decide)).tr a3, fun j hj => (a4 j hj).trans (by rw [s1 87 (by decide)]), ?_, a6, fun j hj => (a7 j hj).trans (by rw [s1 90 (by decide)]), fun x hx => ?_, fun j hj => (a9 j (fun x hx => hj x (hx.elim mem_l mem_r))).trans (m88 j (hj k List.mem_cons_self))⟩
      · rw [g61_0, if_neg (by omega), x1200 hk, if_pos (gi2031 (by omega)), x1000 hk, if_pos (gi2031 (by omega)), Int.toNat_natCast, Int.toNat_natCast, z1, (hV.2.1 k hk).1, if_neg hv0, x1400 hk, if_pos (gi2031 (by omega)), Int.toNat_natCast, z2, ← hM1, a1, callK_r, psh_n]
        exact a2
      · rw [a5, List.length_append, List.length_append]
        show _ = ((r0 + (0 + _) : Nat) : Int)
        omega
      · rcases hmem x hx with e | h
        · rw [e, a9 _ (fun y hy => by
            have : k ≠ y := fun e => hy.elim (fun h => n1 (by rw [e]; exact h)) (fun h => n2 (by rw [e]; exact h))
            omega)]
          exact m88k
        · exact a8 x h
/-! they are built -/
theorem sp63 {V : mM} : ∀ (D : Nat) (l : List Nat) (f dp : Nat) (par : Int) (M : mM), vw M V → slc M 90 f l → (∀ x ∈ l, x < 200) → l.Nodup → f + l.length ≤ 200 → dp + l.length ≤ 1000 → l.length ≤ D →
    ∃ M', run prog (D + 3) 63 [vr 87, vi (f : Int), vi ((f + l.length : Nat) : Int), vi (dp : Int), vi par] (shp, M) = some (.inl (some (vi (rt (bld V l dp)))), (shp, M')) ∧ same [88, 90] M M' ∧ isT (mlf M') (mrf M') (bld V l dp) (rt (bld V l dp)) ∧ isU (mup M') (bld V l dp) par ∧ (∀ k ∈ l, M' 88 (1200 + k) = 1) ∧ (∀ j, (∀ k ∈ l, j ≠ 1200 + k ∧ j ≠ 1400 + k ∧ j ≠ 1600 + k ∧ j ≠ 1800 + k) → M' 88 j = M 88 j) ∧ ∀ j, (j < f ∨ f + l.length ≤ j) → M' 90 j = M 90 j := by
  intro D
  induction D with
  | zero =>
    intro l f dp par M _ _ _ _ _ _ hl
    have e : l = [] := List.length_eq_zero_iff.mp (by omega)
    subst e
    refine ⟨M, ?_, same.rf, rfl, trivial, fun k hk => absurd hk List.not_mem_nil, fun j _ => rfl, fun j _ => rfl⟩
    show ev prog (0 + 3) 63 0 0 [vr 87, vi (f : Int), vi ((f + 0 : Nat) : Int), vi (dp : Int), vi par, vj, vj] [] (shp, M) = _
    rw [g63_0, if_pos (by omega)]
    rfl
  | succ D ih =>
    intro l f dp par M hV hs hlt hnd hf hdp hl
    by_cases c : l = []
    · subst c
      refine ⟨M, ?_, same.rf, rfl, trivial, fun k hk => absurd hk List.not_mem_nil, fun j _ => rfl, fun j _ => rfl⟩
      show ev prog (D + 1 + 3) 63 0 0 [vr 87, vi (f : Int), vi ((f + 0 : Nat) : Int), vi (dp : Int), vi par, vj, vj] [] (shp, M) = _
      rw [g63_0, if_pos (by omega)]
      rfl
    · have hlen : 0 < l.length := List.length_pos_iff.mpr c
      have hperm := bS_perm V c dp
      obtain ⟨m1, m2, m3, m4, m5⟩ := nd_i (hperm.nodup_iff.mpr hnd)
      have hbm := bm_mem V c dp
      have hbL := bL_sub V c dp
      have hbR := bR_sub V c dp
      have lL := bL_len V l dp
      have lR := bR_len V l dp
      have hn := hlt _ hbm
      obtain ⟨M1, a1, a2, a3, a4⟩ := sp62 (M := M) (D + 1) hV (f := f) (a := dp % 3) (Nat.mod_lt _ (by decide)) hf hlt hs
      have a3 : slc M1 90 f (bS V l dp) := a3
      rw [bS_eq V c dp] at a3
      obtain ⟨t1, t2⟩ := slc_app.mp a3
      obtain ⟨t3, t4⟩ := slc_app.mp t2
      rw [lL] at t3 t4
      have t3 : M1 90 (f + l.length / 2) = (bm V l dp : Int) := slc_one.mp t3
      obtain ⟨M2, hM2⟩ : ∃ M2, M2 = mset (mset M1 88 (1200 + bm V l dp) 1) 88 (1800 + bm V l dp) par := ⟨_, rfl⟩
      have s2 : same [88] M1 M2 := by rw [hM2]; exact same_mset.tr same_mset
      have m2' : ∀ j, j ≠ 1200 + bm V l dp → j ≠ 1800 + bm V l dp → M2 88 j = M1 88 j := fun j h1 h2 => by rw [hM2, mset_j h2, mset_j h1]
      have m2a : M2 88 (1200 + bm V l dp) = 1 := by rw [hM2, mset_j (by omega), mset_at]
      have m2b : M2 88 (1800 + bm V l dp) = par := by rw [hM2, mset_at]
      have hV2 : vw M2 V := vw_c (vw_row hV a2) (fun j hj => m2' j (by omega) (by omega))
      obtain ⟨M3, b1, b2, b3, b4, b5, b6, b7⟩ := ih (bL V l dp) f (dp + 1) (bm V l dp : Int) M2 hV2 (slc_c t1 (fun j _ _ => by rw [s2 90 (by decide)])) (fun x hx => hlt x (hbL x hx)) m3 (by omega) (by omega) (by omega)
      obtain ⟨M4, hM4⟩ : ∃ M4, M4 = mset M3 88 (1400 + bm V l dp) (rt (bld V (bL V l dp) (dp + 1))) := ⟨_, rfl⟩
      have s4 : same [88] M3 M4 := by rw [hM4]; exact same_mset
      have m4' : ∀ j, j ≠ 1400 + bm V l dp → M4 88 j = M3 88 j := fun j h1 => by rw [hM4, mset_j h1]
      have hLlt : ∀ x ∈ bL V l dp, x < 200 := fun x hx => hlt x (hbL x hx)
      have hRlt : ∀ x ∈ bR V l dp, x < 200 := fun x hx => hlt x (hbR x hx)
      have hV4 : vw M4 V := vw_c hV2 (fun j hj => (m4' j (by omega)).trans (b6 j (fun x hx => by have := hLlt x hx; omega)))
      obtain ⟨M5, c1, c2, c3, c4, c5, c6, c7⟩ := ih (bR V l dp) (f + l.length / 2 + 1) (dp + 1) (bm V l dp : Int) M4 hV4 (slc_c t4 (fun j h1 h2 => by rw [s4 90 (by decide), b7 j (by omega), s2 90 (by decide)])) hRlt m4 (by omega) (by omega) (by omega)
      obtain ⟨M6, hM6⟩ : ∃ M6, M6 = mset M5 88 (1600 + bm V l dp) (rt (bld V (bR V l dp) (dp + 1))) := ⟨_, rfl⟩
      have s6 : same [88] M5 M6 := by rw [hM6]; exact same_mset
      have m6' : ∀ j, j ≠ 1600 + bm V l dp → M6 88 j = M5 88 j := fun j h1 => by rw [hM6, mset_j h1]
      have nR : ∀ x ∈ bR V l dp, x ≠ bm V l dp := fun x hx e => m2 (by rw [← e]; exact hx)
      have nL : ∀ x ∈ bL V l dp, x ≠ bm V l dp := fun x hx e => m1 (by rw [← e]; exact hx)
      have nLR : ∀ x ∈ bL V l dp, ∀ y ∈ bR V l dp, x ≠ y := fun x hx y hy e => m5 x hx (by rw [e]; exact hy)
      have pL := bld_perm V _ (bL V l dp) (dp + 1) (Nat.le_refl _)
      have pR := bld_perm V _ (bR V l dp) (dp + 1) (Nat.le_refl _)
      -- what stands at n's places
      have q12 : M6 88 (1200 + bm V l dp) = 1 := by
        rw [m6' _ (by omega), c6 _ (fun x hx => by have := nR x hx; have := hRlt x hx; omega), m4' _ (by omega), b6 _ (fun x hx => by have := nL x hx; have := hLlt x hx; omega), m2a]
      have q18 : M6 88 (1800 + bm V l dp) = par := by
        rw [m6' _ (by omega), c6 _ (fun x hx => by have := nR x hx; have := hRlt x hx; omega), m4' _ (by omega), b6 _ (fun x hx => by have := nL x hx; have := hLlt x hx; omega), m2b]
      have q14 : M6 88 (1400 + bm V l dp) = rt (bld V (bL V l dp) (dp + 1)) := by
        rw [m6' _ (by omega), c6 _ (fun x hx => by have := nR x hx; have := hRlt x hx; omega), hM4, mset_at]
      have q16 : M6 88 (1600 + bm V l dp) = rt (bld V (bR V l dp) (dp + 1)) := by rw [hM6, mset_at]
      -- the left points
      have qL : ∀ x ∈ bL V l dp, ∀ g, (g = 1200 ∨ g = 1400 ∨ g = 1600 ∨ g = 1800) → M6 88 (g + x) = M3 88 (g + x) := fun x hx g hg => by
        have := nL x hx
        have := hLlt x hx
        rw [m6' _ (by omega), c6 _ (fun y hy => by have := nLR x hx y hy; have := hRlt y hy; omega), m4' _ (by omega)]
      have qR : ∀ x ∈ bR V l dp, ∀ g, (g = 1200 ∨ g = 1400 ∨ g = 1600 ∨ g = 1800) → M6 88 (g + x) = M5 88 (g + x) := fun x hx g hg => by
        have := nR x hx
        have := hRlt x hx
        exact m6' _ (by omega)
      have hmid := wmid (f := f) (n := l.length) (by omega)
      have b1 : run prog (D + 1 + 2) 63 [vr 87, vi (f : Int), vi ((f + (bL V l dp).length : Nat) : Int), vi ((dp + 1 : Nat) : Int), vi (bm V l dp : Int)] (shp, M2) = _ := b1
      rw [lL] at b1
      have c1 : run prog (D + 1 + 2) 63 [vr 87, vi ((f + l.length / 2 + 1 : Nat) : Int), vi ((f + l.length / 2 + 1 + (bR V l dp).length : Nat) : Int), vi ((dp + 1 : Nat) : Int), vi (bm V l dp : Int)] (shp, M4) = _ := c1
      rw [show f + l.length / 2 + 1 + (bR V l dp).length = f + l.length by omega] at c1
      have a1 : run prog (D + 1 + 2) 62 [vr 87, vi (f : Int), vi ((f + l.length : Nat) : Int), vi ((dp % 3 : Nat) : Int)] (shp, M) = _ := a1
      refine ⟨M6, ?_, (a2.mono (by decide)).tr ((s2.mono (by decide)).tr (b2.tr ((s4.mono (by decide)).tr (c2.tr (s6.mono (by decide)))))), ?_, ?_, fun x hx => ?_, fun j hj => ?_, fun j hj => ?_⟩
      · show ev prog (D + 1 + 3) 63 0 0 [vr 87, vi (f : Int), vi ((f + l.length : Nat) : Int), vi (dp : Int), vi par, vj, vj] [] (shp, M) = _
        rw [g63_0, if_neg (by clear hmid; omega), tm3, a1, callK_r, psh_n, g63_3, hmid, if_pos (gi200 (by clear hmid; omega)), Int.toNat_natCast, t3, x1200 hn, x1800 hn, if_pos (gi2031 (by clear hmid; omega)), if_pos (gi2031 (by clear hmid; omega)), Int.toNat_natCast, Int.toNat_natCast, ← hM2, wI (by clear hmid; omega), b1, callK_r, psh_s, x1400 hn, g63_7, if_pos (gi2031 (by clear hmid; omega)), Int.toNat_natCast, ← hM4, wI (n := f + l.length / 2) (by clear hmid; omega), wI (n := dp) (by clear hmid; omega), c1, callK_r, psh_s, x1600 hn, g63_9, if_pos (gi2031 (by clear hmid; omega)), Int.toNat_natCast, ← hM6, bld_i V c]
        rfl
      · rw [bld_i V c]
        refine ⟨rfl, hn, ?_, ?_⟩
        · show isT _ _ _ (M6 88 (1400 + bm V l dp))
          rw [q14]
          exact mT_c b3 (fun x hx => ⟨qL x (pL.mem_iff.mp hx) 1400 (by decide), qL x (pL.mem_iff.mp hx) 1600 (by decide)⟩)
        · show isT _ _ _ (M6 88 (1600 + bm V l dp))
          rw [q16]
          exact mT_c c3 (fun x hx => ⟨qR x (pR.mem_iff.mp hx) 1400 (by decide), qR x (pR.mem_iff.mp hx) 1600 (by decide)⟩)
      · rw [bld_i V c]
        exact ⟨q18, isU_c (fun x hx => qL x (pL.mem_iff.mp hx) 1800 (by decide)) b4, isU_c (fun x hx => qR x (pR.mem_iff.mp hx) 1800 (by decide)) c4⟩
      · rcases List.mem_cons.mp (hperm.mem_iff.mpr hx) with e | h
        · rw [e]; exact q12
        · rcases List.mem_append.mp h with h | h
          · rw [qL x h 1200 (by decide)]; exact b5 x h
          · rw [qR x h 1200 (by decide)]; exact c5 x h
      · have j1 := hj _ hbm
        rw [m6' j j1.2.2.1, c6 j (fun x hx => hj x (hbR x hx)), m4' j j1.2.1, b6 j (fun x hx => hj x (hbL x hx)), m2' j j1.1 j1.2.2.2, a2 88 (by decide)]
      · rw [s6 90 (by decide), c7 j (by omega), s4 90 (by decide), b7 j (by omega), s2 90 (by decide), a4 j hj]
