/-! THE CURSOR: THE MODEL -/
def tk (M : mM) (Z : List Nat) : Prop := M 87 10 = (Z.length : Int) ∧ slc M 93 0 Z
theorem sp246 {M : mM} (hI : Iv M) (d : Nat) {Z : List Nat} (h : tk M Z) (hl : Z.length < 200) {k : Nat} (hk : k < 200) : ∃ M', run prog (d + 1) 246 [vr 87, vi (k : Int)] (shp, M) = some (.inl none, (shp, M')) ∧ tk M' (Z ++ [k].filter (alv M)) ∧ same [87, 93] M M' ∧ ∀ j, j ≠ 10 → M' 87 j = M 87 j := by
  show ∃ M', ev prog (d + 1) 246 0 0 [vr 87, vi (k : Int)] [] (shp, M) = _ ∧ _
  obtain ⟨h1, h2⟩ := h
  rw [g246_0, x1000 hk, if_pos (gi2031 (by omega)), Int.toNat_natCast, g1k hI hk, h1]
  cases ha : alv M k with
  | true =>
    refine ⟨mset (mset M 93 Z.length (k : Int)) 87 10 ((Z.length + 1 : Nat) : Int), ?_, ⟨?_, ?_⟩, (same_mset.mono (by decide)).tr (same_mset.mono (by decide)), fun j hj => by rw [mset_j hj, mset_k (by decide)]⟩
    · rw [if_pos (alv_t ha), if_pos (gi200 hl), Int.toNat_natCast, wI (by omega)]
    · rw [mset_at, List.filter_cons_of_pos ha, List.length_append]
      rfl
    · rw [List.filter_cons_of_pos ha]
      show slc _ 93 0 (Z ++ [k])
      rw [slc_app, slc_one, Nat.zero_add]
      refine ⟨slc_c h2 (fun j _ hj => by rw [mset_k (by decide), mset_j (by omega)]), ?_⟩
      rw [mset_k (by decide), mset_at]
  | false =>
    refine ⟨M, by rw [if_neg (by rw [alv_f hI hk ha]; decide)], ?_, same.rf, fun j _ => rfl⟩
    rw [List.filter_cons_of_neg (by rw [ha]; decide)]
    show tk M (Z ++ [])
    rw [List.append_nil]
    exact ⟨h1, h2⟩
theorem Iv_87 {M M' : mM} (h : Iv M) (hs : same [87, 93] M M') : Iv M' := h.same hs (by decide)
theorem fl1 (f : Nat → Bool) (k : Nat) : ([k].filter f).length ≤ 1 := List.length_filter_le _ _
theorem sp247 : ∀ (t : Tr) (D : Nat) (Z : List Nat) (M : mM), Iv M → isT (mlf M) (mrf M) t (rt t) → ht t ≤ D → tk M Z → Z.length + sz t ≤ 200 → ∃ M', run prog (D + 2) 247 [vr 87, vi (rt t)] (shp, M) = some (.inl none, (shp, M')) ∧ tk M' (Z ++ lk M t) ∧ same [87, 93] M M' ∧ ∀ j, j ≠ 10 → M' 87 j = M 87 j := by
  intro t
  induction t with
  | leaf =>
    intro D Z M _ _ _ h _
    refine ⟨M, ?_, by show tk M (Z ++ []); rw [List.append_nil]; exact h, same.rf, fun j _ => rfl⟩
    show ev prog (D + 2) 247 0 0 [vr 87, vi (-1)] [] (shp, M) = _
    rw [g247_0, if_pos (by decide)]
  | inner s k v l r ihl ihr =>
    intro D Z M hI hT hD h hz
    obtain ⟨D', rfl, d1, d2⟩ := ht_s hD
    obtain ⟨hk, e3, e4, h3, h4⟩ := mT_i hT
    rw [sz_i] at hz
    obtain ⟨M1, a1, a2, a3, a4⟩ := sp246 hI (D' + 1) h (by omega) hk
    have hI1 := Iv_87 hI a3
    have f1 := fl1 (alv M) k
    obtain ⟨M2, b1, b2, b3, b4⟩ := ihl D' _ M1 hI1 (mT_c h3 (fun x _ => by rw [a3 88 (by decide)]; exact ⟨rfl, rfl⟩)) d1 a2 (by rw [List.length_append]; omega)
    have hI2 := Iv_87 hI1 b3
    rw [lk_c (a3 11 (by decide))] at b2
    have fl := lk_le M l
    have s2 : same [87, 93] M M2 := a3.tr b3
    obtain ⟨M3, c1, c2, c3, c4⟩ := ihr D' _ M2 hI2 (mT_c h4 (fun x _ => by rw [s2 88 (by decide)]; exact ⟨rfl, rfl⟩)) d2 b2 (by rw [List.length_append, List.length_append]; omega)
    rw [lk_c (s2 11 (by decide))] at c2
    have b1 : run prog (D' + 1 + 1) 247 [vr 87, vi (rt l)] (shp, M1) = _ := b1
    have c1 : run prog (D' + 1 + 1) 247 [vr 87, vi (rt r)] (shp, M2) = _ := c1
    refine ⟨M3, ?_, ?_, s2.tr c3, fun j hj => (c4 j hj).trans ((b4 j hj).trans (a4 j hj))⟩
    · rw [rt_i]
      show ev prog (D' + 1 + 2) 247 0 0 [vr 87, vi (k : Int)] [] (shp, M) = _
      rw [g247_0, if_neg (by omega), a1, callK_r, psh_n, g247_3, x1400 hk, if_pos (gi2031 (by omega)), Int.toNat_natCast, a3 88 (by decide), e3, b1, callK_r, psh_n, g247_5, x1600 hk, if_pos (gi2031 (by omega)), Int.toNat_natCast, s2 88 (by decide), e4, c1, callK_r, psh_n, g247_7]
    · have : lk M (.inner s k v l r) = [k].filter (alv M) ++ lk M l ++ lk M r := by
        unfold lk
        show List.filter (alv M) ([k] ++ (ks l ++ ks r)) = _
        rw [List.filter_append, List.filter_append, List.append_assoc]
      rw [this, ← List.append_assoc, ← List.append_assoc]
      exact c2
theorem io_len (t : Tr) : (io t).length = sz t := (io_perm t).length_eq
theorem sp248 : ∀ (t : Tr) (D : Nat) (Z : List Nat) (M : mM), Iv M → isT (mlf M) (mrf M) t (rt t) → ht t ≤ D → tk M Z → Z.length + sz t ≤ 200 → ∃ M', run prog (D + 2) 248 [vr 87, vi (rt t)] (shp, M) = some (.inl none, (shp, M')) ∧ tk M' (Z ++ (io t).filter (alv M)) ∧ same [87, 93] M M' ∧ ∀ j, j ≠ 10 → M' 87 j = M 87 j := by
  intro t
  induction t with
  | leaf =>
    intro D Z M _ _ _ h _
    refine ⟨M, ?_, by show tk M (Z ++ []); rw [List.append_nil]; exact h, same.rf, fun j _ => rfl⟩
    show ev prog (D + 2) 248 0 0 [vr 87, vi (-1)] [] (shp, M) = _
    rw [g248_0, if_pos (by decide)]
  | inner s k v l r ihl ihr =>
    intro D Z M hI hT hD h hz
    obtain ⟨D', rfl, d1, d2⟩ := ht_s hD
    obtain ⟨hk, e3, e4, h3, h4⟩ := mT_i hT
    rw [sz_i] at hz
    obtain ⟨M2, b1, b2, b3, b4⟩ := ihl D' _ M hI h3 d1 h (by omega)
    have hI2 := Iv_87 hI b3
    have fl : ((io l).filter (alv M)).length ≤ sz l := by rw [← io_len]; exact List.length_filter_le _ _
    obtain ⟨M1, a1, a2, a3, a4⟩ := sp246 hI2 (D' + 1) b2 (by rw [List.length_append]; omega) hk
    rw [alv_c (b3 11 (by decide))] at a2
    have hI1 := Iv_87 hI2 a3
    have f1 := fl1 (alv M) k
    have s2 : same [87, 93] M M1 := b3.tr a3
    obtain ⟨M3, c1, c2, c3, c4⟩ := ihr D' _ M1 hI1 (mT_c h4 (fun x _ => by rw [s2 88 (by decide)]; exact ⟨rfl, rfl⟩)) d2 a2 (by rw [List.length_append, List.length_append]; omega)
    rw [alv_c (s2 11 (by decide))] at c2
    have b1 : run prog (D' + 1 + 1) 248 [vr 87, vi (rt l)] (shp, M) = _ := b1
    have c1 : run prog (D' + 1 + 1) 248 [vr 87, vi (rt r)] (shp, M1) = _ := c1
    refine ⟨M3, ?_, ?_, s2.tr c3, fun j hj => (c4 j hj).trans ((a4 j hj).trans (b4 j hj))⟩
    · rw [rt_i]
      show ev prog (D' + 1 + 2) 248 0 0 [vr 87, vi (k : Int)] [] (shp, M) = _
      rw [g248_0, if_neg (by omega), x1400 hk, if_pos (gi2031 (by omega)), Int.toNat_natCast, e3, b1, callK_r, psh_n, g248_4, a1, callK_r, psh_n, g248_5, x1600 hk, if_pos (gi2031 (by omega)), Int.toNat_natCast, s2 88 (by decide), e4, c1, callK_r, psh_n, g248_7]
    · have : (io (.inner s k v l r)).filter (alv M) = (io l).filter (alv M) ++ [k].filter (alv M) ++ (io r).filter (alv M) := by
        rw [io_i]
        show List.filter (alv M) (io l ++ ([k] ++ io r)) = _
        rw [List.filter_append, List.filter_append, List.append_assoc]
      rw [this, ← List.append_assoc, ← List.append_assoc]
      exact c2
theorem sp249 : ∀ (t : Tr) (D j : Nat) (Z : List Nat) (M : mM), Iv M → isT (mlf M) (mrf M) t (rt t) → ht t ≤ D → j ≤ 1000 → tk M Z → Z.length + (gl t j).length ≤ 200 → ∃ M', run prog (D + 2) 249 [vr 87, vi (rt t), vi (j : Int)] (shp, M) = some (.inl none, (shp, M')) ∧ tk M' (Z ++ (gl t j).filter (alv M)) ∧ same [87, 93] M M' ∧ ∀ i, i ≠ 10 → M' 87 i = M 87 i := by
  intro t
  induction t with
  | leaf =>
    intro D j Z M _ _ _ _ h _
    refine ⟨M, ?_, by show tk M (Z ++ []); rw [List.append_nil]; exact h, same.rf, fun j _ => rfl⟩
    show ev prog (D + 2) 249 0 0 [vr 87, vi (-1), vi (j : Int)] [] (shp, M) = _
    rw [g249_0, if_pos (by decide)]
  | inner s k v l r ihl ihr =>
    intro D j Z M hI hT hD hj h hz
    obtain ⟨D', rfl, d1, d2⟩ := ht_s hD
    obtain ⟨hk, e3, e4, h3, h4⟩ := mT_i hT
    rw [rt_i]
    show ∃ M', ev prog (D' + 1 + 2) 249 0 0 [vr 87, vi (k : Int), vi (j : Int)] [] (shp, M) = _ ∧ _
    rw [g249_0, if_neg (by omega)]
    cases j with
    | zero =>
      have hz : Z.length + 1 ≤ 200 := hz
      obtain ⟨M1, a1, a2, a3, a4⟩ := sp246 hI (D' + 1) h (by omega) hk
      exact ⟨M1, by rw [if_pos (by decide), a1, callK_r, psh_n, g249_4], a2, a3, a4⟩
    | succ j =>
      have hz : Z.length + (gl l j ++ gl r j).length ≤ 200 := hz
      rw [List.length_append] at hz
      obtain ⟨M2, b1, b2, b3, b4⟩ := ihl D' j _ M hI h3 d1 (by omega) h (by omega)
      have hI2 := Iv_87 hI b3
      have fl : ((gl l j).filter (alv M)).length ≤ (gl l j).length := List.length_filter_le _ _
      obtain ⟨M3, c1, c2, c3, c4⟩ := ihr D' j _ M2 hI2 (mT_c h4 (fun x _ => by rw [b3 88 (by decide)]; exact ⟨rfl, rfl⟩)) d2 (by omega) b2 (by rw [List.length_append]; omega)
      rw [alv_c (b3 11 (by decide))] at c2
      have b1 : run prog (D' + 1 + 1) 249 [vr 87, vi (rt l), vi (j : Int)] (shp, M) = _ := b1
      have c1 : run prog (D' + 1 + 1) 249 [vr 87, vi (rt r), vi (j : Int)] (shp, M2) = _ := c1
      refine ⟨M3, ?_, ?_, b3.tr c3, fun i hi => (c4 i hi).trans (b4 i hi)⟩
      · rw [if_neg (by omega), x1400 hk, if_pos (gi2031 (by omega)), Int.toNat_natCast, e3, wD (n := j) (by omega), b1, callK_r, psh_n, g249_7, x1600 hk, if_pos (gi2031 (by omega)), Int.toNat_natCast, b3 88 (by decide), e4, wD (n := j) (by omega), c1, callK_r, psh_n, g249_9]
      · show tk M3 (Z ++ (gl l j ++ gl r j).filter (alv M))
        rw [List.filter_append, ← List.append_assoc]
        exact c2
theorem lvs_len (t : Tr) : (lvs (ht t) (gl t)).length ≤ sz t := by
  have key : ∀ (q : Nat) (L : List Tr), (bfq q L).length ≤ q := by
    intro q
    induction q with
    | zero => intro L; exact Nat.le_refl _
    | succ q ih =>
      intro L
      cases L with
      | nil => exact Nat.zero_le _
      | cons t L =>
        have h1 := ih (L ++ ch1 t)
        have h2 : (rk1 t).length ≤ 1 := by
          cases t with
          | leaf => exact Nat.zero_le _
          | inner s k v l r => exact Nat.le_refl 1
        show (rk1 t ++ bfq q (L ++ ch1 t)).length ≤ q + 1
        rw [List.length_append]
        omega
  rw [← bfq_t]
  exact key _ _
theorem lvs_mono (f : Nat → List Nat) : ∀ {a b : Nat}, a ≤ b → (lvs a f).length ≤ (lvs b f).length := by
  intro a b h
  induction h with
  | refl => exact Nat.le_refl _
  | step h ih => show _ ≤ (lvs _ f ++ f _).length; rw [List.length_append]; omega
theorem lvs_fl (f : Nat → List Nat) (p : Nat → Bool) : ∀ h, (lvs h f).filter p = lvs h (fun j => (f j).filter p) := by
  intro h
  induction h with
  | zero => rfl
  | succ h ih => show (lvs h f ++ f h).filter p = lvs h _ ++ (f h).filter p; rw [List.filter_append, ih]
/-- the points in an order -/
def ord (M : mM) (t : Tr) (o : Int) : List Nat := if o = 0 then lk M t else if o = 1 then (io t).filter (alv M) else (lvs (ht t) (gl t)).filter (alv M)
theorem ord_le (M : mM) (t : Tr) (o : Int) : (ord M t o).length ≤ sz t := by
  unfold ord
  split
  · exact lk_le M t
  · split
    · rw [← io_len]; exact List.length_filter_le _ _
    · exact Nat.le_trans (List.length_filter_le _ _) (lvs_len t)
theorem sp250 {M : mM} (hI : Iv M) (d : Nat) {t : Tr} (hT : isT (mlf M) (mrf M) t (M 88 2000)) (hsz : sz t ≤ 200) {o : Int} (ho : 0 ≤ o ∧ o ≤ 2) :
    ∃ M', run prog (d + 210) 250 [vr 87, vi o] (shp, M) = some (.inl (some (vi ((ord M t o).length : Int))), (shp, M')) ∧ tk M' (ord M t o) ∧ same [87, 93] M M' ∧ M' 87 3 = 0 ∧ M' 87 11 = 0 ∧ M' 87 8 = 1 ∧ ∀ j, j ≠ 3 → j ≠ 8 → j ≠ 10 → j ≠ 11 → M' 87 j = M 87 j := by
  show ∃ M', ev prog (d + 210) 250 0 0 [vr 87, vi o, vj] [] (shp, M) = _ ∧ _
  obtain ⟨M0, hM0⟩ : ∃ M0, M0 = mset (mset (mset (mset M 87 3 0) 87 10 0) 87 11 0) 87 8 1 := ⟨_, rfl⟩
  have s0 : same [87] M M0 := by rw [hM0]; exact ((same_mset.tr same_mset).tr same_mset).tr same_mset
  have hI0 : Iv M0 := hI.same s0 (by decide)
  have hrt := isT_rt hT
  have hT0 : isT (mlf M0) (mrf M0) t (rt t) := by
    rw [← hrt]
    exact mT_c hT (fun x _ => by rw [s0 88 (by decide)]; exact ⟨rfl, rfl⟩)
  have h0 : tk M0 [] := ⟨by rw [hM0, mset_j (by decide), mset_j (by decide), mset_at]; rfl, slc_nil⟩
  have f3 : M0 87 3 = 0 := by rw [hM0, mset_j (by decide), mset_j (by decide), mset_j (by decide), mset_at]
  have f11 : M0 87 11 = 0 := by rw [hM0, mset_j (by decide), mset_at]
  have f8 : M0 87 8 = 1 := by rw [hM0, mset_at]
  have fo : ∀ j, j ≠ 3 → j ≠ 8 → j ≠ 10 → j ≠ 11 → M0 87 j = M 87 j := fun j a b c e => by rw [hM0, mset_j b, mset_j e, mset_j c, mset_j a]
  have hh := ht_le t
  have fin : ∀ M', same [87, 93] M0 M' → (∀ j, j ≠ 10 → M' 87 j = M0 87 j) → same [87, 93] M M' ∧ M' 87 3 = 0 ∧ M' 87 11 = 0 ∧ M' 87 8 = 1 ∧ ∀ j, j ≠ 3 → j ≠ 8 → j ≠ 10 → j ≠ 11 → M' 87 j = M 87 j := fun M' h1 h2 => ⟨(s0.mono (by decide)).tr h1, by rw [h2 3 (by decide)]; exact f3, by rw [h2 11 (by decide)]; exact f11, by rw [h2 8 (by decide)]; exact f8, fun j a b c e => (h2 j c).trans (fo j a b c e)⟩
  have e51 : ∀ N : mM, p51 o 0 2 N = true := fun N => by unfold p51; rw [if_neg (by omega), if_neg (by omega)]
  have e2000 : M 88 2000 = rt t := hrt
  have elk : lk M0 t = lk M t := lk_c (s0 11 (by decide)) t
  have ealv : alv M0 = alv M := alv_c (s0 11 (by decide))
  rw [g250_0, e51, if_neg (show ¬ bi true = 0 by decide), e2000, ← hM0]
  by_cases c0 : o = 0
  · obtain ⟨M', a1, a2, a3, a4⟩ := sp247 t (d + 207) [] M0 hI0 hT0 (by omega) h0 (by show 0 + sz t ≤ 200; omega)
    have a1 : run prog (d + 209) 247 [vr 87, vi (rt t)] (shp, M0) = _ := a1
    rw [List.nil_append, elk] at a2
    refine ⟨M', ?_, ?_, fin M' a3 a4⟩
    · unfold ord
      rw [if_pos c0, a1, callK_r, psh_n, g250_7, g250_12, if_neg (by omega), a2.1, if_pos c0]
    · unfold ord
      rw [if_pos c0]
      exact a2
  · rw [if_neg c0]
    by_cases c1 : o = 1
    · obtain ⟨M', a1, a2, a3, a4⟩ := sp248 t (d + 207) [] M0 hI0 hT0 (by omega) h0 (by show 0 + sz t ≤ 200; omega)
      have a1 : run prog (d + 209) 248 [vr 87, vi (rt t)] (shp, M0) = _ := a1
      rw [List.nil_append, ealv] at a2
      refine ⟨M', ?_, ?_, fin M' a3 a4⟩
      · unfold ord
        rw [if_pos c1, a1, callK_r, psh_n, g250_11, g250_12, if_neg (by omega), a2.1, if_neg c0, if_pos c1]
      · unfold ord
        rw [if_neg c0, if_pos c1]
        exact a2
    · have c2 : o = 2 := by omega
      have hlen := lvs_len t
      obtain ⟨M', a1, a2, a3, a4⟩ := up_inv (fun N i => ev prog (d + 210) 250 0 12 [vr 87, vi o, vi (i : Int)] [] (shp, N)) (fun i N => tk N ((lvs i (gl t)).filter (alv M)) ∧ same [87, 93] M0 N ∧ ∀ j, j ≠ 10 → N 87 j = M0 87 j) (ht t) (fun i N hi hJ => by
        obtain ⟨k1, k2, k3⟩ := hJ
        have hIN := Iv_87 hI0 k2
        have hTN : isT (mlf N) (mrf N) t (rt t) := mT_c hT0 (fun x _ => by rw [k2 88 (by decide)]; exact ⟨rfl, rfl⟩)
        have hm := lvs_mono (gl t) (show i + 1 ≤ ht t from hi)
        have hm : (lvs i (gl t) ++ gl t i).length ≤ (lvs (ht t) (gl t)).length := hm
        rw [List.length_append] at hm
        have hfl := List.length_filter_le (alv M) (lvs i (gl t))
        obtain ⟨M2, b1, b2, b3, b4⟩ := sp249 t (d + 207) i _ N hIN hTN (by omega) (by omega) k1 (by omega)
        have b1 : run prog (d + 209) 249 [vr 87, vi (rt t), vi (i : Int)] (shp, N) = _ := b1
        have h118 : run prog (d + 209) 118 [vr 87, vi (rt t)] (shp, N) = _ := sp118 t (d + 207) hTN hsz (by omega)
        have eN : N 88 2000 = rt t := by rw [k2 88 (by decide), s0 88 (by decide)]; exact hrt
        rw [alv_c (show N 11 = M 11 by rw [k2 11 (by decide), s0 11 (by decide)])] at b2
        refine ⟨M2, ?_, ?_, k2.tr b3, fun j hj => (b4 j hj).trans (k3 j hj)⟩
        · show ev prog (d + 210) 250 0 12 [vr 87, vi o, vi (i : Int)] [] (shp, N) = ev prog (d + 210) 250 0 12 [vr 87, vi o, vi ((i + 1 : Nat) : Int)] [] (shp, M2)
          rw [g250_12, if_pos c2, eN, h118, callK_r, psh_s, g250_15, if_pos (by omega), eN, b1, callK_r, psh_n, g250_18, wI (by omega)]
        · show tk M2 ((lvs i (gl t) ++ gl t i).filter (alv M))
          rw [List.filter_append]
          exact b2) (M := M0) ⟨h0, same.rf, fun j _ => rfl⟩
      have hTN : isT (mlf M') (mrf M') t (rt t) := mT_c hT0 (fun x _ => by rw [a3 88 (by decide)]; exact ⟨rfl, rfl⟩)
      have h118 : run prog (d + 209) 118 [vr 87, vi (rt t)] (shp, M') = _ := sp118 t (d + 207) hTN hsz (by omega)
      have eN : M' 88 2000 = rt t := by rw [a3 88 (by decide), s0 88 (by decide)]; exact hrt
      refine ⟨M', ?_, ?_, fin M' a3 a4⟩
      · rw [if_neg c1]
        refine Eq.trans a1 ?_
        show ev prog (d + 210) 250 0 12 [vr 87, vi o, vi (ht t : Int)] [] (shp, M') = _
        rw [g250_12, if_pos c2, eN, h118, callK_r, psh_s, g250_15, if_neg (by omega), a2.1]
        unfold ord
        rw [if_neg c0, if_neg c1]
      · unfold ord
        rw [if_neg c0, if_neg c1]
        exact a2
/-! the class opens -/
theorem sp244 {M : mM} (d : Nat) {n : Nat} {t : Tr} (h : CT M n t) {o : Int} (ho : 0 ≤ o ∧ o ≤ 2) : ∃ M', run prog (d + 6) 244 [vr 5, vi o] (shp, M) = some (.inl (some (vi ((ord M t o).length : Int))), (shp, M')) ∧ nums M' 80 (natI (ord M t o)) ∧ same [79, 80, 81, 82, 83] M M' ∧ M' 79 3 = 0 ∧ M' 79 4 = 1 := by
  show ∃ M', ev prog (d + 6) 244 0 0 [vr 5, vi o] [] (shp, M) = _ ∧ _
  obtain ⟨M0, hM0⟩ : ∃ M0, M0 = mset (mset (mset (mset M 80 1 0) 82 1 0) 79 3 0) 79 4 1 := ⟨_, rfl⟩
  have s0 : same [79, 80, 82] M M0 := by rw [hM0]; exact (((same_mset.mono (by decide)).tr (same_mset.mono (by decide))).tr (same_mset.mono (by decide))).tr (same_mset.mono (by decide))
  have n80 : nums M0 80 [] := by
    rw [hM0]
    exact nums_put (nums_put (nums_put nums_nil _ _ 82 (by decide) (by decide)) _ _ 79 (by decide) (by decide)) _ _ 79 (by decide) (by decide)
  have n82 : nums M0 82 [] := by
    rw [hM0]
    exact nums_put (nums_put nums_nil _ _ 79 (by decide) (by decide)) _ _ 79 (by decide) (by decide)
  have f3 : M0 79 3 = 0 := by rw [hM0, mset_j (by decide), mset_at]
  have f4 : M0 79 4 = 1 := by rw [hM0, mset_at]
  have hC : CT M0 n t := by
    obtain ⟨h1, h2, h3, h4, h5, h6⟩ := h
    refine ⟨by rw [s0 7 (by decide)]; exact h1, h2, ?_, h4, h5, TD_c (fun x hx => s0 x (by simp at hx ⊢; omega)) h6⟩
    rw [clf_c (s0 13 (by decide)), crf_c (s0 13 (by decide)), s0 12 (by decide)]
    exact h3
  have elk : lk M0 t = lk M t := lk_c (s0 11 (by decide)) t
  have ealv : alv M0 = alv M := alv_c (s0 11 (by decide))
  have fin : ∀ M' Z, run prog (d + 5) 243 [vr 79, vi o] (shp, M) = some (.inl (some (vi (M' 80 1))), (shp, M')) → nums M' 80 (natI Z) → ord M t o = Z → same [80, 81, 82, 83] M0 M' → ∃ M', ev prog (d + 6) 244 0 0 [vr 5, vi o] [] (shp, M) = some (.inl (some (vi ((ord M t o).length : Int))), (shp, M')) ∧ nums M' 80 (natI (ord M t o)) ∧ same [79, 80, 81, 82, 83] M M' ∧ M' 79 3 = 0 ∧ M' 79 4 = 1 := by
    intro M' Z h1 h2 h3 h4
    refine ⟨M', ?_, by rw [h3]; exact h2, (s0.mono (by decide)).tr (h4.mono (by decide)), by rw [h4 79 (by decide)]; exact f3, by rw [h4 79 (by decide)]; exact f4⟩
    have hz : M' 80 1 = ((ord M t o).length : Int) := by rw [h3, h2.1, natI_len]
    rw [hz] at h1
    rw [g244_0]
    by_cases c0 : o = 0
    · rw [if_pos c0, h1, callK_r, psh_s, g244_5]
    · rw [if_neg c0]
      by_cases c1 : o = 1
      · rw [if_pos c1, h1, callK_r, psh_s, g244_5]
      · rw [if_neg c1, if_pos (by omega), h1, callK_r, psh_s, g244_5]
  have e243 : run prog (d + 5) 243 [vr 79, vi o] (shp, M) = ev prog (d + 5) 243 0 2 [vr 79, vi o] [] (shp, mset (mset M 80 1 0) 82 1 0) := by
    show ev prog (d + 5) 243 0 0 [vr 79, vi o] [] (shp, M) = _
    rw [g243_0]
  by_cases c0 : o = 0
  · subst c0
    obtain ⟨M', a1, a2, a3⟩ := sp239 d hC n80
    refine fin M' _ ?_ a2 (by unfold ord; rw [if_pos rfl, elk]) (a3.mono (by decide))
    rw [e243, b243_2_0, ← hM0, g243_3, a1, callK_r, psh_n, g243_4]
  · by_cases c1 : o = 1
    · subst c1
      obtain ⟨M', a1, a2, a3⟩ := sp241 d hC n80 n82
      refine fin M' _ ?_ a2 (by unfold ord; rw [if_neg (by decide), if_pos rfl, ealv]) a3
      rw [e243, b243_2_1, ← hM0, g243_5, a1, callK_r, psh_n, g243_6]
    · obtain ⟨M', a1, a2, a3⟩ := sp242 d hC n80 n82
      refine fin M' _ ?_ a2 (by unfold ord; rw [if_neg c0, if_neg c1, ealv, bfq_t]) a3
      rw [e243, b243_2_df _ _ _ (by omega), ← hM0, g243_7, a1, callK_r, psh_n, g243_8]
