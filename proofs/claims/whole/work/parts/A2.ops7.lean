/-! OPERATIONS: OPTIONS, QUERY POINT, EXCLUSIONS, CORNERS -/
variable {K : KK}
def OpV (K : KK) (D w : Nat) (aw : List mV) (m : Nat) (am : List mV) (M : mM) : Prop := ∃ (k : Int) (M1 M2 : mM), (M1 3 = M 3 ∧ M1 4 = M 4) ∧ run prog D w aw (shp, M) = some (.inl (some (vi k)), (shp, M1)) ∧ run prog D m am (shp, M1) = some (.inl none, (shp, M2)) ∧ M2 87 3 = k ∧ Inv K M2
theorem OpV_x {D w : Nat} {aw : List mV} {m : Nat} {am : List mV} {M M1 : mM} (hI : Inv K M) (f : fq M M1) {k : Int} (hw : run prog D w aw (shp, M) = some (.inl (some (vi k)), (shp, M1))) (hm : run prog D m am (shp, M1) = some (.inl none, (shp, mset (mset M1 87 3 0) 87 3 k))) : OpV K D w aw m am M :=
  ⟨k, _, _, sc f.1 (by decide), hw, hm, mset_at _ _ _ _, hI.fq ((f.tr fq_thr).tr fq_thr)⟩
theorem Iv.upd {M M' : mM} (h : Iv M) (A B : Nat) (hA : 2001 < A) (hs : ∀ r, r ∈ [7, 8, 9, 10, 11] → M' r = M r) (o88 : ∀ j, (j < A ∨ B ≤ j) → M' 88 j = M 88 j)
    (c34 : (M' 34 = M 34 ∧ (2008 ≤ A ∨ B ≤ 2002)) ∨ (rw2 M' 34 2002 6 0 95 ∧ M' 34 2 ≤ 3 ∧ (1 ≤ M' 34 3 ∧ M' 34 3 ≤ 9) ∧ (1 ≤ M' 34 4 ∧ M' 34 4 ≤ 9) ∧ (1 ≤ M' 34 5 ∧ M' 34 5 ≤ 9)))
    (c35 : (M' 35 = M 35 ∧ (2011 ≤ A ∨ B ≤ 2008)) ∨ rw2 M' 35 2008 3 (-100) 100) (c36 : (M' 36 = M 36 ∧ (2014 ≤ A ∨ B ≤ 2011)) ∨ rw2 M' 36 2011 3 (-100) 100)
    (c37 : (M' 37 = M 37 ∧ (2017 ≤ A ∨ B ≤ 2014)) ∨ rw2 M' 37 2014 3 (-100) 100) (c38 : (M' 38 = M 38 ∧ (2027 ≤ A ∨ B ≤ 2017)) ∨ rw2 M' 38 2017 10 0 1) : Iv M' := by
  obtain ⟨⟨n, a1, a1', a1''⟩, a2, a3, a4, a5, a6, a7, a8, a9, a10⟩ := h
  have ro : ∀ r g w, M' r = M r → (g + w ≤ A ∨ B ≤ g) → ∀ lo hi, rw2 M r g w lo hi → rw2 M' r g w lo hi := fun r g w hr hg lo hi h => rw2_eq h fun j hj => ⟨by rw [hr], o88 _ (by omega)⟩
  refine ⟨⟨n, by rw [hs 7 (by decide)]; exact a1, a1', by rw [o88 _ (by omega)]; exact a1''⟩, ro _ _ _ (hs 8 (by decide)) (by omega) _ _ a2, ro _ _ _ (hs 9 (by decide)) (by omega) _ _ a3, ro _ _ _ (hs 10 (by decide)) (by omega) _ _ a4, ro _ _ _ (hs 11 (by decide)) (by omega) _ _ a5, ?_, ?_, ?_, ?_, ?_⟩
  · rcases c34 with ⟨e, q⟩ | q
    · exact ⟨ro _ _ _ e (by omega) _ _ a6.1, by rw [e]; exact a6.2⟩
    · exact q
  · rcases c35 with ⟨e, q⟩ | q
    · exact ro _ _ _ e (by omega) _ _ a7
    · exact q
  · rcases c36 with ⟨e, q⟩ | q
    · exact ro _ _ _ e (by omega) _ _ a8
    · exact q
  · rcases c37 with ⟨e, q⟩ | q
    · exact ro _ _ _ e (by omega) _ _ a9
    · exact q
  · rcases c38 with ⟨e, q⟩ | q
    · exact ro _ _ _ e (by omega) _ _ a10
    · exact q
/-- what a change of a setting leaves of the invariant -/
theorem Inv.opt {M M' : mM} (hI : Inv K M) (hI' : Iv M') (s : same [34, 35, 36, 37, 38, 87, 88, 96] M M') (A B : Nat) (hA : 2001 < A) (hB : B ≤ 2027) (o88 : ∀ j, (j < A ∨ B ≤ j) → M' 88 j = M 88 j) (o87 : ∀ j, j ≠ 3 → M' 87 j = M 87 j) : Inv K M' := by
  obtain ⟨n, t, b⟩ := hI.1
  have b : Bt M n t := b
  refine hI.part ⟨n, t, b.set hI' (fun k hk => s k ?_) (fun j hj => o88 j (by omega))⟩ (fun k hk => s k ?_) (fun j hj => o87 j ?_) (Cur_c (fun j _ => by rw [s 79 (by decide)]) (s 80 (by decide)) (s 81 (by decide)) (s 93 (by decide)) (fun j hj => o87 j (by omega)) hI.2.2.1)
  · simp only [List.mem_cons, List.not_mem_nil, or_false] at hk ⊢; omega
  · simp only [List.mem_cons, List.not_mem_nil, or_false] at hk ⊢; omega
  · intro e; subst e; exact absurd hj (by decide)
theorem rw2_3 {M : mM} {k g : Nat} {x y z : Int} (h : (-100 ≤ x ∧ x ≤ 100) ∧ (-100 ≤ y ∧ y ≤ 100) ∧ (-100 ≤ z ∧ z ≤ 100)) (a : M k 0 = x ∧ M k 1 = y ∧ M k 2 = z) (b : M 88 g = x ∧ M 88 (g + 1) = y ∧ M 88 (g + 2) = z) : rw2 M k g 3 (-100) 100 := by
  intro j hj
  obtain rfl | rfl | rfl : j = 0 ∨ j = 1 ∨ j = 2 := by omega
  · rw [a.1, Nat.add_zero, b.1]; exact ⟨rfl, h.1⟩
  · rw [a.2.1, b.2.1]; exact ⟨rfl, h.2.1⟩
  · rw [a.2.2, b.2.2]; exact ⟨rfl, h.2.2⟩
def oLo (k : Nat) : Int := if k = 0 then 55 else if k = 1 then 10 else if k = 2 then 0 else 1
def oHi (k : Nat) : Int := if k = 0 then 95 else if k = 1 then 90 else if k = 2 then 3 else 9
section OW
variable {M : mM}
theorem sta_k (h : Sta K M) {k : Nat} (hk : k < 6) : M 1 k = oLo k ∧ M 2 k = oHi k := by
  obtain ⟨⟨a0, a1, a2, a3, a4, a5⟩, b0, b1, b2, b3, b4, b5, -, -⟩ := h
  obtain rfl | rfl | rfl | rfl | rfl | rfl : k = 0 ∨ k = 1 ∨ k = 2 ∨ k = 3 ∨ k = 4 ∨ k = 5 := by omega
  · exact ⟨a0, b0⟩
  · exact ⟨a1, b1⟩
  · exact ⟨a2, b2⟩
  · exact ⟨a3, b3⟩
  · exact ⟨a4, b4⟩
  · exact ⟨a5, b5⟩
theorem o_b (k : Nat) : 0 ≤ oLo k ∧ oHi k ≤ 95 ∧ (k = 2 → oHi k = 3) ∧ (3 ≤ k → oLo k = 1 ∧ oHi k = 9) := by
  unfold oLo oHi
  by_cases h0 : k = 0
  · subst h0; exact ⟨by decide, by decide, by omega, by omega⟩
  by_cases h1 : k = 1
  · subst h1; exact ⟨by decide, by decide, by omega, by omega⟩
  by_cases h2 : k = 2
  · subst h2; exact ⟨by decide, by decide, fun _ => rfl, by omega⟩
  · rw [if_neg h0, if_neg h1, if_neg h2, if_neg h0, if_neg h1, if_neg h2]
    exact ⟨by decide, by decide, fun q => absurd q h2, fun _ => ⟨rfl, rfl⟩⟩
theorem sp142 (d : Nat) (M : mM) {k : Nat} (hk : k < 6) (v : Int) : run prog (d + 2) 142 [vi (k : Int), vi v] (shp, M) = some (.inl (some (vi (bi (decide (oLo k ≤ v ∧ v ≤ oHi k))))), (shp, M)) := by
  by_cases h0 : k = 0
  · subst h0
    show ev prog (d + 2) 142 0 0 [vi 0, vi v] [] (shp, M) = _
    rw [b142_0_0 (d + 1), g142_1, p51_d]
    rfl
  by_cases h1 : k = 1
  · subst h1
    show ev prog (d + 2) 142 0 0 [vi 1, vi v] [] (shp, M) = _
    rw [b142_0_1 (d + 1), g142_3, p51_d]
    rfl
  by_cases h2 : k = 2
  · subst h2
    show ev prog (d + 2) 142 0 0 [vi 2, vi v] [] (shp, M) = _
    rw [b142_0_2 (d + 1), g142_5, p51_d]
    rfl
  · show ev prog (d + 2) 142 0 0 [vi (k : Int), vi v] [] (shp, M) = _
    have e := (o_b k).2.2.2 (by omega)
    rw [b142_0_df (d + 1) _ _ _ (by omega), g142_7, p51_d, e.1, e.2]
theorem op16 (hI : Inv K M) (d : Nat) (x v : Int) : Op K (d + 600) 141 [vr 5, vi x, vi v, vr 96] 143 [vr 87, vi x, vi v] M := by
  obtain ⟨n, t, b⟩ := hI.1
  have b : Bt M n t := b
  have c := s140 (d + 596) x v M
  unfold o140 at c
  by_cases hx : 0 ≤ x ∧ x < 6
  · obtain ⟨k, rfl⟩ : ∃ k : Nat, x = (k : Int) := ⟨x.toNat, by omega⟩
    have hk : k < 6 := by omega
    obtain ⟨e1, e2⟩ := sta_k hI.2.2.2.2 hk
    have r39 : r39 (k : Int) M = M 34 k := by unfold r39; rw [va_in ⟨by omega, by omega⟩, Int.toNat_natCast]
    rw [if_neg (by omega), if_pos (by omega), va_in ⟨by omega, by omega⟩, va_in ⟨by omega, by omega⟩, pu_in ⟨by omega, by omega⟩, Int.toNat_natCast, e1, e2, r39] at c
    have hob := o_b k
    have i88 : (0 ≤ ((2002 + k : Nat) : Int) ∧ ((2002 + k : Nat) : Int) < 2031) := gi2031 (by omega)
    by_cases hv : oLo k ≤ v ∧ v ≤ oHi k
    · rw [if_neg (by omega), if_neg (by omega)] at c
      obtain ⟨M1, hM1⟩ : ∃ M1, M1 = mset (mset M 34 k v) 96 0 (M 34 k) := ⟨_, rfl⟩
      have s1 : same [34, 96] M M1 := by rw [hM1]; exact (same_mset.mono (by decide)).tr (same_mset.mono (by decide))
      obtain ⟨M2, hM2⟩ : ∃ M2, M2 = mset (mset M1 87 3 0) 88 (2002 + k) v := ⟨_, rfl⟩
      have s2 : same [34, 35, 36, 37, 38, 87, 88, 96] M M2 := by rw [hM2]; exact ((s1.mono (by decide)).tr (same_mset.mono (by decide))).tr (same_mset.mono (by decide))
      have s2r : ∀ r, r ∉ [34, 87, 88, 96] → M2 r = M r := fun r hr => by
        have : same [34, 87, 88, 96] M M2 := by rw [hM2]; exact ((s1.mono (by decide)).tr (same_mset.mono (by decide))).tr (same_mset.mono (by decide))
        exact this r hr
      have o88 : ∀ j, j ≠ 2002 + k → M2 88 j = M 88 j := fun j hj => by rw [hM2, mset_j hj, mset_k (by decide), s1 88 (by decide)]
      have e34 : ∀ j, M2 34 j = mset M 34 k v 34 j := fun j => by rw [hM2, mset_k (by decide), mset_k (by decide), hM1, mset_k (by decide)]
      have ek : M2 34 k = v := (e34 k).trans (mset_at _ _ _ _)
      have en : ∀ j, j ≠ k → M2 34 j = M 34 j := fun j hj => (e34 j).trans (mset_j hj)
      have e88 : M2 88 (2002 + k) = v := by rw [hM2]; exact mset_at _ _ _ _
      have old := b.I.op
      have I2 : Iv M2 := by
        refine b.I.upd 2002 2008 (by decide) (fun r hr => s2r r ?_) (fun j hj => o88 j (by omega)) (Or.inr ⟨?_, ?_, ?_, ?_, ?_⟩) (Or.inl ⟨s2r 35 (by decide), by decide⟩) (Or.inl ⟨s2r 36 (by decide), by decide⟩) (Or.inl ⟨s2r 37 (by decide), by decide⟩) (Or.inl ⟨s2r 38 (by decide), by decide⟩)
        · simp only [List.mem_cons, List.not_mem_nil, or_false] at hr ⊢; omega
        · exact rw2_set old.1 ⟨by omega, by omega⟩ ek e88 fun j hj hn => ⟨en j hn, o88 _ (by omega)⟩
        · by_cases q : k = 2
          · subst q; rw [ek]; omega
          · rw [en 2 (by omega)]; exact old.2.1
        · by_cases q : k = 3
          · subst q; rw [ek]; omega
          · rw [en 3 (by omega)]; exact old.2.2.1
        · by_cases q : k = 4
          · subst q; rw [ek]; omega
          · rw [en 4 (by omega)]; exact old.2.2.2.1
        · by_cases q : k = 5
          · subst q; rw [ek]; omega
          · rw [en 5 (by omega)]; exact old.2.2.2.2
      refine ⟨0, M 34 k, M1, M2, sc s1 (by decide), ?_, ?_, ?_, fun _ => ?_, hI.opt I2 s2 2002 2008 (by decide) (by decide) (fun j hj => o88 j (by omega)) (fun j hj => ?_)⟩
      · rw [hM1]; exact w141_r (d + 599) (k : Int) v M _ _ c
      · show ev prog (d + 600) 143 0 0 [vr 87, vi (k : Int), vi v, vj] [] (shp, M1) = _
        rw [g143_0, p51_d, decide_eq_true (by omega), if_neg (show ¬ bi true = 0 by decide), sp142 (d + 597) _ hk, callK_r, psh_s, g143_5, decide_eq_true hv, if_neg (show ¬ bi true = 0 by decide), x2002 hk, if_pos i88, if_pos i88, Int.toNat_natCast, mset_k (show 88 ≠ 87 by decide), s1 88 (by decide), ← hM2, rw2_at old.1 hk]
      · rw [hM2, mset_k (by decide), mset_at]
      · rw [hM2, mset_k (by decide), mset_k (by decide), hM1, mset_at]
      · rw [hM2, mset_k (by decide), mset_j hj, s1 87 (by decide)]
    · have c : run prog (d + 599) 140 [vr 5, vi (k : Int), vi v] (shp, M) = some (.inr 0, (shp, M)) := by
        rw [show d + 599 = d + 596 + 3 from rfl, c]
        by_cases q : v < oLo k
        · rw [if_pos q]
        · rw [if_neg q, if_pos (by omega)]
      refine Op_x hI fq.rf (k := 2) (b := 0) (by decide) (w141_x0 (d + 599) (k : Int) v M M c) ?_
      show ev prog (d + 600) 143 0 0 [vr 87, vi (k : Int), vi v, vj] [] (shp, M) = _
      rw [g143_0, p51_d, decide_eq_true (by omega), if_neg (show ¬ bi true = 0 by decide), sp142 (d + 597) _ hk, callK_r, psh_s, g143_5, decide_eq_false hv, if_pos (show bi false = 0 from rfl)]
  · have c : run prog (d + 599) 140 [vr 5, vi x, vi v] (shp, M) = some (.inr 3, (shp, M)) := by
      rw [show d + 599 = d + 596 + 3 from rfl, c]
      by_cases q : x < 0
      · rw [if_pos q]
      · rw [if_neg q, if_neg (by omega)]
    refine Op_x hI fq.rf (k := 1) (b := 0) (by decide) (w141_x3 (d + 599) x v M M c) ?_
    show ev prog (d + 600) 143 0 0 [vr 87, vi x, vi v, vj] [] (shp, M) = _
    rw [g143_0, p51_d, decide_eq_false (by omega), if_pos (show bi false = 0 from rfl)]
theorem op19 (hI : Inv K M) (d : Nat) (x y z : Int) : OpV K (d + 600) 151 [vr 5, vi x, vi y, vi z] 152 [vr 87, vi x, vi y, vi z] M := by
  obtain ⟨n, t, b⟩ := hI.1
  have b : Bt M n t := b
  have c := s150 (d + 596) x y z M
  unfold o150 at c
  rw [p13_iff] at c
  by_cases h : (-100 ≤ x ∧ x ≤ 100) ∧ (-100 ≤ y ∧ y ≤ 100) ∧ (-100 ≤ z ∧ z ≤ 100)
  · rw [decide_eq_true h, if_neg (show ¬ bi true = 0 by decide)] at c
    obtain ⟨M1, hM1⟩ : ∃ M1, M1 = mset (mset (mset M 35 0 x) 35 1 y) 35 2 z := ⟨_, rfl⟩
    rw [← hM1] at c
    have s1 : same [35] M M1 := by rw [hM1]; exact (same_mset.tr same_mset).tr same_mset
    obtain ⟨M2, hM2⟩ : ∃ M2, M2 = mset (mset (mset (mset M1 87 3 0) 88 2008 x) 88 2009 y) 88 2010 z := ⟨_, rfl⟩
    have s2 : same [35, 87, 88] M M2 := by rw [hM2]; exact ((((s1.mono (by decide)).tr (same_mset.mono (by decide))).tr (same_mset.mono (by decide))).tr (same_mset.mono (by decide))).tr (same_mset.mono (by decide))
    have o88 : ∀ j, (j < 2008 ∨ 2011 ≤ j) → M2 88 j = M 88 j := fun j hj => by rw [hM2, mset_j (by omega), mset_j (by omega), mset_j (by omega), mset_k (by decide), s1 88 (by decide)]
    have e35 : ∀ j, M2 35 j = M1 35 j := fun j => by rw [hM2, mset_k (by decide), mset_k (by decide), mset_k (by decide), mset_k (by decide)]
    have I2 : Iv M2 := by
      refine b.I.upd 2008 2011 (by decide) (fun r hr => s2 r ?_) o88 (Or.inl ⟨s2 34 (by decide), by decide⟩) (Or.inr ?_) (Or.inl ⟨s2 36 (by decide), by decide⟩) (Or.inl ⟨s2 37 (by decide), by decide⟩) (Or.inl ⟨s2 38 (by decide), by decide⟩)
      · simp only [List.mem_cons, List.not_mem_nil, or_false] at hr ⊢; omega
      · refine rw2_3 h ⟨?_, ?_, ?_⟩ ⟨?_, ?_, ?_⟩
        · rw [e35, hM1, mset_j (by decide), mset_j (by decide), mset_at]
        · rw [e35, hM1, mset_j (by decide), mset_at]
        · rw [e35, hM1, mset_at]
        · rw [hM2, mset_j (by decide), mset_j (by decide), mset_at]
        · rw [hM2, mset_j (by decide), mset_at]
        · rw [hM2, mset_at]
    refine ⟨0, M1, M2, sc s1 (by decide), w151_r (d + 599) x y z M M1 c, ?_, ?_, hI.opt I2 (s2.mono (by decide)) 2008 2011 (by decide) (by decide) o88 (fun j hj => ?_)⟩
    · show ev prog (d + 600) 152 0 0 [vr 87, vi x, vi y, vi z] [] (shp, M1) = _
      rw [g152_0, p52_d, decide_eq_true h, if_neg (show ¬ bi true = 0 by decide), ← hM2]
    · rw [hM2, mset_k (by decide), mset_k (by decide), mset_k (by decide), mset_at]
    · rw [hM2, mset_k (by decide), mset_k (by decide), mset_k (by decide), mset_j hj, s1 87 (by decide)]
  · rw [decide_eq_false h, if_pos (show bi false = 0 from rfl)] at c
    refine OpV_x hI fq.rf (k := 1) (w151_x0 (d + 599) x y z M M c) ?_
    show ev prog (d + 600) 152 0 0 [vr 87, vi x, vi y, vi z] [] (shp, M) = _
    rw [g152_0, p52_d, decide_eq_false h, if_pos (show bi false = 0 from rfl)]
end OW
