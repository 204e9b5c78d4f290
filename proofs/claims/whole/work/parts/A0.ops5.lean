/-! OPERATIONS: THE CURSOR, THE SETTINGS -/
variable {K : KK}
/-- an operation that answers a truth value -/
def OpB (K : KK) (D w : Nat) (aw : List mV) (m : Nat) (am : List mV) (M : mM) : Prop := ∃ (k : Int) (b : Bool) (M1 M2 : mM), (M1 3 = M 3 ∧ M1 4 = M 4) ∧ run prog D w aw (shp, M) = some (.inl (some (vi k)), (shp, M1)) ∧ run prog D m am (shp, M1) = some (.inl (some (vi (bi b))), (shp, M2)) ∧ M2 87 3 = k ∧ (k = 0 → M2 96 0 = bi b) ∧ Inv K M2
theorem OpB_r {D w : Nat} {aw : List mV} {m : Nat} {am : List mV} {M M1 : mM} (hI : Inv K M) (f : fq M M1) (r : Bool) (hw : run prog D w aw (shp, M) = some (.inl (some (vi 0)), (shp, mset M1 96 0 (bi r)))) (hm : run prog D m am (shp, mset M1 96 0 (bi r)) = some (.inl (some (vi (bi r))), (shp, mset (mset M1 96 0 (bi r)) 87 3 0))) : OpB K D w aw m am M :=
  ⟨0, r, _, _, sc (f.tr fq_out).1 (by decide), hw, hm, mset_at _ _ _ _, fun _ => (mset_k (by decide)).trans (mset_at _ _ _ _), hI.fq ((f.tr fq_out).tr fq_thr)⟩
theorem OpB_x {D w : Nat} {aw : List mV} {m : Nat} {am : List mV} {M M1 : mM} (hI : Inv K M) (f : fq M M1) {k : Int} (hk : k ≠ 0) (hw : run prog D w aw (shp, M) = some (.inl (some (vi k)), (shp, M1))) (hm : run prog D m am (shp, M1) = some (.inl (some (vi (bi false))), (shp, mset (mset M1 87 3 0) 87 3 k))) : OpB K D w aw m am M :=
  ⟨k, false, _, _, sc f.1 (by decide), hw, hm, mset_at _ _ _ _, fun e => absurd e hk, hI.fq ((f.tr fq_thr).tr fq_thr)⟩
section OU
variable {M : mM}
theorem op42 (hI : Inv K M) (d : Nat) : Op0 K (d + 600) 286 [vr 5] 287 [vr 87] M := by
  have c := s286 (d + 599) M
  have m := s287 (d + 599) M
  unfold o287 at m
  have e : r286 M = M 87 16 := hI.2.2.2.1.1.symm
  rw [e] at c
  exact ⟨_, _, _, ⟨rfl, rfl⟩, c, m, hI.fq fq_thr⟩
theorem op38 (hI : Inv K M) (d : Nat) : OpB K (d + 600) 254 [vr 5, vr 96] 255 [vr 87] M := by
  obtain ⟨c1, c2⟩ := hI.2.2.1
  have c := s253 (d + 597) M
  unfold o253 at c
  rcases c2 with c2 | ⟨c2, Z, i, c3, c4, c5, c6, c7, c8⟩
  · rw [if_pos c2] at c
    refine OpB_x hI fq.rf (k := 1) (by decide) (w254_x1 (d + 599) M M c) ?_
    have m := s255 (d + 599) M
    unfold o255 at m
    rw [c1, if_pos c2, if_pos c2] at m
    rw [show d + 600 = d + 599 + 1 from rfl, m]
    rw [show mset (mset M 87 3 0) 87 3 1 = mset M 87 3 1 from by
      funext a b
      by_cases q : a = 87 ∧ b = 3
      · obtain ⟨rfl, rfl⟩ := q; rw [mset_at, mset_at]
      · unfold mset; rw [if_neg q, if_neg q, if_neg q]]
    rfl
  · rw [if_neg (by omega)] at c
    have e : p252 M = decide (i < Z.length) := by
      unfold p252
      rw [c6, c3.1]
      unfold natI
      rw [List.length_map]
      by_cases q : i < Z.length
      · rw [if_pos (by omega), decide_eq_true q]
      · rw [if_neg (by omega), decide_eq_false q]
    rw [e] at c
    refine OpB_r hI fq.rf _ (w254_r (d + 599) M M _ c) ?_
    have m := s255 (d + 599) (mset M 96 0 (bi (decide (i < Z.length))))
    unfold o255 at m
    rw [mset_k (show 87 ≠ 96 by decide), mset_k (show 87 ≠ 96 by decide), mset_k (show 87 ≠ 96 by decide), c1, if_neg (by omega), if_neg (by omega), c7, c4.1] at m
    rw [show d + 600 = d + 599 + 1 from rfl, m]
    by_cases q : i < Z.length
    · rw [if_pos (by omega), decide_eq_true q]; rfl
    · rw [if_neg (by omega), decide_eq_false q]; rfl
theorem mset_2 {k j : Nat} {x y : Int} : mset (mset M k j x) k j y = mset M k j y := by
  funext a b
  by_cases q : a = k ∧ b = j
  · obtain ⟨rfl, rfl⟩ := q; rw [mset_at, mset_at]
  · unfold mset; rw [if_neg q, if_neg q, if_neg q]
theorem op39 (hI : Inv K M) (d : Nat) : Op K (d + 600) 258 [vr 5, vr 96] 259 [vr 87] M := by
  obtain ⟨c1, c2⟩ := hI.2.2.1
  obtain ⟨n, t, b⟩ := hI.1
  have b : Bt M n t := b
  have c := s257 (d + 595) M
  unfold o257 at c
  rcases c2 with c2 | ⟨c2, Z, i, c3, c4, c5, c6, c7, c8⟩
  · rw [if_pos c2] at c
    refine Op_x hI fq.rf (k := 1) (b := 0) (by decide) (w258_x1 (d + 599) M M c) ?_
    show ev prog (d + 600) 259 0 0 [vr 87] [] (shp, M) = _
    rw [g259_0, c1, if_pos c2]
  · rw [if_neg (by omega)] at c
    have e : p252 M = decide (i < Z.length) := by
      unfold p252
      rw [c6, c3.1]
      unfold natI
      rw [List.length_map]
      by_cases q : i < Z.length
      · rw [if_pos (by omega), decide_eq_true q]
      · rw [if_neg (by omega), decide_eq_false q]
    rw [e] at c
    by_cases q : i < Z.length
    · have hz : Z[i]? = some Z[i] := List.getElem?_eq_getElem q
      have hr : r30d (M 79 3) M = (Z[i] : Int) := by
        unfold r30d
        rw [c6, va_in ⟨by omega, by omega⟩, Int.toNat_natCast]
        refine c3.2 i _ ?_
        unfold natI
        rw [List.getElem?_map, hz]
        rfl
      rw [decide_eq_true q, if_neg (show ¬ bi true = 0 by decide), hr, c6, wI (by omega)] at c
      obtain ⟨M1, hM1⟩ : ∃ M1, M1 = mset (mset M 79 3 ((i + 1 : Nat) : Int)) 96 0 (Z[i] : Int) := ⟨_, rfl⟩
      have k87 : ∀ j, M1 87 j = M 87 j := fun j => by rw [hM1, mset_k (by decide), mset_k (by decide)]
      have w1 : wr (((i + 1 : Nat) : Int) - 1) = (i : Int) := by rw [wrR (by omega) (by omega)]; omega
      have s1 : same [79, 96] M M1 := by rw [hM1]; exact (same_mset.mono (by decide)).tr (same_mset.mono (by decide))
      have s2 : same [79, 96, 87] M (mset (mset M1 87 3 0) 87 11 ((i + 1 : Nat) : Int)) := ((s1.mono (by decide)).tr (same_mset.mono (by decide))).tr (same_mset.mono (by decide))
      refine ⟨0, (Z[i] : Int), M1, mset (mset M1 87 3 0) 87 11 ((i + 1 : Nat) : Int), sc s1 (by decide), ?_, ?_, ?_, fun _ => ?_, ?_⟩
      · rw [hM1]; exact w258_r (d + 599) M _ _ c
      · show ev prog (d + 600) 259 0 0 [vr 87] [] (shp, M1) = _
        have hz3 : M1 93 i = (Z[i] : Int) := by
          rw [s1 93 (by decide)]
          have := c4.2 i _ hz
          rw [Nat.zero_add] at this
          exact this
        rw [g259_0, k87, k87, k87, c1, if_neg (by omega), c7, c4.1, if_neg (by omega), wI (by omega), w1, if_pos (by clear w1; omega), Int.toNat_natCast, hz3]
      · rw [mset_j (by decide), mset_at]
      · rw [mset_k (by decide), mset_k (by decide), hM1, mset_at]
      · refine hI.part ⟨n, t, ⟨Bs_c (fun k hk => s2 k ?_) b.1, TD_c (fun k hk => s2 k ?_) b.2⟩⟩ (fun k hk => s2 k ?_) (fun j hj => ?_) ?_
        · simp only [List.mem_cons, List.not_mem_nil, or_false] at hk ⊢; omega
        · simp only [List.mem_cons, List.not_mem_nil, or_false] at hk ⊢; omega
        · simp only [List.mem_cons, List.not_mem_nil, or_false] at hk ⊢; omega
        · have : j ≠ 11 ∧ j ≠ 3 := by constructor <;> (intro e; subst e; exact absurd hj (by decide))
          rw [mset_j this.1, mset_j this.2, k87]
        · refine ⟨?_, Or.inr ⟨?_, Z, i + 1, ?_, ⟨?_, ?_⟩, c5, ?_, mset_at _ _ _ _, q⟩⟩
          · rw [mset_j (by decide), mset_j (by decide), k87, mset_k (by decide), mset_k (by decide), hM1, mset_k (by decide), mset_j (by decide)]; exact c1
          · rw [mset_k (by decide), mset_k (by decide), hM1, mset_k (by decide), mset_j (by decide)]; exact c2
          · exact nums_same c3 (s2 80 (by decide)) (s2 81 (by decide))
          · rw [mset_j (by decide), mset_j (by decide), k87]; exact c4.1
          · exact slc_c c4.2 (fun j _ _ => by rw [s2 93 (by decide)])
          · rw [mset_k (by decide), mset_k (by decide), hM1, mset_k (by decide), mset_at]
    · rw [decide_eq_false q, if_pos (show bi false = 0 from rfl)] at c
      refine Op_x hI fq.rf (k := 2) (b := 0) (by decide) (w258_x2 (d + 599) M M c) ?_
      show ev prog (d + 600) 259 0 0 [vr 87] [] (shp, M) = _
      rw [g259_0, c1, if_neg (by omega), c7, c4.1, if_pos (by omega)]
theorem op37 (hI : Inv K M) (d : Nat) (o : Int) : Op K (d + 600) 245 [vr 5, vi o, vr 96] 250 [vr 87, vi o] M := by
  obtain ⟨n, t, b⟩ := hI.1
  have b : Bt M n t := b
  by_cases ho : 0 ≤ o ∧ o ≤ 2
  · obtain ⟨M0, c, n80, s0, h3, h4⟩ := sp244 (d + 593) b.C ho
    obtain ⟨M1, hM1⟩ : ∃ M1, M1 = mset M0 96 0 ((ord M t o).length : Int) := ⟨_, rfl⟩
    have s1 : same [79, 80, 81, 82, 83, 96] M M1 := by rw [hM1]; exact (s0.mono (by decide)).tr (same_mset.mono (by decide))
    have b1 : Bt M1 n t := by
      refine ⟨Bs_c (fun k hk => s1 k ?_) b.1, TD_c (fun k hk => s1 k ?_) b.2⟩
      · simp only [List.mem_cons, List.not_mem_nil, or_false] at hk ⊢; omega
      · simp only [List.mem_cons, List.not_mem_nil, or_false] at hk ⊢; omega
    have q1 : cq M M1 := fun k hk => s1 k (by simp only [List.mem_cons, List.not_mem_nil, or_false] at hk ⊢; omega)
    have hsz := sz_le b.M.1 b.nd
    obtain ⟨M2, m, tk2, s2, e3, e11, e8, eo⟩ := sp250 b1.I (d + 390) b1.M.1 hsz ho
    rw [ord_k q1] at m tk2
    have s3 : same [79, 80, 81, 82, 83, 87, 93, 96] M M2 := (s1.mono (by decide)).tr (s2.mono (by decide))
    refine ⟨0, ((ord M t o).length : Int), M1, M2, sc s1 (by decide), ?_, m, e3, fun _ => ?_, ?_⟩
    · rw [hM1]; exact w245_r (d + 599) o M M0 _ c
    · rw [s2 96 (by decide), hM1, mset_at]
    · refine hI.part ⟨n, t, ⟨Bs_c (fun k hk => s3 k ?_) b.1, TD_c (fun k hk => s3 k ?_) b.2⟩⟩ (fun k hk => s3 k ?_) (fun j hj => ?_) ?_
      · simp only [List.mem_cons, List.not_mem_nil, or_false] at hk ⊢; omega
      · simp only [List.mem_cons, List.not_mem_nil, or_false] at hk ⊢; omega
      · simp only [List.mem_cons, List.not_mem_nil, or_false] at hk ⊢; omega
      · have : j ≠ 3 ∧ j ≠ 8 ∧ j ≠ 10 ∧ j ≠ 11 := by refine ⟨?_, ?_, ?_, ?_⟩ <;> (intro e; subst e; exact absurd hj (by decide))
        rw [eo j this.1 this.2.1 this.2.2.1 this.2.2.2, s1 87 (by decide)]
      · have e79 : M2 79 = M0 79 := by rw [s2 79 (by decide), hM1]; exact mset_ne (by decide)
        refine ⟨by rw [e8, e79, h4], Or.inr ⟨by rw [e79]; exact h4, ord M t o, 0, ?_, tk2, ?_, by rw [e79]; exact h3, e11, Nat.zero_le _⟩⟩
        · refine nums_same n80 ?_ ?_
          · rw [s2 80 (by decide), hM1]; exact mset_ne (by decide)
          · rw [s2 81 (by decide), hM1]; exact mset_ne (by decide)
        · exact Nat.le_trans (ord_le M t o) hsz
  · have c : run prog (d + 599) 244 [vr 5, vi o] (shp, M) = some (.inr 0, (shp, M)) := by
      show ev prog (d + 599) 244 0 0 [vr 5, vi o] [] (shp, M) = _
      rw [g244_0 (d + 593), if_neg (by omega), if_neg (by omega), if_neg (by omega)]
    refine Op_x hI fq.rf (k := 1) (b := 0) (by decide) (w245_x0 (d + 599) o M M c) ?_
    show ev prog (d + 600) 250 0 0 [vr 87, vi o, vj] [] (shp, M) = _
    rw [g250_0, p51_d, decide_eq_false (by omega), if_pos (show bi false = 0 from rfl)]
end OU
