/-! OPERATIONS: NODES, COUNTS, THE CURSOR -/
variable {K : KK}
section OS
variable {M : mM}
theorem lk_live {n : Nat} {t : Tr} (b : Bt M n t) : (lk M t).length = liveN M n := by
  have hm : ∀ k, k ∈ lk M t ↔ k ∈ ks t ∧ alv M k = true := fun k => by
    unfold lk
    rw [List.mem_filter]
  have h := cnt_L (L := lk M t) (n := n) (List.Pairwise.filter _ b.nd) (fun x hx => b.lt x ((hm x).mp hx).1)
  rw [← h]
  unfold cnt liveN
  congr 1
  refine List.filter_congr fun i hi => ?_
  have hi := List.mem_range.mp hi
  show decide (i ∈ lk M t) = alv M i
  cases ha : alv M i with
  | true => exact decide_eq_true ((hm i).mpr ⟨b.1.2.2.2.2.2.1 i hi ha, ha⟩)
  | false => exact decide_eq_false (fun q => by have := ((hm i).mp q).2; rw [ha] at this; cases this)
/-- the class's node and the model's -/
theorem r28_sub {n : Nat} {t : Tr} (b : Bt M n t) {k : Nat} (hk : k ∈ ks t) : r28 (k : Int) 0 M = M 88 (1400 + k) ∧ r28 (k : Int) 1 M = M 88 (1600 + k) := by
  obtain ⟨s, v, l, r, e⟩ := sub_form hk
  have h1 := sub_T b.C.2.2.1 hk
  have h2 := sub_T b.M.1 hk
  rw [e] at h1 h2
  obtain ⟨c0, c1⟩ := r28_T h1
  obtain ⟨-, m0, m1, -, -⟩ := mT_i h2
  exact ⟨c0.trans m0.symm, c1.trans m1.symm⟩
theorem n108 {n : Nat} {t : Tr} (b : Bt M n t) (d : Nat) (x : Int) : run prog (d + 3) 108 [vr 87, vi x] (shp, mset M 87 3 0) = some (.inl (some (vi (bi (inT t x)))), (shp, mset M 87 3 0)) :=
  have b' := b.fq (fq_thr (k := 0))
  sp108 b'.I b'.n b'.lt b'.M d x
theorem k96 {r z : Int} {k j : Nat} (h1 : k ≠ 96) (h2 : k ≠ 87) : (mset (mset M 96 0 r) 87 3 z) k j = M k j := by rw [mset_k h2, mset_k h1]
theorem op9 (hI : Inv K M) (d : Nat) (x y : Int) : Op K (d + 600) 107 [vr 5, vi x, vi y, vr 96] 109 [vr 87, vi x, vi y] M := by
  obtain ⟨n, t, b⟩ := hI.1
  have b : Bt M n t := b
  have c := s106 (d + 595) x y M
  unfold o106 at c
  rw [p104_T b.C x] at c
  cases h : inT t x with
  | false =>
    rw [h, if_pos (show bi false = 0 from rfl)] at c
    refine Op_x hI fq.rf (k := 1) (b := 0) (by decide) (w107_x2 (d + 599) x y M M c) ?_
    show ev prog (d + 600) 109 0 0 [vr 87, vi x, vi y] [] (shp, M) = _
    rw [g109_0, n108 b, callK_r, psh_s, g109_1, h, if_pos (show bi false = 0 from rfl)]
  | true =>
    rw [h, if_neg (show ¬ bi true = 0 by decide)] at c
    obtain ⟨k, rfl, hk⟩ := inT_t h
    have hk2 := (b.sub hk).2.2.2.2
    have e := r28_sub b hk
    by_cases y0 : y = 0
    · subst y0
      rw [if_pos rfl, e.1] at c
      refine Op_r hI fq.rf _ (w107_r (d + 599) (k : Int) 0 M M _ c) ?_
      show ev prog (d + 600) 109 0 0 [vr 87, vi (k : Int), vi 0] [] (shp, _) = _
      rw [g109_0, n108 (b.fq fq_out), callK_r, psh_s, g109_1, h, if_neg (show ¬ bi true = 0 by decide), p51_d, decide_eq_true (by decide), if_neg (show ¬ bi true = 0 by decide), if_pos rfl, x1400 hk2, if_pos (gi2031 (by omega)), Int.toNat_natCast, k96 (by decide) (by decide)]
    · rw [if_neg y0] at c
      by_cases y1 : y = 1
      · subst y1
        rw [if_pos rfl, e.2] at c
        refine Op_r hI fq.rf _ (w107_r (d + 599) (k : Int) 1 M M _ c) ?_
        show ev prog (d + 600) 109 0 0 [vr 87, vi (k : Int), vi 1] [] (shp, _) = _
        rw [g109_0, n108 (b.fq fq_out), callK_r, psh_s, g109_1, h, if_neg (show ¬ bi true = 0 by decide), p51_d, decide_eq_true (by decide), if_neg (show ¬ bi true = 0 by decide), if_neg (by decide), x1600 hk2, if_pos (gi2031 (by omega)), Int.toNat_natCast, k96 (by decide) (by decide)]
      · rw [if_neg y1] at c
        refine Op_x hI fq.rf (k := 2) (b := 0) (by decide) (w107_x0 (d + 599) (k : Int) y M M c) ?_
        show ev prog (d + 600) 109 0 0 [vr 87, vi (k : Int), vi y] [] (shp, M) = _
        rw [g109_0, n108 b, callK_r, psh_s, g109_1, h, if_neg (show ¬ bi true = 0 by decide), p51_d, decide_eq_false (by omega), if_pos (show bi false = 0 from rfl)]
theorem op10 (hI : Inv K M) (d : Nat) (x : Int) : Op K (d + 600) 111 [vr 5, vi x, vr 96] 112 [vr 87, vi x] M := by
  obtain ⟨n, t, b⟩ := hI.1
  have b : Bt M n t := b
  have c := s110 (d + 595) x M
  unfold o110 at c
  rw [p104_T b.C x] at c
  cases h : inT t x with
  | false =>
    rw [h, if_pos (show bi false = 0 from rfl)] at c
    refine Op_x hI fq.rf (k := 1) (b := 0) (by decide) (w111_x2 (d + 599) x M M c) ?_
    show ev prog (d + 600) 112 0 0 [vr 87, vi x] [] (shp, M) = _
    rw [g112_0, n108 b, callK_r, psh_s, g112_1, h, if_pos (show bi false = 0 from rfl)]
  | true =>
    rw [h, if_neg (show ¬ bi true = 0 by decide)] at c
    obtain ⟨k, rfl, hk⟩ := inT_t h
    have hk2 := (b.sub hk).2.2.2.2
    have e1 := (dv_at b.C.2.2.2.2.2.2.1 hk).1
    have e2 : M 88 (1800 + k) = parT t (-1) k := isU_at b.M.2.1 hk
    rw [va_in ⟨by omega, by omega⟩, Int.toNat_natCast, e1, ← e2] at c
    refine Op_r hI fq.rf _ (w111_r (d + 599) (k : Int) M M _ c) ?_
    show ev prog (d + 600) 112 0 0 [vr 87, vi (k : Int)] [] (shp, _) = _
    rw [g112_0, n108 (b.fq fq_out), callK_r, psh_s, g112_1, h, if_neg (show ¬ bi true = 0 by decide), x1800 hk2, if_pos (gi2031 (by omega)), Int.toNat_natCast, k96 (by decide) (by decide)]
theorem op11 (hI : Inv K M) (d : Nat) (x : Int) : Op K (d + 600) 114 [vr 5, vi x, vr 96] 115 [vr 87, vi x] M := by
  obtain ⟨n, t, b⟩ := hI.1
  have b : Bt M n t := b
  have c := s113 (d + 595) x M
  unfold o113 at c
  rw [p104_T b.C x] at c
  cases h : inT t x with
  | false =>
    rw [h, if_pos (show bi false = 0 from rfl)] at c
    refine Op_x hI fq.rf (k := 1) (b := 0) (by decide) (w114_x2 (d + 599) x M M c) ?_
    show ev prog (d + 600) 115 0 0 [vr 87, vi x] [] (shp, M) = _
    rw [g115_0, n108 b, callK_r, psh_s, g115_1, h, if_pos (show bi false = 0 from rfl)]
  | true =>
    rw [h, if_neg (show ¬ bi true = 0 by decide)] at c
    obtain ⟨k, rfl, hk⟩ := inT_t h
    have hk2 := (b.sub hk).2.2.2.2
    have e1 := (dv_at b.C.2.2.2.2.2.2.1 hk).2.1
    rw [Nat.zero_add] at e1
    rw [va_in ⟨by omega, by omega⟩, Int.toNat_natCast, e1] at c
    refine Op_r hI fq.rf _ (w114_r (d + 599) (k : Int) M M _ c) ?_
    have b' := (b.fq (fq_out (r := (dpt t k : Int)))).fq (fq_thr (k := 0))
    show ev prog (d + 600) 115 0 0 [vr 87, vi (k : Int)] [] (shp, _) = _
    rw [g115_0, n108 (b.fq fq_out), callK_r, psh_s, g115_1, h, if_neg (show ¬ bi true = 0 by decide), show run prog (d + 596 + 3) 60 [vr 87, vi (k : Int)] (shp, mset (mset M 96 0 (dpt t k : Int)) 87 3 0) = _ from sp60 (d + 598) b'.M.2.1 (fun x hx => by have := b.lt x hx; have := b.l; omega) (sz_le b'.M.1 b.nd) hk, callK_r, psh_s, g115_3]
theorem op13 (hI : Inv K M) (d : Nat) (x y : Int) : Op K (d + 600) 121 [vr 5, vi x, vi y, vr 96] 123 [vr 87, vi x, vi y] M := by
  obtain ⟨n, t, b⟩ := hI.1
  have b : Bt M n t := b
  have c := s120 (d + 595) x y M
  unfold o120 at c
  rw [p104_T b.C x] at c
  cases h : inT t x with
  | false =>
    rw [h, if_pos (show bi false = 0 from rfl)] at c
    refine Op_x hI fq.rf (k := 1) (b := 0) (by decide) (w121_x2 (d + 599) x y M M c) ?_
    show ev prog (d + 600) 123 0 0 [vr 87, vi x, vi y] [] (shp, M) = _
    rw [g123_0, n108 b, callK_r, psh_s, g123_1, h, if_pos (show bi false = 0 from rfl)]
  | true =>
    rw [h, if_neg (show ¬ bi true = 0 by decide)] at c
    obtain ⟨k, rfl, hk⟩ := inT_t h
    by_cases y0 : y = 0
    · subst y0
      rw [if_pos rfl, if_pos rfl, CT_33 b.C hk] at c
      refine Op_r hI fq.rf _ (w121_r (d + 599) (k : Int) 0 M M _ c) ?_
      have b' := (b.fq (fq_out (r := (sz (subT t k) : Int)))).fq (fq_thr (k := 0))
      obtain ⟨z1, z2, z3, z4, z5⟩ := b'.sub hk
      have m := sp58 (subT t k) (d + 597) z1 z2 (by omega)
      rw [z4] at m
      show ev prog (d + 600) 123 0 0 [vr 87, vi (k : Int), vi 0] [] (shp, _) = _
      rw [g123_0, n108 (b.fq fq_out), callK_r, psh_s, g123_1, h, if_neg (show ¬ bi true = 0 by decide), p51_d, decide_eq_true (by decide), if_neg (show ¬ bi true = 0 by decide), if_pos rfl, show run prog (d + 596 + 3) 58 [vr 87, vi (k : Int)] (shp, mset (mset M 96 0 (sz (subT t k) : Int)) 87 3 0) = _ from m, callK_r, psh_s, g123_10]
    · rw [if_neg y0] at c
      by_cases y1 : y = 1
      · subst y1
        rw [if_pos rfl, if_neg (by decide), CT_34 b.C hk] at c
        refine Op_r hI fq.rf _ (w121_r (d + 599) (k : Int) 1 M M _ c) ?_
        have f' := (fq_out (M := M) (r := ((lk M (subT t k)).length : Int))).tr (fq_thr (k := 0))
        have b' := b.fq f'
        obtain ⟨z1, z2, z3, z4, z5⟩ := b'.sub hk
        have m := sp122 b'.I (subT t k) (d + 597) z1 z2 (by omega)
        rw [z4, lk_k f'.cq] at m
        show ev prog (d + 600) 123 0 0 [vr 87, vi (k : Int), vi 1] [] (shp, _) = _
        rw [g123_0, n108 (b.fq fq_out), callK_r, psh_s, g123_1, h, if_neg (show ¬ bi true = 0 by decide), p51_d, decide_eq_true (by decide), if_neg (show ¬ bi true = 0 by decide), if_neg (by decide), show run prog (d + 596 + 3) 122 [vr 87, vi (k : Int)] (shp, mset (mset M 96 0 ((lk M (subT t k)).length : Int)) 87 3 0) = _ from m, callK_r, psh_s, g123_12]
      · rw [if_neg y1] at c
        refine Op_x hI fq.rf (k := 2) (b := 0) (by decide) (w121_x0 (d + 599) (k : Int) y M M c) ?_
        show ev prog (d + 600) 123 0 0 [vr 87, vi (k : Int), vi y] [] (shp, M) = _
        rw [g123_0, n108 b, callK_r, psh_s, g123_1, h, if_neg (show ¬ bi true = 0 by decide), p51_d, decide_eq_false (by omega), if_pos (show bi false = 0 from rfl)]
end OS
