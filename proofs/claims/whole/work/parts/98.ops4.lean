/-! OPERATIONS: COUNTS, BOUNDS, THE CURSOR -/
variable {K : KK}
theorem Inv.part {M M' : mM} (hI : Inv K M) (hB : ∃ n t, Bt M' n t) (hs : ∀ k, k ∈ [1, 2, 3, 4, 5, 40, 41, 42, 43, 44, 45, 46, 59, 67, 68, 69, 70, 71, 84, 85, 89, 94] → M' k = M k) (h87 : ∀ j, j ∈ [2, 13, 16] → M' 87 j = M 87 j) (hC : Cur M') : Inv K M' := by
  obtain ⟨-, i3, -, i5, i6⟩ := hI
  refine ⟨hB, Sav_c (hs 5 (by decide)) (h87 2 (by decide)) (fun k hk => hs k ?_) i3, hC, Txt_c (fun j _ => by rw [hs 84 (by decide)]) (hs 85 (by decide)) (hs 94 (by decide)) (fun j hj => h87 j ?_) i5, Sta_c (hs 1 (by decide)) (hs 2 (by decide)) (hs 3 (by decide)) (hs 4 (by decide)) i6⟩
  · simp only [List.mem_cons, List.not_mem_nil, or_false] at hk ⊢; omega
  · rcases hj with rfl | rfl <;> decide
theorem dk_k {M M' : mM} (h : cq M M') (t : Tr) : dk M' t = dk M t := by unfold dk; rw [alv_c (h 11 (by decide))]
section OT
variable {M : mM}
theorem op18 (hI : Inv K M) (d : Nat) (x : Int) : Op K (d + 600) 147 [vr 5, vi x, vr 96] 148 [vr 87, vi x] M := by
  obtain ⟨n, t, b⟩ := hI.1
  have b : Bt M n t := b
  have c := s146 (d + 597) x M
  unfold o146 at c
  by_cases h : 0 ≤ x ∧ x < 4
  · obtain ⟨k, rfl⟩ : ∃ k : Nat, x = (k : Int) := ⟨x.toNat, by omega⟩
    have hk : k < 4 := by omega
    rw [if_neg (by omega), if_pos (by omega), va_in ⟨by omega, by omega⟩, Int.toNat_natCast, b.1.2.2.2.2.2.2 k hk] at c
    refine Op_r hI fq.rf _ (w147_r (d + 599) (k : Int) M M _ c) ?_
    show ev prog (d + 600) 148 0 0 [vr 87, vi (k : Int)] [] (shp, _) = _
    rw [g148_0, p51_d, decide_eq_true (by omega), if_neg (show ¬ bi true = 0 by decide), x2027 (by omega), if_pos (gi2031 (by omega)), Int.toNat_natCast, mset_k (show 88 ≠ 96 by decide)]
  · have c : run prog (d + 599) 146 [vr 5, vi x] (shp, M) = some (.inr 0, (shp, M)) := by
      rw [show d + 599 = d + 597 + 2 from rfl, c]
      by_cases q : x < 0
      · rw [if_pos q]
      · rw [if_neg q, if_neg (by omega)]
    refine Op_x hI fq.rf (k := 1) (b := 0) (by decide) (w147_x0 (d + 599) x M M c) ?_
    show ev prog (d + 600) 148 0 0 [vr 87, vi x] [] (shp, _) = _
    rw [g148_0, p51_d, decide_eq_false (by omega), if_pos (show bi false = 0 from rfl)]
theorem op14 (hI : Inv K M) (d : Nat) (x : Int) : Op K (d + 600) 128 [vr 5, vi x, vr 96] 131 [vr 87, vi x] M := by
  obtain ⟨n, t, b⟩ := hI.1
  have b : Bt M n t := b
  by_cases x0 : x = 0
  · subst x0
    have c : run prog (d + 599) 127 [vr 5, vi 0] (shp, M) = some (.inl (some (vi (liveN M n : Int))), (shp, M)) := by
      show ev prog (d + 599) 127 0 0 [vr 5, vi 0] [] (shp, M) = _
      rw [b127_0_0, g127_1 (d + 594), b.1.2.2.1.1]
    refine Op_r hI fq.rf _ (w128_r (d + 599) 0 M M _ c) ?_
    have f' := (fq_out (M := M) (r := (liveN M n : Int))).tr (fq_thr (k := 0))
    have b' := b.fq f'
    have m := sp54 b'.I b'.n (d + 598)
    rw [liveN_c (f'.cq 11 (by decide))] at m
    show ev prog (d + 600) 131 0 0 [vr 87, vi 0] [] (shp, _) = _
    rw [b131_0_0, g131_1 (d + 594), show run prog (d + 594 + 5) 54 [vr 87] (shp, mset (mset M 96 0 (liveN M n : Int)) 87 3 0) = _ from m, callK_r, psh_s, g131_2]
  by_cases x1 : x = 1
  · subst x1
    have hl := lk_live b
    have hd := lk_dk M t
    have h21 : M 21 1 = (sz t : Int) := by
      rw [b.2.1.1]
      unfold natI
      rw [List.length_map]
      rfl
    have hsz := sz_le b.M.1 b.nd
    have c : run prog (d + 599) 127 [vr 5, vi 1] (shp, M) = some (.inl (some (vi ((dk M t).length : Int))), (shp, M)) := by
      show ev prog (d + 599) 127 0 0 [vr 5, vi 1] [] (shp, M) = _
      rw [b127_0_1, g127_2 (d + 594), b.1.2.2.1.1, h21, wrR (by omega) (by omega), show (sz t : Int) - (liveN M n : Int) = ((dk M t).length : Int) by omega]
    refine Op_r hI fq.rf _ (w128_r (d + 599) 1 M M _ c) ?_
    have f' := (fq_out (M := M) (r := ((dk M t).length : Int))).tr (fq_thr (k := 0))
    have b' := b.fq f'
    obtain ⟨n', q1, q2, q3⟩ := b'.I.cr
    have e : n' = n := by have := b'.n; omega
    subst e
    have m := sp74 b'.I q3 b.l b.nd b.lt b'.M.2.2 (d + 598)
    rw [dk_k f'.cq] at m
    show ev prog (d + 600) 131 0 0 [vr 87, vi 1] [] (shp, _) = _
    rw [b131_0_1, g131_3 (d + 594), show run prog (d + 594 + 5) 74 [vr 87] (shp, mset (mset M 96 0 ((dk M t).length : Int)) 87 3 0) = _ from m, callK_r, psh_s, g131_4]
  by_cases x2 : x = 2
  · subst x2
    have c : run prog (d + 599) 127 [vr 5, vi 2] (shp, M) = some (.inl (some (vi (n : Int))), (shp, M)) := by
      show ev prog (d + 599) 127 0 0 [vr 5, vi 2] [] (shp, M) = _
      rw [b127_0_2, g127_3 (d + 594), b.n]
    refine Op_r hI fq.rf _ (w128_r (d + 599) 2 M M _ c) ?_
    have f' := (fq_out (M := M) (r := (n : Int))).tr (fq_thr (k := 0))
    have b' := b.fq f'
    obtain ⟨n', q1, q2, q3⟩ := b'.I.cr
    have e : n' = n := by have := b'.n; omega
    subst e
    show ev prog (d + 600) 131 0 0 [vr 87, vi 2] [] (shp, _) = _
    rw [b131_0_2, g131_5 (d + 594), q3]
  by_cases x3 : x = 3
  · subst x3
    obtain ⟨M1, a1, a2, a3⟩ := sp126 (d + 594) M b.n b.l
    have f := fq_74 a3
    have c : run prog (d + 599) 127 [vr 5, vi 3] (shp, M) = some (.inl (some (vi ((visL M n).length : Int))), (shp, M1)) := by
      show ev prog (d + 599) 127 0 0 [vr 5, vi 3] [] (shp, M) = _
      rw [b127_0_3, g127_4 (d + 594), a1, callK_r, psh_s, g127_5]
    refine Op_r hI f _ (w128_r (d + 599) 3 M M1 _ c) ?_
    have f' := (f.tr (fq_out (r := ((visL M n).length : Int)))).tr (fq_thr (k := 0))
    have b' := b.fq f'
    have m := sp130 b'.I b'.n (d + 594)
    rw [visL_k f'.cq] at m
    show ev prog (d + 600) 131 0 0 [vr 87, vi 3] [] (shp, _) = _
    rw [b131_0_3, g131_7 (d + 594), m, callK_r, psh_s, g131_8]
  · have c : run prog (d + 599) 127 [vr 5, vi x] (shp, M) = some (.inr 0, (shp, M)) := by
      show ev prog (d + 599) 127 0 0 [vr 5, vi x] [] (shp, M) = _
      rw [b127_0_df _ _ _ (by omega), g127_6 (d + 594)]
    refine Op_x hI fq.rf (k := 1) (b := 0) (by decide) (w128_x0 (d + 599) x M M c) ?_
    show ev prog (d + 600) 131 0 0 [vr 87, vi x] [] (shp, _) = _
    rw [b131_0_df _ _ _ (by omega), g131_9 (d + 594)]
theorem op15 (hI : Inv K M) (d : Nat) (x y z : Int) : Op K (d + 600) 134 [vr 5, vi x, vi y, vi z, vr 96] 139 [vr 87, vi x, vi y, vi z] M := by
  obtain ⟨n, t, b⟩ := hI.1
  have b : Bt M n t := b
  have c := s133 (d + 595) x y z M
  unfold o133 at c
  rw [p104_T b.C x] at c
  cases h : inT t x with
  | false =>
    rw [h, if_pos (show bi false = 0 from rfl)] at c
    refine Op_x hI fq.rf (k := 1) (b := 0) (by decide) (w134_x2 (d + 599) x y z M M c) ?_
    show ev prog (d + 600) 139 0 0 [vr 87, vi x, vi y, vi z] [] (shp, M) = _
    rw [g139_0, n108 b, callK_r, psh_s, g139_1, h, if_pos (show bi false = 0 from rfl)]
  | true =>
    rw [h, if_neg (show ¬ bi true = 0 by decide)] at c
    obtain ⟨k, rfl, hk⟩ := inT_t h
    rw [CT_34 b.C hk] at c
    have head : ∀ M1, fq M M1 → ev prog (d + 600) 139 0 0 [vr 87, vi (k : Int), vi y, vi z] [] (shp, M1) = ev prog (d + 600) 139 0 3 [vr 87, vi (k : Int), vi y, vi z] [vi ((lk M (subT t k)).length : Int)] (shp, mset M1 87 3 0) := by
      intro M1 f
      have f' := f.tr (fq_thr (k := 0))
      have b' := b.fq f'
      obtain ⟨z1, z2, z3, z4, z5⟩ := b'.sub hk
      have m := sp122 b'.I (subT t k) (d + 597) z1 z2 (by omega)
      rw [z4, lk_k f'.cq] at m
      rw [g139_0, n108 (b.fq f), callK_r, psh_s, g139_1, h, if_neg (show ¬ bi true = 0 by decide), show run prog (d + 596 + 3) 122 [vr 87, vi (k : Int)] (shp, mset M1 87 3 0) = _ from m, callK_r, psh_s]
    by_cases h0 : ((lk M (subT t k)).length : Int) = 0
    · rw [if_pos h0] at c
      refine Op_x hI fq.rf (k := 1) (b := 0) (by decide) (w134_x2 (d + 599) (k : Int) y z M M c) ?_
      show ev prog (d + 600) 139 0 0 [vr 87, vi (k : Int), vi y, vi z] [] (shp, M) = _
      rw [head M fq.rf, g139_3, if_pos h0]
    · rw [if_neg h0] at c
      by_cases hy : 0 ≤ y ∧ y < 3
      · obtain ⟨a, rfl⟩ : ∃ a : Nat, y = (a : Int) := ⟨y.toNat, by omega⟩
        have ha : a < 3 := by omega
        rw [if_neg (by omega), if_pos (by omega)] at c
        have h0' : lk M (subT t k) ≠ [] := fun q => h0 (by rw [q]; rfl)
        have hsl : ∀ x ∈ ks (subT t k), x < 200 := fun x hx => by have := b.lt x (sub_mem hx); have := b.l; omega
        by_cases z0 : z = 0
        · subst z0
          rw [if_pos rfl, if_pos rfl, CT_35 b.C hk ha] at c
          refine Op_r hI fq.rf _ (w134_r (d + 599) (k : Int) (a : Int) 0 M M _ c) ?_
          have f' := (fq_out (M := M) (r := lowT M 101 a (subT t k))).tr (fq_thr (k := 0))
          have b' := b.fq f'
          obtain ⟨z1, z2, z3, z4, z5⟩ := b'.sub hk
          have m := sp136 b'.I ha (subT t k) (d + 597) z1 (by omega)
          rw [z4, lowT_c (f'.cq 8 (by decide)) (f'.cq 11 (by decide)), (bnd_eq b.I ha hsl h0').1] at m
          show ev prog (d + 600) 139 0 0 [vr 87, vi (k : Int), vi (a : Int), vi 0] [] (shp, _) = _
          rw [head _ fq_out, g139_3, if_neg h0, show p83 (a : Int) _ = _ from p51_d _ _ _ _, decide_eq_true (by omega), if_neg (show ¬ bi true = 0 by decide), p51_d, decide_eq_true (by decide), if_neg (show ¬ bi true = 0 by decide), if_pos rfl, show run prog (d + 596 + 3) 136 [vr 87, vi (k : Int), vi (a : Int)] (shp, mset (mset M 96 0 (lowT M 101 a (subT t k))) 87 3 0) = _ from m, callK_r, psh_s, g139_14]
        · rw [if_neg z0] at c
          by_cases z1 : z = 1
          · subst z1
            rw [if_pos rfl, if_neg (by decide), CT_36 b.C hk ha] at c
            refine Op_r hI fq.rf _ (w134_r (d + 599) (k : Int) (a : Int) 1 M M _ c) ?_
            have f' := (fq_out (M := M) (r := highT M (-101) a (subT t k))).tr (fq_thr (k := 0))
            have b' := b.fq f'
            obtain ⟨z1, z2, z3, z4, z5⟩ := b'.sub hk
            have m := sp138 b'.I ha (subT t k) (d + 597) z1 (by omega)
            rw [z4, highT_c (f'.cq 8 (by decide)) (f'.cq 11 (by decide)), (bnd_eq b.I ha hsl h0').2.1] at m
            show ev prog (d + 600) 139 0 0 [vr 87, vi (k : Int), vi (a : Int), vi 1] [] (shp, _) = _
            rw [head _ fq_out, g139_3, if_neg h0, show p83 (a : Int) _ = _ from p51_d _ _ _ _, decide_eq_true (by omega), if_neg (show ¬ bi true = 0 by decide), p51_d, decide_eq_true (by decide), if_neg (show ¬ bi true = 0 by decide), if_neg (by decide), show run prog (d + 596 + 3) 138 [vr 87, vi (k : Int), vi (a : Int)] (shp, mset (mset M 96 0 (highT M (-101) a (subT t k))) 87 3 0) = _ from m, callK_r, psh_s, g139_16]
          · rw [if_neg z1] at c
            refine Op_x hI fq.rf (k := 2) (b := 0) (by decide) (w134_x0 (d + 599) (k : Int) (a : Int) z M M c) ?_
            show ev prog (d + 600) 139 0 0 [vr 87, vi (k : Int), vi (a : Int), vi z] [] (shp, M) = _
            rw [head M fq.rf, g139_3, if_neg h0, show p83 (a : Int) _ = _ from p51_d _ _ _ _, decide_eq_true (by omega), if_neg (show ¬ bi true = 0 by decide), p51_d, decide_eq_false (by omega), if_pos (show bi false = 0 from rfl)]
      · have c : run prog (d + 599) 133 [vr 5, vi (k : Int), vi y, vi z] (shp, M) = some (.inr 0, (shp, M)) := by
          rw [show d + 599 = d + 595 + 4 from rfl, c]
          by_cases q : y < 0
          · rw [if_pos q]
          · rw [if_neg q, if_neg (by omega)]
        refine Op_x hI fq.rf (k := 2) (b := 0) (by decide) (w134_x0 (d + 599) (k : Int) y z M M c) ?_
        show ev prog (d + 600) 139 0 0 [vr 87, vi (k : Int), vi y, vi z] [] (shp, M) = _
        rw [head M fq.rf, g139_3, if_neg h0, show p83 y _ = _ from p51_d _ _ _ _, decide_eq_false (by omega), if_pos (show bi false = 0 from rfl)]
end OT
