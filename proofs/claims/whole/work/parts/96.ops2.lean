/-! OPERATIONS: CLUSTERS, MEANS, THE TREE -/
variable {K : KK}
theorem Op_g {D w : Nat} {aw : List mV} {m : Nat} {am : List mV} {M M1 M2 : mM} (hI : Inv K M) (f : fq M M1) (r : Int) (hw : run prog D w aw (shp, M) = some (.inl (some (vi 0)), (shp, mset M1 96 0 r))) (hm : run prog D m am (shp, mset M1 96 0 r) = some (.inl (some (vi r)), (shp, M2))) (f2 : fq (mset M1 96 0 r) M2) (h3 : M2 87 3 = 0) (h96 : M2 96 = (mset M1 96 0 r) 96) : Op K D w aw m am M :=
  ⟨0, r, _, _, sc (f.tr fq_out).1 (by decide), hw, hm, h3, fun _ => by rw [h96]; exact mset_at _ _ _ _, hI.fq ((f.tr fq_out).tr f2)⟩
/-- the means -/
def OpE (K : KK) (D w : Nat) (aw : List mV) (m : Nat) (am : List mV) (M : mM) : Prop := ∃ (k : Int) (b : UInt64) (M1 M2 : mM), (M1 3 = M 3 ∧ M1 4 = M 4) ∧ run prog D w aw (shp, M) = some (.inl (some (vi k)), (shp, M1)) ∧ run prog D m am (shp, M1) = some (.inl (some (vd b)), (shp, M2)) ∧ M2 87 3 = k ∧ (k = 0 → M2 97 0 = (b.toNat : Int)) ∧ Inv K M2
theorem p51_d (x a b : Int) (M : mM) : p51 x a b M = decide (a ≤ x ∧ x ≤ b) := by
  unfold p51
  by_cases h : x < a
  · rw [if_pos h, decide_eq_false (by omega)]
  · rw [if_neg h]
    by_cases h2 : b < x
    · rw [if_pos h2, decide_eq_false (by omega)]
    · rw [if_neg h2, decide_eq_true (by omega)]
theorem fq_78 {M M' : mM} (h : same [73, 74, 75, 76, 77, 78] M M') : fq M M' := fq_s h (by decide)
theorem fq_92 {M M' : mM} (h : same [91, 92] (mset M 87 3 0) M') : fq M M' := fq_thr.tr (fq_s h (by decide))
theorem Bt.sub {M : mM} {n : Nat} {t : Tr} (b : Bt M n t) {k : Nat} (hk : k ∈ ks t) : isT (mlf M) (mrf M) (subT t k) (rt (subT t k)) ∧ sz (subT t k) ≤ 200 ∧ ht (subT t k) ≤ 200 ∧ rt (subT t k) = (k : Int) ∧ k < 200 := by
  have h := sub_T b.M.1 hk
  have e := isT_rt h
  have hs := sz_le h (sub_nd b.nd)
  have hh := ht_le (subT t k)
  have h200 := b.l
  have hl := b.lt k hk
  rw [e] at h
  exact ⟨h, hs, by omega, e.symm, by omega⟩
section OR
variable {M : mM}
theorem op29 (hI : Inv K M) (d : Nat) (x : Int) : Op0 K (d + 600) 204 [vr 5, vi x] 206 [vr 87, vi x] M := by
  obtain ⟨n, t, b⟩ := hI.1
  have b : Bt M n t := b
  obtain ⟨M1, g, c, u, s⟩ := sp204 b.I (d + 592) b.n b.l b.v x
  have f : fq M M1 := fq_78 s
  have b' := b.fq f
  obtain ⟨M2, g2, c2, u2, h3, s2⟩ := sp206 b'.I (d + 594) b'.n b'.v x
  rw [adj_k f.cq, visL_k f.cq] at u2
  rw [visL_k f.cq] at c2
  have e : fil (fun j => decide (g j = j)) (visL M n).length = fil (fun j => decide (g2 j = j)) (visL M n).length := fil_c fun p hp => by rw [cl1_u u u2 hp]
  rw [e] at c
  exact ⟨_, _, _, sc f.1 (by decide), c, c2, hI.fq (f.tr (fq_92 s2))⟩
theorem op30 (hI : Inv K M) (d : Nat) (x y : Int) : Op K (d + 600) 209 [vr 5, vi x, vi y, vr 96] 210 [vr 87, vi x, vi y] M := by
  obtain ⟨n, t, b⟩ := hI.1
  have b : Bt M n t := b
  rcases sp208 b.I (d + 591) b.n b.l b.v x y with ⟨h, c⟩ | ⟨h, M1, g, i, hi, hx, c, u, s⟩
  · exact Op_x hI fq.rf (by decide) (w209_x2 (d + 599) x y M M c) ((sp210 b.I (d + 594) b.n b.v x y).1 h)
  · have f : fq M (mset M1 96 0 (pt M n (g i) : Int)) := (fq_78 s).tr fq_out
    have b' := b.fq f
    obtain ⟨M2, g2, c2, u2, h3, s2⟩ := (sp210 b'.I (d + 594) b'.n b'.v x y).2 i (by rw [visL_k f.cq]; exact hi) (by rw [pt_k f.cq]; exact hx) (by rw [p125_k f.cq]; exact h)
    rw [adj_k f.cq, visL_k f.cq] at u2
    rw [pt_k f.cq, ← cl1_u u u2 hi] at c2
    exact Op_g hI (fq_78 s) _ (w209_r (d + 599) x y M M1 _ c) c2 (fq_92 s2) h3 ((s2 96 (by decide)).trans (mset_ne (by decide)))
theorem op35 (hI : Inv K M) (d : Nat) (x : Int) : OpE K (d + 600) 229 [vr 5, vi x, vr 97] 230 [vr 87, vi x] M := by
  obtain ⟨n, t, b⟩ := hI.1
  have b : Bt M n t := b
  obtain ⟨M1, c, s⟩ := sp228 b.I (d + 594) b.n b.l x
  have f : fq M M1 := fq_74 s
  cases h : decide (0 ≤ x ∧ x < 3) with
  | false =>
    rw [h] at c
    have m := sp230 (b.fq f).I (d + 593) (b.fq f).n x
    rw [h] at m
    exact ⟨1, _, _, _, sc f.1 (by decide), w229_x0 (d + 599) x M M1 c, m, mset_at _ _ _ _, fun e => absurd e (by decide), hI.fq ((f.tr fq_thr).tr fq_thr)⟩
  | true =>
    rw [h] at c
    cases h2 : decide (sumL (wF M) (fil (bx M) n) = 0) with
    | true =>
      rw [h2] at c
      have m := sp230 (b.fq f).I (d + 593) (b.fq f).n x
      rw [h, wF_k f.cq, bx_k f.cq, h2] at m
      exact ⟨2, _, _, _, sc f.1 (by decide), w229_x4 (d + 599) x M M1 c, m, mset_at _ _ _ _, fun e => absurd e (by decide), hI.fq ((f.tr fq_thr).tr fq_thr)⟩
    | false =>
      rw [h2] at c
      have f2 : fq M (mset M1 97 0 ((cenD M n x.toNat).toNat : Int)) := f.tr fq_outD
      have m := sp230 (b.fq f2).I (d + 593) (b.fq f2).n x
      rw [h, wF_k f2.cq, bx_k f2.cq, h2] at m
      have m : run prog (d + 600) 230 [vr 87, vi x] (shp, mset M1 97 0 ((cenD M n x.toNat).toNat : Int)) = some (.inl (some (vd (cenD (mset M1 97 0 ((cenD M n x.toNat).toNat : Int)) n x.toNat))), (shp, mset (mset M1 97 0 ((cenD M n x.toNat).toNat : Int)) 87 3 0)) := m
      rw [cenD_k f2.cq] at m
      exact ⟨0, _, _, _, sc f2.1 (by decide), w229_r (d + 599) x M M1 _ c, m, mset_at _ _ _ _, fun _ => (mset_k (by decide)).trans (mset_at _ _ _ _), hI.fq (f2.tr fq_thr)⟩
theorem op36 (hI : Inv K M) (d : Nat) : Op0 K (d + 600) 234 [vr 5] 237 [vr 87] M := by
  obtain ⟨n, t, b⟩ := hI.1
  have b : Bt M n t := b
  obtain ⟨M1, c, s⟩ := sp234 (d + 595) b.C
  have f : fq M M1 := fq_s s (by decide)
  have f2 : fq M (mset M1 87 3 0) := f.tr fq_thr
  have b' := b.fq f2
  have hT := b'.M.1
  have e := isT_rt hT
  have hs := sz_le hT b.nd
  rw [e] at hT
  have hh := ht_le t
  have m := sp236 b'.I (d + 188) t 200 hT hs (by omega)
  rw [vN_k f2.cq] at m
  have e2 : M1 88 2000 = rt t := by rw [← e, mset_k (by decide)]
  refine ⟨_, _, _, sc f.1 (by decide), c, ?_, hI.fq f2⟩
  show ev prog (d + 600) 237 0 0 [vr 87] [] (shp, M1) = _
  rw [g237_0, e2, show run prog (d + 598 + 1) 236 [vr 87, vi (rt t)] (shp, mset M1 87 3 0) = _ from m, callK_r, psh_s, g237_2]
theorem op12 (hI : Inv K M) (d : Nat) : Op0 K (d + 600) 117 [vr 5] 119 [vr 87] M := by
  obtain ⟨n, t, b⟩ := hI.1
  have b : Bt M n t := b
  have f2 : fq M (mset M 87 3 0) := fq_thr
  have b' := b.fq f2
  have hT := b'.M.1
  have e := isT_rt hT
  have hs := sz_le hT b.nd
  rw [e] at hT
  have hh := ht_le t
  have e2 : M 88 2000 = rt t := by rw [← e, mset_k (by decide)]
  refine ⟨(ht t : Int), M, _, ⟨rfl, rfl⟩, ?_, ?_, hI.fq f2⟩
  · show ev prog (d + 600) 117 0 0 [vr 5] [] (shp, M) = _
    rw [g117_0, show run prog (d + 598 + 1) 116 [vr 12] (shp, M) = _ from sp116 (d + 598) b.C, callK_r, psh_s, g117_1, wrR (by omega) (by omega), show (ht t : Int) - 1 + 1 = (ht t : Int) by omega]
  · show ev prog (d + 600) 119 0 0 [vr 87] [] (shp, M) = _
    rw [g119_0, e2, show run prog (d + 598 + 1) 118 [vr 87, vi (rt t)] (shp, mset M 87 3 0) = _ from sp118 t (d + 597) hT hs (by omega), callK_r, psh_s, g119_2]
theorem op8 (hI : Inv K M) (d : Nat) : Op K (d + 600) 102 [vr 5, vr 96] 103 [vr 87] M := by
  obtain ⟨n, t, b⟩ := hI.1
  have b : Bt M n t := b
  have c := s101 (d + 598) M
  unfold o101 at c
  have e1 : M 12 11 = rt t := isT_rt b.C.2.2.1
  have e2 : M 88 2000 = rt t := isT_rt b.M.1
  rw [e1] at c
  cases t with
  | leaf =>
    refine Op_x hI fq.rf (k := 1) (b := 0) (by decide) (w102_x2 (d + 599) M M c) ?_
    show ev prog (d + 600) 103 0 0 [vr 87] [] (shp, M) = _
    rw [g103_0, e2, if_pos (by decide)]
  | inner s k v l r =>
    have c : run prog (d + 599) 101 [vr 5] (shp, M) = some (.inl (some (vi (k : Int))), (shp, M)) := by
      rw [show d + 599 = d + 598 + 1 from rfl, c, show rt (.inner s k v l r) = (k : Int) from rfl, if_neg (by omega)]
    refine Op_r hI fq.rf (k : Int) (w102_r (d + 599) M M _ c) ?_
    show ev prog (d + 600) 103 0 0 [vr 87] [] (shp, mset M 96 0 (k : Int)) = _
    rw [g103_0, mset_k (show 88 ≠ 96 by decide), e2, show rt (.inner s k v l r) = (k : Int) from rfl, if_neg (by omega)]
end OR
