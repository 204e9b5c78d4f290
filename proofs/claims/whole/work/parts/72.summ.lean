/-! THE CLASS SUMS UP ITS TREE -/
theorem w1ab {a b : Nat} (h : a + b < 2147483647) : wr (wr (1 + (a : Int)) + (b : Int)) = ((1 + a + b : Nat) : Int) := by
  rw [wrR (x := 1 + (a : Int)) (by omega) (by omega), wrR (by omega) (by omega)]
  omega
theorem w0ab {a b : Nat} (h : a + b < 2147483647) : wr (wr (0 + (a : Int)) + (b : Int)) = ((0 + a + b : Nat) : Int) := by
  rw [wrR (x := 0 + (a : Int)) (by omega) (by omega), wrR (by omega) (by omega)]
  omega
theorem lowT_i (M : mM) (D : Int) (a s k : Nat) (v : Unit) (l r : Tr) : lowT M D a (.inner s k v l r) = match alv M k with
    | true => mn (mn (lowT M D a l) (lowT M D a r)) (M 8 (3 * k + a))
    | false => mn (lowT M D a l) (lowT M D a r) := rfl
theorem highT_i (M : mM) (D : Int) (a s k : Nat) (v : Unit) (l r : Tr) : highT M D a (.inner s k v l r) = match alv M k with
    | true => mx (mx (highT M D a l) (highT M D a r)) (M 8 (3 * k + a))
    | false => mx (highT M D a l) (highT M D a r) := rfl
theorem p32_alv {M : mM} {n k : Nat} (hn : M 7 4 = (n : Int)) (h200 : n ≤ 200) (hk : k < n) : p32 (k : Int) M = alv M k := by
  unfold p32 alv
  rw [p31_iff hn, decide_eq_true (show 0 ≤ (k : Int) ∧ (k : Int) < (n : Int) by omega), if_neg (show ¬ bi true = 0 by decide), va_in ⟨by omega, by omega⟩, Int.toNat_natCast]
  by_cases c : M 11 k = 1
  · rw [if_pos c, decide_eq_true c]
  · rw [if_neg c, decide_eq_false c]
theorem r33_T {M : mM} {t : Tr} (h : smR M t) (h2 : ∀ k ∈ ks t, k < 200) : r33 (rt t) M = (sz t : Int) := by
  cases t with
  | leaf => rfl
  | inner s k v l r =>
    have hk := h2 k List.mem_cons_self
    show (if (k : Int) < 0 then 0 else va M 16 200 (k : Int)) = _
    rw [if_neg (by omega), va_in ⟨by omega, by omega⟩, Int.toNat_natCast]
    exact h.1
theorem r34_T {M : mM} {t : Tr} (h : smR M t) (h2 : ∀ k ∈ ks t, k < 200) : r34 (rt t) M = ((lk M t).length : Int) := by
  cases t with
  | leaf => rfl
  | inner s k v l r =>
    have hk := h2 k List.mem_cons_self
    show (if (k : Int) < 0 then 0 else va M 17 200 (k : Int)) = _
    rw [if_neg (by omega), va_in ⟨by omega, by omega⟩, Int.toNat_natCast]
    exact h.2.1
theorem r35_T {M : mM} {t : Tr} (h : smR M t) (h2 : ∀ k ∈ ks t, k < 200) {a : Nat} (ha : a < 3) : r35 (rt t) (a : Int) M = lowT M 101 a t := by
  cases t with
  | leaf => rfl
  | inner s k v l r =>
    have hk := h2 k List.mem_cons_self
    show (if (k : Int) < 0 then 101 else va M 18 600 (wr (wr (3 * (k : Int)) + (a : Int)))) = _
    rw [if_neg (by omega), x3a hk ha, va_in ⟨by omega, by omega⟩, Int.toNat_natCast]
    exact (h.2.2 a ha).1
theorem r36_T {M : mM} {t : Tr} (h : smR M t) (h2 : ∀ k ∈ ks t, k < 200) {a : Nat} (ha : a < 3) : r36 (rt t) (a : Int) M = highT M (-101) a t := by
  cases t with
  | leaf => rfl
  | inner s k v l r =>
    have hk := h2 k List.mem_cons_self
    show (if (k : Int) < 0 then (-101) else va M 19 600 (wr (wr (3 * (k : Int)) + (a : Int)))) = _
    rw [if_neg (by omega), x3a hk ha, va_in ⟨by omega, by omega⟩, Int.toNat_natCast]
    exact (h.2.2 a ha).2
theorem r28_T {M : mM} {s k : Nat} {v : Unit} {l r : Tr} {n : Int} (h : isT (clf M) (crf M) (.inner s k v l r) n) : r28 (k : Int) 0 M = rt l ∧ r28 (k : Int) 1 M = rt r := by
  obtain ⟨h1, h2, h3, h4⟩ := h
  have hl : M 13 (2 * k) = rt l := isT_rt h3
  have hr : M 13 (2 * k + 1) = rt r := isT_rt h4
  unfold r28
  constructor
  · rw [if_neg (by omega), x20 (by omega), va_in ⟨by omega, by omega⟩, Int.toNat_natCast, hl]
  · rw [if_neg (by omega), x21 (by omega), va_in ⟨by omega, by omega⟩, Int.toNat_natCast, hr]
/-- only these places of the summary are written -/
def smF1 (k : Nat) (M M' : mM) : Prop := ∀ j, j ≠ k → M' 16 j = M 16 j ∧ M' 17 j = M 17 j ∧ ∀ a, a < 3 → M' 18 (3 * j + a) = M 18 (3 * j + a) ∧ M' 19 (3 * j + a) = M 19 (3 * j + a)
theorem sp37 {M : mM} (d : Nat) {n : Nat} (hn : M 7 4 = (n : Int)) (h200 : n ≤ 200) {s k : Nat} {v : Unit} {l r : Tr} (hT : isT (clf M) (crf M) (.inner s k v l r) (k : Int)) (hk : k < n) (hkl : k ∉ ks l) (hkr : k ∉ ks r) (hl : smR M l) (hr : smR M r) (hsz : sz (.inner s k v l r) ≤ 200) :
    ∃ M', run prog (d + 3) 37 [vr 12, vi (k : Int)] (shp, M) = some (.inl none, (shp, M')) ∧ smR M' (.inner s k v l r) ∧ same [16, 17, 18, 19] M M' ∧ smF1 k M M' := by
  show ∃ M', ev prog (d + 3) 37 0 0 [vr 12, vi (k : Int), vj, vj, vj, vj, vj, vj, vj] [] (shp, M) = _ ∧ _
  have htl : ∀ x ∈ ks l, x < 200 := fun x hx => isT_lt hT x (List.mem_cons_of_mem _ (List.mem_append.mpr (Or.inl hx)))
  have htr : ∀ x ∈ ks r, x < 200 := fun x hx => isT_lt hT x (List.mem_cons_of_mem _ (List.mem_append.mpr (Or.inr hx)))
  obtain ⟨c0, c1⟩ := r28_T hT
  rw [sz_i] at hsz
  have hll := lk_le M l
  have hlr := lk_le M r
  -- behind the two sizes
  obtain ⟨M2, hM2⟩ : ∃ M2, M2 = mset (mset M 16 k ((sz l + sz r + 1 : Nat) : Int)) 17 k ((lk M (.inner s k v l r)).length : Int) := ⟨_, rfl⟩
  have hlk : (lk M (.inner s k v l r)).length = (match alv M k with | true => 1 | false => 0) + (lk M l).length + (lk M r).length := by
    rw [lk_i, List.length_append, List.length_append]
    cases alv M k <;> simp [Nat.add_assoc]
  have s2 : same [16, 17] M M2 := by rw [hM2]; exact (same_mset.mono (by decide)).tr (same_mset.mono (by decide))
  have first : ev prog (d + 3) 37 0 0 [vr 12, vi (k : Int), vj, vj, vj, vj, vj, vj, vj] [] (shp, M) = ev prog (d + 3) 37 0 13 [vr 12, vi (k : Int), vi (rt l), vi (rt r), vi (bi (alv M k)), vi 0, vj, vj, vj] [] (shp, M2) := by
    have e16 : sz l + sz r + 1 = 1 + sz l + sz r := by omega
    have c34 : ∀ (x w : Int), r34 x (pu M 16 200 (k : Int) w) = r34 x M := fun x w => cr34 (same_pu 17 (by decide)) x
    rw [g37_0, c0, c1, c34, c34, r33_T hl htl, r33_T hr htr, r34_T hl htl, r34_T hr htr, p32_alv hn h200 hk, w1ab (by omega), pu_in (k := 16) ⟨by omega, by omega⟩, pu_in (k := 17) ⟨by omega, by omega⟩, pu_in (k := 17) ⟨by omega, by omega⟩, Int.toNat_natCast, hM2, hlk, e16]
    cases alv M k with
    | true => rw [if_neg (show ¬ bi true = 0 by decide), w1ab (by omega)]
    | false => rw [if_pos (show bi false = 0 from rfl), w0ab (by omega)]
  -- the three axes
  have hl3 : ∀ M3 : mM, same [16, 17, 18, 19] M M3 → smF1 k M M3 → smR M3 l ∧ smR M3 r := fun M3 hs hf => by
    refine ⟨smR_c (hs 8 (by decide)) (hs 11 (by decide)) (fun x hx => hf x (fun q => hkl (by rw [← q]; exact hx))) hl, smR_c (hs 8 (by decide)) (hs 11 (by decide)) (fun x hx => hf x (fun q => hkr (by rw [← q]; exact hx))) hr⟩
  obtain ⟨M', a1, a2, a3, a4, a5⟩ := up_inv (fun M3 a => ev prog (d + 3) 37 0 13 [vr 12, vi (k : Int), vi (rt l), vi (rt r), vi (bi (alv M k)), vi (a : Int), vj, vj, vj] [] (shp, M3))
    (fun a M3 => same [16, 17, 18, 19] M M3 ∧ smF1 k M M3 ∧ (M3 16 k = M2 16 k ∧ M3 17 k = M2 17 k) ∧ ∀ b, b < a → b < 3 → M3 18 (3 * k + b) = lowT M 101 b (.inner s k v l r) ∧ M3 19 (3 * k + b) = highT M (-101) b (.inner s k v l r)) 3 (fun a M3 ha hI => by
    obtain ⟨k1, k2, k3, k4⟩ := hI
    obtain ⟨q1, q2⟩ := hl3 M3 k1 k2
    have lT := lowT_c (k1 8 (by decide)) (k1 11 (by decide))
    have hTt := highT_c (k1 8 (by decide)) (k1 11 (by decide))
    have e8 : r20 (k : Int) (a : Int) M3 = M 8 (3 * k + a) := by rw [r20_at M3 (by omega) ha, k1 8 (by decide)]
    show ∃ M', ev prog (d + 3) 37 0 13 [vr 12, vi (k : Int), vi (rt l), vi (rt r), vi (bi (alv M k)), vi (a : Int), vj, vj, vj] [] (shp, M3) = ev prog (d + 3) 37 0 13 [vr 12, vi (k : Int), vi (rt l), vi (rt r), vi (bi (alv M k)), vi ((a + 1 : Nat) : Int), vj, vj, vj] [] (shp, M') ∧ _
    refine ⟨mset (mset M3 18 (3 * k + a) (lowT M 101 a (.inner s k v l r))) 19 (3 * k + a) (highT M (-101) a (.inner s k v l r)), ?_, (k1.tr (same_mset.mono (by decide))).tr (same_mset.mono (by decide)), fun j hj => ?_, ?_, fun b hb hb3 => ?_⟩
    · have p1 : ∀ (N : mM) (c w : Int), pu N 18 600 ((3 * k + a : Nat) : Int) w = mset N 18 (3 * k + a) w := fun N c w => by rw [pu_in ⟨by omega, by omega⟩, Int.toNat_natCast]
      have p2 : ∀ (N : mM) (c w : Int), pu N 19 600 ((3 * k + a : Nat) : Int) w = mset N 19 (3 * k + a) w := fun N c w => by rw [pu_in ⟨by omega, by omega⟩, Int.toNat_natCast]
      rw [g37_13, if_pos (by omega), x3a (by omega) ha, wI (by omega), r35_T q1 htl ha, r35_T q2 htr ha, r36_T q1 htl ha, r36_T q2 htr ha, e8, lT, lT, hTt, hTt]
      simp only [fun N w => p1 N 0 w, fun N w => p2 N 0 w]
      rw [lowT_i, highT_i]
      cases alv M k with
      | true => rw [if_neg (show ¬ bi true = 0 by decide), if_neg (show ¬ bi true = 0 by decide)]; rfl
      | false => rw [if_pos (show bi false = 0 from rfl), if_pos (show bi false = 0 from rfl)]; rfl
    · obtain ⟨f1, f2, f3⟩ := k2 j hj
      refine ⟨by rw [mset_k (by decide), mset_k (by decide)]; exact f1, by rw [mset_k (by decide), mset_k (by decide)]; exact f2, fun b hb => ⟨?_, ?_⟩⟩
      · rw [mset_k (by decide), mset_j (by omega)]; exact (f3 b hb).1
      · rw [mset_j (by omega), mset_k (by decide)]; exact (f3 b hb).2
    · rw [mset_k (by decide), mset_k (by decide), mset_k (by decide), mset_k (by decide)]; exact k3
    · by_cases e : b = a
      · subst e
        rw [mset_k (by decide), mset_at, mset_at]
        exact ⟨rfl, rfl⟩
      · rw [mset_k (by decide), mset_j (by omega), mset_j (by omega), mset_k (by decide)]
        exact k4 b (by omega) hb3) (M := M2) ⟨s2.mono (by decide), fun j hj => by
        rw [hM2, mset_k (by decide), mset_j hj, mset_j hj, mset_k (by decide)]
        exact ⟨rfl, rfl, fun a _ => by rw [mset_k (by decide), mset_k (by decide), mset_k (by decide), mset_k (by decide)]; exact ⟨rfl, rfl⟩⟩, ⟨rfl, rfl⟩, fun b hb => absurd hb (Nat.not_lt_zero _)⟩
  refine ⟨M', ?_, ⟨?_, ?_, fun a ha => ?_⟩, a2, a3⟩
  · rw [first]
    refine Eq.trans a1 ?_
    show ev prog (d + 3) 37 0 13 [vr 12, vi (k : Int), vi (rt l), vi (rt r), vi (bi (alv M k)), vi ((3 : Nat) : Int), vj, vj, vj] [] (shp, M') = _
    rw [g37_13, if_neg (by decide)]
  · rw [a4.1, hM2, mset_k (by decide), mset_at, sz_i]
  · rw [a4.2, hM2, mset_at, lk_c (a2 11 (by decide))]
  · rw [lowT_c (a2 8 (by decide)) (a2 11 (by decide)), highT_c (a2 8 (by decide)) (a2 11 (by decide))]
    exact a5 a ha ha
def smFL (L : List Nat) (M M' : mM) : Prop := ∀ j, j ∉ L → M' 16 j = M 16 j ∧ M' 17 j = M 17 j ∧ ∀ a, a < 3 → M' 18 (3 * j + a) = M 18 (3 * j + a) ∧ M' 19 (3 * j + a) = M 19 (3 * j + a)
theorem smFL.tr {L L' L'' : List Nat} {M M1 M2 : mM} (h1 : smFL L M M1) (h2 : smFL L' M1 M2) (h : ∀ j, j ∉ L'' → j ∉ L ∧ j ∉ L') : smFL L'' M M2 := by
  intro j hj
  obtain ⟨a1, a2⟩ := h j hj
  obtain ⟨b1, b2, b3⟩ := h1 j a1
  obtain ⟨c1, c2, c3⟩ := h2 j a2
  exact ⟨c1.trans b1, c2.trans b2, fun a ha => ⟨(c3 a ha).1.trans (b3 a ha).1, (c3 a ha).2.trans (b3 a ha).2⟩⟩
theorem clf_c {M M' : mM} (h : M' 13 = M 13) : clf M' = clf M := by funext j; unfold clf; rw [h]
theorem crf_c {M M' : mM} (h : M' 13 = M 13) : crf M' = crf M := by funext j; unfold crf; rw [h]
theorem sp38l (d : Nat) {n : Nat} (h200 : n ≤ 200) : ∀ (t : Tr) (b : Nat) (M : mM), M 7 4 = (n : Int) → isT (clf M) (crf M) t (rt t) → (ks t).Nodup → (∀ k ∈ ks t, k < n) → b + sz t ≤ 200 → (∀ (j x : Nat), (ks t)[j]? = some x → M 22 (b + j) = (x : Int)) →
    ∃ M', ev prog (d + 5) 38 0 2 [vr 12, vi ((b : Int) + (sz t : Int) - 1)] [] (shp, M) = ev prog (d + 5) 38 0 2 [vr 12, vi ((b : Int) - 1)] [] (shp, M') ∧ sm M' t ∧ same [16, 17, 18, 19] M M' ∧ smFL (ks t) M M' := by
  intro t
  induction t with
  | leaf =>
    intro b M _ _ _ _ _ _
    exact ⟨M, by rw [show (sz (.leaf : Tr) : Int) = 0 from rfl, Int.add_zero], trivial, same.rf, fun j _ => ⟨rfl, rfl, fun a _ => ⟨rfl, rfl⟩⟩⟩
  | inner s k v l r ihl ihr =>
    intro b M hn hT hnd hlt hb hrow
    obtain ⟨n1, n2, n3, n4, n5⟩ := nd_i hnd
    have hszt := sz_i s k v l r
    obtain ⟨-, hk200, hTl, hTr⟩ := id hT
    rw [isT_rt hTl] at hTl
    rw [isT_rt hTr] at hTr
    have hmk : k ∈ ks (.inner s k v l r) := List.mem_cons_self
    have hml : ∀ x ∈ ks l, x ∈ ks (.inner s k v l r) := fun x hx => List.mem_cons_of_mem _ (List.mem_append.mpr (Or.inl hx))
    have hmr : ∀ x ∈ ks r, x ∈ ks (.inner s k v l r) := fun x hx => List.mem_cons_of_mem _ (List.mem_append.mpr (Or.inr hx))
    have e0 : ks (.inner s k v l r) = k :: (ks l ++ ks r) := rfl
    have hsl : (ks l).length = sz l := rfl
    -- the right subtree
    obtain ⟨M1, a1, a2, a3, a4⟩ := ihr (b + 1 + sz l) M hn hTr n4 (fun x hx => hlt x (hmr x hx)) (by omega) (fun j x hj => by
      have := hrow (1 + sz l + j) x (by
        rw [e0, show 1 + sz l + j = (sz l + j) + 1 by omega, List.getElem?_cons_succ, List.getElem?_append_right (by rw [hsl]; omega), hsl, show sz l + j - sz l = j by omega]
        exact hj)
      rw [← this]
      congr 1
      omega)
    -- the left one
    obtain ⟨M2, b1, b2, b3, b4⟩ := ihl (b + 1) M1 (by rw [a3 7 (by decide)]; exact hn) (by rw [clf_c (a3 13 (by decide)), crf_c (a3 13 (by decide))]; exact hTl) n3 (fun x hx => hlt x (hml x hx)) (by omega) (fun j x hj => by
      have hjl := (List.getElem?_eq_some_iff.mp hj).1
      have := hrow (1 + j) x (by
        rw [e0, show 1 + j = j + 1 by omega, List.getElem?_cons_succ, List.getElem?_append_left hjl]
        exact hj)
      rw [a3 22 (by decide), ← this]
      congr 1
      omega)
    have s2 : same [16, 17, 18, 19] M M2 := a3.tr b3
    have hsr : sm M2 r := sm_c (b3 8 (by decide)) (b3 11 (by decide)) (fun x hx => b4 x (fun q => n5 x q hx)) a2
    obtain ⟨M', c1, c2, c3, c4⟩ := sp37 (M := M2) (d + 1) (by rw [s2 7 (by decide)]; exact hn) h200 (s := s) (v := v) (by rw [clf_c (s2 13 (by decide)), crf_c (s2 13 (by decide))]; exact hT) (hlt k hmk) n1 n2 (sm_R b2) (sm_R hsr) (by omega)
    have hkr : r30b (b : Int) M2 = (k : Int) := by
      have := hrow 0 k rfl
      show va M2 22 200 (b : Int) = _
      rw [va_in ⟨by omega, by omega⟩, Int.toNat_natCast, s2 22 (by decide)]
      exact this
    refine ⟨M', ?_, ⟨c2, sm_c (c3 8 (by decide)) (c3 11 (by decide)) (fun x hx => c4 x (fun q => n1 (by rw [← q]; exact hx))) b2, sm_c (c3 8 (by decide)) (c3 11 (by decide)) (fun x hx => c4 x (fun q => n2 (by rw [← q]; exact hx))) hsr⟩, s2.tr c3, ?_⟩
    · have i1 : (b : Int) + (sz (.inner s k v l r) : Int) - 1 = ((b + 1 + sz l : Nat) : Int) + (sz r : Int) - 1 := by omega
      have i2 : ((b + 1 + sz l : Nat) : Int) - 1 = ((b + 1 : Nat) : Int) + (sz l : Int) - 1 := by omega
      have i3 : ((b + 1 : Nat) : Int) - 1 = (b : Int) := by omega
      rw [i1, a1, i2, b1, i3, g38_2, if_neg (by omega), hkr, c1, callK_r, psh_n, g38_5, wrR (by omega) (by omega)]
      rfl
    · intro j hj
      have j1 : j ≠ k := fun q => hj (by rw [q]; exact hmk)
      have j2 : j ∉ ks l := fun q => hj (hml j q)
      have j3 : j ∉ ks r := fun q => hj (hmr j q)
      obtain ⟨x1, x2, x3⟩ := a4 j j3
      obtain ⟨y1, y2, y3⟩ := b4 j j2
      obtain ⟨z1, z2, z3⟩ := c4 j j1
      exact ⟨z1.trans (y1.trans x1), z2.trans (y2.trans x2), fun a ha => ⟨(z3 a ha).1.trans ((y3 a ha).1.trans (x3 a ha).1), (z3 a ha).2.trans ((y3 a ha).2.trans (x3 a ha).2)⟩⟩
theorem sp38 (d : Nat) {M : mM} {n : Nat} (hn : M 7 4 = (n : Int)) (h200 : n ≤ 200) {t : Tr} (hT : isT (clf M) (crf M) t (M 12 11)) (hnd : (ks t).Nodup) (hlt : ∀ k ∈ ks t, k < n) :
    ∃ M', run prog (d + 5) 38 [vr 12] (shp, M) = some (.inl none, (shp, M')) ∧ same [14, 15, 16, 17, 18, 19, 20, 21, 22, 23, 24] M M' ∧ TD M' t := by
  show ∃ M', ev prog (d + 5) 38 0 0 [vr 12, vj] [] (shp, M) = _ ∧ _
  obtain ⟨M1, a1, a2, a3, a4, a5⟩ := sp29 d hT hnd
  have hsz := sz_le hT hnd
  have hl : (natI (ks t)).length = sz t := natI_len _
  obtain ⟨M', b1, b2, b3, b4⟩ := sp38l d h200 t 0 M1 (by rw [a3 7 (by decide)]; exact hn) (by rw [clf_c (a3 13 (by decide)), crf_c (a3 13 (by decide)), ← isT_rt hT]; exact hT) hnd hlt (by omega) (fun j x hj => by
    rw [Nat.zero_add]
    exact a2.2 j _ (natI_at hj))
  refine ⟨M', ?_, (a3.mono (by decide)).tr (b3.mono (by decide)), nums_same a2 (b3 21 (by decide)) (b3 22 (by decide)), dv_c (fun k _ => ⟨by rw [b3 14 (by decide)], by rw [b3 15 (by decide)], by rw [b3 20 (by decide)]⟩) a4, b2, fun j hj hjt => by rw [b3 15 (by decide)]; exact a5 j hj hjt⟩
  have e : ((0 : Nat) : Int) + (sz t : Int) - 1 = wr ((sz t : Int) - 1) := by rw [wrR (by omega) (by omega)]; omega
  rw [g38_0, a1, callK_r, psh_n, g38_1, a2.1, hl, ← e, b1, g38_2, if_pos (by decide)]
