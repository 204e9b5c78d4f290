/-! OPERATIONS: SHIFT -/
variable {K : KK}
section PB
variable {M : mM}
def okF (M : mM) (t : Tr) (dx dy dz : Int) (k : Nat) : Bool := !(decide (k ∈ ks t)) || mvOk M dx dy dz k
theorem sp99 {n : Nat} {t : Tr} (b : Bt M n t) {N : mM} (h88 : N 88 = M 88) {dx dy dz : Int} (hx : -200 ≤ dx ∧ dx ≤ 200) (hy : -200 ≤ dy ∧ dy ≤ 200) (hz : -200 ≤ dz ∧ dz ≤ 200) {k : Nat} (hk : k < n) (d : Nat) :
    run prog (d + 3) 99 [vr 87, vi (k : Int), vi dx, vi dy, vi dz] (shp, N) = some (.inl (some (vi (bi (okF M t dx dy dz k)))), (shp, N)) := by
  have hl := b.l
  have h12 := b.M.2.2 k hk
  have g8 : ∀ j, j < 600 → M 88 j = M 8 j := fun j hj => by have := rw2_at b.I.co hj; rwa [Nat.zero_add] at this
  have bd : ∀ j, j < 600 → -100 ≤ M 8 j ∧ M 8 j ≤ 100 := fun j hj => (b.I.co j hj).2
  have b0 := bd (3 * k) (by omega)
  have b1 := bd (3 * k + 1) (by omega)
  have b2 := bd (3 * k + 2) (by omega)
  have w0' : wr (M 8 (3 * k) + dx) = M 8 (3 * k) + dx := wrR (by omega) (by omega)
  have w1' : wr (M 8 (3 * k + 1) + dy) = M 8 (3 * k + 1) + dy := wrR (by clear w0'; omega) (by clear w0'; omega)
  have w2' : wr (M 8 (3 * k + 2) + dz) = M 8 (3 * k + 2) + dz := wrR (by clear w0' w1'; omega) (by clear w0' w1'; omega)
  show ev prog (d + 3) 99 0 0 [vr 87, vi (k : Int), vi dx, vi dy, vi dz] [] (shp, N) = _
  rw [g99_0, h88, x1200 (by clear w0' w1' w2'; omega), if_pos (gi2031 (by clear w0' w1' w2'; omega)), Int.toNat_natCast, h12]
  unfold okF
  by_cases c : k ∈ ks t
  · rw [if_pos c, if_neg (show ¬ (1 : Int) = 0 by decide), x32 (by clear w0' w1' w2'; omega), x31 (by clear w0' w1' w2'; omega), x3 (by clear w0' w1' w2'; omega), if_pos (gi2031 (by clear w0' w1' w2'; omega)), if_pos (gi2031 (by clear w0' w1' w2'; omega)), if_pos (gi2031 (by clear w0' w1' w2'; omega)), Int.toNat_natCast, Int.toNat_natCast, Int.toNat_natCast, g8 _ (by clear w0' w1' w2'; omega), g8 _ (by clear w0' w1' w2'; omega), g8 _ (by clear w0' w1' w2'; omega), w0', w1', w2', p52_d, decide_eq_true c, Bool.not_true, Bool.false_or]
    unfold mvOk
    by_cases q : (-100 ≤ M 8 (3 * k) + dx ∧ M 8 (3 * k) + dx ≤ 100) ∧ (-100 ≤ M 8 (3 * k + 1) + dy ∧ M 8 (3 * k + 1) + dy ≤ 100) ∧ (-100 ≤ M 8 (3 * k + 2) + dz ∧ M 8 (3 * k + 2) + dz ≤ 100)
    · rw [decide_eq_true q, if_neg (show ¬ bi true = 0 by decide)]; rfl
    · rw [decide_eq_false q, if_pos (show bi false = 0 from rfl)]; rfl
  · rw [if_neg c, if_pos rfl, decide_eq_false c]
    rfl
theorem l100 {n : Nat} {t : Tr} (b : Bt M n t) {N : mM} (h88 : N 88 = M 88) (h3 : M 88 2001 = (n : Int)) {dx dy dz : Int} (hx : -200 ≤ dx ∧ dx ≤ 200) (hy : -200 ≤ dy ∧ dy ≤ 200) (hz : -200 ≤ dz ∧ dz ≤ 200) (d : Nat) : ∀ (q i : Nat), i + q = n →
    ((∀ k, i ≤ k → k < n → okF M t dx dy dz k = true) → ev prog (d + 4) 100 0 9 [vr 87, vi dx, vi dy, vi dz, vi (i : Int)] [] (shp, N) = ev prog (d + 4) 100 0 17 [vr 87, vi dx, vi dy, vi dz, vi 0] [] (shp, N)) ∧
    ((∃ k, i ≤ k ∧ k < n ∧ okF M t dx dy dz k = false) → ev prog (d + 4) 100 0 9 [vr 87, vi dx, vi dy, vi dz, vi (i : Int)] [] (shp, N) = some (.inl (some (vi 0)), (shp, mset N 87 3 2))) := by
  intro q
  induction q with
  | zero =>
    intro i hi
    refine ⟨fun _ => ?_, fun ⟨k, h1, h2, _⟩ => absurd h2 (by omega)⟩
    rw [g100_9, h88, h3, if_neg (by omega)]
  | succ q ih =>
    intro i hi
    obtain ⟨i1, i2⟩ := ih (i + 1) (by omega)
    have hl := b.l
    have e9 : ev prog (d + 4) 100 0 9 [vr 87, vi dx, vi dy, vi dz, vi (i : Int)] [] (shp, N) = ev prog (d + 4) 100 0 12 [vr 87, vi dx, vi dy, vi dz, vi (i : Int)] [vi (bi (okF M t dx dy dz i))] (shp, N) := by
      rw [g100_9, h88, h3, if_pos (by omega), sp99 b h88 hx hy hz (by omega), callK_r, psh_s]
    rw [e9, g100_12]
    cases ho : okF M t dx dy dz i with
    | true =>
      rw [if_neg (show ¬ bi true = 0 by decide), wI (by omega)]
      refine ⟨fun h => i1 fun k h1 h2 => h k (by omega) h2, fun ⟨k, h1, h2, h3⟩ => i2 ⟨k, ?_, h2, h3⟩⟩
      by_cases e : k = i
      · subst e; rw [ho] at h3; cases h3
      · omega
    | false =>
      rw [if_pos (show bi false = 0 from rfl)]
      exact ⟨fun h => absurd ((h i (Nat.le_refl _) (by omega)).symm.trans ho) (by decide), fun _ => rfl⟩
/-- the model's coordinates after the points below i have moved -/
def mvR (t : Tr) (dx dy dz : Int) (N : mM) (i : Nat) (N' : mM) : Prop := same [88] N N' ∧ (∀ j, 600 ≤ j → N' 88 j = N 88 j) ∧ ∀ k, k < 200 →
  if k < i ∧ k ∈ ks t then N' 88 (3 * k) = N 88 (3 * k) + dx ∧ N' 88 (3 * k + 1) = N 88 (3 * k + 1) + dy ∧ N' 88 (3 * k + 2) = N 88 (3 * k + 2) + dz else N' 88 (3 * k) = N 88 (3 * k) ∧ N' 88 (3 * k + 1) = N 88 (3 * k + 1) ∧ N' 88 (3 * k + 2) = N 88 (3 * k + 2)
theorem l100m {n : Nat} {t : Tr} (b : Bt M n t) {N : mM} (h88 : N 88 = M 88) (h3 : M 88 2001 = (n : Int)) {dx dy dz : Int} (hx : -200 ≤ dx ∧ dx ≤ 200) (hy : -200 ≤ dy ∧ dy ≤ 200) (hz : -200 ≤ dz ∧ dz ≤ 200) (d : Nat) : ∀ (q i : Nat) (N1 : mM), i + q = n → mvR t dx dy dz N i N1 →
    ∃ N2, ev prog (d + 4) 100 0 17 [vr 87, vi dx, vi dy, vi dz, vi (i : Int)] [] (shp, N1) = some (.inl (some (vi (sz t : Int))), (shp, N2)) ∧ mvR t dx dy dz N n N2 := by
  have hl := b.l
  intro q
  induction q with
  | zero =>
    intro i N1 hi h
    have e : i = n := by omega
    subst e
    refine ⟨N1, ?_, h⟩
    have o : ∀ j, 600 ≤ j → N1 88 j = M 88 j := fun j hj => by rw [h.2.1 j hj, h88]
    rw [g100_17, o _ (by omega), h3, if_neg (by omega), show run prog (d + 3) 75 [vr 87] (shp, N1) = _ from sp75 (M := N1) (by rw [o _ (by omega)]; exact h3) b.l b.nd b.lt (fun k hk => by rw [o _ (by omega)]; exact b.M.2.2 k hk) (d + 2), callK_r, psh_s, g100_29]
  | succ q ih =>
    intro i N1 hi h
    obtain ⟨h1, h2, h3'⟩ := h
    have o : ∀ j, 600 ≤ j → N1 88 j = M 88 j := fun j hj => by rw [h2 j hj, h88]
    have h12 := b.M.2.2 i (by omega)
    have here := h3' i (by omega)
    rw [if_neg (by omega), h88] at here
    rw [g100_17, o 2001 (by omega), h3, if_pos (by omega), x1200 (by omega), if_pos (gi2031 (by omega)), Int.toNat_natCast, o _ (by omega), h12, wI (by omega)]
    by_cases c : i ∈ ks t
    · rw [if_pos c, if_pos rfl]
      have g8 : ∀ j, j < 600 → M 88 j = M 8 j := fun j hj => by have := rw2_at b.I.co hj; rwa [Nat.zero_add] at this
      have bd : ∀ j, j < 600 → -100 ≤ M 88 j ∧ M 88 j ≤ 100 := fun j hj => by rw [g8 j hj]; exact (b.I.co j hj).2
      have b0 := bd (3 * i) (by omega)
      have b1 := bd (3 * i + 1) (by omega)
      have b2 := bd (3 * i + 2) (by omega)
      obtain ⟨N2, hN2⟩ : ∃ N2, N2 = mset (mset (mset N1 88 (3 * i) (M 88 (3 * i) + dx)) 88 (3 * i + 1) (M 88 (3 * i + 1) + dy)) 88 (3 * i + 2) (M 88 (3 * i + 2) + dz) := ⟨_, rfl⟩
      have e0 : wr (M 88 (3 * i) + dx) = M 88 (3 * i) + dx := wrR (by omega) (by omega)
      have e1 : wr (M 88 (3 * i + 1) + dy) = M 88 (3 * i + 1) + dy := wrR (by clear e0; omega) (by clear e0; omega)
      have e2 : wr (M 88 (3 * i + 2) + dz) = M 88 (3 * i + 2) + dz := wrR (by clear e0 e1; omega) (by clear e0 e1; omega)
      have i0 : 0 ≤ ((3 * i : Nat) : Int) ∧ ((3 * i : Nat) : Int) < 2031 := gi2031 (by clear e0 e1 e2; omega)
      have i1 : 0 ≤ ((3 * i + 1 : Nat) : Int) ∧ ((3 * i + 1 : Nat) : Int) < 2031 := gi2031 (by clear e0 e1 e2; omega)
      have i2 : 0 ≤ ((3 * i + 2 : Nat) : Int) ∧ ((3 * i + 2 : Nat) : Int) < 2031 := gi2031 (by clear e0 e1 e2; omega)
      have m2 : mvR t dx dy dz N (i + 1) N2 := by
        clear e0 e1 e2
        refine ⟨h1.tr (by rw [hN2]; exact (same_mset.tr same_mset).tr same_mset), fun j hj => by rw [hN2, mset_j (by omega), mset_j (by omega), mset_j (by omega)]; exact h2 j hj, fun k hk => ?_⟩
        by_cases e : k = i
        · subst e
          rw [if_pos ⟨by omega, c⟩, hN2, h88]
          exact ⟨by rw [mset_j (by omega), mset_j (by omega), mset_at], by rw [mset_j (by omega), mset_at], mset_at _ _ _ _⟩
        · have old := h3' k hk
          have f : ∀ a, a < 3 → N2 88 (3 * k + a) = N1 88 (3 * k + a) := fun a ha => by rw [hN2, mset_j (by omega), mset_j (by omega), mset_j (by omega)]
          have f0 := f 0 (by decide)
          rw [Nat.add_zero] at f0
          rw [f0, f 1 (by decide), f 2 (by decide)]
          by_cases cc : k < i ∧ k ∈ ks t
          · rw [if_pos cc] at old; rw [if_pos ⟨by omega, cc.2⟩]; exact old
          · rw [if_neg cc] at old; rw [if_neg (fun q => cc ⟨by omega, q.2⟩)]; exact old
      obtain ⟨N3, r1, r2⟩ := ih (i + 1) N2 (by clear e0 e1 e2; omega) m2
      refine ⟨N3, ?_, r2⟩
      rw [x32 (by clear e0 e1 e2; omega), x31 (by clear e0 e1 e2; omega), x3 (by clear e0 e1 e2; omega), if_pos i0, if_pos i0, if_pos i1, if_pos i1, if_pos i2, if_pos i2, Int.toNat_natCast, Int.toNat_natCast, Int.toNat_natCast]
      rw [mset_j (show 3 * i + 1 ≠ 3 * i by clear e0 e1 e2; omega), mset_j (show 3 * i + 2 ≠ 3 * i + 1 by clear e0 e1 e2; omega), mset_j (show 3 * i + 2 ≠ 3 * i by clear e0 e1 e2; omega), here.1, here.2.1, here.2.2, e0, e1, e2, ← hN2]
      exact r1
    · rw [if_neg c, if_neg (by decide)]
      have m2 : mvR t dx dy dz N (i + 1) N1 := ⟨h1, h2, fun k hk => by
        have old := h3' k hk
        by_cases cc : k < i + 1 ∧ k ∈ ks t
        · have : k ≠ i := fun e => c (by rw [← e]; exact cc.2)
          rw [if_pos ⟨by omega, cc.2⟩] at old; rw [if_pos cc]; exact old
        · rw [if_neg (fun q => cc ⟨by omega, q.2⟩)] at old; rw [if_neg cc]; exact old⟩
      exact ih (i + 1) N1 (by omega) m2
theorem op7 (hI : Inv K M) (d : Nat) (dx dy dz : Int) : Op K (d + 600) 98 [vr 5, vi dx, vi dy, vi dz, vr 96] 100 [vr 87, vi dx, vi dy, vi dz] M := by
  obtain ⟨n, t, b⟩ := hI.1
  have b : Bt M n t := b
  obtain ⟨n', q1, q2, q3⟩ := b.I.cr
  have en : n' = n := by have := b.n; omega
  subst en
  have c : run prog (d + 599) 97 [vr 5, vi dx, vi dy, vi dz] (shp, M) = _ := g97_0 (d + 592) dx dy dz M
  rw [p12_iff dx 200 (by decide), p12_iff dy 200 (by decide), p12_iff dz 200 (by decide)] at c
  by_cases hr : (-200 ≤ dx ∧ dx ≤ 200) ∧ (-200 ≤ dy ∧ dy ≤ 200) ∧ (-200 ≤ dz ∧ dz ≤ 200)
  · obtain ⟨hx, hy, hz⟩ := hr
    have bd : ∀ j, j < 600 → -100 ≤ M 8 j ∧ M 8 j ≤ 100 := fun j hj => (b.I.co j hj).2
    have m94 := sp94 (d + 595) bd b.C hx hy hz
    rw [decide_eq_true hx, decide_eq_true hy, decide_eq_true hz, if_neg (show ¬ bi true = 0 by decide), if_neg (show ¬ bi true = 0 by decide), if_neg (show ¬ bi true = 0 by decide), show run prog (d + 592 + 6) 94 [vr 12, vi dx, vi dy, vi dz] (shp, M) = _ from m94, callK_r, psh_s, g97_8] at c
    have headM : ∀ N, ev prog (d + 600) 100 0 0 [vr 87, vi dx, vi dy, vi dz, vj] [] (shp, N) = ev prog (d + 596 + 4) 100 0 9 [vr 87, vi dx, vi dy, vi dz, vi ((0 : Nat) : Int)] [] (shp, mset N 87 3 0) := fun N => by
      rw [g100_0 (d + 596), p51_d, decide_eq_true hx, if_neg (show ¬ bi true = 0 by decide), p51_d, decide_eq_true hy, if_neg (show ¬ bi true = 0 by decide), p51_d, decide_eq_true hz, if_neg (show ¬ bi true = 0 by decide)]
      rfl
    cases hk : (ks t).all (mvOk M dx dy dz) with
    | false =>
      rw [hk, if_pos (show bi false = 0 from rfl)] at c
      refine Op_x hI fq.rf (k := 2) (b := 0) (by decide) (w98_x4 (d + 599) dx dy dz M M c) ?_
      show ev prog (d + 600) 100 0 0 [vr 87, vi dx, vi dy, vi dz, vj] [] (shp, M) = _
      rw [headM]
      refine (l100 b (N := mset M 87 3 0) (mset_ne (by decide)) q3 hx hy hz (d + 596) n' 0 (by omega)).2 ?_
      obtain ⟨k, h1, h2⟩ := List.all_eq_false.mp hk
      refine ⟨k, Nat.zero_le _, b.lt k h1, ?_⟩
      unfold okF
      rw [decide_eq_true h1]
      cases hm : mvOk M dx dy dz k with
      | true => exact absurd hm h2
      | false => rfl
    | true =>
      rw [hk, if_neg (show ¬ bi true = 0 by decide)] at c
      obtain ⟨C', M0, a1, a2, a3, a4, a5⟩ := sp96 (d + 592) b.C hk
      have h21 : C' 21 1 = (sz t : Int) := by rw [a5.2.2.2.2.2.1.1, natI_len]; rfl
      rw [a1, callK_r, psh_n, g97_11, h21] at c
      have sC : same [8, 14, 15, 16, 17, 18, 19, 20, 21, 22, 23, 24] M C' := (a3.mono (by decide)).tr (a4.mono (by decide))
      obtain ⟨M1, hM1⟩ : ∃ M1, M1 = mset C' 96 0 (sz t : Int) := ⟨_, rfl⟩
      obtain ⟨N, hN⟩ : ∃ N, N = mset M1 87 3 0 := ⟨_, rfl⟩
      have sN : same [87, 96] C' N := by rw [hN, hM1]; exact (same_mset.mono (by decide)).tr (same_mset.mono (by decide))
      have N88 : N 88 = M 88 := by rw [sN 88 (by decide), sC 88 (by decide)]
      have hok : ∀ k, k ∈ ks t → mvOk M dx dy dz k = true := fun k h => List.all_eq_true.mp hk k h
      have l1 := (l100 b N88 q3 hx hy hz (d + 596) n' 0 (by omega)).1 (fun k _ hk2 => by
        unfold okF
        by_cases e : k ∈ ks t
        · rw [hok k e, Bool.or_true]
        · rw [decide_eq_false e]; rfl)
      obtain ⟨N2, r1, r2, r3, r4⟩ := l100m b N88 q3 hx hy hz (d + 596) n' 0 N (by omega) ⟨same.rf, fun _ _ => rfl, fun k hk => by rw [if_neg (fun q => absurd q.1 (Nat.not_lt_zero _))]; exact ⟨rfl, rfl, rfl⟩⟩
      have o : ∀ j, 600 ≤ j → N2 88 j = M 88 j := fun j hj => by rw [r3 j hj, N88]
      have s2 : same [8, 14, 15, 16, 17, 18, 19, 20, 21, 22, 23, 24, 87, 88, 96] M N2 := ((sC.mono (by decide)).tr (sN.mono (by decide))).tr (r2.mono (by decide))
      have e8 : N2 8 = M0 8 := by rw [r2 8 (by decide), sN 8 (by decide), a4 8 (by decide)]
      have g8 : ∀ j, j < 600 → M 88 j = M 8 j := fun j hj => by have := rw2_at b.I.co hj; rwa [Nat.zero_add] at this
      have I8 : rw2 N2 8 0 600 (-100) 100 := by
        have per : ∀ k, k < 200 → ∀ a, a < 3 → N2 8 (3 * k + a) = N2 88 (3 * k + a) ∧ -100 ≤ N2 8 (3 * k + a) ∧ N2 8 (3 * k + a) ≤ 100 := by
          intro k hk a ha
          have m := r4 k hk
          rw [N88, g8 _ (by omega), g8 _ (by omega), g8 _ (by omega)] at m
          rw [e8]
          by_cases ck : k ∈ ks t
          · rw [if_pos ⟨b.lt k ck, ck⟩] at m
            obtain ⟨v0, v1, v2⟩ := a2.1 k ck
            have ok := of_decide_eq_true (hok k ck)
            obtain rfl | rfl | rfl : a = 0 ∨ a = 1 ∨ a = 2 := by omega
            · rw [Nat.add_zero, m.1, v0]; exact ⟨rfl, ok.1⟩
            · rw [m.2.1, v1]; exact ⟨rfl, ok.2.1⟩
            · rw [m.2.2, v2]; exact ⟨rfl, ok.2.2⟩
          · rw [if_neg (fun q => ck q.2)] at m
            obtain ⟨v0, v1, v2⟩ := a2.2 k ck
            obtain rfl | rfl | rfl : a = 0 ∨ a = 1 ∨ a = 2 := by omega
            · rw [Nat.add_zero, m.1, v0]; exact ⟨rfl, bd _ (by omega)⟩
            · rw [m.2.1, v1]; exact ⟨rfl, bd _ (by omega)⟩
            · rw [m.2.2, v2]; exact ⟨rfl, bd _ (by omega)⟩
        intro j hj
        have := per (j / 3) (by omega) (j % 3) (by omega)
        rw [show 3 * (j / 3) + j % 3 = j by omega] at this
        rw [Nat.zero_add]
        exact this
      have I2 : Iv N2 := by
        have ro : ∀ r g w lo hi, N2 r = M r → 600 ≤ g → rw2 M r g w lo hi → rw2 N2 r g w lo hi := fun r g w lo hi he hg h => rw2_eq h fun j hj => ⟨by rw [he], o _ (by omega)⟩
        obtain ⟨-, i2, i3, i4, i5, i6, i7, i8, i9, i10⟩ := b.I
        exact ⟨⟨n', by rw [s2 7 (by decide)]; exact q1, q2, by rw [o _ (by decide)]; exact q3⟩, I8, ro 9 600 200 _ _ (s2 9 (by decide)) (by decide) i3, ro 10 800 200 _ _ (s2 10 (by decide)) (by decide) i4, ro 11 1000 200 _ _ (s2 11 (by decide)) (by decide) i5, ⟨ro 34 2002 6 _ _ (s2 34 (by decide)) (by decide) i6.1, by rw [s2 34 (by decide)]; exact i6.2⟩, ro 35 2008 3 _ _ (s2 35 (by decide)) (by decide) i7, ro 36 2011 3 _ _ (s2 36 (by decide)) (by decide) i8, ro 37 2014 3 _ _ (s2 37 (by decide)) (by decide) i9, ro 38 2017 10 _ _ (s2 38 (by decide)) (by decide) i10⟩
      have B2 : Bs N2 n' t := by
        obtain ⟨-, p2, p3, p4, p5, p6, p7⟩ := b.1
        refine ⟨I2, ?_, ?_, ?_, MT_88 q2 b.lt p5 (fun j h1 _ => o j (by omega)), ?_, ?_⟩
        · rw [s2 7 (by decide)]; exact p2
        · rw [s2 7 (by decide), liveN_c (s2 11 (by decide))]; exact p3
        · rw [clf_c (s2 13 (by decide)), crf_c (s2 13 (by decide)), s2 12 (by decide)]; exact p4
        · rw [alv_c (s2 11 (by decide))]; exact p6
        · intro j hj; rw [s2 26 (by decide), o _ (by omega)]; exact p7 j hj
      have D2 : TD N2 t := TD_c (fun k hk => by
        rw [r2 k (by intro q; simp only [List.mem_cons, List.not_mem_nil, or_false] at hk q; omega), sN k (by intro q; simp only [List.mem_cons, List.not_mem_nil, or_false] at hk q; omega)]) a5.2.2.2.2.2
      have k87 : ∀ j, j ≠ 3 → N2 87 j = M 87 j := fun j hj => by rw [r2 87 (by decide), hN, mset_j hj, hM1, mset_k (by decide), sC 87 (by decide)]
      refine ⟨0, (sz t : Int), M1, N2, ⟨by rw [hM1, mset_ne (by decide), sC 3 (by decide)], by rw [hM1, mset_ne (by decide), sC 4 (by decide)]⟩, ?_, ?_, ?_, fun _ => ?_, ?_⟩
      · rw [hM1]; exact w98_r (d + 599) dx dy dz M C' _ c
      · show ev prog (d + 600) 100 0 0 [vr 87, vi dx, vi dy, vi dz, vj] [] (shp, M1) = _
        rw [headM, ← hN, l1]
        exact r1
      · rw [r2 87 (by decide), hN, mset_at]
      · rw [r2 96 (by decide), hN, mset_k (by decide), hM1, mset_at]
      · refine hI.part ⟨n', t, B2, D2⟩ (fun k hk => s2 k ?_) (fun j hj => k87 j ?_) (Cur_c (fun j _ => by rw [s2 79 (by decide)]) (s2 80 (by decide)) (s2 81 (by decide)) (s2 93 (by decide)) (fun j hj => k87 j (by omega)) hI.2.2.1)
        · simp only [List.mem_cons, List.not_mem_nil, or_false] at hk ⊢; omega
        · intro e; subst e; exact absurd hj (by decide)
  · have c : run prog (d + 599) 97 [vr 5, vi dx, vi dy, vi dz] (shp, M) = some (.inr 0, (shp, M)) := by
      rw [c]
      by_cases h1 : -200 ≤ dx ∧ dx ≤ 200
      · rw [decide_eq_true h1, if_neg (show ¬ bi true = 0 by decide)]
        by_cases h2 : -200 ≤ dy ∧ dy ≤ 200
        · rw [decide_eq_true h2, if_neg (show ¬ bi true = 0 by decide), decide_eq_false (fun q => hr ⟨h1, h2, q⟩), if_pos (show bi false = 0 from rfl)]
        · rw [decide_eq_false h2, if_pos (show bi false = 0 from rfl)]
      · rw [decide_eq_false h1, if_pos (show bi false = 0 from rfl)]
    refine Op_x hI fq.rf (k := 1) (b := 0) (by decide) (w98_x0 (d + 599) dx dy dz M M c) ?_
    show ev prog (d + 600) 100 0 0 [vr 87, vi dx, vi dy, vi dz, vj] [] (shp, M) = _
    rw [g100_0 (d + 596), p51_d, p51_d, p51_d]
    by_cases h1 : -200 ≤ dx ∧ dx ≤ 200
    · rw [decide_eq_true h1, if_neg (show ¬ bi true = 0 by decide)]
      by_cases h2 : -200 ≤ dy ∧ dy ≤ 200
      · rw [decide_eq_true h2, if_neg (show ¬ bi true = 0 by decide), decide_eq_false (fun q => hr ⟨h1, h2, q⟩), if_pos (show bi false = 0 from rfl)]
      · rw [decide_eq_false h2, if_pos (show bi false = 0 from rfl)]
    · rw [decide_eq_false h1, if_pos (show bi false = 0 from rfl)]
end PB
