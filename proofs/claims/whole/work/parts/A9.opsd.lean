/-! OPERATIONS: READ -/
variable {K : KK}
theorem dg_u (T : Nat → Int) (n : Nat) : ∀ (k j : Nat) (v : Int) (p : Nat), 0 ≤ v → v < 10 ^ j → 0 ≤ (dg T n k v p).1 ∧ (dg T n k v p).1 < 10 ^ (j + k) := by
  intro k
  induction k with
  | zero => intro j v p h0 h1; exact ⟨h0, h1⟩
  | succ k ih =>
    intro j v p h0 h1
    cases hd : cD T n p with
    | false =>
      rw [dg_f T n hd]
      have : (10 : Int) ^ j ≤ 10 ^ (j + (k + 1)) := p10 (by omega)
      exact ⟨h0, by show v < _; omega⟩
    | true =>
      rw [dg_t T n hd]
      obtain ⟨c1, c2, c3, c4⟩ := cD_lt T n hd
      have e : (10 : Int) ^ (j + 1) = 10 ^ j * 10 := Int.pow_succ _ _
      have := ih (j + 1) (10 * v + (cA T n p - 48)) (p + 1) (by omega) (by rw [e]; omega)
      rw [show j + 1 + k = j + (k + 1) by omega] at this
      exact this
theorem nuP_u {T : Nat → Int} {n mx p : Nat} (hm : 1 ≤ mx) {q : Int × Nat} (h : nuP T n mx p = some q) : 0 ≤ q.1 ∧ q.1 < 10 ^ mx := by
  cases hd : cD T n p with
  | false => rw [nu_f T n hd] at h; cases h
  | true =>
    rw [nu_t T n hd] at h
    obtain ⟨c1, c2, c3, c4⟩ := cD_lt T n hd
    by_cases c : cA T n p = 48
    · rw [if_pos c] at h
      cases h
      exact ⟨Int.le_refl _, p10p mx⟩
    · rw [if_neg c] at h
      cases h
      have := dg_u T n (mx - 1) 1 (cA T n p - 48) (p + 1) (by omega) (by rw [Int.pow_succ, Int.pow_zero]; omega)
      rw [show 1 + (mx - 1) = mx by omega] at this
      exact this
theorem pB_u {T : Nat → Int} {n mx p : Nat} (hm : 1 ≤ mx) {c df : Int} (hdf : 0 ≤ df ∧ df < 10 ^ mx) {x : Int × Nat} (h : pB T n c mx df p = .inr x) : 0 ≤ x.1 ∧ x.1 < 10 ^ mx := by
  unfold pB at h
  by_cases e : cA T n p = c
  · rw [if_pos e] at h
    cases hq : nuP T n mx (p + 1) with
    | none => rw [hq] at h; cases h
    | some q =>
      rw [hq] at h
      cases h
      exact nuP_u hm hq
  · rw [if_neg e] at h
    cases h
    exact hdf
theorem pW_u {T : Nat → Int} {n p : Nat} {x : (Int × Int) × Nat} (h : pW T n p = .inr x) : (0 ≤ x.1.1 ∧ x.1.1 ≤ 99) ∧ 0 ≤ x.1.2 ∧ x.1.2 ≤ 9 := by
  unfold pW at h
  cases h1 : pB T n 58 2 1 p with
  | inl e => rw [h1] at h; cases h
  | inr w =>
    rw [h1] at h
    cases h2 : pB T n 35 1 0 w.2 with
    | inl e => have h : (bnd (pB T n 35 1 0 w.2) fun g => _) = _ := h; rw [h2] at h; cases h
    | inr g =>
      have h : (bnd (pB T n 35 1 0 w.2) fun g => _) = _ := h
      rw [h2] at h
      cases h
      have a := pB_u (by decide) (by decide) h1
      have b := pB_u (by decide) (by decide) h2
      have e2 : (10 : Int) ^ 2 = 100 := by decide
      have e1 : (10 : Int) ^ 1 = 10 := by decide
      exact ⟨⟨a.1, by show w.1 ≤ 99; omega⟩, b.1, by show g.1 ≤ 9; omega⟩
def wok (v : V5) : Prop := (0 ≤ v.2.2.2.1 ∧ v.2.2.2.1 ≤ 99) ∧ 0 ≤ v.2.2.2.2 ∧ v.2.2.2.2 ≤ 9
theorem pD_u {T : Nat → Int} {n p : Nat} {y : V5 × Nat} (h : pD T n p = .inr y) : wok y.1 := by
  rw [pD_P3] at h
  cases h1 : P3 T n p with
  | inl e => rw [h1] at h; cases h
  | inr t =>
    rw [h1] at h
    cases h2 : pW T n t.2 with
    | inl e => have h : (bnd (pW T n t.2) fun g => _) = _ := h; rw [h2] at h; cases h
    | inr w =>
      have h : (bnd (pW T n t.2) fun g => _) = _ := h
      rw [h2] at h
      cases h
      exact pW_u h2
theorem pL_u {T : Nat → Int} {n : Nat} : ∀ (f p : Nat) (L : List V5), pL T n f p = .inr L → (∀ v ∈ L, wok v) ∧ L.length ≤ f ∧ L ≠ [] := by
  intro f
  induction f with
  | zero => intro p L h; cases h
  | succ f ih =>
    intro p L h
    have h : (bnd (pD T n p) fun y => if y.2 < n then bnd (pX T n 59 y.2) fun q => bnd (pL T n f q) fun L => .inr (y.1 :: L) else .inr [y.1]) = .inr L := h
    cases h1 : pD T n p with
    | inl e => rw [h1] at h; cases h
    | inr y =>
      rw [h1] at h
      have h : (if y.2 < n then bnd (pX T n 59 y.2) fun q => bnd (pL T n f q) fun L => .inr (y.1 :: L) else .inr [y.1]) = (.inr L : Nat ⊕ List V5) := h
      by_cases c : y.2 < n
      · rw [if_pos c] at h
        cases h2 : pX T n 59 y.2 with
        | inl e => rw [h2] at h; cases h
        | inr q =>
          rw [h2] at h
          have h : (bnd (pL T n f q) fun L => .inr (y.1 :: L)) = (.inr L : Nat ⊕ List V5) := h
          cases h3 : pL T n f q with
          | inl e => rw [h3] at h; cases h
          | inr L2 =>
            rw [h3] at h
            cases h
            obtain ⟨a, b, -⟩ := ih q L2 h3
            refine ⟨fun v hv => ?_, by show L2.length + 1 ≤ f + 1; omega, by intro e; cases e⟩
            rcases List.mem_cons.mp hv with e | e
            · rw [e]; exact pD_u h1
            · exact a v e
      · rw [if_neg c] at h
        cases h
        refine ⟨fun v hv => ?_, by show 1 ≤ f + 1; omega, by intro e; cases e⟩
        rw [List.mem_singleton.mp hv]
        exact pD_u h1
def cok (v : V5) : Bool := decide ((-100 ≤ v.1 ∧ v.1 ≤ 100) ∧ (-100 ≤ v.2.1 ∧ v.2.1 ≤ 100) ∧ (-100 ≤ v.2.2.1 ∧ v.2.2.1 ≤ 100))
theorem bv_d (v : V5) (b : Int) : bv v b = if cok v = true then b else 1 := by
  unfold bv bq cok
  by_cases h3 : v.2.2.1 < -100 ∨ 100 < v.2.2.1
  · rw [if_pos h3, decide_eq_false (by omega), if_neg (by decide)]
  rw [if_neg h3]
  by_cases h2 : v.2.1 < -100 ∨ 100 < v.2.1
  · rw [if_pos h2, decide_eq_false (by omega), if_neg (by decide)]
  rw [if_neg h2]
  by_cases h1 : v.1 < -100 ∨ 100 < v.1
  · rw [if_pos h1, decide_eq_false (by omega), if_neg (by decide)]
  rw [if_neg h1, decide_eq_true (by omega), if_pos rfl]
theorem bvL_1 : ∀ L : List V5, bvL L 1 = 1
  | [] => rfl
  | v :: L => by
    show bvL L (bv v 1) = 1
    rw [bv_d]
    split <;> exact bvL_1 L
theorem bvL_d : ∀ L : List V5, bvL L 0 = if L.all cok = true then 0 else 1
  | [] => rfl
  | v :: L => by
    show bvL L (bv v 0) = _
    rw [bv_d, List.all_cons]
    by_cases h : cok v = true
    · rw [if_pos h, bvL_d L, h, Bool.true_and]
    · rw [if_neg h, bvL_1]
      rw [if_neg (by rw [Bool.and_eq_true]; exact fun q => h q.1)]
theorem sp284 (d : Nat) {N : mM} : ∀ (L : List V5) (i : Nat), i + L.length ≤ 16 → N 87 18 = ((i + L.length : Nat) : Int) → (∀ (j : Nat) (h : j < L.length), pt5u N (i + j) L[j]) → ev prog (d + 3) 284 0 1 [vr 87, vi (i : Int)] [] (shp, N) = some (.inl (some (vi (bi (!(L.all cok))))), (shp, N)) := by
  intro L
  induction L with
  | nil =>
    intro i h16 h18 _
    rw [g284_1, h18, if_neg (by have : ([] : List V5).length = 0 := rfl; omega)]
    rfl
  | cons v L ih =>
    intro i h16 h18 hp
    have hlen : (v :: L).length = L.length + 1 := rfl
    have i5 : wr (5 * (i : Int)) = ((5 * i : Nat) : Int) := by rw [wrR (by omega) (by omega)]; omega
    have i51 : wr (wr (5 * (i : Int)) + 1) = ((5 * i + 1 : Nat) : Int) := x5 (k := i) (i := 1) (by clear i5; omega) (by decide)
    have i52 : wr (wr (5 * (i : Int)) + 2) = ((5 * i + 2 : Nat) : Int) := x5 (k := i) (i := 2) (by clear i5 i51; omega) (by decide)
    obtain ⟨p0, p1, p2, -, -⟩ := hp 0 (by clear i5 i51 i52; omega)
    have p0 : N 95 (5 * i) = v.1 := p0
    have p1 : N 95 (5 * i + 1) = v.2.1 := p1
    have p2 : N 95 (5 * i + 2) = v.2.2.1 := p2
    rw [g284_1, h18, if_pos (by clear i5 i51 i52; omega), i51, i52, i5, if_pos (gi100 (by clear i5 i51 i52; omega)), if_pos (gi100 (by clear i5 i51 i52; omega)), if_pos (gi100 (by clear i5 i51 i52; omega)), Int.toNat_natCast, Int.toNat_natCast, Int.toNat_natCast, p0, p1, p2, p52_d, List.all_cons]
    unfold cok
    by_cases h : (-100 ≤ v.1 ∧ v.1 ≤ 100) ∧ (-100 ≤ v.2.1 ∧ v.2.1 ≤ 100) ∧ (-100 ≤ v.2.2.1 ∧ v.2.2.1 ≤ 100)
    · rw [decide_eq_true h, if_neg (show ¬ bi true = 0 by decide), Bool.true_and, wI (by clear i5 i51 i52; omega)]
      clear i5 i51 i52
      exact ih (i + 1) (by omega) (by rw [h18]; omega) (fun j hj => by
        have := hp (j + 1) (by omega)
        rw [show i + 1 + j = i + (j + 1) by omega]
        exact this)
    · rw [decide_eq_false h, if_pos (show bi false = 0 from rfl), Bool.false_and]
      rfl
theorem lread (d d' : Nat) : ∀ (L : List V5) (i n : Nat) (C M0 : mM) (t : Tr), Bs (mrg C M0) n t → TD C t → n + L.length ≤ 200 → liveN C n + L.length ≤ 60 → i + L.length ≤ 16 → (∀ v ∈ L, wok v ∧ cok v = true) → (∀ (j : Nat) (h : j < L.length), pt5 C (i + j) L[j]) → C 84 4 = ((i + L.length : Nat) : Int) →
    ∃ C' T, ev prog (d + 8) 275 0 9 [vr 5, vi (i : Int)] [] (shp, C) = some (.inl (some (vi ((i + L.length : Nat) : Int))), (shp, C')) ∧ same [7, 8, 9, 10, 11, 12, 13, 14, 15, 16, 17, 18, 19, 20, 21, 22, 23, 24, 25, 26, 27, 28, 29, 30, 31, 32] C C' ∧ TD C' T ∧
      ∀ N, Bs (mrg C N) n t → (∀ (j : Nat) (h : j < L.length), pt5u N (i + j) L[j]) → N 87 18 = ((i + L.length : Nat) : Int) → ∃ N', ev prog (d' + 212) 285 0 13 [vr 87, vi (i : Int)] [] (shp, N) = some (.inl (some (vi ((i + L.length : Nat) : Int))), (shp, N')) ∧ same [87, 88, 90] N N' ∧ (L ≠ [] → N' 87 8 = 0) ∧ (∀ j, j ≠ 5 → j ≠ 8 → N' 87 j = N 87 j) ∧ Bs (mrg C' N') (n + L.length) T := by
  intro L
  induction L with
  | nil =>
    intro i n C M0 t hB hD _ _ _ _ _ h84
    have h84 : C 84 4 = (i : Int) := h84
    refine ⟨C, t, ?_, same.rf, hD, fun N hN _ h18 => ⟨N, ?_, same.rf, fun q => absurd rfl q, fun _ _ _ => rfl, hN⟩⟩
    · rw [g275_9, h84, if_neg (Int.lt_irrefl _)]; rfl
    · have h18 : N 87 18 = (i : Int) := h18
      rw [g285_13 (d' + 205), h18, if_neg (Int.lt_irrefl _)]; rfl
  | cons v L ih =>
    intro i n C M0 t hB hD hn hl h16 hok hp h84
    have hlen : (v :: L).length = L.length + 1 := rfl
    obtain ⟨hw, hc⟩ := hok v List.mem_cons_self
    obtain ⟨cx, cy, cz⟩ := of_decide_eq_true hc
    have x4 : ∀ a : Nat, a ≤ 4 → wr (wr (5 * (i : Int)) + (a : Int)) = ((5 * i + a : Nat) : Int) := fun a ha => x5 (by omega) (by omega)
    have r : ∀ a : Nat, a ≤ 4 → r274 (i : Int) (a : Int) C = C 86 (5 * i + a) := fun a ha => by
      unfold r274
      rw [x4 a ha, va_in ⟨by omega, by omega⟩, Int.toNat_natCast]
    obtain ⟨p0, p1, p2, p3, p4⟩ := hp 0 (by omega)
    have e0 : r274 (i : Int) 0 C = v.1 := (r 0 (by decide)).trans p0
    have e1 : r274 (i : Int) 1 C = v.2.1 := (r 1 (by decide)).trans p1
    have e2 : r274 (i : Int) 2 C = v.2.2.1 := (r 2 (by decide)).trans p2
    have e3 : r274 (i : Int) 3 C = v.2.2.2.1 := (r 3 (by decide)).trans p3
    have e4 : r274 (i : Int) 4 C = v.2.2.2.2 := (r 4 (by decide)).trans p4
    obtain ⟨C1, T1, a1, a2, a3, a4, a5⟩ := step hB hD (by omega) (by omega) cx cy cz hw.1 hw.2 d d'
    -- a model memory to go on from
    obtain ⟨N1, -, -, -, -, hB1⟩ := a5 M0 hB
    obtain ⟨C2, T2, b1, b2, b3, b4⟩ := ih (i + 1) (n + 1) C1 N1 T1 hB1 a3 (by omega) (by omega) (by omega) (fun u hu => hok u (List.mem_cons_of_mem _ hu)) (fun j hj => by
      have := hp (j + 1) (by omega)
      unfold pt5 at this ⊢
      rw [show i + 1 + j = i + (j + 1) by omega, a2 86 (by decide)]
      exact this) (by rw [a2 84 (by decide), h84]; omega)
    refine ⟨C2, T2, ?_, a2.tr b2, b3, fun N hN hpu h18 => ?_⟩
    · rw [g275_9, h84, if_pos (by omega), e0, e1, e2, e3, e4, a1, callK_r, psh_s, g275_16, wI (by omega), b1]
      rw [show i + 1 + L.length = i + (v :: L).length by omega]
    · obtain ⟨N2, m1, m2, m3, m4, m5⟩ := a5 N hN
      obtain ⟨N3, s1, s2, s3, s4, s5⟩ := b4 N2 m5 (fun j hj => by
        have := hpu (j + 1) (by omega)
        unfold pt5u at this ⊢
        rw [show i + 1 + j = i + (j + 1) by omega, m2 95 (by decide)]
        exact this) (by rw [m4 18 (by decide) (by decide), h18]; omega)
      obtain ⟨u0, u1, u2, u3, u4⟩ := hpu 0 (by omega)
      have u0 : N 95 (5 * i) = v.1 := u0
      have u1 : N 95 (5 * i + 1) = v.2.1 := u1
      have u2 : N 95 (5 * i + 2) = v.2.2.1 := u2
      have u3 : N 95 (5 * i + 3) = v.2.2.2.1 := u3
      have u4 : N 95 (5 * i + 4) = v.2.2.2.2 := u4
      have y0 : wr (5 * (i : Int)) = ((5 * i : Nat) : Int) := by rw [wrR (by omega) (by omega)]; omega
      have y1 : wr (wr (5 * (i : Int)) + 1) = ((5 * i + 1 : Nat) : Int) := x4 1 (by decide)
      have y2 : wr (wr (5 * (i : Int)) + 2) = ((5 * i + 2 : Nat) : Int) := x4 2 (by decide)
      have y3 : wr (wr (5 * (i : Int)) + 3) = ((5 * i + 3 : Nat) : Int) := x4 3 (by decide)
      have y4 : wr (wr (5 * (i : Int)) + 4) = ((5 * i + 4 : Nat) : Int) := x4 4 (by decide)
      have i5 : 5 * i + 4 < 100 := by clear y0 y1 y2 y3 y4 x4; omega
      have wi : wr ((i : Int) + 1) = ((i + 1 : Nat) : Int) := wI (by clear y0 y1 y2 y3 y4 x4; omega)
      have hlt : (i : Int) < ((i + (v :: L).length : Nat) : Int) := by clear y0 y1 y2 y3 y4 x4 wi; omega
      have el : i + 1 + L.length = i + (v :: L).length := by clear y0 y1 y2 y3 y4 x4 wi; omega
      have en : n + 1 + L.length = n + (v :: L).length := by clear y0 y1 y2 y3 y4 x4 wi; omega
      refine ⟨N3, ?_, m2.tr s2, fun _ => ?_, fun j h5 h8 => by rw [s4 j h5 h8, m4 j h5 h8], by rw [← en]; exact s5⟩
      · rw [g285_13 (d' + 205), h18, if_pos hlt, y1, y2, y3, y4, y0, if_pos (gi100 (show 5 * i < 100 from Nat.lt_of_le_of_lt (Nat.le_add_right _ 4) i5)), if_pos (gi100 (show 5 * i + 1 < 100 from Nat.lt_of_le_of_lt (Nat.add_le_add_left (by decide) _) i5)), if_pos (gi100 (show 5 * i + 2 < 100 from Nat.lt_of_le_of_lt (Nat.add_le_add_left (by decide) _) i5)), if_pos (gi100 (show 5 * i + 3 < 100 from Nat.lt_of_le_of_lt (Nat.add_le_add_left (by decide) _) i5)), if_pos (gi100 i5), Int.toNat_natCast, Int.toNat_natCast, Int.toNat_natCast, Int.toNat_natCast, Int.toNat_natCast, u0, u1, u2, u3, u4, show run prog (d' + 205 + 6) 65 [vr 87, vi v.1, vi v.2.1, vi v.2.2.1, vi v.2.2.2.1, vi v.2.2.2.2] (shp, N) = _ from m1, callK_r, psh_s, g285_20, wi, ← el]
        exact s1
      · by_cases e : L = []
        · subst e
          have h2 := g285_13 (d' + 205) ((i + 1 : Nat) : Int) N2
          rw [m4 18 (by decide) (by decide), h18, if_neg (show ¬ ((i + 1 : Nat) : Int) < ((i + [v].length : Nat) : Int) from Int.lt_irrefl _)] at h2
          have q : N2 = N3 := congrArg (fun x : mR => match x with | some y => y.2.2 | none => N2) (h2.symm.trans s1)
          rw [← q]
          exact m3
        · exact s3 e
