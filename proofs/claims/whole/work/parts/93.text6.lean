/-! TEXTS: THE WHOLE TEXT; THE MODEL -/
def P3 (T : Nat → Int) (n p : Nat) : Nat ⊕ ((Int × Int × Int) × Nat) := bnd (pC T n p) fun x => bnd (bnd (pX T n 44 x.2) fun p1 => pC T n p1) fun y => bnd (bnd (pX T n 44 y.2) fun p2 => pC T n p2) fun z => .inr ((x.1, y.1, z.1), z.2)
theorem pD_P3 (T : Nat → Int) (n p : Nat) : pD T n p = bnd (P3 T n p) fun t => bnd (pW T n t.2) fun w => .inr ((t.1.1, t.1.2.1, t.1.2.2, w.1.1, w.1.2), w.2) := by
  rw [pD_eq]
  unfold P3
  cases pC T n p with
  | inl e => rfl
  | inr x =>
    show (bnd (bnd (pX T n 44 x.2) fun p1 => pC T n p1) fun y => _) = bnd (bnd (bnd (pX T n 44 x.2) fun p1 => pC T n p1) _) _
    cases (bnd (pX T n 44 x.2) fun p1 => pC T n p1) with
    | inl e => rfl
    | inr y =>
      show (bnd (bnd (pX T n 44 y.2) fun p1 => pC T n p1) fun y => _) = bnd (bnd (bnd (pX T n 44 y.2) fun p1 => pC T n p1) _) _
      cases (bnd (pX T n 44 y.2) fun p1 => pC T n p1) <;> rfl
def u3 (x : mR) (M : mM) (T : Nat → Int) (n k : Nat) : Nat ⊕ ((Int × Int × Int) × Nat) → Prop
  | .inl e => uF x M e
  | .inr y => ∃ M', x = some (.inl (some (vi 1)), (shp, M')) ∧ uS M' T n y.2 k ∧ (M' 95 (5 * k + 0) = y.1.1 ∧ M' 95 (5 * k + 1) = y.1.2.1 ∧ M' 95 (5 * k + 2) = y.1.2.2) ∧ (∀ j, j < 5 * k → M' 95 j = M 95 j) ∧ fr M M'
def pt5u (M : mM) (k : Nat) (v : V5) : Prop := M 95 (5 * k + 0) = v.1 ∧ M 95 (5 * k + 1) = v.2.1 ∧ M 95 (5 * k + 2) = v.2.2.1 ∧ M 95 (5 * k + 3) = v.2.2.2.1 ∧ M 95 (5 * k + 4) = v.2.2.2.2
def uD (x : mR) (M : mM) (T : Nat → Int) (n k : Nat) : Nat ⊕ (V5 × Nat) → Prop
  | .inl e => uF x M e
  | .inr y => ∃ M', x = some (.inl (some (vi 1)), (shp, M')) ∧ uS M' T n y.2 (k + 1) ∧ pt5u M' k y.1 ∧ (∀ j, j < 5 * k → M' 95 j = M 95 j) ∧ fr M M'
def uW (x : mR) (M : mM) (T : Nat → Int) (n k : Nat) : Nat ⊕ ((Int × Int) × Nat) → Prop
  | .inl e => uF x M e
  | .inr y => ∃ M', x = some (.inl (some (vi 1)), (shp, M')) ∧ uS M' T n y.2 (k + 1) ∧ M' 95 (5 * k + 3) = y.1.1 ∧ M' 95 (5 * k + 4) = y.1.2 ∧ (∀ j, j ≠ 5 * k + 3 → j ≠ 5 * k + 4 → M' 95 j = M 95 j) ∧ fr M M'
def uG (x : mR) (M : mM) (T : Nat → Int) (n k : Nat) : Nat ⊕ (Int × Nat) → Prop
  | .inl e => uF x M e
  | .inr y => ∃ M', x = some (.inl (some (vi 1)), (shp, M')) ∧ uS M' T n y.2 (k + 1) ∧ M' 95 (5 * k + 4) = y.1 ∧ (∀ j, j ≠ 5 * k + 4 → M' 95 j = M 95 j) ∧ fr M M'
section UE
variable {T : Nat → Int} {n : Nat}
theorem sp281 (d : Nat) {M : mM} {p k : Nat} (h : uS M T n p k) (hk : k ≤ 15) : u3 (run prog (d + 4) 281 [vr 87] (shp, M)) M T n k (P3 T n p) := by
  have e0 : run prog (d + 4) 281 [vr 87] (shp, M) = ev prog (d + 4) 281 0 1 [vr 87, vi ((0 : Nat) : Int), vj] [] (shp, M) := by
    show ev prog (d + 4) 281 0 0 [vr 87, vj, vj] [] (shp, M) = _
    rw [g281_0]
    rfl
  rw [e0]
  unfold P3
  have s0 := v0 d h hk
  cases hx : pC T n p with
  | inl e => rw [hx] at s0; exact s0
  | inr x =>
    rw [hx] at s0
    obtain ⟨M1, a1, a2, a3, a4, a5⟩ := s0
    have s1 := v12 d a2 hk (i := 1) (.inl rfl)
    show u3 _ M T n k (bnd (bnd (pX T n 44 x.2) fun p1 => pC T n p1) fun y => bnd (bnd (pX T n 44 y.2) fun p2 => pC T n p2) fun z => .inr ((x.1, y.1, z.1), z.2))
    rw [a1]
    cases hy : (bnd (pX T n 44 x.2) fun p1 => pC T n p1) with
    | inl e => rw [hy] at s1; exact uF.tr a5 s1
    | inr y =>
      rw [hy] at s1
      obtain ⟨M2, b1, b2, b3, b4, b5⟩ := s1
      have s2 := v12 d b2 hk (i := 2) (.inr rfl)
      show u3 _ M T n k (bnd (bnd (pX T n 44 y.2) fun p2 => pC T n p2) fun z => .inr ((x.1, y.1, z.1), z.2))
      rw [b1]
      cases hz : (bnd (pX T n 44 y.2) fun p1 => pC T n p1) with
      | inl e => rw [hz] at s2; exact uF.tr (a5.tr b5) s2
      | inr z =>
        rw [hz] at s2
        obtain ⟨M3, c1, c2, c3, c4, c5⟩ := s2
        show u3 _ M T n k (.inr ((x.1, y.1, z.1), z.2))
        rw [c1, show ((2 + 1 : Nat) : Int) = 3 from rfl, g281_1, if_neg (by decide)]
        refine ⟨M3, rfl, c2, ⟨?_, ?_, c3⟩, fun j hj => ?_, (a5.tr b5).tr c5⟩
        · rw [c4 _ (by omega), b4 _ (by omega)]; exact a3
        · rw [c4 _ (by omega)]; exact b3
        · rw [c4 _ (by omega), b4 _ (by omega), a4 _ (by omega)]
theorem w14 (d : Nat) (z : Nat → mS → mR) {M : mM} {p k : Nat} (h : uS M T n p k) (hk : k ≤ 15) (h0 : M 95 (5 * k + 4) = 0) : uG (callK (run prog (d + 4) 278 [vr 87, vi 35] (shp, M)) (fun v σ1 => ev prog (d + 5) 282 0 12 [vr 87] (psh v []) σ1) z) M T n k (pB T n 35 1 0 p) := by
  have e1 := sp278 (d + 2) h (c := 35) (by decide)
  have x4 := x5 (k := k) (i := 4) (by omega) (by decide)
  have x4 : wr (wr (5 * (k : Int)) + 4) = ((5 * k + 4 : Nat) : Int) := x4
  have wk : wr ((k : Int) + 1) = ((k + 1 : Nat) : Int) := wI (by clear x4; omega)
  have hb : 0 ≤ ((5 * k + 4 : Nat) : Int) ∧ ((5 * k + 4 : Nat) : Int) < 100 := by clear x4 wk; omega
  have hn := h.1.2.1
  unfold pB
  by_cases c : cA T n p = 35
  · rw [if_pos c] at e1 ⊢
    have hp := (cA_lt T n c (by decide)).1
    have h1 := uS_14 h (p' := p + 1) hp
    rw [e1, callK_r, psh_s, g282_12, if_neg (by decide), sp279 (d + 2) h1, callK_r, psh_s, g282_14]
    cases hd : cD T n (p + 1) with
    | false =>
      rw [if_pos (show bi false = 0 from rfl), nu_f T n hd]
      exact ⟨_, rfl, mset_at _ _ _ _, fr_14⟩
    | true =>
      obtain ⟨c1, c2, c3, c4⟩ := cD_lt T n hd
      have en : nuP T n 1 (p + 1) = some (cA T n (p + 1) - 48, p + 1 + 1) := by
        rw [nu_t T n hd]
        by_cases e : cA T n (p + 1) = 48
        · rw [if_pos e, e]; rfl
        · rw [if_neg e]; rfl
      have w48 : wr (cA T n (p + 1) - 48) = cA T n (p + 1) - 48 := wrR (by clear x4 wk; omega) (by clear x4 wk; omega)
      have wp : wr (((p + 1 : Nat) : Int) + 1) = ((p + 1 + 1 : Nat) : Int) := wI (by clear x4 wk w48; omega)
      rw [if_neg (show ¬ bi true = 0 by decide), sp277 (d + 3) h1, callK_r, psh_s, g282_17, mset_j (show 18 ≠ 14 by decide), h.2.2.2, x4, if_pos hb, en, w48, Int.toNat_natCast, mset_at, wp, wk]
      exact ⟨_, rfl, uS_18 (uS_14 (uS_95 h1) c1), by rw [mset_k (by decide), mset_k (by decide)]; exact mset_at _ _ _ _, fun j hj => by rw [mset_k (by decide), mset_k (by decide), mset_j hj, mset_k (by decide)], ((fr_14.tr fr_95).tr fr_14).tr fr_18⟩
  · rw [if_neg c] at e1 ⊢
    rw [e1, callK_r, psh_s, g282_12, if_pos rfl, h.2.2.2, wk]
    exact ⟨_, rfl, uS_18 h, by rw [mset_k (by decide)]; exact h0, fun j hj => by rw [mset_k (by decide)], fr_18⟩
theorem uW_of {x : mR} {M M1 : mM} {k : Nat} {w : Int} {r : Nat ⊕ (Int × Nat)} (h : uG x M1 T n k r) (hs : fr M M1) (h3 : M1 95 (5 * k + 3) = w) (h4 : ∀ j, j ≠ 5 * k + 3 → j ≠ 5 * k + 4 → M1 95 j = M 95 j) : uW x M T n k (bnd r fun g => .inr ((w, g.1), g.2)) := by
  cases r with
  | inl e => exact uF.tr hs h
  | inr y =>
    obtain ⟨M', a1, a2, a3, a4, a5⟩ := h
    exact ⟨M', a1, a2, by rw [a4 _ (by omega)]; exact h3, a3, fun j hj hj2 => by rw [a4 j hj2, h4 j hj hj2], hs.tr a5⟩
/-- after the coordinates -/
theorem w3w (d : Nat) (M : mM) {p k : Nat} (h : uS M T n p k) (hk : k ≤ 15) : uW (ev prog (d + 5) 282 0 1 [vr 87] [vi 1] (shp, M)) M T n k (pW T n p) := by
  have x4 : wr (wr (5 * (k : Int)) + 4) = ((5 * k + 4 : Nat) : Int) := x5 (k := k) (i := 4) (by omega) (by decide)
  have x3 : wr (wr (5 * (k : Int)) + 3) = ((5 * k + 3 : Nat) : Int) := x5 (k := k) (i := 3) (by clear x4; omega) (by decide)
  have hb4 : 0 ≤ ((5 * k + 4 : Nat) : Int) ∧ ((5 * k + 4 : Nat) : Int) < 100 := by clear x4 x3; omega
  have hb3 : 0 ≤ ((5 * k + 3 : Nat) : Int) ∧ ((5 * k + 3 : Nat) : Int) < 100 := by clear x4 x3; omega
  have n34 : 5 * k + 3 ≠ 5 * k + 4 := by clear x4 x3; omega
  have h1 : uS (mset (mset M 95 (5 * k + 3) 1) 95 (5 * k + 4) 0) T n p k := uS_95 (uS_95 h)
  have f1 : fr M (mset (mset M 95 (5 * k + 3) 1) 95 (5 * k + 4) 0) := fr_95.tr fr_95
  have e1 := sp278 (d + 2) h1 (c := 58) (by decide)
  rw [g282_1, if_neg (by decide), h.2.2.2, x3, x4, if_pos hb3, if_pos hb4, Int.toNat_natCast, Int.toNat_natCast]
  unfold pW
  by_cases c : cA T n p = 58
  · rw [if_pos c] at e1
    have ep : pB T n 58 2 1 p = (match nuP T n 2 (p + 1) with
      | none => .inl (p + 1)
      | some q => .inr q) := if_pos c
    have hp := (cA_lt T n c (by decide)).1
    have h2 := uS_14 h1 (p' := p + 1) hp
    have h9 := sp280 (d + 1) (mx := 2) (by decide) (by decide) h2
    rw [e1, callK_r, psh_s, g282_6, if_neg (by decide), ep]
    cases hq : nuP T n 2 (p + 1) with
    | none =>
      rw [hq] at h9
      have h9 : run prog (d + 4) 280 [vr 87, vi 2] (shp, mset (mset (mset M 95 (5 * k + 3) 1) 95 (5 * k + 4) 0) 87 14 ((p + 1 : Nat) : Int)) = some (.inl (some (vi 0)), (shp, mset (mset (mset (mset M 95 (5 * k + 3) 1) 95 (5 * k + 4) 0) 87 14 ((p + 1 : Nat) : Int)) 87 15 0)) := h9
      rw [h9, callK_r, psh_s, g282_8, if_pos rfl]
      exact ⟨_, rfl, (by rw [mset_j (by decide)]; exact mset_at _ _ _ _), (f1.tr fr_14).tr fr_15⟩
    | some q =>
      rw [hq] at h9
      obtain ⟨M2, b1, b2, b3, b4, b5⟩ : ∃ M', run prog (d + 4) 280 [vr 87, vi 2] (shp, mset (mset (mset M 95 (5 * k + 3) 1) 95 (5 * k + 4) 0) 87 14 ((p + 1 : Nat) : Int)) = some (.inl (some (vi 1)), (shp, M')) ∧ uS M' T n q.2 k ∧ M' 87 15 = q.1 ∧ (fr (mset (mset (mset M 95 (5 * k + 3) 1) 95 (5 * k + 4) 0) 87 14 ((p + 1 : Nat) : Int)) M' ∧ M' 95 = (mset (mset (mset M 95 (5 * k + 3) 1) 95 (5 * k + 4) 0) 87 14 ((p + 1 : Nat) : Int)) 95) ∧ q.1 < 1000 := h9
      rw [b1, callK_r, psh_s, g282_8, if_neg (by decide), b2.2.2.2, x3, if_pos hb3, Int.toNat_natCast, b3]
      refine uW_of (w14 d _ (uS_95 b2) hk ?_) (((f1.tr fr_14).tr b4.1).tr fr_95) (mset_at _ _ _ _) fun j hj hj2 => ?_
      · rw [mset_j n34.symm, b4.2, mset_k (by decide)]
        exact mset_at _ _ _ _
      · rw [mset_j hj, b4.2, mset_k (by decide), mset_j hj2, mset_j hj]
  · rw [if_neg c] at e1
    have ep : pB T n 58 2 1 p = .inr (1, p) := if_neg c
    rw [e1, callK_r, psh_s, g282_6, if_pos rfl, ep]
    refine uW_of (w14 d _ h1 hk (mset_at _ _ _ _)) f1 ?_ fun j hj hj2 => ?_
    · rw [mset_j n34]
      exact mset_at _ _ _ _
    · rw [mset_j hj2, mset_j hj]
theorem sp282 (d : Nat) {M : mM} {p k : Nat} (h : uS M T n p k) (hk : k ≤ 15) : uD (run prog (d + 5) 282 [vr 87] (shp, M)) M T n k (pD T n p) := by
  show uD (ev prog (d + 5) 282 0 0 [vr 87] [] (shp, M)) M T n k _
  have s0 := sp281 d h hk
  rw [g282_0, pD_P3]
  cases hx : P3 T n p with
  | inl e =>
    rw [hx] at s0
    obtain ⟨M', a1, a2, a3⟩ := s0
    rw [a1, callK_r, psh_s, g282_1, if_pos rfl]
    exact ⟨M', rfl, a2, a3⟩
  | inr t =>
    rw [hx] at s0
    obtain ⟨M1, a1, a2, ⟨a3, a4, a5⟩, a6, a7⟩ := s0
    rw [a1, callK_r, psh_s]
    have s1 := w3w d M1 a2 hk
    show uD _ M T n k (bnd (pW T n t.2) fun w => .inr ((t.1.1, t.1.2.1, t.1.2.2, w.1.1, w.1.2), w.2))
    cases hw : pW T n t.2 with
    | inl e => rw [hw] at s1; exact uF.tr a7 s1
    | inr w =>
      rw [hw] at s1
      obtain ⟨M2, b1, b2, b3, b4, b5, b6⟩ := s1
      exact ⟨M2, b1, b2, ⟨by rw [b5 _ (by omega) (by omega)]; exact a3, by rw [b5 _ (by omega) (by omega)]; exact a4, by rw [b5 _ (by omega) (by omega)]; exact a5, b3, b4⟩, fun j hj => by rw [b5 _ (by omega) (by omega), a6 j hj], a7.tr b6⟩
/-! the whole -/
def uL (x : mR) (M : mM) (k : Nat) : Nat ⊕ List V5 → Prop
  | .inl e => ∃ M', x = some (.inl (some (vi (e : Int))), (shp, M')) ∧ fr M M'
  | .inr L => ∃ M', x = some (.inl (some (vi (-1))), (shp, M')) ∧ M' 87 18 = ((k + L.length : Nat) : Int) ∧ (∀ (j : Nat) (h : j < L.length), pt5u M' (k + j) L[j]) ∧ (∀ j, j < 5 * k → M' 95 j = M 95 j) ∧ fr M M'
theorem l283 (d : Nat) : ∀ (f i p : Nat) (M : mM), i + f = 16 → 6 * i ≤ p → uS M T n p i → uL (ev prog (d + 6) 283 0 1 [vr 87] [] (shp, M)) M i (pL T n f p) := by
  intro f
  induction f with
  | zero => intro i p M hi hp h; have := h.1.2.1; have := h.2.2.1; omega
  | succ f ih =>
    intro i p M hi hp h
    have hD := sp282 d h (by omega)
    rw [g283_1]
    show uL _ M i (bnd (pD T n p) fun y => if y.2 < n then bnd (pX T n 59 y.2) fun q => bnd (pL T n f q) fun L => .inr (y.1 :: L) else .inr [y.1])
    cases hd : pD T n p with
    | inl e =>
      rw [hd] at hD
      obtain ⟨M1, a1, a2, a3⟩ := hD
      rw [a1, callK_r, psh_s, g283_2, if_pos rfl, a2]
      exact ⟨_, rfl, a3⟩
    | inr y =>
      rw [hd] at hD
      obtain ⟨M1, a1, a2, a3, a4, a5⟩ := hD
      have hb := pD_b T n hd
      have e8 := sp278 (d + 3) a2 (c := 59) (by decide)
      rw [a1, callK_r, psh_s, g283_2, if_neg (by decide), e8]
      show uL _ M i (if y.2 < n then bnd (pX T n 59 y.2) fun q => bnd (pL T n f q) fun L => .inr (y.1 :: L) else .inr [y.1])
      by_cases c : cA T n y.2 = 59
      · have hp := (cA_lt T n c (by decide)).1
        rw [if_pos c, callK_r, psh_s, g283_5, if_neg (by decide), if_pos hp, show pX T n 59 y.2 = .inr (y.2 + 1) from if_pos c]
        have r := ih (i + 1) (y.2 + 1) (mset M1 87 14 ((y.2 + 1 : Nat) : Int)) (by omega) (by omega) (uS_14 a2 hp)
        show uL _ M i (bnd (pL T n f (y.2 + 1)) fun L => .inr (y.1 :: L))
        cases hl : pL T n f (y.2 + 1) with
        | inl e =>
          rw [hl] at r
          obtain ⟨M2, r1, r2⟩ := r
          exact ⟨M2, r1, (a5.tr fr_14).tr r2⟩
        | inr L =>
          rw [hl] at r
          obtain ⟨M2, r1, r2, r3, r4, r5⟩ := r
          refine ⟨M2, r1, ?_, ?_, fun j hj => ?_, (a5.tr fr_14).tr r5⟩
          · rw [r2]
            show ((i + 1 + L.length : Nat) : Int) = ((i + (L.length + 1) : Nat) : Int)
            omega
          · intro j hj
            cases j with
            | zero =>
              obtain ⟨b1, b2, b3, b4, b5⟩ := a3
              have e : ∀ m, m ≤ 4 → M2 95 (5 * i + m) = M1 95 (5 * i + m) := fun m hm => by rw [r4 _ (by omega), mset_k (by decide)]
              exact ⟨(e 0 (by omega)).trans b1, (e 1 (by omega)).trans b2, (e 2 (by omega)).trans b3, (e 3 (by omega)).trans b4, (e 4 (by omega)).trans b5⟩
            | succ j =>
              have := r3 j (by have : (y.1 :: L).length = L.length + 1 := rfl; omega)
              rw [show i + (j + 1) = i + 1 + j by omega]
              exact this
          · rw [r4 j (by omega), mset_k (by decide), a4 j hj]
      · rw [if_neg c, callK_r, psh_s, g283_5, if_pos rfl, a2.2.1, a2.1.1]
        by_cases c2 : y.2 < n
        · rw [if_pos c2, if_pos (by omega), show pX T n 59 y.2 = .inl y.2 from if_neg c]
          exact ⟨_, rfl, a5⟩
        · rw [if_neg c2, if_neg (by omega)]
          refine ⟨_, rfl, a2.2.2.2, ?_, fun j hj => a4 j hj, a5⟩
          intro j hj
          have : j = 0 := by have : [y.1].length = 1 := rfl; omega
          subst this
          exact a3
theorem sp283 (d : Nat) {M : mM} (hn : M 87 13 = (n : Int)) (h90 : n ≤ 90) (hT : ∀ j, j < n → M 94 j = T j) : uL (run prog (d + 6) 283 [vr 87] (shp, M)) M 0 (pL T n 16 0) := by
  show uL (ev prog (d + 6) 283 0 0 [vr 87] [] (shp, M)) M 0 _
  rw [g283_0]
  have h : uS (mset (mset M 87 14 0) 87 18 0) T n 0 0 := by
    refine ⟨⟨?_, h90, fun j hj => ?_⟩, ?_, Nat.zero_le _, mset_at _ _ _ _⟩
    · rw [mset_j (by decide), mset_j (by decide)]; exact hn
    · rw [mset_k (by decide), mset_k (by decide)]; exact hT j hj
    · rw [mset_j (by decide)]; exact mset_at _ _ _ _
  have r := l283 d 16 0 0 _ rfl (Nat.zero_le _) h
  cases hl : pL T n 16 0 with
  | inl e =>
    rw [hl] at r
    obtain ⟨M', r1, r2⟩ := r
    exact ⟨M', r1, (fr_14.tr fr_18).tr r2⟩
  | inr L =>
    rw [hl] at r
    obtain ⟨M', r1, r2, r3, r4, r5⟩ := r
    exact ⟨M', r1, r2, r3, fun j hj => absurd hj (by omega), (fr_14.tr fr_18).tr r5⟩
end UE
