/-! TEXTS: A DESCRIPTION AND THE WHOLE TEXT; THE MODEL -/
def uF (x : mR) (M : mM) (e : Nat) : Prop := ∃ M', x = some (.inl (some (vi 0)), (shp, M')) ∧ M' 87 14 = (e : Int) ∧ fr M M'
theorem uF.tr {x : mR} {M M1 : mM} {e : Nat} (s : fr M M1) (h : uF x M1 e) : uF x M e := by
  obtain ⟨M', a1, a2, a3⟩ := h
  exact ⟨M', a1, a2, s.tr a3⟩
def u1 (d : Nat) (x : mR) (M : mM) (T : Nat → Int) (n k i : Nat) : Nat ⊕ (Int × Nat) → Prop
  | .inl e => uF x M e
  | .inr y => ∃ M', x = ev prog (d + 4) 281 0 1 [vr 87, vi ((i + 1 : Nat) : Int), vj] [] (shp, M') ∧ uS M' T n y.2 k ∧ M' 95 (5 * k + i) = y.1 ∧ (∀ j, j ≠ 5 * k + i → M' 95 j = M 95 j) ∧ fr M M'
section UD
variable {T : Nat → Int} {n : Nat}
theorem c7 (d : Nat) {M : mM} {p k i : Nat} (h : uS M T n p k) (hk : k ≤ 15) (hi : i ≤ 2) (s : Int) : u1 d (ev prog (d + 4) 281 0 7 [vr 87, vi (i : Int), vj] [vi s] (shp, M)) M T n k i (match nuP T n 3 p with
    | none => .inl p
    | some q => .inr (if s = 0 then q.1 else -q.1, q.2)) := by
  have h9 := sp280 d (mx := 3) (by decide) (by decide) h
  rw [g281_7]
  cases hq : nuP T n 3 p with
  | none =>
    rw [hq] at h9
    have h9 : run prog (d + 3) 280 [vr 87, vi 3] (shp, M) = some (.inl (some (vi 0)), (shp, mset M 87 15 0)) := h9
    rw [h9, callK_r, psh_s, g281_8, if_pos rfl]
    exact ⟨_, rfl, (by rw [mset_j (by decide)]; exact h.2.1), fr_15⟩
  | some q =>
    rw [hq] at h9
    obtain ⟨M2, b1, b2, b3, b4, b5⟩ : ∃ M', run prog (d + 3) 280 [vr 87, vi 3] (shp, M) = some (.inl (some (vi 1)), (shp, M')) ∧ uS M' T n q.2 k ∧ M' 87 15 = q.1 ∧ (fr M M' ∧ M' 95 = M 95) ∧ q.1 < 1000 := h9
    have b0 := (nuP_b T n hq).2.2
    have x4 := x5 (k := k) (i := i) (by omega) (by omega)
    have hb : 0 ≤ ((5 * k + i : Nat) : Int) ∧ ((5 * k + i : Nat) : Int) < 100 := by clear x4; omega
    have wi : wr ((i : Int) + 1) = ((i + 1 : Nat) : Int) := wI (by clear x4; omega)
    have wm : wr (-q.1) = -q.1 := wrR (by clear x4 wi; omega) (by clear x4 wi; omega)
    rw [b1, callK_r, psh_s, g281_8, if_neg (by decide), b2.2.2.2, x4, wi, b3, wm, Int.toNat_natCast]
    by_cases e : s = 0
    · rw [if_pos e, if_pos hb]
      exact ⟨_, rfl, uS_95 b2, (mset_at _ _ _ _).trans (if_pos e).symm, fun j hj => by rw [mset_j hj, b4.2], b4.1.tr fr_95⟩
    · rw [if_neg e, if_pos hb]
      exact ⟨_, rfl, uS_95 b2, (mset_at _ _ _ _).trans (if_neg e).symm, fun j hj => by rw [mset_j hj, b4.2], b4.1.tr fr_95⟩
theorem csg (d : Nat) {M : mM} {p k i : Nat} (h : uS M T n p k) (hk : k ≤ 15) (hi : i ≤ 2) (z : Nat → mS → mR) : u1 d (callK (run prog (d + 3) 278 [vr 87, vi 45] (shp, M)) (fun v σ1 => ev prog (d + 4) 281 0 7 [vr 87, vi (i : Int), vj] (psh v []) σ1) z) M T n k i (pC T n p) := by
  have e1 := sp278 (d + 1) h (c := 45) (by decide)
  by_cases c : cA T n p = 45
  · rw [if_pos c] at e1
    have hp := (cA_lt T n c (by decide)).1
    have g := c7 d (uS_14 h (p' := p + 1) hp) hk hi 1
    have ep : (match nuP T n 3 (p + 1) with
      | none => .inl (p + 1)
      | some q => .inr (if (1 : Int) = 0 then q.1 else -q.1, q.2) : Nat ⊕ (Int × Nat)) = pC T n p := by
      unfold pC
      rw [if_pos c]
      cases nuP T n 3 (p + 1) with
      | none => rfl
      | some q => exact congrArg (fun x => Sum.inr (x, q.2)) ((if_pos c).trans (if_neg (show ¬ (1 : Int) = 0 by decide)).symm).symm
    rw [ep] at g
    rw [e1, callK_r, psh_s]
    cases hc : pC T n p with
    | inl e => rw [hc] at g; exact uF.tr fr_14 g
    | inr y =>
      rw [hc] at g
      obtain ⟨M', a1, a2, a3, a4, a5⟩ := g
      exact ⟨M', a1, a2, a3, fun j hj => by rw [a4 j hj, mset_k (by decide)], fr_14.tr a5⟩
  · rw [if_neg c] at e1
    have g := c7 d h hk hi 0
    have ep : (match nuP T n 3 p with
      | none => .inl p
      | some q => .inr (if (0 : Int) = 0 then q.1 else -q.1, q.2) : Nat ⊕ (Int × Nat)) = pC T n p := by
      unfold pC
      rw [if_neg c]
      cases nuP T n 3 p with
      | none => rfl
      | some q => exact congrArg (fun x => Sum.inr (x, q.2)) ((if_neg c).trans (if_pos rfl).symm).symm
    rw [ep] at g
    rw [e1, callK_r, psh_s]
    exact g
theorem v0 (d : Nat) {M : mM} {p k : Nat} (h : uS M T n p k) (hk : k ≤ 15) : u1 d (ev prog (d + 4) 281 0 1 [vr 87, vi ((0 : Nat) : Int), vj] [] (shp, M)) M T n k 0 (pC T n p) := by
  rw [g281_1, if_pos (by decide), if_neg (by decide)]
  exact csg d h hk (by decide) _
theorem v12 (d : Nat) {M : mM} {p k i : Nat} (h : uS M T n p k) (hk : k ≤ 15) (hi : i = 1 ∨ i = 2) : u1 d (ev prog (d + 4) 281 0 1 [vr 87, vi (i : Int), vj] [] (shp, M)) M T n k i (bnd (pX T n 44 p) fun p1 => pC T n p1) := by
  have e1 := sp278 (d + 1) h (c := 44) (by decide)
  rw [g281_1, if_pos (by omega), if_pos (by omega), e1]
  unfold pX
  by_cases c : cA T n p = 44
  · have hp := (cA_lt T n c (by decide)).1
    rw [if_pos c, if_pos c, callK_r, psh_s, g281_4, if_neg (by decide)]
    have g := csg d (uS_14 h (p' := p + 1) hp) hk (i := i) (by omega) (fun e σ1 => CSpatialPointsLaw_law_r7355_26c6d2.hk [0, 0, 0, 0, 0] e σ1 (fun t => ev prog (d + 4) 281 0 t (msk (pMask prog 281 t) [vr 87, vi (i : Int), vj]) [vj] σ1))
    show u1 d _ M T n k i (pC T n (p + 1))
    cases hc : pC T n (p + 1) with
    | inl e => rw [hc] at g; exact uF.tr fr_14 g
    | inr y =>
      rw [hc] at g
      obtain ⟨M', a1, a2, a3, a4, a5⟩ := g
      exact ⟨M', a1, a2, a3, fun j hj => by rw [a4 j hj, mset_k (by decide)], fr_14.tr a5⟩
  · rw [if_neg c, if_neg c, callK_r, psh_s, g281_4, if_pos rfl]
    exact ⟨_, rfl, h.2.1, fr.rf⟩
end UD
