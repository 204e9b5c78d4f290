/-! TEXTS: THE WHOLE TEXT -/
section PL
variable (T : Nat → Int) (n : Nat)
def pL : Nat → Nat → Nat ⊕ List V5
  | 0, p => .inl p
  | f + 1, p => bnd (pD T n p) fun y => if y.2 < n then bnd (pX T n 59 y.2) fun q => bnd (pL f q) fun L => .inr (y.1 :: L) else .inr [y.1]
theorem pD_b {p : Nat} {y : V5 × Nat} (h : pD T n p = .inr y) : p + 5 ≤ y.2 ∧ y.2 ≤ n := by
  unfold pD at h
  cases hx : pC T n p with
  | inl e => rw [hx] at h; cases h
  | inr x =>
    rw [hx] at h
    have b1 := pC_b T n hx
    cases h1 : pX T n 44 x.2 with
    | inl e => have h : (bnd (pX T n 44 x.2) fun p1 => _) = _ := h; rw [h1] at h; cases h
    | inr p1 =>
      have h : (bnd (pX T n 44 x.2) fun p1 => _) = _ := h
      rw [h1] at h
      have b2 := pX_b T n (by decide) h1
      cases hy : pC T n p1 with
      | inl e => have h : (bnd (pC T n p1) fun p1 => _) = _ := h; rw [hy] at h; cases h
      | inr y1 =>
        have h : (bnd (pC T n p1) fun p1 => _) = _ := h
        rw [hy] at h
        have b3 := pC_b T n hy
        cases h2 : pX T n 44 y1.2 with
        | inl e => have h : (bnd (pX T n 44 y1.2) fun p1 => _) = _ := h; rw [h2] at h; cases h
        | inr p2 =>
          have h : (bnd (pX T n 44 y1.2) fun p1 => _) = _ := h
          rw [h2] at h
          have b4 := pX_b T n (by decide) h2
          cases hz : pC T n p2 with
          | inl e => have h : (bnd (pC T n p2) fun p1 => _) = _ := h; rw [hz] at h; cases h
          | inr z =>
            have h : (bnd (pC T n p2) fun p1 => _) = _ := h
            rw [hz] at h
            have b5 := pC_b T n hz
            cases hw : pB T n 58 2 1 z.2 with
            | inl e => have h : (bnd (pB T n 58 2 1 z.2) fun p1 => _) = _ := h; rw [hw] at h; cases h
            | inr w =>
              have h : (bnd (pB T n 58 2 1 z.2) fun p1 => _) = _ := h
              rw [hw] at h
              have b6 := pB_b T n (by decide) b5.1 hw
              cases hg : pB T n 35 1 0 w.2 with
              | inl e => have h : (bnd (pB T n 35 1 0 w.2) fun p1 => _) = _ := h; rw [hg] at h; cases h
              | inr g =>
                have h : (bnd (pB T n 35 1 0 w.2) fun p1 => _) = _ := h
                rw [hg] at h
                have b7 := pB_b T n (by decide) b6.1 hg
                cases h
                exact ⟨by show p + 5 ≤ g.2; omega, b7.1⟩
theorem pC_n : pC T n n = .inl n := by
  have e : cA T n n = -1 := if_neg (Nat.lt_irrefl n)
  have e2 : cD T n n = false := by unfold cD; rw [e]; rfl
  unfold pC
  rw [e, if_neg (by decide), nu_f T n e2]
theorem pD_n : pD T n n = .inl n := by
  unfold pD
  rw [pC_n]
  rfl
end PL
section CL
variable {T : Nat → Int} {n : Nat}
def bvL (L : List V5) (b : Int) : Int := L.foldl (fun b v => bv v b) b
/-- what is left of a text read from the k-th description on -/
def oL (x : mR) (M : mM) (k : Nat) (b : Int) : Nat ⊕ List V5 → Prop
  | .inl e => ∃ M', x = some (.inl none, (shp, M')) ∧ M' 84 2 = 0 ∧ M' 84 5 = (e : Int) ∧ same [84, 86] M M'
  | .inr L => ∃ M', x = some (.inl none, (shp, M')) ∧ M' 84 2 = 0 ∧ M' 84 5 = -1 ∧ M' 84 4 = ((k + L.length : Nat) : Int) ∧ M' 84 6 = bvL L b ∧ (∀ (j : Nat) (h : j < L.length), pt5 M' (k + j) L[j]) ∧ (∀ j, j < 5 * k → M' 86 j = M 86 j) ∧ same [84, 86] M M'
theorem e273 (d : Nat) {M : mM} {x : Int} : ev prog (d + 6) 273 0 1 [vr 84, vi 0, vi x] [] (shp, M) = some (.inl none, (shp, mset M 84 2 0)) := by
  rw [g273_1]
  by_cases c : x < 16
  · rw [if_pos c, if_pos rfl]
  · rw [if_neg c]
theorem l273 (d : Nat) : ∀ (f i p : Nat) (b : Int) (M : mM), i + f = 16 → 6 * i ≤ p → tS M T n p (-1) i b → oL (ev prog (d + 6) 273 0 1 [vr 84, vi 1, vi (i : Int)] [] (shp, M)) M i b (pL T n f p) := by
  intro f
  induction f with
  | zero => intro i p b M hi hp h; have := h.1.2.1; have := h.2.2.1; omega
  | succ f ih =>
    intro i p b M hi hp h
    have hD := sp272 d h (by omega)
    rw [g273_1, if_pos (by omega), if_neg (by decide)]
    show oL _ M i b (bnd (pD T n p) fun y => if y.2 < n then bnd (pX T n 59 y.2) fun q => bnd (pL T n f q) fun L => .inr (y.1 :: L) else .inr [y.1])
    cases hd : pD T n p with
    | inl e =>
      rw [hd] at hD
      obtain ⟨M1, a1, a2, a3⟩ := hD
      rw [a1, callK_r, psh_n, g273_4, a2, if_neg (by omega), e273]
      exact ⟨_, rfl, mset_at _ _ _ _, by rw [mset_j (by decide)]; exact a2, a3.tr s846⟩
    | inr y =>
      rw [hd] at hD
      obtain ⟨M1, a1, a2, a3, a4, a5⟩ := hD
      have hb := pD_b T n hd
      rw [a1, callK_r, psh_n, g273_4, if_pos a2.2.2.2.1, a2.2.1, a2.1.1]
      show oL _ M i b (if y.2 < n then bnd (pX T n 59 y.2) fun q => bnd (pL T n f q) fun L => .inr (y.1 :: L) else .inr [y.1])
      by_cases c : y.2 < n
      · rw [if_pos c, if_pos (by omega)]
        have h7 := sp267 (d + 2) a2 (c := 59) (by decide)
        cases hx : pX T n 59 y.2 with
        | inl e =>
          rw [hx] at h7
          have h7 : run prog (d + 5) 267 [vr 84, vi 59] (shp, M1) = some (.inl none, (shp, mset M1 84 5 (e : Int))) := h7
          rw [h7, callK_r, psh_n, g273_10, mset_at, if_neg (by omega), e273]
          exact ⟨_, rfl, mset_at _ _ _ _, by rw [mset_j (by decide)]; exact mset_at _ _ _ _, (a5.tr s846).tr s846⟩
        | inr q =>
          rw [hx] at h7
          have h7 : run prog (d + 5) 267 [vr 84, vi 59] (shp, M1) = some (.inl none, (shp, mset M1 84 3 (q : Int))) := h7
          have hq := pX_b T n (by decide) hx
          rw [h7, callK_r, psh_n, g273_10, mset_j (show 5 ≠ 3 by decide), if_pos a2.2.2.2.1, wI (by omega)]
          have r := ih (i + 1) q (bv y.1 b) (mset M1 84 3 (q : Int)) (by omega) (by omega) (tS_3 a2 hq.2)
          show oL _ M i b (bnd (pL T n f q) fun L => .inr (y.1 :: L))
          cases hl : pL T n f q with
          | inl e =>
            rw [hl] at r
            obtain ⟨M2, r1, r2, r3, r4⟩ := r
            exact ⟨M2, r1, r2, r3, (a5.tr s846).tr r4⟩
          | inr L =>
            rw [hl] at r
            obtain ⟨M2, r1, r2, r3, r4, r5, r6, r7, r8⟩ := r
            refine ⟨M2, r1, r2, r3, ?_, r5, ?_, fun j hj => ?_, (a5.tr s846).tr r8⟩
            · rw [r4]
              show ((i + 1 + L.length : Nat) : Int) = ((i + (L.length + 1) : Nat) : Int)
              omega
            · intro j hj
              cases j with
              | zero =>
                obtain ⟨b1, b2, b3, b4, b5⟩ := a3
                have e : ∀ m, m ≤ 4 → M2 86 (5 * i + m) = M1 86 (5 * i + m) := fun m hm => by rw [r7 _ (by omega), mset_k (by decide)]
                exact ⟨(e 0 (by omega)).trans b1, (e 1 (by omega)).trans b2, (e 2 (by omega)).trans b3, (e 3 (by omega)).trans b4, (e 4 (by omega)).trans b5⟩
              | succ j =>
                have := r6 j (by have : (y.1 :: L).length = L.length + 1 := rfl; omega)
                rw [show i + (j + 1) = i + 1 + j by omega]
                exact this
            · rw [r7 j (by omega), mset_k (by decide), a4 j hj]
      · rw [if_neg c, if_neg (by omega), e273]
        refine ⟨_, rfl, mset_at _ _ _ _, by rw [mset_j (by decide)]; exact a2.2.2.2.1, by rw [mset_j (by decide)]; exact a2.2.2.2.2.1, by rw [mset_j (by decide)]; exact a2.2.2.2.2.2, ?_, fun j hj => ?_, a5.tr s846⟩
        · intro j hj
          have : j = 0 := by have : [y.1].length = 1 := rfl; omega
          subst this
          obtain ⟨b1, b2, b3, b4, b5⟩ := a3
          exact ⟨by rw [mset_k (by decide)]; exact b1, by rw [mset_k (by decide)]; exact b2, by rw [mset_k (by decide)]; exact b3, by rw [mset_k (by decide)]; exact b4, by rw [mset_k (by decide)]; exact b5⟩
        · rw [mset_k (by decide), a4 j hj]
/-- a text is parsed -/
theorem sp273 (d : Nat) {M : mM} (hn : M 84 2 = (n : Int)) (h90 : n ≤ 90) (hT : ∀ j, j < n → M 85 j = T j) : oL (run prog (d + 6) 273 [vr 84] (shp, M)) M 0 0 (pL T n 16 0) := by
  show oL (ev prog (d + 6) 273 0 0 [vr 84, vj, vj] [] (shp, M)) M 0 0 _
  rw [g273_0]
  have h : tS (mset (mset (mset (mset M 84 3 0) 84 4 0) 84 5 (-1)) 84 6 0) T n 0 (-1) 0 0 := by
    refine ⟨⟨?_, h90, fun j hj => ?_⟩, ?_, Nat.zero_le _, ?_, ?_, mset_at _ _ _ _⟩
    · rw [mset_j (by decide), mset_j (by decide), mset_j (by decide), mset_j (by decide)]; exact hn
    · rw [mset_k (by decide), mset_k (by decide), mset_k (by decide), mset_k (by decide)]; exact hT j hj
    · rw [mset_j (by decide), mset_j (by decide), mset_j (by decide)]; exact mset_at _ _ _ _
    · rw [mset_j (by decide)]; exact mset_at _ _ _ _
    · rw [mset_j (by decide), mset_j (by decide)]; exact mset_at _ _ _ _
  have r := l273 d 16 0 0 0 _ rfl (Nat.zero_le _) h
  have s4 : same [84, 86] M (mset (mset (mset (mset M 84 3 0) 84 4 0) 84 5 (-1)) 84 6 0) := ((s846.tr s846).tr s846).tr s846
  cases hl : pL T n 16 0 with
  | inl e =>
    rw [hl] at r
    obtain ⟨M', r1, r2, r3, r4⟩ := r
    exact ⟨M', r1, r2, r3, s4.tr r4⟩
  | inr L =>
    rw [hl] at r
    obtain ⟨M', r1, r2, r3, r4, r5, r6, r7, r8⟩ := r
    exact ⟨M', r1, r2, r3, r4, r5, r6, fun j hj => absurd hj (by omega), s4.tr r8⟩
end CL
