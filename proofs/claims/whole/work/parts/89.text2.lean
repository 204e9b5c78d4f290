/-! TEXTS: ONE DESCRIPTION; THE CLASS -/
theorem x5 {k i : Nat} (hk : k ≤ 100) (hi : i ≤ 100) : wr (wr (5 * (k : Int)) + (i : Int)) = ((5 * k + i : Nat) : Int) := by
  rw [wrR (x := 5 * (k : Int)) (by omega) (by omega), wrR (by omega) (by omega)]
  omega
theorem pu86 {M : mM} {m : Nat} {v : Int} (h : m < 80) : pu M 86 80 (m : Int) v = mset M 86 m v := by
  rw [pu_in (by omega), Int.toNat_natCast]
def bq (x b : Int) : Int := if x < -100 ∨ 100 < x then 1 else b
theorem s846 {M : mM} {j : Nat} {x : Int} : same [84, 86] M (mset M 84 j x) := same_mset.mono (by decide)
theorem s866 {M : mM} {j : Nat} {x : Int} : same [84, 86] M (mset M 86 j x) := same_mset.mono (by decide)
theorem s86p {M : mM} {i x : Int} : same [84, 86] M (pu M 86 80 i x) := same_pu.mono (by decide)
theorem s84u {M M' : mM} (h : same [84] M M') : same [84, 86] M M' := h.mono (by decide)
/-- what a coordinate leaves -/
def oC (x : mR) (M : mM) (T : Nat → Int) (n k : Nat) (b : Int) (i : Nat) : Nat ⊕ (Int × Nat) → Prop
  | .inl e => ∃ M', x = some (.inl none, (shp, M')) ∧ M' 84 5 = (e : Int) ∧ same [84, 86] M M'
  | .inr y => ∃ M', x = some (.inl none, (shp, M')) ∧ tS M' T n y.2 (-1) k (bq y.1 b) ∧ M' 86 (5 * k + i) = y.1 ∧ (∀ j, j ≠ 5 * k + i → M' 86 j = M 86 j) ∧ same [84, 86] M M'
section CD
variable {T : Nat → Int} {n : Nat}
theorem tS_m86 {M : mM} {p : Nat} {f : Int} {k : Nat} {b : Int} (h : tS M T n p f k b) {i : Nat} {v : Int} : tS (mset M 86 i v) T n p f k b := by
  obtain ⟨⟨h1, h2, h3⟩, h4, h5, h6, h7, h8⟩ := h
  exact ⟨⟨by rw [mset_k (by decide)]; exact h1, h2, fun j hj => by rw [mset_k (by decide)]; exact h3 j hj⟩, by rw [mset_k (by decide)]; exact h4, h5, by rw [mset_k (by decide)]; exact h6, by rw [mset_k (by decide)]; exact h7, by rw [mset_k (by decide)]; exact h8⟩
theorem tS_6 {M : mM} {p : Nat} {f : Int} {k : Nat} {b : Int} (h : tS M T n p f k b) {v : Int} : tS (mset M 84 6 v) T n p f k v := by
  obtain ⟨⟨h1, h2, h3⟩, h4, h5, h6, h7, h8⟩ := h
  exact ⟨⟨by rw [mset_j (by decide)]; exact h1, h2, fun j hj => by rw [mset_k (by decide)]; exact h3 j hj⟩, by rw [mset_j (by decide)]; exact h4, h5, by rw [mset_j (by decide)]; exact h6, by rw [mset_j (by decide)]; exact h7, mset_at _ _ _ _⟩
theorem tS_4 {M : mM} {p : Nat} {f : Int} {k : Nat} {b : Int} (h : tS M T n p f k b) {k' : Nat} : tS (mset M 84 4 (k' : Int)) T n p f k' b := by
  obtain ⟨⟨h1, h2, h3⟩, h4, h5, h6, h7, h8⟩ := h
  exact ⟨⟨by rw [mset_j (by decide)]; exact h1, h2, fun j hj => by rw [mset_k (by decide)]; exact h3 j hj⟩, by rw [mset_j (by decide)]; exact h4, h5, by rw [mset_j (by decide)]; exact h6, mset_at _ _ _ _, by rw [mset_j (by decide)]; exact h8⟩
/-- the end of a coordinate -/
theorem c271 (d : Nat) {M : mM} {p k : Nat} {b : Int} (h : tS M T n p (-1) k b) (hk : k ≤ 15) {i : Nat} (hi : i ≤ 2) {s v : Int} (hv : 0 ≤ v ∧ v < 1000) :
    ∃ M', ev prog (d + 4) 271 0 2 [vr 84, vi (i : Int), vi s, vj] [vi v] (shp, M) = some (.inl none, (shp, M')) ∧ tS M' T n p (-1) k (bq (if s = 0 then v else -v) b) ∧ M' 86 (5 * k + i) = (if s = 0 then v else -v) ∧ (∀ j, j ≠ 5 * k + i → M' 86 j = M 86 j) ∧ same [84, 86] M M' := by
  have h7 : M 84 4 = (k : Int) := h.2.2.2.2.1
  rw [g271_2, mset_j (show 4 ≠ 6 by decide), h7, x5 (by omega) (by omega)]
  by_cases c : 100 < v
  · rw [if_pos c]
    by_cases e : s = 0
    · rw [if_pos e, if_pos e, pu86 (by omega), bq, if_pos (.inr c)]
      exact ⟨_, rfl, tS_m86 (tS_6 h), mset_at _ _ _ _, fun j hj => by rw [mset_j hj, mset_k (by decide)], s846.tr s866⟩
    · rw [if_neg e, if_neg e, pu86 (by omega), wrR (by omega) (by omega), bq, if_pos (.inl (by omega))]
      exact ⟨_, rfl, tS_m86 (tS_6 h), mset_at _ _ _ _, fun j hj => by rw [mset_j hj, mset_k (by decide)], s846.tr s866⟩
  · rw [if_neg c]
    by_cases e : s = 0
    · rw [if_pos e, if_pos e, pu86 (by omega), bq, if_neg (by omega)]
      exact ⟨_, rfl, tS_m86 h, mset_at _ _ _ _, fun j hj => by rw [mset_j hj], s866⟩
    · rw [if_neg e, if_neg e, pu86 (by omega), wrR (by omega) (by omega), bq, if_neg (by omega)]
      exact ⟨_, rfl, tS_m86 h, mset_at _ _ _ _, fun j hj => by rw [mset_j hj], s866⟩
/-- the end of a coordinate with a fault -/
theorem f271 (d : Nat) {M : mM} {e : Int} (h : M 84 5 = e) {i s : Int} : ∃ M', ev prog (d + 4) 271 0 2 [vr 84, vi i, vi s, vj] [vi 0] (shp, M) = some (.inl none, (shp, M')) ∧ M' 84 5 = e ∧ same [84, 86] M M' := by
  rw [g271_2, if_neg (by decide)]
  by_cases c : s = 0
  · rw [if_pos c]
    exact ⟨_, rfl, by rw [pu_k (by decide)]; exact h, s86p⟩
  · rw [if_neg c]
    exact ⟨_, rfl, by rw [pu_k (by decide)]; exact h, s86p⟩
theorem sp271 (d : Nat) {M : mM} {p k : Nat} {b : Int} (h : tS M T n p (-1) k b) (hk : k ≤ 15) {i : Nat} (hi : i ≤ 2) : oC (run prog (d + 4) 271 [vr 84, vi (i : Int)] (shp, M)) M T n k b i (pC T n p) := by
  have e0 : run prog (d + 4) 271 [vr 84, vi (i : Int)] (shp, M) = ev prog (d + 4) 271 0 0 [vr 84, vi (i : Int), vj, vj] [] (shp, M) := rfl
  have go : ∀ (s : Int) (p1 : Nat) (M1 : mM), run prog (d + 3) 265 [vr 84, vi 45] (shp, M) = some (.inl (some (vi s)), (shp, M1)) → tS M1 T n p1 (-1) k b → same [84] M M1 → pC T n p = (match nuP T n 3 p1 with
    | none => .inl p1
    | some q => .inr (if s = 0 then q.1 else -q.1, q.2)) → oC (run prog (d + 4) 271 [vr 84, vi (i : Int)] (shp, M)) M T n k b i (pC T n p) := by
    intro s p1 M1 e1 h1 s1 ep
    have h9 := sp269 d (mx := 3) (by decide) (by decide) h1
    rw [e0, g271_0, e1, callK_r, psh_s, g271_1, ep]
    cases hq : nuP T n 3 p1 with
    | none =>
      rw [hq] at h9
      have h9 : run prog (d + 3) 269 [vr 84, vi 3] (shp, M1) = some (.inl (some (vi 0)), (shp, mset M1 84 5 (p1 : Int))) := h9
      rw [h9, callK_r, psh_s]
      obtain ⟨M', a1, a2, a3⟩ := f271 d (M := mset M1 84 5 (p1 : Int)) (mset_at _ _ _ _) (i := (i : Int)) (s := s)
      exact ⟨M', a1, a2, ((s84u s1).tr s846).tr a3⟩
    | some q =>
      rw [hq] at h9
      obtain ⟨M2, b1, b2, b3, b4⟩ : ∃ M', run prog (d + 3) 269 [vr 84, vi 3] (shp, M1) = some (.inl (some (vi q.1)), (shp, M')) ∧ tS M' T n q.2 (-1) k b ∧ same [84] M1 M' ∧ q.1 < 1000 := h9
      rw [b1, callK_r, psh_s]
      obtain ⟨M', a1, a2, a3, a4, a5⟩ := c271 d b2 hk hi (s := s) ⟨(nuP_b T n hq).2.2, b4⟩
      exact ⟨M', a1, a2, a3, fun j hj => by rw [a4 j hj, b3 86 (by decide), s1 86 (by decide)], ((s84u s1).tr (s84u b3)).tr a5⟩
  have e1 := sp265 (d + 1) h (c := 45) (by decide)
  by_cases c : cA T n p = 45
  · rw [if_pos c] at e1
    refine go 1 (p + 1) _ e1 (tS_3 h (cA_lt T n c (by decide)).1) same_mset ?_
    unfold pC
    rw [if_pos c]
    cases nuP T n 3 (p + 1) with
    | none => rfl
    | some q => exact congrArg (fun x => Sum.inr (x, q.2)) ((if_pos c).trans (if_neg (show ¬ (1 : Int) = 0 by decide)).symm)
  · rw [if_neg c] at e1
    refine go 0 p M e1 h same.rf ?_
    unfold pC
    rw [if_neg c]
    cases nuP T n 3 p with
    | none => rfl
    | some q => exact congrArg (fun x => Sum.inr (x, q.2)) ((if_neg c).trans (if_pos rfl).symm)
theorem sp271f (d : Nat) {M : mM} {e : Int} (he : e ≠ -1) (h : M 84 5 = e) (i : Int) : ∃ M', run prog (d + 4) 271 [vr 84, vi i] (shp, M) = some (.inl none, (shp, M')) ∧ M' 84 5 = e ∧ same [84, 86] M M' := by
  show ∃ M', ev prog (d + 4) 271 0 0 [vr 84, vi i, vj, vj] [] (shp, M) = some (.inl none, (shp, M')) ∧ M' 84 5 = e ∧ same [84, 86] M M'
  have h9 := sp269f d (mx := 3) (by decide) he h
  rw [g271_0, sp265f (d + 1) he h, callK_r, psh_s, g271_1, show run prog (d + 3) 269 [vr 84, vi 3] (shp, M) = _ from h9, callK_r, psh_s]
  exact f271 d h
/-! with a fault nothing moves -/
def oF (x : mR) (M : mM) (e : Int) : Prop := ∃ M', x = some (.inl none, (shp, M')) ∧ M' 84 5 = e ∧ same [84, 86] M M'
theorem oF.tr {x : mR} {M M1 : mM} {e : Int} (s : same [84, 86] M M1) (h : oF x M1 e) : oF x M e := by
  obtain ⟨M', a1, a2, a3⟩ := h
  exact ⟨M', a1, a2, s.tr a3⟩
theorem f14 (d : Nat) {M : mM} {e : Int} (h : M 84 5 = e) (s1 : Int) : oF (ev prog (d + 5) 272 0 14 [vr 84, vj] [vi 0, vi s1, vr 84] (shp, M)) M e := by
  rw [g272_14, if_pos rfl]
  exact ⟨_, rfl, by rw [mset_j (by decide), pu_k (by decide)]; exact h, s86p.tr s846⟩
theorem f16 (d : Nat) {M : mM} {e : Int} (h : M 84 5 = e) (s1 s2 : Int) : oF (ev prog (d + 5) 272 0 16 [vr 84, vj] [vi s2, vi s1, vr 84] (shp, M)) M e := by
  rw [g272_16]
  exact ⟨_, rfl, by rw [mset_j (by decide), pu_k (by decide)]; exact h, s86p.tr s846⟩
theorem f10 (d : Nat) {M : mM} {e : Int} (he : e ≠ -1) (h : M 84 5 = e) (s1 s2 : Int) : oF (ev prog (d + 5) 272 0 10 [vr 84, vj] [vi s2, vi s1, vr 84] (shp, M)) M e := by
  rw [g272_10, sp265f (d + 2) he (by rw [pu_k (by decide)]; exact h), callK_r, psh_s]
  exact oF.tr s86p (f14 d (by rw [pu_k (by decide)]; exact h) 4)
theorem f8 (d : Nat) {M : mM} {e : Int} (he : e ≠ -1) (h : M 84 5 = e) (s1 : Int) : oF (ev prog (d + 5) 272 0 8 [vr 84, vj] [vi 0, vi s1, vr 84] (shp, M)) M e := by
  rw [g272_8, if_pos rfl, sp265f (d + 2) he (by rw [pu_k (by decide)]; exact h), callK_r, psh_s]
  exact oF.tr s86p (f14 d (by rw [pu_k (by decide)]; exact h) 4)
theorem f1 (d : Nat) {M : mM} {e : Int} (he : e ≠ -1) (h : M 84 5 = e) (x : Int) : oF (ev prog (d + 5) 272 0 1 [vr 84, vi x] [] (shp, M)) M e := by
  rw [g272_1]
  by_cases c : x < 3
  · rw [if_pos c, if_neg (by omega), sp265f (d + 2) he h, callK_r, psh_s]
    exact f8 d he h 3
  · rw [if_neg c, sp265f (d + 2) he h, callK_r, psh_s]
    exact f8 d he h 3
theorem f6 (d : Nat) {M : mM} {e : Int} (he : e ≠ -1) (h : M 84 5 = e) (x : Int) : oF (ev prog (d + 5) 272 0 6 [vr 84, vi x] [] (shp, M)) M e := by
  rw [g272_6]
  exact f1 d he h _
theorem f5 (d : Nat) {M : mM} {e : Int} (he : e ≠ -1) (h : M 84 5 = e) (x : Int) : oF (ev prog (d + 5) 272 0 5 [vr 84, vi x] [] (shp, M)) M e := by
  obtain ⟨M', a1, a2, a3⟩ := sp271f d he h x
  rw [g272_5, a1, callK_r, psh_n]
  exact oF.tr a3 (f6 d he a2 x)
/-! the three coordinates -/
/-- what a step of the loop leaves -/
def oS (d : Nat) (x : mR) (M : mM) (T : Nat → Int) (n k : Nat) (b : Int) (i : Nat) : Nat ⊕ (Int × Nat) → Prop
  | .inl e => oF x M (e : Int)
  | .inr y => ∃ M', x = ev prog (d + 5) 272 0 1 [vr 84, vi ((i + 1 : Nat) : Int)] [] (shp, M') ∧ tS M' T n y.2 (-1) k (bq y.1 b) ∧ M' 86 (5 * k + i) = y.1 ∧ (∀ j, j ≠ 5 * k + i → M' 86 j = M 86 j) ∧ same [84, 86] M M'
theorem oS_of (d : Nat) {M : mM} {k i : Nat} {b : Int} (hi : i ≤ 2) {r : Nat ⊕ (Int × Nat)} (h : oC (run prog (d + 4) 271 [vr 84, vi (i : Int)] (shp, M)) M T n k b i r) {x : mR}
    (hx : ∀ M', run prog (d + 4) 271 [vr 84, vi (i : Int)] (shp, M) = some (.inl none, (shp, M')) → x = ev prog (d + 5) 272 0 6 [vr 84, vi (i : Int)] [] (shp, M')) : oS d x M T n k b i r := by
  cases r with
  | inl e =>
    obtain ⟨M', a1, a2, a3⟩ := h
    show oF x M e
    rw [hx M' a1]
    exact oF.tr a3 (f6 d (by omega) a2 _)
  | inr y =>
    obtain ⟨M', a1, a2⟩ := h
    refine ⟨M', ?_, a2⟩
    rw [hx M' a1, g272_6, wI (by omega)]
theorem st0 (d : Nat) {M : mM} {p k : Nat} {b : Int} (h : tS M T n p (-1) k b) (hk : k ≤ 15) : oS d (ev prog (d + 5) 272 0 1 [vr 84, vi ((0 : Nat) : Int)] [] (shp, M)) M T n k b 0 (pC T n p) := by
  refine oS_of d (by decide) (sp271 d h hk (i := 0) (by decide)) fun M' e => ?_
  rw [g272_1, if_pos (by decide), if_pos h.2.2.2.1, if_neg (by decide), e, callK_r, psh_n]
theorem st12 (d : Nat) {M : mM} {p k : Nat} {b : Int} (h : tS M T n p (-1) k b) (hk : k ≤ 15) {i : Nat} (hi : i = 1 ∨ i = 2) : oS d (ev prog (d + 5) 272 0 1 [vr 84, vi (i : Int)] [] (shp, M)) M T n k b i (bnd (pX T n 44 p) fun p1 => pC T n p1) := by
  have h7 := sp267 (d + 1) h (c := 44) (by decide)
  rw [g272_1, if_pos (by omega), if_pos h.2.2.2.1, if_pos (by omega)]
  cases hx : pX T n 44 p with
  | inl e =>
    rw [hx] at h7
    have h7 : run prog (d + 4) 267 [vr 84, vi 44] (shp, M) = some (.inl none, (shp, mset M 84 5 (e : Int))) := h7
    rw [h7, callK_r, psh_n]
    exact oF.tr s846 (f5 d (by omega) (mset_at _ _ _ _) _)
  | inr q =>
    rw [hx] at h7
    have h7 : run prog (d + 4) 267 [vr 84, vi 44] (shp, M) = some (.inl none, (shp, mset M 84 3 (q : Int))) := h7
    rw [h7, callK_r, psh_n]
    have hb := pX_b T n (by decide) hx
    have h1 := tS_3 h hb.2
    have g := sp271 d h1 hk (i := i) (by omega)
    have g2 : oS d (ev prog (d + 5) 272 0 5 [vr 84, vi (i : Int)] [] (shp, mset M 84 3 (q : Int))) (mset M 84 3 (q : Int)) T n k b i (pC T n q) := oS_of d (by omega) g fun M' e => by rw [g272_5, e, callK_r, psh_n]
    show oS d _ M T n k b i (pC T n q)
    cases hc : pC T n q with
    | inl e => rw [hc] at g2; exact oF.tr s846 g2
    | inr y =>
      rw [hc] at g2
      obtain ⟨M', a1, a2, a3, a4, a5⟩ := g2
      exact ⟨M', a1, a2, a3, fun j hj => by rw [a4 j hj, mset_k (by decide)], s846.tr a5⟩
/-! the weight and the group -/
theorem bnd_ass {α β γ : Type} (x : Nat ⊕ α) (f : α → Nat ⊕ β) (g : β → Nat ⊕ γ) : bnd x (fun a => bnd (f a) g) = bnd (bnd x f) g := by
  cases x <;> rfl
/-- what a weight and a group leave -/
def oW (x : mR) (M : mM) (T : Nat → Int) (n k : Nat) (b : Int) : Nat ⊕ ((Int × Int) × Nat) → Prop
  | .inl e => oF x M (e : Int)
  | .inr y => ∃ M', x = some (.inl none, (shp, M')) ∧ tS M' T n y.2 (-1) (k + 1) b ∧ M' 86 (5 * k + 3) = y.1.1 ∧ M' 86 (5 * k + 4) = y.1.2 ∧ (∀ j, j ≠ 5 * k + 3 → j ≠ 5 * k + 4 → M' 86 j = M 86 j) ∧ same [84, 86] M M'
def oG (x : mR) (M : mM) (T : Nat → Int) (n k : Nat) (b : Int) : Nat ⊕ (Int × Nat) → Prop
  | .inl e => oF x M (e : Int)
  | .inr y => ∃ M', x = some (.inl none, (shp, M')) ∧ tS M' T n y.2 (-1) (k + 1) b ∧ M' 86 (5 * k + 4) = y.1 ∧ (∀ j, j ≠ 5 * k + 4 → M' 86 j = M 86 j) ∧ same [84, 86] M M'
theorem st14 (d : Nat) (z : Nat → mS → mR) {M : mM} {p k : Nat} {b : Int} (h : tS M T n p (-1) k b) (hk : k ≤ 15) : oG (callK (run prog (d + 4) 265 [vr 84, vi 35] (shp, M)) (fun v σ1 => ev prog (d + 5) 272 0 14 [vr 84, vj] (psh v [vi 4, vr 84]) σ1) z) M T n k b (pB T n 35 1 0 p) := by
  have h5 := sp265 (d + 2) h (c := 35) (by decide)
  have x4 := x5 (k := k) (i := 4) (by omega) (by decide)
  have wk : wr ((k : Int) + 1) = ((k + 1 : Nat) : Int) := wI (by clear x4; omega)
  have x4 : wr (wr (5 * (k : Int)) + 4) = ((5 * k + 4 : Nat) : Int) := x4
  have hb : 5 * k + 4 < 80 := by clear x4 wk; omega
  unfold pB
  by_cases c : cA T n p = 35
  · rw [if_pos c] at h5 ⊢
    have hp := (cA_lt T n c (by decide)).1
    have h1 := tS_3 h (p' := p + 1) hp
    have h9 := sp269 (d + 1) (mx := 1) (by decide) (by decide) h1
    rw [h5, callK_r, psh_s, g272_14, if_neg (by decide)]
    cases hq : nuP T n 1 (p + 1) with
    | none =>
      rw [hq] at h9
      have h9 : run prog (d + 4) 269 [vr 84, vi 1] (shp, mset M 84 3 ((p + 1 : Nat) : Int)) = some (.inl (some (vi 0)), (shp, mset (mset M 84 3 ((p + 1 : Nat) : Int)) 84 5 ((p + 1 : Nat) : Int))) := h9
      rw [h9, callK_r, psh_s]
      exact oF.tr (s846.tr s846) (f16 d (mset_at _ _ _ _) 4 0)
    | some q =>
      rw [hq] at h9
      obtain ⟨M2, b1, b2, b3, b4⟩ : ∃ M', run prog (d + 4) 269 [vr 84, vi 1] (shp, mset M 84 3 ((p + 1 : Nat) : Int)) = some (.inl (some (vi q.1)), (shp, M')) ∧ tS M' T n q.2 (-1) k b ∧ same [84] (mset M 84 3 ((p + 1 : Nat) : Int)) M' ∧ q.1 < 1000 := h9
      rw [b1, callK_r, psh_s, g272_16, b2.2.2.2.2.1, wk, x4, pu86 hb]
      exact ⟨_, rfl, tS_4 (tS_m86 b2), by rw [mset_k (by decide)]; exact mset_at _ _ _ _, fun j hj => by rw [mset_k (by decide), mset_j hj, b3 86 (by decide), mset_k (by decide)], ((s846.tr (s84u b3)).tr s866).tr s846⟩
  · rw [if_neg c] at h5 ⊢
    rw [h5, callK_r, psh_s, g272_14, if_pos rfl, h.2.2.2.2.1, wk, x4, pu86 hb]
    exact ⟨_, rfl, tS_4 (tS_m86 h), by rw [mset_k (by decide)]; exact mset_at _ _ _ _, fun j hj => by rw [mset_k (by decide), mset_j hj], s866.tr s846⟩
def pW (T : Nat → Int) (n p : Nat) : Nat ⊕ ((Int × Int) × Nat) := bnd (pB T n 58 2 1 p) fun w => bnd (pB T n 35 1 0 w.2) fun g => .inr ((w.1, g.1), g.2)
theorem oW_of {x : mR} {M M1 : mM} {k : Nat} {b w : Int} {r : Nat ⊕ (Int × Nat)} (h : oG x M1 T n k b r) (hs : same [84, 86] M M1) (h3 : M1 86 (5 * k + 3) = w) (h4 : ∀ j, j ≠ 5 * k + 3 → M1 86 j = M 86 j) : oW x M T n k b (bnd r fun g => .inr ((w, g.1), g.2)) := by
  cases r with
  | inl e => exact oF.tr hs h
  | inr y =>
    obtain ⟨M', a1, a2, a3, a4, a5⟩ := h
    exact ⟨M', a1, a2, by rw [a4 _ (by omega)]; exact h3, a3, fun j hj hj2 => by rw [a4 j hj2, h4 j hj], hs.tr a5⟩
theorem st3w (d : Nat) {M : mM} {p k : Nat} {b : Int} (h : tS M T n p (-1) k b) (hk : k ≤ 15) : oW (ev prog (d + 5) 272 0 1 [vr 84, vi ((3 : Nat) : Int)] [] (shp, M)) M T n k b (pW T n p) := by
  have h5 := sp265 (d + 2) h (c := 58) (by decide)
  have x4 := x5 (k := k) (i := 3) (by omega) (by decide)
  have x4 : wr (wr (5 * (k : Int)) + 3) = ((5 * k + 3 : Nat) : Int) := x4
  have hb : 5 * k + 3 < 80 := by clear x4; omega
  rw [g272_1, if_neg (by decide)]
  unfold pW
  by_cases c : cA T n p = 58
  · rw [if_pos c] at h5
    have e1 : pB T n 58 2 1 p = (match nuP T n 2 (p + 1) with
      | none => .inl (p + 1)
      | some q => .inr q) := if_pos c
    have hp := (cA_lt T n c (by decide)).1
    have h1 := tS_3 h (p' := p + 1) hp
    have h9 := sp269 (d + 1) (mx := 2) (by decide) (by decide) h1
    rw [h5, callK_r, psh_s, g272_8, if_neg (by decide), e1]
    cases hq : nuP T n 2 (p + 1) with
    | none =>
      rw [hq] at h9
      have h9 : run prog (d + 4) 269 [vr 84, vi 2] (shp, mset M 84 3 ((p + 1 : Nat) : Int)) = some (.inl (some (vi 0)), (shp, mset (mset M 84 3 ((p + 1 : Nat) : Int)) 84 5 ((p + 1 : Nat) : Int))) := h9
      rw [h9, callK_r, psh_s]
      exact oF.tr (s846.tr s846) (f10 d (by clear x4; omega) (mset_at _ _ _ _) 3 0)
    | some q =>
      rw [hq] at h9
      obtain ⟨M2, b1, b2, b3, b4⟩ : ∃ M', run prog (d + 4) 269 [vr 84, vi 2] (shp, mset M 84 3 ((p + 1 : Nat) : Int)) = some (.inl (some (vi q.1)), (shp, M')) ∧ tS M' T n q.2 (-1) k b ∧ same [84] (mset M 84 3 ((p + 1 : Nat) : Int)) M' ∧ q.1 < 1000 := h9
      rw [b1, callK_r, psh_s, g272_10, b2.2.2.2.2.1, x4, pu86 hb]
      exact oW_of (st14 d _ (tS_m86 b2) hk) ((s846.tr (s84u b3)).tr s866) (mset_at _ _ _ _) fun j hj => by rw [mset_j hj, b3 86 (by decide), mset_k (by decide)]
  · rw [if_neg c] at h5
    have e1 : pB T n 58 2 1 p = .inr (1, p) := if_neg c
    rw [h5, callK_r, psh_s, g272_8, if_pos rfl, e1, h.2.2.2.2.1, x4, pu86 hb]
    exact oW_of (st14 d _ (tS_m86 h) hk) s866 (mset_at _ _ _ _) fun j hj => by rw [mset_j hj]
/-! the whole -/
theorem pD_eq (p : Nat) : pD T n p = bnd (pC T n p) fun x => bnd (bnd (pX T n 44 x.2) fun p1 => pC T n p1) fun y => bnd (bnd (pX T n 44 y.2) fun p2 => pC T n p2) fun z => bnd (pW T n z.2) fun w => .inr ((x.1, y.1, z.1, w.1.1, w.1.2), w.2) := by
  unfold pD pW
  cases pC T n p with
  | inl e => rfl
  | inr x =>
    show (bnd (pX T n 44 x.2) fun p1 => _) = bnd (bnd (pX T n 44 x.2) fun p1 => pC T n p1) _
    cases pX T n 44 x.2 with
    | inl e => rfl
    | inr p1 =>
      show (bnd (pC T n p1) fun y => _) = bnd (pC T n p1) _
      cases pC T n p1 with
      | inl e => rfl
      | inr y =>
        show (bnd (pX T n 44 y.2) fun p1 => _) = bnd (bnd (pX T n 44 y.2) fun p1 => pC T n p1) _
        cases pX T n 44 y.2 with
        | inl e => rfl
        | inr p2 =>
          show (bnd (pC T n p2) fun y => _) = bnd (pC T n p2) _
          cases pC T n p2 with
          | inl e => rfl
          | inr z =>
            show (bnd (pB T n 58 2 1 z.2) fun w => _) = bnd (bnd (pB T n 58 2 1 z.2) _) _
            cases pB T n 58 2 1 z.2 with
            | inl e => rfl
            | inr w =>
              show (bnd (pB T n 35 1 0 w.2) fun w => _) = bnd (bnd (pB T n 35 1 0 w.2) _) _
              cases pB T n 35 1 0 w.2 <;> rfl
def pt5 (M : mM) (k : Nat) (v : V5) : Prop := M 86 (5 * k + 0) = v.1 ∧ M 86 (5 * k + 1) = v.2.1 ∧ M 86 (5 * k + 2) = v.2.2.1 ∧ M 86 (5 * k + 3) = v.2.2.2.1 ∧ M 86 (5 * k + 4) = v.2.2.2.2
def bv (v : V5) (b : Int) : Int := bq v.2.2.1 (bq v.2.1 (bq v.1 b))
/-- what a description leaves -/
def oD (x : mR) (M : mM) (T : Nat → Int) (n k : Nat) (b : Int) : Nat ⊕ (V5 × Nat) → Prop
  | .inl e => oF x M (e : Int)
  | .inr y => ∃ M', x = some (.inl none, (shp, M')) ∧ tS M' T n y.2 (-1) (k + 1) (bv y.1 b) ∧ pt5 M' k y.1 ∧ (∀ j, j < 5 * k → M' 86 j = M 86 j) ∧ same [84, 86] M M'
theorem sp272 (d : Nat) {M : mM} {p k : Nat} {b : Int} (h : tS M T n p (-1) k b) (hk : k ≤ 15) : oD (run prog (d + 5) 272 [vr 84] (shp, M)) M T n k b (pD T n p) := by
  have e0 : run prog (d + 5) 272 [vr 84] (shp, M) = ev prog (d + 5) 272 0 1 [vr 84, vi ((0 : Nat) : Int)] [] (shp, M) := by
    show ev prog (d + 5) 272 0 0 [vr 84, vj] [] (shp, M) = _
    rw [g272_0]
    rfl
  rw [e0, pD_eq]
  have s0 := st0 d h hk
  cases hx : pC T n p with
  | inl e => rw [hx] at s0; exact s0
  | inr x =>
    rw [hx] at s0
    obtain ⟨M1, a1, a2, a3, a4, a5⟩ := s0
    have s1 := st12 d a2 hk (i := 1) (.inl rfl)
    show oD _ M T n k b (bnd (bnd (pX T n 44 x.2) fun p1 => pC T n p1) fun y => bnd (bnd (pX T n 44 y.2) fun p2 => pC T n p2) fun z => bnd (pW T n z.2) fun w => .inr ((x.1, y.1, z.1, w.1.1, w.1.2), w.2))
    rw [a1]
    cases hy : (bnd (pX T n 44 x.2) fun p1 => pC T n p1) with
    | inl e => rw [hy] at s1; exact oF.tr a5 s1
    | inr y =>
      rw [hy] at s1
      obtain ⟨M2, b1, b2, b3, b4, b5⟩ := s1
      have s2 := st12 d b2 hk (i := 2) (.inr rfl)
      show oD _ M T n k b (bnd (bnd (pX T n 44 y.2) fun p2 => pC T n p2) fun z => bnd (pW T n z.2) fun w => .inr ((x.1, y.1, z.1, w.1.1, w.1.2), w.2))
      rw [b1]
      cases hz : (bnd (pX T n 44 y.2) fun p1 => pC T n p1) with
      | inl e => rw [hz] at s2; exact oF.tr (a5.tr b5) s2
      | inr z =>
        rw [hz] at s2
        obtain ⟨M3, c1, c2, c3, c4, c5⟩ := s2
        have s3 := st3w d c2 hk
        show oD _ M T n k b (bnd (pW T n z.2) fun w => .inr ((x.1, y.1, z.1, w.1.1, w.1.2), w.2))
        rw [c1]
        cases hw : pW T n z.2 with
        | inl e => rw [hw] at s3; exact oF.tr ((a5.tr b5).tr c5) s3
        | inr w =>
          rw [hw] at s3
          obtain ⟨M4, d1, d2, d3, d4, d5, d6⟩ := s3
          refine ⟨M4, d1, d2, ⟨?_, ?_, ?_, d3, d4⟩, fun j hj => ?_, ((a5.tr b5).tr c5).tr d6⟩
          · rw [d5 _ (by omega) (by omega), c4 _ (by omega), b4 _ (by omega)]; exact a3
          · rw [d5 _ (by omega) (by omega), c4 _ (by omega)]; exact b3
          · rw [d5 _ (by omega) (by omega)]; exact c3
          · rw [d5 _ (by omega) (by omega), c4 _ (by omega), b4 _ (by omega), a4 _ (by omega)]
end CD
