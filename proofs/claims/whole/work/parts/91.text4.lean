/-! TEXTS: THE MODEL -/
def fr (M M' : mM) : Prop := same [87, 95] M M' ∧ ∀ j, j ≠ 14 → j ≠ 15 → j ≠ 18 → M' 87 j = M 87 j
theorem fr.rf {M : mM} : fr M M := ⟨same.rf, fun _ _ _ _ => rfl⟩
theorem fr.tr {M M1 M2 : mM} (h1 : fr M M1) (h2 : fr M1 M2) : fr M M2 := ⟨h1.1.tr h2.1, fun j a b c => (h2.2 j a b c).trans (h1.2 j a b c)⟩
theorem fr_14 {M : mM} {x : Int} : fr M (mset M 87 14 x) := ⟨same_mset.mono (by decide), fun j a b c => mset_j a⟩
theorem fr_15 {M : mM} {x : Int} : fr M (mset M 87 15 x) := ⟨same_mset.mono (by decide), fun j a b c => mset_j b⟩
theorem fr_18 {M : mM} {x : Int} : fr M (mset M 87 18 x) := ⟨same_mset.mono (by decide), fun j a b c => mset_j c⟩
theorem fr_95 {M : mM} {i : Nat} {x : Int} : fr M (mset M 95 i x) := ⟨same_mset.mono (by decide), fun j a b c => mset_k (by decide)⟩
def uS (M : mM) (T : Nat → Int) (n p k : Nat) : Prop := (M 87 13 = (n : Int) ∧ n ≤ 90 ∧ ∀ j, j < n → M 94 j = T j) ∧ M 87 14 = (p : Int) ∧ p ≤ n ∧ M 87 18 = (k : Int)
section UX
variable {T : Nat → Int} {n : Nat}
theorem uS_14 {M : mM} {p k : Nat} (h : uS M T n p k) {p' : Nat} (hp : p' ≤ n) : uS (mset M 87 14 (p' : Int)) T n p' k := by
  obtain ⟨⟨h1, h2, h3⟩, h4, h5, h6⟩ := h
  exact ⟨⟨by rw [mset_j (by decide)]; exact h1, h2, fun j hj => by rw [mset_k (by decide)]; exact h3 j hj⟩, mset_at _ _ _ _, hp, by rw [mset_j (by decide)]; exact h6⟩
theorem uS_15 {M : mM} {p k : Nat} (h : uS M T n p k) {x : Int} : uS (mset M 87 15 x) T n p k := by
  obtain ⟨⟨h1, h2, h3⟩, h4, h5, h6⟩ := h
  exact ⟨⟨by rw [mset_j (by decide)]; exact h1, h2, fun j hj => by rw [mset_k (by decide)]; exact h3 j hj⟩, by rw [mset_j (by decide)]; exact h4, h5, by rw [mset_j (by decide)]; exact h6⟩
theorem uS_18 {M : mM} {p k : Nat} (h : uS M T n p k) {k' : Nat} : uS (mset M 87 18 (k' : Int)) T n p k' := by
  obtain ⟨⟨h1, h2, h3⟩, h4, h5, h6⟩ := h
  exact ⟨⟨by rw [mset_j (by decide)]; exact h1, h2, fun j hj => by rw [mset_k (by decide)]; exact h3 j hj⟩, by rw [mset_j (by decide)]; exact h4, h5, mset_at _ _ _ _⟩
theorem uS_95 {M : mM} {p k : Nat} (h : uS M T n p k) {i : Nat} {x : Int} : uS (mset M 95 i x) T n p k := by
  obtain ⟨⟨h1, h2, h3⟩, h4, h5, h6⟩ := h
  exact ⟨⟨by rw [mset_k (by decide)]; exact h1, h2, fun j hj => by rw [mset_k (by decide)]; exact h3 j hj⟩, by rw [mset_k (by decide)]; exact h4, h5, by rw [mset_k (by decide)]; exact h6⟩
theorem sp277 (d : Nat) {M : mM} {p k : Nat} (h : uS M T n p k) : run prog (d + 1) 277 [vr 87] (shp, M) = some (.inl (some (vi (cA T n p))), (shp, M)) := by
  show ev prog (d + 1) 277 0 0 [vr 87] [] (shp, M) = _
  obtain ⟨⟨h1, h2, h3⟩, h4, h5, h6⟩ := h
  rw [g277_0, h4, h1]
  unfold cA
  by_cases c : p < n
  · rw [if_pos (by omega), if_pos (show 0 ≤ (p : Int) ∧ (p : Int) < 90 by omega), if_pos c, Int.toNat_natCast, h3 p c]
  · rw [if_neg (by omega), if_neg c]
theorem sp278 (d : Nat) {M : mM} {p k : Nat} (h : uS M T n p k) {c : Int} (hc : 0 ≤ c) : run prog (d + 2) 278 [vr 87, vi c] (shp, M) = if cA T n p = c then some (.inl (some (vi 1)), (shp, mset M 87 14 ((p + 1 : Nat) : Int))) else some (.inl (some (vi 0)), (shp, M)) := by
  show ev prog (d + 2) 278 0 0 [vr 87, vi c] [] (shp, M) = _
  rw [g278_0, sp277 d h, callK_r, psh_s, g278_1, h.2.1, wI (by have := h.1.2.1; have := h.2.2.1; omega)]
theorem cD_51 {p : Nat} {M : mM} : p51 (cA T n p) 48 57 M = cD T n p := by
  unfold p51 cD
  by_cases a : cA T n p < 48
  · rw [if_pos a, decide_eq_false (by omega)]
  · rw [if_neg a]
    by_cases b : 57 < cA T n p
    · rw [if_pos b, decide_eq_false (by omega)]
    · rw [if_neg b, decide_eq_true (by omega)]
theorem sp279 (d : Nat) {M : mM} {p k : Nat} (h : uS M T n p k) : run prog (d + 2) 279 [vr 87] (shp, M) = some (.inl (some (vi (bi (cD T n p)))), (shp, M)) := by
  show ev prog (d + 2) 279 0 0 [vr 87] [] (shp, M) = _
  rw [g279_0, sp277 d h, callK_r, psh_s, g279_1, cD_51]
theorem l280 (d : Nat) (mx : Nat) (hmx : mx ≤ 3) : ∀ (r j : Nat) (v : Int) (p : Nat) (M : mM) (k : Nat), j + r = mx → 0 ≤ v → v < 10 ^ j → uS M T n p k → M 87 15 = v →
    ∃ M', ev prog (d + 3) 280 0 7 [vr 87, vi (mx : Int), vi (j : Int)] [] (shp, M) = some (.inl (some (vi 1)), (shp, M')) ∧ uS M' T n (dg T n r v p).2 k ∧ M' 87 15 = (dg T n r v p).1 ∧ (fr M M' ∧ M' 95 = M 95) ∧ (dg T n r v p).1 < 10 ^ mx := by
  intro r
  induction r with
  | zero =>
    intro j v p M k hj hv hv2 h h15
    have e : j = mx := by omega
    subst e
    refine ⟨M, ?_, h, h15, ⟨fr.rf, rfl⟩, hv2⟩
    rw [g280_7, if_neg (by omega)]
  | succ r ih =>
    intro j v p M k hj hv hv2 h h15
    rw [g280_7, if_pos (by omega), sp279 d h, callK_r, psh_s, g280_9]
    cases hd : cD T n p with
    | false =>
      rw [dg_f T n hd]
      refine ⟨M, ?_, h, h15, ⟨fr.rf, rfl⟩, ?_⟩
      · rw [if_pos (show bi false = 0 from rfl)]
      · have : (10 : Int) ^ j ≤ 10 ^ mx := p10 (by omega)
        show v < 10 ^ mx
        omega
    | true =>
      rw [dg_t T n hd, if_neg (show ¬ bi true = 0 by decide), sp277 (d + 1) h, callK_r, psh_s, g280_11]
      obtain ⟨c1, c2, c3, c4⟩ := cD_lt T n hd
      have hj2 : j ≤ 2 := by omega
      have hv3 : v < 100 := by
        have : (10 : Int) ^ j ≤ 10 ^ 2 := p10 hj2
        have e3 : (10 : Int) ^ 2 = 100 := by decide
        omega
      have hv4 : 10 * v + (cA T n p - 48) < 10 ^ (j + 1) := by
        rw [Int.pow_succ]
        omega
      have h2 := h.1.2.1
      obtain ⟨M', a1, a2, a3, a4, a5⟩ := ih (j + 1) (10 * v + (cA T n p - 48)) (p + 1) (mset (mset M 87 15 (10 * v + (cA T n p - 48))) 87 14 ((p + 1 : Nat) : Int)) k (by omega) (by omega) hv4 (uS_14 (uS_15 h) (by omega)) (by rw [mset_j (by decide)]; exact mset_at _ _ _ _)
      refine ⟨M', ?_, a2, a3, ⟨(fr_15.tr fr_14).tr a4.1, a4.2.trans ((mset_ne (by decide)).trans (mset_ne (by decide)))⟩, a5⟩
      rw [h15, h.2.1, wI (n := p) (by omega), wI (n := j) (by omega), wrR (x := 10 * v) (by omega) (by omega), wrR (x := 10 * v + cA T n p) (by omega) (by omega), wrR (by omega) (by omega), show 10 * v + cA T n p - 48 = 10 * v + (cA T n p - 48) by omega]
      exact a1
/-- a number -/
theorem sp280 (d : Nat) {mx : Nat} (hm1 : 1 ≤ mx) (hmx : mx ≤ 3) {M : mM} {p k : Nat} (h : uS M T n p k) :
    match nuP T n mx p with
    | none => run prog (d + 3) 280 [vr 87, vi (mx : Int)] (shp, M) = some (.inl (some (vi 0)), (shp, mset M 87 15 0))
    | some q => ∃ M', run prog (d + 3) 280 [vr 87, vi (mx : Int)] (shp, M) = some (.inl (some (vi 1)), (shp, M')) ∧ uS M' T n q.2 k ∧ M' 87 15 = q.1 ∧ (fr M M' ∧ M' 95 = M 95) ∧ q.1 < 1000 := by
  have e0 : run prog (d + 3) 280 [vr 87, vi (mx : Int)] (shp, M) = ev prog (d + 3) 280 0 0 [vr 87, vi (mx : Int), vj] [] (shp, M) := rfl
  have h1 : uS (mset M 87 15 0) T n p k := uS_15 h
  cases hd : cD T n p with
  | false =>
    rw [nu_f T n hd]
    show _ = _
    rw [e0, g280_0, sp279 d h1, callK_r, psh_s, g280_1, hd, if_pos (show bi false = 0 from rfl)]
  | true =>
    obtain ⟨c1, c2, c3, c4⟩ := cD_lt T n hd
    rw [e0, g280_0, sp279 d h1, callK_r, psh_s, g280_1, hd, if_neg (show ¬ bi true = 0 by decide), nu_t T n hd, sp278 (d + 0) h1 (c := 48) (by decide)]
    by_cases c : cA T n p = 48
    · rw [if_pos c, if_pos c, callK_r, psh_s, g280_4, if_neg (by decide)]
      exact ⟨_, rfl, uS_14 h1 c1, by rw [mset_j (by decide)]; exact mset_at _ _ _ _, ⟨fr_15.tr fr_14, (mset_ne (by decide)).trans (mset_ne (by decide))⟩, (show (0 : Int) < 1000 by decide)⟩
    · rw [if_neg c, if_neg c, callK_r, psh_s, g280_4, if_pos rfl]
      obtain ⟨M', a1, a2, a3, a4, a5⟩ := l280 d mx hmx mx 0 0 p _ k (by omega) (by decide) (by decide) h1 (mset_at _ _ _ _)
      have ed : dg T n mx 0 p = dg T n (mx - 1) (cA T n p - 48) (p + 1) := by
        obtain ⟨m, rfl⟩ : ∃ m, mx = m + 1 := ⟨mx - 1, by omega⟩
        rw [dg_t T n hd, Int.mul_zero, Int.zero_add, Nat.add_sub_cancel]
      rw [ed] at a2 a3 a5
      refine ⟨M', a1, a2, a3, ⟨fr_15.tr a4.1, a4.2.trans (mset_ne (by decide))⟩, ?_⟩
      have : (10 : Int) ^ mx ≤ 10 ^ 3 := p10 hmx
      have e3 : (10 : Int) ^ 3 = 1000 := by decide
      show (dg T n (mx - 1) (cA T n p - 48) (p + 1)).1 < 1000
      omega
end UX
