/-! TEXTS: WHAT IS READ; THE CLASS -/
section TX
variable (T : Nat → Int) (n : Nat)
def cA (p : Nat) : Int := if p < n then T p else -1
def cD (p : Nat) : Bool := decide (48 ≤ cA T n p ∧ cA T n p ≤ 57)
def dg : Nat → Int → Nat → Int × Nat
  | 0, v, p => (v, p)
  | k + 1, v, p => match cD T n p with
    | true => dg k (10 * v + (cA T n p - 48)) (p + 1)
    | false => (v, p)
def nuP (mx p : Nat) : Option (Int × Nat) := match cD T n p with
  | false => none
  | true => if cA T n p = 48 then some (0, p + 1) else some (dg T n (mx - 1) (cA T n p - 48) (p + 1))
/-- a coordinate: where it fails, or its value and the next place -/
def pC (p : Nat) : Nat ⊕ (Int × Nat) := match nuP T n 3 (if cA T n p = 45 then p + 1 else p) with
  | none => .inl (if cA T n p = 45 then p + 1 else p)
  | some q => .inr (if cA T n p = 45 then -q.1 else q.1, q.2)
def pB (c : Int) (mx : Nat) (df : Int) (p : Nat) : Nat ⊕ (Int × Nat) := if cA T n p = c then (match nuP T n mx (p + 1) with
    | none => .inl (p + 1)
    | some q => .inr q) else .inr (df, p)
def bnd {α β : Type} (x : Nat ⊕ α) (f : α → Nat ⊕ β) : Nat ⊕ β := match x with
  | .inl e => .inl e
  | .inr a => f a
def pX (c : Int) (p : Nat) : Nat ⊕ Nat := if cA T n p = c then .inr (p + 1) else .inl p
abbrev V5 : Type := Int × Int × Int × Int × Int
def pD (p : Nat) : Nat ⊕ (V5 × Nat) :=
  bnd (pC T n p) fun x => bnd (pX T n 44 x.2) fun p1 => bnd (pC T n p1) fun y => bnd (pX T n 44 y.2) fun p2 => bnd (pC T n p2) fun z => bnd (pB T n 58 2 1 z.2) fun w => bnd (pB T n 35 1 0 w.2) fun g => .inr ((x.1, y.1, z.1, w.1, g.1), g.2)
/-! sizes -/
theorem cD_lt {p : Nat} (h : cD T n p = true) : p < n ∧ cA T n p = T p ∧ 48 ≤ cA T n p ∧ cA T n p ≤ 57 := by
  have h1 := of_decide_eq_true h
  have h2 : p < n := by
    by_cases c : p < n
    · exact c
    · have : cA T n p = -1 := if_neg c
      omega
  exact ⟨h2, if_pos h2, h1⟩
theorem cA_lt {p : Nat} {c : Int} (h : cA T n p = c) (hc : 0 ≤ c) : p < n ∧ T p = c := by
  by_cases e : p < n
  · exact ⟨e, by rw [← h]; exact (if_pos e).symm⟩
  · have : cA T n p = -1 := if_neg e
    omega
theorem dg_t {k p : Nat} {v : Int} (h : cD T n p = true) : dg T n (k + 1) v p = dg T n k (10 * v + (cA T n p - 48)) (p + 1) := by
  show (match cD T n p with
    | true => dg T n k (10 * v + (cA T n p - 48)) (p + 1)
    | false => (v, p)) = _
  rw [h]
theorem dg_f {k p : Nat} {v : Int} (h : cD T n p = false) : dg T n (k + 1) v p = (v, p) := by
  show (match cD T n p with
    | true => dg T n k (10 * v + (cA T n p - 48)) (p + 1)
    | false => (v, p)) = _
  rw [h]
theorem nu_f {mx p : Nat} (h : cD T n p = false) : nuP T n mx p = none := by
  unfold nuP
  rw [h]
theorem nu_t {mx p : Nat} (h : cD T n p = true) : nuP T n mx p = if cA T n p = 48 then some (0, p + 1) else some (dg T n (mx - 1) (cA T n p - 48) (p + 1)) := by
  unfold nuP
  rw [h]
theorem dg_b : ∀ (k : Nat) (v : Int) (p : Nat), p ≤ n → 0 ≤ v → (dg T n k v p).2 ≤ n ∧ p ≤ (dg T n k v p).2 ∧ 0 ≤ (dg T n k v p).1 := by
  intro k
  induction k with
  | zero => intro v p hp hv; exact ⟨hp, Nat.le_refl _, hv⟩
  | succ k ih =>
    intro v p hp hv
    cases h : cD T n p with
    | true =>
      rw [dg_t T n h]
      obtain ⟨h1, -, h3, h4⟩ := cD_lt T n h
      obtain ⟨a, b, c⟩ := ih (10 * v + (cA T n p - 48)) (p + 1) (by omega) (by omega)
      exact ⟨a, by omega, c⟩
    | false => rw [dg_f T n h]; exact ⟨hp, Nat.le_refl _, hv⟩
theorem nuP_b {mx p : Nat} {q : Int × Nat} (h : nuP T n mx p = some q) : q.2 ≤ n ∧ p + 1 ≤ q.2 ∧ 0 ≤ q.1 := by
  unfold nuP at h
  cases hd : cD T n p with
  | false => rw [hd] at h; cases h
  | true =>
    rw [hd] at h
    obtain ⟨h1, -, h3, h4⟩ := cD_lt T n hd
    have h : (if cA T n p = 48 then some ((0 : Int), p + 1) else some (dg T n (mx - 1) (cA T n p - 48) (p + 1))) = some q := h
    by_cases c : cA T n p = 48
    · rw [if_pos c] at h
      cases h
      exact ⟨h1, Nat.le_refl _, Int.le_refl _⟩
    · rw [if_neg c] at h
      cases h
      exact dg_b T n _ _ _ (by omega) (by omega)
theorem pC_b {p : Nat} {x : Int × Nat} (h : pC T n p = .inr x) : x.2 ≤ n ∧ p + 1 ≤ x.2 := by
  unfold pC at h
  by_cases c : cA T n p = 45
  · rw [if_pos c] at h
    cases hq : nuP T n 3 (p + 1) with
    | none => rw [hq] at h; cases h
    | some q =>
      rw [hq] at h
      cases h
      obtain ⟨a, b, -⟩ := nuP_b T n hq
      exact ⟨a, by show p + 1 ≤ q.2; omega⟩
  · rw [if_neg c] at h
    cases hq : nuP T n 3 p with
    | none => rw [hq] at h; cases h
    | some q =>
      rw [hq] at h
      cases h
      obtain ⟨a, b, -⟩ := nuP_b T n hq
      exact ⟨a, b⟩
theorem pB_b {c : Int} (hc : 0 ≤ c) {mx : Nat} {df : Int} {p : Nat} (hp : p ≤ n) {x : Int × Nat} (h : pB T n c mx df p = .inr x) : x.2 ≤ n ∧ p ≤ x.2 := by
  unfold pB at h
  by_cases e : cA T n p = c
  · rw [if_pos e] at h
    cases hq : nuP T n mx (p + 1) with
    | none => rw [hq] at h; cases h
    | some q =>
      rw [hq] at h
      cases h
      obtain ⟨a, b, -⟩ := nuP_b T n hq
      exact ⟨a, by omega⟩
  · rw [if_neg e] at h
    cases h
    exact ⟨hp, Nat.le_refl _⟩
theorem pX_b {c : Int} (hc : 0 ≤ c) {p q : Nat} (h : pX T n c p = .inr q) : q = p + 1 ∧ q ≤ n := by
  unfold pX at h
  by_cases e : cA T n p = c
  · rw [if_pos e] at h
    cases h
    exact ⟨rfl, (cA_lt T n e hc).1⟩
  · rw [if_neg e] at h; cases h
end TX
/-! the class's state -/
/-- the text, its length, the place, the fault, how many are described, beyond -/
def tS (M : mM) (T : Nat → Int) (n p : Nat) (f : Int) (k : Nat) (b : Int) : Prop := (M 84 2 = (n : Int) ∧ n ≤ 90 ∧ ∀ j, j < n → M 85 j = T j) ∧ M 84 3 = (p : Int) ∧ p ≤ n ∧ M 84 5 = f ∧ M 84 4 = (k : Int) ∧ M 84 6 = b
theorem tS_3 {M : mM} {T : Nat → Int} {n p : Nat} {f : Int} {k : Nat} {b : Int} (h : tS M T n p f k b) {p' : Nat} (hp : p' ≤ n) : tS (mset M 84 3 (p' : Int)) T n p' f k b := by
  obtain ⟨⟨h1, h2, h3⟩, h4, h5, h6, h7, h8⟩ := h
  exact ⟨⟨by rw [mset_j (by decide)]; exact h1, h2, fun j hj => by rw [mset_k (by decide)]; exact h3 j hj⟩, mset_at _ _ _ _, hp, by rw [mset_j (by decide)]; exact h6, by rw [mset_j (by decide)]; exact h7, by rw [mset_j (by decide)]; exact h8⟩
theorem tS_86 {M : mM} {T : Nat → Int} {n p : Nat} {f : Int} {k : Nat} {b : Int} (h : tS M T n p f k b) {i v : Int} : tS (pu M 86 80 i v) T n p f k b := by
  obtain ⟨⟨h1, h2, h3⟩, h4, h5, h6, h7, h8⟩ := h
  exact ⟨⟨by rw [pu_k (by decide)]; exact h1, h2, fun j hj => by rw [pu_k (by decide)]; exact h3 j hj⟩, by rw [pu_k (by decide)]; exact h4, h5, by rw [pu_k (by decide)]; exact h6, by rw [pu_k (by decide)]; exact h7, by rw [pu_k (by decide)]; exact h8⟩
section CX
variable {T : Nat → Int} {n : Nat}
theorem sp264 (d : Nat) {M : mM} {p : Nat} {f : Int} {k : Nat} {b : Int} (h : tS M T n p f k b) : run prog (d + 1) 264 [vr 84] (shp, M) = some (.inl (some (vi (if p < n then 1 else 0))), (shp, M)) := by
  show ev prog (d + 1) 264 0 0 [vr 84] [] (shp, M) = _
  obtain ⟨⟨h1, h2, h3⟩, h4, h5, h6, h7, h8⟩ := h
  rw [g264_0, h4, h1, if_neg (by omega)]
  by_cases c : p < n
  · rw [if_pos (by omega), if_pos (by omega), if_pos c]
  · rw [if_neg (by omega), if_neg c]
/-- a sign is accepted -/
theorem sp265 (d : Nat) {M : mM} {p : Nat} {k : Nat} {b : Int} (h : tS M T n p (-1) k b) {c : Int} (hc : 0 ≤ c) : run prog (d + 2) 265 [vr 84, vi c] (shp, M) = if cA T n p = c then some (.inl (some (vi 1)), (shp, mset M 84 3 ((p + 1 : Nat) : Int))) else some (.inl (some (vi 0)), (shp, M)) := by
  show ev prog (d + 2) 265 0 0 [vr 84, vi c] [] (shp, M) = _
  have h264 := sp264 d h
  obtain ⟨⟨h1, h2, h3⟩, h4, h5, h6, h7, h8⟩ := h
  rw [g265_0, if_pos h6, h264, callK_r, psh_s, g265_2]
  unfold cA
  by_cases e : p < n
  · rw [if_pos e, if_pos e, if_neg (by decide), h4, if_pos (by omega), Int.toNat_natCast, h3 p e, wI (by omega)]
  · rw [if_neg e, if_neg e, if_pos rfl, if_neg (by omega)]
theorem sp265f (d : Nat) {M : mM} {f : Int} (hf : f ≠ -1) (h : M 84 5 = f) (c : Int) : run prog (d + 2) 265 [vr 84, vi c] (shp, M) = some (.inl (some (vi 0)), (shp, M)) := by
  show ev prog (d + 2) 265 0 0 [vr 84, vi c] [] (shp, M) = _
  rw [g265_0, h, if_neg hf]
theorem sp266 (d : Nat) {M : mM} (h : M 84 5 = -1) : run prog (d + 1) 266 [vr 84] (shp, M) = some (.inl none, (shp, mset M 84 5 (M 84 3))) := by
  rw [s266 d]
  unfold o266
  rw [if_pos h]
theorem sp266f (d : Nat) {M : mM} {f : Int} (hf : f ≠ -1) (h : M 84 5 = f) : run prog (d + 1) 266 [vr 84] (shp, M) = some (.inl none, (shp, M)) := by
  rw [s266 d]
  unfold o266
  rw [h, if_neg hf]
theorem sp267 (d : Nat) {M : mM} {p : Nat} {k : Nat} {b : Int} (h : tS M T n p (-1) k b) {c : Int} (hc : 0 ≤ c) : run prog (d + 3) 267 [vr 84, vi c] (shp, M) = match pX T n c p with
    | .inr q => some (.inl none, (shp, mset M 84 3 (q : Int)))
    | .inl e => some (.inl none, (shp, mset M 84 5 (e : Int))) := by
  show ev prog (d + 3) 267 0 0 [vr 84, vi c] [] (shp, M) = _
  rw [g267_0, sp265 d h hc]
  unfold pX
  by_cases e : cA T n p = c
  · rw [if_pos e, if_pos e, callK_r, psh_s, g267_1, if_neg (by decide)]
  · rw [if_neg e, if_neg e, callK_r, psh_s, g267_1, if_pos rfl, sp266 (d + 1) h.2.2.2.1, callK_r, psh_n, g267_3, h.2.1]
theorem sp267f (d : Nat) {M : mM} {f : Int} (hf : f ≠ -1) (h : M 84 5 = f) (c : Int) : run prog (d + 3) 267 [vr 84, vi c] (shp, M) = some (.inl none, (shp, M)) := by
  show ev prog (d + 3) 267 0 0 [vr 84, vi c] [] (shp, M) = _
  rw [g267_0, sp265f d hf h, callK_r, psh_s, g267_1, if_pos rfl, sp266f (d + 1) hf h, callK_r, psh_n, g267_3]
theorem sp268 (d : Nat) {M : mM} {p : Nat} {k : Nat} {b : Int} (h : tS M T n p (-1) k b) : run prog (d + 2) 268 [vr 84] (shp, M) = some (.inl (some (vi (bi (cD T n p)))), (shp, M)) := by
  show ev prog (d + 2) 268 0 0 [vr 84] [] (shp, M) = _
  have h264 := sp264 d h
  obtain ⟨⟨h1, h2, h3⟩, h4, h5, h6, h7, h8⟩ := h
  rw [g268_0, if_pos h6, h264, callK_r, psh_s, g268_2]
  unfold cD cA
  by_cases e : p < n
  · rw [if_pos e, if_pos e, if_neg (by decide), h4, if_pos (show 0 ≤ (p : Int) ∧ (p : Int) < 90 by omega), Int.toNat_natCast, h3 p e]
    by_cases c : T p < 48
    · rw [if_pos c, decide_eq_false (by omega)]; rfl
    · rw [if_neg c, if_pos (show 0 ≤ (p : Int) ∧ (p : Int) < 90 by omega)]
      by_cases c2 : 57 < T p
      · rw [if_pos c2, decide_eq_false (by omega)]; rfl
      · rw [if_neg c2, decide_eq_true (by omega)]; rfl
  · rw [if_neg e, if_neg e, if_pos rfl, decide_eq_false (by omega)]; rfl
theorem sp268f (d : Nat) {M : mM} {f : Int} (hf : f ≠ -1) (h : M 84 5 = f) : run prog (d + 2) 268 [vr 84] (shp, M) = some (.inl (some (vi 0)), (shp, M)) := by
  show ev prog (d + 2) 268 0 0 [vr 84] [] (shp, M) = _
  rw [g268_0, h, if_neg hf]
theorem p10p : ∀ j : Nat, 0 < (10 : Int) ^ j
  | 0 => by decide
  | j + 1 => by rw [Int.pow_succ]; have := p10p j; omega
theorem p10 {j m : Nat} (h : j ≤ m) : (10 : Int) ^ j ≤ 10 ^ m := by
  induction h with
  | refl => exact Int.le_refl _
  | step h ih => rw [Int.pow_succ]; have := p10p j; omega
theorem l269 (d : Nat) (mx : Nat) (hmx : mx ≤ 3) : ∀ (r j : Nat) (v : Int) (p : Nat) (M : mM) (k : Nat) (b : Int), j + r = mx → 1 ≤ j → 0 < v → v < 10 ^ j → tS M T n p (-1) k b →
    ∃ M', ev prog (d + 3) 269 0 1 [vr 84, vi (mx : Int), vi v, vi (j : Int)] [] (shp, M) = some (.inl (some (vi (dg T n r v p).1)), (shp, M')) ∧ tS M' T n (dg T n r v p).2 (-1) k b ∧ same [84] M M' ∧ (dg T n r v p).1 < 10 ^ mx := by
  intro r
  induction r with
  | zero =>
    intro j v p M k b hj h1 hv hv2 h
    have e : j = mx := by omega
    subst e
    refine ⟨M, ?_, h, same.rf, hv2⟩
    rw [g269_1, if_neg (by omega), if_neg (by omega)]
    rfl
  | succ r ih =>
    intro j v p M k b hj h1 hv hv2 h
    have h' := h
    rw [g269_1, if_pos (by omega), sp268 d h, callK_r, psh_s, g269_3]
    cases hd : cD T n p with
    | false =>
      rw [dg_f T n hd]
      refine ⟨M, ?_, h, same.rf, ?_⟩
      · rw [if_pos (show bi false = 0 from rfl), if_neg (by omega)]
      · have : (10 : Int) ^ j ≤ 10 ^ mx := p10 (by omega)
        show v < 10 ^ mx
        omega
    | true =>
      rw [dg_t T n hd]
      obtain ⟨c1, c2, c3, c4⟩ := cD_lt T n hd
      obtain ⟨⟨h1', h2, h3⟩, h4, h5, h6, h7, h8⟩ := h
      have hj2 : j ≤ 2 := by omega
      have hv3 : v < 100 := by
        have : (10 : Int) ^ j ≤ 10 ^ 2 := p10 hj2
        omega
      have hv4 : 10 * v + (cA T n p - 48) < 10 ^ (j + 1) := by
        rw [Int.pow_succ]
        omega
      obtain ⟨M', a1, a2, a3, a4⟩ := ih (j + 1) (10 * v + (cA T n p - 48)) (p + 1) (mset M 84 3 ((p + 1 : Nat) : Int)) k b (by omega) (by omega) (by omega) hv4 (tS_3 h' (by omega))
      refine ⟨M', ?_, a2, same_mset.tr a3, a4⟩
      rw [if_neg (show ¬ bi true = 0 by decide), if_neg (by omega), if_neg (by omega), h4, if_pos (show 0 ≤ (p : Int) ∧ (p : Int) < 90 by omega), Int.toNat_natCast, h3 p c1, ← c2, wI (n := p) (by omega), wI (n := j) (by omega), wrR (x := 10 * v) (by omega) (by omega), wrR (x := cA T n p - 48) (by omega) (by omega), wrR (by omega) (by omega)]
      exact a1
/-- a number -/
theorem sp269 (d : Nat) {mx : Nat} (hm1 : 1 ≤ mx) (hmx : mx ≤ 3) {M : mM} {p k : Nat} {b : Int} (h : tS M T n p (-1) k b) :
    match nuP T n mx p with
    | none => run prog (d + 3) 269 [vr 84, vi (mx : Int)] (shp, M) = some (.inl (some (vi 0)), (shp, mset M 84 5 (p : Int)))
    | some q => ∃ M', run prog (d + 3) 269 [vr 84, vi (mx : Int)] (shp, M) = some (.inl (some (vi q.1)), (shp, M')) ∧ tS M' T n q.2 (-1) k b ∧ same [84] M M' ∧ q.1 < 1000 := by
  have e0 : run prog (d + 3) 269 [vr 84, vi (mx : Int)] (shp, M) = ev prog (d + 3) 269 0 1 [vr 84, vi (mx : Int), vi 0, vi 0] [] (shp, M) := by
    show ev prog (d + 3) 269 0 0 [vr 84, vi (mx : Int), vj, vj] [] (shp, M) = _
    rw [g269_0]
  have h' := h
  cases hd : cD T n p with
  | false =>
    rw [nu_f T n hd]
    show _ = _
    rw [e0, g269_1, if_pos (by omega), sp268 d h, callK_r, psh_s, g269_3, hd, if_pos (show bi false = 0 from rfl), if_pos rfl, sp266 (d + 1) h.2.2.2.1, callK_r, psh_n, g269_10, h.2.1]
  | true =>
    obtain ⟨c1, c2, c3, c4⟩ := cD_lt T n hd
    obtain ⟨⟨h1', h2, h3⟩, h4, h5, h6, h7, h8⟩ := h
    have hst : tS (mset M 84 3 ((p + 1 : Nat) : Int)) T n (p + 1) (-1) k b := tS_3 h' (by omega)
    have w10 : wr (wr (10 * 0) + wr (cA T n p - 48)) = cA T n p - 48 := by
      rw [show (10 : Int) * 0 = 0 from rfl, wrR (x := 0) (by decide) (by decide), wrR (x := cA T n p - 48) (by omega) (by omega), Int.zero_add, wrR (by omega) (by omega)]
    have e1 : run prog (d + 3) 269 [vr 84, vi (mx : Int)] (shp, M) = ev prog (d + 3) 269 0 1 [vr 84, vi (mx : Int), vi (cA T n p - 48), vi 1] [] (shp, mset M 84 3 ((p + 1 : Nat) : Int)) := by
      rw [e0, g269_1, if_pos (by clear w10; omega), sp268 d h', callK_r, psh_s, g269_3, hd, if_neg (show ¬ bi true = 0 by decide), if_pos rfl, h4, if_pos (show 0 ≤ (p : Int) ∧ (p : Int) < 90 by clear w10; omega), Int.toNat_natCast, h3 p c1, ← c2, w10, wI (n := p) (by clear w10; omega), wrR (x := 0 + 1) (by decide) (by decide)]
      rfl
    clear w10 e0
    rw [e1, nu_t T n hd]
    by_cases c : cA T n p = 48
    · rw [if_pos c]
      refine ⟨mset M 84 3 ((p + 1 : Nat) : Int), ?_, hst, same_mset, (show (0 : Int) < 1000 by decide)⟩
      rw [c, show (48 : Int) - 48 = 0 from rfl, g269_1]
      by_cases cm : (1 : Int) < (mx : Int)
      · rw [if_pos cm, sp268 d hst, callK_r, psh_s, g269_3]
        cases cD T n (p + 1) with
        | true => rw [if_neg (show ¬ bi true = 0 by decide), if_neg (by decide), if_pos rfl, if_neg (by decide)]
        | false => rw [if_pos (show bi false = 0 from rfl), if_neg (by decide)]
      · rw [if_neg cm, if_neg (by decide)]
    · rw [if_neg c]
      obtain ⟨M', a1, a2, a3, a4⟩ := l269 d mx hmx (mx - 1) 1 (cA T n p - 48) (p + 1) _ k b (by omega) (by omega) (by omega) (by show _ < (10 : Int) ^ 1; rw [Int.pow_succ, Int.pow_zero]; omega) hst
      refine ⟨M', a1, a2, same_mset.tr a3, ?_⟩
      have : (10 : Int) ^ mx ≤ 10 ^ 3 := p10 hmx
      show (dg T n (mx - 1) (cA T n p - 48) (p + 1)).1 < 1000
      have e3 : (10 : Int) ^ 3 = 1000 := by decide
      omega
theorem sp269f (d : Nat) {mx : Nat} (hm1 : 1 ≤ mx) {M : mM} {f : Int} (hf : f ≠ -1) (h : M 84 5 = f) : run prog (d + 3) 269 [vr 84, vi (mx : Int)] (shp, M) = some (.inl (some (vi 0)), (shp, M)) := by
  show ev prog (d + 3) 269 0 0 [vr 84, vi (mx : Int), vj, vj] [] (shp, M) = _
  rw [g269_0, g269_1, if_pos (by omega), sp268f d hf h, callK_r, psh_s, g269_3, if_pos rfl, if_pos rfl, sp266f (d + 1) hf h, callK_r, psh_n, g269_10]
end CX
