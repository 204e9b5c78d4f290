/-! THE MODEL READS ITS TREE -/
def mup (M : mM) (k : Nat) : Int := M 88 (1800 + k)
def isU (u : Nat → Int) : Tr → Int → Prop
  | .leaf, _ => True
  | .inner _ k _ l r, p => u k = p ∧ isU u l (k : Int) ∧ isU u r (k : Int)
def MT (M : mM) (n : Nat) (t : Tr) : Prop := isT (mlf M) (mrf M) t (M 88 2000) ∧ isU (mup M) t (-1) ∧ ∀ k, k < n → M 88 (1200 + k) = if k ∈ ks t then 1 else 0
theorem isU_c {u u' : Nat → Int} : ∀ {t : Tr} {p : Int}, (∀ k ∈ ks t, u' k = u k) → isU u t p → isU u' t p := by
  intro t
  induction t with
  | leaf => intro p _ _; exact trivial
  | inner s k v l r ihl ihr =>
    intro p hk h
    obtain ⟨h1, h2, h3⟩ := h
    exact ⟨by rw [hk k List.mem_cons_self]; exact h1, ihl (fun x hx => hk x (mem_l hx)) h2, ihr (fun x hx => hk x (mem_r hx)) h3⟩
theorem isU_at {u : Nat → Int} : ∀ {t : Tr} {p : Int} {k : Nat}, isU u t p → k ∈ ks t → u k = parT t p k := by
  intro t
  induction t with
  | leaf => intro p k _ hk; exact absurd hk List.not_mem_nil
  | inner s x v l r ihl ihr =>
    intro p k h hk
    obtain ⟨h1, h2, h3⟩ := h
    unfold parT
    by_cases c : k = x
    · rw [if_pos c, c]; exact h1
    · rw [if_neg c]
      by_cases c2 : k ∈ ks l
      · rw [if_pos c2]; exact ihl h2 c2
      · rw [if_neg c2]
        rcases mem_i hk with h | h | h
        · exact absurd h c
        · exact absurd h c2
        · exact ihr h3 h
theorem sub_U {u : Nat → Int} : ∀ {t : Tr} {p : Int} {k : Nat}, isU u t p → k ∈ ks t → isU u (subT t k) (parT t p k) := by
  intro t
  induction t with
  | leaf => intro p k _ hk; exact absurd hk List.not_mem_nil
  | inner s x v l r ihl ihr =>
    intro p k h hk
    have h' := h
    obtain ⟨h1, h2, h3⟩ := h
    unfold parT subT
    by_cases c : k = x
    · rw [if_pos c, if_pos c]; exact h'
    · rw [if_neg c, if_neg c]
      by_cases c2 : k ∈ ks l
      · rw [if_pos c2, if_pos c2]; exact ihl h2 c2
      · rw [if_neg c2, if_neg c2]
        rcases mem_i hk with h | h | h
        · exact absurd h c
        · exact absurd h c2
        · exact ihr h3 h
/-- a node's links in the model -/
theorem mT_i {M : mM} {s k : Nat} {v : Unit} {l r : Tr} {n : Int} (h : isT (mlf M) (mrf M) (.inner s k v l r) n) : k < 200 ∧ M 88 (1400 + k) = rt l ∧ M 88 (1600 + k) = rt r ∧ isT (mlf M) (mrf M) l (rt l) ∧ isT (mlf M) (mrf M) r (rt r) := by
  obtain ⟨h1, h2, h3, h4⟩ := h
  have e3 := isT_rt h3
  have e4 := isT_rt h4
  exact ⟨h2, e3, e4, by rw [← e3]; exact h3, by rw [← e4]; exact h4⟩
theorem ht_i (s k : Nat) (v : Unit) (l r : Tr) : ht (.inner s k v l r : Tr) = 1 + (if ht l < ht r then ht r else ht l) := rfl
theorem ht_s {s k D : Nat} {v : Unit} {l r : Tr} (h : ht (.inner s k v l r : Tr) ≤ D) : ∃ D', D = D' + 1 ∧ ht l ≤ D' ∧ ht r ≤ D' := by
  rw [ht_i] at h
  refine ⟨D - 1, ?_, ?_, ?_⟩
  · split at h <;> omega
  · split at h <;> omega
  · split at h <;> omega
theorem rt_i (s k : Nat) (v : Unit) (l r : Tr) : rt (.inner s k v l r : Tr) = (k : Int) := rfl
theorem wab {a b : Nat} (h : a + b < 2147483648) : wr ((a : Int) + (b : Int)) = ((a + b : Nat) : Int) := by
  rw [wrR (by omega) (by omega)]
  omega
theorem w1a {a : Nat} (h : a < 2147483647) : wr (1 + (a : Int)) = ((1 + a : Nat) : Int) := by
  rw [wrR (by omega) (by omega)]
  omega
theorem sp58 {M : mM} : ∀ (t : Tr) (D : Nat), isT (mlf M) (mrf M) t (rt t) → sz t ≤ 200 → ht t ≤ D → run prog (D + 2) 58 [vr 87, vi (rt t)] (shp, M) = some (.inl (some (vi (sz t : Int))), (shp, M)) := by
  intro t
  induction t with
  | leaf =>
    intro D _ _ _
    show ev prog (D + 2) 58 0 0 [vr 87, vi (-1)] [] (shp, M) = _
    rw [g58_0, if_pos (by decide)]
    rfl
  | inner s k v l r ihl ihr =>
    intro D hT hsz hD
    obtain ⟨D', rfl, d1, d2⟩ := ht_s hD
    obtain ⟨hk, e3, e4, h3, h4⟩ := mT_i hT
    have hszi := sz_i s k v l r
    have il : run prog (D' + 1 + 1) 58 [vr 87, vi (rt l)] (shp, M) = _ := ihl D' h3 (by omega) d1
    have ir : run prog (D' + 1 + 1) 58 [vr 87, vi (rt r)] (shp, M) = _ := ihr D' h4 (by omega) d2
    rw [rt_i]
    show ev prog (D' + 1 + 2) 58 0 0 [vr 87, vi (k : Int)] [] (shp, M) = _
    rw [g58_0, if_neg (by omega), x1400 hk, if_pos (gi2031 (by omega)), Int.toNat_natCast, e3, il, callK_r, psh_s, g58_4, x1600 hk, if_pos (gi2031 (by omega)), Int.toNat_natCast, e4, ir, callK_r, psh_s, g58_6, w1ab (by omega), hszi, show 1 + sz l + sz r = sz l + sz r + 1 by omega]
theorem g1k {M : mM} (h : Iv M) {k : Nat} (hk : k < 200) : M 88 (1000 + k) = M 11 k := rw2_at h.li hk
theorem alv_t {M : mM} {k : Nat} (h : alv M k = true) : M 11 k = 1 := of_decide_eq_true h
theorem alv_f {M : mM} (h : Iv M) {k : Nat} (hk : k < 200) (ha : alv M k = false) : M 11 k = 0 := by
  have h1 := (h.li k hk).2
  have h2 := of_decide_eq_false ha
  omega
theorem lk_t {M : mM} {s k : Nat} {v : Unit} {l r : Tr} (h : alv M k = true) : (lk M (.inner s k v l r)).length = 1 + (lk M l).length + (lk M r).length := by
  rw [lk_i, h, List.length_append, List.length_append]
  show 1 + _ = _
  omega
theorem lk_f {M : mM} {s k : Nat} {v : Unit} {l r : Tr} (h : alv M k = false) : (lk M (.inner s k v l r)).length = (lk M l).length + (lk M r).length := by
  rw [lk_i, h, List.length_append, List.length_append]
  show 0 + _ = _
  omega
theorem sp122 {M : mM} (hI : Iv M) : ∀ (t : Tr) (D : Nat), isT (mlf M) (mrf M) t (rt t) → sz t ≤ 200 → ht t ≤ D → run prog (D + 2) 122 [vr 87, vi (rt t)] (shp, M) = some (.inl (some (vi ((lk M t).length : Int))), (shp, M)) := by
  intro t
  induction t with
  | leaf =>
    intro D _ _ _
    show ev prog (D + 2) 122 0 0 [vr 87, vi (-1)] [] (shp, M) = _
    rw [g122_0, if_pos (by decide)]
    rfl
  | inner s k v l r ihl ihr =>
    intro D hT hsz hD
    obtain ⟨D', rfl, d1, d2⟩ := ht_s hD
    obtain ⟨hk, e3, e4, h3, h4⟩ := mT_i hT
    have hszi := sz_i s k v l r
    have hll := lk_le M l
    have hlr := lk_le M r
    have il : run prog (D' + 1 + 1) 122 [vr 87, vi (rt l)] (shp, M) = _ := ihl D' h3 (by omega) d1
    have ir : run prog (D' + 1 + 1) 122 [vr 87, vi (rt r)] (shp, M) = _ := ihr D' h4 (by omega) d2
    rw [rt_i]
    show ev prog (D' + 1 + 2) 122 0 0 [vr 87, vi (k : Int)] [] (shp, M) = _
    rw [g122_0, if_neg (by omega), x1000 hk, if_pos (gi2031 (by omega)), x1400 hk, if_pos (gi2031 (by omega)), Int.toNat_natCast, Int.toNat_natCast, e3, il, callK_r, psh_s, g122_5, x1600 hk, if_pos (gi2031 (by omega)), Int.toNat_natCast, e4, ir, callK_r, psh_s, g122_7, g1k hI hk]
    cases ha : alv M k with
    | true => rw [alv_t ha, w1ab (by omega), lk_t ha]
    | false => rw [alv_f hI hk ha, w0ab (by omega), lk_f ha, Nat.zero_add]
theorem sp118 {M : mM} : ∀ (t : Tr) (D : Nat), isT (mlf M) (mrf M) t (rt t) → sz t ≤ 200 → ht t ≤ D → run prog (D + 2) 118 [vr 87, vi (rt t)] (shp, M) = some (.inl (some (vi (ht t : Int))), (shp, M)) := by
  intro t
  induction t with
  | leaf =>
    intro D _ _ _
    show ev prog (D + 2) 118 0 0 [vr 87, vi (-1), vj, vj] [] (shp, M) = _
    rw [g118_0, if_pos (by decide)]
    rfl
  | inner s k v l r ihl ihr =>
    intro D hT hsz hD
    obtain ⟨D', rfl, d1, d2⟩ := ht_s hD
    obtain ⟨hk, e3, e4, h3, h4⟩ := mT_i hT
    have hszi := sz_i s k v l r
    have hhl := ht_le l
    have hhr := ht_le r
    have il : run prog (D' + 1 + 1) 118 [vr 87, vi (rt l)] (shp, M) = _ := ihl D' h3 (by omega) d1
    have ir : run prog (D' + 1 + 1) 118 [vr 87, vi (rt r)] (shp, M) = _ := ihr D' h4 (by omega) d2
    rw [rt_i, ht_i]
    show ev prog (D' + 1 + 2) 118 0 0 [vr 87, vi (k : Int), vj, vj] [] (shp, M) = _
    rw [g118_0, if_neg (by omega), x1400 hk, if_pos (gi2031 (by omega)), Int.toNat_natCast, e3, il, callK_r, psh_s, g118_4, x1600 hk, if_pos (gi2031 (by omega)), Int.toNat_natCast, e4, ir, callK_r, psh_s, g118_6, w1a (by omega), w1a (by omega)]
    by_cases c : ht l < ht r
    · rw [if_neg (by omega), if_pos c]
    · rw [if_neg c]
      by_cases c2 : ht r < ht l
      · rw [if_pos (by omega)]
      · rw [if_neg (by omega), show ht r = ht l by omega]
theorem lowT_le (M : mM) (D : Int) (a : Nat) : ∀ t : Tr, lowT M D a t ≤ D := by
  intro t
  induction t with
  | leaf => exact Int.le_refl _
  | inner s k v l r ihl ihr =>
    rw [lowT_i]
    unfold mn
    cases alv M k with
    | true => show (if _ then _ else _) ≤ D; split <;> split <;> omega
    | false => show (if _ then _ else _) ≤ D; split <;> omega
theorem highT_ge (M : mM) (D : Int) (a : Nat) : ∀ t : Tr, D ≤ highT M D a t := by
  intro t
  induction t with
  | leaf => exact Int.le_refl _
  | inner s k v l r ihl ihr =>
    rw [highT_i]
    unfold mx
    cases alv M k with
    | true => show D ≤ (if _ then _ else _); split <;> split <;> omega
    | false => show D ≤ (if _ then _ else _); split <;> omega
theorem low_a (x y c : Int) (M : mM) : r135 c (r135 x y M) M = mn (mn x y) c := by
  unfold r135 mn; repeat' split
  all_goals omega
theorem low_d (x y : Int) (hx : x ≤ 1000) (hy : y ≤ 1000) (M : mM) : r135 1000 (r135 x y M) M = mn x y := by
  unfold r135 mn; repeat' split
  all_goals omega
theorem high_a (x y c : Int) (M : mM) : r137 c (r137 x y M) M = mx (mx x y) c := by
  unfold r137 mx; repeat' split
  all_goals omega
theorem high_d (x y : Int) (hx : -1000 ≤ x) (hy : -1000 ≤ y) (M : mM) : r137 (-1000) (r137 x y M) M = mx x y := by
  unfold r137 mx; repeat' split
  all_goals omega
theorem sp136 {M : mM} (hI : Iv M) {a : Nat} (ha : a < 3) : ∀ (t : Tr) (D : Nat), isT (mlf M) (mrf M) t (rt t) → ht t ≤ D → run prog (D + 2) 136 [vr 87, vi (rt t), vi (a : Int)] (shp, M) = some (.inl (some (vi (lowT M 1000 a t))), (shp, M)) := by
  intro t
  induction t with
  | leaf =>
    intro D _ _
    show ev prog (D + 2) 136 0 0 [vr 87, vi (-1), vi (a : Int), vj] [] (shp, M) = _
    rw [g136_0, if_pos (by decide)]
    rfl
  | inner s k v l r ihl ihr =>
    intro D hT hD
    obtain ⟨D', rfl, d1, d2⟩ := ht_s hD
    obtain ⟨hk, e3, e4, h3, h4⟩ := mT_i hT
    have il : run prog (D' + 1 + 1) 136 [vr 87, vi (rt l), vi (a : Int)] (shp, M) = _ := ihl D' h3 d1
    have ir : run prog (D' + 1 + 1) 136 [vr 87, vi (rt r), vi (a : Int)] (shp, M) = _ := ihr D' h4 d2
    rw [rt_i]
    show ev prog (D' + 1 + 2) 136 0 0 [vr 87, vi (k : Int), vi (a : Int), vj] [] (shp, M) = _
    rw [g136_0, if_neg (by omega), x1000 hk, if_pos (gi2031 (by omega)), Int.toNat_natCast, g1k hI hk, lowT_i]
    cases hv : alv M k with
    | true =>
      rw [if_pos (alv_t hv), x3a hk ha, if_pos (gi2031 (by omega)), x1400 hk, if_pos (gi2031 (by omega)), Int.toNat_natCast, Int.toNat_natCast, e3, il, callK_r, psh_s, g136_9, x1600 hk, if_pos (gi2031 (by omega)), Int.toNat_natCast, e4, ir, callK_r, psh_s, g136_11, g8 hI (by omega), low_a]
    | false =>
      rw [if_neg (by rw [alv_f hI hk hv]; decide), x1400 hk, if_pos (gi2031 (by omega)), Int.toNat_natCast, e3, il, callK_r, psh_s, g136_9, x1600 hk, if_pos (gi2031 (by omega)), Int.toNat_natCast, e4, ir, callK_r, psh_s, g136_11, low_d _ _ (lowT_le M 1000 a l) (lowT_le M 1000 a r)]
theorem sp138 {M : mM} (hI : Iv M) {a : Nat} (ha : a < 3) : ∀ (t : Tr) (D : Nat), isT (mlf M) (mrf M) t (rt t) → ht t ≤ D → run prog (D + 2) 138 [vr 87, vi (rt t), vi (a : Int)] (shp, M) = some (.inl (some (vi (highT M (-1000) a t))), (shp, M)) := by
  intro t
  induction t with
  | leaf =>
    intro D _ _
    show ev prog (D + 2) 138 0 0 [vr 87, vi (-1), vi (a : Int), vj] [] (shp, M) = _
    rw [g138_0, if_pos (by decide)]
    rfl
  | inner s k v l r ihl ihr =>
    intro D hT hD
    obtain ⟨D', rfl, d1, d2⟩ := ht_s hD
    obtain ⟨hk, e3, e4, h3, h4⟩ := mT_i hT
    have il : run prog (D' + 1 + 1) 138 [vr 87, vi (rt l), vi (a : Int)] (shp, M) = _ := ihl D' h3 d1
    have ir : run prog (D' + 1 + 1) 138 [vr 87, vi (rt r), vi (a : Int)] (shp, M) = _ := ihr D' h4 d2
    rw [rt_i]
    show ev prog (D' + 1 + 2) 138 0 0 [vr 87, vi (k : Int), vi (a : Int), vj] [] (shp, M) = _
    rw [g138_0, if_neg (by omega), x1000 hk, if_pos (gi2031 (by omega)), Int.toNat_natCast, g1k hI hk, highT_i]
    cases hv : alv M k with
    | true =>
      rw [if_pos (alv_t hv), x3a hk ha, if_pos (gi2031 (by omega)), x1400 hk, if_pos (gi2031 (by omega)), Int.toNat_natCast, Int.toNat_natCast, e3, il, callK_r, psh_s, g138_9, x1600 hk, if_pos (gi2031 (by omega)), Int.toNat_natCast, e4, ir, callK_r, psh_s, g138_11, g8 hI (by omega), high_a]
    | false =>
      rw [if_neg (by rw [alv_f hI hk hv]; decide), x1400 hk, if_pos (gi2031 (by omega)), Int.toNat_natCast, e3, il, callK_r, psh_s, g138_9, x1600 hk, if_pos (gi2031 (by omega)), Int.toNat_natCast, e4, ir, callK_r, psh_s, g138_11, high_d _ _ (highT_ge M (-1000) a l) (highT_ge M (-1000) a r)]
/-- with a live point the bounds don't depend on the value of the empty tree -/
def lD (D xD x : Int) : Prop := (xD = D ∧ x = 101) ∨ (xD = x ∧ -100 ≤ x ∧ x ≤ 100)
def hD (D xD x : Int) : Prop := (xD = D ∧ x = -101) ∨ (xD = x ∧ -100 ≤ x ∧ x ≤ 100)
theorem lD_m {D xD x yD y : Int} (h : 101 ≤ D) (hx : lD D xD x) (hy : lD D yD y) : lD D (mn xD yD) (mn x y) ∧ (mn x y = 101 ↔ x = 101 ∧ y = 101) := by
  unfold lD mn at *
  constructor
  · rcases hx with ⟨a, b⟩ | ⟨a, b, c⟩ <;> rcases hy with ⟨a', b'⟩ | ⟨a', b', c'⟩ <;> subst a <;> subst a' <;> (repeat' split) <;> omega
  · rcases hx with ⟨a, b⟩ | ⟨a, b, c⟩ <;> rcases hy with ⟨a', b'⟩ | ⟨a', b', c'⟩ <;> (split <;> omega)
theorem lD_c {D xD x c : Int} (h : 101 ≤ D) (hx : lD D xD x) (hc : -100 ≤ c ∧ c ≤ 100) : mn xD c = mn x c ∧ -100 ≤ mn x c ∧ mn x c ≤ 100 := by
  unfold lD mn at *
  rcases hx with ⟨a, b⟩ | ⟨a, b, c⟩
  · rw [if_pos (by omega), if_pos (by omega)]; omega
  · subst a; split <;> omega
theorem hD_m {D xD x yD y : Int} (h : D ≤ -101) (hx : hD D xD x) (hy : hD D yD y) : hD D (mx xD yD) (mx x y) ∧ (mx x y = -101 ↔ x = -101 ∧ y = -101) := by
  unfold hD mx at *
  constructor
  · rcases hx with ⟨a, b⟩ | ⟨a, b, c⟩ <;> rcases hy with ⟨a', b'⟩ | ⟨a', b', c'⟩ <;> subst a <;> subst a' <;> (repeat' split) <;> omega
  · rcases hx with ⟨a, b⟩ | ⟨a, b, c⟩ <;> rcases hy with ⟨a', b'⟩ | ⟨a', b', c'⟩ <;> (split <;> omega)
theorem hD_c {D xD x c : Int} (h : D ≤ -101) (hx : hD D xD x) (hc : -100 ≤ c ∧ c ≤ 100) : mx xD c = mx x c ∧ -100 ≤ mx x c ∧ mx x c ≤ 100 := by
  unfold hD mx at *
  rcases hx with ⟨a, b⟩ | ⟨a, b, c⟩
  · rw [if_pos (by omega), if_pos (by omega)]; omega
  · subst a; split <;> omega
theorem low_D {M : mM} (hI : Iv M) {a : Nat} (ha : a < 3) {D : Int} (hd : 101 ≤ D) : ∀ t : Tr, (∀ k ∈ ks t, k < 200) → lD D (lowT M D a t) (lowT M 101 a t) ∧ (lowT M 101 a t = 101 ↔ lk M t = []) := by
  intro t
  induction t with
  | leaf => intro _; exact ⟨Or.inl ⟨rfl, rfl⟩, fun _ => rfl, fun _ => rfl⟩
  | inner s k v l r ihl ihr =>
    intro hlt
    obtain ⟨l1, l2⟩ := ihl (fun x hx => hlt x (mem_l hx))
    obtain ⟨r1, r2⟩ := ihr (fun x hx => hlt x (mem_r hx))
    have hk := hlt k List.mem_cons_self
    have hc := (hI.co (3 * k + a) (by omega)).2
    obtain ⟨m1, m2⟩ := lD_m hd l1 r1
    rw [lowT_i, lowT_i, lk_i]
    cases hv : alv M k with
    | true =>
      obtain ⟨q1, q2, q3⟩ := lD_c hd m1 hc
      refine ⟨Or.inr ⟨q1, q2, q3⟩, fun h => ?_, fun h => by simp at h⟩
      have h : mn (mn (lowT M 101 a l) (lowT M 101 a r)) (M 8 (3 * k + a)) = 101 := h
      omega
    | false =>
      refine ⟨m1, ?_⟩
      show mn _ _ = 101 ↔ [] ++ (lk M l ++ lk M r) = []
      rw [m2, l2, r2, List.nil_append, List.append_eq_nil_iff]
theorem high_D {M : mM} (hI : Iv M) {a : Nat} (ha : a < 3) {D : Int} (hd : D ≤ -101) : ∀ t : Tr, (∀ k ∈ ks t, k < 200) → hD D (highT M D a t) (highT M (-101) a t) ∧ (highT M (-101) a t = -101 ↔ lk M t = []) := by
  intro t
  induction t with
  | leaf => intro _; exact ⟨Or.inl ⟨rfl, rfl⟩, fun _ => rfl, fun _ => rfl⟩
  | inner s k v l r ihl ihr =>
    intro hlt
    obtain ⟨l1, l2⟩ := ihl (fun x hx => hlt x (mem_l hx))
    obtain ⟨r1, r2⟩ := ihr (fun x hx => hlt x (mem_r hx))
    have hk := hlt k List.mem_cons_self
    have hc := (hI.co (3 * k + a) (by omega)).2
    obtain ⟨m1, m2⟩ := hD_m hd l1 r1
    rw [highT_i, highT_i, lk_i]
    cases hv : alv M k with
    | true =>
      obtain ⟨q1, q2, q3⟩ := hD_c hd m1 hc
      refine ⟨Or.inr ⟨q1, q2, q3⟩, fun h => ?_, fun h => by simp at h⟩
      have h : mx (mx (highT M (-101) a l) (highT M (-101) a r)) (M 8 (3 * k + a)) = -101 := h
      omega
    | false =>
      refine ⟨m1, ?_⟩
      show mx _ _ = -101 ↔ [] ++ (lk M l ++ lk M r) = []
      rw [m2, l2, r2, List.nil_append, List.append_eq_nil_iff]
/-! the depth by the parents -/
theorem sp60l {M : mM} (d : Nat) : ∀ (t : Tr) (par : Int) (c k : Nat), isU (mup M) t par → (∀ x ∈ ks t, x < 200) → k ∈ ks t → c + dpt t k ≤ 1000 → ev prog (d + 1) 60 0 2 [vr 87, vj, vi (c : Int), vi (M 88 (1800 + k))] [] (shp, M) = ev prog (d + 1) 60 0 2 [vr 87, vj, vi ((c + dpt t k : Nat) : Int), vi par] [] (shp, M) := by
  intro t
  induction t with
  | leaf => intro par c k _ _ hk; exact absurd hk List.not_mem_nil
  | inner s x v l r ihl ihr =>
    intro par c k hU hlt hk hc
    obtain ⟨h1, h2, h3⟩ := hU
    have hx := hlt x List.mem_cons_self
    have h1 : M 88 (1800 + x) = par := h1
    have ed : dpt (.inner s x v l r) k = if k = x then 0 else if k ∈ ks l then dpt l k + 1 else dpt r k + 1 := rfl
    rw [ed] at hc ⊢
    have st : ∀ e : Nat, e ≤ 1000 → ev prog (d + 1) 60 0 2 [vr 87, vj, vi (e : Int), vi (x : Int)] [] (shp, M) = ev prog (d + 1) 60 0 2 [vr 87, vj, vi ((e + 1 : Nat) : Int), vi par] [] (shp, M) := by
      intro e he
      rw [g60_2, if_neg (by omega), x1800 hx, if_pos (gi2031 (by omega)), Int.toNat_natCast, h1, wI (by omega)]
    by_cases c1 : k = x
    · rw [if_pos c1, c1, h1]
      rfl
    · rw [if_neg c1] at hc ⊢
      by_cases c2 : k ∈ ks l
      · rw [if_pos c2] at hc ⊢
        rw [ihl (x : Int) c k h2 (fun y hy => hlt y (mem_l hy)) c2 (by omega), st _ (by omega)]
        rfl
      · rw [if_neg c2] at hc ⊢
        have c3 : k ∈ ks r := by rcases mem_i hk with h | h | h; exact absurd h c1; exact absurd h c2; exact h
        rw [ihr (x : Int) c k h3 (fun y hy => hlt y (mem_r hy)) c3 (by omega), st _ (by omega)]
        rfl
theorem sp60 {M : mM} (d : Nat) {t : Tr} (hU : isU (mup M) t (-1)) (hlt : ∀ x ∈ ks t, x < 200) (hsz : sz t ≤ 200) {k : Nat} (hk : k ∈ ks t) : run prog (d + 1) 60 [vr 87, vi (k : Int)] (shp, M) = some (.inl (some (vi (dpt t k : Int))), (shp, M)) := by
  show ev prog (d + 1) 60 0 0 [vr 87, vi (k : Int), vj, vj] [] (shp, M) = _
  have hk2 := hlt k hk
  have h1 := dpt_lt hk
  have h2 := ht_le t
  have := sp60l d t (-1) 0 k hU hlt hk (by omega)
  rw [g60_0, x1800 hk2, if_pos (gi2031 (by omega)), Int.toNat_natCast]
  refine Eq.trans this ?_
  rw [g60_2, if_pos (by decide), Nat.zero_add]
/-! who is in the tree -/
def inT (t : Tr) (x : Int) : Bool := decide (0 ≤ x ∧ x.toNat ∈ ks t)
theorem inT_n {t : Tr} {k : Nat} : inT t (k : Int) = decide (k ∈ ks t) := by
  unfold inT
  rw [Int.toNat_natCast]
  by_cases c : k ∈ ks t
  · rw [decide_eq_true c, decide_eq_true ⟨by omega, c⟩]
  · rw [decide_eq_false c, decide_eq_false (fun q => c q.2)]
theorem inT_t {t : Tr} {x : Int} (h : inT t x = true) : ∃ k : Nat, x = (k : Int) ∧ k ∈ ks t := by
  obtain ⟨h1, h2⟩ := of_decide_eq_true h
  exact ⟨x.toNat, by omega, h2⟩
theorem p104_T {M : mM} {n : Nat} {t : Tr} (h : CT M n t) (x : Int) : p104 x M = inT t x := by
  obtain ⟨h1, h2, h3, h4, h5, h6⟩ := h
  unfold p104
  by_cases c : 0 ≤ x ∧ x < 200
  · obtain ⟨k, rfl⟩ : ∃ k : Nat, x = (k : Int) := ⟨x.toNat, by omega⟩
    rw [va_in ⟨by omega, by omega⟩, Int.toNat_natCast, inT_n]
    by_cases c2 : k ∈ ks t
    · rw [(dv_at h6.2.1 c2).2.1, if_neg (by omega), decide_eq_true c2]
    · rw [h6.2.2.2 k (by omega) c2, if_pos (by decide), decide_eq_false c2]
  · rw [va_out (by omega), if_pos (by decide)]
    cases hc : inT t x with
    | false => rfl
    | true =>
      obtain ⟨k, e1, e2⟩ := inT_t hc
      have := h5 k e2
      exact absurd ⟨by omega, by omega⟩ c
theorem sp108 {M : mM} (hI : Iv M) {n : Nat} (hn : M 7 4 = (n : Int)) {t : Tr} (hlt : ∀ x ∈ ks t, x < n) (hT : MT M n t) (d : Nat) (x : Int) : run prog (d + 3) 108 [vr 87, vi x] (shp, M) = some (.inl (some (vi (bi (inT t x)))), (shp, M)) := by
  show ev prog (d + 3) 108 0 0 [vr 87, vi x] [] (shp, M) = _
  obtain ⟨n', h1, h2, h3⟩ := hI.cr
  have e : n' = n := by omega
  subst e
  rw [g108_0, sp72 hI d, callK_r, psh_s, g108_1, p31_iff hn]
  by_cases c : 0 ≤ x ∧ x < (n' : Int)
  · obtain ⟨k, rfl⟩ : ∃ k : Nat, x = (k : Int) := ⟨x.toNat, by omega⟩
    rw [decide_eq_true c, if_neg (show ¬ bi true = 0 by decide), x1200 (by omega), if_pos (gi2031 (by omega)), Int.toNat_natCast, hT.2.2 k (by omega), inT_n]
    by_cases c2 : k ∈ ks t
    · rw [if_pos c2, if_pos rfl, decide_eq_true c2]; rfl
    · rw [if_neg c2, if_neg (by decide), decide_eq_false c2]; rfl
  · rw [decide_eq_false c, if_pos (show bi false = 0 from rfl)]
    cases hc : inT t x with
    | false => rfl
    | true =>
      obtain ⟨k, e1, e2⟩ := inT_t hc
      have := hlt k e2
      exact absurd ⟨by omega, by omega⟩ c
/-! counting -/
def cnt (f : Nat → Bool) (n : Nat) : Nat := ((List.range n).filter f).length
theorem cnt_s (f : Nat → Bool) (n : Nat) : cnt f (n + 1) = cnt f n + (if f n = true then 1 else 0) := by
  unfold cnt
  rw [List.range_succ, List.filter_append, List.length_append]
  cases h : f n <;> simp [h]
theorem cnt_t {f : Nat → Bool} {n : Nat} (h : f n = true) : cnt f (n + 1) = cnt f n + 1 := by rw [cnt_s, if_pos h]
theorem cnt_f {f : Nat → Bool} {n : Nat} (h : f n = false) : cnt f (n + 1) = cnt f n := by rw [cnt_s, if_neg (by rw [h]; decide), Nat.add_zero]
theorem cnt_le (f : Nat → Bool) (n : Nat) : cnt f n ≤ n := by
  unfold cnt
  exact Nat.le_trans (List.length_filter_le _ _) (by rw [List.length_range]; exact Nat.le_refl _)
theorem cnt_L {L : List Nat} {n : Nat} (hnd : L.Nodup) (hlt : ∀ x ∈ L, x < n) : cnt (fun k => decide (k ∈ L)) n = L.length := by
  unfold cnt
  refine Nat.le_antisymm (nodup_sub (List.Pairwise.filter _ List.nodup_range) (fun x hx => ?_)) (nodup_sub hnd (fun x hx => ?_))
  · exact of_decide_eq_true (List.mem_filter.mp hx).2
  · exact List.mem_filter.mpr ⟨List.mem_range.mpr (hlt x hx), decide_eq_true hx⟩
def dk (M : mM) (t : Tr) : List Nat := (ks t).filter fun k => !(alv M k)
theorem lk_dk (M : mM) (t : Tr) : (lk M t).length + (dk M t).length = sz t := by
  unfold lk dk sz
  induction ks t with
  | nil => rfl
  | cons x l ih =>
    cases h : alv M x with
    | true =>
      rw [List.filter_cons_of_pos h, List.filter_cons_of_neg (by rw [h]; decide), List.length_cons, List.length_cons]
      omega
    | false =>
      rw [List.filter_cons_of_neg (by rw [h]; decide), List.filter_cons_of_pos (by rw [h]; rfl), List.length_cons, List.length_cons]
      omega
theorem sp75 {M : mM} {n : Nat} (hn : M 88 2001 = (n : Int)) (h200 : n ≤ 200) {t : Tr} (hnd : (ks t).Nodup) (hlt : ∀ x ∈ ks t, x < n) (hT : ∀ k, k < n → M 88 (1200 + k) = if k ∈ ks t then 1 else 0) (d : Nat) : run prog (d + 1) 75 [vr 87] (shp, M) = some (.inl (some (vi (sz t : Int))), (shp, M)) := by
  show ev prog (d + 1) 75 0 0 [vr 87, vj, vj] [] (shp, M) = _
  rw [g75_0]
  have key := up_to (fun i => ev prog (d + 1) 75 0 1 [vr 87, vi (cnt (fun k => decide (k ∈ ks t)) i : Int), vi (i : Int)] [] (shp, M)) n (fun i hi => by
    have hl := cnt_le (fun k => decide (k ∈ ks t)) i
    show ev prog (d + 1) 75 0 1 [vr 87, vi (cnt (fun k => decide (k ∈ ks t)) i : Int), vi (i : Int)] [] (shp, M) = ev prog (d + 1) 75 0 1 [vr 87, vi (cnt (fun k => decide (k ∈ ks t)) (i + 1) : Int), vi ((i + 1 : Nat) : Int)] [] (shp, M)
    rw [g75_1, hn, if_pos (by omega), x1200 (by omega), if_pos (gi2031 (by omega)), Int.toNat_natCast, hT i hi, wI (n := i) (by omega)]
    by_cases c : i ∈ ks t
    · rw [if_pos c, cnt_t (f := fun k => decide (k ∈ ks t)) (decide_eq_true c), wI (by omega)]
    · rw [if_neg c, cnt_f (f := fun k => decide (k ∈ ks t)) (decide_eq_false c), w0 (by omega)])
  refine Eq.trans key ?_
  show ev prog (d + 1) 75 0 1 [vr 87, vi (cnt (fun k => decide (k ∈ ks t)) n : Int), vi (n : Int)] [] (shp, M) = _
  rw [g75_1, hn, if_neg (by omega), cnt_L hnd hlt]
  rfl
theorem sp74 {M : mM} (hI : Iv M) {n : Nat} (hn : M 88 2001 = (n : Int)) (h200 : n ≤ 200) {t : Tr} (hnd : (ks t).Nodup) (hlt : ∀ x ∈ ks t, x < n) (hT : ∀ k, k < n → M 88 (1200 + k) = if k ∈ ks t then 1 else 0) (d : Nat) : run prog (d + 1) 74 [vr 87] (shp, M) = some (.inl (some (vi ((dk M t).length : Int))), (shp, M)) := by
  show ev prog (d + 1) 74 0 0 [vr 87, vj, vj] [] (shp, M) = _
  have hm : ∀ k, k ∈ dk M t ↔ k ∈ ks t ∧ alv M k = false := fun k => by
    unfold dk
    rw [List.mem_filter]
    cases alv M k <;> simp
  rw [g74_0]
  have key := up_to (fun i => ev prog (d + 1) 74 0 1 [vr 87, vi (cnt (fun k => decide (k ∈ dk M t)) i : Int), vi (i : Int)] [] (shp, M)) n (fun i hi => by
    have hl := cnt_le (fun k => decide (k ∈ dk M t)) i
    show ev prog (d + 1) 74 0 1 [vr 87, vi (cnt (fun k => decide (k ∈ dk M t)) i : Int), vi (i : Int)] [] (shp, M) = ev prog (d + 1) 74 0 1 [vr 87, vi (cnt (fun k => decide (k ∈ dk M t)) (i + 1) : Int), vi ((i + 1 : Nat) : Int)] [] (shp, M)
    rw [g74_1, hn, if_pos (by omega), x1200 (by omega), if_pos (gi2031 (by omega)), Int.toNat_natCast, hT i hi, wI (n := i) (by omega), x1000 (by omega), if_pos (gi2031 (by omega)), Int.toNat_natCast, g1k hI (by omega), w0 (by omega)]
    by_cases c : i ∈ ks t
    · rw [if_pos c, if_pos rfl]
      cases ha : alv M i with
      | true =>
        have : i ∉ dk M t := fun q => by have := ((hm i).mp q).2; rw [ha] at this; cases this
        rw [if_neg (by rw [alv_t ha]; decide), cnt_f (f := fun k => decide (k ∈ dk M t)) (decide_eq_false this)]
      | false =>
        rw [if_pos (alv_f hI (by omega) ha), cnt_t (f := fun k => decide (k ∈ dk M t)) (decide_eq_true ((hm i).mpr ⟨c, ha⟩)), wI (by omega)]
    · have : i ∉ dk M t := fun q => c ((hm i).mp q).1
      rw [if_neg c, if_neg (by decide), cnt_f (f := fun k => decide (k ∈ dk M t)) (decide_eq_false this)])
  refine Eq.trans key ?_
  show ev prog (d + 1) 74 0 1 [vr 87, vi (cnt (fun k => decide (k ∈ dk M t)) n : Int), vi (n : Int)] [] (shp, M) = _
  rw [g74_1, hn, if_neg (by omega), cnt_L (L := dk M t) (List.Pairwise.filter _ hnd) (fun x hx => hlt x ((hm x).mp hx).1)]
