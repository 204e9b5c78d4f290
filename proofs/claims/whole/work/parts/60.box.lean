/-! THE QUERY BOX -/
def fil (f : Nat → Bool) (n : Nat) : List Int := ((List.range n).filter f).map fun (i : Nat) => (i : Int)
theorem fil_s (f : Nat → Bool) (n : Nat) : fil f (n + 1) = match f n with
  | true => fil f n ++ [(n : Int)]
  | false => fil f n := by
  unfold fil
  rw [List.range_succ, List.filter_append, List.map_append]
  cases h : f n <;> simp [h]
theorem fil_t {f : Nat → Bool} {n : Nat} (h : f n = true) : fil f (n + 1) = fil f n ++ [(n : Int)] := by rw [fil_s, h]
theorem fil_f {f : Nat → Bool} {n : Nat} (h : f n = false) : fil f (n + 1) = fil f n := by rw [fil_s, h]
theorem fil_le (f : Nat → Bool) (n : Nat) : (fil f n).length ≤ n := by
  unfold fil
  rw [List.length_map]
  exact Nat.le_trans (List.length_filter_le _ _) (by rw [List.length_range]; exact Nat.le_refl _)
theorem fil_at {f : Nat → Bool} {n j : Nat} {x : Int} (h : (fil f n)[j]? = some x) : ∃ p : Nat, x = (p : Int) ∧ p < n ∧ f p = true := by
  have := List.mem_of_getElem? h
  unfold fil at this
  obtain ⟨p, hp, rfl⟩ := List.mem_map.mp this
  obtain ⟨h1, h2⟩ := List.mem_filter.mp hp
  exact ⟨p, rfl, List.mem_range.mp h1, h2⟩
theorem fil_pre (f : Nat → Bool) {i n : Nat} (h : i ≤ n) : ∃ t, fil f n = fil f i ++ t := by
  induction h with
  | refl => exact ⟨[], by rw [List.append_nil]⟩
  | step _ ih =>
    rename_i m _
    obtain ⟨t, ht⟩ := ih
    cases hv : f m with
    | false => exact ⟨t, by rw [fil_f hv]; exact ht⟩
    | true => exact ⟨t ++ [(m : Int)], by rw [fil_t hv, ht, List.append_assoc]⟩
theorem fil_c {f g : Nat → Bool} {n : Nat} (h : ∀ p, p < n → f p = g p) : fil f n = fil g n := by
  unfold fil
  rw [List.filter_congr (fun p hp => h p (List.mem_range.mp hp))]
def inb1 (M : mM) (p a : Nat) : Bool := decide (M 36 a ≤ M 8 (3 * p + a) ∧ M 8 (3 * p + a) ≤ M 37 a)
def inb (M : mM) (p : Nat) : Bool := inb1 M p 0 && (inb1 M p 1 && inb1 M p 2)
def bx (M : mM) (p : Nat) : Bool := p125 (p : Int) M && inb M p
theorem inb_c {M M' : mM} (h8 : M' 8 = M 8) (h36 : M' 36 = M 36) (h37 : M' 37 = M 37) (p : Nat) : inb M' p = inb M p := by unfold inb inb1; rw [h8, h36, h37]
theorem bx_c {M M' : mM} (h7 : M' 7 = M 7) (h8 : M' 8 = M 8) (h10 : M' 10 = M 10) (h11 : M' 11 = M 11) (h36 : M' 36 = M 36) (h37 : M' 37 = M 37) (h38 : M' 38 = M 38) : bx M' = bx M := by
  funext p
  unfold bx
  rw [inb_c h8 h36 h37, cp125 h7 h10 h11 h38]
theorem bx_thr (M : mM) (k : Int) : bx (mset M 87 3 k) = bx M := bx_c (same_mset 7 (by decide)) (same_mset 8 (by decide)) (same_mset 10 (by decide)) (same_mset 11 (by decide)) (same_mset 36 (by decide)) (same_mset 37 (by decide)) (same_mset 38 (by decide))
theorem sp214 (d : Nat) (M : mM) {p : Nat} (hp : p < 200) : run prog (d + 3) 214 [vr 72, vi (p : Int)] (shp, M) = some (.inl (some (vi (bi (inb M p)))), (shp, M)) := by
  show ev prog (d + 3) 214 0 0 [vr 72, vi (p : Int), vj, vj] [] (shp, M) = _
  have st : ∀ a : Nat, a < 3 → ev prog (d + 3) 214 0 1 [vr 72, vi (p : Int), vi (a : Int), vj] [] (shp, M) = match inb1 M p a with
    | true => ev prog (d + 3) 214 0 1 [vr 72, vi (p : Int), vi ((a + 1 : Nat) : Int), vj] [] (shp, M)
    | false => some (.inl (some (vi 0)), (shp, M)) := by
    intro a ha
    have e1 : va M 36 3 (a : Int) = M 36 a := by rw [va_in ⟨by omega, by omega⟩, Int.toNat_natCast]
    have e2 : va M 37 3 (a : Int) = M 37 a := by rw [va_in ⟨by omega, by omega⟩, Int.toNat_natCast]
    rw [g214_1, if_pos (by omega), r20_at M hp ha, e1, e2, wI (by omega)]
    unfold inb1
    by_cases c : M 36 a ≤ M 8 (3 * p + a) ∧ M 8 (3 * p + a) ≤ M 37 a
    · rw [if_neg (by omega), if_neg (by omega), decide_eq_true c]
    · rw [decide_eq_false c]
      by_cases c1 : M 8 (3 * p + a) < M 36 a
      · rw [if_pos c1]
      · rw [if_neg c1, if_pos (by omega)]
  have s0 := st 0 (by decide)
  have s1 := st 1 (by decide)
  have s2 := st 2 (by decide)
  have s3 : ev prog (d + 3) 214 0 1 [vr 72, vi (p : Int), vi ((2 + 1 : Nat) : Int), vj] [] (shp, M) = some (.inl (some (vi 1)), (shp, M)) := by rw [g214_1, if_neg (by decide)]
  rw [g214_0]
  refine Eq.trans s0 ?_
  unfold inb
  cases inb1 M p 0 with
  | false => rfl
  | true =>
    refine Eq.trans s1 ?_
    cases inb1 M p 1 with
    | false => rfl
    | true =>
      refine Eq.trans s2 ?_
      cases inb1 M p 2 with
      | false => rfl
      | true => exact s3
theorem sp215 (d : Nat) (M : mM) {n : Nat} (hn : M 7 4 = (n : Int)) (h200 : n ≤ 200) : ∃ M', run prog (d + 4) 215 [vr 72] (shp, M) = some (.inl (some (vi ((fil (bx M) n).length : Int))), (shp, M')) ∧ nums M' 73 (fil (bx M) n) ∧ same [73, 74] M M' := by
  show ∃ M', ev prog (d + 4) 215 0 0 [vr 72, vj] [] (shp, M) = _ ∧ _
  obtain ⟨M', a1, a2, a3⟩ := up_inv (fun M1 i => ev prog (d + 4) 215 0 2 [vr 72, vi (i : Int)] [] (shp, M1)) (fun i M1 => nums M1 73 (fil (bx M) i) ∧ same [73, 74] M M1) n (fun i M1 hi hI => by
    obtain ⟨k1, k2⟩ := hI
    have hp : p125 (i : Int) M1 = p125 (i : Int) M := cp125 (k2 7 (by decide)) (k2 10 (by decide)) (k2 11 (by decide)) (k2 38 (by decide)) _
    have hb : inb M1 i = inb M i := inb_c (k2 8 (by decide)) (k2 36 (by decide)) (k2 37 (by decide)) i
    show ∃ M', ev prog (d + 4) 215 0 2 [vr 72, vi (i : Int)] [] (shp, M1) = ev prog (d + 4) 215 0 2 [vr 72, vi ((i + 1 : Nat) : Int)] [] (shp, M') ∧ _
    have hbx : bx M i = (p125 (i : Int) M && inb M i) := rfl
    rw [g215_2, k2 7 (by decide), hn, if_pos (by omega), hp, wI (by omega)]
    cases hv : p125 (i : Int) M with
    | false =>
      rw [hv] at hbx
      exact ⟨M1, by rw [if_pos (show bi false = 0 from rfl)], by rw [fil_f hbx]; exact k1, k2⟩
    | true =>
      rw [if_neg (show ¬ bi true = 0 by decide), sp214 d M1 (show i < 200 by omega), hb, callK_r, psh_s, g215_6, wI (by omega)]
      cases hw : inb M i with
      | false =>
        rw [hv, hw] at hbx
        exact ⟨M1, by rw [if_pos (show bi false = 0 from rfl)], by rw [fil_f hbx]; exact k1, k2⟩
      | true =>
        rw [hv, hw] at hbx
        have hl : (fil (bx M) i).length < 200 := by have := fil_le (bx M) i; omega
        obtain ⟨q1, q2⟩ := nums_add (x := (i : Int)) k1 hl
        refine ⟨_, ?_, by rw [fil_t hbx]; exact q1, k2.tr q2⟩
        rw [if_neg (show ¬ bi true = 0 by decide), s25 (d + 1)]
        unfold o25
        rw [if_pos (by rw [k1.1]; omega), callK_r, psh_n, g215_8, wI (by omega)]) (M := mset M 73 1 0) ⟨nums_nil, same_mset.mono (by decide)⟩
  refine ⟨M', ?_, a2, a3⟩
  rw [g215_0]
  refine Eq.trans a1 ?_
  show ev prog (d + 4) 215 0 2 [vr 72, vi (n : Int)] [] (shp, M') = _
  rw [g215_2, a3 7 (by decide), hn, if_neg (by omega), a2.1]
theorem sp216 (d : Nat) (M : mM) {n : Nat} (hn : M 7 4 = (n : Int)) (h200 : n ≤ 200) : ∃ M', run prog (d + 5) 216 [vr 5] (shp, M) = some (.inl (some (vi ((fil (bx M) n).length : Int))), (shp, M')) ∧ same [73, 74] M M' := by
  show ∃ M', ev prog (d + 5) 216 0 0 [vr 5] [] (shp, M) = _ ∧ _
  obtain ⟨M1, a1, a2, a3⟩ := sp215 d M hn h200
  exact ⟨M1, by rw [g216_0, a1, callK_r, psh_s, g216_1], a3⟩
/-- the point at an index -/
def atI (l : List Int) (ix : Int) : Option Int := if 0 ≤ ix then l[ix.toNat]? else none
theorem sp220 (d : Nat) (M : mM) {n : Nat} (hn : M 7 4 = (n : Int)) (h200 : n ≤ 200) (ix : Int) : ∃ M', run prog (d + 5) 220 [vr 5, vi ix] (shp, M) = some (match atI (fil (bx M) n) ix with
    | some x => .inl (some (vi x))
    | none => .inr 2, (shp, M')) ∧ same [73, 74] M M' := by
  show ∃ M', ev prog (d + 5) 220 0 0 [vr 5, vi ix, vj] [] (shp, M) = _ ∧ _
  obtain ⟨M1, a1, a2, a3⟩ := sp215 d M hn h200
  have hl := fil_le (bx M) n
  refine ⟨M1, ?_, a3⟩
  rw [g220_0, a1, callK_r, psh_s, g220_1]
  unfold atI
  by_cases c0 : ix < 0
  · rw [if_pos c0, if_neg (by omega)]
  · rw [if_neg c0, if_pos (show (0 : Int) ≤ ix by omega)]
    by_cases c1 : ix < ((fil (bx M) n).length : Int)
    · have hx : ix.toNat < (fil (bx M) n).length := by omega
      have e : r30 ix M1 = (fil (bx M) n)[ix.toNat] := by
        show va M1 74 200 ix = _
        rw [va_in ⟨by omega, by omega⟩]
        exact a2.2 _ _ (List.getElem?_eq_getElem hx)
      rw [if_pos c1, List.getElem?_eq_getElem hx, e]
    · rw [if_neg c1, List.getElem?_eq_none (by omega)]
/-! sums over points -/
def sumL (f : Nat → Int) (l : List Int) : Int := (l.map fun x => f x.toNat).sum
theorem sumL_snoc (f : Nat → Int) (l : List Int) (x : Int) : sumL f (l ++ [x]) = sumL f l + f x.toNat := by
  unfold sumL
  simp
theorem sumL_b {f : Nat → Int} {A B : Int} (l : List Int) (h : ∀ x ∈ l, A ≤ f x.toNat ∧ f x.toNat ≤ B) : A * l.length ≤ sumL f l ∧ sumL f l ≤ B * l.length := by
  induction l with
  | nil => simp [sumL]
  | cons x l ih =>
    obtain ⟨h1, h2⟩ := ih (fun y hy => h y (List.mem_cons_of_mem _ hy))
    have h3 := h x List.mem_cons_self
    have e : sumL f (x :: l) = f x.toNat + sumL f l := rfl
    rw [e, List.length_cons]
    have e1 : A * ((l.length + 1 : Nat) : Int) = A * (l.length : Int) + A := by
      rw [Int.natCast_add, Int.mul_add]; simp
    have e2 : B * ((l.length + 1 : Nat) : Int) = B * (l.length : Int) + B := by
      rw [Int.natCast_add, Int.mul_add]; simp
    rw [e1, e2]
    omega
def wF (M : mM) (p : Nat) : Int := M 9 p
def mF (M : mM) (a p : Nat) : Int := M 8 (3 * p + a) * M 9 p
theorem wF_b {M : mM} (h : Iv M) {p : Nat} (hp : p < 200) : 0 ≤ wF M p ∧ wF M p ≤ 99 := (h.we p hp).2
theorem mF_b {M : mM} (h : Iv M) {a p : Nat} (ha : a < 3) (hp : p < 200) : -9900 ≤ mF M a p ∧ mF M a p ≤ 9900 := by
  obtain ⟨-, c1, c2⟩ := h.co (3 * p + a) (by omega)
  obtain ⟨-, w1, w2⟩ := h.we p hp
  unfold mF
  have h1 : (M 8 (3 * p + a) + 100) * M 9 p ≤ 200 * 99 := Int.mul_le_mul (by omega) w2 w1 (by omega)
  have h2 : 0 ≤ (M 8 (3 * p + a) + 100) * M 9 p := Int.mul_nonneg (by omega) w1
  have h3 : (100 - M 8 (3 * p + a)) * M 9 p ≤ 200 * 99 := Int.mul_le_mul (by omega) w2 w1 (by omega)
  have h4 : 0 ≤ (100 - M 8 (3 * p + a)) * M 9 p := Int.mul_nonneg (by omega) w1
  rw [Int.add_mul] at h1 h2
  rw [Int.sub_mul] at h3 h4
  omega
theorem sumL_wF {M : mM} (h : Iv M) {f : Nat → Bool} {n : Nat} (hn : n ≤ 200) : ∀ i, 0 ≤ sumL (wF M) ((fil f n).take i) ∧ sumL (wF M) ((fil f n).take i) ≤ 19800 := by
  intro i
  have := sumL_b (f := wF M) (A := 0) (B := 99) ((fil f n).take i) (fun x hx => by
    obtain ⟨j, hj⟩ := List.mem_iff_getElem?.mp (List.mem_of_mem_take hx)
    obtain ⟨p, rfl, h2, -⟩ := fil_at hj
    rw [Int.toNat_natCast]
    exact wF_b h (by omega))
  have h3 := fil_le f n
  have h4 : ((fil f n).take i).length ≤ 200 := by rw [List.length_take]; omega
  omega
theorem sumL_mF {M : mM} (h : Iv M) {a : Nat} (ha : a < 3) {f : Nat → Bool} {n : Nat} (hn : n ≤ 200) : ∀ i, -1980000 ≤ sumL (mF M a) ((fil f n).take i) ∧ sumL (mF M a) ((fil f n).take i) ≤ 1980000 := by
  intro i
  have := sumL_b (f := mF M a) (A := -9900) (B := 9900) ((fil f n).take i) (fun x hx => by
    obtain ⟨j, hj⟩ := List.mem_iff_getElem?.mp (List.mem_of_mem_take hx)
    obtain ⟨p, rfl, h2, -⟩ := fil_at hj
    rw [Int.toNat_natCast]
    exact mF_b h ha (by omega))
  have h3 := fil_le f n
  have h4 : ((fil f n).take i).length ≤ 200 := by rw [List.length_take]; omega
  omega
theorem fil_r30 {M1 : mM} {f : Nat → Bool} {n i : Nat} (h200 : n ≤ 200) (h1 : nums M1 73 (fil f n)) (hi : i < (fil f n).length) : r30 (i : Int) M1 = (fil f n)[i] := by
  have := fil_le f n
  show va M1 74 200 (i : Int) = _
  rw [va_in ⟨by omega, by omega⟩, Int.toNat_natCast]
  exact h1.2 i _ (List.getElem?_eq_getElem hi)
theorem sp223 {M M1 : mM} (h : Iv M) (d : Nat) {f : Nat → Bool} {n : Nat} (h200 : n ≤ 200) (h1 : nums M1 73 (fil f n)) (hs : M1 9 = M 9) : run prog (d + 3) 223 [vr 72] (shp, M1) = some (.inl (some (vi (sumL (wF M) (fil f n)))), (shp, M1)) := by
  show ev prog (d + 3) 223 0 0 [vr 72, vj, vj] [] (shp, M1) = _
  rw [g223_0]
  have key := up_to (fun i => ev prog (d + 3) 223 0 1 [vr 72, vi (sumL (wF M) ((fil f n).take i)), vi (i : Int)] [] (shp, M1)) (fil f n).length (fun i hi => by
    have hl := fil_le f n
    obtain ⟨p, p1, p2, -⟩ := fil_at (List.getElem?_eq_getElem hi)
    have hb := sumL_wF h (f := f) h200 (i + 1)
    have hv : va M1 9 200 (p : Int) = wF M p := by rw [va_in ⟨by omega, by omega⟩, Int.toNat_natCast, hs]; rfl
    have e : sumL (wF M) ((fil f n).take (i + 1)) = sumL (wF M) ((fil f n).take i) + wF M p := by
      rw [take_s hi, sumL_snoc, p1, Int.toNat_natCast]
    show ev prog (d + 3) 223 0 1 [vr 72, vi (sumL (wF M) ((fil f n).take i)), vi (i : Int)] [] (shp, M1) = ev prog (d + 3) 223 0 1 [vr 72, vi (sumL (wF M) ((fil f n).take (i + 1))), vi ((i + 1 : Nat) : Int)] [] (shp, M1)
    rw [g223_1, h1.1, if_pos (by omega), fil_r30 h200 h1 hi, p1, hv, wI (by omega), ← e, wr_id (by unfold inR; omega)])
  refine Eq.trans key ?_
  show ev prog (d + 3) 223 0 1 [vr 72, vi (sumL (wF M) ((fil f n).take (fil f n).length)), vi ((fil f n).length : Int)] [] (shp, M1) = _
  rw [g223_1, h1.1, if_neg (by omega), List.take_length]
theorem sp227 {M M1 : mM} (h : Iv M) (d : Nat) {f : Nat → Bool} {n a : Nat} (ha : a < 3) (h200 : n ≤ 200) (h1 : nums M1 73 (fil f n)) (hs : M1 9 = M 9) (hs8 : M1 8 = M 8) : run prog (d + 3) 227 [vr 72, vi (a : Int)] (shp, M1) = some (.inl (some (vi (sumL (mF M a) (fil f n)))), (shp, M1)) := by
  show ev prog (d + 3) 227 0 0 [vr 72, vi (a : Int), vj, vj, vj] [] (shp, M1) = _
  rw [g227_0]
  have key := up_to (fun i => ev prog (d + 3) 227 0 1 [vr 72, vi (a : Int), vi (sumL (mF M a) ((fil f n).take i)), vi (i : Int), vj] [] (shp, M1)) (fil f n).length (fun i hi => by
    have hl := fil_le f n
    obtain ⟨p, p1, p2, -⟩ := fil_at (List.getElem?_eq_getElem hi)
    have hb := sumL_mF h ha (f := f) h200 (i + 1)
    have hm := mF_b h ha (show p < 200 by omega)
    have hv : va M1 9 200 (p : Int) = M 9 p := by rw [va_in ⟨by omega, by omega⟩, Int.toNat_natCast, hs]
    have hc : r20 (p : Int) (a : Int) M1 = M 8 (3 * p + a) := by rw [r20_at M1 (by omega) ha, hs8]
    have e : sumL (mF M a) ((fil f n).take (i + 1)) = sumL (mF M a) ((fil f n).take i) + mF M a p := by
      rw [take_s hi, sumL_snoc, p1, Int.toNat_natCast]
    have e2 : M 8 (3 * p + a) * M 9 p = mF M a p := rfl
    show ev prog (d + 3) 227 0 1 [vr 72, vi (a : Int), vi (sumL (mF M a) ((fil f n).take i)), vi (i : Int), vj] [] (shp, M1) = ev prog (d + 3) 227 0 1 [vr 72, vi (a : Int), vi (sumL (mF M a) ((fil f n).take (i + 1))), vi ((i + 1 : Nat) : Int), vj] [] (shp, M1)
    rw [g227_1, h1.1, if_pos (by omega), fil_r30 h200 h1 hi, p1, hv, hc, wI (by omega), e2, wr_id (show inR (mF M a p) by unfold inR; omega), ← e, wr_id (by unfold inR; omega)])
  refine Eq.trans key ?_
  show ev prog (d + 3) 227 0 1 [vr 72, vi (a : Int), vi (sumL (mF M a) ((fil f n).take (fil f n).length)), vi ((fil f n).length : Int), vj] [] (shp, M1) = _
  rw [g227_1, h1.1, if_neg (by omega), List.take_length]
theorem sp224 {M : mM} (h : Iv M) (d : Nat) {n : Nat} (hn : M 7 4 = (n : Int)) (h200 : n ≤ 200) : ∃ M', run prog (d + 5) 224 [vr 5] (shp, M) = some (.inl (some (vi (sumL (wF M) (fil (bx M) n)))), (shp, M')) ∧ same [73, 74] M M' := by
  show ∃ M', ev prog (d + 5) 224 0 0 [vr 5] [] (shp, M) = _ ∧ _
  obtain ⟨M1, a1, a2, a3⟩ := sp215 d M hn h200
  exact ⟨M1, by rw [g224_0, a1, callK_r, psh_s, g224_1, sp223 h (d + 1) h200 a2 (a3 9 (by decide)), callK_r, psh_s, g224_2], a3⟩
/-! the model's side -/
theorem sp217 {M : mM} (h : Iv M) (d : Nat) {p : Nat} (hp : p < 200) : run prog (d + 5) 217 [vr 87, vi (p : Int)] (shp, M) = some (.inl (some (vi (bi (bx M p)))), (shp, M)) := by
  show ev prog (d + 5) 217 0 0 [vr 87, vi (p : Int), vj, vj] [] (shp, M) = _
  have f1 : ∀ a : Nat, a ≤ 3 → ev prog (d + 5) 217 0 2 [vr 87, vi (p : Int), vi 0, vi (a : Int)] [] (shp, M) = some (.inl (some (vi 0)), (shp, M)) := by
    intro a ha
    rw [g217_2]
    by_cases c : (a : Int) < 3
    · rw [if_pos c, if_pos rfl, if_pos (show bit? 0 = true from rfl)]
    · rw [if_neg c, if_pos (show bit? 0 = true from rfl)]
  have st : ∀ a : Nat, a < 3 → ev prog (d + 5) 217 0 2 [vr 87, vi (p : Int), vi 1, vi (a : Int)] [] (shp, M) = ev prog (d + 5) 217 0 2 [vr 87, vi (p : Int), vi (bi (inb1 M p a)), vi ((a + 1 : Nat) : Int)] [] (shp, M) := by
    intro a ha
    have i0 : wr (wr (3 * (p : Int)) + (a : Int)) = ((3 * p + a : Nat) : Int) := by
      rw [wr_id (show inR (3 * (p : Int)) by unfold inR; omega), wr_id (show inR (3 * (p : Int) + (a : Int)) by unfold inR; omega)]
      omega
    obtain ⟨-, i1, i2⟩ := ix 2011 a (by omega)
    obtain ⟨-, i3, i4⟩ := ix 2014 a (by omega)
    have j1 : wr (2011 + (a : Int)) = wr (((2011 : Nat) : Int) + (a : Int)) := rfl
    have j2 : wr (2014 + (a : Int)) = wr (((2014 : Nat) : Int) + (a : Int)) := rfl
    have g : M 88 (3 * p + a) = M 8 (3 * p + a) := by have := (h.co (3 * p + a) (by omega)).1; rw [Nat.zero_add] at this; exact this.symm
    rw [g217_2, if_pos (by omega), if_neg (by decide), i0, j1, j2, if_pos (by omega), if_pos i1, if_pos i3, i2, i4, Int.toNat_natCast, g, rw2_at h.lc ha, rw2_at h.uc ha, wI (by omega)]
    have e : p51 (M 8 (3 * p + a)) (M 36 a) (M 37 a) M = inb1 M p a := by
      unfold p51 inb1
      by_cases c0 : M 8 (3 * p + a) < M 36 a
      · rw [if_pos c0, decide_eq_false (by omega)]
      · rw [if_neg c0]
        by_cases c1 : M 37 a < M 8 (3 * p + a)
        · rw [if_pos c1, decide_eq_false (by omega)]
        · rw [if_neg c1, decide_eq_true (by omega)]
    rw [e]
  have s0 := st 0 (by decide)
  have s1 := st 1 (by decide)
  have s2 := st 2 (by decide)
  have s3 : ∀ b : Bool, ev prog (d + 5) 217 0 2 [vr 87, vi (p : Int), vi (bi b), vi ((2 + 1 : Nat) : Int)] [] (shp, M) = some (.inl (some (vi (bi b))), (shp, M)) := by
    intro b
    rw [g217_2, if_neg (by decide), if_pos (bit_bi b)]
  rw [g217_0, sp129 h d, callK_r, psh_s, g217_1]
  unfold bx inb
  cases p125 (p : Int) M with
  | false => exact f1 0 (by decide)
  | true =>
    refine Eq.trans s0 ?_
    cases inb1 M p 0 with
    | false => exact f1 1 (by decide)
    | true =>
      refine Eq.trans s1 ?_
      cases inb1 M p 1 with
      | false => exact f1 2 (by decide)
      | true =>
        refine Eq.trans s2 ?_
        exact s3 _
theorem sp218 {M : mM} (h : Iv M) (d : Nat) {n : Nat} (h200 : n ≤ 200) : run prog (d + 6) 218 [vr 87, vi (n : Int)] (shp, M) = some (.inl (some (vi ((fil (bx M) n).length : Int))), (shp, M)) := by
  show ev prog (d + 6) 218 0 0 [vr 87, vi (n : Int), vj, vj] [] (shp, M) = _
  rw [g218_0]
  have key := up_to (fun i => ev prog (d + 6) 218 0 1 [vr 87, vi (n : Int), vi ((fil (bx M) i).length : Int), vi (i : Int)] [] (shp, M)) n (fun i hi => by
    have hl := fil_le (bx M) i
    show ev prog (d + 6) 218 0 1 [vr 87, vi (n : Int), vi ((fil (bx M) i).length : Int), vi (i : Int)] [] (shp, M) = ev prog (d + 6) 218 0 1 [vr 87, vi (n : Int), vi ((fil (bx M) (i + 1)).length : Int), vi ((i + 1 : Nat) : Int)] [] (shp, M)
    rw [g218_1, if_pos (by omega), sp217 h d (by omega), callK_r, psh_s, g218_3, wI (by omega), wI (by omega), w0 (by omega)]
    cases hv : bx M i with
    | false => rw [if_pos (show bi false = 0 from rfl), fil_f hv]
    | true => rw [if_neg (show ¬ bi true = 0 by decide), fil_t hv, List.length_append]; rfl)
  refine Eq.trans key ?_
  show ev prog (d + 6) 218 0 1 [vr 87, vi (n : Int), vi ((fil (bx M) n).length : Int), vi (n : Int)] [] (shp, M) = _
  rw [g218_1, if_neg (by omega)]
theorem sp219 {M : mM} (h : Iv M) (d : Nat) {n : Nat} (hn : M 7 4 = (n : Int)) : run prog (d + 7) 219 [vr 87] (shp, M) = some (.inl (some (vi ((fil (bx M) n).length : Int))), (shp, mset M 87 3 0)) := by
  show ev prog (d + 7) 219 0 0 [vr 87] [] (shp, M) = _
  obtain ⟨n', h1, h2, h3⟩ := h.cr
  have e : n' = n := by omega
  subst e
  rw [g219_0, h3, sp218 (h.thr 0) d h2, callK_r, psh_s, g219_2, bx_thr]
theorem sp222 {M : mM} (h : Iv M) (d : Nat) {n : Nat} (hn : M 7 4 = (n : Int)) (ix : Int) : run prog (d + 7) 222 [vr 87, vi ix] (shp, M) = match atI (fil (bx M) n) ix with
    | some x => some (.inl (some (vi x)), (shp, mset M 87 3 0))
    | none => some (.inl (some (vi 0)), (shp, mset (mset M 87 3 0) 87 3 1)) := by
  show ev prog (d + 7) 222 0 0 [vr 87, vi ix, vj] [] (shp, M) = _
  obtain ⟨n', h1, h2, h3⟩ := h.cr
  have e : n' = n := by omega
  subst e
  have hI := h.thr 0
  have h3' := cr_thr h3 0
  rw [g222_0]
  refine up_ex (fun i => ev prog (d + 7) 222 0 1 [vr 87, vi ix, vi (i : Int)] [] (shp, mset M 87 3 0)) _ (fun i => ix < 0 ∨ ((fil (bx M) i).length : Int) ≤ ix) n' (fun i hi hP => ?_) ?_ (fun hP => ?_)
  · have hl := fil_le (bx M) i
    show ev prog (d + 7) 222 0 1 [vr 87, vi ix, vi (i : Int)] [] (shp, mset M 87 3 0) = _ ∨ (ev prog (d + 7) 222 0 1 [vr 87, vi ix, vi (i : Int)] [] (shp, mset M 87 3 0) = ev prog (d + 7) 222 0 1 [vr 87, vi ix, vi ((i + 1 : Nat) : Int)] [] (shp, mset M 87 3 0) ∧ _)
    rw [g222_1, h3', if_pos (by omega), sp217 hI (d + 1) (by omega), bx_thr, callK_r, psh_s, g222_4, wI (by omega)]
    cases hv : bx M i with
    | false =>
      refine Or.inr ⟨by rw [if_pos (show bi false = 0 from rfl)], ?_⟩
      rw [fil_f hv]
      exact hP
    | true =>
      rw [if_neg (show ¬ bi true = 0 by decide), sp218 hI d (show i ≤ 200 by omega), bx_thr, callK_r, psh_s, g222_6, wI (by omega)]
      by_cases c : ((fil (bx M) i).length : Int) = ix
      · refine Or.inl ?_
        obtain ⟨t, ht⟩ := fil_pre (bx M) (show i + 1 ≤ n' by omega)
        have : atI (fil (bx M) n') ix = some (i : Int) := by
          unfold atI
          rw [if_pos (by omega), ht, fil_t hv, List.append_assoc, List.getElem?_append_right (by omega), show ix.toNat - (fil (bx M) i).length = 0 by omega]
          rfl
        rw [if_pos c, this]
      · refine Or.inr ⟨by rw [if_neg c], ?_⟩
        rw [fil_t hv, List.length_append]
        show ix < 0 ∨ (((fil (bx M) i).length + 1 : Nat) : Int) ≤ ix
        omega
  · have : (fil (bx M) 0).length = 0 := rfl
    rw [this]
    omega
  · show ev prog (d + 7) 222 0 1 [vr 87, vi ix, vi (n' : Int)] [] (shp, mset M 87 3 0) = _
    have : atI (fil (bx M) n') ix = none := by
      unfold atI
      by_cases c : 0 ≤ ix
      · rw [if_pos c, List.getElem?_eq_none (by omega)]
      · rw [if_neg c]
    rw [g222_1, h3', if_neg (by omega), this]
theorem sumL_fil {M : mM} (h : Iv M) {f : Nat → Bool} {n : Nat} (hn : n ≤ 200) : 0 ≤ sumL (wF M) (fil f n) ∧ sumL (wF M) (fil f n) ≤ 19800 := by
  have := sumL_wF h (f := f) hn (fil f n).length
  rw [List.take_length] at this
  exact this
theorem sumM_fil {M : mM} (h : Iv M) {a : Nat} (ha : a < 3) {f : Nat → Bool} {n : Nat} (hn : n ≤ 200) : -1980000 ≤ sumL (mF M a) (fil f n) ∧ sumL (mF M a) (fil f n) ≤ 1980000 := by
  have := sumL_mF h ha (f := f) hn (fil f n).length
  rw [List.take_length] at this
  exact this
theorem sp225 {M : mM} (h : Iv M) (d : Nat) {n : Nat} (hn : M 88 2001 = (n : Int)) (h200 : n ≤ 200) : run prog (d + 6) 225 [vr 87] (shp, M) = some (.inl (some (vi (sumL (wF M) (fil (bx M) n)))), (shp, M)) := by
  show ev prog (d + 6) 225 0 0 [vr 87, vj, vj] [] (shp, M) = _
  rw [g225_0]
  have key := up_to (fun i => ev prog (d + 6) 225 0 1 [vr 87, vi (sumL (wF M) (fil (bx M) i)), vi (i : Int)] [] (shp, M)) n (fun i hi => by
    have b1 := sumL_fil h (f := bx M) (show i ≤ 200 by omega)
    have b2 := sumL_fil h (f := bx M) (show i + 1 ≤ 200 by omega)
    obtain ⟨-, i1, i2⟩ := ix 600 i (by omega)
    have j1 : wr (600 + (i : Int)) = wr (((600 : Nat) : Int) + (i : Int)) := rfl
    show ev prog (d + 6) 225 0 1 [vr 87, vi (sumL (wF M) (fil (bx M) i)), vi (i : Int)] [] (shp, M) = ev prog (d + 6) 225 0 1 [vr 87, vi (sumL (wF M) (fil (bx M) (i + 1))), vi ((i + 1 : Nat) : Int)] [] (shp, M)
    rw [g225_1, hn, if_pos (by omega), sp217 h d (by omega), callK_r, psh_s, g225_4, wI (by omega), j1, if_pos i1, i2, rw2_at h.we (show i < 200 by omega)]
    cases hv : bx M i with
    | false => rw [if_pos (show bi false = 0 from rfl), fil_f hv, Int.add_zero, wr_id (by unfold inR; omega)]
    | true =>
      have e : sumL (wF M) (fil (bx M) (i + 1)) = sumL (wF M) (fil (bx M) i) + M 9 i := by rw [fil_t hv, sumL_snoc, Int.toNat_natCast]; rfl
      rw [if_neg (show ¬ bi true = 0 by decide), ← e, wr_id (by unfold inR; omega)])
  refine Eq.trans key ?_
  show ev prog (d + 6) 225 0 1 [vr 87, vi (sumL (wF M) (fil (bx M) n)), vi (n : Int)] [] (shp, M) = _
  rw [g225_1, hn, if_neg (by omega)]
theorem wF_thr (M : mM) (k : Int) : wF (mset M 87 3 k) = wF M := by
  funext p
  exact congrFun (same_mset 9 (by decide)) p
theorem sp226 {M : mM} (h : Iv M) (d : Nat) {n : Nat} (hn : M 7 4 = (n : Int)) : run prog (d + 7) 226 [vr 87] (shp, M) = some (.inl (some (vi (sumL (wF M) (fil (bx M) n)))), (shp, mset M 87 3 0)) := by
  show ev prog (d + 7) 226 0 0 [vr 87] [] (shp, M) = _
  obtain ⟨n', h1, h2, h3⟩ := h.cr
  have e : n' = n := by omega
  subst e
  rw [g226_0, sp225 (h.thr 0) d (cr_thr h3 0) h2, callK_r, psh_s, g226_1, bx_thr, wF_thr]
