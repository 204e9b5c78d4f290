/-! BOUNDS AND VISITS -/
theorem low_le_high {M : mM} (a : Nat) : ∀ t : Tr, lk M t ≠ [] → lowT M 101 a t ≤ highT M (-101) a t := by
  intro t
  induction t with
  | leaf => intro h; exact absurd rfl h
  | inner s k v l r ihl ihr =>
    intro h
    have hl1 : ∀ x y : Int, mn x y ≤ x ∧ mn x y ≤ y := fun x y => by unfold mn; split <;> omega
    have hh1 : ∀ x y : Int, x ≤ mx x y ∧ y ≤ mx x y := fun x y => by unfold mx; split <;> omega
    rw [lowT_i, highT_i]
    rw [lk_i] at h
    cases hv : alv M k with
    | true =>
      have h1 := hl1 (mn (lowT M 101 a l) (lowT M 101 a r)) (M 8 (3 * k + a))
      have h2 := hh1 (mx (highT M (-101) a l) (highT M (-101) a r)) (M 8 (3 * k + a))
      show mn _ _ ≤ mx _ _
      omega
    | false =>
      rw [hv] at h
      have h1 := hl1 (lowT M 101 a l) (lowT M 101 a r)
      have h2 := hh1 (highT M (-101) a l) (highT M (-101) a r)
      show mn _ _ ≤ mx _ _
      by_cases c : lk M l = []
      · have : lk M r ≠ [] := fun e => h (by show [] ++ (lk M l ++ lk M r) = []; rw [c, e]; rfl)
        have := ihr this
        omega
      · have := ihl c
        omega
/-- the class's rows at a point of the tree -/
theorem CT_sub {M : mM} {n : Nat} {t : Tr} (h : CT M n t) {k : Nat} (hk : k ∈ ks t) : smR M (subT t k) ∧ (∀ x ∈ ks (subT t k), x < 200) ∧ rt (subT t k) = (k : Int) := by
  obtain ⟨h1, h2, h3, h4, h5, h6⟩ := h
  exact ⟨sm_R (sub_sm h6.2.2.1), fun x hx => by have := h5 x (sub_mem hx); omega, rt_sub hk⟩
theorem CT_33 {M : mM} {n : Nat} {t : Tr} (h : CT M n t) {k : Nat} (hk : k ∈ ks t) : r33 (k : Int) M = (sz (subT t k) : Int) := by
  obtain ⟨a, b, c⟩ := CT_sub h hk
  rw [← c]; exact r33_T a b
theorem CT_34 {M : mM} {n : Nat} {t : Tr} (h : CT M n t) {k : Nat} (hk : k ∈ ks t) : r34 (k : Int) M = ((lk M (subT t k)).length : Int) := by
  obtain ⟨a, b, c⟩ := CT_sub h hk
  rw [← c]; exact r34_T a b
theorem CT_35 {M : mM} {n : Nat} {t : Tr} (h : CT M n t) {k : Nat} (hk : k ∈ ks t) {a : Nat} (ha : a < 3) : r35 (k : Int) (a : Int) M = lowT M 101 a (subT t k) := by
  obtain ⟨p, q, c⟩ := CT_sub h hk
  rw [← c]; exact r35_T p q ha
theorem CT_36 {M : mM} {n : Nat} {t : Tr} (h : CT M n t) {k : Nat} (hk : k ∈ ks t) {a : Nat} (ha : a < 3) : r36 (k : Int) (a : Int) M = highT M (-101) a (subT t k) := by
  obtain ⟨p, q, c⟩ := CT_sub h hk
  rw [← c]; exact r36_T p q ha
theorem bnd_eq {M : mM} (hI : Iv M) {a : Nat} (ha : a < 3) {t : Tr} (hlt : ∀ x ∈ ks t, x < 200) (h : lk M t ≠ []) : lowT M 1000 a t = lowT M 101 a t ∧ highT M (-1000) a t = highT M (-101) a t ∧ -100 ≤ lowT M 101 a t ∧ lowT M 101 a t ≤ highT M (-101) a t ∧ highT M (-101) a t ≤ 100 := by
  obtain ⟨a1, a2⟩ := low_D hI ha (D := 1000) (by decide) t hlt
  obtain ⟨b1, b2⟩ := high_D hI ha (D := -1000) (by decide) t hlt
  have c := low_le_high (M := M) a t h
  rcases a1 with ⟨q1, q2⟩ | ⟨q1, q2, q3⟩
  · exact absurd (a2.mp q2) h
  · rcases b1 with ⟨p1, p2⟩ | ⟨p1, p2, p3⟩
    · exact absurd (b2.mp p2) h
    · exact ⟨q1, p1, q2, c, p3⟩
/-- the gap between the query point and a box -/
def gap (M : mM) (t : Tr) (a : Nat) : Int := if M 35 a < lowT M 101 a t then lowT M 101 a t - M 35 a else if highT M (-101) a t < M 35 a then M 35 a - highT M (-101) a t else 0
theorem gap_b {M : mM} (hI : Iv M) {a : Nat} (ha : a < 3) {t : Tr} (hlt : ∀ x ∈ ks t, x < 200) (h : lk M t ≠ []) : d3 (gap M t a) := by
  obtain ⟨-, -, c1, c2, c3⟩ := bnd_eq hI ha hlt h
  have hq := (hI.qu a ha).2
  unfold gap d3
  split
  · omega
  · split <;> omega
theorem r164_g {M : mM} (hI : Iv M) {n : Nat} {t : Tr} (hC : CT M n t) {k : Nat} (hk : k ∈ ks t) {a : Nat} (ha : a < 3) (h : lk M (subT t k) ≠ []) : r164 (k : Int) (a : Int) M = gap M (subT t k) a := by
  have hlt := (CT_sub hC hk).2.1
  obtain ⟨-, -, c1, c2, c3⟩ := bnd_eq hI ha hlt h
  have hq := (hI.qu a ha).2
  have e : va M 35 3 (a : Int) = M 35 a := by rw [va_in ⟨by omega, by omega⟩, Int.toNat_natCast]
  unfold r164 gap
  rw [CT_35 hC hk ha, CT_36 hC hk ha, e]
  generalize lowT M 101 a (subT t k) = L at *
  generalize highT M (-101) a (subT t k) = H at *
  generalize M 35 a = Q at *
  have w1 : wr (L - Q) = L - Q := wrR (by omega) (by omega)
  have w2 : wr (Q - H) = Q - H := wrR (by omega) (by omega)
  rw [w1, w2]
  clear w1 w2
  by_cases c4 : Q < L
  · rw [if_pos c4, if_neg (show ¬ L - Q < Q - H by omega), if_pos (by omega)]
  · rw [if_neg c4]
    by_cases c5 : H < Q
    · rw [if_pos c5, if_pos (show L - Q < Q - H by omega), if_pos (by omega)]
    · rw [if_neg c5, if_neg]
      split <;> omega
/-- box distance, the class -/
def bdT (M : mM) (t : Tr) : Int := met M (gap M t 0) (gap M t 1) (gap M t 2)
theorem sp165 {M : mM} (hI : Iv M) (d : Nat) {n : Nat} {t : Tr} (hC : CT M n t) {k : Nat} (hk : k ∈ ks t) (h : lk M (subT t k) ≠ []) : run prog (d + 4) 165 [vr 72, vi (k : Int)] (shp, M) = some (.inl (some (vi (bdT M (subT t k)))), (shp, M)) := by
  show ev prog (d + 4) 165 0 0 [vr 72, vi (k : Int)] [] (shp, M) = _
  have hlt := (CT_sub hC hk).2.1
  have e0 : r164 (k : Int) 0 M = gap M (subT t k) 0 := r164_g hI hC hk (a := 0) (by decide) h
  have e1 : r164 (k : Int) 1 M = gap M (subT t k) 1 := r164_g hI hC hk (a := 1) (by decide) h
  have e2 : r164 (k : Int) 2 M = gap M (subT t k) 2 := r164_g hI hC hk (a := 2) (by decide) h
  rw [g165_0, e0, e1, e2, sp156 hI d (gap_b hI (by decide) hlt h) (gap_b hI (by decide) hlt h) (gap_b hI (by decide) hlt h), callK_r, psh_s, g165_4]
  rfl
theorem lk_emp {M : mM} {t : Tr} : (lk M t).length = 0 ↔ lk M t = [] := List.length_eq_zero_iff
/-- which point has a box -/
def hasB (M : mM) (t : Tr) (x : Int) : Bool := inT t x && decide (lk M (subT t x.toNat) ≠ [])
theorem sp166 {M : mM} (hI : Iv M) (d : Nat) {n : Nat} {t : Tr} (hC : CT M n t) (x : Int) : run prog (d + 5) 166 [vr 5, vi x] (shp, M) = some (match hasB M t x with
    | true => .inl (some (vi (bdT M (subT t x.toNat))))
    | false => .inr 2, (shp, M)) := by
  show ev prog (d + 5) 166 0 0 [vr 5, vi x] [] (shp, M) = _
  rw [g166_0, p104_T hC]
  unfold hasB
  cases hx : inT t x with
  | false => rfl
  | true =>
    obtain ⟨k, rfl, hk⟩ := inT_t hx
    rw [if_neg (show ¬ bi true = 0 by decide), CT_34 hC hk, Int.toNat_natCast]
    by_cases c : lk M (subT t k) = []
    · rw [if_pos (by rw [c]; rfl), decide_eq_false (fun q => q c)]
      rfl
    · have hne : (lk M (subT t k)).length ≠ 0 := fun q => c (lk_emp.mp q)
      rw [if_neg (by omega), sp165 hI d hC hk c, callK_r, psh_s, g166_2, decide_eq_true c]
      rfl
theorem sp168 {M : mM} (hI : Iv M) (d : Nat) {t : Tr} (hT : isT (mlf M) (mrf M) t (rt t)) (hh : ht t ≤ 200) {a : Nat} (ha : a < 3) (hlt : ∀ x ∈ ks t, x < 200) (h : lk M t ≠ []) : run prog (d + 210) 168 [vr 87, vi (rt t), vi (a : Int)] (shp, M) = some (.inl (some (vi (gap M t a))), (shp, M)) := by
  show ev prog (d + 210) 168 0 0 [vr 87, vi (rt t), vi (a : Int), vj, vj, vj] [] (shp, M) = _
  obtain ⟨b1, b2, c1, c2, c3⟩ := bnd_eq hI ha hlt h
  have hq := (hI.qu a ha).2
  have i1 : run prog (d + 209) 136 [vr 87, vi (rt t), vi (a : Int)] (shp, M) = _ := sp136 hI ha t (d + 207) hT (by omega)
  have i2 : run prog (d + 209) 138 [vr 87, vi (rt t), vi (a : Int)] (shp, M) = _ := sp138 hI ha t (d + 207) hT (by omega)
  have x8 : wr (2008 + (a : Int)) = ((2008 + a : Nat) : Int) := by
    rw [wrR (by omega) (by omega)]
    omega
  rw [g168_0, x8, if_pos (gi2031 (by clear x8; omega)), Int.toNat_natCast, rw2_at hI.qu ha, i1, callK_r, psh_s, g168_2, i2, callK_r, psh_s, g168_3, b1, b2]
  unfold gap
  generalize lowT M 101 a t = L at *
  generalize highT M (-101) a t = H at *
  generalize M 35 a = Q at *
  clear x8
  have w1 : wr (L - Q) = L - Q := wrR (by omega) (by omega)
  have w2 : wr (Q - H) = Q - H := wrR (by omega) (by omega)
  rw [w1, w2]
  by_cases c4 : Q < L
  · rw [if_pos c4, if_pos c4]
  · rw [if_neg c4, if_neg c4]
    by_cases c5 : H < Q
    · rw [if_pos c5, if_pos c5]
    · rw [if_neg c5, if_neg c5]
/-- the model at a point of the tree -/
theorem MT_sub {M : mM} {n : Nat} {t : Tr} (hT : MT M n t) (hnd : (ks t).Nodup) {k : Nat} (hk : k ∈ ks t) : isT (mlf M) (mrf M) (subT t k) (rt (subT t k)) ∧ ht (subT t k) ≤ 200 ∧ sz (subT t k) ≤ 200 ∧ (∀ x ∈ ks (subT t k), x < 200) ∧ rt (subT t k) = (k : Int) := by
  obtain ⟨t1, t2, t3⟩ := hT
  have hrt := isT_rt t1
  rw [hrt] at t1
  have hsz := sz_le t1 hnd
  have h1 := sub_sz hk
  have h2 := ht_le (subT t k)
  have e := rt_sub hk
  exact ⟨by rw [e]; exact sub_T t1 hk, by omega, by omega, fun x hx => isT_lt t1 x (sub_mem hx), e⟩
theorem sp169 {M : mM} (hI : Iv M) {n : Nat} (hn : M 7 4 = (n : Int)) (d : Nat) {t : Tr} (hT : MT M n t) (hnd : (ks t).Nodup) (hlt : ∀ x ∈ ks t, x < n) (x : Int) : run prog (d + 212) 169 [vr 87, vi x] (shp, M) = match hasB M t x with
    | true => some (.inl (some (vi (bdT M (subT t x.toNat)))), (shp, mset M 87 3 0))
    | false => some (.inl (some (vi 0)), (shp, mset (mset M 87 3 0) 87 3 1)) := by
  show ev prog (d + 212) 169 0 0 [vr 87, vi x] [] (shp, M) = _
  have hI' := hI.thr 0
  have hs : same [87] M (mset M 87 3 0) := same_mset
  have hT' : MT (mset M 87 3 0) n t := by
    obtain ⟨t1, t2, t3⟩ := hT
    refine ⟨?_, isU_c (fun x _ => by show (mset M 87 3 0) 88 _ = M 88 _; rw [hs 88 (by decide)]) t2, fun k hk => by rw [hs 88 (by decide)]; exact t3 k hk⟩
    rw [hs 88 (by decide)]
    exact mT_c t1 (fun x _ => by rw [hs 88 (by decide)]; exact ⟨rfl, rfl⟩)
  rw [g169_0, sp108 hI' (cl_thr hn 0) hlt hT' (d + 208), callK_r, psh_s, g169_1]
  unfold hasB
  cases hx : inT t x with
  | false => rfl
  | true =>
    obtain ⟨k, rfl, hk⟩ := inT_t hx
    obtain ⟨a1, a2, a3, a4, a5⟩ := MT_sub hT' hnd hk
    have elk : lk (mset M 87 3 0) (subT t k) = lk M (subT t k) := lk_c (hs 11 (by decide)) _
    have i1 : run prog (d + 211) 122 [vr 87, vi (k : Int)] (shp, mset M 87 3 0) = some (.inl (some (vi ((lk M (subT t k)).length : Int))), (shp, mset M 87 3 0)) := by
      rw [← a5, ← elk]
      exact sp122 hI' (subT t k) (d + 209) a1 a3 (by omega)
    rw [if_neg (show ¬ bi true = 0 by decide), i1, callK_r, psh_s, g169_3, Int.toNat_natCast]
    by_cases c : lk M (subT t k) = []
    · rw [if_pos (by rw [c]; rfl), decide_eq_false (fun q => q c)]
      rfl
    · have hne : (lk M (subT t k)).length ≠ 0 := fun q => c (lk_emp.mp q)
      have c' : lk (mset M 87 3 0) (subT t k) ≠ [] := by rw [elk]; exact c
      have b0 : run prog (d + 211) 168 [vr 87, vi (k : Int), vi 0] (shp, mset M 87 3 0) = some (.inl (some (vi (gap (mset M 87 3 0) (subT t k) 0))), (shp, mset M 87 3 0)) := by rw [← a5]; exact sp168 hI' (d + 1) a1 a2 (a := 0) (by decide) a4 c'
      have b1 : run prog (d + 211) 168 [vr 87, vi (k : Int), vi 1] (shp, mset M 87 3 0) = some (.inl (some (vi (gap (mset M 87 3 0) (subT t k) 1))), (shp, mset M 87 3 0)) := by rw [← a5]; exact sp168 hI' (d + 1) a1 a2 (a := 1) (by decide) a4 c'
      have b2 : run prog (d + 211) 168 [vr 87, vi (k : Int), vi 2] (shp, mset M 87 3 0) = some (.inl (some (vi (gap (mset M 87 3 0) (subT t k) 2))), (shp, mset M 87 3 0)) := by rw [← a5]; exact sp168 hI' (d + 1) a1 a2 (a := 2) (by decide) a4 c'
      rw [if_neg (by omega), b0, callK_r, psh_s, g169_7, b1, callK_r, psh_s, g169_8, b2, callK_r, psh_s, g169_9, sp161 hI' (d + 209) (gap_b hI' (by decide) a4 c') (gap_b hI' (by decide) a4 c') (gap_b hI' (by decide) a4 c'), callK_r, psh_s, g169_10, decide_eq_true c]
      have eg : ∀ a, gap (mset M 87 3 0) (subT t k) a = gap M (subT t k) a := fun a => by
        unfold gap
        rw [lowT_c (hs 8 (by decide)) (hs 11 (by decide)), highT_c (hs 8 (by decide)) (hs 11 (by decide)), hs 35 (by decide)]
      rw [eg, eg, eg, met_thr]
      rfl
/-! visits -/
def mb1 (M : mM) (t : Tr) (a : Nat) : Bool := decide ((lowT M 101 a t ≤ highT M (-101) a t ∧ lowT M 101 a t ≤ M 37 a) ∧ M 36 a ≤ highT M (-101) a t ∧ M 36 a ≤ M 37 a)
def mb (M : mM) (t : Tr) : Bool := decide (lk M t ≠ []) && (mb1 M t 0 && (mb1 M t 1 && mb1 M t 2))
def vN (M : mM) : Tr → Nat
  | .leaf => 0
  | .inner s k v l r => match mb M (.inner s k v l r) with
    | true => 1 + vN M l + vN M r
    | false => 1
theorem vN_i (M : mM) (s k : Nat) (v : Unit) (l r : Tr) : vN M (.inner s k v l r) = match mb M (.inner s k v l r) with
    | true => 1 + vN M l + vN M r
    | false => 1 := rfl
theorem vN_le (M : mM) : ∀ t : Tr, vN M t ≤ sz t := by
  intro t
  induction t with
  | leaf => exact Nat.le_refl _
  | inner s k v l r ihl ihr =>
    rw [vN_i, sz_i]
    cases mb M (.inner s k v l r) with
    | true => show 1 + vN M l + vN M r ≤ _; omega
    | false => show 1 ≤ _; omega
theorem mb_c {M M' : mM} (h8 : M' 8 = M 8) (h11 : M' 11 = M 11) (h36 : M' 36 = M 36) (h37 : M' 37 = M 37) (t : Tr) : mb M' t = mb M t := by
  unfold mb mb1
  rw [lk_c h11, h36, h37]
  simp only [lowT_c h8 h11, highT_c h8 h11]
theorem vN_c {M M' : mM} (h8 : M' 8 = M 8) (h11 : M' 11 = M 11) (h36 : M' 36 = M 36) (h37 : M' 37 = M 37) (t : Tr) : vN M' t = vN M t := by
  induction t with
  | leaf => rfl
  | inner s k v l r ihl ihr => rw [vN_i, vN_i, mb_c h8 h11 h36 h37, ihl, ihr]
theorem sp232 {M : mM} (d : Nat) {t : Tr} (hs : smR M t) (hlt : ∀ x ∈ ks t, x < 200) : run prog (d + 3) 232 [vr 72, vi (rt t)] (shp, M) = some (.inl (some (vi (bi (mb M t)))), (shp, M)) := by
  show ev prog (d + 3) 232 0 0 [vr 72, vi (rt t), vj, vj, vj] [] (shp, M) = _
  have st : ∀ a : Nat, a < 3 → ev prog (d + 3) 232 0 4 [vr 72, vi (rt t), vi (a : Int), vj, vj] [] (shp, M) = match mb1 M t a with
    | true => ev prog (d + 3) 232 0 4 [vr 72, vi (rt t), vi ((a + 1 : Nat) : Int), vj, vj] [] (shp, M)
    | false => some (.inl (some (vi 0)), (shp, M)) := by
    intro a ha
    have e1 : va M 36 3 (a : Int) = M 36 a := by rw [va_in ⟨by omega, by omega⟩, Int.toNat_natCast]
    have e2 : va M 37 3 (a : Int) = M 37 a := by rw [va_in ⟨by omega, by omega⟩, Int.toNat_natCast]
    rw [g232_4, if_pos (by omega), r35_T hs hlt ha, r36_T hs hlt ha, e1, e2, wI (by omega)]
    unfold mb1
    generalize lowT M 101 a t = L
    generalize highT M (-101) a t = H
    generalize M 36 a = P
    generalize M 37 a = Q
    by_cases c : (L ≤ H ∧ L ≤ Q) ∧ P ≤ H ∧ P ≤ Q
    · rw [decide_eq_true c, if_neg]
      split <;> split <;> omega
    · rw [decide_eq_false c, if_pos]
      split <;> split <;> omega
  rw [g232_0, r34_T hs hlt]
  unfold mb
  by_cases c : lk M t = []
  · rw [if_pos (by rw [c]; rfl), decide_eq_false (fun q => q c)]
    rfl
  · have hne : (lk M t).length ≠ 0 := fun q => c (lk_emp.mp q)
    rw [if_neg (by omega), decide_eq_true c]
    refine Eq.trans (st 0 (by decide)) ?_
    cases mb1 M t 0 with
    | false => rfl
    | true =>
      refine Eq.trans (st 1 (by decide)) ?_
      cases mb1 M t 1 with
      | false => rfl
      | true =>
        refine Eq.trans (st 2 (by decide)) ?_
        cases mb1 M t 2 with
        | false => rfl
        | true =>
          show ev prog (d + 3) 232 0 4 [vr 72, vi (rt t), vi ((2 + 1 : Nat) : Int), vj, vj] [] (shp, M) = _
          rw [g232_4, if_neg (by decide)]
          rfl
/-- the trees that wait -/
def vL (M : mM) : List Tr → Nat
  | [] => 0
  | t :: L => vN M t + vL M L
theorem vL_app (M : mM) (A B : List Tr) : vL M (A ++ B) = vL M A + vL M B := by
  induction A with
  | nil => exact (Nat.zero_add _).symm
  | cons t A ih => show vN M t + vL M (A ++ B) = vN M t + vL M A + vL M B; omega
theorem vN_pos {M : mM} {t : Tr} (h : t ≠ .leaf) : 0 < vN M t := by
  cases t with
  | leaf => exact absurd rfl h
  | inner s k v l r =>
    rw [vN_i]
    cases mb M (.inner s k v l r) with
    | true => show 0 < 1 + vN M l + vN M r; omega
    | false => show 0 < 1; omega
theorem vL_len {M : mM} : ∀ L : List Tr, (∀ t ∈ L, t ≠ .leaf) → L.length ≤ vL M L := by
  intro L
  induction L with
  | nil => intro _; exact Nat.le_refl _
  | cons t L ih =>
    intro h
    have h1 := ih (fun x hx => h x (List.mem_cons_of_mem _ hx))
    have h2 := vN_pos (M := M) (h t List.mem_cons_self)
    show L.length + 1 ≤ vN M t + vL M L
    omega
def rtsL (L : List Tr) : List Int := L.map rt
def ne1 (t : Tr) : List Tr := match t with
  | .leaf => []
  | .inner _ _ _ _ _ => [t]
theorem ne1_v (M : mM) (t : Tr) : vL M (ne1 t) = vN M t := by
  cases t with
  | leaf => rfl
  | inner s k v l r => exact Nat.add_zero _
theorem ne1_mem {t x : Tr} (h : x ∈ ne1 t) : x = t ∧ t ≠ .leaf := by
  cases t with
  | leaf => exact absurd h List.not_mem_nil
  | inner s k v l r => exact ⟨List.mem_singleton.mp h, fun q => by cases q⟩
/-- a child comes into a row, if it is there -/
theorem sp231 {M : mM} (d : Nat) {W : List Int} (hW : nums M 77 W) (t : Tr) (hl : W.length + (ne1 t).length ≤ 200) : ∃ M', run prog (d + 3) 231 [vr 77, vi (rt t)] (shp, M) = some (.inl none, (shp, M')) ∧ nums M' 77 (W ++ rtsL (ne1 t)) ∧ same [77, 78] M M' := by
  rw [s231 d]
  unfold o231
  cases t with
  | leaf => exact ⟨M, by rw [if_pos (show rt .leaf = -1 from rfl)], by show nums M 77 (W ++ []); rw [List.append_nil]; exact hW, same.rf⟩
  | inner s k v l r =>
    have hl : W.length < 200 := by have hl : W.length + 1 ≤ 200 := hl; omega
    obtain ⟨z1, z2⟩ := nums_add (x := (k : Int)) hW hl
    refine ⟨_, ?_, z1, z2⟩
    rw [rt_i, if_neg (by omega), if_pos (by rw [hW.1]; omega)]
theorem sp231a {M : mM} (d : Nat) {W : List Int} (hW : nums M 82 W) (t : Tr) (hl : W.length + (ne1 t).length ≤ 200) : ∃ M', run prog (d + 3) 231 [vr 82, vi (rt t)] (shp, M) = some (.inl none, (shp, M')) ∧ nums M' 82 (W ++ rtsL (ne1 t)) ∧ same [82, 83] M M' := by
  rw [s231a d]
  unfold o231a
  cases t with
  | leaf => exact ⟨M, by rw [if_pos (show rt .leaf = -1 from rfl)], by show nums M 82 (W ++ []); rw [List.append_nil]; exact hW, same.rf⟩
  | inner s k v l r =>
    have hl : W.length < 200 := by have hl : W.length + 1 ≤ 200 := hl; omega
    obtain ⟨z1, z2⟩ := nums_add (x := (k : Int)) hW hl
    refine ⟨_, ?_, z1, z2⟩
    rw [rt_i, if_neg (by omega), if_pos (by rw [hW.1]; omega)]
theorem sp233l (d : Nat) {M : mM} : ∀ (q i : Nat) (M1 : mM) (L : List Tr) (P : List Int), vL M L = q → P.length = i → i + q ≤ 200 → nums M1 77 (P ++ rtsL L) → same [77, 78] M M1 → (∀ t ∈ L, t ≠ .leaf ∧ isT (clf M) (crf M) t (rt t) ∧ sm M t) →
    ∃ M', ev prog (d + 4) 233 0 3 [vr 72, vi (i : Int), vj] [] (shp, M1) = some (.inl (some (vi ((i + q : Nat) : Int))), (shp, M')) ∧ same [77, 78] M M' := by
  intro q
  induction q using Nat.strongRecOn with
  | _ q ih =>
    intro i M1 L P hq hP hi h1 hs h3
    have hll := vL_len (M := M) L (fun t ht => (h3 t ht).1)
    have hlr : (rtsL L).length = L.length := List.length_map _
    have hc : M1 77 1 = ((i + L.length : Nat) : Int) := by rw [h1.1, List.length_append, hP, hlr]
    cases L with
    | nil =>
      have hq0 : q = 0 := hq.symm
      have hc : M1 77 1 = (i : Int) := hc
      refine ⟨M1, ?_, hs⟩
      rw [g233_3, hc, hq0, Nat.add_zero, if_neg (Int.lt_irrefl _)]
      split <;> rfl
    | cons t L =>
      obtain ⟨t1, t2, t3⟩ := h3 t List.mem_cons_self
      have hvt := vN_pos (M := M) t1
      have hq : vN M t + vL M L = q := hq
      rw [List.length_cons] at hc hll
      cases t with
      | leaf => exact absurd rfl t1
      | inner s k v l r =>
        have hlt := isT_lt t2
        have hk := hlt k List.mem_cons_self
        have hr : r30a (i : Int) M1 = (k : Int) := by
          show va M1 78 200 (i : Int) = _
          rw [va_in ⟨by omega, by omega⟩, Int.toNat_natCast]
          refine h1.2 i _ ?_
          rw [List.getElem?_append_right (by omega), hP, Nat.sub_self]
          rfl
        have hT1 : isT (clf M1) (crf M1) (.inner s k v l r) (k : Int) := by rw [clf_c (hs 13 (by decide)), crf_c (hs 13 (by decide))]; exact t2
        have hsm1 : smR M1 (.inner s k v l r) := smR_c (hs 8 (by decide)) (hs 11 (by decide)) (fun x _ => by rw [hs 16 (by decide), hs 17 (by decide), hs 18 (by decide), hs 19 (by decide)]; exact ⟨rfl, rfl, fun _ _ => ⟨rfl, rfl⟩⟩) (sm_R t3)
        have h232 : run prog (d + 3) 232 [vr 72, vi (k : Int)] (shp, M1) = some (.inl (some (vi (bi (mb M (.inner s k v l r))))), (shp, M1)) := by
          rw [← mb_c (M' := M1) (hs 8 (by decide)) (hs 11 (by decide)) (hs 36 (by decide)) (hs 37 (by decide))]
          exact sp232 d hsm1 hlt
        rw [vN_i] at hq hvt
        rw [g233_3, if_pos (by omega), hc, if_pos (by omega), hr, h232, callK_r, psh_s, g233_7, wI (by omega)]
        have e9 : P ++ rtsL (.inner s k v l r :: L) = (P ++ [(k : Int)]) ++ rtsL L := by
          show P ++ ((k : Int) :: rtsL L) = _
          rw [List.append_assoc]
          rfl
        rw [e9] at h1
        have hP1 : (P ++ [(k : Int)]).length = i + 1 := by rw [List.length_append, hP]; rfl
        cases hm : mb M (.inner s k v l r) with
        | false =>
          rw [hm] at hq
          have hq : 1 + vL M L = q := hq
          obtain ⟨M', a1, a2⟩ := ih (vL M L) (by omega) (i + 1) M1 L (P ++ [(k : Int)]) rfl hP1 (by omega) h1 hs (fun x hx => h3 x (List.mem_cons_of_mem _ hx))
          refine ⟨M', ?_, a2⟩
          rw [if_pos (show bi false = 0 from rfl), a1, show i + 1 + vL M L = i + q by omega]
        | true =>
          rw [hm] at hq
          have hq : 1 + vN M l + vN M r + vL M L = q := hq
          obtain ⟨c0, c1⟩ := r28_T hT1
          obtain ⟨-, -, h4, h5⟩ := t2
          rw [isT_rt h4] at h4
          rw [isT_rt h5] at h5
          have hlL : ((P ++ [(k : Int)]) ++ rtsL L).length = i + 1 + L.length := by rw [List.length_append, hP1]; show _ + (List.map rt L).length = _; rw [List.length_map]
          have hLv := vL_len (M := M) L (fun t ht => (h3 t (List.mem_cons_of_mem _ ht)).1)
          have hnl : (ne1 l).length ≤ vN M l := by
            rw [← ne1_v M l]
            exact vL_len _ (fun x hx => by obtain ⟨e, n⟩ := ne1_mem hx; rw [e]; exact n)
          have hnr : (ne1 r).length ≤ vN M r := by
            rw [← ne1_v M r]
            exact vL_len _ (fun x hx => by obtain ⟨e, n⟩ := ne1_mem hx; rw [e]; exact n)
          obtain ⟨M2, b1, b2, b3⟩ := sp231 (M := M1) d h1 l (by omega)
          have hs2 : same [77, 78] M M2 := hs.tr b3
          obtain ⟨c2, c3⟩ := r28_T (M := M2) (s := s) (k := k) (v := v) (l := l) (r := r) (n := (k : Int)) (by rw [clf_c (b3 13 (by decide)), crf_c (b3 13 (by decide))]; exact hT1)
          have hlN : (rtsL (ne1 l)).length ≤ vN M l := by
            rw [← ne1_v M l]
            show (List.map rt (ne1 l)).length ≤ _
            rw [List.length_map]
            exact vL_len _ (fun x hx => by obtain ⟨e, n⟩ := ne1_mem hx; rw [e]; exact n)
          obtain ⟨M3, d1, d2, d3⟩ := sp231 (M := M2) d b2 r (by rw [List.length_append]; omega)
          obtain ⟨M', a1, a2⟩ := ih (vL M (L ++ (ne1 l ++ ne1 r))) (by rw [vL_app, vL_app, ne1_v, ne1_v]; omega) (i + 1) M3 (L ++ (ne1 l ++ ne1 r)) (P ++ [(k : Int)]) rfl hP1 (by rw [vL_app, vL_app, ne1_v, ne1_v]; omega) (by
            have : (P ++ [(k : Int)]) ++ rtsL (L ++ (ne1 l ++ ne1 r)) = (P ++ [(k : Int)]) ++ rtsL L ++ rtsL (ne1 l) ++ rtsL (ne1 r) := by
              unfold rtsL
              rw [List.map_append, List.map_append]
              simp only [List.append_assoc]
            rw [this]
            exact d2) (hs2.tr d3) (fun x hx => by
            rcases List.mem_append.mp hx with h | h
            · exact h3 x (List.mem_cons_of_mem _ h)
            · rcases List.mem_append.mp h with h | h
              · obtain ⟨e, n⟩ := ne1_mem h
                subst e
                exact ⟨n, h4, t3.2.1⟩
              · obtain ⟨e, n⟩ := ne1_mem h
                subst e
                exact ⟨n, h5, t3.2.2⟩)
          refine ⟨M', ?_, a2⟩
          rw [if_neg (show ¬ bi true = 0 by decide), c0, b1, callK_r, psh_n, g233_10, c3, d1, callK_r, psh_n, g233_12, wI (by omega), a1, vL_app, vL_app, ne1_v, ne1_v, show i + 1 + (vL M L + (vN M l + vN M r)) = i + q by omega]
theorem sp234 (d : Nat) {M : mM} {n : Nat} {t : Tr} (h : CT M n t) : ∃ M', run prog (d + 5) 234 [vr 5] (shp, M) = some (.inl (some (vi (vN M t : Int))), (shp, M')) ∧ same [77, 78] M M' := by
  show ∃ M', ev prog (d + 5) 234 0 0 [vr 5] [] (shp, M) = _ ∧ _
  obtain ⟨h1, h2, h3, h4, h5, h6⟩ := h
  have hrt := isT_rt h3
  have hsz := sz_le h3 h4
  have hv := vN_le M t
  obtain ⟨M1, a1, a2, a3⟩ := sp231 (M := mset M 77 1 0) d (W := []) nums_nil t (by
    cases t with
    | leaf => decide
    | inner s k v l r => show 0 + 1 ≤ 200; decide)
  have hs : same [77, 78] M M1 := (same_mset.mono (by decide)).tr a3
  obtain ⟨M', b1, b2⟩ := sp233l d (M := M) (vL M (ne1 t)) 0 M1 (ne1 t) [] rfl rfl (by rw [ne1_v]; omega) a2 hs (fun x hx => by
    obtain ⟨e, nn⟩ := ne1_mem hx
    subst e
    exact ⟨nn, by rw [← hrt]; exact h3, h6.2.2.1⟩)
  rw [ne1_v, Nat.zero_add] at b1
  refine ⟨M', ?_, b2⟩
  have e : run prog (d + 4) 233 [vr 72] (shp, M) = some (.inl (some (vi (vN M t : Int))), (shp, M')) := by
    show ev prog (d + 4) 233 0 0 [vr 72, vj, vj] [] (shp, M) = _
    rw [g233_0, hrt, a1, callK_r, psh_n, g233_2]
    exact b1
  rw [g234_0, e, callK_r, psh_s, g234_1]
/-- the model -/
theorem sp235 {M : mM} (hI : Iv M) (d : Nat) {t : Tr} (hT : isT (mlf M) (mrf M) t (rt t)) (hh : ht t ≤ d + 205) (hsz : sz t ≤ 200) (hlt : ∀ x ∈ ks t, x < 200) : run prog (d + 210) 235 [vr 87, vi (rt t)] (shp, M) = some (.inl (some (vi (bi (mb M t)))), (shp, M)) := by
  show ev prog (d + 210) 235 0 0 [vr 87, vi (rt t), vj, vj] [] (shp, M) = _
  have i0 : run prog (d + 209) 122 [vr 87, vi (rt t)] (shp, M) = _ := sp122 hI t (d + 207) hT hsz (by omega)
  have f1 : ∀ a : Nat, a ≤ 3 → ev prog (d + 210) 235 0 5 [vr 87, vi (rt t), vi 0, vi (a : Int)] [] (shp, M) = some (.inl (some (vi 0)), (shp, M)) := by
    intro a ha
    rw [g235_5]
    by_cases c : (a : Int) < 3
    · rw [if_pos c, if_pos rfl, if_pos (show bit? 0 = true from rfl)]
    · rw [if_neg c, if_pos (show bit? 0 = true from rfl)]
  rw [g235_0, i0, callK_r, psh_s, g235_1]
  unfold mb
  by_cases c : lk M t = []
  · rw [if_neg (by rw [c]; decide), decide_eq_false (fun q => q c)]
    exact f1 0 (by decide)
  · have hne : (lk M t).length ≠ 0 := fun q => c (lk_emp.mp q)
    have st : ∀ a : Nat, a < 3 → ev prog (d + 210) 235 0 5 [vr 87, vi (rt t), vi 1, vi (a : Int)] [] (shp, M) = ev prog (d + 210) 235 0 5 [vr 87, vi (rt t), vi (bi (mb1 M t a)), vi ((a + 1 : Nat) : Int)] [] (shp, M) := by
      intro a ha
      obtain ⟨b1, b2, c1, c2, c3⟩ := bnd_eq hI ha hlt c
      have i1 : run prog (d + 209) 136 [vr 87, vi (rt t), vi (a : Int)] (shp, M) = _ := sp136 hI ha t (d + 207) hT (by omega)
      have i2 : run prog (d + 209) 138 [vr 87, vi (rt t), vi (a : Int)] (shp, M) = _ := sp138 hI ha t (d + 207) hT (by omega)
      rw [g235_5, if_pos (by omega), if_neg (by decide), i1, callK_r, psh_s, g235_8, x2011 ha, if_pos (gi2031 (by omega)), Int.toNat_natCast, rw2_at hI.lc ha, i2, callK_r, psh_s, g235_11, x2014 ha, if_pos (gi2031 (by omega)), Int.toNat_natCast, rw2_at hI.uc ha, wI (by omega), b1, b2]
      unfold mb1 r135 r137
      generalize lowT M 101 a t = L at *
      generalize highT M (-101) a t = H at *
      generalize M 36 a = P
      generalize M 37 a = Q
      by_cases c9 : (L ≤ H ∧ L ≤ Q) ∧ P ≤ H ∧ P ≤ Q
      · rw [decide_eq_true c9, if_neg]
        · rfl
        · split <;> split <;> omega
      · rw [decide_eq_false c9, if_pos]
        · rfl
        · split <;> split <;> omega
    have f3 : ∀ b : Bool, ev prog (d + 210) 235 0 5 [vr 87, vi (rt t), vi (bi b), vi ((2 + 1 : Nat) : Int)] [] (shp, M) = some (.inl (some (vi (bi b))), (shp, M)) := by
      intro b
      rw [g235_5, if_neg (by decide), if_pos (bit_bi b)]
    rw [if_pos (by omega), decide_eq_true c]
    refine Eq.trans (st 0 (by decide)) ?_
    cases mb1 M t 0 with
    | false => exact f1 1 (by decide)
    | true =>
      refine Eq.trans (st 1 (by decide)) ?_
      cases mb1 M t 1 with
      | false => exact f1 2 (by decide)
      | true =>
        refine Eq.trans (st 2 (by decide)) ?_
        exact f3 _
theorem sp236 {M : mM} (hI : Iv M) (d : Nat) : ∀ (t : Tr) (D : Nat), isT (mlf M) (mrf M) t (rt t) → sz t ≤ 200 → ht t ≤ D → run prog (d + 211 + D) 236 [vr 87, vi (rt t)] (shp, M) = some (.inl (some (vi (vN M t : Int))), (shp, M)) := by
  intro t
  induction t with
  | leaf =>
    intro D _ _ _
    show ev prog (d + 211 + D) 236 0 0 [vr 87, vi (-1)] [] (shp, M) = _
    rw [show d + 211 + D = (d + 209 + D) + 2 by omega, g236_0, if_pos (by decide)]
    rfl
  | inner s k v l r ihl ihr =>
    intro D hT hsz hD
    obtain ⟨D', rfl, d1, d2⟩ := ht_s hD
    have hlt := isT_lt hT
    obtain ⟨hk, e3, e4, h3, h4⟩ := mT_i hT
    have hszi := sz_i s k v l r
    have hh := ht_le (.inner s k v l r : Tr)
    have hvl := vN_le M l
    have hvr := vN_le M r
    have i0 : run prog (d + 210 + D' + 1) 235 [vr 87, vi (k : Int)] (shp, M) = some (.inl (some (vi (bi (mb M (.inner s k v l r))))), (shp, M)) := by
      have := sp235 hI (d + D' + 1) hT (by omega) hsz hlt
      rw [show d + D' + 1 + 210 = d + 210 + D' + 1 by omega] at this
      exact this
    have i1 : run prog (d + 210 + D' + 1) 236 [vr 87, vi (rt l)] (shp, M) = some (.inl (some (vi (vN M l : Int))), (shp, M)) := by
      have := ihl D' h3 (by omega) d1
      rw [show d + 211 + D' = d + 210 + D' + 1 by omega] at this
      exact this
    have i2 : run prog (d + 210 + D' + 1) 236 [vr 87, vi (rt r)] (shp, M) = some (.inl (some (vi (vN M r : Int))), (shp, M)) := by
      have := ihr D' h4 (by omega) d2
      rw [show d + 211 + D' = d + 210 + D' + 1 by omega] at this
      exact this
    show ev prog (d + 211 + (D' + 1)) 236 0 0 [vr 87, vi (k : Int)] [] (shp, M) = _
    rw [show d + 211 + (D' + 1) = (d + 210 + D') + 2 by omega, g236_0, if_neg (by omega), i0, callK_r, psh_s, g236_3, vN_i]
    cases mb M (.inner s k v l r) with
    | false => rw [if_pos (show bi false = 0 from rfl)]; rfl
    | true =>
      rw [if_neg (show ¬ bi true = 0 by decide), x1400 hk, if_pos (gi2031 (by omega)), Int.toNat_natCast, e3, i1, callK_r, psh_s, g236_6, x1600 hk, if_pos (gi2031 (by omega)), Int.toNat_natCast, e4, i2, callK_r, psh_s, g236_8, w1ab (by omega)]
