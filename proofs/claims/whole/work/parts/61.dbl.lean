/-! INFLUENCE AND CENTER -/
theorem dq_b {M : mM} (h : Iv M) {p : Nat} (hp : p < 200) : 0 ≤ dq M p ∧ dq M p ≤ 270000 := by
  unfold dq
  exact met_le h (ab_d3 (h.co (3 * p) (by omega)).2 (h.qu 0 (by decide)).2).1 (ab_d3 (h.co (3 * p + 1) (by omega)).2 (h.qu 1 (by decide)).2).1 (ab_d3 (h.co (3 * p + 2) (by omega)).2 (h.qu 2 (by decide)).2).1
def qu (M : mM) (p : Nat) : UInt64 := FP.ddiv (FP.i2d (Int32.ofInt (M 9 p))) (FP.i2d (Int32.ofInt (1 + dq M p)))
def ift (M : mM) (r : Int) (s : UInt64) (x : Int) : UInt64 := if dq M x.toNat ≤ r then FP.dadd s (qu M x.toNat) else s
def infL (M : mM) (r : Int) (l : List Int) : UInt64 := l.foldl (ift M r) FP.dconst0
theorem infL_snoc (M : mM) (r : Int) (l : List Int) (x : Int) : infL M r (l ++ [x]) = ift M r (infL M r l) x := by
  unfold infL
  rw [List.foldl_append]
  rfl
theorem qu_pos {M : mM} (h : Iv M) {p : Nat} (hp : p < 200) : dpos (qu M p) := by
  have h1 := dq_b h hp
  have h2 := (h.we p hp).2
  exact ddiv_pos (by unfold inR; omega) (by unfold inR; omega) h2.1 (by omega)
theorem infL_pos {M : mM} (h : Iv M) (r : Int) : ∀ (l : List Int), (∀ x ∈ l, x.toNat < 200) → dpos (infL M r l) := by
  have key : ∀ (l : List Int) (s : UInt64), dpos s → (∀ x ∈ l, x.toNat < 200) → dpos (l.foldl (ift M r) s) := by
    intro l
    induction l with
    | nil => intro s hs _; exact hs
    | cons x l ih =>
      intro s hs hx
      refine ih _ ?_ (fun y hy => hx y (List.mem_cons_of_mem _ hy))
      unfold ift
      split
      · exact dadd_pos hs (qu_pos h (hx x List.mem_cons_self))
      · exact hs
  intro l hl
  exact key l _ dpos_0 hl
theorem visL_mem {M : mM} {n : Nat} {x : Int} (h : x ∈ visL M n) : ∃ p : Nat, x = (p : Int) ∧ p < n := by
  obtain ⟨j, hj⟩ := List.mem_iff_getElem?.mp h
  obtain ⟨p, h1, h2, -⟩ := visL_at hj
  exact ⟨p, h1, h2⟩
theorem visL_200 {M : mM} {n : Nat} (hn : n ≤ 200) : ∀ x ∈ visL M n, x.toNat < 200 := by
  intro x hx
  obtain ⟨p, rfl, h2⟩ := visL_mem hx
  rw [Int.toNat_natCast]
  omega
theorem sp184 {M : mM} (h : Iv M) (d : Nat) {n : Nat} (hn : M 7 4 = (n : Int)) (h200 : n ≤ 200) (h60 : (visL M n).length ≤ 60) (r : Int) : ∃ M', run prog (d + 6) 184 [vr 72, vi r] (shp, M) = some (.inl (some (vd (infL M r (visL M n)))), (shp, M')) ∧ same [73, 74, 75] M M' := by
  show ∃ M', ev prog (d + 6) 184 0 0 [vr 72, vi r, vj, vj, vj, vj] [] (shp, M) = _ ∧ _
  obtain ⟨M1, a1, a2, a3, a4⟩ := sp170 h d hn h60
  refine ⟨M1, ?_, a4⟩
  rw [g184_0, a1, callK_r, psh_n, g184_1]
  have key := up_to (fun i => ev prog (d + 6) 184 0 2 [vr 72, vi r, vd (infL M r ((visL M n).take i)), vj, vi (i : Int), vj] [] (shp, M1)) (visL M n).length (fun i hi => by
    obtain ⟨p, p1, p2, -⟩ := visL_at (List.getElem?_eq_getElem hi)
    have hv : va M1 75 60 (i : Int) = dq M p := by
      rw [va_in ⟨by omega, by omega⟩, Int.toNat_natCast, a3 i _ (List.getElem?_eq_getElem hi), p1, Int.toNat_natCast]
    have hr : r30 (i : Int) M1 = (p : Int) := by
      show va M1 74 200 (i : Int) = _
      rw [va_in ⟨by omega, by omega⟩, Int.toNat_natCast, a2.2 i _ (List.getElem?_eq_getElem hi), p1]
    have hw : va M1 9 200 (p : Int) = M 9 p := by rw [va_in ⟨by omega, by omega⟩, Int.toNat_natCast, a4 9 (by decide)]
    have hb := dq_b h (show p < 200 by omega)
    have e : infL M r ((visL M n).take (i + 1)) = ift M r (infL M r ((visL M n).take i)) (p : Int) := by
      rw [take_s hi, infL_snoc, p1]
    have hq := qu_pos h (show p < 200 by omega)
    have hs : dpos (infL M r ((visL M n).take i)) := infL_pos h r _ (fun x hx => visL_200 h200 x (List.mem_of_mem_take hx))
    show ev prog (d + 6) 184 0 2 [vr 72, vi r, vd (infL M r ((visL M n).take i)), vj, vi (i : Int), vj] [] (shp, M1) = ev prog (d + 6) 184 0 2 [vr 72, vi r, vd (infL M r ((visL M n).take (i + 1))), vj, vi ((i + 1 : Nat) : Int), vj] [] (shp, M1)
    rw [g184_2, a2.1, if_pos (by omega), hv, hr, hw, wI (by omega), if_neg (by omega), wr_id (show inR (1 + dq M p) by unfold inR; omega), e]
    unfold ift
    rw [Int.toNat_natCast]
    by_cases c : dq M p ≤ r
    · rw [if_neg (by omega), if_pos c]
      have q1 : nn64 (FP.ddiv (FP.i2d (Int32.ofInt (M 9 p))) (FP.i2d (Int32.ofInt (1 + dq M p)))) = true := nn_of hq.1
      have q2 : nn64 (FP.dadd (infL M r ((visL M n).take i)) (FP.ddiv (FP.i2d (Int32.ofInt (M 9 p))) (FP.i2d (Int32.ofInt (1 + dq M p))))) = true := nn_of (dadd_pos hs hq).1
      rw [if_pos q1, if_pos q2]
      rfl
    · rw [if_pos (by omega), if_neg c])
  refine Eq.trans key ?_
  show ev prog (d + 6) 184 0 2 [vr 72, vi r, vd (infL M r ((visL M n).take (visL M n).length)), vj, vi ((visL M n).length : Int), vj] [] (shp, M1) = _
  rw [g184_2, a2.1, if_neg (by omega), List.take_length]
theorem sp185 {M : mM} (h : Iv M) (d : Nat) {n : Nat} (hn : M 7 4 = (n : Int)) (h200 : n ≤ 200) (h60 : (visL M n).length ≤ 60) (r : Int) : ∃ M', run prog (d + 7) 185 [vr 5, vi r] (shp, M) = some (.inl (some (vd (infL M r (visL M n)))), (shp, M')) ∧ same [73, 74, 75] M M' := by
  show ∃ M', ev prog (d + 7) 185 0 0 [vr 5, vi r] [] (shp, M) = _ ∧ _
  obtain ⟨M1, a1, a2⟩ := sp184 h d hn h200 h60 r
  exact ⟨M1, by rw [g185_0, a1, callK_r, psh_s, g185_1], a2⟩
theorem sp186i {M : mM} (h : Iv M) (d : Nat) {n : Nat} (hn : M 88 2001 = (n : Int)) (h200 : n ≤ 200) (r : Int) : ev prog (d + 5) 186 0 1 [vr 87, vi r, vd FP.dconst0, vj, vi 0] [] (shp, M) = some (.inl (some (vd (infL M r (visL M n)))), (shp, M)) := by
  have key := up_to (fun i => ev prog (d + 5) 186 0 1 [vr 87, vi r, vd (infL M r (visL M i)), vj, vi (i : Int)] [] (shp, M)) n (fun i hi => by
    have hs1 := visL_s M i
    have hb := dq_b h (show i < 200 by omega)
    have hq := qu_pos h (show i < 200 by omega)
    have hs : dpos (infL M r (visL M i)) := infL_pos h r _ (visL_200 (by omega))
    obtain ⟨-, i1, i2⟩ := ix 600 i (by omega)
    have j1 : wr (600 + (i : Int)) = wr (((600 : Nat) : Int) + (i : Int)) := rfl
    show ev prog (d + 5) 186 0 1 [vr 87, vi r, vd (infL M r (visL M i)), vj, vi (i : Int)] [] (shp, M) = ev prog (d + 5) 186 0 1 [vr 87, vi r, vd (infL M r (visL M (i + 1))), vj, vi ((i + 1 : Nat) : Int)] [] (shp, M)
    rw [g186_1, hn, if_pos (by omega), sp129 h d, callK_r, psh_s, g186_4, wI (by omega)]
    cases hv : p125 (i : Int) M with
    | false =>
      rw [hv] at hs1
      have hs1 : visL M (i + 1) = visL M i := hs1
      rw [if_pos (show bi false = 0 from rfl), hs1]
    | true =>
      rw [hv] at hs1
      have hs1 : visL M (i + 1) = visL M i ++ [(i : Int)] := hs1
      rw [if_neg (show ¬ bi true = 0 by decide), sp162 h (d + 1) (by omega), callK_r, psh_s, g186_6, wI (by omega), hs1, infL_snoc]
      unfold ift
      rw [Int.toNat_natCast]
      by_cases c : dq M i ≤ r
      · have q1 : nn64 (FP.ddiv (FP.i2d (Int32.ofInt (M 9 i))) (FP.i2d (Int32.ofInt (1 + dq M i)))) = true := nn_of hq.1
        have q2 : nn64 (FP.dadd (infL M r (visL M i)) (FP.ddiv (FP.i2d (Int32.ofInt (M 9 i))) (FP.i2d (Int32.ofInt (1 + dq M i))))) = true := nn_of (dadd_pos hs hq).1
        rw [if_neg (by omega), if_pos c, j1, if_pos i1, i2, rw2_at h.we (show i < 200 by omega), sp162 h (d + 1) (by omega), callK_r, psh_s, g186_9, wr_id (show inR (1 + dq M i) by unfold inR; omega), if_pos q1, if_pos q2, wI (by omega)]
        rfl
      · rw [if_pos (by omega), if_neg c])
  refine Eq.trans key ?_
  show ev prog (d + 5) 186 0 1 [vr 87, vi r, vd (infL M r (visL M n)), vj, vi (n : Int)] [] (shp, M) = _
  rw [g186_1, hn, if_neg (by omega)]
theorem infL_thr (M : mM) (k r : Int) (l : List Int) : infL (mset M 87 3 k) r l = infL M r l := by
  unfold infL
  congr 1
theorem sp186 {M : mM} (h : Iv M) (d : Nat) {n : Nat} (hn : M 7 4 = (n : Int)) (r : Int) : run prog (d + 5) 186 [vr 87, vi r] (shp, M) = some (.inl (some (vd (infL M r (visL M n)))), (shp, mset M 87 3 0)) := by
  show ev prog (d + 5) 186 0 0 [vr 87, vi r, vj, vj, vj] [] (shp, M) = _
  obtain ⟨n', h1, h2, h3⟩ := h.cr
  have e : n' = n := by omega
  subst e
  rw [g186_0, sp186i (h.thr 0) d (cr_thr h3 0) h2, infL_thr, visL_thr]
/-! center -/
def cenD (M : mM) (n a : Nat) : UInt64 := FP.ddiv (FP.i2d (Int32.ofInt (sumL (mF M a) (fil (bx M) n)))) (FP.i2d (Int32.ofInt (sumL (wF M) (fil (bx M) n))))
theorem cenD_nn {M : mM} (h : Iv M) {n a : Nat} (h200 : n ≤ 200) (ha : a < 3) (h0 : sumL (wF M) (fil (bx M) n) ≠ 0) : nn64 (cenD M n a) = true := by
  have b1 := sumL_fil h (f := bx M) h200
  have b2 := sumM_fil h ha (f := bx M) h200
  exact nn_of (ddiv_nn (by unfold inR; omega) (by unfold inR; omega) h0)
theorem sp228 {M : mM} (h : Iv M) (d : Nat) {n : Nat} (hn : M 7 4 = (n : Int)) (h200 : n ≤ 200) (a : Int) : ∃ M', run prog (d + 5) 228 [vr 5, vi a] (shp, M) = some (match decide (0 ≤ a ∧ a < 3), decide (sumL (wF M) (fil (bx M) n) = 0) with
    | false, _ => .inr 0
    | true, true => .inr 4
    | true, false => .inl (some (vd (cenD M n a.toNat))), (shp, M')) ∧ same [73, 74] M M' := by
  show ∃ M', ev prog (d + 5) 228 0 0 [vr 5, vi a, vj] [] (shp, M) = _ ∧ _
  rw [g228_0]
  by_cases c0 : a < 0
  · exact ⟨M, by rw [if_pos c0, decide_eq_false (by omega)], same.rf⟩
  · rw [if_neg c0]
    by_cases c1 : a < 3
    · obtain ⟨M1, a1, a2, a3⟩ := sp215 d M hn h200
      obtain ⟨k, rfl⟩ : ∃ k : Nat, a = (k : Int) := ⟨a.toNat, by omega⟩
      refine ⟨M1, ?_, a3⟩
      rw [if_pos c1, a1, callK_r, psh_s, g228_2, sp223 h (d + 1) h200 a2 (a3 9 (by decide)), callK_r, psh_s, g228_3, decide_eq_true (show 0 ≤ (k : Int) ∧ (k : Int) < 3 by omega), Int.toNat_natCast]
      by_cases c2 : sumL (wF M) (fil (bx M) n) = 0
      · rw [if_pos c2, decide_eq_true c2]
      · have hq := cenD_nn h h200 (show k < 3 by omega) c2
        unfold cenD at hq
        rw [if_neg c2, sp227 h (d + 1) (show k < 3 by omega) h200 a2 (a3 9 (by decide)) (a3 8 (by decide)), callK_r, psh_s, g228_6, if_pos hq, decide_eq_false c2]
        rfl
    · exact ⟨M, by rw [if_neg c1, decide_eq_false (by omega)], same.rf⟩
theorem sp230i {M : mM} (h : Iv M) (d : Nat) {n a : Nat} (hn : M 88 2001 = (n : Int)) (h200 : n ≤ 200) (ha : a < 3) (h0 : sumL (wF M) (fil (bx M) n) ≠ 0) : ev prog (d + 7) 230 0 7 [vr 87, vi (a : Int), vi (sumL (wF M) (fil (bx M) n)), vi 0, vi 0] [] (shp, M) = some (.inl (some (vd (cenD M n a))), (shp, M)) := by
  have key := up_to (fun i => ev prog (d + 7) 230 0 7 [vr 87, vi (a : Int), vi (sumL (wF M) (fil (bx M) n)), vi (sumL (mF M a) (fil (bx M) i)), vi (i : Int)] [] (shp, M)) n (fun i hi => by
    have b1 := sumM_fil h ha (f := bx M) (show i ≤ 200 by omega)
    have b2 := sumM_fil h ha (f := bx M) (show i + 1 ≤ 200 by omega)
    have hm := mF_b h ha (show i < 200 by omega)
    have e2 : M 9 i * M 8 (3 * i + a) = mF M a i := Int.mul_comm _ _
    show ev prog (d + 7) 230 0 7 [vr 87, vi (a : Int), vi (sumL (wF M) (fil (bx M) n)), vi (sumL (mF M a) (fil (bx M) i)), vi (i : Int)] [] (shp, M) = ev prog (d + 7) 230 0 7 [vr 87, vi (a : Int), vi (sumL (wF M) (fil (bx M) n)), vi (sumL (mF M a) (fil (bx M) (i + 1))), vi ((i + 1 : Nat) : Int)] [] (shp, M)
    rw [g230_7, hn, if_pos (by omega), sp217 h (d + 1) (by omega), callK_r, psh_s, g230_10, wI (by omega)]
    cases hv : bx M i with
    | false => rw [if_pos (show bi false = 0 from rfl), fil_f hv, Int.add_zero, wr_id (by unfold inR; omega)]
    | true =>
      have e : sumL (mF M a) (fil (bx M) (i + 1)) = sumL (mF M a) (fil (bx M) i) + mF M a i := by rw [fil_t hv, sumL_snoc, Int.toNat_natCast]
      rw [if_neg (show ¬ bi true = 0 by decide), x600 (by omega), if_pos (gi2031 (by omega)), x3a (by omega) ha, if_pos (gi2031 (by omega)), Int.toNat_natCast, Int.toNat_natCast, rw2_at h.we (show i < 200 by omega), g8 h (by omega), e2, wr_id (show inR (mF M a i) by unfold inR; omega), ← e, wr_id (by unfold inR; omega)])
  refine Eq.trans key ?_
  show ev prog (d + 7) 230 0 7 [vr 87, vi (a : Int), vi (sumL (wF M) (fil (bx M) n)), vi (sumL (mF M a) (fil (bx M) n)), vi (n : Int)] [] (shp, M) = _
  have hq := cenD_nn h h200 ha h0
  unfold cenD at hq ⊢
  rw [g230_7, hn, if_neg (by omega), if_pos hq]
theorem mF_thr (M : mM) (k : Int) (a : Nat) : mF (mset M 87 3 k) a = mF M a := by
  funext p
  unfold mF
  rw [mset_k (by decide), mset_k (by decide)]
theorem cenD_thr (M : mM) (k : Int) (n a : Nat) : cenD (mset M 87 3 k) n a = cenD M n a := by
  unfold cenD
  rw [mF_thr, wF_thr, bx_thr]
theorem sp230 {M : mM} (h : Iv M) (d : Nat) {n : Nat} (hn : M 7 4 = (n : Int)) (a : Int) : run prog (d + 7) 230 [vr 87, vi a] (shp, M) = match decide (0 ≤ a ∧ a < 3), decide (sumL (wF M) (fil (bx M) n) = 0) with
    | false, _ => some (.inl (some (vd FP.dconst0)), (shp, mset (mset M 87 3 0) 87 3 1))
    | true, true => some (.inl (some (vd FP.dconst0)), (shp, mset (mset M 87 3 0) 87 3 2))
    | true, false => some (.inl (some (vd (cenD M n a.toNat))), (shp, mset M 87 3 0)) := by
  show ev prog (d + 7) 230 0 0 [vr 87, vi a, vj, vj, vj] [] (shp, M) = _
  obtain ⟨n', h1, h2, h3⟩ := h.cr
  have e : n' = n := by omega
  subst e
  rw [g230_0, axis_iff]
  by_cases c : 0 ≤ a ∧ a < 3
  · obtain ⟨k, rfl⟩ : ∃ k : Nat, a = (k : Int) := ⟨a.toNat, by omega⟩
    rw [decide_eq_true c, if_neg (show ¬ bi true = 0 by decide), sp225 (h.thr 0) d (cr_thr h3 0) h2, callK_r, psh_s, g230_4, Int.toNat_natCast]
    by_cases c2 : sumL (wF M) (fil (bx M) n') = 0
    · have c3 : sumL (wF (mset M 87 3 0)) (fil (bx (mset M 87 3 0)) n') = 0 := by rw [wF_thr, bx_thr]; exact c2
      rw [if_pos c3, decide_eq_true c2]
    · have c3 : ¬ sumL (wF (mset M 87 3 0)) (fil (bx (mset M 87 3 0)) n') = 0 := by rw [wF_thr, bx_thr]; exact c2
      rw [if_neg c3, decide_eq_false c2, sp230i (h.thr 0) d (cr_thr h3 0) h2 (show k < 3 by omega) c3, cenD_thr]
  · rw [decide_eq_false c]
    rfl
