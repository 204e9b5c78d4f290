/-! CLUSTERS: THE MODEL -/
def smF (c : Nat → Nat) : Nat → Nat
  | 0 => 0
  | m + 1 => smF c m + c m
theorem smF_c {c c' : Nat → Nat} : ∀ m, (∀ j, j < m → c j = c' j) → smF c m = smF c' m
  | 0, _ => rfl
  | m + 1, h => by
    show smF c m + c m = smF c' m + c' m
    rw [smF_c m (fun j hj => h j (by omega)), h m (by omega)]
theorem smF_up {c : Nat → Nat} {i v : Nat} (hv : v < c i) : ∀ m, i < m → smF (fun j => if j = i then v else c j) m < smF c m
  | 0, h => absurd h (Nat.not_lt_zero _)
  | m + 1, h => by
    show smF (fun j => if j = i then v else c j) m + (if m = i then v else c m) < smF c m + c m
    by_cases e : m = i
    · subst e
      rw [if_pos rfl, smF_c (c := fun j => if j = m then v else c j) (c' := c) m (fun j hj => if_neg (by omega))]
      omega
    · rw [if_neg e]
      have := smF_up (c := c) hv m (by omega)
      omega
def cS (M : mM) (n : Nat) (r : Int) (M' : mM) (c : Nat → Nat) : Prop :=
  same [91, 92] M M' ∧ (∀ j, j < (visL M n).length → M' 92 j = (pt M n j : Int)) ∧ ∀ j, j < (visL M n).length → c j ≤ j ∧ M' 91 (pt M n j) = (pt M n (c j) : Int) ∧ ∀ g, gI (adj M n r) (visL M n).length g → g j = g (c j)
theorem cS_up {M M2 : mM} {n : Nat} {r : Int} {c : Nat → Nat} (h : cS M n r M2 c) {i k : Nat} (hi : i < (visL M n).length) (hk : k < (visL M n).length) (hc : c k < c i) (ha : adj M n r i k = true) :
    cS M n r (mset M2 91 (pt M n i) (pt M n (c k) : Int)) (fun j => if j = i then c k else c j) := by
  obtain ⟨h1, h2, h3⟩ := h
  refine ⟨h1.tr (same_mset.mono (by decide)), fun j hj => by rw [mset_k (by decide)]; exact h2 j hj, fun j hj => ?_⟩
  obtain ⟨k1, k2, k3⟩ := h3 j hj
  by_cases e : j = i
  · subst e
    simp only [if_pos]
    obtain ⟨q1, q2, q3⟩ := h3 k hk
    exact ⟨by omega, mset_at _ _ _ _, fun g hg => (hg _ _ hj hk ha).trans (q3 g hg)⟩
  · simp only [if_neg e]
    exact ⟨k1, by rw [mset_j (fun q => e (pt_inj hj hi q))]; exact k2, k3⟩
theorem l205i {M : mM} (h : Iv M) (d : Nat) {n : Nat} (h200 : n ≤ 200) (h60 : (visL M n).length ≤ 60) (r : Int) {i : Nat} (hi : i < (visL M n).length) :
    ∀ (q k : Nat) (M2 : mM) (c : Nat → Nat) (fl : Int), k + q = (visL M n).length → (fl = 0 ∨ fl = 1) → cS M n r M2 c →
    ∃ M' c' fl', ev prog (d + 5) 205 0 14 [vr 87, vi r, vi ((visL M n).length : Int), vi fl, vi (i : Int), vi (k : Int)] [] (shp, M2) = ev prog (d + 5) 205 0 12 [vr 87, vi r, vi ((visL M n).length : Int), vi fl', vi ((i + 1 : Nat) : Int), vj] [] (shp, M') ∧ cS M n r M' c' ∧ (fl' = 0 ∨ fl' = 1) ∧ smF c' (visL M n).length ≤ smF c (visL M n).length ∧
      (fl' = 0 → fl = 0 ∧ c' = c ∧ ∀ k', k ≤ k' → k' < (visL M n).length → ¬ (c k' < c i ∧ adj M n r i k' = true)) ∧ (fl' = 1 → fl = 1 ∨ smF c' (visL M n).length < smF c (visL M n).length) := by
  intro q
  induction q with
  | zero =>
    intro k M2 c fl hk hf hS
    refine ⟨M2, c, fl, ?_, hS, hf, Nat.le_refl _, fun h0 => ⟨h0, rfl, fun k' h1 h2 => absurd h2 (by omega)⟩, fun h1 => Or.inl h1⟩
    rw [g205_14, if_neg (by omega), wI (by omega)]
  | succ q ih =>
    intro k M2 c fl hk hf hS
    have hkm : k < (visL M n).length := by omega
    have hS' := hS
    obtain ⟨s1, s2, s3⟩ := hS
    have hI2 : Iv M2 := h.same s1 (by decide)
    have e1 := s2 k hkm
    have e2 := s2 i hi
    have e3 := (s3 k hkm).2.1
    have e4 := (s3 i hi).2.1
    obtain ⟨-, p1⟩ := pt_at hkm
    obtain ⟨-, p2⟩ := pt_at hi
    have hck := (s3 k hkm).1
    have hci := (s3 i hi).1
    have hcmp : ((pt M n (c k) : Int) < (pt M n (c i) : Int)) ↔ c k < c i := by
      have := pt_lt (M := M) (n := n) (i := c k) (j := c i) (by omega) (by omega)
      omega
    rw [g205_14, if_pos (by omega)]
    simp only [Int.toNat_natCast, e1, e2, e3, e4]
    rw [if_pos (by omega), if_pos (by omega), if_pos (by omega), if_pos (by omega), wI (by omega)]
    by_cases c1 : c k < c i
    · rw [if_pos (hcmp.mpr c1), if_pos (by omega), if_pos (by omega), sp192 hI2 (d + 1) (by omega) (by omega), db_c (s1 8 (by decide)) (s1 34 (by decide)), callK_r, psh_s, g205_23]
      simp only [Int.toNat_natCast, e1, e2, e3]
      rw [wI (by omega)]
      by_cases c2 : db M (pt M n i) (pt M n k) ≤ r
      · have hA : adj M n r i k = true := decide_eq_true c2
        have hup := smF_up (c := c) c1 (visL M n).length hi
        obtain ⟨M', c', fl', a1, a2, a3, a4, a5, a6⟩ := ih (k + 1) _ _ 1 (by omega) (Or.inr rfl) (cS_up hS' hi hkm c1 hA)
        refine ⟨M', c', fl', ?_, a2, a3, by omega, fun h0 => absurd (a5 h0).1 (by decide), fun _ => Or.inr (by omega)⟩
        rw [if_neg (by omega), if_pos (by omega), if_pos (by omega), if_pos (by omega), if_pos (by omega)]
        exact a1
      · have hA : adj M n r i k = false := decide_eq_false c2
        obtain ⟨M', c', fl', a1, a2, a3, a4, a5, a6⟩ := ih (k + 1) M2 c fl (by omega) hf hS'
        refine ⟨M', c', fl', ?_, a2, a3, a4, fun h0 => ?_, a6⟩
        · rw [if_pos (by omega)]
          exact a1
        · obtain ⟨z1, z2, z3⟩ := a5 h0
          refine ⟨z1, z2, fun k' h1 h2 h3 => ?_⟩
          by_cases e : k' = k
          · rw [e, hA] at h3; cases h3.2
          · exact z3 k' (by omega) h2 h3
    · obtain ⟨M', c', fl', a1, a2, a3, a4, a5, a6⟩ := ih (k + 1) M2 c fl (by omega) hf hS'
      refine ⟨M', c', fl', ?_, a2, a3, a4, fun h0 => ?_, a6⟩
      · rw [if_neg (fun q => c1 (hcmp.mp q))]
        exact a1
      · obtain ⟨z1, z2, z3⟩ := a5 h0
        refine ⟨z1, z2, fun k' h1 h2 h3 => ?_⟩
        by_cases e : k' = k
        · rw [e] at h3; exact c1 h3.1
        · exact z3 k' (by omega) h2 h3
theorem l205o {M : mM} (h : Iv M) (d : Nat) {n : Nat} (h200 : n ≤ 200) (h60 : (visL M n).length ≤ 60) (r : Int) :
    ∀ (q i : Nat) (M2 : mM) (c : Nat → Nat) (fl : Int), i + q = (visL M n).length → (fl = 0 ∨ fl = 1) → cS M n r M2 c →
    ∃ M' c' fl', ev prog (d + 5) 205 0 12 [vr 87, vi r, vi ((visL M n).length : Int), vi fl, vi (i : Int), vj] [] (shp, M2) = ev prog (d + 5) 205 0 10 [vr 87, vi r, vi ((visL M n).length : Int), vi fl', vj, vj] [] (shp, M') ∧ cS M n r M' c' ∧ (fl' = 0 ∨ fl' = 1) ∧ smF c' (visL M n).length ≤ smF c (visL M n).length ∧
      (fl' = 0 → fl = 0 ∧ c' = c ∧ ∀ i', i ≤ i' → i' < (visL M n).length → ∀ k', k' < (visL M n).length → ¬ (c k' < c i' ∧ adj M n r i' k' = true)) ∧ (fl' = 1 → fl = 1 ∨ smF c' (visL M n).length < smF c (visL M n).length) := by
  intro q
  induction q with
  | zero =>
    intro i M2 c fl hi hf hS
    refine ⟨M2, c, fl, ?_, hS, hf, Nat.le_refl _, fun h0 => ⟨h0, rfl, fun i' h1 h2 => absurd h2 (by omega)⟩, fun h1 => Or.inl h1⟩
    rw [g205_12, if_neg (by omega)]
  | succ q ih =>
    intro i M2 c fl hi hf hS
    obtain ⟨M3, c3, fl3, a1, a2, a3, a4, a5, a6⟩ := l205i h d h200 h60 r (show i < (visL M n).length by omega) (visL M n).length 0 M2 c fl (by omega) hf hS
    obtain ⟨M', c', fl', b1, b2, b3, b4, b5, b6⟩ := ih (i + 1) M3 c3 fl3 (by omega) a3 a2
    refine ⟨M', c', fl', ?_, b2, b3, by omega, fun h0 => ?_, fun h1 => ?_⟩
    · rw [g205_12, if_pos (by omega)]
      exact a1.trans b1
    · obtain ⟨z1, z2, z3⟩ := b5 h0
      obtain ⟨y1, y2, y3⟩ := a5 z1
      subst y2
      refine ⟨y1, z2, fun i' h1 h2 k' h3 => ?_⟩
      by_cases e : i' = i
      · rw [e]; exact y3 k' (Nat.zero_le _) h3
      · exact z3 i' (by omega) h2 k' h3
    · rcases b6 h1 with h9 | h9
      · rcases a6 h9 with h8 | h8
        · exact Or.inl h8
        · exact Or.inr (by omega)
      · exact Or.inr (by omega)
theorem l205w {M : mM} (h : Iv M) (d : Nat) {n : Nat} (h200 : n ≤ 200) (h60 : (visL M n).length ≤ 60) (r : Int) :
    ∀ (N : Nat) (M2 : mM) (c : Nat → Nat), smF c (visL M n).length < N → cS M n r M2 c →
    ∃ M' c', ev prog (d + 5) 205 0 10 [vr 87, vi r, vi ((visL M n).length : Int), vi 1, vj, vj] [] (shp, M2) = ev prog (d + 5) 205 0 33 [vr 87, vj, vi ((visL M n).length : Int), vj, vi 0, vi 0] [] (shp, M') ∧ cS M n r M' c' ∧ ∀ i, i < (visL M n).length → ∀ k, k < (visL M n).length → ¬ (c' k < c' i ∧ adj M n r i k = true) := by
  intro N
  induction N with
  | zero => intro M2 c hN; exact absurd hN (Nat.not_lt_zero _)
  | succ N ih =>
    intro M2 c hN hS
    obtain ⟨M3, c3, fl3, a1, a2, a3, a4, a5, a6⟩ := l205o h d h200 h60 r (visL M n).length 0 M2 c 0 (by omega) (Or.inl rfl) hS
    rw [g205_10, if_neg (by decide)]
    have a1 : ev prog (d + 5) 205 0 12 [vr 87, vi r, vi ((visL M n).length : Int), vi 0, vi 0, vj] [] (shp, M2) = _ := a1
    rw [a1]
    rcases a3 with h0 | h1
    · obtain ⟨z1, z2, z3⟩ := a5 h0
      refine ⟨M3, c3, ?_, a2, fun i hi k hk => ?_⟩
      · rw [h0, g205_10, if_pos rfl]
      · rw [z2]
        exact z3 i (Nat.zero_le _) hi k hk
    · rcases a6 h1 with h9 | h9
      · exact absurd h9 (by decide)
      · rw [h1]
        exact ih M3 c3 (by omega) a2
theorem sp205 {M : mM} (h : Iv M) (d : Nat) {n : Nat} (hn : M 88 2001 = (n : Int)) (h200 : n ≤ 200) (h60 : (visL M n).length ≤ 60) (r : Int) :
    ∃ M' c, run prog (d + 5) 205 [vr 87, vi r] (shp, M) = some (.inl (some (vi ((fil (fun j => decide (c j = j)) (visL M n).length).length : Int))), (shp, M')) ∧ cl1 (adj M n r) (visL M n).length c ∧ (∀ j, j < (visL M n).length → M' 91 (pt M n j) = (pt M n (c j) : Int)) ∧ same [91, 92] M M' := by
  show ∃ M' c, ev prog (d + 5) 205 0 0 [vr 87, vi r, vj, vj, vj, vj] [] (shp, M) = _ ∧ _
  have hpre : ∀ i, i < n → p125 (i : Int) M = true → (visL M i).length < (visL M n).length ∧ pt M n (visL M i).length = i := by
    intro i hi hv
    obtain ⟨t, ht⟩ := visL_pre (M := M) (show i + 1 ≤ n by omega)
    have hs1 := visL_s M i
    rw [hv] at hs1
    have hs1 : visL M (i + 1) = visL M i ++ [(i : Int)] := hs1
    rw [hs1, List.append_assoc] at ht
    have e : (visL M n)[(visL M i).length]? = some (i : Int) := by
      rw [ht, List.getElem?_append_right (Nat.le_refl _), Nat.sub_self]
      rfl
    have hl := (List.getElem?_eq_some_iff.mp e).1
    refine ⟨hl, ?_⟩
    have := (pt_at hl).1
    rw [e] at this
    have := Option.some.inj this
    omega
  obtain ⟨M1, a1, a2, a3, a4⟩ := up_inv (fun M2 i => ev prog (d + 5) 205 0 1 [vr 87, vi r, vi ((visL M i).length : Int), vi (i : Int), vj, vj] [] (shp, M2))
    (fun i M2 => same [91, 92] M M2 ∧ (∀ j, j < (visL M i).length → M2 92 j = (pt M n j : Int)) ∧ ∀ p, p < i → p125 (p : Int) M = true → M2 91 p = (p : Int)) n (fun i M2 hi hI => by
    obtain ⟨k1, k2, k3⟩ := hI
    have hI2 : Iv M2 := h.same k1 (by decide)
    have hp : p125 (i : Int) M2 = p125 (i : Int) M := cp125 (k1 7 (by decide)) (k1 10 (by decide)) (k1 11 (by decide)) (k1 38 (by decide)) _
    have hs1 := visL_s M i
    have hle := visL_le M i
    show ∃ M', ev prog (d + 5) 205 0 1 [vr 87, vi r, vi ((visL M i).length : Int), vi (i : Int), vj, vj] [] (shp, M2) = ev prog (d + 5) 205 0 1 [vr 87, vi r, vi ((visL M (i + 1)).length : Int), vi ((i + 1 : Nat) : Int), vj, vj] [] (shp, M') ∧ _
    rw [g205_1, k1 88 (by decide), hn, if_pos (by omega), sp129 hI2 d, hp, callK_r, psh_s, g205_4, wI (by omega), wI (by omega)]
    cases hv : p125 (i : Int) M with
    | false =>
      rw [hv] at hs1
      have hs1 : visL M (i + 1) = visL M i := hs1
      refine ⟨M2, by rw [if_pos (show bi false = 0 from rfl), hs1], k1, by rw [hs1]; exact k2, fun p hp1 hp2 => ?_⟩
      by_cases e : p = i
      · rw [e, hv] at hp2; cases hp2
      · exact k3 p (by omega) hp2
    | true =>
      rw [hv] at hs1
      have hs1 : visL M (i + 1) = visL M i ++ [(i : Int)] := hs1
      obtain ⟨q1, q2⟩ := hpre i hi hv
      refine ⟨mset (mset M2 91 i (i : Int)) 92 (visL M i).length (i : Int), ?_, (k1.tr (same_mset.mono (by decide))).tr (same_mset.mono (by decide)), fun j hj => ?_, fun p hp1 hp2 => ?_⟩
      · rw [if_neg (show ¬ bi true = 0 by decide), if_pos (by omega), if_pos (by omega), Int.toNat_natCast, Int.toNat_natCast, hs1, List.length_append]
        rfl
      · rw [hs1, List.length_append] at hj
        have hj : j < (visL M i).length + 1 := hj
        by_cases e : j = (visL M i).length
        · rw [e, mset_at, q2]
        · rw [mset_j e, mset_k (by decide)]
          exact k2 j (by omega)
      · rw [mset_k (by decide)]
        by_cases e : p = i
        · rw [e, mset_at]
        · rw [mset_j e]
          exact k3 p (by omega) hp2) (M := M) ⟨same.rf, fun j hj => absurd hj (Nat.not_lt_zero _), fun p hp => absurd hp (Nat.not_lt_zero _)⟩
  obtain ⟨M', c, b1, b2, b3⟩ := l205w h d h200 h60 r _ M1 (fun j => j) (Nat.lt_succ_self _) ⟨a2, a3, fun j hj => by
    obtain ⟨e1, e2⟩ := pt_at hj
    obtain ⟨p, p1, p2, p3⟩ := visL_at e1
    have : pt M n j = p := by omega
    refine ⟨Nat.le_refl _, ?_, fun g _ => rfl⟩
    rw [this]
    exact a4 p p2 p3⟩
  obtain ⟨c1, c2, c3⟩ := b2
  refine ⟨M', c, ?_, ⟨fun a b ha hb hab => ?_, fun i hi => ⟨(c3 i hi).1, (c3 i hi).2.2⟩⟩, fun j hj => (c3 j hj).2.1, c1⟩
  · rw [g205_0]
    refine Eq.trans a1 ?_
    show ev prog (d + 5) 205 0 1 [vr 87, vi r, vi ((visL M n).length : Int), vi (n : Int), vj, vj] [] (shp, M1) = _
    rw [g205_1, a2 88 (by decide), hn, if_neg (by omega), b1]
    have key := up_to (fun i => ev prog (d + 5) 205 0 33 [vr 87, vj, vi ((visL M n).length : Int), vj, vi ((fil (fun j => decide (c j = j)) i).length : Int), vi (i : Int)] [] (shp, M')) (visL M n).length (fun i hi => by
      have hl := fil_le (fun j => decide (c j = j)) i
      have e1 := c2 i hi
      obtain ⟨d1, d2, -⟩ := c3 i hi
      obtain ⟨-, p1⟩ := pt_at hi
      show ev prog (d + 5) 205 0 33 [vr 87, vj, vi ((visL M n).length : Int), vj, vi ((fil (fun j => decide (c j = j)) i).length : Int), vi (i : Int)] [] (shp, M') = ev prog (d + 5) 205 0 33 [vr 87, vj, vi ((visL M n).length : Int), vj, vi ((fil (fun j => decide (c j = j)) (i + 1)).length : Int), vi ((i + 1 : Nat) : Int)] [] (shp, M')
      rw [g205_33, if_pos (by omega)]
      simp only [Int.toNat_natCast, e1, d2]
      rw [if_pos (by omega), if_pos (by omega), if_pos (by omega), wI (by omega), wI (by omega), w0 (by omega)]
      by_cases e : c i = i
      · rw [fil_t (decide_eq_true e), List.length_append, if_pos (by rw [e])]
        rfl
      · rw [fil_f (decide_eq_false e), if_neg]
        intro q
        exact e (pt_inj (by omega) hi (by omega)))
    refine Eq.trans key ?_
    show ev prog (d + 5) 205 0 33 [vr 87, vj, vi ((visL M n).length : Int), vj, vi ((fil (fun j => decide (c j = j)) (visL M n).length).length : Int), vi ((visL M n).length : Int)] [] (shp, M') = _
    rw [g205_33, if_neg (by omega)]
  · have h1 := b3 a ha b hb
    have h2 := b3 b hb a ha
    have hba : adj M n r b a = true := by rw [adj_comm]; exact hab
    by_cases e1 : c b < c a
    · exact absurd ⟨e1, hab⟩ h1
    · by_cases e2 : c a < c b
      · exact absurd ⟨e2, hba⟩ h2
      · omega
theorem adj_thr (M : mM) (k : Int) (n : Nat) (r : Int) : adj (mset M 87 3 k) n r = adj M n r := by
  funext i j
  unfold adj pt
  rw [visL_thr, db_thr]
theorem pt_thr (M : mM) (k : Int) (n i : Nat) : pt (mset M 87 3 k) n i = pt M n i := by
  unfold pt
  rw [visL_thr]
theorem sp206 {M : mM} (h : Iv M) (d : Nat) {n : Nat} (hn : M 7 4 = (n : Int)) (h60 : (visL M n).length ≤ 60) (r : Int) :
    ∃ M' c, run prog (d + 6) 206 [vr 87, vi r] (shp, M) = some (.inl (some (vi ((fil (fun j => decide (c j = j)) (visL M n).length).length : Int))), (shp, M')) ∧ cl1 (adj M n r) (visL M n).length c ∧ M' 87 3 = 0 ∧ same [91, 92] (mset M 87 3 0) M' := by
  show ∃ M' c, ev prog (d + 6) 206 0 0 [vr 87, vi r] [] (shp, M) = _ ∧ _
  obtain ⟨n', h1, h2, h3⟩ := h.cr
  have e : n' = n := by omega
  subst e
  obtain ⟨M', c, a1, a2, a3, a4⟩ := sp205 (h.thr 0) d (cr_thr h3 0) h2 (by rw [visL_thr]; exact h60) r
  rw [visL_thr, adj_thr] at a2
  rw [visL_thr] at a1
  exact ⟨M', c, by rw [g206_0, a1, callK_r, psh_s, g206_1], a2, by rw [a4 87 (by decide)]; exact thr_at _ _, a4⟩
theorem sp210 {M : mM} (h : Iv M) (d : Nat) {n : Nat} (hn : M 7 4 = (n : Int)) (h60 : (visL M n).length ≤ 60) (x r : Int) :
    (p125 x M = false → run prog (d + 6) 210 [vr 87, vi x, vi r] (shp, M) = some (.inl (some (vi 0)), (shp, mset (mset M 87 3 0) 87 3 1))) ∧
    (∀ i, i < (visL M n).length → x = (pt M n i : Int) → p125 x M = true → ∃ M' c, run prog (d + 6) 210 [vr 87, vi x, vi r] (shp, M) = some (.inl (some (vi (pt M n (c i) : Int))), (shp, M')) ∧ cl1 (adj M n r) (visL M n).length c ∧ M' 87 3 = 0 ∧ same [91, 92] (mset M 87 3 0) M') := by
  have e0 : run prog (d + 6) 210 [vr 87, vi x, vi r] (shp, M) = ev prog (d + 6) 210 0 0 [vr 87, vi x, vi r] [] (shp, M) := rfl
  obtain ⟨n', h1, h2, h3⟩ := h.cr
  have e : n' = n := by omega
  subst e
  rw [e0, g210_0, sp129 (h.thr 0) (d + 1), p125_thr, callK_r, psh_s, g210_1]
  refine ⟨fun hv => by rw [hv]; rfl, fun i hi hx hv => ?_⟩
  obtain ⟨M', c, a1, a2, a3, a4⟩ := sp205 (h.thr 0) d (cr_thr h3 0) h2 (by rw [visL_thr]; exact h60) r
  rw [visL_thr, adj_thr] at a2
  rw [visL_thr] at a3
  refine ⟨M', c, ?_, a2, by rw [a4 87 (by decide)]; exact thr_at _ _, a4⟩
  have e1 := a3 i hi
  rw [pt_thr, pt_thr] at e1
  have p1 := (pt_at hi).2
  rw [hv, if_neg (show ¬ bi true = 0 by decide), a1, callK_r, psh_s, g210_5, hx, if_pos (by omega), Int.toNat_natCast, e1]
