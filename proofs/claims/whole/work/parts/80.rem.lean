/-! THE CLASS REMOVES, REBUILDS, SHIFTS -/
theorem root_sub {s k : Nat} {v : Unit} {l r : Tr} : subT (.inner s k v l r) k = .inner s k v l r ∧ dpt (.inner s k v l r) k = 0 ∧ ∀ B, rplB (.inner s k v l r) k B = B := by
  refine ⟨?_, ?_, fun B => ?_⟩
  · unfold subT; rw [if_pos rfl]
  · unfold dpt; rw [if_pos rfl]
  · unfold rplB; rw [if_pos rfl]
def st3 (M : mM) (t : Tr) (x : Int) : Int := match t with
  | .leaf => x
  | .inner _ _ _ _ _ => wr (x + ((lk M t).length : Int))
/-- rebuilding the whole tree -/
theorem sp47r {M : mM} (d : Nat) {n : Nat} {t : Tr} (h : CT M n t) (h60 : (lk M t).length ≤ 60) {c : Nat} (hc : c < 3) :
    ∃ M', run prog (d + 6) 47 [vr 25, vi (M 12 11), vi (c : Int)] (shp, M) = some (.inl none, (shp, M')) ∧ same [12, 13, 14, 15, 16, 17, 18, 19, 20, 21, 22, 23, 24, 25, 26, 27, 28, 29, 30, 31, 32] M M' ∧ CT M' n (bld M (lk M t) 0) ∧ M' 26 c = wr (M 26 c + 1) ∧ M' 26 3 = st3 M t (M 26 3) ∧ ∀ j, j ≠ c → j ≠ 3 → M' 26 j = M 26 j := by
  have h' := h
  obtain ⟨h1, h2, h3, h4, h5, h6⟩ := h
  have hr := isT_rt h3
  cases t with
  | leaf =>
    have hm : same [26] M (mset M 26 c (wr (M 26 c + 1))) := same_mset
    rw [hr]
    refine ⟨_, sp47n d hc, hm.mono (by decide), ?_, mset_at _ _ _ _, mset_j (by omega), fun j h1 _ => mset_j h1⟩
    refine ⟨by rw [hm 7 (by decide)]; exact h1, h2, ?_, h4, h5, TD_c (fun x hx => hm x (by simp at hx ⊢; omega)) h6⟩
    rw [hm 12 (by decide)]
    exact hr
  | inner s k v l r =>
    obtain ⟨e1, e2, e3⟩ := @root_sub s k v l r
    rw [hr]
    obtain ⟨M', a1, a2, a3, a4, a5, a6, a7⟩ := sp47 d h1 h2 h3 h4 h5 h6 (k := k) List.mem_cons_self (by rw [e1]; exact h60) hc
    obtain ⟨r1, r2⟩ := rebuilt (M := M) h4 (k := k) List.mem_cons_self (dpt (.inner s k v l r) k)
    rw [e1, e2, e3] at a3 a4 r1 r2
    rw [e1] at a6
    exact ⟨M', a1, a2, CT_reb h' (a2 7 (by decide)) a3 a4 r1 (fun x hx => ((r2 x).mp hx).1), a5, a6, a7⟩
/-- refreshing, after some points were changed -/
theorem CT_ref (d : Nat) {M M1 : mM} {n : Nat} {t : Tr} (h : CT M n t) (hs : same [7, 8, 9, 10, 11] M M1) (h7 : M1 7 4 = (n : Int)) : ∃ M', run prog (d + 5) 38 [vr 12] (shp, M1) = some (.inl none, (shp, M')) ∧ same [14, 15, 16, 17, 18, 19, 20, 21, 22, 23, 24] M1 M' ∧ CT M' n t := by
  obtain ⟨h1, h2, h3, h4, h5, h6⟩ := h
  have hT : isT (clf M1) (crf M1) t (M1 12 11) := by rw [clf_c (hs 13 (by decide)), crf_c (hs 13 (by decide)), hs 12 (by decide)]; exact h3
  obtain ⟨M', a1, a2, a3⟩ := sp38 (M := M1) d h7 h2 hT h4 h5
  exact ⟨M', a1, a2, by rw [a2 7 (by decide)]; exact h7, h2, by rw [clf_c (a2 13 (by decide)), crf_c (a2 13 (by decide)), a2 12 (by decide)]; exact hT, h4, h5, a3⟩
def kpM (M : mM) (p : Nat) : mM := mset (mset M 11 p 0) 7 5 (wr (M 7 5 - 1))
theorem kpM_s {M : mM} {p : Nat} : same [7, 11] M (kpM M p) := (same_mset.mono (by decide)).tr (same_mset.mono (by decide))
/-- is the whole tree rebuilt -/
def rmB (M1 : mM) (t : Tr) : Bool := decide (M1 34 1 * (sz t : Int) < ((sz t : Int) - M1 7 5) * 100)
theorem sp69 (d : Nat) {M : mM} (hop : 0 ≤ M 34 1 ∧ M 34 1 ≤ 95) {n : Nat} {t : Tr} (h : CT M n t) {p lc : Nat} (hp : p < n) (hlc : (kpM M p) 7 5 = (lc : Int)) (h60 : lc ≤ 60) (hlk : (lk (kpM M p) t).length ≤ 60) :
    ∃ M', run prog (d + 7) 69 [vr 6, vi (p : Int)] (shp, M) = some (.inl none, (shp, M')) ∧ same [12, 13, 14, 15, 16, 17, 18, 19, 20, 21, 22, 23, 24, 25, 26, 27, 28, 29, 30, 31, 32] (kpM M p) M' ∧
      (rmB (kpM M p) t = false → CT M' n t ∧ ∀ j, M' 26 j = M 26 j) ∧ (rmB (kpM M p) t = true → CT M' n (bld (kpM M p) (lk (kpM M p) t) 0) ∧ M' 26 1 = wr (M 26 1 + 1) ∧ M' 26 3 = st3 (kpM M p) t (M 26 3) ∧ ∀ j, j ≠ 1 → j ≠ 3 → M' 26 j = M 26 j) := by
  show ∃ M', ev prog (d + 7) 69 0 0 [vr 6, vi (p : Int), vj] [] (shp, M) = _ ∧ _
  have hsz := sz_le h.2.2.1 h.2.2.2.1
  have h200 := h.2.1
  have k7 : kpM M p 7 4 = (n : Int) := by
    unfold kpM
    rw [mset_j (by decide), mset_k (by decide)]
    exact h.1
  obtain ⟨M2, a1, a2, a3⟩ := CT_ref (d + 1) h (kpM_s.mono (by decide)) k7
  have e34 : M2 34 = M 34 := (a2 34 (by decide)).trans (kpM_s 34 (by decide))
  have e21 : M2 21 1 = (sz t : Int) := by
    have := a3.2.2.2.2.2.1.1
    rw [natI_len] at this
    exact this
  have e75 : M2 7 5 = (lc : Int) := by rw [a2 7 (by decide)]; exact hlc
  have e39 : r39 1 M2 = M 34 1 := by
    show va M2 34 6 1 = _
    rw [va_in ⟨by decide, by decide⟩, e34]
    rfl
  have m1 := mul_le3 (A := 95) (B := 200) hop (show 0 ≤ ((sz t : Nat) : Int) ∧ ((sz t : Nat) : Int) ≤ 200 by omega)
  have hcond : rmB (kpM M p) t = decide (M 34 1 * (sz t : Int) < ((sz t : Int) - (lc : Int)) * 100) := by
    unfold rmB
    rw [hlc, kpM_s 34 (by decide)]
  have head : ev prog (d + 7) 69 0 0 [vr 6, vi (p : Int), vj] [] (shp, M) = if M 34 1 * (sz t : Int) < ((sz t : Int) - (lc : Int)) * 100 then callK (run prog (d + 6) 47 [vr 25, vi (M2 12 11), vi 1] (shp, M2)) (fun v σ1 => ev prog (d + 7) 69 0 5 [vj, vj, vj] (psh v []) σ1) (fun e σ1 => hk [0, 0, 0, 0, 0] e σ1 (fun t => ev prog (d + 7) 69 0 t (msk (pMask prog 69 t) [vr 6, vj, vj]) [vj] σ1)) else some (.inl none, (shp, M2)) := by
    have hpu : pu M 11 200 (p : Int) 0 = mset M 11 p 0 := by rw [pu_in ⟨by omega, by omega⟩, Int.toNat_natCast]
    rw [g69_0, hpu, show mset (mset M 11 p 0) 7 5 (wr (M 7 5 - 1)) = kpM M p from rfl, a1, callK_r, psh_n, g69_2, e39, e21, e75]
    generalize M 34 1 * (sz t : Int) = Y at m1
    rw [wrR (x := Y) (by omega) (by omega), wrR (x := (sz t : Int) - (lc : Int)) (by omega) (by omega), wrR (by omega) (by omega)]
  rw [head]
  by_cases c : M 34 1 * (sz t : Int) < ((sz t : Int) - (lc : Int)) * 100
  · have hl2 : lk M2 = lk (kpM M p) := by funext s; exact lk_c (a2 11 (by decide)) s
    obtain ⟨M', b1, b2, b3, b4, b5, b6⟩ := sp47r (M := M2) d a3 (by rw [hl2]; exact hlk) (c := 1) (by decide)
    rw [hl2, show bld M2 = bld (kpM M p) from by funext l dp; exact bld_c (a2 8 (by decide)) l dp] at b3
    refine ⟨M', ?_, (a2.mono (by decide)).tr b2, fun q => ?_, fun _ => ⟨b3, ?_, ?_, fun j h1 h2 => ?_⟩⟩
    · have b1 : run prog (d + 6) 47 [vr 25, vi (M2 12 11), vi 1] (shp, M2) = _ := b1
      rw [if_pos c, b1, callK_r, psh_n, g69_5]
    · rw [hcond, decide_eq_true c] at q; cases q
    · rw [b4, a2 26 (by decide), kpM_s 26 (by decide)]
    · rw [b5, a2 26 (by decide), kpM_s 26 (by decide)]
      cases t with
      | leaf => rfl
      | inner s k v l r => show wr _ = wr _; rw [hl2]
    · rw [b6 j h1 h2, a2 26 (by decide), kpM_s 26 (by decide)]
  · refine ⟨M2, by rw [if_neg c], a2.mono (by decide), fun _ => ⟨a3, fun j => by rw [a2 26 (by decide), kpM_s 26 (by decide)]⟩, fun q => ?_⟩
    rw [hcond, decide_eq_false c] at q; cases q
/-! the height -/
theorem ht_dpt : ∀ {t : Tr}, (ks t).Nodup → t ≠ .leaf → ∃ k, k ∈ ks t ∧ dpt t k + 1 = ht t := by
  intro t
  induction t with
  | leaf => intro _ h; exact absurd rfl h
  | inner s x v l r ihl ihr =>
    intro hnd _
    obtain ⟨n1, n2, n3, n4, n5⟩ := nd_i hnd
    have hh : ht (.inner s x v l r : Tr) = 1 + (if ht l < ht r then ht r else ht l) := rfl
    have ed : ∀ k, dpt (.inner s x v l r) k = if k = x then 0 else if k ∈ ks l then dpt l k + 1 else dpt r k + 1 := fun _ => rfl
    by_cases c : ht l < ht r
    · have hr : r ≠ .leaf := fun e => by rw [e] at c; exact absurd c (Nat.not_lt_zero _)
      obtain ⟨k, k1, k2⟩ := ihr n4 hr
      refine ⟨k, mem_r k1, ?_⟩
      rw [hh, if_pos c, ed, if_neg (fun e => n2 (by rw [← e]; exact k1)), if_neg (fun e => n5 k e k1)]
      omega
    · by_cases c2 : l = .leaf
      · have hl0 : ht l = 0 := by rw [c2]; rfl
        refine ⟨x, List.mem_cons_self, ?_⟩
        rw [hh, if_neg c, ed, if_pos rfl, hl0]
      · obtain ⟨k, k1, k2⟩ := ihl n3 c2
        refine ⟨k, mem_l k1, ?_⟩
        rw [hh, if_neg c, ed, if_neg (fun e => n1 (by rw [← e]; exact k1)), if_pos k1]
        omega
theorem sp116 (d : Nat) {M : mM} {n : Nat} {t : Tr} (h : CT M n t) : run prog (d + 1) 116 [vr 12] (shp, M) = some (.inl (some (vi ((ht t : Int) - 1))), (shp, M)) := by
  show ev prog (d + 1) 116 0 0 [vr 12, vj, vj] [] (shp, M) = _
  obtain ⟨h1, h2, h3, h4, h5, h6⟩ := h
  have h15 : ∀ j, j < 200 → M 15 j ≤ (ht t : Int) - 1 := fun j hj => by
    by_cases c : j ∈ ks t
    · have := dpt_lt c
      rw [(dv_at h6.2.1 c).2.1]
      omega
    · rw [h6.2.2.2 j hj c]; omega
  have loop : ∀ (q i : Nat) (z : Int), i + q = 200 → (z = -1 ∨ ∃ j, j < i ∧ z = M 15 j) → -1 ≤ z → (∀ j, j < i → M 15 j ≤ z) → ev prog (d + 1) 116 0 1 [vr 12, vi z, vi (i : Int)] [] (shp, M) = some (.inl (some (vi ((ht t : Int) - 1))), (shp, M)) := by
    intro q
    induction q with
    | zero =>
      intro i z hi k1 k2 k3
      have hz : z = (ht t : Int) - 1 := by
        by_cases c : t = .leaf
        · have e0 : ht t = 0 := by rw [c]; rfl
          rcases k1 with k1 | ⟨j, j1, j2⟩
          · omega
          · have := h15 j (by omega); omega
        · obtain ⟨k, q1, q2⟩ := ht_dpt h4 c
          have e1 := (dv_at h6.2.1 q1).2.1
          have e2 := k3 k (by have := h5 k q1; omega)
          rw [e1] at e2
          rcases k1 with k1 | ⟨j, j1, j2⟩
          · omega
          · have := h15 j (by omega); omega
      rw [g116_1, if_neg (by omega), hz]
    | succ q ih =>
      intro i z hi k1 k2 k3
      rw [g116_1, if_pos (by omega), if_pos (by omega), Int.toNat_natCast, wI (by omega)]
      by_cases c : z < M 15 i
      · rw [if_pos c]
        exact ih (i + 1) _ (by omega) (Or.inr ⟨i, by omega, rfl⟩) (by omega) (fun j hj => by
          by_cases e : j = i
          · rw [e]; exact Int.le_refl _
          · have := k3 j (by omega); omega)
      · rw [if_neg c]
        exact ih (i + 1) _ (by omega) (k1.elim Or.inl (fun ⟨j, j1, j2⟩ => Or.inr ⟨j, by omega, j2⟩)) k2 (fun j hj => by
          by_cases e : j = i
          · rw [e]; omega
          · exact k3 j (by omega))
  rw [g116_0]
  exact loop 200 0 (-1) (by omega) (Or.inl rfl) (Int.le_refl _) (fun j hj => absurd hj (Nat.not_lt_zero _))
/-! shifting -/
def mvOk (M : mM) (dx dy dz : Int) (k : Nat) : Bool := decide ((-100 ≤ M 8 (3 * k) + dx ∧ M 8 (3 * k) + dx ≤ 100) ∧ (-100 ≤ M 8 (3 * k + 1) + dy ∧ M 8 (3 * k + 1) + dy ≤ 100) ∧ (-100 ≤ M 8 (3 * k + 2) + dz ∧ M 8 (3 * k + 2) + dz ≤ 100))
theorem p12_iff (x l : Int) (hl : 0 ≤ l ∧ l ≤ 1000) (M : mM) : p12 x l M = decide (-l ≤ x ∧ x ≤ l) := by
  unfold p12
  rw [wrR (by omega) (by omega)]
  by_cases c : x < -l
  · rw [if_pos c, decide_eq_false (by omega)]
  · rw [if_neg c]
    by_cases c2 : l < x
    · rw [if_pos c2, decide_eq_false (by omega)]
    · rw [if_neg c2, decide_eq_true (by omega)]
theorem p13_iff (x y z : Int) (M : mM) : p13 x y z M = decide ((-100 ≤ x ∧ x ≤ 100) ∧ (-100 ≤ y ∧ y ≤ 100) ∧ (-100 ≤ z ∧ z ≤ 100)) := by
  unfold p13
  rw [p12_iff x 100 (by decide), p12_iff y 100 (by decide), p12_iff z 100 (by decide)]
  by_cases c1 : -100 ≤ x ∧ x ≤ 100
  · rw [decide_eq_true c1, if_neg (show ¬ bi true = 0 by decide)]
    by_cases c2 : -100 ≤ y ∧ y ≤ 100
    · rw [decide_eq_true c2, if_neg (show ¬ bi true = 0 by decide)]
      by_cases c3 : -100 ≤ z ∧ z ≤ 100
      · rw [decide_eq_true c3, if_neg (show ¬ bi true = 0 by decide), decide_eq_true ⟨c1, c2, c3⟩]
      · rw [decide_eq_false c3, if_pos (show bi false = 0 from rfl), decide_eq_false (fun q => c3 q.2.2)]
    · rw [decide_eq_false c2, if_pos (show bi false = 0 from rfl), decide_eq_false (fun q => c2 q.2.1)]
  · rw [decide_eq_false c1, if_pos (show bi false = 0 from rfl), decide_eq_false (fun q => c1 q.1)]
theorem wrS {a b : Int} (ha : -1000 ≤ a ∧ a ≤ 1000) (hb : -1000 ≤ b ∧ b ≤ 1000) : wr (a + b) = a + b := wrR (by omega) (by omega)
theorem c1k {a : Int} (h : -100 ≤ a ∧ a ≤ 100) : -1000 ≤ a ∧ a ≤ 1000 := by omega
theorem c2k {a : Int} (h : -200 ≤ a ∧ a ≤ 200) : -1000 ≤ a ∧ a ≤ 1000 := by omega
theorem pre_r30 {M : mM} {t : Tr} (h : nums M 21 (natI (ks t))) (hsz : sz t ≤ 200) {i : Nat} (hi : i < (ks t).length) : r30b (i : Int) M = ((ks t)[i] : Int) := by
  have hl : (ks t).length ≤ 200 := hsz
  show va M 22 200 (i : Int) = _
  rw [va_in ⟨by omega, by omega⟩, Int.toNat_natCast]
  exact h.2 i _ (natI_at (List.getElem?_eq_getElem hi))
theorem sp94 (d : Nat) {M : mM} (hco : ∀ j, j < 600 → -100 ≤ M 8 j ∧ M 8 j ≤ 100) {n : Nat} {t : Tr} (h : CT M n t) {dx dy dz : Int} (hx : -200 ≤ dx ∧ dx ≤ 200) (hy : -200 ≤ dy ∧ dy ≤ 200) (hz : -200 ≤ dz ∧ dz ≤ 200) : run prog (d + 3) 94 [vr 12, vi dx, vi dy, vi dz] (shp, M) = some (.inl (some (vi (bi ((ks t).all (mvOk M dx dy dz))))), (shp, M)) := by
  show ev prog (d + 3) 94 0 0 [vr 12, vi dx, vi dy, vi dz, vj, vj] [] (shp, M) = _
  obtain ⟨h1, h2, h3, h4, h5, h6⟩ := h
  have hsz := sz_le h3 h4
  have hc : M 21 1 = ((ks t).length : Int) := by rw [h6.1.1, natI_len]
  rw [g94_0]
  refine up_ex (fun i => ev prog (d + 3) 94 0 1 [vr 12, vi dx, vi dy, vi dz, vi (i : Int), vj] [] (shp, M)) _ (fun i => ((ks t).take i).all (mvOk M dx dy dz) = true) (ks t).length (fun i hi hP => ?_) rfl (fun hP => ?_)
  · have hl : (ks t).length ≤ 200 := hsz
    have hk : (ks t)[i] < 200 := by have := h5 _ (List.getElem_mem hi); omega
    have c0 := hco (3 * (ks t)[i]) (by omega)
    have c1 := hco (3 * (ks t)[i] + 1) (by omega)
    have c2 := hco (3 * (ks t)[i] + 2) (by omega)
    have e0 : r20 (((ks t)[i] : Nat) : Int) 0 M = M 8 (3 * (ks t)[i]) := r20_at M hk (a := 0) (by decide)
    have e1 : r20 (((ks t)[i] : Nat) : Int) 1 M = M 8 (3 * (ks t)[i] + 1) := r20_at M hk (a := 1) (by decide)
    have e2 : r20 (((ks t)[i] : Nat) : Int) 2 M = M 8 (3 * (ks t)[i] + 2) := r20_at M hk (a := 2) (by decide)
    have htk : (ks t).take (i + 1) = (ks t).take i ++ [(ks t)[i]] := by rw [List.take_succ, List.getElem?_eq_getElem hi]; rfl
    show ev prog (d + 3) 94 0 1 [vr 12, vi dx, vi dy, vi dz, vi (i : Int), vj] [] (shp, M) = _ ∨ (ev prog (d + 3) 94 0 1 [vr 12, vi dx, vi dy, vi dz, vi (i : Int), vj] [] (shp, M) = ev prog (d + 3) 94 0 1 [vr 12, vi dx, vi dy, vi dz, vi ((i + 1 : Nat) : Int), vj] [] (shp, M) ∧ _)
    have ep : p13 (M 8 (3 * (ks t)[i]) + dx) (M 8 (3 * (ks t)[i] + 1) + dy) (M 8 (3 * (ks t)[i] + 2) + dz) M = mvOk M dx dy dz (ks t)[i] := p13_iff _ _ _ M
    rw [g94_1, hc, if_pos (by omega), pre_r30 h6.1 hsz hi, e0, e1, e2, wI (by omega), wrS (c1k c0) (c2k hx), wrS (c1k c1) (c2k hy), wrS (c1k c2) (c2k hz), ep]
    cases hv : mvOk M dx dy dz (ks t)[i] with
    | true =>
      refine Or.inr ⟨by rw [if_neg (show ¬ bi true = 0 by decide)], ?_⟩
      rw [htk, List.all_append, hP]
      simp [hv]
    | false =>
      refine Or.inl ?_
      have : (ks t).all (mvOk M dx dy dz) = false := by
        rw [List.all_eq_false]
        exact ⟨_, List.getElem_mem hi, by rw [hv]; decide⟩
      rw [if_pos (show bi false = 0 from rfl), this]
      rfl
  · show ev prog (d + 3) 94 0 1 [vr 12, vi dx, vi dy, vi dz, vi ((ks t).length : Int), vj] [] (shp, M) = _
    rw [List.take_length] at hP
    rw [g94_1, hc, if_neg (by omega), hP]
    rfl
/-- the coordinates after a shift of the points in L -/
def mv8 (M : mM) (L : List Nat) (dx dy dz : Int) (M' : mM) : Prop := (∀ k, k ∈ L → M' 8 (3 * k) = M 8 (3 * k) + dx ∧ M' 8 (3 * k + 1) = M 8 (3 * k + 1) + dy ∧ M' 8 (3 * k + 2) = M 8 (3 * k + 2) + dz) ∧ ∀ k, k ∉ L → M' 8 (3 * k) = M 8 (3 * k) ∧ M' 8 (3 * k + 1) = M 8 (3 * k + 1) ∧ M' 8 (3 * k + 2) = M 8 (3 * k + 2)
theorem mv8_one {M M1 : mM} {L : List Nat} {dx dy dz : Int} (h : mv8 M L dx dy dz M1) {k : Nat} (hk : k ∉ L) : mv8 M (L ++ [k]) dx dy dz (mset (mset (mset M1 8 (3 * k) (M 8 (3 * k) + dx)) 8 (3 * k + 1) (M 8 (3 * k + 1) + dy)) 8 (3 * k + 2) (M 8 (3 * k + 2) + dz)) := by
  obtain ⟨h1, h2⟩ := h
  refine ⟨fun j hj => ?_, fun j hj => ?_⟩
  · by_cases c : j = k
    · subst c
      refine ⟨?_, ?_, mset_at _ _ _ _⟩
      · rw [mset_j (by omega), mset_j (by omega), mset_at]
      · rw [mset_j (by omega), mset_at]
    · have hjL : j ∈ L := by
        rcases List.mem_append.mp hj with q | q
        · exact q
        · exact absurd (List.mem_singleton.mp q) c
      rw [mset_j (by omega), mset_j (by omega), mset_j (by omega), mset_j (by omega), mset_j (by omega), mset_j (by omega), mset_j (by omega), mset_j (by omega), mset_j (by omega)]
      exact h1 j hjL
  · have c : j ≠ k := fun e => hj (List.mem_append.mpr (Or.inr (by rw [e]; exact List.mem_singleton.mpr rfl)))
    rw [mset_j (by omega), mset_j (by omega), mset_j (by omega), mset_j (by omega), mset_j (by omega), mset_j (by omega), mset_j (by omega), mset_j (by omega), mset_j (by omega)]
    exact h2 j (fun q => hj (List.mem_append.mpr (Or.inl q)))
theorem sp96 (d : Nat) {M : mM} {n : Nat} {t : Tr} (h : CT M n t) {dx dy dz : Int} (hok : (ks t).all (mvOk M dx dy dz) = true) : ∃ M' M1, run prog (d + 6) 96 [vr 12, vi dx, vi dy, vi dz] (shp, M) = some (.inl none, (shp, M')) ∧ mv8 M (ks t) dx dy dz M1 ∧ same [8] M M1 ∧ same [14, 15, 16, 17, 18, 19, 20, 21, 22, 23, 24] M1 M' ∧ CT M' n t := by
  show ∃ M' M1, ev prog (d + 6) 96 0 0 [vr 12, vi dx, vi dy, vi dz, vj, vj] [] (shp, M) = _ ∧ _
  have h' := h
  obtain ⟨h1, h2, h3, h4, h5, h6⟩ := h
  have hsz := sz_le h3 h4
  have hl : (ks t).length ≤ 200 := hsz
  obtain ⟨M1, a1, a2, a3⟩ := up_inv (fun N i => ev prog (d + 6) 96 0 1 [vr 12, vi dx, vi dy, vi dz, vi (i : Int), vj] [] (shp, N)) (fun i N => mv8 M ((ks t).take i) dx dy dz N ∧ same [8] M N) (ks t).length (fun i N hi hI => by
    obtain ⟨k1, k2⟩ := hI
    have hk : (ks t)[i] < 200 := by have := h5 _ (List.getElem_mem hi); omega
    have htk : (ks t).take (i + 1) = (ks t).take i ++ [(ks t)[i]] := by rw [List.take_succ, List.getElem?_eq_getElem hi]; rfl
    have hnot : (ks t)[i] ∉ (ks t).take i := by
      have e : ks t = (ks t).take i ++ (ks t).drop i := (List.take_append_drop i (ks t)).symm
      have hn : ((ks t).take i ++ (ks t).drop i).Nodup := by rw [← e]; exact h4
      obtain ⟨-, -, n3⟩ := List.nodup_append.mp hn
      intro q
      exact n3 _ q _ (by rw [List.drop_eq_getElem_cons hi]; exact List.mem_cons_self) rfl
    have hv := List.all_eq_true.mp hok _ (List.getElem_mem hi)
    have hv := of_decide_eq_true hv
    obtain ⟨c1, c2, c3⟩ := k1.2 _ hnot
    have hN : nums N 21 (natI (ks t)) := nums_same h6.1 (k2 21 (by decide)) (k2 22 (by decide))
    have hc : N 21 1 = ((ks t).length : Int) := by rw [hN.1, natI_len]
    have p8 : ∀ (N : mM) (j : Nat) (w : Int), j < 600 → pu N 8 600 (j : Int) w = mset N 8 j w := fun N j w hj => by rw [pu_in ⟨by omega, by omega⟩, Int.toNat_natCast]
    have e0 : ∀ N : mM, r20 (((ks t)[i] : Nat) : Int) 0 N = N 8 (3 * (ks t)[i]) := fun N => r20_at N hk (a := 0) (by decide)
    have e1 : ∀ N : mM, r20 (((ks t)[i] : Nat) : Int) 1 N = N 8 (3 * (ks t)[i] + 1) := fun N => r20_at N hk (a := 1) (by decide)
    have e2 : ∀ N : mM, r20 (((ks t)[i] : Nat) : Int) 2 N = N 8 (3 * (ks t)[i] + 2) := fun N => r20_at N hk (a := 2) (by decide)
    show ∃ M', ev prog (d + 6) 96 0 1 [vr 12, vi dx, vi dy, vi dz, vi (i : Int), vj] [] (shp, N) = ev prog (d + 6) 96 0 1 [vr 12, vi dx, vi dy, vi dz, vi ((i + 1 : Nat) : Int), vj] [] (shp, M') ∧ _
    refine ⟨_, ?_, by rw [htk]; exact mv8_one k1 hnot, k2.tr ((same_mset.tr same_mset).tr same_mset)⟩
    rw [g96_1, hc, if_pos (by omega), pre_r30 hN hsz hi, x30 hk, x31 hk, x32 hk, e0, wrR (x := N 8 (3 * (ks t)[i]) + dx) (by omega) (by omega), p8 _ (3 * (ks t)[i]) _ (by omega), e1, mset_j (show 3 * (ks t)[i] + 1 ≠ 3 * (ks t)[i] by omega), wrR (x := N 8 (3 * (ks t)[i] + 1) + dy) (by omega) (by omega), p8 _ (3 * (ks t)[i] + 1) _ (by omega), e2, mset_j (show 3 * (ks t)[i] + 2 ≠ 3 * (ks t)[i] + 1 by omega), mset_j (show 3 * (ks t)[i] + 2 ≠ 3 * (ks t)[i] by omega), wrR (x := N 8 (3 * (ks t)[i] + 2) + dz) (by omega) (by omega), p8 _ (3 * (ks t)[i] + 2) _ (by omega), wI (by omega), c1, c2, c3]) (M := M) ⟨⟨fun k hk => absurd hk List.not_mem_nil, fun k _ => ⟨rfl, rfl, rfl⟩⟩, same.rf⟩
  rw [List.take_length] at a2
  obtain ⟨M', b1, b2, b3⟩ := CT_ref d h' (a3.mono (by decide)) (by rw [a3 7 (by decide)]; exact h1)
  have hc : M1 21 1 = ((ks t).length : Int) := by rw [a3 21 (by decide), h6.1.1, natI_len]
  refine ⟨M', M1, ?_, a2, a3, b2, b3⟩
  rw [g96_0]
  refine Eq.trans a1 ?_
  show ev prog (d + 6) 96 0 1 [vr 12, vi dx, vi dy, vi dz, vi ((ks t).length : Int), vj] [] (shp, M1) = _
  rw [g96_1, hc, if_neg (by omega), b1, callK_r, psh_n, g96_8]
