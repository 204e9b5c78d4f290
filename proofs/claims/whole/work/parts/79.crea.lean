/-! THE CLASS CREATES AND REMOVES -/
def unT (M : mM) : Tr → Bool
  | .leaf => false
  | .inner _ _ _ l r => decide (M 34 0 * ((sz l + sz r + 1 : Nat) : Int) < ((if sz l < sz r then sz r else sz l : Nat) : Int) * 100)
/-- the unbalanced point next to the root on the way to p; -1 -/
def tu (M : mM) (p : Nat) : Tr → Int
  | .leaf => -1
  | .inner s k v l r => match unT M (.inner s k v l r) with
    | true => (k : Int)
    | false => if p = k then -1 else if p ∈ ks l then tu M p l else tu M p r
theorem unT_c {M M' : mM} (h : M' 34 = M 34) (t : Tr) : unT M' t = unT M t := by
  cases t with
  | leaf => rfl
  | inner s k v l r => unfold unT; rw [h]
theorem tu_c {M M' : mM} (h : M' 34 = M 34) (p : Nat) (t : Tr) : tu M' p t = tu M p t := by
  induction t with
  | leaf => rfl
  | inner s k v l r ihl ihr => unfold tu; rw [unT_c h, ihl, ihr]
theorem tu_mem {M : mM} {p : Nat} : ∀ {t : Tr}, tu M p t = -1 ∨ ∃ k, k ∈ ks t ∧ tu M p t = (k : Int) := by
  intro t
  induction t with
  | leaf => exact Or.inl rfl
  | inner s k v l r ihl ihr =>
    unfold tu
    cases unT M (.inner s k v l r) with
    | true => exact Or.inr ⟨k, List.mem_cons_self, rfl⟩
    | false =>
      show (if p = k then -1 else if p ∈ ks l then tu M p l else tu M p r) = -1 ∨ _
      by_cases c : p = k
      · exact Or.inl (if_pos c)
      · by_cases c2 : p ∈ ks l
        · rcases ihl with h | ⟨x, h1, h2⟩
          · exact Or.inl (by rw [if_neg c, if_pos c2, h])
          · refine Or.inr ⟨x, mem_l h1, ?_⟩
            show (if p = k then -1 else if p ∈ ks l then tu M p l else tu M p r) = _
            rw [if_neg c, if_pos c2, h2]
        · rcases ihr with h | ⟨x, h1, h2⟩
          · exact Or.inl (by rw [if_neg c, if_neg c2, h])
          · refine Or.inr ⟨x, mem_r h1, ?_⟩
            show (if p = k then -1 else if p ∈ ks l then tu M p l else tu M p r) = _
            rw [if_neg c, if_neg c2, h2]
def CT (M : mM) (n : Nat) (t : Tr) : Prop := M 7 4 = (n : Int) ∧ n ≤ 200 ∧ isT (clf M) (crf M) t (M 12 11) ∧ (ks t).Nodup ∧ (∀ x ∈ ks t, x < n) ∧ TD M t
theorem p40_at {M : mM} (hop : 0 ≤ M 34 0 ∧ M 34 0 ≤ 95) {s k : Nat} {v : Unit} {l r : Tr} (hT : isT (clf M) (crf M) (.inner s k v l r) (k : Int)) (hs : sm M (.inner s k v l r)) (hsz : sz (.inner s k v l r) ≤ 200) : p40 (k : Int) M = unT M (.inner s k v l r) := by
  have htl : ∀ x ∈ ks l, x < 200 := fun x hx => isT_lt hT x (mem_l hx)
  have htr : ∀ x ∈ ks r, x < 200 := fun x hx => isT_lt hT x (mem_r hx)
  have hk := hT.2.1
  obtain ⟨c0, c1⟩ := r28_T hT
  obtain ⟨h1, h2, h3⟩ := hs
  have e33 : r33 (k : Int) M = ((sz l + sz r + 1 : Nat) : Int) := by
    unfold r33
    rw [if_neg (by omega), va_in ⟨by omega, by omega⟩, Int.toNat_natCast, h1.1, sz_i]
  have e39 : r39 0 M = M 34 0 := va_in ⟨by decide, by decide⟩
  rw [sz_i] at hsz
  have m1 := mul_le3 (A := 95) (B := 200) hop (show 0 ≤ ((sz l + sz r + 1 : Nat) : Int) ∧ ((sz l + sz r + 1 : Nat) : Int) ≤ 200 by omega)
  have eu : unT M (.inner s k v l r) = decide (M 34 0 * ((sz l + sz r + 1 : Nat) : Int) < ((if sz l < sz r then sz r else sz l : Nat) : Int) * 100) := rfl
  rw [eu]
  unfold p40
  rw [c0, c1, e33, e39, r33_T (sm_R h2) htl, r33_T (sm_R h3) htr]
  generalize M 34 0 * ((sz l + sz r + 1 : Nat) : Int) = Y at m1
  have e1 : (if (sz l : Int) < (sz r : Int) then (sz r : Int) else (sz l : Int)) = ((if sz l < sz r then sz r else sz l : Nat) : Int) := by
    by_cases c : sz l < sz r
    · rw [if_pos (by omega), if_pos c]
    · rw [if_neg (by omega), if_neg c]
  rw [e1]
  have e2 : (if sz l < sz r then sz r else sz l) ≤ 200 := by split <;> omega
  generalize (if sz l < sz r then sz r else sz l) = m at e2
  rw [wrR (x := Y) (by omega) (by omega), wrR (by omega) (by omega)]
  by_cases c : Y < (m : Int) * 100
  · rw [if_pos c, decide_eq_true c]
  · rw [if_neg c, decide_eq_false c]
theorem sp41l (d : Nat) {M : mM} (hop : 0 ≤ M 34 0 ∧ M 34 0 ≤ 95) {p : Nat} : ∀ (t : Tr) (par : Int) (dd i : Nat) (x : Int) (c : Nat), isT (clf M) (crf M) t (rt t) → dv M t par dd i → sm M t → sz t ≤ 200 → (ks t).Nodup → p ∈ ks t → c + dpt t p + 1 ≤ 200 →
    ev prog (d + 4) 41 0 1 [vr 6, vj, vi x, vi (p : Int), vi (c : Int)] [] (shp, M) = ev prog (d + 4) 41 0 1 [vr 6, vj, vi (if tu M p t = -1 then x else tu M p t), vi par, vi ((c + dpt t p + 1 : Nat) : Int)] [] (shp, M) := by
  intro t
  induction t with
  | leaf => intro par dd i x c _ _ _ _ _ hp; exact absurd hp List.not_mem_nil
  | inner s k v l r ihl ihr =>
    intro par dd i x c hT hdv hsm hsz hnd hp hc
    obtain ⟨n1, n2, n3, n4, n5⟩ := nd_i hnd
    have hT' := hT
    obtain ⟨-, hk, h3, h4⟩ := hT
    rw [isT_rt h3] at h3
    rw [isT_rt h4] at h4
    obtain ⟨d1, d2, d3, d4, d5⟩ := hdv
    have h40 := p40_at hop hT' hsm hsz
    have hszi := sz_i s k v l r
    have v14 : va M 14 200 (k : Int) = par := by rw [va_in ⟨by omega, by omega⟩, Int.toNat_natCast, d1]
    -- one step at the root of this subtree
    have st : ∀ (y : Int) (e : Nat), e < 200 → ev prog (d + 4) 41 0 1 [vr 6, vj, vi y, vi (k : Int), vi (e : Int)] [] (shp, M) = ev prog (d + 4) 41 0 1 [vr 6, vj, vi (match unT M (.inner s k v l r) with | true => (k : Int) | false => y), vi par, vi ((e + 1 : Nat) : Int)] [] (shp, M) := by
      intro y e he
      rw [g41_1, if_pos (by omega), if_neg (by omega), h40, v14, wI (by omega)]
      cases unT M (.inner s k v l r) with
      | true => rw [if_neg (show ¬ bi true = 0 by decide)]
      | false => rw [if_pos (show bi false = 0 from rfl)]
    have etu : tu M p (.inner s k v l r) = match unT M (.inner s k v l r) with
      | true => (k : Int)
      | false => if p = k then -1 else if p ∈ ks l then tu M p l else tu M p r := rfl
    have edp : dpt (.inner s k v l r) p = if p = k then 0 else if p ∈ ks l then dpt l p + 1 else dpt r p + 1 := rfl
    rw [etu, edp]
    rw [edp] at hc
    by_cases c1 : p = k
    · rw [if_pos c1] at hc
      rw [if_pos c1, if_pos c1, c1, st x c (by omega)]
      cases unT M (.inner s k v l r) with
      | true => rw [if_neg (show ¬ (k : Int) = -1 by omega)]
      | false => rw [if_pos rfl]
    · rw [if_neg c1] at hc
      rw [if_neg c1, if_neg c1]
      by_cases c2 : p ∈ ks l
      · rw [if_pos c2] at hc
        rw [if_pos c2, if_pos c2, ihl (k : Int) (dd + 1) (i + 1) x c h3 d4 hsm.2.1 (by omega) n3 c2 (by omega), st _ _ (by omega)]
        cases unT M (.inner s k v l r) with
        | true => rw [if_neg (show ¬ (k : Int) = -1 by omega)]; rfl
        | false => rfl
      · rw [if_neg c2] at hc
        have c3 : p ∈ ks r := by rcases mem_i hp with h | h | h; exact absurd h c1; exact absurd h c2; exact h
        rw [if_neg c2, if_neg c2, ihr (k : Int) (dd + 1) (i + 1 + sz l) x c h4 d5 hsm.2.2 (by omega) n4 c3 (by omega), st _ _ (by omega)]
        cases unT M (.inner s k v l r) with
        | true => rw [if_neg (show ¬ (k : Int) = -1 by omega)]; rfl
        | false => rfl
theorem sp41 (d : Nat) {M : mM} (hop : 0 ≤ M 34 0 ∧ M 34 0 ≤ 95) {n : Nat} {t : Tr} (h : CT M n t) {p : Nat} (hp : p ∈ ks t) : run prog (d + 4) 41 [vr 6, vi (p : Int)] (shp, M) = some (.inl (some (vi (tu M p t))), (shp, M)) := by
  show ev prog (d + 4) 41 0 0 [vr 6, vi (p : Int), vj, vj, vj] [] (shp, M) = _
  obtain ⟨h1, h2, h3, h4, h5, h6⟩ := h
  have hsz := sz_le h3 h4
  rw [isT_rt h3] at h3
  have hd := dpt_lt hp
  have hh := ht_le t
  have := sp41l d hop t (-1) 0 0 (-1) 0 h3 h6.2.1 h6.2.2.1 hsz h4 hp (by omega)
  rw [g41_0]
  refine Eq.trans this ?_
  have e : (if tu M p t = -1 then (-1 : Int) else tu M p t) = tu M p t := by split <;> omega
  rw [e, g41_1]
  by_cases c : ((0 + dpt t p + 1 : Nat) : Int) < 200
  · rw [if_pos c, if_pos rfl]
  · rw [if_neg c]
/-! a point is created -/
def cpM (M : mM) (n : Nat) (lc x y z w g : Int) : mM := mset (mset (mset (mset (mset (mset (mset (mset M 8 (3 * n) x) 8 (3 * n + 1) y) 8 (3 * n + 2) z) 9 n w) 10 n g) 11 n 1) 7 4 ((n + 1 : Nat) : Int)) 7 5 (wr (lc + 1))
theorem cpM_s {M : mM} {n : Nat} {lc x y z w g : Int} : same [7, 8, 9, 10, 11] M (cpM M n lc x y z w g) := by
  unfold cpM
  exact (((((((same_mset.mono (by decide)).tr (same_mset.mono (by decide))).tr (same_mset.mono (by decide))).tr (same_mset.mono (by decide))).tr (same_mset.mono (by decide))).tr (same_mset.mono (by decide))).tr (same_mset.mono (by decide))).tr (same_mset.mono (by decide))
theorem cpM_11 {M : mM} {n : Nat} {lc x y z w g : Int} : cpM M n lc x y z w g 11 n = 1 ∧ ∀ j, j ≠ n → cpM M n lc x y z w g 11 j = M 11 j := by
  unfold cpM
  refine ⟨by rw [mset_k (by decide), mset_k (by decide), mset_at], fun j hj => ?_⟩
  rw [mset_k (by decide), mset_k (by decide), mset_j hj, mset_k (by decide), mset_k (by decide), mset_k (by decide), mset_k (by decide), mset_k (by decide)]
theorem cpM_7 {M : mM} {n : Nat} {lc x y z w g : Int} : cpM M n lc x y z w g 7 4 = ((n + 1 : Nat) : Int) ∧ cpM M n lc x y z w g 7 5 = wr (lc + 1) := by
  unfold cpM
  exact ⟨by rw [mset_j (by decide), mset_at], mset_at _ _ _ _⟩
/-- the tree with the new leaf, before and after the rebuilding -/
def crT (M1 : mM) (p : Nat) (t : Tr) : Tr := if tu M1 p (ins M1 p t 0) = -1 then ins M1 p t 0 else rplB (ins M1 p t 0) (tu M1 p (ins M1 p t 0)).toNat (bld M1 (lk M1 (subT (ins M1 p t 0) (tu M1 p (ins M1 p t 0)).toNat)) (dpt (ins M1 p t 0) (tu M1 p (ins M1 p t 0)).toNat))
/-- the statistics -/
def crS (M1 : mM) (p : Nat) (t : Tr) (j : Nat) : Int := if tu M1 p (ins M1 p t 0) = -1 then M1 26 j else if j = 0 then wr (M1 26 0 + 1) else if j = 3 then wr (M1 26 3 + ((lk M1 (subT (ins M1 p t 0) (tu M1 p (ins M1 p t 0)).toNat)).length : Int)) else M1 26 j
theorem CT_reb {M M' : mM} {n : Nat} {t T : Tr} (h : CT M n t) (hs : M' 7 = M 7) (hT : isT (clf M') (crf M') T (M' 12 11)) (hD : TD M' T) (hnd : (ks T).Nodup) (hlt : ∀ x ∈ ks T, x ∈ ks t) : CT M' n T := by
  obtain ⟨h1, h2, h3, h4, h5, h6⟩ := h
  exact ⟨by rw [hs]; exact h1, h2, hT, hnd, fun x hx => h5 x (hlt x hx), hD⟩
theorem rebuilt {M : mM} {t : Tr} (hnd : (ks t).Nodup) {k : Nat} (hk : k ∈ ks t) (dp : Nat) : (ks (rplB t k (bld M (lk M (subT t k)) dp))).Nodup ∧ (∀ x, x ∈ ks (rplB t k (bld M (lk M (subT t k)) dp)) ↔ x ∈ ks t ∧ (x ∈ ks (subT t k) → alv M x = true)) := by
  have hBp : (ks (bld M (lk M (subT t k)) dp)).Perm (lk M (subT t k)) := bld_perm M _ _ _ (Nat.le_refl _)
  have hLn : (lk M (subT t k)).Nodup := List.Pairwise.filter _ (sub_nd hnd)
  refine ⟨rpl_nd (hBp.nodup_iff.mpr hLn) hnd hk (fun x hx => lk_sub (hBp.mem_iff.mp hx)), fun x => ?_⟩
  rw [rpl_mem hnd hk, hBp.mem_iff]
  constructor
  · rintro (⟨h1, h2⟩ | h)
    · exact ⟨h1, fun q => absurd q h2⟩
    · obtain ⟨h1, h2⟩ := List.mem_filter.mp h
      exact ⟨sub_mem h1, fun _ => h2⟩
  · rintro ⟨h1, h2⟩
    by_cases c : x ∈ ks (subT t k)
    · exact Or.inr (List.mem_filter.mpr ⟨c, h2 c⟩)
    · exact Or.inl ⟨h1, c⟩
theorem nodup_sub : ∀ {a b : List Nat}, a.Nodup → (∀ x ∈ a, x ∈ b) → a.length ≤ b.length := by
  intro a
  induction a with
  | nil => intro b _ _; exact Nat.zero_le _
  | cons x t ih =>
    intro b hnd h
    obtain ⟨h1, h2⟩ := List.nodup_cons.mp hnd
    obtain ⟨b1, b2, hb⟩ := List.append_of_mem (h x List.mem_cons_self)
    have := ih (b := b1 ++ b2) h2 (fun y hy => by
      have hyb := h y (List.mem_cons_of_mem _ hy)
      rw [hb] at hyb
      rcases List.mem_append.mp hyb with q | q
      · exact List.mem_append.mpr (Or.inl q)
      · rcases List.mem_cons.mp q with q | q
        · rw [q] at hy; exact absurd hy h1
        · exact List.mem_append.mpr (Or.inr q))
    rw [hb, List.length_cons, List.length_append, List.length_cons]
    rw [List.length_append] at this
    omega
theorem sp48 (d : Nat) {M : mM} (hop : 0 ≤ M 34 0 ∧ M 34 0 ≤ 95) {n : Nat} {t : Tr} (h : CT M n t) (hn : n < 200) (x y z w g : Int) (h60 : (lk (cpM M n (M 7 5) x y z w g) (ins (cpM M n (M 7 5) x y z w g) n t 0)).length ≤ 60) :
    ∃ M', run prog (d + 7) 48 [vr 6, vi x, vi y, vi z, vi w, vi g] (shp, M) = some (.inl (some (vi (n : Int))), (shp, M')) ∧ CT M' (n + 1) (crT (cpM M n (M 7 5) x y z w g) n t) ∧ same [12, 13, 14, 15, 16, 17, 18, 19, 20, 21, 22, 23, 24, 25, 26, 27, 28, 29, 30, 31, 32] (cpM M n (M 7 5) x y z w g) M' ∧ ∀ j, M' 26 j = crS (cpM M n (M 7 5) x y z w g) n t j := by
  show ∃ M', ev prog (d + 7) 48 0 0 [vr 6, vi x, vi y, vi z, vi w, vi g, vj, vj] [] (shp, M) = _ ∧ _
  obtain ⟨h1, h2, h3, h4, h5, h6⟩ := h
  obtain ⟨M1, hM1⟩ : ∃ M1, M1 = cpM M n (M 7 5) x y z w g := ⟨_, rfl⟩
  have s1 : same [7, 8, 9, 10, 11] M M1 := by rw [hM1]; exact cpM_s
  have c7 : M1 7 4 = ((n + 1 : Nat) : Int) := by rw [hM1]; exact cpM_7.1
  rw [← hM1] at h60 ⊢
  have hnt : n ∉ ks t := fun q => absurd (h5 n q) (Nat.lt_irrefl _)
  obtain ⟨M2, a1, a2, a3⟩ := sp23 (M := M1) (d + 2) (p := n) (by omega) (t := t) (by rw [clf_c (s1 13 (by decide)), crf_c (s1 13 (by decide)), s1 12 (by decide)]; exact h3) h4 hnt
  have hip := ins_perm M1 n t 0
  have hind : (ks (ins M1 n t 0)).Nodup := hip.nodup_iff.mpr (List.nodup_cons.mpr ⟨hnt, h4⟩)
  have hilt : ∀ x ∈ ks (ins M1 n t 0), x < n + 1 := fun x hx => by
    rcases List.mem_cons.mp (hip.mem_iff.mp hx) with e | e
    · omega
    · have := h5 x e; omega
  obtain ⟨M3, b1, b2, b3⟩ := sp38 (M := M2) (d + 1) (n := n + 1) (by rw [a2 7 (by decide)]; exact c7) (by omega) a3 hind hilt
  have s13 : same [12, 13, 14, 15, 16, 17, 18, 19, 20, 21, 22, 23, 24] M1 M3 := (a2.mono (by decide)).tr (b2.mono (by decide))
  have hCT3 : CT M3 (n + 1) (ins M1 n t 0) := ⟨by rw [s13 7 (by decide)]; exact c7, by omega, by rw [clf_c (b2 13 (by decide)), crf_c (b2 13 (by decide)), b2 12 (by decide)]; exact a3, hind, hilt, b3⟩
  have h34 : M3 34 = M1 34 := s13 34 (by decide)
  have hop3 : 0 ≤ M3 34 0 ∧ M3 34 0 ≤ 95 := by rw [h34, s1 34 (by decide)]; exact hop
  have hnin : n ∈ ks (ins M1 n t 0) := hip.mem_iff.mpr List.mem_cons_self
  have hhi := sp41 (d + 2) hop3 hCT3 hnin
  rw [tu_c h34] at hhi
  have hpu : ev prog (d + 7) 48 0 0 [vr 6, vi x, vi y, vi z, vi w, vi g, vj, vj] [] (shp, M) = ev prog (d + 7) 48 0 4 [vr 6, vj, vj, vj, vj, vj, vi (n : Int), vj] [vi (tu M1 n (ins M1 n t 0))] (shp, M3) := by
    have p8 : ∀ (N : mM) (j : Nat) (w : Int), j < 600 → pu N 8 600 (j : Int) w = mset N 8 j w := fun N j w hj => by rw [pu_in ⟨by omega, by omega⟩, Int.toNat_natCast]
    have p9 : ∀ (N : mM) (k : Nat) (w : Int), pu N k 200 (n : Int) w = mset N k n w := fun N k w => by rw [pu_in ⟨by omega, by omega⟩, Int.toNat_natCast]
    have e7 : ∀ (N : mM), N = mset (mset (mset (mset (mset (mset M 8 (3 * n) x) 8 (3 * n + 1) y) 8 (3 * n + 2) z) 9 n w) 10 n g) 11 n 1 → mset (mset N 7 4 ((n + 1 : Nat) : Int)) 7 5 (wr (M 7 5 + 1)) = M1 := fun N hN => by rw [hM1, hN]; rfl
    rw [g48_0, h1, x31 (by omega), x32 (by omega), x3 (by omega), p8 _ (3 * n) _ (by omega), p8 _ (3 * n + 1) _ (by omega), p8 _ (3 * n + 2) _ (by omega), p9, p9, p9, wI (by omega), e7 _ rfl, a1, callK_r, psh_n, g48_2, b1, callK_r, psh_n, g48_3, hhi, callK_r, psh_s]
  rw [hpu, g48_4]
  by_cases c : tu M1 n (ins M1 n t 0) = -1
  · refine ⟨M3, by rw [if_pos c], ?_, s13.mono (by decide), fun j => ?_⟩
    · unfold crT
      rw [if_pos c]
      exact hCT3
    · unfold crS
      rw [if_pos c, s13 26 (by decide)]
  · obtain ⟨k, hk, hke⟩ := (tu_mem (M := M1) (p := n) (t := ins M1 n t 0)).resolve_left c
    have hl3 : lk M3 = lk M1 := by funext s; exact lk_c (s13 11 (by decide)) s
    have hle : (lk M1 (subT (ins M1 n t 0) k)).length ≤ (lk M1 (ins M1 n t 0)).length := by
      refine nodup_sub (List.Pairwise.filter _ (sub_nd hind)) (fun x hx => ?_)
      obtain ⟨q1, q2⟩ := List.mem_filter.mp hx
      exact List.mem_filter.mpr ⟨sub_mem q1, q2⟩
    obtain ⟨M4, f1, f2, f3, f4, f5, f6, f7⟩ := sp47 (M := M3) d (n := n + 1) hCT3.1 hCT3.2.1 hCT3.2.2.1 hind hilt b3 hk (by rw [hl3]; omega) (c := 0) (by decide)
    rw [hl3] at f3 f4 f6
    rw [show bld M3 = bld M1 from by funext l dp; exact bld_c (s13 8 (by decide)) l dp] at f3 f4
    obtain ⟨r1, r2⟩ := rebuilt (M := M1) hind hk (dpt (ins M1 n t 0) k)
    refine ⟨M4, ?_, ?_, (s13.mono (by decide)).tr f2, fun j => ?_⟩
    · rw [if_neg c, hke]
      have f1 : run prog (d + 6) 47 [vr 25, vi (k : Int), vi 0] (shp, M3) = some (.inl none, (shp, M4)) := f1
      rw [f1, callK_r, psh_n, g48_6]
    · unfold crT
      rw [if_neg c, hke, Int.toNat_natCast]
      exact CT_reb hCT3 (f2 7 (by decide)) f3 f4 r1 (fun x hx => ((r2 x).mp hx).1)
    · unfold crS
      rw [if_neg c, hke, Int.toNat_natCast]
      by_cases c0 : j = 0
      · rw [if_pos c0, c0, f5, s13 26 (by decide)]
      · rw [if_neg c0]
        by_cases c3 : j = 3
        · rw [if_pos c3, c3, f6, s13 26 (by decide)]
        · rw [if_neg c3, f7 j c0 c3, s13 26 (by decide)]
