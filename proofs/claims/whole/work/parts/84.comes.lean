/-! THE MODEL CREATES A POINT -/
def lastT (V : mM) (p : Nat) : Tr → Int → Nat → Int × Nat
  | .leaf, up, dp => (up, dp)
  | .inner _ k _ l r, _, dp => match bef V (dp % 3) p k with
    | true => lastT V p l (k : Int) (dp + 1)
    | false => lastT V p r (k : Int) (dp + 1)
theorem last_i (V : mM) (p s k : Nat) (v : Unit) (l r : Tr) (up : Int) (dp : Nat) : lastT V p (.inner s k v l r) up dp = match bef V (dp % 3) p k with
    | true => lastT V p l (k : Int) (dp + 1)
    | false => lastT V p r (k : Int) (dp + 1) := rfl
theorem slT_i (V : mM) (p s k : Nat) (v : Unit) (l r : Tr) (dp : Nat) (sl : Int) : slT V p (.inner s k v l r) dp sl = match bef V (dp % 3) p k with
    | true => slT V p l (dp + 1) ((2 * k : Nat) : Int)
    | false => slT V p r (dp + 1) ((2 * k + 1 : Nat) : Int) := rfl
theorem ins_i (V : mM) (p s k : Nat) (v : Unit) (l r : Tr) (dp : Nat) : ins V p (.inner s k v l r) dp = match bef V (dp % 3) p k with
    | true => .inner s k v (ins V p l (dp + 1)) r
    | false => .inner s k v l (ins V p r (dp + 1)) := rfl
theorem last_sl (V : mM) (p : Nat) : ∀ (t : Tr) (up : Int) (dp : Nat) (sl : Int), t ≠ .leaf → ∃ u e : Nat, lastT V p t up dp = ((u : Int), e + 1) ∧ u ∈ ks t ∧ e ≤ dp + ht t ∧ slT V p t dp sl = if bef V (e % 3) p u = true then ((2 * u : Nat) : Int) else ((2 * u + 1 : Nat) : Int) := by
  intro t
  induction t with
  | leaf => intro up dp sl h; exact absurd rfl h
  | inner s k v l r ihl ihr =>
    intro up dp sl _
    rw [last_i, slT_i, ht_i]
    cases hb : bef V (dp % 3) p k with
    | true =>
      by_cases c : l = .leaf
      · subst c
        exact ⟨k, dp, rfl, List.mem_cons_self, by omega, by rw [if_pos hb]; rfl⟩
      · obtain ⟨u, e, h1, h2, h3, h4⟩ := ihl (k : Int) (dp + 1) ((2 * k : Nat) : Int) c
        exact ⟨u, e, h1, mem_l h2, by split <;> omega, h4⟩
    | false =>
      by_cases c : r = .leaf
      · subst c
        exact ⟨k, dp, rfl, List.mem_cons_self, by omega, by rw [if_neg (by rw [hb]; decide)]; rfl⟩
      · obtain ⟨u, e, h1, h2, h3, h4⟩ := ihr (k : Int) (dp + 1) ((2 * k + 1 : Nat) : Int) c
        exact ⟨u, e, h1, mem_r h2, by split <;> omega, h4⟩
theorem ins_U {V : mM} {p : Nat} {u u' : Nat → Int} : ∀ {t : Tr} {par : Int} {dp : Nat}, isU u t par → u' p = (lastT V p t par dp).1 → (∀ x ∈ ks t, u' x = u x) → isU u' (ins V p t dp) par := by
  intro t
  induction t with
  | leaf => intro par dp _ h _; exact ⟨h, trivial, trivial⟩
  | inner s k v l r ihl ihr =>
    intro par dp hU h hx
    obtain ⟨h1, h2, h3⟩ := hU
    rw [ins_i]
    rw [last_i] at h
    have hk := hx k List.mem_cons_self
    cases hb : bef V (dp % 3) p k with
    | true =>
      rw [hb] at h
      exact ⟨hk.trans h1, ihl h2 h (fun x q => hx x (mem_l q)), isU_c (fun x q => hx x (mem_r q)) h3⟩
    | false =>
      rw [hb] at h
      exact ⟨hk.trans h1, isU_c (fun x q => hx x (mem_l q)) h2, ihr h3 h (fun x q => hx x (mem_r q))⟩
theorem sp56 {M V : mM} (hV : vw M V) (d : Nat) {p k : Nat} (hp : p < 200) (hk : k < 200) (dp : Nat) : run prog (d + 2) 56 [vr 87, vi (k : Int), vi (p : Int), vi (dp : Int)] (shp, M) = some (.inl (some (vi (match bef V (dp % 3) p k with | true => M 88 (1400 + k) | false => M 88 (1600 + k)))), (shp, M)) := by
  show ev prog (d + 2) 56 0 0 [vr 87, vi (k : Int), vi (p : Int), vi (dp : Int)] [] (shp, M) = _
  rw [g56_0, tm3, sp55 hV d hp hk (Nat.mod_lt _ (by decide)), callK_r, psh_s, g56_1, x1400 hk, x1600 hk, if_pos (gi2031 (by omega)), if_pos (gi2031 (by omega)), Int.toNat_natCast, Int.toNat_natCast]
  cases bef V (dp % 3) p k with
  | true => rw [if_neg (show ¬ bi true = 0 by decide)]
  | false => rw [if_pos (show bi false = 0 from rfl)]
theorem l57 {M V : mM} (hV : vw M V) (d : Nat) {p : Nat} (hp : p < 200) : ∀ (t : Tr) (up : Int) (dp : Nat), isT (mlf M) (mrf M) t (rt t) → dp + ht t ≤ 1000 →
    ev prog (d + 3) 57 0 2 [vr 87, vi (p : Int), vi up, vi (dp : Int), vi (rt t)] [] (shp, M) = ev prog (d + 3) 57 0 2 [vr 87, vi (p : Int), vi (lastT V p t up dp).1, vi ((lastT V p t up dp).2 : Int), vi (-1)] [] (shp, M) := by
  intro t
  induction t with
  | leaf => intro up dp _ _; rfl
  | inner s k v l r ihl ihr =>
    intro up dp hT hd
    obtain ⟨hk, e3, e4, h3, h4⟩ := mT_i hT
    rw [ht_i] at hd
    have h1 : ht l ≤ (if ht l < ht r then ht r else ht l) := by split <;> omega
    have h2 : ht r ≤ (if ht l < ht r then ht r else ht l) := by split <;> omega
    rw [last_i, rt_i, g57_2, if_neg (by omega), wI (n := dp) (by omega), wD (n := dp) (by omega), sp56 hV d hp hk dp, callK_r, psh_s, g57_4, e3, e4]
    cases bef V (dp % 3) p k with
    | true => exact ihl (k : Int) (dp + 1) h3 (by omega)
    | false => exact ihr (k : Int) (dp + 1) h4 (by omega)
theorem sp57 {M V : mM} (hV : vw M V) (d : Nat) {p : Nat} (hp : p < 200) {t : Tr} (hT : isT (mlf M) (mrf M) t (M 88 2000)) (hU : isU (mup M) t (-1)) (hnd : (ks t).Nodup) (hpt : p ∉ ks t) (hl : M 88 (1400 + p) = -1) (hr : M 88 (1600 + p) = -1) :
    ∃ M', run prog (d + 3) 57 [vr 87, vi (p : Int)] (shp, M) = some (.inl none, (shp, M')) ∧ same [88] M M' ∧ isT (mlf M') (mrf M') (ins V p t 0) (M' 88 2000) ∧ isU (mup M') (ins V p t 0) (-1) ∧ ∀ j, (j < 1400 ∨ 2001 ≤ j) → M' 88 j = M 88 j := by
  show ∃ M', ev prog (d + 3) 57 0 0 [vr 87, vi (p : Int), vj, vj, vj] [] (shp, M) = _ ∧ _
  have hrt := isT_rt hT
  rw [hrt] at hT
  have hlt := isT_lt hT
  have hsz := sz_le hT hnd
  have hh := ht_le t
  have lp := l57 hV d hp t (-1) 0 hT (by omega)
  obtain ⟨M1, hM1⟩ : ∃ M1, M1 = mset M 88 (1800 + p) (lastT V p t (-1) 0).1 := ⟨_, rfl⟩
  have m1 : ∀ j, j ≠ 1800 + p → M1 88 j = M 88 j := fun j hj => by rw [hM1, mset_j hj]
  have head : ev prog (d + 3) 57 0 0 [vr 87, vi (p : Int), vj, vj, vj] [] (shp, M) = ev prog (d + 3) 57 0 2 [vr 87, vi (p : Int), vi (lastT V p t (-1) 0).1, vi ((lastT V p t (-1) 0).2 : Int), vi (-1)] [] (shp, M) := by
    rw [g57_0, hrt]
    exact lp
  rw [head, g57_2, if_pos (by decide), x1800 hp, if_pos (gi2031 (by omega)), Int.toNat_natCast, ← hM1]
  have finU : ∀ M2 : mM, (∀ j, 1800 ≤ j → j < 2000 → M2 88 j = M1 88 j) → isU (mup M2) (ins V p t 0) (-1) := by
    intro M2 h2
    refine ins_U hU ?_ (fun x hx => ?_)
    · show M2 88 (1800 + p) = _
      rw [h2 _ (by omega) (by omega), hM1, mset_at]
    · have := hlt x hx
      have : x ≠ p := fun e => hpt (by rw [← e]; exact hx)
      show M2 88 (1800 + x) = M 88 (1800 + x)
      rw [h2 _ (by omega) (by omega), m1 _ (by omega)]
  by_cases c : t = .leaf
  · subst c
    have e1 : (lastT V p .leaf (-1) 0).1 = -1 := rfl
    rw [e1, if_pos (by decide)]
    refine ⟨_, rfl, ?_, ⟨mset_at _ _ _ _, hp, ?_, ?_⟩, finU _ (fun j h1 h2 => mset_j (by omega)), fun j hj => ?_⟩
    · rw [hM1]; exact same_mset.tr same_mset
    · show mset M1 88 2000 (p : Int) 88 (1400 + p) = -1
      rw [mset_j (by omega), m1 _ (by omega), hl]
    · show mset M1 88 2000 (p : Int) 88 (1600 + p) = -1
      rw [mset_j (by omega), m1 _ (by omega), hr]
    · rw [mset_j (by omega), m1 _ (by omega)]
  · obtain ⟨u, e, h1, h2, h3, h4⟩ := last_sl V p t (-1) 0 (-1) c
    have hu := hlt u h2
    have hup : u ≠ p := fun q => hpt (by rw [← q]; exact h2)
    rw [h1]
    have hV1 : vw M1 V := vw_c hV (fun j hj => m1 j (by omega))
    have hd9 : wr (((e + 1 : Nat) : Int) - 1) = (e : Int) := wD (by omega)
    show ∃ M', (if (u : Int) < 0 then _ else _) = _ ∧ _
    rw [if_neg (by clear hd9; omega), hd9, tm3, sp55 hV1 (d + 1) hp hu (Nat.mod_lt _ (by decide)), callK_r, psh_s, g57_10, x1600 hu, x1400 hu, if_pos (gi2031 (by clear hd9; omega)), if_pos (gi2031 (by clear hd9; omega)), Int.toNat_natCast, Int.toNat_natCast]
    clear hd9
    have fin : ∀ (M2 : mM) (j0 : Nat), M2 = mset M1 88 j0 (p : Int) → (j0 = 1400 + u ∧ slT V p t 0 (-1) = ((2 * u : Nat) : Int)) ∨ (j0 = 1600 + u ∧ slT V p t 0 (-1) = ((2 * u + 1 : Nat) : Int)) → same [88] M M2 ∧ isT (mlf M2) (mrf M2) (ins V p t 0) (M2 88 2000) ∧ isU (mup M2) (ins V p t 0) (-1) ∧ ∀ j, (j < 1400 ∨ 2001 ≤ j) → M2 88 j = M 88 j := by
      intro M2 j0 hM2 hj0
      have m2 : ∀ j, j ≠ j0 → M2 88 j = M1 88 j := fun j hj => by rw [hM2, mset_j hj]
      refine ⟨by rw [hM2, hM1]; exact same_mset.tr same_mset, ?_, finU M2 (fun j q1 q2 => m2 j (by omega)), fun j hj => (m2 j (by omega)).trans (m1 j (by omega))⟩
      have key := ins_T (M := V) (p := p) (f := mlf M) (g := mrf M) (f' := mlf M2) (g' := mrf M2) hp
        (by show M2 88 (1400 + p) = -1; rw [m2 _ (by omega), m1 _ (by omega)]; exact hl) (by show M2 88 (1600 + p) = -1; rw [m2 _ (by omega), m1 _ (by omega)]; exact hr) t 0 (-1) hT hnd hpt (fun x hx => by
          have hx2 := hlt x hx
          constructor
          · show M2 88 (1400 + x) = _
            by_cases q : j0 = 1400 + x
            · have : slT V p t 0 (-1) = ((2 * x : Nat) : Int) := by omega
              rw [if_pos this, ← q, hM2, mset_at]
            · have : slT V p t 0 (-1) ≠ ((2 * x : Nat) : Int) := by omega
              rw [if_neg this, m2 _ (by omega), m1 _ (by omega)]
              rfl
          · show M2 88 (1600 + x) = _
            by_cases q : j0 = 1600 + x
            · have : slT V p t 0 (-1) = ((2 * x + 1 : Nat) : Int) := by omega
              rw [if_pos this, ← q, hM2, mset_at]
            · have : slT V p t 0 (-1) ≠ ((2 * x + 1 : Nat) : Int) := by omega
              rw [if_neg this, m2 _ (by omega), m1 _ (by omega)]
              rfl)
      rw [m2 2000 (by omega), m1 2000 (by omega), hrt]
      cases t with
      | leaf => exact absurd rfl c
      | inner s k v l r => exact key
    cases hb : bef V (e % 3) p u with
    | true =>
      rw [if_pos hb] at h4
      rw [if_neg (show ¬ bi true = 0 by decide)]
      obtain ⟨z1, z2, z3, z4⟩ := fin _ (1400 + u) rfl (Or.inl ⟨rfl, h4⟩)
      exact ⟨_, rfl, z1, z2, z3, z4⟩
    | false =>
      rw [if_neg (by rw [hb]; decide)] at h4
      rw [if_pos (show bi false = 0 from rfl)]
      obtain ⟨z1, z2, z3, z4⟩ := fin _ (1600 + u) rfl (Or.inr ⟨rfl, h4⟩)
      exact ⟨_, rfl, z1, z2, z3, z4⟩
/-! is a node uneven -/
theorem unT_i (V : mM) (s k : Nat) (v : Unit) (l r : Tr) : unT V (.inner s k v l r) = decide (V 34 0 * ((sz l + sz r + 1 : Nat) : Int) < ((if sz l < sz r then sz r else sz l : Nat) : Int) * 100) := rfl
theorem sp59 {M V : mM} (hV : vw M V) (d : Nat) {s k : Nat} {v : Unit} {l r : Tr} (hT : isT (mlf M) (mrf M) (.inner s k v l r) (k : Int)) (hsz : sz (.inner s k v l r) ≤ 200) : run prog (d + 210) 59 [vr 87, vi (k : Int)] (shp, M) = some (.inl (some (vi (bi (unT V (.inner s k v l r))))), (shp, M)) := by
  show ev prog (d + 210) 59 0 0 [vr 87, vi (k : Int), vj, vj] [] (shp, M) = _
  obtain ⟨hk, e3, e4, h3, h4⟩ := mT_i hT
  rw [sz_i] at hsz
  have hl := ht_le l
  have hr := ht_le r
  have il : run prog (d + 209) 58 [vr 87, vi (rt l)] (shp, M) = _ := sp58 l (d + 207) h3 (by omega) (by omega)
  have ir : run prog (d + 209) 58 [vr 87, vi (rt r)] (shp, M) = _ := sp58 r (d + 207) h4 (by omega) (by omega)
  obtain ⟨-, -, ho1, ho2⟩ := hV
  have m1 := mul_le3 (A := 95) (B := 200) ho2 (show 0 ≤ ((1 + sz l + sz r : Nat) : Int) ∧ ((1 + sz l + sz r : Nat) : Int) ≤ 200 by omega)
  rw [g59_0, x1400 hk, if_pos (gi2031 (by omega)), Int.toNat_natCast, e3, il, callK_r, psh_s, g59_2, x1600 hk, if_pos (gi2031 (by omega)), Int.toNat_natCast, e4, ir, callK_r, psh_s, g59_4, w1ab (by omega), ho1, unT_i, show sz l + sz r + 1 = 1 + sz l + sz r by omega]
  generalize V 34 0 * ((1 + sz l + sz r : Nat) : Int) = Y at m1
  have wY : wr Y = Y := wrR (by omega) (by omega)
  have w100 : ∀ a : Nat, a ≤ 200 → wr (100 * (a : Int)) = (a : Int) * 100 := fun a ha => by rw [wrR (by omega) (by omega)]; omega
  rw [wY, w100 _ (by clear wY; omega), w100 _ (by clear wY; omega)]
  clear wY w100
  have key : ∀ m : Nat, (if Y < (m : Int) * 100 then some (.inl (some (vi 1)), (shp, M)) else some (.inl (some (vi 0)), (shp, M)) : mR) = some (.inl (some (vi (bi (decide (Y < (m : Int) * 100))))), (shp, M)) := by
    intro m
    by_cases c : Y < (m : Int) * 100
    · rw [if_pos c, decide_eq_true c]; rfl
    · rw [if_neg c, decide_eq_false c]; rfl
  by_cases c : sz l < sz r
  · rw [if_neg (by omega), if_pos c]
    exact key _
  · rw [if_neg c]
    by_cases c2 : sz r < sz l
    · rw [if_pos (by omega)]
      exact key _
    · have e : sz r = sz l := by omega
      rw [if_neg (by omega), e]
      exact key _
/-! the way down to the new leaf -/
def pok (V : mM) (p : Nat) : Tr → Nat → Prop
  | .leaf, _ => False
  | .inner _ k _ l r, dp => (k = p ∧ l = .leaf ∧ r = .leaf) ∨ (k ≠ p ∧ ((bef V (dp % 3) p k = true ∧ p ∈ ks l ∧ pok V p l (dp + 1)) ∨ (bef V (dp % 3) p k = false ∧ p ∉ ks l ∧ p ∈ ks r ∧ pok V p r (dp + 1))))
theorem ins_pok (V : mM) (p : Nat) : ∀ (t : Tr) (dp : Nat), p ∉ ks t → pok V p (ins V p t dp) dp := by
  intro t
  induction t with
  | leaf => intro dp _; exact Or.inl ⟨rfl, rfl, rfl⟩
  | inner s k v l r ihl ihr =>
    intro dp h
    rw [ins_i]
    have hk : k ≠ p := fun e => h (by rw [e]; exact List.mem_cons_self)
    cases hb : bef V (dp % 3) p k with
    | true => exact Or.inr ⟨hk, Or.inl ⟨hb, (ins_perm V p l (dp + 1)).mem_iff.mpr List.mem_cons_self, ihl (dp + 1) (fun q => h (mem_l q))⟩⟩
    | false => exact Or.inr ⟨hk, Or.inr ⟨hb, fun q => h (mem_l q), (ins_perm V p r (dp + 1)).mem_iff.mpr List.mem_cons_self, ihr (dp + 1) (fun q => h (mem_r q))⟩⟩
theorem l65 {M V : mM} (hV : vw M V) (d : Nat) {p : Nat} (hp : p < 200) : ∀ (s : Tr) (dp : Nat), isT (mlf M) (mrf M) s (rt s) → sz s ≤ 200 → (ks s).Nodup → pok V p s dp → dp + ht s ≤ 1000 →
    (tu V p s = -1 → ev prog (d + 211) 65 0 15 [vr 87, vj, vj, vj, vj, vj, vi (p : Int), vi (dp : Int), vi (rt s)] [] (shp, M) = some (.inl (some (vi (p : Int))), (shp, M))) ∧
    (∀ k : Nat, tu V p s = (k : Int) → ∃ dp' : Nat, ev prog (d + 211) 65 0 15 [vr 87, vj, vj, vj, vj, vj, vi (p : Int), vi (dp : Int), vi (rt s)] [] (shp, M) = ev prog (d + 211) 65 0 15 [vr 87, vj, vj, vj, vj, vj, vi (p : Int), vi (dp' : Int), vi (k : Int)] [] (shp, M) ∧ k ≠ p ∧ k ∈ ks s ∧ unT V (subT s k) = true) := by
  intro s
  induction s with
  | leaf => intro dp _ _ _ h; exact h.elim
  | inner s k v l r ihl ihr =>
    intro dp hT hsz hnd hpok hd
    obtain ⟨n1, n2, n3, n4, n5⟩ := nd_i hnd
    obtain ⟨hk, e3, e4, h3, h4⟩ := mT_i hT
    have hszi := sz_i s k v l r
    rw [ht_i] at hd
    have h1 : ht l ≤ (if ht l < ht r then ht r else ht l) := by split <;> omega
    have h2 : ht r ≤ (if ht l < ht r then ht r else ht l) := by split <;> omega
    have etu : tu V p (.inner s k v l r) = match unT V (.inner s k v l r) with
      | true => (k : Int)
      | false => if p = k then -1 else if p ∈ ks l then tu V p l else tu V p r := rfl
    have hsub : ∀ x, subT (.inner s k v l r) x = if x = k then .inner s k v l r else if x ∈ ks l then subT l x else subT r x := fun _ => rfl
    rw [etu, rt_i]
    rcases hpok with ⟨q1, q2, q3⟩ | ⟨q1, q2⟩
    · subst q1
      subst q2
      subst q3
      have hun : unT V (.inner s k v .leaf .leaf) = false := by
        rw [unT_i]
        refine decide_eq_false ?_
        have := hV.2.2.2.1
        show ¬ V 34 0 * ((0 + 0 + 1 : Nat) : Int) < ((0 : Nat) : Int) * 100
        omega
      rw [hun]
      show ((if k = k then (-1 : Int) else _) = -1 → _) ∧ ∀ k' : Nat, (if k = k then (-1 : Int) else _) = (k' : Int) → _
      rw [if_pos rfl]
      exact ⟨fun _ => by rw [g65_15, if_pos rfl], fun k' h => absurd h (by omega)⟩
    · have h59 := sp59 hV d (s := s) (v := v) hT hsz
      have st : ev prog (d + 211) 65 0 15 [vr 87, vj, vj, vj, vj, vj, vi (p : Int), vi (dp : Int), vi (k : Int)] [] (shp, M) = callK (run prog (d + 210) 59 [vr 87, vi (k : Int)] (shp, M)) (fun w σ1 => ev prog (d + 211) 65 0 17 [vr 87, vj, vj, vj, vj, vj, vi (p : Int), vi (dp : Int), vi (k : Int)] (psh w []) σ1) (fun e σ1 => CSpatialPointsLaw_law_r7355_26c6d2.hk [0, 0, 0, 0, 0] e σ1 (fun t => ev prog (d + 211) 65 0 t (msk (pMask prog 65 t) [vr 87, vj, vj, vj, vj, vj, vi (p : Int), vi (dp : Int), vi (k : Int)]) [vj] σ1)) := by
        rw [g65_15, if_neg (by omega)]
      cases hun : unT V (.inner s k v l r) with
      | true =>
        refine ⟨fun h => absurd h (by show ¬ (k : Int) = -1; omega), fun k' h => ?_⟩
        have h : (k : Int) = (k' : Int) := h
        have e : k' = k := by omega
        subst e
        exact ⟨dp, rfl, q1, List.mem_cons_self, by rw [hsub, if_pos rfl]; exact hun⟩
      | false =>
        show ((if p = k then (-1 : Int) else if p ∈ ks l then tu V p l else tu V p r) = -1 → _) ∧ ∀ k' : Nat, (if p = k then (-1 : Int) else if p ∈ ks l then tu V p l else tu V p r) = (k' : Int) → _
        rw [if_neg (fun e => q1 e.symm)]
        have go : ev prog (d + 211) 65 0 15 [vr 87, vj, vj, vj, vj, vj, vi (p : Int), vi (dp : Int), vi (k : Int)] [] (shp, M) = ev prog (d + 211) 65 0 15 [vr 87, vj, vj, vj, vj, vj, vi (p : Int), vi ((dp + 1 : Nat) : Int), vi (match bef V (dp % 3) p k with | true => rt l | false => rt r)] [] (shp, M) := by
          rw [st, h59, hun, callK_r, psh_s, g65_17, if_pos (show bi false = 0 from rfl), sp56 hV (d + 208) hp hk dp, callK_r, psh_s, g65_23, wI (by omega), e3, e4]
        rw [go]
        rcases q2 with ⟨b1, b2, b3⟩ | ⟨b1, b2, b2', b3⟩
        · rw [b1, if_pos b2]
          obtain ⟨i1, i2⟩ := ihl (dp + 1) h3 (by omega) n3 b3 (by omega)
          refine ⟨i1, fun k' h => ?_⟩
          obtain ⟨dp', j1, j2, j3, j4⟩ := i2 k' h
          refine ⟨dp', j1, j2, mem_l j3, ?_⟩
          rw [hsub, if_neg (fun e => n1 (by rw [← e]; exact j3)), if_pos j3]
          exact j4
        · rw [b1, if_neg b2]
          obtain ⟨i1, i2⟩ := ihr (dp + 1) h4 (by omega) n4 b3 (by omega)
          refine ⟨i1, fun k' h => ?_⟩
          obtain ⟨dp', j1, j2, j3, j4⟩ := i2 k' h
          refine ⟨dp', j1, j2, mem_r j3, ?_⟩
          rw [hsub, if_neg (fun e => n2 (by rw [← e]; exact j3)), if_neg (fun e => n5 k' e j3)]
          exact j4
/-- the model's row once the point stands in it -/
def mcM (M : mM) (n : Nat) (x y z w g : Int) : mM := mset (mset (mset (mset (mset (mset (mset (mset (mset (mset M 88 2001 ((n + 1 : Nat) : Int)) 88 (3 * n) x) 88 (3 * n + 1) y) 88 (3 * n + 2) z) 88 (600 + n) w) 88 (800 + n) g) 88 (1000 + n) 1) 88 (1200 + n) 1) 88 (1400 + n) (-1)) 88 (1600 + n) (-1)
theorem mcM_s {M : mM} {n : Nat} {x y z w g : Int} : same [88] M (mcM M n x y z w g) := by
  unfold mcM
  exact ((((((((same_mset.tr same_mset).tr same_mset).tr same_mset).tr same_mset).tr same_mset).tr same_mset).tr same_mset).tr same_mset).tr same_mset
theorem sp65 {M V : mM} (d : Nat) {n : Nat} (hn : n < 200) (hc : M 88 2001 = (n : Int)) (x y z w g : Int) (hV : vw (mcM M n x y z w g) V) (hV26 : ∀ j, j < 4 → V 26 j = M 88 (2027 + j)) {t : Tr} (hT : MT M n t) (hnd : (ks t).Nodup) (hlt : ∀ x ∈ ks t, x < n) :
    ∃ M', run prog (d + 211) 65 [vr 87, vi x, vi y, vi z, vi w, vi g] (shp, M) = some (.inl (some (vi (n : Int))), (shp, M')) ∧ same [87, 88, 90] M M' ∧ M' 87 8 = 0 ∧ (∀ j, j ≠ 5 → j ≠ 8 → M' 87 j = M 87 j) ∧ MT M' (n + 1) (crT V n t) ∧ (∀ j, j < 4 → M' 88 (2027 + j) = crS V n t j) ∧ ∀ j, (j < 1200 ∨ (2001 ≤ j ∧ j < 2027)) → M' 88 j = mcM M n x y z w g 88 j := by
  show ∃ M', ev prog (d + 211) 65 0 0 [vr 87, vi x, vi y, vi z, vi w, vi g, vj, vj, vj] [] (shp, M) = _ ∧ _
  obtain ⟨t1, t2, t3⟩ := hT
  have hnt : n ∉ ks t := fun q => absurd (hlt n q) (Nat.lt_irrefl _)
  obtain ⟨M1, hM1⟩ : ∃ M1, M1 = mcM M n x y z w g := ⟨_, rfl⟩
  rw [← hM1] at hV ⊢
  have s1 : same [88] M M1 := by rw [hM1]; exact mcM_s
  have m1 : ∀ j, j ≠ 2001 → j ≠ 3 * n → j ≠ 3 * n + 1 → j ≠ 3 * n + 2 → j ≠ 600 + n → j ≠ 800 + n → j ≠ 1000 + n → j ≠ 1200 + n → j ≠ 1400 + n → j ≠ 1600 + n → M1 88 j = M 88 j := by
    intro j q1 q2 q3 q4 q5 q6 q7 q8 q9 q10
    rw [hM1]
    unfold mcM
    rw [mset_j q10, mset_j q9, mset_j q8, mset_j q7, mset_j q6, mset_j q5, mset_j q4, mset_j q3, mset_j q2, mset_j q1]
  have m14 : M1 88 (1400 + n) = -1 := by rw [hM1]; unfold mcM; rw [mset_j (by omega), mset_at]
  have m16 : M1 88 (1600 + n) = -1 := by rw [hM1]; unfold mcM; rw [mset_at]
  have m12 : M1 88 (1200 + n) = 1 := by rw [hM1]; unfold mcM; rw [mset_j (by omega), mset_j (by omega), mset_at]
  have hlt2 : ∀ x ∈ ks t, x < 200 := isT_lt t1
  obtain ⟨M2, a1, a2, a3, a4, a5⟩ := sp57 (M := M1) hV (d + 207) hn (t := t) (by
    rw [m1 2000 (by omega) (by omega) (by omega) (by omega) (by omega) (by omega) (by omega) (by omega) (by omega) (by omega)]
    exact mT_c t1 (fun x hx => by
      have h1 := hlt x hx
      exact ⟨m1 _ (by omega) (by omega) (by omega) (by omega) (by omega) (by omega) (by omega) (by omega) (by omega) (by omega), m1 _ (by omega) (by omega) (by omega) (by omega) (by omega) (by omega) (by omega) (by omega) (by omega) (by omega)⟩)) (isU_c (fun x hx => by
      have h1 := hlt x hx
      exact m1 _ (by omega) (by omega) (by omega) (by omega) (by omega) (by omega) (by omega) (by omega) (by omega) (by omega)) t2) hnd hnt m14 m16
  have hip := ins_perm V n t 0
  have hind : (ks (ins V n t 0)).Nodup := hip.nodup_iff.mpr (List.nodup_cons.mpr ⟨hnt, hnd⟩)
  have hilt : ∀ x ∈ ks (ins V n t 0), x < n + 1 := fun x hx => by
    rcases List.mem_cons.mp (hip.mem_iff.mp hx) with e | e
    · omega
    · have := hlt x e; omega
  have hV2 : vw M2 V := vw_c hV (fun j hj => a5 j (by omega))
  obtain ⟨M3, hM3⟩ : ∃ M3, M3 = mset M2 87 8 0 := ⟨_, rfl⟩
  have s3 : same [87] M2 M3 := by rw [hM3]; exact same_mset
  have e88 : M3 88 = M2 88 := s3 88 (by decide)
  have hV3 : vw M3 V := vw_c hV2 (fun j _ => by rw [e88])
  have hT3 : MT M3 (n + 1) (ins V n t 0) := by
    refine ⟨?_, ?_, fun k hk => ?_⟩
    · rw [e88]
      exact mT_c a3 (fun x _ => by rw [e88]; exact ⟨rfl, rfl⟩)
    · exact isU_c (fun x _ => by show M3 88 _ = M2 88 _; rw [e88]) a4
    · rw [e88, a5 _ (by omega)]
      by_cases c : k = n
      · rw [c, m12, if_pos (hip.mem_iff.mpr List.mem_cons_self)]
      · rw [m1 _ (by omega) (by omega) (by omega) (by omega) (by omega) (by omega) (by omega) (by omega) (by omega) (by omega), t3 k (by omega)]
        by_cases c2 : k ∈ ks t
        · rw [if_pos c2, if_pos (hip.mem_iff.mpr (List.mem_cons_of_mem _ c2))]
        · rw [if_neg c2, if_neg (fun q => by
            rcases List.mem_cons.mp (hip.mem_iff.mp q) with e | e
            · exact c e
            · exact c2 e)]
  have hrt3 := isT_rt hT3.1
  have hTr := hT3.1
  rw [hrt3] at hTr
  have hsz := sz_le hTr hind
  have hht := ht_le (ins V n t 0)
  obtain ⟨i1, i2⟩ := l65 hV3 d hn (ins V n t 0) 0 hTr hsz hind (ins_pok V n t 0 hnt) (by omega)
  have a1 : run prog (d + 210) 57 [vr 87, vi (n : Int)] (shp, M1) = some (.inl none, (shp, M2)) := a1
  have head : ev prog (d + 211) 65 0 0 [vr 87, vi x, vi y, vi z, vi w, vi g, vj, vj, vj] [] (shp, M) = ev prog (d + 211) 65 0 15 [vr 87, vj, vj, vj, vj, vj, vi (n : Int), vi ((0 : Nat) : Int), vi (rt (ins V n t 0))] [] (shp, M3) := by
    have hM1' : mset (mset (mset (mset (mset (mset (mset (mset (mset (mset M 88 2001 ((n + 1 : Nat) : Int)) 88 (3 * n) x) 88 (3 * n + 1) y) 88 (3 * n + 2) z) 88 (600 + n) w) 88 (800 + n) g) 88 (1000 + n) 1) 88 (1200 + n) 1) 88 (1400 + n) (-1)) 88 (1600 + n) (-1) = M1 := hM1.symm
    rw [g65_0, hc, x31 hn, x32 hn, x3 hn, x600 hn, x800 hn, x1000 hn, x1200 hn, x1400 hn, x1600 hn, if_pos (gi2031 (by omega)), if_pos (gi2031 (by omega)), if_pos (gi2031 (by omega)), if_pos (gi2031 (by omega)), if_pos (gi2031 (by omega)), if_pos (gi2031 (by omega)), if_pos (gi2031 (by omega)), if_pos (gi2031 (by omega)), if_pos (gi2031 (by omega)), wI (by omega)]
    simp only [Int.toNat_natCast]
    rw [hM1', a1, callK_r, psh_n, g65_13, ← hM3, ← e88, hrt3]
    rfl
  have f87 : ∀ j, j ≠ 8 → M3 87 j = M 87 j := fun j hj => by rw [hM3, mset_j hj, a2 87 (by decide), s1 87 (by decide)]
  have f878 : M3 87 8 = 0 := by rw [hM3, mset_at]
  have fs : same [87, 88, 90] M M3 := (s1.mono (by decide)).tr ((a2.mono (by decide)).tr (s3.mono (by decide)))
  have f88 : ∀ j, (j < 1400 ∨ 2001 ≤ j) → M3 88 j = M1 88 j := fun j hj => by rw [e88, a5 j hj]
  have f26 : ∀ j, j < 4 → M3 88 (2027 + j) = V 26 j := fun j hj => by
    rw [f88 _ (by omega), m1 _ (by omega) (by omega) (by omega) (by omega) (by omega) (by omega) (by omega) (by omega) (by omega) (by omega), hV26 j hj]
  rw [head]
  by_cases c : tu V n (ins V n t 0) = -1
  · refine ⟨M3, i1 c, fs, f878, fun j _ h2 => f87 j h2, ?_, fun j hj => ?_, fun j hj => f88 j (by omega)⟩
    · unfold crT
      rw [if_pos c]
      exact hT3
    · unfold crS
      rw [if_pos c]
      exact f26 j hj
  · obtain ⟨k, hk, hke⟩ := (tu_mem (M := V) (p := n) (t := ins V n t 0)).resolve_left c
    obtain ⟨dp', j1, j2, j3, j4⟩ := i2 k hke
    obtain ⟨M4, hM4⟩ : ∃ M4, M4 = mset M3 88 2027 (wr (M3 88 2027 + 1)) := ⟨_, rfl⟩
    have s4 : same [88] M3 M4 := by rw [hM4]; exact same_mset
    have m4 : ∀ j, j ≠ 2027 → M4 88 j = M3 88 j := fun j hj => by rw [hM4, mset_j hj]
    have hilt2 : ∀ x ∈ ks (ins V n t 0), x < 200 := isT_lt hTr
    have hT4 : MT M4 (n + 1) (ins V n t 0) := by
      obtain ⟨u1, u2, u3⟩ := hT3
      refine ⟨?_, isU_c (fun x hx => m4 _ (by have := hilt2 x hx; omega)) u2, fun k hk => by rw [m4 _ (by omega)]; exact u3 k hk⟩
      rw [m4 2000 (by omega)]
      exact mT_c u1 (fun x hx => ⟨m4 _ (by have := hilt2 x hx; omega), m4 _ (by have := hilt2 x hx; omega)⟩)
    obtain ⟨M5, b1, b2, b3, b4, b5, b6⟩ := sp64 (M := M4) d (vw_c hV3 (fun j hj => m4 j (by omega))) (n := n + 1) (by omega) hT4 hind hilt hk
    have h59 : run prog (d + 210) 59 [vr 87, vi (k : Int)] (shp, M3) = some (.inl (some (vi 1)), (shp, M3)) := by
      obtain ⟨s9, v9, l9, r9, e9⟩ := sub_form hk
      have hst := sub_T hTr hk
      have hss := sub_sz hk
      rw [e9] at j4 hst hss
      have := sp59 hV3 d hst (by omega)
      rw [j4] at this
      exact this
    refine ⟨M5, ?_, fs.tr ((s4.mono (by decide)).tr b2), ?_, fun j h1 h2 => ?_, ?_, fun j hj => ?_, fun j hj => ?_⟩
    · rw [j1, g65_15, if_neg (by omega), h59, callK_r, psh_s, g65_17, if_neg (by decide), ← hM4, b1, callK_r, psh_n, g65_21]
    · rw [b3 8 (by decide), s4 87 (by decide)]; exact f878
    · rw [b3 j h1, s4 87 (by decide)]; exact f87 j h2
    · unfold crT
      rw [if_neg c, hke, Int.toNat_natCast]
      exact b4
    · unfold crS
      rw [if_neg c, hke, Int.toNat_natCast]
      by_cases c0 : j = 0
      · rw [if_pos c0, c0, b6 2027 (by omega), hM4, mset_at, f26 0 (by decide)]
      · rw [if_neg c0]
        by_cases c3 : j = 3
        · rw [if_pos c3, c3, b5, m4 2030 (by decide), f26 3 (by decide)]
        · rw [if_neg c3, b6 _ (by omega), m4 _ (by omega), f26 j hj]
    · rw [b6 j (by omega), m4 j (by omega)]
      exact f88 j (by omega)
