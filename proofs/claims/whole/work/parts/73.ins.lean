/-! A LEAF COMES INTO THE TREE -/
theorem tm3 (n : Nat) : Int.tmod (n : Int) 3 = ((n % 3 : Nat) : Int) := rfl
def bef (M : mM) (a p k : Nat) : Bool := decide (M 8 (3 * p + a) < M 8 (3 * k + a) ∨ (M 8 (3 * p + a) = M 8 (3 * k + a) ∧ p < k))
theorem bef_c {M M' : mM} (h : M' 8 = M 8) (a : Nat) : bef M' a = bef M a := by
  funext p k
  unfold bef
  rw [h]
theorem p21_bef (M : mM) {p k a : Nat} (hp : p < 200) (hk : k < 200) (ha : a < 3) : p21 (p : Int) (k : Int) (a : Int) M = bef M a p k := by
  unfold p21 bef
  rw [r20_at M hp ha, r20_at M hk ha]
  by_cases c : M 8 (3 * p + a) < M 8 (3 * k + a)
  · rw [if_pos c, decide_eq_true (Or.inl c)]
  · rw [if_neg c]
    by_cases c2 : M 8 (3 * p + a) = M 8 (3 * k + a)
    · rw [if_pos c2]
      by_cases c3 : p < k
      · rw [if_pos (by omega), decide_eq_true (Or.inr ⟨c2, c3⟩)]
      · rw [if_neg (by omega), decide_eq_false (fun q => q.elim c (fun q => c3 q.2))]
    · rw [if_neg c2, decide_eq_false (fun q => q.elim c (fun q => c2 q.1))]
def ins (M : mM) (p : Nat) : Tr → Nat → Tr
  | .leaf, _ => .inner 0 p () .leaf .leaf
  | .inner s k v l r, dp => match bef M (dp % 3) p k with
    | true => .inner s k v (ins M p l (dp + 1)) r
    | false => .inner s k v l (ins M p r (dp + 1))
/-- the slot of the new leaf -/
def slT (M : mM) (p : Nat) : Tr → Nat → Int → Int
  | .leaf, _, sl => sl
  | .inner _ k _ l r, dp, _ => match bef M (dp % 3) p k with
    | true => slT M p l (dp + 1) ((2 * k : Nat) : Int)
    | false => slT M p r (dp + 1) ((2 * k + 1 : Nat) : Int)
theorem ins_perm (M : mM) (p : Nat) : ∀ (t : Tr) (dp : Nat), (ks (ins M p t dp)).Perm (p :: ks t) := by
  intro t
  induction t with
  | leaf => intro dp; exact List.Perm.refl _
  | inner s k v l r ihl ihr =>
    intro dp
    unfold ins
    cases bef M (dp % 3) p k with
    | true =>
      show (k :: (ks (ins M p l (dp + 1)) ++ ks r)).Perm (p :: k :: (ks l ++ ks r))
      refine List.Perm.trans (List.Perm.cons k ((ihl (dp + 1)).append_right (ks r))) ?_
      exact List.Perm.swap p k _
    | false =>
      show (k :: (ks l ++ ks (ins M p r (dp + 1)))).Perm (p :: k :: (ks l ++ ks r))
      refine List.Perm.trans (List.Perm.cons k ((ihr (dp + 1)).append_left (ks l))) ?_
      refine List.Perm.trans (List.Perm.cons k List.perm_middle) ?_
      exact List.Perm.swap p k _
theorem slT_mem (M : mM) (p : Nat) : ∀ (t : Tr) (dp : Nat) (sl : Int), (t = .leaf ∧ slT M p t dp sl = sl) ∨ ∃ k ∈ ks t, slT M p t dp sl = ((2 * k : Nat) : Int) ∨ slT M p t dp sl = ((2 * k + 1 : Nat) : Int) := by
  intro t
  induction t with
  | leaf => intro dp sl; exact Or.inl ⟨rfl, rfl⟩
  | inner s k v l r ihl ihr =>
    intro dp sl
    refine Or.inr ?_
    have e : slT M p (.inner s k v l r) dp sl = match bef M (dp % 3) p k with
      | true => slT M p l (dp + 1) ((2 * k : Nat) : Int)
      | false => slT M p r (dp + 1) ((2 * k + 1 : Nat) : Int) := rfl
    rw [e]
    cases bef M (dp % 3) p k with
    | true =>
      rcases ihl (dp + 1) ((2 * k : Nat) : Int) with ⟨h1, h2⟩ | ⟨j, h1, h2⟩
      · exact ⟨k, List.mem_cons_self, Or.inl h2⟩
      · exact ⟨j, List.mem_cons_of_mem _ (List.mem_append.mpr (Or.inl h1)), h2⟩
    | false =>
      rcases ihr (dp + 1) ((2 * k + 1 : Nat) : Int) with ⟨h1, h2⟩ | ⟨j, h1, h2⟩
      · exact ⟨k, List.mem_cons_self, Or.inr h2⟩
      · exact ⟨j, List.mem_cons_of_mem _ (List.mem_append.mpr (Or.inr h1)), h2⟩
theorem ins_T {M : mM} {p : Nat} {f g f' g' : Nat → Int} (hp : p < 200) (hf : f' p = -1) (hg : g' p = -1) : ∀ (t : Tr) (dp : Nat) (sl : Int), isT f g t (rt t) → (ks t).Nodup → p ∉ ks t →
    (∀ k ∈ ks t, f' k = (if slT M p t dp sl = ((2 * k : Nat) : Int) then (p : Int) else f k) ∧ g' k = (if slT M p t dp sl = ((2 * k + 1 : Nat) : Int) then (p : Int) else g k)) →
    isT f' g' (ins M p t dp) (match t with | .leaf => (p : Int) | .inner _ k _ _ _ => (k : Int)) := by
  intro t
  induction t with
  | leaf => intro dp sl _ _ _ _; exact ⟨rfl, hp, hf, hg⟩
  | inner s k v l r ihl ihr =>
    intro dp sl hT hnd hpt hk
    obtain ⟨n1, n2, n3, n4, n5⟩ := nd_i hnd
    obtain ⟨-, h2, h3, h4⟩ := hT
    have e3 := isT_rt h3
    have e4 := isT_rt h4
    rw [e3] at h3
    rw [e4] at h4
    have e : slT M p (.inner s k v l r) dp sl = match bef M (dp % 3) p k with
      | true => slT M p l (dp + 1) ((2 * k : Nat) : Int)
      | false => slT M p r (dp + 1) ((2 * k + 1 : Nat) : Int) := rfl
    rw [e] at hk
    have pl : p ∉ ks l := fun q => hpt (List.mem_cons_of_mem _ (List.mem_append.mpr (Or.inl q)))
    have pr : p ∉ ks r := fun q => hpt (List.mem_cons_of_mem _ (List.mem_append.mpr (Or.inr q)))
    have ml : ∀ x ∈ ks l, x ∈ ks (.inner s k v l r) := fun x hx => List.mem_cons_of_mem _ (List.mem_append.mpr (Or.inl hx))
    have mr : ∀ x ∈ ks r, x ∈ ks (.inner s k v l r) := fun x hx => List.mem_cons_of_mem _ (List.mem_append.mpr (Or.inr hx))
    unfold ins
    cases hb : bef M (dp % 3) p k with
    | true =>
      rw [hb] at hk
      have hk : ∀ x ∈ ks (.inner s k v l r), f' x = (if slT M p l (dp + 1) ((2 * k : Nat) : Int) = ((2 * x : Nat) : Int) then (p : Int) else f x) ∧ g' x = (if slT M p l (dp + 1) ((2 * k : Nat) : Int) = ((2 * x + 1 : Nat) : Int) then (p : Int) else g x) := hk
      have hl := ihl (dp + 1) _ h3 n3 pl (fun x hx => hk x (ml x hx))
      obtain ⟨k1, k2⟩ := hk k List.mem_cons_self
      have hm := slT_mem M p l (dp + 1) ((2 * k : Nat) : Int)
      refine ⟨rfl, h2, ?_, ?_⟩
      · rcases hm with ⟨q1, q2⟩ | ⟨j, q1, q2⟩
        · rw [q2, if_pos rfl] at k1
          rw [k1]
          subst q1
          exact hl
        · have hjk : j ≠ k := fun q => n1 (by rw [← q]; exact q1)
          rw [if_neg (by omega), e3] at k1
          rw [k1]
          cases l with
          | leaf => exact absurd q1 List.not_mem_nil
          | inner s2 k2 v2 l2 r2 => exact hl
      · have k2' : g' k = rt r := by
          rcases hm with ⟨q1, q2⟩ | ⟨j, q1, q2⟩
          · rw [q2, if_neg (by omega), e4] at k2; exact k2
          · have hjk : j ≠ k := fun q => n1 (by rw [← q]; exact q1)
            rw [if_neg (by omega), e4] at k2; exact k2
        rw [k2']
        refine isT_c (fun x hx => ?_) h4
        obtain ⟨y1, y2⟩ := hk x (mr x hx)
        have hxk : x ≠ k := fun q => n2 (by rw [← q]; exact hx)
        rcases hm with ⟨q1, q2⟩ | ⟨j, q1, q2⟩
        · rw [q2, if_neg (by omega)] at y1 y2
          exact ⟨y1, y2⟩
        · have hxj : j ≠ x := fun q => n5 j q1 (by rw [q]; exact hx)
          rw [if_neg (by omega)] at y1 y2
          exact ⟨y1, y2⟩
    | false =>
      rw [hb] at hk
      have hk : ∀ x ∈ ks (.inner s k v l r), f' x = (if slT M p r (dp + 1) ((2 * k + 1 : Nat) : Int) = ((2 * x : Nat) : Int) then (p : Int) else f x) ∧ g' x = (if slT M p r (dp + 1) ((2 * k + 1 : Nat) : Int) = ((2 * x + 1 : Nat) : Int) then (p : Int) else g x) := hk
      have hr := ihr (dp + 1) _ h4 n4 pr (fun x hx => hk x (mr x hx))
      obtain ⟨k1, k2⟩ := hk k List.mem_cons_self
      have hm := slT_mem M p r (dp + 1) ((2 * k + 1 : Nat) : Int)
      refine ⟨rfl, h2, ?_, ?_⟩
      · have k1' : f' k = rt l := by
          rcases hm with ⟨q1, q2⟩ | ⟨j, q1, q2⟩
          · rw [q2, if_neg (by omega), e3] at k1; exact k1
          · have hjk : j ≠ k := fun q => n2 (by rw [← q]; exact q1)
            rw [if_neg (by omega), e3] at k1; exact k1
        rw [k1']
        refine isT_c (fun x hx => ?_) h3
        obtain ⟨y1, y2⟩ := hk x (ml x hx)
        have hxk : x ≠ k := fun q => n1 (by rw [← q]; exact hx)
        rcases hm with ⟨q1, q2⟩ | ⟨j, q1, q2⟩
        · rw [q2, if_neg (by omega)] at y1 y2
          exact ⟨y1, y2⟩
        · have hxj : x ≠ j := fun q => n5 x hx (by rw [q]; exact q1)
          rw [if_neg (by omega)] at y1 y2
          exact ⟨y1, y2⟩
      · rcases hm with ⟨q1, q2⟩ | ⟨j, q1, q2⟩
        · rw [q2, if_pos rfl] at k2
          rw [k2]
          subst q1
          exact hr
        · have hjk : j ≠ k := fun q => n2 (by rw [← q]; exact q1)
          rw [if_neg (by omega), e4] at k2
          rw [k2]
          cases r with
          | leaf => exact absurd q1 List.not_mem_nil
          | inner s2 k2 v2 l2 r2 => exact hr
/-- the class walks to the new slot -/
theorem sp23l {M : mM} (d : Nat) {p : Nat} (hp : p < 200) : ∀ (t : Tr) (dp : Nat) (sl : Int), isT (clf M) (crf M) t (rt t) → dp + ht t ≤ 200 →
    ∃ dp' : Nat, ev prog (d + 4) 23 0 1 [vr 12, vi (p : Int), vi sl, vi (rt t), vi (dp : Int)] [] (shp, M) = ev prog (d + 4) 23 0 1 [vr 12, vi (p : Int), vi (slT M p t dp sl), vi (-1), vi (dp' : Int)] [] (shp, M) := by
  intro t
  induction t with
  | leaf => intro dp sl _ _; exact ⟨dp, rfl⟩
  | inner s k v l r ihl ihr =>
    intro dp sl hT hd
    obtain ⟨-, h2, h3, h4⟩ := hT
    have e3 : M 13 (2 * k) = rt l := isT_rt h3
    have e4 : M 13 (2 * k + 1) = rt r := isT_rt h4
    have h3 : isT (clf M) (crf M) l (rt l) := by rw [← isT_rt h3]; exact h3
    have h4 : isT (clf M) (crf M) r (rt r) := by rw [← isT_rt h4]; exact h4
    have hh : ht (.inner s k v l r : Tr) = 1 + (if ht l < ht r then ht r else ht l) := rfl
    have hl : dp + 1 + ht l ≤ 200 := by rw [hh] at hd; split at hd <;> omega
    have hr : dp + 1 + ht r ≤ 200 := by rw [hh] at hd; split at hd <;> omega
    have e : slT M p (.inner s k v l r) dp sl = match bef M (dp % 3) p k with
      | true => slT M p l (dp + 1) ((2 * k : Nat) : Int)
      | false => slT M p r (dp + 1) ((2 * k + 1 : Nat) : Int) := rfl
    have v0 : va M 13 400 ((2 * k : Nat) : Int) = rt l := by rw [va_in ⟨by omega, by omega⟩, Int.toNat_natCast, e3]
    have v1 : va M 13 400 ((2 * k + 1 : Nat) : Int) = rt r := by rw [va_in ⟨by omega, by omega⟩, Int.toNat_natCast, e4]
    have st : ev prog (d + 4) 23 0 1 [vr 12, vi (p : Int), vi sl, vi (rt (.inner s k v l r)), vi (dp : Int)] [] (shp, M) = match bef M (dp % 3) p k with
      | true => ev prog (d + 4) 23 0 1 [vr 12, vi (p : Int), vi ((2 * k : Nat) : Int), vi (rt l), vi ((dp + 1 : Nat) : Int)] [] (shp, M)
      | false => ev prog (d + 4) 23 0 1 [vr 12, vi (p : Int), vi ((2 * k + 1 : Nat) : Int), vi (rt r), vi ((dp + 1 : Nat) : Int)] [] (shp, M) := by
      rw [show rt (.inner s k v l r : Tr) = (k : Int) from rfl, g23_1, if_pos (by omega), if_neg (by omega), tm3, p21_bef M hp h2 (Nat.mod_lt _ (by decide)), wI (by omega), x20 (by omega), x21 (by omega), v0, v1]
      cases bef M (dp % 3) p k with
      | true => rw [if_neg (show ¬ bi true = 0 by decide)]
      | false => rw [if_pos (show bi false = 0 from rfl)]
    rw [st, e]
    cases bef M (dp % 3) p k with
    | true => exact ihl (dp + 1) _ h3 hl
    | false => exact ihr (dp + 1) _ h4 hr
theorem sp23 {M : mM} (d : Nat) {p : Nat} (hp : p < 200) {t : Tr} (hT : isT (clf M) (crf M) t (M 12 11)) (hnd : (ks t).Nodup) (hpt : p ∉ ks t) :
    ∃ M', run prog (d + 4) 23 [vr 12, vi (p : Int)] (shp, M) = some (.inl none, (shp, M')) ∧ same [12, 13] M M' ∧ isT (clf M') (crf M') (ins M p t 0) (M' 12 11) := by
  show ∃ M', ev prog (d + 4) 23 0 0 [vr 12, vi (p : Int), vj, vj, vj] [] (shp, M) = _ ∧ _
  have hr := isT_rt hT
  rw [hr] at hT
  obtain ⟨dp', st⟩ := sp23l d hp t 0 (-1) hT (by have := ht_le t; have := sz_le hT hnd; omega)
  have st : ev prog (d + 4) 23 0 1 [vr 12, vi (p : Int), vi (-1), vi (rt t), vi 0] [] (shp, M) = _ := st
  have fin : ∀ M', run prog (d + 3) 22 [vr 12, vi (slT M p t 0 (-1)), vi (p : Int)] (shp, M) = some (.inl none, (shp, M')) → ev prog (d + 4) 23 0 0 [vr 12, vi (p : Int), vj, vj, vj] [] (shp, M) = some (.inl none, (shp, M')) := by
    intro M' h
    rw [g23_0, hr, st, g23_1]
    by_cases c : (dp' : Int) < 200
    · rw [if_pos c, if_pos rfl, h, callK_r, psh_n, g23_10]
    · rw [if_neg c, h, callK_r, psh_n, g23_10]
  rw [s22 (d + 1)] at fin
  unfold o22 at fin
  rw [x21 (by omega), x2 (by omega), if_neg (show ¬ (p : Int) = -1 by omega), if_neg (show ¬ (p : Int) = -1 by omega)] at fin
  have pm : ∀ (N : mM) (j : Nat) (w : Int), j < 400 → pu N 13 400 (j : Int) w = mset N 13 j w := fun N j w hj => by rw [pu_in ⟨by omega, by omega⟩, Int.toNat_natCast]
  cases t with
  | leaf =>
    have e : slT M p .leaf 0 (-1) = -1 := rfl
    rw [e, if_pos rfl, pm _ _ _ (by omega), pm _ _ _ (by omega)] at fin
    refine ⟨_, fin _ rfl, ((same_mset.mono (by decide)).tr (same_mset.mono (by decide))).tr (same_mset.mono (by decide)), ?_⟩
    refine ⟨?_, hp, ?_, ?_⟩
    · rw [mset_k (by decide), mset_k (by decide), mset_at]
    · show mset _ 13 (2 * p + 1) (-1) 13 (2 * p) = -1
      rw [mset_j (by omega), mset_at]
    · show mset _ 13 (2 * p + 1) (-1) 13 (2 * p + 1) = -1
      rw [mset_at]
  | inner s k v l r =>
    obtain ⟨j, hj, hsl⟩ : ∃ j : Nat, j < 400 ∧ slT M p (.inner s k v l r) 0 (-1) = (j : Int) := by
      rcases slT_mem M p (.inner s k v l r) 0 (-1) with ⟨h1, -⟩ | ⟨x, h1, h2 | h2⟩
      · cases h1
      · exact ⟨2 * x, by have := isT_lt hT x h1; omega, h2⟩
      · exact ⟨2 * x + 1, by have := isT_lt hT x h1; omega, h2⟩
    have hne : j ≠ 2 * p ∧ j ≠ 2 * p + 1 := by
      rcases slT_mem M p (.inner s k v l r) 0 (-1) with ⟨h1, -⟩ | ⟨x, h1, h2⟩
      · cases h1
      · have hxp : x ≠ p := fun q => hpt (by rw [← q]; exact h1)
        omega
    rw [hsl, if_neg (show ¬ (j : Int) = -1 by omega), pm _ (2 * p + 1) _ (by omega), pm _ (2 * p) _ (by omega), pm _ j _ hj] at fin
    refine ⟨_, fin _ rfl, ((same_mset.mono (by decide)).tr (same_mset.mono (by decide))).tr (same_mset.mono (by decide)), ?_⟩
    have key := ins_T (M := M) (p := p) (f := clf M) (g := crf M) (f' := clf (mset (mset (mset M 13 j (p : Int)) 13 (2 * p) (-1)) 13 (2 * p + 1) (-1))) (g' := crf (mset (mset (mset M 13 j (p : Int)) 13 (2 * p) (-1)) 13 (2 * p + 1) (-1))) hp
      (by show mset _ 13 (2 * p + 1) (-1) 13 (2 * p) = -1; rw [mset_j (by omega), mset_at]) (by show mset _ 13 (2 * p + 1) (-1) 13 (2 * p + 1) = -1; rw [mset_at])
      (.inner s k v l r) 0 (-1) hT hnd hpt (fun x hx => by
        have hxp : x ≠ p := fun q => hpt (by rw [← q]; exact hx)
        rw [hsl]
        constructor
        · show mset _ 13 (2 * p + 1) (-1) 13 (2 * x) = _
          rw [mset_j (by omega), mset_j (by omega)]
          by_cases c : j = 2 * x
          · rw [if_pos (by omega), c, mset_at]
          · rw [if_neg (by omega), mset_j (by omega)]
            rfl
        · show mset _ 13 (2 * p + 1) (-1) 13 (2 * x + 1) = _
          rw [mset_j (by omega), mset_j (by omega)]
          by_cases c : j = 2 * x + 1
          · rw [if_pos (by omega), c, mset_at]
          · rw [if_neg (by omega), mset_j (by omega)]
            rfl)
    rw [mset_k (by decide), mset_k (by decide), mset_k (by decide), hr]
    exact key
