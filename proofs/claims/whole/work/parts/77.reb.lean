/-! THE CLASS REBUILDS A SUBTREE -/
def posT : Tr → Nat → Nat
  | .leaf, _ => 0
  | .inner _ k _ l r, x => if x = k then 0 else if x ∈ ks l then 1 + posT l x else 1 + sz l + posT r x
def sltT : Tr → Int → Nat → Int
  | .leaf, sl, _ => sl
  | .inner _ k _ l r, sl, x => if x = k then sl else if x ∈ ks l then sltT l ((2 * k : Nat) : Int) x else sltT r ((2 * k + 1 : Nat) : Int) x
def rplB : Tr → Nat → Tr → Tr
  | .leaf, _, _ => .leaf
  | .inner s k v l r, x, B => if x = k then B else if x ∈ ks l then .inner s k v (rplB l x B) r else .inner s k v l (rplB r x B)
theorem mem_i {s k : Nat} {v : Unit} {l r : Tr} {x : Nat} (h : x ∈ ks (.inner s k v l r)) : x = k ∨ x ∈ ks l ∨ x ∈ ks r := by
  rcases List.mem_cons.mp h with h | h
  · exact Or.inl h
  · exact Or.inr (List.mem_append.mp h)
theorem mem_l {s k : Nat} {v : Unit} {l r : Tr} {x : Nat} (h : x ∈ ks l) : x ∈ ks (.inner s k v l r) := List.mem_cons_of_mem _ (List.mem_append.mpr (Or.inl h))
theorem mem_r {s k : Nat} {v : Unit} {l r : Tr} {x : Nat} (h : x ∈ ks r) : x ∈ ks (.inner s k v l r) := List.mem_cons_of_mem _ (List.mem_append.mpr (Or.inr h))
theorem dv_at {M : mM} : ∀ {t : Tr} {p : Int} {d i k : Nat}, dv M t p d i → k ∈ ks t → M 14 k = parT t p k ∧ M 15 k = ((d + dpt t k : Nat) : Int) ∧ M 20 k = ((i + posT t k : Nat) : Int) := by
  intro t
  induction t with
  | leaf => intro p d i k _ hk; exact absurd hk List.not_mem_nil
  | inner s x v l r ihl ihr =>
    intro p d i k h hk
    obtain ⟨h1, h2, h3, h4, h5⟩ := h
    unfold parT dpt posT
    by_cases c : k = x
    · rw [if_pos c, if_pos c, if_pos c, c]
      exact ⟨h1, h2, h3⟩
    · rw [if_neg c, if_neg c, if_neg c]
      by_cases c2 : k ∈ ks l
      · rw [if_pos c2, if_pos c2, if_pos c2]
        obtain ⟨a1, a2, a3⟩ := ihl h4 c2
        refine ⟨a1, ?_, ?_⟩
        · rw [a2]; omega
        · rw [a3]; omega
      · rw [if_neg c2, if_neg c2, if_neg c2]
        have c3 : k ∈ ks r := by rcases mem_i hk with h | h | h; exact absurd h c; exact absurd h c2; exact h
        obtain ⟨a1, a2, a3⟩ := ihr h5 c3
        refine ⟨a1, ?_, ?_⟩
        · rw [a2]; omega
        · rw [a3]; omega
theorem sub_form : ∀ {t : Tr} {k : Nat}, k ∈ ks t → ∃ s v l r, subT t k = .inner s k v l r := by
  intro t
  induction t with
  | leaf => intro k hk; exact absurd hk List.not_mem_nil
  | inner s x v l r ihl ihr =>
    intro k hk
    unfold subT
    by_cases c : k = x
    · rw [if_pos c, c]; exact ⟨s, v, l, r, rfl⟩
    · rw [if_neg c]
      by_cases c2 : k ∈ ks l
      · rw [if_pos c2]; exact ihl c2
      · rw [if_neg c2]
        rcases mem_i hk with h | h | h
        · exact absurd h c
        · exact absurd h c2
        · exact ihr h
theorem sub_mem : ∀ {t : Tr} {k x : Nat}, x ∈ ks (subT t k) → x ∈ ks t := by
  intro t
  induction t with
  | leaf => intro k x h; exact h
  | inner s y v l r ihl ihr =>
    intro k x h
    unfold subT at h
    by_cases c : k = y
    · rw [if_pos c] at h; exact h
    · rw [if_neg c] at h
      by_cases c2 : k ∈ ks l
      · rw [if_pos c2] at h; exact mem_l (ihl h)
      · rw [if_neg c2] at h; exact mem_r (ihr h)
theorem sub_T {f g : Nat → Int} : ∀ {t : Tr} {n : Int} {k : Nat}, isT f g t n → k ∈ ks t → isT f g (subT t k) (k : Int) := by
  intro t
  induction t with
  | leaf => intro n k _ hk; exact absurd hk List.not_mem_nil
  | inner s x v l r ihl ihr =>
    intro n k h hk
    have h' := h
    obtain ⟨h1, h2, h3, h4⟩ := h
    unfold subT
    by_cases c : k = x
    · rw [if_pos c, c, ← h1]; exact h'
    · rw [if_neg c]
      by_cases c2 : k ∈ ks l
      · rw [if_pos c2]; exact ihl h3 c2
      · rw [if_neg c2]
        rcases mem_i hk with h | h | h
        · exact absurd h c
        · exact absurd h c2
        · exact ihr h4 h
theorem sub_sm {M : mM} : ∀ {t : Tr} {k : Nat}, sm M t → sm M (subT t k) := by
  intro t
  induction t with
  | leaf => intro k h; exact h
  | inner s x v l r ihl ihr =>
    intro k h
    unfold subT
    by_cases c : k = x
    · rw [if_pos c]; exact h
    · rw [if_neg c]
      by_cases c2 : k ∈ ks l
      · rw [if_pos c2]; exact ihl h.2.1
      · rw [if_neg c2]; exact ihr h.2.2
theorem sub_nd : ∀ {t : Tr} {k : Nat}, (ks t).Nodup → (ks (subT t k)).Nodup := by
  intro t
  induction t with
  | leaf => intro k h; exact h
  | inner s x v l r ihl ihr =>
    intro k h
    obtain ⟨n1, n2, n3, n4, n5⟩ := nd_i h
    unfold subT
    by_cases c : k = x
    · rw [if_pos c]; exact h
    · rw [if_neg c]
      by_cases c2 : k ∈ ks l
      · rw [if_pos c2]; exact ihl n3
      · rw [if_neg c2]; exact ihr n4
theorem sub_pos : ∀ {t : Tr} {k : Nat}, k ∈ ks t → ∀ (j y : Nat), (ks (subT t k))[j]? = some y → (ks t)[posT t k + j]? = some y := by
  intro t
  induction t with
  | leaf => intro k hk; exact absurd hk List.not_mem_nil
  | inner s x v l r ihl ihr =>
    intro k hk j y hj
    have e0 : ks (.inner s x v l r) = x :: (ks l ++ ks r) := rfl
    unfold subT at hj
    unfold posT
    by_cases c : k = x
    · rw [if_pos c] at hj ⊢
      rw [Nat.zero_add]; exact hj
    · rw [if_neg c] at hj ⊢
      by_cases c2 : k ∈ ks l
      · rw [if_pos c2] at hj ⊢
        have := ihl c2 j y hj
        have hl := (List.getElem?_eq_some_iff.mp this).1
        rw [e0, show 1 + posT l k + j = (posT l k + j) + 1 by omega, List.getElem?_cons_succ, List.getElem?_append_left hl]
        exact this
      · rw [if_neg c2] at hj ⊢
        have c3 : k ∈ ks r := by rcases mem_i hk with h | h | h; exact absurd h c; exact absurd h c2; exact h
        have := ihr c3 j y hj
        have hsl : (ks l).length = sz l := rfl
        rw [e0, show 1 + sz l + posT r k + j = (sz l + (posT r k + j)) + 1 by omega, List.getElem?_cons_succ, List.getElem?_append_right (by omega), hsl, show sz l + (posT r k + j) - sz l = posT r k + j by omega]
        exact this
theorem rt_mem {t : Tr} {x : Nat} (h : rt t = (x : Int)) : x ∈ ks t := by
  cases t with
  | leaf => exact absurd h (by show ¬ (-1 : Int) = (x : Int); omega)
  | inner s k v l r =>
    have h : (k : Int) = (x : Int) := h
    have : x = k := by omega
    rw [this]; exact List.mem_cons_self
/-- where a subtree hangs -/
theorem slt_at {f g : Nat → Int} : ∀ {t : Tr} {p sl : Int} {k : Nat}, isT f g t (rt t) → (ks t).Nodup → k ∈ ks t →
    (rt t = (k : Int) ∧ parT t p k = p ∧ sltT t sl k = sl) ∨ ∃ q, q ∈ ks t ∧ q ∉ ks (subT t k) ∧ parT t p k = (q : Int) ∧ ((f q = (k : Int) ∧ sltT t sl k = ((2 * q : Nat) : Int)) ∨ (f q ≠ (k : Int) ∧ g q = (k : Int) ∧ sltT t sl k = ((2 * q + 1 : Nat) : Int))) := by
  intro t
  induction t with
  | leaf => intro p sl k _ _ hk; exact absurd hk List.not_mem_nil
  | inner s x v l r ihl ihr =>
    intro p sl k hT hnd hk
    obtain ⟨n1, n2, n3, n4, n5⟩ := nd_i hnd
    obtain ⟨-, h2, h3, h4⟩ := hT
    have e3 := isT_rt h3
    have e4 := isT_rt h4
    rw [e3] at h3
    rw [e4] at h4
    unfold parT sltT subT
    by_cases c : k = x
    · refine Or.inl ⟨?_, ?_, ?_⟩
      · rw [c]; rfl
      · rw [if_pos c]
      · rw [if_pos c]
    · refine Or.inr ?_
      rw [if_neg c, if_neg c, if_neg c]
      by_cases c2 : k ∈ ks l
      · rw [if_pos c2, if_pos c2, if_pos c2]
        rcases ihl (p := (x : Int)) (sl := ((2 * x : Nat) : Int)) h3 n3 c2 with ⟨a1, a2, a3⟩ | ⟨q, a1, a2, a3, a4⟩
        · exact ⟨x, List.mem_cons_self, fun h => n1 (sub_mem h), a2, Or.inl ⟨by rw [e3, a1], a3⟩⟩
        · exact ⟨q, mem_l a1, a2, a3, a4⟩
      · rw [if_neg c2, if_neg c2, if_neg c2]
        have c3 : k ∈ ks r := by rcases mem_i hk with h | h | h; exact absurd h c; exact absurd h c2; exact h
        rcases ihr (p := (x : Int)) (sl := ((2 * x + 1 : Nat) : Int)) h4 n4 c3 with ⟨a1, a2, a3⟩ | ⟨q, a1, a2, a3, a4⟩
        · refine ⟨x, List.mem_cons_self, fun h => n2 (sub_mem h), a2, Or.inr ⟨?_, by rw [e4, a1], a3⟩⟩
          rw [e3]
          exact fun h => c2 (rt_mem h)
        · exact ⟨q, mem_r a1, a2, a3, a4⟩
theorem rpl_T {f g f' g' : Nat → Int} {B : Tr} (hB : isT f' g' B (rt B)) : ∀ {t : Tr} {sl : Int} {k : Nat}, isT f g t (rt t) → (ks t).Nodup → k ∈ ks t →
    (∀ x ∈ ks t, x ∉ ks (subT t k) → f' x = (if sltT t sl k = ((2 * x : Nat) : Int) then rt B else f x) ∧ g' x = (if sltT t sl k = ((2 * x + 1 : Nat) : Int) then rt B else g x)) →
    isT f' g' (rplB t k B) (if rt t = (k : Int) then rt B else rt t) := by
  intro t
  induction t with
  | leaf => intro sl k _ _ hk; exact absurd hk List.not_mem_nil
  | inner s x v l r ihl ihr =>
    intro sl k hT hnd hk hx
    obtain ⟨n1, n2, n3, n4, n5⟩ := nd_i hnd
    obtain ⟨-, h2, h3, h4⟩ := hT
    have e3 := isT_rt h3
    have e4 := isT_rt h4
    rw [e3] at h3
    rw [e4] at h4
    have er : rt (.inner s x v l r : Tr) = (x : Int) := rfl
    unfold rplB
    unfold sltT subT at hx
    by_cases c : k = x
    · rw [if_pos c, er, if_pos (by omega)]
      exact hB
    · rw [if_neg c, er, if_neg (show ¬ (x : Int) = (k : Int) by omega)]
      rw [if_neg c, if_neg c] at hx
      by_cases c2 : k ∈ ks l
      · rw [if_pos c2]
        rw [if_pos c2, if_pos c2] at hx
        have hl := ihl (sl := ((2 * x : Nat) : Int)) h3 n3 c2 (fun y hy hyn => hx y (mem_l hy) hyn)
        obtain ⟨k1, k2⟩ := hx x List.mem_cons_self (fun h => n1 (sub_mem h))
        have hs := slt_at (p := 0) (sl := ((2 * x : Nat) : Int)) h3 n3 c2
        refine ⟨rfl, h2, ?_, ?_⟩
        · rcases hs with ⟨a1, a2, a3⟩ | ⟨q, a1, a2, a3, a4⟩
          · rw [a3, if_pos rfl] at k1
            rw [a1, if_pos rfl] at hl
            rw [k1]; exact hl
          · have hqx : q ≠ x := fun e => n1 (by rw [← e]; exact a1)
            have hne : sltT l ((2 * x : Nat) : Int) k ≠ ((2 * x : Nat) : Int) := by omega
            rw [if_neg hne, e3] at k1
            have hrt : rt l ≠ (k : Int) := by
              intro e
              cases l with
              | leaf => exact absurd c2 List.not_mem_nil
              | inner s2 x2 v2 l2 r2 =>
                have e : (x2 : Int) = (k : Int) := e
                have e : k = x2 := by omega
                rw [e] at a2
                apply a2
                unfold subT
                rw [if_pos rfl]
                exact a1
            rw [if_neg hrt] at hl
            rw [k1]; exact hl
        · have hne : sltT l ((2 * x : Nat) : Int) k ≠ ((2 * x + 1 : Nat) : Int) := by
            rcases hs with ⟨a1, a2, a3⟩ | ⟨q, a1, a2, a3, a4⟩
            · omega
            · have hqx : q ≠ x := fun e => n1 (by rw [← e]; exact a1)
              omega
          rw [if_neg hne, e4] at k2
          rw [k2]
          refine isT_c (fun y hy => ?_) h4
          obtain ⟨y1, y2⟩ := hx y (mem_r hy) (fun h => n5 y (sub_mem h) hy)
          have hyx : y ≠ x := fun e => n2 (by rw [← e]; exact hy)
          have hny : sltT l ((2 * x : Nat) : Int) k ≠ ((2 * y : Nat) : Int) ∧ sltT l ((2 * x : Nat) : Int) k ≠ ((2 * y + 1 : Nat) : Int) := by
            rcases hs with ⟨a1, a2, a3⟩ | ⟨q, a1, a2, a3, a4⟩
            · omega
            · have hqy : q ≠ y := fun e => n5 q a1 (by rw [e]; exact hy)
              omega
          rw [if_neg hny.1] at y1
          rw [if_neg hny.2] at y2
          exact ⟨y1, y2⟩
      · rw [if_neg c2]
        rw [if_neg c2, if_neg c2] at hx
        have c3 : k ∈ ks r := by rcases mem_i hk with h | h | h; exact absurd h c; exact absurd h c2; exact h
        have hr := ihr (sl := ((2 * x + 1 : Nat) : Int)) h4 n4 c3 (fun y hy hyn => hx y (mem_r hy) hyn)
        obtain ⟨k1, k2⟩ := hx x List.mem_cons_self (fun h => n2 (sub_mem h))
        have hs := slt_at (p := 0) (sl := ((2 * x + 1 : Nat) : Int)) h4 n4 c3
        refine ⟨rfl, h2, ?_, ?_⟩
        · have hne : sltT r ((2 * x + 1 : Nat) : Int) k ≠ ((2 * x : Nat) : Int) := by
            rcases hs with ⟨a1, a2, a3⟩ | ⟨q, a1, a2, a3, a4⟩
            · omega
            · have hqx : q ≠ x := fun e => n2 (by rw [← e]; exact a1)
              omega
          rw [if_neg hne, e3] at k1
          rw [k1]
          refine isT_c (fun y hy => ?_) h3
          obtain ⟨y1, y2⟩ := hx y (mem_l hy) (fun h => n5 y hy (sub_mem h))
          have hyx : y ≠ x := fun e => n1 (by rw [← e]; exact hy)
          have hny : sltT r ((2 * x + 1 : Nat) : Int) k ≠ ((2 * y : Nat) : Int) ∧ sltT r ((2 * x + 1 : Nat) : Int) k ≠ ((2 * y + 1 : Nat) : Int) := by
            rcases hs with ⟨a1, a2, a3⟩ | ⟨q, a1, a2, a3, a4⟩
            · omega
            · have hqy : y ≠ q := fun e => n5 y hy (by rw [e]; exact a1)
              omega
          rw [if_neg hny.1] at y1
          rw [if_neg hny.2] at y2
          exact ⟨y1, y2⟩
        · rcases hs with ⟨a1, a2, a3⟩ | ⟨q, a1, a2, a3, a4⟩
          · rw [a3, if_pos rfl] at k2
            rw [a1, if_pos rfl] at hr
            rw [k2]; exact hr
          · have hqx : q ≠ x := fun e => n2 (by rw [← e]; exact a1)
            have hne : sltT r ((2 * x + 1 : Nat) : Int) k ≠ ((2 * x + 1 : Nat) : Int) := by omega
            rw [if_neg hne, e4] at k2
            have hrt : rt r ≠ (k : Int) := by
              intro e
              cases r with
              | leaf => exact absurd c3 List.not_mem_nil
              | inner s2 x2 v2 l2 r2 =>
                have e : (x2 : Int) = (k : Int) := e
                have e : k = x2 := by omega
                rw [e] at a2
                apply a2
                unfold subT
                rw [if_pos rfl]
                exact a1
            rw [if_neg hrt] at hr
            rw [k2]; exact hr
theorem rpl_mem {B : Tr} : ∀ {t : Tr} {k : Nat}, (ks t).Nodup → k ∈ ks t → ∀ x, x ∈ ks (rplB t k B) ↔ (x ∈ ks t ∧ x ∉ ks (subT t k)) ∨ x ∈ ks B := by
  intro t
  induction t with
  | leaf => intro k _ hk; exact absurd hk List.not_mem_nil
  | inner s y v l r ihl ihr =>
    intro k hnd hk x
    obtain ⟨n1, n2, n3, n4, n5⟩ := nd_i hnd
    unfold rplB subT
    by_cases c : k = y
    · rw [if_pos c, if_pos c]
      exact ⟨fun h => Or.inr h, fun h => h.elim (fun h => absurd h.1 h.2) id⟩
    · rw [if_neg c, if_neg c]
      by_cases c2 : k ∈ ks l
      · rw [if_pos c2, if_pos c2]
        have ih := ihl n3 c2 x
        constructor
        · intro h
          rcases mem_i h with h | h | h
          · exact Or.inl ⟨by rw [h]; exact List.mem_cons_self, fun q => n1 (by rw [← h]; exact sub_mem q)⟩
          · rcases ih.mp h with h | h
            · exact Or.inl ⟨mem_l h.1, h.2⟩
            · exact Or.inr h
          · exact Or.inl ⟨mem_r h, fun q => n5 x (sub_mem q) h⟩
        · rintro (⟨h1, h2⟩ | h)
          · rcases mem_i h1 with h | h | h
            · rw [h]; exact List.mem_cons_self
            · exact mem_l (ih.mpr (Or.inl ⟨h, h2⟩))
            · exact mem_r h
          · exact mem_l (ih.mpr (Or.inr h))
      · rw [if_neg c2, if_neg c2]
        have c3 : k ∈ ks r := by rcases mem_i hk with h | h | h; exact absurd h c; exact absurd h c2; exact h
        have ih := ihr n4 c3 x
        constructor
        · intro h
          rcases mem_i h with h | h | h
          · exact Or.inl ⟨by rw [h]; exact List.mem_cons_self, fun q => n2 (by rw [← h]; exact sub_mem q)⟩
          · exact Or.inl ⟨mem_l h, fun q => n5 x h (sub_mem q)⟩
          · rcases ih.mp h with h | h
            · exact Or.inl ⟨mem_r h.1, h.2⟩
            · exact Or.inr h
        · rintro (⟨h1, h2⟩ | h)
          · rcases mem_i h1 with h | h | h
            · rw [h]; exact List.mem_cons_self
            · exact mem_l h
            · exact mem_r (ih.mpr (Or.inl ⟨h, h2⟩))
          · exact mem_r (ih.mpr (Or.inr h))
theorem rpl_nd {B : Tr} (hB : (ks B).Nodup) : ∀ {t : Tr} {k : Nat}, (ks t).Nodup → k ∈ ks t → (∀ x ∈ ks B, x ∈ ks (subT t k)) → (ks (rplB t k B)).Nodup := by
  intro t
  induction t with
  | leaf => intro k _ hk; exact absurd hk List.not_mem_nil
  | inner s y v l r ihl ihr =>
    intro k hnd hk hs
    obtain ⟨n1, n2, n3, n4, n5⟩ := nd_i hnd
    unfold rplB
    unfold subT at hs
    by_cases c : k = y
    · rw [if_pos c]; exact hB
    · rw [if_neg c]
      rw [if_neg c] at hs
      have mk : ∀ {a b : List Nat} {y : Nat}, y ∉ a → y ∉ b → a.Nodup → b.Nodup → (∀ x ∈ a, x ∉ b) → (y :: (a ++ b)).Nodup := fun h1 h2 h3 h4 h5 =>
        List.nodup_cons.mpr ⟨fun h => (List.mem_append.mp h).elim h1 h2, List.nodup_append.mpr ⟨h3, h4, fun a ha b hb e => h5 a ha (by rw [e]; exact hb)⟩⟩
      by_cases c2 : k ∈ ks l
      · rw [if_pos c2]
        rw [if_pos c2] at hs
        have hm : ∀ x, x ∈ ks (rplB l k B) → x ∈ ks l := fun x hx => (rpl_mem n3 c2 x).mp hx |>.elim (fun h => h.1) (fun h => sub_mem (hs x h))
        exact mk (fun h => n1 (hm y h)) n2 (ihl n3 c2 hs) n4 (fun x hx => n5 x (hm x hx))
      · rw [if_neg c2]
        rw [if_neg c2] at hs
        have c3 : k ∈ ks r := by rcases mem_i hk with h | h | h; exact absurd h c; exact absurd h c2; exact h
        have hm : ∀ x, x ∈ ks (rplB r k B) → x ∈ ks r := fun x hx => (rpl_mem n4 c3 x).mp hx |>.elim (fun h => h.1) (fun h => sub_mem (hs x h))
        exact mk n1 (fun h => n2 (hm y h)) n3 (ihr n4 c3 hs) (fun x hx h => n5 x hx (hm x h))
