/-! TREES OF POINTS -/
abbrev Tr : Type := Std.DTreeMap.Internal.Impl Nat (fun _ => Unit)
def ks : Tr → List Nat
  | .leaf => []
  | .inner _ k _ l r => k :: (ks l ++ ks r)
def rt : Tr → Int
  | .leaf => -1
  | .inner _ k _ _ _ => (k : Int)
def ht : Tr → Nat
  | .leaf => 0
  | .inner _ _ _ l r => 1 + (if ht l < ht r then ht r else ht l)
def sz (t : Tr) : Nat := (ks t).length
def isT (f g : Nat → Int) : Tr → Int → Prop
  | .leaf, n => n = -1
  | .inner _ k _ l r, n => n = (k : Int) ∧ k < 200 ∧ isT f g l (f k) ∧ isT f g r (g k)
theorem isT_rt {f g : Nat → Int} {t : Tr} {n : Int} (h : isT f g t n) : n = rt t := by
  cases t with
  | leaf => exact h
  | inner s k v l r => exact h.1
theorem isT_c {f g f' g' : Nat → Int} : ∀ {t : Tr} {n : Int}, (∀ k ∈ ks t, f' k = f k ∧ g' k = g k) → isT f g t n → isT f' g' t n := by
  intro t
  induction t with
  | leaf => intro n _ h; exact h
  | inner s k v l r ihl ihr =>
    intro n hk h
    obtain ⟨h1, h2, h3, h4⟩ := h
    obtain ⟨e1, e2⟩ := hk k List.mem_cons_self
    refine ⟨h1, h2, ?_, ?_⟩
    · rw [e1]; exact ihl (fun x hx => hk x (List.mem_cons_of_mem _ (List.mem_append.mpr (Or.inl hx)))) h3
    · rw [e2]; exact ihr (fun x hx => hk x (List.mem_cons_of_mem _ (List.mem_append.mpr (Or.inr hx)))) h4
theorem isT_lt {f g : Nat → Int} : ∀ {t : Tr} {n : Int}, isT f g t n → ∀ k ∈ ks t, k < 200 := by
  intro t
  induction t with
  | leaf => intro n _ k hk; exact absurd hk List.not_mem_nil
  | inner s k v l r ihl ihr =>
    intro n h x hx
    obtain ⟨h1, h2, h3, h4⟩ := h
    rcases List.mem_cons.mp hx with e | hx
    · rw [e]; exact h2
    · rcases List.mem_append.mp hx with hx | hx
      · exact ihl h3 x hx
      · exact ihr h4 x hx
theorem sz_i (s k : Nat) (v : Unit) (l r : Tr) : sz (.inner s k v l r) = sz l + sz r + 1 := by
  unfold sz
  show (k :: (ks l ++ ks r)).length = _
  rw [List.length_cons, List.length_append]
theorem ht_le : ∀ t : Tr, ht t ≤ sz t := by
  intro t
  induction t with
  | leaf => exact Nat.le_refl _
  | inner s k v l r ihl ihr =>
    rw [sz_i]
    show 1 + (if ht l < ht r then ht r else ht l) ≤ _
    split <;> omega
theorem nd_i {k : Nat} {a b : List Nat} (h : (k :: (a ++ b)).Nodup) : k ∉ a ∧ k ∉ b ∧ a.Nodup ∧ b.Nodup ∧ ∀ x ∈ a, x ∉ b := by
  obtain ⟨h1, h2⟩ := List.nodup_cons.mp h
  obtain ⟨h3, h4, h5⟩ := List.nodup_append.mp h2
  refine ⟨fun q => h1 (List.mem_append.mpr (Or.inl q)), fun q => h1 (List.mem_append.mpr (Or.inr q)), h3, h4, fun x hx hb => h5 x hx x hb rfl⟩
theorem sz_le {f g : Nat → Int} {t : Tr} {n : Int} (h : isT f g t n) (hn : (ks t).Nodup) : sz t ≤ 200 := nodup_le 200 _ hn (isT_lt h)
def alv (M : mM) (k : Nat) : Bool := decide (M 11 k = 1)
def lk (M : mM) (t : Tr) : List Nat := (ks t).filter (alv M)
theorem lk_i (M : mM) (s k : Nat) (v : Unit) (l r : Tr) : lk M (.inner s k v l r) = (match alv M k with
  | true => [k]
  | false => []) ++ (lk M l ++ lk M r) := by
  unfold lk
  show List.filter (alv M) (k :: (ks l ++ ks r)) = _
  cases h : alv M k with
  | true => rw [List.filter_cons_of_pos h, List.filter_append]; rfl
  | false => rw [List.filter_cons_of_neg (by rw [h]; decide), List.filter_append]; rfl
theorem lk_le (M : mM) (t : Tr) : (lk M t).length ≤ sz t := List.length_filter_le _ _
def mn (x y : Int) : Int := if y < x then y else x
def mx (x y : Int) : Int := if x < y then y else x
def lowT (M : mM) (D : Int) (a : Nat) : Tr → Int
  | .leaf => D
  | .inner _ k _ l r => match alv M k with
    | true => mn (mn (lowT M D a l) (lowT M D a r)) (M 8 (3 * k + a))
    | false => mn (lowT M D a l) (lowT M D a r)
def highT (M : mM) (D : Int) (a : Nat) : Tr → Int
  | .leaf => D
  | .inner _ k _ l r => match alv M k with
    | true => mx (mx (highT M D a l) (highT M D a r)) (M 8 (3 * k + a))
    | false => mx (highT M D a l) (highT M D a r)
/-! where a point stands -/
def dpt : Tr → Nat → Nat
  | .leaf, _ => 0
  | .inner _ k _ l r, x => if x = k then 0 else if x ∈ ks l then dpt l x + 1 else dpt r x + 1
def parT : Tr → Int → Nat → Int
  | .leaf, p, _ => p
  | .inner _ k _ l r, p, x => if x = k then p else if x ∈ ks l then parT l (k : Int) x else parT r (k : Int) x
def subT : Tr → Nat → Tr
  | .leaf, _ => .leaf
  | .inner s k v l r, x => if x = k then .inner s k v l r else if x ∈ ks l then subT l x else subT r x
def dv (M : mM) : Tr → Int → Nat → Nat → Prop
  | .leaf, _, _, _ => True
  | .inner _ k _ l r, p, d, i => M 14 k = p ∧ M 15 k = (d : Int) ∧ M 20 k = (i : Int) ∧ dv M l (k : Int) (d + 1) (i + 1) ∧ dv M r (k : Int) (d + 1) (i + 1 + sz l)
def smR (M : mM) : Tr → Prop
  | .leaf => True
  | .inner s k v l r => M 16 k = (sz (.inner s k v l r) : Int) ∧ M 17 k = ((lk M (.inner s k v l r)).length : Int) ∧ ∀ a, a < 3 → M 18 (3 * k + a) = lowT M 101 a (.inner s k v l r) ∧ M 19 (3 * k + a) = highT M (-101) a (.inner s k v l r)
def sm (M : mM) : Tr → Prop
  | .leaf => True
  | .inner s k v l r => smR M (.inner s k v l r) ∧ sm M l ∧ sm M r
theorem sm_R {M : mM} {t : Tr} (h : sm M t) : smR M t := by
  cases t with
  | leaf => exact trivial
  | inner s k v l r => exact h.1
def clf (M : mM) (k : Nat) : Int := M 13 (2 * k)
def crf (M : mM) (k : Nat) : Int := M 13 (2 * k + 1)
def mlf (M : mM) (k : Nat) : Int := M 88 (1400 + k)
def mrf (M : mM) (k : Nat) : Int := M 88 (1600 + k)
theorem alv_c {M M' : mM} (h : M' 11 = M 11) : alv M' = alv M := by
  funext k
  unfold alv
  rw [h]
theorem lk_c {M M' : mM} (h : M' 11 = M 11) (t : Tr) : lk M' t = lk M t := by
  unfold lk
  rw [alv_c h]
theorem lowT_c {M M' : mM} (h8 : M' 8 = M 8) (h11 : M' 11 = M 11) (D : Int) (a : Nat) (t : Tr) : lowT M' D a t = lowT M D a t := by
  induction t with
  | leaf => rfl
  | inner s k v l r ihl ihr =>
    unfold lowT
    rw [ihl, ihr, alv_c h11, h8]
theorem highT_c {M M' : mM} (h8 : M' 8 = M 8) (h11 : M' 11 = M 11) (D : Int) (a : Nat) (t : Tr) : highT M' D a t = highT M D a t := by
  induction t with
  | leaf => rfl
  | inner s k v l r ihl ihr =>
    unfold highT
    rw [ihl, ihr, alv_c h11, h8]
theorem dv_c {M M' : mM} : ∀ {t : Tr} {p : Int} {d i : Nat}, (∀ k ∈ ks t, M' 14 k = M 14 k ∧ M' 15 k = M 15 k ∧ M' 20 k = M 20 k) → dv M t p d i → dv M' t p d i := by
  intro t
  induction t with
  | leaf => intro p d i _ h; exact trivial
  | inner s k v l r ihl ihr =>
    intro p d i hk h
    obtain ⟨h1, h2, h3, h4, h5⟩ := h
    obtain ⟨e1, e2, e3⟩ := hk k List.mem_cons_self
    exact ⟨by rw [e1]; exact h1, by rw [e2]; exact h2, by rw [e3]; exact h3, ihl (fun x hx => hk x (List.mem_cons_of_mem _ (List.mem_append.mpr (Or.inl hx)))) h4, ihr (fun x hx => hk x (List.mem_cons_of_mem _ (List.mem_append.mpr (Or.inr hx)))) h5⟩
theorem smR_c {M M' : mM} (h8 : M' 8 = M 8) (h11 : M' 11 = M 11) {t : Tr} (hk : ∀ k ∈ ks t, M' 16 k = M 16 k ∧ M' 17 k = M 17 k ∧ ∀ a, a < 3 → M' 18 (3 * k + a) = M 18 (3 * k + a) ∧ M' 19 (3 * k + a) = M 19 (3 * k + a)) (h : smR M t) : smR M' t := by
  cases t with
  | leaf => exact trivial
  | inner s k v l r =>
    obtain ⟨h1, h2, h3⟩ := h
    obtain ⟨e1, e2, e3⟩ := hk k List.mem_cons_self
    refine ⟨by rw [e1]; exact h1, by rw [e2, lk_c h11]; exact h2, fun a ha => ?_⟩
    rw [(e3 a ha).1, (e3 a ha).2, lowT_c h8 h11, highT_c h8 h11]
    exact h3 a ha
theorem sm_c {M M' : mM} (h8 : M' 8 = M 8) (h11 : M' 11 = M 11) : ∀ {t : Tr}, (∀ k ∈ ks t, M' 16 k = M 16 k ∧ M' 17 k = M 17 k ∧ ∀ a, a < 3 → M' 18 (3 * k + a) = M 18 (3 * k + a) ∧ M' 19 (3 * k + a) = M 19 (3 * k + a)) → sm M t → sm M' t := by
  intro t
  induction t with
  | leaf => intro _ _; exact trivial
  | inner s k v l r ihl ihr =>
    intro hk h
    exact ⟨smR_c h8 h11 hk h.1, ihl (fun x hx => hk x (List.mem_cons_of_mem _ (List.mem_append.mpr (Or.inl hx)))) h.2.1, ihr (fun x hx => hk x (List.mem_cons_of_mem _ (List.mem_append.mpr (Or.inr hx)))) h.2.2⟩
/-- what follows from the links -/
def TD (M : mM) (t : Tr) : Prop := nums M 21 (natI (ks t)) ∧ dv M t (-1) 0 0 ∧ sm M t ∧ ∀ j, j < 200 → j ∉ ks t → M 15 j = -1
/-! reach -/
theorem sp26 {M : mM} (d : Nat) {S : List Int} (hS : nums M 23 S) (hl : S.length < 200) {k : Nat} (hk : k < 200) {p : Int} {e : Nat} (hp : (p = -1 ∧ e = 0) ∨ ∃ q : Nat, p = (q : Int) ∧ q < 200 ∧ M 15 q + 1 = (e : Int) ∧ q ≠ k) (he : e ≤ 200) :
    ∃ M', run prog (d + 3) 26 [vr 12, vi (k : Int), vi p] (shp, M) = some (.inl none, (shp, M')) ∧ nums M' 23 (S ++ [(k : Int)]) ∧ same [14, 15, 23, 24] M M' ∧ M' 14 k = p ∧ M' 15 k = (e : Int) ∧ ∀ j, j ≠ k → M' 14 j = M 14 j ∧ M' 15 j = M 15 j := by
  rw [s26 d]
  unfold o26
  rw [if_neg (by omega)]
  have key : ∀ v : Int, v = (e : Int) → ∃ M', (if (pu (pu M 14 200 (k : Int) p) 15 200 (k : Int) v) 23 1 < 200 then some (.inl none, (shp, mset (pu (pu (pu M 14 200 (k : Int) p) 15 200 (k : Int) v) 24 200 ((pu (pu M 14 200 (k : Int) p) 15 200 (k : Int) v) 23 1) (k : Int)) 23 1 (wr (((pu (pu M 14 200 (k : Int) p) 15 200 (k : Int) v) 23 1) + 1)))) else some (.inl none, (shp, pu (pu M 14 200 (k : Int) p) 15 200 (k : Int) v)) : mR) = some (.inl none, (shp, M')) ∧ nums M' 23 (S ++ [(k : Int)]) ∧ same [14, 15, 23, 24] M M' ∧ M' 14 k = p ∧ M' 15 k = (e : Int) ∧ ∀ j, j ≠ k → M' 14 j = M 14 j ∧ M' 15 j = M 15 j := by
    intro v hv
    have hn : nums (pu (pu M 14 200 (k : Int) p) 15 200 (k : Int) v) 23 S := nums_same (nums_same hS (same_pu 23 (by decide)) (same_pu 24 (by decide))) (same_pu 23 (by decide)) (same_pu 24 (by decide))
    obtain ⟨z1, z2⟩ := nums_add (x := (k : Int)) hn hl
    have zc := hn.1
    rw [if_pos (by rw [zc]; omega)]
    refine ⟨_, rfl, z1, ((same_pu.mono (by decide)).tr (same_pu.mono (by decide))).tr (z2.mono (by decide)), ?_, ?_, fun j hj => ⟨?_, ?_⟩⟩
    · rw [z2 14 (by decide), pu_k (by decide), pu_in ⟨by omega, by omega⟩, Int.toNat_natCast, mset_at]
    · rw [z2 15 (by decide), pu_in ⟨by omega, by omega⟩, Int.toNat_natCast, mset_at, hv]
    · rw [z2 14 (by decide), pu_k (by decide), pu_in ⟨by omega, by omega⟩, Int.toNat_natCast, mset_j hj]
    · rw [z2 15 (by decide), pu_in (M := pu M 14 200 (k : Int) p) ⟨by omega, by omega⟩, Int.toNat_natCast, mset_j hj, pu_k (by decide)]
  rcases hp with ⟨h1, h2⟩ | ⟨q, h1, h2, h3, h4⟩
  · rw [if_pos h1]
    exact key 0 (by omega)
  · rw [if_neg (by omega)]
    refine key _ ?_
    rw [h1, va_in ⟨by omega, by omega⟩, Int.toNat_natCast, h3]
    exact wN (by omega)
theorem sp26_n (d : Nat) (M : mM) (p : Int) : run prog (d + 3) 26 [vr 12, vi (-1), vi p] (shp, M) = some (.inl none, (shp, M)) := by
  rw [s26 d]
  unfold o26
  rw [if_pos rfl]
