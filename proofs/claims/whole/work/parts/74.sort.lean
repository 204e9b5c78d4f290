/-! SORTING -/
def insR (b : Nat → Nat → Bool) (x : Nat) : List Nat → List Nat
  | [] => [x]
  | y :: ys => match b x y with
    | true => y :: insR b x ys
    | false => x :: y :: ys
def isR (b : Nat → Nat → Bool) (l : List Nat) : List Nat := l.foldl (fun acc x => insR b x acc) []
def srt (b : Nat → Nat → Bool) (l : List Nat) : List Nat := (isR b l).reverse
theorem insR_perm (b : Nat → Nat → Bool) (x : Nat) : ∀ l : List Nat, (insR b x l).Perm (x :: l) := by
  intro l
  induction l with
  | nil => exact List.Perm.refl _
  | cons y ys ih =>
    unfold insR
    cases b x y with
    | true => exact List.Perm.trans (List.Perm.cons y ih) (List.Perm.swap x y ys)
    | false => exact List.Perm.refl _
theorem isR_snoc (b : Nat → Nat → Bool) (l : List Nat) (x : Nat) : isR b (l ++ [x]) = insR b x (isR b l) := by
  unfold isR
  rw [List.foldl_append]
  rfl
theorem isR_perm (b : Nat → Nat → Bool) (l : List Nat) : (isR b l).Perm l := by
  have key : ∀ (l acc : List Nat), (l.foldl (fun acc x => insR b x acc) acc).Perm (l ++ acc) := by
    intro l
    induction l with
    | nil => intro acc; exact List.Perm.refl _
    | cons x l ih =>
      intro acc
      refine List.Perm.trans (ih (insR b x acc)) ?_
      refine List.Perm.trans ((insR_perm b x acc).append_left l) ?_
      exact List.perm_middle
  have := key l []
  rw [List.append_nil] at this
  exact this
theorem srt_perm (b : Nat → Nat → Bool) (l : List Nat) : (srt b l).Perm l := (List.reverse_perm _).trans (isR_perm b l)
theorem isR_len (b : Nat → Nat → Bool) (l : List Nat) : (isR b l).length = l.length := (isR_perm b l).length_eq
theorem srt_len (b : Nat → Nat → Bool) (l : List Nat) : (srt b l).length = l.length := (srt_perm b l).length_eq
/-- a slice of a row -/
def slc (M : mM) (k f : Nat) (l : List Nat) : Prop := ∀ (j x : Nat), l[j]? = some x → M k (f + j) = (x : Int)
theorem slc_app {M : mM} {k f : Nat} {a b : List Nat} : slc M k f (a ++ b) ↔ slc M k f a ∧ slc M k (f + a.length) b := by
  constructor
  · intro h
    refine ⟨fun j x hj => h j x (by rw [List.getElem?_append_left (List.getElem?_eq_some_iff.mp hj).1]; exact hj), fun j x hj => ?_⟩
    have := h (a.length + j) x (by rw [List.getElem?_append_right (Nat.le_add_right _ _), show a.length + j - a.length = j by omega]; exact hj)
    rw [← this]
    congr 1
    omega
  · rintro ⟨h1, h2⟩ j x hj
    by_cases c : j < a.length
    · rw [List.getElem?_append_left c] at hj
      exact h1 j x hj
    · rw [List.getElem?_append_right (by omega)] at hj
      have := h2 _ x hj
      rw [← this]
      congr 1
      omega
theorem slc_one {M : mM} {k f x : Nat} : slc M k f [x] ↔ M k f = (x : Int) := by
  constructor
  · intro h; exact h 0 x rfl
  · intro h j y hj
    have hl := (List.getElem?_eq_some_iff.mp hj).1
    have : j = 0 := by simp at hl; omega
    subst this
    cases hj
    exact h
theorem slc_c {M M' : mM} {k f : Nat} {l : List Nat} (h : slc M k f l) (hk : ∀ j, f ≤ j → j < f + l.length → M' k j = M k j) : slc M' k f l := fun j x hj => by
  have hl := (List.getElem?_eq_some_iff.mp hj).1
  rw [hk (f + j) (by omega) (by omega)]
  exact h j x hj
theorem slc_nil {M : mM} {k f : Nat} : slc M k f [] := fun j x hj => by simp at hj
theorem bef_lt {M : mM} {l : List Nat} (h : ∀ x ∈ l, x < 200) {j x : Nat} (hj : l[j]? = some x) : x < 200 := h x (List.mem_of_getElem? hj)
/-! the class -/
theorem l45i (d : Nat) {M0 : mM} {f : Nat} {e i : Int} {a : Nat} (ha : a < 3) {x : Nat} (hx : x < 200) : ∀ (ra B : List Nat) (M : mM), M 8 = M0 8 → f + ra.length + 1 + B.length ≤ 200 → (∀ y ∈ ra, y < 200) → slc M 28 f ra.reverse → slc M 28 (f + ra.length + 1) B →
    ∃ M', ev prog (d + 4) 45 0 4 [vr 25, vi (f : Int), vi e, vi (a : Int), vi i, vi (x : Int), vi ((f + ra.length : Nat) : Int)] [] (shp, M) = ev prog (d + 4) 45 0 1 [vr 25, vi (f : Int), vi e, vi (a : Int), vi (wr (i + 1)), vj, vj] [] (shp, M') ∧ same [28] M M' ∧ slc M' 28 f ((insR (bef M0 a) x ra).reverse ++ B) ∧ ∀ j, (j < f ∨ f + ra.length + 1 ≤ j) → M' 28 j = M 28 j := by
  intro ra
  induction ra with
  | nil =>
    intro B M h8 hlen _ _ hB
    refine ⟨mset M 28 f (x : Int), ?_, same_mset, ?_, fun j hj => mset_j (by have : ([] : List Nat).length = 0 := rfl; omega)⟩
    · have hl : f < 200 := by have : ([] : List Nat).length = 0 := rfl; omega
      rw [g45_4, if_neg (by show ¬ (f : Int) < ((f + 0 : Nat) : Int); omega), pu_in (show 0 ≤ ((f + ([] : List Nat).length : Nat) : Int) ∧ ((f + ([] : List Nat).length : Nat) : Int) < ((200 : Nat) : Int) by show 0 ≤ ((f + 0 : Nat) : Int) ∧ ((f + 0 : Nat) : Int) < 200; omega), Int.toNat_natCast]
      rfl
    · show slc _ 28 f ([x] ++ B)
      rw [slc_app]
      exact ⟨slc_one.mpr (mset_at _ _ _ _), slc_c hB (fun j h1 h2 => mset_j (by have : [x].length = 1 := rfl; have : ([] : List Nat).length = 0 := rfl; omega))⟩
  | cons y ys ih =>
    intro B M h8 hlen hlt hA hB
    rw [List.length_cons] at hlen hB ⊢
    rw [List.reverse_cons, slc_app, List.length_reverse, slc_one] at hA
    obtain ⟨hA1, hA2⟩ := hA
    have hy : y < 200 := hlt y List.mem_cons_self
    have e1 : wr (((f + (ys.length + 1) : Nat) : Int) - 1) = ((f + ys.length : Nat) : Int) := wD (n := f + ys.length) (by omega)
    have e2 : r30c ((f + ys.length : Nat) : Int) M = (y : Int) := by
      show va M 28 200 _ = _
      rw [va_in ⟨by omega, by omega⟩, Int.toNat_natCast, hA2]
    have e3 : bef M a = bef M0 a := bef_c h8 a
    have e4 : wr (((f + (ys.length + 1) : Nat) : Int) + (-1)) = ((f + ys.length : Nat) : Int) := wD (n := f + ys.length) (by omega)
    have hpu : ∀ w : Int, pu M 28 200 ((f + (ys.length + 1) : Nat) : Int) w = mset M 28 (f + (ys.length + 1)) w := fun w => by rw [pu_in ⟨by clear e1 e4; omega, by clear e1 e4; omega⟩, Int.toNat_natCast]
    rw [g45_4, if_pos (by clear e1 e4; omega), e1, e2, p21_bef M hx hy ha, e3, e4, hpu, hpu]
    clear e1 e4
    cases hb : bef M0 a x y with
    | true =>
      obtain ⟨M', a1, a2, a3, a4⟩ := ih (y :: B) (mset M 28 (f + (ys.length + 1)) (y : Int)) (by rw [← h8]; exact same_mset 8 (by decide)) (by rw [List.length_cons]; omega) (fun z hz => hlt z (List.mem_cons_of_mem _ hz)) (slc_c hA1 (fun j h1 h2 => mset_j (by rw [List.length_reverse] at h2; omega))) (by
        show slc _ 28 _ ([y] ++ B)
        rw [slc_app]
        refine ⟨slc_one.mpr ?_, slc_c hB (fun j h1 h2 => mset_j (by have : [y].length = 1 := rfl; omega))⟩
        rw [show f + ys.length + 1 = f + (ys.length + 1) by omega, mset_at])
      refine ⟨M', ?_, same_mset.tr a2, ?_, fun j hj => ?_⟩
      · rw [if_neg (show ¬ bi true = 0 by decide)]
        exact a1
      · unfold insR
        rw [hb]
        show slc M' 28 f ((y :: insR (bef M0 a) x ys).reverse ++ B)
        rw [List.reverse_cons, List.append_assoc]
        exact a3
      · rw [a4 j (by omega), mset_j (by omega)]
    | false =>
      refine ⟨mset M 28 (f + (ys.length + 1)) (x : Int), ?_, same_mset, ?_, fun j hj => mset_j (by omega)⟩
      · rw [if_pos (show bi false = 0 from rfl)]
      · unfold insR
        rw [hb]
        have z : slc (mset M 28 (f + (ys.length + 1)) (x : Int)) 28 (f + (ys.length + 1) + 1) B := slc_c hB (fun j h1 h2 => mset_j (by omega))
        show slc _ 28 f ((x :: y :: ys).reverse ++ B)
        rw [List.reverse_cons, List.reverse_cons, slc_app, slc_app, slc_app, slc_one, slc_one]
        refine ⟨⟨⟨slc_c hA1 (fun j h1 h2 => mset_j (by rw [List.length_reverse] at h2; omega)), ?_⟩, ?_⟩, ?_⟩
        · rw [List.length_reverse, mset_j (by omega)]
          exact hA2
        · rw [List.length_append, List.length_reverse]
          show mset M 28 (f + (ys.length + 1)) (x : Int) 28 (f + (ys.length + [y].length)) = _
          exact mset_at _ _ _ _
        · have e9 : f + ((ys.reverse ++ [y]) ++ [x]).length = f + (ys.length + 1) + 1 := by
            rw [List.length_append, List.length_append, List.length_reverse]
            show f + (ys.length + 1 + 1) = _
            omega
          rw [e9]
          exact z
theorem sp45 (d : Nat) {M : mM} {f : Nat} {a : Nat} (ha : a < 3) {l : List Nat} (hl : f + l.length ≤ 200) (hlt : ∀ y ∈ l, y < 200) (hs : slc M 28 f l) :
    ∃ M', run prog (d + 4) 45 [vr 25, vi (f : Int), vi ((f + l.length : Nat) : Int), vi (a : Int)] (shp, M) = some (.inl none, (shp, M')) ∧ same [28] M M' ∧ slc M' 28 f (srt (bef M a) l) ∧ ∀ j, (j < f ∨ f + l.length ≤ j) → M' 28 j = M 28 j := by
  show ∃ M', ev prog (d + 4) 45 0 0 [vr 25, vi (f : Int), vi ((f + l.length : Nat) : Int), vi (a : Int), vj, vj, vj] [] (shp, M) = _ ∧ _
  have loop : ∀ (q i : Nat) (M1 : mM), i + q = l.length → 1 ≤ i → same [28] M M1 → slc M1 28 f ((isR (bef M a) (l.take i)).reverse ++ l.drop i) → (∀ j, (j < f ∨ f + l.length ≤ j) → M1 28 j = M 28 j) →
      ∃ M', ev prog (d + 4) 45 0 1 [vr 25, vi (f : Int), vi ((f + l.length : Nat) : Int), vi (a : Int), vi ((f + i : Nat) : Int), vj, vj] [] (shp, M1) = some (.inl none, (shp, M')) ∧ same [28] M M' ∧ slc M' 28 f (srt (bef M a) l) ∧ ∀ j, (j < f ∨ f + l.length ≤ j) → M' 28 j = M 28 j := by
    intro q
    induction q with
    | zero =>
      intro i M1 hi h1 k1 k2 k3
      have e : i = l.length := by omega
      subst e
      rw [List.take_length, List.drop_length, List.append_nil] at k2
      exact ⟨M1, by rw [g45_1, if_neg (by omega)], k1, k2, k3⟩
    | succ q ih =>
      intro i M1 hi h1 k1 k2 k3
      have hil : i < l.length := by omega
      have hlen : (isR (bef M a) (l.take i)).length = i := by rw [isR_len, List.length_take]; omega
      have hd : l.drop i = [l[i]] ++ l.drop (i + 1) := List.drop_eq_getElem_cons hil
      rw [hd, slc_app, slc_app, slc_one, List.length_reverse, hlen] at k2
      obtain ⟨k4, k5, k6⟩ := k2
      have hxi : l[i] < 200 := hlt _ (List.getElem_mem hil)
      have e2 : r30c ((f + i : Nat) : Int) M1 = (l[i] : Int) := by
        show va M1 28 200 _ = _
        rw [va_in ⟨by omega, by omega⟩, Int.toNat_natCast, k5]
      obtain ⟨M2, a1, a2, a3, a4⟩ := l45i d (M0 := M) (f := f) (e := ((f + l.length : Nat) : Int)) (i := ((f + i : Nat) : Int)) ha hxi (isR (bef M a) (l.take i)) (l.drop (i + 1)) M1 (k1 8 (by decide)) (by rw [hlen, List.length_drop]; omega) (fun y hy => hlt y (List.mem_of_mem_take ((isR_perm _ _).mem_iff.mp hy))) k4 (by rw [hlen]; exact k6)
      rw [hlen] at a1 a4
      obtain ⟨M', b1, b2, b3, b4⟩ := ih (i + 1) M2 (by omega) (by omega) (k1.tr a2) (by
        rw [show l.take (i + 1) = l.take i ++ [l[i]] by rw [List.take_succ, List.getElem?_eq_getElem hil]; rfl, isR_snoc]
        exact a3) (fun j hj => by rw [a4 j (by omega)]; exact k3 j hj)
      refine ⟨M', ?_, b2, b3, b4⟩
      rw [g45_1, if_pos (by omega), e2, a1, wI (by omega)]
      exact b1
  rw [g45_0, wI (by omega)]
  cases l with
  | nil => exact ⟨M, by rw [g45_1, if_neg (by show ¬ ((f + 1 : Nat) : Int) < ((f + 0 : Nat) : Int); omega)], same.rf, slc_nil, fun j _ => rfl⟩
  | cons y ys =>
    have h1 : isR (bef M a) ((y :: ys).take 1) = [y] := rfl
    exact loop ys.length 1 M (by rw [List.length_cons]; omega) (Nat.le_refl _) same.rf (by rw [h1]; exact hs) (fun j _ => rfl)
/-! the model: what its row says of the points, V -/
def vw (M V : mM) : Prop := (∀ j, j < 600 → M 88 j = V 8 j ∧ -100 ≤ V 8 j ∧ V 8 j ≤ 100) ∧ (∀ k, k < 200 → M 88 (1000 + k) = V 11 k ∧ 0 ≤ V 11 k ∧ V 11 k ≤ 1) ∧ M 88 2002 = V 34 0 ∧ 0 ≤ V 34 0 ∧ V 34 0 ≤ 95
theorem vw_Iv {M : mM} (h : Iv M) : vw M M := ⟨fun j hj => ⟨g8 h hj, (h.co j hj).2⟩, fun k hk => ⟨rw2_at h.li hk, (h.li k hk).2⟩, rw2_at h.op.1 (p := 0) (by decide), (h.op.1 0 (by decide)).2⟩
theorem vw_c {M M' V : mM} (h : vw M V) (h1 : ∀ j, j < 1200 ∨ j = 2002 → M' 88 j = M 88 j) : vw M' V := by
  obtain ⟨a, b, c, e⟩ := h
  exact ⟨fun j hj => by rw [h1 j (by omega)]; exact a j hj, fun k hk => by rw [h1 (1000 + k) (by omega)]; exact b k hk, by rw [h1 2002 (by omega)]; exact c, e⟩
theorem sp55 {M V : mM} (h : vw M V) (d : Nat) {p k a : Nat} (hp : p < 200) (hk : k < 200) (ha : a < 3) : run prog (d + 1) 55 [vr 87, vi (p : Int), vi (k : Int), vi (a : Int)] (shp, M) = some (.inl (some (vi (bi (bef V a p k)))), (shp, M)) := by
  show ev prog (d + 1) 55 0 0 [vr 87, vi (p : Int), vi (k : Int), vi (a : Int), vj, vj] [] (shp, M) = _
  rw [g55_0, x3a hp ha, x3a hk ha, if_pos (gi2031 (by omega)), if_pos (gi2031 (by omega)), Int.toNat_natCast, Int.toNat_natCast, (h.1 _ (by omega)).1, (h.1 _ (by omega)).1]
  unfold bef
  by_cases c : V 8 (3 * p + a) < V 8 (3 * k + a)
  · rw [if_pos c, decide_eq_true (Or.inl c)]
    rfl
  · rw [if_neg c]
    by_cases c2 : V 8 (3 * p + a) = V 8 (3 * k + a)
    · rw [if_pos c2]
      by_cases c3 : p < k
      · rw [if_pos (by omega), decide_eq_true (Or.inr ⟨c2, c3⟩)]
        rfl
      · rw [if_neg (by omega), decide_eq_false (fun q => q.elim c (fun q => c3 q.2))]
        rfl
    · rw [if_neg c2, decide_eq_false (fun q => q.elim c (fun q => c2 q.1))]
      rfl
theorem vw_row {M M' V : mM} (h : vw M V) (hs : same [90] M M') : vw M' V := vw_c h (fun j _ => by rw [hs 88 (by decide)])
theorem l62i (d : Nat) {V : mM} {f : Nat} {e i : Int} {a : Nat} (ha : a < 3) {x : Nat} (hx : x < 200) : ∀ (ra B : List Nat) (M : mM), vw M V → f + ra.length + 1 + B.length ≤ 200 → (∀ y ∈ ra, y < 200) → slc M 90 f ra.reverse → slc M 90 (f + ra.length + 1) B →
    ∃ M', ev prog (d + 2) 62 0 4 [vr 87, vi (f : Int), vi e, vi (a : Int), vi i, vi (x : Int), vi ((f + ra.length : Nat) : Int)] [] (shp, M) = ev prog (d + 2) 62 0 1 [vr 87, vi (f : Int), vi e, vi (a : Int), vi (wr (i + 1)), vj, vj] [] (shp, M') ∧ same [90] M M' ∧ slc M' 90 f ((insR (bef V a) x ra).reverse ++ B) ∧ ∀ j, (j < f ∨ f + ra.length + 1 ≤ j) → M' 90 j = M 90 j := by
  intro ra
  induction ra with
  | nil =>
    intro B M hI hlen _ _ hB
    refine ⟨mset M 90 f (x : Int), ?_, same_mset, ?_, fun j hj => mset_j (by have : ([] : List Nat).length = 0 := rfl; omega)⟩
    · have hl : f < 200 := by have : ([] : List Nat).length = 0 := rfl; omega
      have e0 : f + ([] : List Nat).length = f := rfl
      rw [e0, g62_4, if_neg (by omega), if_pos (by omega), Int.toNat_natCast]
    · show slc _ 90 f ([x] ++ B)
      rw [slc_app]
      exact ⟨slc_one.mpr (mset_at _ _ _ _), slc_c hB (fun j h1 h2 => mset_j (by have : [x].length = 1 := rfl; have : ([] : List Nat).length = 0 := rfl; omega))⟩
  | cons y ys ih =>
    intro B M hI hlen hlt hA hB
    rw [List.length_cons] at hlen hB ⊢
    rw [List.reverse_cons, slc_app, List.length_reverse, slc_one] at hA
    obtain ⟨hA1, hA2⟩ := hA
    have hy : y < 200 := hlt y List.mem_cons_self
    have e1 : wr (((f + (ys.length + 1) : Nat) : Int) - 1) = ((f + ys.length : Nat) : Int) := wD (n := f + ys.length) (by omega)
    have e4 : wr (((f + (ys.length + 1) : Nat) : Int) + (-1)) = ((f + ys.length : Nat) : Int) := wD (n := f + ys.length) (by omega)
    rw [g62_4, if_pos (by clear e1 e4; omega), e1, if_pos (gi200 (by omega)), Int.toNat_natCast, hA2, sp55 hI d hx hy ha, callK_r, psh_s, g62_7, e1, e4, if_pos (gi200 (n := f + (ys.length + 1)) (by omega)), if_pos (gi200 (n := f + ys.length) (by omega)), if_pos (gi200 (n := f + (ys.length + 1)) (by omega)), Int.toNat_natCast, Int.toNat_natCast, hA2]
    clear e1 e4
    cases hb : bef V a x y with
    | true =>
      obtain ⟨M', a1, a2, a3, a4⟩ := ih (y :: B) (mset M 90 (f + (ys.length + 1)) (y : Int)) (vw_row hI same_mset) (by rw [List.length_cons]; omega) (fun z hz => hlt z (List.mem_cons_of_mem _ hz)) (slc_c hA1 (fun j h1 h2 => mset_j (by rw [List.length_reverse] at h2; omega))) (by
        show slc _ 90 _ ([y] ++ B)
        rw [slc_app]
        refine ⟨slc_one.mpr ?_, slc_c hB (fun j h1 h2 => mset_j (by have : [y].length = 1 := rfl; omega))⟩
        rw [show f + ys.length + 1 = f + (ys.length + 1) by omega, mset_at])
      refine ⟨M', ?_, same_mset.tr a2, ?_, fun j hj => ?_⟩
      · rw [if_neg (show ¬ bi true = 0 by decide)]
        exact a1
      · unfold insR
        rw [hb]
        show slc M' 90 f ((y :: insR (bef V a) x ys).reverse ++ B)
        rw [List.reverse_cons, List.append_assoc]
        exact a3
      · rw [a4 j (by omega), mset_j (by omega)]
    | false =>
      refine ⟨mset M 90 (f + (ys.length + 1)) (x : Int), ?_, same_mset, ?_, fun j hj => mset_j (by omega)⟩
      · rw [if_pos (show bi false = 0 from rfl)]
      · unfold insR
        rw [hb]
        have z : slc (mset M 90 (f + (ys.length + 1)) (x : Int)) 90 (f + (ys.length + 1) + 1) B := slc_c hB (fun j h1 h2 => mset_j (by omega))
        show slc _ 90 f ((x :: y :: ys).reverse ++ B)
        rw [List.reverse_cons, List.reverse_cons, slc_app, slc_app, slc_app, slc_one, slc_one]
        refine ⟨⟨⟨slc_c hA1 (fun j h1 h2 => mset_j (by rw [List.length_reverse] at h2; omega)), ?_⟩, ?_⟩, ?_⟩
        · rw [List.length_reverse, mset_j (by omega)]
          exact hA2
        · rw [List.length_append, List.length_reverse]
          show mset M 90 (f + (ys.length + 1)) (x : Int) 90 (f + (ys.length + [y].length)) = _
          exact mset_at _ _ _ _
        · have e9 : f + ((ys.reverse ++ [y]) ++ [x]).length = f + (ys.length + 1) + 1 := by
            rw [List.length_append, List.length_append, List.length_reverse]
            show f + (ys.length + 1 + 1) = _
            omega
          rw [e9]
          exact z
theorem sp62 (d : Nat) {M V : mM} (h : vw M V) {f : Nat} {a : Nat} (ha : a < 3) {l : List Nat} (hl : f + l.length ≤ 200) (hlt : ∀ y ∈ l, y < 200) (hs : slc M 90 f l) :
    ∃ M', run prog (d + 2) 62 [vr 87, vi (f : Int), vi ((f + l.length : Nat) : Int), vi (a : Int)] (shp, M) = some (.inl none, (shp, M')) ∧ same [90] M M' ∧ slc M' 90 f (srt (bef V a) l) ∧ ∀ j, (j < f ∨ f + l.length ≤ j) → M' 90 j = M 90 j := by
  show ∃ M', ev prog (d + 2) 62 0 0 [vr 87, vi (f : Int), vi ((f + l.length : Nat) : Int), vi (a : Int), vj, vj, vj] [] (shp, M) = _ ∧ _
  have loop : ∀ (q i : Nat) (M1 : mM), i + q = l.length → 1 ≤ i → same [90] M M1 → slc M1 90 f ((isR (bef V a) (l.take i)).reverse ++ l.drop i) → (∀ j, (j < f ∨ f + l.length ≤ j) → M1 90 j = M 90 j) →
      ∃ M', ev prog (d + 2) 62 0 1 [vr 87, vi (f : Int), vi ((f + l.length : Nat) : Int), vi (a : Int), vi ((f + i : Nat) : Int), vj, vj] [] (shp, M1) = some (.inl none, (shp, M')) ∧ same [90] M M' ∧ slc M' 90 f (srt (bef V a) l) ∧ ∀ j, (j < f ∨ f + l.length ≤ j) → M' 90 j = M 90 j := by
    intro q
    induction q with
    | zero =>
      intro i M1 hi h1 k1 k2 k3
      have e : i = l.length := by omega
      subst e
      rw [List.take_length, List.drop_length, List.append_nil] at k2
      exact ⟨M1, by rw [g62_1, if_neg (by omega)], k1, k2, k3⟩
    | succ q ih =>
      intro i M1 hi h1 k1 k2 k3
      have hil : i < l.length := by omega
      have hlen : (isR (bef V a) (l.take i)).length = i := by rw [isR_len, List.length_take]; omega
      have hd : l.drop i = [l[i]] ++ l.drop (i + 1) := List.drop_eq_getElem_cons hil
      rw [hd, slc_app, slc_app, slc_one, List.length_reverse, hlen] at k2
      obtain ⟨k4, k5, k6⟩ := k2
      have hxi : l[i] < 200 := hlt _ (List.getElem_mem hil)
      obtain ⟨M2, a1, a2, a3, a4⟩ := l62i d (f := f) (e := ((f + l.length : Nat) : Int)) (i := ((f + i : Nat) : Int)) ha hxi (isR (bef V a) (l.take i)) (l.drop (i + 1)) M1 (vw_row h k1) (by rw [hlen, List.length_drop]; omega) (fun y hy => hlt y (List.mem_of_mem_take ((isR_perm _ _).mem_iff.mp hy))) k4 (by rw [hlen]; exact k6)
      rw [hlen] at a1 a4
      obtain ⟨M', b1, b2, b3, b4⟩ := ih (i + 1) M2 (by omega) (by omega) (k1.tr a2) (by
        rw [show l.take (i + 1) = l.take i ++ [l[i]] by rw [List.take_succ, List.getElem?_eq_getElem hil]; rfl, isR_snoc]
        exact a3) (fun j hj => by rw [a4 j (by omega)]; exact k3 j hj)
      refine ⟨M', ?_, b2, b3, b4⟩
      rw [g62_1, if_pos (by omega), if_pos (by omega), Int.toNat_natCast, k5, a1, wI (by omega)]
      exact b1
  rw [g62_0, wI (by omega)]
  cases l with
  | nil => exact ⟨M, by rw [g62_1, if_neg (by show ¬ ((f + 1 : Nat) : Int) < ((f + 0 : Nat) : Int); omega)], same.rf, slc_nil, fun j _ => rfl⟩
  | cons y ys =>
    have h1 : isR (bef V a) ((y :: ys).take 1) = [y] := rfl
    exact loop ys.length 1 M (by rw [List.length_cons]; omega) (Nat.le_refl _) same.rf (by rw [h1]; exact hs) (fun j _ => rfl)
