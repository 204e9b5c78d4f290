/-! BALANCED TREES -/
def bS (M : mM) (l : List Nat) (dp : Nat) : List Nat := srt (bef M (dp % 3)) l
def bm (M : mM) (l : List Nat) (dp : Nat) : Nat := (bS M l dp).getD (l.length / 2) 0
def bL (M : mM) (l : List Nat) (dp : Nat) : List Nat := (bS M l dp).take (l.length / 2)
def bR (M : mM) (l : List Nat) (dp : Nat) : List Nat := (bS M l dp).drop (l.length / 2 + 1)
def bldF (M : mM) : Nat → List Nat → Nat → Tr
  | 0, _, _ => .leaf
  | q + 1, l, dp => match l with
    | [] => .leaf
    | y :: ys => .inner 0 (bm M (y :: ys) dp) () (bldF M q (bL M (y :: ys) dp) (dp + 1)) (bldF M q (bR M (y :: ys) dp) (dp + 1))
def bld (M : mM) (l : List Nat) (dp : Nat) : Tr := bldF M l.length l dp
theorem bldF_n (M : mM) (q dp : Nat) : bldF M q [] dp = .leaf := by cases q <;> rfl
theorem bldF_i (M : mM) (q dp : Nat) {l : List Nat} (h : l ≠ []) : bldF M (q + 1) l dp = .inner 0 (bm M l dp) () (bldF M q (bL M l dp) (dp + 1)) (bldF M q (bR M l dp) (dp + 1)) := by
  cases l with
  | nil => exact absurd rfl h
  | cons y ys => rfl
theorem bS_len (M : mM) (l : List Nat) (dp : Nat) : (bS M l dp).length = l.length := srt_len _ _
theorem bL_len (M : mM) (l : List Nat) (dp : Nat) : (bL M l dp).length = l.length / 2 := by
  unfold bL
  rw [List.length_take, bS_len]
  omega
theorem bR_len (M : mM) (l : List Nat) (dp : Nat) : (bR M l dp).length = l.length - (l.length / 2 + 1) := by
  unfold bR
  rw [List.length_drop, bS_len]
theorem bS_eq (M : mM) {l : List Nat} (h : l ≠ []) (dp : Nat) : bS M l dp = bL M l dp ++ ([bm M l dp] ++ bR M l dp) := by
  have hl : 0 < l.length := List.length_pos_iff.mpr h
  have hi : l.length / 2 < (bS M l dp).length := by rw [bS_len]; omega
  unfold bL bR
  have e : bm M l dp = (bS M l dp)[l.length / 2] := by
    unfold bm
    rw [List.getD_eq_getElem?_getD, List.getElem?_eq_getElem hi]
    rfl
  rw [e]
  have : (bS M l dp).drop (l.length / 2) = [(bS M l dp)[l.length / 2]] ++ (bS M l dp).drop (l.length / 2 + 1) := List.drop_eq_getElem_cons hi
  rw [← this, List.take_append_drop]
theorem bS_perm (M : mM) {l : List Nat} (h : l ≠ []) (dp : Nat) : (bm M l dp :: (bL M l dp ++ bR M l dp)).Perm l := by
  refine List.Perm.trans ?_ (srt_perm (bef M (dp % 3)) l)
  have : srt (bef M (dp % 3)) l = bL M l dp ++ ([bm M l dp] ++ bR M l dp) := bS_eq M h dp
  rw [this]
  exact List.perm_middle.symm
theorem bldF_q (M : mM) : ∀ (q : Nat) (l : List Nat) (dp : Nat), l.length ≤ q → bldF M q l dp = bldF M (q + 1) l dp := by
  intro q
  induction q with
  | zero =>
    intro l dp h
    have : l = [] := List.length_eq_zero_iff.mp (by omega)
    rw [this, bldF_n, bldF_n]
  | succ q ih =>
    intro l dp h
    by_cases c : l = []
    · rw [c, bldF_n, bldF_n]
    · have hl : 0 < l.length := List.length_pos_iff.mpr c
      rw [bldF_i M q dp c, bldF_i M (q + 1) dp c, ih _ _ (by rw [bL_len]; omega), ih _ _ (by rw [bR_len]; omega)]
theorem bldF_e (M : mM) (l : List Nat) (dp : Nat) : ∀ q, l.length ≤ q → bldF M q l dp = bld M l dp := by
  intro q h
  induction h with
  | refl => rfl
  | step h ih =>
    rename_i m
    rw [← bldF_q M m l dp h]
    exact ih
theorem bld_n (M : mM) (dp : Nat) : bld M [] dp = .leaf := rfl
theorem bld_i (M : mM) {l : List Nat} (h : l ≠ []) (dp : Nat) : bld M l dp = .inner 0 (bm M l dp) () (bld M (bL M l dp) (dp + 1)) (bld M (bR M l dp) (dp + 1)) := by
  have hl : 0 < l.length := List.length_pos_iff.mpr h
  rw [← bldF_e M l dp (l.length + 1) (by omega), bldF_i M l.length dp h, bldF_e M _ _ _ (by rw [bL_len]; omega), bldF_e M _ _ _ (by rw [bR_len]; omega)]
theorem bld_perm (M : mM) : ∀ (q : Nat) (l : List Nat) (dp : Nat), l.length ≤ q → (ks (bld M l dp)).Perm l := by
  intro q
  induction q with
  | zero =>
    intro l dp h
    have : l = [] := List.length_eq_zero_iff.mp (by omega)
    rw [this]
    exact List.Perm.refl _
  | succ q ih =>
    intro l dp h
    by_cases c : l = []
    · rw [c]; exact List.Perm.refl _
    · have hl : 0 < l.length := List.length_pos_iff.mpr c
      rw [bld_i M c]
      refine List.Perm.trans ?_ (bS_perm M c dp)
      show (bm M l dp :: (ks _ ++ ks _)).Perm _
      exact List.Perm.cons _ (List.Perm.append (ih _ _ (by rw [bL_len]; omega)) (ih _ _ (by rw [bR_len]; omega)))
theorem bS_c {M M' : mM} (h : M' 8 = M 8) : bS M' = bS M := by
  funext l dp
  unfold bS
  rw [bef_c h]
theorem bldF_c {M M' : mM} (h : M' 8 = M 8) : ∀ q l dp, bldF M' q l dp = bldF M q l dp := by
  intro q
  induction q with
  | zero => intro l dp; rfl
  | succ q ih =>
    intro l dp
    by_cases c : l = []
    · rw [c]; rfl
    · rw [bldF_i M' q dp c, bldF_i M q dp c, ih, ih]
      unfold bm bL bR
      rw [bS_c h]
theorem bld_c {M M' : mM} (h : M' 8 = M 8) (l : List Nat) (dp : Nat) : bld M' l dp = bld M l dp := bldF_c h _ _ _
/-! the class's tasks: place, points, depth, slot -/
abbrev Tk : Type := Nat × List Nat × Nat × Int
def okK (M : mM) (i : Nat) (x : Tk) : Prop := M 29 i = (x.1 : Int) ∧ M 30 i = ((x.1 + x.2.1.length : Nat) : Int) ∧ M 31 i = (x.2.2.1 : Int) ∧ M 32 i = x.2.2.2
def nz (x : Tk) : List Tk := match x.2.1 with
  | [] => []
  | _ :: _ => [x]
def el : List Tk → List Nat
  | [] => []
  | x :: P => x.2.1 ++ el P
theorem el_app : ∀ A B : List Tk, el (A ++ B) = el A ++ el B := by
  intro A B
  induction A with
  | nil => rfl
  | cons x A ih => show x.2.1 ++ el (A ++ B) = (x.2.1 ++ el A) ++ el B; rw [ih, List.append_assoc]
theorem el_nz (x : Tk) : el (nz x) = x.2.1 := by
  obtain ⟨f, l, dp, sl⟩ := x
  cases l with
  | nil => rfl
  | cons y ys => exact List.append_nil _
theorem nz_mem {x y : Tk} (h : y ∈ nz x) : y = x ∧ x.2.1 ≠ [] := by
  obtain ⟨f, l, dp, sl⟩ := x
  cases l with
  | nil => exact absurd h List.not_mem_nil
  | cons a t => exact ⟨List.mem_singleton.mp h, fun q => by cases q⟩
theorem nz_in {x : Tk} (h : x.2.1 ≠ []) : x ∈ nz x := by
  obtain ⟨f, l, dp, sl⟩ := x
  cases l with
  | nil => exact absurd rfl h
  | cons a t => exact List.mem_singleton.mpr rfl
theorem nz_len (x : Tk) : (nz x).length ≤ x.2.1.length := by
  obtain ⟨f, l, dp, sl⟩ := x
  cases l with
  | nil => exact Nat.le_refl _
  | cons a t => exact Nat.le_add_left 1 _
theorem sp44 {M : mM} (d : Nat) {c : Nat} (hc : M 25 8 = (c : Int)) (x : Tk) (h60 : c + x.2.1.length ≤ 60) :
    ∃ M', run prog (d + 2) 44 [vr 25, vi (x.1 : Int), vi ((x.1 + x.2.1.length : Nat) : Int), vi (x.2.2.1 : Int), vi x.2.2.2] (shp, M) = some (.inl none, (shp, M')) ∧ same [25, 29, 30, 31, 32] M M' ∧ M' 25 8 = ((c + (nz x).length : Nat) : Int) ∧ (∀ (j : Nat) (y : Tk), (nz x)[j]? = some y → okK M' (c + j) y) ∧ ∀ j, j < c → M' 29 j = M 29 j ∧ M' 30 j = M 30 j ∧ M' 31 j = M 31 j ∧ M' 32 j = M 32 j := by
  obtain ⟨f, l, dp, sl⟩ := x
  rw [s44 d]
  unfold o44
  cases l with
  | nil =>
    refine ⟨M, ?_, same.rf, hc, fun j y hj => by simp [nz] at hj, fun j _ => ⟨rfl, rfl, rfl, rfl⟩⟩
    rw [if_neg (by show ¬ (f : Int) < ((f + 0 : Nat) : Int); omega)]
  | cons a t =>
    have h60 : c + (t.length + 1) ≤ 60 := h60
    have hpu : ∀ (N : mM) (k : Nat) (w : Int), pu N k 60 (c : Int) w = mset N k c w := fun N k w => by rw [pu_in ⟨by omega, by omega⟩, Int.toNat_natCast]
    refine ⟨mset (mset (mset (mset (mset M 29 c (f : Int)) 30 c ((f + (a :: t).length : Nat) : Int)) 31 c (dp : Int)) 32 c sl) 25 8 ((c + 1 : Nat) : Int), ?_, ?_, mset_at _ _ _ _, fun j y hj => ?_, fun j hj => ⟨?_, ?_, ?_, ?_⟩⟩
    · rw [if_pos (show (f : Int) < ((f + (a :: t).length : Nat) : Int) by rw [List.length_cons]; omega), hc, hpu, hpu, hpu, hpu, wI (by omega)]
    · exact ((((same_mset.mono (by decide)).tr (same_mset.mono (by decide))).tr (same_mset.mono (by decide))).tr (same_mset.mono (by decide))).tr (same_mset.mono (by decide))
    · have hl := (List.getElem?_eq_some_iff.mp hj).1
      have j0 : j = 0 := by
        have : (nz (f, a :: t, dp, sl)).length = 1 := rfl
        omega
      subst j0
      cases hj
      refine ⟨?_, ?_, ?_, ?_⟩
      · rw [mset_k (by decide), mset_k (by decide), mset_k (by decide), mset_k (by decide)]; exact mset_at _ _ _ _
      · rw [mset_k (by decide), mset_k (by decide), mset_k (by decide)]; exact mset_at _ _ _ _
      · rw [mset_k (by decide), mset_k (by decide)]; exact mset_at _ _ _ _
      · rw [mset_k (by decide)]; exact mset_at _ _ _ _
    · rw [mset_k (by decide), mset_k (by decide), mset_k (by decide), mset_k (by decide), mset_j (by omega)]
    · rw [mset_k (by decide), mset_k (by decide), mset_k (by decide), mset_j (by omega), mset_k (by decide)]
    · rw [mset_k (by decide), mset_k (by decide), mset_j (by omega), mset_k (by decide), mset_k (by decide)]
    · rw [mset_k (by decide), mset_j (by omega), mset_k (by decide), mset_k (by decide), mset_k (by decide)]
/-- what a slot holds -/
def lkS (M : mM) (sl : Int) : Int := if sl = -1 then M 12 11 else M 13 sl.toNat
def okS (sl : Int) : Prop := sl = -1 ∨ ∃ j : Nat, sl = (j : Int) ∧ j < 400
/-- hanging a point at a slot -/
theorem sp22 {M : mM} (d : Nat) {sl : Int} (hs : okS sl) {p : Nat} (hp : p < 200) (hne : sl ≠ ((2 * p : Nat) : Int) ∧ sl ≠ ((2 * p + 1 : Nat) : Int)) :
    ∃ M', run prog (d + 2) 22 [vr 12, vi sl, vi (p : Int)] (shp, M) = some (.inl none, (shp, M')) ∧ same [12, 13] M M' ∧ lkS M' sl = (p : Int) ∧ M' 13 (2 * p) = -1 ∧ M' 13 (2 * p + 1) = -1 ∧ (∀ j : Nat, sl ≠ (j : Int) → j ≠ 2 * p → j ≠ 2 * p + 1 → M' 13 j = M 13 j) ∧ (sl ≠ -1 → M' 12 11 = M 12 11) := by
  have pm : ∀ (N : mM) (j : Nat) (w : Int), j < 400 → pu N 13 400 (j : Int) w = mset N 13 j w := fun N j w hj => by rw [pu_in ⟨by omega, by omega⟩, Int.toNat_natCast]
  rw [s22 d]
  unfold o22
  rw [x21 (by omega), x2 (by omega)]
  rcases hs with h | ⟨j, h, hj⟩
  · refine ⟨mset (mset (mset M 12 11 (p : Int)) 13 (2 * p) (-1)) 13 (2 * p + 1) (-1), ?_, ((same_mset.mono (by decide)).tr (same_mset.mono (by decide))).tr (same_mset.mono (by decide)), ?_, ?_, mset_at _ _ _ _, fun i h1 h2 h3 => ?_, fun q => absurd h q⟩
    · rw [if_pos h, if_neg (by omega), pm _ (2 * p + 1) _ (by omega), pm _ (2 * p) _ (by omega)]
    · unfold lkS
      rw [if_pos h, mset_k (by decide), mset_k (by decide), mset_at]
    · rw [mset_j (by omega), mset_at]
    · rw [mset_j h3, mset_j h2, mset_k (by decide)]
  · subst h
    refine ⟨mset (mset (mset M 13 j (p : Int)) 13 (2 * p) (-1)) 13 (2 * p + 1) (-1), ?_, ((same_mset.mono (by decide)).tr (same_mset.mono (by decide))).tr (same_mset.mono (by decide)), ?_, ?_, mset_at _ _ _ _, fun i h1 h2 h3 => ?_, fun _ => ?_⟩
    · rw [if_neg (by omega), if_neg (by omega), pm _ (2 * p + 1) _ (by omega), pm _ (2 * p) _ (by omega), pm _ j _ hj]
    · unfold lkS
      rw [if_neg (by omega), Int.toNat_natCast, mset_j (by omega), mset_j (by omega), mset_at]
    · rw [mset_j (by omega), mset_at]
    · rw [mset_j h3, mset_j h2, mset_j (by omega)]
    · rw [mset_k (by decide), mset_k (by decide), mset_k (by decide)]
theorem sp22n {M : mM} (d : Nat) {sl : Int} (hs : okS sl) : ∃ M', run prog (d + 2) 22 [vr 12, vi sl, vi (-1)] (shp, M) = some (.inl none, (shp, M')) ∧ same [12, 13] M M' ∧ (∀ j : Nat, sl ≠ (j : Int) → M' 13 j = M 13 j) ∧ (sl ≠ -1 → M' 12 11 = M 12 11) ∧ lkS M' sl = -1 := by
  rw [s22 d]
  unfold o22
  rcases hs with h | ⟨j, h, hj⟩
  · exact ⟨mset M 12 11 (-1), by rw [if_pos h, if_pos rfl], same_mset.mono (by decide), fun i _ => mset_k (by decide), fun q => absurd h q, by unfold lkS; rw [if_pos h, mset_at]⟩
  · subst h
    refine ⟨mset M 13 j (-1), by rw [if_neg (by omega), if_pos rfl, pu_in ⟨by omega, by omega⟩, Int.toNat_natCast], same_mset.mono (by decide), fun i h1 => mset_j (by omega), fun _ => mset_k (by decide), ?_⟩
    unfold lkS
    rw [if_neg (by omega), Int.toNat_natCast, mset_at]
