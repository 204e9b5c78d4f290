/-! CLUSTERS: WHAT IS ASKED -/
theorem len_ne (m : Nat) : ∀ l : List Nat, l.Nodup → l.length ≤ (l.filter fun x => decide (x ≠ m)).length + 1 := by
  intro l
  induction l with
  | nil => intro _; exact Nat.zero_le _
  | cons x t ih =>
    intro h
    obtain ⟨h1, h2⟩ := List.nodup_cons.mp h
    by_cases c : x = m
    · have e : (x :: t).filter (fun x => decide (x ≠ m)) = t.filter fun x => decide (x ≠ m) := by
        rw [List.filter_cons_of_neg (by simp [c])]
      have e2 : t.filter (fun x => decide (x ≠ m)) = t := by
        rw [List.filter_eq_self]
        intro a ha
        rw [decide_eq_true_eq]
        intro q
        rw [q, ← c] at ha
        exact h1 ha
      rw [e, e2]
      exact Nat.le_refl _
    · have e : (x :: t).filter (fun x => decide (x ≠ m)) = x :: t.filter fun x => decide (x ≠ m) := by
        rw [List.filter_cons_of_pos (by simp [c])]
      have := ih h2
      rw [e, List.length_cons, List.length_cons]
      omega
theorem nodup_le : ∀ (m : Nat) (l : List Nat), l.Nodup → (∀ x ∈ l, x < m) → l.length ≤ m := by
  intro m
  induction m with
  | zero =>
    intro l _ h
    cases l with
    | nil => exact Nat.le_refl _
    | cons x t => exact absurd (h x List.mem_cons_self) (Nat.not_lt_zero _)
  | succ m ih =>
    intro l hn h
    have h1 := len_ne m l hn
    have h2 := ih (l.filter fun x => decide (x ≠ m)) (List.Pairwise.filter _ hn) (fun x hx => by
      obtain ⟨a1, a2⟩ := List.mem_filter.mp hx
      have := h x a1
      have a2 := of_decide_eq_true a2
      omega)
    omega
def gI (A : Nat → Nat → Bool) (m : Nat) (g : Nat → Nat) : Prop := ∀ a b, a < m → b < m → A a b = true → g a = g b
def cl1 (A : Nat → Nat → Bool) (m : Nat) (f : Nat → Nat) : Prop := gI A m f ∧ ∀ i, i < m → f i ≤ i ∧ ∀ g, gI A m g → g i = g (f i)
theorem cl1_le {A : Nat → Nat → Bool} {m : Nat} {f f' : Nat → Nat} (h : cl1 A m f) (h' : cl1 A m f') {i : Nat} (hi : i < m) : f i ≤ f' i := by
  obtain ⟨a1, a2⟩ := h'.2 i hi
  have b1 := (h.2 (f' i) (by omega)).1
  rw [← a2 f h.1] at b1
  exact b1
theorem cl1_u {A : Nat → Nat → Bool} {m : Nat} {f f' : Nat → Nat} (h : cl1 A m f) (h' : cl1 A m f') {i : Nat} (hi : i < m) : f i = f' i := Nat.le_antisymm (cl1_le h h' hi) (cl1_le h' h hi)
def pt (M : mM) (n i : Nat) : Nat := ((visL M n).getD i 0).toNat
theorem pt_at {M : mM} {n i : Nat} (h : i < (visL M n).length) : (visL M n)[i]? = some (pt M n i : Int) ∧ pt M n i < n := by
  have e := List.getElem?_eq_getElem h
  obtain ⟨p, p1, p2, -⟩ := visL_at e
  have : pt M n i = p := by
    unfold pt
    rw [List.getD_eq_getElem?_getD, e, p1]
    rfl
  rw [this]
  rw [p1] at e
  exact ⟨e, p2⟩
theorem pt_lt {M : mM} {n i j : Nat} (hi : i < (visL M n).length) (hj : j < (visL M n).length) : pt M n i < pt M n j ↔ i < j := by
  have := visL_lt (pt_at hi).1 (pt_at hj).1
  omega
theorem pt_inj {M : mM} {n i j : Nat} (hi : i < (visL M n).length) (hj : j < (visL M n).length) (h : pt M n i = pt M n j) : i = j := by
  have h1 := pt_lt hi hj
  have h2 := pt_lt hj hi
  omega
def adj (M : mM) (n : Nat) (r : Int) (i j : Nat) : Bool := decide (db M (pt M n i) (pt M n j) ≤ r)
theorem ab_comm (a b : Int) : ab a b = ab b a := by unfold ab; split <;> split <;> omega
theorem db_comm (M : mM) (p q : Nat) : db M p q = db M q p := by
  unfold db
  rw [ab_comm (M 8 (3 * p)), ab_comm (M 8 (3 * p + 1)), ab_comm (M 8 (3 * p + 2))]
theorem adj_comm (M : mM) (n : Nat) (r : Int) (i j : Nat) : adj M n r i j = adj M n r j i := by unfold adj; rw [db_comm]
def natI (l : List Nat) : List Int := l.map fun (i : Nat) => (i : Int)
theorem natI_app (l t : List Nat) : natI (l ++ t) = natI l ++ natI t := List.map_append
theorem fil_natI (f : Nat → Bool) (n : Nat) : fil f n = natI ((List.range n).filter f) := rfl
theorem natI_at {l : List Nat} {j : Nat} {x : Nat} (h : l[j]? = some x) : (natI l)[j]? = some (x : Int) := by
  unfold natI
  rw [List.getElem?_map, h]
  rfl
theorem natI_len (l : List Nat) : (natI l).length = l.length := List.length_map _
theorem vis_r30 {M M1 : mM} {n i : Nat} (h200 : n ≤ 200) (h1 : nums M1 73 (visL M n)) (hi : i < (visL M n).length) : r30 (i : Int) M1 = (pt M n i : Int) := by
  have := visL_le M n
  show va M1 74 200 (i : Int) = _
  rw [va_in ⟨by omega, by omega⟩, Int.toNat_natCast]
  exact h1.2 i _ (pt_at hi).1
theorem nums_same {M M' : mM} {k : Nat} {l : List Int} (h : nums M k l) (h1 : M' k = M k) (h2 : M' (k + 1) = M (k + 1)) : nums M' k l := by
  unfold nums
  rw [h1, h2]
  exact h
/-! the class: one point's neighbours -/
theorem sp201 {M M1 : mM} (h : Iv M) (d : Nat) {n : Nat} (h200 : n ≤ 200) (h60 : (visL M n).length ≤ 60) (hs : same [73, 74, 75, 76, 77, 78] M M1) (h1 : nums M1 73 (visL M n)) {W : List Nat} (hW : nums M1 77 (natI W)) (hWl : W.length ≤ 60) {p : Nat} (hp : p < (visL M n).length) (f : Int) (r : Int) :
    ∃ M', run prog (d + 5) 201 [vr 72, vi (p : Int), vi f, vi r] (shp, M1) = some (.inl none, (shp, M')) ∧ same [76, 77, 78] M1 M' ∧ (∀ j, j < (visL M n).length → M' 76 j = if M1 76 j = -1 ∧ adj M n r p j = true then f else M1 76 j) ∧
      nums M' 77 (natI (W ++ (List.range (visL M n).length).filter fun j => decide (M1 76 j = -1) && adj M n r p j)) := by
  show ∃ M', ev prog (d + 5) 201 0 0 [vr 72, vi (p : Int), vi f, vi r, vj] [] (shp, M1) = _ ∧ _
  obtain ⟨M', a1, a2, a3, a4⟩ := up_inv (fun M2 i => ev prog (d + 5) 201 0 1 [vr 72, vi (p : Int), vi f, vi r, vi (i : Int)] [] (shp, M2))
    (fun i M2 => same [76, 77, 78] M1 M2 ∧ (∀ j, j < (visL M n).length → M2 76 j = if j < i ∧ M1 76 j = -1 ∧ adj M n r p j = true then f else M1 76 j) ∧ nums M2 77 (natI W ++ fil (fun j => decide (M1 76 j = -1) && adj M n r p j) i)) (visL M n).length (fun i M2 hi hI => by
    obtain ⟨k1, k2, k3⟩ := hI
    have hsm : same [73, 74, 75, 76, 77, 78] M M2 := hs.tr (k1.mono (by decide))
    have hI2 : Iv M2 := h.same hsm (by decide)
    have h12 : nums M2 73 (visL M n) := nums_same h1 (k1 73 (by decide)) (k1 74 (by decide))
    have hv : va M2 76 60 (i : Int) = M1 76 i := by
      rw [va_in ⟨by omega, by omega⟩, Int.toNat_natCast, k2 i hi, if_neg (by omega)]
    have hfl := fil_le (fun j => decide (M1 76 j = -1) && adj M n r p j) i
    show ∃ M', ev prog (d + 5) 201 0 1 [vr 72, vi (p : Int), vi f, vi r, vi (i : Int)] [] (shp, M2) = ev prog (d + 5) 201 0 1 [vr 72, vi (p : Int), vi f, vi r, vi ((i + 1 : Nat) : Int)] [] (shp, M') ∧ _
    rw [g201_1, h12.1, if_pos (by omega), hv, wI (by omega)]
    have skip : (decide (M1 76 i = -1) && adj M n r p i) = false → (same [76, 77, 78] M1 M2 ∧ (∀ j, j < (visL M n).length → M2 76 j = if j < i + 1 ∧ M1 76 j = -1 ∧ adj M n r p j = true then f else M1 76 j) ∧ nums M2 77 (natI W ++ fil (fun j => decide (M1 76 j = -1) && adj M n r p j) (i + 1))) := by
      intro hF
      refine ⟨k1, fun j hj => ?_, by rw [fil_f hF]; exact k3⟩
      rw [k2 j hj]
      by_cases c : j = i
      · subst c
        rw [if_neg (by omega), if_neg]
        rintro ⟨-, q1, q2⟩
        rw [q1, q2] at hF
        cases hF
      · by_cases c1 : j < i ∧ M1 76 j = -1 ∧ adj M n r p j = true
        · rw [if_pos c1, if_pos ⟨by omega, c1.2⟩]
        · rw [if_neg c1, if_neg (fun q => c1 ⟨by omega, q.2⟩)]
    by_cases c : M1 76 i = -1
    · obtain ⟨p1, p2⟩ := pt_at hp
      obtain ⟨q1, q2⟩ := pt_at hi
      rw [if_pos c, vis_r30 h200 h12 hp, vis_r30 h200 h12 hi, sp187 hI2 d (show pt M n p < 200 by omega) (show pt M n i < 200 by omega), db_c (hsm 8 (by decide)) (hsm 34 (by decide)), callK_r, psh_s, g201_7, wI (by omega)]
      by_cases c2 : db M (pt M n p) (pt M n i) ≤ r
      · have hA : adj M n r p i = true := decide_eq_true c2
        have hF : (decide (M1 76 i = -1) && adj M n r p i) = true := by rw [hA, decide_eq_true c]; rfl
        have hn : nums (pu M2 76 60 (i : Int) f) 77 (natI W ++ fil (fun j => decide (M1 76 j = -1) && adj M n r p j) i) := nums_same k3 (same_pu 77 (by decide)) (same_pu 78 (by decide))
        have hlen : (natI W ++ fil (fun j => decide (M1 76 j = -1) && adj M n r p j) i).length < 200 := by
          rw [List.length_append, natI_len]; omega
        obtain ⟨z1, z2⟩ := nums_add (x := (i : Int)) hn hlen
        have zc := hn.1
        refine ⟨_, ?_, (k1.tr (same_pu.mono (by decide))).tr (z2.mono (by decide)), fun j hj => ?_, by rw [fil_t hF, ← List.append_assoc]; exact z1⟩
        · rw [if_neg (by omega), s25b (d + 2)]
          unfold o25b
          rw [if_pos (by rw [zc]; omega), callK_r, psh_n, g201_10, wI (by omega)]
        · rw [z2 76 (by decide), pu_in ⟨by omega, by omega⟩, Int.toNat_natCast]
          by_cases c3 : j = i
          · subst c3
            rw [mset_at, if_pos ⟨by omega, c, hA⟩]
          · rw [mset_j c3, k2 j hj]
            by_cases c1 : j < i ∧ M1 76 j = -1 ∧ adj M n r p j = true
            · rw [if_pos c1, if_pos ⟨by omega, c1.2⟩]
            · rw [if_neg c1, if_neg (fun q => c1 ⟨by omega, q.2⟩)]
      · have hA : adj M n r p i = false := decide_eq_false c2
        exact ⟨M2, by rw [if_pos (by omega)], skip (by rw [hA, Bool.and_false])⟩
    · exact ⟨M2, by rw [if_neg c], skip (by rw [decide_eq_false c]; rfl)⟩) (M := M1) ⟨same.rf, fun j hj => by rw [if_neg (by omega)], by
      have : fil (fun j => decide (M1 76 j = -1) && adj M n r p j) 0 = [] := rfl
      rw [this, List.append_nil]; exact hW⟩
  have h13 : nums M' 73 (visL M n) := nums_same h1 (a2 73 (by decide)) (a2 74 (by decide))
  refine ⟨M', ?_, a2, fun j hj => ?_, ?_⟩
  · rw [g201_0]
    refine Eq.trans a1 ?_
    show ev prog (d + 5) 201 0 1 [vr 72, vi (p : Int), vi f, vi r, vi ((visL M n).length : Int)] [] (shp, M') = _
    rw [g201_1, h13.1, if_neg (by omega)]
  · rw [a3 j hj]
    by_cases c : M1 76 j = -1 ∧ adj M n r p j = true
    · rw [if_pos ⟨hj, c⟩, if_pos c]
    · rw [if_neg (fun q => c q.2), if_neg c]
  · rw [natI_app, ← fil_natI]
    exact a4
/-! the class: one cluster -/
def bfs (A : Nat → Nat → Bool) (m : Nat) (M1 M' : mM) (first w : Nat) (W : List Nat) : Prop :=
  same [76, 77, 78] M1 M' ∧ nums M' 77 (natI W) ∧ W.Nodup ∧ (∀ j ∈ W, j < m ∧ M1 76 j = -1 ∧ ∀ g, gI A m g → g j = g first) ∧ (∀ j, j < m → M' 76 j = if j ∈ W then (first : Int) else M1 76 j) ∧ first ∈ W ∧
  (∀ t, t < w → ∀ a, W[t]? = some a → ∀ b, b < m → A a b = true → b ∈ W ∨ M1 76 b ≠ -1)
theorem sp202l {M M1 : mM} (h : Iv M) (d : Nat) {n : Nat} (h200 : n ≤ 200) (h60 : (visL M n).length ≤ 60) (hs : same [73, 74, 75, 76, 77, 78] M M1) (h1 : nums M1 73 (visL M n)) {first : Nat} (r : Int) :
    ∀ (q w : Nat) (M2 : mM) (W : List Nat), w + q = 60 → w ≤ W.length → bfs (adj M n r) (visL M n).length M1 M2 first w W →
    ∃ M' W', ev prog (d + 6) 202 0 4 [vr 72, vi (first : Int), vi r, vi (w : Int)] [] (shp, M2) = some (.inl none, (shp, M')) ∧ bfs (adj M n r) (visL M n).length M1 M' first W'.length W' := by
  intro q
  induction q with
  | zero =>
    intro w M2 W hw hwl hB
    have hl : W.length ≤ (visL M n).length := nodup_le _ _ hB.2.2.1 (fun x hx => (hB.2.2.2.1 x hx).1)
    refine ⟨M2, W, ?_, by rw [show W.length = w by omega]; exact hB⟩
    rw [g202_4, if_neg (by omega)]
  | succ q ih =>
    intro w M2 W hw hwl hB
    obtain ⟨b1, b2, b3, b4, b5, b6, b7⟩ := hB
    have hl : W.length ≤ (visL M n).length := nodup_le _ _ b3 (fun x hx => (b4 x hx).1)
    have hc : M2 77 1 = (W.length : Int) := by rw [b2.1, natI_len]
    rw [g202_4, if_pos (by omega), hc]
    by_cases c : w < W.length
    · have ha := List.getElem?_eq_getElem c
      have haW : W[w] ∈ W := List.getElem_mem c
      obtain ⟨c1, c2, c3⟩ := b4 _ haW
      have hr : r30a (w : Int) M2 = (W[w] : Int) := by
        show va M2 78 200 (w : Int) = _
        rw [va_in ⟨by omega, by omega⟩, Int.toNat_natCast]
        exact b2.2 w _ (natI_at ha)
      obtain ⟨M3, d1, d2, d3, d4⟩ := sp201 h d h200 h60 (hs.tr (b1.mono (by decide))) (nums_same h1 (b1 73 (by decide)) (b1 74 (by decide))) b2 (by omega) c1 (first : Int) r
      have hmem : ∀ j, j ∈ (List.range (visL M n).length).filter (fun j => decide (M2 76 j = -1) && adj M n r W[w] j) ↔ j < (visL M n).length ∧ M2 76 j = -1 ∧ adj M n r W[w] j = true := by
        intro j
        rw [List.mem_filter, List.mem_range, Bool.and_eq_true, decide_eq_true_eq]
      have hout : ∀ j, j ∈ (List.range (visL M n).length).filter (fun j => decide (M2 76 j = -1) && adj M n r W[w] j) → j ∉ W ∧ M1 76 j = -1 := by
        intro j hj
        obtain ⟨e1, e2, -⟩ := (hmem j).mp hj
        have e3 := b5 j e1
        by_cases e4 : j ∈ W
        · rw [if_pos e4] at e3; omega
        · rw [if_neg e4] at e3
          exact ⟨e4, by rw [← e3]; exact e2⟩
      obtain ⟨M', W', f1, f2⟩ := ih (w + 1) M3 (W ++ (List.range (visL M n).length).filter fun j => decide (M2 76 j = -1) && adj M n r W[w] j) (by omega) (by rw [List.length_append]; omega) ⟨b1.tr d2, d4, by
          rw [List.nodup_append]
          refine ⟨b3, List.Pairwise.filter _ List.nodup_range, fun a ha b hb => ?_⟩
          intro q
          rw [q] at ha
          exact (hout b hb).1 ha, fun j hj => by
          rcases List.mem_append.mp hj with h9 | h9
          · exact b4 j h9
          · obtain ⟨e1, e2, e3⟩ := (hmem j).mp h9
            exact ⟨e1, (hout j h9).2, fun g hg => (hg _ _ c1 e1 e3).symm.trans (c3 g hg)⟩, fun j hj => by
          rw [d3 j hj]
          by_cases e1 : M2 76 j = -1 ∧ adj M n r W[w] j = true
          · rw [if_pos e1, if_pos (List.mem_append.mpr (Or.inr ((hmem j).mpr ⟨hj, e1⟩)))]
          · rw [if_neg e1, b5 j hj]
            by_cases e2 : j ∈ W
            · rw [if_pos e2, if_pos (List.mem_append.mpr (Or.inl e2))]
            · rw [if_neg e2, if_neg]
              intro q
              rcases List.mem_append.mp q with h9 | h9
              · exact e2 h9
              · exact e1 ((hmem j).mp h9).2, List.mem_append.mpr (Or.inl b6), fun t ht a hta b hb hab => by
          by_cases e1 : t < w
          · rw [List.getElem?_append_left (by omega)] at hta
            rcases b7 t e1 a hta b hb hab with h9 | h9
            · exact Or.inl (List.mem_append.mpr (Or.inl h9))
            · exact Or.inr h9
          · have e2 : t = w := by omega
            rw [e2, List.getElem?_append_left c, ha] at hta
            cases hta
            by_cases e3 : M2 76 b = -1
            · exact Or.inl (List.mem_append.mpr (Or.inr ((hmem b).mpr ⟨hb, e3, hab⟩)))
            · have e4 := b5 b hb
              by_cases e5 : b ∈ W
              · exact Or.inl (List.mem_append.mpr (Or.inl e5))
              · rw [if_neg e5] at e4
                exact Or.inr (by rw [← e4]; exact e3)⟩
      refine ⟨M', W', ?_, f2⟩
      rw [if_pos (by omega), hr, d1, callK_r, psh_n, g202_8, wI (by omega)]
      exact f1
    · have : w = W.length := by omega
      subst this
      exact ⟨M2, W, by rw [if_neg (by omega)], b1, b2, b3, b4, b5, b6, b7⟩
theorem sp202 {M M1 : mM} (h : Iv M) (d : Nat) {n : Nat} (h200 : n ≤ 200) (h60 : (visL M n).length ≤ 60) (hs : same [73, 74, 75, 76, 77, 78] M M1) (h1 : nums M1 73 (visL M n)) {first : Nat} (hf : first < (visL M n).length) (hf1 : M1 76 first = -1) (r : Int) :
    ∃ M' W', run prog (d + 6) 202 [vr 72, vi (first : Int), vi r] (shp, M1) = some (.inl none, (shp, M')) ∧ bfs (adj M n r) (visL M n).length M1 M' first W'.length W' := by
  show ∃ M' W', ev prog (d + 6) 202 0 0 [vr 72, vi (first : Int), vi r, vj] [] (shp, M1) = _ ∧ _
  have e9 : (natI ([] : List Nat)).length < 200 := by decide
  obtain ⟨z1, z2⟩ := nums_add (x := (first : Int)) (M := mset (pu M1 76 60 (first : Int) (first : Int)) 77 1 0) (k := 77) (l := natI []) nums_nil e9
  have zc : (mset (pu M1 76 60 (first : Int) (first : Int)) 77 1 0) 77 1 = 0 := mset_at _ _ _ _
  obtain ⟨M', W', a1, a2⟩ := sp202l h d h200 h60 hs h1 (first := first) r 60 0 _ [first] (by omega) (Nat.zero_le _) ⟨((same_pu.mono (by decide)).tr (same_mset.mono (by decide))).tr (z2.mono (by decide)), z1, List.nodup_cons.mpr ⟨List.not_mem_nil, List.nodup_nil⟩, fun j hj => by
      rw [List.mem_singleton.mp hj]
      exact ⟨hf, hf1, fun g _ => rfl⟩, fun j hj => by
      rw [z2 76 (by decide), mset_k (by decide), pu_in ⟨by omega, by omega⟩, Int.toNat_natCast]
      by_cases c : j = first
      · rw [c, mset_at, if_pos (List.mem_singleton.mpr rfl)]
      · rw [mset_j c, if_neg (fun q => c (List.mem_singleton.mp q))], List.mem_singleton.mpr rfl, fun t ht => absurd ht (Nat.not_lt_zero _)⟩
  refine ⟨M', W', ?_, a2⟩
  rw [g202_0, s25b (d + 3)]
  unfold o25b
  rw [if_pos (by rw [zc]; decide), callK_r, psh_n, g202_3]
  exact a1
/-! the class: all clusters -/
def clI (A : Nat → Nat → Bool) (m i : Nat) (M' : mM) : Prop :=
  (∀ j, j < i → j < m → M' 76 j ≠ -1) ∧ (∀ j, j < m → M' 76 j ≠ -1 → ∃ f : Nat, M' 76 j = (f : Int) ∧ f ≤ j ∧ f < i ∧ ∀ g, gI A m g → g j = g f) ∧ (∀ a b, a < m → b < m → A a b = true → M' 76 a ≠ -1 → M' 76 b = M' 76 a)
theorem sp203 {M : mM} (h : Iv M) (d : Nat) {n : Nat} (hn : M 7 4 = (n : Int)) (h200 : n ≤ 200) (h60 : (visL M n).length ≤ 60) (r : Int) :
    ∃ M' f, run prog (d + 7) 203 [vr 72, vi r] (shp, M) = some (.inl (some (vi ((fil (fun j => decide (f j = j)) (visL M n).length).length : Int))), (shp, M')) ∧ cl1 (adj M n r) (visL M n).length f ∧ (∀ j, j < (visL M n).length → M' 76 j = (f j : Int)) ∧ nums M' 73 (visL M n) ∧ same [73, 74, 75, 76, 77, 78] M M' := by
  show ∃ M' f, ev prog (d + 7) 203 0 0 [vr 72, vi r, vj, vj] [] (shp, M) = _ ∧ _
  obtain ⟨M1, a1, a2, a3⟩ := sp126 (d + 2) M hn h200
  have hm1 : same [76] M1 (mfill M1 76 60 (-1)) := fun k hk => by
    funext j
    unfold mfill
    rw [if_neg (fun q => hk (by rw [q.1]; exact List.mem_singleton.mpr rfl))]
  have loop : ∀ (q i : Nat) (M2 : mM), i + q = (visL M n).length → same [73, 74, 75, 76, 77, 78] M M2 → nums M2 73 (visL M n) → clI (adj M n r) (visL M n).length i M2 →
      ∃ M', ev prog (d + 7) 203 0 3 [vr 72, vi r, vi ((fil (fun j => decide (M2 76 j = (j : Int))) i).length : Int), vi (i : Int)] [] (shp, M2) = ev prog (d + 7) 203 0 3 [vr 72, vi r, vi ((fil (fun j => decide (M' 76 j = (j : Int))) (visL M n).length).length : Int), vi ((visL M n).length : Int)] [] (shp, M') ∧ same [73, 74, 75, 76, 77, 78] M M' ∧ nums M' 73 (visL M n) ∧ clI (adj M n r) (visL M n).length (visL M n).length M' := by
    intro q
    induction q with
    | zero =>
      intro i M2 hi k1 k2 k3
      have e : i = (visL M n).length := by omega
      subst e
      exact ⟨M2, rfl, k1, k2, k3⟩
    | succ q ih =>
      intro i M2 hi k1 k2 k3
      obtain ⟨c1, c2, c3⟩ := k3
      have him : i < (visL M n).length := by omega
      have hv : va M2 76 60 (i : Int) = M2 76 i := by rw [va_in ⟨by omega, by omega⟩, Int.toNat_natCast]
      have hfl := fil_le (fun j => decide (M2 76 j = (j : Int))) i
      by_cases c : M2 76 i = -1
      · obtain ⟨M3, W, e1, b1, b2, b3, b4, b5, b6, b7⟩ := sp202 h d h200 h60 k1 k2 him c r
        have old : ∀ j, j < (visL M n).length → M2 76 j ≠ -1 → M3 76 j = M2 76 j := fun j hj hne => by
          rw [b5 j hj, if_neg (fun q => hne (b4 j q).2.1)]
        have new : ∀ j, j ∈ W → M3 76 j = (i : Int) := fun j hj => by rw [b5 j (b4 j hj).1, if_pos hj]
        obtain ⟨M', f1, f2, f3, f4⟩ := ih (i + 1) M3 (by omega) (k1.tr (b1.mono (by decide))) (nums_same k2 (b1 73 (by decide)) (b1 74 (by decide))) ⟨fun j hj hjm => by
            by_cases c9 : j = i
            · rw [c9, new i b6]; omega
            · have := c1 j (by omega) hjm
              rw [old j hjm this]; exact this, fun j hj hne => by
            by_cases c9 : j ∈ W
            · refine ⟨i, new j c9, ?_, by omega, (b4 j c9).2.2⟩
              by_cases c8 : j < i
              · exact absurd (b4 j c9).2.1 (c1 j c8 hj)
              · omega
            · have e3 := b5 j hj
              rw [if_neg c9] at e3
              rw [e3] at hne ⊢
              obtain ⟨f, z1, z2, z3, z4⟩ := c2 j hj hne
              exact ⟨f, z1, z2, by omega, z4⟩, fun a b ha hb hab hne => by
            by_cases c9 : a ∈ W
            · obtain ⟨t, ht⟩ := List.mem_iff_getElem?.mp c9
              have htl : t < W.length := (List.getElem?_eq_some_iff.mp ht).1
              rcases b7 t htl a ht b hb hab with h9 | h9
              · rw [new a c9, new b h9]
              · exfalso
                have := c3 b a hb ha (by rw [adj_comm]; exact hab) h9
                rw [(b4 a c9).2.1] at this
                exact h9 this.symm
            · have e3 := b5 a ha
              rw [if_neg c9] at e3
              rw [e3] at hne
              have e4 := c3 a b ha hb hab hne
              rw [e3, ← e4]
              exact old b hb (by rw [e4]; exact hne)⟩
        refine ⟨M', ?_, f2, f3, f4⟩
        rw [← f1, g203_3, k2.1, if_pos (by omega), hv, if_pos c, e1, callK_r, psh_n, g203_7, wI (by omega), wI (by omega)]
        have e5 : fil (fun j => decide (M3 76 j = (j : Int))) (i + 1) = fil (fun j => decide (M2 76 j = (j : Int))) i ++ [(i : Int)] := by
          rw [fil_t (decide_eq_true (new i b6))]
          congr 1
          refine fil_c (fun j hj => ?_)
          rw [old j (by omega) (c1 j hj (by omega))]
        rw [e5, List.length_append]
        rfl
      · obtain ⟨f, z1, z2, z3, z4⟩ := c2 i him c
        obtain ⟨M', f1, f2, f3, f4⟩ := ih (i + 1) M2 (by omega) k1 k2 ⟨fun j hj hjm => by
            by_cases c9 : j = i
            · rw [c9]; exact c
            · exact c1 j (by omega) hjm, fun j hj hne => by
            obtain ⟨f, z1, z2, z3, z4⟩ := c2 j hj hne
            exact ⟨f, z1, z2, by omega, z4⟩, c3⟩
        refine ⟨M', ?_, f2, f3, f4⟩
        rw [← f1, g203_3, k2.1, if_pos (by omega), hv, if_neg c, wI (by omega)]
        rw [fil_f (show decide (M2 76 i = (i : Int)) = false by rw [decide_eq_false_iff_not, z1]; omega)]
  obtain ⟨M', f1, f2, f3, f4⟩ := loop (visL M n).length 0 (mfill M1 76 60 (-1)) (by omega) ((a3.mono (by decide)).tr (hm1.mono (by decide))) (nums_same a2 (hm1 73 (by decide)) (hm1 74 (by decide))) (by
    have e : ∀ j, j < (visL M n).length → mfill M1 76 60 (-1) 76 j = -1 := fun j hj => by
      unfold mfill
      rw [if_pos ⟨rfl, by omega⟩]
    exact ⟨fun j hj => absurd hj (Nat.not_lt_zero _), fun j hj hne => absurd (e j hj) hne, fun a b ha hb _ hne => absurd (e a ha) hne⟩)
  obtain ⟨c1, c2, c3⟩ := f4
  have hF : ∀ j, j < (visL M n).length → M' 76 j = ((M' 76 j).toNat : Int) := fun j hj => by
    obtain ⟨f, z1, -⟩ := c2 j hj (c1 j hj hj)
    rw [z1, Int.toNat_natCast]
  refine ⟨M', fun j => (M' 76 j).toNat, ?_, ⟨fun a b ha hb hab => ?_, fun i hi => ?_⟩, hF, f3, f2⟩
  · rw [g203_0, a1, callK_r, psh_s, g203_1]
    refine Eq.trans f1 ?_
    rw [g203_3, f3.1, if_neg (by omega)]
    rw [show fil (fun j => decide (M' 76 j = (j : Int))) (visL M n).length = fil (fun j => decide ((M' 76 j).toNat = j)) (visL M n).length from fil_c (fun j hj => by
      have := hF j hj
      by_cases c : M' 76 j = (j : Int)
      · rw [decide_eq_true c, decide_eq_true (by omega)]
      · rw [decide_eq_false c, decide_eq_false (by omega)])]
  · show (M' 76 a).toNat = (M' 76 b).toNat
    rw [c3 a b ha hb hab (c1 a ha ha)]
  · obtain ⟨f, z1, z2, -, z4⟩ := c2 i hi (c1 i hi hi)
    show (M' 76 i).toNat ≤ i ∧ ∀ g, gI _ _ g → g i = g (M' 76 i).toNat
    rw [z1, Int.toNat_natCast]
    exact ⟨z2, z4⟩
theorem sp204 {M : mM} (h : Iv M) (d : Nat) {n : Nat} (hn : M 7 4 = (n : Int)) (h200 : n ≤ 200) (h60 : (visL M n).length ≤ 60) (r : Int) :
    ∃ M' f, run prog (d + 8) 204 [vr 5, vi r] (shp, M) = some (.inl (some (vi ((fil (fun j => decide (f j = j)) (visL M n).length).length : Int))), (shp, M')) ∧ cl1 (adj M n r) (visL M n).length f ∧ same [73, 74, 75, 76, 77, 78] M M' := by
  show ∃ M' f, ev prog (d + 8) 204 0 0 [vr 5, vi r] [] (shp, M) = _ ∧ _
  obtain ⟨M', f, a1, a2, a3, a4, a5⟩ := sp203 h d hn h200 h60 r
  exact ⟨M', f, by rw [g204_0, a1, callK_r, psh_s, g204_1], a2, a5⟩
theorem vis_ix {M : mM} {n p : Nat} (h1 : p < n) (h2 : p125 (p : Int) M = true) : ∃ i, i < (visL M n).length ∧ pt M n i = p := by
  have : (p : Int) ∈ visL M n := by
    unfold visL
    exact List.mem_map.mpr ⟨p, List.mem_filter.mpr ⟨List.mem_range.mpr h1, h2⟩, rfl⟩
  obtain ⟨i, hi⟩ := List.mem_iff_getElem?.mp this
  have hl := (List.getElem?_eq_some_iff.mp hi).1
  refine ⟨i, hl, ?_⟩
  have := (pt_at hl).1
  rw [hi] at this
  have := Option.some.inj this
  omega
theorem p125_range {M : mM} (h : Iv M) {x : Int} (hp : p125 x M = true) : ∃ p : Nat, x = (p : Int) ∧ p < 200 ∧ ∃ n : Nat, M 7 4 = (n : Int) ∧ p < n := by
  unfold p125 at hp
  cases hq : p32 x M with
  | false => rw [hq] at hp; cases hp
  | true =>
    unfold p32 at hq
    cases hr : p31 x M with
    | false => rw [hr] at hq; cases hq
    | true => exact p31_range h hr
theorem sp208 {M : mM} (h : Iv M) (d : Nat) {n : Nat} (hn : M 7 4 = (n : Int)) (h200 : n ≤ 200) (h60 : (visL M n).length ≤ 60) (x r : Int) :
    (p125 x M = false ∧ run prog (d + 8) 208 [vr 5, vi x, vi r] (shp, M) = some (.inr 2, (shp, M))) ∨
    (p125 x M = true ∧ ∃ M' f i, i < (visL M n).length ∧ x = (pt M n i : Int) ∧ run prog (d + 8) 208 [vr 5, vi x, vi r] (shp, M) = some (.inl (some (vi (pt M n (f i) : Int))), (shp, M')) ∧ cl1 (adj M n r) (visL M n).length f ∧ same [73, 74, 75, 76, 77, 78] M M') := by
  have e0 : run prog (d + 8) 208 [vr 5, vi x, vi r] (shp, M) = ev prog (d + 8) 208 0 0 [vr 5, vi x, vi r] [] (shp, M) := rfl
  rw [e0, g208_0]
  cases hv : p125 x M with
  | false => exact Or.inl ⟨rfl, by rw [if_pos (show bi false = 0 from rfl)]⟩
  | true =>
    refine Or.inr ⟨rfl, ?_⟩
    obtain ⟨p, rfl, hp2, n', hn', hp3⟩ := p125_range h hv
    have e : n' = n := by omega
    subst e
    obtain ⟨i, hi, hpi⟩ := vis_ix hp3 hv
    obtain ⟨M', f, a1, a2, a3, a4, a5⟩ := sp203 h d hn h200 h60 r
    refine ⟨M', f, i, hi, by rw [hpi], ?_, a2, a5⟩
    have hvl := visL_le M n'
    have hfi := a2.2 i hi
    have key := up_ex (fun j => ev prog (d + 7) 207 0 1 [vr 72, vi (p : Int), vi (j : Int)] [] (shp, M')) (some (.inl (some (vi (pt M n' (f i) : Int))), (shp, M'))) (fun j => j ≤ i) (visL M n').length (fun j hj hP => by
      show ev prog (d + 7) 207 0 1 [vr 72, vi (p : Int), vi (j : Int)] [] (shp, M') = _ ∨ (ev prog (d + 7) 207 0 1 [vr 72, vi (p : Int), vi (j : Int)] [] (shp, M') = ev prog (d + 7) 207 0 1 [vr 72, vi (p : Int), vi ((j + 1 : Nat) : Int)] [] (shp, M') ∧ _)
      rw [g207_1, a4.1, if_pos (by omega), vis_r30 h200 a4 hj, wI (by omega)]
      by_cases c : j = i
      · subst c
        have e1 : va M' 76 60 (j : Int) = (f j : Int) := by rw [va_in ⟨by omega, by omega⟩, Int.toNat_natCast, a3 j hi]
        refine Or.inl ?_
        rw [if_pos (by omega), e1, vis_r30 h200 a4 (show f j < (visL M n').length by omega)]
      · refine Or.inr ⟨?_, by omega⟩
        rw [if_neg]
        intro q
        exact c (pt_inj hj hi (by omega))) (Nat.zero_le _) (fun hP => absurd hP (by omega))
    rw [if_neg (show ¬ bi true = 0 by decide), a1, callK_r, psh_s, g208_2]
    have e1 : run prog (d + 7) 207 [vr 72, vi (p : Int)] (shp, M') = some (.inl (some (vi (pt M n' (f i) : Int))), (shp, M')) := by
      show ev prog (d + 7) 207 0 0 [vr 72, vi (p : Int), vj] [] (shp, M') = _
      rw [g207_0 (d + 4)]
      exact key
    rw [e1, callK_r, psh_s, g208_3]
