/-! THE FARTHEST POINT; ONE POINT'S DISTANCE -/
def fst1 (M : mM) (o : Option Int) (x : Int) : Option Int := match o with
  | none => some x
  | some b => if dq M b.toNat < dq M x.toNat then some x else some b
def farL (M : mM) (l : List Int) : Option Int := l.foldl (fst1 M) none
theorem farL_snoc (M : mM) (l : List Int) (x : Int) : farL M (l ++ [x]) = fst1 M (farL M l) x := by
  unfold farL
  rw [List.foldl_append]
  rfl
theorem farL_mem (M : mM) : ∀ (l : List Int) (b : Int), farL M l = some b → b ∈ l := by
  have key : ∀ (l : List Int) (o : Option Int) (b : Int), l.foldl (fst1 M) o = some b → o = some b ∨ b ∈ l := by
    intro l
    induction l with
    | nil => intro o b h; exact Or.inl h
    | cons x l ih =>
      intro o b h
      rcases ih _ b h with h1 | h1
      · cases o with
        | none => cases h1; exact Or.inr List.mem_cons_self
        | some c =>
          have h1 : (if dq M c.toNat < dq M x.toNat then some x else some c) = some b := h1
          split at h1
          · cases h1; exact Or.inr List.mem_cons_self
          · exact Or.inl h1
      · exact Or.inr (List.mem_cons_of_mem _ h1)
  intro l b h
  rcases key l none b h with h1 | h1
  · cases h1
  · exact h1
theorem sp177 {M : mM} (h : Iv M) (d : Nat) {n : Nat} (hn : M 7 4 = (n : Int)) (h60 : (visL M n).length ≤ 60) : ∃ M', run prog (d + 6) 177 [vr 72] (shp, M) = some (.inl (some (vi ((farL M (visL M n)).getD (-1)))), (shp, M')) ∧ same [73, 74, 75] M M' := by
  show ∃ M', ev prog (d + 6) 177 0 0 [vr 72, vj, vj] [] (shp, M) = _ ∧ _
  obtain ⟨M1, a1, a2, a3, a4⟩ := sp170 h d hn h60
  refine ⟨M1, ?_, a4⟩
  have hv : ∀ (i : Nat) (x : Int), (visL M n)[i]? = some x → va M1 75 60 (i : Int) = dq M x.toNat := fun i x hx => by
    have := (List.getElem?_eq_some_iff.mp hx).1
    rw [va_in ⟨by omega, by omega⟩, Int.toNat_natCast]
    exact a3 i x hx
  have hr : ∀ (i : Nat) (x : Int), (visL M n)[i]? = some x → r30 (i : Int) M1 = x := fun i x hx => by
    have := (List.getElem?_eq_some_iff.mp hx).1
    show va M1 74 200 (i : Int) = _
    rw [va_in ⟨by omega, by omega⟩, Int.toNat_natCast]
    exact a2.2 i _ hx
  have loop : ∀ (q i : Nat) (z : Int), i + q = (visL M n).length → ((z = -1 ∧ farL M ((visL M n).take i) = none) ∨ ∃ (b : Nat) (y : Int), z = (b : Int) ∧ (visL M n)[b]? = some y ∧ farL M ((visL M n).take i) = some y) →
      ev prog (d + 6) 177 0 2 [vr 72, vi z, vi (i : Int)] [] (shp, M1) = some (.inl (some (vi ((farL M (visL M n)).getD (-1)))), (shp, M1)) := by
    intro q
    induction q with
    | zero =>
      intro i z hi hz
      rw [List.take_of_length_le (by omega)] at hz
      rw [g177_2, a2.1, if_neg (by omega)]
      rcases hz with ⟨z1, z2⟩ | ⟨b, y, z1, z2, z3⟩
      · rw [if_pos z1, z2]; rfl
      · rw [if_neg (by omega), z1, hr b y z2, z3]; rfl
    | succ q ih =>
      intro i z hi hz
      have hil : i < (visL M n).length := by omega
      have hx := List.getElem?_eq_getElem hil
      have hw : wr ((i : Int) + 1) = ((i + 1 : Nat) : Int) := wr_id (by unfold inR; omega)
      have hs := farL_snoc M ((visL M n).take i) (visL M n)[i]
      rw [← take_s hil] at hs
      rw [g177_2, a2.1, if_pos (by omega), hw]
      rcases hz with ⟨z1, z2⟩ | ⟨b, y, z1, z2, z3⟩
      · rw [if_pos z1]
        exact ih (i + 1) _ (by omega) (Or.inr ⟨i, _, rfl, hx, by rw [hs, z2]; rfl⟩)
      · rw [z3] at hs
        have hs : farL M ((visL M n).take (i + 1)) = if dq M y.toNat < dq M (visL M n)[i].toNat then some (visL M n)[i] else some y := hs
        rw [if_neg (by omega), z1, hv b y z2, hv i _ hx]
        by_cases c : dq M y.toNat < dq M (visL M n)[i].toNat
        · rw [if_pos c] at hs ⊢
          exact ih (i + 1) _ (by omega) (Or.inr ⟨i, _, rfl, hx, hs⟩)
        · rw [if_neg c] at hs ⊢
          exact ih (i + 1) _ (by omega) (Or.inr ⟨b, y, rfl, z2, hs⟩)
  rw [g177_0, a1, callK_r, psh_n, g177_1]
  exact loop (visL M n).length 0 (-1) (by omega) (Or.inl ⟨rfl, rfl⟩)
theorem farL_pos {M : mM} {n : Nat} {x : Int} (h : farL M (visL M n) = some x) : ∃ p : Nat, x = (p : Int) ∧ p < n := by
  obtain ⟨j, hj⟩ := List.mem_iff_getElem?.mp (farL_mem M _ _ h)
  obtain ⟨p, h1, h2, -⟩ := visL_at hj
  exact ⟨p, h1, h2⟩
theorem sp178 {M : mM} (h : Iv M) (d : Nat) {n : Nat} (hn : M 7 4 = (n : Int)) (h60 : (visL M n).length ≤ 60) : ∃ M', run prog (d + 7) 178 [vr 5] (shp, M) = some (match farL M (visL M n) with
    | some x => .inl (some (vi x))
    | none => .inr 2, (shp, M')) ∧ same [73, 74, 75] M M' := by
  show ∃ M', ev prog (d + 7) 178 0 0 [vr 5, vj] [] (shp, M) = _ ∧ _
  obtain ⟨M1, a1, a2⟩ := sp177 h d hn h60
  refine ⟨M1, ?_, a2⟩
  rw [g178_0, a1, callK_r, psh_s, g178_1]
  cases hx : farL M (visL M n) with
  | none => rfl
  | some x =>
    obtain ⟨p, h1, h2⟩ := farL_pos hx
    show (if x = -1 then _ else _) = _
    rw [if_neg (by omega)]
    rfl
theorem sp180 {M : mM} (h : Iv M) (d : Nat) {n : Nat} (hn : M 7 4 = (n : Int)) : run prog (d + 5) 180 [vr 87] (shp, M) = match farL M (visL M n) with
    | some x => some (.inl (some (vi x)), (shp, mset M 87 3 0))
    | none => some (.inl (some (vi 0)), (shp, mset (mset M 87 3 0) 87 3 1)) := by
  show ev prog (d + 5) 180 0 0 [vr 87, vj, vj] [] (shp, M) = _
  obtain ⟨n', h1, h2, h3⟩ := h.cr
  have e : n' = n := by omega
  subst e
  have hs : same [87] M (mset M 87 3 0) := same_mset
  have hI : Iv (mset M 87 3 0) := h.same hs (by decide)
  have h3' : (mset M 87 3 0) 88 2001 = (n' : Int) := by rw [mset_k (by decide)]; exact h3
  have hp : ∀ x, p125 x (mset M 87 3 0) = p125 x M := fun x => cp125 (hs 7 (by decide)) (hs 10 (by decide)) (hs 11 (by decide)) (hs 38 (by decide)) x
  have hd : ∀ p, dq (mset M 87 3 0) p = dq M p := fun p => dq_c (hs 8 (by decide)) (hs 34 (by decide)) (hs 35 (by decide)) p
  have loop : ∀ (q i : Nat), i + q = n' → ev prog (d + 5) 180 0 1 [vr 87, vi ((farL M (visL M i)).getD (-1)), vi (i : Int)] [] (shp, mset M 87 3 0) = match farL M (visL M n') with
    | some x => some (.inl (some (vi x)), (shp, mset M 87 3 0))
    | none => some (.inl (some (vi 0)), (shp, mset (mset M 87 3 0) 87 3 1)) := by
    intro q
    induction q with
    | zero =>
      intro i hi
      have e : i = n' := by omega
      subst e
      rw [g180_1, h3', if_neg (by omega)]
      cases hx : farL M (visL M i) with
      | none => rfl
      | some x =>
        obtain ⟨p, p1, p2⟩ := farL_pos hx
        show (if x < 0 then _ else _) = _
        rw [if_neg (by omega)]
        rfl
    | succ q ih =>
      intro i hi
      have hw : wr ((i : Int) + 1) = ((i + 1 : Nat) : Int) := wr_id (by unfold inR; omega)
      have hs1 := visL_s M i
      have := ih (i + 1) (by omega)
      rw [g180_1, h3', if_pos (by omega), sp129 hI d, hp, callK_r, psh_s, g180_4, hw]
      cases hv : p125 (i : Int) M with
      | false =>
        rw [hv] at hs1
        rw [show visL M (i + 1) = visL M i from hs1] at this
        rw [if_pos (show bi false = 0 from rfl)]
        exact this
      | true =>
        rw [hv] at hs1
        rw [show visL M (i + 1) = visL M i ++ [(i : Int)] from hs1, farL_snoc] at this
        rw [if_neg (show ¬ bi true = 0 by decide)]
        cases hx : farL M (visL M i) with
        | none =>
          rw [hx] at this
          rw [if_pos (show (none : Option Int).getD (-1) < 0 by decide)]
          exact this
        | some x =>
          rw [hx] at this
          obtain ⟨p, p1, p2⟩ := farL_pos hx
          subst p1
          rw [if_neg (show ¬ (some (p : Int)).getD (-1) < 0 by show ¬ (p : Int) < 0; omega), sp162 hI (d + 1) (by omega), hd, callK_r, psh_s, g180_7]
          have e9 : (some (p : Int)).getD (-1) = (p : Int) := rfl
          rw [e9, sp162 hI (d + 1) (by omega), hd, callK_r, psh_s, g180_8, hw]
          have this : ev prog (d + 5) 180 0 1 [vr 87, vi ((if dq M (p : Int).toNat < dq M (i : Int).toNat then some (i : Int) else some (p : Int)).getD (-1)), vi ((i + 1 : Nat) : Int)] [] (shp, mset M 87 3 0) = _ := this
          rw [Int.toNat_natCast, Int.toNat_natCast] at this
          by_cases c : dq M p < dq M i
          · rw [if_pos c] at this ⊢
            exact this
          · rw [if_neg c] at this ⊢
            exact this
  rw [g180_0]
  exact loop n' 0 (by omega)
theorem sp158 {M : mM} (h : Iv M) (d : Nat) (x : Int) : run prog (d + 5) 158 [vr 5, vi x] (shp, M) = some (match p31 x M with
    | true => .inl (some (vi (dq M x.toNat)))
    | false => .inr 2, (shp, M)) := by
  show ev prog (d + 5) 158 0 0 [vr 5, vi x] [] (shp, M) = _
  rw [g158_0]
  cases hp : p31 x M with
  | false => rfl
  | true =>
    obtain ⟨p, rfl, h2, -⟩ := p31_range h hp
    rw [if_neg (show ¬ bi true = 0 by decide), sp157 h d h2, callK_r, psh_s, g158_2, Int.toNat_natCast]
theorem sp163 {M : mM} (h : Iv M) (d : Nat) (x : Int) : run prog (d + 4) 163 [vr 87, vi x] (shp, M) = match p31 x M with
    | true => some (.inl (some (vi (dq M x.toNat))), (shp, mset M 87 3 0))
    | false => some (.inl (some (vi 0)), (shp, mset (mset M 87 3 0) 87 3 1)) := by
  show ev prog (d + 4) 163 0 0 [vr 87, vi x] [] (shp, M) = _
  have hs : same [87] M (mset M 87 3 0) := same_mset
  have hI : Iv (mset M 87 3 0) := h.same hs (by decide)
  have hp1 : p31 x (mset M 87 3 0) = p31 x M := cp31 (hs 7 (by decide)) x
  have hd : ∀ p, dq (mset M 87 3 0) p = dq M p := fun p => dq_c (hs 8 (by decide)) (hs 34 (by decide)) (hs 35 (by decide)) p
  rw [g163_0, sp72 hI (d + 1), hp1, callK_r, psh_s, g163_1]
  cases hp : p31 x M with
  | false => rfl
  | true =>
    obtain ⟨p, rfl, h2, -⟩ := p31_range h hp
    rw [if_neg (show ¬ bi true = 0 by decide), sp162 hI d h2, callK_r, psh_s, g163_3, hd, Int.toNat_natCast]
