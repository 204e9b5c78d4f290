theorem mws_of {aC : FieldType → ClassId} {ad : Nat → Nat} {σ : mS} {i : Nat} {q : Nat × va_E} (h : (mws aC ad σ)[i]? = some q) : ∃ sh, σ.1[i + 5]? = some sh ∧ q = (ad (i + 5), mE aC ad sh (σ.2 (i + 5))) := by
  unfold mws at h
  rw [List.getElem?_map] at h
  cases hr : (List.range (σ.1.length - 5))[i]? with
  | none => rw [hr] at h; cases h
  | some j =>
    rw [hr] at h
    have hi : i < σ.1.length - 5 := by
      have h1 := (List.getElem?_eq_some_iff.mp hr).1
      rwa [List.length_range] at h1
    rw [List.getElem?_range hi] at hr
    cases hr
    have h2 : i + 5 < σ.1.length := by omega
    refine ⟨σ.1[i + 5], List.getElem?_eq_getElem h2, ?_⟩
    have h3 : σ.1.getD (i + 5) (9, 0, []) = σ.1[i + 5] := by rw [List.getD_eq_getElem?_getD, List.getElem?_eq_getElem h2]; rfl
    have h : some (ad (i + 5), mE aC ad (σ.1.getD (i + 5) (9, 0, [])) (σ.2 (i + 5))) = some q := h
    rw [h3] at h
    exact (Option.some.inj h).symm
theorem mws_get {aC : FieldType → ClassId} {ad : Nat → Nat} {σ : mS} {k : Nat} {sh : mSh} (h : σ.1[k]? = some sh) (hk : 5 ≤ k) : (mws aC ad σ)[k - 5]? = some (ad k, mE aC ad sh (σ.2 k)) := by
  have hl := (List.getElem?_eq_some_iff.mp h).1
  unfold mws
  rw [List.getElem?_map, List.getElem?_range (by omega)]
  have h3 : σ.1.getD k (9, 0, []) = sh := by rw [List.getD_eq_getElem?_getD, h]; rfl
  show some (ad (k - 5 + 5), mE aC ad (σ.1.getD (k - 5 + 5) (9, 0, [])) (σ.2 (k - 5 + 5))) = _
  rw [show k - 5 + 5 = k by omega, h3]
theorem mws_len {aC : FieldType → ClassId} {ad : Nat → Nat} {σ : mS} : (mws aC ad σ).length = σ.1.length - 5 := by simp [mws]
theorem mws_none {aC : FieldType → ClassId} {ad : Nat → Nat} {σ : mS} {i : Nat} (h : σ.1[i + 5]? = none) : (mws aC ad σ)[i]? = none := by
  cases hx : (mws aC ad σ)[i]? with
  | none => rfl
  | some q =>
    obtain ⟨sh, h1, -⟩ := mws_of hx
    rw [h] at h1; cases h1
theorem mws_set {aC : FieldType → ClassId} {ad : Nat → Nat} {σ σ' : mS} {k : Nat} {sh : mSh} {E : va_E} (hk : 5 ≤ k) (hl : k < σ.1.length) (h : σ'.1[k]? = some sh) (hE : E = mE aC ad sh (σ'.2 k)) (hn : σ'.1.length = σ.1.length) (ho : ∀ j, j ≠ k → σ'.1[j]? = σ.1[j]?) (hM : ∀ j, j ≠ k → σ'.2 j = σ.2 j) :
    (mws aC ad σ).set (k - 5) (ad k, E) = mws aC ad σ' := by
  subst hE
  apply List.ext_getElem?
  intro i
  by_cases hi : i = k - 5
  · subst hi
    rw [List.getElem?_set_self (by rw [mws_len]; omega), mws_get h hk]
  · rw [List.getElem?_set_ne (Ne.symm hi)]
    have hne : i + 5 ≠ k := by omega
    cases hx : σ'.1[i + 5]? with
    | none => rw [mws_none hx, mws_none ((ho _ hne) ▸ hx)]
    | some sh2 =>
      have h1 := mws_get (aC := aC) (ad := ad) hx (by omega)
      have h2 := mws_get (aC := aC) (ad := ad) (σ := σ) ((ho _ hne) ▸ hx) (by omega)
      rw [show i + 5 - 5 = i by omega] at h1 h2
      rw [h1, h2, hM _ hne]
theorem mE_ad {aC : FieldType → ClassId} {ad ad' : Nat → Nat} {n : Nat} {sh : mSh} {f : Nat → Int} (h : mShOk n sh) (ha : ∀ k, k < n → ad' k = ad k) : mE aC ad' sh f = mE aC ad sh f := by
  obtain ⟨k, q, fs⟩ := sh
  cases k with
  | zero =>
    show (Sum.inr _ : va_E) = Sum.inr _
    congr 2
    apply List.map_congr_left
    intro j hj
    cases hx : fs[j]? with
    | none => rfl
    | some x =>
      cases x with
      | none => rfl
      | some t =>
        cases t with
        | none => rfl
        | some t =>
          show Value.ref (ad' t) = Value.ref (ad t)
          rw [ha t (h.2 t (List.mem_of_getElem? hx))]
  | succ k => rcases k with _ | _ | _ | k <;> rfl
theorem mws_ad {aC : FieldType → ClassId} {ad ad' : Nat → Nat} {σ : mS} (hw : mWf σ) (ha : ∀ k, k < σ.1.length → ad' k = ad k) : mws aC ad' σ = mws aC ad σ := by
  apply List.ext_getElem?
  intro i
  cases hx : σ.1[i + 5]? with
  | none => rw [mws_none hx, mws_none hx]
  | some sh =>
    have h1 := mws_get (aC := aC) (ad := ad) hx (by omega)
    have h2 := mws_get (aC := aC) (ad := ad') hx (by omega)
    rw [show i + 5 - 5 = i by omega] at h1 h2
    rw [h1, h2, mE_ad (hw.2.2 _ _ (by omega) hx) ha, ha _ (List.getElem?_eq_some_iff.mp hx).1]
/-- a new cell -/
theorem mws_push {aC : FieldType → ClassId} {ad : Nat → Nat} {σ : mS} {sh : mSh} {M' : mM} {q : Nat} (hw : mWf σ) (hM : ∀ j, j ≠ σ.1.length → M' j = σ.2 j) :
    mws aC ad σ ++ [(q, mE aC (fun j => if j = σ.1.length then q else ad j) sh (M' σ.1.length))] = mws aC (fun j => if j = σ.1.length then q else ad j) (σ.1 ++ [sh], M') := by
  have ha : ∀ k, k < σ.1.length → (fun j => if j = σ.1.length then q else ad j) k = ad k := fun k hk => if_neg (Nat.ne_of_lt hk)
  have h5 := hw.1
  rw [← mws_ad hw ha]
  apply List.ext_getElem?
  intro i
  by_cases hi : i < σ.1.length - 5
  · have hi5 : i + 5 < σ.1.length := by omega
    rw [List.getElem?_append_left (by rw [mws_len]; omega)]
    have e1 : (σ.1 ++ [sh])[i + 5]? = some σ.1[i + 5] := by rw [List.getElem?_append_left hi5, List.getElem?_eq_getElem hi5]
    have h1 := mws_get (aC := aC) (ad := fun j => if j = σ.1.length then q else ad j) (σ := (σ.1 ++ [sh], M')) e1 (by omega)
    have h2 := mws_get (aC := aC) (ad := fun j => if j = σ.1.length then q else ad j) (σ := σ) (List.getElem?_eq_getElem hi5) (by omega)
    rw [show i + 5 - 5 = i by omega] at h1 h2
    rw [h1, h2]
    show some (_, mE _ _ _ (σ.2 (i + 5))) = some (_, mE _ _ _ (M' (i + 5)))
    rw [hM _ (Nat.ne_of_lt hi5)]
  · rw [List.getElem?_append_right (by rw [mws_len]; omega), mws_len]
    by_cases he : i = σ.1.length - 5
    · have e1 : (σ.1 ++ [sh])[i + 5]? = some sh := by rw [he, show σ.1.length - 5 + 5 = σ.1.length by omega]; simp
      have h1 := mws_get (aC := aC) (ad := fun j => if j = σ.1.length then q else ad j) (σ := (σ.1 ++ [sh], M')) e1 (by omega)
      rw [show i + 5 - 5 = i by omega] at h1
      rw [h1, he, Nat.sub_self, show σ.1.length - 5 + 5 = σ.1.length by omega]
      simp
    · rw [mws_none (i := i) (by simp; omega)]
      rw [List.getElem?_eq_none (by simp; omega)]
theorem sR_ad {ad ad' : Nat → Nat} {n n' : Nat} (ha : ∀ k, k < n → ad' k = ad k) (hn : n ≤ n') : ∀ {S : List mV} {st : List Value}, sR ad n S st → sR ad' n' S st
  | [], [], _ => trivial
  | [], _ :: _, h => h.elim
  | _ :: _, [], h => h.elim
  | v :: S, x :: st, h => by
    refine ⟨?_, sR_ad ha hn h.2⟩
    obtain ⟨h1, h2⟩ := h.1
    rcases v with y | (_ | k) | y | y | u
    · exact ⟨h1, h2⟩
    · exact ⟨h1, h2⟩
    · have h2 : k < n := h2
      refine ⟨?_, (Nat.lt_of_lt_of_le h2 hn : k < n')⟩
      rcases h1 with h1 | h1
      · left
        rw [h1]
        show Value.ref (ad k) = Value.ref (ad' k)
        rw [ha k h2]
      · cases h1.1
    · exact ⟨h1, h2⟩
    · exact ⟨h1, h2⟩
    · exact ⟨h1, h2⟩
theorem okV_le {n n' : Nat} (hn : n ≤ n') {v : mV} (h : okV n v) : okV n' v := by
  rcases v with y | (_ | k) | y | y | u
  · exact h
  · exact h
  · exact Nat.lt_of_lt_of_le (h : k < n) hn
  · exact h
  · exact h
  · exact h
theorem vv_ad {ad ad' : Nat → Nat} {n : Nat} (ha : ∀ k, k < n → ad' k = ad k) {v : mV} (h : okV n v) : vv ad' v = vv ad v := by
  rcases v with y | (_ | k) | y | y | u
  · rfl
  · rfl
  · show Value.ref (ad' k) = Value.ref (ad k)
    rw [ha k h]
  · rfl
  · rfl
  · rfl
theorem lR_ad {ad ad' : Nat → Nat} {n n' nL : Nat} {L : List mV} {ls : Array Slot} (ha : ∀ k, k < n → ad' k = ad k) (hn : n ≤ n') (h : lR ad n L ls nL) : lR ad' n' L ls nL := by
  obtain ⟨h1, lv, h2, h3⟩ := h
  refine ⟨h1, lv, h2, fun i v hi hv => ?_⟩
  obtain ⟨g1, g2⟩ := h3 i v hi hv
  exact ⟨okV_le hn g1, by rw [vv_ad ha g1]; exact g2⟩
theorem msk_cons (b : Bool) (bs : List Bool) (v : mV) (vs : List mV) : msk (b :: bs) (v :: vs) = (match b with
  | true => v
  | false => vj) :: msk bs vs := rfl
theorem lR_msk {ad : Nat → Nat} {n nL : Nat} {ls : Array Slot} (bs : List Bool) {L : List mV} (h : lR ad n L ls nL) : lR ad n (msk bs L) ls nL := by
  obtain ⟨h1, lv, h2, h3⟩ := h
  have key : ∀ (bs : List Bool) (L : List mV), (msk bs L).length ≤ L.length ∧ ∀ (i : Nat) (v : mV), (msk bs L)[i]? = some v → v ≠ vj → L[i]? = some v := by
    intro bs
    induction bs with
    | nil => intro L; exact ⟨by cases L <;> simp [msk], fun i v h => by cases L <;> simp [msk] at h⟩
    | cons b bs ih =>
      intro L
      cases L with
      | nil => exact ⟨by simp [msk], fun i v h => by simp [msk] at h⟩
      | cons x L =>
        obtain ⟨g1, g2⟩ := ih L
        refine ⟨by simp only [msk, List.length_cons]; omega, fun i v h hv => ?_⟩
        cases i with
        | zero =>
          rw [msk_cons, List.getElem?_cons_zero] at h
          cases b with
          | true => rw [List.getElem?_cons_zero]; exact h
          | false => exact absurd (Option.some.inj h).symm hv
        | succ i =>
          rw [msk_cons, List.getElem?_cons_succ] at h
          rw [List.getElem?_cons_succ]
          exact g2 i v h hv
  exact ⟨Nat.le_trans (key bs L).1 h1, lv, h2, fun i v hi hv => h3 i v ((key bs L).2 i v hi hv) hv⟩
theorem sR_len {ad : Nat → Nat} {n : Nat} : ∀ {S : List mV} {st : List Value}, sR ad n S st → st.length = S.length
  | [], [], _ => rfl
  | [], _ :: _, h => h.elim
  | _ :: _, [], h => h.elim
  | _ :: _, _ :: _, h => by rw [List.length_cons, List.length_cons, sR_len h.2]
theorem sR_sum {ad : Nat → Nat} {n : Nat} : ∀ {S : List mV} {st : List Value}, sR ad n S st → (st.map fun v => v.category).sum = c2sum S
  | [], [], _ => rfl
  | [], _ :: _, h => h.elim
  | _ :: _, [], h => h.elim
  | v :: S, x :: st, h => by
    show x.category + (st.map fun v => v.category).sum = _ + c2sum S
    rw [sR_sum h.2, sv_cat h.1.1]
    rfl
theorem c2sum_le : ∀ (S : List mV), c2sum S ≤ 2 * S.length
  | [] => Nat.le_refl _
  | v :: S => by
    have h1 := c2sum_le S
    have h2 : (match c2 v with
      | true => 2
      | false => 1) ≤ 2 := by cases c2 v <;> decide
    show (match c2 v with
      | true => 2
      | false => 1) + c2sum S ≤ 2 * (S.length + 1)
    omega
theorem mNg_warm {w : Cond} (h : mNg w = true) {s U : State} (hW : s.WarmedH U.vm) (hZ : va_Nw w s) : va_Nw w U := by
  unfold mNg at h
  split at h
  · exact va_Nw.warmM hW hZ
  · exact va_Nw.warmF hW hZ
  · exact va_Nw.warmD hW hZ
  · exact va_Nw.warmC hW hZ
  · cases h
theorem mKn.warm {D : va_G} {aC : FieldType → ClassId} {s U : State} (hW : s.WarmedH U.vm) (h : mKn D aC s) : mKn D aC U :=
  ⟨va_K.moved hW.alike h.1, fun w hw => mNg_warm (List.mem_filter.mp hw).2 hW (h.2.1 w hw), fun own k tx hm => by
    obtain ⟨a, ha⟩ := h.2.2.1 own k tx hm
    exact ⟨a, vk_R.warm hW ha⟩, fun i j hi hj hij => va_Nc.moved hW.alike (h.2.2.2 i j hi hj hij)⟩
theorem mKn.same {D : va_G} {aC : FieldType → ClassId} {s U : State} (hv : U.vm = s.vm) (h : mKn D aC s) : mKn D aC U := mKn.warm (by rw [hv]; exact State.WarmedH.refl s) h
theorem mT.moved {t : Nat} {f : Nat → Int} {A : Nat → Prop} {u U : State} {H : Heap} (hvm : u.vm.Alike U.vm) (h : mT t f A u H) : mT t f A U H := by
  obtain ⟨h1, cell, h2, h3, h4⟩ := h
  exact ⟨va_T.moved hvm h1, cell, h2, h3, by rw [hvm.findClass]; exact h4⟩
theorem mT.kept {t : Nat} {f : Nat → Int} {A : Nat → Prop} {U : State} {H H1 : Heap} (h : mT t f A U H) (hq : ∀ a : Nat, a < H.size → ¬ A a → H1[a]? = H[a]?) : mT t f A U H1 := by
  obtain ⟨h1, cell, h2, h3, h4⟩ := h
  have hn : ¬ A t := by
    obtain ⟨_, _, _, _, _, _, _, h⟩ := h1
    exact h
  exact ⟨h1.kept hq, cell, by rw [hq t (Array.getElem?_eq_some_iff.mp h2).1 hn]; exact h2, h3, h4⟩
theorem mT.narrow {t : Nat} {f : Nat → Int} {A B : Nat → Prop} {U : State} {H : Heap} (h : mT t f A U H) (hAB : ∀ q, B q → A q) : mT t f B U H := ⟨h.1.narrow hAB, h.2⟩
theorem mSt0.moved {A : Nat → Prop} {ad : Nat → Nat} {M : mM} {u U : State} {H : Heap} (hvm : u.vm.Alike U.vm) (h : mSt0 A ad M u H) : mSt0 A ad M U H :=
  ⟨va_Z.moved hvm h.1, va_Z.moved hvm h.2.1, va_Z.moved hvm h.2.2.1, fun k hk => mT.moved hvm (h.2.2.2.1 k hk), vx_Zq.moved hvm h.2.2.2.2.1, vx_Zq.moved hvm h.2.2.2.2.2⟩
theorem mSt0.kept {A : Nat → Prop} {ad : Nat → Nat} {M : mM} {U : State} {H H1 : Heap} (h : mSt0 A ad M U H) (hq : ∀ a : Nat, a < H.size → ¬ A a → H1[a]? = H[a]?) : mSt0 A ad M U H1 :=
  ⟨h.1.kept hq, h.2.1.kept hq, h.2.2.1.kept hq, fun k hk => (h.2.2.2.1 k hk).kept hq, h.2.2.2.2.1.kept hq, h.2.2.2.2.2.kept hq⟩
theorem mSt0.narrow {A B : Nat → Prop} {ad : Nat → Nat} {M : mM} {U : State} {H : Heap} (h : mSt0 A ad M U H) (hAB : ∀ q, B q → A q) : mSt0 B ad M U H :=
  ⟨h.1.narrow hAB, h.2.1.narrow hAB, h.2.2.1.narrow hAB, fun k hk => (h.2.2.2.1 k hk).narrow hAB, h.2.2.2.2.1.narrow hAB, h.2.2.2.2.2.narrow hAB⟩
theorem mSt0.to {A : Nat → Prop} {ad ad' : Nat → Nat} {M M' : mM} {U : State} {H : Heap} (h : mSt0 A ad M U H) (ha : ∀ k, k < 5 → ad' k = ad k) (hM : ∀ k, k < 5 → M' k = M k) : mSt0 A ad' M' U H :=
  ⟨by rw [ha 0 (by decide)]; exact h.1, by rw [ha 1 (by decide)]; exact h.2.1, by rw [ha 2 (by decide)]; exact h.2.2.1, fun k hk => by rw [ha k (by omega), hM k (by omega)]; exact h.2.2.2.1 k hk, h.2.2.2.2.1, h.2.2.2.2.2⟩
