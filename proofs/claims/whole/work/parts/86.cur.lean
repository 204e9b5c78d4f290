/-! THE CURSOR: THE CLASS -/
def io : Tr → List Nat
  | .leaf => []
  | .inner _ k _ l r => io l ++ (k :: io r)
theorem io_i (s k : Nat) (v : Unit) (l r : Tr) : io (.inner s k v l r) = io l ++ (k :: io r) := rfl
theorem io_perm : ∀ t : Tr, (io t).Perm (ks t) := by
  intro t
  induction t with
  | leaf => exact List.Perm.refl _
  | inner s k v l r ihl ihr =>
    rw [io_i]
    refine List.Perm.trans List.perm_middle ?_
    exact List.Perm.cons k (List.Perm.append ihl ihr)
/-- one point comes into the cursor's row if it is alive -/
theorem sp238 {M : mM} (d : Nat) {n : Nat} (hn : M 7 4 = (n : Int)) (h200 : n ≤ 200) {Z : List Nat} (hZ : nums M 80 (natI Z)) (hl : Z.length < 200) {k : Nat} (hk : k < n) :
    ∃ M', run prog (d + 3) 238 [vr 79, vi (k : Int)] (shp, M) = some (.inl none, (shp, M')) ∧ nums M' 80 (natI (Z ++ [k].filter (alv M))) ∧ same [80, 81] M M' := by
  rw [s238 d]
  unfold o238
  rw [p32_alv hn h200 hk]
  cases ha : alv M k with
  | false =>
    refine ⟨M, by rw [if_pos (show bi false = 0 from rfl)], ?_, same.rf⟩
    rw [List.filter_cons_of_neg (by rw [ha]; decide)]
    show nums M 80 (natI (Z ++ []))
    rw [List.append_nil]
    exact hZ
  | true =>
    obtain ⟨z1, z2⟩ := nums_add (x := (k : Int)) hZ (by rw [natI_len]; exact hl)
    refine ⟨_, ?_, ?_, z2⟩
    · rw [if_neg (show ¬ bi true = 0 by decide), if_pos (by rw [hZ.1, natI_len]; omega)]
    · rw [List.filter_cons_of_pos ha, natI_app]
      exact z1
theorem sp239 {M : mM} (d : Nat) {n : Nat} {t : Tr} (h : CT M n t) (h0 : nums M 80 []) : ∃ M', run prog (d + 4) 239 [vr 79] (shp, M) = some (.inl none, (shp, M')) ∧ nums M' 80 (natI (lk M t)) ∧ same [80, 81] M M' := by
  show ∃ M', ev prog (d + 4) 239 0 0 [vr 79, vj] [] (shp, M) = _ ∧ _
  obtain ⟨h1, h2, h3, h4, h5, h6⟩ := h
  have hsz := sz_le h3 h4
  have hl : (ks t).length ≤ 200 := hsz
  obtain ⟨M', a1, a2, a3⟩ := up_inv (fun M1 i => ev prog (d + 4) 239 0 1 [vr 79, vi (i : Int)] [] (shp, M1)) (fun i M1 => nums M1 80 (natI (((ks t).take i).filter (alv M))) ∧ same [80, 81] M M1) (ks t).length (fun i M1 hi hI => by
    obtain ⟨k1, k2⟩ := hI
    have hN : nums M1 21 (natI (ks t)) := nums_same h6.1 (k2 21 (by decide)) (k2 22 (by decide))
    have hc : M1 21 1 = ((ks t).length : Int) := by rw [hN.1, natI_len]
    have hfl := List.length_filter_le (alv M) ((ks t).take i)
    rw [List.length_take] at hfl
    obtain ⟨M2, b1, b2, b3⟩ := sp238 (M := M1) d (by rw [k2 7 (by decide)]; exact h1) h2 k1 (by omega) (h5 _ (List.getElem_mem hi))
    refine ⟨M2, ?_, ?_, k2.tr b3⟩
    · show ev prog (d + 4) 239 0 1 [vr 79, vi (i : Int)] [] (shp, M1) = ev prog (d + 4) 239 0 1 [vr 79, vi ((i + 1 : Nat) : Int)] [] (shp, M2)
      rw [g239_1, hc, if_pos (by omega), pre_r30 hN hsz hi, b1, callK_r, psh_n, g239_4, wI (by omega)]
    · rw [alv_c (k2 11 (by decide))] at b2
      rw [show (ks t).take (i + 1) = (ks t).take i ++ [(ks t)[i]] by rw [List.take_succ, List.getElem?_eq_getElem hi]; rfl, List.filter_append]
      exact b2) (M := M) ⟨h0, same.rf⟩
  rw [List.take_length] at a2
  have hN : nums M' 21 (natI (ks t)) := nums_same h6.1 (a3 21 (by decide)) (a3 22 (by decide))
  refine ⟨M', ?_, a2, a3⟩
  rw [g239_0]
  refine Eq.trans a1 ?_
  show ev prog (d + 4) 239 0 1 [vr 79, vi ((ks t).length : Int)] [] (shp, M') = _
  rw [g239_1, hN.1, natI_len, if_neg (by omega)]
/-! inorder -/
def spn : Tr → List Tr
  | .leaf => []
  | .inner s k v l r => spn l ++ [.inner s k v l r]
/-- what a stack still gives -/
def em : List Tr → List Nat
  | [] => []
  | .leaf :: S => em S
  | .inner _ k _ _ r :: S => k :: (io r ++ em S)
theorem em_app : ∀ A B : List Tr, em (A ++ B) = em A ++ em B := by
  intro A B
  induction A with
  | nil => rfl
  | cons t A ih =>
    cases t with
    | leaf => exact ih
    | inner s k v l r =>
      show k :: (io r ++ em (A ++ B)) = (k :: (io r ++ em A)) ++ em B
      rw [ih, List.cons_append, List.append_assoc]
theorem em_spn : ∀ t : Tr, em (spn t) = io t := by
  intro t
  induction t with
  | leaf => rfl
  | inner s k v l r ihl ihr =>
    show em (spn l ++ [.inner s k v l r]) = io l ++ (k :: io r)
    rw [em_app, ihl]
    show io l ++ (k :: (io r ++ [])) = _
    rw [List.append_nil]
theorem spn_mem : ∀ {t x : Tr}, x ∈ spn t → x ≠ .leaf ∧ ∀ k ∈ ks x, k ∈ ks t := by
  intro t
  induction t with
  | leaf => intro x h; exact absurd h List.not_mem_nil
  | inner s k v l r ihl ihr =>
    intro x h
    rcases List.mem_append.mp h with h | h
    · obtain ⟨a, b⟩ := ihl h
      exact ⟨a, fun y hy => mem_l (b y hy)⟩
    · rw [List.mem_singleton.mp h]
      exact ⟨(fun q => by cases q), fun y hy => hy⟩
theorem spn_T {f g : Nat → Int} : ∀ {t x : Tr}, isT f g t (rt t) → x ∈ spn t → isT f g x (rt x) := by
  intro t
  induction t with
  | leaf => intro x _ h; exact absurd h List.not_mem_nil
  | inner s k v l r ihl ihr =>
    intro x hT h
    rcases List.mem_append.mp h with h | h
    · obtain ⟨-, -, h3, -⟩ := hT
      rw [isT_rt h3] at h3
      exact ihl h3 h
    · rw [List.mem_singleton.mp h]
      exact hT
theorem em_len : ∀ S : List Tr, (∀ t ∈ S, t ≠ .leaf) → S.length ≤ (em S).length := by
  intro S
  induction S with
  | nil => intro _; exact Nat.le_refl _
  | cons t S ih =>
    intro h
    have h1 := ih (fun x hx => h x (List.mem_cons_of_mem _ hx))
    cases t with
    | leaf => exact absurd rfl (h .leaf List.mem_cons_self)
    | inner s k v l r =>
      show S.length + 1 ≤ (io r ++ em S).length + 1
      rw [List.length_append]
      omega
def stk (S : List Tr) : List Int := (rtsL S).reverse
theorem stk_app (A B : List Tr) : stk (A ++ B) = stk B ++ stk A := by
  unfold stk rtsL
  rw [List.map_append, List.reverse_append]
theorem stk_len (S : List Tr) : (stk S).length = S.length := by
  unfold stk rtsL
  rw [List.length_reverse, List.length_map]
theorem sp240l (d : Nat) : ∀ (t : Tr) (S : List Tr) (c : Nat) (M : mM), isT (clf M) (crf M) t (rt t) → nums M 82 (stk S) → S.length + (spn t).length ≤ 200 → c + (spn t).length ≤ 200 →
    ∃ M', ev prog (d + 3) 240 0 1 [vr 79, vj, vi (rt t), vi (c : Int)] [] (shp, M) = some (.inl none, (shp, M')) ∧ nums M' 82 (stk (spn t ++ S)) ∧ same [82, 83] M M' := by
  intro t
  induction t with
  | leaf =>
    intro S c M _ hN _ _
    refine ⟨M, ?_, hN, same.rf⟩
    rw [g240_1, show rt (.leaf : Tr) = -1 from rfl, if_pos rfl]
    split <;> rfl
  | inner s k v l r ihl ihr =>
    intro S c M hT hN h1 h2
    have hT' : isT (clf M) (crf M) (.inner s k v l r) (k : Int) := hT
    obtain ⟨c0, -⟩ := r28_T hT'
    have hsp : (spn (.inner s k v l r)).length = (spn l).length + 1 := by
      show (spn l ++ [_]).length = _
      rw [List.length_append]
      rfl
    rw [hsp] at h1 h2
    obtain ⟨z1, z2⟩ := nums_add (x := (k : Int)) hN (by rw [stk_len]; omega)
    obtain ⟨M1, hM1⟩ : ∃ M1, M1 = mset (pu M 83 200 (M 82 1) (k : Int)) 82 1 (wr (M 82 1 + 1)) := ⟨_, rfl⟩
    have z1 : nums M1 82 (stk S ++ [(k : Int)]) := by rw [hM1]; exact z1
    have z2 : same [82, 83] M M1 := by rw [hM1]; exact z2
    have e25 : run prog (d + 2) 25 [vr 82, vi (k : Int)] (shp, M) = some (.inl none, (shp, M1)) := by
      rw [s25f d]
      unfold o25f
      rw [if_pos (by rw [hN.1, stk_len]; omega), hM1]
    have es : stk S ++ [(k : Int)] = stk (.inner s k v l r :: S) := by
      unfold stk rtsL
      rw [List.map_cons, List.reverse_cons]
      rfl
    rw [es] at z1
    obtain ⟨-, hk, h3, -⟩ := hT
    rw [isT_rt h3] at h3
    have c0' : r28 (k : Int) 0 M1 = rt l := by rw [cr28 (z2 13 (by decide))]; exact c0
    obtain ⟨M', a1, a2, a3⟩ := ihl (.inner s k v l r :: S) (c + 1) M1 (by rw [clf_c (z2 13 (by decide)), crf_c (z2 13 (by decide))]; exact h3) z1 (by rw [List.length_cons]; omega) (by omega)
    refine ⟨M', ?_, ?_, z2.tr a3⟩
    · rw [rt_i, g240_1, if_pos (by omega), if_neg (by omega), e25, callK_r, psh_n, g240_4, c0', wI (by omega)]
      exact a1
    · show nums M' 82 (stk ((spn l ++ [_]) ++ S))
      rw [List.append_assoc]
      exact a2
theorem sp241l (d : Nat) {M : mM} {n : Nat} (hn : M 7 4 = (n : Int)) (h200 : n ≤ 200) : ∀ (q i : Nat) (S : List Tr) (Z : List Nat) (M1 : mM), (em S).length = q → i + q ≤ 200 → Z.length + q ≤ 200 → same [80, 81, 82, 83] M M1 → nums M1 82 (stk S) → nums M1 80 (natI Z) → (∀ t ∈ S, t ≠ .leaf ∧ isT (clf M) (crf M) t (rt t) ∧ ∀ k ∈ ks t, k < n) →
    ∃ M', ev prog (d + 4) 241 0 2 [vr 79, vi (i : Int), vj] [] (shp, M1) = some (.inl none, (shp, M')) ∧ nums M' 80 (natI (Z ++ (em S).filter (alv M))) ∧ same [80, 81, 82, 83] M M' := by
  intro q
  induction q with
  | zero =>
    intro i S Z M1 hq hi hz hs h82 h80 h3
    have hl := em_len S (fun t ht => (h3 t ht).1)
    have e : S = [] := List.length_eq_zero_iff.mp (by omega)
    subst e
    refine ⟨M1, ?_, by rw [show (em []).filter (alv M) = [] from rfl, List.append_nil]; exact h80, hs⟩
    have hc : M1 82 1 = 0 := h82.1
    rw [g241_2, hc, if_neg (show ¬ (0 : Int) < 0 by decide)]
    split <;> rfl
  | succ q ih =>
    intro i S Z M1 hq hi hz hs h82 h80 h3
    have hl := em_len S (fun t ht => (h3 t ht).1)
    cases S with
    | nil => exact absurd hq (by show ¬ (0 = q + 1); omega)
    | cons t S =>
      obtain ⟨t1, t2, t3⟩ := h3 t List.mem_cons_self
      cases t with
      | leaf => exact absurd rfl t1
      | inner s k v l r =>
        have eem : em (.inner s k v l r :: S) = k :: (em (spn r ++ S)) := by
          show k :: (io r ++ em S) = k :: em (spn r ++ S)
          rw [em_app, em_spn]
        rw [eem, List.length_cons] at hq
        rw [eem, List.length_cons, List.length_cons] at hl
        have hk := t3 k List.mem_cons_self
        have es : stk (.inner s k v l r :: S) = stk S ++ [(k : Int)] := by
          unfold stk rtsL
          rw [List.map_cons, List.reverse_cons]
          rfl
        rw [es] at h82
        obtain ⟨u1, u2⟩ := nums_top h82
        rw [stk_len] at u1 u2
        have eo : run prog (d + 3) 27 [vr 82] (shp, M1) = some (.inl (some (vi (k : Int))), (shp, mset M1 82 1 ((stk S).length : Int))) := by
          rw [s27a (d + 1)]
          unfold o27a
          rw [u1, if_neg (by omega), wD (by omega), va_in ⟨by omega, by omega⟩, Int.toNat_natCast, u2, stk_len]
        have h82' := nums_pop h82
        obtain ⟨M2, hM2⟩ : ∃ M2, M2 = mset M1 82 1 ((stk S).length : Int) := ⟨_, rfl⟩
        rw [← hM2] at h82' eo
        have s2 : same [82] M1 M2 := by rw [hM2]; exact same_mset
        have hs2 : same [80, 81, 82, 83] M M2 := hs.tr (s2.mono (by decide))
        obtain ⟨M3, b1, b2, b3⟩ := sp238 (M := M2) d (by rw [hs2 7 (by decide)]; exact hn) h200 (Z := Z) (nums_same h80 (s2 80 (by decide)) (s2 81 (by decide))) (by omega) hk
        rw [alv_c (hs2 11 (by decide))] at b2
        have hs3 : same [80, 81, 82, 83] M M3 := hs2.tr (b3.mono (by decide))
        have hT3 : isT (clf M3) (crf M3) (.inner s k v l r) (k : Int) := by rw [clf_c (hs3 13 (by decide)), crf_c (hs3 13 (by decide))]; exact t2
        obtain ⟨-, c1⟩ := r28_T hT3
        obtain ⟨-, -, -, hr⟩ := hT3
        rw [isT_rt hr] at hr
        have hes : (em (spn r ++ S)).length = q := by omega
        have hspl : (spn r).length + S.length ≤ q := by
          have := em_len (spn r ++ S) (fun t ht => by
            rcases List.mem_append.mp ht with h | h
            · exact (spn_mem h).1
            · exact (h3 t (List.mem_cons_of_mem _ h)).1)
          rw [List.length_append] at this
          omega
        obtain ⟨M4, d1, d2, d3⟩ := sp240l d r S 0 M3 hr (nums_same h82' (b3 82 (by decide)) (b3 83 (by decide))) (by omega) (by omega)
        have d1 : run prog (d + 3) 240 [vr 79, vi (rt r)] (shp, M3) = some (.inl none, (shp, M4)) := by
          show ev prog (d + 3) 240 0 0 [vr 79, vi (rt r), vj, vj] [] (shp, M3) = _
          rw [g240_0]
          exact d1
        have hfl : ([k].filter (alv M)).length ≤ 1 := List.length_filter_le _ _
        have hTr : isT (clf M) (crf M) r (rt r) := by
          obtain ⟨-, -, -, h9⟩ := t2
          rw [isT_rt h9] at h9
          exact h9
        obtain ⟨M', e1, e2, e3⟩ := ih (i + 1) (spn r ++ S) (Z ++ [k].filter (alv M)) M4 hes (by omega) (by rw [List.length_append]; omega) (hs3.tr (d3.mono (by decide))) d2 (nums_same b2 (d3 80 (by decide)) (d3 81 (by decide))) (fun t ht => by
          rcases List.mem_append.mp ht with h | h
          · exact ⟨(spn_mem h).1, spn_T hTr h, fun x hx => t3 x (mem_r ((spn_mem h).2 x hx))⟩
          · exact h3 t (List.mem_cons_of_mem _ h))
        refine ⟨M', ?_, ?_, e3⟩
        · rw [g241_2, if_pos (by omega), u1, if_pos (by omega), eo, callK_r, psh_s, g241_5, b1, callK_r, psh_n, g241_6, c1, d1, callK_r, psh_n, g241_8, wI (by omega)]
          exact e1
        · rw [eem, show k :: em (spn r ++ S) = [k] ++ em (spn r ++ S) from rfl, List.filter_append, ← List.append_assoc]
          exact e2
theorem sp241 {M : mM} (d : Nat) {n : Nat} {t : Tr} (h : CT M n t) (h0 : nums M 80 []) (h82 : nums M 82 []) : ∃ M', run prog (d + 4) 241 [vr 79] (shp, M) = some (.inl none, (shp, M')) ∧ nums M' 80 (natI ((io t).filter (alv M))) ∧ same [80, 81, 82, 83] M M' := by
  show ∃ M', ev prog (d + 4) 241 0 0 [vr 79, vj, vj] [] (shp, M) = _ ∧ _
  obtain ⟨h1, h2, h3, h4, h5, h6⟩ := h
  have hsz := sz_le h3 h4
  have hrt := isT_rt h3
  rw [hrt] at h3
  have hil : (io t).length = sz t := (io_perm t).length_eq
  have hsp : (spn t).length ≤ sz t := by
    rw [← hil, ← em_spn]
    exact em_len _ (fun x hx => (spn_mem hx).1)
  obtain ⟨M1, a1, a2, a3⟩ := sp240l d t [] 0 M h3 h82 (by show 0 + _ ≤ _; omega) (by omega)
  have a1 : run prog (d + 3) 240 [vr 79, vi (rt t)] (shp, M) = some (.inl none, (shp, M1)) := by
    show ev prog (d + 3) 240 0 0 [vr 79, vi (rt t), vj, vj] [] (shp, M) = _
    rw [g240_0]
    exact a1
  rw [List.append_nil] at a2
  obtain ⟨M', b1, b2, b3⟩ := sp241l d h1 h2 _ 0 (spn t) [] M1 rfl (by rw [em_spn]; omega) (by rw [em_spn]; show 0 + _ ≤ _; omega) (a3.mono (by decide)) a2 (nums_same h0 (a3 80 (by decide)) (a3 81 (by decide))) (fun x hx => ⟨(spn_mem hx).1, spn_T h3 hx, fun k hk => h5 k ((spn_mem hx).2 k hk)⟩)
  rw [em_spn] at b2
  exact ⟨M', by rw [g241_0, hrt, a1, callK_r, psh_n, g241_1]; exact b1, b2, b3⟩
/-! level by level -/
def ch1 : Tr → List Tr
  | .leaf => []
  | .inner _ _ _ l r => ne1 l ++ ne1 r
def rk1 : Tr → List Nat
  | .leaf => []
  | .inner _ k _ _ _ => [k]
def szL : List Tr → Nat
  | [] => 0
  | t :: L => sz t + szL L
theorem szL_app (A B : List Tr) : szL (A ++ B) = szL A + szL B := by
  induction A with
  | nil => exact (Nat.zero_add _).symm
  | cons t A ih => show sz t + szL (A ++ B) = sz t + szL A + szL B; omega
theorem ne1_s (t : Tr) : szL (ne1 t) = sz t := by
  cases t with
  | leaf => rfl
  | inner s k v l r => exact Nat.add_zero _
theorem szL_len : ∀ L : List Tr, (∀ t ∈ L, t ≠ .leaf) → L.length ≤ szL L := by
  intro L
  induction L with
  | nil => intro _; exact Nat.le_refl _
  | cons t L ih =>
    intro h
    have h1 := ih (fun x hx => h x (List.mem_cons_of_mem _ hx))
    cases t with
    | leaf => exact absurd rfl (h .leaf List.mem_cons_self)
    | inner s k v l r =>
      have := sz_i s k v l r
      show L.length + 1 ≤ sz (.inner s k v l r) + szL L
      omega
def bfq : Nat → List Tr → List Nat
  | 0, _ => []
  | _ + 1, [] => []
  | q + 1, t :: L => rk1 t ++ bfq q (L ++ ch1 t)
theorem sp242l (d : Nat) {M : mM} {n : Nat} (hn : M 7 4 = (n : Int)) (h200 : n ≤ 200) : ∀ (q i : Nat) (L : List Tr) (P : List Int) (Z : List Nat) (M1 : mM), szL L = q → P.length = i → i + q ≤ 200 → Z.length + q ≤ 200 → same [80, 81, 82, 83] M M1 → nums M1 82 (P ++ rtsL L) → nums M1 80 (natI Z) → (∀ t ∈ L, t ≠ .leaf ∧ isT (clf M) (crf M) t (rt t) ∧ ∀ k ∈ ks t, k < n) →
    ∃ M', ev prog (d + 4) 242 0 2 [vr 79, vi (i : Int), vj] [] (shp, M1) = some (.inl none, (shp, M')) ∧ nums M' 80 (natI (Z ++ (bfq q L).filter (alv M))) ∧ same [80, 81, 82, 83] M M' := by
  intro q
  induction q with
  | zero =>
    intro i L P Z M1 hq hP hi hz hs h82 h80 h3
    have hl := szL_len L (fun t ht => (h3 t ht).1)
    have e : L = [] := List.length_eq_zero_iff.mp (by omega)
    subst e
    refine ⟨M1, ?_, by rw [show (bfq 0 []).filter (alv M) = [] from rfl, List.append_nil]; exact h80, hs⟩
    have hc : M1 82 1 = (i : Int) := by rw [h82.1, List.length_append, hP]; rfl
    rw [g242_2, hc, if_neg (Int.lt_irrefl _)]
    split <;> rfl
  | succ q ih =>
    intro i L P Z M1 hq hP hi hz hs h82 h80 h3
    have hl := szL_len L (fun t ht => (h3 t ht).1)
    cases L with
    | nil => exact absurd hq (by show ¬ (0 = q + 1); omega)
    | cons t L =>
      obtain ⟨t1, t2, t3⟩ := h3 t List.mem_cons_self
      cases t with
      | leaf => exact absurd rfl t1
      | inner s k v l r =>
        have hq : sz (.inner s k v l r) + szL L = q + 1 := hq
        rw [sz_i] at hq
        have hlr : (rtsL (.inner s k v l r :: L)).length = L.length + 1 := List.length_map _
        have hc : M1 82 1 = ((i + (L.length + 1) : Nat) : Int) := by rw [h82.1, List.length_append, hP, hlr]
        have hk := t3 k List.mem_cons_self
        have hr : r30e (i : Int) M1 = (k : Int) := by
          show va M1 83 200 (i : Int) = _
          rw [va_in ⟨by omega, by omega⟩, Int.toNat_natCast]
          refine h82.2 i _ ?_
          rw [List.getElem?_append_right (by omega), hP, Nat.sub_self]
          rfl
        obtain ⟨M2, b1, b2, b3⟩ := sp238 (M := M1) d (by rw [hs 7 (by decide)]; exact hn) h200 (Z := Z) h80 (by omega) hk
        rw [alv_c (hs 11 (by decide))] at b2
        have hs2 : same [80, 81, 82, 83] M M2 := hs.tr (b3.mono (by decide))
        have h82' := nums_same h82 (b3 82 (by decide)) (b3 83 (by decide))
        have e9 : P ++ rtsL (.inner s k v l r :: L) = (P ++ [(k : Int)]) ++ rtsL L := by
          show P ++ ((k : Int) :: rtsL L) = _
          rw [List.append_assoc]
          rfl
        rw [e9] at h82'
        have hP1 : (P ++ [(k : Int)]).length = i + 1 := by rw [List.length_append, hP]; rfl
        have hT2 : isT (clf M2) (crf M2) (.inner s k v l r) (k : Int) := by rw [clf_c (hs2 13 (by decide)), crf_c (hs2 13 (by decide))]; exact t2
        obtain ⟨c0, c1⟩ := r28_T hT2
        obtain ⟨-, -, h4, h5⟩ := t2
        rw [isT_rt h4] at h4
        rw [isT_rt h5] at h5
        have hlL : ((P ++ [(k : Int)]) ++ rtsL L).length = i + 1 + L.length := by rw [List.length_append, hP1]; show _ + (List.map rt L).length = _; rw [List.length_map]
        have hLv := szL_len L (fun t ht => (h3 t (List.mem_cons_of_mem _ ht)).1)
        have hnl : (ne1 l).length ≤ sz l := by
          rw [← ne1_s l]
          exact szL_len _ (fun x hx => by obtain ⟨e, n⟩ := ne1_mem hx; rw [e]; exact n)
        have hnr : (ne1 r).length ≤ sz r := by
          rw [← ne1_s r]
          exact szL_len _ (fun x hx => by obtain ⟨e, n⟩ := ne1_mem hx; rw [e]; exact n)
        obtain ⟨M3, d1, d2, d3⟩ := sp231a (M := M2) d h82' l (by omega)
        have hlN : (rtsL (ne1 l)).length = (ne1 l).length := List.length_map _
        have c1' : r28 (k : Int) 1 M3 = rt r := by rw [cr28 (d3 13 (by decide))]; exact c1
        obtain ⟨M4, f1, f2, f3⟩ := sp231a (M := M3) d d2 r (by rw [List.length_append]; omega)
        have hs4 : same [80, 81, 82, 83] M M4 := hs2.tr ((d3.mono (by decide)).tr (f3.mono (by decide)))
        have hfl : ([k].filter (alv M)).length ≤ 1 := List.length_filter_le _ _
        obtain ⟨M', g1, g2, g3⟩ := ih (i + 1) (L ++ (ne1 l ++ ne1 r)) (P ++ [(k : Int)]) (Z ++ [k].filter (alv M)) M4 (by rw [szL_app, szL_app, ne1_s, ne1_s]; omega) hP1 (by omega) (by rw [List.length_append]; omega) hs4 (by
          have : (P ++ [(k : Int)]) ++ rtsL (L ++ (ne1 l ++ ne1 r)) = (P ++ [(k : Int)]) ++ rtsL L ++ rtsL (ne1 l) ++ rtsL (ne1 r) := by
            unfold rtsL
            rw [List.map_append, List.map_append]
            simp only [List.append_assoc]
          rw [this]
          exact f2) (nums_same (nums_same b2 (d3 80 (by decide)) (d3 81 (by decide))) (f3 80 (by decide)) (f3 81 (by decide))) (fun x hx => by
          rcases List.mem_append.mp hx with h | h
          · exact h3 x (List.mem_cons_of_mem _ h)
          · rcases List.mem_append.mp h with h | h
            · obtain ⟨e, n⟩ := ne1_mem h
              subst e
              exact ⟨n, h4, fun y hy => t3 y (mem_l hy)⟩
            · obtain ⟨e, n⟩ := ne1_mem h
              subst e
              exact ⟨n, h5, fun y hy => t3 y (mem_r hy)⟩)
        refine ⟨M', ?_, ?_, g3⟩
        · rw [g242_2, if_pos (by omega), hc, if_pos (by omega), hr, b1, callK_r, psh_n, g242_6, c0, d1, callK_r, psh_n, g242_8, c1', f1, callK_r, psh_n, g242_10, wI (by omega)]
          exact g1
        · show nums M' 80 (natI (Z ++ ([k] ++ bfq q (L ++ (ne1 l ++ ne1 r))).filter (alv M)))
          rw [List.filter_append, ← List.append_assoc]
          exact g2
theorem sp242 {M : mM} (d : Nat) {n : Nat} {t : Tr} (h : CT M n t) (h0 : nums M 80 []) (h82 : nums M 82 []) : ∃ M', run prog (d + 4) 242 [vr 79] (shp, M) = some (.inl none, (shp, M')) ∧ nums M' 80 (natI ((bfq (sz t) (ne1 t)).filter (alv M))) ∧ same [80, 81, 82, 83] M M' := by
  show ∃ M', ev prog (d + 4) 242 0 0 [vr 79, vj, vj] [] (shp, M) = _ ∧ _
  obtain ⟨h1, h2, h3, h4, h5, h6⟩ := h
  have hsz := sz_le h3 h4
  have hrt := isT_rt h3
  rw [hrt] at h3
  obtain ⟨M1, a1, a2, a3⟩ := sp231a (M := M) d h82 t (by
    cases t with
    | leaf => decide
    | inner s k v l r => show 0 + 1 ≤ 200; decide)
  obtain ⟨M', b1, b2, b3⟩ := sp242l d h1 h2 (sz t) 0 (ne1 t) [] [] M1 (ne1_s t) rfl (by omega) (by show 0 + _ ≤ _; omega) (a3.mono (by decide)) a2 (nums_same h0 (a3 80 (by decide)) (a3 81 (by decide))) (fun x hx => by
    obtain ⟨e, nn⟩ := ne1_mem hx
    subst e
    exact ⟨nn, h3, h5⟩)
  exact ⟨M', by rw [g242_0, hrt, a1, callK_r, psh_n, g242_1]; exact b1, b2, b3⟩
/-! the levels one by one -/
def gl : Tr → Nat → List Nat
  | .leaf, _ => []
  | .inner _ k _ _ _, 0 => [k]
  | .inner _ _ _ l r, j + 1 => gl l j ++ gl r j
def glF : List Tr → Nat → List Nat
  | [], _ => []
  | t :: L, j => gl t j ++ glF L j
theorem glF_app (A B : List Tr) (j : Nat) : glF (A ++ B) j = glF A j ++ glF B j := by
  induction A with
  | nil => rfl
  | cons t A ih => show gl t j ++ glF (A ++ B) j = (gl t j ++ glF A j) ++ glF B j; rw [ih, List.append_assoc]
theorem glF_ne (t : Tr) (j : Nat) : glF (ne1 t) j = gl t j := by
  cases t with
  | leaf => rfl
  | inner s k v l r => exact List.append_nil _
def chL : List Tr → List Tr
  | [] => []
  | t :: L => ch1 t ++ chL L
def rkL : List Tr → List Nat
  | [] => []
  | t :: L => rk1 t ++ rkL L
theorem bfq_lev : ∀ (A B : List Tr) (q : Nat), szL (A ++ B) ≤ q → (∀ t ∈ A, t ≠ .leaf) → ∃ q', szL (B ++ chL A) ≤ q' ∧ q' + A.length = q ∧ bfq q (A ++ B) = rkL A ++ bfq q' (B ++ chL A) := by
  intro A
  induction A with
  | nil => intro B q h _; exact ⟨q, by rw [show chL [] = [] from rfl, List.append_nil]; exact h, rfl, by rw [show chL [] = [] from rfl, List.append_nil]; rfl⟩
  | cons t A ih =>
    intro B q h hA
    have ht := hA t List.mem_cons_self
    cases t with
    | leaf => exact absurd rfl ht
    | inner s k v l r =>
      have h : sz (.inner s k v l r) + szL (A ++ B) ≤ q := h
      rw [sz_i] at h
      cases q with
      | zero => exact absurd h (by omega)
      | succ q =>
        have e : (A ++ B) ++ ch1 (.inner s k v l r) = A ++ (B ++ ch1 (.inner s k v l r)) := List.append_assoc _ _ _
        obtain ⟨q', a1, a2, a3⟩ := ih (B ++ ch1 (.inner s k v l r)) q (by
          rw [szL_app, szL_app]
          rw [szL_app] at h
          show _ + (_ + szL (ne1 l ++ ne1 r)) ≤ q
          rw [szL_app, ne1_s, ne1_s]
          omega) (fun x hx => hA x (List.mem_cons_of_mem _ hx))
        refine ⟨q', ?_, by rw [List.length_cons]; omega, ?_⟩
        · show szL (B ++ (ch1 _ ++ chL A)) ≤ q'
          rw [← List.append_assoc]
          exact a1
        · show rk1 (.inner s k v l r) ++ bfq q ((A ++ B) ++ ch1 (.inner s k v l r)) = (rk1 (.inner s k v l r) ++ rkL A) ++ bfq q' (B ++ (ch1 (.inner s k v l r) ++ chL A))
          rw [e, a3, List.append_assoc, List.append_assoc]
theorem chL_ne : ∀ (A : List Tr), ∀ t ∈ chL A, t ≠ .leaf := by
  intro A
  induction A with
  | nil => intro t h; exact absurd h List.not_mem_nil
  | cons x A ih =>
    intro t h
    rcases List.mem_append.mp h with h | h
    · cases x with
      | leaf => exact absurd h List.not_mem_nil
      | inner s k v l r =>
        rcases List.mem_append.mp h with h | h
        · obtain ⟨e, n⟩ := ne1_mem h; rw [e]; exact n
        · obtain ⟨e, n⟩ := ne1_mem h; rw [e]; exact n
    · exact ih t h
theorem glF_0 : ∀ (A : List Tr), glF A 0 = rkL A := by
  intro A
  induction A with
  | nil => rfl
  | cons t A ih =>
    show gl t 0 ++ glF A 0 = rk1 t ++ rkL A
    rw [ih]
    cases t <;> rfl
theorem glF_s (j : Nat) : ∀ (A : List Tr), glF A (j + 1) = glF (chL A) j := by
  intro A
  induction A with
  | nil => rfl
  | cons t A ih =>
    show gl t (j + 1) ++ glF A (j + 1) = glF (ch1 t ++ chL A) j
    rw [glF_app, ih]
    cases t with
    | leaf => rfl
    | inner s k v l r =>
      show (gl l j ++ gl r j) ++ _ = glF (ne1 l ++ ne1 r) j ++ _
      rw [glF_app, glF_ne, glF_ne]
/-- the first h levels -/
def lvs : Nat → (Nat → List Nat) → List Nat
  | 0, _ => []
  | h + 1, f => lvs h f ++ f h
theorem lvs_0 : ∀ (h : Nat) (f : Nat → List Nat), lvs (h + 1) f = f 0 ++ lvs h (fun j => f (j + 1)) := by
  intro h
  induction h with
  | zero => intro f; show [] ++ f 0 = f 0 ++ []; rw [List.append_nil]; rfl
  | succ h ih => intro f; show lvs (h + 1) f ++ f (h + 1) = f 0 ++ (lvs h (fun j => f (j + 1)) ++ f (h + 1)); rw [ih, List.append_assoc]
theorem bfq_all : ∀ (h : Nat) (A : List Tr) (q : Nat), szL A ≤ q → (∀ t ∈ A, t ≠ .leaf ∧ ht t ≤ h) → bfq q A = lvs h (glF A) := by
  intro h
  induction h with
  | zero =>
    intro A q _ hA
    cases A with
    | nil => cases q <;> rfl
    | cons t A =>
      obtain ⟨h1, h2⟩ := hA t List.mem_cons_self
      cases t with
      | leaf => exact absurd rfl h1
      | inner s k v l r => rw [ht_i] at h2; exact absurd h2 (by omega)
  | succ h ih =>
    intro A q hq hA
    obtain ⟨q', a1, a2, a3⟩ := bfq_lev A [] q (by rw [List.append_nil]; exact hq) (fun t ht => (hA t ht).1)
    rw [List.append_nil, List.nil_append] at a3
    rw [List.nil_append] at a1
    rw [a3, lvs_0, glF_0, ih (chL A) q' a1 (fun t htm => ⟨chL_ne A t htm, ?_⟩)]
    · congr 1
      congr 1
      funext j
      exact (glF_s j A).symm
    · clear a1 a2 a3 hq
      induction A with
      | nil => exact absurd htm List.not_mem_nil
      | cons x A ihA =>
        rcases List.mem_append.mp htm with h9 | h9
        · have hx := (hA x List.mem_cons_self).2
          cases x with
          | leaf => exact absurd h9 List.not_mem_nil
          | inner s k v l r =>
            rw [ht_i] at hx
            have hl : ht l ≤ h := by split at hx <;> omega
            have hr : ht r ≤ h := by split at hx <;> omega
            rcases List.mem_append.mp h9 with h8 | h8
            · obtain ⟨e, n⟩ := ne1_mem h8; rw [e]; exact hl
            · obtain ⟨e, n⟩ := ne1_mem h8; rw [e]; exact hr
        · exact ihA (fun y hy => hA y (List.mem_cons_of_mem _ hy)) h9
theorem bfq_t (t : Tr) : bfq (sz t) (ne1 t) = lvs (ht t) (gl t) := by
  rw [bfq_all (ht t) (ne1 t) (sz t) (by rw [ne1_s]; exact Nat.le_refl _) (fun x hx => by obtain ⟨e, n⟩ := ne1_mem hx; subst e; exact ⟨n, Nat.le_refl _⟩)]
  congr 1
  funext j
  exact glF_ne t j
