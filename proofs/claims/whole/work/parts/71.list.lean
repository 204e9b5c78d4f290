/-! THE CLASS LISTS ITS TREE -/
theorem wD {n : Nat} (h : n < 2147483648) : wr (((n + 1 : Nat) : Int) - 1) = (n : Int) := by
  rw [wrR (by omega) (by omega)]
  omega
def kL : List (Tr × Int × Nat) → List Nat
  | [] => []
  | x :: L => ks x.1 ++ kL L
def dvL (M : mM) : List (Tr × Int × Nat) → Nat → Prop
  | [], _ => True
  | x :: L, i => dv M x.1 x.2.1 x.2.2 i ∧ dvL M L (i + sz x.1)
def rtL (L : List (Tr × Int × Nat)) : List Int := (L.map fun x => rt x.1).reverse
/-- a tree that waits: not empty, its links stand, its root has its parent and depth -/
def okW (M : mM) (i : Nat) (x : Tr × Int × Nat) : Prop := ∃ s k v l r, x.1 = .inner s k v l r ∧ isT (clf M) (crf M) x.1 (rt x.1) ∧ M 14 k = x.2.1 ∧ M 15 k = (x.2.2 : Int) ∧ x.2.2 ≤ i
theorem kL_len : ∀ L : List (Tr × Int × Nat), (∀ x ∈ L, x.1 ≠ .leaf) → L.length ≤ (kL L).length := by
  intro L
  induction L with
  | nil => intro _; exact Nat.zero_le _
  | cons x L ih =>
    intro h
    have h1 := ih (fun y hy => h y (List.mem_cons_of_mem _ hy))
    have h2 := h x List.mem_cons_self
    have h3 : 1 ≤ (ks x.1).length := by
      cases hx : x.1 with
      | leaf => exact absurd hx h2
      | inner s k v l r => exact Nat.le_add_left 1 _
    show L.length + 1 ≤ (ks x.1 ++ kL L).length
    rw [List.length_append]
    omega
theorem kL_mem {x : Tr × Int × Nat} {k : Nat} : ∀ {L : List (Tr × Int × Nat)}, x ∈ L → k ∈ ks x.1 → k ∈ kL L := by
  intro L
  induction L with
  | nil => intro h; exact absurd h List.not_mem_nil
  | cons y L ih =>
    intro h hk
    rcases List.mem_cons.mp h with e | h
    · rw [e] at hk; exact List.mem_append.mpr (Or.inl hk)
    · exact List.mem_append.mpr (Or.inr (ih h hk))
theorem okW_c {M M' : mM} {i i' : Nat} {x : Tr × Int × Nat} (hi : i ≤ i') (h13 : M' 13 = M 13) (hk : ∀ k ∈ ks x.1, M' 14 k = M 14 k ∧ M' 15 k = M 15 k) (h : okW M i x) : okW M' i' x := by
  obtain ⟨s, k, v, l, r, h1, h2, h3, h4, h5⟩ := h
  have hr : k ∈ ks x.1 := by rw [h1]; exact List.mem_cons_self
  refine ⟨s, k, v, l, r, h1, isT_c (fun j _ => ?_) h2, by rw [(hk k hr).1]; exact h3, by rw [(hk k hr).2]; exact h4, by omega⟩
  unfold clf crf
  rw [h13]
  exact ⟨rfl, rfl⟩
theorem nums_pop {M : mM} {k : Nat} {S : List Int} {x : Int} (h : nums M k (S ++ [x])) : nums (mset M k 1 (S.length : Int)) k S := by
  refine ⟨mset_at _ _ _ _, fun j y hj => ?_⟩
  rw [mset_k (by omega)]
  exact h.2 j y (by rw [List.getElem?_append_left (List.getElem?_eq_some_iff.mp hj).1]; exact hj)
theorem nums_top {M : mM} {k : Nat} {S : List Int} {x : Int} (h : nums M k (S ++ [x])) : M k 1 = ((S.length + 1 : Nat) : Int) ∧ M (k + 1) S.length = x := by
  refine ⟨by rw [h.1, List.length_append]; rfl, h.2 S.length x ?_⟩
  rw [List.getElem?_append_right (Nat.le_refl _), Nat.sub_self]
  rfl
theorem nums_put {M : mM} {k : Nat} {l : List Int} (h : nums M k l) (j : Nat) (x : Int) (k' : Nat) (h1 : k ≠ k') (h2 : k + 1 ≠ k') : nums (mset M k' j x) k l := nums_same h (by funext b; exact mset_k h1) (by funext b; exact mset_k h2)
theorem sp29l (d : Nat) : ∀ (q i : Nat) (M1 : mM) (L : List (Tr × Int × Nat)) (P : List Int), (kL L).length = q → P.length = i → i + q ≤ 200 → nums M1 21 P → nums M1 23 (rtL L) → (∀ x ∈ L, okW M1 i x) → (kL L).Nodup →
    ∃ M', ev prog (d + 4) 29 0 5 [vr 12, vi (i : Int), vj] [] (shp, M1) = some (.inl none, (shp, M')) ∧ nums M' 21 (P ++ natI (kL L)) ∧ same [14, 15, 20, 21, 22, 23, 24] M1 M' ∧ dvL M' L i ∧ ∀ j, j ∉ kL L → M' 14 j = M1 14 j ∧ M' 15 j = M1 15 j ∧ M' 20 j = M1 20 j := by
  intro q
  induction q with
  | zero =>
    intro i M1 L P hq hP hi h1 h2 h3 h4
    have hL : L = [] := by
      cases L with
      | nil => rfl
      | cons x L =>
        obtain ⟨s, k, v, l, r, e, -⟩ := h3 x List.mem_cons_self
        have : (kL (x :: L)).length = (ks x.1 ++ kL L).length := rfl
        rw [this, e, List.length_append] at hq
        exact absurd hq (by show ¬ ((ks l ++ ks r).length + 1 + _ = 0); omega)
    subst hL
    refine ⟨M1, ?_, by rw [show natI (kL []) = [] from rfl, List.append_nil]; exact h1, same.rf, trivial, fun j _ => ⟨rfl, rfl, rfl⟩⟩
    have : M1 23 1 = 0 := h2.1
    rw [g29_5, this, if_neg (show ¬ (0 : Int) < 0 by decide)]
    split <;> rfl
  | succ q ih =>
    intro i M1 L P hq hP hi h1 h2 h3 h4
    cases L with
    | nil => exact absurd hq (by show ¬ (0 = q + 1); omega)
    | cons x L =>
      obtain ⟨s, k, v, l, r, e, hT, hp, hd, hdi⟩ := h3 x List.mem_cons_self
      obtain ⟨t, p, dd⟩ := x
      have e : t = .inner s k v l r := e
      subst e
      obtain ⟨-, hk200, hTl, hTr⟩ := hT
      have hp : M1 14 k = p := hp
      have hd : M1 15 k = (dd : Int) := hd
      have hdi : dd ≤ i := hdi
      have e0 : kL ((.inner s k v l r, p, dd) :: L) = k :: ((ks l ++ ks r) ++ kL L) := rfl
      rw [e0] at h4 hq
      have hnd := h4
      obtain ⟨n1, n2⟩ := List.nodup_cons.mp h4
      obtain ⟨n3, n4, n5⟩ := List.nodup_append.mp n2
      obtain ⟨n6, n7, n8⟩ := List.nodup_append.mp n3
      have hlen : (ks l).length + (ks r).length + (kL L).length = q := by
        rw [List.length_cons, List.length_append, List.length_append] at hq
        omega
      have hLn : L.length ≤ (kL L).length := kL_len L (fun y hy => by
        obtain ⟨s, k, v, l, r, e, -⟩ := h3 y (List.mem_cons_of_mem _ hy)
        rw [e]
        exact fun q => by cases q)
      -- pop
      have e1 : rtL ((.inner s k v l r, p, dd) :: L) = rtL L ++ [(k : Int)] := by
        unfold rtL
        rw [List.map_cons, List.reverse_cons]
        rfl
      rw [e1] at h2
      obtain ⟨t1, t2⟩ := nums_top h2
      have hrl : (rtL L).length = L.length := by unfold rtL; rw [List.length_reverse, List.length_map]
      have eo : run prog (d + 3) 27 [vr 23] (shp, M1) = some (.inl (some (vi (k : Int))), (shp, mset M1 23 1 ((rtL L).length : Int))) := by
        rw [s27 (d + 1)]
        unfold o27
        rw [t1, if_neg (by omega), wD (by omega), va_in ⟨by omega, by omega⟩, Int.toNat_natCast, t2]
      -- place, add
      have hM2 : nums (pu (mset M1 23 1 ((rtL L).length : Int)) 20 200 (k : Int) ((mset M1 23 1 ((rtL L).length : Int)) 21 1)) 21 P := nums_same (nums_put h1 _ _ 23 (by decide) (by decide)) (same_pu 21 (by decide)) (same_pu 22 (by decide))
      have hP200 : P.length < 200 := by omega
      obtain ⟨z1, z2⟩ := nums_add (x := (k : Int)) hM2 hP200
      have zc := hM2.1
      have e21 : (mset M1 23 1 ((rtL L).length : Int)) 21 1 = (i : Int) := by rw [mset_k (by decide), h1.1, hP]
      -- name the memory
      obtain ⟨M2, hM2e⟩ : ∃ M2, M2 = mset (pu (pu (mset M1 23 1 ((rtL L).length : Int)) 20 200 (k : Int) (i : Int)) 22 200 ((pu (mset M1 23 1 ((rtL L).length : Int)) 20 200 (k : Int) (i : Int)) 21 1) (k : Int)) 21 1 (wr ((pu (mset M1 23 1 ((rtL L).length : Int)) 20 200 (k : Int) (i : Int)) 21 1 + 1)) := ⟨_, rfl⟩
      rw [e21] at z1 z2 zc
      have z1 : nums M2 21 (P ++ [(k : Int)]) := by rw [hM2e]; exact z1
      have zs : same [21, 22] (pu (mset M1 23 1 ((rtL L).length : Int)) 20 200 (k : Int) (i : Int)) M2 := by rw [hM2e]; exact z2
      have f13 : M2 13 = M1 13 := by rw [zs 13 (by decide)]; rw [show pu (mset M1 23 1 ((rtL L).length : Int)) 20 200 (k : Int) (i : Int) 13 = (mset M1 23 1 ((rtL L).length : Int)) 13 from same_pu 13 (by decide)]; exact same_mset 13 (by decide)
      have f14 : M2 14 = M1 14 := by rw [zs 14 (by decide)]; rw [show pu (mset M1 23 1 ((rtL L).length : Int)) 20 200 (k : Int) (i : Int) 14 = (mset M1 23 1 ((rtL L).length : Int)) 14 from same_pu 14 (by decide)]; exact same_mset 14 (by decide)
      have f15 : M2 15 = M1 15 := by rw [zs 15 (by decide)]; rw [show pu (mset M1 23 1 ((rtL L).length : Int)) 20 200 (k : Int) (i : Int) 15 = (mset M1 23 1 ((rtL L).length : Int)) 15 from same_pu 15 (by decide)]; exact same_mset 15 (by decide)
      have f20 : ∀ j, j ≠ k → M2 20 j = M1 20 j := fun j hj => by
        rw [zs 20 (by decide), pu_in ⟨by omega, by omega⟩, Int.toNat_natCast, mset_j hj, mset_k (by decide)]
      have f20k : M2 20 k = (i : Int) := by rw [zs 20 (by decide), pu_in ⟨by omega, by omega⟩, Int.toNat_natCast, mset_at]
      have fs : same [14, 15, 20, 21, 22, 23, 24] M1 M2 := (same_mset.mono (by decide)).tr ((same_pu.mono (by decide)).tr (zs.mono (by decide)))
      have f23 : nums M2 23 (rtL L) := nums_same (nums_same (nums_pop h2) (same_pu 23 (by decide)) (same_pu 24 (by decide))) (zs 23 (by decide)) (zs 24 (by decide))
      have head : ev prog (d + 4) 29 0 5 [vr 12, vi (i : Int), vj] [] (shp, M1) = ev prog (d + 4) 29 0 10 [vr 12, vi (i : Int), vi (k : Int)] [] (shp, M2) := by
        rw [g29_5, if_pos (by omega), t1, if_pos (by omega), eo, callK_r, psh_s, g29_8, e21, s25c (d + 1)]
        unfold o25c
        rw [if_pos (by rw [zc]; omega), callK_r, psh_n, hM2e]
      -- the right child, then the left one
      have step : ∀ (c : Tr) (M3 : mM) (L3 : List (Tr × Int × Nat)) (b e9 : Nat) (sd : Int), r28 (k : Int) sd M3 = rt c → isT (clf M3) (crf M3) c (rt c) → nums M3 23 (rtL L3) → (rtL L3).length < 200 → M3 15 k = (dd : Int) → k ∉ ks c →
          ∃ M4 L4, run prog (d + 3) 26 [vr 12, vi (r28 (k : Int) sd M3), vi (k : Int)] (shp, M3) = some (.inl none, (shp, M4)) ∧ (L4 = (match c with | .leaf => [] | .inner _ _ _ _ _ => [(c, (k : Int), dd + 1)])) ∧ nums M4 23 (rtL (L4 ++ L3)) ∧ same [14, 15, 23, 24] M3 M4 ∧ (∀ y ∈ L4, okW M4 (i + 1) y) ∧ (kL L4 = ks c) ∧ (∀ j, j ∉ ks c → M4 14 j = M3 14 j ∧ M4 15 j = M3 15 j) := by
        intro c M3 L3 _ _ sd hr hTc hn hl hdd hkc
        cases c with
        | leaf =>
          refine ⟨M3, [], ?_, rfl, hn, same.rf, fun y hy => absurd hy List.not_mem_nil, rfl, fun j _ => ⟨rfl, rfl⟩⟩
          rw [hr]
          exact sp26_n d M3 _
        | inner s2 k2 v2 l2 r2 =>
          have hk2 : k2 < 200 := hTc.2.1
          have hne : k ≠ k2 := fun q => hkc (by rw [q]; exact List.mem_cons_self)
          obtain ⟨M4, a1, a2, a3, a4, a5, a6⟩ := sp26 d hn hl hk2 (p := (k : Int)) (e := dd + 1) (Or.inr ⟨k, rfl, hk200, by rw [hdd]; rfl, hne⟩) (by omega)
          refine ⟨M4, [(.inner s2 k2 v2 l2 r2, (k : Int), dd + 1)], ?_, rfl, ?_, a3, fun y hy => ?_, ?_, fun j hj => a6 j (fun q => hj (by rw [q]; exact List.mem_cons_self))⟩
          · rw [hr]
            exact a1
          · have : rtL ([(.inner s2 k2 v2 l2 r2, (k : Int), dd + 1)] ++ L3) = rtL L3 ++ [(k2 : Int)] := by
              unfold rtL
              rw [List.singleton_append, List.map_cons, List.reverse_cons]
              rfl
            rw [this]
            exact a2
          · have := List.mem_singleton.mp hy
            subst this
            refine ⟨s2, k2, v2, l2, r2, rfl, isT_c (fun j _ => ?_) hTc, a4, a5, by show dd + 1 ≤ i + 1; omega⟩
            unfold clf crf
            rw [a3 13 (by decide)]
            exact ⟨rfl, rfl⟩
          · show ks (.inner s2 k2 v2 l2 r2) ++ [] = _
            rw [List.append_nil]
      have hcr : ∀ (M3 : mM), M3 13 = M1 13 → r28 (k : Int) 1 M3 = rt r ∧ r28 (k : Int) 0 M3 = rt l ∧ isT (clf M3) (crf M3) r (rt r) ∧ isT (clf M3) (crf M3) l (rt l) := by
        intro M3 h13
        have c1 : clf M3 = clf M1 := by funext j; unfold clf; rw [h13]
        have c2 : crf M3 = crf M1 := by funext j; unfold crf; rw [h13]
        have hr : M3 13 (2 * k + 1) = rt r := by rw [h13]; exact isT_rt hTr
        have hl : M3 13 (2 * k) = rt l := by rw [h13]; exact isT_rt hTl
        refine ⟨?_, ?_, ?_, ?_⟩
        · unfold r28
          rw [if_neg (by omega), x21 (by omega), va_in ⟨by omega, by omega⟩, Int.toNat_natCast, hr]
        · unfold r28
          rw [if_neg (by omega), x20 (by omega), va_in ⟨by omega, by omega⟩, Int.toNat_natCast, hl]
        · rw [c1, c2, ← isT_rt hTr]; exact hTr
        · rw [c1, c2, ← isT_rt hTl]; exact hTl
      obtain ⟨c1, c2, c3, c4⟩ := hcr M2 f13
      obtain ⟨M3, L3, a1, a2, a3, a4, a5, a6, a7⟩ := step r M2 L 0 0 1 c1 c3 f23 (by omega) (by rw [f15]; exact hd) (fun q => n1 (List.mem_append.mpr (Or.inl (List.mem_append.mpr (Or.inr q)))))
      have h13' : M3 13 = M1 13 := (a4 13 (by decide)).trans f13
      obtain ⟨-, c5, -, c6⟩ := hcr M3 h13'
      have hkr : k ∉ ks r := fun q => n1 (List.mem_append.mpr (Or.inl (List.mem_append.mpr (Or.inr q))))
      have hkl : k ∉ ks l := fun q => n1 (List.mem_append.mpr (Or.inl (List.mem_append.mpr (Or.inl q))))
      have hL3 : (rtL (L3 ++ L)).length < 200 := by
        unfold rtL
        rw [List.length_reverse, List.length_map, List.length_append, a2]
        cases r with
        | leaf => simp; omega
        | inner s2 k2 v2 l2 r2 =>
          have : (ks (.inner s2 k2 v2 l2 r2 : Tr)).length = (ks l2 ++ ks r2).length + 1 := rfl
          simp
          omega
      obtain ⟨M4, L4, b1, b2, b3, b4, b5, b6, b7⟩ := step l M3 (L3 ++ L) 0 0 0 c5 c6 a3 hL3 (by rw [(a7 k hkr).2, f15]; exact hd) hkl
      have g1 : kL (L4 ++ (L3 ++ L)) = (ks l ++ ks r) ++ kL L := by
        have happ : ∀ (A B : List (Tr × Int × Nat)), kL (A ++ B) = kL A ++ kL B := by
          intro A B
          induction A with
          | nil => rfl
          | cons y A ih => show ks y.1 ++ kL (A ++ B) = (ks y.1 ++ kL A) ++ kL B; rw [ih, List.append_assoc]
        rw [happ, happ, b6, a6, List.append_assoc]
      have s1 : same [14, 15, 20, 21, 22, 23, 24] M1 M4 := fs.tr ((a4.mono (by decide)).tr (b4.mono (by decide)))
      obtain ⟨M', d1, d2, d3, d4, d5⟩ := ih (i + 1) M4 (L4 ++ (L3 ++ L)) (P ++ [(k : Int)]) (by rw [g1, List.length_append, List.length_append]; omega) (by rw [List.length_append, hP]; rfl) (by omega) (nums_same (nums_same z1 (a4 21 (by decide)) (a4 22 (by decide))) (b4 21 (by decide)) (b4 22 (by decide))) b3 (fun y hy => by
          rcases List.mem_append.mp hy with h9 | h9
          · exact b5 y h9
          · rcases List.mem_append.mp h9 with h8 | h8
            · refine okW_c (Nat.le_refl _) (b4 13 (by decide)) (fun j hj => b7 j (fun q => ?_)) (a5 y h8)
              have : j ∈ ks r := by rw [← a6]; exact kL_mem h8 hj
              exact n8 j q j this rfl
            · refine okW_c (Nat.le_succ i) ((s1 13 (by decide))) (fun j hj => ?_) (h3 y (List.mem_cons_of_mem _ h8))
              have hjL : j ∈ kL L := kL_mem h8 hj
              have q1 : j ∉ ks l := fun q => n5 j (List.mem_append.mpr (Or.inl q)) j hjL rfl
              have q2 : j ∉ ks r := fun q => n5 j (List.mem_append.mpr (Or.inr q)) j hjL rfl
              rw [(b7 j q1).1, (b7 j q1).2, (a7 j q2).1, (a7 j q2).2, f14, f15]
              exact ⟨rfl, rfl⟩) (by rw [g1]; exact n2)
      rw [g1] at d2 d5
      refine ⟨M', ?_, ?_, s1.tr d3, ?_, fun j hj => ?_⟩
      · rw [head, g29_10, a1, callK_r, psh_n, g29_12, b1, callK_r, psh_n, g29_14, wI (by omega)]
        exact d1
      · have : natI (kL ((.inner s k v l r, p, dd) :: L)) = (k : Int) :: natI ((ks l ++ ks r) ++ kL L) := rfl
        rw [this]
        rw [List.append_assoc] at d2
        exact d2
      · obtain ⟨k1, k2, k3⟩ := d5 k n1
        have q1 := b7 k hkl
        have q2 := a7 k hkr
        have dsp : ∀ (A B : List (Tr × Int × Nat)) (i : Nat), dvL M' (A ++ B) i → dvL M' A i ∧ dvL M' B (i + (kL A).length) := by
          intro A B
          induction A with
          | nil => intro i h; exact ⟨trivial, h⟩
          | cons y A ih =>
            intro i h
            obtain ⟨h1, h2⟩ := h
            obtain ⟨h3, h4⟩ := ih _ h2
            refine ⟨⟨h1, h3⟩, ?_⟩
            have : (kL (y :: A)).length = sz y.1 + (kL A).length := by show (ks y.1 ++ kL A).length = _; rw [List.length_append]; rfl
            rw [this, ← Nat.add_assoc]
            exact h4
        obtain ⟨m1, m2⟩ := dsp _ _ _ d4
        obtain ⟨m3, m4⟩ := dsp _ _ _ m2
        rw [b6] at m2 m3 m4
        rw [a6] at m4
        refine ⟨⟨?_, ?_, ?_, ?_, ?_⟩, ?_⟩
        · rw [k1, q1.1, q2.1, f14]; exact hp
        · rw [k2, q1.2, q2.2, f15]; exact hd
        · rw [k3, b4 20 (by decide), a4 20 (by decide)]; exact f20k
        · rw [b2] at m1
          cases l with
          | leaf => exact trivial
          | inner s2 k2 v2 l2 r2 => exact m1.1
        · rw [a2] at m3
          cases r with
          | leaf => exact trivial
          | inner s2 k2 v2 l2 r2 => exact m3.1
        · have e9 : i + sz (.inner s k v l r) = i + 1 + (ks l).length + (ks r).length := by
            rw [sz_i]; unfold sz; omega
          rw [e9]
          exact m4
      · rw [e0] at hj
        have j1 : j ≠ k := fun q => hj (by rw [q]; exact List.mem_cons_self)
        have j2 : j ∉ (ks l ++ ks r) ++ kL L := fun q => hj (List.mem_cons_of_mem _ q)
        have j3 : j ∉ ks l := fun q => j2 (List.mem_append.mpr (Or.inl (List.mem_append.mpr (Or.inl q))))
        have j4 : j ∉ ks r := fun q => j2 (List.mem_append.mpr (Or.inl (List.mem_append.mpr (Or.inr q))))
        obtain ⟨y1, y2, y3⟩ := d5 j j2
        rw [y1, y2, y3, (b7 j j3).1, (b7 j j3).2, (a7 j j4).1, (a7 j j4).2, b4 20 (by decide), a4 20 (by decide), f14, f15, f20 j j1]
        exact ⟨rfl, rfl, rfl⟩
theorem sp29 (d : Nat) {M : mM} {t : Tr} (hT : isT (clf M) (crf M) t (M 12 11)) (hn : (ks t).Nodup) :
    ∃ M', run prog (d + 4) 29 [vr 12] (shp, M) = some (.inl none, (shp, M')) ∧ nums M' 21 (natI (ks t)) ∧ same [14, 15, 20, 21, 22, 23, 24] M M' ∧ dv M' t (-1) 0 0 ∧ ∀ j, j < 200 → j ∉ ks t → M' 15 j = -1 := by
  show ∃ M', ev prog (d + 4) 29 0 0 [vr 12, vj, vj] [] (shp, M) = _ ∧ _
  have hsz := sz_le hT hn
  obtain ⟨M1, hM1⟩ : ∃ M1, M1 = mset (mset (mfill M 15 200 (-1)) 21 1 0) 23 1 0 := ⟨_, rfl⟩
  have hfill : same [15] M (mfill M 15 200 (-1)) := fun k hk => by
    funext j
    unfold mfill
    rw [if_neg (fun q => hk (by rw [q.1]; exact List.mem_singleton.mpr rfl))]
  have s1 : same [15, 21, 23] M M1 := by
    rw [hM1]
    exact ((hfill.mono (by decide)).tr (same_mset.mono (by decide))).tr (same_mset.mono (by decide))
  have h15 : ∀ j, j < 200 → M1 15 j = -1 := fun j hj => by
    rw [hM1, mset_k (by decide), mset_k (by decide)]
    unfold mfill
    rw [if_pos ⟨rfl, hj⟩]
  have n21 : nums M1 21 [] := by
    rw [hM1]
    exact nums_put nums_nil _ _ 23 (by decide) (by decide)
  have n23 : nums M1 23 [] := by rw [hM1]; exact nums_nil
  rw [g29_0, ← hM1, isT_rt hT]
  cases t with
  | leaf =>
    have := sp29l d 0 0 M1 [] [] rfl rfl (by omega) n21 n23 (fun x hx => absurd hx List.not_mem_nil) List.nodup_nil
    obtain ⟨M', a1, a2, a3, a4, a5⟩ := this
    refine ⟨M', ?_, a2, (s1.mono (by decide)).tr a3, trivial, fun j hj _ => ?_⟩
    · rw [show rt (.leaf : Tr) = -1 from rfl, sp26_n, callK_r, psh_n, g29_4]
      exact a1
    · rw [(a5 j List.not_mem_nil).2.1]
      exact h15 j hj
  | inner s k v l r =>
    have hk : k < 200 := hT.2.1
    obtain ⟨M2, b1, b2, b3, b4, b5, b6⟩ := sp26 d n23 (by decide) hk (p := -1) (e := 0) (Or.inl ⟨rfl, rfl⟩) (by decide)
    have h13 : M2 13 = M 13 := (b3 13 (by decide)).trans (s1 13 (by decide))
    have hk2 : kL [(.inner s k v l r, (-1 : Int), 0)] = ks (.inner s k v l r) := List.append_nil _
    obtain ⟨M', a1, a2, a3, a4, a5⟩ := sp29l d _ 0 M2 [(.inner s k v l r, -1, 0)] [] rfl rfl (by rw [hk2]; unfold sz at hsz; omega) (nums_same n21 (b3 21 (by decide)) (b3 22 (by decide))) b2 (fun x hx => by
      have := List.mem_singleton.mp hx
      subst this
      refine ⟨s, k, v, l, r, rfl, ?_, b4, b5, Nat.le_refl _⟩
      have c1 : clf M2 = clf M := by funext j; unfold clf; rw [h13]
      have c2 : crf M2 = crf M := by funext j; unfold crf; rw [h13]
      rw [c1, c2]
      have := isT_rt hT
      rw [← this]
      exact hT) (by rw [hk2]; exact hn)
    rw [hk2] at a2 a5
    refine ⟨M', ?_, a2, (s1.mono (by decide)).tr ((b3.mono (by decide)).tr a3), a4.1, fun j hj hjt => ?_⟩
    · rw [show rt (.inner s k v l r : Tr) = (k : Int) from rfl, b1, callK_r, psh_n, g29_4]
      exact a1
    · rw [(a5 j hjt).2.1, (b6 j (fun q => hjt (by rw [q]; exact List.mem_cons_self))).2]
      exact h15 j hj
