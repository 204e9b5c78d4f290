/-! THE DISTANCES OF THE VISIBLE POINTS FROM THE QUERY POINT -/
theorem met_c {M M' : mM} (h34 : M' 34 = M 34) (a b c : Int) : met M' a b c = met M a b c := by unfold met; rw [h34]
theorem dq_c {M M' : mM} (h8 : M' 8 = M 8) (h34 : M' 34 = M 34) (h35 : M' 35 = M 35) (p : Nat) : dq M' p = dq M p := by unfold dq; rw [met_c h34, h8, h35]
theorem db_c {M M' : mM} (h8 : M' 8 = M 8) (h34 : M' 34 = M 34) (p q : Nat) : db M' p q = db M p q := by unfold db; rw [met_c h34, h8]
theorem Iv.same {M M' : mM} {ks : List Nat} (h : Iv M) (hs : same ks M M') (hk : (ks.all fun k => decide (k ∉ [7, 8, 9, 10, 11, 34, 35, 36, 37, 38, 88])) = true) : Iv M' := by
  have key : ∀ k, k ∈ [7, 8, 9, 10, 11, 34, 35, 36, 37, 38, 88] → M' k = M k := fun k hkk => hs k (fun q => by
    have := List.all_eq_true.mp hk k q
    exact (of_decide_eq_true this) hkk)
  exact h.keep (key 7 (by decide)) (key 8 (by decide)) (key 9 (by decide)) (key 10 (by decide)) (key 11 (by decide)) (key 34 (by decide)) (key 35 (by decide)) (key 36 (by decide)) (key 37 (by decide)) (key 38 (by decide)) (key 88 (by decide))
theorem visL_at {M : mM} {n j : Nat} {x : Int} (h : (visL M n)[j]? = some x) : ∃ p : Nat, x = (p : Int) ∧ p < n ∧ p125 (p : Int) M = true := by
  have := List.mem_of_getElem? h
  unfold visL at this
  obtain ⟨p, hp, rfl⟩ := List.mem_map.mp this
  obtain ⟨h1, h2⟩ := List.mem_filter.mp hp
  exact ⟨p, rfl, List.mem_range.mp h1, h2⟩
theorem sp170 {M : mM} (h : Iv M) (d : Nat) {n : Nat} (hn : M 7 4 = (n : Int)) (h60 : (visL M n).length ≤ 60) : ∃ M', run prog (d + 5) 170 [vr 72] (shp, M) = some (.inl none, (shp, M')) ∧ nums M' 73 (visL M n) ∧ (∀ (j : Nat) (x : Int), (visL M n)[j]? = some x → M' 75 j = dq M x.toNat) ∧ same [73, 74, 75] M M' := by
  show ∃ M', ev prog (d + 5) 170 0 0 [vr 72, vj] [] (shp, M) = _ ∧ _
  obtain ⟨n', h1, h2, h3⟩ := h.cr
  have e : n' = n := by omega
  subst e
  obtain ⟨M1, a1, a2, a3⟩ := sp126 d M hn h2
  have loop : ∀ (q i : Nat) (M1 : mM), i + q = (visL M n').length → nums M1 73 (visL M n') → (∀ (j : Nat) (x : Int), j < i → (visL M n')[j]? = some x → M1 75 j = dq M x.toNat) → same [73, 74, 75] M M1 →
      ∃ M', ev prog (d + 5) 170 0 2 [vr 72, vi (i : Int)] [] (shp, M1) = some (.inl none, (shp, M')) ∧ nums M' 73 (visL M n') ∧ (∀ (j : Nat) (x : Int), (visL M n')[j]? = some x → M' 75 j = dq M x.toNat) ∧ same [73, 74, 75] M M' := by
    intro q
    induction q with
    | zero =>
      intro i M1 hi k1 k2 k3
      exact ⟨M1, by rw [g170_2, k1.1, if_neg (by omega)], k1, fun j x hj => k2 j x (by have := (List.getElem?_eq_some_iff.mp hj).1; omega) hj, k3⟩
    | succ q ih =>
      intro i M1 hi k1 k2 k3
      have hil : i < (visL M n').length := by omega
      obtain ⟨p, hp1, hp2, -⟩ := visL_at (List.getElem?_eq_getElem hil)
      have hr : r30 (i : Int) M1 = (p : Int) := by
        show va M1 74 200 (i : Int) = _
        rw [va_in ⟨by omega, by omega⟩, Int.toNat_natCast, k1.2 i _ (List.getElem?_eq_getElem hil), hp1]
      have hI : Iv M1 := h.same k3 (by decide)
      have hd : dq M1 p = dq M p := dq_c (k3 8 (by decide)) (k3 34 (by decide)) (k3 35 (by decide)) p
      rw [g170_2, k1.1, if_pos (by omega), hr, sp157 hI d (by omega), callK_r, psh_s, g170_5, hd, wr_id (show inR ((i : Int) + 1) by unfold inR; omega), pu_in ⟨by omega, by omega⟩, Int.toNat_natCast]
      refine ih (i + 1) _ (by omega) ⟨by rw [mset_k (by decide)]; exact k1.1, fun j x hj => by rw [mset_k (by decide)]; exact k1.2 j x hj⟩ (fun j x hj hx => ?_) (k3.tr (same_mset.mono (by decide)))
      by_cases hji : j = i
      · subst hji
        rw [List.getElem?_eq_getElem hil] at hx
        cases hx
        rw [mset_at, hp1, Int.toNat_natCast]
      · rw [mset_j hji]
        exact k2 j x (by omega) hx
  obtain ⟨M', b1, b2, b3, b4⟩ := loop (visL M n').length 0 M1 (by omega) a2 (fun j x hj => absurd hj (Nat.not_lt_zero _)) (a3.mono (by decide))
  exact ⟨M', by rw [g170_0, a1, callK_r, psh_s, g170_1]; exact b1, b2, b3, b4⟩
