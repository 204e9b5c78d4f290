/-! ROWS WITH A COUNT; THE VISIBLE POINTS -/
def nums (M : mM) (k : Nat) (l : List Int) : Prop := M k 1 = (l.length : Int) ∧ ∀ (j : Nat) (x : Int), l[j]? = some x → M (k + 1) j = x
def same (ks : List Nat) (M M' : mM) : Prop := ∀ k, k ∉ ks → M' k = M k
theorem same.rf {ks : List Nat} {M : mM} : same ks M M := fun _ _ => rfl
theorem same.tr {ks : List Nat} {M M1 M2 : mM} (h1 : same ks M M1) (h2 : same ks M1 M2) : same ks M M2 := fun k hk => (h2 k hk).trans (h1 k hk)
theorem same.mono {ks ks' : List Nat} {M M' : mM} (h : same ks M M') (hs : ∀ k ∈ ks, k ∈ ks') : same ks' M M' := fun k hk => h k (fun q => hk (hs k q))
theorem same_mset {k j : Nat} {x : Int} {M : mM} : same [k] M (mset M k j x) := fun k' hk => by
  funext j'
  exact mset_k (fun q => hk (by rw [q]; exact List.mem_singleton.mpr rfl))
theorem same_pu {k n : Nat} {i x : Int} {M : mM} : same [k] M (pu M k n i x) := fun k' hk => by
  funext j'
  exact pu_k (fun q => hk (by rw [q]; exact List.mem_singleton.mpr rfl))
theorem nums_nil {M : mM} {k : Nat} : nums (mset M k 1 0) k [] := ⟨mset_at _ _ _ _, fun j x h => by simp at h⟩
theorem nums_add {M : mM} {k : Nat} {l : List Int} {x : Int} (h : nums M k l) (hl : l.length < 200) :
    nums (mset (pu M (k + 1) 200 (M k 1) x) k 1 (wr (M k 1 + 1))) k (l ++ [x]) ∧ same [k, k + 1] M (mset (pu M (k + 1) 200 (M k 1) x) k 1 (wr (M k 1 + 1))) := by
  obtain ⟨h1, h2⟩ := h
  have hw : wr (M k 1 + 1) = (l.length : Int) + 1 := by rw [h1]; exact wr_id (by unfold inR; omega)
  have hp : pu M (k + 1) 200 (M k 1) x = mset M (k + 1) l.length x := by
    rw [pu_in (by rw [h1]; omega), h1, Int.toNat_natCast]
  rw [hw, hp]
  refine ⟨⟨?_, fun j y hj => ?_⟩, fun k' hk => ?_⟩
  · rw [mset_at, List.length_append]; rfl
  · rw [mset_k (by omega)]
    by_cases hjl : j < l.length
    · rw [mset_j (by omega)]
      rw [List.getElem?_append_left hjl] at hj
      exact h2 j y hj
    · rw [List.getElem?_append_right (by omega)] at hj
      have hj0 : j = l.length := by
        have := (List.getElem?_eq_some_iff.mp hj).1
        simp at this
        omega
      subst hj0
      simp at hj
      rw [mset_at, hj]
  · funext b
    rw [mset_k (fun q => hk (by rw [q]; simp)), mset_k (fun q => hk (by rw [q]; simp))]
/-- the visible points below n -/
def visL (M : mM) (n : Nat) : List Int := ((List.range n).filter fun (i : Nat) => p125 (i : Int) M).map fun (i : Nat) => (i : Int)
theorem visL_s (M : mM) (n : Nat) : visL M (n + 1) = match p125 (n : Int) M with
  | true => visL M n ++ [(n : Int)]
  | false => visL M n := by
  unfold visL
  rw [List.range_succ, List.filter_append, List.map_append]
  cases h : p125 (n : Int) M <;> simp [h]
theorem visL_le (M : mM) (n : Nat) : (visL M n).length ≤ n := by
  unfold visL
  rw [List.length_map]
  exact Nat.le_trans (List.length_filter_le _ _) (by rw [List.length_range]; exact Nat.le_refl _)
theorem sp126 (d : Nat) (M : mM) {n : Nat} (hn : M 7 4 = (n : Int)) (h200 : n ≤ 200) : ∃ M', run prog (d + 4) 126 [vr 72] (shp, M) = some (.inl (some (vi ((visL M n).length : Int))), (shp, M')) ∧ nums M' 73 (visL M n) ∧ same [73, 74] M M' := by
  show ∃ M', ev prog (d + 4) 126 0 0 [vr 72, vj] [] (shp, M) = _ ∧ _
  have loop : ∀ (q i : Nat) (M1 : mM), i + q = n → nums M1 73 (visL M i) → same [73, 74] M M1 → ∃ M', ev prog (d + 4) 126 0 2 [vr 72, vi (i : Int)] [] (shp, M1) = some (.inl (some (vi ((visL M n).length : Int))), (shp, M')) ∧ nums M' 73 (visL M n) ∧ same [73, 74] M M' := by
    intro q
    induction q with
    | zero =>
      intro i M1 hi h1 h2
      have e : i = n := by omega
      subst e
      exact ⟨M1, by rw [g126_2, h2 7 (by decide), hn, if_neg (Int.lt_irrefl _), h1.1], h1, h2⟩
    | succ q ih =>
      intro i M1 hi h1 h2
      have hp : p125 (i : Int) M1 = p125 (i : Int) M := cp125 (h2 7 (by decide)) (h2 10 (by decide)) (h2 11 (by decide)) (h2 38 (by decide)) _
      have hw : wr ((i : Int) + 1) = ((i + 1 : Nat) : Int) := wr_id (by unfold inR; omega)
      have hs := visL_s M i
      rw [g126_2, h2 7 (by decide), hn, if_pos (by omega), hp]
      cases hv : p125 (i : Int) M with
      | false =>
        rw [hv] at hs
        rw [if_pos (show bi false = 0 from rfl), hw]
        exact ih (i + 1) M1 (by omega) (by rw [hs]; exact h1) h2
      | true =>
        rw [hv] at hs
        have hl : (visL M i).length < 200 := by have := visL_le M i; omega
        obtain ⟨k1, k2⟩ := nums_add (x := (i : Int)) h1 hl
        rw [if_neg (show ¬ bi true = 0 by decide), s25 (d + 1)]
        unfold o25
        rw [if_pos (by rw [h1.1]; omega), callK_r, psh_n, g126_6, hw]
        exact ih (i + 1) _ (by omega) (by rw [hs]; exact k1) (h2.tr k2)
  obtain ⟨M', a1, a2, a3⟩ := loop n 0 (mset M 73 1 0) (by omega) (show nums _ 73 [] from nums_nil) (same_mset.mono (by decide))
  exact ⟨M', by rw [g126_0]; exact a1, a2, a3⟩
