/-! THE LAW'S LOOP -/
variable {K : KK}
def TSl : List Nat := [11, 31, 43, 49, 63, 75, 87, 103, 119, 129, 143, 155, 167, 171, 185, 197, 213, 227, 231, 243, 255, 278, 290, 302, 314, 324, 330, 339, 351, 363, 369, 383, 397, 401, 413, 417, 433, 437, 449, 462, 472, 480, 490, 494, 497]
theorem mask_all : ∀ e ∈ TSl ++ [503], pMask prog 299 e = [true, true, true, true, true, true, false, false, false, false] := by decide +kernel
theorem case_of {M : mM} (hI : Inv K M) (d u : Nat) {i : Int} (h : inS K i) (hu : u + 6 ≤ 3400) (c : Nat) : ∃ e, swT 0 TSl 503 (c : Int) = e ∧ e ∈ TSl ++ [503] ∧ nxt K d u i e M := match c with
  | 0 => ⟨11, rfl, by decide, law_0 hI d u h hu⟩
  | 1 => ⟨31, rfl, by decide, law_1 hI d u h hu⟩
  | 2 => ⟨43, rfl, by decide, law_2 hI d u h hu⟩
  | 3 => ⟨49, rfl, by decide, law_3 hI d u h hu⟩
  | 4 => ⟨63, rfl, by decide, law_4 hI d u h hu⟩
  | 5 => ⟨75, rfl, by decide, law_5 hI d u h hu⟩
  | 6 => ⟨87, rfl, by decide, law_6 hI d u h hu⟩
  | 7 => ⟨103, rfl, by decide, law_7 hI d u h hu⟩
  | 8 => ⟨119, rfl, by decide, law_8 hI d u h hu⟩
  | 9 => ⟨129, rfl, by decide, law_9 hI d u h hu⟩
  | 10 => ⟨143, rfl, by decide, law_10 hI d u h hu⟩
  | 11 => ⟨155, rfl, by decide, law_11 hI d u h hu⟩
  | 12 => ⟨167, rfl, by decide, law_12 hI d u h hu⟩
  | 13 => ⟨171, rfl, by decide, law_13 hI d u h hu⟩
  | 14 => ⟨185, rfl, by decide, law_14 hI d u h hu⟩
  | 15 => ⟨197, rfl, by decide, law_15 hI d u h hu⟩
  | 16 => ⟨213, rfl, by decide, law_16 hI d u h hu⟩
  | 17 => ⟨227, rfl, by decide, law_17 hI d u h hu⟩
  | 18 => ⟨231, rfl, by decide, law_18 hI d u h hu⟩
  | 19 => ⟨243, rfl, by decide, law_19 hI d u h hu⟩
  | 20 => ⟨255, rfl, by decide, law_20 hI d u h hu⟩
  | 21 => ⟨278, rfl, by decide, law_21 hI d u h hu⟩
  | 22 => ⟨290, rfl, by decide, law_22 hI d u h hu⟩
  | 23 => ⟨302, rfl, by decide, law_23 hI d u h hu⟩
  | 24 => ⟨314, rfl, by decide, law_24 hI d u h hu⟩
  | 25 => ⟨324, rfl, by decide, law_25 hI d u h hu⟩
  | 26 => ⟨330, rfl, by decide, law_26 hI d u h hu⟩
  | 27 => ⟨339, rfl, by decide, law_27 hI d u h hu⟩
  | 28 => ⟨351, rfl, by decide, law_28 hI d u h hu⟩
  | 29 => ⟨363, rfl, by decide, law_29 hI d u h hu⟩
  | 30 => ⟨369, rfl, by decide, law_30 hI d u h hu⟩
  | 31 => ⟨383, rfl, by decide, law_31 hI d u h hu⟩
  | 32 => ⟨397, rfl, by decide, law_32 hI d u h hu⟩
  | 33 => ⟨401, rfl, by decide, law_33 hI d u h hu⟩
  | 34 => ⟨413, rfl, by decide, law_34 hI d u h hu⟩
  | 35 => ⟨417, rfl, by decide, law_35 hI d u h hu⟩
  | 36 => ⟨433, rfl, by decide, law_36 hI d u h hu⟩
  | 37 => ⟨437, rfl, by decide, law_37 hI d u h hu⟩
  | 38 => ⟨449, rfl, by decide, law_38 hI d u h hu⟩
  | 39 => ⟨462, rfl, by decide, law_39 hI d u h hu⟩
  | 40 => ⟨472, rfl, by decide, law_40 hI d u h hu⟩
  | 41 => ⟨480, rfl, by decide, law_41 hI d u h hu⟩
  | 42 => ⟨490, rfl, by decide, law_42 hI d u h hu⟩
  | 43 => ⟨494, rfl, by decide, law_43 hI d u h hu⟩
  | 44 => ⟨497, rfl, by decide, law_44 hI d u h hu⟩
  | n + 45 => ⟨503, swT_df (Or.inr (by show (0 : Int) + ((45 : Nat) : Int) ≤ ((n + 45 : Nat) : Int); omega)), by decide, law_df hI d u⟩
theorem rnd {M : mM} (hI : Inv K M) (d u : Nat) {i : Int} (h : inS K i) (hu : u + 6 ≤ 3400) : ∃ M' u', ev prog (d + 601) 299 u 7 (lL i) [] (shp, M) = ev prog (d + 601) 299 u' 7 (lL (i + 6)) [] (shp, M') ∧ Inv K M' ∧ u' ≤ u + 6 := by
  have c3 := hI.c3
  have c4 := hI.c4
  obtain ⟨h0, h1, h2⟩ := h
  have h : inS K i := ⟨h0, h1, h2⟩
  have w6 : wr (K.2 0 - 6) = K.2 0 - 6 := wrR (by omega) (by omega)
  have wi : wr (i + 6) = i + 6 := wrR (by clear w6; omega) (by clear w6; omega)
  have hlt : ¬ K.2 0 - 6 < i := by clear w6 wi; omega
  have hib : 0 ≤ i ∧ i < K.2 0 := by clear w6 wi; exact ⟨h0, by omega⟩
  obtain ⟨c, hc⟩ : ∃ c : Nat, K.1 (Int.toNat i) % 64 = (c : Int) := ⟨(K.1 (Int.toNat i) % 64).toNat, by clear w6 wi; omega⟩
  obtain ⟨e, e1, e2, M', u', n1, n2, n3⟩ := case_of hI d u h hu c
  have hm := mask_all e e2
  refine ⟨M', u', ?_, n2, n3⟩
  have hmsk : msk (pMask prog 299 e) [vr 3, vr 5, vr 87, vr 96, vr 97, vi i, vj, vj, vj, vj] = lL i := by rw [hm]; rfl
  have hd : ev prog (d + 601) 299 u 7 (lL i) [] (shp, M) = ev prog (d + 601) 299 u e (lL i) [] (shp, M) := by
    unfold lL at hmsk ⊢
    rw [b299_7 (d + 600), b299_8 (d + 600), c4, w6, if_neg hlt, b299_9 (d + 600), c4, if_pos hib, c3, b299_10 (d + 600), hc, show swT 0 [11, 31, 43, 49, 63, 75, 87, 103, 119, 129, 143, 155, 167, 171, 185, 197, 213, 227, 231, 243, 255, 278, 290, 302, 314, 324, 330, 339, 351, 363, 369, 383, 397, 401, 413, 417, 433, 437, 449, 462, 472, 480, 490, 494, 497] 503 (c : Int) = e from e1, hmsk]
  rw [hd, n1]
  unfold lL
  rw [b299_503 (d + 600), wi]
theorem law_loop (d : Nat) (hK : 0 ≤ K.2 0 ∧ K.2 0 ≤ 3072) : ∀ (q u : Nat) (i : Int) (M : mM), Inv K M → 0 ≤ i → K.2 0 < i + 6 * ((q : Int) + 1) → u + 6 * q ≤ 3400 → ∃ M', ev prog (d + 601) 299 u 7 (lL i) [] (shp, M) = some (.inl (some (vi 1)), (shp, M')) := by
  have exit : ∀ (u : Nat) (i : Int) (M : mM), Inv K M → K.2 0 < i + 6 → ∃ M', ev prog (d + 601) 299 u 7 (lL i) [] (shp, M) = some (.inl (some (vi 1)), (shp, M')) := by
    intro u i M hI hlt
    have c4 := hI.c4
    have w6 : wr (K.2 0 - 6) = K.2 0 - 6 := wrR (by omega) (by omega)
    have hlt : K.2 0 - 6 < i := by clear w6; omega
    refine ⟨M, ?_⟩
    unfold lL
    rw [b299_7 (d + 600), b299_8 (d + 600), c4, w6, if_pos hlt, b299_504 (d + 600)]
  intro q
  induction q with
  | zero => intro u i M hI h0 hlt _; exact exit u i M hI (by omega)
  | succ q ih =>
    intro u i M hI h0 hlt hu
    by_cases c : K.2 0 < i + 6
    · exact exit u i M hI c
    · obtain ⟨M', u', n1, n2, n3⟩ := rnd hI d u (i := i) ⟨h0, by omega, hK.2⟩ (by omega)
      rw [n1]
      exact ih u' (i + 6) M' n2 (by omega) (by omega) (by omega)
