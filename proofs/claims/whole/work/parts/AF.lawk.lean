/-! THE LAW, CASE BY CASE: ITS FORM -/
variable {K : KK}
def lL (i : Int) : List mV := [vr 3, vr 5, vr 87, vr 96, vr 97, vi i, vj, vj, vj, vj]
def nxt (K : KK) (d u : Nat) (i : Int) (e : Nat) (M : mM) : Prop := ∃ M' u', ev prog (d + 601) 299 u e (lL i) [] (shp, M) = ev prog (d + 601) 299 u' 503 (lL i) [] (shp, M') ∧ Inv K M' ∧ u' ≤ u + 6
def inS (K : KK) (i : Int) : Prop := 0 ≤ i ∧ i + 6 ≤ K.2 0 ∧ K.2 0 ≤ 3072
theorem ixs {i : Int} (h : inS K i) {j : Int} (hj : 0 ≤ j ∧ j ≤ 5) : wr (i + j) = i + j := by
  obtain ⟨h0, h1, h2⟩ := h
  exact wrR (by omega) (by omega)
theorem ixb {i : Int} (h : inS K i) {j : Int} (hj : 0 ≤ j ∧ j ≤ 5) : 0 ≤ i + j ∧ i + j < K.2 0 := by
  obtain ⟨h0, h1, h2⟩ := h
  exact ⟨by omega, by omega⟩
theorem Inv.c3 {M : mM} (hI : Inv K M) : M 3 = K.1 := hI.2.2.2.2.2.2.2.2.2.2.2.1
theorem Inv.c4 {M : mM} (hI : Inv K M) : M 4 0 = K.2 0 := by rw [hI.2.2.2.2.2.2.2.2.2.2.2.2]
theorem law_4 {M : mM} (hI : Inv K M) (d u : Nat) {i : Int} (h : inS K i) (hu : u + 6 ≤ 3400) : nxt K d u i 63 M := by
  have c3 := hI.c3
  have c4 := hI.c4
  obtain ⟨k, b, M1, M2, ⟨e3, e4⟩, hw, hm, ht, ho, hI2⟩ := op4 hI d (K.1 (Int.toNat (i + 1)))
  rw [c3] at e3
  have e4 : M1 4 0 = K.2 0 := by rw [e4]; exact c4
  refine ⟨M2, u + 1 + 0 + 0, ?_, hI2, ?_⟩
  · unfold lL
    rw [b299_63 (d + 600), ixs h (by decide), c4, if_pos (ixb h (by decide)), c3, b299_64 (d + 600), hw, callK_r, psh_s, b299_65 (d + 600), ixs h (by decide), e4, if_pos (ixb h (by decide)), e3, b299_66 (d + 600), hm, callK_r, psh_s, b299_67 (d + 600), s67 (d + 599), callK_r, psh_s, b299_68 (d + 600), if_pos (show r67 M2 = k from ht), b299_70 (d + 600)]
    · by_cases hk : k = 0
      · rw [if_pos hk, b299_71 (d + 600), if_pos (by decide), b299_72 (d + 600), if_pos (show cmpL (M2 96 (Int.toNat 0)) b = 0 from by rw [show M2 96 (Int.toNat 0) = b from ho hk]; unfold cmpL; rw [if_neg (Int.lt_irrefl _), if_pos rfl]), b299_74 (d + 600)]
      · rw [if_neg hk, b299_74 (d + 600)]
    all_goals omega
  · omega
