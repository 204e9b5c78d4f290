/-! THE FIRST STATE -/
variable {K : KK}
def iM (M : mM) : mM := mzero (mzero (mset (mset (mset (mset (mset (mset (mzero (mset (mzero (mzero (mzero (mzero (mzero (mzero (mzero ((mzero (mset (mset (mset (mset (mset (mset (mzero (mzero ((mzero (mset (mset (mset (mzero ((mzero (mset (mzero ((mzero ((mzero (mset (mset (mset (mset (mzero ((mzero (mzero (mzero (mset (mzero ((mzero ((mzero (mzero (mzero (mzero (mzero (mclone ((mzero (mset (mzero (mzero (mzero (mzero (mset (mzero ((mzero (mzero ((mzero (mfill (mfill (mset (mset (mzero ((mzero (mset (mzero ((mzero (mzero (mzero (mzero (mzero (mzero (mzero (mzero (mzero ((mzero (mset (mset (mzero (mzero (mzero (mzero ((mzero ((mzero (mzero (mzero (mzero (mzero (mclone ((mzero (mset (mzero (mzero (mzero (mzero (mset (mzero ((mzero (mzero ((mzero (mfill (mfill (mset (mset (mzero ((mzero (mset (mzero ((mzero (mzero (mzero (mzero (mzero (mzero (mzero (mzero (mzero ((mzero (mset (mset (mzero (mzero (mzero (mzero ((mzero ((mzero ((mzero (M) 5)) 6)) 7)) 8) 9) 10) 11) 7 4 0) 7 5 0) 12)) 13) 14) 15) 16) 17) 18) 19) 20) 21)) 22) 21 1 0) 23)) 24) 23 1 0) 12 11 (-1)) 13 400 (-1)) 15 200 (-1)) 25)) 26) 27)) 28) 27 1 0) 29) 30) 31) 32) 25 8 0) 33)) 0 34) 35) 36) 37) 38) 39)) 40)) 41) 42) 43) 44) 40 4 0) 40 5 0) 45)) 46) 47) 48) 49) 50) 51) 52) 53) 54)) 55) 54 1 0) 56)) 57) 56 1 0) 45 11 (-1)) 46 400 (-1)) 48 200 (-1)) 58)) 59) 60)) 61) 60 1 0) 62) 63) 64) 65) 58 8 0) 66)) 0 67) 68) 69) 70) 71) 72)) 73)) 74) 73 1 0) 75) 76) 77)) 78) 77 1 0) 72 7 (-1)) 72 8 (-1)) 72 9 0) 79)) 80)) 81) 80 1 0) 82)) 83) 82 1 0) 79 3 0) 79 4 0) 84)) 85) 86) 84 2 0) 84 3 0) 84 4 0) 84 5 (-1)) 84 6 0) 5 5 0) 87)) 88) 89) 90) 91) 92) 93) 94) 87 16 (-1)) 95) 88 2000 (-1)) 88 2002 70) 88 2003 50) 88 2005 1) 88 2006 1) 88 2007 1) 96) 97
theorem start_at (d : Nat) (M : mM) : ev prog (d + 5) 299 0 0 [vr 3, vj, vj, vj, vj, vj, vj, vj, vj, vj] [] (mRo, M) = ev prog (d + 5) 299 93 7 (lL 0) [] (shp, iM M) := law_start d M
theorem iM_88 {M : mM} {j : Nat} (h : j ≠ 2000 ∧ j ≠ 2002 ∧ j ≠ 2003 ∧ j ≠ 2005 ∧ j ≠ 2006 ∧ j ≠ 2007) : iM M 88 j = 0 := by
  obtain ⟨h1, h2, h3, h4, h5, h6⟩ := h
  show mset (mset (mset (mset (mset (mset _ 88 2000 (-1)) 88 2002 70) 88 2003 50) 88 2005 1) 88 2006 1) 88 2007 1 88 j = 0
  rw [mset_j h6, mset_j h5, mset_j h4, mset_j h3, mset_j h2, mset_j h1]
  rfl
theorem start_inv {M : mM} (h0 : M 0 0 = 70 ∧ M 0 1 = 50 ∧ M 0 2 = 0 ∧ M 0 3 = 1 ∧ M 0 4 = 1 ∧ M 0 5 = 1) (h1 : M 1 0 = 55 ∧ M 1 1 = 10 ∧ M 1 2 = 0 ∧ M 1 3 = 1 ∧ M 1 4 = 1 ∧ M 1 5 = 1) (h2 : M 2 0 = 95 ∧ M 2 1 = 90 ∧ M 2 2 = 3 ∧ M 2 3 = 9 ∧ M 2 4 = 9 ∧ M 2 5 = 9) (h3 : M 3 = K.1) (h4 : M 4 = K.2) : Inv K (iM M) := by
  have z : ∀ r g n lo hi, (∀ j, iM M r j = 0) → (∀ j, j < n → g + j ≠ 2000 ∧ g + j ≠ 2002 ∧ g + j ≠ 2003 ∧ g + j ≠ 2005 ∧ g + j ≠ 2006 ∧ g + j ≠ 2007) → lo ≤ 0 → 0 ≤ hi → rw2 (iM M) r g n lo hi := fun r g n lo hi hr hg hl hh j hj => by
    rw [hr j, iM_88 (hg j hj)]
    exact ⟨rfl, hl, hh⟩
  obtain ⟨a0, a1, a2, a3, a4, a5⟩ := h0
  have o : ∀ j, iM M 34 j = M 0 j := fun j => rfl
  have op : rw2 (iM M) 34 2002 6 0 95 := by
    intro j hj
    rw [o]
    obtain rfl | rfl | rfl | rfl | rfl | rfl : j = 0 ∨ j = 1 ∨ j = 2 ∨ j = 3 ∨ j = 4 ∨ j = 5 := by omega
    · rw [a0]; exact ⟨rfl, by decide⟩
    · rw [a1]; exact ⟨rfl, by decide⟩
    · rw [a2]; exact ⟨(iM_88 (by decide)).symm, by decide⟩
    · rw [a3]; exact ⟨rfl, by decide⟩
    · rw [a4]; exact ⟨rfl, by decide⟩
    · rw [a5]; exact ⟨rfl, by decide⟩
  refine ⟨⟨0, .leaf, ⟨⟨⟨0, rfl, by decide, iM_88 (by decide)⟩, z 8 0 600 _ _ (fun _ => rfl) (fun j hj => by omega) (by decide) (by decide), z 9 600 200 _ _ (fun _ => rfl) (fun j hj => by omega) (by decide) (by decide), z 10 800 200 _ _ (fun _ => rfl) (fun j hj => by omega) (by decide) (by decide), z 11 1000 200 _ _ (fun _ => rfl) (fun j hj => by omega) (by decide) (by decide), ⟨op, by rw [o, a2]; decide, by rw [o, a3]; decide, by rw [o, a4]; decide, by rw [o, a5]; decide⟩, z 35 2008 3 _ _ (fun _ => rfl) (fun j hj => by omega) (by decide) (by decide), z 36 2011 3 _ _ (fun _ => rfl) (fun j hj => by omega) (by decide) (by decide), z 37 2014 3 _ _ (fun _ => rfl) (fun j hj => by omega) (by decide) (by decide), z 38 2017 10 _ _ (fun _ => rfl) (fun j hj => by omega) (by decide) (by decide)⟩, ⟨rfl, by decide⟩, ⟨rfl, show (0 : Nat) ≤ 60 by decide⟩, ⟨rfl, List.nodup_nil, fun x hx => absurd hx List.not_mem_nil⟩, ⟨rfl, trivial, fun k hk => absurd hk (Nat.not_lt_zero _)⟩, fun p hp => absurd hp (Nat.not_lt_zero _), fun j hj => ?_⟩, ⟨⟨rfl, fun j x hx => by cases hx⟩, trivial, trivial, fun j hj _ => ?_⟩⟩, ⟨rfl, Or.inl rfl⟩, Cur_0 rfl rfl, ⟨rfl, 0, Nat.zero_le _, rfl, rfl, fun j hj => absurd hj (Nat.not_lt_zero _)⟩, h1, h2.1, h2.2.1, h2.2.2.1, h2.2.2.2.1, h2.2.2.2.2.1, h2.2.2.2.2.2, ?_, ?_⟩
  · rw [iM_88 (by omega)]; rfl
  · show mfill _ 15 200 (-1) 15 j = -1
    unfold mfill
    rw [if_pos ⟨rfl, hj⟩]
  · rw [← h3]; rfl
  · rw [← h4]; rfl
/-- the law, from its entry, answers 1 -/
theorem law_runs {M : mM} (h0 : M 0 0 = 70 ∧ M 0 1 = 50 ∧ M 0 2 = 0 ∧ M 0 3 = 1 ∧ M 0 4 = 1 ∧ M 0 5 = 1) (h1 : M 1 0 = 55 ∧ M 1 1 = 10 ∧ M 1 2 = 0 ∧ M 1 3 = 1 ∧ M 1 4 = 1 ∧ M 1 5 = 1) (h2 : M 2 0 = 95 ∧ M 2 1 = 90 ∧ M 2 2 = 3 ∧ M 2 3 = 9 ∧ M 2 4 = 9 ∧ M 2 5 = 9) (hl : 0 ≤ M 4 0 ∧ M 4 0 ≤ 3072) (d : Nat) : ∃ M', ev prog (d + 601) 299 0 0 [vr 3, vj, vj, vj, vj, vj, vj, vj, vj, vj] [] (mRo, M) = some (.inl (some (vi 1)), (shp, M')) := by
  obtain ⟨M', h⟩ := law_loop (K := (M 3, M 4)) d hl 512 93 0 (iM M) (start_inv h0 h1 h2 rfl rfl) (Int.le_refl _) (by show M 4 0 < _; omega) (by decide)
  exact ⟨M', (start_at (d + 596) M).trans h⟩
