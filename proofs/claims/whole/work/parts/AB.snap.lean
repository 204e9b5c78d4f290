/-! THE SNAPSHOT -/
variable {K : KK}
theorem t26a (d : Nat) (x1 x2 : Int) (M : mM) : ∃ M', run prog (d + 3) 26 [vr 45, vi x1, vi x2] (shp, M) = some (.inl none, (shp, M')) ∧ same [47, 48, 56, 57] M M' := by
  rw [s26a]
  unfold o26a
  split
  · exact ⟨M, rfl, same.rf⟩
  · split <;> split
    all_goals first
      | exact ⟨_, rfl, (((same_pu.mono (by decide)).tr (same_pu.mono (by decide))).tr (same_pu.mono (by decide))).tr (same_mset.mono (by decide))⟩
      | exact ⟨_, rfl, (same_pu.mono (by decide)).tr (same_pu.mono (by decide))⟩
theorem t25g (d : Nat) (x1 : Int) (M : mM) : ∃ M', run prog (d + 2) 25 [vr 54, vi x1] (shp, M) = some (.inl none, (shp, M')) ∧ same [54, 55] M M' := by
  rw [s25g]
  unfold o25g
  split
  · exact ⟨_, rfl, (same_pu.mono (by decide)).tr (same_mset.mono (by decide))⟩
  · exact ⟨M, rfl, same.rf⟩
theorem t27b (d : Nat) (M : mM) : ∃ v M', run prog (d + 2) 27 [vr 56] (shp, M) = some (.inl (some (vi v)), (shp, M')) ∧ same [56, 57] M M' := by
  rw [s27b]
  unfold o27b
  split
  · exact ⟨_, M, rfl, same.rf⟩
  · exact ⟨_, _, rfl, same_mset.mono (by decide)⟩
theorem t29l (d : Nat) : ∀ (q i : Nat) (M : mM), i + q = 200 → ∃ M', ev prog (d + 4) 29 0 5 [vr 45, vi (i : Int), vj] [] (shp, M) = some (.inl none, (shp, M')) ∧ same [47, 48, 53, 54, 55, 56, 57] M M' := by
  intro q
  induction q with
  | zero =>
    intro i M hi
    refine ⟨M, ?_, same.rf⟩
    rw [g29a_5, if_neg (by omega)]
  | succ q ih =>
    intro i M hi
    by_cases c : 0 < M 56 1
    · obtain ⟨v, M1, a1, a2⟩ := t27b (d + 1) M
      obtain ⟨M2, b1, b2⟩ := t25g (d + 1) v (pu M1 53 200 v (M1 54 1))
      obtain ⟨M3, c1, c2⟩ := t26a d (r28a v 1 M2) v M2
      obtain ⟨M4, e1, e2⟩ := t26a d (r28a v 0 M3) v M3
      obtain ⟨M5, f1, f2⟩ := ih (i + 1) M4 (by omega)
      refine ⟨M5, ?_, (((((a2.mono (by decide)).tr (same_pu.mono (by decide))).tr (b2.mono (by decide))).tr (c2.mono (by decide))).tr (e2.mono (by decide))).tr f2⟩
      rw [g29a_5, if_pos (by omega), if_pos c, a1, callK_r, psh_s, g29a_8, b1, callK_r, psh_n, g29a_10, c1, callK_r, psh_n, g29a_12, e1, callK_r, psh_n, g29a_14, wI (by omega), f1]
    · refine ⟨M, ?_, same.rf⟩
      rw [g29a_5, if_pos (by omega), if_neg c]
theorem same_mfill {M : mM} {k n : Nat} {x : Int} : same [k] M (mfill M k n x) := fun k' hk => by
  have h : k' ≠ k := fun e => hk (by rw [e]; exact List.mem_cons_self)
  funext j
  unfold mfill
  rw [if_neg (fun q => h q.1)]
theorem same_mcpy {M : mM} {k k' n : Nat} : same [k'] M (mcpy M k k' n) := fun a ha => by
  have h : a ≠ k' := fun e => ha (by rw [e]; exact List.mem_cons_self)
  funext j
  unfold mcpy
  rw [if_neg (fun q => h q.1)]
theorem t29 (d : Nat) (M : mM) : ∃ M', run prog (d + 4) 29 [vr 45] (shp, M) = some (.inl none, (shp, M')) ∧ same [47, 48, 53, 54, 55, 56, 57] M M' := by
  show ∃ M', ev prog (d + 4) 29 0 0 [vr 45, vj, vj] [] (shp, M) = _ ∧ _
  obtain ⟨M1, a1, a2⟩ := t26a d (M 45 11) (-1) (mset (mset (mfill M 48 200 (-1)) 54 1 0) 56 1 0)
  obtain ⟨M2, b1, b2⟩ := t29l d 200 0 M1 (by omega)
  refine ⟨M2, ?_, (((((same_mfill.mono (by decide)).tr (same_mset.mono (by decide))).tr (same_mset.mono (by decide)))).tr (a2.mono (by decide))).tr b2⟩
  rw [g29a_0, a1, callK_r, psh_n, g29a_4]
  exact b1
theorem t37l (d : Nat) (x1 x2 x3 x4 : Int) : ∀ (q i : Nat) (M : mM), i + q = 3 → ∃ M', ev prog (d + 3) 37 0 13 [vr 45, vi x1, vi x2, vi x3, vi x4, vi (i : Int), vj, vj, vj] [] (shp, M) = some (.inl none, (shp, M')) ∧ same [49, 50, 51, 52] M M' := by
  intro q
  induction q with
  | zero =>
    intro i M hi
    refine ⟨M, ?_, same.rf⟩
    rw [g37a_13, if_neg (by omega)]
  | succ q ih =>
    intro i M hi
    rw [g37a_13, if_pos (by omega), wI (by omega)]
    by_cases c : x4 = 0
    · rw [if_pos c, if_pos c]
      obtain ⟨M', a1, a2⟩ := ih (i + 1) _ (by omega)
      exact ⟨M', a1, ((same_pu.mono (by decide)).tr (same_pu.mono (by decide))).tr a2⟩
    · rw [if_neg c, if_neg c]
      obtain ⟨M', a1, a2⟩ := ih (i + 1) _ (by omega)
      exact ⟨M', a1, ((same_pu.mono (by decide)).tr (same_pu.mono (by decide))).tr a2⟩
theorem t37 (d : Nat) (x1 : Int) (M : mM) : ∃ M', run prog (d + 3) 37 [vr 45, vi x1] (shp, M) = some (.inl none, (shp, M')) ∧ same [49, 50, 51, 52] M M' := by
  show ∃ M', ev prog (d + 3) 37 0 0 [vr 45, vi x1, vj, vj, vj, vj, vj, vj, vj] [] (shp, M) = _ ∧ _
  rw [g37a_0]
  by_cases c : bi (p32a x1 M) = 0
  · rw [if_pos c]
    obtain ⟨M', a1, a2⟩ := t37l d x1 (r28a x1 0 M) (r28a x1 1 M) (bi (p32a x1 M)) 3 0 _ (by omega)
    exact ⟨M', a1, ((same_pu.mono (by decide)).tr (same_pu.mono (by decide))).tr a2⟩
  · rw [if_neg c]
    obtain ⟨M', a1, a2⟩ := t37l d x1 (r28a x1 0 M) (r28a x1 1 M) (bi (p32a x1 M)) 3 0 _ (by omega)
    exact ⟨M', a1, ((same_pu.mono (by decide)).tr (same_pu.mono (by decide))).tr a2⟩
theorem t38l (d : Nat) : ∀ (q : Nat) (x : Int) (M : mM), x < q → -2147483648 ≤ x → x ≤ 2147483647 → ∃ M', ev prog (d + 5) 38 0 2 [vr 45, vi x] [] (shp, M) = some (.inl none, (shp, M')) ∧ same [49, 50, 51, 52] M M' := by
  intro q
  induction q with
  | zero =>
    intro x M h _ _
    refine ⟨M, ?_, same.rf⟩
    rw [g38a_2, if_pos (by omega)]
  | succ q ih =>
    intro x M h h1 h2
    by_cases c : x < 0
    · refine ⟨M, ?_, same.rf⟩
      rw [g38a_2, if_pos c]
    · obtain ⟨M1, a1, a2⟩ := t37 (d + 1) (r30f x M) M
      obtain ⟨M2, b1, b2⟩ := ih (x - 1) M1 (by omega) (by omega) (by omega)
      refine ⟨M2, ?_, a2.tr b2⟩
      have w : wr (x + -1) = x - 1 := by rw [show x + -1 = x - 1 by omega]; exact wrR (by omega) (by omega)
      rw [g38a_2, if_neg c, a1, callK_r, psh_n, g38a_5, w, b1]
theorem t38 (d : Nat) (M : mM) : ∃ M', run prog (d + 5) 38 [vr 45] (shp, M) = some (.inl none, (shp, M')) ∧ same [47, 48, 49, 50, 51, 52, 53, 54, 55, 56, 57] M M' := by
  show ∃ M', ev prog (d + 5) 38 0 0 [vr 45, vj] [] (shp, M) = _ ∧ _
  obtain ⟨M1, a1, a2⟩ := t29 d M
  have w := wr_inR (M1 54 1 - 1)
  unfold inR at w
  obtain ⟨M2, b1, b2⟩ := t38l d 2147483648 (wr (M1 54 1 - 1)) M1 (show wr (M1 54 1 - 1) < ((2147483648 : Nat) : Int) from by have := w.2; generalize wr (M1 54 1 - 1) = z at this; omega) w.1 (by have := w.2; generalize wr (M1 54 1 - 1) = z at this ⊢; omega)
  refine ⟨M2, ?_, (a2.mono (by decide)).tr (b2.mono (by decide))⟩
  rw [g38a_0, a1, callK_r, psh_n, g38a_1, b1]
