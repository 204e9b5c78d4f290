/-! LOOPS COUNTED UP -/
theorem up_to {α : Type} (E : Nat → α) (n : Nat) (h : ∀ i, i < n → E i = E (i + 1)) : E 0 = E n := by
  have key : ∀ k, k ≤ n → E 0 = E k := by
    intro k
    induction k with
    | zero => intro _; rfl
    | succ k ih => intro hk; rw [ih (by omega), h k (by omega)]
  exact key n (Nat.le_refl n)
theorem up_inv {α : Type} (E : mM → Nat → α) (I : Nat → mM → Prop) (n : Nat) (h : ∀ i M, i < n → I i M → ∃ M', E M i = E M' (i + 1) ∧ I (i + 1) M') {M : mM} (h0 : I 0 M) : ∃ M', E M 0 = E M' n ∧ I n M' := by
  have key : ∀ k, k ≤ n → ∃ M', E M 0 = E M' k ∧ I k M' := by
    intro k
    induction k with
    | zero => intro _; exact ⟨M, rfl, h0⟩
    | succ k ih =>
      intro hk
      obtain ⟨M1, a1, a2⟩ := ih (by omega)
      obtain ⟨M2, b1, b2⟩ := h k M1 (by omega) a2
      exact ⟨M2, a1.trans b1, b2⟩
  exact key n (Nat.le_refl n)
theorem up_ex {α : Type} (E : Nat → α) (R : α) (P : Nat → Prop) (n : Nat) (h : ∀ i, i < n → P i → E i = R ∨ (E i = E (i + 1) ∧ P (i + 1))) (h0 : P 0) (hn : P n → E n = R) : E 0 = R := by
  have key : ∀ q i, i + q = n → P i → E i = R := by
    intro q
    induction q with
    | zero => intro i hi hp; rw [show i = n by omega] at hp ⊢; exact hn hp
    | succ q ih =>
      intro i hi hp
      rcases h i (by omega) hp with h1 | ⟨h1, h2⟩
      · exact h1
      · rw [h1]; exact ih (i + 1) (by omega) h2
  exact key n 0 (by omega) h0
theorem wI {n : Nat} (h : n < 2147483647) : wr ((n : Int) + 1) = ((n + 1 : Nat) : Int) := wr_id (by unfold inR; omega)
theorem wN {n : Nat} (h : n < 2147483648) : wr (n : Int) = (n : Int) := wr_id (by unfold inR; omega)
theorem w0 {n : Nat} (h : n < 2147483648) : wr ((n : Int) + 0) = (n : Int) := by rw [Int.add_zero]; exact wN h
theorem bt {b : Bool} (h : b = true) : ¬ bi b = 0 := by rw [h]; decide
theorem bf {b : Bool} (h : b = false) : bi b = 0 := by rw [h]; rfl
