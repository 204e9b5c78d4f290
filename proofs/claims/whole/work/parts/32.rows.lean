/-! ROWS OF NUMBERS -/
def va (M : mM) (k n : Nat) (i : Int) : Int := if 0 ≤ i ∧ i < n then M k i.toNat else -1
def pu (M : mM) (k n : Nat) (i v : Int) : mM := if 0 ≤ i ∧ i < n then mset M k i.toNat v else M
def mfill (M : mM) (k n : Nat) (v : Int) : mM := fun a j => if a = k ∧ j < n then v else M a j
def bi (b : Bool) : Int := match b with
  | true => 1
  | false => 0
theorem run_def (P : mP) (d m : Nat) (as : List mV) (σ : mS) : run P d m as σ = ev P d m 0 0 (pPad P m as) [] σ := rfl
theorem callK_ite {c : Prop} [Decidable c] (a b : mR) (k : Option mV → mS → mR) (x : Nat → mS → mR) : callK (if c then a else b) k x = if c then callK a k x else callK b k x := by
  by_cases h : c
  · rw [if_pos h, if_pos h]
  · rw [if_neg h, if_neg h]
theorem bit_bi (b : Bool) : bit? (bi b) = true := by cases b <;> rfl
theorem bi_0 (b : Bool) : (bi b = 0) = (b = false) := by cases b <;> simp [bi]
theorem mset_at (M : mM) (k j : Nat) (x : Int) : mset M k j x k j = x := by unfold mset; simp
theorem mset_k {M : mM} {k k' j j' : Nat} {x : Int} (h : k' ≠ k) : mset M k j x k' j' = M k' j' := by unfold mset; rw [if_neg (fun q => h q.1)]
theorem mset_j {M : mM} {k k' j j' : Nat} {x : Int} (h : j' ≠ j) : mset M k j x k' j' = M k' j' := by unfold mset; rw [if_neg (fun q => h q.2)]
theorem pu_k {M : mM} {k k' n j' : Nat} {i x : Int} (h : k' ≠ k) : pu M k n i x k' j' = M k' j' := by
  unfold pu
  split
  · exact mset_k h
  · rfl
theorem pu_in {M : mM} {k n : Nat} {i x : Int} (h : 0 ≤ i ∧ i < n) : pu M k n i x = mset M k i.toNat x := by unfold pu; rw [if_pos h]
theorem va_in {M : mM} {k n : Nat} {i : Int} (h : 0 ≤ i ∧ i < n) : va M k n i = M k i.toNat := by unfold va; rw [if_pos h]
theorem va_out {M : mM} {k n : Nat} {i : Int} (h : ¬ (0 ≤ i ∧ i < n)) : va M k n i = -1 := by unfold va; rw [if_neg h]
theorem va_pu {M : mM} {k k' n n' : Nat} {i x j : Int} (h : k' ≠ k) : va (pu M k n i x) k' n' j = va M k' n' j := by
  unfold va
  rw [pu_k h]
theorem va_mset {M : mM} {k k' b n' : Nat} {x j : Int} (h : k' ≠ k) : va (mset M k b x) k' n' j = va M k' n' j := by
  unfold va
  rw [mset_k h]
section VA
variable {sh : List mSh} {k n : Nat} {M : mM}
theorem sp_va (d : Nat) (i : Int) (hI : alI (sh, M) k = (n : Int)) (hA : alA (sh, M) k = (n : Int)) (hn : 0 < n) : run prog (d + 1) 19 [vr k, vi i] (sh, M) = some (.inl (some (vi (va M k n i))), (sh, M)) := by
  show ev prog (d + 1) 19 0 0 [vr k, vi i] [] (sh, M) = _
  have e0 : ev prog (d + 1) 19 0 0 [vr k, vi i] [] (sh, M) = if i < 0 then ev prog (d + 1) 19 0 5 [vj, vj] [] (sh, M) else ev prog (d + 1) 19 0 1 [vr k, vi i] [] (sh, M) := by rw [ev_eq]; rfl
  have e1 : ev prog (d + 1) 19 0 1 [vr k, vi i] [] (sh, M) = if 0 < alA (sh, M) k then ev prog (d + 1) 19 0 2 [vr k, vi i] [vi (alA (sh, M) k), vi i] (sh, M) else none := by rw [ev_eq]; rfl
  have e2 : ∀ a, ev prog (d + 1) 19 0 2 [vr k, vi i] [vi a, vi i] (sh, M) = if i < a then ev prog (d + 1) 19 0 3 [vr k, vi i] [] (sh, M) else ev prog (d + 1) 19 0 5 [vj, vj] [] (sh, M) := fun a => by rw [ev_eq]; rfl
  have e3 : ev prog (d + 1) 19 0 3 [vr k, vi i] [] (sh, M) = if 0 ≤ i ∧ i < alI (sh, M) k then ev prog (d + 1) 19 0 4 [vj, vj] [vi (M k i.toNat)] (sh, M) else none := by rw [ev_eq]; rfl
  have e4 : ∀ a, ev prog (d + 1) 19 0 4 [vj, vj] [vi a] (sh, M) = ev prog (d + 1) 19 0 6 [vj, vj] [vi a] (sh, M) := fun a => by rw [ev_eq]; rfl
  have e5 : ev prog (d + 1) 19 0 5 [vj, vj] [] (sh, M) = ev prog (d + 1) 19 0 6 [vj, vj] [vi (-1)] (sh, M) := by rw [ev_eq]; rfl
  have e6 : ∀ a, ev prog (d + 1) 19 0 6 [vj, vj] [vi a] (sh, M) = some (.inl (some (vi a)), (sh, M)) := fun a => by rw [ev_eq]; rfl
  rw [e0]
  by_cases h0 : i < 0
  · rw [if_pos h0, e5, e6, va_out (by omega)]
  · rw [if_neg h0, e1, hA, if_pos (by omega), e2]
    by_cases h1 : i < (n : Int)
    · rw [if_pos h1, e3, hI, if_pos (by omega), e4, e6, va_in (by omega)]
    · rw [if_neg h1, e5, e6, va_out (by omega)]
theorem sp_pu (d : Nat) (i v : Int) (hI : alK (sh, M) 1 k = (n : Int)) (hA : alA (sh, M) k = (n : Int)) (hn : 0 < n) : run prog (d + 1) 17 [vr k, vi i, vi v] (sh, M) = some (.inl none, (sh, pu M k n i v)) := by
  show ev prog (d + 1) 17 0 0 [vr k, vi i, vi v] [] (sh, M) = _
  have e0 : ev prog (d + 1) 17 0 0 [vr k, vi i, vi v] [] (sh, M) = if i < 0 then ev prog (d + 1) 17 0 4 [vj, vj, vj] [] (sh, M) else ev prog (d + 1) 17 0 1 [vr k, vi i, vi v] [] (sh, M) := by rw [ev_eq]; rfl
  have e1 : ev prog (d + 1) 17 0 1 [vr k, vi i, vi v] [] (sh, M) = if 0 < alA (sh, M) k then ev prog (d + 1) 17 0 2 [vr k, vi i, vi v] [vi (alA (sh, M) k), vi i] (sh, M) else none := by rw [ev_eq]; rfl
  have e2 : ∀ a, ev prog (d + 1) 17 0 2 [vr k, vi i, vi v] [vi a, vi i] (sh, M) = if i < a then ev prog (d + 1) 17 0 3 [vr k, vi i, vi v] [] (sh, M) else ev prog (d + 1) 17 0 4 [vj, vj, vj] [] (sh, M) := fun a => by rw [ev_eq]; rfl
  have e3 : ev prog (d + 1) 17 0 3 [vr k, vi i, vi v] [] (sh, M) = if 0 ≤ i ∧ i < alK (sh, M) 1 k then ev prog (d + 1) 17 0 4 [vj, vj, vj] [] (sh, mset M k i.toNat v) else none := by rw [ev_eq]; rfl
  have e4 : ∀ M', ev prog (d + 1) 17 0 4 [vj, vj, vj] [] (sh, M') = some (.inl none, (sh, M')) := fun M' => by rw [ev_eq]; rfl
  rw [e0]
  by_cases h0 : i < 0
  · rw [if_pos h0, e4]; unfold pu; rw [if_neg (by omega)]
  · rw [if_neg h0, e1, hA, if_pos (by omega), e2]
    by_cases h1 : i < (n : Int)
    · rw [if_pos h1, e3, hI, if_pos (by omega), e4, pu_in (by omega)]
    · rw [if_neg h1, e4]; unfold pu; rw [if_neg (by omega)]
theorem sp_putPlace (d : Nat) (x y z : Int) (hI : ∀ M : mM, alK (sh, M) 1 k = ((3 : Nat) : Int)) (hA : ∀ M : mM, alA (sh, M) k = ((3 : Nat) : Int)) : run prog (d + 2) 149 [vr k, vi x, vi y, vi z] (sh, M) = some (.inl none, (sh, mset (mset (mset M k 0 x) k 1 y) k 2 z)) := by
  show ev prog (d + 2) 149 0 0 [vr k, vi x, vi y, vi z] [] (sh, M) = _
  have e0 : ev prog (d + 2) 149 0 0 [vr k, vi x, vi y, vi z] [] (sh, M) = callK (run prog (d + 1) 17 [vr k, vi 0, vi x] (sh, M)) (fun v σ1 => ev prog (d + 2) 149 0 1 [vr k, vj, vi y, vi z] (psh v []) σ1) (fun e σ1 => hk [0, 0, 0, 0, 0] e σ1 (fun t => ev prog (d + 2) 149 0 t (msk (pMask prog 149 t) [vr k, vi x, vi y, vi z]) [vj] σ1)) := by rw [ev_eq]; rfl
  have e1 : ∀ M, ev prog (d + 2) 149 0 1 [vr k, vj, vi y, vi z] [] (sh, M) = callK (run prog (d + 1) 17 [vr k, vi 1, vi y] (sh, M)) (fun v σ1 => ev prog (d + 2) 149 0 2 [vr k, vj, vj, vi z] (psh v []) σ1) (fun e σ1 => hk [0, 0, 0, 0, 0] e σ1 (fun t => ev prog (d + 2) 149 0 t (msk (pMask prog 149 t) [vr k, vj, vi y, vi z]) [vj] σ1)) := fun M => by rw [ev_eq]; rfl
  have e2 : ∀ M, ev prog (d + 2) 149 0 2 [vr k, vj, vj, vi z] [] (sh, M) = callK (run prog (d + 1) 17 [vr k, vi 2, vi z] (sh, M)) (fun v σ1 => ev prog (d + 2) 149 0 3 [vj, vj, vj, vj] (psh v []) σ1) (fun e σ1 => hk [0, 0, 0, 0, 0] e σ1 (fun t => ev prog (d + 2) 149 0 t (msk (pMask prog 149 t) [vr k, vj, vj, vi z]) [vj] σ1)) := fun M => by rw [ev_eq]; rfl
  have e3 : ∀ M', ev prog (d + 2) 149 0 3 [vj, vj, vj, vj] [] (sh, M') = some (.inl none, (sh, M')) := fun M' => by rw [ev_eq]; rfl
  rw [e0, sp_pu d 0 x (hI M) (hA M) (by decide), callK_r, psh_n, e1, sp_pu d 1 y (hI _) (hA _) (by decide), callK_r, psh_n, e2, sp_pu d 2 z (hI _) (hA _) (by decide), callK_r, psh_n, e3]
  rw [pu_in (by decide), pu_in (by decide), pu_in (by decide)]
  rfl
theorem sp_copyRow (d : Nat) {ks kd : Nat} (hA : alA (sh, M) ks = (n : Int)) (hB : alA (sh, M) kd = (n : Int)) (hI : alK (sh, M) 1 ks = (n : Int)) (hJ : alK (sh, M) 1 kd = (n : Int)) (hn : 0 < n) : run prog (d + 1) 288 [vr ks, vr kd] (sh, M) = some (.inl none, (sh, mcpy M ks kd n)) := by
  show ev prog (d + 1) 288 0 0 [vr ks, vr kd] [] (sh, M) = _
  have e0 : ev prog (d + 1) 288 0 0 [vr ks, vr kd] [] (sh, M) = if 0 < alA (sh, M) ks then ev prog (d + 1) 288 0 1 [vj, vr kd] [vi (alA (sh, M) ks), vi 0, vr kd, vi 0, vr ks] (sh, M) else none := by rw [ev_eq]; rfl
  have e1 : ∀ a, ev prog (d + 1) 288 0 1 [vj, vr kd] [vi a, vi 0, vr kd, vi 0, vr ks] (sh, M) = if 0 < alA (sh, M) kd then ev prog (d + 1) 288 0 2 [vj, vj] [vi (alA (sh, M) kd), vi a, vi 0, vr kd, vi 0, vr ks] (sh, M) else none := fun a => by rw [ev_eq]; rfl
  have e2 : ∀ a b, ev prog (d + 1) 288 0 2 [vj, vj] [vi b, vi a, vi 0, vr kd, vi 0, vr ks] (sh, M) = if ((0 : Int) = 0 ∧ (0 : Int) = 0 ∧ ([] : List mV).length ≤ 20) ∧ 0 < (if b < a then b else a) ∧ (if b < a then b else a) ≤ alK (sh, M) 1 ks ∧ (if b < a then b else a) ≤ alK (sh, M) 1 kd then ev prog (d + 1) 288 0 3 [vj, vj] [] (sh, mcpy M ks kd (if b < a then b else a).toNat) else none := fun a b => by rw [ev_eq]; rfl
  have e3 : ∀ M', ev prog (d + 1) 288 0 3 [vj, vj] [] (sh, M') = some (.inl none, (sh, M')) := fun M' => by rw [ev_eq]; rfl
  rw [e0, hA, if_pos (by omega), e1, hB, if_pos (by omega), e2, hI, hJ, if_neg (Int.lt_irrefl _), if_pos ⟨⟨rfl, rfl, Nat.zero_le _⟩, by omega, Int.le_refl _, Int.le_refl _⟩, e3, Int.toNat_natCast]
theorem sp_fill (d : Nat) (v : Int) (hA : ∀ M : mM, alA (sh, M) k = (n : Int)) (hI : ∀ M : mM, alK (sh, M) 1 k = (n : Int)) (hn : 0 < n) (h2 : n < 2147483648) : run prog (d + 1) 2 [vr k, vi v] (sh, M) = some (.inl none, (sh, mfill M k n v)) := by
  show ev prog (d + 1) 2 0 0 [vr k, vi v, vj, vj] [] (sh, M) = _
  have e0 : ev prog (d + 1) 2 0 0 [vr k, vi v, vj, vj] [] (sh, M) = if 0 < alA (sh, M) k then ev prog (d + 1) 2 0 1 [vr k, vi v, vi 0, vj] [vi (alA (sh, M) k)] (sh, M) else none := by rw [ev_eq]; rfl
  have e1 : ∀ a, ev prog (d + 1) 2 0 1 [vr k, vi v, vi 0, vj] [vi a] (sh, M) = ev prog (d + 1) 2 0 2 [vr k, vi v, vi 0, vi a] [] (sh, M) := fun a => by rw [ev_eq]; rfl
  have e2 : ∀ (M : mM) i a, ev prog (d + 1) 2 0 2 [vr k, vi v, vi i, vi a] [] (sh, M) = if i < a then ev prog (d + 1) 2 0 3 [vr k, vi v, vi i, vi a] [] (sh, M) else ev prog (d + 1) 2 0 5 [vj, vj, vj, vj] [] (sh, M) := fun M i a => by rw [ev_eq]; rfl
  have e3 : ∀ (M : mM) i a, ev prog (d + 1) 2 0 3 [vr k, vi v, vi i, vi a] [] (sh, M) = if 0 ≤ i ∧ i < alK (sh, M) 1 k then ev prog (d + 1) 2 0 4 [vr k, vi v, vi i, vi a] [] (sh, mset M k i.toNat v) else none := fun M i a => by rw [ev_eq]; rfl
  have e4 : ∀ (M : mM) i a, ev prog (d + 1) 2 0 4 [vr k, vi v, vi i, vi a] [] (sh, M) = ev prog (d + 1) 2 0 2 [vr k, vi v, vi (wr (i + 1)), vi a] [] (sh, M) := fun M i a => by rw [ev_eq]; rfl
  have e5 : ∀ M', ev prog (d + 1) 2 0 5 [vj, vj, vj, vj] [] (sh, M') = some (.inl none, (sh, M')) := fun M' => by rw [ev_eq]; rfl
  have key : ∀ (q i : Nat) (M1 : mM), i + q = n → (∀ a j, M1 a j = if a = k ∧ j < i then v else M a j) → ev prog (d + 1) 2 0 2 [vr k, vi v, vi (i : Int), vi (n : Int)] [] (sh, M1) = some (.inl none, (sh, mfill M k n v)) := by
    intro q
    induction q with
    | zero =>
      intro i M1 hi h
      rw [e2, if_neg (by omega), e5]
      have : M1 = mfill M k n v := by
        funext a j
        rw [h]
        unfold mfill
        rw [show i = n by omega]
      rw [this]
    | succ q ih =>
      intro i M1 hi h
      rw [e2, if_pos (by omega), e3, hI, if_pos (by omega), e4, wr_id (show inR ((i : Int) + 1) by unfold inR; omega)]
      refine ih (i + 1) _ (by omega) (fun a j => ?_)
      rw [Int.toNat_natCast]
      unfold mset
      rw [h]
      by_cases h1 : a = k ∧ j = i
      · rw [if_pos h1, if_pos ⟨h1.1, by omega⟩]
      · rw [if_neg h1]
        by_cases h3 : a = k ∧ j < i
        · rw [if_pos h3, if_pos ⟨h3.1, by omega⟩]
        · rw [if_neg h3, if_neg (fun z => h1 ⟨z.1, by have := z.2; by_cases h4 : j < i; exact absurd ⟨z.1, h4⟩ h3; omega⟩)]
  rw [e0, hA, if_pos (by omega), e1]
  exact key n 0 M (by omega) (fun a j => by rw [if_neg (fun z => absurd z.2 (Nat.not_lt_zero _))])
end VA
