theorem goB_mono {J J' : mJ} {C C' : mC} (hJ : leJ J J') (hC : leC C C') (u : Nat) (code : List mI) (st : mSt) : leR (goB J C u code st) (goB J' C' u code st) := by
  unfold goB
  split
  · exact leR.none _
  · exact goT_mono hJ hC _ _ _ _ _
theorem goP_mono {P : mP} {m : Nat} {J J' : mJ} {C C' : mC} (hJ : leJ J J') (hC : leC C C') : leJ (goP P m J C) (goP P m J' C') := by
  intro u b L S σ
  unfold goP
  split
  · exact leR.none _
  · exact goB_mono (fun u' b' L1 S1 σ1 => hJ _ _ _ _ _) hC _ _ _
theorem exec_step (P : mP) : ∀ n d m, leJ (exec P n d m) (exec P (n + 1) d m) := by
  intro n
  induction n with
  | zero => intro d m u b L S σ; exact leR.none _
  | succ n ih =>
    intro d m
    show leJ (goP P m (exec P n d m) _) (goP P m (exec P (n + 1) d m) _)
    refine goP_mono (ih d m) ?_
    cases d with
    | zero => intro a as σ; exact leR.rf _
    | succ d => intro a as σ; exact ih d a _ _ _ _ _
theorem exec_le (P : mP) {n k : Nat} (h : n ≤ k) (d m : Nat) : leJ (exec P n d m) (exec P k d m) := by
  induction h with
  | refl => intro u b L S σ; exact leR.rf _
  | step _ ih => intro u b L S σ r hr; exact exec_step P _ d m u b L S σ r (ih u b L S σ r hr)
theorem ev_of {P : mP} {n d m u b : Nat} {L S : List mV} {σ : mS} {r : mO × mS} (h : exec P n d m u b L S σ = some r) : ev P d m u b L S σ = some r := by
  have hx : ∃ n, (exec P n d m u b L S σ).isSome = true := ⟨n, by rw [h]; rfl⟩
  have h1 : ev P d m u b L S σ = exec P (Classical.choose hx) d m u b L S σ := by
    show @dite mR _ (Classical.propDecidable _) _ _ = _
    rw [dif_pos hx]
  rw [h1]
  obtain ⟨q, hq⟩ := Option.isSome_iff_exists.mp (Classical.choose_spec hx)
  have e1 := exec_le P (Nat.le_max_left n (Classical.choose hx)) d m u b L S σ r h
  have e2 := exec_le P (Nat.le_max_right n (Classical.choose hx)) d m u b L S σ q hq
  rw [hq, ← e2, e1]
theorem ev_ex {P : mP} {d m u b : Nat} {L S : List mV} {σ : mS} {r : mO × mS} (h : ev P d m u b L S σ = some r) : ∃ n, exec P n d m u b L S σ = some r := by
  by_cases hx : ∃ n, (exec P n d m u b L S σ).isSome = true
  · have h1 : ev P d m u b L S σ = exec P (Classical.choose hx) d m u b L S σ := by
      show @dite mR _ (Classical.propDecidable _) _ _ = _
      rw [dif_pos hx]
    exact ⟨_, h1.symm.trans h⟩
  · have h1 : ev P d m u b L S σ = none := by
      show @dite mR _ (Classical.propDecidable _) _ _ = _
      rw [dif_neg hx]
    rw [h1] at h
    cases h
theorem goT_lim {J : mJ} {C : mC} (Jn : Nat → mJ) (Cn : Nat → mC) (mJn : ∀ n k, n ≤ k → leJ (Jn n) (Jn k)) (mCn : ∀ n k, n ≤ k → leC (Cn n) (Cn k))
    (hJ : ∀ u b L S σ r, J u b L S σ = some r → ∃ n, Jn n u b L S σ = some r) (hC : ∀ a as σ r, C a as σ = some r → ∃ n, Cn n a as σ = some r)
    (u : Nat) (L S : List mV) (σ : mS) (i : mI) (r : mO × mS) (h : goT J C u L S σ i = some r) : ∃ n, goT (Jn n) (Cn n) u L S σ i = some r := by
  have ite1 : ∀ {c : Prop} [Decidable c] {a b : mR} {f g : Nat → mR}, (if c then a else b) = some r → (a = some r → ∃ n, f n = some r) → (b = some r → ∃ n, g n = some r) → ∃ n, (if c then f n else g n) = some r := by
    intro c _ a b f g h ha hb
    by_cases hc : c
    · rw [if_pos hc] at h; obtain ⟨n, hn⟩ := ha h; exact ⟨n, by rw [if_pos hc]; exact hn⟩
    · rw [if_neg hc] at h; obtain ⟨n, hn⟩ := hb h; exact ⟨n, by rw [if_neg hc]; exact hn⟩
  have cmp : ∀ (c : ClassFile.Cond) (a b : Nat) (r1 : List mV) (x y : Int), goCmp J u a b L r1 σ c x y = some r → ∃ n, goCmp (Jn n) u a b L r1 σ c x y = some r := by
    intro c a b r1 x y h
    unfold goCmp at h ⊢
    cases c <;> exact ite1 h (hJ _ _ _ _ _ _) (hJ _ _ _ _ _ _)
  have nn : ∀ {f : Nat → mR}, (none : mR) = some r → ∃ n, f n = some r := fun h => by cases h
  unfold goT at h ⊢
  split at h
  · exact hJ _ _ _ _ _ _ h
  · exact hJ _ _ _ _ _ _ h
  · split at h
    · exact cmp _ _ _ _ _ _ h
    · exact cmp _ _ _ _ _ _ h
    · cases h
  · split at h
    · exact hJ _ _ _ _ _ _ h
    · cases h
  · exact ⟨0, h⟩
  · split at h
    · split at h
      · rename_i n cc cm rc hs _ _ hd
        cases hc : C i.2.2.1 (S.take n).reverse σ with
        | none => rw [hc] at h; cases h
        | some q =>
          obtain ⟨n1, h1⟩ := hC _ _ _ _ hc
          rw [hc] at h
          obtain ⟨o, σ1⟩ := q
          cases o with
          | inl v =>
            obtain ⟨n2, h2⟩ := hJ _ _ _ _ _ _ (show J _ _ _ _ _ = some r from h)
            refine ⟨max n1 n2, ?_⟩
            show callK (Cn (max n1 n2) _ _ _) _ _ = _
            rw [mCn _ _ (Nat.le_max_left n1 n2) _ _ _ _ h1]
            exact mJn _ _ (Nat.le_max_right n1 n2) _ _ _ _ _ _ h2
          | inr e =>
            have h' : (match hs.getD e 1 with
              | 0 => (some (.inr e, σ1) : mR)
              | 1 => none
              | t + 2 => J (u + cc) t L [vj] σ1) = some r := h
            cases ht : hs.getD e 1 with
            | zero =>
              rw [ht] at h'
              refine ⟨n1, ?_⟩
              show callK (Cn n1 _ _ _) _ _ = _
              rw [h1]
              show (match hs.getD e 1 with
              | 0 => (some (.inr e, σ1) : mR)
              | 1 => none
              | t + 2 => Jn n1 (u + cc) t L [vj] σ1) = some r
              rw [ht]
              exact h'
            | succ t =>
              rw [ht] at h'
              cases t with
              | zero => cases h'
              | succ t =>
              obtain ⟨n2, h2⟩ := hJ _ _ _ _ _ _ h'
              refine ⟨max n1 n2, ?_⟩
              show callK (Cn (max n1 n2) _ _ _) _ _ = _
              rw [mCn _ _ (Nat.le_max_left n1 n2) _ _ _ _ h1]
              show (match hs.getD e 1 with
              | 0 => (some (.inr e, σ1) : mR)
              | 1 => none
              | t + 2 => Jn (max n1 n2) (u + cc) t L [vj] σ1) = some r
              rw [ht]
              exact mJn _ _ (Nat.le_max_right n1 n2) _ _ _ _ _ _ h2
      · cases h
    · cases h
  · exact ⟨0, h⟩
  · unfold goRd at h ⊢
    split at h
    all_goals first
      | cases h; done
      | exact ite1 h (hJ _ _ _ _ _ _) nn
      | (split at h <;> first
          | exact ite1 h (hJ _ _ _ _ _ _) nn
          | exact hJ _ _ _ _ _ _ h
          | (cases h; done)
          | (split at h <;> first
              | exact ite1 h (hJ _ _ _ _ _ _) nn
              | exact hJ _ _ _ _ _ _ h
              | (cases h; done)))
  · unfold goWr at h ⊢
    split at h
    all_goals first
      | (cases h; done)
      | exact ite1 h (hJ _ _ _ _ _ _) nn
  · split at h
    · unfold goNw at h ⊢
      split at h
      all_goals first
        | (cases h; done)
        | (split at h <;> first
            | exact hJ _ _ _ _ _ _ h
            | (cases h; done))
    · cases h
  · cases h
theorem goP_lim {P : mP} {m : Nat} {J : mJ} {C : mC} (Jn : Nat → mJ) (Cn : Nat → mC) (mJn : ∀ n k, n ≤ k → leJ (Jn n) (Jn k)) (mCn : ∀ n k, n ≤ k → leC (Cn n) (Cn k))
    (hJ : ∀ u b L S σ r, J u b L S σ = some r → ∃ n, Jn n u b L S σ = some r) (hC : ∀ a as σ r, C a as σ = some r → ∃ n, Cn n a as σ = some r)
    (u b : Nat) (L S : List mV) (σ : mS) (r : mO × mS) (h : goP P m J C u b L S σ = some r) : ∃ n, goP P m (Jn n) (Cn n) u b L S σ = some r := by
  unfold goP at h ⊢
  split at h
  · cases h
  · unfold goB at h ⊢
    split at h
    · cases h
    · exact goT_lim (fun n u' b' L1 S1 σ1 => Jn n u' b' (msk (pMask P m b') L1) S1 σ1) Cn (fun n k h u b L S σ => mJn n k h _ _ _ _ _) mCn (fun u b L S σ r h => hJ _ _ _ _ _ _ h) hC _ _ _ _ _ _ h
theorem ev_eq (P : mP) (d m u b : Nat) (L S : List mV) (σ : mS) : ev P d m u b L S σ = goP P m (ev P d m) (evC P d) u b L S σ := by
  have h1 : leR (ev P d m u b L S σ) (goP P m (ev P d m) (evC P d) u b L S σ) := by
    intro r hr
    obtain ⟨n, hn⟩ := ev_ex hr
    cases n with
    | zero => cases hn
    | succ n =>
      refine goP_mono (J := exec P n d m) (fun u b L S σ r h => ev_of h) ?_ u b L S σ r hn
      cases d with
      | zero => intro a as σ; exact leR.none _
      | succ d => intro a as σ r h; exact ev_of h
  have h2 : leR (goP P m (ev P d m) (evC P d) u b L S σ) (ev P d m u b L S σ) := by
    intro r hr
    obtain ⟨n, hn⟩ := goP_lim (fun n => exec P n d m) (fun n => dcas d fun d' a as σ1 => exec P n d' a 0 0 (pPad P a as) [] σ1) (fun n k h => exec_le P h d m) (fun n k h => by
        cases d with
        | zero => intro a as σ; exact leR.rf _
        | succ d => intro a as σ; exact exec_le P h d a _ _ _ _ _) (fun u b L S σ r h => ev_ex h) (fun a as σ r h => by
        cases d with
        | zero => cases h
        | succ d => exact ev_ex h) u b L S σ r hr
    exact ev_of (n := n + 1) hn
  cases ha : ev P d m u b L S σ with
  | some r => exact (h1 r ha).symm
  | none =>
    cases hb : goP P m (ev P d m) (evC P d) u b L S σ with
    | none => rfl
    | some r => rw [h2 r hb] at ha; cases ha
