/-! FOLLOWERS: THE MODEL -/
theorem neL_self {M : mM} {p : Int} : ∀ {l : List Int} {b : Int}, neL M p l = some b → b ≠ p := by
  have key : ∀ (l : List Int) (o : Option Int) (b : Int), (∀ c, o = some c → c ≠ p) → l.foldl (stn M p) o = some b → b ≠ p := by
    intro l
    induction l with
    | nil => intro o b ho h; exact ho b h
    | cons x l ih =>
      intro o b ho h
      refine ih _ b (fun c hc => ?_) h
      unfold stn at hc
      split at hc
      · exact ho c hc
      · rename_i hx
        cases o with
        | none => cases hc; exact hx
        | some a =>
          have hc : (if db M p.toNat x.toNat < db M p.toNat a.toNat then some x else some a) = some c := hc
          split at hc
          · cases hc; exact hx
          · exact ho c hc
  intro l b h
  exact key l none b (fun c hc => by cases hc) h
theorem visL_c {M M' : mM} (h7 : M' 7 = M 7) (h10 : M' 10 = M 10) (h11 : M' 11 = M 11) (h38 : M' 38 = M 38) (n : Nat) : visL M' n = visL M n := by
  unfold visL
  simp only [cp125 h7 h10 h11 h38]
theorem neL_c {M M' : mM} (h8 : M' 8 = M 8) (h34 : M' 34 = M 34) (p : Int) (l : List Int) : neL M' p l = neL M p l := by
  unfold neL
  have : stn M' p = stn M p := by
    funext o x
    unfold stn
    simp only [db_c h8 h34]
  rw [this]
theorem nF_w {M : mM} {n : Nat} {p : Int} {l : List Int} (h : l.length ≤ 200) : wr ((nF M n p l : Int) + 1) = ((nF M n p l + 1 : Nat) : Int) := by
  have := nF_le M n p l
  generalize nF M n p l = x at this
  exact wI (by omega)
theorem sp200 {M : mM} (h : Iv M) (d : Nat) {n : Nat} (hn : M 7 4 = (n : Int)) (p : Int) : run prog (d + 6) 200 [vr 87, vi p] (shp, M) = match p125 p M with
    | true => some (.inl (some (vi (nF M n p (visL M n) : Int))), (shp, mset M 87 3 0))
    | false => some (.inl (some (vi 0)), (shp, mset (mset M 87 3 0) 87 3 1)) := by
  show ev prog (d + 6) 200 0 0 [vr 87, vi p, vj, vj] [] (shp, M) = _
  obtain ⟨n', h1, h2, h3⟩ := h.cr
  have e : n' = n := by omega
  subst e
  have hs : same [87] M (mset M 87 3 0) := same_mset
  have hI : Iv (mset M 87 3 0) := h.thr 0
  have h3' : (mset M 87 3 0) 88 2001 = (n' : Int) := by rw [mset_k (by decide)]; exact h3
  have h4' : (mset M 87 3 0) 7 4 = (n' : Int) := by rw [mset_k (by decide)]; exact hn
  have hp : ∀ x, p125 x (mset M 87 3 0) = p125 x M := fun x => cp125 (hs 7 (by decide)) (hs 10 (by decide)) (hs 11 (by decide)) (hs 38 (by decide)) x
  have hv0 : visL (mset M 87 3 0) n' = visL M n' := visL_c (hs 7 (by decide)) (hs 10 (by decide)) (hs 11 (by decide)) (hs 38 (by decide)) n'
  have hne : ∀ x l, neL (mset M 87 3 0) x l = neL M x l := fun x l => neL_c (hs 8 (by decide)) (hs 34 (by decide)) x l
  have loop : ∀ (q i : Nat), i + q = n' → (0 ≤ p) → ev prog (d + 6) 200 0 5 [vr 87, vi p, vi (nF M n' p (visL M i) : Int), vi (i : Int)] [] (shp, mset M 87 3 0) = some (.inl (some (vi (nF M n' p (visL M n') : Int))), (shp, mset M 87 3 0)) := by
    intro q
    induction q with
    | zero =>
      intro i hi hp0
      rw [g200_5, h3', if_neg (by omega), show i = n' by omega]
    | succ q ih =>
      intro i hi hp0
      have hw : wr ((i : Int) + 1) = ((i + 1 : Nat) : Int) := wr_id (by unfold inR; omega)
      have hs1 := visL_s M i
      have hle := nF_le M n' p (visL M i)
      have hle2 := visL_le M i
      have w0 : wr ((nF M n' p (visL M i) : Int) + 0) = (nF M n' p (visL M i) : Int) := w0 (by omega)
      have w1 : wr ((nF M n' p (visL M i) : Int) + 1) = ((nF M n' p (visL M i) + 1 : Nat) : Int) := nF_w (by omega)
      have := ih (i + 1) (by omega) hp0
      rw [g200_5, h3', if_pos (by omega), hw, w0]
      have hskip : (i : Int) = p → (neL M (i : Int) (visL M n')).getD (-1) ≠ p := by
        intro c
        cases hx : neL M (i : Int) (visL M n') with
        | none => show (-1 : Int) ≠ p; omega
        | some b => rw [← c]; exact neL_self hx
      by_cases c : (i : Int) = p
      · rw [if_pos c]
        cases hv : p125 (i : Int) M with
        | false =>
          rw [hv] at hs1
          rw [show visL M (i + 1) = visL M i from hs1] at this
          exact this
        | true =>
          rw [hv] at hs1
          rw [show visL M (i + 1) = visL M i ++ [(i : Int)] from hs1, nF_snoc, if_neg (hskip c), Nat.add_zero] at this
          exact this
      · rw [if_neg c, sp129 hI (d + 1), hp, callK_r, psh_s, g200_9, hw, w0]
        cases hv : p125 (i : Int) M with
        | false =>
          rw [hv] at hs1
          rw [show visL M (i + 1) = visL M i from hs1] at this
          rw [if_pos (show bi false = 0 from rfl)]
          exact this
        | true =>
          rw [hv] at hs1
          rw [show visL M (i + 1) = visL M i ++ [(i : Int)] from hs1, nF_snoc] at this
          rw [if_neg (show ¬ bi true = 0 by decide), sp199 hI d h4' (by omega), hv0, hne, callK_r, psh_s, g200_11, hw, w1, w0]
          by_cases c2 : (neL M (i : Int) (visL M n')).getD (-1) = p
          · rw [if_pos c2] at this ⊢
            exact this
          · rw [if_neg c2, Nat.add_zero] at this
            rw [if_neg c2]
            exact this
  rw [g200_0, sp129 hI (d + 1), hp, callK_r, psh_s, g200_1]
  cases hv : p125 p M with
  | false => rfl
  | true =>
    have hp0 : 0 ≤ p := by
      unfold p125 at hv
      cases hq : p32 p M with
      | false => rw [hq] at hv; cases hv
      | true =>
        unfold p32 at hq
        cases hr : p31 p M with
        | false => rw [hr] at hq; cases hq
        | true =>
          obtain ⟨r, rfl, -⟩ := p31_range h hr
          omega
    rw [if_neg (show ¬ bi true = 0 by decide)]
    exact loop n' 0 (by omega) hp0
