/-! THE MODEL'S CLOSEST PAIR -/
theorem met_thr (M : mM) (k a b c : Int) : met (mset M 87 3 k) a b c = met M a b c := met_c (same_mset 34 (by decide)) a b c
theorem dq_thr (M : mM) (k : Int) (p : Nat) : dq (mset M 87 3 k) p = dq M p := dq_c (same_mset 8 (by decide)) (same_mset 34 (by decide)) (same_mset 35 (by decide)) p
theorem db_thr (M : mM) (k : Int) (p q : Nat) : db (mset M 87 3 k) p q = db M p q := db_c (same_mset 8 (by decide)) (same_mset 34 (by decide)) p q
theorem p125_thr (M : mM) (k x : Int) : p125 x (mset M 87 3 k) = p125 x M := cp125 (same_mset 7 (by decide)) (same_mset 10 (by decide)) (same_mset 11 (by decide)) (same_mset 38 (by decide)) x
theorem visL_thr (M : mM) (k : Int) (n : Nat) : visL (mset M 87 3 k) n = visL M n := visL_c (same_mset 7 (by decide)) (same_mset 10 (by decide)) (same_mset 11 (by decide)) (same_mset 38 (by decide)) n
theorem cr_thr {M : mM} {n : Nat} (h : M 88 2001 = (n : Int)) (k : Int) : (mset M 87 3 k) 88 2001 = (n : Int) := by rw [mset_k (by decide)]; exact h
theorem cl_thr {M : mM} {n : Nat} (h : M 7 4 = (n : Int)) (k : Int) : (mset M 87 3 k) 7 4 = (n : Int) := by rw [mset_k (by decide)]; exact h
theorem thr_at (M : mM) (k : Int) : (mset M 87 3 k) 87 3 = k := mset_at _ _ _ _
/-- a pair of points, if there is one -/
def okp (o : Option (Int × Int)) : Prop := ∀ b, o = some b → ∃ p q : Nat, b = ((p : Int), (q : Int)) ∧ p < 200 ∧ q < 200
def o1 (o : Option (Int × Int)) : Int := (o.map Prod.fst).getD (-1)
def o2 (o : Option (Int × Int)) : Int := (o.map Prod.snd).getD (-1)
theorem okp_stp {M : mM} {o : Option (Int × Int)} (h : okp o) {p q : Nat} (hp : p < 200) (hq : q < 200) : okp (stp M o ((p : Int), (q : Int))) := by
  intro b hb
  cases o with
  | none => cases hb; exact ⟨p, q, rfl, hp, hq⟩
  | some c =>
    have hb : (if db M p q < db M c.1.toNat c.2.toNat then some ((p : Int), (q : Int)) else some c) = some b := hb
    split at hb
    · cases hb; exact ⟨p, q, rfl, hp, hq⟩
    · exact h b hb
theorem stp_thr (M : mM) (k : Int) (o : Option (Int × Int)) (q : Int × Int) : stp (mset M 87 3 k) o q = stp M o q := by
  unfold stp
  simp only [db_thr]
theorem clo_thr (M : mM) (k : Int) (n : Nat) : clo (mset M 87 3 k) n = clo M n := by
  unfold clo
  rw [visL_thr]
  congr 1
theorem stp_some {M : mM} : ∀ (l : List (Int × Int)) (o : Option (Int × Int)), o ≠ none → l.foldl (stp M) o ≠ none := by
  intro l
  induction l with
  | nil => intro o h; exact h
  | cons x l ih =>
    intro o h
    refine ih _ ?_
    cases o with
    | none => exact absurd rfl h
    | some b =>
      show (if db M x.1.toNat x.2.toNat < db M b.1.toNat b.2.toNat then some x else some b) ≠ none
      split <;> (intro q; cases q)
theorem clo_none {M : mM} {n : Nat} : clo M n = none ↔ (visL M n).length < 2 := by
  unfold clo
  have key : ∀ l : List Int, (prs l).foldl (stp M) none = none ↔ l.length < 2 := by
    intro l
    match l with
    | [] => exact ⟨fun _ => by decide, fun _ => rfl⟩
    | [x] => exact ⟨fun _ => Nat.lt_succ_self 1, fun _ => rfl⟩
    | x :: y :: t =>
      refine ⟨fun h => ?_, fun h => absurd h (by simp [List.length])⟩
      exact absurd h (stp_some (M := M) _ (some (x, y)) (fun q => by cases q))
  exact key _
/-- from the inner loop's head -/
theorem l193i {M : mM} (h : Iv M) (d : Nat) (w : Int) {n : Nat} (hn : M 88 2001 = (n : Int)) (h200 : n ≤ 200) {p : Nat} (hp : p < n) : ∀ (q j : Nat) (o : Option (Int × Int)), j + q = n → okp o →
    ∃ o', (o' = match p125 (p : Int) M with
      | true => ((visR M j q).map fun y => ((p : Int), y)).foldl (stp M) o
      | false => o) ∧ okp o' ∧ ev prog (d + 6) 193 0 12 [vr 87, vi w, vi (o1 o), vi (o2 o), vi (p : Int), vi (j : Int)] [] (shp, M) = ev prog (d + 6) 193 0 9 [vr 87, vi w, vi (o1 o'), vi (o2 o'), vi ((p + 1 : Nat) : Int), vj] [] (shp, M) := by
  intro q
  induction q with
  | zero =>
    intro j o hj ho
    refine ⟨o, ?_, ho, ?_⟩
    · cases p125 (p : Int) M <;> rfl
    · rw [g193_12, hn, if_neg (by omega), wI (by omega)]
  | succ q ih =>
    intro j o hj ho
    have hvr := @visR_s M j q
    rw [g193_12, hn, if_pos (by omega), sp129 h (d + 1), callK_r, psh_s, g193_15]
    cases hv : p125 (p : Int) M with
    | false =>
      obtain ⟨o', a1, a2, a3⟩ := ih (j + 1) o (by omega) ho
      rw [hv] at a1
      refine ⟨o', a1, a2, ?_⟩
      rw [if_pos (show bi false = 0 from rfl), wI (by omega)]
      exact a3
    | true =>
      rw [if_neg (show ¬ bi true = 0 by decide), sp129 h (d + 1), callK_r, psh_s, g193_17]
      cases hw : p125 (j : Int) M with
      | false =>
        obtain ⟨o', a1, a2, a3⟩ := ih (j + 1) o (by omega) ho
        rw [hv] at a1
        rw [hw] at hvr
        refine ⟨o', ?_, a2, ?_⟩
        · show o' = ((visR M j (q + 1)).map fun y => ((p : Int), y)).foldl (stp M) o
          rw [hvr]
          exact a1
        · rw [if_pos (show bi false = 0 from rfl), wI (by omega)]
          exact a3
      | true =>
        obtain ⟨o', a1, a2, a3⟩ := ih (j + 1) (stp M o ((p : Int), (j : Int))) (by omega) (okp_stp ho (by omega) (by omega))
        rw [hv] at a1
        rw [hw] at hvr
        refine ⟨o', ?_, a2, ?_⟩
        · show o' = ((visR M j (q + 1)).map fun y => ((p : Int), y)).foldl (stp M) o
          rw [hvr]
          exact a1
        · rw [if_neg (show ¬ bi true = 0 by decide), ← a3]
          cases o with
          | none =>
            rw [if_pos (show o1 none < 0 by decide), wI (by omega)]
            rfl
          | some b =>
            obtain ⟨r, s, rfl, hr, hs⟩ := ho b rfl
            have e1 : o1 (some ((r : Int), (s : Int))) = (r : Int) := rfl
            have e2 : o2 (some ((r : Int), (s : Int))) = (s : Int) := rfl
            rw [e1, e2, if_neg (by omega), sp192 h (d + 2) (by omega) (by omega), callK_r, psh_s, g193_20, sp192 h (d + 2) hr hs, callK_r, psh_s, g193_21, wI (by omega)]
            have e3 : stp M (some ((r : Int), (s : Int))) ((p : Int), (j : Int)) = if db M p j < db M r s then some ((p : Int), (j : Int)) else some ((r : Int), (s : Int)) := rfl
            rw [e3]
            by_cases c : db M p j < db M r s
            · rw [if_pos c, if_pos c]; rfl
            · rw [if_neg c, if_neg c]; rfl
theorem l193o {M : mM} (h : Iv M) (d : Nat) (w : Int) {n : Nat} (hn : M 88 2001 = (n : Int)) (h200 : n ≤ 200) : ∀ (q p : Nat) (o : Option (Int × Int)), p + q = n → okp o →
    ∃ o', o' = (prs (visR M p q)).foldl (stp M) o ∧ okp o' ∧ ev prog (d + 6) 193 0 9 [vr 87, vi w, vi (o1 o), vi (o2 o), vi (p : Int), vj] [] (shp, M) = ev prog (d + 6) 193 0 9 [vr 87, vi w, vi (o1 o'), vi (o2 o'), vi (n : Int), vj] [] (shp, M) := by
  intro q
  induction q with
  | zero =>
    intro p o hp ho
    exact ⟨o, rfl, ho, by rw [show p = n by omega]⟩
  | succ q ih =>
    intro p o hp ho
    obtain ⟨o1', a1, a2, a3⟩ := l193i h d w hn h200 (show p < n by omega) q (p + 1) o (by omega) ho
    obtain ⟨o2', b1, b2, b3⟩ := ih (p + 1) o1' (by omega) a2
    refine ⟨o2', ?_, b2, ?_⟩
    · have hvr := @visR_s M p q
      rw [b1]
      cases hv : p125 (p : Int) M with
      | false =>
        rw [hv] at hvr a1
        rw [hvr, a1]
      | true =>
        rw [hv] at hvr a1
        rw [hvr, a1]
        show _ = List.foldl (stp M) o (_ ++ prs _)
        rw [List.foldl_append]
    · rw [g193_9, hn, if_pos (by omega), wI (by omega)]
      exact a3.trans b3
theorem sp193 {M : mM} (h : Iv M) (d : Nat) {n : Nat} (hn : M 7 4 = (n : Int)) (w : Int) : run prog (d + 6) 193 [vr 87, vi w] (shp, M) = match decide (0 ≤ w ∧ w ≤ 2), clo M n with
    | false, _ => some (.inl (some (vi 0)), (shp, mset (mset M 87 3 0) 87 3 1))
    | true, none => some (.inl (some (vi 0)), (shp, mset (mset M 87 3 0) 87 3 2))
    | true, some b => some (.inl (some (vi (cloA M b w))), (shp, mset M 87 3 0)) := by
  show ev prog (d + 6) 193 0 0 [vr 87, vi w, vj, vj, vj, vj] [] (shp, M) = _
  obtain ⟨n', h1, h2, h3⟩ := h.cr
  have e : n' = n := by omega
  subst e
  have hI := h.thr 0
  have e : p51 w 0 2 (mset M 87 3 0) = decide (0 ≤ w ∧ w ≤ 2) := by
    unfold p51
    by_cases c0 : w < 0
    · rw [if_pos c0]; symm; rw [decide_eq_false_iff_not]; omega
    · rw [if_neg c0]
      by_cases c1 : 2 < w
      · rw [if_pos c1]; symm; rw [decide_eq_false_iff_not]; omega
      · rw [if_neg c1]; symm; rw [decide_eq_true_eq]; omega
  rw [g193_0, e]
  by_cases c : 0 ≤ w ∧ w ≤ 2
  · rw [decide_eq_true c, if_neg (show ¬ bi true = 0 by decide), sp130 hI (cl_thr hn 0) d, visL_thr, callK_r, psh_s, g193_5]
    obtain ⟨o', a1, a2, a3⟩ := l193o hI d w (cr_thr h3 0) h2 n' 0 none (by omega) (fun b hb => by cases hb)
    have a1 : o' = clo M n' := by
      rw [a1, visR_0, ← clo_thr M 0 n']
      rfl
    cases hc : clo M n' with
    | none =>
      rw [if_pos (by have := clo_none.mp hc; omega)]
    | some b =>
      have : ¬ (visL M n').length < 2 := fun q => by rw [clo_none.mpr q] at hc; cases hc
      rw [if_neg (by omega)]
      rw [a1, hc] at a3 a2
      obtain ⟨r, s, rfl, hr, hs⟩ := a2 b rfl
      have e1 : o1 (some ((r : Int), (s : Int))) = (r : Int) := rfl
      have e2 : o2 (some ((r : Int), (s : Int))) = (s : Int) := rfl
      rw [e1, e2] at a3
      refine a3.trans ?_
      rw [g193_9, cr_thr h3 0, if_neg (by omega)]
      show _ = some (Sum.inl (some (vi (cloA M ((r : Int), (s : Int)) w))), (shp, mset M 87 3 0))
      unfold cloA
      by_cases e0 : w = 0
      · rw [if_pos e0, if_pos e0]
      · rw [if_neg e0, if_neg e0]
        by_cases e1 : w = 1
        · rw [if_pos e1, if_pos e1]
        · rw [if_neg e1, if_neg e1, sp192 hI (d + 2) hr hs, callK_r, psh_s, g193_30, db_thr]
          rfl
  · rw [decide_eq_false c]
    rfl
