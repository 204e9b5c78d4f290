/-! THE CLOSEST PAIR: THE CLASS -/
def prs : List Int → List (Int × Int)
  | [] => []
  | x :: t => t.map (fun y => (x, y)) ++ prs t
def stp (M : mM) (o : Option (Int × Int)) (q : Int × Int) : Option (Int × Int) := match o with
  | none => some q
  | some b => if db M q.1.toNat q.2.toNat < db M b.1.toNat b.2.toNat then some q else some b
/-- the pair kept in the class's cell -/
def pst (M M1 : mM) (o : Option (Int × Int)) : Prop := match o with
  | none => M1 72 7 = -1
  | some b => M1 72 7 = b.1 ∧ M1 72 8 = b.2 ∧ M1 72 9 = db M b.1.toNat b.2.toNat ∧ 0 ≤ b.1
theorem sp188 {M M1 : mM} (h : Iv M) (d : Nat) (hs : same [72, 73, 74] M M1) {o : Option (Int × Int)} (ho : pst M M1 o) {p q : Nat} (hp : p < 200) (hq : q < 200) : ∃ M2, run prog (d + 5) 188 [vr 72, vi (p : Int), vi (q : Int)] (shp, M1) = some (.inl none, (shp, M2)) ∧ pst M M2 (stp M o ((p : Int), (q : Int))) ∧ same [72] M1 M2 := by
  show ∃ M2, ev prog (d + 5) 188 0 0 [vr 72, vi (p : Int), vi (q : Int), vj] [] (shp, M1) = _ ∧ _
  have hI : Iv M1 := h.same hs (by decide)
  have hd : db M1 p q = db M p q := db_c (hs 8 (by decide)) (hs 34 (by decide)) p q
  have hset : pst M (mset (mset (mset M1 72 7 (p : Int)) 72 8 (q : Int)) 72 9 (db M p q)) (some ((p : Int), (q : Int))) := by
    refine ⟨?_, ?_, ?_, by show (0 : Int) ≤ (p : Int); omega⟩
    · rw [mset_j (by decide), mset_j (by decide), mset_at]
    · rw [mset_j (by decide), mset_at]
    · rw [mset_at]; rfl
  have hsm : same [72] M1 (mset (mset (mset M1 72 7 (p : Int)) 72 8 (q : Int)) 72 9 (db M p q)) := (same_mset.tr same_mset).tr same_mset
  rw [g188_0, sp187 hI d hp hq, hd, callK_r, psh_s, g188_1]
  cases o with
  | none =>
    rw [if_pos (show M1 72 7 = -1 from ho)]
    exact ⟨_, rfl, hset, hsm⟩
  | some b =>
    obtain ⟨o1, o2, o3, o4⟩ := ho
    rw [if_neg (by omega), o3]
    have e : stp M (some b) ((p : Int), (q : Int)) = if db M p q < db M b.1.toNat b.2.toNat then some ((p : Int), (q : Int)) else some b := rfl
    rw [e]
    by_cases c : db M p q < db M b.1.toNat b.2.toNat
    · rw [if_pos c, if_pos c]
      exact ⟨_, rfl, hset, hsm⟩
    · rw [if_neg c, if_neg c]
      exact ⟨_, rfl, ⟨o1, o2, o3, o4⟩, same.rf⟩
theorem sp189 {M : mM} (h : Iv M) (d : Nat) {n : Nat} (hn : M 7 4 = (n : Int)) : ∃ M', run prog (d + 6) 189 [vr 72] (shp, M) = some (.inl none, (shp, M')) ∧ pst M M' ((prs (visL M n)).foldl (stp M) none) ∧ same [72, 73, 74] M M' := by
  show ∃ M', ev prog (d + 6) 189 0 0 [vr 72, vj, vj] [] (shp, M) = _ ∧ _
  obtain ⟨n', h1, h2, h3⟩ := h.cr
  have e : n' = n := by omega
  subst e
  obtain ⟨M1, a1, a2, a3⟩ := sp126 (d + 1) M hn h2
  have hll := visL_le M n'
  have hr : ∀ (M1 : mM), nums M1 73 (visL M n') → ∀ (i : Nat) (hi : i < (visL M n').length), r30 (i : Int) M1 = (visL M n')[i] := fun M1 a2 i hi => by
    show va M1 74 200 (i : Int) = _
    rw [va_in ⟨by omega, by omega⟩, Int.toNat_natCast]
    exact a2.2 i _ (List.getElem?_eq_getElem hi)
  have hn2 : ∀ {M1 M2 : mM}, nums M1 73 (visL M n') → same [72] M1 M2 → nums M2 73 (visL M n') := fun h1 h2 => ⟨by rw [h2 73 (by decide)]; exact h1.1, fun j x hj => by rw [h2 74 (by decide)]; exact h1.2 j x hj⟩
  have inner : ∀ (q j i : Nat) (hi : i < (visL M n').length) (M1 : mM) (o : Option (Int × Int)), j + q = (visL M n').length → nums M1 73 (visL M n') → same [72, 73, 74] M M1 → pst M M1 o →
      ∃ M2, ev prog (d + 6) 189 0 4 [vr 72, vi (i : Int), vi (j : Int)] [] (shp, M1) = ev prog (d + 6) 189 0 2 [vr 72, vi ((i + 1 : Nat) : Int), vj] [] (shp, M2) ∧ nums M2 73 (visL M n') ∧ same [72, 73, 74] M M2 ∧ pst M M2 ((((visL M n').drop j).map fun y => ((visL M n')[i], y)).foldl (stp M) o) := by
    intro q
    induction q with
    | zero =>
      intro j i hi M1 o hj k1 k2 k3
      refine ⟨M1, ?_, k1, k2, ?_⟩
      · rw [g189_4, k1.1, if_neg (by omega), wr_id (show inR ((i : Int) + 1) by unfold inR; omega)]
        rfl
      · rw [List.drop_of_length_le (by omega)]
        exact k3
    | succ q ih =>
      intro j i hi M1 o hj k1 k2 k3
      have hjl : j < (visL M n').length := by omega
      obtain ⟨p, p1, p2, -⟩ := visL_at (List.getElem?_eq_getElem hi)
      obtain ⟨r, r1, r2, -⟩ := visL_at (List.getElem?_eq_getElem hjl)
      obtain ⟨M2, b1, b2, b3⟩ := sp188 h d k2 k3 (show p < 200 by omega) (show r < 200 by omega)
      obtain ⟨M3, c1, c2, c3, c4⟩ := ih (j + 1) i hi M2 _ (by omega) (hn2 k1 b3) (k2.tr (b3.mono (by decide))) b2
      refine ⟨M3, ?_, c2, c3, ?_⟩
      · rw [g189_4, k1.1, if_pos (by omega), hr M1 k1 i hi, hr M1 k1 j hjl, p1, r1, b1, callK_r, psh_n, g189_8, wr_id (show inR ((j : Int) + 1) by unfold inR; omega)]
        exact c1
      · rw [List.drop_eq_getElem_cons hjl, List.map_cons, List.foldl_cons, p1, r1]
        rw [p1] at c4
        exact c4
  have outer : ∀ (q i : Nat) (M1 : mM) (o : Option (Int × Int)), i + q = (visL M n').length → nums M1 73 (visL M n') → same [72, 73, 74] M M1 → pst M M1 o →
      ∃ M', ev prog (d + 6) 189 0 2 [vr 72, vi (i : Int), vj] [] (shp, M1) = some (.inl none, (shp, M')) ∧ pst M M' ((prs ((visL M n').drop i)).foldl (stp M) o) ∧ same [72, 73, 74] M M' := by
    intro q
    induction q with
    | zero =>
      intro i M1 o hi k1 k2 k3
      refine ⟨M1, by rw [g189_2, k1.1, if_neg (by omega)], ?_, k2⟩
      rw [List.drop_of_length_le (by omega)]
      exact k3
    | succ q ih =>
      intro i M1 o hi k1 k2 k3
      have hil : i < (visL M n').length := by omega
      obtain ⟨M2, b1, b2, b3, b4⟩ := inner q (i + 1) i hil M1 o (by omega) k1 k2 k3
      obtain ⟨M3, c1, c2, c3⟩ := ih (i + 1) M2 _ (by omega) b2 b3 b4
      refine ⟨M3, ?_, ?_, c3⟩
      · rw [g189_2, k1.1, if_pos (by omega), wr_id (show inR ((i : Int) + 1) by unfold inR; omega)]
        exact b1.trans c1
      · rw [List.drop_eq_getElem_cons hil]
        show pst M M3 (List.foldl (stp M) o (_ ++ prs _))
        rw [List.foldl_append]
        exact c2
  have hs1 : same [72, 73, 74] M (mset M1 72 7 (-1)) := (a3.mono (by decide)).tr (same_mset.mono (by decide))
  obtain ⟨M', b1, b2, b3⟩ := outer (visL M n').length 0 (mset M1 72 7 (-1)) none (by omega) (hn2 a2 same_mset) hs1 (mset_at _ _ _ _)
  exact ⟨M', by rw [g189_0, a1, callK_r, psh_s, g189_1]; exact b1, b2, b3⟩
