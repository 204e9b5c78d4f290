/-! THE CHECK OF A BLOCK'S END, OF A BLOCK, OF A METHOD -/
def pcB (P : mP) (m b : Nat) : Nat := match (P m).2[b]? with
  | some q => q.1
  | none => 0
def exH (k : Nat) : Option Nat := match k with
  | 13 => some 0
  | 15 => some 1
  | 21 => some 2
  | 40 => some 4
  | 67 => some 3
  | _ => none
def fndH (pc e : Nat) : List (Nat × Nat × Nat × Nat) → Option Nat
  | [] => none
  | q :: r => match decide (q.1 ≤ pc) && decide (pc < q.2.1) with
    | false => fndH pc e r
    | true => match exH q.2.2.2 with
      | none => none
      | some e' => match decide (e' = e) with
        | true => some q.2.2.1
        | false => fndH pc e r
def hOk (P : mP) (o m pc : Nat) (hs : List Nat) : Bool := match (P m).1.2.2.2.2.2.2 with
  | [] => hs.all fun h => decide (h ≤ 1)
  | q :: hh => decide (o = 11) && (decide (hs.length ≤ 5) && (List.range 5).all fun e => match hs.getD e 1 with
    | 0 => false
    | 1 => true
    | t + 2 => decide (fndH pc e (q :: hh) = some (pcB P m t)))
/-- of a method: its sort (0 of a thing, 1 static, 2 a constructor), its class's number, places of its words -/
abbrev mZ : Type := Nat → Nat × Nat × List Nat
def okM (P : mP) (Z : mZ) (a : Nat) : Bool :=
  (plainName (P a).1.1.cls && (decide ((P a).1.1.cls ≠ "java/lang/invoke/MethodHandle") && decide ((P a).1.1.cls ≠ "java/lang/invoke/VarHandle"))) &&
  ((decide (lw_tbl[(Z a).2.2.getD 0 0]? = some (cW P a)) && (decide (lw_tbl[(Z a).2.2.getD 1 0]? = some (.initialized (P a).1.1.cls)) && decide ((P a).1.2.2.1 ≤ 20))) &&
  (decide ((parseMethodDescriptor (P a).1.1.desc).map (fun d => d.parameters.length) = some ((P a).1.2.2.2.2.2.1 - (match (Z a).1 with
    | 1 => 0
    | _ => 1))) &&
   (match (Z a).1 with
    | 1 => decide (lw_tbl[(Z a).2.2.getD 2 0]? = some (.static (P a).1.1))
    | k => decide (lw_tbl[(Z a).2.2.getD 2 0]? = some (.instanceMethod (P a).1.1)) && (decide (1 ≤ (P a).1.2.2.2.2.2.1) && (match k with
      | 2 => decide ((P a).1.1.name = "<init>")
      | _ => decide ((P a).1.1.name ≠ "<init>") && decide (lw_tbl[(Z a).2.2.getD 3 0]? = some (.selects (P a).1.1.cls (P a).1.1 (P a).1.1)))))))
def ok3 (P : mP) (m pc a b : Nat) (j : Instr) (len : Nat) : Bool := match j with
  | .ifCond _ off => decide (len = 3) && (decide ((pc : Int) + off = (pcB P m a : Int)) && decide (pc + 3 = pcB P m b))
  | .if_icmp _ off => decide (len = 3) && (decide ((pc : Int) + off = (pcB P m a : Int)) && decide (pc + 3 = pcB P m b))
  | _ => false
def ok4 (P : mP) (m pc a b : Nat) (ts : List Nat) (j : Instr) : Bool := match j with
  | .tableswitch dflt lo hi offs => (decide (lo = (b : Int)) && (decide (ts.length = offs.size) && decide (hi = lo + ts.length - 1))) && (decide ((pc : Int) + dflt = (pcB P m a : Int)) && (List.range ts.length).all fun i => match offs[i]? with
    | some off => decide ((pc : Int) + off = (pcB P m (ts.getD i a) : Int))
    | none => false)
  | .lookupswitch dflt ps => ((ps.toList.zip (ps.toList.drop 1)).all (fun (a, next) => a.1 < next.1) && decide (ps.toList.map (fun q => q.1) = (List.range ts.length).map fun (i : Nat) => (b : Int) + (i : Int))) && (decide ((pc : Int) + dflt = (pcB P m a : Int)) && decide (ps.toList.map (fun q => (pc : Int) + q.2) = ts.map fun t => (pcB P m t : Int)))
  | _ => false
def ok5 (P : mP) (m a : Nat) (j : Instr) (len : Nat) : Bool := decide (len = 1) && (match a with
  | 0 => decide (j = .return_) && decide ((P m).1.2.2.2.1 = none)
  | 1 => decide (j = .ireturn) && decide ((P m).1.2.2.2.1 = some .int)
  | 2 => decide (j = .ireturn) && decide ((P m).1.2.2.2.1 = some .boolean)
  | _ => decide (j = .dreturn) && decide ((P m).1.2.2.2.1 = some .double))
def ok6 (P : mP) (K : mK) (Z : mZ) (N m pc a b pos : Nat) (fl : List Nat) (j : Instr) (len : Nat) : Bool := match fl with
  | n :: cc :: cm :: rc :: hs => ((decide (a < N) && decide (len = 3)) && ((decide (n = (P a).1.2.2.2.2.2.1) && decide (cc = (P a).1.2.2.2.2.1)) && (decide (cm = (P m).1.2.2.2.2.1) && (decide (pcB P m b = pc + 3) && hOk P (Z m).2.1 m pc hs)))) && (match j with
    | .invokevirtual idx => match rc with
      | 0 => false
      | ci + 1 => (decide (ci = (Z a).2.1) && (decide (ci < 11) && (decide ((Z a).1 = 0) && decide ((P a).1.2.2.2.2.2.2 = [])))) && lkIs K pos 1 (Z m).2.1 idx a 0
    | .invokestatic idx => decide ((Z a).1 = 1) && (lkIs K pos 1 (Z m).2.1 idx a 0 || (decide ((P a).1.2.2.2.2.2.2 = []) && lkIs K pos 2 (Z m).2.1 idx a 0))
    | .invokespecial idx => match rc with
      | 0 => false
      | _ + 1 => (decide ((Z a).1 = 2) && (decide ((P a).1.2.2.2.2.2.2 = []) && decide ((P a).1.2.2.2.1 = none))) && (lkIs K pos 1 (Z m).2.1 idx a 0 || lkIs K pos 2 (Z m).2.1 idx a 0)
    | _ => false)
  | _ => false
def ok7 (P : mP) (K : mK) (o m pc a pos : Nat) (fl : List Nat) (j : Instr) (len : Nat) : Bool := match fl, j with
  | cm :: p2 :: _, .new ik => (decide (cm = (P m).1.2.2.2.2.1) && (decide (len = 3) && (decide (a < 5) && decide (o = 9)))) && (decide ((P m).1.2.2.2.2.2.2 = []) && (lkIs K pos 7 9 ik a 0 && (match decode (P m).1.2.1 (pc + 4) with
    | .ok (.ldc k, l2) => decide (l2 = 2) && (lkIs K p2 8 9 k 0 0 && (decide (decode (P m).1.2.1 (pc + 3) = .ok (.dup, 1)) && (decide (decode (P m).1.2.1 (pc + 6) = .ok (.invokespecial (exI a), 3)) && decide (decode (P m).1.2.1 (pc + 9) = .ok (.athrow, 1)))))
    | .ok (.ldc_w k, l2) => decide (l2 = 3) && (lkIs K p2 8 9 k 0 0 && (decide (decode (P m).1.2.1 (pc + 3) = .ok (.dup, 1)) && (decide (decode (P m).1.2.1 (pc + 7) = .ok (.invokespecial (exI a), 3)) && decide (decode (P m).1.2.1 (pc + 10) = .ok (.athrow, 1)))))
    | _ => false)))
  | _, _ => false
def ok8 (P : mP) (sc : Bool) (m pc a b : Nat) (len : Nat) : Bool := decide (len = 1) && (decide (pcB P m a = pc + 1) && (decide (b = 0) || sc))
def ok9 (P : mP) (K : mK) (o m pc a pos : Nat) (j : Instr) (len : Nat) : Bool := decide (pcB P m a = pc + len) && (match j with
  | .invokestatic idx => decide (len = 3) && lkIs K pos 5 o idx 5 0
  | _ => decide (len = 1))
def nulB (v : Value) (z : Nat) : Bool := match v, z with
  | .int x, 0 => decide (x = 0)
  | .null, _ + 1 => true
  | _, _ => false
def ok10 (P : mP) (K : mK) (o m pc a b pos : Nat) (fl : List Nat) (j : Instr) (len : Nat) : Bool := match fl with
  | cm :: q :: fs => decide (cm = (P m).1.2.2.2.2.1) && (match j with
    | .new idx => (decide (len = 3) && decide (pcB P m a = pc + 3)) && (match mcl[b]? with
      | some c => (decide (fs.length = c.2.2) && decide (c.2.2 ≤ 2100)) && (lkIs K pos 6 o idx b 0 && (List.range fs.length).all fun j => nulB (defaultValue (mty b j)) (fs.getD j 0))
      | none => false)
    | .newarray t => (decide (len = 2) && decide (pcB P m a = pc + 2)) && (decide (atK t = q) && decide (q ≠ 0))
    | .invokevirtual idx => (decide (len = 3) && decide (pcB P m a = pc + 6)) && (lkIs K pos 5 o idx 6 0 && (match decode (P m).1.2.1 (pc + 3) with
      | .ok (.checkcast k, l2) => decide (l2 = 3) && lkIs K q 9 o k 0 0
      | _ => false))
    | _ => false)
  | _ => false
def okT (P : mP) (K : mK) (Z : mZ) (N : Nat) (sc : Bool) (m pc : Nat) (i : mI) : Bool := match decide (i.1 = 1) with
  | true => decide (pcB P m i.2.2.1 = pc)
  | false => match decode (P m).1.2.1 pc with
    | .error _ => false
    | .ok (j, len) => decide (i.2.1 = j) && (match i.1 with
      | 2 => match j with
        | .goto off => decide (len = 3) && decide ((pc : Int) + off = (pcB P m i.2.2.1 : Int))
        | _ => false
      | 3 => ok3 P m pc i.2.2.1 i.2.2.2.1 j len
      | 4 => ok4 P m pc i.2.2.1 i.2.2.2.1 i.2.2.2.2.2 j
      | 5 => ok5 P m i.2.2.1 j len
      | 6 => ok6 P K Z N m pc i.2.2.1 i.2.2.2.1 i.2.2.2.2.1 i.2.2.2.2.2 j len
      | 7 => ok7 P K (Z m).2.1 m pc i.2.2.1 i.2.2.2.2.1 i.2.2.2.2.2 j len
      | 8 => ok8 P sc m pc i.2.2.1 i.2.2.2.1 len
      | 9 => ok9 P K (Z m).2.1 m pc i.2.2.1 i.2.2.2.2.1 j len
      | 10 => ok10 P K (Z m).2.1 m pc i.2.2.1 i.2.2.2.1 i.2.2.2.2.1 i.2.2.2.2.2 j len
      | _ => false)
def chkL (P : mP) (K : mK) (Z : mZ) (N : Nat) (sc : Bool) (m : Nat) : Nat → List mI → Bool
  | _, [] => true
  | pc, i :: r => match i.1 with
    | 0 => match decode (P m).1.2.1 pc with
      | .error _ => false
      | .ok (j, len) => (decide (i.2.1 = j) && okI P K (Z m).2.1 m j i.2.2.1 i.2.2.2.1 i.2.2.2.2.1 (i.2.2.2.2.2.headD 0) len) && chkL P K Z N sc m (pc + len) r
    | _ => okT P K Z N sc m pc i
def chkM (P : mP) (K : mK) (Z : mZ) (N : Nat) (sc : Bool) (m : Nat) : Bool := ((decide (pcB P m 0 = 0) && decide ((P m).1.2.2.2.2.2.1 ≤ (P m).1.2.2.1)) && decide ((P m).1.1.cls = cN (Z m).2.1)) && (P m).2.all fun q => chkL P K Z N sc m q.1 q.2.2
theorem okM_ok {P : mP} {Z : mZ} {a : Nat} (h : okM P Z a = true) : mOk P a (decide ((Z a).1 = 1)) ∧ ((Z a).1 = 2 → (P a).1.1.name = "<init>") ∧ ((Z a).1 = 0 → (P a).1.1.name ≠ "<init>") := by
  unfold okM at h
  simp only [Bool.and_eq_true, decide_eq_true_eq] at h
  obtain ⟨⟨h1, h2, h3⟩, ⟨h4, h5, h6⟩, h7, h8⟩ := h
  have hw : goodWord (cW P a) = true := by
    unfold cW
    split <;> rfl
  by_cases hz : (Z a).1 = 1
  · rw [hz] at h7 h8
    refine ⟨⟨h1, ⟨h2, h3⟩, gd_mem h4 hw, gd_mem h5 rfl, h6, ?_, fun _ => gd_mem (of_decide_eq_true h8) rfl, fun q => ?_⟩, fun q => ?_, fun q => ?_⟩
    · rw [h7, hz]; rfl
    · rw [hz] at q; cases q
    · rw [hz] at q; cases q
    · rw [hz] at q; cases q
  · have h7' : (parseMethodDescriptor (P a).1.1.desc).map (fun d => d.parameters.length) = some ((P a).1.2.2.2.2.2.1 - 1) := by
      rw [h7]
      split
      · rename_i q; exact absurd q hz
      · rfl
    split at h8
    · rename_i q; exact absurd q hz
    · simp only [Bool.and_eq_true, decide_eq_true_eq] at h8
      obtain ⟨g1, g2, g3⟩ := h8
      refine ⟨⟨h1, ⟨h2, h3⟩, gd_mem h4 hw, gd_mem h5 rfl, h6, ?_, fun q => absurd (of_decide_eq_true q) hz, fun _ => ⟨gd_mem g1 rfl, g2, ?_⟩⟩, fun q => ?_, fun q => ?_⟩
      · rw [h7', if_neg (by rw [decide_eq_true_eq]; exact hz)]
      · split at g3
        · exact Or.inl (of_decide_eq_true g3)
        · rw [Bool.and_eq_true, decide_eq_true_eq, decide_eq_true_eq] at g3
          exact Or.inr (gd_mem g3.2 rfl)
      · rw [q] at g3
        exact of_decide_eq_true g3
      · rw [q] at g3
        have g3 : (decide ((P a).1.1.name ≠ "<init>") && decide (lw_tbl[(Z a).2.2.getD 3 0]? = some (.selects (P a).1.1.cls (P a).1.1 (P a).1.1))) = true := g3
        rw [Bool.and_eq_true, decide_eq_true_eq] at g3
        exact g3.1
theorem mcl_cN : ∀ (c : Nat) (q : vw_C), mcl[c]? = some q → q.1 = cN c := by
  intro c q hq
  match c, hq with
  | 0, hq => cases hq; rfl
  | 1, hq => cases hq; rfl
  | 2, hq => cases hq; rfl
  | 3, hq => cases hq; rfl
  | 4, hq => cases hq; rfl
  | 5, hq => cases hq; rfl
  | 6, hq => cases hq; rfl
  | 7, hq => cases hq; rfl
  | 8, hq => cases hq; rfl
  | 9, hq => cases hq; rfl
  | 10, hq => cases hq; rfl
  | k + 11, hq => simp [mcl] at hq
theorem cls_at : ∀ (c : Nat) (q : vw_C), mcl[c]? = some q → ∃ i1 i2 : Nat, lw_tbl[i1]? = some (Cond.instantiable q.1 q.2.2) ∧ lw_tbl[i2]? = some (Cond.initialized q.1) := by
  have key : ∀ x y : Cond, (decide (x ∈ lw_tbl) && decide (y ∈ lw_tbl)) = true → ∃ i1 i2 : Nat, lw_tbl[i1]? = some x ∧ lw_tbl[i2]? = some y := by
    intro x y h
    rw [Bool.and_eq_true, decide_eq_true_eq, decide_eq_true_eq] at h
    obtain ⟨i, hi⟩ := List.mem_iff_getElem?.mp h.1
    obtain ⟨j, hj⟩ := List.mem_iff_getElem?.mp h.2
    exact ⟨i, j, hi, hj⟩
  intro c q hq
  match c, hq with
  | 0, hq => cases hq; exact key _ _ (by decide +kernel)
  | 1, hq => cases hq; exact key _ _ (by decide +kernel)
  | 2, hq => cases hq; exact key _ _ (by decide +kernel)
  | 3, hq => cases hq; exact key _ _ (by decide +kernel)
  | 4, hq => cases hq; exact key _ _ (by decide +kernel)
  | 5, hq => cases hq; exact key _ _ (by decide +kernel)
  | 6, hq => cases hq; exact key _ _ (by decide +kernel)
  | 7, hq => cases hq; exact key _ _ (by decide +kernel)
  | 8, hq => cases hq; exact key _ _ (by decide +kernel)
  | 9, hq => cases hq; exact key _ _ (by decide +kernel)
  | 10, hq => cases hq; exact key _ _ (by decide +kernel)
  | k + 11, hq => simp [mcl] at hq
