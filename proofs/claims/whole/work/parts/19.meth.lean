/-! EVERY RUN OF THE CHECKED MACHINE IS A METHOD'S CONTRACT -/
def okP (P : mP) (K : mK) (Z : mZ) (N : Nat) : Prop := (∀ i, lkP P (K i)) ∧ ∀ a, a < N → okM P Z a = true ∧ chkM P K Z N false a = true
theorem chkM_ok {P : mP} {K : mK} {Z : mZ} {N m : Nat} {sc : Bool} (h : chkM P K Z N sc m = true) : pcB P m 0 = 0 ∧ (P m).1.2.2.2.2.2.1 ≤ (P m).1.2.2.1 ∧ (P m).1.1.cls = cN (Z m).2.1 ∧ ((P m).2.all fun q => chkL P K Z N sc m q.1 q.2.2) = true := by
  unfold chkM at h
  rw [Bool.and_eq_true, Bool.and_eq_true, Bool.and_eq_true, decide_eq_true_eq, decide_eq_true_eq, decide_eq_true_eq] at h
  exact ⟨h.1.1.1, h.1.1.2, h.1.2, h.2⟩
theorem okP_z {P : mP} {K : mK} {Z : mZ} {N : Nat} (h : okP P K Z N) : okZ P K Z N := ⟨h.1, fun a ha => ⟨okM_ok (h.2 a ha).1, (chkM_ok (h.2 a ha).2).2.2.1⟩⟩
section ME
variable {P : mP} {m d : Nat} {sc : Bool} {p : Program} {l : Launch} {e : Env} {R : Room} {s : State} {mid : MethodId} {args : Array Value} {below : List Frame} {meth : Method} {c : Code} {D : va_G} {aC : FieldType → ClassId} {ad0 : Nat → Nat} {n0 : Nat} {M0 : mM} {A : Nat → Prop} {Q : State → Prop}
variable {pc u : Nat} {L S : List mV} {σ : mS}
variable {J : mJ} {C : mC} {K : mK} {Z : mZ} {N : Nat} {o : mO} {σ' : mS}
theorem msk_G {bs : List Bool} (k : WG P m p l e R s mid args below meth c D aC ad0 n0 M0 A Q pc u (msk bs L) S σ) : WG P m p l e R s mid args below meth c D aC ad0 n0 M0 A Q pc u L S σ := fun ad H locs ls st g0 g1 hW g2 hS hL hT => k ad H locs ls st g0 g1 hW g2 hS (lR_msk bs hL) hT
theorem block_ok (F : Fx P m d sc p l e R s mid args below meth c D aC ad0 n0 M0 A) {b : Nat} (hu : u ≤ (P m).1.2.2.2.2.1) (hok : chkM P K Z N sc m = true) (hZ : okZ P K Z N) (hF : Fin P m p l e R s mid args below meth c D aC ad0 n0 M0 A Q o σ') (hC : ∀ a as σ o1 σ1, a < N → as.all nj = true → as.length = (P a).1.2.2.2.2.2.1 → C a as σ = some (o1, σ1) → ∃ d', d = d' + 1 ∧ cMet P l a d' as σ o1 σ1)
    (hJ : ∀ u b L S σ, J u b L S σ = some (o, σ') → u ≤ (P m).1.2.2.2.2.1 → WG P m p l e R s mid args below meth c D aC ad0 n0 M0 A Q (pcB P m b) u L S σ) (h : goP P m J C u b L S σ = some (o, σ')) : WG P m p l e R s mid args below meth c D aC ad0 n0 M0 A Q (pcB P m b) u L S σ := by
  unfold goP at h
  split at h
  · cases h
  · rename_i q hq
    unfold goB at h
    split at h
    · cases h
    · rename_i st' i hr
      obtain ⟨-, -, ho, hok⟩ := chkM_ok hok
      have h1 := List.all_eq_true.mp hok q (List.mem_of_getElem? hq)
      obtain ⟨pc', h2, h3⟩ := chk_ok (Q := Q) F hZ.1 ho hu q.2.2 q.1 _ _ _ h1 hr
      have e1 : pcB P m b = q.1 := by unfold pcB; rw [hq]
      rw [e1]
      exact h3 (term_ok F hu ho h2 hZ hF hC (fun u' b' L1 S1 σ1 hj hu' => msk_G (hJ _ _ _ _ _ hj hu')) h)
theorem nj_cat {ad : Nat → Nat} {w : mV} (h : nj w = true) : (vv ad w).category ≠ 2 := by
  rcases w with x | (_ | y) | z
  · exact (show (1 : Nat) ≠ 2 by decide)
  · exact (show (1 : Nat) ≠ 2 by decide)
  · exact (show (1 : Nat) ≠ 2 by decide)
  · cases h
theorem args_in {ad : Nat → Nat} : ∀ (as : List mV) (k : Nat), as.all nj = true → ∀ (i : Nat) (v : mV), as[i]? = some v → (k + i, vv ad v) ∈ lv_args k (as.map (vv ad))
  | [], k, _, i, v, h => by simp at h
  | w :: as, k, hn, i, v, h => by
    rw [List.all_cons, Bool.and_eq_true] at hn
    have hc : (vv ad w).category ≠ 2 := by
      exact nj_cat hn.1
    rw [List.map_cons]
    unfold lv_args
    rw [if_neg hc]
    cases i with
    | zero =>
      rw [List.getElem?_cons_zero] at h
      cases h
      exact List.mem_cons_self
    | succ i =>
      rw [List.getElem?_cons_succ] at h
      have := args_in (ad := ad) as (k + 1) hn.2 i v h
      rw [show k + (i + 1) = k + 1 + i by omega]
      exact List.mem_cons_of_mem _ this
theorem sl_len {ad : Nat → Nat} : ∀ (as : List mV), as.all nj = true → (lg_sl (as.map (vv ad))).length = as.length
  | [], _ => rfl
  | w :: as, hn => by
    rw [List.all_cons, Bool.and_eq_true] at hn
    have hc : (vv ad w).category ≠ 2 := by
      exact nj_cat hn.1
    have h1 := sl_len (ad := ad) as hn.2
    unfold lg_sl at h1 ⊢
    rw [List.map_cons, List.flatMap_cons, if_neg hc, List.length_append, h1]
    simp
    omega
theorem entry_lR {ad : Nat → Nat} {n a : Nat} {as : List mV} (hn : as.all nj = true) (hl : as.length ≤ (P a).1.2.2.1) (hok : ∀ v ∈ as, okV n v ∧ v ≠ vj) : lR ad n (pPad P a as) ((lg_sl (as.map (vv ad)) ++ List.replicate ((P a).1.2.2.1 - (lg_sl (as.map (vv ad))).length) Slot.unset).toArray) (P a).1.2.2.1 := by
  refine ⟨?_, lv_args 0 (as.map (vv ad)), lv_entry _ (by rw [sl_len as hn]; exact hl), fun i v hi hv => ?_⟩
  · unfold pPad
    rw [List.length_append, List.length_replicate]
    omega
  · unfold pPad at hi
    by_cases hia : i < as.length
    · rw [List.getElem?_append_left hia] at hi
      refine ⟨(hok v (List.mem_of_getElem? hi)).1, ?_⟩
      have := args_in (ad := ad) as 0 hn i v hi
      rw [Nat.zero_add] at this
      exact this
    · rw [List.getElem?_append_right (by omega)] at hi
      have := List.mem_of_getElem? hi
      exact absurd (List.eq_of_mem_replicate this) hv
/-- what runs from a block of a method's frame, ends -/
def okB (P : mP) (K : mK) (Z : mZ) (N : Nat) (l : Launch) (n : Nat) : Prop :=
  ∀ (m d : Nat) (sc : Bool) (p : Program) (e : Env) (R : Room) (s : State) (mid : MethodId) (args : Array Value) (below : List Frame) (meth : Method) (c : Code) (D : va_G) (aC : FieldType → ClassId) (ad0 : Nat → Nat) (n0 : Nat) (M0 : mM) (A : Nat → Prop) (Q : State → Prop) (u b : Nat) (L S : List mV) (σ : mS) (o : mO) (σ' : mS),
    chkM P K Z N sc m = true → Fx P m d sc p l e R s mid args below meth c D aC ad0 n0 M0 A → Fin P m p l e R s mid args below meth c D aC ad0 n0 M0 A Q o σ' → u ≤ (P m).1.2.2.2.2.1 → exec P n d m u b L S σ = some (o, σ') → WG P m p l e R s mid args below meth c D aC ad0 n0 M0 A Q (pcB P m b) u L S σ
theorem meth_of {n a : Nat} {as : List mV} (hl : l.stackTraces = false) (hP : okP P K Z N) (hB : okB P K Z N l n) (ha : a < N) (hnj : as.all nj = true) (hln : as.length = (P a).1.2.2.2.2.2.1) (hr : exec P n d a 0 0 (pPad P a as) [] σ = some (o, σ')) : cMet P l a d as σ o σ' := by
  intro D aC ad sz
  obtain ⟨q1, q2⟩ := hP.2 a ha
  have hm := (okM_ok q1).1
  obtain ⟨q4, q5, -, -⟩ := chkM_ok q2
  have body : ∀ (p : Program) (e : Env) (s : State) (mid : MethodId) (args : Array Value) (below : List Frame) (meth : Method) (c : Code) (s₁ : State), BodyLoose p l (P a).1.1 (headSpec (cWs P a) (cRm P a d)) (P a).1.2.1 (P a).1.2.2.1 (P a).1.2.2.2.1 e s mid args below meth c s₁ → c.maxLocals = (P a).1.2.2.1 → c.exceptionTable.toList = tableOf (P a).1.2.2.2.2.2.2 → cPre D aC ad sz as σ args s →
      W p l e (headSpec (cWs P a) (cRm P a d)).room s mid args below meth c s.heap [] 0 0 (vx_MQ below (cQ D aC ad sz σ o σ') (cX D aC ad sz σ o σ') args s (P a).1.2.2.2.2.1 (2100 * (P a).1.2.2.2.2.1) (mA ad σ.1.length sz)) (entryFrame mid args (P a).1.2.2.1) := by
    intro p e s mid args below meth c s₁ B hml htab hPc
    obtain ⟨hargs, hsz, hkn, hst, hW, hok⟩ := hPc
    have hts := atoms_spec (ws := cWs P a) B.pre
    subst hsz
    have F : Fx P a d false p l e (headSpec (cWs P a) (cRm P a d)).room s mid args below meth c D aC ad σ.1.length σ.2 (mA ad σ.1.length s.heap.size) :=
      ⟨B.exec, B.bytes, hml, findClass_of_methodNamed B.named, fun w hw => hts w (List.mem_cons_of_mem _ hw), B.notSynchronized, hkn, hst, fun q hq => Or.inr hq, ⟨Nat.le_refl _, Nat.le_refl _⟩, ⟨Nat.le_refl _, Nat.le_refl _⟩, htab, (fun z => by cases z), (name_of_methodNamed B.named B.method).1, hW.2.2.1.1, hl, B.returns⟩
    have key := hB a d false p e _ s mid args below meth c D aC ad σ.1.length σ.2 (mA ad σ.1.length s.heap.size) _ 0 0 (pPad P a as) [] σ o σ' q2 F (fin_meth (o := o) (σ' := σ') F) (Nat.zero_le _) hr
    rw [q4] at key
    have k2 := key ad s.heap [] _ [] (Nat.le_refl _) (fun k _ => rfl) hW (fun k _ => rfl) ⟨Nat.le_refl _, fun q _ _ => rfl, fun z hz => by cases hz⟩ (entry_lR hnj (by omega) hok) trivial
    rw [hargs, lg_entry_eq]
    rw [← hargs]
    exact k2
  have hm' := hm
  obtain ⟨m1, -⟩ := hm
  cases hh : (P a).1.2.2.2.2.2.2 with
  | nil =>
    refine vx_ofW (ws' := lw_gd) (cc := (P a).1.2.1) (maxL := (P a).1.2.2.1) (ret := (P a).1.2.2.2.1) m1 (by unfold cWs; rw [cW_code hh]) (fun p e s m args below meth c s₁ B hml htab hPc => ?_)
    refine body p e s m args below meth c s₁ B hml ?_ hPc
    rw [hh]
    cases ht : c.exceptionTable.toList with
    | nil => rfl
    | cons x y => exact (htab x (by rw [ht]; exact List.mem_cons_self)).elim
  | cons x y =>
    have hne : (P a).1.2.2.2.2.2.2 ≠ [] := by rw [hh]; exact List.cons_ne_nil _ _
    refine vx_ofWH (ws' := lw_gd) (cc := (P a).1.2.1) (maxL := (P a).1.2.2.1) (ret := (P a).1.2.2.2.1) (hh := (P a).1.2.2.2.2.2.2) m1 (by unfold cWs; rw [cW_codeW hne]) (fun p e s m args below meth c s₁ B hml hPc => ?_)
    refine body p e s m args below meth c s₁ B hml ?_ hPc
    have hts := atoms_spec (ws := cWs P a) B.pre
    exact vx_table (x := (P a).1.1) B (hts _ (by unfold cWs; rw [← cW_codeW hne]; exact List.mem_cons_self))
theorem exec_ok (hl : l.stackTraces = false) (hP : okP P K Z N) : ∀ n, okB P K Z N l n
  | 0 => by
    intro m d sc p e R s mid args below meth c D aC ad0 n0 M0 A Q u b L S σ o σ' hc F hF hu h
    cases h
  | n + 1 => by
    intro m d sc p e R s mid args below meth c D aC ad0 n0 M0 A Q u b L S σ o σ' hc F hF hu h
    have ih := exec_ok hl hP n
    refine block_ok F hu hc (okP_z hP) hF (fun a as σ2 o1 σ1 ha hnj hln hr => ?_) (fun u' b' L' S' σ2 h' hu' => ih m d sc p e R s mid args below meth c D aC ad0 n0 M0 A Q u' b' L' S' σ2 o σ' hc F hF hu' h') h
    cases d with
    | zero => cases hr
    | succ d => exact ⟨d, rfl, meth_of hl hP ih ha hnj hln hr⟩
/-- the contract of a method, by its run -/
theorem run_met {a : Nat} {as : List mV} (hl : l.stackTraces = false) (hP : okP P K Z N) (ha : a < N) (hnj : as.all nj = true) (hln : as.length = (P a).1.2.2.2.2.2.1) (hr : run P d a as σ = some (o, σ')) : cMet P l a d as σ o σ' := by
  obtain ⟨n, hn⟩ := ev_ex hr
  exact meth_of hl hP (exec_ok hl hP n) ha hnj hln hn
/-- a run from a block of a frame that stands -/
theorem ev_ok (F : Fx P m d sc p l e R s mid args below meth c D aC ad0 n0 M0 A) {b : Nat} (hl : l.stackTraces = false) (hP : okP P K Z N) (hc : chkM P K Z N sc m = true) (hF : Fin P m p l e R s mid args below meth c D aC ad0 n0 M0 A Q o σ') (hu : u ≤ (P m).1.2.2.2.2.1) (hr : ev P d m u b L S σ = some (o, σ')) : WG P m p l e R s mid args below meth c D aC ad0 n0 M0 A Q (pcB P m b) u L S σ := by
  obtain ⟨n, hn⟩ := ev_ex hr
  exact exec_ok hl hP n m d sc p e R s mid args below meth c D aC ad0 n0 M0 A Q u b L S σ o σ' hc F hF hu hn
end ME
