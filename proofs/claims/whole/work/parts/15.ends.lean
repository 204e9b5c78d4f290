/-! ENDS OF A METHOD -/
def retAt (P : mP) (m pc : Nat) (v : Option mV) (S : List mV) : Prop :=
  (decode (P m).1.2.1 pc = .ok (.return_, 1) ∧ (P m).1.2.2.2.1 = none ∧ v = none ∧ S = []) ∨
  (∃ x, decode (P m).1.2.1 pc = .ok (.ireturn, 1) ∧ ((P m).1.2.2.2.1 = some .int ∨ ((P m).1.2.2.2.1 = some .boolean ∧ bit? x = true)) ∧ v = some (vi x) ∧ S = [vi x]) ∨
  (∃ x, decode (P m).1.2.1 pc = .ok (.dreturn, 1) ∧ (P m).1.2.2.2.1 = some .double ∧ v = some (vd x) ∧ S = [vd x])
def thrAt (P : mP) (m pc ex : Nat) : Prop := (P m).1.1.cls = RX9 ∧ (P m).1.2.2.2.2.2.2 = [] ∧ ex < 5 ∧ ∃ (ik is : Nat) (text : String), Cond.classLink RX9 ik (exN ex) ∈ lw_gd ∧ Cond.stringRef RX9 is text ∈ lw_tbl ∧ decode (P m).1.2.1 pc = .ok (.new ik, 3) ∧ decode (P m).1.2.1 (pc + 3) = .ok (.dup, 1) ∧
  ((decode (P m).1.2.1 (pc + 4) = .ok (.ldc is, 2) ∧ decode (P m).1.2.1 (pc + 6) = .ok (.invokespecial (exI ex), 3) ∧ decode (P m).1.2.1 (pc + 9) = .ok (.athrow, 1)) ∨
   (decode (P m).1.2.1 (pc + 4) = .ok (.ldc_w is, 3) ∧ decode (P m).1.2.1 (pc + 7) = .ok (.invokespecial (exI ex), 3) ∧ decode (P m).1.2.1 (pc + 10) = .ok (.athrow, 1)))
def Fin (P : mP) (m : Nat) (p : Program) (l : Launch) (e : Env) (R : Room) (s : State) (mid : MethodId) (args : Array Value) (below : List Frame) (meth : Method) (c : Code) (D : va_G) (aC : FieldType → ClassId) (ad0 : Nat → Nat) (n0 : Nat) (M0 : mM) (A : Nat → Prop) (Q : State → Prop) (o : mO) (σ' : mS) : Prop :=
  (∀ v, o = .inl v → ∀ pc u L S, u ≤ (P m).1.2.2.2.2.1 → retAt P m pc v S → WG P m p l e R s mid args below meth c D aC ad0 n0 M0 A Q pc u L S σ') ∧
  (∀ ex, o = .inr ex → ∀ pc u L S, u + 1 ≤ (P m).1.2.2.2.2.1 → S.length ≤ 20 → thrAt P m pc ex → WG P m p l e R s mid args below meth c D aC ad0 n0 M0 A Q pc u L S σ') ∧
  (∀ ex, o = .inr ex → ∀ pc u L S, u ≤ (P m).1.2.2.2.2.1 → (P m).1.2.2.2.2.2.2 = [] → XG P m p l e R s mid args below meth c D aC ad0 n0 M0 A Q pc u L S σ' ex)
theorem ng_tab {w : Cond} (h : w ∈ lw_ng) : w.onTables = true := by
  have h1 := (List.mem_filter.mp h).2
  unfold mNg at h1
  split at h1
  · rfl
  · rfl
  · rfl
  · rfl
  · cases h1
theorem gd_ot {w : Cond} (h : w ∈ lw_gd) : vx_ot w = true := by
  unfold vx_ot
  rw [gd_good w h, Bool.or_true]
theorem ng_ot {w : Cond} (h : w ∈ lw_ng) : vx_ot w = true := by
  unfold vx_ot
  rw [ng_tab h, Bool.true_or]
section EN
variable {P : mP} {m d : Nat} {sc : Bool} {p : Program} {l : Launch} {e : Env} {R : Room} {s : State} {mid : MethodId} {args : Array Value} {below : List Frame} {meth : Method} {c : Code} {D : va_G} {aC : FieldType → ClassId} {ad0 : Nat → Nat} {n0 : Nat} {M0 : mM} {A : Nat → Prop} {Q : State → Prop}
variable {pc u : Nat} {L S : List mV} {σ : mS}
theorem mWd.grow {ad : Nat → Nat} {H H1 : Heap} (h : mWd D aC ad σ A H) (hq : ∀ q : Nat, q < H.size → H1[q]? = H[q]?) : mWd D aC ad σ A H1 := ⟨h.1.kept (fun k q hk => hq _ (h.1 k q hk).lt), h.2⟩
theorem fin_meth {σ0 : mS} {o : mO} {σ' : mS} (F : Fx P m d sc p l e R s mid args below meth c D aC ad0 σ0.1.length σ0.2 (mA ad0 σ0.1.length s.heap.size)) :
    Fin P m p l e R s mid args below meth c D aC ad0 σ0.1.length σ0.2 (mA ad0 σ0.1.length s.heap.size) (vx_MQ below (cQ D aC ad0 s.heap.size σ0 o σ') (cX D aC ad0 s.heap.size σ0 o σ') args s (P m).1.2.2.2.2.1 (2100 * (P m).1.2.2.2.2.1) (mA ad0 σ0.1.length s.heap.size)) o σ' := by
  refine ⟨fun v hv pc u L S hu hr => ?_, fun ex hx pc u L S hu hS20 hr => ?_, fun ex hx pc u L S hu hh => ?_⟩
  · subst hv
    intro ad H locs ls st g0 g1 hW g2 hS hL hT
    refine W.widen (k := (P m).1.2.2.2.2.1) (n := 2100 * (P m).1.2.2.2.2.1) hu (by omega) ?_
    have hpost : ∀ (t : State) (x : Option Value), t.heap = H → x = v.map (vv ad) → (∀ y, v = some y → okV σ'.1.length y ∧ y ≠ vj) → cQ D aC ad0 s.heap.size σ0 (.inl v) σ' args s (.returned x) t := by
      intro t x ht hx hy
      exact ⟨⟨v, ad, rfl, by rw [hx], g1, g0, g2, by rw [ht]; exact hW, hy⟩, hS.F ht⟩
    rcases hr with ⟨r1, r2, rfl, rfl⟩ | ⟨x, r1, r2, rfl, rfl⟩ | ⟨x, r1, r2, rfl, rfl⟩
    · cases st with
      | cons _ _ => exact hT.elim
      | nil => exact vx_ret (W.vret F.exec F.code (F.ret.trans r2) (fun t ht hWm => hpost t none ht rfl (fun y hy => by cases hy)) hS.2.2 r1 F.locks)
    · obtain ⟨y, st', rfl, h1, h2, h3⟩ := sR_cons hT
      cases sv_i h1
      cases st' with
      | cons _ _ => exact h3.elim
      | nil =>
        have hq : ∀ t : State, t.heap = H → s.WarmedH t.vm → cQ D aC ad0 s.heap.size σ0 (.inl (some (vi x))) σ' args s (.returned (some (.int (Int32.ofInt x)))) t := fun t ht hWm => hpost t _ ht rfl (fun y hy => by cases hy; exact ⟨h2, fun z => by cases z⟩)
        rcases r2 with r2 | ⟨r2, r3⟩
        · exact vx_ret (W.iret F.exec F.code (F.ret.trans r2) hq hS.2.2 r1 F.locks)
        · refine vx_ret (W.zret (ty := .boolean) F.exec F.code (F.ret.trans r2) ?_ hq hS.2.2 r1 F.locks)
          unfold bit? at r3
          rw [Bool.or_eq_true, decide_eq_true_eq, decide_eq_true_eq] at r3
          rcases r3 with rfl | rfl <;> rfl
    · obtain ⟨y, st', rfl, h1, h2, h3⟩ := sR_cons hT
      cases sv_d h1
      cases st' with
      | cons _ _ => exact h3.elim
      | nil => exact vx_ret (W.dret F.exec F.code (F.ret.trans r2) (fun t ht hWm => hpost t _ ht rfl (fun y hy => by cases hy; exact ⟨trivial, fun z => by cases z⟩)) hS.2.2 r1 F.locks)
  · subst hx
    intro ad H locs ls st g0 g1 hW g2 hS hL hT
    obtain ⟨t1, t2, t3, ik, is, text, t4, t5, t6, t7, t8⟩ := hr
    obtain ⟨sa, hsa⟩ := F.kn.2.2.1 RX9 is text t5
    have hown := F.own
    rw [t1] at hown
    have hrm := F.rm
    have hb := F.bd
    have hs := sR_le hT hS20
    have htab : ∀ z, ∀ x ∈ c.exceptionTable.toList, covers x z = false := by
      intro z x hx
      rw [F.tab, t2] at hx
      cases hx
    have hat : ∀ w ∈ nx_at RX9 (exI ex) (exN ex) (exX ex) (exB ex) exS, w.before args s = true := fun w hw => by
      rcases thr_ws ex t3 w hw with h | h
      · exact F.ts w h
      · exact va_Nw.use (ng_tab h) (F.kn.2.1 w h)
    have hgd : ∀ w ∈ Cond.classLink RX9 ik (exN ex) :: Cond.initialized (exN ex) :: nx_at RX9 (exI ex) (exN ex) (exX ex) (exB ex) exS, vx_ot w = true := by
      intro w hw
      rcases List.mem_cons.mp hw with rfl | hw
      · exact gd_ot t4
      · rcases List.mem_cons.mp hw with rfl | hw
        · exact gd_ot (thr_in ex t3)
        · rcases thr_ws ex t3 w hw with h | h
          · exact gd_ot h
          · exact ng_ot h
    have hxx : ∀ t : State, s.vm.Alike t.vm → H.size ≤ t.heap.size → (∀ q : Nat, q < H.size → t.heap[q]? = H[q]?) → cX D aC ad0 s.heap.size σ0 (.inr ex) σ' (exN ex) s t := by
      intro t hvm hz hq
      refine ⟨ex, ad, rfl, rfl, g1, g0, g2, hW.grow hq, Nat.le_trans hS.1 hz, fun q h1 h2 => ?_⟩
      rw [hq q (Nat.lt_of_lt_of_le h1 hS.1)]
      exact hS.2.1 q h1 h2
    rcases t8 with ⟨t8, t9, t10⟩ | ⟨t8, t9, t10⟩
    · exact nx_throwS (names := exS) (text := text) F.exec F.code F.ntr (thr_dec ex t3).1 (thr_dec ex t3).2.1 (thr_dec ex t3).2.2.1 (thr_dec ex t3).2.2.2 hown (thr_fit ex t3) (by decide +kernel) (F.ts _ t4) (F.ts _ (thr_in ex t3)) hsa hat hgd F.st0.2.2.2.2.1 F.st0.2.2.2.2.2 hS ((lR_sz hL).trans F.maxL.symm) t6 t7 t8 t9 t10 (htab _) (by show 2 + 3 < _; omega) (by show _ + (13 * (2 + 1) + 43) ≤ _; omega) (by omega) (by omega) F.locks hxx hS.2.2 (by omega) (by omega)
    · exact nx_throwSW (names := exS) (text := text) F.exec F.code F.ntr (thr_dec ex t3).1 (thr_dec ex t3).2.1 (thr_dec ex t3).2.2.1 (thr_dec ex t3).2.2.2 hown (thr_fit ex t3) (by decide +kernel) (F.ts _ t4) (F.ts _ (thr_in ex t3)) hsa hat hgd F.st0.2.2.2.2.1 F.st0.2.2.2.2.2 hS ((lR_sz hL).trans F.maxL.symm) t6 t7 t8 t9 t10 (htab _) (by show 2 + 3 < _; omega) (by show _ + (13 * (2 + 1) + 43) ≤ _; omega) (by omega) (by omega) F.locks hxx hS.2.2 (by omega) (by omega)
  · subst hx
    intro ad H locs ls st q ce g0 g1 hW g2 hS hL hT hce hcv hcl
    refine vx_out (E := exN ex) (ce := ce) (fun x hx => ?_) F.locks hce hcv hcl (fun t ht hvm => ?_) hS.2.2 hu (by omega)
    · rw [F.tab, hh] at hx
      cases hx
    · refine ⟨ex, ad, rfl, rfl, g1, g0, g2, by rw [ht]; exact hW, hS.F ht⟩
end EN
