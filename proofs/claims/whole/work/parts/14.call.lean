/-! THE CONTRACT OF A METHOD OF THE SMALL MACHINE; CALLS -/
def mA (ad : Nat → Nat) (n sz : Nat) : Nat → Prop := fun q => (∃ k, 5 ≤ k ∧ k < n ∧ q = ad k) ∨ sz ≤ q
def cPre (D : va_G) (aC : FieldType → ClassId) (ad : Nat → Nat) (sz : Nat) (as : List mV) (σ : mS) : Array Value → State → Prop :=
  va_Pc (as.map (vv ad)) (fun U => U.heap.size = sz ∧ mKn D aC U ∧ mSt0 (mA ad σ.1.length sz) ad σ.2 U U.heap ∧ mWd D aC ad σ (mA ad σ.1.length sz) U.heap ∧ ∀ v ∈ as, okV σ.1.length v ∧ v ≠ vj)
def cQ (D : va_G) (aC : FieldType → ClassId) (ad : Nat → Nat) (sz : Nat) (σ : mS) (o : mO) (σ' : mS) : Array Value → State → Outcome → State → Prop := fun _ st oc t =>
  (∃ (v : Option mV) (ad' : Nat → Nat), o = .inl v ∧ oc = .returned (v.map (vv ad')) ∧ (∀ k, k < σ.1.length → ad' k = ad k) ∧ σ.1.length ≤ σ'.1.length ∧ (∀ k, k < 5 → σ'.2 k = σ.2 k) ∧ mWd D aC ad' σ' (mA ad σ.1.length sz) t.heap ∧ (∀ x, v = some x → okV σ'.1.length x ∧ x ≠ vj)) ∧ va_F (mA ad σ.1.length sz) st t
def cX (D : va_G) (aC : FieldType → ClassId) (ad : Nat → Nat) (sz : Nat) (σ : mS) (o : mO) (σ' : mS) : String → State → State → Prop := fun E st t =>
  ∃ (ex : Nat) (ad' : Nat → Nat), o = .inr ex ∧ E = exN ex ∧ (∀ k, k < σ.1.length → ad' k = ad k) ∧ σ.1.length ≤ σ'.1.length ∧ (∀ k, k < 5 → σ'.2 k = σ.2 k) ∧ mWd D aC ad' σ' (mA ad σ.1.length sz) t.heap ∧ va_F (mA ad σ.1.length sz) st t
def cW (P : mP) (m : Nat) : Cond := match (P m).1.2.2.2.2.2.2 with
  | [] => .code (P m).1.1 (P m).1.2.1 (P m).1.2.2.1 (P m).1.2.2.2.1
  | h :: hh => .codeWith (P m).1.1 (P m).1.2.1 (P m).1.2.2.1 (P m).1.2.2.2.1 (h :: hh)
def cWs (P : mP) (m : Nat) : List Cond := cW P m :: lw_gd
def cRm (P : mP) (m d : Nat) : Room := { frames := d + 10, cells := (P m).1.2.2.2.2.1, slots := 2100 * (P m).1.2.2.2.2.1, locals := 40 * d + 300 }
def cMet (P : mP) (l : Launch) (m d : Nat) (as : List mV) (σ : mS) (o : mO) (σ' : mS) : Prop := ∀ (D : va_G) (aC : FieldType → ClassId) (ad : Nat → Nat) (sz : Nat),
  vx_Met l (P m).1.1 (cWs P m) (cRm P m d) (cPre D aC ad sz as σ) (cQ D aC ad sz σ o σ') (cX D aC ad sz σ o σ') (P m).1.2.2.2.2.1 (2100 * (P m).1.2.2.2.2.1) (mA ad σ.1.length sz)
/-- what is asked of a method's entry in the table; st: static -/
def mOk (P : mP) (m : Nat) (st : Bool) : Prop :=
  plainName (P m).1.1.cls = true ∧ ((P m).1.1.cls ≠ "java/lang/invoke/MethodHandle" ∧ (P m).1.1.cls ≠ "java/lang/invoke/VarHandle") ∧ cW P m ∈ lw_gd ∧ Cond.initialized (P m).1.1.cls ∈ lw_gd ∧ (P m).1.2.2.1 ≤ 20 ∧
  (parseMethodDescriptor (P m).1.1.desc).map (fun d => d.parameters.length) = some ((P m).1.2.2.2.2.2.1 - (if st = true then 0 else 1)) ∧
  (st = true → Cond.static (P m).1.1 ∈ lw_gd) ∧ (st = false → Cond.instanceMethod (P m).1.1 ∈ lw_gd ∧ 1 ≤ (P m).1.2.2.2.2.2.1 ∧ ((P m).1.1.name = "<init>" ∨ Cond.selects (P m).1.1.cls (P m).1.1 (P m).1.1 ∈ lw_gd))
def XG (P : mP) (m : Nat) (p : Program) (l : Launch) (e : Env) (R : Room) (s : State) (mid : MethodId) (args : Array Value) (below : List Frame) (meth : Method) (c : Code) (D : va_G) (aC : FieldType → ClassId) (ad0 : Nat → Nat) (n0 : Nat) (M0 : mM) (A : Nat → Prop) (Q : State → Prop) (pc u : Nat) (L S : List mV) (σ : mS) (ex : Nat) : Prop :=
  ∀ (ad : Nat → Nat) (H : Heap) (locs : List Loc) (ls : Array Slot) (st : List Value) (q : Addr) (ce : Cell), n0 ≤ σ.1.length → (∀ k, k < n0 → ad k = ad0 k) → mWd D aC ad σ A H → (∀ k, k < 5 → σ.2 k = M0 k) → va_S A s.heap H locs → lR ad σ.1.length L ls (P m).1.2.2.1 → sR ad σ.1.length S st →
    H[q]? = some ce → ce.vm = .none → s.vm.findClass (exN ex) = some ce.cls → vx_W p l e R s mid args below meth c H locs u (2100 * u) Q (F0 mid pc ls st) q
section CA
variable {P : mP} {m d : Nat} {sc : Bool} {p : Program} {l : Launch} {e : Env} {R : Room} {s : State} {mid : MethodId} {args : Array Value} {below : List Frame} {meth : Method} {c : Code} {D : va_G} {aC : FieldType → ClassId} {ad0 : Nat → Nat} {n0 : Nat} {M0 : mM} {A : Nat → Prop} {Q : State → Prop}
variable {pc u : Nat} {L S : List mV} {σ : mS}
theorem mWd.own {ad : Nat → Nat} {H : Heap} (h : mWd D aC ad σ A H) : mWd D aC ad σ (mA ad σ.1.length H.size) H := by
  refine ⟨h.1, ⟨h.2.1.1, fun k q hk => ?_⟩, h.2.2⟩
  obtain ⟨sh, h1, rfl⟩ := mws_of hk
  exact Or.inl ⟨k + 5, by omega, (List.getElem?_eq_some_iff.mp h1).1, rfl⟩
theorem mWd.inA {ad : Nat → Nat} {H : Heap} (h : mWd D aC ad σ A H) (hA : ∀ q, s.heap.size ≤ q → A q) (hz : s.heap.size ≤ H.size) : ∀ q, mA ad σ.1.length H.size q → A q := by
  intro q hq
  rcases hq with ⟨k, h5, hk, rfl⟩ | hq
  · have := h.2.1.2 (k - 5) _ (mws_get (List.getElem?_eq_getElem hk) h5)
    exact this
  · exact hA q (Nat.le_trans hz hq)
theorem mWd.weak {ad : Nat → Nat} {B : Nat → Prop} {H : Heap} (h : mWd D aC ad σ B H) (hAB : ∀ q, B q → A q) : mWd D aC ad σ A H := ⟨h.1, h.2.1.weaken (fun _ _ _ q => hAB _ q), h.2.2⟩
theorem cPre_blind {ad : Nat → Nat} {sz : Nat} {as : List mV} : FrameBlind (cPre D aC ad sz as σ) := by
  intro a U g mk h
  obtain ⟨h1, h2, h3, h4, h5⟩ := h
  exact ⟨h1, h2, mKn.same (s := U) rfl h3, mSt0.moved (u := U) (U := U.calling g mk a) (Vm.Alike.refl U.vm) h4, h5⟩
/-- the callee's start, at the call -/
theorem cPre_at (F : Fx P m d sc p l e R s mid args below meth c D aC ad0 n0 M0 A) {ad : Nat → Nat} {H : Heap} {locs : List Loc} {as : List mV} {U : State} (g0 : n0 ≤ σ.1.length) (g1 : ∀ k, k < n0 → ad k = ad0 k) (hW : mWd D aC ad σ A H) (g2 : ∀ k, k < 5 → σ.2 k = M0 k) (hS : va_S A s.heap H locs) (hok : ∀ v ∈ as, okV σ.1.length v ∧ v ≠ vj) (hU : U.heap = H) (hWm : s.WarmedH U.vm) :
    cPre D aC ad H.size as σ (as.map (vv ad)).toArray U := by
  have h5 := F.n5
  refine ⟨rfl, by rw [hU], F.kn.warm hWm, ?_, by rw [hU]; exact hW.own, hok⟩
  rw [hU]
  have h1 : mSt0 A ad0 M0 s H := F.st0.kept (fun a ha hn => hS.2.1 a ha hn)
  exact ((h1.narrow (hW.inA F.hA hS.1)).moved hWm.alike).to (fun k hk => g1 k (by omega)) g2
theorem sR_split {ad : Nat → Nat} {n : Nat} : ∀ (q : Nat) {S : List mV} {st : List Value}, sR ad n S st → (S.take q).all nj = true → q ≤ S.length → st = (S.take q).map (vv ad) ++ st.drop q ∧ sR ad n (S.drop q) (st.drop q) ∧ ∀ v ∈ S.take q, okV n v ∧ v ≠ vj
  | 0, S, st, h, _, _ => ⟨rfl, h, fun v hv => by simp at hv⟩
  | q + 1, [], st, h, _, hq => by simp at hq
  | q + 1, v :: S, [], h, _, _ => h.elim
  | q + 1, v :: S, x :: st, h, ha, hq => by
    rw [List.take_succ_cons, List.all_cons, Bool.and_eq_true] at ha
    obtain ⟨h1, h2, h3⟩ := sR_split q h.2 ha.2 (by simpa using hq)
    have hx : x = vv ad v := by
      rcases h.1.1 with hx | ⟨hx, -⟩
      · exact hx
      · rw [hx] at ha; exact absurd ha.1 (by decide)
    have hv : v ≠ vj := fun z => by rw [z] at ha; exact absurd ha.1 (by decide)
    refine ⟨?_, h2, fun w hw => ?_⟩
    · rw [List.take_succ_cons, List.map_cons, List.drop_succ_cons, List.cons_append, ← h1, hx]
    · rw [List.take_succ_cons] at hw
      rcases List.mem_cons.mp hw with rfl | hw
      · exact ⟨h.1.2, hv⟩
      · exact h3 w hw
/-- how a call goes on -/
theorem s_go (F : Fx P m d sc p l e R s mid args below meth c D aC ad0 n0 M0 A) {a cc nA : Nat} {as : List mV} {o : mO} {σ1 : mS} (hn : nA ≤ S.length) (hnj : (S.take nA).all nj = true) (has : as = (S.take nA).reverse)
    (hrun : ∀ (ad : Nat → Nat) (H : Heap) (locs : List Loc) (ls : Array Slot) (st rest : List Value), n0 ≤ σ.1.length → (∀ k, k < n0 → ad k = ad0 k) → mWd D aC ad σ A H → (∀ k, k < 5 → σ.2 k = M0 k) → va_S A s.heap H locs → ls.size = (P m).1.2.2.1 → st = ((as.map (vv ad)).reverse ++ rest) → (rest.map fun v => v.category).sum = c2sum (S.drop nA) → (∀ v ∈ as, okV σ.1.length v ∧ v ≠ vj) →
      vx_Run p l e R s mid args below meth c H locs u (2100 * u) cc (2100 * cc) (F0 mid pc ls st) rest (cQ D aC ad H.size σ o σ1 (as.map (vv ad)).toArray) (cX D aC ad H.size σ o σ1) (mA ad σ.1.length H.size))
    (kr : ∀ v, o = .inl v → WG P m p l e R s mid args below meth c D aC ad0 n0 M0 A Q (pc + 3) (u + cc) L (psh v (S.drop nA)) σ1) (kx : ∀ ex, o = .inr ex → XG P m p l e R s mid args below meth c D aC ad0 n0 M0 A Q pc (u + cc) L (S.drop nA) σ1 ex) : WG P m p l e R s mid args below meth c D aC ad0 n0 M0 A Q pc u L S σ := by
  intro ad H locs ls st g0 g1 hW g2 hS hL hT
  obtain ⟨h1, h2, h3⟩ := sR_split nA hT hnj hn
  have hst : st = (as.map (vv ad)).reverse ++ st.drop nA := by
    rw [has, List.map_reverse, List.reverse_reverse]
    exact h1
  have hok : ∀ v ∈ as, okV σ.1.length v ∧ v ≠ vj := fun v hv => h3 v (by rw [has] at hv; exact List.mem_reverse.mp hv)
  have hr := hrun ad H locs ls st (st.drop nA) g0 g1 hW g2 hS (lR_sz hL) hst (sR_sum h2) hok
  have hin := hW.inA F.hA hS.1
  intro T hTe X
  rcases hr T hTe X with ⟨v, st₀, t, T', Lc, q0, X', hLc, e1, e2, ⟨⟨v', ad', p1, p2, p3, p4, p4', p5, p6⟩, hF⟩, stp⟩ | ⟨q, st₀, t, T', Lc, E, ce, q0, X', hLc, e1, e2, ⟨ex, ad', p1, p2, p3, p4, p4', p5, hF⟩, hce, hcv, hcl, stp⟩
  · have hv : v = v'.map (vv ad') := by cases p2; rfl
    subst hv
    obtain ⟨k1, k2, k3⟩ := vx_keep q0 e1 hS (fun q _ h => hin q h) hin hLc hF
    have hsum : 2100 * u + 2100 * cc = 2100 * (u + cc) := by omega
    have hW' : mWd D aC ad' σ1 A T'.heap := by rw [e1]; exact p5.weak hin
    have hsr : sR ad' σ1.1.length (psh v' (S.drop nA)) ((v'.map (vv ad')).toList ++ st.drop nA) := by
      cases v' with
      | none => exact sR_ad p3 p4 h2
      | some x => exact ⟨⟨Or.inl rfl, (p6 x rfl).1⟩, sR_ad p3 p4 h2⟩
    have key := kr v' p1 ad' T'.heap (locs ++ Lc) ls _ (by omega) (fun k hk => (p3 k (by omega)).trans (g1 k hk)) hW' (fun k hk => (p4' k hk).trans (g2 k hk)) k3 (lR_ad p3 p4 hL) hsr
    rw [← hsum] at key
    obtain ⟨t2, a1, b1⟩ := key T' rfl X'
    exact ⟨t2, stp t2 a1, b1⟩
  · obtain ⟨k1, k2, k3⟩ := vx_keep q0 e1 hS (fun q _ h => hin q h) hin hLc hF
    have hsum : 2100 * u + 2100 * cc = 2100 * (u + cc) := by omega
    have hW' : mWd D aC ad' σ1 A T'.heap := by rw [e1]; exact p5.weak hin
    have key := kx ex p1 ad' T'.heap (locs ++ Lc) ls _ q ce (by omega) (fun k hk => (p3 k (by omega)).trans (g1 k hk)) hW' (fun k hk => (p4' k hk).trans (g2 k hk)) k3 (lR_ad p3 p4 hL) (sR_ad p3 p4 h2) (by rw [e1]; exact hce) hcv (by rw [← p2]; exact hcl)
    rw [← hsum] at key
    obtain ⟨t2, a1, b1⟩ := key T' rfl X'
    exact ⟨t2, stp.trans a1, b1⟩
theorem cWs_pay (F : Fx P m d sc p l e R s mid args below meth c D aC ad0 n0 M0 A) (a : Nat) (ha : cW P a ∈ lw_gd) : ∀ w ∈ cWs P a, ∀ (a' : Array Value) (U : State), s.WarmedH U.vm → w.before a' U = true := by
  intro w hw a' U hWm
  have hw' : w ∈ lw_gd := by
    rcases List.mem_cons.mp hw with rfl | h
    · exact ha
    · exact h
  exact word_at hWm (good_of_word (gd_good w hw')) (F.ts w hw')
theorem cW_code {a : Nat} (h : (P a).1.2.2.2.2.2.2 = []) : cW P a = .code (P a).1.1 (P a).1.2.1 (P a).1.2.2.1 (P a).1.2.2.2.1 := by
  unfold cW
  rw [h]
theorem cW_codeW {a : Nat} (h : (P a).1.2.2.2.2.2.2 ≠ []) : cW P a = .codeWith (P a).1.1 (P a).1.2.1 (P a).1.2.2.1 (P a).1.2.2.2.1 (P a).1.2.2.2.2.2.2 := by
  unfold cW
  cases hx : (P a).1.2.2.2.2.2.2 with
  | nil => exact absurd hx h
  | cons x y => rfl
theorem callB_at (F : Fx P m d sc p l e R s mid args below meth c D aC ad0 n0 M0 A) {a d' idx n : Nat} {st : Bool} (hd : d = d' + 1) (hm : mOk P a st) (hh : (P a).1.2.2.2.2.2.2 = []) (hn : n = (P a).1.2.2.2.2.2.1 - (if st = true then 0 else 1)) (hl : (Cond.methodLink (P m).1.1.cls idx (P a).1.1).before args s = true) :
    CallB R s args (P m).1.1.cls idx (P a).1.1 (P a).1.2.1 (P a).1.2.2.1 (P a).1.2.2.2.1 (cWs P a) (cRm P a d') (P a).1.2.2.2.2.1 (2100 * (P a).1.2.2.2.2.1) n := by
  obtain ⟨m1, m2, m3, m4, m5, m6, m7, m8⟩ := hm
  have hrm := F.rm
  refine ⟨rfl, rfl, (by show d' + 10 + 1 ≤ R.frames; omega), (by show 8 + ((P a).1.2.2.1 + 11) + (40 * d' + 300) ≤ R.locals; omega), cWs_pay F a m3, (by rw [← cW_code hh]; exact List.mem_cons_self), (by rw [← cW_code hh]; exact F.ts _ m3), F.ts _ m4, m2, fun sig h => ?_, hl⟩
  rw [h] at m6
  rw [hn]
  exact (Option.some.inj m6).symm
theorem callN_at (F : Fx P m d sc p l e R s mid args below meth c D aC ad0 n0 M0 A) {a d' idx n : Nat} {st : Bool} {host : String} (hd : d = d' + 1) (hm : mOk P a st) (hh : (P a).1.2.2.2.2.2.2 = []) (hn : n = (P a).1.2.2.2.2.2.1 - (if st = true then 0 else 1)) (hl : (Cond.methodLinkNest (P m).1.1.cls idx (P a).1.1 host).before args s = true) :
    va_CN R s args (P m).1.1.cls idx (P a).1.1 host (P a).1.2.1 (P a).1.2.2.1 (P a).1.2.2.2.1 (cWs P a) (cRm P a d') (P a).1.2.2.2.2.1 (2100 * (P a).1.2.2.2.2.1) n := by
  obtain ⟨m1, m2, m3, m4, m5, m6, m7, m8⟩ := hm
  have hrm := F.rm
  refine ⟨⟨rfl, rfl, (by show d' + 10 + 1 ≤ R.frames; omega), (by show 8 + ((P a).1.2.2.1 + 11) + (40 * d' + 300) ≤ R.locals; omega), cWs_pay F a m3, (by rw [← cW_code hh]; exact List.mem_cons_self)⟩, (by rw [← cW_code hh]; exact F.ts _ m3), F.ts _ m4, m2, fun sig h => ?_, hl⟩
  rw [h] at m6
  rw [hn]
  exact (Option.some.inj m6).symm
theorem fix_at (F : Fx P m d sc p l e R s mid args below meth c D aC ad0 n0 M0 A) : CallFix p mid c (P m).1.2.1 (P m).1.2.2.1 s args lw_gd (P m).1.1.cls := ⟨F.exec, F.code, F.maxL, F.own, F.ts⟩
theorem bd_at (F : Fx P m d sc p l e R s mid args below meth c D aC ad0 n0 M0 A) {cc : Nat} (h : u + cc ≤ (P m).1.2.2.2.2.1) : u + cc ≤ R.cells ∧ 2100 * u + 2100 * cc ≤ R.slots := by
  have := F.bd
  exact ⟨by omega, by omega⟩
theorem rec_at (F : Fx P m d sc p l e R s mid args below meth c D aC ad0 n0 M0 A) {ad : Nat → Nat} {H : Heap} {k ci : Nat} {fs : List (Option (Option Nat))} {q : vw_C} (hW : mWd D aC ad σ A H) (hk : σ.1[k]? = some (0, ci, fs)) (hq : mcl[ci]? = some q) : ∃ cell : Cell, H[ad k]? = some cell ∧ cell.vm.isStatics = false ∧ s.vm.findClass q.1 = some cell.cls :=
  va_recv (q0 := k - 5) (ci := ci) F.kn.1 hW.1 hq (mws_get hk (hW.2.2.1.ge hk (Nat.zero_le 4)))
theorem rcv_some {as : List mV} {ci : Nat} (h : rcvOk σ as (ci + 1) = true) : ∃ k fs as', as = vr k :: as' ∧ σ.1[k]? = some (0, ci, fs) := by
  unfold rcvOk at h
  split at h
  · rename_i h0; cases h0
  · rename_i c0 k as' h0
    cases h0
    split at h
    · rename_i c1 fs hk
      have : c1 = ci := by simpa using h
      subst this
      exact ⟨k, fs, as', rfl, hk⟩
    · cases h
  · cases h
/-- the kinds of calls -/
theorem s_callV (F : Fx P m d sc p l e R s mid args below meth c D aC ad0 n0 M0 A) {a d' nA ci i idx : Nat} {o : mO} {σ1 : mS} {q : vw_C} (hn : nA ≤ S.length) (h8 : c2sum (S.drop nA) ≤ 8) (hu : u + (P a).1.2.2.2.2.1 ≤ (P m).1.2.2.2.2.1) (hnj : (S.take nA).all nj = true) (hrc : rcvOk σ (S.take nA).reverse (ci + 1) = true) (hq : mcl[ci]? = some q) (hqc : q.1 = (P a).1.1.cls) (hd' : d = d' + 1) (hm : mOk P a false) (hh : (P a).1.2.2.2.2.2.2 = []) (hnA : nA = (P a).1.2.2.2.2.2.1) (hsel : (P a).1.1.name ≠ "<init>")
    (hl : lw_tbl[i]? = some (.methodLink (P m).1.1.cls idx (P a).1.1)) (hd : decode (P m).1.2.1 pc = .ok (.invokevirtual idx, 3)) (hM : cMet P l a d' (S.take nA).reverse σ o σ1)
    (kr : ∀ v, o = .inl v → WG P m p l e R s mid args below meth c D aC ad0 n0 M0 A Q (pc + 3) (u + (P a).1.2.2.2.2.1) L (psh v (S.drop nA)) σ1) (kx : ∀ ex, o = .inr ex → XG P m p l e R s mid args below meth c D aC ad0 n0 M0 A Q pc (u + (P a).1.2.2.2.2.1) L (S.drop nA) σ1 ex) : WG P m p l e R s mid args below meth c D aC ad0 n0 M0 A Q pc u L S σ := by
  refine s_go F (a := a) hn hnj rfl (fun ad H locs ls st rest g0 g1 hW g2 hS hsz hst hsum hok => ?_) kr kx
  obtain ⟨k, fs, as', has, hk⟩ := rcv_some hrc
  have hm' := hm
  obtain ⟨m1, m2, m3, m4, m5, m6, m7, m8⟩ := hm
  obtain ⟨i1, i2, i3⟩ := m8 rfl
  rw [has] at hM hst hok ⊢
  have hlen : (vr k :: as').length = nA := by rw [← has]; simp; omega
  refine vx_runV (As := as'.map (vv ad)) (b := ad k) (C := (P a).1.1.cls) (n := nA - 1) (fix_at F) (hM D aC ad H.size) ⟨callB_at F hd' hm' hh (by rw [hnA]; rfl) (gd_at F hl rfl), F.ts _ i1, F.ts _ (i3.resolve_left hsel)⟩ ⟨cPre_blind, by rw [← hqc]; exact rec_at F hW hk hq, fun U hU hWm => cPre_at F g0 g1 hW g2 hS hok hU hWm⟩ rfl (by simp at hlen ⊢; omega) hsz (by rw [hst, List.map_cons, List.reverse_cons, List.append_assoc]; rfl) (by show 2 * 0 + _ ≤ 8; omega) hd (bd_at F hu)
theorem s_callS (F : Fx P m d sc p l e R s mid args below meth c D aC ad0 n0 M0 A) {a d' nA i idx : Nat} {o : mO} {σ1 : mS} (hn : nA ≤ S.length) (h8 : c2sum (S.drop nA) ≤ 8) (hu : u + (P a).1.2.2.2.2.1 ≤ (P m).1.2.2.2.2.1) (hnj : (S.take nA).all nj = true) (hd' : d = d' + 1) (hm : mOk P a true) (hh : (P a).1.2.2.2.2.2.2 = []) (hnA : nA = (P a).1.2.2.2.2.2.1)
    (hl : lw_tbl[i]? = some (.methodLink (P m).1.1.cls idx (P a).1.1)) (hd : decode (P m).1.2.1 pc = .ok (.invokestatic idx, 3)) (hM : cMet P l a d' (S.take nA).reverse σ o σ1)
    (kr : ∀ v, o = .inl v → WG P m p l e R s mid args below meth c D aC ad0 n0 M0 A Q (pc + 3) (u + (P a).1.2.2.2.2.1) L (psh v (S.drop nA)) σ1) (kx : ∀ ex, o = .inr ex → XG P m p l e R s mid args below meth c D aC ad0 n0 M0 A Q pc (u + (P a).1.2.2.2.2.1) L (S.drop nA) σ1 ex) : WG P m p l e R s mid args below meth c D aC ad0 n0 M0 A Q pc u L S σ := by
  refine s_go F (a := a) hn hnj rfl (fun ad H locs ls st rest g0 g1 hW g2 hS hsz hst hsum hok => ?_) kr kx
  have hm' := hm
  obtain ⟨m1, m2, m3, m4, m5, m6, m7, m8⟩ := hm
  refine vx_runS (As := ((S.take nA).reverse).map (vv ad)) (n := nA) (fix_at F) (hM D aC ad H.size) ⟨callB_at F hd' hm' hh (by rw [hnA]; rfl) (gd_at F hl rfl), F.ts _ (m7 rfl)⟩ ⟨cPre_blind, fun U hU hWm => cPre_at F g0 g1 hW g2 hS hok hU hWm⟩ rfl (by simp; omega) hsz hst (by show 2 * 0 + _ ≤ 8; omega) hd (bd_at F hu)
theorem s_callSN (F : Fx P m d sc p l e R s mid args below meth c D aC ad0 n0 M0 A) {a d' nA i idx : Nat} {host : String} {o : mO} {σ1 : mS} (hn : nA ≤ S.length) (h8 : c2sum (S.drop nA) ≤ 8) (hu : u + (P a).1.2.2.2.2.1 ≤ (P m).1.2.2.2.2.1) (hnj : (S.take nA).all nj = true) (hd' : d = d' + 1) (hm : mOk P a true) (hh : (P a).1.2.2.2.2.2.2 = []) (hnA : nA = (P a).1.2.2.2.2.2.1)
    (hl : lw_tbl[i]? = some (.methodLinkNest (P m).1.1.cls idx (P a).1.1 host)) (hd : decode (P m).1.2.1 pc = .ok (.invokestatic idx, 3)) (hM : cMet P l a d' (S.take nA).reverse σ o σ1)
    (kr : ∀ v, o = .inl v → WG P m p l e R s mid args below meth c D aC ad0 n0 M0 A Q (pc + 3) (u + (P a).1.2.2.2.2.1) L (psh v (S.drop nA)) σ1) (kx : ∀ ex, o = .inr ex → XG P m p l e R s mid args below meth c D aC ad0 n0 M0 A Q pc (u + (P a).1.2.2.2.2.1) L (S.drop nA) σ1 ex) : WG P m p l e R s mid args below meth c D aC ad0 n0 M0 A Q pc u L S σ := by
  refine s_go F (a := a) hn hnj rfl (fun ad H locs ls st rest g0 g1 hW g2 hS hsz hst hsum hok => ?_) kr kx
  have hm' := hm
  obtain ⟨m1, m2, m3, m4, m5, m6, m7, m8⟩ := hm
  refine vx_runSN (As := ((S.take nA).reverse).map (vv ad)) (n := nA) (fix_at F) (hM D aC ad H.size) ⟨callN_at F hd' hm' hh (by rw [hnA]; rfl) (va_Nw.use rfl (ng_at F hl rfl)), F.ts _ (m7 rfl), trivial⟩ ⟨cPre_blind, fun U hU hWm => cPre_at F g0 g1 hW g2 hS hok hU hWm⟩ rfl (by simp; omega) hsz hst (by show 2 * 0 + _ ≤ 8; omega) hd (bd_at F hu)
theorem s_callSX (F : Fx P m d sc p l e R s mid args below meth c D aC ad0 n0 M0 A) {a d' nA i idx : Nat} {o : mO} {σ1 : mS} (hn : nA ≤ S.length) (h8 : c2sum (S.drop nA) ≤ 8) (hu : u + (P a).1.2.2.2.2.1 ≤ (P m).1.2.2.2.2.1) (hnj : (S.take nA).all nj = true) (hd' : d = d' + 1) (hm : mOk P a true) (hh : (P a).1.2.2.2.2.2.2 ≠ []) (hnA : nA = (P a).1.2.2.2.2.2.1)
    (hl : lw_tbl[i]? = some (.methodLink (P m).1.1.cls idx (P a).1.1)) (hd : decode (P m).1.2.1 pc = .ok (.invokestatic idx, 3)) (hM : cMet P l a d' (S.take nA).reverse σ o σ1)
    (kr : ∀ v, o = .inl v → WG P m p l e R s mid args below meth c D aC ad0 n0 M0 A Q (pc + 3) (u + (P a).1.2.2.2.2.1) L (psh v (S.drop nA)) σ1) (kx : ∀ ex, o = .inr ex → XG P m p l e R s mid args below meth c D aC ad0 n0 M0 A Q pc (u + (P a).1.2.2.2.2.1) L (S.drop nA) σ1 ex) : WG P m p l e R s mid args below meth c D aC ad0 n0 M0 A Q pc u L S σ := by
  refine s_go F (a := a) hn hnj rfl (fun ad H locs ls st rest g0 g1 hW g2 hS hsz hst hsum hok => ?_) kr kx
  have hm' := hm
  obtain ⟨m1, m2, m3, m4, m5, m6, m7, m8⟩ := hm
  have hrm := F.rm
  refine vx_runSX (As := ((S.take nA).reverse).map (vv ad)) (n := nA) (hh := (P a).1.2.2.2.2.2.2) (bytes := (P a).1.2.1) (maxL := (P a).1.2.2.1) (ret := (P a).1.2.2.2.1) (fix_at F) (hM D aC ad H.size) ⟨⟨rfl, rfl, (by show d' + 10 + 1 ≤ R.frames; omega), (by show 8 + ((P a).1.2.2.1 + 11) + (40 * d' + 300) ≤ R.locals; omega), cWs_pay F a m3, (by rw [← cW_codeW hh]; exact List.mem_cons_self)⟩, (by rw [← cW_codeW hh]; exact F.ts _ m3), F.ts _ m4, m2, fun sig h => ?_, gd_at F hl rfl, F.ts _ (m7 rfl)⟩ ⟨cPre_blind, fun U hU hWm => cPre_at F g0 g1 hW g2 hS hok hU hWm⟩ rfl (by simp; omega) hsz hst (by show 2 * 0 + _ ≤ 8; omega) hd (bd_at F hu)
  rw [h] at m6
  rw [hnA]
  exact (Option.some.inj m6).symm
theorem s_callI (F : Fx P m d sc p l e R s mid args below meth c D aC ad0 n0 M0 A) {a d' nA ci i idx : Nat} {o : mO} {σ1 : mS} (hn : nA ≤ S.length) (h8 : c2sum (S.drop nA) ≤ 8) (hu : u + (P a).1.2.2.2.2.1 ≤ (P m).1.2.2.2.2.1) (hnj : (S.take nA).all nj = true) (hrc : rcvOk σ (S.take nA).reverse (ci + 1) = true) (hd' : d = d' + 1) (hm : mOk P a false) (hh : (P a).1.2.2.2.2.2.2 = []) (hnA : nA = (P a).1.2.2.2.2.2.1) (hin : (P a).1.1.name = "<init>") (hrt : (P a).1.2.2.2.1 = none)
    (hl : lw_tbl[i]? = some (.methodLink (P m).1.1.cls idx (P a).1.1)) (hd : decode (P m).1.2.1 pc = .ok (.invokespecial idx, 3)) (hM : cMet P l a d' (S.take nA).reverse σ o σ1)
    (kr : ∀ v, o = .inl v → WG P m p l e R s mid args below meth c D aC ad0 n0 M0 A Q (pc + 3) (u + (P a).1.2.2.2.2.1) L (psh v (S.drop nA)) σ1) (kx : ∀ ex, o = .inr ex → XG P m p l e R s mid args below meth c D aC ad0 n0 M0 A Q pc (u + (P a).1.2.2.2.2.1) L (S.drop nA) σ1 ex) : WG P m p l e R s mid args below meth c D aC ad0 n0 M0 A Q pc u L S σ := by
  refine s_go F (a := a) hn hnj rfl (fun ad H locs ls st rest g0 g1 hW g2 hS hsz hst hsum hok => ?_) kr kx
  obtain ⟨k, fs, as', has, hk⟩ := rcv_some hrc
  have hm' := hm
  obtain ⟨m1, m2, m3, m4, m5, m6, m7, m8⟩ := hm
  obtain ⟨i1, i2, i3⟩ := m8 rfl
  rw [has] at hM hst hok ⊢
  have hlen : (vr k :: as').length = nA := by rw [← has]; simp; omega
  have hcb := callB_at F (n := nA - 1) hd' hm' hh (by rw [hnA]; rfl) (gd_at F hl rfl)
  rw [hrt] at hcb
  refine vx_runI (As := as'.map (vv ad)) (b := ad k) (n := nA - 1) (fix_at F) (hM D aC ad H.size) ⟨hcb, hin, F.ts _ i1⟩ ⟨cPre_blind, fun U hU hWm => cPre_at F g0 g1 hW g2 hS hok hU hWm⟩ rfl (by simp at hlen ⊢; omega) hsz (by rw [hst, List.map_cons, List.reverse_cons, List.append_assoc]; rfl) (by show 2 * 0 + _ ≤ 8; omega) hd (bd_at F hu)
theorem s_callIN (F : Fx P m d sc p l e R s mid args below meth c D aC ad0 n0 M0 A) {a d' nA ci i idx : Nat} {host : String} {o : mO} {σ1 : mS} (hn : nA ≤ S.length) (h8 : c2sum (S.drop nA) ≤ 8) (hu : u + (P a).1.2.2.2.2.1 ≤ (P m).1.2.2.2.2.1) (hnj : (S.take nA).all nj = true) (hrc : rcvOk σ (S.take nA).reverse (ci + 1) = true) (hd' : d = d' + 1) (hm : mOk P a false) (hh : (P a).1.2.2.2.2.2.2 = []) (hnA : nA = (P a).1.2.2.2.2.2.1) (hin : (P a).1.1.name = "<init>") (hrt : (P a).1.2.2.2.1 = none)
    (hl : lw_tbl[i]? = some (.methodLinkNest (P m).1.1.cls idx (P a).1.1 host)) (hd : decode (P m).1.2.1 pc = .ok (.invokespecial idx, 3)) (hM : cMet P l a d' (S.take nA).reverse σ o σ1)
    (kr : ∀ v, o = .inl v → WG P m p l e R s mid args below meth c D aC ad0 n0 M0 A Q (pc + 3) (u + (P a).1.2.2.2.2.1) L (psh v (S.drop nA)) σ1) (kx : ∀ ex, o = .inr ex → XG P m p l e R s mid args below meth c D aC ad0 n0 M0 A Q pc (u + (P a).1.2.2.2.2.1) L (S.drop nA) σ1 ex) : WG P m p l e R s mid args below meth c D aC ad0 n0 M0 A Q pc u L S σ := by
  refine s_go F (a := a) hn hnj rfl (fun ad H locs ls st rest g0 g1 hW g2 hS hsz hst hsum hok => ?_) kr kx
  obtain ⟨k, fs, as', has, hk⟩ := rcv_some hrc
  have hm' := hm
  obtain ⟨m1, m2, m3, m4, m5, m6, m7, m8⟩ := hm
  obtain ⟨i1, i2, i3⟩ := m8 rfl
  rw [has] at hM hst hok ⊢
  have hlen : (vr k :: as').length = nA := by rw [← has]; simp; omega
  have hcb := callN_at F (n := nA - 1) (host := host) hd' hm' hh (by rw [hnA]; rfl) (va_Nw.use rfl (ng_at F hl rfl))
  rw [hrt] at hcb
  refine vx_runIN (As := as'.map (vv ad)) (b := ad k) (n := nA - 1) (fix_at F) (hM D aC ad H.size) ⟨hcb, hin, F.ts _ i1⟩ ⟨cPre_blind, fun U hU hWm => cPre_at F g0 g1 hW g2 hS hok hU hWm⟩ rfl (by simp at hlen ⊢; omega) hsz (by rw [hst, List.map_cons, List.reverse_cons, List.append_assoc]; rfl) (by show 2 * 0 + _ ≤ 8; omega) hd (bd_at F hu)
end CA
