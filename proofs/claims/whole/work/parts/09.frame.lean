/-! A FRAME OF THE SMALL MACHINE OVER THE REAL ONE -/
def mScr (A : Nat → Prop) (ad : Nat → Nat) (M : mM) (s : State) : Prop := ∃ (L : Nat) (xs : Nat → Int32), va_X (ad 3) L xs s s.heap ∧ ad 3 < s.heap.size ∧ ¬ A (ad 3) ∧ M 4 0 = L ∧ L < 2147483648 ∧ ∀ j, j < L → M 3 j = (xs j).toInt
def Fx (P : mP) (m d : Nat) (sc : Bool) (p : Program) (l : Launch) (e : Env) (R : Room) (s : State) (mid : MethodId) (args : Array Value) (below : List Frame) (meth : Method) (c : Code) (D : va_G) (aC : FieldType → ClassId) (ad0 : Nat → Nat) (n0 : Nat) (M0 : mM) (A : Nat → Prop) : Prop :=
  p.tables.exec = Jvm.exec ∧ c.code = (P m).1.2.1 ∧ c.maxLocals = (P m).1.2.2.1 ∧ s.vm.findClass (P m).1.1.cls = some mid.cls ∧ (∀ w ∈ lw_gd, w.before args s = true) ∧ meth.locks = false ∧ mKn D aC s ∧ mSt0 A ad0 M0 s s.heap ∧
  (∀ q, s.heap.size ≤ q → A q) ∧ (d + 10 ≤ R.frames ∧ 40 * d + 300 ≤ R.locals) ∧ ((P m).1.2.2.2.2.1 ≤ R.cells ∧ 2100 * (P m).1.2.2.2.2.1 ≤ R.slots) ∧ c.exceptionTable.toList = tableOf (P m).1.2.2.2.2.2.2 ∧ (sc = true → mScr A ad0 M0 s) ∧ meth.name = (P m).1.1.name ∧ 5 ≤ n0 ∧ l.stackTraces = false ∧ meth.sig.returnType = (P m).1.2.2.2.1
def WG (P : mP) (m : Nat) (p : Program) (l : Launch) (e : Env) (R : Room) (s : State) (mid : MethodId) (args : Array Value) (below : List Frame) (meth : Method) (c : Code) (D : va_G) (aC : FieldType → ClassId) (ad0 : Nat → Nat) (n0 : Nat) (M0 : mM) (A : Nat → Prop) (Q : State → Prop) (pc u : Nat) (L S : List mV) (σ : mS) : Prop :=
  ∀ (ad : Nat → Nat) (H : Heap) (locs : List Loc) (ls : Array Slot) (st : List Value), n0 ≤ σ.1.length → (∀ k, k < n0 → ad k = ad0 k) → mWd D aC ad σ A H → (∀ k, k < 5 → σ.2 k = M0 k) → va_S A s.heap H locs → lR ad σ.1.length L ls (P m).1.2.2.1 → sR ad σ.1.length S st →
    W p l e R s mid args below meth c H locs u (2100 * u) Q (F0 mid pc ls st)
section FR
variable {P : mP} {m d : Nat} {sc : Bool} {p : Program} {l : Launch} {e : Env} {R : Room} {s : State} {mid : MethodId} {args : Array Value} {below : List Frame} {meth : Method} {c : Code} {D : va_G} {aC : FieldType → ClassId} {ad0 : Nat → Nat} {n0 : Nat} {M0 : mM} {A : Nat → Prop} {Q : State → Prop}
variable {pc u : Nat} {L S : List mV} {σ : mS}
theorem Fx.exec (F : Fx P m d sc p l e R s mid args below meth c D aC ad0 n0 M0 A) : p.tables.exec = Jvm.exec := F.1
theorem Fx.code (F : Fx P m d sc p l e R s mid args below meth c D aC ad0 n0 M0 A) : c.code = (P m).1.2.1 := F.2.1
theorem Fx.maxL (F : Fx P m d sc p l e R s mid args below meth c D aC ad0 n0 M0 A) : c.maxLocals = (P m).1.2.2.1 := F.2.2.1
theorem Fx.own (F : Fx P m d sc p l e R s mid args below meth c D aC ad0 n0 M0 A) : s.vm.findClass (P m).1.1.cls = some mid.cls := F.2.2.2.1
theorem Fx.ts (F : Fx P m d sc p l e R s mid args below meth c D aC ad0 n0 M0 A) : ∀ w ∈ lw_gd, w.before args s = true := F.2.2.2.2.1
theorem Fx.locks (F : Fx P m d sc p l e R s mid args below meth c D aC ad0 n0 M0 A) : meth.locks = false := F.2.2.2.2.2.1
theorem Fx.kn (F : Fx P m d sc p l e R s mid args below meth c D aC ad0 n0 M0 A) : mKn D aC s := F.2.2.2.2.2.2.1
theorem Fx.st0 (F : Fx P m d sc p l e R s mid args below meth c D aC ad0 n0 M0 A) : mSt0 A ad0 M0 s s.heap := F.2.2.2.2.2.2.2.1
theorem Fx.hA (F : Fx P m d sc p l e R s mid args below meth c D aC ad0 n0 M0 A) : ∀ q, s.heap.size ≤ q → A q := F.2.2.2.2.2.2.2.2.1
theorem Fx.rm (F : Fx P m d sc p l e R s mid args below meth c D aC ad0 n0 M0 A) : d + 10 ≤ R.frames ∧ 40 * d + 300 ≤ R.locals := F.2.2.2.2.2.2.2.2.2.1
theorem Fx.bd (F : Fx P m d sc p l e R s mid args below meth c D aC ad0 n0 M0 A) : (P m).1.2.2.2.2.1 ≤ R.cells ∧ 2100 * (P m).1.2.2.2.2.1 ≤ R.slots := F.2.2.2.2.2.2.2.2.2.2.1
theorem Fx.tab (F : Fx P m d sc p l e R s mid args below meth c D aC ad0 n0 M0 A) : c.exceptionTable.toList = tableOf (P m).1.2.2.2.2.2.2 := F.2.2.2.2.2.2.2.2.2.2.2.1
theorem Fx.scr (F : Fx P m d sc p l e R s mid args below meth c D aC ad0 n0 M0 A) : sc = true → mScr A ad0 M0 s := F.2.2.2.2.2.2.2.2.2.2.2.2.1
theorem Fx.nm (F : Fx P m d sc p l e R s mid args below meth c D aC ad0 n0 M0 A) : meth.name = (P m).1.1.name := F.2.2.2.2.2.2.2.2.2.2.2.2.2.1
theorem Fx.n5 (F : Fx P m d sc p l e R s mid args below meth c D aC ad0 n0 M0 A) : 5 ≤ n0 := F.2.2.2.2.2.2.2.2.2.2.2.2.2.2.1
theorem Fx.ntr (F : Fx P m d sc p l e R s mid args below meth c D aC ad0 n0 M0 A) : l.stackTraces = false := F.2.2.2.2.2.2.2.2.2.2.2.2.2.2.2.1
theorem Fx.ret (F : Fx P m d sc p l e R s mid args below meth c D aC ad0 n0 M0 A) : meth.sig.returnType = (P m).1.2.2.2.1 := F.2.2.2.2.2.2.2.2.2.2.2.2.2.2.2.2
theorem gd_at (F : Fx P m d sc p l e R s mid args below meth c D aC ad0 n0 M0 A) {w : Cond} {i : Nat} (h : lw_tbl[i]? = some w) (hg : goodWord w = true) : w.before args s = true := F.ts w (gd_mem h hg)
theorem lR_at {ad : Nat → Nat} {n nL i : Nat} {v : mV} {ls : Array Slot} (h : lR ad n L ls nL) (hi : L[i]? = some v) (hv : v ≠ vj) : okV n v ∧ ls[i]? = some (.val (vv ad v)) := by
  obtain ⟨h1, lv, h2, h3⟩ := h
  obtain ⟨g1, g2⟩ := h3 i v hi hv
  exact ⟨g1, h2.2.2 _ g2⟩
theorem stI_some {n : Nat} {v : mV} {L' : List mV} (h : stI L n v = some L') : n < L.length ∧ c2at L n = false ∧ L' = L.set n v := by
  unfold stI at h
  split at h
  · rename_i hd
    simp only [Bool.and_eq_true, decide_eq_true_eq, Bool.not_eq_true'] at hd
    exact ⟨hd.1, hd.2, (Option.some.inj h).symm⟩
  · cases h
theorem stD_some {n : Nat} {v : mV} {L' : List mV} (h : stD L n v = some L') : n + 1 < L.length ∧ c2at L n = false ∧ L' = (L.set n v).set (n + 1) vj := by
  unfold stD at h
  split at h
  · rename_i hd
    simp only [Bool.and_eq_true, decide_eq_true_eq, Bool.not_eq_true'] at hd
    exact ⟨hd.1, hd.2, (Option.some.inj h).symm⟩
  · cases h
theorem c2at_no {n j : Nat} {v : mV} (h : c2at L n = false) (hj : j + 1 = n) (hv : L[j]? = some v) : c2 v = false := by
  subst hj
  have h1 : (match L[j]? with
    | some v => c2 v
    | none => false) = false := h
  rw [hv] at h1
  exact h1
/-- a store of one word: the list of what is known -/
theorem lR_st {ad : Nat → Nat} {n nL i : Nat} {v : mV} {x : Value} {L' : List mV} {ls : Array Slot} (h : lR ad n L ls nL) (hs : stI L i v = some L') (ho : okV n v) (hx : sv ad v x) :
    ∃ lv, lv_has ls nL lv ∧ i < nL ∧ ∀ ls', lv_has ls' nL ((i, x) :: lv.filter (fun q => !(q.1 == i) && !(q.1 + 1 == i && q.2.category == 2))) → lR ad n L' ls' nL := by
  obtain ⟨h1, lv, h2, h3⟩ := h
  obtain ⟨s1, s2, s3⟩ := stI_some hs
  refine ⟨lv, h2, by omega, fun ls' h' => ⟨by rw [s3, List.length_set]; exact h1, _, h', fun j w hj hw => ?_⟩⟩
  rw [s3] at hj
  by_cases hji : j = i
  · subst hji
    rw [List.getElem?_set_self s1] at hj
    cases hj
    refine ⟨ho, ?_⟩
    rcases hx with hx | hx
    · rw [hx]; exact List.mem_cons_self
    · exact absurd hx.1 hw
  · rw [List.getElem?_set_ne (Ne.symm hji)] at hj
    obtain ⟨k1, k2⟩ := h3 j w hj hw
    refine ⟨k1, List.mem_cons_of_mem _ (List.mem_filter.mpr ⟨k2, ?_⟩)⟩
    simp only [Bool.and_eq_true, Bool.not_eq_true', beq_eq_false_iff_ne, Bool.and_eq_false_iff]
    refine ⟨hji, ?_⟩
    by_cases hj1 : j + 1 = i
    · right
      have := c2at_no s2 hj1 hj
      rw [vv_cat, this]
      decide
    · left; exact hj1
theorem lR_std {ad : Nat → Nat} {n nL i : Nat} {v : mV} {x : Value} {L' : List mV} {ls : Array Slot} (h : lR ad n L ls nL) (hs : stD L i v = some L') (ho : okV n v) (hx : x = vv ad v) :
    ∃ lv, lv_has ls nL lv ∧ i + 1 < nL ∧ ∀ ls', lv_has ls' nL ((i, x) :: lv.filter (fun q => !(q.1 == i) && (!(q.1 == i + 1) && !(q.1 + 1 == i && q.2.category == 2)))) → lR ad n L' ls' nL := by
  obtain ⟨h1, lv, h2, h3⟩ := h
  obtain ⟨s1, s2, s3⟩ := stD_some hs
  refine ⟨lv, h2, by omega, fun ls' h' => ⟨by rw [s3, List.length_set, List.length_set]; exact h1, _, h', fun j w hj hw => ?_⟩⟩
  rw [s3] at hj
  by_cases hj2 : j = i + 1
  · subst hj2
    rw [List.getElem?_set_self (by rw [List.length_set]; exact s1)] at hj
    cases hj
    exact absurd rfl hw
  · rw [List.getElem?_set_ne (Ne.symm hj2)] at hj
    by_cases hji : j = i
    · subst hji
      rw [List.getElem?_set_self (by omega)] at hj
      cases hj
      exact ⟨ho, by rw [hx]; exact List.mem_cons_self⟩
    · rw [List.getElem?_set_ne (Ne.symm hji)] at hj
      obtain ⟨k1, k2⟩ := h3 j w hj hw
      refine ⟨k1, List.mem_cons_of_mem _ (List.mem_filter.mpr ⟨k2, ?_⟩)⟩
      simp only [Bool.and_eq_true, Bool.not_eq_true', beq_eq_false_iff_ne, Bool.and_eq_false_iff]
      refine ⟨hji, hj2, ?_⟩
      by_cases hj1 : j + 1 = i
      · right
        have := c2at_no s2 hj1 hj
        rw [vv_cat, this]
        decide
      · left; exact hj1
/-- the straight instructions, a row each -/
theorem s_iconst (F : Fx P m d sc p l e R s mid args below meth c D aC ad0 n0 M0 A) {n : Int} (hd : decode (P m).1.2.1 pc = .ok (.iconst n, 1)) (hn : inR n) (k : WG P m p l e R s mid args below meth c D aC ad0 n0 M0 A Q (pc + 1) u L (vi n :: S) σ) : WG P m p l e R s mid args below meth c D aC ad0 n0 M0 A Q pc u L S σ := by
  intro ad H locs ls st g0 g1 hW g2 hS hL hT
  exact lv_iconst F.exec F.code hd rfl (k ad H locs ls _ g0 g1 hW g2 hS hL ⟨⟨Or.inl rfl, hn⟩, hT⟩)
theorem s_bipush (F : Fx P m d sc p l e R s mid args below meth c D aC ad0 n0 M0 A) {n : Int} (hd : decode (P m).1.2.1 pc = .ok (.bipush n, 2)) (hv : (Int8.ofInt n).toInt32 = Int32.ofInt n) (hn : inR n) (k : WG P m p l e R s mid args below meth c D aC ad0 n0 M0 A Q (pc + 2) u L (vi n :: S) σ) : WG P m p l e R s mid args below meth c D aC ad0 n0 M0 A Q pc u L S σ := by
  intro ad H locs ls st g0 g1 hW g2 hS hL hT
  exact lv_bipush F.exec F.code hd hv (k ad H locs ls _ g0 g1 hW g2 hS hL ⟨⟨Or.inl rfl, hn⟩, hT⟩)
theorem s_sipush (F : Fx P m d sc p l e R s mid args below meth c D aC ad0 n0 M0 A) {n : Int} (hd : decode (P m).1.2.1 pc = .ok (.sipush n, 3)) (hv : (Int16.ofInt n).toInt32 = Int32.ofInt n) (hn : inR n) (k : WG P m p l e R s mid args below meth c D aC ad0 n0 M0 A Q (pc + 3) u L (vi n :: S) σ) : WG P m p l e R s mid args below meth c D aC ad0 n0 M0 A Q pc u L S σ := by
  intro ad H locs ls st g0 g1 hW g2 hS hL hT
  exact lv_sipush F.exec F.code hd hv (k ad H locs ls _ g0 g1 hW g2 hS hL ⟨⟨Or.inl rfl, hn⟩, hT⟩)
theorem s_lconst (F : Fx P m d sc p l e R s mid args below meth c D aC ad0 n0 M0 A) {n : Fin 2} (hd : decode (P m).1.2.1 pc = .ok (.lconst n, 1)) (k : WG P m p l e R s mid args below meth c D aC ad0 n0 M0 A Q (pc + 1) u L (vl (n.val : Int) :: S) σ) : WG P m p l e R s mid args below meth c D aC ad0 n0 M0 A Q pc u L S σ := by
  intro ad H locs ls st g0 g1 hW g2 hS hL hT
  have hn : inR (n.val : Int) := by have := n.isLt; unfold inR; omega
  refine lv_lconst F.exec F.code hd (v := Int64.ofInt (n.val : Int)) ?_ (k ad H locs ls _ g0 g1 hW g2 hS hL ⟨⟨Or.inl rfl, hn⟩, hT⟩)
  rcases n with ⟨n, hn⟩
  rcases (show n = 0 ∨ n = 1 by omega) with rfl | rfl <;> rfl
theorem s_dconst (F : Fx P m d sc p l e R s mid args below meth c D aC ad0 n0 M0 A) (hd : decode (P m).1.2.1 pc = .ok (.dconst 0, 1)) (k : WG P m p l e R s mid args below meth c D aC ad0 n0 M0 A Q (pc + 1) u L (vd FP.dconst0 :: S) σ) : WG P m p l e R s mid args below meth c D aC ad0 n0 M0 A Q pc u L S σ := by
  intro ad H locs ls st g0 g1 hW g2 hS hL hT
  exact lv_dconst0 F.exec F.code hd (k ad H locs ls _ g0 g1 hW g2 hS hL ⟨⟨Or.inl rfl, trivial⟩, hT⟩)
theorem s_iload_n (F : Fx P m d sc p l e R s mid args below meth c D aC ad0 n0 M0 A) {n : Fin 4} {x : Int} (hd : decode (P m).1.2.1 pc = .ok (.iload_n n, 1)) (h : L[n.val]? = some (vi x)) (k : WG P m p l e R s mid args below meth c D aC ad0 n0 M0 A Q (pc + 1) u L (vi x :: S) σ) : WG P m p l e R s mid args below meth c D aC ad0 n0 M0 A Q pc u L S σ := by
  intro ad H locs ls st g0 g1 hW g2 hS hL hT
  obtain ⟨h1, h2⟩ := lR_at hL h (fun q => by cases q)
  exact lv_iload_n F.exec F.code hd rfl h2 (k ad H locs ls _ g0 g1 hW g2 hS hL ⟨⟨Or.inl rfl, h1⟩, hT⟩)
theorem s_iload (F : Fx P m d sc p l e R s mid args below meth c D aC ad0 n0 M0 A) {n : Nat} {x : Int} (hd : decode (P m).1.2.1 pc = .ok (.iload n, 2)) (h : L[n]? = some (vi x)) (k : WG P m p l e R s mid args below meth c D aC ad0 n0 M0 A Q (pc + 2) u L (vi x :: S) σ) : WG P m p l e R s mid args below meth c D aC ad0 n0 M0 A Q pc u L S σ := by
  intro ad H locs ls st g0 g1 hW g2 hS hL hT
  obtain ⟨h1, h2⟩ := lR_at hL h (fun q => by cases q)
  exact lv_iload F.exec F.code hd h2 (k ad H locs ls _ g0 g1 hW g2 hS hL ⟨⟨Or.inl rfl, h1⟩, hT⟩)
theorem s_aload_n (F : Fx P m d sc p l e R s mid args below meth c D aC ad0 n0 M0 A) {n : Fin 4} {x : Option Nat} (hd : decode (P m).1.2.1 pc = .ok (.aload_n n, 1)) (h : L[n.val]? = some (.inr (.inl x))) (k : WG P m p l e R s mid args below meth c D aC ad0 n0 M0 A Q (pc + 1) u L ((.inr (.inl x)) :: S) σ) : WG P m p l e R s mid args below meth c D aC ad0 n0 M0 A Q pc u L S σ := by
  intro ad H locs ls st g0 g1 hW g2 hS hL hT
  obtain ⟨h1, h2⟩ := lR_at hL h (fun q => by cases q)
  cases x with
  | none => exact lv_aload_nN F.exec F.code hd rfl h2 (k ad H locs ls _ g0 g1 hW g2 hS hL ⟨⟨Or.inl rfl, h1⟩, hT⟩)
  | some x => exact lv_aload_n F.exec F.code hd rfl h2 (k ad H locs ls _ g0 g1 hW g2 hS hL ⟨⟨Or.inl rfl, h1⟩, hT⟩)
theorem s_aload (F : Fx P m d sc p l e R s mid args below meth c D aC ad0 n0 M0 A) {n : Nat} {x : Option Nat} (hd : decode (P m).1.2.1 pc = .ok (.aload n, 2)) (h : L[n]? = some (.inr (.inl x))) (k : WG P m p l e R s mid args below meth c D aC ad0 n0 M0 A Q (pc + 2) u L ((.inr (.inl x)) :: S) σ) : WG P m p l e R s mid args below meth c D aC ad0 n0 M0 A Q pc u L S σ := by
  intro ad H locs ls st g0 g1 hW g2 hS hL hT
  obtain ⟨h1, h2⟩ := lR_at hL h (fun q => by cases q)
  cases x with
  | none => exact lv_aloadN F.exec F.code hd h2 (k ad H locs ls _ g0 g1 hW g2 hS hL ⟨⟨Or.inl rfl, h1⟩, hT⟩)
  | some x => exact lv_aload F.exec F.code hd h2 (k ad H locs ls _ g0 g1 hW g2 hS hL ⟨⟨Or.inl rfl, h1⟩, hT⟩)
theorem s_dload_n (F : Fx P m d sc p l e R s mid args below meth c D aC ad0 n0 M0 A) {n : Fin 4} {x : UInt64} (hd : decode (P m).1.2.1 pc = .ok (.dload_n n, 1)) (h : L[n.val]? = some (vd x)) (k : WG P m p l e R s mid args below meth c D aC ad0 n0 M0 A Q (pc + 1) u L (vd x :: S) σ) : WG P m p l e R s mid args below meth c D aC ad0 n0 M0 A Q pc u L S σ := by
  intro ad H locs ls st g0 g1 hW g2 hS hL hT
  obtain ⟨h1, h2⟩ := lR_at hL h (fun q => by cases q)
  exact lv_dload_n F.exec F.code hd rfl h2 (k ad H locs ls _ g0 g1 hW g2 hS hL ⟨⟨Or.inl rfl, h1⟩, hT⟩)
theorem s_dload (F : Fx P m d sc p l e R s mid args below meth c D aC ad0 n0 M0 A) {n : Nat} {x : UInt64} (hd : decode (P m).1.2.1 pc = .ok (.dload n, 2)) (h : L[n]? = some (vd x)) (k : WG P m p l e R s mid args below meth c D aC ad0 n0 M0 A Q (pc + 2) u L (vd x :: S) σ) : WG P m p l e R s mid args below meth c D aC ad0 n0 M0 A Q pc u L S σ := by
  intro ad H locs ls st g0 g1 hW g2 hS hL hT
  obtain ⟨h1, h2⟩ := lR_at hL h (fun q => by cases q)
  exact lv_dload F.exec F.code hd h2 (k ad H locs ls _ g0 g1 hW g2 hS hL ⟨⟨Or.inl rfl, h1⟩, hT⟩)
theorem sR_cons {ad : Nat → Nat} {n : Nat} {v : mV} {r : List mV} {st : List Value} (h : sR ad n (v :: r) st) : ∃ x st', st = x :: st' ∧ sv ad v x ∧ okV n v ∧ sR ad n r st' := by
  cases st with
  | nil => exact h.elim
  | cons x st => exact ⟨x, st, rfl, h.1.1, h.1.2, h.2⟩
theorem sv_i {ad : Nat → Nat} {x : Int} {y : Value} (h : sv ad (vi x) y) : y = .int (Int32.ofInt x) := by
  rcases h with h | h
  · exact h
  · cases h.1
theorem sv_r {ad : Nat → Nat} {x : Option Nat} {y : Value} (h : sv ad (.inr (.inl x)) y) : y = vv ad (.inr (.inl x)) := by
  rcases h with h | h
  · exact h
  · cases h.1
theorem sv_l {ad : Nat → Nat} {x : Int} {y : Value} (h : sv ad (vl x) y) : y = .long (Int64.ofInt x) := by
  rcases h with h | h
  · exact h
  · cases h.1
theorem sv_d {ad : Nat → Nat} {x : UInt64} {y : Value} (h : sv ad (vd x) y) : y = .double x := by
  rcases h with h | h
  · exact h
  · cases h.1
theorem sv_j {ad : Nat → Nat} {y : Value} (h : sv ad vj y) : y = .null ∨ ∃ q, y = .ref q := by
  rcases h with h | h
  · exact Or.inl h
  · exact Or.inr h.2
theorem s_istore_n (F : Fx P m d sc p l e R s mid args below meth c D aC ad0 n0 M0 A) {n : Fin 4} {x : Int} {r L' : List mV} (hd : decode (P m).1.2.1 pc = .ok (.istore_n n, 1)) (h : stI L n.val (vi x) = some L') (k : WG P m p l e R s mid args below meth c D aC ad0 n0 M0 A Q (pc + 1) u L' r σ) : WG P m p l e R s mid args below meth c D aC ad0 n0 M0 A Q pc u L (vi x :: r) σ := by
  intro ad H locs ls st g0 g1 hW g2 hS hL hT
  obtain ⟨y, st', rfl, h1, h2, h3⟩ := sR_cons hT
  obtain ⟨lv, e1, e2, e3⟩ := lR_st hL h h2 h1
  cases sv_i h1
  exact lv_istore_n F.exec F.code hd rfl e1 e2 rfl fun ls' h' => k ad H locs ls' _ g0 g1 hW g2 hS (e3 ls' h') h3
theorem s_istore (F : Fx P m d sc p l e R s mid args below meth c D aC ad0 n0 M0 A) {n : Nat} {x : Int} {r L' : List mV} (hd : decode (P m).1.2.1 pc = .ok (.istore n, 2)) (h : stI L n (vi x) = some L') (k : WG P m p l e R s mid args below meth c D aC ad0 n0 M0 A Q (pc + 2) u L' r σ) : WG P m p l e R s mid args below meth c D aC ad0 n0 M0 A Q pc u L (vi x :: r) σ := by
  intro ad H locs ls st g0 g1 hW g2 hS hL hT
  obtain ⟨y, st', rfl, h1, h2, h3⟩ := sR_cons hT
  obtain ⟨lv, e1, e2, e3⟩ := lR_st hL h h2 h1
  cases sv_i h1
  exact lv_istore F.exec F.code hd e1 e2 rfl fun ls' h' => k ad H locs ls' _ g0 g1 hW g2 hS (e3 ls' h') h3
theorem s_astore_n (F : Fx P m d sc p l e R s mid args below meth c D aC ad0 n0 M0 A) {n : Fin 4} {v : mV} {r L' : List mV} (hv : v = vj ∨ ∃ x, v = .inr (.inl x)) (hd : decode (P m).1.2.1 pc = .ok (.astore_n n, 1)) (h : stI L n.val v = some L') (k : WG P m p l e R s mid args below meth c D aC ad0 n0 M0 A Q (pc + 1) u L' r σ) : WG P m p l e R s mid args below meth c D aC ad0 n0 M0 A Q pc u L (v :: r) σ := by
  intro ad H locs ls st g0 g1 hW g2 hS hL hT
  obtain ⟨y, st', rfl, h1, h2, h3⟩ := sR_cons hT
  obtain ⟨lv, e1, e2, e3⟩ := lR_st hL h h2 h1
  have hy : y = .null ∨ ∃ q, y = .ref q := by
    rcases hv with rfl | ⟨x, rfl⟩
    · exact sv_j h1
    · have := sv_r h1
      cases x with
      | none => exact Or.inl this
      | some x => exact Or.inr ⟨_, this⟩
  rcases hy with rfl | ⟨q, rfl⟩
  · exact lv_astore_nN F.exec F.code hd rfl e1 e2 rfl fun ls' h' => k ad H locs ls' _ g0 g1 hW g2 hS (e3 ls' h') h3
  · exact lv_astore_n F.exec F.code hd rfl e1 e2 rfl fun ls' h' => k ad H locs ls' _ g0 g1 hW g2 hS (e3 ls' h') h3
theorem s_astore (F : Fx P m d sc p l e R s mid args below meth c D aC ad0 n0 M0 A) {n : Nat} {v : mV} {r L' : List mV} (hv : v = vj ∨ ∃ x, v = .inr (.inl x)) (hd : decode (P m).1.2.1 pc = .ok (.astore n, 2)) (h : stI L n v = some L') (k : WG P m p l e R s mid args below meth c D aC ad0 n0 M0 A Q (pc + 2) u L' r σ) : WG P m p l e R s mid args below meth c D aC ad0 n0 M0 A Q pc u L (v :: r) σ := by
  intro ad H locs ls st g0 g1 hW g2 hS hL hT
  obtain ⟨y, st', rfl, h1, h2, h3⟩ := sR_cons hT
  obtain ⟨lv, e1, e2, e3⟩ := lR_st hL h h2 h1
  have hy : y = .null ∨ ∃ q, y = .ref q := by
    rcases hv with rfl | ⟨x, rfl⟩
    · exact sv_j h1
    · have := sv_r h1
      cases x with
      | none => exact Or.inl this
      | some x => exact Or.inr ⟨_, this⟩
  rcases hy with rfl | ⟨q, rfl⟩
  · exact lv_astoreN F.exec F.code hd e1 e2 rfl fun ls' h' => k ad H locs ls' _ g0 g1 hW g2 hS (e3 ls' h') h3
  · exact lv_astore F.exec F.code hd e1 e2 rfl fun ls' h' => k ad H locs ls' _ g0 g1 hW g2 hS (e3 ls' h') h3
theorem s_dstore_n (F : Fx P m d sc p l e R s mid args below meth c D aC ad0 n0 M0 A) {n : Fin 4} {x : UInt64} {r L' : List mV} (hd : decode (P m).1.2.1 pc = .ok (.dstore_n n, 1)) (h : stD L n.val (vd x) = some L') (k : WG P m p l e R s mid args below meth c D aC ad0 n0 M0 A Q (pc + 1) u L' r σ) : WG P m p l e R s mid args below meth c D aC ad0 n0 M0 A Q pc u L (vd x :: r) σ := by
  intro ad H locs ls st g0 g1 hW g2 hS hL hT
  obtain ⟨y, st', rfl, h1, h2, h3⟩ := sR_cons hT
  cases sv_d h1
  obtain ⟨lv, e1, e2, e3⟩ := lR_std hL h h2 rfl
  exact lv_dstore_n F.exec F.code hd rfl e1 e2 rfl fun ls' h' => k ad H locs ls' _ g0 g1 hW g2 hS (e3 ls' h') h3
theorem s_dstore (F : Fx P m d sc p l e R s mid args below meth c D aC ad0 n0 M0 A) {n : Nat} {x : UInt64} {r L' : List mV} (hd : decode (P m).1.2.1 pc = .ok (.dstore n, 2)) (h : stD L n (vd x) = some L') (k : WG P m p l e R s mid args below meth c D aC ad0 n0 M0 A Q (pc + 2) u L' r σ) : WG P m p l e R s mid args below meth c D aC ad0 n0 M0 A Q pc u L (vd x :: r) σ := by
  intro ad H locs ls st g0 g1 hW g2 hS hL hT
  obtain ⟨y, st', rfl, h1, h2, h3⟩ := sR_cons hT
  cases sv_d h1
  obtain ⟨lv, e1, e2, e3⟩ := lR_std hL h h2 rfl
  exact lv_dstore F.exec F.code hd e1 e2 rfl fun ls' h' => k ad H locs ls' _ g0 g1 hW g2 hS (e3 ls' h') h3
theorem s_iinc (F : Fx P m d sc p l e R s mid args below meth c D aC ad0 n0 M0 A) {n : Nat} {q x : Int} {L' : List mV} (hd : decode (P m).1.2.1 pc = .ok (.iinc n q, 3)) (h0 : L[n]? = some (vi x)) (h : stI L n (vi (wr (x + q))) = some L') (k : WG P m p l e R s mid args below meth c D aC ad0 n0 M0 A Q (pc + 3) u L' S σ) : WG P m p l e R s mid args below meth c D aC ad0 n0 M0 A Q pc u L S σ := by
  intro ad H locs ls st g0 g1 hW g2 hS hL hT
  obtain ⟨h1, h2⟩ := lR_at hL h0 (fun q => by cases q)
  obtain ⟨lv, e1, e2, e3⟩ := lR_st (x := .int (Int32.ofInt (wr (x + q)))) hL h (wr_inR _) (Or.inl rfl)
  have e4 : lv_has ls (P m).1.2.2.1 ((n, .int (Int32.ofInt x)) :: lv) := ⟨e1.1, e1.2.1, fun z hz => (List.mem_cons.mp hz).elim (fun e => by rw [e]; exact h2) (e1.2.2 z)⟩
  refine lv_iinc (k := 0) F.exec F.code hd e4 rfl (ofI_add x q) e2 rfl fun ls' h' => k ad H locs ls' _ g0 g1 hW g2 hS (e3 ls' ?_) hT
  refine ⟨h'.1, h'.2.1, fun z hz => h'.2.2 z ?_⟩
  rcases List.mem_cons.mp hz with hz | hz
  · rw [hz]; exact List.mem_cons_self
  · obtain ⟨f1, f2⟩ := List.mem_filter.mp hz
    exact List.mem_cons_of_mem _ (List.mem_filter.mpr ⟨List.mem_cons_of_mem _ f1, f2⟩)
end FR
