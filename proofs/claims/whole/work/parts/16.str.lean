/-! THE CHECK OF A STRAIGHT INSTRUCTION, AND THAT IT SUFFICES -/
def rgb (n : Int) : Bool := decide (-2147483648 ≤ n) && decide (n < 2147483648)
theorem rgb_ok {n : Int} (h : rgb n = true) : inR n := by
  unfold rgb at h
  simp only [Bool.and_eq_true, decide_eq_true_eq] at h
  exact h
/-- a link's place among the words, its kind, the class that holds it (by number), its index, what it names -/
abbrev mLk : Type := Nat × Nat × Nat × Nat × Nat × Nat
abbrev mK : Type := Nat → mLk
def cN (k : Nat) : String := match k with
  | 0 => RX0
  | 1 => RX1
  | 2 => RX2
  | 3 => RX3
  | 4 => RX4
  | 5 => RX5
  | 6 => RX6
  | 7 => RX7
  | 8 => RX8
  | 9 => RX9
  | 10 => RX10
  | 11 => RL
  | _ => RJ7
def libN (k : Nat) : MethodName := match k with
  | 1 => Lib.Math.max.name
  | 2 => Lib.Math.min.name
  | 3 => Lib.Math.abs.name
  | 4 => Lib.objectInit
  | 5 => arraycopyName
  | _ => ⟨"[I", "clone", "()Ljava/lang/Object;"⟩
def lkP (P : mP) (q : mLk) : Prop := match q.2.1 with
  | 0 => ∃ c : vw_C, mcl[q.2.2.2.2.1]? = some c ∧ lw_tbl[q.1]? = some (.fieldLink (cN q.2.2.1) q.2.2.2.1 (c.2.1 q.2.2.2.2.2).1 (c.2.1 q.2.2.2.2.2).2.1 (c.2.1 q.2.2.2.2.2).2.2.1)
  | 1 => lw_tbl[q.1]? = some (.methodLink (cN q.2.2.1) q.2.2.2.1 (P q.2.2.2.2.1).1.1)
  | 2 => ∃ h : String, lw_tbl[q.1]? = some (.methodLinkNest (cN q.2.2.1) q.2.2.2.1 (P q.2.2.2.2.1).1.1 h)
  | 3 => lw_tbl[q.1]? = some (.fieldLink (cN q.2.2.1) q.2.2.2.1 "SpatialPoints" (stN q.2.2.2.2.1) "[I")
  | 4 => lw_tbl[q.1]? = some (.fieldLinkNest (cN q.2.2.1) q.2.2.2.1 "SpatialPoints" (stN q.2.2.2.2.1) "[I" "SpatialPoints")
  | 5 => lw_tbl[q.1]? = some (.methodLink (cN q.2.2.1) q.2.2.2.1 (libN q.2.2.2.2.1))
  | 6 => ∃ c : vw_C, mcl[q.2.2.2.2.1]? = some c ∧ lw_tbl[q.1]? = some (.classLink (cN q.2.2.1) q.2.2.2.1 c.1)
  | 7 => lw_tbl[q.1]? = some (.classLink (cN q.2.2.1) q.2.2.2.1 (exN q.2.2.2.2.1))
  | 8 => ∃ t : String, lw_tbl[q.1]? = some (.stringRef (cN q.2.2.1) q.2.2.2.1 t)
  | 9 => lw_tbl[q.1]? = some (.classLink (cN q.2.2.1) q.2.2.2.1 "[I")
  | _ => True
def lkIs (K : mK) (pos k o i a b : Nat) : Bool := decide ((K pos).2 = (k, o, i, a, b))
theorem lk_ok {P : mP} {K : mK} {pos k o i a b : Nat} (hK : ∀ i, lkP P (K i)) (h : lkIs K pos k o i a b = true) : lkP P ((K pos).1, k, o, i, a, b) := by
  have h1 := hK pos
  have h2 : (K pos).2 = (k, o, i, a, b) := of_decide_eq_true h
  rw [← h2]
  exact h1
def refT (t : FieldType) : Bool := match t with
  | .object _ => true
  | .array _ => true
  | _ => false
def putOK (P : mP) (m a b kd : Nat) : Bool := match mcl[a]? with
  | some q => match kd with
    | 0 => !(q.2.1 b).2.2.2 && decide (mty a b = .int)
    | 1 => !(q.2.1 b).2.2.2 && decide (mty a b = .boolean)
    | _ => ((q.2.1 b).2.2.2 && refT (mty a b)) && (decide ((P m).1.1.name = "<init>") && decide ((q.2.1 b).1 = (P m).1.1.cls))
  | none => false
def okI (P : mP) (K : mK) (o m : Nat) (j : Instr) (a b pos kd len : Nat) : Bool := match j with
  | .iconst n => decide (len = 1) && rgb n
  | .bipush n => decide (len = 2) && (rgb n && decide ((Int8.ofInt n).toInt32 = Int32.ofInt n))
  | .sipush n => decide (len = 3) && (rgb n && decide ((Int16.ofInt n).toInt32 = Int32.ofInt n))
  | .lconst _ => decide (len = 1)
  | .dconst _ => decide (len = 1)
  | .iload_n _ => decide (len = 1)
  | .iload _ => decide (len = 2)
  | .aload_n _ => decide (len = 1)
  | .aload _ => decide (len = 2)
  | .dload_n _ => decide (len = 1)
  | .dload _ => decide (len = 2)
  | .istore_n _ => decide (len = 1)
  | .istore _ => decide (len = 2)
  | .astore_n _ => decide (len = 1)
  | .astore _ => decide (len = 2)
  | .dstore_n _ => decide (len = 1)
  | .dstore _ => decide (len = 2)
  | .iinc _ _ => decide (len = 3)
  | .iadd => decide (len = 1)
  | .isub => decide (len = 1)
  | .imul => decide (len = 1)
  | .ineg => decide (len = 1)
  | .irem => decide (len = 1)
  | .idiv => decide (len = 1)
  | .iand => decide (len = 1)
  | .i2l => decide (len = 1)
  | .i2c => decide (len = 1)
  | .i2d => decide (len = 1)
  | .lcmp => decide (len = 1)
  | .dcmp _ => decide (len = 1)
  | .dup => decide (len = 1)
  | .pop => decide (len = 1)
  | .dup2 => decide (len = 1)
  | .dup_x1 => decide (len = 1)
  | .getfield idx => decide (len = 3) && lkIs K pos 0 o idx a b
  | .putfield idx => decide (len = 3) && (lkIs K pos 0 o idx a b && putOK P m a b kd)
  | .getstatic idx => decide (len = 3) && (decide (a < 3) && (lkIs K pos 3 o idx a 0 || lkIs K pos 4 o idx a 0))
  | .invokestatic idx => decide (len = 3) && (decide (1 ≤ a ∧ a ≤ 3) && lkIs K pos 5 o idx a 0)
  | .invokespecial idx => decide (len = 3) && lkIs K pos 5 o idx 4 0
  | _ => false
section SO
variable {P : mP} {m d : Nat} {sc : Bool} {p : Program} {l : Launch} {e : Env} {R : Room} {s : State} {mid : MethodId} {args : Array Value} {below : List Frame} {meth : Method} {c : Code} {D : va_G} {aC : FieldType → ClassId} {ad0 : Nat → Nat} {n0 : Nat} {M0 : mM} {A : Nat → Prop} {Q : State → Prop}
variable {pc u : Nat} {L S : List mV} {σ : mS}
theorem fld_ok {K : mK} {o a b pos idx : Nat} (hK : ∀ i, lkP P (K i)) (ho : (P m).1.1.cls = cN o) (h : lkIs K pos 0 o idx a b = true) : ∃ q, mcl[a]? = some q ∧ lw_tbl[(K pos).1]? = some (.fieldLink (P m).1.1.cls idx (q.2.1 b).1 (q.2.1 b).2.1 (q.2.1 b).2.2.1) := by
  rw [ho]
  exact lk_ok hK h
theorem lib_ok {K : mK} {o a pos idx : Nat} (hK : ∀ i, lkP P (K i)) (ho : (P m).1.1.cls = cN o) (h : lkIs K pos 5 o idx a 0 = true) : lw_tbl[(K pos).1]? = some (.methodLink (P m).1.1.cls idx (libN a)) := by
  rw [ho]
  exact lk_ok hK h
theorem refT_ok {t : FieldType} (h : refT t = true) : (∃ n, t = .object n) ∨ ∃ z, t = .array z := by
  unfold refT at h
  split at h
  · exact Or.inl ⟨_, rfl⟩
  · exact Or.inr ⟨_, rfl⟩
  · cases h
theorem ldn_some {n : Nat} {st' : mSt} (h : ldn L S σ n = some st') : ∃ x, L[n]? = some (vi x) ∧ st' = (L, vi x :: S, σ) := by
  unfold ldn at h
  split at h
  · rename_i x hx
    exact ⟨x, hx, (Option.some.inj h).symm⟩
  · cases h
theorem lda_some {n : Nat} {st' : mSt} (h : lda L S σ n = some st') : ∃ x, L[n]? = some (.inr (.inl x)) ∧ st' = (L, (.inr (.inl x)) :: S, σ) := by
  unfold lda at h
  split at h
  · rename_i x hx
    exact ⟨x, hx, (Option.some.inj h).symm⟩
  · cases h
theorem ldd_some {n : Nat} {st' : mSt} (h : ldd L S σ n = some st') : ∃ x, L[n]? = some (vd x) ∧ st' = (L, vd x :: S, σ) := by
  unfold ldd at h
  split at h
  · rename_i x hx
    exact ⟨x, hx, (Option.some.inj h).symm⟩
  · cases h
theorem sti_some {n : Nat} {st' : mSt} (h : sti L S σ n = some st') : ∃ x r L', S = vi x :: r ∧ stI L n (vi x) = some L' ∧ st' = (L', r, σ) := by
  unfold sti at h
  split at h
  · rename_i x r
    obtain ⟨L', h1, h2⟩ := Option.map_eq_some_iff.mp h
    exact ⟨x, r, L', rfl, h1, h2.symm⟩
  · cases h
theorem std_some {n : Nat} {st' : mSt} (h : std L S σ n = some st') : ∃ x r L', S = vd x :: r ∧ stD L n (vd x) = some L' ∧ st' = (L', r, σ) := by
  unfold std at h
  split at h
  · rename_i x r
    obtain ⟨L', h1, h2⟩ := Option.map_eq_some_iff.mp h
    exact ⟨x, r, L', rfl, h1, h2.symm⟩
  · cases h
theorem sta_some {n : Nat} {st' : mSt} (h : sta L S σ n = some st') : ∃ v r L', (v = vj ∨ ∃ x, v = .inr (.inl x)) ∧ S = v :: r ∧ stI L n v = some L' ∧ st' = (L', r, σ) := by
  unfold sta at h
  split at h
  · rename_i x r
    obtain ⟨L', h1, h2⟩ := Option.map_eq_some_iff.mp h
    exact ⟨_, r, L', Or.inr ⟨x, rfl⟩, rfl, h1, h2.symm⟩
  · rename_i r
    obtain ⟨L', h1, h2⟩ := Option.map_eq_some_iff.mp h
    exact ⟨_, r, L', Or.inl rfl, rfl, h1, h2.symm⟩
  · cases h
theorem ar2_some {f : Int → Int → Int} {st' : mSt} (h : ar2 L S σ f = some st') : ∃ y x r, S = vi y :: vi x :: r ∧ st' = (L, vi (f x y) :: r, σ) := by
  unfold ar2 at h
  split at h
  · exact ⟨_, _, _, rfl, (Option.some.inj h).symm⟩
  · cases h
theorem arp_some {f : Int → Int → Int} {st' : mSt} (h : arp L S σ f = some st') : ∃ y x r, 0 < y ∧ S = vi y :: vi x :: r ∧ st' = (L, vi (f x y) :: r, σ) := by
  unfold arp at h
  split at h
  · split at h
    · rename_i hd
      exact ⟨_, _, _, of_decide_eq_true hd, rfl, (Option.some.inj h).symm⟩
    · cases h
  · cases h
theorem gtf_some {a b : Nat} {st' : mSt} (h : gtf L S σ a b = some st') : ∃ k fs r v, S = vr k :: r ∧ σ.1[k]? = some (0, a, fs) ∧ ((fs[b]? = some none ∧ v = vi (σ.2 k b)) ∨ ∃ t, fs[b]? = some (some t) ∧ v = .inr (.inl t)) ∧ st' = (L, v :: r, σ) := by
  unfold gtf at h
  split at h
  · split at h
    · rename_i ci fs hk
      split at h
      · rename_i hc
        have hc' : ci = a := by simpa using hc
        subst hc'
        split at h
        · rename_i hb
          exact ⟨_, fs, _, _, rfl, hk, Or.inl ⟨hb, rfl⟩, (Option.some.inj h).symm⟩
        · rename_i t hb
          exact ⟨_, fs, _, _, rfl, hk, Or.inr ⟨t, hb, rfl⟩, (Option.some.inj h).symm⟩
        · cases h
      · cases h
    · cases h
  · cases h
theorem ptf_some {a b kd : Nat} {st' : mSt} (h : ptf L S σ a b kd = some st') : ∃ k fs r, σ.1[k]? = some (0, a, fs) ∧
    ((∃ x, S = vi x :: vr k :: r ∧ fs[b]? = some none ∧ (kd = 0 ∨ (kd = 1 ∧ bit? x = true)) ∧ st' = (L, r, (σ.1, mset σ.2 k b x))) ∨
     ∃ t t0, S = .inr (.inl t) :: vr k :: r ∧ fs[b]? = some (some t0) ∧ kd = 2 ∧ st' = (L, r, (σ.1.set k (0, a, fs.set b (some t)), σ.2))) := by
  unfold ptf at h
  split at h
  · split at h
    · rename_i ci fs hk
      split at h
      · rename_i hc
        have hc' : ci = a := by simpa using hc
        subst hc'
        split at h
        · rename_i hb
          exact ⟨_, fs, _, hk, Or.inl ⟨_, rfl, hb, Or.inl rfl, (Option.some.inj h).symm⟩⟩
        · rename_i hb
          split at h
          · rename_i hx
            exact ⟨_, fs, _, hk, Or.inl ⟨_, rfl, hb, Or.inr ⟨rfl, hx⟩, (Option.some.inj h).symm⟩⟩
          · cases h
        · rename_i t0 t hb
          exact ⟨_, fs, _, hk, Or.inr ⟨_, _, rfl, hb, rfl, (Option.some.inj h).symm⟩⟩
        · cases h
      · cases h
    · cases h
  · cases h
theorem str_ok {K : mK} {o : Nat} (hK : ∀ i, lkP P (K i)) (ho : (P m).1.1.cls = cN o) (F : Fx P m d sc p l e R s mid args below meth c D aC ad0 n0 M0 A) {j : Instr} {a b pos kd len : Nat} {L' S' : List mV} {σ' : mS} (hu : u ≤ (P m).1.2.2.2.2.1) (hd : decode (P m).1.2.1 pc = .ok (j, len)) (hok : okI P K o m j a b pos kd len = true) (hs : sem j a b kd L S σ = some (L', S', σ')) (k : WG P m p l e R s mid args below meth c D aC ad0 n0 M0 A Q (pc + len) u L' S' σ') : WG P m p l e R s mid args below meth c D aC ad0 n0 M0 A Q pc u L S σ := by
  unfold sem at hs
  split at hs
  · cases hs
    have h := hok
    unfold okI at h
    simp only [Bool.and_eq_true, decide_eq_true_eq] at h
    obtain ⟨rfl, h⟩ := h
    exact s_iconst F hd (rgb_ok h) k
  · cases hs
    have h := hok
    unfold okI at h
    simp only [Bool.and_eq_true, decide_eq_true_eq] at h
    obtain ⟨rfl, h1, h2⟩ := h
    exact s_bipush F hd h2 (rgb_ok h1) k
  · cases hs
    have h := hok
    unfold okI at h
    simp only [Bool.and_eq_true, decide_eq_true_eq] at h
    obtain ⟨rfl, h1, h2⟩ := h
    exact s_sipush F hd h2 (rgb_ok h1) k
  · cases hs
    have e : len = 1 := of_decide_eq_true hok
    subst e
    exact s_lconst F hd k
  · split at hs
    · cases hs
      have e : len = 1 := of_decide_eq_true hok
      subst e
      exact s_dconst F hd k
    · cases hs
  · obtain ⟨x, h1, h2⟩ := ldn_some hs
    cases h2
    have e : len = 1 := of_decide_eq_true hok
    subst e
    exact s_iload_n F hd h1 k
  · obtain ⟨x, h1, h2⟩ := ldn_some hs
    cases h2
    have e : len = 2 := of_decide_eq_true hok
    subst e
    exact s_iload F hd h1 k
  · obtain ⟨x, h1, h2⟩ := lda_some hs
    cases h2
    have e : len = 1 := of_decide_eq_true hok
    subst e
    exact s_aload_n F hd h1 k
  · obtain ⟨x, h1, h2⟩ := lda_some hs
    cases h2
    have e : len = 2 := of_decide_eq_true hok
    subst e
    exact s_aload F hd h1 k
  · obtain ⟨x, h1, h2⟩ := ldd_some hs
    cases h2
    have e : len = 1 := of_decide_eq_true hok
    subst e
    exact s_dload_n F hd h1 k
  · obtain ⟨x, h1, h2⟩ := ldd_some hs
    cases h2
    have e : len = 2 := of_decide_eq_true hok
    subst e
    exact s_dload F hd h1 k
  · obtain ⟨x, r, L1, rfl, h1, h2⟩ := sti_some hs
    cases h2
    have e : len = 1 := of_decide_eq_true hok
    subst e
    exact s_istore_n F hd h1 k
  · obtain ⟨x, r, L1, rfl, h1, h2⟩ := sti_some hs
    cases h2
    have e : len = 2 := of_decide_eq_true hok
    subst e
    exact s_istore F hd h1 k
  · obtain ⟨v, r, L1, hv, rfl, h1, h2⟩ := sta_some hs
    cases h2
    have e : len = 1 := of_decide_eq_true hok
    subst e
    exact s_astore_n F hv hd h1 k
  · obtain ⟨v, r, L1, hv, rfl, h1, h2⟩ := sta_some hs
    cases h2
    have e : len = 2 := of_decide_eq_true hok
    subst e
    exact s_astore F hv hd h1 k
  · obtain ⟨x, r, L1, rfl, h1, h2⟩ := std_some hs
    cases h2
    have e : len = 1 := of_decide_eq_true hok
    subst e
    exact s_dstore_n F hd h1 k
  · obtain ⟨x, r, L1, rfl, h1, h2⟩ := std_some hs
    cases h2
    have e : len = 2 := of_decide_eq_true hok
    subst e
    exact s_dstore F hd h1 k
  · split at hs
    · rename_i x hx
      obtain ⟨L1, h1, h2⟩ := Option.map_eq_some_iff.mp hs
      cases h2
      have e : len = 3 := of_decide_eq_true hok
      subst e
      exact s_iinc F hd hx h1 k
    · cases hs
  · obtain ⟨y, x, r, rfl, h2⟩ := ar2_some hs
    cases h2
    have e : len = 1 := of_decide_eq_true hok
    subst e
    exact s_iadd F hd k
  · obtain ⟨y, x, r, rfl, h2⟩ := ar2_some hs
    cases h2
    have e : len = 1 := of_decide_eq_true hok
    subst e
    exact s_isub F hd k
  · obtain ⟨y, x, r, rfl, h2⟩ := ar2_some hs
    cases h2
    have e : len = 1 := of_decide_eq_true hok
    subst e
    exact s_imul F hd k
  · split at hs
    · cases hs
      have e : len = 1 := of_decide_eq_true hok
      subst e
      exact s_ineg F hd k
    · cases hs
  · obtain ⟨y, x, r, h0, rfl, h2⟩ := arp_some hs
    cases h2
    have e : len = 1 := of_decide_eq_true hok
    subst e
    exact s_irem F h0 hd k
  · obtain ⟨y, x, r, h0, rfl, h2⟩ := arp_some hs
    cases h2
    have e : len = 1 := of_decide_eq_true hok
    subst e
    exact s_idiv F h0 hd k
  · split at hs
    · split at hs
      · rename_i hy
        have hy' := of_decide_eq_true hy
        subst hy'
        cases hs
        have e : len = 1 := of_decide_eq_true hok
        subst e
        exact s_iand F hd k
      · cases hs
    · cases hs
  · split at hs
    · cases hs
      have e : len = 1 := of_decide_eq_true hok
      subst e
      exact s_i2l F hd k
    · cases hs
  · split at hs
    · cases hs
      have e : len = 1 := of_decide_eq_true hok
      subst e
      exact s_i2c F hd k
    · cases hs
  · split at hs
    · cases hs
      have e : len = 1 := of_decide_eq_true hok
      subst e
      exact s_i2d F hd k
    · cases hs
  · split at hs
    · cases hs
      have e : len = 1 := of_decide_eq_true hok
      subst e
      exact s_lcmp F hd k
    · cases hs
  · split at hs
    · cases hs
      have e : len = 1 := of_decide_eq_true hok
      subst e
      exact s_dcmp F hd k
    · cases hs
  · split at hs
    · split at hs
      · rename_i hc
        cases hs
        have e : len = 1 := of_decide_eq_true hok
        subst e
        exact s_dup F hc hd k
      · cases hs
    · cases hs
  · split at hs
    · split at hs
      · rename_i hc
        cases hs
        have e : len = 1 := of_decide_eq_true hok
        subst e
        exact s_pop F hc hd k
      · cases hs
    · cases hs
  · split at hs
    · split at hs
      · rename_i hc
        cases hs
        rw [Bool.or_eq_false_iff] at hc
        have e : len = 1 := of_decide_eq_true hok
        subst e
        exact s_dup2 F hc.1 hc.2 hd k
      · cases hs
    · cases hs
  · split at hs
    · split at hs
      · rename_i hc
        cases hs
        rw [Bool.or_eq_false_iff] at hc
        have e : len = 1 := of_decide_eq_true hok
        subst e
        exact s_dup_x1 F hc.1 hc.2 hd k
      · cases hs
    · cases hs
  · obtain ⟨kk, fs, r, v, rfl, h1, h2, h3⟩ := gtf_some hs
    cases h3
    have h := hok
    unfold okI at h
    simp only [Bool.and_eq_true, decide_eq_true_eq] at h
    obtain ⟨rfl, h⟩ := h
    obtain ⟨q, hq, hl⟩ := fld_ok hK ho h
    exact s_getf F h1 hq hl hd h2 k
  · obtain ⟨kk, fs, r, h1, h2⟩ := ptf_some hs
    have h := hok
    unfold okI at h
    simp only [Bool.and_eq_true, decide_eq_true_eq] at h
    obtain ⟨rfl, h, hp⟩ := h
    obtain ⟨q, hq, hl⟩ := fld_ok hK ho h
    unfold putOK at hp
    rw [hq] at hp
    rcases h2 with ⟨x, rfl, h3, h4, h5⟩ | ⟨t, t0, rfl, h3, rfl, h5⟩
    · cases h5
      rcases h4 with rfl | ⟨rfl, h4⟩
      · have hp : (!(q.2.1 b).2.2.2 && decide (mty a b = .int)) = true := hp
        simp only [Bool.and_eq_true, decide_eq_true_eq, Bool.not_eq_true'] at hp
        exact s_putf F h1 hq hl hd h3 hp.1 (Or.inl hp.2) k
      · have hp : (!(q.2.1 b).2.2.2 && decide (mty a b = .boolean)) = true := hp
        simp only [Bool.and_eq_true, decide_eq_true_eq, Bool.not_eq_true'] at hp
        exact s_putf F h1 hq hl hd h3 hp.1 (Or.inr ⟨hp.2, h4⟩) k
    · cases h5
      have hp : (((q.2.1 b).2.2.2 && refT (mty a b)) && (decide ((P m).1.1.name = "<init>") && decide ((q.2.1 b).1 = (P m).1.1.cls))) = true := hp
      simp only [Bool.and_eq_true, decide_eq_true_eq] at hp
      exact s_putr F h1 hq hl hd h3 hp.1.1 hp.2.1 hp.2.2 (refT_ok hp.1.2) k
  · cases hs
    have h := hok
    unfold okI at h
    simp only [Bool.and_eq_true, decide_eq_true_eq, Bool.or_eq_true] at h
    obtain ⟨rfl, h1, h2⟩ := h
    rcases h2 with h2 | h2
    · exact s_gets F h1 (by rw [ho]; exact lk_ok hK h2) hd k
    · exact s_getsN F h1 (by rw [ho]; exact lk_ok hK h2) hd k
  · have h := hok
    unfold okI at h
    rw [Bool.and_eq_true, Bool.and_eq_true, decide_eq_true_eq] at h
    obtain ⟨rfl, -, h⟩ := h
    split at hs
    · rename_i hl0
      obtain ⟨y, x, r, rfl, h2⟩ := ar2_some hs
      cases h2
      have hl9 := of_decide_eq_true hl0
      exact s_max F hu (by simp at hl9; omega) (lib_ok hK ho h) hd k
    · rename_i hl0
      obtain ⟨y, x, r, rfl, h2⟩ := ar2_some hs
      cases h2
      have hl9 := of_decide_eq_true hl0
      exact s_min F hu (by simp at hl9; omega) (lib_ok hK ho h) hd k
    · rename_i hl0
      split at hs
      · cases hs
        have hl9 := of_decide_eq_true hl0
        exact s_abs F hu (by simp at hl9; omega) (lib_ok hK ho h) hd k
      · cases hs
    · cases hs
  · have h := hok
    unfold okI at h
    simp only [Bool.and_eq_true, decide_eq_true_eq] at h
    obtain ⟨rfl, h⟩ := h
    split at hs
    · rename_i hl0
      cases hs
      have hl9 := of_decide_eq_true hl0
      exact s_objI F (by simp at hl9; omega) (lib_ok hK ho h) hd k
    · cases hs
  · cases hs
end SO
