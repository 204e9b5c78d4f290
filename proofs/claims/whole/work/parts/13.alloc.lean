section NW
variable {P : mP} {m d : Nat} {sc : Bool} {p : Program} {l : Launch} {e : Env} {R : Room} {s : State} {mid : MethodId} {args : Array Value} {below : List Frame} {meth : Method} {c : Code} {D : va_G} {aC : FieldType → ClassId} {ad0 : Nat → Nat} {n0 : Nat} {M0 : mM} {A : Nat → Prop} {Q : State → Prop}
variable {pc u : Nat} {L S : List mV} {σ : mS}
theorem mzero_ne {M : mM} {k j : Nat} (h : j ≠ k) : mzero M k j = M j := by
  funext b
  unfold mzero
  rw [if_neg h]
theorem mclone_ne {M : mM} {ks k j : Nat} (h : j ≠ k) : mclone M ks k j = M j := by
  funext b
  unfold mclone
  rw [if_neg h]
/-- one cell more -/
theorem mWd.push {ad : Nat → Nat} {sh : mSh} {M' : mM} {E : va_E} {q : Nat} {H1 : Heap} (hW : mWf σ) (hM : ∀ j, j ≠ σ.1.length → M' j = σ.2 j) (hE : E = mE aC (fun j => if j = σ.1.length then q else ad j) sh (M' σ.1.length)) (hok : mShOk (σ.1.length + 1) sh) (hr : mRg (σ.1 ++ [sh], M'))
    (hP : va_P D mcl (mws aC ad σ ++ [(q, E)]) H1) (hD : va_D A (mws aC ad σ ++ [(q, E)])) : mWd D aC (fun j => if j = σ.1.length then q else ad j) (σ.1 ++ [sh], M') A H1 := by
  subst hE
  have e := mws_push (aC := aC) (ad := ad) (sh := sh) (q := q) hW hM
  rw [e] at hP hD
  have hl : (σ.1 ++ [sh]).length = σ.1.length + 1 := by simp
  have h5 := hW.1
  refine ⟨hP, hD, ⟨by show 5 ≤ (σ.1 ++ [sh]).length; omega, ?_, fun j z hj hz => ?_⟩, hr⟩
  · show (σ.1 ++ [sh]).take 5 = mRo
    rw [List.take_append_of_le_length h5]
    exact hW.2.1
  · show mShOk (σ.1 ++ [sh]).length z
    rw [hl]
    have hz : (σ.1 ++ [sh])[j]? = some z := hz
    by_cases hjl : j < σ.1.length
    · rw [List.getElem?_append_left hjl] at hz
      have := hW.2.2 j z hj hz
      obtain ⟨kd, n, fs⟩ := z
      cases kd with
      | zero => exact ⟨this.1, fun t ht => Nat.lt_succ_of_lt (this.2 t ht)⟩
      | succ kd => exact this
    · rw [List.getElem?_append_right (by omega)] at hz
      have h0 : j - σ.1.length = 0 := by
        rcases Nat.eq_zero_or_pos (j - σ.1.length) with h | h
        · exact h
        · rw [List.getElem?_eq_none (by simp; omega)] at hz; cases hz
      rw [h0] at hz
      cases hz
      exact hok
theorem mRg.push {sh : mSh} {M' : mM} (h : mRg σ) (hM : ∀ j, j ≠ σ.1.length → M' j = σ.2 j) (hn : ∀ j, inR (M' σ.1.length j)) : mRg (σ.1 ++ [sh], M') := by
  intro k j hk
  by_cases hkl : k = σ.1.length
  · subst hkl; exact hn j
  · show inR (M' k j)
    rw [hM k hkl]
    refine h k j (fun z hz => ?_)
    have hlt := (List.getElem?_eq_some_iff.mp hz).1
    exact hk z (by show (σ.1 ++ [sh])[k]? = some z; rw [List.getElem?_append_left hlt]; exact hz)
theorem s_new (F : Fx P m d sc p l e R s mid args below meth c D aC ad0 n0 M0 A) {ci i idx : Nat} {fs : List Nat} {q : vw_C} {i1 i2 i3 : Nat} (hu : u + 1 ≤ (P m).1.2.2.2.2.1) (hq : mcl[ci]? = some q) (hn : fs.length = q.2.2) (hfs : ∀ j, j < fs.length → defaultValue (mty ci j) = match fs.getD j 0 with
    | 0 => .int 0
    | _ => .null) (hl : lw_tbl[i]? = some (.classLink (P m).1.1.cls idx q.1)) (hl2 : lw_tbl[i1]? = some (.instantiable q.1 q.2.2)) (hl3 : lw_tbl[i2]? = some (.initialized q.1)) (hn20 : q.2.2 ≤ 2100) (hd : decode (P m).1.2.1 pc = .ok (.new idx, 3))
    (kk : WG P m p l e R s mid args below meth c D aC ad0 n0 M0 A Q (pc + 3) (u + 1) L (vr σ.1.length :: S) (σ.1 ++ [(0, ci, fs.map fun z => match z with | 0 => none | _ => some none)], mzero σ.2 σ.1.length)) : WG P m p l e R s mid args below meth c D aC ad0 n0 M0 A Q pc u L S σ := by
  intro ad H locs ls st g0 g1 hW g2 hS hL hT
  have hb := F.bd
  obtain ⟨t1, t2⟩ := mcl_ty ci q hq
  have hlen : (σ.1 ++ [((0, ci, fs.map fun z => match z with | 0 => none | _ => some none) : mSh)]).length = σ.1.length + 1 := by simp
  refine va_new (D := D) (cl := mcl) (ci := ci) (C := q.1) (T := q.2.1) (N := q.2.2) (fs := (List.range fs.length).map fun j => match fs.getD j 0 with
    | 0 => .int 0
    | _ => .null) F.exec F.code F.ts (mcl_ws ci q hq) (mty ci) t1 F.own (gd_at F hl rfl) (gd_at F hl2 rfl) (gd_at F hl3 rfl) F.kn.1 hW.1 hW.2.1 hS F.hA hq (fun j hj => ?_) (by omega) (by omega) hd (fun q9 H1 hP1 hD1 hS1 => ?_)
  · rw [hfs j (by omega)]
    unfold vp_V
    conv =>
      rhs
      rw [List.getD_eq_getElem?_getD, List.getElem?_map, List.getElem?_range (show j < fs.length by omega)]
    rfl
  · have hw' := mWd.push (aC := aC) (sh := (0, ci, fs.map fun z => match z with | 0 => none | _ => some none)) (M' := mzero σ.2 σ.1.length) hW.2.2.1 (fun j hj => mzero_ne hj) (by
      show (Sum.inr (ci, _) : va_E) = Sum.inr (ci, _)
      congr 2
      rw [List.length_map]
      apply List.map_congr_left
      intro j hj
      have hj : j < fs.length := List.mem_range.mp hj
      rw [List.getElem?_map, List.getD_eq_getElem?_getD, List.getElem?_eq_getElem hj]
      show (match fs[j] with | 0 => Value.int 0 | _ => Value.null) = _
      cases hz : fs[j] with
      | zero =>
        show Value.int 0 = Value.int (Int32.ofInt (mzero σ.2 σ.1.length σ.1.length j))
        unfold mzero
        rw [if_pos rfl]
        rfl
      | succ n => rfl) ⟨⟨q, hq, by rw [List.length_map]; exact hn.symm⟩, fun t ht => by
        obtain ⟨z, -, hz⟩ := List.mem_map.mp ht
        cases z <;> cases hz⟩ (mRg.push hW.2.2.2 (fun j hj => mzero_ne hj) (fun j => by unfold mzero; rw [if_pos rfl]; exact inR_0)) hP1 hD1
    refine W.widen (k := u + 1) (n := 2100 * (u + 1)) (Nat.le_refl _) (by omega) ?_
    have ha : ∀ k, k < σ.1.length → (fun j => if j = σ.1.length then q9 else ad j) k = ad k := fun k hk => if_neg (Nat.ne_of_lt hk)
    refine kk (fun j => if j = σ.1.length then q9 else ad j) H1 locs ls _ (by rw [hlen]; omega) (fun k hk => (ha k (by omega)).trans (g1 k hk)) hw' (fun k hk => ?_) hS1 ?_ ?_
    · have h5 := hW.2.2.1.1
      rw [← g2 k hk]
      exact mzero_ne (by omega)
    · rw [hlen]; exact lR_ad ha (Nat.le_succ _) hL
    · rw [hlen]
      refine ⟨⟨Or.inl ?_, Nat.lt_succ_self _⟩, sR_ad ha (Nat.le_succ _) hT⟩
      show Value.ref q9 = Value.ref (if σ.1.length = σ.1.length then q9 else ad σ.1.length)
      rw [if_pos rfl]
theorem mty_same {ty : FieldType} {cA : ClassId} (hc : ty = .int ∨ ty = .char ∨ ty = .long ∨ ty = .double) (F : Fx P m d sc p l e R s mid args below meth c D aC ad0 n0 M0 A) (h : va_RA s cA ty) : cA = aC ty := by
  have key : ∀ (i : Nat), (mTy aC)[i]? = some (aC ty, ty) → (∀ n, ty ≠ .object n) → cA = aC ty := by
    intro i hi hno
    have h1 := (F.kn.1.2 i _ hi).2
    have e1 : s.vm.findClass ("[" ++ ty.toString) = some cA := by
      cases ty <;> first | exact h | exact absurd rfl (hno _)
    have e2 : s.vm.findClass ("[" ++ ty.toString) = some (aC ty) := by
      cases ty <;> first | exact h1 | exact absurd rfl (hno _)
    exact Option.some.inj (e1.symm.trans e2)
  rcases hc with rfl | rfl | rfl | rfl
  · exact key 0 rfl (fun n h => by cases h)
  · exact key 1 rfl (fun n h => by cases h)
  · exact key 2 rfl (fun n h => by cases h)
  · exact key 3 rfl (fun n h => by cases h)
def atK (a : ArrayType) : Nat := match a with
  | .int => 1
  | .char => 2
  | .long => 3
  | .double => 4
  | _ => 0
theorem arr_words : Cond.arrayClass .int ∈ lw_gd ∧ Cond.arrayClass .char ∈ lw_gd ∧ Cond.arrayClass .long ∈ lw_gd ∧ Cond.arrayClass .double ∈ lw_gd :=
  ⟨gd_all (ws := [Cond.arrayClass .int]) (by decide +kernel) _ (List.mem_singleton.mpr rfl), gd_all (ws := [Cond.arrayClass .char]) (by decide +kernel) _ (List.mem_singleton.mpr rfl), gd_all (ws := [Cond.arrayClass .long]) (by decide +kernel) _ (List.mem_singleton.mpr rfl), gd_all (ws := [Cond.arrayClass .double]) (by decide +kernel) _ (List.mem_singleton.mpr rfl)⟩
theorem s_newa (F : Fx P m d sc p l e R s mid args below meth c D aC ad0 n0 M0 A) {a : ArrayType} {n : Int} {r : List mV} (hu : u + 1 ≤ (P m).1.2.2.2.2.1) (ha : atK a ≠ 0) (hn : 0 ≤ n ∧ n ≤ 2100) (hd : decode (P m).1.2.1 pc = .ok (.newarray a, 2))
    (kk : WG P m p l e R s mid args below meth c D aC ad0 n0 M0 A Q (pc + 2) (u + 1) L (vr σ.1.length :: r) (σ.1 ++ [(atK a, n.toNat, [])], mzero σ.2 σ.1.length)) : WG P m p l e R s mid args below meth c D aC ad0 n0 M0 A Q pc u L (vi n :: r) σ := by
  intro ad H locs ls st g0 g1 hW g2 hS hL hT
  obtain ⟨_, st', rfl, h1, h2, h3⟩ := sR_cons hT
  cases sv_i h1
  have hb := F.bd
  have key : ∀ (ty : FieldType) (a0 : vp_A), newarray.typeOf a = ty → (ty = .int ∨ ty = .char ∨ ty = .long ∨ ty = .double) → Cond.arrayClass ty ∈ lw_gd → (∀ cA : ClassId, vp_cell cA a0 = arrV cA n.toNat (fun _ => defaultValue ty)) → componentBytes ty ≤ 8 →
      (Sum.inl (aC ty, a0) : va_E) = mE aC ad (atK a, n.toNat, []) (mzero σ.2 σ.1.length σ.1.length) → (atK a ≤ 4 ∧ 1 ≤ atK a) → W p l e R s mid args below meth c H locs u (2100 * u) Q (F0 mid pc ls (.int (Int32.ofInt n) :: st')) := by
    intro ty a0 hty hc hw hcell hcb hE hk
    have hlen : (σ.1 ++ [((atK a, n.toNat, []) : mSh)]).length = σ.1.length + 1 := by simp
    have hcl : (Int32.ofInt n).toNatClampNeg = n.toNat := ofI_clamp h2
    have hneg : ¬ Int32.ofInt n < 0 := fun z => by
      have := (ofI_lt h2 inR_0).mp z
      omega
    have hbyt : n.toNat * componentBytes ty ≤ 536870912 := Nat.le_trans (Nat.mul_le_mul (show n.toNat ≤ 2100 by omega) hcb) (by decide)
    refine va_newa (D := D) (cl := mcl) (a0 := a0) F.exec F.code (by rw [hty]; exact F.ts _ hw) hty F.kn.1 hW.1 hW.2.1 hS F.hA hcell hneg hcl hbyt (by omega) (by omega) hd (fun q9 cA H1 hK1 hP1 hD1 hS1 => ?_)
    have hcA : cA = aC ty := by
      have h9 := (hK1.2 4 (cA, ty) (by simp [mTy])).2
      exact mty_same hc F h9
    rw [hcA, hE] at hP1 hD1
    have haE : mE aC ad (atK a, n.toNat, []) (mzero σ.2 σ.1.length σ.1.length) = mE aC (fun j => if j = σ.1.length then q9 else ad j) (atK a, n.toNat, []) (mzero σ.2 σ.1.length σ.1.length) := by
      obtain ⟨k1, k2⟩ := hk
      rcases (show atK a = 1 ∨ atK a = 2 ∨ atK a = 3 ∨ atK a = 4 by omega) with h | h | h | h <;> rw [h] <;> rfl
    have hw' := mWd.push (aC := aC) (sh := (atK a, n.toNat, [])) (M' := mzero σ.2 σ.1.length) hW.2.2.1 (fun j hj => mzero_ne hj) haE (by
      obtain ⟨k1, k2⟩ := hk
      rcases (show atK a = 1 ∨ atK a = 2 ∨ atK a = 3 ∨ atK a = 4 by omega) with h | h | h | h <;> rw [h] <;> exact ⟨by decide, by omega⟩) (mRg.push hW.2.2.2 (fun j hj => mzero_ne hj) (fun j => by unfold mzero; rw [if_pos rfl]; exact inR_0)) hP1 hD1
    refine W.widen (k := u + 1) (n := 2100 * (u + 1)) (Nat.le_refl _) (by omega) ?_
    have hag : ∀ k, k < σ.1.length → (fun j => if j = σ.1.length then q9 else ad j) k = ad k := fun k hk => if_neg (Nat.ne_of_lt hk)
    refine kk (fun j => if j = σ.1.length then q9 else ad j) H1 locs ls _ (by rw [hlen]; omega) (fun k hk => (hag k (by omega)).trans (g1 k hk)) hw' (fun k hk => ?_) hS1 ?_ ?_
    · have h5 := hW.2.2.1.1
      rw [← g2 k hk]
      exact mzero_ne (by omega)
    · rw [hlen]; exact lR_ad hag (Nat.le_succ _) hL
    · rw [hlen]
      refine ⟨⟨Or.inl ?_, Nat.lt_succ_self _⟩, sR_ad hag (Nat.le_succ _) h3⟩
      show Value.ref q9 = Value.ref (if σ.1.length = σ.1.length then q9 else ad σ.1.length)
      rw [if_pos rfl]
  have hz : mzero σ.2 σ.1.length σ.1.length = fun _ => (0 : Int) := by
    funext j
    unfold mzero
    rw [if_pos rfl]
  cases a with
  | int => exact key .int (n.toNat, .inl fun _ => 0) rfl (Or.inl rfl) arr_words.1 (fun _ => rfl) (by decide) (by rw [hz]; rfl) (by decide)
  | char => exact key .char (n.toNat, .inl fun _ => 0) rfl (Or.inr (Or.inl rfl)) arr_words.2.1 (fun _ => rfl) (by decide) (by rw [hz]; rfl) (by decide)
  | long => exact key .long (n.toNat, .inr (.inl fun _ => 0)) rfl (Or.inr (Or.inr (Or.inl rfl))) arr_words.2.2.1 (fun _ => rfl) (by decide) (by rw [hz]; rfl) (by decide)
  | double => exact key .double (n.toNat, .inr (.inr (.inr (.inl fun _ => 0)))) rfl (Or.inr (Or.inr (Or.inr rfl))) arr_words.2.2.2 (fun _ => rfl) (by decide) (by rw [hz]; rfl) (by decide)
  | boolean => exact absurd rfl ha
  | float => exact absurd rfl ha
  | byte => exact absurd rfl ha
  | short => exact absurd rfl ha
theorem jm_clone : (Cond.sameMethod "[I" "java/lang/Object" "clone" "()Ljava/lang/Object;" ∈ lw_gd ∧ Cond.native ⟨"java/lang/Object", "clone", "()Ljava/lang/Object;"⟩ ∈ lw_gd) ∧ (Cond.instanceMethod ⟨"java/lang/Object", "clone", "()Ljava/lang/Object;"⟩ ∈ lw_gd ∧ Cond.selects "[I" ⟨"[I", "clone", "()Ljava/lang/Object;"⟩ ⟨"java/lang/Object", "clone", "()Ljava/lang/Object;"⟩ ∈ lw_gd) :=
  ⟨⟨gd_all (ws := [Cond.sameMethod "[I" "java/lang/Object" "clone" "()Ljava/lang/Object;"]) (by decide +kernel) _ (List.mem_singleton.mpr rfl), gd_all (ws := [Cond.native ⟨"java/lang/Object", "clone", "()Ljava/lang/Object;"⟩]) (by decide +kernel) _ (List.mem_singleton.mpr rfl)⟩,
   gd_all (ws := [Cond.instanceMethod ⟨"java/lang/Object", "clone", "()Ljava/lang/Object;"⟩]) (by decide +kernel) _ (List.mem_singleton.mpr rfl), gd_all (ws := [Cond.selects "[I" ⟨"[I", "clone", "()Ljava/lang/Object;"⟩ ⟨"java/lang/Object", "clone", "()Ljava/lang/Object;"⟩]) (by decide +kernel) _ (List.mem_singleton.mpr rfl)⟩
theorem jm_castI : Cond.castable "[I" "java/lang/Cloneable" ∈ lw_ng := List.mem_filter.mpr ⟨by decide +kernel, rfl⟩
theorem s_clone (F : Fx P m d sc p l e R s mid args below meth c D aC ad0 n0 M0 A) {k n i idx i2 idx2 : Nat} {fs : List (Option (Option Nat))} {r : List mV} (hu : u + 1 ≤ (P m).1.2.2.2.2.1) (hr : r.length ≤ 20) (hk : σ.1[k]? = some (5, n, fs)) (hl : lw_tbl[i]? = some (.methodLink (P m).1.1.cls idx ⟨"[I", "clone", "()Ljava/lang/Object;"⟩)) (hl2 : lw_tbl[i2]? = some (.classLink (P m).1.1.cls idx2 "[I"))
    (hd : decode (P m).1.2.1 pc = .ok (.invokevirtual idx, 3)) (hd2 : decode (P m).1.2.1 (pc + 3) = .ok (.checkcast idx2, 3)) (kk : WG P m p l e R s mid args below meth c D aC ad0 n0 M0 A Q (pc + 6) (u + 1) L (vr σ.1.length :: r) (σ.1 ++ [(1, n, [])], mclone σ.2 k σ.1.length)) : WG P m p l e R s mid args below meth c D aC ad0 n0 M0 A Q pc u L (vr k :: r) σ := by
  intro ad H locs ls st g0 g1 hW g2 hS hL hT
  obtain ⟨_, st', rfl, h1, h2, h3⟩ := sR_cons hT
  cases sv_r h1
  have hb := F.bd
  have hrm := F.rm
  have hs := sR_le h3 hr
  obtain ⟨hk3, rfl⟩ := hW.2.2.1.ro hk
  have hlen : (σ.1 ++ [((1, 6, []) : mSh)]).length = σ.1.length + 1 := by simp
  obtain ⟨hT9, cell, c1, c2, c3⟩ := F.st0.2.2.2.1 k hk3
  obtain ⟨cell2, t1, t2, t3, -, -, t6, t7⟩ := hT9
  cases Option.some.inj (c1.symm.trans t1)
  have hadk : ad k = ad0 k := g1 k (by have := F.n5; omega)
  have hcI : cell.cls = aC .int := by
    have h9 := (F.kn.1.2 0 (aC .int, .int) rfl).2
    exact Option.some.inj (c3.symm.trans h9)
  have hcellH : H[ad k]? = some cell := by
    rw [hadk, hS.2.1 _ (Array.getElem?_eq_some_iff.mp c1).1 t7]
    exact c1
  have hcellE : ({ cls := cell.cls, slots := cell.slots } : Cell) = vp_cell (aC .int) (6, .inl fun j => Int32.ofInt (σ.2 k j)) := by
    rw [vp_cell_i]
    have hsl : cell.slots = (arrV (aC .int) 6 (fun j => .int (Int32.ofInt (σ.2 k j)))).slots := by
      apply Array.ext_getElem?
      intro i
      by_cases hi : i < 6
      · rw [t6 i hi, arrV_read _ _ hi, g2 k (by omega)]
      · rw [Array.getElem?_eq_none (by omega), Array.getElem?_eq_none (by rw [arrV_size]; omega)]
    rw [hcI, hsl]
    rfl
  obtain ⟨c0, t0', f1, f2, f3⟩ := Cond.castable_spec (va_Nw.use (A := args) rfl (F.kn.2.1 _ jm_castI))
  cases Option.some.inj (c3.symm.trans f1)
  obtain ⟨hst, kA, hkA, comp, hkind⟩ := t2
  have step : ∀ (q9 : Nat) (H1 : Heap), va_P D mcl (mws aC ad σ ++ [(q9, .inl (aC .int, 6, .inl fun j => Int32.ofInt (σ.2 k j)))]) H1 → va_D A (mws aC ad σ ++ [(q9, .inl (aC .int, 6, .inl fun j => Int32.ofInt (σ.2 k j)))]) → va_S A s.heap H1 locs →
      W p l e R s mid args below meth c H1 locs (u + 1) (2100 * u + 6) Q (F0 mid (pc + 3) ls (.ref q9 :: st')) := by
    intro q9 H1 hP1 hD1 hS1
    refine va_castA (q0 := σ.1.length - 5) F.exec F.code F.own (gd_at F hl2 rfl) hP1 (cA := aC .int) (x := (6, .inl fun j => Int32.ofInt (σ.2 k j))) (by rw [List.getElem?_append_right (by rw [mws_len]; exact Nat.le_refl _), mws_len, Nat.sub_self]; rfl) (by rw [← hcI]; exact c3) hd2 ?_
    have hM : ∀ j, j ≠ σ.1.length → mclone σ.2 k σ.1.length j = σ.2 j := fun j hj => mclone_ne hj
    have hMk : mclone σ.2 k σ.1.length σ.1.length = σ.2 k := by
      funext j
      unfold mclone
      rw [if_pos rfl]
    have hw' := mWd.push (aC := aC) (sh := (1, 6, [])) (M' := mclone σ.2 k σ.1.length) hW.2.2.1 hM (by rw [hMk]; rfl) (show mShOk _ (1, 6, []) from ⟨by decide, by decide⟩) (mRg.push hW.2.2.2 hM (fun j => by rw [hMk]; exact hW.2.2.2 k j (fun sh hsh => by rw [hk] at hsh; cases hsh; exact (show (5:Nat) ≠ 4 by decide)))) hP1 hD1
    refine W.widen (k := u + 1) (n := 2100 * (u + 1)) (Nat.le_refl _) (by omega) ?_
    have hag : ∀ k, k < σ.1.length → (fun j => if j = σ.1.length then q9 else ad j) k = ad k := fun k hk => if_neg (Nat.ne_of_lt hk)
    refine kk (fun j => if j = σ.1.length then q9 else ad j) H1 locs ls _ (by rw [hlen]; omega) (fun k hk => (hag k (by omega)).trans (g1 k hk)) hw' (fun z hz => ?_) hS1 ?_ ?_
    · have h5 := hW.2.2.1.1
      rw [← g2 z hz]
      exact mclone_ne (by omega)
    · rw [hlen]; exact lR_ad hag (Nat.le_succ _) hL
    · rw [hlen]
      refine ⟨⟨Or.inl ?_, Nat.lt_succ_self _⟩, sR_ad hag (Nat.le_succ _) h3⟩
      show Value.ref q9 = Value.ref (if σ.1.length = σ.1.length then q9 else ad σ.1.length)
      rw [if_pos rfl]
  intro T hTe X
  have hcellT : T.heap[ad k]? = some cell := by rw [hTe]; exact hcellH
  obtain ⟨hstA, kA', hkA', comp', hkind'⟩ := State.isArrayOf_alike X.warmed.alike (⟨hst, kA, hkA, comp, hkind⟩ : s.isArrayOf cell .int)
  obtain ⟨vm', X', st⟩ := X.cloneArray F.exec F.own (gd_at F hl rfl) (F.ts _ jm_clone.1.1) (F.ts _ jm_clone.1.2) (F.ts _ jm_clone.2.1) (F.ts _ jm_clone.2.2) (a := ad k) (cell := cell) hcellT hst t3 c3 f2 f3
    (fun i v hv => by
      have hk' : T.vm.classes[cell.cls]? = some kA' := hkA'
      by_cases hi : i < 6
      · rw [t6 i hi] at hv
        cases hv
        simp [State.fitsSlot, State.slotType?, hk', hkind', fits]
      · rw [Array.getElem?_eq_none (by omega)] at hv
        cases hv)
    (g := F0 mid pc ls (.ref (ad k) :: st')) rfl ((lR_sz hL).trans F.maxL.symm) rfl (by rw [F.code]; exact hd) (by omega) (by show 2 * 0 + _ + 14 ≤ _; omega) (by omega) (by omega) (hloader := Vm.clonesLoader_of_array hkA hkind)
  rw [hcellE, c2] at X'
  obtain ⟨t, b1, b2⟩ := step H.size (H.push (vp_cell (aC .int) (6, .inl fun j => Int32.ofInt (σ.2 k j)))) (by
      have hk9 : ∀ (z : Nat) (y : Nat × va_E), (mws aC ad σ)[z]? = some y → (H.push (vp_cell (aC .int) (6, .inl fun j => Int32.ofInt (σ.2 k j))))[y.1]? = H[y.1]? := fun z y hy => by
        rw [Array.getElem?_push, if_neg (Nat.ne_of_lt (hW.1 z y hy).lt)]
      refine (hW.1.kept hk9).app (fun z y hy => ?_)
      have hz : z < 1 := (List.getElem?_eq_some_iff.mp hy).1
      rw [show z = 0 by omega] at hy
      cases hy
      show (H.push _)[H.size]? = some (vp_cell _ _)
      rw [Array.getElem?_push_size]) (hW.2.1.push hW.1 rfl (F.hA _ hS.1)) ⟨by rw [Array.size_push]; exact Nat.le_succ_of_le hS.1, fun y z1 z2 => by rw [Array.getElem?_push, if_neg (by have := hS.1; omega)]; exact hS.2.1 y z1 z2, hS.2.2⟩
    ((T.setVm vm').pushCell (vp_cell (aC .int) (6, .inl fun j => Int32.ofInt (σ.2 k j)))) (by rw [← hTe]; rfl) X'
  refine ⟨t, st t ?_, b2⟩
  rw [hcellE, hTe]
  exact b1
theorem jm_cpy : (Cond.native arraycopyName ∈ lw_gd ∧ Cond.static arraycopyName ∈ lw_gd) ∧ Cond.initialized "java/lang/System" ∈ lw_gd :=
  ⟨⟨gd_all (ws := [Cond.native arraycopyName]) (by decide +kernel) _ (List.mem_singleton.mpr rfl), gd_all (ws := [Cond.static arraycopyName]) (by decide +kernel) _ (List.mem_singleton.mpr rfl)⟩, gd_all (ws := [Cond.initialized "java/lang/System"]) (by decide +kernel) _ (List.mem_singleton.mpr rfl)⟩
theorem alK_le {kd k : Nat} {n : Int} (h0 : 0 ≤ n) (hkd : kd ≠ 0) (h : n ≤ alK σ kd k) (hz : 0 < n) : ∃ q fs, σ.1[k]? = some (kd, q, fs) ∧ n ≤ (q : Int) := by
  obtain ⟨q, fs, h1, h2⟩ := alK_some (σ := σ) (kd := kd) (k := k) (x := n - 1) (by omega) (by omega)
  exact ⟨q, fs, h1, by omega⟩
theorem s_copy (F : Fx P m d sc p l e R s mid args below meth c D aC ad0 n0 M0 A) {ks kd i idx : Nat} {n : Int} {r : List mV} (hr : r.length ≤ 20) (hn : 0 < n) (h1 : n ≤ alK σ 1 ks) (h2 : n ≤ alK σ 1 kd) (hl : lw_tbl[i]? = some (.methodLink (P m).1.1.cls idx arraycopyName)) (hd : decode (P m).1.2.1 pc = .ok (.invokestatic idx, 3))
    (kk : WG P m p l e R s mid args below meth c D aC ad0 n0 M0 A Q (pc + 3) u L r (σ.1, mcpy σ.2 ks kd n.toNat)) : WG P m p l e R s mid args below meth c D aC ad0 n0 M0 A Q pc u L (vi n :: vi 0 :: vr kd :: vi 0 :: vr ks :: r) σ := by
  intro ad H locs ls st g0 g1 hW g2 hS hL hT
  obtain ⟨_, _, s1, rfl, a1, a2, a3, a4, a5⟩ := sR_2 hT
  obtain ⟨_, _, s2, rfl, b1, b2, b3, b4, b5⟩ := sR_2 a5
  obtain ⟨_, st', rfl, c1, c2, c3⟩ := sR_cons b5
  cases sv_i a1; cases sv_i a3; cases sv_r b1; cases sv_i b3; cases sv_r c1
  have hrm := F.rm
  have hs := sR_le c3 hr
  obtain ⟨q1, fs1, e1, e2⟩ := alK_le (by omega) (by decide) h1 hn
  obtain ⟨q2, fs2, e3, e4⟩ := alK_le (by omega) (by decide) h2 hn
  have k1 := hW.2.2.1.ge e1 (show (1:Nat) ≤ 4 by decide)
  have k2 := hW.2.2.1.ge e3 (show (1:Nat) ≤ 4 by decide)
  have z0 : (Int32.ofInt 0).toNatClampNeg = 0 := rfl
  have hcn : (Int32.ofInt n).toNatClampNeg = n.toNat := ofI_clamp a2
  have hneg : ¬ Int32.ofInt n < 0 := fun z => by
    have := (ofI_lt a2 inR_0).mp z
    omega
  refine va_copyi (D := D) (cl := mcl) F.exec F.code (F.maxL.trans (lR_sz hL).symm) F.own (gd_at F hl rfl) (F.ts _ jm_cpy.1.1) (F.ts _ jm_cpy.1.2) (F.ts _ jm_cpy.2) F.kn.1 hW.1 hW.2.1 hS (ks - 5) (kd - 5) 0 0 (mws_get e1 k1) (mws_get e3 k2) rfl rfl rfl (by decide) (by decide) hneg (by rw [z0, hcn]; omega) (by rw [z0, hcn]; omega) (fun _ _ => rfl) (by omega) (by
    have : nativeFrameWords "java/lang/System" "arraycopy" 5 + 11 ≤ 200 := by decide +kernel
    omega) hd (fun H1 locs1 hP1 hD1 hS1 => ?_)
  have hMo : ∀ j, j ≠ kd → mcpy σ.2 ks kd n.toNat j = σ.2 j := fun j hj => by
    funext b
    unfold mcpy
    rw [if_neg (fun z => hj z.1)]
  have eM : va_cpy (fun j => Int32.ofInt (σ.2 ks j)) (fun j => Int32.ofInt (σ.2 kd j)) (Int32.ofInt 0).toNatClampNeg (Int32.ofInt 0).toNatClampNeg (Int32.ofInt n).toNatClampNeg = fun j => Int32.ofInt (mcpy σ.2 ks kd n.toNat kd j) := by
    funext j
    rw [z0, hcn]
    unfold va_cpy mcpy
    by_cases hj : j < n.toNat
    · rw [if_pos (by omega), if_pos ⟨rfl, hj⟩, show 0 + (j - 0) = j by omega]
    · rw [if_neg (by omega), if_neg (fun z => hj z.2)]
  rw [eM] at hP1 hD1
  have hrg : mRg (σ.1, mcpy σ.2 ks kd n.toNat) := by
    intro a j ha
    show inR (mcpy σ.2 ks kd n.toNat a j)
    unfold mcpy
    split
    · exact hW.2.2.2 ks j (fun sh hsh => by rw [e1] at hsh; cases hsh; exact (show (1:Nat) ≠ 4 by decide))
    · exact hW.2.2.2 a j ha
  have hw' : mWd D aC ad (σ.1, mcpy σ.2 ks kd n.toNat) A H1 := set_one (f' := fun _ => 0) hW.2.2.1 e3 (by decide) (by decide) rfl hMo hrg hP1 hD1
  exact kk ad H1 locs1 ls _ g0 g1 hw' (fun j hj => (hMo j (by omega)).trans (g2 j hj)) hS1 hL c3
end NW
