/-! THE LAW'S START: what the Statement gives, in the small machine's words -/
def st_fl : List Cond := flatC (Jvm.Cond.and given_1 narrow_1)
theorem st_at {args : Array Value} {s : State} (h : (Jvm.Cond.and given_1 narrow_1).before args s = true) {w : Cond} (i : Nat) (hi : st_fl[i]? = some w) : w.before args s = true := flat_of_before _ h w (List.mem_of_getElem? hi)
def st_F (j : Nat) : Int := match j with
  | 0 => 70
  | 1 => 50
  | 2 => 0
  | 3 => 1
  | 4 => 1
  | 5 => 1
  | _ => 0
def st_L (j : Nat) : Int := match j with
  | 0 => 55
  | 1 => 10
  | 2 => 0
  | 3 => 1
  | 4 => 1
  | 5 => 1
  | _ => 0
def st_G (j : Nat) : Int := match j with
  | 0 => 95
  | 1 => 90
  | 2 => 3
  | 3 => 9
  | 4 => 9
  | 5 => 9
  | _ => 0
theorem st_inF (j : Nat) : inR (st_F j) := by
  unfold st_F
  split <;> (unfold inR; omega)
theorem st_inL (j : Nat) : inR (st_L j) := by
  unfold st_L
  split <;> (unfold inR; omega)
theorem st_inG (j : Nat) : inR (st_G j) := by
  unfold st_G
  split <;> (unfold inR; omega)
def st_t (N : String) : Term := .static "SpatialPoints" N "[I"
def st_w (N : String) (f : Nat → Int) (j : Nat) : Cond := .eq (.elem (st_t N) (.int (Int32.ofNat j))) (.int (Int32.ofInt (f j)))
def st_ok (N : String) (f : Nat → Int) (i x : Nat) : Bool := (decide (st_fl[i]? = some (.arrayOf (st_t N) .int)) && decide (st_fl[i + 1]? = some (.eq (.length (st_t N)) (.int (Int32.ofNat 6))))) && (((List.range 6).all fun j => decide (st_fl[i + 2 + j]? = some (st_w N f j))) && decide (st_fl[x]? = some (.exactly (st_t N) "[I")))
set_option maxRecDepth 100000 in
theorem st_ok_F : st_ok "FIRST_VALUES" st_F 5 1074 = true := by decide +kernel
set_option maxRecDepth 100000 in
theorem st_ok_L : st_ok "LEAST_VALUES" st_L 16 1075 = true := by decide +kernel
set_option maxRecDepth 100000 in
theorem st_ok_G : st_ok "GREATEST_VALUES" st_G 25 1076 = true := by decide +kernel
theorem st_len {args : Array Value} {s : State} {tm : Term} {t : Nat} {cell : Cell} {N : Nat} (hN : N < 2 ^ 31) (ht : tm.eval args s none [] s = some (.ref t)) (hc : s.heap[t]? = some cell) (h : (Term.length tm).eval args s none [] s = some (.int (Int32.ofNat N))) : cell.slots.size = N := by
  simp only [Term.eval, Option.bind_eq_bind, ht, Option.bind_some] at h
  obtain ⟨cell', hcell, h⟩ := Option.bind_eq_some_iff.mp h
  obtain ⟨e1, -⟩ := State.arrayAt?_spec hcell
  cases hc.symm.trans e1
  by_cases hn : cell.slots.size < 2147483648
  · rw [if_pos hn] at h
    have h2 : Int32.ofNat cell.slots.size = Int32.ofNat N := Value.int.inj (Option.some.inj h)
    have h3 : cell.slots.size ≤ N := (Int32.ofNat_le_ofNat hn hN).mp (by rw [h2]; exact Int32.le_refl _)
    have h4 : N ≤ cell.slots.size := (Int32.ofNat_le_ofNat hN hn).mp (by rw [h2]; exact Int32.le_refl _)
    omega
  · rw [if_neg hn] at h
    cases h
theorem st_one {args : Array Value} {s : State} {N : String} {f : Nat → Int} {i x : Nat} {A : Nat → Prop} (h : (Jvm.Cond.and given_1 narrow_1).before args s = true) (hk : st_ok N f i x = true) (hA : ∀ a : Nat, a < s.heap.size → ¬ A a)
    (hl : (Cond.laysStatic "SpatialPoints" N "[I").before args s = true) (hini : (Cond.initialized "SpatialPoints").before args s = true) : ∃ t : Nat, va_Z "SpatialPoints" N "[I" (.ref t) A s s.heap ∧ mT t f A s s.heap := by
  unfold st_ok at hk
  rw [Bool.and_eq_true, Bool.and_eq_true, Bool.and_eq_true, decide_eq_true_eq, decide_eq_true_eq, decide_eq_true_eq] at hk
  obtain ⟨⟨k1, k2⟩, k3, k4⟩ := hk
  have w1 := st_at h _ k1
  have w2 := st_at h _ k2
  have w4 := st_at h _ k4
  have w3 : ∀ j, j < 6 → (st_w N f j).before args s = true := fun j hj => st_at h _ (of_decide_eq_true (List.all_eq_true.mp k3 j (List.mem_range.mpr hj)))
  have hlen : (Term.length (st_t N)).eval args s none [] s = some (.int (Int32.ofNat 6)) := va_eqt w2
  obtain ⟨t, ht, hT⟩ := va_Tof (N := 6) (f := fun j => .int (Int32.ofInt (f j))) (A := A) (by decide) w1 hlen (fun j hj => va_eqt (w3 j hj)) hA
  refine ⟨t, va_Zof hl hini ht hA, hT, ?_⟩
  obtain ⟨a, c, cell, k, h1, h2, h3, h4, h5, h6, h7⟩ := Cond.exactly_spec w4
  cases ht.symm.trans h1
  exact ⟨cell, h3, st_len (by decide) ht h3 hlen, by rw [h6]; exact h2⟩
theorem st_D {args : Array Value} {s : State} (hts : ∀ w ∈ lw_tbl, w.before args s = true) : ∃ D : va_G, ∀ (c : Nat) (q : vw_C), mcl[c]? = some q → u_Kn s q.1 q.2.1 q.2.2 (D.1 c) (D.2 c) := by
  have h : ∀ c : Nat, ∃ x : ClassId × (Nat → Nat), ∀ q : vw_C, mcl[c]? = some q → u_Kn s q.1 q.2.1 q.2.2 x.1 x.2 := by
    intro c
    cases hc : mcl[c]? with
    | none => exact ⟨(0, fun _ => 0), fun q hq => by cases hq⟩
    | some q =>
      obtain ⟨i1, i2, h1, -⟩ := cls_at c q hc
      obtain ⟨cC, iS, hk⟩ := u_known (ws := lw_tbl) (C := q.1) (T := q.2.1) (N := q.2.2) (n := q.2.2) hts (fun w hw => (List.mem_filter.mp (mcl_ws c q hc w hw)).1) (hts _ (List.mem_of_getElem? h1))
      exact ⟨(cC, iS), fun q' hq => by cases hq; exact hk⟩
  exact ⟨(fun c => (Classical.choose (h c)).1, fun c => (Classical.choose (h c)).2), fun c q hq => Classical.choose_spec (h c) q hq⟩
theorem st_A {args : Array Value} {s : State} (hts : ∀ w ∈ lw_tbl, w.before args s = true) : ∃ aC : FieldType → ClassId, ∀ (k : Nat) (q : ClassId × FieldType), (mTy aC)[k]? = some q → ArrOfT s q.1 q.2 ∧ va_RA s q.1 q.2 := by
  have one : ∀ ty : FieldType, Cond.arrayClass ty ∈ lw_gd → ∃ cA : ClassId, ArrOfT s cA ty ∧ s.vm.findClass ("[" ++ ty.toString) = some cA := by
    intro ty hw
    obtain ⟨c, k, comp, h1, h2, h3⟩ := Cond.arrayClass_spec (hts _ (List.mem_filter.mp hw).1)
    exact ⟨c, fun n z => ⟨fun j h => (by cases h), k, h2, comp, h3⟩, h1⟩
  obtain ⟨d1, a1, f1⟩ := one .int arr_words.1
  obtain ⟨d2, a2, f2⟩ := one .char arr_words.2.1
  obtain ⟨d3, a3, f3⟩ := one .long arr_words.2.2.1
  obtain ⟨d4, a4, f4⟩ := one .double arr_words.2.2.2
  refine ⟨fun t => match t with
    | .int => d1
    | .char => d2
    | .long => d3
    | _ => d4, fun k q hq => ?_⟩
  match k, hq with
  | 0, hq => cases hq; exact ⟨a1, f1⟩
  | 1, hq => cases hq; exact ⟨a2, f2⟩
  | 2, hq => cases hq; exact ⟨a3, f3⟩
  | 3, hq => cases hq; exact ⟨a4, f4⟩
  | k + 4, hq => simp [mTy] at hq
def st_ix (i j : Nat) : Nat := ([[0, 60, 76, 108, 92], [44, 0, 77, 109, 93], [45, 61, 0, 110, 94], [48, 64, 80, 0, 96], [46, 62, 78, 111, 0]].getD i []).getD j 0
set_option maxRecDepth 100000 in
theorem st_nc : ((List.range 5).all fun i => (List.range 5).all fun j => decide (i = j) || decide (st_fl[st_ix i j]? = some (Cond.not (.castable (exN i) (exN j))))) = true := by decide +kernel
theorem st_kn {args : Array Value} {s : State} (hts : ∀ w ∈ lw_tbl, w.before args s = true) (h : (Jvm.Cond.and given_1 narrow_1).before args s = true) : ∃ (D : va_G) (aC : FieldType → ClassId), mKn D aC s := by
  obtain ⟨D, hD⟩ := st_D hts
  obtain ⟨aC, hA⟩ := st_A hts
  refine ⟨D, aC, ⟨hD, hA⟩, fun w hw => va_Nw.of (ng_tab hw) (hts w (List.mem_filter.mp hw).1), fun own k tx hm => ?_, fun i j hi hj hij => ?_⟩
  · have h1 := hts _ hm
    have hcur : ∃ cur, s.vm.findClass own = some cur := by
      have h2 := h1
      simp only [Cond.before, Cond.holds, Cond.value] at h2
      cases hc : s.vm.findClass own with
      | none => simp [hc] at h2
      | some cur => exact ⟨cur, rfl⟩
    obtain ⟨cur, hc⟩ := hcur
    obtain ⟨-, -, -, a, -, -, -, -, -, hev⟩ := Cond.stringRef_spec hc h1
    exact ⟨a, vk_R.of h1 hev⟩
  · have h1 := List.all_eq_true.mp (List.all_eq_true.mp st_nc i (List.mem_range.mpr hi)) j (List.mem_range.mpr hj)
    rw [Bool.or_eq_true, decide_eq_true_eq, decide_eq_true_eq] at h1
    rcases h1 with h1 | h1
    · exact absurd h1 hij
    · exact va_Nc.of (st_at h _ h1)
set_option maxRecDepth 100000 in
theorem st_ws : lw_tbl[89]? = some (Cond.initialized "SpatialPoints") ∧ lw_tbl[101]? = some (Cond.initialized Bundle.tN) ∧ lw_tbl[285]? = some (Cond.laysStatic "SpatialPoints" "FIRST_VALUES" "[I") ∧ lw_tbl[1126]? = some (Cond.laysStatic "SpatialPoints" "LEAST_VALUES" "[I") ∧ lw_tbl[1128]? = some (Cond.laysStatic "SpatialPoints" "GREATEST_VALUES" "[I") ∧
    lw_tbl[801]? = some (Cond.laysStatic Bundle.tN "UNASSIGNED_STACK" Bundle.steD) ∧ lw_tbl[803]? = some (Cond.laysStatic Bundle.tN "SUPPRESSED_SENTINEL" Bundle.listD) :=
  ⟨by decide +kernel, by decide +kernel, by decide +kernel, by decide +kernel, by decide +kernel, by decide +kernel, by decide +kernel⟩
set_option maxRecDepth 100000 in
theorem st_rf : st_fl[13]? = some (Cond.isRef (.static Bundle.tN "UNASSIGNED_STACK" Bundle.steD)) ∧ st_fl[14]? = some (Cond.isRef (.static Bundle.tN "SUPPRESSED_SENTINEL" Bundle.listD)) := ⟨by decide +kernel, by decide +kernel⟩
theorem st_st {args : Array Value} {s : State} {A : Nat → Prop} (hts : ∀ w ∈ lw_tbl, w.before args s = true) (h : (Jvm.Cond.and given_1 narrow_1).before args s = true) (hA : ∀ a : Nat, a < s.heap.size → ¬ A a) : ∃ t0 t1 t2 : Nat, ∀ (ad : Nat → Nat) (M : mM), ad 0 = t0 → ad 1 = t1 → ad 2 = t2 → M 0 = st_F → M 1 = st_L → M 2 = st_G → mSt0 A ad M s s.heap := by
  obtain ⟨w1, w2, w3, w4, w5, w6, w7⟩ := st_ws
  have g : ∀ {i : Nat} {w : Cond}, lw_tbl[i]? = some w → w.before args s = true := fun hi => hts _ (List.mem_of_getElem? hi)
  obtain ⟨t0, z0, m0⟩ := st_one h st_ok_F hA (g w3) (g w1)
  obtain ⟨t1, z1, m1⟩ := st_one h st_ok_L hA (g w4) (g w1)
  obtain ⟨t2, z2, m2⟩ := st_one h st_ok_G hA (g w5) (g w1)
  refine ⟨t0, t1, t2, fun ad M e0 e1 e2 f0 f1 f2 => ⟨by rw [e0]; exact z0, by rw [e1]; exact z1, by rw [e2]; exact z2, fun k hk => ?_, vx_Zqof (g w6) (g w2) (st_at h _ st_rf.1) hA, vx_Zqof (g w7) (g w2) (st_at h _ st_rf.2) hA⟩⟩
  obtain rfl | rfl | rfl : k = 0 ∨ k = 1 ∨ k = 2 := by omega
  · rw [e0, f0]; exact m0
  · rw [e1, f1]; exact m1
  · rw [e2, f2]; exact m2
def st_M (L : Nat) (xs : Nat → Int32) : mM := fun k j => match k with
  | 0 => st_F j
  | 1 => st_L j
  | 2 => st_G j
  | 3 => (xs j).toInt
  | 4 => (L : Int)
  | _ => 0
theorem st_inM {L : Nat} {xs : Nat → Int32} (hL : L ≤ 3072) (k j : Nat) : inR (st_M L xs k j) := by
  unfold st_M
  split
  · exact st_inF j
  · exact st_inL j
  · exact st_inG j
  · exact toI_inR _
  · unfold inR; omega
  · exact inR_0
theorem st_Wd {D : va_G} {aC : FieldType → ClassId} {ad : Nat → Nat} {A : Nat → Prop} {H : Heap} {L : Nat} {xs : Nat → Int32} (hL : L ≤ 3072) : mWd D aC ad (mRo, st_M L xs) A H := by
  have e : mws aC ad (mRo, st_M L xs) = [] := rfl
  refine ⟨?_, ?_, ⟨Nat.le_refl 5, rfl, fun k sh h5 h => ?_⟩, fun k j _ => st_inM hL k j⟩
  · rw [e]; exact fun k q h => by cases h
  · rw [e]; exact ⟨fun i j p q h => (by cases h), fun k q h => (by cases h)⟩
  · rw [List.getElem?_eq_none (show mRo.length ≤ k from h5)] at h
    cases h
theorem law_hd : (prog 299).1 = (yL_law, cL_law, 10, some .boolean, 3400, 1, []) := rfl
theorem law_L {ad : Nat → Nat} {b : Nat} (h : ad 3 = b) : lR ad 5 [vr 3, vj, vj, vj, vj, vj, vj, vj, vj, vj] ((lg_sl [Value.ref b] ++ List.replicate ((prog 299).1.2.2.1 - (lg_sl [Value.ref b]).length) Slot.unset).toArray) (prog 299).1.2.2.1 := by
  have h1 := entry_lR (P := prog) (ad := ad) (n := 5) (a := 299) (as := [vr 3]) rfl (by rw [law_hd]; decide) (fun v hv => by cases List.mem_singleton.mp hv; exact ⟨(by decide : 3 < 5), fun z => by cases z⟩)
  have e1 : ([vr 3] : List mV).map (vv ad) = [Value.ref b] := by rw [← h]; rfl
  have e2 : pPad prog 299 [vr 3] = [vr 3, vj, vj, vj, vj, vj, vj, vj, vj, vj] := by unfold pPad; rw [law_hd]; rfl
  rw [e1, e2] at h1
  exact h1
