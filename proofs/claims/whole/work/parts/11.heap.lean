section HP
variable {P : mP} {m d : Nat} {sc : Bool} {p : Program} {l : Launch} {e : Env} {R : Room} {s : State} {mid : MethodId} {args : Array Value} {below : List Frame} {meth : Method} {c : Code} {D : va_G} {aC : FieldType → ClassId} {ad0 : Nat → Nat} {n0 : Nat} {M0 : mM} {A : Nat → Prop} {Q : State → Prop}
variable {pc u : Nat} {L S : List mV} {σ : mS}
theorem mset_ne {M : mM} {k j k' : Nat} {x : Int} (h : k' ≠ k) : mset M k j x k' = M k' := by
  funext b
  unfold mset
  rw [if_neg (fun q => h q.1)]
theorem mset_inR {sh : List mSh} {M : mM} {k j : Nat} {x : Int} (hx : (∀ q, sh[k]? = some q → q.1 ≠ 4) → inR x) (h : mRg (sh, M)) : mRg (sh, mset M k j x) := by
  intro a b hab
  show inR (mset M k j x a b)
  unfold mset
  by_cases hc : a = k ∧ b = j
  · rw [if_pos hc]
    rw [hc.1] at hab
    exact hx hab
  · rw [if_neg hc]; exact h a b hab
theorem mWf.ge {σ : mS} (h : mWf σ) {k : Nat} {sh : mSh} (hk : σ.1[k]? = some sh) (h4 : sh.1 ≤ 4) : 5 ≤ k := by
  rcases Nat.lt_or_ge k 5 with h5 | h5
  · exfalso
    have e : (σ.1.take 5)[k]? = σ.1[k]? := by rw [List.getElem?_take, if_pos h5]
    rw [h.2.1, hk] at e
    rcases (show k = 0 ∨ k = 1 ∨ k = 2 ∨ k = 3 ∨ k = 4 by omega) with rfl | rfl | rfl | rfl | rfl <;> (cases e; revert h4; decide)
  · exact h5
theorem mWf.ro {σ : mS} (h : mWf σ) {k n : Nat} {fs : List (Option (Option Nat))} (hk : σ.1[k]? = some (5, n, fs)) : k < 3 ∧ n = 6 := by
  rcases Nat.lt_or_ge k 5 with h5 | h5
  · have e : (σ.1.take 5)[k]? = σ.1[k]? := by rw [List.getElem?_take, if_pos h5]
    rw [h.2.1, hk] at e
    rcases (show k = 0 ∨ k = 1 ∨ k = 2 ∨ k = 3 ∨ k = 4 by omega) with rfl | rfl | rfl | rfl | rfl <;> (cases e <;> decide)
  · have := (h.2.2 k _ h5 hk)
    exact absurd this.1 (by decide)
/-- one cell written anew -/
theorem mWd.set {ad : Nat → Nat} {σ' : mS} {k : Nat} {sh sh' : mSh} {E : va_E} {H1 : Heap} (hW : mWf σ) (h : σ.1[k]? = some sh) (h4 : sh.1 ≤ 4) (h' : σ'.1[k]? = some sh') (hE : E = mE aC ad sh' (σ'.2 k)) (hn : σ'.1.length = σ.1.length) (ho : ∀ j, j ≠ k → σ'.1[j]? = σ.1[j]?) (hM : ∀ j, j ≠ k → σ'.2 j = σ.2 j)
    (hok : mShOk σ.1.length sh') (h4' : sh'.1 ≤ 4) (hr : mRg σ') (hP : va_P D mcl ((mws aC ad σ).set (k - 5) (ad k, E)) H1) (hD : va_D A ((mws aC ad σ).set (k - 5) (ad k, E))) : mWd D aC ad σ' A H1 := by
  have h5 := hW.ge h h4
  have e := mws_set (aC := aC) (ad := ad) h5 (List.getElem?_eq_some_iff.mp h).1 h' hE hn ho hM
  rw [e] at hP hD
  refine ⟨hP, hD, ⟨by rw [hn]; exact hW.1, ?_, fun j q hj hq => ?_⟩, hr⟩
  · rw [← hW.2.1]
    apply List.ext_getElem?
    intro i
    rw [List.getElem?_take, List.getElem?_take]
    by_cases hi : i < 5
    · rw [if_pos hi, if_pos hi, ho i (by omega)]
    · rw [if_neg hi, if_neg hi]
  · rw [hn]
    by_cases hjk : j = k
    · subst hjk
      rw [h'] at hq
      cases hq
      exact hok
    · rw [ho j hjk] at hq
      exact hW.2.2 j q hj hq
theorem mE_obj {ad : Nat → Nat} {ci : Nat} {fs : List (Option (Option Nat))} {f : Nat → Int} {b : Nat} (hb : b < fs.length) : ((List.range fs.length).map fun j => match fs[j]? with
    | some (some t) => vv ad (.inr (.inl t))
    | _ => Value.int (Int32.ofInt (f j)))[b]? = some (match fs[b]? with
    | some (some t) => vv ad (.inr (.inl t))
    | _ => Value.int (Int32.ofInt (f b))) := by
  rw [List.getElem?_map, List.getElem?_range hb]
  rfl
theorem s_getf (F : Fx P m d sc p l e R s mid args below meth c D aC ad0 n0 M0 A) {k ci b i idx : Nat} {fs : List (Option (Option Nat))} {q : vw_C} {r : List mV} {v : mV} (hk : σ.1[k]? = some (0, ci, fs)) (hq : mcl[ci]? = some q) (hl : lw_tbl[i]? = some (.fieldLink (P m).1.1.cls idx (q.2.1 b).1 (q.2.1 b).2.1 (q.2.1 b).2.2.1)) (hd : decode (P m).1.2.1 pc = .ok (.getfield idx, 3))
    (hv : (fs[b]? = some none ∧ v = vi (σ.2 k b)) ∨ ∃ t, fs[b]? = some (some t) ∧ v = .inr (.inl t)) (kk : WG P m p l e R s mid args below meth c D aC ad0 n0 M0 A Q (pc + 3) u L (v :: r) σ) : WG P m p l e R s mid args below meth c D aC ad0 n0 M0 A Q pc u L (vr k :: r) σ := by
  intro ad H locs ls st g0 g1 hW g2 hS hL hT
  obtain ⟨_, st', rfl, h1, h2, h3⟩ := sR_cons hT
  cases sv_r h1
  have h5 := hW.2.2.1.ge hk (Nat.zero_le 4)
  have hok := hW.2.2.1.2.2 k _ h5 hk
  obtain ⟨⟨q', hq', hlen⟩, hrefs⟩ := hok
  cases Option.some.inj (hq.symm.trans hq')
  have hb : b < fs.length := by
    rcases hv with ⟨h, -⟩ | ⟨t, h, -⟩ <;> exact (List.getElem?_eq_some_iff.mp h).1
  have hval : (match fs[b]? with
    | some (some t) => vv ad (.inr (.inl t))
    | _ => Value.int (Int32.ofInt (σ.2 k b))) = vv ad v := by
    rcases hv with ⟨h, rfl⟩ | ⟨t, h, rfl⟩ <;> rw [h] <;> rfl
  have hov : okV σ.1.length v := by
    rcases hv with ⟨h, rfl⟩ | ⟨t, h, rfl⟩
    · exact hW.2.2.2 k b (fun sh hsh => by rw [hk] at hsh; cases hsh; exact (show (0:Nat) ≠ 4 by decide))
    · cases t with
      | none => trivial
      | some t => exact hrefs t (List.mem_of_getElem? h)
  refine va_get (D := D) (T := q.2.1) (N := q.2.2) (C := q.1) (ref := (q.2.1 b).1) F.exec F.code F.ts (mcl_ws ci q hq) F.own F.kn.1 hW.1 (k - 5) (mws_get hk h5) hq b (by omega) (gd_at F hl rfl) (fun _ h9 => h9) (mE_obj (ci := ci) hb) hd ?_
  rw [hval]
  exact kk ad H locs ls _ g0 g1 hW g2 hS hL ⟨⟨Or.inl rfl, hov⟩, h3⟩
theorem range_set {α : Type} {n b : Nat} {F G : Nat → α} {v : α} (hb : b < n) (hv : G b = v) (ho : ∀ j, j ≠ b → G j = F j) : ((List.range n).map F).set b v = (List.range n).map G := by
  apply List.ext_getElem?
  intro i
  by_cases hi : i = b
  · subst hi
    rw [List.getElem?_set_self (by simp; exact hb), List.getElem?_map, List.getElem?_range hb]
    exact congrArg some hv.symm
  · rw [List.getElem?_set_ne (Ne.symm hi), List.getElem?_map, List.getElem?_map]
    cases hx : (List.range n)[i]? with
    | none => rfl
    | some j =>
      have hin : i < n := by
        have h1 := (List.getElem?_eq_some_iff.mp hx).1
        rwa [List.length_range] at h1
      rw [List.getElem?_range hin] at hx
      cases hx
      exact congrArg some (ho i hi).symm
/-- a number into a field -/
theorem s_putf (F : Fx P m d sc p l e R s mid args below meth c D aC ad0 n0 M0 A) {k ci b i idx : Nat} {x : Int} {fs : List (Option (Option Nat))} {q : vw_C} {r : List mV} (hk : σ.1[k]? = some (0, ci, fs)) (hq : mcl[ci]? = some q) (hl : lw_tbl[i]? = some (.fieldLink (P m).1.1.cls idx (q.2.1 b).1 (q.2.1 b).2.1 (q.2.1 b).2.2.1)) (hd : decode (P m).1.2.1 pc = .ok (.putfield idx, 3))
    (hb : fs[b]? = some none) (hf : (q.2.1 b).2.2.2 = false) (ht : mty ci b = .int ∨ (mty ci b = .boolean ∧ bit? x = true)) (kk : WG P m p l e R s mid args below meth c D aC ad0 n0 M0 A Q (pc + 3) u L r (σ.1, mset σ.2 k b x)) : WG P m p l e R s mid args below meth c D aC ad0 n0 M0 A Q pc u L (vi x :: vr k :: r) σ := by
  intro ad H locs ls st g0 g1 hW g2 hS hL hT
  obtain ⟨_, _, st', rfl, h1, h2, h3, h4, h5⟩ := sR_2 hT
  cases sv_i h1; cases sv_r h3
  have hk5 := hW.2.2.1.ge hk (Nat.zero_le 4)
  have hok := hW.2.2.1.2.2 k _ hk5 hk
  have hok' := hok
  obtain ⟨⟨q', hq', hlen⟩, hrefs⟩ := hok
  cases Option.some.inj (hq.symm.trans hq')
  have hbl : b < fs.length := (List.getElem?_eq_some_iff.mp hb).1
  obtain ⟨t1, t2⟩ := mcl_ty ci q hq
  have hnf : narrow (mty ci b) (.int (Int32.ofInt x)) = .int (Int32.ofInt x) ∧ fits (mty ci b) (.int (Int32.ofInt x)) = true := by
    rcases ht with ht | ⟨ht, hx⟩
    · rw [ht]; exact ⟨rfl, rfl⟩
    · rw [ht]
      unfold bit? at hx
      rw [Bool.or_eq_true, decide_eq_true_eq, decide_eq_true_eq] at hx
      rcases hx with rfl | rfl <;> exact ⟨rfl, rfl⟩
  refine va_put (D := D) (T := q.2.1) (N := q.2.2) (C := q.1) (ref := (q.2.1 b).1) F.exec F.code F.ts (mcl_ws ci q hq) (mty ci) t1 t2 F.own F.kn.1 hW.1 hW.2.1 hS (k - 5) (mws_get hk hk5) hq b (by omega) (gd_at F hl rfl) (fun _ h9 => h9) hf (t1 b (by omega)) hnf.1 hnf.2 (by simp; exact hbl) hd (fun H1 locs1 hP1 hD1 hS1 => ?_)
  have hw' : mWd D aC ad (σ.1, mset σ.2 k b x) A H1 := by
    refine mWd.set (σ' := (σ.1, mset σ.2 k b x)) hW.2.2.1 hk (Nat.zero_le 4) hk ?_ rfl (fun _ _ => rfl) (fun j hj => mset_ne hj) hok' (Nat.zero_le 4) (mset_inR (fun _ => h2) hW.2.2.2) hP1 hD1
    show (Sum.inr (ci, _) : va_E) = Sum.inr (ci, _)
    congr 2
    refine range_set hbl ?_ (fun j hj => ?_)
    · rw [hb]
      show Value.int (Int32.ofInt (mset σ.2 k b x k b)) = _
      unfold mset
      rw [if_pos ⟨rfl, rfl⟩]
    · have e : mset σ.2 k b x k j = σ.2 k j := by unfold mset; rw [if_neg (fun z => hj z.2)]
      show (match fs[j]? with
        | some (some t) => vv ad (.inr (.inl t))
        | _ => Value.int (Int32.ofInt (mset σ.2 k b x k j))) = _
      rw [e]
      rfl
  exact kk ad H1 locs1 ls _ g0 g1 hw' (fun j hj => (mset_ne (by omega)).trans (g2 j hj)) hS1 hL h5
/-- a reference into a field, in a constructor -/
theorem s_putr (F : Fx P m d sc p l e R s mid args below meth c D aC ad0 n0 M0 A) {k ci b i idx : Nat} {t : Option Nat} {t0 : Option Nat} {fs : List (Option (Option Nat))} {q : vw_C} {r : List mV} (hk : σ.1[k]? = some (0, ci, fs)) (hq : mcl[ci]? = some q) (hl : lw_tbl[i]? = some (.fieldLink (P m).1.1.cls idx (q.2.1 b).1 (q.2.1 b).2.1 (q.2.1 b).2.2.1)) (hd : decode (P m).1.2.1 pc = .ok (.putfield idx, 3))
    (hb : fs[b]? = some (some t0)) (hf : (q.2.1 b).2.2.2 = true) (hin : (P m).1.1.name = "<init>") (hdc : (q.2.1 b).1 = (P m).1.1.cls) (ht : (∃ n, mty ci b = .object n) ∨ ∃ z, mty ci b = .array z) (kk : WG P m p l e R s mid args below meth c D aC ad0 n0 M0 A Q (pc + 3) u L r (σ.1.set k (0, ci, fs.set b (some t)), σ.2)) : WG P m p l e R s mid args below meth c D aC ad0 n0 M0 A Q pc u L (.inr (.inl t) :: vr k :: r) σ := by
  intro ad H locs ls st g0 g1 hW g2 hS hL hT
  obtain ⟨_, _, st', rfl, h1, h2, h3, h4, h5⟩ := sR_2 hT
  cases sv_r h1; cases sv_r h3
  have hk5 := hW.2.2.1.ge hk (Nat.zero_le 4)
  have hok := hW.2.2.1.2.2 k _ hk5 hk
  have hkl := (List.getElem?_eq_some_iff.mp hk).1
  obtain ⟨⟨q', hq', hlen⟩, hrefs⟩ := hok
  cases Option.some.inj (hq.symm.trans hq')
  have hbl : b < fs.length := (List.getElem?_eq_some_iff.mp hb).1
  obtain ⟨t1, t2⟩ := mcl_ty ci q hq
  have hnf : narrow (mty ci b) (vv ad (.inr (.inl t))) = vv ad (.inr (.inl t)) ∧ fits (mty ci b) (vv ad (.inr (.inl t))) = true := by
    rcases ht with ⟨n, ht⟩ | ⟨z, ht⟩ <;> rw [ht] <;> cases t <;> exact ⟨rfl, rfl⟩
  refine va_putF (D := D) (T := q.2.1) (N := q.2.2) (C := q.1) (ref := (q.2.1 b).1) F.exec F.code F.ts (mcl_ws ci q hq) (mty ci) t1 t2 F.own F.kn.1 hW.1 hW.2.1 hS (k - 5) (mws_get hk hk5) hq b (by omega) (gd_at F hl rfl) (fun _ h9 => h9) hf (F.nm.trans hin) hdc (t1 b (by omega)) hnf.1 hnf.2 (by simp; exact hbl) hd (fun H1 locs1 hP1 hD1 hS1 => ?_)
  have hset : (σ.1.set k (0, ci, fs.set b (some t)))[k]? = some (0, ci, fs.set b (some t)) := List.getElem?_set_self hkl
  have hlen' : (σ.1.set k (0, ci, fs.set b (some t))).length = σ.1.length := List.length_set
  have hw' : mWd D aC ad (σ.1.set k (0, ci, fs.set b (some t)), σ.2) A H1 := by
    refine mWd.set (σ' := (σ.1.set k (0, ci, fs.set b (some t)), σ.2)) hW.2.2.1 hk (Nat.zero_le 4) hset ?_ hlen' (fun j hj => List.getElem?_set_ne (Ne.symm hj)) (fun _ _ => rfl) ⟨⟨q, hq, by rw [List.length_set]; exact hlen⟩, fun z hz => ?_⟩ (Nat.zero_le 4) (fun a j hj => hW.2.2.2 a j (fun sh hsh => ?_)) hP1 hD1
    · show (Sum.inr (ci, _) : va_E) = Sum.inr (ci, _)
      congr 2
      show _ = (List.range (fs.set b (some t)).length).map _
      rw [List.length_set]
      refine range_set hbl ?_ (fun j hj => ?_)
      · rw [List.getElem?_set_self hbl]
      · rw [List.getElem?_set_ne (Ne.symm hj)]
    · obtain ⟨j, hj⟩ := List.getElem?_of_mem hz
      by_cases hjb : j = b
      · subst hjb
        rw [List.getElem?_set_self hbl] at hj
        cases hj
        exact h2
      · rw [List.getElem?_set_ne (Ne.symm hjb)] at hj
        exact hrefs z (List.mem_of_getElem? hj)
    · by_cases hak : a = k
      · subst hak
        rw [hk] at hsh
        cases hsh
        exact (show (0:Nat) ≠ 4 by decide)
      · exact hj sh (by show (σ.1.set k _)[a]? = _; rw [List.getElem?_set_ne (Ne.symm hak)]; exact hsh)
  refine kk ad H1 locs1 ls _ (by show n0 ≤ (σ.1.set k _).length; rw [hlen']; exact g0) g1 hw' g2 hS1 ?_ ?_
  · show lR ad (σ.1.set k _).length L ls _
    rw [hlen']; exact hL
  · show sR ad (σ.1.set k _).length r _
    rw [hlen']; exact h5
/-- reads of arrays -/
theorem s_iald (F : Fx P m d sc p l e R s mid args below meth c D aC ad0 n0 M0 A) {k : Nat} {x : Int} {r : List mV} (hx : 0 ≤ x ∧ x < alI σ k) (hd : decode (P m).1.2.1 pc = .ok (.iaload, 1)) (kk : WG P m p l e R s mid args below meth c D aC ad0 n0 M0 A Q (pc + 1) u L (vi (σ.2 k x.toNat) :: r) σ) : WG P m p l e R s mid args below meth c D aC ad0 n0 M0 A Q pc u L (vi x :: vr k :: r) σ := by
  intro ad H locs ls st g0 g1 hW g2 hS hL hT
  obtain ⟨_, _, st', rfl, h1, h2, h3, h4, h5⟩ := sR_2 hT
  cases sv_i h1; cases sv_r h3
  obtain ⟨hx0, hx1⟩ := hx
  have hxR := hW.2.2.2
  have fin := fun h => kk ad H locs ls (.int (Int32.ofInt (σ.2 k x.toNat)) :: st') g0 g1 hW g2 hS hL ⟨⟨Or.inl rfl, h⟩, h5⟩
  unfold alI at hx1
  split at hx1
  · rename_i n fs hk
    have hk5 := hW.2.2.1.ge hk (show (1:Nat) ≤ 4 by decide)
    have hr := hxR k x.toNat (fun sh hsh => by rw [hk] at hsh; cases hsh; exact (show (1:Nat) ≠ 4 by decide))
    have h9 := va_iald (D := D) (cl := mcl) (Q := Q) (rest := st') (c := c) F.exec F.code F.kn.1 hW.1 (k - 5) 0 (mws_get hk hk5) rfl (ofI_in h2 hx0 hx1) hd (locs := locs) (ls := ls) (cells := u) (slots := 2100 * u) (args := args) (p := p) (l := l) (e := e) (R := R) (m := mid) (below := below) (meth := meth)
    refine h9 ?_
    show W _ _ _ _ _ _ _ _ _ _ _ _ _ _ _ (F0 _ _ _ (.int (Int32.ofInt (σ.2 k (Int32.ofInt x).toNatClampNeg)) :: _))
    rw [ofI_clamp h2]
    exact fin hr
  · rename_i n fs hk
    obtain ⟨hk3, rfl⟩ := hW.2.2.1.ro hk
    have hr := hxR k x.toNat (fun sh hsh => by rw [hk] at hsh; cases hsh; exact (show (5:Nat) ≠ 4 by decide))
    have hT9 := (F.st0.2.2.2.1 k hk3).1
    rw [← g1 k (by have := F.n5; omega)] at hT9
    refine va_ti (N := 6) F.exec F.code hT9 hS (ofI_in h2 hx0 hx1) (v := .int (Int32.ofInt (σ.2 k x.toNat))) ?_ hd (fin hr)
    rw [ofI_clamp h2, g2 k (by omega)]
  · exact absurd hx1 (by omega)
theorem alK_some {kd k : Nat} {x : Int} (h0 : 0 ≤ x) (h : x < alK σ kd k) : ∃ n fs, σ.1[k]? = some (kd, n, fs) ∧ x < (n : Int) := by
  unfold alK at h
  split at h
  · rename_i q n fs hk
    by_cases hq : q = kd
    · rw [if_pos hq] at h
      subst hq
      exact ⟨n, fs, hk, h⟩
    · rw [if_neg hq] at h
      omega
  · omega
theorem s_cald (F : Fx P m d sc p l e R s mid args below meth c D aC ad0 n0 M0 A) {k : Nat} {x : Int} {r : List mV} (hx : 0 ≤ x ∧ x < alK σ 2 k) (hd : decode (P m).1.2.1 pc = .ok (.caload, 1)) (kk : WG P m p l e R s mid args below meth c D aC ad0 n0 M0 A Q (pc + 1) u L (vi (σ.2 k x.toNat) :: r) σ) : WG P m p l e R s mid args below meth c D aC ad0 n0 M0 A Q pc u L (vi x :: vr k :: r) σ := by
  intro ad H locs ls st g0 g1 hW g2 hS hL hT
  obtain ⟨_, _, st', rfl, h1, h2, h3, h4, h5⟩ := sR_2 hT
  cases sv_i h1; cases sv_r h3
  obtain ⟨n, fs, hk, hn⟩ := alK_some (kd := 2) hx.1 hx.2
  have hk5 := hW.2.2.1.ge hk (show (2:Nat) ≤ 4 by decide)
  refine va_cald (D := D) (cl := mcl) F.exec F.code F.kn.1 hW.1 (k - 5) 1 (mws_get hk hk5) rfl (ofI_in h2 hx.1 hn) hd ?_
  show W _ _ _ _ _ _ _ _ _ _ _ _ _ _ _ (F0 _ _ _ (.int (Int32.ofInt (σ.2 k (Int32.ofInt x).toNatClampNeg)) :: _))
  rw [ofI_clamp h2]
  exact kk ad H locs ls _ g0 g1 hW g2 hS hL ⟨⟨Or.inl rfl, hW.2.2.2 k x.toNat (fun sh hsh => by rw [hk] at hsh; cases hsh; exact (show (2:Nat) ≠ 4 by decide))⟩, h5⟩
theorem s_lald (F : Fx P m d sc p l e R s mid args below meth c D aC ad0 n0 M0 A) {k : Nat} {x : Int} {r : List mV} (hx : 0 ≤ x ∧ x < alK σ 3 k) (hd : decode (P m).1.2.1 pc = .ok (.laload, 1)) (kk : WG P m p l e R s mid args below meth c D aC ad0 n0 M0 A Q (pc + 1) u L (vl (σ.2 k x.toNat) :: r) σ) : WG P m p l e R s mid args below meth c D aC ad0 n0 M0 A Q pc u L (vi x :: vr k :: r) σ := by
  intro ad H locs ls st g0 g1 hW g2 hS hL hT
  obtain ⟨_, _, st', rfl, h1, h2, h3, h4, h5⟩ := sR_2 hT
  cases sv_i h1; cases sv_r h3
  obtain ⟨n, fs, hk, hn⟩ := alK_some (kd := 3) hx.1 hx.2
  have hk5 := hW.2.2.1.ge hk (show (3:Nat) ≤ 4 by decide)
  refine va_lald (D := D) (cl := mcl) F.exec F.code F.kn.1 hW.1 (k - 5) 2 (mws_get hk hk5) rfl (ofI_in h2 hx.1 hn) hd ?_
  show W _ _ _ _ _ _ _ _ _ _ _ _ _ _ _ (F0 _ _ _ (.long (Int64.ofInt (σ.2 k (Int32.ofInt x).toNatClampNeg)) :: _))
  rw [ofI_clamp h2]
  exact kk ad H locs ls _ g0 g1 hW g2 hS hL ⟨⟨Or.inl rfl, hW.2.2.2 k x.toNat (fun sh hsh => by rw [hk] at hsh; cases hsh; exact (show (3:Nat) ≠ 4 by decide))⟩, h5⟩
theorem s_dald (F : Fx P m d sc p l e R s mid args below meth c D aC ad0 n0 M0 A) {k : Nat} {x : Int} {r : List mV} (hx : 0 ≤ x ∧ x < alK σ 4 k) (hd : decode (P m).1.2.1 pc = .ok (.daload, 1)) (kk : WG P m p l e R s mid args below meth c D aC ad0 n0 M0 A Q (pc + 1) u L (vd (UInt64.ofNat (σ.2 k x.toNat).toNat) :: r) σ) : WG P m p l e R s mid args below meth c D aC ad0 n0 M0 A Q pc u L (vi x :: vr k :: r) σ := by
  intro ad H locs ls st g0 g1 hW g2 hS hL hT
  obtain ⟨_, _, st', rfl, h1, h2, h3, h4, h5⟩ := sR_2 hT
  cases sv_i h1; cases sv_r h3
  obtain ⟨n, fs, hk, hn⟩ := alK_some (kd := 4) hx.1 hx.2
  have hk5 := hW.2.2.1.ge hk (show (4:Nat) ≤ 4 by decide)
  refine va_dald (D := D) (cl := mcl) F.exec F.code F.kn.1 hW.1 (k - 5) 3 (mws_get hk hk5) rfl (ofI_in h2 hx.1 hn) hd ?_
  show W _ _ _ _ _ _ _ _ _ _ _ _ _ _ _ (F0 _ _ _ (.double (UInt64.ofNat (σ.2 k (Int32.ofInt x).toNatClampNeg).toNat) :: _))
  rw [ofI_clamp h2]
  exact kk ad H locs ls _ g0 g1 hW g2 hS hL ⟨⟨Or.inl rfl, trivial⟩, h5⟩
theorem s_alen (F : Fx P m d sc p l e R s mid args below meth c D aC ad0 n0 M0 A) {k : Nat} {r : List mV} (hx : 0 < alA σ k) (hd : decode (P m).1.2.1 pc = .ok (.arraylength, 1)) (kk : WG P m p l e R s mid args below meth c D aC ad0 n0 M0 A Q (pc + 1) u L (vi (alA σ k) :: r) σ) : WG P m p l e R s mid args below meth c D aC ad0 n0 M0 A Q pc u L (vr k :: r) σ := by
  intro ad H locs ls st g0 g1 hW g2 hS hL hT
  obtain ⟨_, st', rfl, h1, h2, h5⟩ := sR_cons hT
  cases sv_r h1
  have fin : ∀ n : Nat, alA σ k = n → n ≤ 2100 → W p l e R s mid args below meth c H locs u (2100 * u) Q (F0 mid (pc + 1) ls (.int (Int32.ofNat n) :: st')) := by
    intro n hn hle
    refine kk ad H locs ls _ g0 g1 hW g2 hS hL ⟨⟨Or.inl ?_, ?_⟩, h5⟩
    · rw [hn]
      show Value.int _ = Value.int _
      rw [← Int32.ofInt_eq_ofNat]
    · rw [hn]; show inR n; unfold inR; omega
  unfold alA at hx
  split at hx
  · omega
  · omega
  · rename_i q n fs hn0 hn6 hk
    have hA : alA σ k = n := by
      unfold alA
      rw [hk]
      split
      · rename_i h; cases h; exact (hn0 rfl).elim
      · rename_i h; cases h; exact (hn6 rfl).elim
      · rename_i h; cases h; rfl
      · rename_i h; cases h
    by_cases hq : q ≤ 4
    · have hk5 := hW.2.2.1.ge hk hq
      have hok := hW.2.2.1.2.2 k _ hk5 hk
      have hle : n ≤ 2100 := by
        rcases q with _ | q
        · exact (hn0 rfl).elim
        · exact hok.2
      have key : ∀ (t0 : Nat) (cA : ClassId) (x : vp_A) (ty : FieldType), mE aC ad (q, n, fs) (σ.2 k) = .inl (cA, x) → x.1 = n → (mTy aC)[t0]? = some (cA, ty) → W p l e R s mid args below meth c H locs u (2100 * u) Q (F0 mid pc ls (Value.ref (ad k) :: st')) := by
        intro t0 cA x ty e1 e2 e3
        have g := mws_get (aC := aC) (ad := ad) hk hk5
        rw [e1] at g
        exact va_alen (D := D) (cl := mcl) F.exec F.code F.kn.1 hW.1 (k - 5) t0 g e3 (by rw [e2]) hd (fin n hA hle)
      rcases (show q = 0 ∨ q = 1 ∨ q = 2 ∨ q = 3 ∨ q = 4 by omega) with rfl | rfl | rfl | rfl | rfl
      · exact (hn0 rfl).elim
      · exact key 0 _ _ _ rfl rfl rfl
      · exact key 1 _ _ _ rfl rfl rfl
      · exact key 2 _ _ _ rfl rfl rfl
      · exact key 3 _ _ _ rfl rfl rfl
    · by_cases hq5 : q = 5
      · subst hq5
        obtain ⟨hk3, rfl⟩ := hW.2.2.1.ro hk
        have hT9 := (F.st0.2.2.2.1 k hk3).1
        rw [← g1 k (by have := F.n5; omega)] at hT9
        exact va_tlen F.exec F.code hT9 hS rfl hd (fin 6 hA (by decide))
      · exfalso
        rcases Nat.lt_or_ge k 5 with h5' | h5'
        · have e : (σ.1.take 5)[k]? = σ.1[k]? := by rw [List.getElem?_take, if_pos h5']
          rw [hW.2.2.1.2.1, hk] at e
          rcases (show k = 0 ∨ k = 1 ∨ k = 2 ∨ k = 3 ∨ k = 4 by omega) with rfl | rfl | rfl | rfl | rfl <;> cases e
          · exact hq5 rfl
          · exact hq5 rfl
          · exact hq5 rfl
          · exact hn6 rfl
          · exact absurd hx (by decide)
        · have hok := hW.2.2.1.2.2 k _ h5' hk
          rcases q with _ | q
          · exact hq (Nat.zero_le 4)
          · exact hq hok.1
  · omega
end HP
