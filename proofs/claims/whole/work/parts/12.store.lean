section ST
variable {P : mP} {m d : Nat} {sc : Bool} {p : Program} {l : Launch} {e : Env} {R : Room} {s : State} {mid : MethodId} {args : Array Value} {below : List Frame} {meth : Method} {c : Code} {D : va_G} {aC : FieldType → ClassId} {ad0 : Nat → Nat} {n0 : Nat} {M0 : mM} {A : Nat → Prop} {Q : State → Prop}
variable {pc u : Nat} {L S : List mV} {σ : mS}
theorem upd_m (M : mM) (k : Nat) {x v : Int} (hx : inR x) : upd (fun j => Int32.ofInt (M k j)) (Int32.ofInt x).toNatClampNeg (Int32.ofInt v) = fun j => Int32.ofInt (mset M k x.toNat v k j) := by
  funext j
  rw [ofI_clamp hx]
  show (if j = x.toNat then Int32.ofInt v else Int32.ofInt (M k j)) = Int32.ofInt (mset M k x.toNat v k j)
  unfold mset
  by_cases h : j = x.toNat
  · rw [if_pos h, if_pos ⟨rfl, h⟩]
  · rw [if_neg h, if_neg (fun z => h z.2)]
theorem set_one {ad : Nat → Nat} {k n kd : Nat} {fs : List (Option (Option Nat))} {M' : mM} {E : va_E} {H1 : Heap} {f' : Nat → Int} (hW : mWf σ) (h : σ.1[k]? = some (kd, n, fs)) (h1 : 1 ≤ kd) (h4 : kd ≤ 4) (hE : E = mE aC ad (kd, n, fs) (M' k)) (hM : ∀ j, j ≠ k → M' j = σ.2 j) (hr : mRg (σ.1, M'))
    (hP : va_P D mcl ((mws aC ad σ).set (k - 5) (ad k, E)) H1) (hD : va_D A ((mws aC ad σ).set (k - 5) (ad k, E))) : mWd D aC ad (σ.1, M') A H1 :=
  mWd.set (σ' := (σ.1, M')) hW h h4 h hE rfl (fun _ _ => rfl) hM (hW.2.2 k _ (hW.ge h h4) h) h4 hr hP hD
theorem s_iast (F : Fx P m d sc p l e R s mid args below meth c D aC ad0 n0 M0 A) {k : Nat} {x v : Int} {r : List mV} (hx : 0 ≤ x ∧ x < alK σ 1 k) (hd : decode (P m).1.2.1 pc = .ok (.iastore, 1)) (kk : WG P m p l e R s mid args below meth c D aC ad0 n0 M0 A Q (pc + 1) u L r (σ.1, mset σ.2 k x.toNat v)) : WG P m p l e R s mid args below meth c D aC ad0 n0 M0 A Q pc u L (vi v :: vi x :: vr k :: r) σ := by
  intro ad H locs ls st g0 g1 hW g2 hS hL hT
  obtain ⟨_, _, st1, rfl, h1, h2, h3, h4, h5⟩ := sR_2 hT
  obtain ⟨_, st', rfl, h6, h7, h8⟩ := sR_cons h5
  cases sv_i h1; cases sv_i h3; cases sv_r h6
  obtain ⟨n, fs, hk, hn⟩ := alK_some (kd := 1) hx.1 hx.2
  have hk5 := hW.2.2.1.ge hk (show (1:Nat) ≤ 4 by decide)
  refine va_iast (D := D) (cl := mcl) F.exec F.code F.kn.1 hW.1 hW.2.1 hS (k - 5) 0 (mws_get hk hk5) rfl (ofI_in h4 hx.1 hn) hd (fun H1 locs1 hP1 hD1 hS1 => ?_)
  have e := upd_m σ.2 k (v := v) h4
  rw [e] at hP1 hD1
  have hw' : mWd D aC ad (σ.1, mset σ.2 k x.toNat v) A H1 := set_one (f' := fun _ => 0) hW.2.2.1 hk (by decide) (by decide) rfl (fun j hj => mset_ne hj) (mset_inR (fun _ => h2) hW.2.2.2) hP1 hD1
  exact kk ad H1 locs1 ls _ g0 g1 hw' (fun j hj => (mset_ne (by omega)).trans (g2 j hj)) hS1 hL h8
theorem nar_char {v : Int} (h0 : 0 ≤ v) (h1 : v < 65536) : vp_nar .char (Int32.ofInt v) = Int32.ofInt v := by
  rw [vp_nar_char]
  have hR : inR v := by unfold inR; omega
  have e := ofI_i2c hR
  rw [Int.emod_eq_of_lt h0 h1] at e
  exact e
theorem s_cast (F : Fx P m d sc p l e R s mid args below meth c D aC ad0 n0 M0 A) {k : Nat} {x v : Int} {r : List mV} (hx : 0 ≤ x ∧ x < alK σ 2 k) (hv : 0 ≤ v ∧ v < 65536) (hd : decode (P m).1.2.1 pc = .ok (.castore, 1)) (kk : WG P m p l e R s mid args below meth c D aC ad0 n0 M0 A Q (pc + 1) u L r (σ.1, mset σ.2 k x.toNat v)) : WG P m p l e R s mid args below meth c D aC ad0 n0 M0 A Q pc u L (vi v :: vi x :: vr k :: r) σ := by
  intro ad H locs ls st g0 g1 hW g2 hS hL hT
  obtain ⟨_, _, st1, rfl, h1, h2, h3, h4, h5⟩ := sR_2 hT
  obtain ⟨_, st', rfl, h6, h7, h8⟩ := sR_cons h5
  cases sv_i h1; cases sv_i h3; cases sv_r h6
  obtain ⟨n, fs, hk, hn⟩ := alK_some (kd := 2) hx.1 hx.2
  have hk5 := hW.2.2.1.ge hk (show (2:Nat) ≤ 4 by decide)
  refine va_cast (D := D) (cl := mcl) F.exec F.code F.kn.1 hW.1 hW.2.1 hS (k - 5) 1 (mws_get hk hk5) rfl (ofI_in h4 hx.1 hn) hd (fun H1 locs1 hP1 hD1 hS1 => ?_)
  rw [nar_char hv.1 hv.2] at hP1 hD1
  have e := upd_m σ.2 k (v := v) h4
  rw [e] at hP1 hD1
  have hw' : mWd D aC ad (σ.1, mset σ.2 k x.toNat v) A H1 := set_one (f' := fun _ => 0) hW.2.2.1 hk (by decide) (by decide) rfl (fun j hj => mset_ne hj) (mset_inR (fun _ => h2) hW.2.2.2) hP1 hD1
  exact kk ad H1 locs1 ls _ g0 g1 hw' (fun j hj => (mset_ne (by omega)).trans (g2 j hj)) hS1 hL h8
theorem s_last (F : Fx P m d sc p l e R s mid args below meth c D aC ad0 n0 M0 A) {k : Nat} {x v : Int} {r : List mV} (hx : 0 ≤ x ∧ x < alK σ 3 k) (hd : decode (P m).1.2.1 pc = .ok (.lastore, 1)) (kk : WG P m p l e R s mid args below meth c D aC ad0 n0 M0 A Q (pc + 1) u L r (σ.1, mset σ.2 k x.toNat v)) : WG P m p l e R s mid args below meth c D aC ad0 n0 M0 A Q pc u L (vl v :: vi x :: vr k :: r) σ := by
  intro ad H locs ls st g0 g1 hW g2 hS hL hT
  obtain ⟨_, _, st1, rfl, h1, h2, h3, h4, h5⟩ := sR_2 hT
  obtain ⟨_, st', rfl, h6, h7, h8⟩ := sR_cons h5
  cases sv_l h1; cases sv_i h3; cases sv_r h6
  obtain ⟨n, fs, hk, hn⟩ := alK_some (kd := 3) hx.1 hx.2
  have hk5 := hW.2.2.1.ge hk (show (3:Nat) ≤ 4 by decide)
  refine va_last (D := D) (cl := mcl) F.exec F.code F.kn.1 hW.1 hW.2.1 hS (k - 5) 2 (mws_get hk hk5) rfl (ofI_in h4 hx.1 hn) hd (fun H1 locs1 hP1 hD1 hS1 => ?_)
  have e : vp_updL (fun j => Int64.ofInt (σ.2 k j)) (Int32.ofInt x).toNatClampNeg (Int64.ofInt v) = fun j => Int64.ofInt (mset σ.2 k x.toNat v k j) := by
    funext j
    rw [ofI_clamp h4]
    show (if j = x.toNat then Int64.ofInt v else Int64.ofInt (σ.2 k j)) = Int64.ofInt (mset σ.2 k x.toNat v k j)
    unfold mset
    by_cases h : j = x.toNat
    · rw [if_pos h, if_pos ⟨rfl, h⟩]
    · rw [if_neg h, if_neg (fun z => h z.2)]
  rw [e] at hP1 hD1
  have hw' : mWd D aC ad (σ.1, mset σ.2 k x.toNat v) A H1 := set_one (f' := fun _ => 0) hW.2.2.1 hk (by decide) (by decide) rfl (fun j hj => mset_ne hj) (mset_inR (fun _ => h2) hW.2.2.2) hP1 hD1
  exact kk ad H1 locs1 ls _ g0 g1 hw' (fun j hj => (mset_ne (by omega)).trans (g2 j hj)) hS1 hL h8
theorem s_dast (F : Fx P m d sc p l e R s mid args below meth c D aC ad0 n0 M0 A) {k : Nat} {x : Int} {v : UInt64} {r : List mV} (hx : 0 ≤ x ∧ x < alK σ 4 k) (hd : decode (P m).1.2.1 pc = .ok (.dastore, 1)) (kk : WG P m p l e R s mid args below meth c D aC ad0 n0 M0 A Q (pc + 1) u L r (σ.1, mset σ.2 k x.toNat (v.toNat : Int))) : WG P m p l e R s mid args below meth c D aC ad0 n0 M0 A Q pc u L (vd v :: vi x :: vr k :: r) σ := by
  intro ad H locs ls st g0 g1 hW g2 hS hL hT
  obtain ⟨_, _, st1, rfl, h1, h2, h3, h4, h5⟩ := sR_2 hT
  obtain ⟨_, st', rfl, h6, h7, h8⟩ := sR_cons h5
  cases sv_d h1; cases sv_i h3; cases sv_r h6
  obtain ⟨n, fs, hk, hn⟩ := alK_some (kd := 4) hx.1 hx.2
  have hk5 := hW.2.2.1.ge hk (show (4:Nat) ≤ 4 by decide)
  refine va_dast (D := D) (cl := mcl) F.exec F.code F.kn.1 hW.1 hW.2.1 hS (k - 5) 3 (mws_get hk hk5) rfl (ofI_in h4 hx.1 hn) hd (fun H1 locs1 hP1 hD1 hS1 => ?_)
  have e : vf_upd (fun j => UInt64.ofNat (σ.2 k j).toNat) (Int32.ofInt x).toNatClampNeg v = fun j => UInt64.ofNat (mset σ.2 k x.toNat (v.toNat : Int) k j).toNat := by
    funext j
    rw [ofI_clamp h4]
    show (if j = x.toNat then v else UInt64.ofNat (σ.2 k j).toNat) = UInt64.ofNat (mset σ.2 k x.toNat (v.toNat : Int) k j).toNat
    unfold mset
    by_cases h : j = x.toNat
    · rw [if_pos h, if_pos ⟨rfl, h⟩]
      show v = UInt64.ofNat v.toNat
      rw [UInt64.ofNat_toNat]
    · rw [if_neg h, if_neg (fun z => h z.2)]
  rw [e] at hP1 hD1
  have hw' : mWd D aC ad (σ.1, mset σ.2 k x.toNat (v.toNat : Int)) A H1 := set_one (f' := fun _ => 0) hW.2.2.1 hk (by decide) (by decide) rfl (fun j hj => mset_ne hj) (mset_inR (fun h => absurd rfl (h _ hk)) hW.2.2.2) hP1 hD1
  exact kk ad H1 locs1 ls _ g0 g1 hw' (fun j hj => (mset_ne (by omega)).trans (g2 j hj)) hS1 hL h8
/-- the script -/
theorem s_sld (F : Fx P m d sc p l e R s mid args below meth c D aC ad0 n0 M0 A) (hsc : sc = true) {x : Int} {r : List mV} (hx : 0 ≤ x ∧ x < σ.2 4 0) (hd : decode (P m).1.2.1 pc = .ok (.iaload, 1)) (kk : WG P m p l e R s mid args below meth c D aC ad0 n0 M0 A Q (pc + 1) u L (vi (σ.2 3 x.toNat) :: r) σ) : WG P m p l e R s mid args below meth c D aC ad0 n0 M0 A Q pc u L (vi x :: vr 3 :: r) σ := by
  intro ad H locs ls st g0 g1 hW g2 hS hL hT
  obtain ⟨_, _, st', rfl, h1, h2, h3, h4, h5⟩ := sR_2 hT
  cases sv_i h1; cases sv_r h3
  obtain ⟨Ln, xs, e1, e2, e3, e4, e5, e6⟩ := F.scr hsc
  have ha : ad 3 = ad0 3 := g1 3 (by have := F.n5; omega)
  have hn : x < (Ln : Int) := by rw [← e4, ← g2 4 (by decide)]; exact hx.2
  have hv := e6 x.toNat (by omega)
  have hv2 : σ.2 3 x.toNat = (xs x.toNat).toInt := by rw [g2 3 (by decide)]; exact hv
  have key := va_sld F.exec F.code e1 e2 e3 hS (ofI_in h2 hx.1 hn) hd (Q := Q) (p := p) (l := l) (e := e) (R := R) (m := mid) (below := below) (meth := meth) (cells := u) (slots := 2100 * u) (args := args) (rest := st') (ls := ls)
  show W _ _ _ _ _ _ _ _ _ _ _ _ _ _ _ (F0 _ _ _ (_ :: Value.ref (ad 3) :: _))
  rw [ha]
  refine key ?_
  rw [ofI_clamp h2]
  refine kk ad H locs ls _ g0 g1 hW g2 hS hL ⟨⟨Or.inl ?_, ?_⟩, h5⟩
  · show Value.int _ = Value.int _
    rw [hv2, ofI_of]
  · rw [hv2]; exact toI_inR _
theorem s_slen (F : Fx P m d sc p l e R s mid args below meth c D aC ad0 n0 M0 A) (hsc : sc = true) {r : List mV} (hd : decode (P m).1.2.1 pc = .ok (.arraylength, 1)) (kk : WG P m p l e R s mid args below meth c D aC ad0 n0 M0 A Q (pc + 1) u L (vi (σ.2 4 0) :: r) σ) : WG P m p l e R s mid args below meth c D aC ad0 n0 M0 A Q pc u L (vr 3 :: r) σ := by
  intro ad H locs ls st g0 g1 hW g2 hS hL hT
  obtain ⟨_, st', rfl, h1, h2, h5⟩ := sR_cons hT
  cases sv_r h1
  obtain ⟨Ln, xs, e1, e2, e3, e4, e5, e6⟩ := F.scr hsc
  have ha : ad 3 = ad0 3 := g1 3 (by have := F.n5; omega)
  have hv : σ.2 4 0 = Ln := by rw [g2 4 (by decide)]; exact e4
  show W _ _ _ _ _ _ _ _ _ _ _ _ _ _ _ (F0 _ _ _ (Value.ref (ad 3) :: _))
  rw [ha]
  refine va_slen F.exec F.code e1 e2 e3 hS hd ?_
  refine kk ad H locs ls _ g0 g1 hW g2 hS hL ⟨⟨Or.inl ?_, ?_⟩, h5⟩
  · show Value.int _ = Value.int _
    rw [hv, ← Int32.ofInt_eq_ofNat]
  · rw [hv]; show inR (Ln : Int); unfold inR; omega
/-- statics -/
def stN (a : Nat) : String := match a with
  | 0 => "FIRST_VALUES"
  | 1 => "LEAST_VALUES"
  | _ => "GREATEST_VALUES"
theorem st_Z (F : Fx P m d sc p l e R s mid args below meth c D aC ad0 n0 M0 A) {a : Nat} (ha : a < 3) : va_Z "SpatialPoints" (stN a) "[I" (.ref (ad0 a)) A s s.heap := by
  rcases (show a = 0 ∨ a = 1 ∨ a = 2 by omega) with rfl | rfl | rfl
  · exact F.st0.1
  · exact F.st0.2.1
  · exact F.st0.2.2.1
theorem s_gets (F : Fx P m d sc p l e R s mid args below meth c D aC ad0 n0 M0 A) {a i idx : Nat} (ha : a < 3) (hl : lw_tbl[i]? = some (.fieldLink (P m).1.1.cls idx "SpatialPoints" (stN a) "[I")) (hd : decode (P m).1.2.1 pc = .ok (.getstatic idx, 3)) (kk : WG P m p l e R s mid args below meth c D aC ad0 n0 M0 A Q (pc + 3) u L (vr a :: S) σ) : WG P m p l e R s mid args below meth c D aC ad0 n0 M0 A Q pc u L S σ := by
  intro ad H locs ls st g0 g1 hW g2 hS hL hT
  have hn := F.n5
  refine va_gets F.exec F.code (st_Z F ha) hS F.own (gd_at F hl rfl) (fun _ h => h) hd ?_
  refine kk ad H locs ls _ g0 g1 hW g2 hS hL ⟨⟨Or.inl ?_, (by show a < σ.1.length; omega)⟩, hT⟩
  show Value.ref _ = Value.ref _
  rw [g1 a (by omega)]
theorem ng_at (F : Fx P m d sc p l e R s mid args below meth c D aC ad0 n0 M0 A) {w : Cond} {i : Nat} (h : lw_tbl[i]? = some w) (hg : mNg w = true) : va_Nw w s := F.kn.2.1 w (ng_mem h hg)
theorem s_getsN (F : Fx P m d sc p l e R s mid args below meth c D aC ad0 n0 M0 A) {a i idx : Nat} {host : String} (ha : a < 3) (hl : lw_tbl[i]? = some (.fieldLinkNest (P m).1.1.cls idx "SpatialPoints" (stN a) "[I" host)) (hd : decode (P m).1.2.1 pc = .ok (.getstatic idx, 3)) (kk : WG P m p l e R s mid args below meth c D aC ad0 n0 M0 A Q (pc + 3) u L (vr a :: S) σ) : WG P m p l e R s mid args below meth c D aC ad0 n0 M0 A Q pc u L S σ := by
  intro ad H locs ls st g0 g1 hW g2 hS hL hT
  have hn := F.n5
  refine va_getsN F.exec F.code (st_Z F ha) hS F.own (va_Nw.use rfl (ng_at F hl rfl)) (fun _ h => h) hd ?_
  refine kk ad H locs ls _ g0 g1 hW g2 hS hL ⟨⟨Or.inl ?_, (by show a < σ.1.length; omega)⟩, hT⟩
  show Value.ref _ = Value.ref _
  rw [g1 a (by omega)]
/-- the machine's own small functions -/
theorem lR_sz {ad : Nat → Nat} {n nL : Nat} {ls : Array Slot} (h : lR ad n L ls nL) : ls.size = nL := by
  obtain ⟨_, lv, h2, _⟩ := h
  exact h2.1
theorem jm_max : Cond.static Lib.Math.max.name ∈ lw_gd ∧ Cond.code Lib.Math.max.name Lib.Math.max.code 2 (some .int) ∈ lw_gd := ⟨gd_all (ws := [Cond.static Lib.Math.max.name]) (by decide +kernel) _ (List.mem_singleton.mpr rfl), gd_all (ws := [Cond.code Lib.Math.max.name Lib.Math.max.code 2 (some .int)]) (by decide +kernel) _ (List.mem_singleton.mpr rfl)⟩
theorem jm_min : Cond.static Lib.Math.min.name ∈ lw_gd ∧ Cond.code Lib.Math.min.name Lib.Math.min.code 2 (some .int) ∈ lw_gd := ⟨gd_all (ws := [Cond.static Lib.Math.min.name]) (by decide +kernel) _ (List.mem_singleton.mpr rfl), gd_all (ws := [Cond.code Lib.Math.min.name Lib.Math.min.code 2 (some .int)]) (by decide +kernel) _ (List.mem_singleton.mpr rfl)⟩
theorem jm_abs : Cond.static Lib.Math.abs.name ∈ lw_gd ∧ Cond.code Lib.Math.abs.name Lib.Math.abs.code 1 (some .int) ∈ lw_gd := ⟨gd_all (ws := [Cond.static Lib.Math.abs.name]) (by decide +kernel) _ (List.mem_singleton.mpr rfl), gd_all (ws := [Cond.code Lib.Math.abs.name Lib.Math.abs.code 1 (some .int)]) (by decide +kernel) _ (List.mem_singleton.mpr rfl)⟩
theorem jm_ini : Cond.initialized "java/lang/Math" ∈ lw_gd := gd_all (ws := [Cond.initialized "java/lang/Math"]) (by decide +kernel) _ (List.mem_singleton.mpr rfl)
theorem sR_le {ad : Nat → Nat} {n q : Nat} {st : List Value} (h : sR ad n S st) (hq : S.length ≤ q) : (st.map fun v => v.category).sum ≤ 2 * q := by
  rw [sR_sum h]
  have := c2sum_le S
  omega
theorem s_max (F : Fx P m d sc p l e R s mid args below meth c D aC ad0 n0 M0 A) {x y : Int} {i idx : Nat} {r : List mV} (hu : u ≤ (P m).1.2.2.2.2.1) (hr : r.length ≤ 20) (hl : lw_tbl[i]? = some (.methodLink (P m).1.1.cls idx Lib.Math.max.name)) (hd : decode (P m).1.2.1 pc = .ok (.invokestatic idx, 3)) (kk : WG P m p l e R s mid args below meth c D aC ad0 n0 M0 A Q (pc + 3) u L (vi (if x < y then y else x) :: r) σ) : WG P m p l e R s mid args below meth c D aC ad0 n0 M0 A Q pc u L (vi y :: vi x :: r) σ := by
  intro ad H locs ls st g0 g1 hW g2 hS hL hT
  obtain ⟨_, _, st', rfl, h1, h2, h3, h4, h5⟩ := sR_2 hT
  cases sv_i h1; cases sv_i h3
  have hb := F.bd
  have hrm := F.rm
  have hs := sR_le h5 hr
  refine va_mmax F.exec F.code (F.maxL.trans (lR_sz hL).symm) F.own (gd_at F hl rfl) (F.ts _ jm_max.1) (F.ts _ jm_ini) (F.ts _ jm_max.2) (by omega) (by omega) (by omega) (by omega) hd ?_
  rw [ofI_max h4 h2]
  refine kk ad H locs ls _ g0 g1 hW g2 hS hL ⟨⟨Or.inl rfl, ?_⟩, h5⟩
  show inR (if x < y then y else x)
  split <;> assumption
theorem s_min (F : Fx P m d sc p l e R s mid args below meth c D aC ad0 n0 M0 A) {x y : Int} {i idx : Nat} {r : List mV} (hu : u ≤ (P m).1.2.2.2.2.1) (hr : r.length ≤ 20) (hl : lw_tbl[i]? = some (.methodLink (P m).1.1.cls idx Lib.Math.min.name)) (hd : decode (P m).1.2.1 pc = .ok (.invokestatic idx, 3)) (kk : WG P m p l e R s mid args below meth c D aC ad0 n0 M0 A Q (pc + 3) u L (vi (if y < x then y else x) :: r) σ) : WG P m p l e R s mid args below meth c D aC ad0 n0 M0 A Q pc u L (vi y :: vi x :: r) σ := by
  intro ad H locs ls st g0 g1 hW g2 hS hL hT
  obtain ⟨_, _, st', rfl, h1, h2, h3, h4, h5⟩ := sR_2 hT
  cases sv_i h1; cases sv_i h3
  have hb := F.bd
  have hrm := F.rm
  have hs := sR_le h5 hr
  refine va_mmin F.exec F.code (F.maxL.trans (lR_sz hL).symm) F.own (gd_at F hl rfl) (F.ts _ jm_min.1) (F.ts _ jm_ini) (F.ts _ jm_min.2) (by omega) (by omega) (by omega) (by omega) hd ?_
  rw [ofI_min h4 h2]
  refine kk ad H locs ls _ g0 g1 hW g2 hS hL ⟨⟨Or.inl rfl, ?_⟩, h5⟩
  show inR (if y < x then y else x)
  split <;> assumption
theorem s_abs (F : Fx P m d sc p l e R s mid args below meth c D aC ad0 n0 M0 A) {x : Int} {i idx : Nat} {r : List mV} (hu : u ≤ (P m).1.2.2.2.2.1) (hr : r.length ≤ 20) (hl : lw_tbl[i]? = some (.methodLink (P m).1.1.cls idx Lib.Math.abs.name)) (hd : decode (P m).1.2.1 pc = .ok (.invokestatic idx, 3)) (kk : WG P m p l e R s mid args below meth c D aC ad0 n0 M0 A Q (pc + 3) u L (vi (wr (x.natAbs : Int)) :: r) σ) : WG P m p l e R s mid args below meth c D aC ad0 n0 M0 A Q pc u L (vi x :: r) σ := by
  intro ad H locs ls st g0 g1 hW g2 hS hL hT
  obtain ⟨_, st', rfl, h1, h2, h3⟩ := sR_cons hT
  cases sv_i h1
  have hb := F.bd
  have hrm := F.rm
  have hs := sR_le h3 hr
  refine va_mabs F.exec F.code (F.maxL.trans (lR_sz hL).symm) F.own (gd_at F hl rfl) (F.ts _ jm_abs.1) (F.ts _ jm_ini) (F.ts _ jm_abs.2) (by omega) (by omega) (by omega) (by omega) hd ?_
  rw [ofI_abs h2]
  exact kk ad H locs ls _ g0 g1 hW g2 hS hL ⟨⟨Or.inl rfl, wr_inR _⟩, h3⟩
theorem jm_obj : Cond.instanceMethod Lib.objectInit ∈ lw_gd ∧ Cond.code Lib.objectInit ⟨#[0xb1]⟩ 1 none ∈ lw_gd := ⟨gd_all (ws := [Cond.instanceMethod Lib.objectInit]) (by decide +kernel) _ (List.mem_singleton.mpr rfl), gd_all (ws := [Cond.code Lib.objectInit ⟨#[0xb1]⟩ 1 none]) (by decide +kernel) _ (List.mem_singleton.mpr rfl)⟩
theorem s_objI (F : Fx P m d sc p l e R s mid args below meth c D aC ad0 n0 M0 A) {k i idx : Nat} {r : List mV} (hr : r.length ≤ 20) (hl : lw_tbl[i]? = some (.methodLink (P m).1.1.cls idx Lib.objectInit)) (hd : decode (P m).1.2.1 pc = .ok (.invokespecial idx, 3)) (kk : WG P m p l e R s mid args below meth c D aC ad0 n0 M0 A Q (pc + 3) u L r σ) : WG P m p l e R s mid args below meth c D aC ad0 n0 M0 A Q pc u L (vr k :: r) σ := by
  intro ad H locs ls st g0 g1 hW g2 hS hL hT
  obtain ⟨_, st', rfl, h1, h2, h3⟩ := sR_cons hT
  cases sv_r h1
  have hrm := F.rm
  have hs := sR_le h3 hr
  refine W.objInit F.exec F.code F.own (gd_at F hl rfl) (F.ts _ jm_obj.1) (F.ts _ jm_obj.2) rfl ((lR_sz hL).trans F.maxL.symm) rfl hd (by omega) (by show 2 * 0 + _ + 12 ≤ _; omega) ?_
  exact kk ad H locs ls _ g0 g1 hW g2 hS hL h3
end ST
