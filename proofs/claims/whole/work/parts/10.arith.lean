section AR
variable {P : mP} {m d : Nat} {sc : Bool} {p : Program} {l : Launch} {e : Env} {R : Room} {s : State} {mid : MethodId} {args : Array Value} {below : List Frame} {meth : Method} {c : Code} {D : va_G} {aC : FieldType → ClassId} {ad0 : Nat → Nat} {n0 : Nat} {M0 : mM} {A : Nat → Prop} {Q : State → Prop}
variable {pc u : Nat} {L S : List mV} {σ : mS}
theorem sR_2 {ad : Nat → Nat} {n : Nat} {v w : mV} {r : List mV} {st : List Value} (h : sR ad n (v :: w :: r) st) : ∃ x y st', st = x :: y :: st' ∧ sv ad v x ∧ okV n v ∧ sv ad w y ∧ okV n w ∧ sR ad n r st' := by
  obtain ⟨x, s1, rfl, a1, a2, h1⟩ := sR_cons h
  obtain ⟨y, s2, rfl, b1, b2, h2⟩ := sR_cons h1
  exact ⟨x, y, s2, rfl, a1, a2, b1, b2, h2⟩
theorem s_iadd (F : Fx P m d sc p l e R s mid args below meth c D aC ad0 n0 M0 A) {x y : Int} {r : List mV} (hd : decode (P m).1.2.1 pc = .ok (.iadd, 1)) (k : WG P m p l e R s mid args below meth c D aC ad0 n0 M0 A Q (pc + 1) u L (vi (wr (x + y)) :: r) σ) : WG P m p l e R s mid args below meth c D aC ad0 n0 M0 A Q pc u L (vi y :: vi x :: r) σ := by
  intro ad H locs ls st g0 g1 hW g2 hS hL hT
  obtain ⟨_, _, st', rfl, h1, h2, h3, h4, h5⟩ := sR_2 hT
  cases sv_i h1; cases sv_i h3
  refine lv_iadd F.exec F.code hd ?_
  rw [ofI_add]
  exact k ad H locs ls _ g0 g1 hW g2 hS hL ⟨⟨Or.inl rfl, wr_inR _⟩, h5⟩
theorem s_isub (F : Fx P m d sc p l e R s mid args below meth c D aC ad0 n0 M0 A) {x y : Int} {r : List mV} (hd : decode (P m).1.2.1 pc = .ok (.isub, 1)) (k : WG P m p l e R s mid args below meth c D aC ad0 n0 M0 A Q (pc + 1) u L (vi (wr (x - y)) :: r) σ) : WG P m p l e R s mid args below meth c D aC ad0 n0 M0 A Q pc u L (vi y :: vi x :: r) σ := by
  intro ad H locs ls st g0 g1 hW g2 hS hL hT
  obtain ⟨_, _, st', rfl, h1, h2, h3, h4, h5⟩ := sR_2 hT
  cases sv_i h1; cases sv_i h3
  refine lv_isub F.exec F.code hd ?_
  rw [ofI_sub]
  exact k ad H locs ls _ g0 g1 hW g2 hS hL ⟨⟨Or.inl rfl, wr_inR _⟩, h5⟩
theorem s_imul (F : Fx P m d sc p l e R s mid args below meth c D aC ad0 n0 M0 A) {x y : Int} {r : List mV} (hd : decode (P m).1.2.1 pc = .ok (.imul, 1)) (k : WG P m p l e R s mid args below meth c D aC ad0 n0 M0 A Q (pc + 1) u L (vi (wr (x * y)) :: r) σ) : WG P m p l e R s mid args below meth c D aC ad0 n0 M0 A Q pc u L (vi y :: vi x :: r) σ := by
  intro ad H locs ls st g0 g1 hW g2 hS hL hT
  obtain ⟨_, _, st', rfl, h1, h2, h3, h4, h5⟩ := sR_2 hT
  cases sv_i h1; cases sv_i h3
  refine lv_imul F.exec F.code hd ?_
  rw [ofI_mul]
  exact k ad H locs ls _ g0 g1 hW g2 hS hL ⟨⟨Or.inl rfl, wr_inR _⟩, h5⟩
theorem s_ineg (F : Fx P m d sc p l e R s mid args below meth c D aC ad0 n0 M0 A) {x : Int} {r : List mV} (hd : decode (P m).1.2.1 pc = .ok (.ineg, 1)) (k : WG P m p l e R s mid args below meth c D aC ad0 n0 M0 A Q (pc + 1) u L (vi (wr (-x)) :: r) σ) : WG P m p l e R s mid args below meth c D aC ad0 n0 M0 A Q pc u L (vi x :: r) σ := by
  intro ad H locs ls st g0 g1 hW g2 hS hL hT
  obtain ⟨_, st', rfl, h1, h2, h3⟩ := sR_cons hT
  cases sv_i h1
  refine lv_ineg F.exec F.code hd ?_
  rw [ofI_neg]
  exact k ad H locs ls _ g0 g1 hW g2 hS hL ⟨⟨Or.inl rfl, wr_inR _⟩, h3⟩
theorem ofI_ne0 {y : Int} (hy : inR y) (h : 0 < y) : ¬ Int32.ofInt y = 0 := fun q => by
  have := (ofI_eq hy inR_0).mp q
  omega
theorem s_irem (F : Fx P m d sc p l e R s mid args below meth c D aC ad0 n0 M0 A) {x y : Int} {r : List mV} (hy0 : 0 < y) (hd : decode (P m).1.2.1 pc = .ok (.irem, 1)) (k : WG P m p l e R s mid args below meth c D aC ad0 n0 M0 A Q (pc + 1) u L (vi (x.tmod y) :: r) σ) : WG P m p l e R s mid args below meth c D aC ad0 n0 M0 A Q pc u L (vi y :: vi x :: r) σ := by
  intro ad H locs ls st g0 g1 hW g2 hS hL hT
  obtain ⟨_, _, st', rfl, h1, h2, h3, h4, h5⟩ := sR_2 hT
  cases sv_i h1; cases sv_i h3
  refine lv_irem F.exec F.code hd (ofI_ne0 h2 hy0) ?_
  rw [ofI_tmod h4 h2 hy0]
  exact k ad H locs ls _ g0 g1 hW g2 hS hL ⟨⟨Or.inl rfl, tmod_inR h2 hy0⟩, h5⟩
theorem s_idiv (F : Fx P m d sc p l e R s mid args below meth c D aC ad0 n0 M0 A) {x y : Int} {r : List mV} (hy0 : 0 < y) (hd : decode (P m).1.2.1 pc = .ok (.idiv, 1)) (k : WG P m p l e R s mid args below meth c D aC ad0 n0 M0 A Q (pc + 1) u L (vi (x.tdiv y) :: r) σ) : WG P m p l e R s mid args below meth c D aC ad0 n0 M0 A Q pc u L (vi y :: vi x :: r) σ := by
  intro ad H locs ls st g0 g1 hW g2 hS hL hT
  obtain ⟨_, _, st', rfl, h1, h2, h3, h4, h5⟩ := sR_2 hT
  cases sv_i h1; cases sv_i h3
  refine lv_idiv F.exec F.code hd (ofI_ne0 h2 hy0) ?_
  rw [ofI_tdiv h4 h2 hy0]
  exact k ad H locs ls _ g0 g1 hW g2 hS hL ⟨⟨Or.inl rfl, tdiv_inR h4 hy0⟩, h5⟩
theorem s_iand (F : Fx P m d sc p l e R s mid args below meth c D aC ad0 n0 M0 A) {x : Int} {r : List mV} (hd : decode (P m).1.2.1 pc = .ok (.iand, 1)) (k : WG P m p l e R s mid args below meth c D aC ad0 n0 M0 A Q (pc + 1) u L (vi (x % 64) :: r) σ) : WG P m p l e R s mid args below meth c D aC ad0 n0 M0 A Q pc u L (vi 63 :: vi x :: r) σ := by
  intro ad H locs ls st g0 g1 hW g2 hS hL hT
  obtain ⟨_, _, st', rfl, h1, h2, h3, h4, h5⟩ := sR_2 hT
  cases sv_i h1; cases sv_i h3
  refine lv_iand F.exec F.code hd ?_
  rw [ofI_and63 h4]
  exact k ad H locs ls _ g0 g1 hW g2 hS hL ⟨⟨Or.inl rfl, (show inR (x % 64) by unfold inR; omega)⟩, h5⟩
theorem s_i2l (F : Fx P m d sc p l e R s mid args below meth c D aC ad0 n0 M0 A) {x : Int} {r : List mV} (hd : decode (P m).1.2.1 pc = .ok (.i2l, 1)) (k : WG P m p l e R s mid args below meth c D aC ad0 n0 M0 A Q (pc + 1) u L (vl x :: r) σ) : WG P m p l e R s mid args below meth c D aC ad0 n0 M0 A Q pc u L (vi x :: r) σ := by
  intro ad H locs ls st g0 g1 hW g2 hS hL hT
  obtain ⟨_, st', rfl, h1, h2, h3⟩ := sR_cons hT
  cases sv_i h1
  exact lv_i2l F.exec F.code hd (ofI_i2l h2) (k ad H locs ls _ g0 g1 hW g2 hS hL ⟨⟨Or.inl rfl, h2⟩, h3⟩)
theorem s_i2c (F : Fx P m d sc p l e R s mid args below meth c D aC ad0 n0 M0 A) {x : Int} {r : List mV} (hd : decode (P m).1.2.1 pc = .ok (.i2c, 1)) (k : WG P m p l e R s mid args below meth c D aC ad0 n0 M0 A Q (pc + 1) u L (vi (x % 65536) :: r) σ) : WG P m p l e R s mid args below meth c D aC ad0 n0 M0 A Q pc u L (vi x :: r) σ := by
  intro ad H locs ls st g0 g1 hW g2 hS hL hT
  obtain ⟨_, st', rfl, h1, h2, h3⟩ := sR_cons hT
  cases sv_i h1
  exact lv_i2c F.exec F.code hd (ofI_i2c h2) (k ad H locs ls _ g0 g1 hW g2 hS hL ⟨⟨Or.inl rfl, (show inR (x % 65536) by unfold inR; omega)⟩, h3⟩)
theorem s_i2d (F : Fx P m d sc p l e R s mid args below meth c D aC ad0 n0 M0 A) {x : Int} {r : List mV} (hd : decode (P m).1.2.1 pc = .ok (.i2d, 1)) (k : WG P m p l e R s mid args below meth c D aC ad0 n0 M0 A Q (pc + 1) u L (vd (FP.i2d (Int32.ofInt x)) :: r) σ) : WG P m p l e R s mid args below meth c D aC ad0 n0 M0 A Q pc u L (vi x :: r) σ := by
  intro ad H locs ls st g0 g1 hW g2 hS hL hT
  obtain ⟨_, st', rfl, h1, h2, h3⟩ := sR_cons hT
  cases sv_i h1
  exact lv_i2d F.exec F.code hd (k ad H locs ls _ g0 g1 hW g2 hS hL ⟨⟨Or.inl rfl, trivial⟩, h3⟩)
theorem s_lcmp (F : Fx P m d sc p l e R s mid args below meth c D aC ad0 n0 M0 A) {x y : Int} {r : List mV} (hd : decode (P m).1.2.1 pc = .ok (.lcmp, 1)) (k : WG P m p l e R s mid args below meth c D aC ad0 n0 M0 A Q (pc + 1) u L (vi (cmpL x y) :: r) σ) : WG P m p l e R s mid args below meth c D aC ad0 n0 M0 A Q pc u L (vl y :: vl x :: r) σ := by
  intro ad H locs ls st g0 g1 hW g2 hS hL hT
  obtain ⟨_, _, st', rfl, h1, h2, h3, h4, h5⟩ := sR_2 hT
  cases sv_l h1; cases sv_l h3
  refine W.lcmp F.exec F.code hd ?_
  rw [ofL_cmp h4 h2]
  exact k ad H locs ls _ g0 g1 hW g2 hS hL ⟨⟨Or.inl rfl, cmpL_inR _ _⟩, h5⟩
theorem s_dcmp (F : Fx P m d sc p l e R s mid args below meth c D aC ad0 n0 M0 A) {x y : UInt64} {op : CmpOp} {r : List mV} (hd : decode (P m).1.2.1 pc = .ok (.dcmp op, 1)) (k : WG P m p l e R s mid args below meth c D aC ad0 n0 M0 A Q (pc + 1) u L (vi (Op.cmpValue (FP.dcmp x y) op).toInt :: r) σ) : WG P m p l e R s mid args below meth c D aC ad0 n0 M0 A Q pc u L (vd y :: vd x :: r) σ := by
  intro ad H locs ls st g0 g1 hW g2 hS hL hT
  obtain ⟨_, _, st', rfl, h1, h2, h3, h4, h5⟩ := sR_2 hT
  cases sv_d h1; cases sv_d h3
  refine lv_dcmp F.exec F.code hd ?_
  refine k ad H locs ls _ g0 g1 hW g2 hS hL ⟨⟨Or.inl ?_, toI_inR _⟩, h5⟩
  show Value.int _ = Value.int (Int32.ofInt _)
  rw [ofI_of]
theorem s_dadd (F : Fx P m d sc p l e R s mid args below meth c D aC ad0 n0 M0 A) {x y : UInt64} {r : List mV} (hn : nn64 (FP.dadd x y) = true) (hd : decode (P m).1.2.1 pc = .ok (.dadd, 1)) (k : WG P m p l e R s mid args below meth c D aC ad0 n0 M0 A Q (pc + 1) u L (vd (FP.dadd x y) :: r) σ) : WG P m p l e R s mid args below meth c D aC ad0 n0 M0 A Q pc u L (vd y :: vd x :: r) σ := by
  intro ad H locs ls st g0 g1 hW g2 hS hL hT
  obtain ⟨_, _, st', rfl, h1, h2, h3, h4, h5⟩ := sR_2 hT
  cases sv_d h1; cases sv_d h3
  exact lv_dadd F.exec F.code hd (show vf_n64 _ from by unfold vf_n64; exact of_decide_eq_true hn) (k ad H locs ls _ g0 g1 hW g2 hS hL ⟨⟨Or.inl rfl, trivial⟩, h5⟩)
theorem s_ddiv (F : Fx P m d sc p l e R s mid args below meth c D aC ad0 n0 M0 A) {x y : UInt64} {r : List mV} (hn : nn64 (FP.ddiv x y) = true) (hd : decode (P m).1.2.1 pc = .ok (.ddiv, 1)) (k : WG P m p l e R s mid args below meth c D aC ad0 n0 M0 A Q (pc + 1) u L (vd (FP.ddiv x y) :: r) σ) : WG P m p l e R s mid args below meth c D aC ad0 n0 M0 A Q pc u L (vd y :: vd x :: r) σ := by
  intro ad H locs ls st g0 g1 hW g2 hS hL hT
  obtain ⟨_, _, st', rfl, h1, h2, h3, h4, h5⟩ := sR_2 hT
  cases sv_d h1; cases sv_d h3
  exact lv_ddiv F.exec F.code hd (show vf_n64 _ from by unfold vf_n64; exact of_decide_eq_true hn) (k ad H locs ls _ g0 g1 hW g2 hS hL ⟨⟨Or.inl rfl, trivial⟩, h5⟩)
theorem sv_c1 {ad : Nat → Nat} {v : mV} {x : Value} (h : sv ad v x) (hc : c2 v = false) : x.category = 1 := by
  rw [sv_cat h, hc]
theorem s_dup (F : Fx P m d sc p l e R s mid args below meth c D aC ad0 n0 M0 A) {v : mV} {r : List mV} (hc : c2 v = false) (hd : decode (P m).1.2.1 pc = .ok (.dup, 1)) (k : WG P m p l e R s mid args below meth c D aC ad0 n0 M0 A Q (pc + 1) u L (v :: v :: r) σ) : WG P m p l e R s mid args below meth c D aC ad0 n0 M0 A Q pc u L (v :: r) σ := by
  intro ad H locs ls st g0 g1 hW g2 hS hL hT
  obtain ⟨x, st', rfl, h1, h2, h3⟩ := sR_cons hT
  exact lv_dup F.exec F.code hd (sv_c1 h1 hc) (k ad H locs ls _ g0 g1 hW g2 hS hL ⟨⟨h1, h2⟩, ⟨h1, h2⟩, h3⟩)
theorem s_pop (F : Fx P m d sc p l e R s mid args below meth c D aC ad0 n0 M0 A) {v : mV} {r : List mV} (hc : c2 v = false) (hd : decode (P m).1.2.1 pc = .ok (.pop, 1)) (k : WG P m p l e R s mid args below meth c D aC ad0 n0 M0 A Q (pc + 1) u L r σ) : WG P m p l e R s mid args below meth c D aC ad0 n0 M0 A Q pc u L (v :: r) σ := by
  intro ad H locs ls st g0 g1 hW g2 hS hL hT
  obtain ⟨x, st', rfl, h1, h2, h3⟩ := sR_cons hT
  exact lv_pop F.exec F.code hd (sv_c1 h1 hc) (k ad H locs ls _ g0 g1 hW g2 hS hL h3)
theorem s_dup2 (F : Fx P m d sc p l e R s mid args below meth c D aC ad0 n0 M0 A) {v w : mV} {r : List mV} (hc : c2 v = false) (hc2 : c2 w = false) (hd : decode (P m).1.2.1 pc = .ok (.dup2, 1)) (k : WG P m p l e R s mid args below meth c D aC ad0 n0 M0 A Q (pc + 1) u L (v :: w :: v :: w :: r) σ) : WG P m p l e R s mid args below meth c D aC ad0 n0 M0 A Q pc u L (v :: w :: r) σ := by
  intro ad H locs ls st g0 g1 hW g2 hS hL hT
  obtain ⟨x, y, st', rfl, h1, h2, h3, h4, h5⟩ := sR_2 hT
  exact lv_dup2_11 F.exec F.code hd (sv_c1 h1 hc) (sv_c1 h3 hc2) (k ad H locs ls _ g0 g1 hW g2 hS hL ⟨⟨h1, h2⟩, ⟨h3, h4⟩, ⟨h1, h2⟩, ⟨h3, h4⟩, h5⟩)
theorem s_dup_x1 (F : Fx P m d sc p l e R s mid args below meth c D aC ad0 n0 M0 A) {v w : mV} {r : List mV} (hc : c2 v = false) (hc2 : c2 w = false) (hd : decode (P m).1.2.1 pc = .ok (.dup_x1, 1)) (k : WG P m p l e R s mid args below meth c D aC ad0 n0 M0 A Q (pc + 1) u L (v :: w :: v :: r) σ) : WG P m p l e R s mid args below meth c D aC ad0 n0 M0 A Q pc u L (v :: w :: r) σ := by
  intro ad H locs ls st g0 g1 hW g2 hS hL hT
  obtain ⟨x, y, st', rfl, h1, h2, h3, h4, h5⟩ := sR_2 hT
  exact lv_dup_x1 F.exec F.code hd (sv_c1 h1 hc) (sv_c1 h3 hc2) (k ad H locs ls _ g0 g1 hW g2 hS hL ⟨⟨h1, h2⟩, ⟨h3, h4⟩, ⟨h1, h2⟩, h5⟩)
/-! branches -/
theorem s_goto (F : Fx P m d sc p l e R s mid args below meth c D aC ad0 n0 M0 A) {off : Int} {tgt : Nat} (hd : decode (P m).1.2.1 pc = .ok (.goto off, 3)) (ht : (pc : Int) + off = tgt) (k : WG P m p l e R s mid args below meth c D aC ad0 n0 M0 A Q tgt u L S σ) : WG P m p l e R s mid args below meth c D aC ad0 n0 M0 A Q pc u L S σ := by
  intro ad H locs ls st g0 g1 hW g2 hS hL hT
  exact lv_goto F.exec F.code hd ht (k ad H locs ls _ g0 g1 hW g2 hS hL hT)
theorem s_icmp (F : Fx P m d sc p l e R s mid args below meth c D aC ad0 n0 M0 A) {cc : ClassFile.Cond} {x y off : Int} {tgt : Nat} {r : List mV} (hd : decode (P m).1.2.1 pc = .ok (.if_icmp cc off, 3)) (ht : (pc : Int) + off = tgt) (kt : cmpI cc x y → WG P m p l e R s mid args below meth c D aC ad0 n0 M0 A Q tgt u L r σ) (kf : ¬ cmpI cc x y → WG P m p l e R s mid args below meth c D aC ad0 n0 M0 A Q (pc + 3) u L r σ) : WG P m p l e R s mid args below meth c D aC ad0 n0 M0 A Q pc u L (vi y :: vi x :: r) σ := by
  intro ad H locs ls st g0 g1 hW g2 hS hL hT
  obtain ⟨_, _, st', rfl, h1, h2, h3, h4, h5⟩ := sR_2 hT
  cases sv_i h1; cases sv_i h3
  have k1 := fun q => kt q ad H locs ls _ g0 g1 hW g2 hS hL h5
  have k2 := fun q => kf q ad H locs ls _ g0 g1 hW g2 hS hL h5
  have e := ofI_eq h4 h2
  have a1 := ofI_lt h4 h2
  have a2 := ofI_lt h2 h4
  have b1 := ofI_le h4 h2
  have b2 := ofI_le h2 h4
  cases cc with
  | eq => exact lv_icmp_eq F.exec F.code hd ht (fun q => k1 (e.mp q)) (fun q => k2 (fun z => q (e.mpr z)))
  | ne => exact lv_icmp_ne F.exec F.code hd ht (fun q => k1 (fun z => q (e.mpr z))) (fun q => k2 (fun z => z (e.mp q)))
  | lt => exact lv_icmp_lt F.exec F.code hd ht (fun q => k1 (a1.mp q)) (fun q => k2 (fun z => q (a1.mpr z)))
  | ge => exact lv_icmp_ge F.exec F.code hd ht (fun q => k1 (b2.mp q)) (fun q => k2 (fun z => q (b2.mpr z)))
  | gt => exact lv_icmp_gt F.exec F.code hd ht (fun q => k1 (a2.mp q)) (fun q => k2 (fun z => q (a2.mpr z)))
  | le => exact lv_icmp_le F.exec F.code hd ht (fun q => k1 (b1.mp q)) (fun q => k2 (fun z => q (b1.mpr z)))
theorem s_if (F : Fx P m d sc p l e R s mid args below meth c D aC ad0 n0 M0 A) {cc : ClassFile.Cond} {x off : Int} {tgt : Nat} {r : List mV} (hd : decode (P m).1.2.1 pc = .ok (.ifCond cc off, 3)) (ht : (pc : Int) + off = tgt) (kt : cmpI cc x 0 → WG P m p l e R s mid args below meth c D aC ad0 n0 M0 A Q tgt u L r σ) (kf : ¬ cmpI cc x 0 → WG P m p l e R s mid args below meth c D aC ad0 n0 M0 A Q (pc + 3) u L r σ) : WG P m p l e R s mid args below meth c D aC ad0 n0 M0 A Q pc u L (vi x :: r) σ := by
  intro ad H locs ls st g0 g1 hW g2 hS hL hT
  obtain ⟨_, st', rfl, h1, h2, h5⟩ := sR_cons hT
  cases sv_i h1
  have k1 := fun q => kt q ad H locs ls _ g0 g1 hW g2 hS hL h5
  have k2 := fun q => kf q ad H locs ls _ g0 g1 hW g2 hS hL h5
  have e := ofI_eq h2 inR_0
  have a1 := ofI_lt h2 inR_0
  have a2 := ofI_lt inR_0 h2
  have b1 := ofI_le h2 inR_0
  have b2 := ofI_le inR_0 h2
  cases cc with
  | eq => exact lv_if_eq F.exec F.code hd ht (fun q => k1 (e.mp q)) (fun q => k2 (fun z => q (e.mpr z)))
  | ne => exact lv_if_ne F.exec F.code hd ht (fun q => k1 (fun z => q (e.mpr z))) (fun q => k2 (fun z => z (e.mp q)))
  | lt => exact lv_if_lt F.exec F.code hd ht (fun q => k1 (a1.mp q)) (fun q => k2 (fun z => q (a1.mpr z)))
  | ge => exact lv_if_ge F.exec F.code hd ht (fun q => k1 (b2.mp q)) (fun q => k2 (fun z => q (b2.mpr z)))
  | gt => exact lv_if_gt F.exec F.code hd ht (fun q => k1 (a2.mp q)) (fun q => k2 (fun z => q (a2.mpr z)))
  | le => exact lv_if_le F.exec F.code hd ht (fun q => k1 (b1.mp q)) (fun q => k2 (fun z => q (b1.mpr z)))
theorem s_table (F : Fx P m d sc p l e R s mid args below meth c D aC ad0 n0 M0 A) {dflt lo hi : Int} {offs : Array Int} {len : Nat} {x : Int} {r : List mV} {ts : List Nat} {df : Nat} {pcs : Nat → Nat} (hd : decode (P m).1.2.1 pc = .ok (.tableswitch dflt lo hi offs, len)) (hlo : ts.length = offs.size) (hhi : hi = lo + ts.length - 1)
    (hdf : (pc : Int) + dflt = pcs df) (hts : ∀ i, i < ts.length → ∃ off, offs[i]? = some off ∧ (pc : Int) + off = pcs (ts.getD i df)) (k : WG P m p l e R s mid args below meth c D aC ad0 n0 M0 A Q (pcs (swT lo ts df x)) u L r σ) : WG P m p l e R s mid args below meth c D aC ad0 n0 M0 A Q pc u L (vi x :: r) σ := by
  intro ad H locs ls st g0 g1 hW g2 hS hL hT
  obtain ⟨_, st', rfl, h1, h2, h5⟩ := sR_cons hT
  cases sv_i h1
  have k1 := k ad H locs ls _ g0 g1 hW g2 hS hL h5
  by_cases c1 : x < lo
  · rw [swT, if_pos c1] at k1
    exact lv_tableOut F.exec F.code hd (Or.inl (by rw [ofI_toInt h2]; exact c1)) hdf k1
  · rw [swT, if_neg c1] at k1
    by_cases c2 : hi < x
    · have e : ts.getD (x - lo).toNat df = df := by
        rw [List.getD_eq_getElem?_getD, List.getElem?_eq_none (by omega)]
        rfl
      rw [e] at k1
      exact lv_tableOut F.exec F.code hd (Or.inr (by rw [ofI_toInt h2]; exact c2)) hdf k1
    · obtain ⟨off, o1, o2⟩ := hts (x - lo).toNat (by omega)
      exact lv_tableIn F.exec F.code hd (by rw [ofI_toInt h2]; exact c1) (by rw [ofI_toInt h2]; exact c2) (by rw [ofI_toInt h2]; exact o1) o2 k1
end AR
