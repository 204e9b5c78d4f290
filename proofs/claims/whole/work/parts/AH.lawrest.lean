/-! THE LAW, THE OTHER CASES -/
variable {K : KK}
theorem ofb (b : UInt64) {x : Int} (h : x = (b.toNat : Int)) : UInt64.ofNat (Int.toNat x) = b := by
  rw [h, Int.toNat_natCast]
  simp
theorem law_26 {M : mM} (hI : Inv K M) (d u : Nat) {i : Int} (h : inS K i) (hu : u + 6 ≤ 3400) : nxt K d u i 330 M := by
  have c3 := hI.c3
  have c4 := hI.c4
  obtain ⟨b, M1, M2, ⟨e3, e4⟩, hw, hm, hI2⟩ := op26 hI d (K.1 (Int.toNat (i + 1)))
  rw [c3] at e3
  have e4 : M1 4 0 = K.2 0 := by rw [e4]; exact c4
  refine ⟨M2, u + 0 + 0, ?_, hI2, ?_⟩
  · unfold lL
    rw [b299_330 (d + 600), ixs h (by decide), c4, if_pos (ixb h (by decide)), c3, b299_331 (d + 600), hw, callK_r, psh_s, b299_332 (d + 600), ixs h (by decide), e4, if_pos (ixb h (by decide)), e3, b299_333 (d + 600), hm, callK_r, psh_s, b299_334 (d + 600)]
    · by_cases c : (Op.cmpValue (FP.dcmp b b) .l).toInt = 0
      · rw [if_pos c, b299_338 (d + 600)]
      · rw [if_neg c, b299_335 (d + 600), if_neg c, b299_336 (d + 600), if_neg c, b299_338 (d + 600)]
    all_goals omega
  · omega
theorem law_35 {M : mM} (hI : Inv K M) (d u : Nat) {i : Int} (h : inS K i) (hu : u + 6 ≤ 3400) : nxt K d u i 417 M := by
  have c3 := hI.c3
  have c4 := hI.c4
  obtain ⟨k, b, M1, M2, ⟨e3, e4⟩, hw, hm, ht, ho, hI2⟩ := op35 hI d (K.1 (Int.toNat (i + 1)))
  rw [c3] at e3
  have e4 : M1 4 0 = K.2 0 := by rw [e4]; exact c4
  refine ⟨M2, u + 2 + 0 + 0, ?_, hI2, ?_⟩
  · unfold lL
    rw [b299_417 (d + 600), ixs h (by decide), c4, if_pos (ixb h (by decide)), c3, b299_418 (d + 600), hw, callK_r, psh_s, b299_419 (d + 600), ixs h (by decide), e4, if_pos (ixb h (by decide)), e3, b299_420 (d + 600), hm, callK_r, psh_s, b299_421 (d + 600), s67 (d + 599), callK_r, psh_s, b299_422 (d + 600), if_pos (show r67 M2 = k from ht), b299_424 (d + 600)]
    · by_cases hk : k = 0
      · have eb : UInt64.ofNat (Int.toNat (M2 97 (Int.toNat 0))) = b := ofb b (ho hk)
        rw [if_pos hk, b299_425 (d + 600), if_pos (by decide), eb, b299_426 (d + 600)]
        by_cases c : (Op.cmpValue (FP.dcmp b b) .l).toInt = 0
        · rw [if_pos c, b299_432 (d + 600)]
        · rw [if_neg c, b299_427 (d + 600), if_pos (by decide), eb, b299_428 (d + 600), if_pos (by decide), eb, b299_429 (d + 600), if_neg c, b299_430 (d + 600), if_neg c, b299_432 (d + 600)]
      · rw [if_neg hk, b299_432 (d + 600)]
    all_goals omega
  · omega
theorem law_38 {M : mM} (hI : Inv K M) (d u : Nat) {i : Int} (h : inS K i) (hu : u + 6 ≤ 3400) : nxt K d u i 449 M := by
  obtain ⟨k, b, M1, M2, ⟨e3, e4⟩, hw, hm, ht, ho, hI2⟩ := op38 hI d
  refine ⟨M2, u + 1 + 0 + 0, ?_, hI2, ?_⟩
  · unfold lL
    rw [b299_449 (d + 600), hw, callK_r, psh_s, b299_450 (d + 600), hm, callK_r, psh_s, b299_451 (d + 600), s67 (d + 599), callK_r, psh_s, b299_452 (d + 600), if_pos (show r67 M2 = k from ht), b299_454 (d + 600)]
    · by_cases hk : k = 0
      · have eb : M2 96 (Int.toNat 0) = bi b := ho hk
        rw [if_pos hk, b299_455 (d + 600), if_pos (by decide), eb, b299_456 (d + 600)]
        cases b with
        | true => rw [if_neg (show ¬ bi true = 0 by decide), b299_457 (d + 600), b299_459 (d + 600), if_pos (show cmpL (bi true) 1 = 0 by decide), b299_461 (d + 600)]
        | false => rw [if_pos (show bi false = 0 from rfl), b299_458 (d + 600), b299_459 (d + 600), if_pos (show cmpL (bi false) 0 = 0 by decide), b299_461 (d + 600)]
      · rw [if_neg hk, b299_461 (d + 600)]
    all_goals omega
  · omega
theorem law_20 {M : mM} (hI : Inv K M) (d u : Nat) {i : Int} (h : inS K i) (hu : u + 6 ≤ 3400) : nxt K d u i 255 M := by
  have c3 := hI.c3
  have c4 := hI.c4
  obtain ⟨v, hv⟩ : ∃ v : Int, v = if K.1 (Int.toNat (i + 2)) = 0 then 0 else 1 := ⟨_, rfl⟩
  obtain ⟨k, b, M1, M2, ⟨e3, e4⟩, hw, hm, ht, ho, hI2⟩ := op20 hI d (K.1 (Int.toNat (i + 1))) v
  rw [c3] at e3
  have e4 : M1 4 0 = K.2 0 := by rw [e4]; exact c4
  have fin : ev prog (d + 601) 299 (u + 1 + 0 + 0) 270 [vr 3, vr 5, vr 87, vr 96, vr 97, vi i, vi k, vi (bi b), vj, vj] [] (shp, M2) = ev prog (d + 601) 299 (u + 1 + 0 + 0) 503 [vr 3, vr 5, vr 87, vr 96, vr 97, vi i, vj, vj, vj, vj] [] (shp, M2) := by
    rw [b299_270 (d + 600)]
    by_cases hk : k = 0
    · have eb : M2 96 (Int.toNat 0) = bi b := ho hk
      rw [if_pos hk, b299_271 (d + 600), if_pos (by decide), eb, b299_272 (d + 600)]
      cases b with
      | true => rw [if_neg (show ¬ bi true = 0 by decide), b299_273 (d + 600), b299_275 (d + 600), if_pos (show cmpL (bi true) 1 = 0 by decide), b299_277 (d + 600)]
      | false => rw [if_pos (show bi false = 0 from rfl), b299_274 (d + 600), b299_275 (d + 600), if_pos (show cmpL (bi false) 0 = 0 by decide), b299_277 (d + 600)]
    · rw [if_neg hk, b299_277 (d + 600)]
  refine ⟨M2, u + 1 + 0 + 0, ?_, hI2, ?_⟩
  · unfold lL
    rw [b299_255 (d + 600), ixs h (by decide), c4, if_pos (ixb h (by decide)), c3, b299_256 (d + 600), ixs h (by decide), c4, if_pos (ixb h (by decide)), c3, b299_257 (d + 600)]
    by_cases c : K.1 (Int.toNat (i + 2)) = 0
    · rw [if_pos c] at hv
      subst hv
      rw [if_pos c, b299_259 (d + 600), b299_260 (d + 600), hw, callK_r, psh_s, b299_261 (d + 600), ixs h (by decide), e4, if_pos (ixb h (by decide)), e3, b299_262 (d + 600), ixs h (by decide), e4, if_pos (ixb h (by decide)), e3, b299_263 (d + 600), if_pos c, b299_265 (d + 600), b299_266 (d + 600), hm, callK_r, psh_s, b299_267 (d + 600), s67 (d + 599), callK_r, psh_s, b299_268 (d + 600), if_pos (show r67 M2 = k from ht), fin]
      all_goals omega
    · rw [if_neg c] at hv
      subst hv
      rw [if_neg c, b299_258 (d + 600), b299_260 (d + 600), hw, callK_r, psh_s, b299_261 (d + 600), ixs h (by decide), e4, if_pos (ixb h (by decide)), e3, b299_262 (d + 600), ixs h (by decide), e4, if_pos (ixb h (by decide)), e3, b299_263 (d + 600), if_neg c, b299_264 (d + 600), b299_266 (d + 600), hm, callK_r, psh_s, b299_267 (d + 600), s67 (d + 599), callK_r, psh_s, b299_268 (d + 600), if_pos (show r67 M2 = k from ht), fin]
      all_goals omega
  · omega
