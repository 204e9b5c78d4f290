/-! THE CHECKED MACHINE IS SOUND -/
theorem no_some {α : Type} {r : α} (h : (none : Option α) = some r) : False := by cases h
theorem getD_some {α : Type} {l : List α} {i : Nat} {x y : α} (h : l[i]? = some x) : l.getD i y = x := by
  rw [List.getD_eq_getElem?_getD, h]; rfl
theorem ite2 {p : Prop} [Decidable p] {A B : mR} {q : mO × mS} (h : (if p then A else B) = some q) : (p → A = some q) ∧ (¬ p → B = some q) :=
  ⟨fun z => by rwa [if_pos z] at h, fun z => by rwa [if_neg z] at h⟩
theorem cmp_ok {J : mJ} {u a b : Nat} {L r : List mV} {σ : mS} {c : ClassFile.Cond} {x y : Int} {q : mO × mS} (h : goCmp J u a b L r σ c x y = some q) : (cmpI c x y → J u a L r σ = some q) ∧ (¬ cmpI c x y → J u b L r σ = some q) := by
  cases c with
  | eq => exact ⟨(ite2 (p := x = y) h).1, (ite2 (p := x = y) h).2⟩
  | ne => exact ⟨fun z => (ite2 (p := x = y) h).2 z, fun z => (ite2 (p := x = y) h).1 (Decidable.not_not.mp z)⟩
  | lt => exact ⟨(ite2 (p := x < y) h).1, (ite2 (p := x < y) h).2⟩
  | ge => exact ⟨fun z => (ite2 (p := x < y) h).2 (Int.not_lt.mpr z), fun z => (ite2 (p := x < y) h).1 (Int.not_le.mp z)⟩
  | gt => exact ⟨(ite2 (p := y < x) h).1, (ite2 (p := y < x) h).2⟩
  | le => exact ⟨fun z => (ite2 (p := y < x) h).2 (Int.not_lt.mpr z), fun z => (ite2 (p := y < x) h).1 (Int.not_le.mp z)⟩
theorem look_ok {P : mP} {m pc a : Nat} {dflt x : Int} (hd : (pc : Int) + dflt = (pcB P m a : Int)) : ∀ (ts : List Nat) (l : List (Int × Int)) (b : Nat), l.map (fun q => q.1) = (List.range ts.length).map (fun (i : Nat) => (b : Int) + (i : Int)) → l.map (fun q => (pc : Int) + q.2) = ts.map (fun t => (pcB P m t : Int)) →
    (pc : Int) + Op.lookupswitch.offset l dflt x = (pcB P m (swT b ts a x) : Int)
  | [], l, b, h1, h2 => by
    cases l with
    | cons _ _ => simp at h2
    | nil =>
      rw [Op.lookupswitch.offset_nil, hd]
      unfold swT
      split <;> rfl
  | t :: ts, l, b, h1, h2 => by
    cases l with
    | nil => simp at h2
    | cons q l =>
      obtain ⟨k, o⟩ := q
      rw [List.length_cons, List.range_succ_eq_map, List.map_cons, List.map_cons, List.map_map] at h1
      obtain ⟨e1, e2⟩ := List.cons.inj h1
      rw [List.map_cons, List.map_cons] at h2
      obtain ⟨f1, f2⟩ := List.cons.inj h2
      have e1 : k = (b : Int) := by simpa using e1
      have ih := look_ok (x := x) hd ts l (b + 1) (by
        rw [e2]
        apply List.map_congr_left
        intro i _
        show (b : Int) + ((i + 1 : Nat) : Int) = ((b + 1 : Nat) : Int) + (i : Int)
        omega) f2
      rw [Op.lookupswitch.offset_cons]
      by_cases hx : k = x
      · rw [if_pos hx, ← hx, e1]
        unfold swT
        rw [if_neg (by omega), show ((b : Int) - (b : Int)).toNat = 0 by omega]
        exact f1
      · rw [if_neg hx, ih]
        have : swT ((b + 1 : Nat) : Int) ts a x = swT (b : Int) (t :: ts) a x := by
          unfold swT
          by_cases h3 : x < (b : Int)
          · rw [if_pos h3, if_pos (by omega)]
          · rw [if_neg h3, if_neg (by omega), show (x - (b : Int)).toNat = (x - ((b + 1 : Nat) : Int)).toNat + 1 by omega]
            rfl
        rw [this]
theorem exH_ok {k e : Nat} (h : exH k = some e) : e < 5 ∧ k ≠ 0 ∧ Cond.classLink RL k (exN e) ∈ lw_gd := by
  unfold exH at h
  split at h
  · cases h; exact ⟨by decide, by decide, gd_all (ws := [Cond.classLink RL 13 (exN 0)]) (by decide +kernel) _ (List.mem_singleton.mpr rfl)⟩
  · cases h; exact ⟨by decide, by decide, gd_all (ws := [Cond.classLink RL 15 (exN 1)]) (by decide +kernel) _ (List.mem_singleton.mpr rfl)⟩
  · cases h; exact ⟨by decide, by decide, gd_all (ws := [Cond.classLink RL 21 (exN 2)]) (by decide +kernel) _ (List.mem_singleton.mpr rfl)⟩
  · cases h; exact ⟨by decide, by decide, gd_all (ws := [Cond.classLink RL 40 (exN 4)]) (by decide +kernel) _ (List.mem_singleton.mpr rfl)⟩
  · cases h; exact ⟨by decide, by decide, gd_all (ws := [Cond.classLink RL 67 (exN 3)]) (by decide +kernel) _ (List.mem_singleton.mpr rfl)⟩
  · cases h
theorem ex_self {e : Nat} (h : e < 5) : Cond.castable (exN e) (exN e) ∈ lw_ng := by
  rcases (show e = 0 ∨ e = 1 ∨ e = 2 ∨ e = 3 ∨ e = 4 by omega) with rfl | rfl | rfl | rfl | rfl <;> exact List.mem_filter.mpr ⟨by decide +kernel, rfl⟩
abbrev enT (q : Nat × Nat × Nat × Nat) : ExceptionTableEntry := ⟨q.1, q.2.1, q.2.2.1, q.2.2.2⟩
theorem fndH_ok {pc e hp : Nat} : ∀ l : List (Nat × Nat × Nat × Nat), fndH pc e l = some hp → ∃ (pre : List (Nat × Nat × Nat × Nat)) (x : Nat × Nat × Nat × Nat) (suf : List (Nat × Nat × Nat × Nat)), l = pre ++ x :: suf ∧ (∀ z ∈ pre, covers (enT z) pc = false ∨ ∃ e', exH z.2.2.2 = some e' ∧ e' ≠ e) ∧ covers (enT x) pc = true ∧ exH x.2.2.2 = some e ∧ x.2.2.1 = hp
  | [], h => by cases h
  | q :: r, h => by
    have h' := h
    unfold fndH at h'
    split at h'
    · rename_i hc
      obtain ⟨pre, x, suf, h1, h2, h3⟩ := fndH_ok r h'
      refine ⟨q :: pre, x, suf, by rw [h1]; rfl, fun z hz => ?_, h3⟩
      rcases List.mem_cons.mp hz with rfl | hz
      · exact Or.inl hc
      · exact h2 z hz
    · rename_i hc
      split at h'
      · cases h'
      · rename_i e' he
        split at h'
        · rename_i hee
          cases h'
          have := of_decide_eq_true hee
          subst this
          exact ⟨[], q, r, rfl, fun z hz => by simp at hz, hc, he, rfl⟩
        · rename_i hee
          obtain ⟨pre, x, suf, h1, h2, h3⟩ := fndH_ok r h'
          refine ⟨q :: pre, x, suf, by rw [h1]; rfl, fun z hz => ?_, h3⟩
          rcases List.mem_cons.mp hz with rfl | hz
          · exact Or.inr ⟨e', he, of_decide_eq_false hee⟩
          · exact h2 z hz
section TE
variable {P : mP} {m d : Nat} {sc : Bool} {p : Program} {l : Launch} {e : Env} {R : Room} {s : State} {mid : MethodId} {args : Array Value} {below : List Frame} {meth : Method} {c : Code} {D : va_G} {aC : FieldType → ClassId} {ad0 : Nat → Nat} {n0 : Nat} {M0 : mM} {A : Nat → Prop} {Q : State → Prop}
variable {pc u : Nat} {L S : List mV} {σ : mS}
variable {J : mJ} {C : mC} {K : mK} {Z : mZ} {N : Nat} {o : mO} {σ' : mS}
theorem catch_ok (F : Fx P m d sc p l e R s mid args below meth c D aC ad0 n0 M0 A) {ex hp : Nat} {h0 : List (Nat × Nat × Nat × Nat)} (hcl : (P m).1.1.cls = RL) (ht : (P m).1.2.2.2.2.2.2 = h0) (hf : fndH pc ex h0 = some hp) (k : WG P m p l e R s mid args below meth c D aC ad0 n0 M0 A Q hp u L [vj] σ) : XG P m p l e R s mid args below meth c D aC ad0 n0 M0 A Q pc u L S σ ex := by
  intro ad H locs ls st q ce g0 g1 hW g2 hS hL hT hce hcv hcl9
  obtain ⟨pre, x, suf, h1, h2, h3, h4, h5⟩ := fndH_ok h0 hf
  obtain ⟨e1, e2, e3⟩ := exH_ok h4
  have hown := F.own
  rw [hcl] at hown
  subst h5
  refine vx_catch (own := RL) (name := exN ex) (E := exN ex) (ce := ce) hown (pre.map enT) (enT x) (suf.map enT) ?_ (fun z hz => ?_) h3 e2 (F.ts _ e3) (va_Nw.use rfl (F.kn.2.1 _ (ex_self e1))) hce hcv hcl9 (k ad H locs ls _ g0 g1 hW g2 hS hL ⟨⟨Or.inr ⟨rfl, q, rfl⟩, trivial⟩, trivial⟩)
  · rw [F.tab, ht, h1]
    show List.map _ (pre ++ x :: suf) = _
    rw [List.map_append, List.map_cons]
  · obtain ⟨y, hy, rfl⟩ := List.mem_map.mp hz
    rcases h2 y hy with h | ⟨e', he, hne⟩
    · exact Or.inl h
    · obtain ⟨f1, f2, f3⟩ := exH_ok he
      exact Or.inr ⟨f2, exN e', F.ts _ f3, F.kn.2.2.2 ex e' e1 f1 (Ne.symm hne)⟩
theorem t3 (F : Fx P m d sc p l e R s mid args below meth c D aC ad0 n0 M0 A) {a b pos len : Nat} {fl : List Nat} {j : Instr} (hu : u ≤ (P m).1.2.2.2.2.1) (hd : decode (P m).1.2.1 pc = .ok (j, len)) (hok : ok3 P m pc a b j len = true) (hJ : ∀ u b L S σ, J u b L S σ = some (o, σ') → u ≤ (P m).1.2.2.2.2.1 → WG P m p l e R s mid args below meth c D aC ad0 n0 M0 A Q (pcB P m b) u L S σ) (h : goT J C u L S σ (3, j, a, b, pos, fl) = some (o, σ')) : WG P m p l e R s mid args below meth c D aC ad0 n0 M0 A Q pc u L S σ := by
  unfold ok3 at hok
  split at hok
  · simp only [Bool.and_eq_true, decide_eq_true_eq] at hok
    obtain ⟨rfl, h1, h2⟩ := hok
    rcases S with _ | ⟨x | v, r⟩
    · exact (no_some h).elim
    · obtain ⟨k1, k2⟩ := cmp_ok (J := J) h
      exact s_if F hd h1 (fun q => hJ _ _ _ _ _ (k1 q) hu) (fun q => by rw [h2]; exact hJ _ _ _ _ _ (k2 q) hu)
    · exact (no_some h).elim
  · simp only [Bool.and_eq_true, decide_eq_true_eq] at hok
    obtain ⟨rfl, h1, h2⟩ := hok
    rcases S with _ | ⟨x | v, r⟩
    · exact (no_some h).elim
    · rcases r with _ | ⟨y | v, r⟩
      · exact (no_some h).elim
      · obtain ⟨k1, k2⟩ := cmp_ok (J := J) h
        exact s_icmp F hd h1 (fun q => hJ _ _ _ _ _ (k1 q) hu) (fun q => by rw [h2]; exact hJ _ _ _ _ _ (k2 q) hu)
      · exact (no_some h).elim
    · exact (no_some h).elim
  · cases hok
theorem s_look (F : Fx P m d sc p l e R s mid args below meth c D aC ad0 n0 M0 A) {dflt : Int} {ps : Array (Int × Int)} {len a b : Nat} {ts : List Nat} {x : Int} {r : List mV} (hd : decode (P m).1.2.1 pc = .ok (.lookupswitch dflt ps, len)) (h0 : (ps.toList.zip (ps.toList.drop 1)).all (fun (a, next) => a.1 < next.1) = true) (h1 : ps.toList.map (fun q => q.1) = (List.range ts.length).map (fun (i : Nat) => (b : Int) + (i : Int))) (h2 : (pc : Int) + dflt = (pcB P m a : Int)) (h3 : ps.toList.map (fun q => (pc : Int) + q.2) = ts.map (fun t => (pcB P m t : Int)))
    (k : WG P m p l e R s mid args below meth c D aC ad0 n0 M0 A Q (pcB P m (swT b ts a x)) u L r σ) : WG P m p l e R s mid args below meth c D aC ad0 n0 M0 A Q pc u L (vi x :: r) σ := by
  intro ad H locs ls st g0 g1 hW g2 hS hL hT
  obtain ⟨_, st', rfl, f1, f2, f3⟩ := sR_cons hT
  cases sv_i f1
  refine lv_lookup F.exec F.code hd h0 rfl ?_ (k ad H locs ls _ g0 g1 hW g2 hS hL f3)
  rw [ofI_toInt f2]
  exact look_ok h2 ts ps.toList b h1 h3
theorem t4 (F : Fx P m d sc p l e R s mid args below meth c D aC ad0 n0 M0 A) {a b pos len : Nat} {fl : List Nat} {j : Instr} (hu : u ≤ (P m).1.2.2.2.2.1) (hd : decode (P m).1.2.1 pc = .ok (j, len)) (hok : ok4 P m pc a b fl j = true) (hJ : ∀ u b L S σ, J u b L S σ = some (o, σ') → u ≤ (P m).1.2.2.2.2.1 → WG P m p l e R s mid args below meth c D aC ad0 n0 M0 A Q (pcB P m b) u L S σ) (h : goT J C u L S σ (4, j, a, b, pos, fl) = some (o, σ')) : WG P m p l e R s mid args below meth c D aC ad0 n0 M0 A Q pc u L S σ := by
  rcases S with _ | ⟨x | v, r⟩
  · exact (no_some h).elim
  · replace h : J u (swT (b : Int) fl a x) L r σ = some (o, σ') := h
    unfold ok4 at hok
    split at hok
    · simp only [Bool.and_eq_true, decide_eq_true_eq] at hok
      obtain ⟨⟨rfl, h1, h2⟩, h3, h4⟩ := hok
      refine s_table F (pcs := pcB P m) hd h1 h2 h3 (fun i hi => ?_) (hJ _ _ _ _ _ h hu)
      have h5 := List.all_eq_true.mp h4 i (List.mem_range.mpr hi)
      split at h5
      · rename_i off ho
        exact ⟨off, ho, of_decide_eq_true h5⟩
      · cases h5
    · simp only [Bool.and_eq_true, decide_eq_true_eq] at hok
      obtain ⟨⟨h0, h1⟩, h2, h3⟩ := hok
      exact s_look F hd h0 h1 h2 h3 (hJ _ _ _ _ _ h hu)
    · cases hok
  · exact (no_some h).elim
theorem t5 (F : Fx P m d sc p l e R s mid args below meth c D aC ad0 n0 M0 A) {a b pos len : Nat} {fl : List Nat} {j : Instr} (hu : u ≤ (P m).1.2.2.2.2.1) (hd : decode (P m).1.2.1 pc = .ok (j, len)) (hok : ok5 P m a j len = true) (hF : Fin P m p l e R s mid args below meth c D aC ad0 n0 M0 A Q o σ') (h : goT J C u L S σ (5, j, a, b, pos, fl) = some (o, σ')) : WG P m p l e R s mid args below meth c D aC ad0 n0 M0 A Q pc u L S σ := by
  replace h : goRet S σ a = some (o, σ') := h
  unfold ok5 at hok
  rw [Bool.and_eq_true, decide_eq_true_eq] at hok
  obtain ⟨rfl, hok⟩ := hok
  unfold goRet at h
  split at h
  · simp only [Bool.and_eq_true, decide_eq_true_eq] at hok
    obtain ⟨rfl, h1⟩ := hok
    cases h
    exact hF.1 _ rfl pc u L _ hu (Or.inl ⟨hd, h1, rfl, rfl⟩)
  · rename_i x
    simp only [Bool.and_eq_true, decide_eq_true_eq] at hok
    obtain ⟨rfl, h1⟩ := hok
    cases h
    exact hF.1 _ rfl pc u L _ hu (Or.inr (Or.inl ⟨_, hd, Or.inl h1, rfl, rfl⟩))
  · rename_i x
    simp only [Bool.and_eq_true, decide_eq_true_eq] at hok
    obtain ⟨rfl, h1⟩ := hok
    split at h
    · rename_i hb
      cases h
      exact hF.1 _ rfl pc u L _ hu (Or.inr (Or.inl ⟨_, hd, Or.inr ⟨h1, hb⟩, rfl, rfl⟩))
    · cases h
  · rename_i x
    simp only [Bool.and_eq_true, decide_eq_true_eq] at hok
    obtain ⟨rfl, h1⟩ := hok
    cases h
    exact hF.1 _ rfl pc u L _ hu (Or.inr (Or.inr ⟨_, hd, h1, rfl, rfl⟩))
  · cases h
theorem t7 (F : Fx P m d sc p l e R s mid args below meth c D aC ad0 n0 M0 A) {a b pos len : Nat} {fl : List Nat} {j : Instr} (hd : decode (P m).1.2.1 pc = .ok (j, len)) (hK : ∀ i, lkP P (K i)) (ho : (P m).1.1.cls = cN (Z m).2.1) (hok : ok7 P K (Z m).2.1 m pc a pos fl j len = true) (hF : Fin P m p l e R s mid args below meth c D aC ad0 n0 M0 A Q o σ') (h : goT J C u L S σ (7, j, a, b, pos, fl) = some (o, σ')) : WG P m p l e R s mid args below meth c D aC ad0 n0 M0 A Q pc u L S σ := by
  unfold ok7 at hok
  split at hok
  · rename_i cm p2 r ik
    simp only [Bool.and_eq_true, decide_eq_true_eq] at hok
    obtain ⟨⟨rfl, rfl, h1, h2⟩, h3, h4, h5⟩ := hok
    have h2 : (P m).1.1.cls = RX9 := by rw [ho, h2]; rfl
    replace h : (match decide (u + 1 ≤ (P m).1.2.2.2.2.1) && decide (S.length ≤ 20) with
        | true => some (.inr a, σ)
        | false => none) = some (o, σ') := h
    have key : thrAt P m pc a → WG P m p l e R s mid args below meth c D aC ad0 n0 M0 A Q pc u L S σ := by
      intro ht
      split at h
      · rename_i hc
        rw [Bool.and_eq_true, decide_eq_true_eq, decide_eq_true_eq] at hc
        cases h
        exact hF.2.1 a rfl pc u L S hc.1 hc.2 ht
      · cases h
    split at h5
    · rename_i k l2 hd4
      simp only [Bool.and_eq_true, decide_eq_true_eq] at h5
      obtain ⟨rfl, h6, h7, h8, h9⟩ := h5
      obtain ⟨tx, ht⟩ := lk_ok hK h6
      exact key ⟨h2, h3, h1, ik, k, tx, gd_mem (lk_ok hK h4) rfl, List.mem_of_getElem? ht, hd, h7, Or.inl ⟨hd4, h8, h9⟩⟩
    · rename_i k l2 hd4
      simp only [Bool.and_eq_true, decide_eq_true_eq] at h5
      obtain ⟨rfl, h6, h7, h8, h9⟩ := h5
      obtain ⟨tx, ht⟩ := lk_ok hK h6
      exact key ⟨h2, h3, h1, ik, k, tx, gd_mem (lk_ok hK h4) rfl, List.mem_of_getElem? ht, hd, h7, Or.inr ⟨hd4, h8, h9⟩⟩
    · cases h5
  · cases hok
theorem t8 (F : Fx P m d sc p l e R s mid args below meth c D aC ad0 n0 M0 A) {a b pos len : Nat} {fl : List Nat} {j : Instr} (hu : u ≤ (P m).1.2.2.2.2.1) (hd : decode (P m).1.2.1 pc = .ok (j, len)) (hok : ok8 P sc m pc a b len = true) (hJ : ∀ u b L S σ, J u b L S σ = some (o, σ') → u ≤ (P m).1.2.2.2.2.1 → WG P m p l e R s mid args below meth c D aC ad0 n0 M0 A Q (pcB P m b) u L S σ) (h : goT J C u L S σ (8, j, a, b, pos, fl) = some (o, σ')) : WG P m p l e R s mid args below meth c D aC ad0 n0 M0 A Q pc u L S σ := by
  replace h : goRd J u a L S σ j b = some (o, σ') := h
  unfold ok8 at hok
  simp only [Bool.and_eq_true, Bool.or_eq_true, decide_eq_true_eq] at hok
  obtain ⟨rfl, h1, h2⟩ := hok
  unfold goRd at h
  split at h
  · split at h
    · split at h
      · rename_i hx
        exact s_iald F hx hd (by rw [← h1]; exact hJ _ _ _ _ _ h hu)
      · cases h
    · rename_i hb
      have hsc : sc = true := by
        rcases h2 with h2 | h2
        · exact absurd h2 hb
        · exact h2
      split at h
      · split at h
        · rename_i hx
          exact s_sld F hsc hx hd (by rw [← h1]; exact hJ _ _ _ _ _ h hu)
        · cases h
      · cases h
  · split at h
    · rename_i hx
      exact s_cald F hx hd (by rw [← h1]; exact hJ _ _ _ _ _ h hu)
    · cases h
  · split at h
    · rename_i hx
      exact s_lald F hx hd (by rw [← h1]; exact hJ _ _ _ _ _ h hu)
    · cases h
  · split at h
    · rename_i hx
      exact s_dald F hx hd (by rw [← h1]; exact hJ _ _ _ _ _ h hu)
    · cases h
  · split at h
    · split at h
      · rename_i hx
        exact s_alen F hx hd (by rw [← h1]; exact hJ _ _ _ _ _ h hu)
      · cases h
    · rename_i hb
      have hsc : sc = true := by
        rcases h2 with h2 | h2
        · exact absurd h2 hb
        · exact h2
      split at h
      · exact s_slen F hsc hd (by rw [← h1]; exact hJ _ _ _ _ _ h hu)
      · cases h
  · split at h
    · rename_i hx
      exact s_dadd F hx hd (by rw [← h1]; exact hJ _ _ _ _ _ h hu)
    · cases h
  · split at h
    · rename_i hx
      exact s_ddiv F hx hd (by rw [← h1]; exact hJ _ _ _ _ _ h hu)
    · cases h
  · cases h
theorem t9 (F : Fx P m d sc p l e R s mid args below meth c D aC ad0 n0 M0 A) {a b pos len : Nat} {fl : List Nat} {j : Instr} (hu : u ≤ (P m).1.2.2.2.2.1) (hd : decode (P m).1.2.1 pc = .ok (j, len)) (hK : ∀ i, lkP P (K i)) (ho : (P m).1.1.cls = cN (Z m).2.1) (hok : ok9 P K (Z m).2.1 m pc a pos j len = true) (hJ : ∀ u b L S σ, J u b L S σ = some (o, σ') → u ≤ (P m).1.2.2.2.2.1 → WG P m p l e R s mid args below meth c D aC ad0 n0 M0 A Q (pcB P m b) u L S σ) (h : goT J C u L S σ (9, j, a, b, pos, fl) = some (o, σ')) : WG P m p l e R s mid args below meth c D aC ad0 n0 M0 A Q pc u L S σ := by
  replace h : goWr J u a L S σ j = some (o, σ') := h
  unfold ok9 at hok
  rw [Bool.and_eq_true, decide_eq_true_eq] at hok
  obtain ⟨h1, hok⟩ := hok
  unfold goWr at h
  split at h
  · have e1 : len = 1 := of_decide_eq_true hok
    subst e1
    split at h
    · rename_i hx
      exact s_iast F hx hd (by rw [← h1]; exact hJ _ _ _ _ _ h hu)
    · cases h
  · have e1 : len = 1 := of_decide_eq_true hok
    subst e1
    split at h
    · rename_i hx
      exact s_cast F hx.1 hx.2 hd (by rw [← h1]; exact hJ _ _ _ _ _ h hu)
    · cases h
  · have e1 : len = 1 := of_decide_eq_true hok
    subst e1
    split at h
    · rename_i hx
      exact s_last F hx hd (by rw [← h1]; exact hJ _ _ _ _ _ h hu)
    · cases h
  · have e1 : len = 1 := of_decide_eq_true hok
    subst e1
    split at h
    · rename_i hx
      exact s_dast F hx hd (by rw [← h1]; exact hJ _ _ _ _ _ h hu)
    · cases h
  · have hok := hok
    simp only [Bool.and_eq_true, decide_eq_true_eq] at hok
    obtain ⟨rfl, h2⟩ := hok
    split at h
    · rename_i hx
      obtain ⟨⟨rfl, rfl, h3⟩, h4, h5, h6⟩ := hx
      exact s_copy F h3 h4 h5 h6 (by rw [ho]; exact lk_ok hK h2) hd (by rw [← h1]; exact hJ _ _ _ _ _ h hu)
    · cases h
  · cases h
theorem nul_ok {v : Value} {z : Nat} : nulB v z = true → v = match z with
  | 0 => .int 0
  | _ => .null := by
  intro h
  unfold nulB at h
  split at h
  · have := of_decide_eq_true h
    subst this
    rfl
  · rfl
  · cases h
theorem t10 (F : Fx P m d sc p l e R s mid args below meth c D aC ad0 n0 M0 A) {a b pos len : Nat} {fl : List Nat} {j : Instr} (hd : decode (P m).1.2.1 pc = .ok (j, len)) (hK : ∀ i, lkP P (K i)) (ho : (P m).1.1.cls = cN (Z m).2.1) (hok : ok10 P K (Z m).2.1 m pc a b pos fl j len = true) (hJ : ∀ u b L S σ, J u b L S σ = some (o, σ') → u ≤ (P m).1.2.2.2.2.1 → WG P m p l e R s mid args below meth c D aC ad0 n0 M0 A Q (pcB P m b) u L S σ) (h : goT J C u L S σ (10, j, a, b, pos, fl) = some (o, σ')) : WG P m p l e R s mid args below meth c D aC ad0 n0 M0 A Q pc u L S σ := by
  unfold ok10 at hok
  split at hok
  · rename_i cm q fs
    replace h : goNw J u a b L S σ j cm q fs = some (o, σ') := h
    rw [Bool.and_eq_true, decide_eq_true_eq] at hok
    obtain ⟨rfl, hok⟩ := hok
    unfold goNw at h
    split at h
    · simp only [Bool.and_eq_true, decide_eq_true_eq] at hok
      obtain ⟨⟨rfl, h1⟩, h2⟩ := hok
      split at h2
      · rename_i c9 hc9
        simp only [Bool.and_eq_true, decide_eq_true_eq] at h2
        obtain ⟨⟨h3, h4⟩, h5, h6⟩ := h2
        obtain ⟨c8, hc8, h5⟩ := lk_ok hK h5
        have hc8 : mcl[b]? = some c8 := hc8
        cases hc9.symm.trans hc8
        obtain ⟨i1, i2, j1, j2⟩ := cls_at b c9 hc9
        split at h
        · rename_i hu
          have hu := of_decide_eq_true hu
          exact s_new (i3 := 0) F hu hc9 h3 (fun j hj => nul_ok (List.all_eq_true.mp h6 j (List.mem_range.mpr hj))) (by rw [ho]; exact h5) j1 j2 h4 hd (by rw [← h1]; exact hJ _ _ _ _ _ h hu)
        · cases h
      · cases h2
    · simp only [Bool.and_eq_true, decide_eq_true_eq] at hok
      obtain ⟨⟨rfl, h1⟩, rfl, h2⟩ := hok
      split at h
      · rename_i hu
        simp only [Bool.and_eq_true, decide_eq_true_eq] at hu
        exact s_newa F hu.1 h2 hu.2 hd (by rw [← h1]; exact hJ _ _ _ _ _ h hu.1)
      · cases h
    · simp only [Bool.and_eq_true, decide_eq_true_eq] at hok
      obtain ⟨⟨rfl, h1⟩, h2, h3⟩ := hok
      split at h3
      · rename_i k l2 hd2
        simp only [Bool.and_eq_true, decide_eq_true_eq] at h3
        obtain ⟨rfl, h4⟩ := h3
        split at h
        · rename_i hu hk
          simp only [Bool.and_eq_true, decide_eq_true_eq] at hu
          exact s_clone F hu.1 hu.2 hk (by rw [ho]; exact lk_ok hK h2) (by rw [ho]; exact lk_ok hK h4) hd hd2 (by rw [← h1]; exact hJ _ _ _ _ _ h hu.1)
        · cases h
      · cases h3
    · cases h
  · cases hok
/-- what is asked of all methods and links -/
def okZ (P : mP) (K : mK) (Z : mZ) (N : Nat) : Prop := (∀ i, lkP P (K i)) ∧ ∀ a, a < N → (mOk P a (decide ((Z a).1 = 1)) ∧ ((Z a).1 = 2 → (P a).1.1.name = "<init>") ∧ ((Z a).1 = 0 → (P a).1.1.name ≠ "<init>")) ∧ (P a).1.1.cls = cN (Z a).2.1
theorem t6 (F : Fx P m d sc p l e R s mid args below meth c D aC ad0 n0 M0 A) {a b pos len : Nat} {fl : List Nat} {j : Instr} (hd : decode (P m).1.2.1 pc = .ok (j, len)) (ho : (P m).1.1.cls = cN (Z m).2.1) (hok : ok6 P K Z N m pc a b pos fl j len = true) (hZ : okZ P K Z N) (hF : Fin P m p l e R s mid args below meth c D aC ad0 n0 M0 A Q o σ') (hC : ∀ a as σ o1 σ1, a < N → as.all nj = true → as.length = (P a).1.2.2.2.2.2.1 → C a as σ = some (o1, σ1) → ∃ d', d = d' + 1 ∧ cMet P l a d' as σ o1 σ1)
    (hJ : ∀ u b L S σ, J u b L S σ = some (o, σ') → u ≤ (P m).1.2.2.2.2.1 → WG P m p l e R s mid args below meth c D aC ad0 n0 M0 A Q (pcB P m b) u L S σ) (h : goT J C u L S σ (6, j, a, b, pos, fl) = some (o, σ')) : WG P m p l e R s mid args below meth c D aC ad0 n0 M0 A Q pc u L S σ := by
  unfold ok6 at hok
  split at hok
  · rename_i n cc cm rc hs
    rw [Bool.and_eq_true] at hok
    obtain ⟨hk, hok⟩ := hok
    simp only [Bool.and_eq_true, decide_eq_true_eq] at hk
    obtain ⟨⟨haN, rfl⟩, ⟨hn, rfl⟩, rfl, hpb, hhs⟩ := hk
    have hK := hZ.1
    obtain ⟨⟨hz, hz2, hz0⟩, hcl⟩ := hZ.2 a haN
    replace h : (match ((decide (n ≤ S.length) && decide (c2sum (S.drop n) ≤ 8)) && decide (u + (P a).1.2.2.2.2.1 ≤ (P m).1.2.2.2.2.1)) && ((S.take n).all nj && rcvOk σ (S.take n).reverse rc) with
      | true => callK (C a (S.take n).reverse σ) (fun v σ1 => J (u + (P a).1.2.2.2.2.1) b L (psh v (S.drop n)) σ1) (fun e σ1 => match hs.getD e 1 with
        | 0 => some (.inr e, σ1)
        | 1 => none
        | t + 2 => J (u + (P a).1.2.2.2.2.1) t L [vj] σ1)
      | false => none) = some (o, σ') := h
    split at h
    · rename_i hd0
      simp only [Bool.and_eq_true, decide_eq_true_eq] at hd0
      obtain ⟨⟨⟨h1, h2⟩, h3⟩, h4, h5⟩ := hd0
      cases hc : C a (S.take n).reverse σ with
      | none => rw [hc] at h; exact (no_some h).elim
      | some q =>
        obtain ⟨o1, σ1⟩ := q
        rw [hc] at h
        obtain ⟨d', hd', hM⟩ := hC _ _ _ _ _ haN (by rw [List.all_reverse]; exact h4) (by rw [List.length_reverse, List.length_take, ← hn]; omega) hc
        have kr : ∀ v, o1 = .inl v → WG P m p l e R s mid args below meth c D aC ad0 n0 M0 A Q (pc + 3) (u + (P a).1.2.2.2.2.1) L (psh v (S.drop n)) σ1 := by
          intro v hv
          subst hv
          rw [← hpb]
          exact hJ _ _ _ _ _ h h3
        have kx : ∀ ex, o1 = .inr ex → XG P m p l e R s mid args below meth c D aC ad0 n0 M0 A Q pc (u + (P a).1.2.2.2.2.1) L (S.drop n) σ1 ex := by
          intro ex hx
          subst hx
          replace h : (match hs.getD ex 1 with
            | 0 => some (.inr ex, σ1)
            | 1 => none
            | t + 2 => J (u + (P a).1.2.2.2.2.1) t L [vj] σ1) = some (o, σ') := h
          unfold hOk at hhs
          split at hhs
          · rename_i hnil
            split at h
            · cases h
              exact hF.2.2 ex rfl pc _ L _ h3 hnil
            · cases h
            · rename_i t ht
              rw [List.getD_eq_getElem?_getD] at ht
              cases hq : hs[ex]? with
              | none => rw [hq] at ht; simp at ht
              | some w =>
                rw [hq] at ht
                have := of_decide_eq_true (List.all_eq_true.mp hhs w (List.mem_of_getElem? hq))
                have ht : w = t + 2 := ht
                omega
          · rename_i q0 hh ht0
            simp only [Bool.and_eq_true, decide_eq_true_eq] at hhs
            obtain ⟨f0, f2, f3⟩ := hhs
            have f1 : (P m).1.1.cls = RL := by rw [ho, f0]; rfl
            by_cases hex : ex < 5
            · have f4 := List.all_eq_true.mp f3 ex (List.mem_range.mpr hex)
              split at f4
              · cases f4
              · rename_i hg
                rw [hg] at h
                cases h
              · rename_i t hg
                rw [hg] at h
                exact catch_ok F f1 ht0 (of_decide_eq_true f4) (hJ _ _ _ _ _ h h3)
            · have hg : hs.getD ex 1 = 1 := by
                rw [List.getD_eq_getElem?_getD, List.getElem?_eq_none (by omega)]
                rfl
              rw [hg] at h
              cases h
        split at hok
        · split at hok
          · cases hok
          · rename_i ci
            simp only [Bool.and_eq_true, decide_eq_true_eq] at hok
            obtain ⟨⟨k1, k0, k2, k3⟩, k5⟩ := hok
            obtain ⟨q, hq⟩ : ∃ q, mcl[ci]? = some q := ⟨_, List.getElem?_eq_getElem k0⟩
            rw [k2] at hz
            exact s_callV F h1 h2 h3 h4 h5 hq ((mcl_cN _ _ hq).trans (by rw [k1]; exact hcl.symm)) hd' hz k3 hn (hz0 k2) (by rw [ho]; exact lk_ok hK k5) hd hM kr kx
        · simp only [Bool.and_eq_true, Bool.or_eq_true, decide_eq_true_eq] at hok
          obtain ⟨k2, k5⟩ := hok
          rw [k2] at hz
          by_cases k3 : (P a).1.2.2.2.2.2.2 = []
          · rcases k5 with k5 | ⟨-, k5⟩
            · exact s_callS F h1 h2 h3 h4 hd' hz k3 hn (by rw [ho]; exact lk_ok hK k5) hd hM kr kx
            · obtain ⟨host, k6⟩ := lk_ok hK k5
              exact s_callSN F h1 h2 h3 h4 hd' hz k3 hn (by rw [ho]; exact k6) hd hM kr kx
          · rcases k5 with k5 | ⟨k4, -⟩
            · exact s_callSX F h1 h2 h3 h4 hd' hz k3 hn (by rw [ho]; exact lk_ok hK k5) hd hM kr kx
            · exact absurd k4 k3
        · split at hok
          · cases hok
          · rename_i ci
            rw [Bool.and_eq_true, Bool.or_eq_true] at hok
            obtain ⟨hk, k5⟩ := hok
            simp only [Bool.and_eq_true, decide_eq_true_eq] at hk
            obtain ⟨k2, k3, k6⟩ := hk
            have k4 := hz2 k2
            rw [k2] at hz
            rcases k5 with k5 | k5
            · exact s_callI F h1 h2 h3 h4 h5 hd' hz k3 hn k4 k6 (by rw [ho]; exact lk_ok hK k5) hd hM kr kx
            · obtain ⟨host, k7⟩ := lk_ok hK k5
              exact s_callIN F h1 h2 h3 h4 h5 hd' hz k3 hn k4 k6 (by rw [ho]; exact k7) hd hM kr kx
        · cases hok
    · cases h
  · cases hok
theorem term_ok (F : Fx P m d sc p l e R s mid args below meth c D aC ad0 n0 M0 A) {i : mI} (hu : u ≤ (P m).1.2.2.2.2.1) (ho : (P m).1.1.cls = cN (Z m).2.1) (hok : okT P K Z N sc m pc i = true) (hZ : okZ P K Z N) (hF : Fin P m p l e R s mid args below meth c D aC ad0 n0 M0 A Q o σ') (hC : ∀ a as σ o1 σ1, a < N → as.all nj = true → as.length = (P a).1.2.2.2.2.2.1 → C a as σ = some (o1, σ1) → ∃ d', d = d' + 1 ∧ cMet P l a d' as σ o1 σ1)
    (hJ : ∀ u b L S σ, J u b L S σ = some (o, σ') → u ≤ (P m).1.2.2.2.2.1 → WG P m p l e R s mid args below meth c D aC ad0 n0 M0 A Q (pcB P m b) u L S σ) (h : goT J C u L S σ i = some (o, σ')) : WG P m p l e R s mid args below meth c D aC ad0 n0 M0 A Q pc u L S σ := by
  obtain ⟨k, ins, a, b, pos, fl⟩ := i
  unfold okT at hok
  split at hok
  · rename_i hk
    have hk : k = 1 := of_decide_eq_true hk
    subst hk
    have e1 : pcB P m a = pc := of_decide_eq_true hok
    subst e1
    exact hJ _ _ _ _ _ h hu
  · split at hok
    · cases hok
    · rename_i j len hd
      rw [Bool.and_eq_true, decide_eq_true_eq] at hok
      obtain ⟨e1, hok⟩ := hok
      have e1 : ins = j := e1
      subst e1
      split at hok
      · rename_i hk
        have hk : k = 2 := hk
        subst hk
        split at hok
        · simp only [Bool.and_eq_true, decide_eq_true_eq] at hok
          obtain ⟨rfl, h1⟩ := hok
          exact s_goto F hd h1 (hJ _ _ _ _ _ h hu)
        · cases hok
      · rename_i hk
        have hk : k = 3 := hk
        subst hk
        exact t3 F hu hd hok hJ h
      · rename_i hk
        have hk : k = 4 := hk
        subst hk
        exact t4 F hu hd hok hJ h
      · rename_i hk
        have hk : k = 5 := hk
        subst hk
        exact t5 F hu hd hok hF h
      · rename_i hk
        have hk : k = 6 := hk
        subst hk
        exact t6 F hd ho hok hZ hF hC hJ h
      · rename_i hk
        have hk : k = 7 := hk
        subst hk
        exact t7 F hd hZ.1 ho hok hF h
      · rename_i hk
        have hk : k = 8 := hk
        subst hk
        exact t8 F hu hd hok hJ h
      · rename_i hk
        have hk : k = 9 := hk
        subst hk
        exact t9 F hu hd hZ.1 ho hok hJ h
      · rename_i hk
        have hk : k = 10 := hk
        subst hk
        exact t10 F hd hZ.1 ho hok hJ h
      · cases hok
theorem chk_ok (F : Fx P m d sc p l e R s mid args below meth c D aC ad0 n0 M0 A) (hK : ∀ i, lkP P (K i)) (ho : (P m).1.1.cls = cN (Z m).2.1) (hu : u ≤ (P m).1.2.2.2.2.1) : ∀ (code : List mI) (pc : Nat) (st st' : mSt) (i : mI), chkL P K Z N sc m pc code = true → runS code st = some (st', i) → ∃ pc', okT P K Z N sc m pc' i = true ∧ (WG P m p l e R s mid args below meth c D aC ad0 n0 M0 A Q pc' u st'.1 st'.2.1 st'.2.2 → WG P m p l e R s mid args below meth c D aC ad0 n0 M0 A Q pc u st.1 st.2.1 st.2.2)
  | [], pc, st, st', i, _, hr => by cases hr
  | j :: r, pc, st, st', i, hc, hr => by
    obtain ⟨k, ins, a, b, pos, fl⟩ := j
    obtain ⟨L, S, σ⟩ := st
    cases k with
    | zero =>
      unfold chkL at hc
      have hc : (match decode (P m).1.2.1 pc with
        | .error _ => false
        | .ok (j, len) => (decide (ins = j) && okI P K (Z m).2.1 m j a b pos (fl.headD 0) len) && chkL P K Z N sc m (pc + len) r) = true := hc
      split at hc
      · cases hc
      · rename_i j len hd
        simp only [Bool.and_eq_true, decide_eq_true_eq] at hc
        obtain ⟨⟨rfl, h1⟩, h2⟩ := hc
        unfold runS at hr
        have hr : (match sem ins a b (fl.headD 0) L S σ with
          | some st' => runS r st'
          | none => none) = some (st', i) := hr
        split at hr
        · rename_i st2 hs
          obtain ⟨L2, S2, σ2⟩ := st2
          obtain ⟨pc', h3, h4⟩ := chk_ok F hK ho hu r (pc + len) _ _ _ h2 hr
          exact ⟨pc', h3, fun g => str_ok hK ho F hu hd h1 hs (h4 g)⟩
        · cases hr
    | succ k =>
      cases hr
      exact ⟨pc, hc, id⟩
end TE
