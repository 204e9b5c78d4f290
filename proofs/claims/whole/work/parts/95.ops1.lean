/-! OPERATIONS: QUERIES -/
variable {K : KK}
def Bt (M : mM) (n : Nat) (t : Tr) : Prop := Bs M n t ∧ TD M t
theorem Bt.I {M : mM} {n : Nat} {t : Tr} (h : Bt M n t) : Iv M := h.1.1
theorem Bt.n {M : mM} {n : Nat} {t : Tr} (h : Bt M n t) : M 7 4 = (n : Int) := h.1.2.1.1
theorem Bt.l {M : mM} {n : Nat} {t : Tr} (h : Bt M n t) : n ≤ 200 := h.1.2.1.2
theorem Bt.C {M : mM} {n : Nat} {t : Tr} (h : Bt M n t) : CT M n t := h.1.CT h.2
theorem Bt.nd {M : mM} {n : Nat} {t : Tr} (h : Bt M n t) : (ks t).Nodup := h.1.2.2.2.1.2.1
theorem Bt.lt {M : mM} {n : Nat} {t : Tr} (h : Bt M n t) : ∀ x ∈ ks t, x < n := h.1.2.2.2.1.2.2
theorem Bt.M {M : mM} {n : Nat} {t : Tr} (h : Bt M n t) : MT M n t := h.1.2.2.2.2.1
theorem fil_mono {α : Type} (l : List α) {p q : α → Bool} (h : ∀ x ∈ l, p x = true → q x = true) : (l.filter p).length ≤ (l.filter q).length := by
  induction l with
  | nil => exact Nat.le_refl _
  | cons a l ih =>
    have i := ih (fun x hx => h x (List.mem_cons_of_mem _ hx))
    have ha := h a List.mem_cons_self
    rw [List.filter_cons, List.filter_cons]
    cases hp : p a with
    | true =>
      rw [ha hp, if_pos rfl, if_pos rfl, List.length_cons, List.length_cons]
      omega
    | false =>
      rw [if_neg (by decide)]
      by_cases c : q a = true
      · rw [if_pos c, List.length_cons]; omega
      · rw [if_neg c]; exact i
theorem Bt.v {M : mM} {n : Nat} {t : Tr} (h : Bt M n t) : (visL M n).length ≤ 60 := by
  have h60 := h.1.2.2.1.2
  have : (visL M n).length ≤ liveN M n := by
    unfold visL liveN
    rw [List.length_map]
    refine fil_mono _ fun i hi hp => ?_
    have hi2 := List.mem_range.mp hi
    have e := p32_alv h.n h.l hi2
    unfold p125 at hp
    cases hc : p32 (i : Int) M with
    | false => rw [hc] at hp; cases hp
    | true =>
      rw [hc] at e
      exact e.symm
  omega
theorem Bt.fq {M M' : mM} {n : Nat} {t : Tr} (h : Bt M n t) (f : fq M M') : Bt M' n t := by
  refine ⟨Bs_c (fun k hk => f.1 k ?_) h.1, TD_c (fun k hk => f.1 k ?_) h.2⟩
  · simp only [List.mem_cons, List.not_mem_nil, or_false] at hk ⊢; omega
  · simp only [List.mem_cons, List.not_mem_nil, or_false] at hk ⊢; omega
theorem fq.rf {M : mM} : fq M M := ⟨same.rf, fun _ _ => rfl⟩
theorem p31_k {M M' : mM} (h : cq M M') (x : Int) : p31 x M' = p31 x M := cp31 (h 7 (by decide)) x
theorem p32_k {M M' : mM} (h : cq M M') (x : Int) : p32 x M' = p32 x M := cp32 (h 7 (by decide)) (h 11 (by decide)) x
theorem p125_k {M M' : mM} (h : cq M M') (x : Int) : p125 x M' = p125 x M := cp125 (h 7 (by decide)) (h 10 (by decide)) (h 11 (by decide)) (h 38 (by decide)) x
theorem sc {ks : List Nat} {M M1 : mM} (s : same ks M M1) (h : 3 ∉ ks ∧ 4 ∉ ks) : M1 3 = M 3 ∧ M1 4 = M 4 := ⟨s 3 h.1, s 4 h.2⟩
/-- an operation that may throw, of the class and then of the model -/
def Op (K : KK) (D w : Nat) (aw : List mV) (m : Nat) (am : List mV) (M : mM) : Prop := ∃ (k b : Int) (M1 M2 : mM), (M1 3 = M 3 ∧ M1 4 = M 4) ∧ run prog D w aw (shp, M) = some (.inl (some (vi k)), (shp, M1)) ∧ run prog D m am (shp, M1) = some (.inl (some (vi b)), (shp, M2)) ∧ M2 87 3 = k ∧ (k = 0 → M2 96 0 = b) ∧ Inv K M2
theorem Op_r {D w : Nat} {aw : List mV} {m : Nat} {am : List mV} {M M1 : mM} (hI : Inv K M) (f : fq M M1) (r : Int) (hw : run prog D w aw (shp, M) = some (.inl (some (vi 0)), (shp, mset M1 96 0 r))) (hm : run prog D m am (shp, mset M1 96 0 r) = some (.inl (some (vi r)), (shp, mset (mset M1 96 0 r) 87 3 0))) : Op K D w aw m am M :=
  ⟨0, r, _, _, sc (f.tr fq_out).1 (by decide), hw, hm, mset_at _ _ _ _, fun _ => (mset_k (by decide)).trans (mset_at _ _ _ _), hI.fq ((f.tr fq_out).tr fq_thr)⟩
theorem Op_x {D w : Nat} {aw : List mV} {m : Nat} {am : List mV} {M M1 : mM} (hI : Inv K M) (f : fq M M1) {k b : Int} (hk : k ≠ 0) (hw : run prog D w aw (shp, M) = some (.inl (some (vi k)), (shp, M1))) (hm : run prog D m am (shp, M1) = some (.inl (some (vi b)), (shp, mset (mset M1 87 3 0) 87 3 k))) : Op K D w aw m am M :=
  ⟨k, b, _, _, sc f.1 (by decide), hw, hm, mset_at _ _ _ _, fun e => absurd e hk, hI.fq ((f.tr fq_thr).tr fq_thr)⟩
/-- an operation that throws nothing -/
def Op0 (K : KK) (D w : Nat) (aw : List mV) (m : Nat) (am : List mV) (M : mM) : Prop := ∃ (b : Int) (M1 M2 : mM), (M1 3 = M 3 ∧ M1 4 = M 4) ∧ run prog D w aw (shp, M) = some (.inl (some (vi b)), (shp, M1)) ∧ run prog D m am (shp, M1) = some (.inl (some (vi b)), (shp, M2)) ∧ Inv K M2
def OpD (K : KK) (D w : Nat) (aw : List mV) (m : Nat) (am : List mV) (M : mM) : Prop := ∃ (b : UInt64) (M1 M2 : mM), (M1 3 = M 3 ∧ M1 4 = M 4) ∧ run prog D w aw (shp, M) = some (.inl (some (vd b)), (shp, M1)) ∧ run prog D m am (shp, M1) = some (.inl (some (vd b)), (shp, M2)) ∧ Inv K M2
section OQ
variable {M : mM}
theorem op2 (hI : Inv K M) (d : Nat) (x : Int) : Op0 K (d + 600) 77 [vr 5, vi x] 78 [vr 87, vi x] M := by
  obtain ⟨n, t, b⟩ := hI.1
  have b : Bt M n t := b
  exact ⟨_, _, _, ⟨rfl, rfl⟩, s77 (d + 597) x M, sp78 b.I (d + 596) x, hI.fq fq_thr⟩
theorem op3 (hI : Inv K M) (d : Nat) (x y : Int) : Op K (d + 600) 82 [vr 5, vi x, vi y, vr 96] 84 [vr 87, vi x, vi y] M := by
  obtain ⟨n, t, b⟩ := hI.1
  have b : Bt M n t := b
  have c := s81 (d + 596) x y M
  unfold o81 at c
  have f : ∀ r : Int, fq M (mset M 96 0 r) := fun r => fq_out
  cases h : p31 x M with
  | false =>
    rw [h, if_pos (show bi false = 0 from rfl)] at c
    have m := sp84 b.I (d + 597) x y
    rw [h] at m
    exact Op_x hI fq.rf (by decide) (w82_x2 (d + 599) x y M M c) m
  | true =>
    rw [h, if_neg (show ¬ bi true = 0 by decide)] at c
    by_cases h0 : x < 0 ∨ y < 0 ∨ 3 ≤ y
    · have m := sp84 b.I (d + 597) x y
      have c : run prog (d + 599) 81 [vr 5, vi x, vi y] (shp, M) = some (.inr 0, (shp, M)) := by
        rw [show d + 599 = d + 596 + 3 from rfl, c]
        have hx : ¬ x < 0 := fun q => by rw [p31_iff b.n, decide_eq_true_eq] at h; omega
        by_cases q : y < 0
        · rw [if_pos q]
        · rw [if_neg q, if_neg (by omega)]
      have hx : ¬ x < 0 := fun q => by rw [p31_iff b.n, decide_eq_true_eq] at h; omega
      rw [h, decide_eq_false (by omega)] at m
      exact Op_x hI fq.rf (by decide) (w82_x0 (d + 599) x y M M c) m
    · rw [if_neg (by omega), if_pos (by omega)] at c
      have m := sp84 (b.fq (f (r20 x y M))).I (d + 597) x y
      rw [p31_k (f _).cq, h, decide_eq_true (by omega), cr20 ((f (r20 x y M)).cq 8 (by decide))] at m
      exact Op_r hI fq.rf _ (w82_r (d + 599) x y M M _ c) m
theorem op4 (hI : Inv K M) (d : Nat) (x : Int) : Op K (d + 600) 86 [vr 5, vi x, vr 96] 87 [vr 87, vi x] M := by
  obtain ⟨n, t, b⟩ := hI.1
  have b : Bt M n t := b
  have c := s85 (d + 596) x M
  unfold o85 at c
  have f : ∀ r : Int, fq M (mset M 96 0 r) := fun r => fq_out
  cases h : p31 x M with
  | false =>
    rw [h, if_pos (show bi false = 0 from rfl)] at c
    have m := sp87 b.I (d + 597) x
    rw [h] at m
    exact Op_x hI fq.rf (by decide) (w86_x2 (d + 599) x M M c) m
  | true =>
    rw [h, if_neg (show ¬ bi true = 0 by decide)] at c
    have m := sp87 (b.fq (f (va M 9 200 x))).I (d + 597) x
    rw [p31_k (f _).cq, h, va_c ((f (va M 9 200 x)).cq 9 (by decide))] at m
    exact Op_r hI fq.rf _ (w86_r (d + 599) x M M _ c) m
theorem op5 (hI : Inv K M) (d : Nat) (x : Int) : Op K (d + 600) 89 [vr 5, vi x, vr 96] 90 [vr 87, vi x] M := by
  obtain ⟨n, t, b⟩ := hI.1
  have b : Bt M n t := b
  have c := s88 (d + 596) x M
  unfold o88 at c
  have f : ∀ r : Int, fq M (mset M 96 0 r) := fun r => fq_out
  cases h : p31 x M with
  | false =>
    rw [h, if_pos (show bi false = 0 from rfl)] at c
    have m := sp90 b.I (d + 597) x
    rw [h] at m
    exact Op_x hI fq.rf (by decide) (w89_x2 (d + 599) x M M c) m
  | true =>
    rw [h, if_neg (show ¬ bi true = 0 by decide)] at c
    have m := sp90 (b.fq (f (va M 10 200 x))).I (d + 597) x
    rw [p31_k (f _).cq, h, va_c ((f (va M 10 200 x)).cq 10 (by decide))] at m
    exact Op_r hI fq.rf _ (w89_r (d + 599) x M M _ c) m
theorem op21 (hI : Inv K M) (d : Nat) (x : Int) : Op K (d + 600) 159 [vr 5, vi x, vr 96] 163 [vr 87, vi x] M := by
  obtain ⟨n, t, b⟩ := hI.1
  have b : Bt M n t := b
  have c := sp158 b.I (d + 594) x
  have f : ∀ r : Int, fq M (mset M 96 0 r) := fun r => fq_out
  cases h : p31 x M with
  | false =>
    rw [h] at c
    have m := sp163 b.I (d + 596) x
    rw [h] at m
    exact Op_x hI fq.rf (by decide) (w159_x2 (d + 599) x M M c) m
  | true =>
    rw [h] at c
    have m := sp163 (b.fq (f (dq M x.toNat))).I (d + 596) x
    rw [p31_k (f _).cq, h, dq_k (f _).cq] at m
    exact Op_r hI fq.rf _ (w159_r (d + 599) x M M _ c) m
theorem op22 (hI : Inv K M) (d : Nat) (x : Int) : Op K (d + 600) 167 [vr 5, vi x, vr 96] 169 [vr 87, vi x] M := by
  obtain ⟨n, t, b⟩ := hI.1
  have b : Bt M n t := b
  have c := sp166 b.I (d + 594) b.C x
  have f : ∀ r : Int, fq M (mset M 96 0 r) := fun r => fq_out
  cases h : hasB M t x with
  | false =>
    rw [h] at c
    have m := sp169 b.I b.n (d + 388) b.M b.nd b.lt x
    rw [h] at m
    exact Op_x hI fq.rf (by decide) (w167_x2 (d + 599) x M M c) m
  | true =>
    rw [h] at c
    have b' := b.fq (f (bdT M (subT t x.toNat)))
    have m := sp169 b'.I b'.n (d + 388) b'.M b'.nd b'.lt x
    rw [hasB_k (f _).cq, h, bdT_k (f _).cq] at m
    exact Op_r hI fq.rf _ (w167_r (d + 599) x M M _ c) m
theorem fq_75 {M M' : mM} (h : same [73, 74, 75] M M') : fq M M' := fq_s h (by decide)
theorem fq_74 {M M' : mM} (h : same [73, 74] M M') : fq M M' := fq_s h (by decide)
theorem fq_72 {M M' : mM} (h : same [72, 73, 74] M M') : fq M M' := fq_s h (by decide)
theorem op23 (hI : Inv K M) (d : Nat) (x : Int) : Op K (d + 600) 174 [vr 5, vi x, vr 96] 176 [vr 87, vi x] M := by
  obtain ⟨n, t, b⟩ := hI.1
  have b : Bt M n t := b
  obtain ⟨M1, c, s⟩ := sp173 b.I (d + 592) b.n b.v x
  cases h : nth M n x with
  | none =>
    rw [h] at c
    have f : fq M M1 := fq_75 s
    have m := sp176 (b.fq f).I (d + 594) (b.fq f).n x
    rw [nth_k f.cq, h] at m
    exact Op_x hI f (by decide) (w174_x2 (d + 599) x M M1 c) m
  | some r =>
    rw [h] at c
    have f : fq M (mset M1 96 0 r) := (fq_75 s).tr fq_out
    have m := sp176 (b.fq f).I (d + 594) (b.fq f).n x
    rw [nth_k f.cq, h] at m
    exact Op_r hI (fq_75 s) r (w174_r (d + 599) x M M1 r c) m
theorem op24 (hI : Inv K M) (d : Nat) : Op K (d + 600) 179 [vr 5, vr 96] 180 [vr 87] M := by
  obtain ⟨n, t, b⟩ := hI.1
  have b : Bt M n t := b
  obtain ⟨M1, c, s⟩ := sp178 b.I (d + 592) b.n b.v
  cases h : farL M (visL M n) with
  | none =>
    rw [h] at c
    have f : fq M M1 := fq_75 s
    have m := sp180 (b.fq f).I (d + 595) (b.fq f).n
    rw [farL_k f.cq, visL_k f.cq, h] at m
    exact Op_x hI f (by decide) (w179_x2 (d + 599) M M1 c) m
  | some r =>
    rw [h] at c
    have f : fq M (mset M1 96 0 r) := (fq_75 s).tr fq_out
    have m := sp180 (b.fq f).I (d + 595) (b.fq f).n
    rw [farL_k f.cq, visL_k f.cq, h] at m
    exact Op_r hI (fq_75 s) r (w179_r (d + 599) M M1 r c) m
theorem op25 (hI : Inv K M) (d : Nat) (x : Int) : Op0 K (d + 600) 182 [vr 5, vi x] 183 [vr 87, vi x] M := by
  obtain ⟨n, t, b⟩ := hI.1
  have b : Bt M n t := b
  obtain ⟨M1, c, s⟩ := sp182 b.I (d + 593) b.n b.v x
  have f : fq M M1 := fq_75 s
  have m := sp183 (b.fq f).I (d + 595) (b.fq f).n x
  rw [nW_k f.cq, visL_k f.cq] at m
  exact ⟨_, _, _, sc f.1 (by decide), c, m, hI.fq (f.tr fq_thr)⟩
theorem op26 (hI : Inv K M) (d : Nat) (x : Int) : OpD K (d + 600) 185 [vr 5, vi x] 186 [vr 87, vi x] M := by
  obtain ⟨n, t, b⟩ := hI.1
  have b : Bt M n t := b
  obtain ⟨M1, c, s⟩ := sp185 b.I (d + 593) b.n b.l b.v x
  have f : fq M M1 := fq_75 s
  have m := sp186 (b.fq f).I (d + 595) (b.fq f).n x
  rw [infL_k f.cq, visL_k f.cq] at m
  exact ⟨_, _, _, sc f.1 (by decide), c, m, hI.fq (f.tr fq_thr)⟩
theorem op27 (hI : Inv K M) (d : Nat) (x : Int) : Op K (d + 600) 191 [vr 5, vi x, vr 96] 193 [vr 87, vi x] M := by
  obtain ⟨n, t, b⟩ := hI.1
  have b : Bt M n t := b
  obtain ⟨M1, c, s⟩ := sp190 b.I (d + 592) b.n x
  cases h : decide (0 ≤ x ∧ x ≤ 2) with
  | false =>
    rw [h] at c
    have f : fq M M1 := fq_72 s
    have m := sp193 (b.fq f).I (d + 594) (b.fq f).n x
    rw [h] at m
    exact Op_x hI f (by decide) (w191_x0 (d + 599) x M M1 c) m
  | true =>
    rw [h] at c
    cases h2 : clo M n with
    | none =>
      rw [h2] at c
      have f : fq M M1 := fq_72 s
      have m := sp193 (b.fq f).I (d + 594) (b.fq f).n x
      rw [clo_k f.cq, h, h2] at m
      exact Op_x hI f (by decide) (w191_x2 (d + 599) x M M1 c) m
    | some r =>
      rw [h2] at c
      have f : fq M (mset M1 96 0 (cloA M r x)) := (fq_72 s).tr fq_out
      have m := sp193 (b.fq f).I (d + 594) (b.fq f).n x
      rw [clo_k f.cq, h, h2] at m
      have m : run prog (d + 600) 193 [vr 87, vi x] (shp, mset M1 96 0 (cloA M r x)) = some (.inl (some (vi (cloA (mset M1 96 0 (cloA M r x)) r x))), (shp, mset (mset M1 96 0 (cloA M r x)) 87 3 0)) := m
      rw [cloA_k f.cq] at m
      exact Op_r hI (fq_72 s) _ (w191_r (d + 599) x M M1 _ c) m
theorem op28 (hI : Inv K M) (d : Nat) (x : Int) : Op K (d + 600) 198 [vr 5, vi x, vr 96] 200 [vr 87, vi x] M := by
  obtain ⟨n, t, b⟩ := hI.1
  have b : Bt M n t := b
  obtain ⟨M1, c, s⟩ := sp197 b.I (d + 592) b.n x
  cases h : p125 x M with
  | false =>
    rw [h] at c
    have f : fq M M1 := fq_74 s
    have m := sp200 (b.fq f).I (d + 594) (b.fq f).n x
    rw [p125_k f.cq, h] at m
    exact Op_x hI f (by decide) (w198_x2 (d + 599) x M M1 c) m
  | true =>
    rw [h] at c
    have f : fq M (mset M1 96 0 (nF M n x (visL M n) : Int)) := (fq_74 s).tr fq_out
    have m := sp200 (b.fq f).I (d + 594) (b.fq f).n x
    rw [p125_k f.cq, h, nF_k f.cq, visL_k f.cq] at m
    exact Op_r hI (fq_74 s) _ (w198_r (d + 599) x M M1 _ c) m
theorem op32 (hI : Inv K M) (d : Nat) : Op0 K (d + 600) 216 [vr 5] 219 [vr 87] M := by
  obtain ⟨n, t, b⟩ := hI.1
  have b : Bt M n t := b
  obtain ⟨M1, c, s⟩ := sp216 (d + 595) M b.n b.l
  have f : fq M M1 := fq_74 s
  have m := sp219 (b.fq f).I (d + 593) (b.fq f).n
  rw [bx_k f.cq] at m
  exact ⟨_, _, _, sc f.1 (by decide), c, m, hI.fq (f.tr fq_thr)⟩
theorem op33 (hI : Inv K M) (d : Nat) (x : Int) : Op K (d + 600) 221 [vr 5, vi x, vr 96] 222 [vr 87, vi x] M := by
  obtain ⟨n, t, b⟩ := hI.1
  have b : Bt M n t := b
  obtain ⟨M1, c, s⟩ := sp220 (d + 594) M b.n b.l x
  cases h : atI (fil (bx M) n) x with
  | none =>
    rw [h] at c
    have f : fq M M1 := fq_74 s
    have m := sp222 (b.fq f).I (d + 593) (b.fq f).n x
    rw [bx_k f.cq, h] at m
    exact Op_x hI f (by decide) (w221_x2 (d + 599) x M M1 c) m
  | some r =>
    rw [h] at c
    have f : fq M (mset M1 96 0 r) := (fq_74 s).tr fq_out
    have m := sp222 (b.fq f).I (d + 593) (b.fq f).n x
    rw [bx_k f.cq, h] at m
    exact Op_r hI (fq_74 s) _ (w221_r (d + 599) x M M1 _ c) m
theorem op34 (hI : Inv K M) (d : Nat) : Op0 K (d + 600) 224 [vr 5] 226 [vr 87] M := by
  obtain ⟨n, t, b⟩ := hI.1
  have b : Bt M n t := b
  obtain ⟨M1, c, s⟩ := sp224 b.I (d + 595) b.n b.l
  have f : fq M M1 := fq_74 s
  have m := sp226 (b.fq f).I (d + 593) (b.fq f).n
  rw [wF_k f.cq, bx_k f.cq] at m
  exact ⟨_, _, _, sc f.1 (by decide), c, m, hI.fq (f.tr fq_thr)⟩
end OQ
