/-! THE CLASS BUILDS -/
theorem wmid {f n : Nat} (h : f + n < 2147483648) : wr ((f : Int) + Int.tdiv (wr (((f + n : Nat) : Int) - (f : Int))) 2) = ((f + n / 2 : Nat) : Int) := by
  rw [show ((f + n : Nat) : Int) - (f : Int) = (n : Int) by omega, wN (by omega), show Int.tdiv (n : Int) 2 = ((n / 2 : Nat) : Int) from rfl, wrR (by omega) (by omega)]
  omega
def tL (M : mM) (x : Tk) : Tk := (x.1, bL M x.2.1 x.2.2.1, x.2.2.1 + 1, ((2 * bm M x.2.1 x.2.2.1 : Nat) : Int))
def tR (M : mM) (x : Tk) : Tk := (x.1 + x.2.1.length / 2 + 1, bR M x.2.1 x.2.2.1, x.2.2.1 + 1, ((2 * bm M x.2.1 x.2.2.1 + 1 : Nat) : Int))
def okX (M : mM) (x : Tk) : Prop := x.2.1 ≠ [] ∧ slc M 28 x.1 x.2.1 ∧ x.1 + x.2.1.length ≤ 200 ∧ (∀ y ∈ x.2.1, y < 200) ∧ okS x.2.2.2 ∧ x.2.2.1 + x.2.1.length ≤ 1000
theorem bm_mem (M : mM) {l : List Nat} (h : l ≠ []) (dp : Nat) : bm M l dp ∈ l := (bS_perm M h dp).mem_iff.mp List.mem_cons_self
theorem bL_sub (M : mM) {l : List Nat} (h : l ≠ []) (dp : Nat) : ∀ y ∈ bL M l dp, y ∈ l := fun y hy => (bS_perm M h dp).mem_iff.mp (List.mem_cons_of_mem _ (List.mem_append.mpr (Or.inl hy)))
theorem bR_sub (M : mM) {l : List Nat} (h : l ≠ []) (dp : Nat) : ∀ y ∈ bR M l dp, y ∈ l := fun y hy => (bS_perm M h dp).mem_iff.mp (List.mem_cons_of_mem _ (List.mem_append.mpr (Or.inr hy)))
theorem sp46 {M : mM} (d : Nat) {i c : Nat} {x : Tk} (hi : i < 60) (hk : okK M i x) (hx : okX M x) (hsl : ∀ y ∈ x.2.1, x.2.2.2 ≠ ((2 * y : Nat) : Int) ∧ x.2.2.2 ≠ ((2 * y + 1 : Nat) : Int)) (hc : M 25 8 = (c : Int)) (h60 : c + x.2.1.length ≤ 61) :
    ∃ M', run prog (d + 5) 46 [vr 25, vi (i : Int)] (shp, M) = some (.inl none, (shp, M')) ∧ same [12, 13, 25, 28, 29, 30, 31, 32] M M' ∧ lkS M' x.2.2.2 = (bm M x.2.1 x.2.2.1 : Int) ∧ M' 13 (2 * bm M x.2.1 x.2.2.1) = -1 ∧ M' 13 (2 * bm M x.2.1 x.2.2.1 + 1) = -1 ∧ (∀ j : Nat, x.2.2.2 ≠ (j : Int) → j ≠ 2 * bm M x.2.1 x.2.2.1 → j ≠ 2 * bm M x.2.1 x.2.2.1 + 1 → M' 13 j = M 13 j) ∧ (x.2.2.2 ≠ -1 → M' 12 11 = M 12 11) ∧
      M' 25 8 = ((c + (nz (tL M x) ++ nz (tR M x)).length : Nat) : Int) ∧ (∀ (j : Nat) (y : Tk), (nz (tL M x) ++ nz (tR M x))[j]? = some y → okK M' (c + j) y) ∧ (∀ j, j < c → M' 29 j = M 29 j ∧ M' 30 j = M 30 j ∧ M' 31 j = M 31 j ∧ M' 32 j = M 32 j) ∧
      slc M' 28 x.1 (bL M x.2.1 x.2.2.1 ++ ([bm M x.2.1 x.2.2.1] ++ bR M x.2.1 x.2.2.1)) ∧ ∀ j, (j < x.1 ∨ x.1 + x.2.1.length ≤ j) → M' 28 j = M 28 j := by
  show ∃ M', ev prog (d + 5) 46 0 0 [vr 25, vi (i : Int), vj, vj, vj, vj, vj] [] (shp, M) = _ ∧ _
  obtain ⟨f, l, dp, sl⟩ := x
  obtain ⟨k1, k2, k3, k4⟩ := hk
  obtain ⟨x1, x2', x3', x4, x5, x6⟩ := hx
  have k1 : M 29 i = (f : Int) := k1
  have k2 : M 30 i = ((f + l.length : Nat) : Int) := k2
  have k3 : M 31 i = (dp : Int) := k3
  have k4 : M 32 i = sl := k4
  have x1 : l ≠ [] := x1
  have x2' : slc M 28 f l := x2'
  have x3' : f + l.length ≤ 200 := x3'
  have x4 : ∀ y ∈ l, y < 200 := x4
  have x5 : okS sl := x5
  have x6 : dp + l.length ≤ 1000 := x6
  have h60 : c + l.length ≤ 61 := h60
  have hlen : 0 < l.length := List.length_pos_iff.mpr x1
  have hn := x4 _ (bm_mem M x1 dp)
  have hsn : sl ≠ ((2 * bm M l dp : Nat) : Int) ∧ sl ≠ ((2 * bm M l dp + 1 : Nat) : Int) := hsl _ (bm_mem M x1 dp)
  have vi0 : ∀ (k : Nat), va M k 60 (i : Int) = M k i := fun k => by rw [va_in ⟨by omega, by omega⟩, Int.toNat_natCast]
  obtain ⟨M1, a1, a2, a3, a4⟩ := sp45 d (M := M) (f := f) (a := dp % 3) (Nat.mod_lt _ (by decide)) x3' x4 x2'
  have a3 : slc M1 28 f (bS M l dp) := a3
  rw [bS_eq M x1 dp] at a3
  have hmid : M1 28 (f + l.length / 2) = (bm M l dp : Int) := by
    have := slc_app.mp (slc_app.mp a3).2
    rw [bL_len] at this
    exact slc_one.mp this.1
  have em : r30c ((f + l.length / 2 : Nat) : Int) M1 = (bm M l dp : Int) := by
    show va M1 28 200 _ = _
    rw [va_in ⟨by omega, by omega⟩, Int.toNat_natCast, hmid]
  obtain ⟨M2, b1, b2, b3, b4, b5, b6, b7⟩ := sp22 (M := M1) (d + 2) x5 hn hsn
  have e32 : va M1 32 60 (i : Int) = sl := by rw [show va M1 32 60 (i : Int) = va M 32 60 (i : Int) from va_c (a2 32 (by decide)) _ _, vi0, k4]
  have hl2 : (bL M l dp).length + (bR M l dp).length + 1 = l.length := by rw [bL_len, bR_len]; omega
  obtain ⟨M3, c1, c2, c3, c4, c5⟩ := sp44 (M := M2) (d + 2) (c := c) (by rw [b2 25 (by decide), a2 25 (by decide)]; exact hc) (tL M (f, l, dp, sl)) (by show c + (bL M l dp).length ≤ 60; omega)
  have hnl := nz_len (tL M (f, l, dp, sl))
  have hnl : (nz (tL M (f, l, dp, sl))).length ≤ (bL M l dp).length := hnl
  obtain ⟨M4, d1, d2, d3, d4, d5⟩ := sp44 (M := M3) (d + 2) (c := c + (nz (tL M (f, l, dp, sl))).length) c3 (tR M (f, l, dp, sl)) (by show c + (nz (tL M (f, l, dp, sl))).length + (bR M l dp).length ≤ 60; omega)
  have c1 : run prog (d + 4) 44 [vr 25, vi (f : Int), vi ((f + (bL M l dp).length : Nat) : Int), vi ((dp + 1 : Nat) : Int), vi ((2 * bm M l dp : Nat) : Int)] (shp, M2) = some (.inl none, (shp, M3)) := c1
  have d1 : run prog (d + 4) 44 [vr 25, vi ((f + l.length / 2 + 1 : Nat) : Int), vi ((f + l.length / 2 + 1 + (bR M l dp).length : Nat) : Int), vi ((dp + 1 : Nat) : Int), vi ((2 * bm M l dp + 1 : Nat) : Int)] (shp, M3) = some (.inl none, (shp, M4)) := d1
  rw [bL_len] at c1
  rw [show f + l.length / 2 + 1 + (bR M l dp).length = f + l.length by rw [bR_len]; omega] at d1
  have s34 : same [25, 29, 30, 31, 32] M2 M4 := c2.tr d2
  refine ⟨M4, ?_, ((a2.mono (by decide)).tr (b2.mono (by decide))).tr (s34.mono (by decide)), ?_, ?_, ?_, fun j h1 h2 h3 => ?_, fun h1 => ?_, ?_, fun j y hj => ?_, fun j hj => ?_, ?_, fun j hj => ?_⟩
  · rw [g46_0, vi0, vi0, vi0, k1, k2, k3, tm3, a1, callK_r, psh_n, g46_4, wmid (by omega), em, e32, b1, callK_r, psh_n, g46_7, wI (by omega), x2 (by omega), c1, callK_r, psh_n, g46_8, wI (n := f + l.length / 2) (by omega), wI (n := dp) (by omega), x21 (by omega), d1, callK_r, psh_n, g46_9]
  · show lkS M4 sl = _
    rw [← b3]
    unfold lkS
    rw [s34 12 (by decide), s34 13 (by decide)]
  · rw [s34 13 (by decide)]; exact b4
  · rw [s34 13 (by decide)]; exact b5
  · rw [s34 13 (by decide), b6 j h1 h2 h3, a2 13 (by decide)]
  · rw [s34 12 (by decide), b7 h1, a2 12 (by decide)]
  · rw [d3, List.length_append, Nat.add_assoc]
  · by_cases e : j < (nz (tL M (f, l, dp, sl))).length
    · rw [List.getElem?_append_left e] at hj
      obtain ⟨z1, z2, z3, z4⟩ := c4 j y hj
      obtain ⟨y1, y2, y3, y4⟩ := d5 (c + j) (by omega)
      exact ⟨y1.trans z1, y2.trans z2, y3.trans z3, y4.trans z4⟩
    · rw [List.getElem?_append_right (by omega)] at hj
      have := d4 _ y hj
      rw [show c + (nz (tL M (f, l, dp, sl))).length + (j - (nz (tL M (f, l, dp, sl))).length) = c + j by omega] at this
      exact this
  · obtain ⟨z1, z2, z3, z4⟩ := c5 j hj
    obtain ⟨y1, y2, y3, y4⟩ := d5 j (by omega)
    have q1 := b2 29 (by decide)
    have q2 := b2 30 (by decide)
    have q3 := b2 31 (by decide)
    have q4 := b2 32 (by decide)
    have p1 := a2 29 (by decide)
    have p2 := a2 30 (by decide)
    have p3 := a2 31 (by decide)
    have p4 := a2 32 (by decide)
    rw [y1, y2, y3, y4, z1, z2, z3, z4, q1, q2, q3, q4, p1, p2, p3, p4]
    exact ⟨rfl, rfl, rfl, rfl⟩
  · exact slc_c a3 (fun j _ _ => by rw [s34 28 (by decide), b2 28 (by decide)])
  · rw [s34 28 (by decide), b2 28 (by decide)]
    exact a4 j hj
/-- tasks that don't touch one another -/
def apart (x y : Tk) : Prop := (x.1 + x.2.1.length ≤ y.1 ∨ y.1 + y.2.1.length ≤ x.1) ∧ x.2.2.2 ≠ y.2.2.2
def okP9 (M : mM) (i : Nat) (P : List Tk) : Prop :=
  (∀ (j : Nat) (x : Tk), P[j]? = some x → okK M (i + j) x) ∧ M 25 8 = ((i + P.length : Nat) : Int) ∧ (∀ x ∈ P, okX M x) ∧ (el P).Nodup ∧ P.Pairwise apart ∧ (∀ x ∈ P, ∀ y ∈ el P, x.2.2.2 ≠ ((2 * y : Nat) : Int) ∧ x.2.2.2 ≠ ((2 * y + 1 : Nat) : Int)) ∧ i + (el P).length ≤ 60
theorem el_len : ∀ P : List Tk, (∀ x ∈ P, x.2.1 ≠ []) → P.length ≤ (el P).length := by
  intro P
  induction P with
  | nil => intro _; exact Nat.le_refl _
  | cons x P ih =>
    intro h
    have h1 := ih (fun y hy => h y (List.mem_cons_of_mem _ hy))
    have h2 : 0 < x.2.1.length := List.length_pos_iff.mpr (h x List.mem_cons_self)
    show P.length + 1 ≤ (x.2.1 ++ el P).length
    rw [List.length_append]
    omega
theorem el_mem {x : Tk} {y : Nat} : ∀ {P : List Tk}, x ∈ P → y ∈ x.2.1 → y ∈ el P := by
  intro P
  induction P with
  | nil => intro h; exact absurd h List.not_mem_nil
  | cons z P ih =>
    intro h hy
    rcases List.mem_cons.mp h with e | h
    · rw [e] at hy; exact List.mem_append.mpr (Or.inl hy)
    · exact List.mem_append.mpr (Or.inr (ih h hy))
theorem sp47l (d : Nat) : ∀ (q i : Nat) (M : mM) (P : List Tk), (el P).length ≤ q → okP9 M i P →
    ∃ M', ∃ i' : Nat, ev prog (d + 6) 47 0 12 [vr 25, vj, vj, vj, vi (i : Int)] [] (shp, M) = ev prog (d + 6) 47 0 12 [vr 25, vj, vj, vj, vi (i' : Int)] [] (shp, M') ∧ M' 25 8 = (i' : Int) ∧ same [12, 13, 25, 28, 29, 30, 31, 32] M M' ∧
      (∀ x ∈ P, isT (clf M') (crf M') (bld M x.2.1 x.2.2.1) (lkS M' x.2.2.2)) ∧ (∀ j : Nat, (∀ x ∈ P, x.2.2.2 ≠ (j : Int)) → (∀ y ∈ el P, j ≠ 2 * y ∧ j ≠ 2 * y + 1) → M' 13 j = M 13 j) ∧ ((∀ x ∈ P, x.2.2.2 ≠ -1) → M' 12 11 = M 12 11) := by
  intro q
  induction q with
  | zero =>
    intro i M P hq hP
    obtain ⟨p1, p2, p3, p4, p5, p6, p7⟩ := hP
    have hl := el_len P (fun x hx => (p3 x hx).1)
    have e : P = [] := List.length_eq_zero_iff.mp (by omega)
    subst e
    exact ⟨M, i, rfl, p2, same.rf, fun x hx => absurd hx List.not_mem_nil, fun j _ _ => rfl, fun _ => rfl⟩
  | succ q ih =>
    intro i M P hq hP
    obtain ⟨p1, p2, p3, p4, p5, p6, p7⟩ := hP
    have hl := el_len P (fun x hx => (p3 x hx).1)
    cases P with
    | nil =>
      exact ⟨M, i, rfl, p2, same.rf, fun x hx => absurd hx List.not_mem_nil, fun j _ _ => rfl, fun _ => rfl⟩
    | cons x R =>
      have hel : el (x :: R) = x.2.1 ++ el R := rfl
      have hxX := p3 x List.mem_cons_self
      have hx1 := hxX.1
      have hxlen : 0 < x.2.1.length := List.length_pos_iff.mpr hx1
      rw [hel, List.length_append] at hq p7 hl
      rw [List.length_cons] at p2 hl
      rw [hel] at p4 p6
      obtain ⟨n1, n2, n3⟩ := List.nodup_append.mp p4
      obtain ⟨pw1, pw2⟩ := List.pairwise_cons.mp p5
      have hRl := el_len R (fun y hy => (p3 y (List.mem_cons_of_mem _ hy)).1)
      obtain ⟨M1, a1, a2, a3, a4, a5, a6, a7, a8, a9, a10, a11, a12⟩ := sp46 (M := M) d (i := i) (c := i + (R.length + 1)) (x := x) (by omega) (p1 0 x rfl) hxX (fun y hy => p6 x List.mem_cons_self y (List.mem_append.mpr (Or.inl hy))) p2 (by omega)
      have hperm := bS_perm M hx1 x.2.2.1
      have hnd := hperm.nodup_iff.mpr n1
      obtain ⟨m1, m2, m3, m4, m5⟩ := nd_i hnd
      have hbm := bm_mem M hx1 x.2.2.1
      have hbL := bL_sub M hx1 x.2.2.1
      have hbR := bR_sub M hx1 x.2.2.1
      have lL := bL_len M x.2.1 x.2.2.1
      have lR := bR_len M x.2.1 x.2.2.1
      have elN : el (nz (tL M x) ++ nz (tR M x)) = bL M x.2.1 x.2.2.1 ++ bR M x.2.1 x.2.2.1 := by rw [el_app, el_nz, el_nz]; rfl
      have elP : el (R ++ (nz (tL M x) ++ nz (tR M x))) = el R ++ (bL M x.2.1 x.2.2.1 ++ bR M x.2.1 x.2.2.1) := by rw [el_app, elN]
      have hsub : ∀ y ∈ el (R ++ (nz (tL M x) ++ nz (tR M x))), y ∈ x.2.1 ++ el R := by
        intro y hy
        rw [elP] at hy
        rcases List.mem_append.mp hy with h | h
        · exact List.mem_append.mpr (Or.inr h)
        · rcases List.mem_append.mp h with h | h
          · exact List.mem_append.mpr (Or.inl (hbL y h))
          · exact List.mem_append.mpr (Or.inl (hbR y h))
      have hbnot : bm M x.2.1 x.2.2.1 ∉ el (R ++ (nz (tL M x) ++ nz (tR M x))) := by
        rw [elP]
        intro h
        rcases List.mem_append.mp h with h | h
        · exact n3 _ hbm _ h rfl
        · rcases List.mem_append.mp h with h | h
          · exact m1 h
          · exact m2 h
      obtain ⟨sl1, sl2⟩ := slc_app.mp a11
      obtain ⟨-, sl3⟩ := slc_app.mp sl2
      rw [lL] at sl3
      have hN : ∀ z ∈ nz (tL M x) ++ nz (tR M x), okX M1 z ∧ (z = tL M x ∨ z = tR M x) := by
        intro z hz
        have h6 := hxX.2.2.2.2.2
        have h3 := hxX.2.2.1
        have h4 := hxX.2.2.2.1
        have hbm2 := h4 _ hbm
        rcases List.mem_append.mp hz with h | h
        · obtain ⟨e, hne⟩ := nz_mem h
          subst e
          exact ⟨⟨hne, sl1, by show x.1 + (bL M x.2.1 x.2.2.1).length ≤ 200; omega, fun y hy => h4 y (hbL y hy), Or.inr ⟨_, rfl, by omega⟩, by show x.2.2.1 + 1 + (bL M x.2.1 x.2.2.1).length ≤ 1000; omega⟩, Or.inl rfl⟩
        · obtain ⟨e, hne⟩ := nz_mem h
          subst e
          exact ⟨⟨hne, sl3, by show x.1 + x.2.1.length / 2 + 1 + (bR M x.2.1 x.2.2.1).length ≤ 200; omega, fun y hy => h4 y (hbR y hy), Or.inr ⟨_, rfl, by omega⟩, by show x.2.2.1 + 1 + (bR M x.2.1 x.2.2.1).length ≤ 1000; omega⟩, Or.inr rfl⟩
      -- the tasks that wait now
      have hok : okP9 M1 (i + 1) (R ++ (nz (tL M x) ++ nz (tR M x))) := by
        refine ⟨fun j y hj => ?_, ?_, fun z hz => ?_, ?_, ?_, ?_, ?_⟩
        · by_cases e : j < R.length
          · rw [List.getElem?_append_left e] at hj
            obtain ⟨z1, z2, z3, z4⟩ := p1 (j + 1) y hj
            obtain ⟨y1, y2, y3, y4⟩ := a10 (i + (j + 1)) (by omega)
            rw [show i + 1 + j = i + (j + 1) by omega]
            exact ⟨y1.trans z1, y2.trans z2, y3.trans z3, y4.trans z4⟩
          · rw [List.getElem?_append_right (by omega)] at hj
            have := a9 _ y hj
            rw [show i + (R.length + 1) + (j - R.length) = i + 1 + j by omega] at this
            exact this
        · have hh : (R ++ (nz (tL M x) ++ nz (tR M x))).length = R.length + (nz (tL M x) ++ nz (tR M x)).length := List.length_append
          rw [a8]
          omega
        · rcases List.mem_append.mp hz with h | h
          · obtain ⟨q1, q2, q3, q4, q5, q6⟩ := p3 z (List.mem_cons_of_mem _ h)
            refine ⟨q1, slc_c q2 (fun j h1 h2 => a12 j ?_), q3, q4, q5, q6⟩
            have := (pw1 z h).1
            omega
          · exact (hN z h).1
        · rw [elP, List.nodup_append, List.nodup_append]
          refine ⟨n2, ⟨m3, m4, fun a ha b hb e => m5 a ha (by rw [e]; exact hb)⟩, fun a ha b hb e => ?_⟩
          rcases List.mem_append.mp hb with h | h
          · exact n3 b (hbL b h) a ha e.symm
          · exact n3 b (hbR b h) a ha e.symm
        · rw [List.pairwise_append]
          refine ⟨pw2, ?_, fun a ha b hb => ?_⟩
          · rw [List.pairwise_append]
            have one : ∀ t : Tk, (nz t).Pairwise apart := by
              intro t
              obtain ⟨f, l, dp, sl⟩ := t
              cases l with
              | nil => exact List.Pairwise.nil
              | cons a t => exact List.pairwise_cons.mpr ⟨fun _ h => absurd h List.not_mem_nil, List.Pairwise.nil⟩
            refine ⟨one _, one _, fun a ha b hb => ?_⟩
            obtain ⟨e1, -⟩ := nz_mem ha
            obtain ⟨e2, -⟩ := nz_mem hb
            subst e1
            subst e2
            refine ⟨Or.inl ?_, ?_⟩
            · show x.1 + (bL M x.2.1 x.2.2.1).length ≤ x.1 + x.2.1.length / 2 + 1
              omega
            · show ((2 * bm M x.2.1 x.2.2.1 : Nat) : Int) ≠ ((2 * bm M x.2.1 x.2.2.1 + 1 : Nat) : Int)
              omega
          · obtain ⟨w1, w2⟩ := pw1 a ha
            have w3 := p6 a (List.mem_cons_of_mem _ ha) _ (List.mem_append.mpr (Or.inl hbm))
            rcases (hN b hb).2 with e | e
            · subst e
              refine ⟨?_, w3.1⟩
              show a.1 + a.2.1.length ≤ x.1 ∨ x.1 + (bL M x.2.1 x.2.2.1).length ≤ a.1
              omega
            · subst e
              refine ⟨?_, w3.2⟩
              show a.1 + a.2.1.length ≤ x.1 + x.2.1.length / 2 + 1 ∨ x.1 + x.2.1.length / 2 + 1 + (bR M x.2.1 x.2.2.1).length ≤ a.1
              omega
        · intro z hz y hy
          rcases List.mem_append.mp hz with h | h
          · exact p6 z (List.mem_cons_of_mem _ h) y (hsub y hy)
          · have hyb : y ≠ bm M x.2.1 x.2.2.1 := fun q => hbnot (by rw [← q]; exact hy)
            rcases (hN z h).2 with e | e
            · subst e
              show ((2 * bm M x.2.1 x.2.2.1 : Nat) : Int) ≠ _ ∧ ((2 * bm M x.2.1 x.2.2.1 : Nat) : Int) ≠ _
              omega
            · subst e
              show ((2 * bm M x.2.1 x.2.2.1 + 1 : Nat) : Int) ≠ _ ∧ ((2 * bm M x.2.1 x.2.2.1 + 1 : Nat) : Int) ≠ _
              omega
        · rw [elP, List.length_append, List.length_append]
          omega
      obtain ⟨M', i', b1, b0, b2, b3, b4, b5⟩ := ih (i + 1) M1 (R ++ (nz (tL M x) ++ nz (tR M x))) (by rw [elP, List.length_append, List.length_append]; omega) hok
      have hb8 : ∀ l dp, bld M1 l dp = bld M l dp := fun l dp => bld_c (a2 8 (by decide)) l dp
      -- the slot of x afterwards
      have hslx : lkS M' x.2.2.2 = (bm M x.2.1 x.2.2.1 : Int) := by
        rw [← a3]
        have hnosl : ∀ z ∈ R ++ (nz (tL M x) ++ nz (tR M x)), z.2.2.2 ≠ x.2.2.2 := by
          intro z hz
          rcases List.mem_append.mp hz with h | h
          · exact (pw1 z h).2.symm
          · have w := p6 x List.mem_cons_self _ (List.mem_append.mpr (Or.inl hbm))
            rcases (hN z h).2 with e | e
            · subst e; exact w.1.symm
            · subst e; exact w.2.symm
        unfold lkS
        by_cases c : x.2.2.2 = -1
        · rw [if_pos c, if_pos c]
          exact b5 (fun z hz => by rw [← c]; exact hnosl z hz)
        · rw [if_neg c, if_neg c]
          obtain ⟨j, hj, hj4⟩ : ∃ j : Nat, x.2.2.2 = (j : Int) ∧ j < 400 := hxX.2.2.2.2.1.resolve_left c
          rw [hj, Int.toNat_natCast]
          refine b4 j (fun z hz => by rw [← hj]; exact hnosl z hz) (fun y hy => ?_)
          have := p6 x List.mem_cons_self y (hsub y hy)
          rw [hj] at this
          omega
      -- a child of x afterwards
      have hch : ∀ (z : Tk) (j : Nat), (z = tL M x ∨ z = tR M x) → z.2.2.2 = (j : Int) → (j = 2 * bm M x.2.1 x.2.2.1 ∨ j = 2 * bm M x.2.1 x.2.2.1 + 1) → (z.2.1 = [] → ∀ y ∈ nz (tL M x) ++ nz (tR M x), y.2.2.2 ≠ (j : Int)) → (z.2.1 ≠ [] → z ∈ nz (tL M x) ++ nz (tR M x)) → isT (clf M') (crf M') (bld M z.2.1 z.2.2.1) (M' 13 j) := by
        intro z j hz hj hj2 he hm
        by_cases c : z.2.1 = []
        · rw [c]
          show M' 13 j = -1
          rw [b4 j (fun y hy => ?_) (fun y hy => ?_)]
          · rcases hj2 with e | e
            · rw [e]; exact a4
            · rw [e]; exact a5
          · rcases List.mem_append.mp hy with h | h
            · have w3 := p6 y (List.mem_cons_of_mem _ h) _ (List.mem_append.mpr (Or.inl hbm))
              rcases hj2 with e | e
              · rw [e]; exact w3.1
              · rw [e]; exact w3.2
            · exact he c y h
          · have hyb : y ≠ bm M x.2.1 x.2.2.1 := fun q => hbnot (by rw [← q]; exact hy)
            omega
        · have := b3 z (List.mem_append.mpr (Or.inr (hm c)))
          rw [hb8] at this
          unfold lkS at this
          rw [hj, if_neg (by omega), Int.toNat_natCast] at this
          exact this
      refine ⟨M', i', ?_, b0, a2.tr b2, fun y hy => ?_, fun j h1 h2 => ?_, fun h1 => ?_⟩
      · rw [g47_12, p2, if_pos (by omega), if_pos (by omega), a1, callK_r, psh_n, g47_15, wI (by omega)]
        exact b1
      · rcases List.mem_cons.mp hy with e | h
        · subst e
          rw [hslx, bld_i M hx1]
          refine ⟨rfl, hxX.2.2.2.1 _ hbm, ?_, ?_⟩
          · refine hch (tL M y) (2 * bm M y.2.1 y.2.2.1) (Or.inl rfl) rfl (Or.inl rfl) (fun hne z hz => ?_) (fun hne => List.mem_append.mpr (Or.inl (nz_in hne)))
            rcases List.mem_append.mp hz with h | h
            · exact absurd hne (by obtain ⟨e, q⟩ := nz_mem h; exact q)
            · obtain ⟨e, -⟩ := nz_mem h
              subst e
              show ((2 * bm M y.2.1 y.2.2.1 + 1 : Nat) : Int) ≠ _
              omega
          · refine hch (tR M y) (2 * bm M y.2.1 y.2.2.1 + 1) (Or.inr rfl) rfl (Or.inr rfl) (fun hne z hz => ?_) (fun hne => List.mem_append.mpr (Or.inr (nz_in hne)))
            rcases List.mem_append.mp hz with h | h
            · obtain ⟨e, -⟩ := nz_mem h
              subst e
              show ((2 * bm M y.2.1 y.2.2.1 : Nat) : Int) ≠ _
              omega
            · exact absurd hne (by obtain ⟨e, q⟩ := nz_mem h; exact q)
        · have := b3 y (List.mem_append.mpr (Or.inl h))
          rw [hb8] at this
          exact this
      · rw [b4 j (fun z hz => ?_) (fun y hy => h2 y (by rw [hel]; exact hsub y hy))]
        · have w := h2 _ (by rw [hel]; exact List.mem_append.mpr (Or.inl hbm))
          exact a6 j (h1 x List.mem_cons_self) w.1 w.2
        · rcases List.mem_append.mp hz with h | h
          · exact h1 z (List.mem_cons_of_mem _ h)
          · have w := h2 _ (by rw [hel]; exact List.mem_append.mpr (Or.inl hbm))
            rcases (hN z h).2 with e | e
            · subst e
              show ((2 * bm M x.2.1 x.2.2.1 : Nat) : Int) ≠ _
              omega
            · subst e
              show ((2 * bm M x.2.1 x.2.2.1 + 1 : Nat) : Int) ≠ _
              omega
      · rw [b5 (fun z hz => ?_)]
        · exact a7 (h1 x List.mem_cons_self)
        · rcases List.mem_append.mp hz with h | h
          · exact h1 z (List.mem_cons_of_mem _ h)
          · rcases (hN z h).2 with e | e
            · subst e
              show ((2 * bm M x.2.1 x.2.2.1 : Nat) : Int) ≠ _
              omega
            · subst e
              show ((2 * bm M x.2.1 x.2.2.1 + 1 : Nat) : Int) ≠ _
              omega
