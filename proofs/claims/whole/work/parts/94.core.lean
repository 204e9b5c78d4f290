/-! WHAT A QUERY'S ANSWER READS -/
abbrev KK : Type := (Nat → Int) × (Nat → Int)
variable {K : KK}
def cq (M M' : mM) : Prop := ∀ k, k ∈ [7, 8, 9, 10, 11, 34, 35, 36, 37, 38] → M' k = M k
section CQ
variable {M M' : mM}
theorem visL_k (h : cq M M') (n : Nat) : visL M' n = visL M n := visL_c (h 7 (by decide)) (h 10 (by decide)) (h 11 (by decide)) (h 38 (by decide)) n
theorem dq_k (h : cq M M') (p : Nat) : dq M' p = dq M p := dq_c (h 8 (by decide)) (h 34 (by decide)) (h 35 (by decide)) p
theorem db_k (h : cq M M') (p q : Nat) : db M' p q = db M p q := db_c (h 8 (by decide)) (h 34 (by decide)) p q
theorem nW_k (h : cq M M') (r : Int) (l : List Int) : nW M' r l = nW M r l := by unfold nW; congr 1; congr 1; funext x; rw [dq_k h]
theorem rk_k (h : cq M M') (m p : Int) (l : List Int) : rk M' m p l = rk M m p l := by unfold rk; congr 1; congr 1; funext x; rw [dq_k h]
theorem nth_k (h : cq M M') (n : Nat) (ix : Int) : nth M' n ix = nth M n ix := by unfold nth; rw [visL_k h]; congr 1; funext x; rw [dq_k h, rk_k h]
theorem farL_k (h : cq M M') (l : List Int) : farL M' l = farL M l := by
  have e : fst1 M' = fst1 M := by
    funext o x
    unfold fst1
    cases o with
    | none => rfl
    | some y => simp only [dq_k h]
  unfold farL
  rw [e]
theorem clo_k (h : cq M M') (n : Nat) : clo M' n = clo M n := by
  have e : stp M' = stp M := by
    funext o x
    unfold stp
    cases o with
    | none => rfl
    | some y => simp only [db_k h]
  unfold clo
  rw [e, visL_k h]
theorem cloA_k (h : cq M M') (b : Int × Int) (w : Int) : cloA M' b w = cloA M b w := by unfold cloA; rw [db_k h]
theorem neL_k (h : cq M M') (p : Int) (l : List Int) : neL M' p l = neL M p l := neL_c (h 8 (by decide)) (h 34 (by decide)) p l
theorem nF_k (h : cq M M') (n : Nat) (p : Int) (l : List Int) : nF M' n p l = nF M n p l := by unfold nF; congr 1; congr 1; funext x; rw [neL_k h, visL_k h]
theorem bx_k (h : cq M M') : bx M' = bx M := bx_c (h 7 (by decide)) (h 8 (by decide)) (h 10 (by decide)) (h 11 (by decide)) (h 36 (by decide)) (h 37 (by decide)) (h 38 (by decide))
theorem wF_k (h : cq M M') : wF M' = wF M := by funext p; unfold wF; rw [h 9 (by decide)]
theorem mF_k (h : cq M M') (a : Nat) : mF M' a = mF M a := by funext p; unfold mF; rw [h 8 (by decide), h 9 (by decide)]
theorem cenD_k (h : cq M M') (n a : Nat) : cenD M' n a = cenD M n a := by unfold cenD; rw [mF_k h, wF_k h, bx_k h]
theorem infL_k (h : cq M M') (r : Int) (l : List Int) : infL M' r l = infL M r l := by
  have e : ift M' r = ift M r := by
    funext s x
    unfold ift qu
    rw [dq_k h, h 9 (by decide)]
  unfold infL
  rw [e]
theorem pt_k (h : cq M M') (n i : Nat) : pt M' n i = pt M n i := by unfold pt; rw [visL_k h]
theorem adj_k (h : cq M M') (n : Nat) (r : Int) : adj M' n r = adj M n r := by funext i j; unfold adj; rw [pt_k h, pt_k h, db_k h]
theorem lk_k (h : cq M M') (t : Tr) : lk M' t = lk M t := lk_c (h 11 (by decide)) t
theorem bdT_k (h : cq M M') (t : Tr) : bdT M' t = bdT M t := by
  have e : ∀ a, gap M' t a = gap M t a := fun a => by unfold gap; rw [lowT_c (h 8 (by decide)) (h 11 (by decide)), highT_c (h 8 (by decide)) (h 11 (by decide)), h 35 (by decide)]
  unfold bdT
  rw [met_c (h 34 (by decide)), e, e, e]
theorem hasB_k (h : cq M M') (t : Tr) (x : Int) : hasB M' t x = hasB M t x := by unfold hasB; rw [lk_k h]
theorem vN_k (h : cq M M') (t : Tr) : vN M' t = vN M t := vN_c (h 8 (by decide)) (h 11 (by decide)) (h 36 (by decide)) (h 37 (by decide)) t
theorem ord_k (h : cq M M') (t : Tr) (o : Int) : ord M' t o = ord M t o := by unfold ord; rw [lk_k h, alv_c (h 11 (by decide))]
end CQ
/-! THE INVARIANT -/
def Bs (M : mM) (n : Nat) (t : Tr) : Prop := Iv M ∧ (M 7 4 = (n : Int) ∧ n ≤ 200) ∧ (M 7 5 = (liveN M n : Int) ∧ liveN M n ≤ 60) ∧ (isT (clf M) (crf M) t (M 12 11) ∧ (ks t).Nodup ∧ ∀ x ∈ ks t, x < n) ∧ MT M n t ∧ (∀ p, p < n → alv M p = true → p ∈ ks t) ∧ ∀ j, j < 4 → M 26 j = M 88 (2027 + j)
def snp (M : mM) : mM := fun k => if k = 88 then M 89 else M (k + 33)
def Sav (M : mM) : Prop := M 87 2 = M 5 5 ∧ (M 5 5 = 0 ∨ M 5 5 = 1 ∧ ∃ n t, Bs (snp M) n t)
def Cur (M : mM) : Prop := M 87 8 = M 79 4 ∧ (M 79 4 = 0 ∨ M 79 4 = 1 ∧ ∃ Z : List Nat, ∃ i : Nat, nums M 80 (natI Z) ∧ tk M Z ∧ Z.length ≤ 200 ∧ M 79 3 = (i : Int) ∧ M 87 11 = (i : Int) ∧ i ≤ Z.length)
def Txt (M : mM) : Prop := M 87 16 = M 84 5 ∧ ∃ n : Nat, n ≤ 90 ∧ M 84 2 = (n : Int) ∧ M 87 13 = (n : Int) ∧ ∀ j, j < n → M 94 j = M 85 j
/-- the least and the greatest values of the options -/
def Sta (K : KK) (M : mM) : Prop := (M 1 0 = 55 ∧ M 1 1 = 10 ∧ M 1 2 = 0 ∧ M 1 3 = 1 ∧ M 1 4 = 1 ∧ M 1 5 = 1) ∧ M 2 0 = 95 ∧ M 2 1 = 90 ∧ M 2 2 = 3 ∧ M 2 3 = 9 ∧ M 2 4 = 9 ∧ M 2 5 = 9 ∧ M 3 = K.1 ∧ M 4 = K.2
def Inv (K : KK) (M : mM) : Prop := (∃ n t, Bs M n t ∧ TD M t) ∧ Sav M ∧ Cur M ∧ Txt M ∧ Sta K M
theorem Sta_c {M M' : mM} (h1 : M' 1 = M 1) (h2 : M' 2 = M 2) (h3 : M' 3 = M 3) (h4 : M' 4 = M 4) (h : Sta K M) : Sta K M' := by
  unfold Sta at h ⊢
  rw [h1, h2, h3, h4]
  exact h
theorem MT_c {M M' : mM} (h : M' 88 = M 88) {n : Nat} {t : Tr} (hM : MT M n t) : MT M' n t := by
  unfold MT at hM ⊢
  have e1 : mlf M' = mlf M := by funext k; unfold mlf; rw [h]
  have e2 : mrf M' = mrf M := by funext k; unfold mrf; rw [h]
  have e3 : mup M' = mup M := by funext k; unfold mup; rw [h]
  rw [e1, e2, e3, h]
  exact hM
theorem liveN_c {M M' : mM} (h : M' 11 = M 11) (n : Nat) : liveN M' n = liveN M n := by unfold liveN; rw [h]
theorem Bs_c {M M' : mM} (h : ∀ k, k ∈ [7, 8, 9, 10, 11, 12, 13, 26, 34, 35, 36, 37, 38, 88] → M' k = M k) {n : Nat} {t : Tr} (hB : Bs M n t) : Bs M' n t := by
  obtain ⟨b1, b2, b3, b4, b5, b6, b7⟩ := hB
  have h88 := h 88 (by decide)
  refine ⟨b1.keep (h 7 (by decide)) (h 8 (by decide)) (h 9 (by decide)) (h 10 (by decide)) (h 11 (by decide)) (h 34 (by decide)) (h 35 (by decide)) (h 36 (by decide)) (h 37 (by decide)) (h 38 (by decide)) h88, ?_, ?_, ?_, MT_c h88 b5, ?_, ?_⟩
  · rw [h 7 (by decide)]; exact b2
  · rw [h 7 (by decide), liveN_c (h 11 (by decide))]; exact b3
  · rw [clf_c (h 13 (by decide)), crf_c (h 13 (by decide)), h 12 (by decide)]; exact b4
  · rw [alv_c (h 11 (by decide))]; exact b6
  · intro j hj; rw [h 26 (by decide), h88]; exact b7 j hj
theorem Bs.CT {M : mM} {n : Nat} {t : Tr} (h : Bs M n t) (hD : TD M t) : CT M n t := ⟨h.2.1.1, h.2.1.2, h.2.2.2.1.1, h.2.2.2.1.2.1, h.2.2.2.1.2.2, hD⟩
theorem Sav_c {M M' : mM} (h5 : M' 5 = M 5) (h2 : M' 87 2 = M 87 2) (h : ∀ k, k ∈ [40, 41, 42, 43, 44, 45, 46, 59, 67, 68, 69, 70, 71, 89] → M' k = M k) (hS : Sav M) : Sav M' := by
  obtain ⟨s1, s2⟩ := hS
  refine ⟨by rw [h2, h5]; exact s1, ?_⟩
  rw [h5]
  rcases s2 with s2 | ⟨s2, n, t, s3⟩
  · exact Or.inl s2
  · refine Or.inr ⟨s2, n, t, Bs_c (fun k hk => ?_) s3⟩
    simp only [List.mem_cons, List.not_mem_nil, or_false] at hk
    rcases hk with rfl | rfl | rfl | rfl | rfl | rfl | rfl | rfl | rfl | rfl | rfl | rfl | rfl | rfl
    · exact h 40 (by decide)
    · exact h 41 (by decide)
    · exact h 42 (by decide)
    · exact h 43 (by decide)
    · exact h 44 (by decide)
    · exact h 45 (by decide)
    · exact h 46 (by decide)
    · exact h 59 (by decide)
    · exact h 67 (by decide)
    · exact h 68 (by decide)
    · exact h 69 (by decide)
    · exact h 70 (by decide)
    · exact h 71 (by decide)
    · exact h 89 (by decide)
theorem Cur_c {M M' : mM} (h79 : ∀ j, j = 3 ∨ j = 4 → M' 79 j = M 79 j) (h80 : M' 80 = M 80) (h81 : M' 81 = M 81) (h93 : M' 93 = M 93) (h87 : ∀ j, j = 8 ∨ j = 10 ∨ j = 11 → M' 87 j = M 87 j) (hC : Cur M) : Cur M' := by
  obtain ⟨c1, c2⟩ := hC
  have e3 := h79 3 (Or.inl rfl)
  have e4 := h79 4 (Or.inr rfl)
  have e8 := h87 8 (Or.inl rfl)
  have e10 := h87 10 (Or.inr (Or.inl rfl))
  have e11 := h87 11 (Or.inr (Or.inr rfl))
  refine ⟨by rw [e8, e4]; exact c1, ?_⟩
  rw [e4]
  rcases c2 with c2 | ⟨c2, Z, i, c3, c4, c5, c6, c7, c8⟩
  · exact Or.inl c2
  · refine Or.inr ⟨c2, Z, i, ?_, ⟨by rw [e10]; exact c4.1, ?_⟩, c5, by rw [e3]; exact c6, by rw [e11]; exact c7, c8⟩
    · unfold nums at c3 ⊢
      rw [h80]
      refine ⟨c3.1, fun j x hj => ?_⟩
      show M' 81 j = x
      rw [h81]
      exact c3.2 j x hj
    · exact slc_c c4.2 (fun j _ _ => by rw [h93])
theorem Cur_0 {M : mM} (h8 : M 87 8 = 0) (h4 : M 79 4 = 0) : Cur M := ⟨by rw [h8, h4], Or.inl h4⟩
theorem Txt_c {M M' : mM} (h84 : ∀ j, j = 2 ∨ j = 5 → M' 84 j = M 84 j) (h85 : M' 85 = M 85) (h94 : M' 94 = M 94) (h87 : ∀ j, j = 13 ∨ j = 16 → M' 87 j = M 87 j) (hX : Txt M) : Txt M' := by
  obtain ⟨x1, n, x2, x3, x4, x5⟩ := hX
  exact ⟨by rw [h87 16 (Or.inr rfl), h84 5 (Or.inr rfl)]; exact x1, n, x2, by rw [h84 2 (Or.inl rfl)]; exact x3, by rw [h87 13 (Or.inl rfl)]; exact x4, fun j hj => by rw [h94, h85]; exact x5 j hj⟩
/-- the frame of a query -/
def fq (M M' : mM) : Prop := same [72, 73, 74, 75, 76, 77, 78, 82, 83, 86, 87, 90, 91, 92, 95, 96, 97] M M' ∧ ∀ j, j ∈ [2, 8, 10, 11, 13, 16] → M' 87 j = M 87 j
theorem fq.tr {M M1 M2 : mM} (h1 : fq M M1) (h2 : fq M1 M2) : fq M M2 := ⟨h1.1.tr h2.1, fun j hj => (h2.2 j hj).trans (h1.2 j hj)⟩
theorem fq_s {ks : List Nat} {M M' : mM} (h : same ks M M') (hs : ∀ k ∈ ks, k ∈ [72, 73, 74, 75, 76, 77, 78, 82, 83, 86, 90, 91, 92, 95, 96, 97]) : fq M M' := by
  refine ⟨h.mono (fun k hk => ?_), fun j hj => by rw [h 87 (fun q => absurd (hs 87 q) (by decide))]⟩
  have := hs k hk
  simp only [List.mem_cons, List.not_mem_nil, or_false] at this ⊢
  omega
theorem fq_thr {M : mM} {k : Int} : fq M (mset M 87 3 k) := ⟨same_mset.mono (by decide), fun j hj => mset_j (by intro e; subst e; exact absurd hj (by decide))⟩
theorem fq_out {M : mM} {r : Int} : fq M (mset M 96 0 r) := fq_s same_mset (by decide)
theorem fq_outD {M : mM} {r : Int} : fq M (mset M 97 0 r) := fq_s same_mset (by decide)
theorem fq.cq {M M' : mM} (h : fq M M') : cq M M' := fun k hk => h.1 k (by
  simp only [List.mem_cons, List.not_mem_nil, or_false] at hk ⊢
  omega)
theorem Inv.fq {M M' : mM} (hI : Inv K M) (h : fq M M') : Inv K M' := by
  obtain ⟨⟨n, t, i1, i2⟩, i3, i4, i5, i6⟩ := hI
  refine ⟨⟨n, t, Bs_c (fun k hk => h.1 k ?_) i1, TD_c (fun k hk => h.1 k ?_) i2⟩, Sav_c (h.1 5 (by decide)) (h.2 2 (by decide)) (fun k hk => h.1 k ?_) i3, Cur_c (fun j _ => by rw [h.1 79 (by decide)]) (h.1 80 (by decide)) (h.1 81 (by decide)) (h.1 93 (by decide)) (fun j hj => h.2 j ?_) i4, Txt_c (fun j _ => by rw [h.1 84 (by decide)]) (h.1 85 (by decide)) (h.1 94 (by decide)) (fun j hj => h.2 j ?_) i5, Sta_c (h.1 1 (by decide)) (h.1 2 (by decide)) (h.1 3 (by decide)) (h.1 4 (by decide)) i6⟩
  · simp only [List.mem_cons, List.not_mem_nil, or_false] at hk ⊢; omega
  · simp only [List.mem_cons, List.not_mem_nil, or_false] at hk ⊢; omega
  · simp only [List.mem_cons, List.not_mem_nil, or_false] at hk ⊢; omega
  · rcases hj with rfl | rfl | rfl <;> decide
  · rcases hj with rfl | rfl <;> decide
