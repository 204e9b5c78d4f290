theorem links_ok : ∀ i, lkP prog (kprog i) := by
  have key : ∀ L : List (List mLk), (L.all fun l => l.all fun q => lkB prog q) = true → ∀ l ∈ L, ∀ q ∈ l, lkP prog q := fun L h l hl q hq => lkB_ok (List.all_eq_true.mp (List.all_eq_true.mp h l hl) q hq)
  have all : ∀ l ∈ ktab, ∀ q ∈ l, lkP prog q := by
    intro l hl
    have e : ktab = [ktab_0, ktab_1, ktab_2, ktab_3, ktab_4, ktab_5] ++ ([ktab_6, ktab_7, ktab_8, ktab_9, ktab_10, ktab_11] ++ ([ktab_12, ktab_13, ktab_14, ktab_15, ktab_16, ktab_17] ++ ([ktab_18, ktab_19, ktab_20, ktab_21, ktab_22, ktab_23] ++ ([ktab_24, ktab_25, ktab_26, ktab_27, ktab_28, ktab_29] ++ ([ktab_30, ktab_31, ktab_32, ktab_33, ktab_34, ktab_35] ++ ([ktab_36])))))) := rfl
    rw [e] at hl
    rcases List.mem_append.mp hl with hl | hl
    · exact key _ lks_0 l hl
    rcases List.mem_append.mp hl with hl | hl
    · exact key _ lks_1 l hl
    rcases List.mem_append.mp hl with hl | hl
    · exact key _ lks_2 l hl
    rcases List.mem_append.mp hl with hl | hl
    · exact key _ lks_3 l hl
    rcases List.mem_append.mp hl with hl | hl
    · exact key _ lks_4 l hl
    rcases List.mem_append.mp hl with hl | hl
    · exact key _ lks_5 l hl
    exact key _ lks_6 l hl
  intro i
  show lkP prog ((ktab.getD (i / 16) []).getD (i % 16) (0, 10, 0, 0, 0, 0))
  rw [List.getD_eq_getElem?_getD, List.getD_eq_getElem?_getD]
  cases h : ktab[i / 16]? with
  | none => exact trivial
  | some l =>
    show lkP prog (l[i % 16]?.getD (0, 10, 0, 0, 0, 0))
    cases h2 : l[i % 16]? with
    | none => exact trivial
    | some q => exact all l (List.mem_of_getElem? h) q (List.mem_of_getElem? h2)
