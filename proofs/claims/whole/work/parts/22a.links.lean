set_option maxRecDepth 100000 in
theorem lks_0 : ([ktab_0, ktab_1, ktab_2, ktab_3, ktab_4, ktab_5].all fun l => l.all fun q => lkB prog q) = true := by decide +kernel
