set_option maxRecDepth 100000 in
theorem lks_3 : ([ktab_18, ktab_19, ktab_20, ktab_21, ktab_22, ktab_23].all fun l => l.all fun q => lkB prog q) = true := by decide +kernel
