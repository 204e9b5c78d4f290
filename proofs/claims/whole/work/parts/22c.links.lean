set_option maxRecDepth 100000 in
theorem lks_2 : ([ktab_12, ktab_13, ktab_14, ktab_15, ktab_16, ktab_17].all fun l => l.all fun q => lkB prog q) = true := by decide +kernel
