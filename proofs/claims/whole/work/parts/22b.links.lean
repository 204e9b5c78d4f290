set_option maxRecDepth 100000 in
theorem lks_1 : ([ktab_6, ktab_7, ktab_8, ktab_9, ktab_10, ktab_11].all fun l => l.all fun q => lkB prog q) = true := by decide +kernel
