set_option maxRecDepth 100000 in
theorem lks_4 : ([ktab_24, ktab_25, ktab_26, ktab_27, ktab_28, ktab_29].all fun l => l.all fun q => lkB prog q) = true := by decide +kernel
