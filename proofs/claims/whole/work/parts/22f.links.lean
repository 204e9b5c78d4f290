set_option maxRecDepth 100000 in
theorem lks_5 : ([ktab_30, ktab_31, ktab_32, ktab_33, ktab_34, ktab_35].all fun l => l.all fun q => lkB prog q) = true := by decide +kernel
