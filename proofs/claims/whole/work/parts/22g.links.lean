set_option maxRecDepth 100000 in
theorem lks_6 : ([ktab_36].all fun l => l.all fun q => lkB prog q) = true := by decide +kernel
