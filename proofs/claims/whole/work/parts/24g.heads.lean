set_option maxRecDepth 100000 in
theorem hd_6 : ((List.range 25).all fun i => okM prog zprog (150 + i)) = true := by decide +kernel
