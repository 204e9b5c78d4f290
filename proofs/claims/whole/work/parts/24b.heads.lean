set_option maxRecDepth 100000 in
theorem hd_1 : ((List.range 25).all fun i => okM prog zprog (25 + i)) = true := by decide +kernel
