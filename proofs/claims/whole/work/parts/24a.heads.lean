set_option maxRecDepth 100000 in
theorem hd_0 : ((List.range 25).all fun i => okM prog zprog (0 + i)) = true := by decide +kernel
