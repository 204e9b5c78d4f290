set_option maxRecDepth 100000 in
theorem hd_2 : ((List.range 25).all fun i => okM prog zprog (50 + i)) = true := by decide +kernel
