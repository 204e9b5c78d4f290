set_option maxRecDepth 100000 in
theorem hd_3 : ((List.range 25).all fun i => okM prog zprog (75 + i)) = true := by decide +kernel
