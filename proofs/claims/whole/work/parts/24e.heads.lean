set_option maxRecDepth 100000 in
theorem hd_4 : ((List.range 25).all fun i => okM prog zprog (100 + i)) = true := by decide +kernel
