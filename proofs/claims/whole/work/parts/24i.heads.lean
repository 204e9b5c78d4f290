set_option maxRecDepth 100000 in
theorem hd_8 : ((List.range 25).all fun i => okM prog zprog (200 + i)) = true := by decide +kernel
