set_option maxRecDepth 100000 in
theorem hd_10 : ((List.range 25).all fun i => okM prog zprog (250 + i)) = true := by decide +kernel
