set_option maxRecDepth 100000 in
theorem hd_11 : ((List.range 24).all fun i => okM prog zprog (275 + i)) = true := by decide +kernel
