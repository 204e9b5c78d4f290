set_option maxRecDepth 100000 in
theorem hd_9 : ((List.range 25).all fun i => okM prog zprog (225 + i)) = true := by decide +kernel
