set_option maxRecDepth 100000 in
theorem hd_5 : ((List.range 25).all fun i => okM prog zprog (125 + i)) = true := by decide +kernel
