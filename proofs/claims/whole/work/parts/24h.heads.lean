set_option maxRecDepth 100000 in
theorem hd_7 : ((List.range 25).all fun i => okM prog zprog (175 + i)) = true := by decide +kernel
