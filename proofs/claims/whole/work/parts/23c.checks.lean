/-! THE CHECKS, 2 -/
set_option maxRecDepth 100000 in
theorem chk_2 : ((List.range 25).all fun i => chkM prog kprog zprog 299 false (50 + i)) = true := by decide +kernel
