/-! THE CHECKS, 0 -/
set_option maxRecDepth 100000 in
theorem chk_0 : ((List.range 25).all fun i => chkM prog kprog zprog 299 false (0 + i)) = true := by decide +kernel
