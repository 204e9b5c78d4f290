/-! THE CHECKS, 1 -/
set_option maxRecDepth 100000 in
theorem chk_1 : ((List.range 25).all fun i => chkM prog kprog zprog 299 false (25 + i)) = true := by decide +kernel
