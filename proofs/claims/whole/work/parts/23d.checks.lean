/-! THE CHECKS, 3 -/
set_option maxRecDepth 100000 in
theorem chk_3 : ((List.range 25).all fun i => chkM prog kprog zprog 299 false (75 + i)) = true := by decide +kernel
