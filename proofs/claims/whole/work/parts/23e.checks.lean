/-! THE CHECKS, 4 -/
set_option maxRecDepth 100000 in
theorem chk_4 : ((List.range 25).all fun i => chkM prog kprog zprog 299 false (100 + i)) = true := by decide +kernel
