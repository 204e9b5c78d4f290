/-! THE CHECKS, 6 -/
set_option maxRecDepth 100000 in
theorem chk_6 : ((List.range 25).all fun i => chkM prog kprog zprog 299 false (150 + i)) = true := by decide +kernel
