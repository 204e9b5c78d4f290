/-! THE CHECKS, 11 -/
set_option maxRecDepth 100000 in
theorem chk_11 : ((List.range 24).all fun i => chkM prog kprog zprog 299 false (275 + i)) = true := by decide +kernel
