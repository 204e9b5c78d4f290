/-! THE CHECKS, 8 -/
set_option maxRecDepth 100000 in
theorem chk_8 : ((List.range 25).all fun i => chkM prog kprog zprog 299 false (200 + i)) = true := by decide +kernel
