/-! THE CHECKS, 9 -/
set_option maxRecDepth 100000 in
theorem chk_9 : ((List.range 25).all fun i => chkM prog kprog zprog 299 false (225 + i)) = true := by decide +kernel
