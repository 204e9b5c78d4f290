/-! THE CHECKS, 10 -/
set_option maxRecDepth 100000 in
theorem chk_10 : ((List.range 25).all fun i => chkM prog kprog zprog 299 false (250 + i)) = true := by decide +kernel
