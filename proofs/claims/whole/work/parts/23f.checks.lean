/-! THE CHECKS, 5 -/
set_option maxRecDepth 100000 in
theorem chk_5 : ((List.range 25).all fun i => chkM prog kprog zprog 299 false (125 + i)) = true := by decide +kernel
