/-! THE CHECKS, 7 -/
set_option maxRecDepth 100000 in
theorem chk_7 : ((List.range 25).all fun i => chkM prog kprog zprog 299 false (175 + i)) = true := by decide +kernel
