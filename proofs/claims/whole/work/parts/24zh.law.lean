set_option maxRecDepth 100000 in
theorem lawc_7 : ((((prog 299).2.drop (7 * 30)).take 30).all fun q => chkL prog kprog zprog 299 true 299 q.1 q.2.2) = true := by decide +kernel
