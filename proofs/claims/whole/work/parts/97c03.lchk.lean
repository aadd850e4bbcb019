/-! THE LAW'S CHECK, pieces 9 to 11 (by program) -/
set_option maxRecDepth 20000 in
theorem bz_lc_9 : bz_ckl 295 (50 * 9) ((ac_295.drop (50 * 9)).take 50) = true := by decide +kernel
set_option maxRecDepth 20000 in
theorem bz_lc_10 : bz_ckl 295 (50 * 10) ((ac_295.drop (50 * 10)).take 50) = true := by decide +kernel
set_option maxRecDepth 20000 in
theorem bz_lc_11 : bz_ckl 295 (50 * 11) ((ac_295.drop (50 * 11)).take 50) = true := by decide +kernel
