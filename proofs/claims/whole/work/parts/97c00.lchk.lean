/-! THE LAW'S CHECK, pieces 0 to 2 (by program) -/
set_option maxRecDepth 20000 in
theorem bz_lc_0 : bz_ckl 295 (50 * 0) ((ac_295.drop (50 * 0)).take 50) = true := by decide +kernel
set_option maxRecDepth 20000 in
theorem bz_lc_1 : bz_ckl 295 (50 * 1) ((ac_295.drop (50 * 1)).take 50) = true := by decide +kernel
set_option maxRecDepth 20000 in
theorem bz_lc_2 : bz_ckl 295 (50 * 2) ((ac_295.drop (50 * 2)).take 50) = true := by decide +kernel
