/-! THE LAW'S CHECK, pieces 12 to 14 (by program) -/
set_option maxRecDepth 20000 in
theorem bz_lc_12 : bz_ckl 295 (50 * 12) ((ac_295.drop (50 * 12)).take 50) = true := by decide +kernel
set_option maxRecDepth 20000 in
theorem bz_lc_13 : bz_ckl 295 (50 * 13) ((ac_295.drop (50 * 13)).take 50) = true := by decide +kernel
set_option maxRecDepth 20000 in
theorem bz_lc_14 : bz_ckl 295 (50 * 14) ((ac_295.drop (50 * 14)).take 50) = true := by decide +kernel
