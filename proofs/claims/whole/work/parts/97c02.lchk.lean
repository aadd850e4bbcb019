/-! THE LAW'S CHECK, pieces 6 to 8 (by program) -/
set_option maxRecDepth 20000 in
theorem bz_lc_6 : bz_ckl 295 (50 * 6) ((ac_295.drop (50 * 6)).take 50) = true := by decide +kernel
set_option maxRecDepth 20000 in
theorem bz_lc_7 : bz_ckl 295 (50 * 7) ((ac_295.drop (50 * 7)).take 50) = true := by decide +kernel
set_option maxRecDepth 20000 in
theorem bz_lc_8 : bz_ckl 295 (50 * 8) ((ac_295.drop (50 * 8)).take 50) = true := by decide +kernel
