/-! THE LAW'S CHECK, pieces 15 to 17 (by program) -/
set_option maxRecDepth 20000 in
theorem bz_lc_15 : bz_ckl 295 (50 * 15) ((ac_295.drop (50 * 15)).take 50) = true := by decide +kernel
set_option maxRecDepth 20000 in
theorem bz_lc_16 : bz_ckl 295 (50 * 16) ((ac_295.drop (50 * 16)).take 50) = true := by decide +kernel
set_option maxRecDepth 20000 in
theorem bz_lc_17 : bz_ckl 295 (50 * 17) ((ac_295.drop (50 * 17)).take 50) = true := by decide +kernel
