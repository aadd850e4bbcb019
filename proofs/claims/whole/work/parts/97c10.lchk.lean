/-! THE LAW'S CHECK, pieces 30 to 32 (by program) -/
set_option maxRecDepth 20000 in
theorem bz_lc_30 : bz_ckl 295 (50 * 30) ((ac_295.drop (50 * 30)).take 50) = true := by decide +kernel
set_option maxRecDepth 20000 in
theorem bz_lc_31 : bz_ckl 295 (50 * 31) ((ac_295.drop (50 * 31)).take 50) = true := by decide +kernel
set_option maxRecDepth 20000 in
theorem bz_lc_32 : bz_ckl 295 (50 * 32) ((ac_295.drop (50 * 32)).take 50) = true := by decide +kernel
