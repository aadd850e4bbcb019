/-! THE LAW'S CHECK, pieces 18 to 20 (by program) -/
set_option maxRecDepth 20000 in
theorem bz_lc_18 : bz_ckl 295 (50 * 18) ((ac_295.drop (50 * 18)).take 50) = true := by decide +kernel
set_option maxRecDepth 20000 in
theorem bz_lc_19 : bz_ckl 295 (50 * 19) ((ac_295.drop (50 * 19)).take 50) = true := by decide +kernel
set_option maxRecDepth 20000 in
theorem bz_lc_20 : bz_ckl 295 (50 * 20) ((ac_295.drop (50 * 20)).take 50) = true := by decide +kernel
