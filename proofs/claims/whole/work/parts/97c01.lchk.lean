/-! THE LAW'S CHECK, pieces 3 to 5 (by program) -/
set_option maxRecDepth 20000 in
theorem bz_lc_3 : bz_ckl 295 (50 * 3) ((ac_295.drop (50 * 3)).take 50) = true := by decide +kernel
set_option maxRecDepth 20000 in
theorem bz_lc_4 : bz_ckl 295 (50 * 4) ((ac_295.drop (50 * 4)).take 50) = true := by decide +kernel
set_option maxRecDepth 20000 in
theorem bz_lc_5 : bz_ckl 295 (50 * 5) ((ac_295.drop (50 * 5)).take 50) = true := by decide +kernel
