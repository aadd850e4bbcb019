/-! THE LAW'S CHECK, pieces 21 to 23 (by program) -/
set_option maxRecDepth 20000 in
theorem bz_lc_21 : bz_ckl 295 (50 * 21) ((ac_295.drop (50 * 21)).take 50) = true := by decide +kernel
set_option maxRecDepth 20000 in
theorem bz_lc_22 : bz_ckl 295 (50 * 22) ((ac_295.drop (50 * 22)).take 50) = true := by decide +kernel
set_option maxRecDepth 20000 in
theorem bz_lc_23 : bz_ckl 295 (50 * 23) ((ac_295.drop (50 * 23)).take 50) = true := by decide +kernel
