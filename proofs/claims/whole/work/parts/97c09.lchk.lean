/-! THE LAW'S CHECK, pieces 27 to 29 (by program) -/
set_option maxRecDepth 20000 in
theorem bz_lc_27 : bz_ckl 295 (50 * 27) ((ac_295.drop (50 * 27)).take 50) = true := by decide +kernel
set_option maxRecDepth 20000 in
theorem bz_lc_28 : bz_ckl 295 (50 * 28) ((ac_295.drop (50 * 28)).take 50) = true := by decide +kernel
set_option maxRecDepth 20000 in
theorem bz_lc_29 : bz_ckl 295 (50 * 29) ((ac_295.drop (50 * 29)).take 50) = true := by decide +kernel
