/-! THE LAW'S CHECK, pieces 33 to 35 (by program) -/
set_option maxRecDepth 20000 in
theorem bz_lc_33 : bz_ckl 295 (50 * 33) ((ac_295.drop (50 * 33)).take 50) = true := by decide +kernel
set_option maxRecDepth 20000 in
theorem bz_lc_34 : bz_ckl 295 (50 * 34) ((ac_295.drop (50 * 34)).take 50) = true := by decide +kernel
set_option maxRecDepth 20000 in
theorem bz_lc_35 : bz_ckl 295 (50 * 35) ((ac_295.drop (50 * 35)).take 50) = true := by decide +kernel
