/-! THE LAW'S CHECK, pieces 24 to 26 (by program) -/
set_option maxRecDepth 20000 in
theorem bz_lc_24 : bz_ckl 295 (50 * 24) ((ac_295.drop (50 * 24)).take 50) = true := by decide +kernel
set_option maxRecDepth 20000 in
theorem bz_lc_25 : bz_ckl 295 (50 * 25) ((ac_295.drop (50 * 25)).take 50) = true := by decide +kernel
set_option maxRecDepth 20000 in
theorem bz_lc_26 : bz_ckl 295 (50 * 26) ((ac_295.drop (50 * 26)).take 50) = true := by decide +kernel
