/-! THE LAW'S CHECK, together -/
theorem bz_lc : ∀ j, j < 36 → bz_ckl 295 (50 * j) ((ac_295.drop (50 * j)).take 50) = true := by
  intro j hj
  match j, hj with
  | 0, _ => exact bz_lc_0
  | 1, _ => exact bz_lc_1
  | 2, _ => exact bz_lc_2
  | 3, _ => exact bz_lc_3
  | 4, _ => exact bz_lc_4
  | 5, _ => exact bz_lc_5
  | 6, _ => exact bz_lc_6
  | 7, _ => exact bz_lc_7
  | 8, _ => exact bz_lc_8
  | 9, _ => exact bz_lc_9
  | 10, _ => exact bz_lc_10
  | 11, _ => exact bz_lc_11
  | 12, _ => exact bz_lc_12
  | 13, _ => exact bz_lc_13
  | 14, _ => exact bz_lc_14
  | 15, _ => exact bz_lc_15
  | 16, _ => exact bz_lc_16
  | 17, _ => exact bz_lc_17
  | 18, _ => exact bz_lc_18
  | 19, _ => exact bz_lc_19
  | 20, _ => exact bz_lc_20
  | 21, _ => exact bz_lc_21
  | 22, _ => exact bz_lc_22
  | 23, _ => exact bz_lc_23
  | 24, _ => exact bz_lc_24
  | 25, _ => exact bz_lc_25
  | 26, _ => exact bz_lc_26
  | 27, _ => exact bz_lc_27
  | 28, _ => exact bz_lc_28
  | 29, _ => exact bz_lc_29
  | 30, _ => exact bz_lc_30
  | 31, _ => exact bz_lc_31
  | 32, _ => exact bz_lc_32
  | 33, _ => exact bz_lc_33
  | 34, _ => exact bz_lc_34
  | 35, _ => exact bz_lc_35
  | n + 36, h => exact absurd h (by omega)
set_option maxRecDepth 20000 in
theorem bz_c_295 : bz_ckl 295 0 ac_295 = true := bz_ckl_seg (n := 50) (m := 36) (by decide) bz_lc (by decide +kernel)
