/-! THE LAW'S WRAPPERS, its start and loop (by program) -/
set_option maxRecDepth 100000 in
theorem x_L_append_eq (a0 : Nat) (a1 : Int) (a2 : Int) (a3 : Int) (a4 : Int) (a5 : Int) (a6 : Nat) (μ : bz_M) : x_L_append a0 a1 a2 a3 a4 a5 a6 μ =
    bz_hi (d_E_append a0 a1 a2 a3 a4 a5 μ) (fun v2 μ1 =>
      bz_wL μ1 a6 0 v2 fun μ3 =>
      rI 0 μ3
      ) fun c4 μ5 => if c4 = 1 then rI 1 μ5 else none := (bX_eq _ _ _ _ _).trans rfl
set_option maxRecDepth 100000 in
theorem x_L_print_eq (a0 : Nat) (a1 : Int) (a2 : Int) (a3 : Int) (a4 : Int) (a5 : Int) (a6 : Nat) (μ : bz_M) : x_L_print a0 a1 a2 a3 a4 a5 a6 μ =
    bz_hi (d_E_print a0 a1 a2 a3 a4 a5 μ) (fun v2 μ1 =>
      bz_wL μ1 a6 0 v2 fun μ3 =>
      rI 0 μ3
      ) fun c4 μ5 => if c4 = 2 then rI 1 μ5 else if c4 = 3 then rI 2 μ5 else if c4 = 1 then rI 3 μ5 else none := (bX_eq _ _ _ _ _).trans rfl
set_option maxRecDepth 100000 in
theorem x_L_checkCharacter_eq (a0 : Nat) (a1 : Int) (a2 : Int) (a3 : Nat) (μ : bz_M) : x_L_checkCharacter a0 a1 a2 a3 μ =
    bz_hi (d_E_checkCharacter a0 a1 a2 μ) (fun v2 μ1 =>
      bz_wL μ1 a3 0 v2 fun μ3 =>
      rI 0 μ3
      ) fun c4 μ5 => if c4 = 2 then rI 1 μ5 else if c4 = 3 then rI 2 μ5 else none := (bX_eq _ _ _ _ _).trans rfl
set_option maxRecDepth 100000 in
theorem x_L_addWidths_eq (a0 : Nat) (a1 : Int) (a2 : Int) (a3 : Int) (a4 : Int) (a5 : Int) (a6 : Int) (a7 : Nat) (μ : bz_M) : x_L_addWidths a0 a1 a2 a3 a4 a5 a6 a7 μ =
    bz_hi (d_E_addWidths a0 a1 a2 a3 a4 a5 a6 μ) (fun v2 μ1 =>
      bz_wL μ1 a7 0 v2 fun μ3 =>
      rI 0 μ3
      ) fun c4 μ5 => if c4 = 3 then rI 1 μ5 else if c4 = 1 then rI 2 μ5 else none := (bX_eq _ _ _ _ _).trans rfl
set_option maxRecDepth 100000 in
theorem x_L_endScan_eq (a0 : Nat) (a1 : Nat) (μ : bz_M) : x_L_endScan a0 a1 μ =
    bz_hi (d_E_endScan a0 μ) (fun v2 μ1 =>
      bz_wL μ1 a1 0 v2 fun μ3 =>
      rI 0 μ3
      ) fun c4 μ5 => if c4 = 1 then rI 1 μ5 else none := (bX_eq _ _ _ _ _).trans rfl
set_option maxRecDepth 100000 in
theorem x_L_widthCount_eq (a0 : Nat) (a1 : Int) (a2 : Nat) (μ : bz_M) : x_L_widthCount a0 a1 a2 μ =
    bz_hi (d_E_widthCount a0 a1 μ) (fun v2 μ1 =>
      bz_wL μ1 a2 0 v2 fun μ3 =>
      rI 0 μ3
      ) fun c4 μ5 => if c4 = 2 then rI 1 μ5 else none := (bX_eq _ _ _ _ _).trans rfl
set_option maxRecDepth 100000 in
theorem x_L_width_eq (a0 : Nat) (a1 : Int) (a2 : Int) (a3 : Nat) (μ : bz_M) : x_L_width a0 a1 a2 a3 μ =
    bz_hi (d_E_width a0 a1 a2 μ) (fun v2 μ1 =>
      bz_wL μ1 a3 0 v2 fun μ3 =>
      rI 0 μ3
      ) fun c4 μ5 => if c4 = 2 then rI 1 μ5 else none := (bX_eq _ _ _ _ _).trans rfl
set_option maxRecDepth 100000 in
theorem x_L_setWidth_eq (a0 : Nat) (a1 : Int) (a2 : Int) (a3 : Int) (a4 : Nat) (μ : bz_M) : x_L_setWidth a0 a1 a2 a3 a4 μ =
    bz_hi (d_E_setWidth a0 a1 a2 a3 μ) (fun v2 μ1 =>
      bz_wL μ1 a4 0 v2 fun μ3 =>
      rI 0 μ3
      ) fun c4 μ5 => if c4 = 2 then rI 1 μ5 else if c4 = 3 then rI 2 μ5 else none := (bX_eq _ _ _ _ _).trans rfl
set_option maxRecDepth 100000 in
theorem x_L_cut_eq (a0 : Nat) (a1 : Int) (a2 : Int) (a3 : Int) (a4 : Nat) (μ : bz_M) : x_L_cut a0 a1 a2 a3 a4 μ =
    bz_hi (d_E_cut a0 a1 a2 a3 μ) (fun v2 μ1 =>
      bz_wL μ1 a4 0 v2 fun μ3 =>
      rI 0 μ3
      ) fun c4 μ5 => if c4 = 2 then rI 1 μ5 else if c4 = 3 then rI 2 μ5 else none := (bX_eq _ _ _ _ _).trans rfl
set_option maxRecDepth 100000 in
theorem x_L_reverse_eq (a0 : Nat) (a1 : Int) (μ : bz_M) : x_L_reverse a0 a1 μ =
    bz_hv (d_E_reverse a0 a1 μ) (fun μ1 =>
      rI 0 μ1
      ) fun c2 μ3 => if c2 = 2 then rI 1 μ3 else none := (bX_eq _ _ _ _ _).trans rfl
set_option maxRecDepth 100000 in
theorem x_L_smear_eq (a0 : Nat) (a1 : Int) (a2 : Int) (a3 : Nat) (μ : bz_M) : x_L_smear a0 a1 a2 a3 μ =
    bz_hi (d_E_smear a0 a1 a2 μ) (fun v2 μ1 =>
      bz_wL μ1 a3 0 v2 fun μ3 =>
      rI 0 μ3
      ) fun c4 μ5 => if c4 = 2 then rI 1 μ5 else if c4 = 3 then rI 2 μ5 else none := (bX_eq _ _ _ _ _).trans rfl
set_option maxRecDepth 100000 in
theorem x_L_average_eq (a0 : Nat) (a1 : Int) (a2 : Int) (μ : bz_M) : x_L_average a0 a1 a2 μ =
    bz_hv (d_E_average a0 a1 a2 μ) (fun μ1 =>
      rI 0 μ1
      ) fun c2 μ3 => if c2 = 2 then rI 1 μ3 else if c2 = 3 then rI 2 μ3 else none := (bX_eq _ _ _ _ _).trans rfl
set_option maxRecDepth 100000 in
theorem x_L_removeScan_eq (a0 : Nat) (a1 : Int) (a2 : Nat) (μ : bz_M) : x_L_removeScan a0 a1 a2 μ =
    bz_hi (d_E_removeScan a0 a1 μ) (fun v2 μ1 =>
      bz_wL μ1 a2 0 v2 fun μ3 =>
      rI 0 μ3
      ) fun c4 μ5 => if c4 = 2 then rI 1 μ5 else none := (bX_eq _ _ _ _ _).trans rfl
set_option maxRecDepth 100000 in
theorem x_L_read_eq (a0 : Nat) (a1 : Int) (a2 : Int) (a3 : Nat) (μ : bz_M) : x_L_read a0 a1 a2 a3 μ =
    bz_hi (d_E_read a0 a1 a2 μ) (fun v2 μ1 =>
      bz_wL μ1 a3 0 v2 fun μ3 =>
      rI 0 μ3
      ) fun c4 μ5 => if c4 = 2 then rI 1 μ5 else none := (bX_eq _ _ _ _ _).trans rfl
set_option maxRecDepth 100000 in
theorem x_L_readPart_eq (a0 : Nat) (a1 : Int) (a2 : Int) (a3 : Int) (a4 : Nat) (μ : bz_M) : x_L_readPart a0 a1 a2 a3 a4 μ =
    bz_hi (d_E_readPart a0 a1 a2 a3 μ) (fun v2 μ1 =>
      bz_wL μ1 a4 0 v2 fun μ3 =>
      rI 0 μ3
      ) fun c4 μ5 => if c4 = 2 then rI 1 μ5 else none := (bX_eq _ _ _ _ _).trans rfl
set_option maxRecDepth 100000 in
theorem x_L_character_eq (a0 : Nat) (a1 : Int) (a2 : Int) (a3 : Int) (a4 : Nat) (μ : bz_M) : x_L_character a0 a1 a2 a3 a4 μ =
    bz_hi (d_E_character a0 a1 a2 a3 μ) (fun v2 μ1 =>
      bz_wL μ1 a4 0 v2 fun μ3 =>
      rI 0 μ3
      ) fun c4 μ5 => if c4 = 2 then rI 1 μ5 else none := (bX_eq _ _ _ _ _).trans rfl
set_option maxRecDepth 100000 in
theorem x_L_confidence_eq (a0 : Nat) (a1 : Int) (a2 : Int) (a3 : Int) (a4 : Nat) (μ : bz_M) : x_L_confidence a0 a1 a2 a3 a4 μ =
    bz_hi (d_E_confidence a0 a1 a2 a3 μ) (fun v2 μ1 =>
      bz_wL μ1 a4 0 v2 fun μ3 =>
      rI 0 μ3
      ) fun c4 μ5 => if c4 = 2 then rI 1 μ5 else none := (bX_eq _ _ _ _ _).trans rfl
set_option maxRecDepth 100000 in
theorem x_L_partCharacter_eq (a0 : Nat) (a1 : Int) (a2 : Int) (a3 : Int) (a4 : Int) (a5 : Nat) (μ : bz_M) : x_L_partCharacter a0 a1 a2 a3 a4 a5 μ =
    bz_hi (d_E_partCharacter a0 a1 a2 a3 a4 μ) (fun v2 μ1 =>
      bz_wL μ1 a5 0 v2 fun μ3 =>
      rI 0 μ3
      ) fun c4 μ5 => if c4 = 2 then rI 1 μ5 else none := (bX_eq _ _ _ _ _).trans rfl
set_option maxRecDepth 100000 in
theorem x_L_isReversed_eq (a0 : Nat) (a1 : Int) (a2 : Int) (a3 : Nat) (μ : bz_M) : x_L_isReversed a0 a1 a2 a3 μ =
    bz_hi (d_E_isReversed a0 a1 a2 μ) (fun v2 μ1 =>
      if v2 = 0 then
        bz_wL μ1 a3 0 0 fun μ3 =>
        rI 0 μ3
      else
      bz_wL μ1 a3 0 1 fun μ4 =>
      rI 0 μ4
      ) fun c5 μ6 => if c5 = 2 then rI 1 μ6 else none := (bX_eq _ _ _ _ _).trans rfl
set_option maxRecDepth 100000 in
theorem x_L_agreement_eq (a0 : Nat) (a1 : Int) (a2 : Int) (a3 : Int) (a4 : Nat) (μ : bz_M) : x_L_agreement a0 a1 a2 a3 a4 μ =
    bz_hi (d_E_agreement a0 a1 a2 a3 μ) (fun v2 μ1 =>
      bz_wL μ1 a4 0 v2 fun μ3 =>
      rI 0 μ3
      ) fun c4 μ5 => if c4 = 2 then rI 1 μ5 else none := (bX_eq _ _ _ _ _).trans rfl
set_option maxRecDepth 100000 in
theorem x_L_overlap_eq (a0 : Nat) (a1 : Int) (a2 : Int) (a3 : Int) (a4 : Nat) (μ : bz_M) : x_L_overlap a0 a1 a2 a3 a4 μ =
    bz_hi (d_E_overlap a0 a1 a2 a3 μ) (fun v2 μ1 =>
      bz_wL μ1 a4 0 v2 fun μ3 =>
      rI 0 μ3
      ) fun c4 μ5 => if c4 = 2 then rI 1 μ5 else none := (bX_eq _ _ _ _ _).trans rfl
set_option maxRecDepth 100000 in
theorem x_L_module_eq (a0 : Nat) (a1 : Int) (a2 : Int) (a3 : Nat) (μ : bz_M) : x_L_module a0 a1 a2 a3 μ =
    bz_hi (d_E_module a0 a1 a2 μ) (fun v2 μ1 =>
      bz_wL μ1 a3 0 v2 fun μ3 =>
      rI 0 μ3
      ) fun c4 μ5 => if c4 = 2 then rI 1 μ5 else if c4 = 4 then rI 2 μ5 else none := (bX_eq _ _ _ _ _).trans rfl
set_option maxRecDepth 100000 in
theorem x_L_spread_eq (a0 : Nat) (a1 : Int) (a2 : Int) (a3 : Nat) (μ : bz_M) : x_L_spread a0 a1 a2 a3 μ =
    bz_hi (d_E_spread a0 a1 a2 μ) (fun v2 μ1 =>
      bz_wL μ1 a3 0 v2 fun μ3 =>
      rI 0 μ3
      ) fun c4 μ5 => if c4 = 2 then rI 1 μ5 else if c4 = 4 then rI 2 μ5 else none := (bX_eq _ _ _ _ _).trans rfl
set_option maxRecDepth 100000 in
theorem x_L_mergedLength_eq (a0 : Nat) (a1 : Int) (a2 : Int) (a3 : Int) (a4 : Nat) (μ : bz_M) : x_L_mergedLength a0 a1 a2 a3 a4 μ =
    bz_hi (d_E_mergedLength a0 a1 a2 a3 μ) (fun v2 μ1 =>
      bz_wL μ1 a4 0 v2 fun μ3 =>
      rI 0 μ3
      ) fun c4 μ5 => if c4 = 2 then rI 1 μ5 else none := (bX_eq _ _ _ _ _).trans rfl
set_option maxRecDepth 100000 in
theorem x_L_mergedCharacter_eq (a0 : Nat) (a1 : Int) (a2 : Int) (a3 : Int) (a4 : Int) (a5 : Nat) (μ : bz_M) : x_L_mergedCharacter a0 a1 a2 a3 a4 a5 μ =
    bz_hi (d_E_mergedCharacter a0 a1 a2 a3 a4 μ) (fun v2 μ1 =>
      bz_wL μ1 a5 0 v2 fun μ3 =>
      rI 0 μ3
      ) fun c4 μ5 => if c4 = 2 then rI 1 μ5 else none := (bX_eq _ _ _ _ _).trans rfl
set_option maxRecDepth 100000 in
theorem x_L_bestScan_eq (a0 : Nat) (a1 : Int) (a2 : Nat) (μ : bz_M) : x_L_bestScan a0 a1 a2 μ =
    bz_hi (d_E_bestScan a0 a1 μ) (fun v2 μ1 =>
      bz_wL μ1 a2 0 v2 fun μ3 =>
      rI 0 μ3
      ) fun c4 μ5 => if c4 = 2 then rI 1 μ5 else if c4 = 4 then rI 2 μ5 else none := (bX_eq _ _ _ _ _).trans rfl
set_option maxRecDepth 100000 in
theorem x_L_length_eq (a0 : Nat) (a1 : Int) (a2 : Nat) (μ : bz_M) : x_L_length a0 a1 a2 μ =
    bz_hi (d_E_length a0 a1 μ) (fun v2 μ1 =>
      bz_wL μ1 a2 0 v2 fun μ3 =>
      rI 0 μ3
      ) fun c4 μ5 => if c4 = 2 then rI 1 μ5 else none := (bX_eq _ _ _ _ _).trans rfl
set_option maxRecDepth 100000 in
theorem x_L_weight_eq (a0 : Nat) (a1 : Int) (a2 : Int) (a3 : Int) (a4 : Nat) (μ : bz_M) : x_L_weight a0 a1 a2 a3 a4 μ =
    bz_hi (d_E_weight a0 a1 a2 a3 μ) (fun v2 μ1 =>
      bz_wL μ1 a4 0 v2 fun μ3 =>
      rI 0 μ3
      ) fun c4 μ5 => if c4 = 2 then rI 1 μ5 else none := (bX_eq _ _ _ _ _).trans rfl
set_option maxRecDepth 100000 in
theorem x_L_voted_eq (a0 : Nat) (a1 : Int) (a2 : Int) (a3 : Nat) (μ : bz_M) : x_L_voted a0 a1 a2 a3 μ =
    bz_hi (d_E_voted a0 a1 a2 μ) (fun v2 μ1 =>
      bz_wL μ1 a3 0 v2 fun μ3 =>
      rI 0 μ3
      ) fun c4 μ5 => if c4 = 2 then rI 1 μ5 else none := (bX_eq _ _ _ _ _).trans rfl
set_option maxRecDepth 100000 in
theorem x_L_runnerUp_eq (a0 : Nat) (a1 : Int) (a2 : Int) (a3 : Nat) (μ : bz_M) : x_L_runnerUp a0 a1 a2 a3 μ =
    bz_hi (d_E_runnerUp a0 a1 a2 μ) (fun v2 μ1 =>
      bz_wL μ1 a3 0 v2 fun μ3 =>
      rI 0 μ3
      ) fun c4 μ5 => if c4 = 2 then rI 1 μ5 else none := (bX_eq _ _ _ _ _).trans rfl
set_option maxRecDepth 100000 in
theorem x_L_problem_eq (a0 : Nat) (a1 : Int) (a2 : Nat) (μ : bz_M) : x_L_problem a0 a1 a2 μ =
    bz_hi (d_E_problem a0 a1 μ) (fun v2 μ1 =>
      bz_wL μ1 a2 0 v2 fun μ3 =>
      rI 0 μ3
      ) fun c4 μ5 => if c4 = 2 then rI 1 μ5 else none := (bX_eq _ _ _ _ _).trans rfl
set_option maxRecDepth 100000 in
theorem x_L_doubtful_eq (a0 : Nat) (a1 : Int) (a2 : Nat) (μ : bz_M) : x_L_doubtful a0 a1 a2 μ =
    bz_hi (d_E_doubtful a0 a1 μ) (fun v2 μ1 =>
      bz_wL μ1 a2 0 v2 fun μ3 =>
      rI 0 μ3
      ) fun c4 μ5 => if c4 = 2 then rI 1 μ5 else none := (bX_eq _ _ _ _ _).trans rfl
set_option maxRecDepth 100000 in
theorem x_L_repaired_eq (a0 : Nat) (a1 : Int) (a2 : Nat) (μ : bz_M) : x_L_repaired a0 a1 a2 μ =
    bz_hi (d_E_repaired a0 a1 μ) (fun v2 μ1 =>
      bz_wL μ1 a2 0 v2 fun μ3 =>
      rI 0 μ3
      ) fun c4 μ5 => if c4 = 2 then rI 1 μ5 else if c4 = 1 then rI 2 μ5 else if c4 = 4 then rI 3 μ5 else none := (bX_eq _ _ _ _ _).trans rfl
set_option maxRecDepth 100000 in
theorem x_L_worstScan_eq (a0 : Nat) (a1 : Int) (a2 : Nat) (μ : bz_M) : x_L_worstScan a0 a1 a2 μ =
    bz_hi (d_E_worstScan a0 a1 μ) (fun v2 μ1 =>
      bz_wL μ1 a2 0 v2 fun μ3 =>
      rI 0 μ3
      ) fun c4 μ5 => if c4 = 2 then rI 1 μ5 else if c4 = 4 then rI 2 μ5 else none := (bX_eq _ _ _ _ _).trans rfl
set_option maxRecDepth 100000 in
theorem x_L_setCheck_eq (a0 : Nat) (a1 : Int) (a2 : Int) (a3 : Nat) (μ : bz_M) : x_L_setCheck a0 a1 a2 a3 μ =
    bz_hi (d_E_setCheck a0 a1 a2 μ) (fun v2 μ1 =>
      if v2 = 0 then
        bz_wL μ1 a3 0 0 fun μ3 =>
        rI 0 μ3
      else
      bz_wL μ1 a3 0 1 fun μ4 =>
      rI 0 μ4
      ) fun c5 μ6 => if c5 = 2 then rI 1 μ6 else none := (bX_eq _ _ _ _ _).trans rfl
set_option maxRecDepth 100000 in
theorem x_L_law_eq (a0 : Nat) (μ : bz_M) : x_L_law a0 μ =
    bz_nw μ 9 fun v1 μ2 =>
    bz_cu (d_E_new v1 μ2) fun μ3 =>
    bz_nw μ3 10 fun v4 μ5 =>
    bz_cu (d_M_new v4 μ5) fun μ6 =>
    bz_na μ6 23 1 fun v7 μ8 =>
    x_L_law_0 a0 v1 v4 v7 0 μ8 := (bX_eq _ _ _ _ _).trans rfl
set_option maxRecDepth 100000 in
theorem x_L_law_0_eq (x0 : Nat) (x1 : Nat) (x2 : Nat) (x3 : Nat) (x4 : Int) (μ : bz_M) : x_L_law_0 x0 x1 x2 x3 x4 μ =
    bz_al μ x0 fun v1 =>
    if wr (v1 - 7) < x4 then rI 1 μ else
    bz_rI μ x0 x4 fun v2 =>
    x_L_law_sw x0 x1 x2 x3 x4 (bz_and v2 63) μ := (bX_eq _ _ _ _ _).trans rfl
