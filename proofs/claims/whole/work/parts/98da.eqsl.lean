/-! THE LAW'S SWITCH (by program) -/
set_option maxRecDepth 100000 in
theorem x_L_law_sw0_eq (x0 : Nat) (x1 : Nat) (x2 : Nat) (x3 : Nat) (x4 : Int) (μ : bz_M) : x_L_law_sw x0 x1 x2 x3 x4 0 μ =
    bz_rI μ x0 (wr (x4 + 1)) fun v1 =>
    bz_rI μ x0 (wr (x4 + 2)) fun v2 =>
    bz_rI μ x0 (wr (x4 + 3)) fun v3 =>
    bz_rI μ x0 (wr (x4 + 4)) fun v4 =>
    bz_rI μ x0 (wr (x4 + 5)) fun v5 =>
    bz_cn (x_L_append x1 v1 v2 v3 v4 v5 x3 μ) fun v7 μ6 =>
    bz_rI μ6 x0 (wr (x4 + 1)) fun v8 =>
    bz_rI μ6 x0 (wr (x4 + 2)) fun v9 =>
    bz_rI μ6 x0 (wr (x4 + 3)) fun v10 =>
    bz_rI μ6 x0 (wr (x4 + 4)) fun v11 =>
    bz_rI μ6 x0 (wr (x4 + 5)) fun v12 =>
    bz_ci (d_M_append x2 v8 v9 v10 v11 v12 μ6) fun v14 μ13 =>
    bz_ci (d_M_thrown x2 μ13) fun v16 μ15 =>
    if v16 = v7 then
      if v7 = 0 then
        bz_rL μ15 x3 0 fun v17 =>
        if bz_cmp v17 v14 = 0 then x_L_law_0 x0 x1 x2 x3 (wr (x4 + 7)) μ15 else
        rI 0 μ15
      else
      x_L_law_0 x0 x1 x2 x3 (wr (x4 + 7)) μ15
    else
    rI 0 μ15 := rfl
set_option maxRecDepth 100000 in
theorem x_L_law_sw1_eq (x0 : Nat) (x1 : Nat) (x2 : Nat) (x3 : Nat) (x4 : Int) (μ : bz_M) : x_L_law_sw x0 x1 x2 x3 x4 1 μ =
    bz_rI μ x0 (wr (x4 + 1)) fun v1 =>
    bz_rI μ x0 (wr (x4 + 2)) fun v2 =>
    bz_rI μ x0 (wr (x4 + 3)) fun v3 =>
    bz_rI μ x0 (wr (x4 + 4)) fun v4 =>
    bz_rI μ x0 (wr (x4 + 5)) fun v5 =>
    bz_cn (x_L_print x1 v1 v2 v3 v4 v5 x3 μ) fun v7 μ6 =>
    bz_rI μ6 x0 (wr (x4 + 1)) fun v8 =>
    bz_rI μ6 x0 (wr (x4 + 2)) fun v9 =>
    bz_rI μ6 x0 (wr (x4 + 3)) fun v10 =>
    bz_rI μ6 x0 (wr (x4 + 4)) fun v11 =>
    bz_rI μ6 x0 (wr (x4 + 5)) fun v12 =>
    bz_ci (d_M_print x2 v8 v9 v10 v11 v12 μ6) fun v14 μ13 =>
    bz_ci (d_M_thrown x2 μ13) fun v16 μ15 =>
    if v16 = v7 then
      if v7 = 0 then
        bz_rL μ15 x3 0 fun v17 =>
        if bz_cmp v17 v14 = 0 then x_L_law_0 x0 x1 x2 x3 (wr (x4 + 7)) μ15 else
        rI 0 μ15
      else
      x_L_law_0 x0 x1 x2 x3 (wr (x4 + 7)) μ15
    else
    rI 0 μ15 := rfl
set_option maxRecDepth 100000 in
theorem x_L_law_sw2_eq (x0 : Nat) (x1 : Nat) (x2 : Nat) (x3 : Nat) (x4 : Int) (μ : bz_M) : x_L_law_sw x0 x1 x2 x3 x4 2 μ =
    bz_rI μ x0 (wr (x4 + 1)) fun v1 =>
    bz_rI μ x0 (wr (x4 + 2)) fun v2 =>
    bz_cn (x_L_checkCharacter x1 v1 v2 x3 μ) fun v4 μ3 =>
    bz_rI μ3 x0 (wr (x4 + 1)) fun v5 =>
    bz_rI μ3 x0 (wr (x4 + 2)) fun v6 =>
    bz_ci (d_M_checkCharacter x2 v5 v6 μ3) fun v8 μ7 =>
    bz_ci (d_M_thrown x2 μ7) fun v10 μ9 =>
    if v10 = v4 then
      if v4 = 0 then
        bz_rL μ9 x3 0 fun v11 =>
        if bz_cmp v11 v8 = 0 then x_L_law_0 x0 x1 x2 x3 (wr (x4 + 7)) μ9 else
        rI 0 μ9
      else
      x_L_law_0 x0 x1 x2 x3 (wr (x4 + 7)) μ9
    else
    rI 0 μ9 := rfl
set_option maxRecDepth 100000 in
theorem x_L_law_sw3_eq (x0 : Nat) (x1 : Nat) (x2 : Nat) (x3 : Nat) (x4 : Int) (μ : bz_M) : x_L_law_sw x0 x1 x2 x3 x4 3 μ =
    bz_rI μ x0 (wr (x4 + 1)) fun v1 =>
    bz_rI μ x0 (wr (x4 + 2)) fun v2 =>
    bz_rI μ x0 (wr (x4 + 3)) fun v3 =>
    bz_rI μ x0 (wr (x4 + 4)) fun v4 =>
    bz_rI μ x0 (wr (x4 + 5)) fun v5 =>
    bz_rI μ x0 (wr (x4 + 6)) fun v6 =>
    bz_cn (x_L_addWidths x1 v1 v2 v3 v4 v5 v6 x3 μ) fun v8 μ7 =>
    bz_rI μ7 x0 (wr (x4 + 1)) fun v9 =>
    bz_rI μ7 x0 (wr (x4 + 2)) fun v10 =>
    bz_rI μ7 x0 (wr (x4 + 3)) fun v11 =>
    bz_rI μ7 x0 (wr (x4 + 4)) fun v12 =>
    bz_rI μ7 x0 (wr (x4 + 5)) fun v13 =>
    bz_rI μ7 x0 (wr (x4 + 6)) fun v14 =>
    bz_ci (d_M_addWidths x2 v9 v10 v11 v12 v13 v14 μ7) fun v16 μ15 =>
    bz_ci (d_M_thrown x2 μ15) fun v18 μ17 =>
    if v18 = v8 then
      if v8 = 0 then
        bz_rL μ17 x3 0 fun v19 =>
        if bz_cmp v19 v16 = 0 then x_L_law_0 x0 x1 x2 x3 (wr (x4 + 7)) μ17 else
        rI 0 μ17
      else
      x_L_law_0 x0 x1 x2 x3 (wr (x4 + 7)) μ17
    else
    rI 0 μ17 := rfl
