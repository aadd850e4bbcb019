/-! THE LAW'S SWITCH (by program) -/
set_option maxRecDepth 100000 in
theorem x_L_law_sw4_eq (x0 : Nat) (x1 : Nat) (x2 : Nat) (x3 : Nat) (x4 : Int) (μ : bz_M) : x_L_law_sw x0 x1 x2 x3 x4 4 μ =
    bz_cn (x_L_endScan x1 x3 μ) fun v2 μ1 =>
    bz_ci (d_M_endScan x2 μ1) fun v4 μ3 =>
    bz_ci (d_M_thrown x2 μ3) fun v6 μ5 =>
    if v6 = v2 then
      if v2 = 0 then
        bz_rL μ5 x3 0 fun v7 =>
        if bz_cmp v7 v4 = 0 then x_L_law_0 x0 x1 x2 x3 (wr (x4 + 7)) μ5 else
        rI 0 μ5
      else
      x_L_law_0 x0 x1 x2 x3 (wr (x4 + 7)) μ5
    else
    rI 0 μ5 := rfl
set_option maxRecDepth 100000 in
theorem x_L_law_sw5_eq (x0 : Nat) (x1 : Nat) (x2 : Nat) (x3 : Nat) (x4 : Int) (μ : bz_M) : x_L_law_sw x0 x1 x2 x3 x4 5 μ =
    bz_ci (d_E_scanCount x1 μ) fun v2 μ1 =>
    bz_ci (d_M_scanCount x2 μ1) fun v4 μ3 =>
    if v2 = v4 then x_L_law_0 x0 x1 x2 x3 (wr (x4 + 7)) μ3 else
    rI 0 μ3 := rfl
set_option maxRecDepth 100000 in
theorem x_L_law_sw6_eq (x0 : Nat) (x1 : Nat) (x2 : Nat) (x3 : Nat) (x4 : Int) (μ : bz_M) : x_L_law_sw x0 x1 x2 x3 x4 6 μ =
    bz_rI μ x0 (wr (x4 + 1)) fun v1 =>
    bz_cn (x_L_widthCount x1 v1 x3 μ) fun v3 μ2 =>
    bz_rI μ2 x0 (wr (x4 + 1)) fun v4 =>
    bz_ci (d_M_widthCount x2 v4 μ2) fun v6 μ5 =>
    bz_ci (d_M_thrown x2 μ5) fun v8 μ7 =>
    if v8 = v3 then
      if v3 = 0 then
        bz_rL μ7 x3 0 fun v9 =>
        if bz_cmp v9 v6 = 0 then x_L_law_0 x0 x1 x2 x3 (wr (x4 + 7)) μ7 else
        rI 0 μ7
      else
      x_L_law_0 x0 x1 x2 x3 (wr (x4 + 7)) μ7
    else
    rI 0 μ7 := rfl
set_option maxRecDepth 100000 in
theorem x_L_law_sw7_eq (x0 : Nat) (x1 : Nat) (x2 : Nat) (x3 : Nat) (x4 : Int) (μ : bz_M) : x_L_law_sw x0 x1 x2 x3 x4 7 μ =
    bz_rI μ x0 (wr (x4 + 1)) fun v1 =>
    bz_rI μ x0 (wr (x4 + 2)) fun v2 =>
    bz_cn (x_L_width x1 v1 v2 x3 μ) fun v4 μ3 =>
    bz_rI μ3 x0 (wr (x4 + 1)) fun v5 =>
    bz_rI μ3 x0 (wr (x4 + 2)) fun v6 =>
    bz_ci (d_M_width x2 v5 v6 μ3) fun v8 μ7 =>
    bz_ci (d_M_thrown x2 μ7) fun v10 μ9 =>
    if v10 = v4 then
      if v4 = 0 then
        bz_rL μ9 x3 0 fun v11 =>
        if bz_cmp v11 v8 = 0 then x_L_law_0 x0 x1 x2 x3 (wr (x4 + 7)) μ9 else
        rI 0 μ9
      else
      x_L_law_0 x0 x1 x2 x3 (wr (x4 + 7)) μ9
    else
    rI 0 μ9 := rfl
