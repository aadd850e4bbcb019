/-! THE LAW'S SWITCH (by program) -/
set_option maxRecDepth 100000 in
theorem x_L_law_sw32_eq (x0 : Nat) (x1 : Nat) (x2 : Nat) (x3 : Nat) (x4 : Int) (μ : bz_M) : x_L_law_sw x0 x1 x2 x3 x4 32 μ =
    bz_rI μ x0 (wr (x4 + 1)) fun v1 =>
    bz_cn (x_L_doubtful x1 v1 x3 μ) fun v3 μ2 =>
    bz_rI μ2 x0 (wr (x4 + 1)) fun v4 =>
    bz_ci (d_M_doubtful x2 v4 μ2) fun v6 μ5 =>
    bz_ci (d_M_thrown x2 μ5) fun v8 μ7 =>
    if v8 = v3 then
      if v3 = 0 then
        bz_rL μ7 x3 0 fun v9 =>
        if bz_cmp v9 v6 = 0 then x_L_law_0 x0 x1 x2 x3 (wr (x4 + 7)) μ7 else
        rI 0 μ7
      else
      x_L_law_0 x0 x1 x2 x3 (wr (x4 + 7)) μ7
    else
    rI 0 μ7 := rfl
set_option maxRecDepth 100000 in
theorem x_L_law_sw33_eq (x0 : Nat) (x1 : Nat) (x2 : Nat) (x3 : Nat) (x4 : Int) (μ : bz_M) : x_L_law_sw x0 x1 x2 x3 x4 33 μ =
    bz_rI μ x0 (wr (x4 + 1)) fun v1 =>
    bz_cn (x_L_repaired x1 v1 x3 μ) fun v3 μ2 =>
    bz_rI μ2 x0 (wr (x4 + 1)) fun v4 =>
    bz_ci (d_M_repaired x2 v4 μ2) fun v6 μ5 =>
    bz_ci (d_M_thrown x2 μ5) fun v8 μ7 =>
    if v8 = v3 then
      if v3 = 0 then
        bz_rL μ7 x3 0 fun v9 =>
        if bz_cmp v9 v6 = 0 then x_L_law_0 x0 x1 x2 x3 (wr (x4 + 7)) μ7 else
        rI 0 μ7
      else
      x_L_law_0 x0 x1 x2 x3 (wr (x4 + 7)) μ7
    else
    rI 0 μ7 := rfl
set_option maxRecDepth 100000 in
theorem x_L_law_sw34_eq (x0 : Nat) (x1 : Nat) (x2 : Nat) (x3 : Nat) (x4 : Int) (μ : bz_M) : x_L_law_sw x0 x1 x2 x3 x4 34 μ =
    bz_ci (d_E_winner x1 μ) fun v2 μ1 =>
    bz_ci (d_M_winner x2 μ1) fun v4 μ3 =>
    if v2 = v4 then x_L_law_0 x0 x1 x2 x3 (wr (x4 + 7)) μ3 else
    rI 0 μ3 := rfl
set_option maxRecDepth 100000 in
theorem x_L_law_sw35_eq (x0 : Nat) (x1 : Nat) (x2 : Nat) (x3 : Nat) (x4 : Int) (μ : bz_M) : x_L_law_sw x0 x1 x2 x3 x4 35 μ =
    bz_rI μ x0 (wr (x4 + 1)) fun v1 =>
    bz_cn (x_L_worstScan x1 v1 x3 μ) fun v3 μ2 =>
    bz_rI μ2 x0 (wr (x4 + 1)) fun v4 =>
    bz_ci (d_M_worstScan x2 v4 μ2) fun v6 μ5 =>
    bz_ci (d_M_thrown x2 μ5) fun v8 μ7 =>
    if v8 = v3 then
      if v3 = 0 then
        bz_rL μ7 x3 0 fun v9 =>
        if bz_cmp v9 v6 = 0 then x_L_law_0 x0 x1 x2 x3 (wr (x4 + 7)) μ7 else
        rI 0 μ7
      else
      x_L_law_0 x0 x1 x2 x3 (wr (x4 + 7)) μ7
    else
    rI 0 μ7 := rfl
