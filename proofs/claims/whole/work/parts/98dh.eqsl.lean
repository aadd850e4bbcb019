/-! THE LAW'S SWITCH (by program) -/
set_option maxRecDepth 100000 in
theorem x_L_law_sw28_eq (x0 : Nat) (x1 : Nat) (x2 : Nat) (x3 : Nat) (x4 : Int) (μ : bz_M) : x_L_law_sw x0 x1 x2 x3 x4 28 μ =
    bz_rI μ x0 (wr (x4 + 1)) fun v1 =>
    bz_rI μ x0 (wr (x4 + 2)) fun v2 =>
    bz_rI μ x0 (wr (x4 + 3)) fun v3 =>
    bz_cn (x_L_weight x1 v1 v2 v3 x3 μ) fun v5 μ4 =>
    bz_rI μ4 x0 (wr (x4 + 1)) fun v6 =>
    bz_rI μ4 x0 (wr (x4 + 2)) fun v7 =>
    bz_rI μ4 x0 (wr (x4 + 3)) fun v8 =>
    bz_ci (d_M_weight x2 v6 v7 v8 μ4) fun v10 μ9 =>
    bz_ci (d_M_thrown x2 μ9) fun v12 μ11 =>
    if v12 = v5 then
      if v5 = 0 then
        bz_rL μ11 x3 0 fun v13 =>
        if bz_cmp v13 v10 = 0 then x_L_law_0 x0 x1 x2 x3 (wr (x4 + 7)) μ11 else
        rI 0 μ11
      else
      x_L_law_0 x0 x1 x2 x3 (wr (x4 + 7)) μ11
    else
    rI 0 μ11 := rfl
set_option maxRecDepth 100000 in
theorem x_L_law_sw29_eq (x0 : Nat) (x1 : Nat) (x2 : Nat) (x3 : Nat) (x4 : Int) (μ : bz_M) : x_L_law_sw x0 x1 x2 x3 x4 29 μ =
    bz_rI μ x0 (wr (x4 + 1)) fun v1 =>
    bz_rI μ x0 (wr (x4 + 2)) fun v2 =>
    bz_cn (x_L_voted x1 v1 v2 x3 μ) fun v4 μ3 =>
    bz_rI μ3 x0 (wr (x4 + 1)) fun v5 =>
    bz_rI μ3 x0 (wr (x4 + 2)) fun v6 =>
    bz_ci (d_M_voted x2 v5 v6 μ3) fun v8 μ7 =>
    bz_ci (d_M_thrown x2 μ7) fun v10 μ9 =>
    if v10 = v4 then
      if v4 = 0 then
        bz_rL μ9 x3 0 fun v11 =>
        if bz_cmp v11 v8 = 0 then x_L_law_0 x0 x1 x2 x3 (wr (x4 + 7)) μ9 else
        rI 0 μ9
      else
      x_L_law_0 x0 x1 x2 x3 (wr (x4 + 7)) μ9
    else
    rI 0 μ9 := rfl
set_option maxRecDepth 100000 in
theorem x_L_law_sw30_eq (x0 : Nat) (x1 : Nat) (x2 : Nat) (x3 : Nat) (x4 : Int) (μ : bz_M) : x_L_law_sw x0 x1 x2 x3 x4 30 μ =
    bz_rI μ x0 (wr (x4 + 1)) fun v1 =>
    bz_rI μ x0 (wr (x4 + 2)) fun v2 =>
    bz_cn (x_L_runnerUp x1 v1 v2 x3 μ) fun v4 μ3 =>
    bz_rI μ3 x0 (wr (x4 + 1)) fun v5 =>
    bz_rI μ3 x0 (wr (x4 + 2)) fun v6 =>
    bz_ci (d_M_runnerUp x2 v5 v6 μ3) fun v8 μ7 =>
    bz_ci (d_M_thrown x2 μ7) fun v10 μ9 =>
    if v10 = v4 then
      if v4 = 0 then
        bz_rL μ9 x3 0 fun v11 =>
        if bz_cmp v11 v8 = 0 then x_L_law_0 x0 x1 x2 x3 (wr (x4 + 7)) μ9 else
        rI 0 μ9
      else
      x_L_law_0 x0 x1 x2 x3 (wr (x4 + 7)) μ9
    else
    rI 0 μ9 := rfl
set_option maxRecDepth 100000 in
theorem x_L_law_sw31_eq (x0 : Nat) (x1 : Nat) (x2 : Nat) (x3 : Nat) (x4 : Int) (μ : bz_M) : x_L_law_sw x0 x1 x2 x3 x4 31 μ =
    bz_rI μ x0 (wr (x4 + 1)) fun v1 =>
    bz_cn (x_L_problem x1 v1 x3 μ) fun v3 μ2 =>
    bz_rI μ2 x0 (wr (x4 + 1)) fun v4 =>
    bz_ci (d_M_problem x2 v4 μ2) fun v6 μ5 =>
    bz_ci (d_M_thrown x2 μ5) fun v8 μ7 =>
    if v8 = v3 then
      if v3 = 0 then
        bz_rL μ7 x3 0 fun v9 =>
        if bz_cmp v9 v6 = 0 then x_L_law_0 x0 x1 x2 x3 (wr (x4 + 7)) μ7 else
        rI 0 μ7
      else
      x_L_law_0 x0 x1 x2 x3 (wr (x4 + 7)) μ7
    else
    rI 0 μ7 := rfl
