/-! THE LAW'S SWITCH (by program) -/
set_option maxRecDepth 100000 in
theorem x_L_law_sw12_eq (x0 : Nat) (x1 : Nat) (x2 : Nat) (x3 : Nat) (x4 : Int) (μ : bz_M) : x_L_law_sw x0 x1 x2 x3 x4 12 μ =
    bz_rI μ x0 (wr (x4 + 1)) fun v1 =>
    bz_rI μ x0 (wr (x4 + 2)) fun v2 =>
    bz_cn (x_L_average x1 v1 v2 μ) fun v4 μ3 =>
    bz_rI μ3 x0 (wr (x4 + 1)) fun v5 =>
    bz_rI μ3 x0 (wr (x4 + 2)) fun v6 =>
    bz_cv (d_M_average x2 v5 v6 μ3) fun μ7 =>
    bz_ci (d_M_thrown x2 μ7) fun v9 μ8 =>
    if v9 = v4 then x_L_law_0 x0 x1 x2 x3 (wr (x4 + 7)) μ8 else
    rI 0 μ8 := rfl
set_option maxRecDepth 100000 in
theorem x_L_law_sw13_eq (x0 : Nat) (x1 : Nat) (x2 : Nat) (x3 : Nat) (x4 : Int) (μ : bz_M) : x_L_law_sw x0 x1 x2 x3 x4 13 μ =
    bz_rI μ x0 (wr (x4 + 1)) fun v1 =>
    bz_cn (x_L_removeScan x1 v1 x3 μ) fun v3 μ2 =>
    bz_rI μ2 x0 (wr (x4 + 1)) fun v4 =>
    bz_ci (d_M_removeScan x2 v4 μ2) fun v6 μ5 =>
    bz_ci (d_M_thrown x2 μ5) fun v8 μ7 =>
    if v8 = v3 then
      if v3 = 0 then
        bz_rL μ7 x3 0 fun v9 =>
        if bz_cmp v9 v6 = 0 then x_L_law_0 x0 x1 x2 x3 (wr (x4 + 7)) μ7 else
        rI 0 μ7
      else
      x_L_law_0 x0 x1 x2 x3 (wr (x4 + 7)) μ7
    else
    rI 0 μ7 := rfl
set_option maxRecDepth 100000 in
theorem x_L_law_sw14_eq (x0 : Nat) (x1 : Nat) (x2 : Nat) (x3 : Nat) (x4 : Int) (μ : bz_M) : x_L_law_sw x0 x1 x2 x3 x4 14 μ =
    bz_rI μ x0 (wr (x4 + 1)) fun v1 =>
    bz_rI μ x0 (wr (x4 + 2)) fun v2 =>
    bz_cn (x_L_read x1 v1 v2 x3 μ) fun v4 μ3 =>
    bz_rI μ3 x0 (wr (x4 + 1)) fun v5 =>
    bz_rI μ3 x0 (wr (x4 + 2)) fun v6 =>
    bz_ci (d_M_read x2 v5 v6 μ3) fun v8 μ7 =>
    bz_ci (d_M_thrown x2 μ7) fun v10 μ9 =>
    if v10 = v4 then
      if v4 = 0 then
        bz_rL μ9 x3 0 fun v11 =>
        if bz_cmp v11 v8 = 0 then x_L_law_0 x0 x1 x2 x3 (wr (x4 + 7)) μ9 else
        rI 0 μ9
      else
      x_L_law_0 x0 x1 x2 x3 (wr (x4 + 7)) μ9
    else
    rI 0 μ9 := rfl
set_option maxRecDepth 100000 in
theorem x_L_law_sw15_eq (x0 : Nat) (x1 : Nat) (x2 : Nat) (x3 : Nat) (x4 : Int) (μ : bz_M) : x_L_law_sw x0 x1 x2 x3 x4 15 μ =
    bz_rI μ x0 (wr (x4 + 1)) fun v1 =>
    bz_rI μ x0 (wr (x4 + 2)) fun v2 =>
    bz_rI μ x0 (wr (x4 + 3)) fun v3 =>
    if v3 = 0 then
      bz_cn (x_L_readPart x1 v1 v2 0 x3 μ) fun v5 μ4 =>
      bz_rI μ4 x0 (wr (x4 + 1)) fun v6 =>
      bz_rI μ4 x0 (wr (x4 + 2)) fun v7 =>
      bz_rI μ4 x0 (wr (x4 + 3)) fun v8 =>
      if v8 = 0 then
        bz_ci (d_M_readPart x2 v6 v7 0 μ4) fun v10 μ9 =>
        bz_ci (d_M_thrown x2 μ9) fun v12 μ11 =>
        if v12 = v5 then
          if v5 = 0 then
            bz_rL μ11 x3 0 fun v13 =>
            if bz_cmp v13 v10 = 0 then x_L_law_0 x0 x1 x2 x3 (wr (x4 + 7)) μ11 else
            rI 0 μ11
          else
          x_L_law_0 x0 x1 x2 x3 (wr (x4 + 7)) μ11
        else
        rI 0 μ11
      else
      bz_ci (d_M_readPart x2 v6 v7 1 μ4) fun v15 μ14 =>
      bz_ci (d_M_thrown x2 μ14) fun v17 μ16 =>
      if v17 = v5 then
        if v5 = 0 then
          bz_rL μ16 x3 0 fun v18 =>
          if bz_cmp v18 v15 = 0 then x_L_law_0 x0 x1 x2 x3 (wr (x4 + 7)) μ16 else
          rI 0 μ16
        else
        x_L_law_0 x0 x1 x2 x3 (wr (x4 + 7)) μ16
      else
      rI 0 μ16
    else
    bz_cn (x_L_readPart x1 v1 v2 1 x3 μ) fun v20 μ19 =>
    bz_rI μ19 x0 (wr (x4 + 1)) fun v21 =>
    bz_rI μ19 x0 (wr (x4 + 2)) fun v22 =>
    bz_rI μ19 x0 (wr (x4 + 3)) fun v23 =>
    if v23 = 0 then
      bz_ci (d_M_readPart x2 v21 v22 0 μ19) fun v25 μ24 =>
      bz_ci (d_M_thrown x2 μ24) fun v27 μ26 =>
      if v27 = v20 then
        if v20 = 0 then
          bz_rL μ26 x3 0 fun v28 =>
          if bz_cmp v28 v25 = 0 then x_L_law_0 x0 x1 x2 x3 (wr (x4 + 7)) μ26 else
          rI 0 μ26
        else
        x_L_law_0 x0 x1 x2 x3 (wr (x4 + 7)) μ26
      else
      rI 0 μ26
    else
    bz_ci (d_M_readPart x2 v21 v22 1 μ19) fun v30 μ29 =>
    bz_ci (d_M_thrown x2 μ29) fun v32 μ31 =>
    if v32 = v20 then
      if v20 = 0 then
        bz_rL μ31 x3 0 fun v33 =>
        if bz_cmp v33 v30 = 0 then x_L_law_0 x0 x1 x2 x3 (wr (x4 + 7)) μ31 else
        rI 0 μ31
      else
      x_L_law_0 x0 x1 x2 x3 (wr (x4 + 7)) μ31
    else
    rI 0 μ31 := rfl
