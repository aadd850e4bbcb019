/-! THE LAW'S SWITCH (by program) -/
set_option maxRecDepth 100000 in
theorem x_L_law_sw36_eq (x0 : Nat) (x1 : Nat) (x2 : Nat) (x3 : Nat) (x4 : Int) (μ : bz_M) : x_L_law_sw x0 x1 x2 x3 x4 36 μ =
    bz_rI μ x0 (wr (x4 + 1)) fun v1 =>
    bz_rI μ x0 (wr (x4 + 2)) fun v2 =>
    if v2 = 0 then
      bz_cn (x_L_setCheck x1 v1 0 x3 μ) fun v4 μ3 =>
      bz_rI μ3 x0 (wr (x4 + 1)) fun v5 =>
      bz_rI μ3 x0 (wr (x4 + 2)) fun v6 =>
      if v6 = 0 then
        bz_ci (d_M_setCheck x2 v5 0 μ3) fun v8 μ7 =>
        bz_ci (d_M_thrown x2 μ7) fun v10 μ9 =>
        if v10 = v4 then
          if v4 = 0 then
            bz_rL μ9 x3 0 fun v11 =>
            if v8 = 0 then
              if bz_cmp v11 0 = 0 then x_L_law_0 x0 x1 x2 x3 (wr (x4 + 7)) μ9 else
              rI 0 μ9
            else
            if bz_cmp v11 1 = 0 then x_L_law_0 x0 x1 x2 x3 (wr (x4 + 7)) μ9 else
            rI 0 μ9
          else
          x_L_law_0 x0 x1 x2 x3 (wr (x4 + 7)) μ9
        else
        rI 0 μ9
      else
      bz_ci (d_M_setCheck x2 v5 1 μ3) fun v13 μ12 =>
      bz_ci (d_M_thrown x2 μ12) fun v15 μ14 =>
      if v15 = v4 then
        if v4 = 0 then
          bz_rL μ14 x3 0 fun v16 =>
          if v13 = 0 then
            if bz_cmp v16 0 = 0 then x_L_law_0 x0 x1 x2 x3 (wr (x4 + 7)) μ14 else
            rI 0 μ14
          else
          if bz_cmp v16 1 = 0 then x_L_law_0 x0 x1 x2 x3 (wr (x4 + 7)) μ14 else
          rI 0 μ14
        else
        x_L_law_0 x0 x1 x2 x3 (wr (x4 + 7)) μ14
      else
      rI 0 μ14
    else
    bz_cn (x_L_setCheck x1 v1 1 x3 μ) fun v18 μ17 =>
    bz_rI μ17 x0 (wr (x4 + 1)) fun v19 =>
    bz_rI μ17 x0 (wr (x4 + 2)) fun v20 =>
    if v20 = 0 then
      bz_ci (d_M_setCheck x2 v19 0 μ17) fun v22 μ21 =>
      bz_ci (d_M_thrown x2 μ21) fun v24 μ23 =>
      if v24 = v18 then
        if v18 = 0 then
          bz_rL μ23 x3 0 fun v25 =>
          if v22 = 0 then
            if bz_cmp v25 0 = 0 then x_L_law_0 x0 x1 x2 x3 (wr (x4 + 7)) μ23 else
            rI 0 μ23
          else
          if bz_cmp v25 1 = 0 then x_L_law_0 x0 x1 x2 x3 (wr (x4 + 7)) μ23 else
          rI 0 μ23
        else
        x_L_law_0 x0 x1 x2 x3 (wr (x4 + 7)) μ23
      else
      rI 0 μ23
    else
    bz_ci (d_M_setCheck x2 v19 1 μ17) fun v27 μ26 =>
    bz_ci (d_M_thrown x2 μ26) fun v29 μ28 =>
    if v29 = v18 then
      if v18 = 0 then
        bz_rL μ28 x3 0 fun v30 =>
        if v27 = 0 then
          if bz_cmp v30 0 = 0 then x_L_law_0 x0 x1 x2 x3 (wr (x4 + 7)) μ28 else
          rI 0 μ28
        else
        if bz_cmp v30 1 = 0 then x_L_law_0 x0 x1 x2 x3 (wr (x4 + 7)) μ28 else
        rI 0 μ28
      else
      x_L_law_0 x0 x1 x2 x3 (wr (x4 + 7)) μ28
    else
    rI 0 μ28 := rfl
set_option maxRecDepth 100000 in
theorem x_L_law_sw37_eq (x0 : Nat) (x1 : Nat) (x2 : Nat) (x3 : Nat) (x4 : Int) (μ : bz_M) : x_L_law_sw x0 x1 x2 x3 x4 37 μ =
    x_L_law_0 x0 x1 x2 x3 (wr (x4 + 7)) μ := rfl
set_option maxRecDepth 100000 in
theorem x_L_law_swd (x0 : Nat) (x1 : Nat) (x2 : Nat) (x3 : Nat) (x4 : Int) (v : Int) (μ : bz_M) (h : v < 0 ∨ 36 < v) : x_L_law_sw x0 x1 x2 x3 x4 v μ =
    x_L_law_0 x0 x1 x2 x3 (wr (x4 + 7)) μ := if_pos h
