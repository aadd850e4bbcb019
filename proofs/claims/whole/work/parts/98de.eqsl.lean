/-! THE LAW'S SWITCH (by program) -/
set_option maxRecDepth 100000 in
theorem x_L_law_sw16_eq (x0 : Nat) (x1 : Nat) (x2 : Nat) (x3 : Nat) (x4 : Int) (μ : bz_M) : x_L_law_sw x0 x1 x2 x3 x4 16 μ =
    bz_rI μ x0 (wr (x4 + 1)) fun v1 =>
    bz_rI μ x0 (wr (x4 + 2)) fun v2 =>
    bz_rI μ x0 (wr (x4 + 3)) fun v3 =>
    bz_cn (x_L_character x1 v1 v2 v3 x3 μ) fun v5 μ4 =>
    bz_rI μ4 x0 (wr (x4 + 1)) fun v6 =>
    bz_rI μ4 x0 (wr (x4 + 2)) fun v7 =>
    bz_rI μ4 x0 (wr (x4 + 3)) fun v8 =>
    bz_ci (d_M_character x2 v6 v7 v8 μ4) fun v10 μ9 =>
    bz_ci (d_M_thrown x2 μ9) fun v12 μ11 =>
    if v12 = v5 then
      if v5 = 0 then
        bz_rL μ11 x3 0 fun v13 =>
        if bz_cmp v13 v10 = 0 then x_L_law_0 x0 x1 x2 x3 (wr (x4 + 7)) μ11 else
        rI 0 μ11
      else
      x_L_law_0 x0 x1 x2 x3 (wr (x4 + 7)) μ11
    else
    rI 0 μ11 := rfl
set_option maxRecDepth 100000 in
theorem x_L_law_sw17_eq (x0 : Nat) (x1 : Nat) (x2 : Nat) (x3 : Nat) (x4 : Int) (μ : bz_M) : x_L_law_sw x0 x1 x2 x3 x4 17 μ =
    bz_rI μ x0 (wr (x4 + 1)) fun v1 =>
    bz_rI μ x0 (wr (x4 + 2)) fun v2 =>
    bz_rI μ x0 (wr (x4 + 3)) fun v3 =>
    bz_cn (x_L_confidence x1 v1 v2 v3 x3 μ) fun v5 μ4 =>
    bz_rI μ4 x0 (wr (x4 + 1)) fun v6 =>
    bz_rI μ4 x0 (wr (x4 + 2)) fun v7 =>
    bz_rI μ4 x0 (wr (x4 + 3)) fun v8 =>
    bz_ci (d_M_confidence x2 v6 v7 v8 μ4) fun v10 μ9 =>
    bz_ci (d_M_thrown x2 μ9) fun v12 μ11 =>
    if v12 = v5 then
      if v5 = 0 then
        bz_rL μ11 x3 0 fun v13 =>
        if bz_cmp v13 v10 = 0 then x_L_law_0 x0 x1 x2 x3 (wr (x4 + 7)) μ11 else
        rI 0 μ11
      else
      x_L_law_0 x0 x1 x2 x3 (wr (x4 + 7)) μ11
    else
    rI 0 μ11 := rfl
set_option maxRecDepth 100000 in
theorem x_L_law_sw18_eq (x0 : Nat) (x1 : Nat) (x2 : Nat) (x3 : Nat) (x4 : Int) (μ : bz_M) : x_L_law_sw x0 x1 x2 x3 x4 18 μ =
    bz_rI μ x0 (wr (x4 + 1)) fun v1 =>
    bz_rI μ x0 (wr (x4 + 2)) fun v2 =>
    bz_rI μ x0 (wr (x4 + 3)) fun v3 =>
    if v3 = 0 then
      bz_rI μ x0 (wr (x4 + 4)) fun v4 =>
      bz_cn (x_L_partCharacter x1 v1 v2 0 v4 x3 μ) fun v6 μ5 =>
      bz_rI μ5 x0 (wr (x4 + 1)) fun v7 =>
      bz_rI μ5 x0 (wr (x4 + 2)) fun v8 =>
      bz_rI μ5 x0 (wr (x4 + 3)) fun v9 =>
      if v9 = 0 then
        bz_rI μ5 x0 (wr (x4 + 4)) fun v10 =>
        bz_ci (d_M_partCharacter x2 v7 v8 0 v10 μ5) fun v12 μ11 =>
        bz_ci (d_M_thrown x2 μ11) fun v14 μ13 =>
        if v14 = v6 then
          if v6 = 0 then
            bz_rL μ13 x3 0 fun v15 =>
            if bz_cmp v15 v12 = 0 then x_L_law_0 x0 x1 x2 x3 (wr (x4 + 7)) μ13 else
            rI 0 μ13
          else
          x_L_law_0 x0 x1 x2 x3 (wr (x4 + 7)) μ13
        else
        rI 0 μ13
      else
      bz_rI μ5 x0 (wr (x4 + 4)) fun v16 =>
      bz_ci (d_M_partCharacter x2 v7 v8 1 v16 μ5) fun v18 μ17 =>
      bz_ci (d_M_thrown x2 μ17) fun v20 μ19 =>
      if v20 = v6 then
        if v6 = 0 then
          bz_rL μ19 x3 0 fun v21 =>
          if bz_cmp v21 v18 = 0 then x_L_law_0 x0 x1 x2 x3 (wr (x4 + 7)) μ19 else
          rI 0 μ19
        else
        x_L_law_0 x0 x1 x2 x3 (wr (x4 + 7)) μ19
      else
      rI 0 μ19
    else
    bz_rI μ x0 (wr (x4 + 4)) fun v22 =>
    bz_cn (x_L_partCharacter x1 v1 v2 1 v22 x3 μ) fun v24 μ23 =>
    bz_rI μ23 x0 (wr (x4 + 1)) fun v25 =>
    bz_rI μ23 x0 (wr (x4 + 2)) fun v26 =>
    bz_rI μ23 x0 (wr (x4 + 3)) fun v27 =>
    if v27 = 0 then
      bz_rI μ23 x0 (wr (x4 + 4)) fun v28 =>
      bz_ci (d_M_partCharacter x2 v25 v26 0 v28 μ23) fun v30 μ29 =>
      bz_ci (d_M_thrown x2 μ29) fun v32 μ31 =>
      if v32 = v24 then
        if v24 = 0 then
          bz_rL μ31 x3 0 fun v33 =>
          if bz_cmp v33 v30 = 0 then x_L_law_0 x0 x1 x2 x3 (wr (x4 + 7)) μ31 else
          rI 0 μ31
        else
        x_L_law_0 x0 x1 x2 x3 (wr (x4 + 7)) μ31
      else
      rI 0 μ31
    else
    bz_rI μ23 x0 (wr (x4 + 4)) fun v34 =>
    bz_ci (d_M_partCharacter x2 v25 v26 1 v34 μ23) fun v36 μ35 =>
    bz_ci (d_M_thrown x2 μ35) fun v38 μ37 =>
    if v38 = v24 then
      if v24 = 0 then
        bz_rL μ37 x3 0 fun v39 =>
        if bz_cmp v39 v36 = 0 then x_L_law_0 x0 x1 x2 x3 (wr (x4 + 7)) μ37 else
        rI 0 μ37
      else
      x_L_law_0 x0 x1 x2 x3 (wr (x4 + 7)) μ37
    else
    rI 0 μ37 := rfl
set_option maxRecDepth 100000 in
theorem x_L_law_sw19_eq (x0 : Nat) (x1 : Nat) (x2 : Nat) (x3 : Nat) (x4 : Int) (μ : bz_M) : x_L_law_sw x0 x1 x2 x3 x4 19 μ =
    bz_rI μ x0 (wr (x4 + 1)) fun v1 =>
    bz_rI μ x0 (wr (x4 + 2)) fun v2 =>
    bz_cn (x_L_isReversed x1 v1 v2 x3 μ) fun v4 μ3 =>
    bz_rI μ3 x0 (wr (x4 + 1)) fun v5 =>
    bz_rI μ3 x0 (wr (x4 + 2)) fun v6 =>
    bz_ci (d_M_isReversed x2 v5 v6 μ3) fun v8 μ7 =>
    bz_ci (d_M_thrown x2 μ7) fun v10 μ9 =>
    if v10 = v4 then
      if v4 = 0 then
        bz_rL μ9 x3 0 fun v11 =>
        if v8 = 0 then
          if bz_cmp v11 0 = 0 then x_L_law_0 x0 x1 x2 x3 (wr (x4 + 7)) μ9 else
          rI 0 μ9
        else
        if bz_cmp v11 1 = 0 then x_L_law_0 x0 x1 x2 x3 (wr (x4 + 7)) μ9 else
        rI 0 μ9
      else
      x_L_law_0 x0 x1 x2 x3 (wr (x4 + 7)) μ9
    else
    rI 0 μ9 := rfl
