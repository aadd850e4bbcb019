/-! BLOCK EQUATIONS, by program: each is what the machine does from there to the next cut, call by call -/
set_option maxRecDepth 100000 in
theorem x_M_new_eq (a0 : Nat) (μ : bz_M) : x_M_new a0 μ =
    bz_oi μ a0 fun v1 =>
    bz_na μ 20 3096 fun v2 μ3 =>
    bz_pR μ3 a0 10 0 v2 fun μ4 =>
    bz_na μ4 20 24 fun v5 μ6 =>
    bz_pR μ6 a0 10 1 v5 fun μ7 =>
    bz_na μ7 20 129 fun v8 μ9 =>
    bz_pR μ9 a0 10 2 v8 fun μ10 =>
    bz_na μ10 20 60 fun v11 μ12 =>
    bz_pR μ12 a0 10 3 v11 fun μ13 =>
    bz_na μ13 22 3 fun v14 μ15 =>
    bz_wB μ15 v14 0 1 fun μ16 =>
    bz_wB μ16 v14 1 0 fun μ17 =>
    bz_wB μ17 v14 2 0 fun μ18 =>
    bz_pR μ18 a0 10 4 v14 fun μ19 =>
    bz_na μ19 20 10 fun v20 μ21 =>
    bz_wI μ21 v20 0 3211 fun μ22 =>
    bz_wI μ22 v20 1 2221 fun μ23 =>
    bz_wI μ23 v20 2 2122 fun μ24 =>
    bz_wI μ24 v20 3 1411 fun μ25 =>
    bz_wI μ25 v20 4 1132 fun μ26 =>
    bz_wI μ26 v20 5 1231 fun μ27 =>
    bz_wI μ27 v20 6 1114 fun μ28 =>
    bz_wI μ28 v20 7 1312 fun μ29 =>
    bz_wI μ29 v20 8 1213 fun μ30 =>
    bz_wI μ30 v20 9 3112 fun μ31 =>
    bz_pR μ31 a0 10 5 v20 fun μ32 =>
    bz_na μ32 20 10 fun v33 μ34 =>
    bz_wI μ34 v33 0 6 fun μ35 =>
    bz_wI μ35 v33 1 17 fun μ36 =>
    bz_wI μ36 v33 2 9 fun μ37 =>
    bz_wI μ37 v33 3 24 fun μ38 =>
    bz_wI μ38 v33 4 5 fun μ39 =>
    bz_wI μ39 v33 5 20 fun μ40 =>
    bz_wI μ40 v33 6 12 fun μ41 =>
    bz_wI μ41 v33 7 3 fun μ42 =>
    bz_wI μ42 v33 8 18 fun μ43 =>
    bz_wI μ43 v33 9 10 fun μ44 =>
    bz_pR μ44 a0 10 6 v33 fun μ45 =>
    bz_na μ45 20 20 fun v46 μ47 =>
    bz_wI μ47 v46 0 3 fun μ48 =>
    bz_wI μ48 v46 1 6 fun μ49 =>
    bz_wI μ49 v46 2 9 fun μ50 =>
    bz_wI μ50 v46 3 96 fun μ51 =>
    bz_wI μ51 v46 4 18 fun μ52 =>
    bz_wI μ52 v46 5 66 fun μ53 =>
    bz_wI μ53 v46 6 33 fun μ54 =>
    bz_wI μ54 v46 7 36 fun μ55 =>
    bz_wI μ55 v46 8 48 fun μ56 =>
    bz_wI μ56 v46 9 72 fun μ57 =>
    bz_wI μ57 v46 10 12 fun μ58 =>
    bz_wI μ58 v46 11 24 fun μ59 =>
    bz_wI μ59 v46 12 69 fun μ60 =>
    bz_wI μ60 v46 13 81 fun μ61 =>
    bz_wI μ61 v46 14 84 fun μ62 =>
    bz_wI μ62 v46 15 21 fun μ63 =>
    bz_wI μ63 v46 16 26 fun μ64 =>
    bz_wI μ64 v46 17 41 fun μ65 =>
    bz_wI μ65 v46 18 11 fun μ66 =>
    bz_wI μ66 v46 19 14 fun μ67 =>
    bz_pR μ67 a0 10 7 v46 fun μ68 =>
    bz_na μ68 20 60 fun v69 μ70 =>
    bz_pR μ70 a0 10 12 v69 fun μ71 =>
    bz_na μ71 20 127 fun v72 μ73 =>
    bz_pR μ73 a0 10 13 v72 fun μ74 =>
    bz_na μ74 20 129 fun v75 μ76 =>
    bz_pR μ76 a0 10 15 v75 fun μ77 =>
    bz_na μ77 20 16 fun v78 μ79 =>
    bz_pR μ79 a0 10 17 v78 fun μ80 =>
    bz_na μ80 20 16 fun v81 μ82 =>
    bz_pR μ82 a0 10 18 v81 fun μ83 =>
    bz_na μ83 20 72 fun v84 μ85 =>
    bz_pR μ85 a0 10 22 v84 fun μ86 =>
    bz_na μ86 20 1152 fun v87 μ88 =>
    bz_pR μ88 a0 10 23 v87 fun μ89 =>
    bz_na μ89 20 1152 fun v90 μ91 =>
    bz_pR μ91 a0 10 24 v90 fun μ92 =>
    bz_na μ92 22 24 fun v93 μ94 =>
    bz_pR μ94 a0 10 25 v93 fun μ95 =>
    bz_na μ95 20 24 fun v96 μ97 =>
    bz_pR μ97 a0 10 26 v96 fun μ98 =>
    bz_na μ98 20 17 fun v99 μ100 =>
    bz_pR μ100 a0 10 31 v99 fun μ101 =>
    bz_na μ101 20 2048 fun v102 μ103 =>
    bz_pR μ103 a0 10 32 v102 fun μ104 =>
    rI 0 μ104 := (bX_eq _ _ _ _ _).trans rfl
set_option maxRecDepth 100000 in
theorem x_M_thrown_eq (a0 : Nat) (μ : bz_M) : x_M_thrown a0 μ =
    bz_fI μ a0 10 11 fun v1 =>
    rI v1 μ := (bX_eq _ _ _ _ _).trans rfl
set_option maxRecDepth 100000 in
theorem x_M_append_eq (a0 : Nat) (a1 : Int) (a2 : Int) (a3 : Int) (a4 : Int) (a5 : Int) (μ : bz_M) : x_M_append a0 a1 a2 a3 a4 a5 μ =
    bz_fI μ a0 10 10 fun v1 =>
    if (60 : Int) < wr (v1 + 20) then
      bz_pI μ a0 10 11 1 fun μ2 =>
      bz_fI μ2 a0 10 11 fun v3 =>
      if (0 : Int) < v3 then rI 0 μ2 else
      x_M_append_0 a0 a1 a2 a3 a4 a5 0 μ2
    else
    bz_pI μ a0 10 11 0 fun μ4 =>
    bz_fI μ4 a0 10 11 fun v5 =>
    if (0 : Int) < v5 then rI 0 μ4 else
    x_M_append_0 a0 a1 a2 a3 a4 a5 0 μ4 := (bX_eq _ _ _ _ _).trans rfl
set_option maxRecDepth 100000 in
theorem x_M_append_0_eq (x0 : Nat) (x1 : Int) (x2 : Int) (x3 : Int) (x4 : Int) (x5 : Int) (x6 : Int) (μ : bz_M) : x_M_append_0 x0 x1 x2 x3 x4 x5 x6 μ =
    if x6 < 20 then
      if x6 < 4 then
        bz_fR μ x0 10 3 fun v1 =>
        bz_fI μ x0 10 10 fun v2 =>
        bz_wI μ v1 v2 (bz_and (bz_shr x1 (wr (24 - (wr (8 * (Int.tmod x6 4)))))) 255) fun μ3 =>
        bz_fI μ3 x0 10 10 fun v4 =>
        bz_pI μ3 x0 10 10 (wr (v4 + 1)) fun μ5 =>
        x_M_append_0 x0 x1 x2 x3 x4 x5 (wr (x6 + 1)) μ5
      else
      if x6 < 8 then
        bz_fR μ x0 10 3 fun v6 =>
        bz_fI μ x0 10 10 fun v7 =>
        bz_wI μ v6 v7 (bz_and (bz_shr x2 (wr (24 - (wr (8 * (Int.tmod x6 4)))))) 255) fun μ8 =>
        bz_fI μ8 x0 10 10 fun v9 =>
        bz_pI μ8 x0 10 10 (wr (v9 + 1)) fun μ10 =>
        x_M_append_0 x0 x1 x2 x3 x4 x5 (wr (x6 + 1)) μ10
      else
      if x6 < 12 then
        bz_fR μ x0 10 3 fun v11 =>
        bz_fI μ x0 10 10 fun v12 =>
        bz_wI μ v11 v12 (bz_and (bz_shr x3 (wr (24 - (wr (8 * (Int.tmod x6 4)))))) 255) fun μ13 =>
        bz_fI μ13 x0 10 10 fun v14 =>
        bz_pI μ13 x0 10 10 (wr (v14 + 1)) fun μ15 =>
        x_M_append_0 x0 x1 x2 x3 x4 x5 (wr (x6 + 1)) μ15
      else
      if x6 < 16 then
        bz_fR μ x0 10 3 fun v16 =>
        bz_fI μ x0 10 10 fun v17 =>
        bz_wI μ v16 v17 (bz_and (bz_shr x4 (wr (24 - (wr (8 * (Int.tmod x6 4)))))) 255) fun μ18 =>
        bz_fI μ18 x0 10 10 fun v19 =>
        bz_pI μ18 x0 10 10 (wr (v19 + 1)) fun μ20 =>
        x_M_append_0 x0 x1 x2 x3 x4 x5 (wr (x6 + 1)) μ20
      else
      bz_fR μ x0 10 3 fun v21 =>
      bz_fI μ x0 10 10 fun v22 =>
      bz_wI μ v21 v22 (bz_and (bz_shr x5 (wr (24 - (wr (8 * (Int.tmod x6 4)))))) 255) fun μ23 =>
      bz_fI μ23 x0 10 10 fun v24 =>
      bz_pI μ23 x0 10 10 (wr (v24 + 1)) fun μ25 =>
      x_M_append_0 x0 x1 x2 x3 x4 x5 (wr (x6 + 1)) μ25
    else
    bz_fI μ x0 10 10 fun v26 =>
    rI v26 μ := (bX_eq _ _ _ _ _).trans rfl
set_option maxRecDepth 100000 in
theorem x_M_print_eq (a0 : Nat) (a1 : Int) (a2 : Int) (a3 : Int) (a4 : Int) (a5 : Int) (μ : bz_M) : x_M_print a0 a1 a2 a3 a4 a5 μ =
    bz_ci (x_M_isSymbology a1 μ) fun v2 μ1 =>
    if v2 = 0 then
      bz_pI μ1 a0 10 11 1 fun μ3 =>
      bz_fI μ3 a0 10 11 fun v4 =>
      if (0 : Int) < v4 then rI 0 μ3 else
      x_M_print_0 a0 a1 a2 a3 a4 a5 0 μ3
    else
    bz_ci (d_M_canPrint a0 a1 a2 a3 a4 μ1) fun v6 μ5 =>
    if v6 = 0 then
      bz_pI μ5 a0 10 11 2 fun μ7 =>
      bz_fI μ7 a0 10 11 fun v8 =>
      if (0 : Int) < v8 then rI 0 μ7 else
      x_M_print_0 a0 a1 a2 a3 a4 a5 0 μ7
    else
    bz_fI μ5 a0 10 8 fun v9 =>
    if v9 = 24 then
      bz_pI μ5 a0 10 11 3 fun μ10 =>
      bz_fI μ10 a0 10 11 fun v11 =>
      if (0 : Int) < v11 then rI 0 μ10 else
      x_M_print_0 a0 a1 a2 a3 a4 a5 0 μ10
    else
    bz_pI μ5 a0 10 11 0 fun μ12 =>
    bz_fI μ12 a0 10 11 fun v13 =>
    if (0 : Int) < v13 then rI 0 μ12 else
    x_M_print_0 a0 a1 a2 a3 a4 a5 0 μ12 := (bX_eq _ _ _ _ _).trans rfl
set_option maxRecDepth 100000 in
theorem x_M_print_0_eq (x0 : Nat) (x1 : Int) (x2 : Int) (x3 : Int) (x4 : Int) (x5 : Int) (x6 : Int) (μ : bz_M) : x_M_print_0 x0 x1 x2 x3 x4 x5 x6 μ =
    if x6 < x2 then
      bz_fR μ x0 10 12 fun v1 =>
      bz_fR μ x0 10 3 fun v2 =>
      bz_rI μ v2 x6 fun v3 =>
      bz_wI μ v1 x6 v3 fun μ4 =>
      x_M_print_0 x0 x1 x2 x3 x4 x5 (wr (x6 + 1)) μ4
    else
    bz_cv (d_M_laysModules x0 x1 x2 μ) fun μ5 =>
    bz_fI μ5 x0 10 8 fun v6 =>
    bz_fR μ5 x0 10 0 fun v7 =>
    bz_wI μ5 v7 (wr (129 * v6)) (wr (10 * x3)) fun μ8 =>
    x_M_print_1 x0 x3 x4 x5 (wr (129 * v6)) x5 0 μ8 := (bX_eq _ _ _ _ _).trans rfl
set_option maxRecDepth 100000 in
theorem x_M_print_1_eq (x0 : Nat) (x3 : Int) (x4 : Int) (x5 : Int) (x6 : Int) (x7 : Int) (x8 : Int) (μ : bz_M) : x_M_print_1 x0 x3 x4 x5 x6 x7 x8 μ =
    bz_fI μ x0 10 14 fun v1 =>
    if x8 < v1 then
      bz_fR μ x0 10 13 fun v2 =>
      bz_rI μ v2 x8 fun v3 =>
      if Int.tmod x8 2 = 0 then
        if x5 = 0 then
          bz_fR μ x0 10 0 fun v4 =>
          if wr ((wr ((wr (v3 * x3)) + x4)) + 0) < 1 then
            bz_wI μ v4 (wr ((wr (x6 + x8)) + 1)) 1 fun μ5 =>
            x_M_print_1 x0 x3 x4 x5 x6 (wr ((wr (1103515245 * x7)) + 12345)) (wr (x8 + 1)) μ5
          else
          bz_wI μ v4 (wr ((wr (x6 + x8)) + 1)) (wr ((wr ((wr (v3 * x3)) + x4)) + 0)) fun μ6 =>
          x_M_print_1 x0 x3 x4 x5 x6 (wr ((wr (1103515245 * x7)) + 12345)) (wr (x8 + 1)) μ6
        else
        bz_fR μ x0 10 0 fun v7 =>
        if wr ((wr ((wr (v3 * x3)) + x4)) + (wr ((Int.tmod (bz_ushr (wr ((wr (1103515245 * x7)) + 12345)) 16) 3) - 1))) < 1 then
          bz_wI μ v7 (wr ((wr (x6 + x8)) + 1)) 1 fun μ8 =>
          x_M_print_1 x0 x3 x4 x5 x6 (wr ((wr (1103515245 * x7)) + 12345)) (wr (x8 + 1)) μ8
        else
        bz_wI μ v7 (wr ((wr (x6 + x8)) + 1)) (wr ((wr ((wr (v3 * x3)) + x4)) + (wr ((Int.tmod (bz_ushr (wr ((wr (1103515245 * x7)) + 12345)) 16) 3) - 1)))) fun μ9 =>
        x_M_print_1 x0 x3 x4 x5 x6 (wr ((wr (1103515245 * x7)) + 12345)) (wr (x8 + 1)) μ9
      else
      if x5 = 0 then
        bz_fR μ x0 10 0 fun v10 =>
        if wr ((wr ((wr (v3 * x3)) + (wr (-x4)))) + 0) < 1 then
          bz_wI μ v10 (wr ((wr (x6 + x8)) + 1)) 1 fun μ11 =>
          x_M_print_1 x0 x3 x4 x5 x6 (wr ((wr (1103515245 * x7)) + 12345)) (wr (x8 + 1)) μ11
        else
        bz_wI μ v10 (wr ((wr (x6 + x8)) + 1)) (wr ((wr ((wr (v3 * x3)) + (wr (-x4)))) + 0)) fun μ12 =>
        x_M_print_1 x0 x3 x4 x5 x6 (wr ((wr (1103515245 * x7)) + 12345)) (wr (x8 + 1)) μ12
      else
      bz_fR μ x0 10 0 fun v13 =>
      if wr ((wr ((wr (v3 * x3)) + (wr (-x4)))) + (wr ((Int.tmod (bz_ushr (wr ((wr (1103515245 * x7)) + 12345)) 16) 3) - 1))) < 1 then
        bz_wI μ v13 (wr ((wr (x6 + x8)) + 1)) 1 fun μ14 =>
        x_M_print_1 x0 x3 x4 x5 x6 (wr ((wr (1103515245 * x7)) + 12345)) (wr (x8 + 1)) μ14
      else
      bz_wI μ v13 (wr ((wr (x6 + x8)) + 1)) (wr ((wr ((wr (v3 * x3)) + (wr (-x4)))) + (wr ((Int.tmod (bz_ushr (wr ((wr (1103515245 * x7)) + 12345)) 16) 3) - 1)))) fun μ15 =>
      x_M_print_1 x0 x3 x4 x5 x6 (wr ((wr (1103515245 * x7)) + 12345)) (wr (x8 + 1)) μ15
    else
    bz_fR μ x0 10 0 fun v16 =>
    bz_fI μ x0 10 14 fun v17 =>
    bz_wI μ v16 (wr ((wr (x6 + v17)) + 1)) (wr (10 * x3)) fun μ18 =>
    bz_fR μ18 x0 10 1 fun v19 =>
    bz_fI μ18 x0 10 8 fun v20 =>
    bz_fI μ18 x0 10 14 fun v21 =>
    bz_wI μ18 v19 v20 (wr (v21 + 2)) fun μ22 =>
    bz_pI μ22 x0 10 10 0 fun μ23 =>
    bz_fI μ23 x0 10 8 fun v24 =>
    bz_pI μ23 x0 10 8 (wr (v24 + 1)) fun μ25 =>
    bz_fI μ25 x0 10 8 fun v26 =>
    rI (wr (v26 - 1)) μ25 := (bX_eq _ _ _ _ _).trans rfl
set_option maxRecDepth 100000 in
theorem x_M_isSymbology_eq (a0 : Int) (μ : bz_M) : x_M_isSymbology a0 μ =
    bz_ci (x_M_isIn a0 0 2 μ) fun v2 μ1 =>
    bz_zB v2 μ1 := (bX_eq _ _ _ _ _).trans rfl
set_option maxRecDepth 100000 in
theorem x_M_isIn_eq (a0 : Int) (a1 : Int) (a2 : Int) (μ : bz_M) : x_M_isIn a0 a1 a2 μ =
    if bz_cmp a0 a1 < 0 then rI 0 μ else
    if (0 : Int) < bz_cmp a0 a2 then rI 0 μ else
    rI 1 μ := (bX_eq _ _ _ _ _).trans rfl
set_option maxRecDepth 100000 in
theorem x_M_canPrint_eq (a0 : Nat) (a1 : Int) (a2 : Int) (a3 : Int) (a4 : Int) (μ : bz_M) : x_M_canPrint a0 a1 a2 a3 a4 μ =
    bz_fI μ a0 10 10 fun v1 =>
    bz_ci (x_M_isIn a2 0 v1 μ) fun v3 μ2 =>
    if v3 = 0 then rI 0 μ2 else
    bz_ci (x_M_isIn a3 4 40 μ2) fun v5 μ4 =>
    if v5 = 0 then rI 0 μ4 else
    bz_ci (x_M_isIn a4 (-3) 3 μ4) fun v7 μ6 =>
    if v7 = 0 then rI 0 μ6 else
    bz_ci (x_M_isLength a1 a2 μ6) fun v9 μ8 =>
    if v9 = 0 then rI 0 μ8 else
    bz_ci (d_M_areCharacters a0 a1 a2 μ8) fun v11 μ10 =>
    if v11 = 0 then rI 0 μ10 else
    rI 1 μ10 := (bX_eq _ _ _ _ _).trans rfl
set_option maxRecDepth 100000 in
theorem x_M_isLength_eq (a0 : Int) (a1 : Int) (μ : bz_M) : x_M_isLength a0 a1 μ =
    if a0 = 0 then
      if a1 = 8 then rI 1 μ else
      rI 0 μ
    else
    if a0 = 1 then
      if Int.tmod a1 2 = 0 then
        bz_ci (x_M_isIn a1 2 14 μ) fun v2 μ1 =>
        if v2 = 0 then rI 0 μ1 else
        rI 1 μ1
      else
      rI 0 μ
    else
    bz_ci (x_M_isIn a1 3 16 μ) fun v4 μ3 =>
    bz_zB v4 μ3 := (bX_eq _ _ _ _ _).trans rfl
set_option maxRecDepth 100000 in
theorem x_M_areCharacters_eq (a0 : Nat) (a1 : Int) (a2 : Int) (μ : bz_M) : x_M_areCharacters a0 a1 a2 μ =
    x_M_areCharacters_0 a0 a1 a2 0 μ := (bX_eq _ _ _ _ _).trans rfl
set_option maxRecDepth 100000 in
theorem x_M_areCharacters_0_eq (x0 : Nat) (x1 : Int) (x2 : Int) (x3 : Int) (μ : bz_M) : x_M_areCharacters_0 x0 x1 x2 x3 μ =
    if x3 < x2 then
      if x1 = 2 then
        if x3 = 0 then
          if x1 = 2 then
            bz_fR μ x0 10 3 fun v1 =>
            bz_rI μ v1 x3 fun v2 =>
            bz_ci (x_M_isLetter v2 μ) fun v4 μ3 =>
            if v4 = 0 then rI 0 μ3 else
            x_M_areCharacters_0 x0 x1 x2 (wr (x3 + 1)) μ3
          else
          bz_fR μ x0 10 3 fun v5 =>
          bz_rI μ v5 x3 fun v6 =>
          bz_ci (x_M_isIn v6 48 57 μ) fun v8 μ7 =>
          if v8 = 0 then rI 0 μ7 else
          x_M_areCharacters_0 x0 x1 x2 (wr (x3 + 1)) μ7
        else
        if x3 = wr (x2 - 1) then
          if x1 = 2 then
            bz_fR μ x0 10 3 fun v9 =>
            bz_rI μ v9 x3 fun v10 =>
            bz_ci (x_M_isLetter v10 μ) fun v12 μ11 =>
            if v12 = 0 then rI 0 μ11 else
            x_M_areCharacters_0 x0 x1 x2 (wr (x3 + 1)) μ11
          else
          bz_fR μ x0 10 3 fun v13 =>
          bz_rI μ v13 x3 fun v14 =>
          bz_ci (x_M_isIn v14 48 57 μ) fun v16 μ15 =>
          if v16 = 0 then rI 0 μ15 else
          x_M_areCharacters_0 x0 x1 x2 (wr (x3 + 1)) μ15
        else
        if x1 = 2 then
          bz_fR μ x0 10 3 fun v17 =>
          bz_rI μ v17 x3 fun v18 =>
          bz_ci (x_M_valueOf v18 μ) fun v20 μ19 =>
          if v20 = (-1) then rI 0 μ19 else
          bz_fR μ19 x0 10 3 fun v21 =>
          bz_rI μ19 v21 x3 fun v22 =>
          bz_ci (x_M_isLetter v22 μ19) fun v24 μ23 =>
          if v24 = 0 then x_M_areCharacters_0 x0 x1 x2 (wr (x3 + 1)) μ23 else
          rI 0 μ23
        else
        bz_fR μ x0 10 3 fun v25 =>
        bz_rI μ v25 x3 fun v26 =>
        bz_ci (x_M_isIn v26 48 57 μ) fun v28 μ27 =>
        if v28 = 0 then rI 0 μ27 else
        x_M_areCharacters_0 x0 x1 x2 (wr (x3 + 1)) μ27
      else
      if x1 = 2 then
        bz_fR μ x0 10 3 fun v29 =>
        bz_rI μ v29 x3 fun v30 =>
        bz_ci (x_M_valueOf v30 μ) fun v32 μ31 =>
        if v32 = (-1) then rI 0 μ31 else
        bz_fR μ31 x0 10 3 fun v33 =>
        bz_rI μ31 v33 x3 fun v34 =>
        bz_ci (x_M_isLetter v34 μ31) fun v36 μ35 =>
        if v36 = 0 then x_M_areCharacters_0 x0 x1 x2 (wr (x3 + 1)) μ35 else
        rI 0 μ35
      else
      bz_fR μ x0 10 3 fun v37 =>
      bz_rI μ v37 x3 fun v38 =>
      bz_ci (x_M_isIn v38 48 57 μ) fun v40 μ39 =>
      if v40 = 0 then rI 0 μ39 else
      x_M_areCharacters_0 x0 x1 x2 (wr (x3 + 1)) μ39
    else
    rI 1 μ := (bX_eq _ _ _ _ _).trans rfl
set_option maxRecDepth 100000 in
theorem x_M_isLetter_eq (a0 : Int) (μ : bz_M) : x_M_isLetter a0 μ =
    bz_ci (x_M_isIn a0 65 68 μ) fun v2 μ1 =>
    bz_zB v2 μ1 := (bX_eq _ _ _ _ _).trans rfl
set_option maxRecDepth 100000 in
theorem x_M_valueOf_eq (a0 : Int) (μ : bz_M) : x_M_valueOf a0 μ =
    x_M_valueOf_0 a0 0 μ := (bX_eq _ _ _ _ _).trans rfl
set_option maxRecDepth 100000 in
theorem x_M_valueOf_0_eq (x0 : Int) (x1 : Int) (μ : bz_M) : x_M_valueOf_0 x0 x1 μ =
    if x1 < 20 then
      bz_ci (d_Str_charAt 6 x1 μ) fun v2 μ1 =>
      if v2 = x0 then rI x1 μ1 else
      x_M_valueOf_0 x0 (wr (x1 + 1)) μ1
    else
    rI (-1) μ := (bX_eq _ _ _ _ _).trans rfl
set_option maxRecDepth 100000 in
theorem x_M_laysModules_eq (a0 : Nat) (a1 : Int) (a2 : Int) (μ : bz_M) : x_M_laysModules a0 a1 a2 μ =
    bz_pI μ a0 10 14 0 fun μ1 =>
    if a1 = 0 then
      bz_cv (d_M_laysEan a0 μ1) fun μ2 =>
      rI 0 μ2
    else
    if a1 = 1 then
      bz_cv (d_M_laysPairs a0 a2 μ1) fun μ3 =>
      rI 0 μ3
    else
    bz_cv (d_M_laysCodabar a0 a2 μ1) fun μ4 =>
    rI 0 μ4 := (bX_eq _ _ _ _ _).trans rfl
set_option maxRecDepth 100000 in
theorem x_M_laysEan_eq (a0 : Nat) (μ : bz_M) : x_M_laysEan a0 μ =
    bz_cv (d_M_laysOnes a0 3 μ) fun μ1 =>
    x_M_laysEan_0 a0 0 μ1 := (bX_eq _ _ _ _ _).trans rfl
set_option maxRecDepth 100000 in
theorem x_M_laysEan_0_eq (x0 : Nat) (x1 : Int) (μ : bz_M) : x_M_laysEan_0 x0 x1 μ =
    if x1 < 8 then
      if x1 = 4 then
        bz_cv (d_M_laysOnes x0 5 μ) fun μ1 =>
        x_M_laysEan_1 x0 x1 1000 μ1
      else
      x_M_laysEan_1 x0 x1 1000 μ
    else
    bz_cv (d_M_laysOnes x0 3 μ) fun μ2 =>
    rI 0 μ2 := (bX_eq _ _ _ _ _).trans rfl
set_option maxRecDepth 100000 in
theorem x_M_laysEan_1_eq (x0 : Nat) (x1 : Int) (x2 : Int) (μ : bz_M) : x_M_laysEan_1 x0 x1 x2 μ =
    if (0 : Int) < x2 then
      bz_fR μ x0 10 5 fun v1 =>
      bz_fR μ x0 10 12 fun v2 =>
      bz_rI μ v2 x1 fun v3 =>
      bz_rI μ v1 (wr (v3 - 48)) fun v4 =>
      bz_dv v4 x2 fun v5 =>
      bz_cv (d_M_lays x0 (Int.tmod v5 10) μ) fun μ6 =>
      x_M_laysEan_1 x0 x1 (wr (Int.tdiv x2 10)) μ6
    else
    x_M_laysEan_0 x0 (wr (x1 + 1)) μ := (bX_eq _ _ _ _ _).trans rfl
set_option maxRecDepth 100000 in
theorem x_M_laysOnes_eq (a0 : Nat) (a1 : Int) (μ : bz_M) : x_M_laysOnes a0 a1 μ =
    x_M_laysOnes_0 a0 a1 0 μ := (bX_eq _ _ _ _ _).trans rfl
set_option maxRecDepth 100000 in
theorem x_M_laysOnes_0_eq (x0 : Nat) (x1 : Int) (x2 : Int) (μ : bz_M) : x_M_laysOnes_0 x0 x1 x2 μ =
    if x2 < x1 then
      bz_cv (d_M_lays x0 1 μ) fun μ1 =>
      x_M_laysOnes_0 x0 x1 (wr (x2 + 1)) μ1
    else
    rI 0 μ := (bX_eq _ _ _ _ _).trans rfl
set_option maxRecDepth 100000 in
theorem x_M_lays_eq (a0 : Nat) (a1 : Int) (μ : bz_M) : x_M_lays a0 a1 μ =
    bz_fR μ a0 10 13 fun v1 =>
    bz_fI μ a0 10 14 fun v2 =>
    bz_wI μ v1 v2 a1 fun μ3 =>
    bz_fI μ3 a0 10 14 fun v4 =>
    bz_pI μ3 a0 10 14 (wr (v4 + 1)) fun μ5 =>
    rI 0 μ5 := (bX_eq _ _ _ _ _).trans rfl
set_option maxRecDepth 100000 in
theorem x_M_laysPairs_eq (a0 : Nat) (a1 : Int) (μ : bz_M) : x_M_laysPairs a0 a1 μ =
    bz_cv (d_M_laysOnes a0 4 μ) fun μ1 =>
    x_M_laysPairs_0 a0 a1 0 μ1 := (bX_eq _ _ _ _ _).trans rfl
set_option maxRecDepth 100000 in
theorem x_M_laysPairs_0_eq (x0 : Nat) (x1 : Int) (x2 : Int) (μ : bz_M) : x_M_laysPairs_0 x0 x1 x2 μ =
    if x2 < x1 then x_M_laysPairs_1 x0 x1 x2 4 μ else
    bz_cv (d_M_lays x0 3 μ) fun μ1 =>
    bz_cv (d_M_laysOnes x0 2 μ1) fun μ2 =>
    rI 0 μ2 := (bX_eq _ _ _ _ _).trans rfl
set_option maxRecDepth 100000 in
theorem x_M_laysPairs_1_eq (x0 : Nat) (x1 : Int) (x2 : Int) (x3 : Int) (μ : bz_M) : x_M_laysPairs_1 x0 x1 x2 x3 μ =
    if x3 < 0 then x_M_laysPairs_0 x0 x1 (wr (x2 + 2)) μ else
    bz_fR μ x0 10 6 fun v1 =>
    bz_fR μ x0 10 12 fun v2 =>
    bz_rI μ v2 x2 fun v3 =>
    bz_rI μ v1 (wr (v3 - 48)) fun v4 =>
    bz_ci (x_M_wideOr v4 x3 μ) fun v6 μ5 =>
    bz_cv (d_M_lays x0 v6 μ5) fun μ7 =>
    bz_fR μ7 x0 10 6 fun v8 =>
    bz_fR μ7 x0 10 12 fun v9 =>
    bz_rI μ7 v9 (wr (x2 + 1)) fun v10 =>
    bz_rI μ7 v8 (wr (v10 - 48)) fun v11 =>
    bz_ci (x_M_wideOr v11 x3 μ7) fun v13 μ12 =>
    bz_cv (d_M_lays x0 v13 μ12) fun μ14 =>
    x_M_laysPairs_1 x0 x1 x2 (wr (x3 + (-1))) μ14 := (bX_eq _ _ _ _ _).trans rfl
set_option maxRecDepth 100000 in
theorem x_M_wideOr_eq (a0 : Int) (a1 : Int) (μ : bz_M) : x_M_wideOr a0 a1 μ =
    if bz_and (bz_shr a0 a1) 1 = 1 then rI 3 μ else
    rI 1 μ := (bX_eq _ _ _ _ _).trans rfl
set_option maxRecDepth 100000 in
theorem x_M_laysCodabar_eq (a0 : Nat) (a1 : Int) (μ : bz_M) : x_M_laysCodabar a0 a1 μ =
    x_M_laysCodabar_0 a0 a1 0 μ := (bX_eq _ _ _ _ _).trans rfl
set_option maxRecDepth 100000 in
theorem x_M_laysCodabar_0_eq (x0 : Nat) (x1 : Int) (x2 : Int) (μ : bz_M) : x_M_laysCodabar_0 x0 x1 x2 μ =
    if x2 < x1 then
      if (0 : Int) < x2 then
        bz_cv (d_M_lays x0 1 μ) fun μ1 =>
        x_M_laysCodabar_1 x0 x1 x2 6 μ1
      else
      x_M_laysCodabar_1 x0 x1 x2 6 μ
    else
    rI 0 μ := (bX_eq _ _ _ _ _).trans rfl
set_option maxRecDepth 100000 in
theorem x_M_laysCodabar_1_eq (x0 : Nat) (x1 : Int) (x2 : Int) (x3 : Int) (μ : bz_M) : x_M_laysCodabar_1 x0 x1 x2 x3 μ =
    if x3 < 0 then x_M_laysCodabar_0 x0 x1 (wr (x2 + 1)) μ else
    bz_fR μ x0 10 7 fun v1 =>
    bz_fR μ x0 10 12 fun v2 =>
    bz_rI μ v2 x2 fun v3 =>
    bz_ci (x_M_valueOf v3 μ) fun v5 μ4 =>
    bz_rI μ4 v1 v5 fun v6 =>
    bz_ci (x_M_wideOr v6 x3 μ4) fun v8 μ7 =>
    bz_cv (d_M_lays x0 v8 μ7) fun μ9 =>
    x_M_laysCodabar_1 x0 x1 x2 (wr (x3 + (-1))) μ9 := (bX_eq _ _ _ _ _).trans rfl
set_option maxRecDepth 100000 in
theorem x_M_checkCharacter_eq (a0 : Nat) (a1 : Int) (a2 : Int) (μ : bz_M) : x_M_checkCharacter a0 a1 a2 μ =
    bz_ci (x_M_isSymbology a1 μ) fun v2 μ1 =>
    if v2 = 0 then
      bz_pI μ1 a0 10 11 1 fun μ3 =>
      bz_fI μ3 a0 10 11 fun v4 =>
      if (0 : Int) < v4 then rI 0 μ3 else
      if a1 = 2 then x_M_checkCharacter_0 a0 a2 0 0 μ3 else
      x_M_checkCharacter_1 a0 a2 0 0 μ3
    else
    bz_fI μ1 a0 10 10 fun v5 =>
    bz_ci (x_M_isIn a2 0 v5 μ1) fun v7 μ6 =>
    if v7 = 0 then
      bz_pI μ6 a0 10 11 2 fun μ8 =>
      bz_fI μ8 a0 10 11 fun v9 =>
      if (0 : Int) < v9 then rI 0 μ8 else
      if a1 = 2 then x_M_checkCharacter_0 a0 a2 0 0 μ8 else
      x_M_checkCharacter_1 a0 a2 0 0 μ8
    else
    bz_ci (x_M_isLength a1 (wr (a2 + 1)) μ6) fun v11 μ10 =>
    if v11 = 0 then
      bz_pI μ10 a0 10 11 2 fun μ12 =>
      bz_fI μ12 a0 10 11 fun v13 =>
      if (0 : Int) < v13 then rI 0 μ12 else
      if a1 = 2 then x_M_checkCharacter_0 a0 a2 0 0 μ12 else
      x_M_checkCharacter_1 a0 a2 0 0 μ12
    else
    bz_ci (d_M_areCharacters a0 a1 a2 μ10) fun v15 μ14 =>
    if v15 = 0 then
      bz_pI μ14 a0 10 11 2 fun μ16 =>
      bz_fI μ16 a0 10 11 fun v17 =>
      if (0 : Int) < v17 then rI 0 μ16 else
      if a1 = 2 then x_M_checkCharacter_0 a0 a2 0 0 μ16 else
      x_M_checkCharacter_1 a0 a2 0 0 μ16
    else
    bz_pI μ14 a0 10 11 0 fun μ18 =>
    bz_fI μ18 a0 10 11 fun v19 =>
    if (0 : Int) < v19 then rI 0 μ18 else
    if a1 = 2 then x_M_checkCharacter_0 a0 a2 0 0 μ18 else
    x_M_checkCharacter_1 a0 a2 0 0 μ18 := (bX_eq _ _ _ _ _).trans rfl
set_option maxRecDepth 100000 in
theorem x_M_checkCharacter_0_eq (x0 : Nat) (x2 : Int) (x3 : Int) (x4 : Int) (μ : bz_M) : x_M_checkCharacter_0 x0 x2 x3 x4 μ =
    if x4 < x2 then
      bz_fR μ x0 10 3 fun v1 =>
      bz_rI μ v1 x4 fun v2 =>
      bz_ci (x_M_valueOf v2 μ) fun v4 μ3 =>
      x_M_checkCharacter_0 x0 x2 (wr (x3 + v4)) (wr (x4 + 1)) μ3
    else
    bz_ci (d_Str_charAt 6 (Int.tmod (wr (16 - (Int.tmod x3 16))) 16) μ) fun v6 μ5 =>
    rI v6 μ5 := (bX_eq _ _ _ _ _).trans rfl
set_option maxRecDepth 100000 in
theorem x_M_checkCharacter_1_eq (x0 : Nat) (x2 : Int) (x3 : Int) (x4 : Int) (μ : bz_M) : x_M_checkCharacter_1 x0 x2 x3 x4 μ =
    if x4 < x2 then
      if Int.tmod x4 2 = 0 then
        bz_fR μ x0 10 3 fun v1 =>
        bz_rI μ v1 x4 fun v2 =>
        x_M_checkCharacter_1 x0 x2 (wr (x3 + (wr (3 * (wr (v2 - 48)))))) (wr (x4 + 1)) μ
      else
      bz_fR μ x0 10 3 fun v3 =>
      bz_rI μ v3 x4 fun v4 =>
      x_M_checkCharacter_1 x0 x2 (wr (x3 + (wr (1 * (wr (v4 - 48)))))) (wr (x4 + 1)) μ
    else
    rI (wr (48 + (Int.tmod (wr (10 - (Int.tmod x3 10))) 10))) μ := (bX_eq _ _ _ _ _).trans rfl
set_option maxRecDepth 100000 in
theorem x_M_addWidths_eq (a0 : Nat) (a1 : Int) (a2 : Int) (a3 : Int) (a4 : Int) (a5 : Int) (a6 : Int) (μ : bz_M) : x_M_addWidths a0 a1 a2 a3 a4 a5 a6 μ =
    bz_ci (x_M_isWidth a1 0 μ) fun v2 μ1 =>
    if v2 = 0 then x_M_addWidths_0 a0 a1 a2 a3 a4 a5 a6 0 μ1 else
    bz_ci (x_M_isWidth a2 0 μ1) fun v4 μ3 =>
    if v4 = 0 then x_M_addWidths_0 a0 a1 a2 a3 a4 a5 a6 0 μ3 else
    bz_ci (x_M_isWidth a3 0 μ3) fun v6 μ5 =>
    if v6 = 0 then x_M_addWidths_0 a0 a1 a2 a3 a4 a5 a6 0 μ5 else
    bz_ci (x_M_isWidth a4 0 μ5) fun v8 μ7 =>
    if v8 = 0 then x_M_addWidths_0 a0 a1 a2 a3 a4 a5 a6 0 μ7 else
    bz_ci (x_M_isWidth a5 0 μ7) fun v10 μ9 =>
    if v10 = 0 then x_M_addWidths_0 a0 a1 a2 a3 a4 a5 a6 0 μ9 else
    bz_ci (x_M_isWidth a6 0 μ9) fun v12 μ11 =>
    if v12 = 0 then x_M_addWidths_0 a0 a1 a2 a3 a4 a5 a6 0 μ11 else
    x_M_addWidths_0 a0 a1 a2 a3 a4 a5 a6 1 μ11 := (bX_eq _ _ _ _ _).trans rfl
set_option maxRecDepth 100000 in
theorem x_M_addWidths_0_eq (x0 : Nat) (x1 : Int) (x2 : Int) (x3 : Int) (x4 : Int) (x5 : Int) (x6 : Int) (x7 : Int) (μ : bz_M) : x_M_addWidths_0 x0 x1 x2 x3 x4 x5 x6 x7 μ =
    if x1 = 0 then x_M_addWidths_1 x0 x1 x2 x3 x4 x5 x6 x7 0 μ else
    if x2 = 0 then x_M_addWidths_1 x0 x1 x2 x3 x4 x5 x6 x7 1 μ else
    if x3 = 0 then x_M_addWidths_1 x0 x1 x2 x3 x4 x5 x6 x7 2 μ else
    if x4 = 0 then x_M_addWidths_1 x0 x1 x2 x3 x4 x5 x6 x7 3 μ else
    if x5 = 0 then x_M_addWidths_1 x0 x1 x2 x3 x4 x5 x6 x7 4 μ else
    if x6 = 0 then x_M_addWidths_1 x0 x1 x2 x3 x4 x5 x6 x7 5 μ else
    x_M_addWidths_1 x0 x1 x2 x3 x4 x5 x6 x7 6 μ := (bX_eq _ _ _ _ _).trans rfl
set_option maxRecDepth 100000 in
theorem x_M_addWidths_1_eq (x0 : Nat) (x1 : Int) (x2 : Int) (x3 : Int) (x4 : Int) (x5 : Int) (x6 : Int) (x7 : Int) (x8 : Int) (μ : bz_M) : x_M_addWidths_1 x0 x1 x2 x3 x4 x5 x6 x7 x8 μ =
    if x7 = 0 then
      bz_pI μ x0 10 11 1 fun μ1 =>
      bz_fI μ1 x0 10 11 fun v2 =>
      if (0 : Int) < v2 then rI 0 μ1 else
      x_M_addWidths_2 x0 x1 x2 x3 x4 x5 x6 x8 0 μ1
    else
    bz_fI μ x0 10 9 fun v3 =>
    if (129 : Int) < wr (v3 + x8) then
      bz_pI μ x0 10 11 2 fun μ4 =>
      bz_fI μ4 x0 10 11 fun v5 =>
      if (0 : Int) < v5 then rI 0 μ4 else
      x_M_addWidths_2 x0 x1 x2 x3 x4 x5 x6 x8 0 μ4
    else
    bz_pI μ x0 10 11 0 fun μ6 =>
    bz_fI μ6 x0 10 11 fun v7 =>
    if (0 : Int) < v7 then rI 0 μ6 else
    x_M_addWidths_2 x0 x1 x2 x3 x4 x5 x6 x8 0 μ6 := (bX_eq _ _ _ _ _).trans rfl
set_option maxRecDepth 100000 in
theorem x_M_addWidths_2_eq (x0 : Nat) (x1 : Int) (x2 : Int) (x3 : Int) (x4 : Int) (x5 : Int) (x6 : Int) (x8 : Int) (x9 : Int) (μ : bz_M) : x_M_addWidths_2 x0 x1 x2 x3 x4 x5 x6 x8 x9 μ =
    if x9 < x8 then
      bz_fR μ x0 10 2 fun v1 =>
      bz_fI μ x0 10 9 fun v2 =>
      if x9 = 0 then
        bz_wI μ v1 v2 x1 fun μ3 =>
        bz_fI μ3 x0 10 9 fun v4 =>
        bz_pI μ3 x0 10 9 (wr (v4 + 1)) fun μ5 =>
        x_M_addWidths_2 x0 x1 x2 x3 x4 x5 x6 x8 (wr (x9 + 1)) μ5
      else
      if x9 = 1 then
        bz_wI μ v1 v2 x2 fun μ6 =>
        bz_fI μ6 x0 10 9 fun v7 =>
        bz_pI μ6 x0 10 9 (wr (v7 + 1)) fun μ8 =>
        x_M_addWidths_2 x0 x1 x2 x3 x4 x5 x6 x8 (wr (x9 + 1)) μ8
      else
      if x9 = 2 then
        bz_wI μ v1 v2 x3 fun μ9 =>
        bz_fI μ9 x0 10 9 fun v10 =>
        bz_pI μ9 x0 10 9 (wr (v10 + 1)) fun μ11 =>
        x_M_addWidths_2 x0 x1 x2 x3 x4 x5 x6 x8 (wr (x9 + 1)) μ11
      else
      if x9 = 3 then
        bz_wI μ v1 v2 x4 fun μ12 =>
        bz_fI μ12 x0 10 9 fun v13 =>
        bz_pI μ12 x0 10 9 (wr (v13 + 1)) fun μ14 =>
        x_M_addWidths_2 x0 x1 x2 x3 x4 x5 x6 x8 (wr (x9 + 1)) μ14
      else
      if x9 = 4 then
        bz_wI μ v1 v2 x5 fun μ15 =>
        bz_fI μ15 x0 10 9 fun v16 =>
        bz_pI μ15 x0 10 9 (wr (v16 + 1)) fun μ17 =>
        x_M_addWidths_2 x0 x1 x2 x3 x4 x5 x6 x8 (wr (x9 + 1)) μ17
      else
      bz_wI μ v1 v2 x6 fun μ18 =>
      bz_fI μ18 x0 10 9 fun v19 =>
      bz_pI μ18 x0 10 9 (wr (v19 + 1)) fun μ20 =>
      x_M_addWidths_2 x0 x1 x2 x3 x4 x5 x6 x8 (wr (x9 + 1)) μ20
    else
    bz_fI μ x0 10 9 fun v21 =>
    rI v21 μ := (bX_eq _ _ _ _ _).trans rfl
set_option maxRecDepth 100000 in
theorem x_M_isWidth_eq (a0 : Int) (a1 : Int) (μ : bz_M) : x_M_isWidth a0 a1 μ =
    bz_ci (x_M_isIn a0 a1 10000 μ) fun v2 μ1 =>
    bz_zB v2 μ1 := (bX_eq _ _ _ _ _).trans rfl
set_option maxRecDepth 100000 in
theorem x_M_endScan_eq (a0 : Nat) (μ : bz_M) : x_M_endScan a0 μ =
    bz_fI μ a0 10 9 fun v1 =>
    if v1 < 3 then
      bz_pI μ a0 10 11 1 fun μ2 =>
      bz_fI μ2 a0 10 11 fun v3 =>
      if (0 : Int) < v3 then rI 0 μ2 else
      x_M_endScan_0 a0 0 μ2
    else
    bz_fI μ a0 10 9 fun v4 =>
    if Int.tmod v4 2 = 0 then
      bz_pI μ a0 10 11 1 fun μ5 =>
      bz_fI μ5 a0 10 11 fun v6 =>
      if (0 : Int) < v6 then rI 0 μ5 else
      x_M_endScan_0 a0 0 μ5
    else
    bz_fI μ a0 10 8 fun v7 =>
    if v7 = 24 then
      bz_pI μ a0 10 11 1 fun μ8 =>
      bz_fI μ8 a0 10 11 fun v9 =>
      if (0 : Int) < v9 then rI 0 μ8 else
      x_M_endScan_0 a0 0 μ8
    else
    bz_pI μ a0 10 11 0 fun μ10 =>
    bz_fI μ10 a0 10 11 fun v11 =>
    if (0 : Int) < v11 then rI 0 μ10 else
    x_M_endScan_0 a0 0 μ10 := (bX_eq _ _ _ _ _).trans rfl
set_option maxRecDepth 100000 in
theorem x_M_endScan_0_eq (x0 : Nat) (x1 : Int) (μ : bz_M) : x_M_endScan_0 x0 x1 μ =
    bz_fI μ x0 10 9 fun v1 =>
    if x1 < v1 then
      bz_fR μ x0 10 0 fun v2 =>
      bz_fI μ x0 10 8 fun v3 =>
      bz_fR μ x0 10 2 fun v4 =>
      bz_rI μ v4 x1 fun v5 =>
      bz_wI μ v2 (wr ((wr (129 * v3)) + x1)) v5 fun μ6 =>
      x_M_endScan_0 x0 (wr (x1 + 1)) μ6
    else
    bz_fR μ x0 10 1 fun v7 =>
    bz_fI μ x0 10 8 fun v8 =>
    bz_fI μ x0 10 9 fun v9 =>
    bz_wI μ v7 v8 v9 fun μ10 =>
    bz_pI μ10 x0 10 9 0 fun μ11 =>
    bz_fI μ11 x0 10 8 fun v12 =>
    bz_pI μ11 x0 10 8 (wr (v12 + 1)) fun μ13 =>
    bz_fI μ13 x0 10 8 fun v14 =>
    rI (wr (v14 - 1)) μ13 := (bX_eq _ _ _ _ _).trans rfl
set_option maxRecDepth 100000 in
theorem x_M_scanCount_eq (a0 : Nat) (μ : bz_M) : x_M_scanCount a0 μ =
    bz_pI μ a0 10 11 0 fun μ1 =>
    bz_fI μ1 a0 10 8 fun v2 =>
    rI v2 μ1 := (bX_eq _ _ _ _ _).trans rfl
set_option maxRecDepth 100000 in
theorem x_M_widthCount_eq (a0 : Nat) (a1 : Int) (μ : bz_M) : x_M_widthCount a0 a1 μ =
    bz_ci (d_M_isScan a0 a1 μ) fun v2 μ1 =>
    if v2 = 0 then
      bz_pI μ1 a0 10 11 1 fun μ3 =>
      bz_fI μ3 a0 10 11 fun v4 =>
      if (0 : Int) < v4 then rI 0 μ3 else
      bz_fR μ3 a0 10 1 fun v5 =>
      bz_rI μ3 v5 a1 fun v6 =>
      rI v6 μ3
    else
    bz_pI μ1 a0 10 11 0 fun μ7 =>
    bz_fI μ7 a0 10 11 fun v8 =>
    if (0 : Int) < v8 then rI 0 μ7 else
    bz_fR μ7 a0 10 1 fun v9 =>
    bz_rI μ7 v9 a1 fun v10 =>
    rI v10 μ7 := (bX_eq _ _ _ _ _).trans rfl
set_option maxRecDepth 100000 in
theorem x_M_isScan_eq (a0 : Nat) (a1 : Int) (μ : bz_M) : x_M_isScan a0 a1 μ =
    bz_fI μ a0 10 8 fun v1 =>
    bz_ci (x_M_isIn a1 0 (wr (v1 - 1)) μ) fun v3 μ2 =>
    bz_zB v3 μ2 := (bX_eq _ _ _ _ _).trans rfl
set_option maxRecDepth 100000 in
theorem x_M_width_eq (a0 : Nat) (a1 : Int) (a2 : Int) (μ : bz_M) : x_M_width a0 a1 a2 μ =
    bz_ci (d_M_hasWidth a0 a1 a2 μ) fun v2 μ1 =>
    if v2 = 0 then
      bz_pI μ1 a0 10 11 1 fun μ3 =>
      bz_fI μ3 a0 10 11 fun v4 =>
      if (0 : Int) < v4 then rI 0 μ3 else
      bz_fR μ3 a0 10 0 fun v5 =>
      bz_rI μ3 v5 (wr ((wr (129 * a1)) + a2)) fun v6 =>
      rI v6 μ3
    else
    bz_pI μ1 a0 10 11 0 fun μ7 =>
    bz_fI μ7 a0 10 11 fun v8 =>
    if (0 : Int) < v8 then rI 0 μ7 else
    bz_fR μ7 a0 10 0 fun v9 =>
    bz_rI μ7 v9 (wr ((wr (129 * a1)) + a2)) fun v10 =>
    rI v10 μ7 := (bX_eq _ _ _ _ _).trans rfl
set_option maxRecDepth 100000 in
theorem x_M_hasWidth_eq (a0 : Nat) (a1 : Int) (a2 : Int) (μ : bz_M) : x_M_hasWidth a0 a1 a2 μ =
    bz_ci (d_M_isScan a0 a1 μ) fun v2 μ1 =>
    if v2 = 0 then rI 0 μ1 else
    bz_fR μ1 a0 10 1 fun v3 =>
    bz_rI μ1 v3 a1 fun v4 =>
    bz_ci (x_M_isIn a2 0 (wr (v4 - 1)) μ1) fun v6 μ5 =>
    if v6 = 0 then rI 0 μ5 else
    rI 1 μ5 := (bX_eq _ _ _ _ _).trans rfl
set_option maxRecDepth 100000 in
theorem x_M_setWidth_eq (a0 : Nat) (a1 : Int) (a2 : Int) (a3 : Int) (μ : bz_M) : x_M_setWidth a0 a1 a2 a3 μ =
    bz_ci (d_M_hasWidth a0 a1 a2 μ) fun v2 μ1 =>
    if v2 = 0 then
      bz_pI μ1 a0 10 11 1 fun μ3 =>
      bz_fI μ3 a0 10 11 fun v4 =>
      if (0 : Int) < v4 then rI 0 μ3 else
      bz_fR μ3 a0 10 0 fun v5 =>
      bz_rI μ3 v5 (wr ((wr (129 * a1)) + a2)) fun v6 =>
      bz_fR μ3 a0 10 0 fun v7 =>
      bz_wI μ3 v7 (wr ((wr (129 * a1)) + a2)) a3 fun μ8 =>
      rI v6 μ8
    else
    bz_ci (x_M_isWidth a3 1 μ1) fun v10 μ9 =>
    if v10 = 0 then
      bz_pI μ9 a0 10 11 2 fun μ11 =>
      bz_fI μ11 a0 10 11 fun v12 =>
      if (0 : Int) < v12 then rI 0 μ11 else
      bz_fR μ11 a0 10 0 fun v13 =>
      bz_rI μ11 v13 (wr ((wr (129 * a1)) + a2)) fun v14 =>
      bz_fR μ11 a0 10 0 fun v15 =>
      bz_wI μ11 v15 (wr ((wr (129 * a1)) + a2)) a3 fun μ16 =>
      rI v14 μ16
    else
    bz_pI μ9 a0 10 11 0 fun μ17 =>
    bz_fI μ17 a0 10 11 fun v18 =>
    if (0 : Int) < v18 then rI 0 μ17 else
    bz_fR μ17 a0 10 0 fun v19 =>
    bz_rI μ17 v19 (wr ((wr (129 * a1)) + a2)) fun v20 =>
    bz_fR μ17 a0 10 0 fun v21 =>
    bz_wI μ17 v21 (wr ((wr (129 * a1)) + a2)) a3 fun μ22 =>
    rI v20 μ22 := (bX_eq _ _ _ _ _).trans rfl
set_option maxRecDepth 100000 in
theorem x_M_cut_eq (a0 : Nat) (a1 : Int) (a2 : Int) (a3 : Int) (μ : bz_M) : x_M_cut a0 a1 a2 a3 μ =
    bz_ci (d_M_hasWidth a0 a1 a2 μ) fun v2 μ1 =>
    if v2 = 0 then
      bz_pI μ1 a0 10 11 1 fun μ3 =>
      bz_fI μ3 a0 10 11 fun v4 =>
      if (0 : Int) < v4 then rI 0 μ3 else
      bz_fR μ3 a0 10 1 fun v5 =>
      bz_wI μ3 v5 a1 (wr ((wr (a3 - a2)) + 1)) fun μ6 =>
      x_M_cut_0 a0 a1 a2 0 μ6
    else
    bz_ci (d_M_hasWidth a0 a1 a3 μ1) fun v8 μ7 =>
    if v8 = 0 then
      bz_pI μ7 a0 10 11 1 fun μ9 =>
      bz_fI μ9 a0 10 11 fun v10 =>
      if (0 : Int) < v10 then rI 0 μ9 else
      bz_fR μ9 a0 10 1 fun v11 =>
      bz_wI μ9 v11 a1 (wr ((wr (a3 - a2)) + 1)) fun μ12 =>
      x_M_cut_0 a0 a1 a2 0 μ12
    else
    if Int.tmod a2 2 = 1 then
      bz_pI μ7 a0 10 11 2 fun μ13 =>
      bz_fI μ13 a0 10 11 fun v14 =>
      if (0 : Int) < v14 then rI 0 μ13 else
      bz_fR μ13 a0 10 1 fun v15 =>
      bz_wI μ13 v15 a1 (wr ((wr (a3 - a2)) + 1)) fun μ16 =>
      x_M_cut_0 a0 a1 a2 0 μ16
    else
    if Int.tmod a3 2 = 1 then
      bz_pI μ7 a0 10 11 2 fun μ17 =>
      bz_fI μ17 a0 10 11 fun v18 =>
      if (0 : Int) < v18 then rI 0 μ17 else
      bz_fR μ17 a0 10 1 fun v19 =>
      bz_wI μ17 v19 a1 (wr ((wr (a3 - a2)) + 1)) fun μ20 =>
      x_M_cut_0 a0 a1 a2 0 μ20
    else
    if a3 < wr (a2 + 2) then
      bz_pI μ7 a0 10 11 2 fun μ21 =>
      bz_fI μ21 a0 10 11 fun v22 =>
      if (0 : Int) < v22 then rI 0 μ21 else
      bz_fR μ21 a0 10 1 fun v23 =>
      bz_wI μ21 v23 a1 (wr ((wr (a3 - a2)) + 1)) fun μ24 =>
      x_M_cut_0 a0 a1 a2 0 μ24
    else
    bz_pI μ7 a0 10 11 0 fun μ25 =>
    bz_fI μ25 a0 10 11 fun v26 =>
    if (0 : Int) < v26 then rI 0 μ25 else
    bz_fR μ25 a0 10 1 fun v27 =>
    bz_wI μ25 v27 a1 (wr ((wr (a3 - a2)) + 1)) fun μ28 =>
    x_M_cut_0 a0 a1 a2 0 μ28 := (bX_eq _ _ _ _ _).trans rfl
set_option maxRecDepth 100000 in
theorem x_M_cut_0_eq (x0 : Nat) (x1 : Int) (x2 : Int) (x4 : Int) (μ : bz_M) : x_M_cut_0 x0 x1 x2 x4 μ =
    bz_fR μ x0 10 1 fun v1 =>
    bz_rI μ v1 x1 fun v2 =>
    if x4 < v2 then
      bz_fR μ x0 10 0 fun v3 =>
      bz_fR μ x0 10 0 fun v4 =>
      bz_rI μ v4 (wr ((wr ((wr (129 * x1)) + x2)) + x4)) fun v5 =>
      bz_wI μ v3 (wr ((wr (129 * x1)) + x4)) v5 fun μ6 =>
      x_M_cut_0 x0 x1 x2 (wr (x4 + 1)) μ6
    else
    bz_fR μ x0 10 1 fun v7 =>
    bz_rI μ v7 x1 fun v8 =>
    rI v8 μ := (bX_eq _ _ _ _ _).trans rfl
set_option maxRecDepth 100000 in
theorem x_M_reverse_eq (a0 : Nat) (a1 : Int) (μ : bz_M) : x_M_reverse a0 a1 μ =
    bz_ci (d_M_isScan a0 a1 μ) fun v2 μ1 =>
    if v2 = 0 then
      bz_pI μ1 a0 10 11 1 fun μ3 =>
      bz_fI μ3 a0 10 11 fun v4 =>
      if (0 : Int) < v4 then rI 0 μ3 else
      bz_cv (d_M_laysRow a0 a1 1 μ3) fun μ5 =>
      x_M_reverse_0 a0 a1 0 μ5
    else
    bz_pI μ1 a0 10 11 0 fun μ6 =>
    bz_fI μ6 a0 10 11 fun v7 =>
    if (0 : Int) < v7 then rI 0 μ6 else
    bz_cv (d_M_laysRow a0 a1 1 μ6) fun μ8 =>
    x_M_reverse_0 a0 a1 0 μ8 := (bX_eq _ _ _ _ _).trans rfl
set_option maxRecDepth 100000 in
theorem x_M_reverse_0_eq (x0 : Nat) (x1 : Int) (x2 : Int) (μ : bz_M) : x_M_reverse_0 x0 x1 x2 μ =
    bz_fI μ x0 10 16 fun v1 =>
    if x2 < v1 then
      bz_fR μ x0 10 0 fun v2 =>
      bz_fR μ x0 10 15 fun v3 =>
      bz_rI μ v3 x2 fun v4 =>
      bz_wI μ v2 (wr ((wr (129 * x1)) + x2)) v4 fun μ5 =>
      x_M_reverse_0 x0 x1 (wr (x2 + 1)) μ5
    else
    rI 0 μ := (bX_eq _ _ _ _ _).trans rfl
set_option maxRecDepth 100000 in
theorem x_M_laysRow_eq (a0 : Nat) (a1 : Int) (a2 : Int) (μ : bz_M) : x_M_laysRow a0 a1 a2 μ =
    bz_fR μ a0 10 1 fun v1 =>
    bz_rI μ v1 a1 fun v2 =>
    bz_pI μ a0 10 16 v2 fun μ3 =>
    x_M_laysRow_0 a0 a1 a2 0 μ3 := (bX_eq _ _ _ _ _).trans rfl
set_option maxRecDepth 100000 in
theorem x_M_laysRow_0_eq (x0 : Nat) (x1 : Int) (x2 : Int) (x3 : Int) (μ : bz_M) : x_M_laysRow_0 x0 x1 x2 x3 μ =
    bz_fI μ x0 10 16 fun v1 =>
    if x3 < v1 then
      bz_fR μ x0 10 15 fun v2 =>
      bz_fR μ x0 10 0 fun v3 =>
      if x2 = 0 then
        bz_rI μ v3 (wr ((wr (129 * x1)) + x3)) fun v4 =>
        bz_wI μ v2 x3 v4 fun μ5 =>
        x_M_laysRow_0 x0 x1 x2 (wr (x3 + 1)) μ5
      else
      bz_fI μ x0 10 16 fun v6 =>
      bz_rI μ v3 (wr ((wr (129 * x1)) + (wr ((wr (v6 - 1)) - x3)))) fun v7 =>
      bz_wI μ v2 x3 v7 fun μ8 =>
      x_M_laysRow_0 x0 x1 x2 (wr (x3 + 1)) μ8
    else
    rI 0 μ := (bX_eq _ _ _ _ _).trans rfl
set_option maxRecDepth 100000 in
theorem x_M_smear_eq (a0 : Nat) (a1 : Int) (a2 : Int) (μ : bz_M) : x_M_smear a0 a1 a2 μ =
    bz_ci (d_M_isScan a0 a1 μ) fun v2 μ1 =>
    if v2 = 0 then
      bz_pI μ1 a0 10 11 1 fun μ3 =>
      bz_fI μ3 a0 10 11 fun v4 =>
      if (0 : Int) < v4 then rI 0 μ3 else
      x_M_smear_0 a0 a1 a2 0 1 μ3
    else
    bz_ci (x_M_isIn a2 (-100) 100 μ1) fun v6 μ5 =>
    if v6 = 0 then
      bz_pI μ5 a0 10 11 2 fun μ7 =>
      bz_fI μ7 a0 10 11 fun v8 =>
      if (0 : Int) < v8 then rI 0 μ7 else
      x_M_smear_0 a0 a1 a2 0 1 μ7
    else
    bz_pI μ5 a0 10 11 0 fun μ9 =>
    bz_fI μ9 a0 10 11 fun v10 =>
    if (0 : Int) < v10 then rI 0 μ9 else
    x_M_smear_0 a0 a1 a2 0 1 μ9 := (bX_eq _ _ _ _ _).trans rfl
set_option maxRecDepth 100000 in
theorem x_M_smear_0_eq (x0 : Nat) (x1 : Int) (x2 : Int) (x3 : Int) (x4 : Int) (μ : bz_M) : x_M_smear_0 x0 x1 x2 x3 x4 μ =
    bz_fR μ x0 10 1 fun v1 =>
    bz_rI μ v1 x1 fun v2 =>
    if x4 < wr (v2 - 1) then
      bz_fR μ x0 10 0 fun v3 =>
      bz_rI μ v3 (wr ((wr (129 * x1)) + x4)) fun v4 =>
      if Int.tmod x4 2 = 1 then
        bz_ci (x_M_isWidth (wr (v4 + x2)) 1 μ) fun v6 μ5 =>
        if v6 = 0 then
          bz_fR μ5 x0 10 0 fun v7 =>
          if wr (v4 + x2) < 1 then
            bz_wI μ5 v7 (wr ((wr (129 * x1)) + x4)) 1 fun μ8 =>
            x_M_smear_0 x0 x1 x2 (wr (x3 + 1)) (wr (x4 + 1)) μ8
          else
          if (10000 : Int) < wr (v4 + x2) then
            bz_wI μ5 v7 (wr ((wr (129 * x1)) + x4)) 10000 fun μ9 =>
            x_M_smear_0 x0 x1 x2 (wr (x3 + 1)) (wr (x4 + 1)) μ9
          else
          bz_wI μ5 v7 (wr ((wr (129 * x1)) + x4)) (wr (v4 + x2)) fun μ10 =>
          x_M_smear_0 x0 x1 x2 (wr (x3 + 1)) (wr (x4 + 1)) μ10
        else
        bz_fR μ5 x0 10 0 fun v11 =>
        if wr (v4 + x2) < 1 then
          bz_wI μ5 v11 (wr ((wr (129 * x1)) + x4)) 1 fun μ12 =>
          x_M_smear_0 x0 x1 x2 (wr (x3 + 0)) (wr (x4 + 1)) μ12
        else
        if (10000 : Int) < wr (v4 + x2) then
          bz_wI μ5 v11 (wr ((wr (129 * x1)) + x4)) 10000 fun μ13 =>
          x_M_smear_0 x0 x1 x2 (wr (x3 + 0)) (wr (x4 + 1)) μ13
        else
        bz_wI μ5 v11 (wr ((wr (129 * x1)) + x4)) (wr (v4 + x2)) fun μ14 =>
        x_M_smear_0 x0 x1 x2 (wr (x3 + 0)) (wr (x4 + 1)) μ14
      else
      bz_ci (x_M_isWidth (wr (v4 + (wr (-x2)))) 1 μ) fun v16 μ15 =>
      if v16 = 0 then
        bz_fR μ15 x0 10 0 fun v17 =>
        if wr (v4 + (wr (-x2))) < 1 then
          bz_wI μ15 v17 (wr ((wr (129 * x1)) + x4)) 1 fun μ18 =>
          x_M_smear_0 x0 x1 x2 (wr (x3 + 1)) (wr (x4 + 1)) μ18
        else
        if (10000 : Int) < wr (v4 + (wr (-x2))) then
          bz_wI μ15 v17 (wr ((wr (129 * x1)) + x4)) 10000 fun μ19 =>
          x_M_smear_0 x0 x1 x2 (wr (x3 + 1)) (wr (x4 + 1)) μ19
        else
        bz_wI μ15 v17 (wr ((wr (129 * x1)) + x4)) (wr (v4 + (wr (-x2)))) fun μ20 =>
        x_M_smear_0 x0 x1 x2 (wr (x3 + 1)) (wr (x4 + 1)) μ20
      else
      bz_fR μ15 x0 10 0 fun v21 =>
      if wr (v4 + (wr (-x2))) < 1 then
        bz_wI μ15 v21 (wr ((wr (129 * x1)) + x4)) 1 fun μ22 =>
        x_M_smear_0 x0 x1 x2 (wr (x3 + 0)) (wr (x4 + 1)) μ22
      else
      if (10000 : Int) < wr (v4 + (wr (-x2))) then
        bz_wI μ15 v21 (wr ((wr (129 * x1)) + x4)) 10000 fun μ23 =>
        x_M_smear_0 x0 x1 x2 (wr (x3 + 0)) (wr (x4 + 1)) μ23
      else
      bz_wI μ15 v21 (wr ((wr (129 * x1)) + x4)) (wr (v4 + (wr (-x2)))) fun μ24 =>
      x_M_smear_0 x0 x1 x2 (wr (x3 + 0)) (wr (x4 + 1)) μ24
    else
    rI x3 μ := (bX_eq _ _ _ _ _).trans rfl
set_option maxRecDepth 100000 in
theorem x_M_average_eq (a0 : Nat) (a1 : Int) (a2 : Int) (μ : bz_M) : x_M_average a0 a1 a2 μ =
    bz_ci (d_M_isScan a0 a1 μ) fun v2 μ1 =>
    if v2 = 0 then
      bz_pI μ1 a0 10 11 1 fun μ3 =>
      x_M_average_0 a0 a1 a2 0 μ3
    else
    bz_ci (d_M_isScan a0 a2 μ1) fun v5 μ4 =>
    if v5 = 0 then
      bz_pI μ4 a0 10 11 1 fun μ6 =>
      x_M_average_0 a0 a1 a2 0 μ6
    else
    bz_fR μ4 a0 10 1 fun v7 =>
    bz_rI μ4 v7 a1 fun v8 =>
    bz_fR μ4 a0 10 1 fun v9 =>
    bz_rI μ4 v9 a2 fun v10 =>
    if v8 = v10 then
      bz_pI μ4 a0 10 11 0 fun μ11 =>
      x_M_average_0 a0 a1 a2 0 μ11
    else
    bz_pI μ4 a0 10 11 2 fun μ12 =>
    x_M_average_0 a0 a1 a2 0 μ12 := (bX_eq _ _ _ _ _).trans rfl
set_option maxRecDepth 100000 in
theorem x_M_average_0_eq (x0 : Nat) (x1 : Int) (x2 : Int) (x3 : Int) (μ : bz_M) : x_M_average_0 x0 x1 x2 x3 μ =
    bz_fI μ x0 10 11 fun v1 =>
    if v1 = 0 then
      bz_fR μ x0 10 1 fun v2 =>
      bz_rI μ v2 x1 fun v3 =>
      if x3 < v3 then
        bz_fR μ x0 10 0 fun v4 =>
        bz_fR μ x0 10 0 fun v5 =>
        bz_rI μ v5 (wr ((wr (129 * x1)) + x3)) fun v6 =>
        bz_fR μ x0 10 0 fun v7 =>
        bz_rI μ v7 (wr ((wr (129 * x2)) + x3)) fun v8 =>
        bz_wI μ v4 (wr ((wr (129 * x1)) + x3)) (wr (Int.tdiv (wr ((wr (v6 + v8)) + 1)) 2)) fun μ9 =>
        x_M_average_0 x0 x1 x2 (wr (x3 + 1)) μ9
      else
      rI 0 μ
    else
    rI 0 μ := (bX_eq _ _ _ _ _).trans rfl
set_option maxRecDepth 100000 in
theorem x_M_removeScan_eq (a0 : Nat) (a1 : Int) (μ : bz_M) : x_M_removeScan a0 a1 μ =
    bz_ci (d_M_isScan a0 a1 μ) fun v2 μ1 =>
    if v2 = 0 then
      bz_pI μ1 a0 10 11 1 fun μ3 =>
      bz_fI μ3 a0 10 11 fun v4 =>
      if (0 : Int) < v4 then rI 0 μ3 else
      bz_fI μ3 a0 10 8 fun v5 =>
      bz_pI μ3 a0 10 8 (wr (v5 - 1)) fun μ6 =>
      x_M_removeScan_0 a0 a1 a1 μ6
    else
    bz_pI μ1 a0 10 11 0 fun μ7 =>
    bz_fI μ7 a0 10 11 fun v8 =>
    if (0 : Int) < v8 then rI 0 μ7 else
    bz_fI μ7 a0 10 8 fun v9 =>
    bz_pI μ7 a0 10 8 (wr (v9 - 1)) fun μ10 =>
    x_M_removeScan_0 a0 a1 a1 μ10 := (bX_eq _ _ _ _ _).trans rfl
set_option maxRecDepth 100000 in
theorem x_M_removeScan_0_eq (x0 : Nat) (x1 : Int) (x2 : Int) (μ : bz_M) : x_M_removeScan_0 x0 x1 x2 μ =
    bz_fI μ x0 10 8 fun v1 =>
    if x2 < v1 then
      bz_fR μ x0 10 1 fun v2 =>
      bz_fR μ x0 10 1 fun v3 =>
      bz_rI μ v3 (wr (x2 + 1)) fun v4 =>
      bz_wI μ v2 x2 v4 fun μ5 =>
      x_M_removeScan_0 x0 x1 (wr (x2 + 1)) μ5
    else
    x_M_removeScan_1 x0 (wr (129 * x1)) μ := (bX_eq _ _ _ _ _).trans rfl
set_option maxRecDepth 100000 in
theorem x_M_removeScan_1_eq (x0 : Nat) (x2 : Int) (μ : bz_M) : x_M_removeScan_1 x0 x2 μ =
    bz_fI μ x0 10 8 fun v1 =>
    if x2 < wr (129 * v1) then
      bz_fR μ x0 10 0 fun v2 =>
      bz_fR μ x0 10 0 fun v3 =>
      bz_rI μ v3 (wr (x2 + 129)) fun v4 =>
      bz_wI μ v2 x2 v4 fun μ5 =>
      x_M_removeScan_1 x0 (wr (x2 + 1)) μ5
    else
    bz_fI μ x0 10 8 fun v6 =>
    rI v6 μ := (bX_eq _ _ _ _ _).trans rfl
set_option maxRecDepth 100000 in
theorem x_M_read_eq (a0 : Nat) (a1 : Int) (a2 : Int) (μ : bz_M) : x_M_read a0 a1 a2 μ =
    bz_ci (d_M_reads a0 a1 a2 μ) fun v2 μ1 =>
    if v2 = 0 then rI 0 μ1 else
    bz_ci (d_M_manyOf a0 a1 0 μ1) fun v4 μ3 =>
    rI v4 μ3 := (bX_eq _ _ _ _ _).trans rfl
set_option maxRecDepth 100000 in
theorem x_M_reads_eq (a0 : Nat) (a1 : Int) (a2 : Int) (μ : bz_M) : x_M_reads a0 a1 a2 μ =
    bz_ci (d_M_isScan a0 a1 μ) fun v2 μ1 =>
    if v2 = 0 then
      bz_pI μ1 a0 10 11 1 fun μ3 =>
      bz_fI μ3 a0 10 11 fun v4 =>
      if v4 = 0 then
        bz_cv (d_M_readsScan a0 a1 a2 μ3) fun μ5 =>
        bz_fI μ5 a0 10 11 fun v6 =>
        if v6 = 0 then rI 1 μ5 else
        rI 0 μ5
      else
      bz_fI μ3 a0 10 11 fun v7 =>
      if v7 = 0 then rI 1 μ3 else
      rI 0 μ3
    else
    bz_ci (x_M_isSymbology a2 μ1) fun v9 μ8 =>
    if v9 = 0 then
      bz_pI μ8 a0 10 11 1 fun μ10 =>
      bz_fI μ10 a0 10 11 fun v11 =>
      if v11 = 0 then
        bz_cv (d_M_readsScan a0 a1 a2 μ10) fun μ12 =>
        bz_fI μ12 a0 10 11 fun v13 =>
        if v13 = 0 then rI 1 μ12 else
        rI 0 μ12
      else
      bz_fI μ10 a0 10 11 fun v14 =>
      if v14 = 0 then rI 1 μ10 else
      rI 0 μ10
    else
    bz_pI μ8 a0 10 11 0 fun μ15 =>
    bz_fI μ15 a0 10 11 fun v16 =>
    if v16 = 0 then
      bz_cv (d_M_readsScan a0 a1 a2 μ15) fun μ17 =>
      bz_fI μ17 a0 10 11 fun v18 =>
      if v18 = 0 then rI 1 μ17 else
      rI 0 μ17
    else
    bz_fI μ15 a0 10 11 fun v19 =>
    if v19 = 0 then rI 1 μ15 else
    rI 0 μ15 := (bX_eq _ _ _ _ _).trans rfl
set_option maxRecDepth 100000 in
theorem x_M_readsScan_eq (a0 : Nat) (a1 : Int) (a2 : Int) (μ : bz_M) : x_M_readsScan a0 a1 a2 μ =
    x_M_readsScan_0 a0 a1 a2 0 μ := (bX_eq _ _ _ _ _).trans rfl
set_option maxRecDepth 100000 in
theorem x_M_readsScan_0_eq (x0 : Nat) (x1 : Int) (x2 : Int) (x3 : Int) (μ : bz_M) : x_M_readsScan_0 x0 x1 x2 x3 μ =
    if x3 < 3 then
      bz_fR μ x0 10 22 fun v1 =>
      bz_wI μ v1 (wr ((wr (3 * x1)) + x3)) 0 fun μ2 =>
      x_M_readsScan_0 x0 x1 x2 (wr (x3 + 1)) μ2
    else
    bz_fR μ x0 10 25 fun v3 =>
    bz_wB μ v3 x1 0 fun μ4 =>
    bz_cv (d_M_laysRow x0 x1 0 μ4) fun μ5 =>
    bz_ci (d_M_isWhole x0 x1 x2 μ5) fun v7 μ6 =>
    if v7 = 0 then
      bz_cv (d_M_laysRow x0 x1 1 μ6) fun μ8 =>
      bz_fR μ8 x0 10 25 fun v9 =>
      bz_wB μ8 v9 x1 1 fun μ10 =>
      bz_ci (d_M_isWhole x0 x1 x2 μ10) fun v12 μ11 =>
      if v12 = 0 then
        bz_cv (d_M_laysRow x0 x1 0 μ11) fun μ13 =>
        bz_fR μ13 x0 10 25 fun v14 =>
        bz_wB μ13 v14 x1 0 fun μ15 =>
        bz_ci (d_M_hasParts x0 x1 x2 μ15) fun v17 μ16 =>
        if v17 = 0 then
          bz_cv (d_M_laysRow x0 x1 1 μ16) fun μ18 =>
          bz_fR μ18 x0 10 25 fun v19 =>
          bz_ci (d_M_hasParts x0 x1 x2 μ18) fun v21 μ20 =>
          bz_wB μ20 v19 x1 v21 fun μ22 =>
          rI 0 μ22
        else
        rI 0 μ16
      else
      rI 0 μ11
    else
    rI 0 μ6 := (bX_eq _ _ _ _ _).trans rfl
set_option maxRecDepth 100000 in
theorem x_M_isWhole_eq (a0 : Nat) (a1 : Int) (a2 : Int) (μ : bz_M) : x_M_isWhole a0 a1 a2 μ =
    x_M_isWhole_0 a0 a1 a2 1 μ := (bX_eq _ _ _ _ _).trans rfl
set_option maxRecDepth 100000 in
theorem x_M_isWhole_0_eq (x0 : Nat) (x1 : Int) (x2 : Int) (x3 : Int) (μ : bz_M) : x_M_isWhole_0 x0 x1 x2 x3 μ =
    bz_fI μ x0 10 16 fun v1 =>
    if x3 < v1 then
      bz_ci (d_M_isWholeFrom x0 x2 x3 μ) fun v3 μ2 =>
      if v3 = 0 then x_M_isWhole_0 x0 x1 x2 (wr (x3 + 2)) μ2 else
      bz_cv (d_M_keeps x0 x1 0 μ2) fun μ4 =>
      bz_fR μ4 x0 10 26 fun v5 =>
      bz_wI μ4 v5 x1 x3 fun μ6 =>
      rI 1 μ6
    else
    rI 0 μ := (bX_eq _ _ _ _ _).trans rfl
set_option maxRecDepth 100000 in
theorem x_M_isWholeFrom_eq (a0 : Nat) (a1 : Int) (a2 : Int) (μ : bz_M) : x_M_isWholeFrom a0 a1 a2 μ =
    bz_pI μ a0 10 19 0 fun μ1 =>
    bz_ci (d_M_isBeginning a0 a1 a2 μ1) fun v3 μ2 =>
    if v3 = 0 then rI 0 μ2 else
    if a1 = 0 then
      bz_ci (d_M_isWholeEan a0 a2 μ2) fun v5 μ4 =>
      if v5 = 0 then rI 0 μ4 else
      rI 1 μ4
    else
    if a1 = 1 then
      bz_ci (d_M_isWholePairs a0 a2 μ2) fun v7 μ6 =>
      if v7 = 0 then rI 0 μ6 else
      rI 1 μ6
    else
    bz_ci (d_M_isWholeCodabar a0 a2 μ2) fun v9 μ8 =>
    if v9 = 0 then rI 0 μ8 else
    rI 1 μ8 := (bX_eq _ _ _ _ _).trans rfl
set_option maxRecDepth 100000 in
theorem x_M_isBeginning_eq (a0 : Nat) (a1 : Int) (a2 : Int) (μ : bz_M) : x_M_isBeginning a0 a1 a2 μ =
    bz_ci (x_M_startOf a1 μ) fun v2 μ1 =>
    bz_ci (d_M_exists a0 a2 v2 μ1) fun v4 μ3 =>
    if v4 = 0 then rI 0 μ3 else
    if a1 = 2 then
      bz_ci (d_M_sevenAt a0 a2 μ3) fun v6 μ5 =>
      if v6 < 16 then rI 0 μ5 else
      bz_fR μ5 a0 10 15 fun v7 =>
      bz_rI μ5 v7 (wr (a2 - 1)) fun v8 =>
      bz_ci (d_M_leastOf a0 a2 v2 μ5) fun v10 μ9 =>
      if v8 < wr (5 * v10) then rI 0 μ9 else
      rI 1 μ9
    else
    bz_ci (d_M_areEven a0 a2 v2 μ3) fun v12 μ11 =>
    if v12 = 0 then rI 0 μ11 else
    bz_fR μ11 a0 10 15 fun v13 =>
    bz_rI μ11 v13 (wr (a2 - 1)) fun v14 =>
    bz_ci (d_M_leastOf a0 a2 v2 μ11) fun v16 μ15 =>
    if v14 < wr (5 * v16) then rI 0 μ15 else
    rI 1 μ15 := (bX_eq _ _ _ _ _).trans rfl
set_option maxRecDepth 100000 in
theorem x_M_startOf_eq (a0 : Int) (μ : bz_M) : x_M_startOf a0 μ =
    if a0 = 0 then rI 3 μ else
    if a0 = 1 then rI 4 μ else
    rI 7 μ := (bX_eq _ _ _ _ _).trans rfl
set_option maxRecDepth 100000 in
theorem x_M_exists_eq (a0 : Nat) (a1 : Int) (a2 : Int) (μ : bz_M) : x_M_exists a0 a1 a2 μ =
    if a1 < 0 then rI 0 μ else
    bz_fI μ a0 10 16 fun v1 =>
    if v1 < wr (a1 + a2) then rI 0 μ else
    rI 1 μ := (bX_eq _ _ _ _ _).trans rfl
set_option maxRecDepth 100000 in
theorem x_M_sevenAt_eq (a0 : Nat) (a1 : Int) (μ : bz_M) : x_M_sevenAt a0 a1 μ =
    bz_ci (d_M_exists a0 a1 7 μ) fun v2 μ1 =>
    if v2 = 0 then rI (-1) μ1 else
    bz_ci (d_M_readsWides a0 a1 7 1 μ1) fun v4 μ3 =>
    if v4 = 0 then rI (-1) μ3 else
    x_M_sevenAt_0 a0 0 μ3 := (bX_eq _ _ _ _ _).trans rfl
set_option maxRecDepth 100000 in
theorem x_M_sevenAt_0_eq (x0 : Nat) (x2 : Int) (μ : bz_M) : x_M_sevenAt_0 x0 x2 μ =
    if x2 < 20 then
      bz_fR μ x0 10 7 fun v1 =>
      bz_rI μ v1 x2 fun v2 =>
      bz_fI μ x0 10 20 fun v3 =>
      if v2 = v3 then rI x2 μ else
      x_M_sevenAt_0 x0 (wr (x2 + 1)) μ
    else
    rI (-1) μ := (bX_eq _ _ _ _ _).trans rfl
set_option maxRecDepth 100000 in
theorem x_M_readsWides_eq (a0 : Nat) (a1 : Int) (a2 : Int) (a3 : Int) (μ : bz_M) : x_M_readsWides a0 a1 a2 a3 μ =
    bz_fR μ a0 10 15 fun v1 =>
    bz_rI μ v1 a1 fun v2 =>
    bz_fR μ a0 10 15 fun v3 =>
    bz_rI μ v3 a1 fun v4 =>
    x_M_readsWides_0 a0 a1 a2 a3 v2 v4 0 μ := (bX_eq _ _ _ _ _).trans rfl
set_option maxRecDepth 100000 in
theorem x_M_readsWides_0_eq (x0 : Nat) (x1 : Int) (x2 : Int) (x3 : Int) (x4 : Int) (x5 : Int) (x6 : Int) (μ : bz_M) : x_M_readsWides_0 x0 x1 x2 x3 x4 x5 x6 μ =
    if x6 < x2 then
      bz_fR μ x0 10 15 fun v1 =>
      bz_rI μ v1 (wr (x1 + (wr (x3 * x6)))) fun v2 =>
      if v2 < x4 then
        bz_fR μ x0 10 15 fun v3 =>
        bz_rI μ v3 (wr (x1 + (wr (x3 * x6)))) fun v4 =>
        bz_fR μ x0 10 15 fun v5 =>
        bz_rI μ v5 (wr (x1 + (wr (x3 * x6)))) fun v6 =>
        if x5 < v6 then
          bz_fR μ x0 10 15 fun v7 =>
          bz_rI μ v7 (wr (x1 + (wr (x3 * x6)))) fun v8 =>
          x_M_readsWides_0 x0 x1 x2 x3 v4 v8 (wr (x6 + 1)) μ
        else
        x_M_readsWides_0 x0 x1 x2 x3 v4 x5 (wr (x6 + 1)) μ
      else
      bz_fR μ x0 10 15 fun v9 =>
      bz_rI μ v9 (wr (x1 + (wr (x3 * x6)))) fun v10 =>
      if x5 < v10 then
        bz_fR μ x0 10 15 fun v11 =>
        bz_rI μ v11 (wr (x1 + (wr (x3 * x6)))) fun v12 =>
        x_M_readsWides_0 x0 x1 x2 x3 x4 v12 (wr (x6 + 1)) μ
      else
      x_M_readsWides_0 x0 x1 x2 x3 x4 x5 (wr (x6 + 1)) μ
    else
    if wr (2 * x5) < wr (3 * x4) then rI 0 μ else
    bz_pI μ x0 10 20 0 fun μ13 =>
    x_M_readsWides_1 x0 x1 x2 x3 x4 x5 x5 x4 0 μ13 := (bX_eq _ _ _ _ _).trans rfl
set_option maxRecDepth 100000 in
theorem x_M_readsWides_1_eq (x0 : Nat) (x1 : Int) (x2 : Int) (x3 : Int) (x4 : Int) (x5 : Int) (x6 : Int) (x7 : Int) (x8 : Int) (μ : bz_M) : x_M_readsWides_1 x0 x1 x2 x3 x4 x5 x6 x7 x8 μ =
    if x8 < x2 then
      bz_fR μ x0 10 15 fun v1 =>
      bz_rI μ v1 (wr (x1 + (wr (x3 * x8)))) fun v2 =>
      if wr (x4 + x5) < wr (2 * v2) then
        bz_fI μ x0 10 20 fun v3 =>
        bz_pI μ x0 10 20 (wr ((wr (2 * v3)) + 1)) fun μ4 =>
        if v2 < x6 then x_M_readsWides_1 x0 x1 x2 x3 x4 x5 v2 x7 (wr (x8 + 1)) μ4 else
        x_M_readsWides_1 x0 x1 x2 x3 x4 x5 x6 x7 (wr (x8 + 1)) μ4
      else
      bz_fI μ x0 10 20 fun v5 =>
      bz_pI μ x0 10 20 (wr ((wr (2 * v5)) + 0)) fun μ6 =>
      if x7 < v2 then x_M_readsWides_1 x0 x1 x2 x3 x4 x5 x6 v2 (wr (x8 + 1)) μ6 else
      x_M_readsWides_1 x0 x1 x2 x3 x4 x5 x6 x7 (wr (x8 + 1)) μ6
    else
    bz_dv (wr (150 * (wr (x6 - x7)))) x6 fun v7 =>
    bz_pI μ x0 10 21 v7 fun μ8 =>
    bz_fI μ8 x0 10 21 fun v9 =>
    if (100 : Int) < v9 then
      bz_pI μ8 x0 10 21 100 fun μ10 =>
      rI 1 μ10
    else
    bz_fI μ8 x0 10 21 fun v11 =>
    bz_pI μ8 x0 10 21 v11 fun μ12 =>
    rI 1 μ12 := (bX_eq _ _ _ _ _).trans rfl
set_option maxRecDepth 100000 in
theorem x_M_areEven_eq (a0 : Nat) (a1 : Int) (a2 : Int) (μ : bz_M) : x_M_areEven a0 a1 a2 μ =
    x_M_areEven_0 a0 a1 a2 0 a1 μ := (bX_eq _ _ _ _ _).trans rfl
set_option maxRecDepth 100000 in
theorem x_M_areEven_0_eq (x0 : Nat) (x1 : Int) (x2 : Int) (x3 : Int) (x4 : Int) (μ : bz_M) : x_M_areEven_0 x0 x1 x2 x3 x4 μ =
    if x4 < wr (x1 + x2) then
      bz_fR μ x0 10 15 fun v1 =>
      bz_rI μ v1 x4 fun v2 =>
      if x3 < v2 then
        bz_fR μ x0 10 15 fun v3 =>
        bz_rI μ v3 x4 fun v4 =>
        x_M_areEven_0 x0 x1 x2 v4 (wr (x4 + 1)) μ
      else
      x_M_areEven_0 x0 x1 x2 x3 (wr (x4 + 1)) μ
    else
    bz_ci (d_M_leastOf x0 x1 x2 μ) fun v6 μ5 =>
    if wr (2 * v6) < x3 then rI 0 μ5 else
    rI 1 μ5 := (bX_eq _ _ _ _ _).trans rfl
set_option maxRecDepth 100000 in
theorem x_M_leastOf_eq (a0 : Nat) (a1 : Int) (a2 : Int) (μ : bz_M) : x_M_leastOf a0 a1 a2 μ =
    bz_fR μ a0 10 15 fun v1 =>
    bz_rI μ v1 a1 fun v2 =>
    x_M_leastOf_0 a0 a1 a2 v2 a1 μ := (bX_eq _ _ _ _ _).trans rfl
set_option maxRecDepth 100000 in
theorem x_M_leastOf_0_eq (x0 : Nat) (x1 : Int) (x2 : Int) (x3 : Int) (x4 : Int) (μ : bz_M) : x_M_leastOf_0 x0 x1 x2 x3 x4 μ =
    if x4 < wr (x1 + x2) then
      bz_fR μ x0 10 15 fun v1 =>
      bz_rI μ v1 x4 fun v2 =>
      if v2 < x3 then
        bz_fR μ x0 10 15 fun v3 =>
        bz_rI μ v3 x4 fun v4 =>
        x_M_leastOf_0 x0 x1 x2 v4 (wr (x4 + 1)) μ
      else
      x_M_leastOf_0 x0 x1 x2 x3 (wr (x4 + 1)) μ
    else
    rI x3 μ := (bX_eq _ _ _ _ _).trans rfl
set_option maxRecDepth 100000 in
theorem x_M_isWholeEan_eq (a0 : Nat) (a1 : Int) (μ : bz_M) : x_M_isWholeEan a0 a1 μ =
    bz_ci (d_M_exists a0 a1 44 μ) fun v2 μ1 =>
    if v2 = 0 then rI 0 μ1 else
    bz_ci (d_M_readsDigits a0 (wr (a1 + 3)) μ1) fun v4 μ3 =>
    if v4 = 0 then rI 0 μ3 else
    bz_ci (d_M_areEven a0 (wr (a1 + 19)) 5 μ3) fun v6 μ5 =>
    if v6 = 0 then rI 0 μ5 else
    bz_ci (d_M_readsDigits a0 (wr (a1 + 24)) μ5) fun v8 μ7 =>
    if v8 = 0 then rI 0 μ7 else
    bz_ci (d_M_isEnd a0 0 (wr (a1 + 42)) μ7) fun v10 μ9 =>
    if v10 = 0 then rI 0 μ9 else
    rI 1 μ9 := (bX_eq _ _ _ _ _).trans rfl
set_option maxRecDepth 100000 in
theorem x_M_readsDigits_eq (a0 : Nat) (a1 : Int) (μ : bz_M) : x_M_readsDigits a0 a1 μ =
    x_M_readsDigits_0 a0 a1 0 μ := (bX_eq _ _ _ _ _).trans rfl
set_option maxRecDepth 100000 in
theorem x_M_readsDigits_0_eq (x0 : Nat) (x1 : Int) (x2 : Int) (μ : bz_M) : x_M_readsDigits_0 x0 x1 x2 μ =
    if x2 < 4 then
      bz_ci (d_M_readsDigit x0 (wr (x1 + (wr (4 * x2)))) μ) fun v2 μ1 =>
      if v2 = 0 then rI 0 μ1 else
      x_M_readsDigits_0 x0 x1 (wr (x2 + 1)) μ1
    else
    rI 1 μ := (bX_eq _ _ _ _ _).trans rfl
set_option maxRecDepth 100000 in
theorem x_M_readsDigit_eq (a0 : Nat) (a1 : Int) (μ : bz_M) : x_M_readsDigit a0 a1 μ =
    bz_ci (d_M_exists a0 a1 4 μ) fun v2 μ1 =>
    if v2 = 0 then rI 0 μ1 else
    bz_fR μ1 a0 10 15 fun v3 =>
    bz_rI μ1 v3 a1 fun v4 =>
    bz_fR μ1 a0 10 15 fun v5 =>
    bz_rI μ1 v5 (wr (a1 + 1)) fun v6 =>
    bz_fR μ1 a0 10 15 fun v7 =>
    bz_rI μ1 v7 (wr (a1 + 2)) fun v8 =>
    bz_fR μ1 a0 10 15 fun v9 =>
    bz_rI μ1 v9 (wr (a1 + 3)) fun v10 =>
    bz_fR μ1 a0 10 15 fun v11 =>
    bz_rI μ1 v11 a1 fun v12 =>
    bz_fR μ1 a0 10 15 fun v13 =>
    bz_rI μ1 v13 (wr (a1 + 1)) fun v14 =>
    bz_fR μ1 a0 10 15 fun v15 =>
    bz_rI μ1 v15 (wr (a1 + 1)) fun v16 =>
    bz_fR μ1 a0 10 15 fun v17 =>
    bz_rI μ1 v17 (wr (a1 + 2)) fun v18 =>
    bz_ci (x_M_rounded (wr (7 * (wr (v12 + v14)))) (wr ((wr ((wr (v4 + v6)) + v8)) + v10)) μ1) fun v20 μ19 =>
    bz_ci (x_M_rounded (wr (7 * (wr (v16 + v18)))) (wr ((wr ((wr (v4 + v6)) + v8)) + v10)) μ19) fun v22 μ21 =>
    bz_fR μ21 a0 10 15 fun v23 =>
    bz_rI μ21 v23 a1 fun v24 =>
    bz_fR μ21 a0 10 15 fun v25 =>
    bz_rI μ21 v25 (wr (a1 + 2)) fun v26 =>
    if wr (7 * (wr (v24 + v26))) < wr (3 * (wr ((wr ((wr (v4 + v6)) + v8)) + v10))) then
      bz_ci (x_M_digitBy v20 v22 0 μ21) fun v28 μ27 =>
      if v28 = (-1) then rI 0 μ27 else
      bz_ci (x_M_apart (wr (7 * (wr (v12 + v14)))) (wr (v20 * (wr ((wr ((wr (v4 + v6)) + v8)) + v10)))) μ27) fun v30 μ29 =>
      bz_ci (x_M_apart (wr (7 * (wr (v16 + v18)))) (wr (v22 * (wr ((wr ((wr (v4 + v6)) + v8)) + v10)))) μ29) fun v32 μ31 =>
      if v32 < v30 then
        bz_dv (wr (200 * v30)) (wr ((wr ((wr (v4 + v6)) + v8)) + v10)) fun v33 =>
        bz_cv (d_M_signsOne a0 (wr (48 + v28)) (wr (100 - v33)) μ31) fun μ34 =>
        rI 1 μ34
      else
      bz_dv (wr (200 * v32)) (wr ((wr ((wr (v4 + v6)) + v8)) + v10)) fun v35 =>
      bz_cv (d_M_signsOne a0 (wr (48 + v28)) (wr (100 - v35)) μ31) fun μ36 =>
      rI 1 μ36
    else
    bz_ci (x_M_digitBy v20 v22 1 μ21) fun v38 μ37 =>
    if v38 = (-1) then rI 0 μ37 else
    bz_ci (x_M_apart (wr (7 * (wr (v12 + v14)))) (wr (v20 * (wr ((wr ((wr (v4 + v6)) + v8)) + v10)))) μ37) fun v40 μ39 =>
    bz_ci (x_M_apart (wr (7 * (wr (v16 + v18)))) (wr (v22 * (wr ((wr ((wr (v4 + v6)) + v8)) + v10)))) μ39) fun v42 μ41 =>
    if v42 < v40 then
      bz_dv (wr (200 * v40)) (wr ((wr ((wr (v4 + v6)) + v8)) + v10)) fun v43 =>
      bz_cv (d_M_signsOne a0 (wr (48 + v38)) (wr (100 - v43)) μ41) fun μ44 =>
      rI 1 μ44
    else
    bz_dv (wr (200 * v42)) (wr ((wr ((wr (v4 + v6)) + v8)) + v10)) fun v45 =>
    bz_cv (d_M_signsOne a0 (wr (48 + v38)) (wr (100 - v45)) μ41) fun μ46 =>
    rI 1 μ46 := (bX_eq _ _ _ _ _).trans rfl
set_option maxRecDepth 100000 in
theorem x_M_rounded_eq (a0 : Int) (a1 : Int) (μ : bz_M) : x_M_rounded a0 a1 μ =
    bz_dv (wr ((wr (2 * a0)) + a1)) (wr (2 * a1)) fun v1 =>
    rI v1 μ := (bX_eq _ _ _ _ _).trans rfl
set_option maxRecDepth 100000 in
theorem x_M_digitBy_eq (a0 : Int) (a1 : Int) (a2 : Int) (μ : bz_M) : x_M_digitBy a0 a1 a2 μ =
    if wr ((wr (10 * a0)) + a1) = 22 then rI 6 μ else
    if wr ((wr (10 * a0)) + a1) = 24 then rI 4 μ else
    if wr ((wr (10 * a0)) + a1) = 33 then
      if a2 = 0 then rI 8 μ else
      rI 2 μ
    else
    if wr ((wr (10 * a0)) + a1) = 35 then rI 5 μ else
    if wr ((wr (10 * a0)) + a1) = 42 then rI 9 μ else
    if wr ((wr (10 * a0)) + a1) = 44 then
      if a2 = 0 then rI 7 μ else
      rI 1 μ
    else
    if wr ((wr (10 * a0)) + a1) = 53 then rI 0 μ else
    if wr ((wr (10 * a0)) + a1) = 55 then rI 3 μ else
    rI (-1) μ := (bX_eq _ _ _ _ _).trans rfl
set_option maxRecDepth 100000 in
theorem x_M_apart_eq (a0 : Int) (a1 : Int) (μ : bz_M) : x_M_apart a0 a1 μ =
    if a1 < a0 then rI (wr (a0 - a1)) μ else
    rI (wr (a1 - a0)) μ := (bX_eq _ _ _ _ _).trans rfl
set_option maxRecDepth 100000 in
theorem x_M_signsOne_eq (a0 : Nat) (a1 : Int) (a2 : Int) (μ : bz_M) : x_M_signsOne a0 a1 a2 μ =
    bz_fR μ a0 10 17 fun v1 =>
    bz_fI μ a0 10 19 fun v2 =>
    bz_wI μ v1 v2 a1 fun μ3 =>
    bz_fR μ3 a0 10 18 fun v4 =>
    bz_fI μ3 a0 10 19 fun v5 =>
    bz_wI μ3 v4 v5 a2 fun μ6 =>
    bz_fI μ6 a0 10 19 fun v7 =>
    bz_pI μ6 a0 10 19 (wr (v7 + 1)) fun μ8 =>
    rI 0 μ8 := (bX_eq _ _ _ _ _).trans rfl
set_option maxRecDepth 100000 in
theorem x_M_isEnd_eq (a0 : Nat) (a1 : Int) (a2 : Int) (μ : bz_M) : x_M_isEnd a0 a1 a2 μ =
    bz_ci (x_M_stopOf a1 μ) fun v2 μ1 =>
    bz_ci (d_M_exists a0 (wr ((wr (a2 - v2)) + 1)) (wr (v2 + 1)) μ1) fun v4 μ3 =>
    if v4 = 0 then rI 0 μ3 else
    if a1 = 0 then
      bz_ci (d_M_areEven a0 (wr ((wr (a2 - v2)) + 1)) 3 μ3) fun v6 μ5 =>
      if v6 = 0 then rI 0 μ5 else
      bz_fR μ5 a0 10 15 fun v7 =>
      bz_rI μ5 v7 (wr (a2 + 1)) fun v8 =>
      bz_ci (d_M_leastOf a0 (wr ((wr (a2 - v2)) + 1)) v2 μ5) fun v10 μ9 =>
      if v8 < wr (5 * v10) then rI 0 μ9 else
      rI 1 μ9
    else
    if a1 = 2 then
      bz_ci (d_M_sevenAt a0 (wr ((wr (a2 - v2)) + 1)) μ3) fun v12 μ11 =>
      if v12 < 16 then rI 0 μ11 else
      bz_fR μ11 a0 10 15 fun v13 =>
      bz_rI μ11 v13 (wr (a2 + 1)) fun v14 =>
      bz_ci (d_M_leastOf a0 (wr ((wr (a2 - v2)) + 1)) v2 μ11) fun v16 μ15 =>
      if v14 < wr (5 * v16) then rI 0 μ15 else
      rI 1 μ15
    else
    bz_fR μ3 a0 10 15 fun v17 =>
    bz_rI μ3 v17 (wr ((wr (a2 - v2)) + 1)) fun v18 =>
    bz_fR μ3 a0 10 15 fun v19 =>
    bz_rI μ3 v19 (wr ((wr ((wr (a2 - v2)) + 1)) + 1)) fun v20 =>
    if wr (2 * v18) < wr (3 * v20) then rI 0 μ3 else
    bz_fR μ3 a0 10 15 fun v21 =>
    bz_rI μ3 v21 (wr ((wr (a2 - v2)) + 1)) fun v22 =>
    bz_fR μ3 a0 10 15 fun v23 =>
    bz_rI μ3 v23 (wr ((wr ((wr (a2 - v2)) + 1)) + 2)) fun v24 =>
    if wr (2 * v22) < wr (3 * v24) then rI 0 μ3 else
    bz_fR μ3 a0 10 15 fun v25 =>
    bz_rI μ3 v25 (wr (a2 + 1)) fun v26 =>
    bz_ci (d_M_leastOf a0 (wr ((wr (a2 - v2)) + 1)) v2 μ3) fun v28 μ27 =>
    if v26 < wr (5 * v28) then rI 0 μ27 else
    rI 1 μ27 := (bX_eq _ _ _ _ _).trans rfl
set_option maxRecDepth 100000 in
theorem x_M_stopOf_eq (a0 : Int) (μ : bz_M) : x_M_stopOf a0 μ =
    if a0 = 2 then rI 7 μ else
    rI 3 μ := (bX_eq _ _ _ _ _).trans rfl
set_option maxRecDepth 100000 in
theorem x_M_isWholePairs_eq (a0 : Nat) (a1 : Int) (μ : bz_M) : x_M_isWholePairs a0 a1 μ =
    x_M_isWholePairs_0 a0 a1 0 μ := (bX_eq _ _ _ _ _).trans rfl
set_option maxRecDepth 100000 in
theorem x_M_isWholePairs_0_eq (x0 : Nat) (x1 : Int) (x2 : Int) (μ : bz_M) : x_M_isWholePairs_0 x0 x1 x2 μ =
    if x2 < 7 then
      bz_ci (d_M_readsPair x0 (wr ((wr (x1 + 4)) + (wr (10 * x2)))) μ) fun v2 μ1 =>
      if v2 = 0 then rI 0 μ1 else
      bz_ci (d_M_isEnd x0 1 (wr ((wr (x1 + 16)) + (wr (10 * x2)))) μ1) fun v4 μ3 =>
      if v4 = 0 then x_M_isWholePairs_0 x0 x1 (wr (x2 + 1)) μ3 else
      rI 1 μ3
    else
    rI 0 μ := (bX_eq _ _ _ _ _).trans rfl
set_option maxRecDepth 100000 in
theorem x_M_readsPair_eq (a0 : Nat) (a1 : Int) (μ : bz_M) : x_M_readsPair a0 a1 μ =
    bz_ci (d_M_exists a0 a1 10 μ) fun v2 μ1 =>
    if v2 = 0 then rI 0 μ1 else
    bz_ci (d_M_readsFive a0 a1 μ1) fun v4 μ3 =>
    if v4 = 0 then rI 0 μ3 else
    bz_ci (d_M_readsFive a0 (wr (a1 + 1)) μ3) fun v6 μ5 =>
    if v6 = 0 then
      bz_fI μ5 a0 10 19 fun v7 =>
      bz_pI μ5 a0 10 19 (wr (v7 - 1)) fun μ8 =>
      rI 0 μ8
    else
    rI 1 μ5 := (bX_eq _ _ _ _ _).trans rfl
set_option maxRecDepth 100000 in
theorem x_M_readsFive_eq (a0 : Nat) (a1 : Int) (μ : bz_M) : x_M_readsFive a0 a1 μ =
    bz_ci (d_M_readsWides a0 a1 5 2 μ) fun v2 μ1 =>
    if v2 = 0 then rI 0 μ1 else
    x_M_readsFive_0 a0 0 μ1 := (bX_eq _ _ _ _ _).trans rfl
set_option maxRecDepth 100000 in
theorem x_M_readsFive_0_eq (x0 : Nat) (x2 : Int) (μ : bz_M) : x_M_readsFive_0 x0 x2 μ =
    if x2 < 10 then
      bz_fR μ x0 10 6 fun v1 =>
      bz_rI μ v1 x2 fun v2 =>
      bz_fI μ x0 10 20 fun v3 =>
      if v2 = v3 then
        bz_fI μ x0 10 21 fun v4 =>
        bz_cv (d_M_signsOne x0 (wr (48 + x2)) v4 μ) fun μ5 =>
        rI 1 μ5
      else
      x_M_readsFive_0 x0 (wr (x2 + 1)) μ
    else
    rI 0 μ := (bX_eq _ _ _ _ _).trans rfl
set_option maxRecDepth 100000 in
theorem x_M_isWholeCodabar_eq (a0 : Nat) (a1 : Int) (μ : bz_M) : x_M_isWholeCodabar a0 a1 μ =
    bz_ci (d_M_readsSeven a0 a1 1 μ) fun v2 μ1 =>
    if v2 = 0 then rI 0 μ1 else
    x_M_isWholeCodabar_0 a0 (wr (a1 + 8)) μ1 := (bX_eq _ _ _ _ _).trans rfl
set_option maxRecDepth 100000 in
theorem x_M_isWholeCodabar_0_eq (x0 : Nat) (x2 : Int) (μ : bz_M) : x_M_isWholeCodabar_0 x0 x2 μ =
    bz_fI μ x0 10 19 fun v1 =>
    if v1 < 15 then
      bz_ci (d_M_readsSeven x0 x2 0 μ) fun v3 μ2 =>
      if v3 = 0 then
        bz_fI μ2 x0 10 19 fun v4 =>
        if (1 : Int) < v4 then
          bz_ci (d_M_readsSeven x0 x2 1 μ2) fun v6 μ5 =>
          if v6 = 0 then rI 0 μ5 else
          bz_ci (d_M_isEnd x0 2 (wr (x2 + 6)) μ5) fun v8 μ7 =>
          if v8 = 0 then rI 0 μ7 else
          rI 1 μ7
        else
        rI 0 μ2
      else
      x_M_isWholeCodabar_0 x0 (wr (x2 + 8)) μ2
    else
    bz_fI μ x0 10 19 fun v9 =>
    if (1 : Int) < v9 then
      bz_ci (d_M_readsSeven x0 x2 1 μ) fun v11 μ10 =>
      if v11 = 0 then rI 0 μ10 else
      bz_ci (d_M_isEnd x0 2 (wr (x2 + 6)) μ10) fun v13 μ12 =>
      if v13 = 0 then rI 0 μ12 else
      rI 1 μ12
    else
    rI 0 μ := (bX_eq _ _ _ _ _).trans rfl
set_option maxRecDepth 100000 in
theorem x_M_readsSeven_eq (a0 : Nat) (a1 : Int) (a2 : Int) (μ : bz_M) : x_M_readsSeven a0 a1 a2 μ =
    bz_ci (d_M_sevenAt a0 a1 μ) fun v2 μ1 =>
    if v2 = (-1) then rI 0 μ1 else
    if v2 < 16 then
      if a2 = 0 then
        bz_ci (d_Str_charAt 6 v2 μ1) fun v4 μ3 =>
        bz_fI μ3 a0 10 21 fun v5 =>
        bz_cv (d_M_signsOne a0 v4 v5 μ3) fun μ6 =>
        rI 1 μ6
      else
      rI 0 μ1
    else
    if a2 = 1 then
      bz_ci (d_Str_charAt 6 v2 μ1) fun v8 μ7 =>
      bz_fI μ7 a0 10 21 fun v9 =>
      bz_cv (d_M_signsOne a0 v8 v9 μ7) fun μ10 =>
      rI 1 μ10
    else
    rI 0 μ1 := (bX_eq _ _ _ _ _).trans rfl
set_option maxRecDepth 100000 in
theorem x_M_keeps_eq (a0 : Nat) (a1 : Int) (a2 : Int) (μ : bz_M) : x_M_keeps a0 a1 a2 μ =
    bz_fR μ a0 10 22 fun v1 =>
    bz_fI μ a0 10 19 fun v2 =>
    bz_wI μ v1 (wr ((wr (3 * a1)) + a2)) v2 fun μ3 =>
    x_M_keeps_0 a0 a1 a2 0 μ3 := (bX_eq _ _ _ _ _).trans rfl
set_option maxRecDepth 100000 in
theorem x_M_keeps_0_eq (x0 : Nat) (x1 : Int) (x2 : Int) (x3 : Int) (μ : bz_M) : x_M_keeps_0 x0 x1 x2 x3 μ =
    bz_fI μ x0 10 19 fun v1 =>
    if x3 < v1 then
      bz_fR μ x0 10 23 fun v2 =>
      bz_fR μ x0 10 17 fun v3 =>
      bz_rI μ v3 x3 fun v4 =>
      bz_wI μ v2 (wr ((wr (16 * (wr ((wr (3 * x1)) + x2)))) + x3)) v4 fun μ5 =>
      bz_fR μ5 x0 10 24 fun v6 =>
      bz_fR μ5 x0 10 18 fun v7 =>
      bz_rI μ5 v7 x3 fun v8 =>
      bz_wI μ5 v6 (wr ((wr (16 * (wr ((wr (3 * x1)) + x2)))) + x3)) v8 fun μ9 =>
      x_M_keeps_0 x0 x1 x2 (wr (x3 + 1)) μ9
    else
    rI 0 μ := (bX_eq _ _ _ _ _).trans rfl
set_option maxRecDepth 100000 in
theorem x_M_hasParts_eq (a0 : Nat) (a1 : Int) (a2 : Int) (μ : bz_M) : x_M_hasParts a0 a1 a2 μ =
    x_M_hasParts_0 a0 a1 a2 1 μ := (bX_eq _ _ _ _ _).trans rfl
set_option maxRecDepth 100000 in
theorem x_M_hasParts_0_eq (x0 : Nat) (x1 : Int) (x2 : Int) (x3 : Int) (μ : bz_M) : x_M_hasParts_0 x0 x1 x2 x3 μ =
    bz_fI μ x0 10 16 fun v1 =>
    if x3 < v1 then
      bz_fR μ x0 10 22 fun v2 =>
      bz_rI μ v2 (wr ((wr (3 * x1)) + 1)) fun v3 =>
      if v3 = 0 then
        bz_cv (d_M_readsHead x0 x2 x3 μ) fun μ4 =>
        bz_fI μ4 x0 10 19 fun v5 =>
        if (1 : Int) < v5 then
          bz_cv (d_M_keeps x0 x1 1 μ4) fun μ6 =>
          x_M_hasParts_0 x0 x1 x2 (wr (x3 + 2)) μ6
        else
        x_M_hasParts_0 x0 x1 x2 (wr (x3 + 2)) μ4
      else
      bz_fI μ x0 10 16 fun v7 =>
      x_M_hasParts_1 x0 x1 x2 (wr (v7 - 2)) μ
    else
    bz_fI μ x0 10 16 fun v8 =>
    x_M_hasParts_1 x0 x1 x2 (wr (v8 - 2)) μ := (bX_eq _ _ _ _ _).trans rfl
set_option maxRecDepth 100000 in
theorem x_M_hasParts_1_eq (x0 : Nat) (x1 : Int) (x2 : Int) (x3 : Int) (μ : bz_M) : x_M_hasParts_1 x0 x1 x2 x3 μ =
    if (0 : Int) < x3 then
      bz_fR μ x0 10 22 fun v1 =>
      bz_rI μ v1 (wr ((wr (3 * x1)) + 2)) fun v2 =>
      if v2 = 0 then
        bz_cv (d_M_readsTail x0 x2 x3 μ) fun μ3 =>
        bz_fI μ3 x0 10 19 fun v4 =>
        if (1 : Int) < v4 then
          bz_cv (d_M_keeps x0 x1 2 μ3) fun μ5 =>
          x_M_hasParts_1 x0 x1 x2 (wr (x3 + (-2))) μ5
        else
        x_M_hasParts_1 x0 x1 x2 (wr (x3 + (-2))) μ3
      else
      bz_fR μ x0 10 22 fun v6 =>
      bz_rI μ v6 (wr ((wr (3 * x1)) + 1)) fun v7 =>
      if (0 : Int) < v7 then rI 1 μ else
      bz_fR μ x0 10 22 fun v8 =>
      bz_rI μ v8 (wr ((wr (3 * x1)) + 2)) fun v9 =>
      if (0 : Int) < v9 then rI 1 μ else
      rI 0 μ
    else
    bz_fR μ x0 10 22 fun v10 =>
    bz_rI μ v10 (wr ((wr (3 * x1)) + 1)) fun v11 =>
    if (0 : Int) < v11 then rI 1 μ else
    bz_fR μ x0 10 22 fun v12 =>
    bz_rI μ v12 (wr ((wr (3 * x1)) + 2)) fun v13 =>
    if (0 : Int) < v13 then rI 1 μ else
    rI 0 μ := (bX_eq _ _ _ _ _).trans rfl
set_option maxRecDepth 100000 in
theorem x_M_readsHead_eq (a0 : Nat) (a1 : Int) (a2 : Int) (μ : bz_M) : x_M_readsHead a0 a1 a2 μ =
    bz_pI μ a0 10 19 0 fun μ1 =>
    bz_ci (d_M_isBeginning a0 a1 a2 μ1) fun v3 μ2 =>
    if v3 = 0 then rI 0 μ2 else
    if a1 = 0 then x_M_readsHead_0 a0 a2 0 μ2 else
    if a1 = 1 then x_M_readsHead_1 a0 a2 0 μ2 else
    bz_ci (d_M_readsSeven a0 a2 1 μ2) fun v5 μ4 =>
    if v5 = 0 then rI 0 μ4 else
    x_M_readsHead_2 a0 a2 0 μ4 := (bX_eq _ _ _ _ _).trans rfl
set_option maxRecDepth 100000 in
theorem x_M_readsHead_0_eq (x0 : Nat) (x2 : Int) (x3 : Int) (μ : bz_M) : x_M_readsHead_0 x0 x2 x3 μ =
    if x3 < 4 then
      bz_ci (d_M_readsDigit x0 (wr ((wr (x2 + 3)) + (wr (4 * x3)))) μ) fun v2 μ1 =>
      if v2 = 0 then rI 0 μ1 else
      x_M_readsHead_0 x0 x2 (wr (x3 + 1)) μ1
    else
    rI 0 μ := (bX_eq _ _ _ _ _).trans rfl
set_option maxRecDepth 100000 in
theorem x_M_readsHead_1_eq (x0 : Nat) (x2 : Int) (x3 : Int) (μ : bz_M) : x_M_readsHead_1 x0 x2 x3 μ =
    if x3 < 7 then
      bz_ci (d_M_readsPair x0 (wr ((wr (x2 + 4)) + (wr (10 * x3)))) μ) fun v2 μ1 =>
      if v2 = 0 then rI 0 μ1 else
      x_M_readsHead_1 x0 x2 (wr (x3 + 1)) μ1
    else
    rI 0 μ := (bX_eq _ _ _ _ _).trans rfl
set_option maxRecDepth 100000 in
theorem x_M_readsHead_2_eq (x0 : Nat) (x2 : Int) (x3 : Int) (μ : bz_M) : x_M_readsHead_2 x0 x2 x3 μ =
    if x3 < 14 then
      bz_ci (d_M_readsSeven x0 (wr ((wr (x2 + 8)) + (wr (8 * x3)))) 0 μ) fun v2 μ1 =>
      if v2 = 0 then rI 0 μ1 else
      x_M_readsHead_2 x0 x2 (wr (x3 + 1)) μ1
    else
    rI 0 μ := (bX_eq _ _ _ _ _).trans rfl
set_option maxRecDepth 100000 in
theorem x_M_readsTail_eq (a0 : Nat) (a1 : Int) (a2 : Int) (μ : bz_M) : x_M_readsTail a0 a1 a2 μ =
    bz_pI μ a0 10 19 0 fun μ1 =>
    bz_ci (d_M_isEnd a0 a1 a2 μ1) fun v3 μ2 =>
    if v3 = 0 then rI 0 μ2 else
    bz_ci (d_M_partsTo a0 a1 a2 μ2) fun v5 μ4 =>
    bz_pI μ4 a0 10 19 0 fun μ6 =>
    x_M_readsTail_0 a0 a1 a2 (wr (v5 - 1)) μ6 := (bX_eq _ _ _ _ _).trans rfl
set_option maxRecDepth 100000 in
theorem x_M_readsTail_0_eq (x0 : Nat) (x1 : Int) (x2 : Int) (x4 : Int) (μ : bz_M) : x_M_readsTail_0 x0 x1 x2 x4 μ =
    if x4 < 0 then
      if x1 = 2 then
        bz_ci (d_M_readsSeven x0 (wr (x2 - 6)) 1 μ) fun v2 μ1 =>
        rI 0 μ1
      else
      rI 0 μ
    else
    if x1 = 0 then
      bz_ci (d_M_readsDigit x0 (wr ((wr (x2 - 6)) - (wr (4 * x4)))) μ) fun v4 μ3 =>
      x_M_readsTail_0 x0 x1 x2 (wr (x4 + (-1))) μ3
    else
    if x1 = 1 then
      bz_ci (d_M_readsPair x0 (wr ((wr (x2 - 12)) - (wr (10 * x4)))) μ) fun v6 μ5 =>
      x_M_readsTail_0 x0 x1 x2 (wr (x4 + (-1))) μ5
    else
    bz_ci (d_M_readsSeven x0 (wr ((wr (x2 - 14)) - (wr (8 * x4)))) 0 μ) fun v8 μ7 =>
    x_M_readsTail_0 x0 x1 x2 (wr (x4 + (-1))) μ7 := (bX_eq _ _ _ _ _).trans rfl
set_option maxRecDepth 100000 in
theorem x_M_partsTo_eq (a0 : Nat) (a1 : Int) (a2 : Int) (μ : bz_M) : x_M_partsTo a0 a1 a2 μ =
    x_M_partsTo_0 a0 a1 a2 0 1 μ := (bX_eq _ _ _ _ _).trans rfl
set_option maxRecDepth 100000 in
theorem x_M_partsTo_0_eq (x0 : Nat) (x1 : Int) (x2 : Int) (x3 : Int) (x4 : Int) (μ : bz_M) : x_M_partsTo_0 x0 x1 x2 x3 x4 μ =
    if x4 = 0 then rI x3 μ else
    bz_pI μ x0 10 19 0 fun μ1 =>
    if x1 = 0 then
      if x3 < 4 then
        bz_ci (d_M_readsDigit x0 (wr ((wr (x2 - 6)) - (wr (4 * x3)))) μ1) fun v3 μ2 =>
        if v3 = 0 then x_M_partsTo_0 x0 x1 x2 (wr (x3 + 0)) 0 μ2 else
        x_M_partsTo_0 x0 x1 x2 (wr (x3 + 1)) 1 μ2
      else
      x_M_partsTo_0 x0 x1 x2 (wr (x3 + 0)) 0 μ1
    else
    if x1 = 1 then
      if x3 < 7 then
        bz_ci (d_M_readsPair x0 (wr ((wr (x2 - 12)) - (wr (10 * x3)))) μ1) fun v5 μ4 =>
        if v5 = 0 then x_M_partsTo_0 x0 x1 x2 (wr (x3 + 0)) 0 μ4 else
        x_M_partsTo_0 x0 x1 x2 (wr (x3 + 1)) 1 μ4
      else
      x_M_partsTo_0 x0 x1 x2 (wr (x3 + 0)) 0 μ1
    else
    if x3 < 14 then
      bz_ci (d_M_readsSeven x0 (wr ((wr (x2 - 14)) - (wr (8 * x3)))) 0 μ1) fun v7 μ6 =>
      if v7 = 0 then x_M_partsTo_0 x0 x1 x2 (wr (x3 + 0)) 0 μ6 else
      x_M_partsTo_0 x0 x1 x2 (wr (x3 + 1)) 1 μ6
    else
    x_M_partsTo_0 x0 x1 x2 (wr (x3 + 0)) 0 μ1 := (bX_eq _ _ _ _ _).trans rfl
set_option maxRecDepth 100000 in
theorem x_M_manyOf_eq (a0 : Nat) (a1 : Int) (a2 : Int) (μ : bz_M) : x_M_manyOf a0 a1 a2 μ =
    bz_fR μ a0 10 22 fun v1 =>
    bz_rI μ v1 (wr ((wr (3 * a1)) + a2)) fun v2 =>
    rI v2 μ := (bX_eq _ _ _ _ _).trans rfl
set_option maxRecDepth 100000 in
theorem x_M_readPart_eq (a0 : Nat) (a1 : Int) (a2 : Int) (a3 : Int) (μ : bz_M) : x_M_readPart a0 a1 a2 a3 μ =
    bz_ci (d_M_reads a0 a1 a2 μ) fun v2 μ1 =>
    if v2 = 0 then rI 0 μ1 else
    if a3 = 0 then
      bz_ci (d_M_manyOf a0 a1 1 μ1) fun v4 μ3 =>
      rI v4 μ3
    else
    bz_ci (d_M_manyOf a0 a1 2 μ1) fun v6 μ5 =>
    rI v6 μ5 := (bX_eq _ _ _ _ _).trans rfl
set_option maxRecDepth 100000 in
theorem x_M_character_eq (a0 : Nat) (a1 : Int) (a2 : Int) (a3 : Int) (μ : bz_M) : x_M_character a0 a1 a2 a3 μ =
    bz_ci (d_M_has a0 a1 a2 0 a3 μ) fun v2 μ1 =>
    if v2 = 0 then rI 0 μ1 else
    bz_ci (d_M_signOf a0 a1 0 a3 μ1) fun v4 μ3 =>
    rI v4 μ3 := (bX_eq _ _ _ _ _).trans rfl
set_option maxRecDepth 100000 in
theorem x_M_has_eq (a0 : Nat) (a1 : Int) (a2 : Int) (a3 : Int) (a4 : Int) (μ : bz_M) : x_M_has a0 a1 a2 a3 a4 μ =
    bz_ci (d_M_reads a0 a1 a2 μ) fun v2 μ1 =>
    if v2 = 0 then
      bz_fI μ1 a0 10 11 fun v3 =>
      if v3 = 0 then rI 1 μ1 else
      rI 0 μ1
    else
    bz_ci (d_M_manyOf a0 a1 a3 μ1) fun v5 μ4 =>
    bz_ci (x_M_isIn a4 0 (wr (v5 - 1)) μ4) fun v7 μ6 =>
    if v7 = 0 then
      bz_pI μ6 a0 10 11 1 fun μ8 =>
      bz_fI μ8 a0 10 11 fun v9 =>
      if v9 = 0 then rI 1 μ8 else
      rI 0 μ8
    else
    bz_fI μ6 a0 10 11 fun v10 =>
    if v10 = 0 then rI 1 μ6 else
    rI 0 μ6 := (bX_eq _ _ _ _ _).trans rfl
set_option maxRecDepth 100000 in
theorem x_M_signOf_eq (a0 : Nat) (a1 : Int) (a2 : Int) (a3 : Int) (μ : bz_M) : x_M_signOf a0 a1 a2 a3 μ =
    bz_fR μ a0 10 23 fun v1 =>
    bz_rI μ v1 (wr ((wr (16 * (wr ((wr (3 * a1)) + a2)))) + a3)) fun v2 =>
    rI v2 μ := (bX_eq _ _ _ _ _).trans rfl
set_option maxRecDepth 100000 in
theorem x_M_confidence_eq (a0 : Nat) (a1 : Int) (a2 : Int) (a3 : Int) (μ : bz_M) : x_M_confidence a0 a1 a2 a3 μ =
    bz_ci (d_M_has a0 a1 a2 0 a3 μ) fun v2 μ1 =>
    if v2 = 0 then rI 0 μ1 else
    bz_ci (d_M_weightOf a0 a1 0 a3 μ1) fun v4 μ3 =>
    rI (wr (v4 - 1)) μ3 := (bX_eq _ _ _ _ _).trans rfl
set_option maxRecDepth 100000 in
theorem x_M_weightOf_eq (a0 : Nat) (a1 : Int) (a2 : Int) (a3 : Int) (μ : bz_M) : x_M_weightOf a0 a1 a2 a3 μ =
    bz_fR μ a0 10 24 fun v1 =>
    bz_rI μ v1 (wr ((wr (16 * (wr ((wr (3 * a1)) + a2)))) + a3)) fun v2 =>
    rI (wr (1 + v2)) μ := (bX_eq _ _ _ _ _).trans rfl
set_option maxRecDepth 100000 in
theorem x_M_partCharacter_eq (a0 : Nat) (a1 : Int) (a2 : Int) (a3 : Int) (a4 : Int) (μ : bz_M) : x_M_partCharacter a0 a1 a2 a3 a4 μ =
    if a3 = 0 then
      bz_ci (d_M_has a0 a1 a2 1 a4 μ) fun v2 μ1 =>
      if v2 = 0 then rI 0 μ1 else
      bz_ci (d_M_signOf a0 a1 1 a4 μ1) fun v4 μ3 =>
      rI v4 μ3
    else
    bz_ci (d_M_has a0 a1 a2 2 a4 μ) fun v6 μ5 =>
    if v6 = 0 then rI 0 μ5 else
    bz_ci (d_M_signOf a0 a1 2 a4 μ5) fun v8 μ7 =>
    rI v8 μ7 := (bX_eq _ _ _ _ _).trans rfl
set_option maxRecDepth 100000 in
theorem x_M_isReversed_eq (a0 : Nat) (a1 : Int) (a2 : Int) (μ : bz_M) : x_M_isReversed a0 a1 a2 μ =
    bz_ci (d_M_reads a0 a1 a2 μ) fun v2 μ1 =>
    if v2 = 0 then rI 0 μ1 else
    bz_fR μ1 a0 10 25 fun v3 =>
    bz_rB μ1 v3 a1 fun v4 =>
    if v4 = 0 then rI 0 μ1 else
    rI 1 μ1 := (bX_eq _ _ _ _ _).trans rfl
set_option maxRecDepth 100000 in
theorem x_M_module_eq (a0 : Nat) (a1 : Int) (a2 : Int) (μ : bz_M) : x_M_module a0 a1 a2 μ =
    bz_ci (d_M_measures a0 a1 a2 μ) fun v2 μ1 =>
    if v2 = 0 then rI 0 μ1 else
    bz_fL μ1 a0 10 27 fun v3 =>
    bz_fL μ1 a0 10 28 fun v4 =>
    bz_ld (wl (100 * v3)) v4 fun v5 =>
    rI (wr v5) μ1 := (bX_eq _ _ _ _ _).trans rfl
set_option maxRecDepth 100000 in
theorem x_M_measures_eq (a0 : Nat) (a1 : Int) (a2 : Int) (μ : bz_M) : x_M_measures a0 a1 a2 μ =
    bz_ci (d_M_reads a0 a1 a2 μ) fun v2 μ1 =>
    if v2 = 0 then rI 0 μ1 else
    bz_ci (d_M_manyOf a0 a1 0 μ1) fun v4 μ3 =>
    if v4 = 0 then
      bz_pI μ3 a0 10 11 2 fun μ5 =>
      bz_fI μ5 a0 10 11 fun v6 =>
      if (0 : Int) < v6 then rI 0 μ5 else
      x_M_measures_0 a0 a1 a2 v4 0 μ5
    else
    bz_pI μ3 a0 10 11 0 fun μ7 =>
    bz_fI μ7 a0 10 11 fun v8 =>
    if (0 : Int) < v8 then rI 0 μ7 else
    x_M_measures_0 a0 a1 a2 v4 0 μ7 := (bX_eq _ _ _ _ _).trans rfl
set_option maxRecDepth 100000 in
theorem x_M_measures_0_eq (x0 : Nat) (x1 : Int) (x2 : Int) (x3 : Int) (x4 : Int) (μ : bz_M) : x_M_measures_0 x0 x1 x2 x3 x4 μ =
    if x4 < x3 then
      bz_fR μ x0 10 12 fun v1 =>
      bz_ci (d_M_signOf x0 x1 0 x4 μ) fun v3 μ2 =>
      bz_wI μ2 v1 x4 v3 fun μ4 =>
      x_M_measures_0 x0 x1 x2 x3 (wr (x4 + 1)) μ4
    else
    bz_cv (d_M_laysModules x0 x2 x3 μ) fun μ5 =>
    bz_fR μ5 x0 10 25 fun v6 =>
    bz_rB μ5 v6 x1 fun v7 =>
    bz_cv (d_M_laysRow x0 x1 v7 μ5) fun μ8 =>
    bz_pL μ8 x0 10 27 0 fun μ9 =>
    bz_pL μ9 x0 10 28 0 fun μ10 =>
    bz_pL μ10 x0 10 29 0 fun μ11 =>
    bz_pL μ11 x0 10 30 0 fun μ12 =>
    x_M_measures_1 x0 x1 0 μ12 := (bX_eq _ _ _ _ _).trans rfl
set_option maxRecDepth 100000 in
theorem x_M_measures_1_eq (x0 : Nat) (x1 : Int) (x4 : Int) (μ : bz_M) : x_M_measures_1 x0 x1 x4 μ =
    bz_fI μ x0 10 14 fun v1 =>
    if x4 < v1 then
      bz_fR μ x0 10 15 fun v2 =>
      bz_fR μ x0 10 26 fun v3 =>
      bz_rI μ v3 x1 fun v4 =>
      bz_rI μ v2 (wr (v4 + x4)) fun v5 =>
      bz_fL μ x0 10 27 fun v6 =>
      bz_pL μ x0 10 27 (wl (v6 + v5)) fun μ7 =>
      bz_fL μ7 x0 10 28 fun v8 =>
      bz_fR μ7 x0 10 13 fun v9 =>
      bz_rI μ7 v9 x4 fun v10 =>
      bz_pL μ7 x0 10 28 (wl (v8 + v10)) fun μ11 =>
      bz_fL μ11 x0 10 29 fun v12 =>
      if Int.tmod x4 2 = 0 then
        bz_pL μ11 x0 10 29 (wl (v12 + v5)) fun μ13 =>
        bz_fL μ13 x0 10 30 fun v14 =>
        if Int.tmod x4 2 = 0 then
          bz_fR μ13 x0 10 13 fun v15 =>
          bz_rI μ13 v15 x4 fun v16 =>
          bz_pL μ13 x0 10 30 (wl (v14 + v16)) fun μ17 =>
          x_M_measures_1 x0 x1 (wr (x4 + 1)) μ17
        else
        bz_pL μ13 x0 10 30 (wl (v14 + 0)) fun μ18 =>
        x_M_measures_1 x0 x1 (wr (x4 + 1)) μ18
      else
      bz_pL μ11 x0 10 29 (wl (v12 + 0)) fun μ19 =>
      bz_fL μ19 x0 10 30 fun v20 =>
      if Int.tmod x4 2 = 0 then
        bz_fR μ19 x0 10 13 fun v21 =>
        bz_rI μ19 v21 x4 fun v22 =>
        bz_pL μ19 x0 10 30 (wl (v20 + v22)) fun μ23 =>
        x_M_measures_1 x0 x1 (wr (x4 + 1)) μ23
      else
      bz_pL μ19 x0 10 30 (wl (v20 + 0)) fun μ24 =>
      x_M_measures_1 x0 x1 (wr (x4 + 1)) μ24
    else
    rI 1 μ := (bX_eq _ _ _ _ _).trans rfl
set_option maxRecDepth 100000 in
theorem x_M_spread_eq (a0 : Nat) (a1 : Int) (a2 : Int) (μ : bz_M) : x_M_spread a0 a1 a2 μ =
    bz_ci (d_M_measures a0 a1 a2 μ) fun v2 μ1 =>
    if v2 = 0 then rI 0 μ1 else
    bz_fL μ1 a0 10 29 fun v3 =>
    bz_fL μ1 a0 10 28 fun v4 =>
    bz_fL μ1 a0 10 27 fun v5 =>
    bz_fL μ1 a0 10 30 fun v6 =>
    bz_fI μ1 a0 10 14 fun v7 =>
    bz_fL μ1 a0 10 28 fun v8 =>
    bz_ld (wl (100 * (wl ((wl (v3 * v4)) - (wl (v5 * v6)))))) (wl ((wr (Int.tdiv (wr (v7 + 1)) 2)) * v8)) fun v9 =>
    if (0 : Int) < bz_cmp (wl (v9 * (wl ((wr (Int.tdiv (wr (v7 + 1)) 2)) * v8)))) (wl (100 * (wl ((wl (v3 * v4)) - (wl (v5 * v6)))))) then rI (wr (wl (v9 - 1))) μ1 else
    rI (wr v9) μ1 := (bX_eq _ _ _ _ _).trans rfl
set_option maxRecDepth 100000 in
theorem x_M_agreement_eq (a0 : Nat) (a1 : Int) (a2 : Int) (a3 : Int) (μ : bz_M) : x_M_agreement a0 a1 a2 a3 μ =
    bz_ci (d_M_isScan a0 a1 μ) fun v2 μ1 =>
    if v2 = 0 then
      bz_pI μ1 a0 10 11 1 fun μ3 =>
      bz_fI μ3 a0 10 11 fun v4 =>
      if (0 : Int) < v4 then rI 0 μ3 else
      bz_cv (d_M_readsAll a0 a3 μ3) fun μ5 =>
      bz_ci (d_M_manyOf a0 a1 0 μ5) fun v7 μ6 =>
      if v7 = 0 then rI (-1) μ6 else
      bz_ci (d_M_manyOf a0 a2 0 μ6) fun v9 μ8 =>
      if v9 = v7 then x_M_agreement_0 a0 a1 a2 v7 0 0 μ8 else
      rI (-1) μ8
    else
    bz_ci (d_M_isScan a0 a2 μ1) fun v11 μ10 =>
    if v11 = 0 then
      bz_pI μ10 a0 10 11 1 fun μ12 =>
      bz_fI μ12 a0 10 11 fun v13 =>
      if (0 : Int) < v13 then rI 0 μ12 else
      bz_cv (d_M_readsAll a0 a3 μ12) fun μ14 =>
      bz_ci (d_M_manyOf a0 a1 0 μ14) fun v16 μ15 =>
      if v16 = 0 then rI (-1) μ15 else
      bz_ci (d_M_manyOf a0 a2 0 μ15) fun v18 μ17 =>
      if v18 = v16 then x_M_agreement_0 a0 a1 a2 v16 0 0 μ17 else
      rI (-1) μ17
    else
    bz_ci (x_M_isSymbology a3 μ10) fun v20 μ19 =>
    if v20 = 0 then
      bz_pI μ19 a0 10 11 1 fun μ21 =>
      bz_fI μ21 a0 10 11 fun v22 =>
      if (0 : Int) < v22 then rI 0 μ21 else
      bz_cv (d_M_readsAll a0 a3 μ21) fun μ23 =>
      bz_ci (d_M_manyOf a0 a1 0 μ23) fun v25 μ24 =>
      if v25 = 0 then rI (-1) μ24 else
      bz_ci (d_M_manyOf a0 a2 0 μ24) fun v27 μ26 =>
      if v27 = v25 then x_M_agreement_0 a0 a1 a2 v25 0 0 μ26 else
      rI (-1) μ26
    else
    bz_pI μ19 a0 10 11 0 fun μ28 =>
    bz_fI μ28 a0 10 11 fun v29 =>
    if (0 : Int) < v29 then rI 0 μ28 else
    bz_cv (d_M_readsAll a0 a3 μ28) fun μ30 =>
    bz_ci (d_M_manyOf a0 a1 0 μ30) fun v32 μ31 =>
    if v32 = 0 then rI (-1) μ31 else
    bz_ci (d_M_manyOf a0 a2 0 μ31) fun v34 μ33 =>
    if v34 = v32 then x_M_agreement_0 a0 a1 a2 v32 0 0 μ33 else
    rI (-1) μ33 := (bX_eq _ _ _ _ _).trans rfl
set_option maxRecDepth 100000 in
theorem x_M_agreement_0_eq (x0 : Nat) (x1 : Int) (x2 : Int) (x4 : Int) (x5 : Int) (x6 : Int) (μ : bz_M) : x_M_agreement_0 x0 x1 x2 x4 x5 x6 μ =
    if x6 < x4 then
      bz_ci (d_M_signOf x0 x1 0 x6 μ) fun v2 μ1 =>
      bz_ci (d_M_signOf x0 x2 0 x6 μ1) fun v4 μ3 =>
      if v2 = v4 then x_M_agreement_0 x0 x1 x2 x4 (wr (x5 + 1)) (wr (x6 + 1)) μ3 else
      x_M_agreement_0 x0 x1 x2 x4 (wr (x5 + 0)) (wr (x6 + 1)) μ3
    else
    rI x5 μ := (bX_eq _ _ _ _ _).trans rfl
set_option maxRecDepth 100000 in
theorem x_M_readsAll_eq (a0 : Nat) (a1 : Int) (μ : bz_M) : x_M_readsAll a0 a1 μ =
    x_M_readsAll_0 a0 a1 0 μ := (bX_eq _ _ _ _ _).trans rfl
set_option maxRecDepth 100000 in
theorem x_M_readsAll_0_eq (x0 : Nat) (x1 : Int) (x2 : Int) (μ : bz_M) : x_M_readsAll_0 x0 x1 x2 μ =
    bz_fI μ x0 10 8 fun v1 =>
    if x2 < v1 then
      bz_cv (d_M_readsScan x0 x2 x1 μ) fun μ2 =>
      x_M_readsAll_0 x0 x1 (wr (x2 + 1)) μ2
    else
    rI 0 μ := (bX_eq _ _ _ _ _).trans rfl
set_option maxRecDepth 100000 in
theorem x_M_overlap_eq (a0 : Nat) (a1 : Int) (a2 : Int) (a3 : Int) (μ : bz_M) : x_M_overlap a0 a1 a2 a3 μ =
    bz_ci (d_M_isScan a0 a1 μ) fun v2 μ1 =>
    if v2 = 0 then
      bz_pI μ1 a0 10 11 1 fun μ3 =>
      bz_fI μ3 a0 10 11 fun v4 =>
      if (0 : Int) < v4 then rI 0 μ3 else
      bz_cv (d_M_readsAll a0 a3 μ3) fun μ5 =>
      bz_ci (d_M_mostOverlap a0 a1 a2 μ5) fun v7 μ6 =>
      if v7 = 0 then rI (-1) μ6 else
      x_M_overlap_0 a0 a1 a2 v7 μ6
    else
    bz_ci (d_M_isScan a0 a2 μ1) fun v9 μ8 =>
    if v9 = 0 then
      bz_pI μ8 a0 10 11 1 fun μ10 =>
      bz_fI μ10 a0 10 11 fun v11 =>
      if (0 : Int) < v11 then rI 0 μ10 else
      bz_cv (d_M_readsAll a0 a3 μ10) fun μ12 =>
      bz_ci (d_M_mostOverlap a0 a1 a2 μ12) fun v14 μ13 =>
      if v14 = 0 then rI (-1) μ13 else
      x_M_overlap_0 a0 a1 a2 v14 μ13
    else
    bz_ci (x_M_isSymbology a3 μ8) fun v16 μ15 =>
    if v16 = 0 then
      bz_pI μ15 a0 10 11 1 fun μ17 =>
      bz_fI μ17 a0 10 11 fun v18 =>
      if (0 : Int) < v18 then rI 0 μ17 else
      bz_cv (d_M_readsAll a0 a3 μ17) fun μ19 =>
      bz_ci (d_M_mostOverlap a0 a1 a2 μ19) fun v21 μ20 =>
      if v21 = 0 then rI (-1) μ20 else
      x_M_overlap_0 a0 a1 a2 v21 μ20
    else
    bz_pI μ15 a0 10 11 0 fun μ22 =>
    bz_fI μ22 a0 10 11 fun v23 =>
    if (0 : Int) < v23 then rI 0 μ22 else
    bz_cv (d_M_readsAll a0 a3 μ22) fun μ24 =>
    bz_ci (d_M_mostOverlap a0 a1 a2 μ24) fun v26 μ25 =>
    if v26 = 0 then rI (-1) μ25 else
    x_M_overlap_0 a0 a1 a2 v26 μ25 := (bX_eq _ _ _ _ _).trans rfl
set_option maxRecDepth 100000 in
theorem x_M_overlap_0_eq (x0 : Nat) (x1 : Int) (x2 : Int) (x4 : Int) (μ : bz_M) : x_M_overlap_0 x0 x1 x2 x4 μ =
    bz_ci (d_M_overlaps x0 x1 x2 x4 μ) fun v2 μ1 =>
    if v2 = 0 then x_M_overlap_0 x0 x1 x2 (wr (x4 + (-1))) μ1 else
    rI x4 μ1 := (bX_eq _ _ _ _ _).trans rfl
set_option maxRecDepth 100000 in
theorem x_M_mostOverlap_eq (a0 : Nat) (a1 : Int) (a2 : Int) (μ : bz_M) : x_M_mostOverlap a0 a1 a2 μ =
    bz_ci (d_M_manyOf a0 a1 1 μ) fun v2 μ1 =>
    bz_ci (d_M_manyOf a0 a2 2 μ1) fun v4 μ3 =>
    if v2 < v4 then rI v2 μ3 else
    rI v4 μ3 := (bX_eq _ _ _ _ _).trans rfl
set_option maxRecDepth 100000 in
theorem x_M_overlaps_eq (a0 : Nat) (a1 : Int) (a2 : Int) (a3 : Int) (μ : bz_M) : x_M_overlaps a0 a1 a2 a3 μ =
    bz_ci (d_M_manyOf a0 a1 1 μ) fun v2 μ1 =>
    x_M_overlaps_0 a0 a1 a2 a3 (wr (v2 - a3)) 0 μ1 := (bX_eq _ _ _ _ _).trans rfl
set_option maxRecDepth 100000 in
theorem x_M_overlaps_0_eq (x0 : Nat) (x1 : Int) (x2 : Int) (x3 : Int) (x4 : Int) (x5 : Int) (μ : bz_M) : x_M_overlaps_0 x0 x1 x2 x3 x4 x5 μ =
    if x5 < x3 then
      bz_ci (d_M_signOf x0 x1 1 (wr (x4 + x5)) μ) fun v2 μ1 =>
      bz_ci (d_M_signOf x0 x2 2 x5 μ1) fun v4 μ3 =>
      if v2 = v4 then x_M_overlaps_0 x0 x1 x2 x3 x4 (wr (x5 + 1)) μ3 else
      rI 0 μ3
    else
    rI 1 μ := (bX_eq _ _ _ _ _).trans rfl
set_option maxRecDepth 100000 in
theorem x_M_mergedLength_eq (a0 : Nat) (a1 : Int) (a2 : Int) (a3 : Int) (μ : bz_M) : x_M_mergedLength a0 a1 a2 a3 μ =
    bz_ci (d_M_mergesNow a0 a1 a2 a3 μ) fun v2 μ1 =>
    rI v2 μ1 := (bX_eq _ _ _ _ _).trans rfl
set_option maxRecDepth 100000 in
theorem x_M_mergesNow_eq (a0 : Nat) (a1 : Int) (a2 : Int) (a3 : Int) (μ : bz_M) : x_M_mergesNow a0 a1 a2 a3 μ =
    bz_ci (d_M_isScan a0 a1 μ) fun v2 μ1 =>
    if v2 = 0 then
      bz_pI μ1 a0 10 11 1 fun μ3 =>
      bz_fI μ3 a0 10 11 fun v4 =>
      if (0 : Int) < v4 then rI 0 μ3 else
      bz_cv (d_M_readsAll a0 a3 μ3) fun μ5 =>
      bz_ci (d_M_merges a0 a1 a2 a3 μ5) fun v7 μ6 =>
      rI v7 μ6
    else
    bz_ci (d_M_isScan a0 a2 μ1) fun v9 μ8 =>
    if v9 = 0 then
      bz_pI μ8 a0 10 11 1 fun μ10 =>
      bz_fI μ10 a0 10 11 fun v11 =>
      if (0 : Int) < v11 then rI 0 μ10 else
      bz_cv (d_M_readsAll a0 a3 μ10) fun μ12 =>
      bz_ci (d_M_merges a0 a1 a2 a3 μ12) fun v14 μ13 =>
      rI v14 μ13
    else
    bz_ci (x_M_isSymbology a3 μ8) fun v16 μ15 =>
    if v16 = 0 then
      bz_pI μ15 a0 10 11 1 fun μ17 =>
      bz_fI μ17 a0 10 11 fun v18 =>
      if (0 : Int) < v18 then rI 0 μ17 else
      bz_cv (d_M_readsAll a0 a3 μ17) fun μ19 =>
      bz_ci (d_M_merges a0 a1 a2 a3 μ19) fun v21 μ20 =>
      rI v21 μ20
    else
    bz_pI μ15 a0 10 11 0 fun μ22 =>
    bz_fI μ22 a0 10 11 fun v23 =>
    if (0 : Int) < v23 then rI 0 μ22 else
    bz_cv (d_M_readsAll a0 a3 μ22) fun μ24 =>
    bz_ci (d_M_merges a0 a1 a2 a3 μ24) fun v26 μ25 =>
    rI v26 μ25 := (bX_eq _ _ _ _ _).trans rfl
set_option maxRecDepth 100000 in
theorem x_M_merges_eq (a0 : Nat) (a1 : Int) (a2 : Int) (a3 : Int) (μ : bz_M) : x_M_merges a0 a1 a2 a3 μ =
    if a3 = 0 then
      bz_ci (d_M_manyOf a0 a1 1 μ) fun v2 μ1 =>
      if v2 = 4 then
        bz_ci (d_M_manyOf a0 a2 2 μ1) fun v4 μ3 =>
        if v4 = 4 then rI 8 μ3 else
        rI 0 μ3
      else
      rI 0 μ1
    else
    bz_ci (d_M_mostOverlap a0 a1 a2 μ) fun v6 μ5 =>
    x_M_merges_0 a0 a1 a2 a3 v6 μ5 := (bX_eq _ _ _ _ _).trans rfl
set_option maxRecDepth 100000 in
theorem x_M_merges_0_eq (x0 : Nat) (x1 : Int) (x2 : Int) (x3 : Int) (x4 : Int) (μ : bz_M) : x_M_merges_0 x0 x1 x2 x3 x4 μ =
    if x4 < 2 then rI 0 μ else
    bz_ci (d_M_manyOf x0 x1 1 μ) fun v2 μ1 =>
    bz_ci (d_M_manyOf x0 x2 2 μ1) fun v4 μ3 =>
    bz_ci (x_M_isLength x3 (wr ((wr (v2 + v4)) - x4)) μ3) fun v6 μ5 =>
    if v6 = 0 then x_M_merges_0 x0 x1 x2 x3 (wr (x4 + (-1))) μ5 else
    bz_ci (d_M_overlaps x0 x1 x2 x4 μ5) fun v8 μ7 =>
    if v8 = 0 then x_M_merges_0 x0 x1 x2 x3 (wr (x4 + (-1))) μ7 else
    rI (wr ((wr (v2 + v4)) - x4)) μ7 := (bX_eq _ _ _ _ _).trans rfl
set_option maxRecDepth 100000 in
theorem x_M_mergedCharacter_eq (a0 : Nat) (a1 : Int) (a2 : Int) (a3 : Int) (a4 : Int) (μ : bz_M) : x_M_mergedCharacter a0 a1 a2 a3 a4 μ =
    bz_ci (d_M_mergesNow a0 a1 a2 a3 μ) fun v2 μ1 =>
    bz_ci (x_M_isIn a4 0 (wr (v2 - 1)) μ1) fun v4 μ3 =>
    if v4 = 0 then
      bz_pI μ3 a0 10 11 1 fun μ5 =>
      bz_fI μ5 a0 10 11 fun v6 =>
      if (0 : Int) < v6 then rI 0 μ5 else
      bz_ci (d_M_manyOf a0 a1 1 μ5) fun v8 μ7 =>
      if a4 < v8 then
        bz_ci (d_M_signOf a0 a1 1 a4 μ7) fun v10 μ9 =>
        rI v10 μ9
      else
      bz_ci (d_M_manyOf a0 a2 2 μ7) fun v12 μ11 =>
      bz_ci (d_M_signOf a0 a2 2 (wr ((wr (a4 - v2)) + v12)) μ11) fun v14 μ13 =>
      rI v14 μ13
    else
    bz_fI μ3 a0 10 11 fun v15 =>
    if (0 : Int) < v15 then rI 0 μ3 else
    bz_ci (d_M_manyOf a0 a1 1 μ3) fun v17 μ16 =>
    if a4 < v17 then
      bz_ci (d_M_signOf a0 a1 1 a4 μ16) fun v19 μ18 =>
      rI v19 μ18
    else
    bz_ci (d_M_manyOf a0 a2 2 μ16) fun v21 μ20 =>
    bz_ci (d_M_signOf a0 a2 2 (wr ((wr (a4 - v2)) + v21)) μ20) fun v23 μ22 =>
    rI v23 μ22 := (bX_eq _ _ _ _ _).trans rfl
set_option maxRecDepth 100000 in
theorem x_M_bestScan_eq (a0 : Nat) (a1 : Int) (μ : bz_M) : x_M_bestScan a0 a1 μ =
    bz_ci (x_M_isSymbology a1 μ) fun v2 μ1 =>
    if v2 = 0 then
      bz_pI μ1 a0 10 11 1 fun μ3 =>
      bz_fI μ3 a0 10 11 fun v4 =>
      if (0 : Int) < v4 then rI 0 μ3 else
      bz_cv (d_M_readsAll a0 a1 μ3) fun μ5 =>
      x_M_bestScan_0 a0 (-1) 0 μ5
    else
    bz_pI μ1 a0 10 11 0 fun μ6 =>
    bz_fI μ6 a0 10 11 fun v7 =>
    if (0 : Int) < v7 then rI 0 μ6 else
    bz_cv (d_M_readsAll a0 a1 μ6) fun μ8 =>
    x_M_bestScan_0 a0 (-1) 0 μ8 := (bX_eq _ _ _ _ _).trans rfl
set_option maxRecDepth 100000 in
theorem x_M_bestScan_0_eq (x0 : Nat) (x2 : Int) (x3 : Int) (μ : bz_M) : x_M_bestScan_0 x0 x2 x3 μ =
    bz_fI μ x0 10 8 fun v1 =>
    if x3 < v1 then
      bz_ci (d_M_manyOf x0 x3 0 μ) fun v3 μ2 =>
      if (0 : Int) < v3 then
        if x2 = (-1) then x_M_bestScan_0 x0 x3 (wr (x3 + 1)) μ2 else
        bz_ci (d_M_leastWeight x0 x3 μ2) fun v5 μ4 =>
        bz_ci (d_M_leastWeight x0 x2 μ4) fun v7 μ6 =>
        if v7 < v5 then x_M_bestScan_0 x0 x3 (wr (x3 + 1)) μ6 else
        x_M_bestScan_0 x0 x2 (wr (x3 + 1)) μ6
      else
      x_M_bestScan_0 x0 x2 (wr (x3 + 1)) μ2
    else
    if x2 = (-1) then
      bz_pI μ x0 10 11 2 fun μ8 =>
      bz_fI μ8 x0 10 11 fun v9 =>
      if (0 : Int) < v9 then rI 0 μ8 else
      rI x2 μ8
    else
    bz_pI μ x0 10 11 0 fun μ10 =>
    bz_fI μ10 x0 10 11 fun v11 =>
    if (0 : Int) < v11 then rI 0 μ10 else
    rI x2 μ10 := (bX_eq _ _ _ _ _).trans rfl
set_option maxRecDepth 100000 in
theorem x_M_leastWeight_eq (a0 : Nat) (a1 : Int) (μ : bz_M) : x_M_leastWeight a0 a1 μ =
    bz_ci (d_M_weightOf a0 a1 0 0 μ) fun v2 μ1 =>
    x_M_leastWeight_0 a0 a1 v2 1 μ1 := (bX_eq _ _ _ _ _).trans rfl
set_option maxRecDepth 100000 in
theorem x_M_leastWeight_0_eq (x0 : Nat) (x1 : Int) (x2 : Int) (x3 : Int) (μ : bz_M) : x_M_leastWeight_0 x0 x1 x2 x3 μ =
    bz_ci (d_M_manyOf x0 x1 0 μ) fun v2 μ1 =>
    if x3 < v2 then
      bz_ci (d_M_weightOf x0 x1 0 x3 μ1) fun v4 μ3 =>
      if v4 < x2 then
        bz_ci (d_M_weightOf x0 x1 0 x3 μ3) fun v6 μ5 =>
        x_M_leastWeight_0 x0 x1 v6 (wr (x3 + 1)) μ5
      else
      x_M_leastWeight_0 x0 x1 x2 (wr (x3 + 1)) μ3
    else
    rI x2 μ1 := (bX_eq _ _ _ _ _).trans rfl
set_option maxRecDepth 100000 in
theorem x_M_length_eq (a0 : Nat) (a1 : Int) (μ : bz_M) : x_M_length a0 a1 μ =
    bz_ci (x_M_isSymbology a1 μ) fun v2 μ1 =>
    if v2 = 0 then
      bz_pI μ1 a0 10 11 1 fun μ3 =>
      bz_fI μ3 a0 10 11 fun v4 =>
      if (0 : Int) < v4 then rI 0 μ3 else
      bz_ci (d_M_lengthOf a0 a1 μ3) fun v6 μ5 =>
      rI v6 μ5
    else
    bz_pI μ1 a0 10 11 0 fun μ7 =>
    bz_fI μ7 a0 10 11 fun v8 =>
    if (0 : Int) < v8 then rI 0 μ7 else
    bz_ci (d_M_lengthOf a0 a1 μ7) fun v10 μ9 =>
    rI v10 μ9 := (bX_eq _ _ _ _ _).trans rfl
set_option maxRecDepth 100000 in
theorem x_M_lengthOf_eq (a0 : Nat) (a1 : Int) (μ : bz_M) : x_M_lengthOf a0 a1 μ =
    bz_cv (d_M_readsAll a0 a1 μ) fun μ1 =>
    bz_ci (d_M_wholeLength a0 μ1) fun v3 μ2 =>
    if (0 : Int) < v3 then rI v3 μ2 else
    if a1 = 0 then
      bz_ci (d_M_hasAny a0 1 μ2) fun v5 μ4 =>
      if v5 = 0 then rI 0 μ4 else
      bz_ci (d_M_hasAny a0 2 μ4) fun v7 μ6 =>
      if v7 = 0 then rI 0 μ6 else
      rI 8 μ6
    else
    bz_ci (d_M_longestMerge a0 a1 μ2) fun v9 μ8 =>
    rI v9 μ8 := (bX_eq _ _ _ _ _).trans rfl
set_option maxRecDepth 100000 in
theorem x_M_wholeLength_eq (a0 : Nat) (μ : bz_M) : x_M_wholeLength a0 μ =
    x_M_wholeLength_0 a0 0 μ := (bX_eq _ _ _ _ _).trans rfl
set_option maxRecDepth 100000 in
theorem x_M_wholeLength_0_eq (x0 : Nat) (x1 : Int) (μ : bz_M) : x_M_wholeLength_0 x0 x1 μ =
    if (16 : Int) < x1 then x_M_wholeLength_1 x0 0 μ else
    bz_fR μ x0 10 31 fun v1 =>
    bz_wI μ v1 x1 0 fun μ2 =>
    x_M_wholeLength_0 x0 (wr (x1 + 1)) μ2 := (bX_eq _ _ _ _ _).trans rfl
set_option maxRecDepth 100000 in
theorem x_M_wholeLength_1_eq (x0 : Nat) (x1 : Int) (μ : bz_M) : x_M_wholeLength_1 x0 x1 μ =
    bz_fI μ x0 10 8 fun v1 =>
    if x1 < v1 then
      bz_ci (d_M_manyOf x0 x1 0 μ) fun v3 μ2 =>
      if (0 : Int) < v3 then
        bz_fR μ2 x0 10 31 fun v4 =>
        bz_ci (d_M_manyOf x0 x1 0 μ2) fun v6 μ5 =>
        bz_rI μ5 v4 v6 fun v7 =>
        bz_ci (d_M_leastWeight x0 x1 μ5) fun v9 μ8 =>
        bz_wI μ8 v4 v6 (wr (v7 + v9)) fun μ10 =>
        x_M_wholeLength_1 x0 (wr (x1 + 1)) μ10
      else
      x_M_wholeLength_1 x0 (wr (x1 + 1)) μ2
    else
    x_M_wholeLength_2 x0 0 1 μ := (bX_eq _ _ _ _ _).trans rfl
set_option maxRecDepth 100000 in
theorem x_M_wholeLength_2_eq (x0 : Nat) (x1 : Int) (x2 : Int) (μ : bz_M) : x_M_wholeLength_2 x0 x1 x2 μ =
    if (16 : Int) < x2 then rI x1 μ else
    bz_fR μ x0 10 31 fun v1 =>
    bz_rI μ v1 x2 fun v2 =>
    bz_fR μ x0 10 31 fun v3 =>
    bz_rI μ v3 x1 fun v4 =>
    if v4 < v2 then x_M_wholeLength_2 x0 x2 (wr (x2 + 1)) μ else
    x_M_wholeLength_2 x0 x1 (wr (x2 + 1)) μ := (bX_eq _ _ _ _ _).trans rfl
set_option maxRecDepth 100000 in
theorem x_M_hasAny_eq (a0 : Nat) (a1 : Int) (μ : bz_M) : x_M_hasAny a0 a1 μ =
    x_M_hasAny_0 a0 a1 0 0 μ := (bX_eq _ _ _ _ _).trans rfl
set_option maxRecDepth 100000 in
theorem x_M_hasAny_0_eq (x0 : Nat) (x1 : Int) (x2 : Int) (x3 : Int) (μ : bz_M) : x_M_hasAny_0 x0 x1 x2 x3 μ =
    bz_fI μ x0 10 8 fun v1 =>
    if x3 < v1 then
      bz_ci (d_M_manyOf x0 x3 x1 μ) fun v3 μ2 =>
      if (0 : Int) < v3 then x_M_hasAny_0 x0 x1 (bz_or x2 1) (wr (x3 + 1)) μ2 else
      x_M_hasAny_0 x0 x1 (bz_or x2 0) (wr (x3 + 1)) μ2
    else
    bz_zB x2 μ := (bX_eq _ _ _ _ _).trans rfl
set_option maxRecDepth 100000 in
theorem x_M_longestMerge_eq (a0 : Nat) (a1 : Int) (μ : bz_M) : x_M_longestMerge a0 a1 μ =
    x_M_longestMerge_0 a0 a1 16 μ := (bX_eq _ _ _ _ _).trans rfl
set_option maxRecDepth 100000 in
theorem x_M_longestMerge_0_eq (x0 : Nat) (x1 : Int) (x2 : Int) (μ : bz_M) : x_M_longestMerge_0 x0 x1 x2 μ =
    if x2 < 2 then rI 0 μ else
    x_M_longestMerge_1 x0 x1 x2 0 μ := (bX_eq _ _ _ _ _).trans rfl
set_option maxRecDepth 100000 in
theorem x_M_longestMerge_1_eq (x0 : Nat) (x1 : Int) (x2 : Int) (x3 : Int) (μ : bz_M) : x_M_longestMerge_1 x0 x1 x2 x3 μ =
    bz_fI μ x0 10 8 fun v1 =>
    if x3 < v1 then x_M_longestMerge_2 x0 x1 x2 x3 0 μ else
    x_M_longestMerge_0 x0 x1 (wr (x2 + (-1))) μ := (bX_eq _ _ _ _ _).trans rfl
set_option maxRecDepth 100000 in
theorem x_M_longestMerge_2_eq (x0 : Nat) (x1 : Int) (x2 : Int) (x3 : Int) (x4 : Int) (μ : bz_M) : x_M_longestMerge_2 x0 x1 x2 x3 x4 μ =
    bz_fI μ x0 10 8 fun v1 =>
    if x4 < v1 then
      bz_ci (d_M_manyOf x0 x3 1 μ) fun v3 μ2 =>
      bz_ci (d_M_manyOf x0 x4 2 μ2) fun v5 μ4 =>
      if x3 = x4 then x_M_longestMerge_2 x0 x1 x2 x3 (wr (x4 + 1)) μ4 else
      bz_ci (d_M_mostOverlap x0 x3 x4 μ4) fun v7 μ6 =>
      if v7 < x2 then x_M_longestMerge_2 x0 x1 x2 x3 (wr (x4 + 1)) μ6 else
      bz_ci (x_M_isLength x1 (wr ((wr (v3 + v5)) - x2)) μ6) fun v9 μ8 =>
      if v9 = 0 then x_M_longestMerge_2 x0 x1 x2 x3 (wr (x4 + 1)) μ8 else
      bz_ci (d_M_overlaps x0 x3 x4 x2 μ8) fun v11 μ10 =>
      if v11 = 0 then x_M_longestMerge_2 x0 x1 x2 x3 (wr (x4 + 1)) μ10 else
      rI (wr ((wr (v3 + v5)) - x2)) μ10
    else
    x_M_longestMerge_1 x0 x1 x2 (wr (x3 + 1)) μ := (bX_eq _ _ _ _ _).trans rfl
set_option maxRecDepth 100000 in
theorem x_M_weight_eq (a0 : Nat) (a1 : Int) (a2 : Int) (a3 : Int) (μ : bz_M) : x_M_weight a0 a1 a2 a3 μ =
    bz_ci (d_M_hasPlace a0 a1 a2 μ) fun v2 μ1 =>
    if v2 = 0 then rI 0 μ1 else
    if a3 = (-1) then
      bz_ci (d_M_allAt a0 a2 μ1) fun v4 μ3 =>
      rI v4 μ3
    else
    bz_ci (x_M_isIn a3 0 127 μ1) fun v6 μ5 =>
    if v6 = 0 then rI 0 μ5 else
    bz_fR μ5 a0 10 32 fun v7 =>
    bz_rI μ5 v7 (wr ((wr (128 * a2)) + a3)) fun v8 =>
    rI v8 μ5 := (bX_eq _ _ _ _ _).trans rfl
set_option maxRecDepth 100000 in
theorem x_M_hasPlace_eq (a0 : Nat) (a1 : Int) (a2 : Int) (μ : bz_M) : x_M_hasPlace a0 a1 a2 μ =
    bz_ci (x_M_isSymbology a1 μ) fun v2 μ1 =>
    if v2 = 0 then
      bz_pI μ1 a0 10 11 1 fun μ3 =>
      bz_fI μ3 a0 10 11 fun v4 =>
      if v4 = 0 then rI 1 μ3 else
      rI 0 μ3
    else
    bz_ci (d_M_laysVotes a0 a1 μ1) fun v6 μ5 =>
    bz_ci (x_M_isIn a2 0 (wr (v6 - 1)) μ5) fun v8 μ7 =>
    if v8 = 0 then
      bz_pI μ7 a0 10 11 1 fun μ9 =>
      bz_fI μ9 a0 10 11 fun v10 =>
      if v10 = 0 then rI 1 μ9 else
      rI 0 μ9
    else
    bz_pI μ7 a0 10 11 0 fun μ11 =>
    bz_fI μ11 a0 10 11 fun v12 =>
    if v12 = 0 then rI 1 μ11 else
    rI 0 μ11 := (bX_eq _ _ _ _ _).trans rfl
set_option maxRecDepth 100000 in
theorem x_M_laysVotes_eq (a0 : Nat) (a1 : Int) (μ : bz_M) : x_M_laysVotes a0 a1 μ =
    bz_ci (d_M_lengthOf a0 a1 μ) fun v2 μ1 =>
    x_M_laysVotes_0 a0 v2 0 μ1 := (bX_eq _ _ _ _ _).trans rfl
set_option maxRecDepth 100000 in
theorem x_M_laysVotes_0_eq (x0 : Nat) (x2 : Int) (x3 : Int) (μ : bz_M) : x_M_laysVotes_0 x0 x2 x3 μ =
    if x3 < 2048 then
      bz_fR μ x0 10 32 fun v1 =>
      bz_wI μ v1 x3 0 fun μ2 =>
      x_M_laysVotes_0 x0 x2 (wr (x3 + 1)) μ2
    else
    x_M_laysVotes_1 x0 x2 0 μ := (bX_eq _ _ _ _ _).trans rfl
set_option maxRecDepth 100000 in
theorem x_M_laysVotes_1_eq (x0 : Nat) (x2 : Int) (x3 : Int) (μ : bz_M) : x_M_laysVotes_1 x0 x2 x3 μ =
    bz_fI μ x0 10 8 fun v1 =>
    if x3 < v1 then
      if (0 : Int) < x2 then
        bz_ci (d_M_manyOf x0 x3 0 μ) fun v3 μ2 =>
        if v3 = x2 then
          bz_cv (d_M_adds x0 x3 0 0 μ2) fun μ4 =>
          bz_ci (d_M_manyOf x0 x3 1 μ4) fun v6 μ5 =>
          if x2 < v6 then
            bz_ci (d_M_manyOf x0 x3 2 μ5) fun v8 μ7 =>
            if x2 < v8 then x_M_laysVotes_1 x0 x2 (wr (x3 + 1)) μ7 else
            bz_ci (d_M_manyOf x0 x3 2 μ7) fun v10 μ9 =>
            bz_cv (d_M_adds x0 x3 2 (wr (x2 - v10)) μ9) fun μ11 =>
            x_M_laysVotes_1 x0 x2 (wr (x3 + 1)) μ11
          else
          bz_cv (d_M_adds x0 x3 1 0 μ5) fun μ12 =>
          bz_ci (d_M_manyOf x0 x3 2 μ12) fun v14 μ13 =>
          if x2 < v14 then x_M_laysVotes_1 x0 x2 (wr (x3 + 1)) μ13 else
          bz_ci (d_M_manyOf x0 x3 2 μ13) fun v16 μ15 =>
          bz_cv (d_M_adds x0 x3 2 (wr (x2 - v16)) μ15) fun μ17 =>
          x_M_laysVotes_1 x0 x2 (wr (x3 + 1)) μ17
        else
        bz_ci (d_M_manyOf x0 x3 1 μ2) fun v19 μ18 =>
        if x2 < v19 then
          bz_ci (d_M_manyOf x0 x3 2 μ18) fun v21 μ20 =>
          if x2 < v21 then x_M_laysVotes_1 x0 x2 (wr (x3 + 1)) μ20 else
          bz_ci (d_M_manyOf x0 x3 2 μ20) fun v23 μ22 =>
          bz_cv (d_M_adds x0 x3 2 (wr (x2 - v23)) μ22) fun μ24 =>
          x_M_laysVotes_1 x0 x2 (wr (x3 + 1)) μ24
        else
        bz_cv (d_M_adds x0 x3 1 0 μ18) fun μ25 =>
        bz_ci (d_M_manyOf x0 x3 2 μ25) fun v27 μ26 =>
        if x2 < v27 then x_M_laysVotes_1 x0 x2 (wr (x3 + 1)) μ26 else
        bz_ci (d_M_manyOf x0 x3 2 μ26) fun v29 μ28 =>
        bz_cv (d_M_adds x0 x3 2 (wr (x2 - v29)) μ28) fun μ30 =>
        x_M_laysVotes_1 x0 x2 (wr (x3 + 1)) μ30
      else
      rI x2 μ
    else
    rI x2 μ := (bX_eq _ _ _ _ _).trans rfl
set_option maxRecDepth 100000 in
theorem x_M_adds_eq (a0 : Nat) (a1 : Int) (a2 : Int) (a3 : Int) (μ : bz_M) : x_M_adds a0 a1 a2 a3 μ =
    x_M_adds_0 a0 a1 a2 a3 0 μ := (bX_eq _ _ _ _ _).trans rfl
set_option maxRecDepth 100000 in
theorem x_M_adds_0_eq (x0 : Nat) (x1 : Int) (x2 : Int) (x3 : Int) (x4 : Int) (μ : bz_M) : x_M_adds_0 x0 x1 x2 x3 x4 μ =
    bz_ci (d_M_manyOf x0 x1 x2 μ) fun v2 μ1 =>
    if x4 < v2 then
      bz_fR μ1 x0 10 32 fun v3 =>
      bz_ci (d_M_signOf x0 x1 x2 x4 μ1) fun v5 μ4 =>
      bz_rI μ4 v3 (wr ((wr (128 * (wr (x3 + x4)))) + v5)) fun v6 =>
      bz_ci (d_M_weightOf x0 x1 x2 x4 μ4) fun v8 μ7 =>
      bz_wI μ7 v3 (wr ((wr (128 * (wr (x3 + x4)))) + v5)) (wr (v6 + v8)) fun μ9 =>
      x_M_adds_0 x0 x1 x2 x3 (wr (x4 + 1)) μ9
    else
    rI 0 μ1 := (bX_eq _ _ _ _ _).trans rfl
set_option maxRecDepth 100000 in
theorem x_M_allAt_eq (a0 : Nat) (a1 : Int) (μ : bz_M) : x_M_allAt a0 a1 μ =
    x_M_allAt_0 a0 a1 0 0 μ := (bX_eq _ _ _ _ _).trans rfl
set_option maxRecDepth 100000 in
theorem x_M_allAt_0_eq (x0 : Nat) (x1 : Int) (x2 : Int) (x3 : Int) (μ : bz_M) : x_M_allAt_0 x0 x1 x2 x3 μ =
    if x3 < 128 then
      bz_fR μ x0 10 32 fun v1 =>
      bz_rI μ v1 (wr ((wr (128 * x1)) + x3)) fun v2 =>
      x_M_allAt_0 x0 x1 (wr (x2 + v2)) (wr (x3 + 1)) μ
    else
    rI x2 μ := (bX_eq _ _ _ _ _).trans rfl
set_option maxRecDepth 100000 in
theorem x_M_voted_eq (a0 : Nat) (a1 : Int) (a2 : Int) (μ : bz_M) : x_M_voted a0 a1 a2 μ =
    bz_ci (d_M_hasPlace a0 a1 a2 μ) fun v2 μ1 =>
    if v2 = 0 then rI 0 μ1 else
    bz_ci (d_M_votedAt a0 a2 μ1) fun v4 μ3 =>
    rI v4 μ3 := (bX_eq _ _ _ _ _).trans rfl
set_option maxRecDepth 100000 in
theorem x_M_votedAt_eq (a0 : Nat) (a1 : Int) (μ : bz_M) : x_M_votedAt a0 a1 μ =
    bz_ci (d_M_allAt a0 a1 μ) fun v2 μ1 =>
    x_M_votedAt_0 a0 a1 v2 0 μ1 := (bX_eq _ _ _ _ _).trans rfl
set_option maxRecDepth 100000 in
theorem x_M_votedAt_0_eq (x0 : Nat) (x1 : Int) (x2 : Int) (x3 : Int) (μ : bz_M) : x_M_votedAt_0 x0 x1 x2 x3 μ =
    if x3 < 128 then
      bz_fR μ x0 10 32 fun v1 =>
      bz_rI μ v1 (wr ((wr (128 * x1)) + x3)) fun v2 =>
      if x2 < wr (2 * v2) then rI x3 μ else
      x_M_votedAt_0 x0 x1 x2 (wr (x3 + 1)) μ
    else
    rI (-1) μ := (bX_eq _ _ _ _ _).trans rfl
set_option maxRecDepth 100000 in
theorem x_M_runnerUp_eq (a0 : Nat) (a1 : Int) (a2 : Int) (μ : bz_M) : x_M_runnerUp a0 a1 a2 μ =
    bz_ci (d_M_hasPlace a0 a1 a2 μ) fun v2 μ1 =>
    if v2 = 0 then rI 0 μ1 else
    x_M_runnerUp_0 a0 a2 (-1) (-1) 0 μ1 := (bX_eq _ _ _ _ _).trans rfl
set_option maxRecDepth 100000 in
theorem x_M_runnerUp_0_eq (x0 : Nat) (x2 : Int) (x3 : Int) (x4 : Int) (x5 : Int) (μ : bz_M) : x_M_runnerUp_0 x0 x2 x3 x4 x5 μ =
    if x5 < 128 then
      bz_fR μ x0 10 32 fun v1 =>
      bz_rI μ v1 (wr ((wr (128 * x2)) + x5)) fun v2 =>
      if v2 = 0 then x_M_runnerUp_0 x0 x2 x3 x4 (wr (x5 + 1)) μ else
      if x3 = (-1) then x_M_runnerUp_0 x0 x2 x5 x3 (wr (x5 + 1)) μ else
      bz_fR μ x0 10 32 fun v3 =>
      bz_rI μ v3 (wr ((wr (128 * x2)) + x3)) fun v4 =>
      if v4 < v2 then x_M_runnerUp_0 x0 x2 x5 x3 (wr (x5 + 1)) μ else
      if x4 = (-1) then x_M_runnerUp_0 x0 x2 x3 x5 (wr (x5 + 1)) μ else
      bz_fR μ x0 10 32 fun v5 =>
      bz_rI μ v5 (wr ((wr (128 * x2)) + x4)) fun v6 =>
      if v6 < v2 then x_M_runnerUp_0 x0 x2 x3 x5 (wr (x5 + 1)) μ else
      x_M_runnerUp_0 x0 x2 x3 x4 (wr (x5 + 1)) μ
    else
    rI x4 μ := (bX_eq _ _ _ _ _).trans rfl
set_option maxRecDepth 100000 in
theorem x_M_problem_eq (a0 : Nat) (a1 : Int) (μ : bz_M) : x_M_problem a0 a1 μ =
    bz_ci (x_M_isSymbology a1 μ) fun v2 μ1 =>
    if v2 = 0 then
      bz_pI μ1 a0 10 11 1 fun μ3 =>
      bz_fI μ3 a0 10 11 fun v4 =>
      if (0 : Int) < v4 then rI 0 μ3 else
      bz_ci (d_M_problemOf a0 a1 μ3) fun v6 μ5 =>
      rI v6 μ5
    else
    bz_pI μ1 a0 10 11 0 fun μ7 =>
    bz_fI μ7 a0 10 11 fun v8 =>
    if (0 : Int) < v8 then rI 0 μ7 else
    bz_ci (d_M_problemOf a0 a1 μ7) fun v10 μ9 =>
    rI v10 μ9 := (bX_eq _ _ _ _ _).trans rfl
set_option maxRecDepth 100000 in
theorem x_M_problemOf_eq (a0 : Nat) (a1 : Int) (μ : bz_M) : x_M_problemOf a0 a1 μ =
    bz_ci (d_M_laysVotes a0 a1 μ) fun v2 μ1 =>
    if v2 = 0 then rI 1 μ1 else
    bz_ci (d_M_doubtFrom a0 0 v2 μ1) fun v4 μ3 =>
    if v4 = (-1) then
      bz_fR μ3 a0 10 4 fun v5 =>
      bz_rB μ3 v5 a1 fun v6 =>
      if v6 = 0 then rI 0 μ3 else
      bz_ci (d_M_isRight a0 a1 v2 (-1) (-1) μ3) fun v8 μ7 =>
      if v8 = 0 then rI 3 μ7 else
      rI 0 μ7
    else
    rI 2 μ3 := (bX_eq _ _ _ _ _).trans rfl
set_option maxRecDepth 100000 in
theorem x_M_doubtFrom_eq (a0 : Nat) (a1 : Int) (a2 : Int) (μ : bz_M) : x_M_doubtFrom a0 a1 a2 μ =
    x_M_doubtFrom_0 a0 a2 a1 μ := (bX_eq _ _ _ _ _).trans rfl
set_option maxRecDepth 100000 in
theorem x_M_doubtFrom_0_eq (x0 : Nat) (x2 : Int) (x3 : Int) (μ : bz_M) : x_M_doubtFrom_0 x0 x2 x3 μ =
    if x3 < x2 then
      bz_ci (d_M_votedAt x0 x3 μ) fun v2 μ1 =>
      if v2 = (-1) then rI x3 μ1 else
      x_M_doubtFrom_0 x0 x2 (wr (x3 + 1)) μ1
    else
    rI (-1) μ := (bX_eq _ _ _ _ _).trans rfl
set_option maxRecDepth 100000 in
theorem x_M_isRight_eq (a0 : Nat) (a1 : Int) (a2 : Int) (a3 : Int) (a4 : Int) (μ : bz_M) : x_M_isRight a0 a1 a2 a3 a4 μ =
    x_M_isRight_0 a0 a1 a2 a3 a4 0 0 μ := (bX_eq _ _ _ _ _).trans rfl
set_option maxRecDepth 100000 in
theorem x_M_isRight_0_eq (x0 : Nat) (x1 : Int) (x2 : Int) (x3 : Int) (x4 : Int) (x5 : Int) (x6 : Int) (μ : bz_M) : x_M_isRight_0 x0 x1 x2 x3 x4 x5 x6 μ =
    if x6 < x2 then
      if x6 = x3 then
        if x1 = 2 then
          bz_ci (x_M_valueOf x4 μ) fun v2 μ1 =>
          x_M_isRight_0 x0 x1 x2 x3 x4 (wr (x5 + v2)) (wr (x6 + 1)) μ1
        else
        if Int.tmod x6 2 = 0 then x_M_isRight_0 x0 x1 x2 x3 x4 (wr (x5 + (wr (3 * (wr (x4 - 48)))))) (wr (x6 + 1)) μ else
        x_M_isRight_0 x0 x1 x2 x3 x4 (wr (x5 + (wr (1 * (wr (x4 - 48)))))) (wr (x6 + 1)) μ
      else
      bz_ci (d_M_votedAt x0 x6 μ) fun v4 μ3 =>
      if x1 = 2 then
        bz_ci (x_M_valueOf v4 μ3) fun v6 μ5 =>
        x_M_isRight_0 x0 x1 x2 x3 x4 (wr (x5 + v6)) (wr (x6 + 1)) μ5
      else
      if Int.tmod x6 2 = 0 then x_M_isRight_0 x0 x1 x2 x3 x4 (wr (x5 + (wr (3 * (wr (v4 - 48)))))) (wr (x6 + 1)) μ3 else
      x_M_isRight_0 x0 x1 x2 x3 x4 (wr (x5 + (wr (1 * (wr (v4 - 48)))))) (wr (x6 + 1)) μ3
    else
    if x1 = 2 then
      if Int.tmod x5 16 = 0 then rI 1 μ else
      rI 0 μ
    else
    if Int.tmod x5 10 = 0 then rI 1 μ else
    rI 0 μ := (bX_eq _ _ _ _ _).trans rfl
set_option maxRecDepth 100000 in
theorem x_M_doubtful_eq (a0 : Nat) (a1 : Int) (μ : bz_M) : x_M_doubtful a0 a1 μ =
    bz_ci (x_M_isSymbology a1 μ) fun v2 μ1 =>
    if v2 = 0 then
      bz_pI μ1 a0 10 11 1 fun μ3 =>
      bz_fI μ3 a0 10 11 fun v4 =>
      if (0 : Int) < v4 then rI 0 μ3 else
      bz_ci (d_M_laysVotes a0 a1 μ3) fun v6 μ5 =>
      bz_ci (d_M_doubtFrom a0 0 v6 μ5) fun v8 μ7 =>
      rI v8 μ7
    else
    bz_pI μ1 a0 10 11 0 fun μ9 =>
    bz_fI μ9 a0 10 11 fun v10 =>
    if (0 : Int) < v10 then rI 0 μ9 else
    bz_ci (d_M_laysVotes a0 a1 μ9) fun v12 μ11 =>
    bz_ci (d_M_doubtFrom a0 0 v12 μ11) fun v14 μ13 =>
    rI v14 μ13 := (bX_eq _ _ _ _ _).trans rfl
set_option maxRecDepth 100000 in
theorem x_M_repaired_eq (a0 : Nat) (a1 : Int) (μ : bz_M) : x_M_repaired a0 a1 μ =
    bz_ci (x_M_isSymbology a1 μ) fun v2 μ1 =>
    if v2 = 0 then
      bz_pI μ1 a0 10 11 1 fun μ3 =>
      bz_fI μ3 a0 10 11 fun v4 =>
      if (0 : Int) < v4 then rI 0 μ3 else
      bz_ci (d_M_laysVotes a0 a1 μ3) fun v6 μ5 =>
      bz_ci (d_M_doubtFrom a0 0 v6 μ5) fun v8 μ7 =>
      if v8 = (-1) then
        bz_pI μ7 a0 10 11 2 fun μ9 =>
        bz_fI μ9 a0 10 11 fun v10 =>
        if (0 : Int) < v10 then rI 0 μ9 else
        if a1 = 2 then
          if v8 = 0 then x_M_repaired_0 a0 a1 v6 v8 1 (-1) 0 16 μ9 else
          if v8 = wr (v6 - 1) then x_M_repaired_0 a0 a1 v6 v8 1 (-1) 0 16 μ9 else
          x_M_repaired_0 a0 a1 v6 v8 0 (-1) 0 0 μ9
        else
        x_M_repaired_0 a0 a1 v6 v8 0 (-1) 0 0 μ9
      else
      bz_ci (d_M_doubtFrom a0 (wr (v8 + 1)) v6 μ7) fun v12 μ11 =>
      if v12 = (-1) then
        bz_pI μ11 a0 10 11 0 fun μ13 =>
        bz_fI μ13 a0 10 11 fun v14 =>
        if (0 : Int) < v14 then rI 0 μ13 else
        if a1 = 2 then
          if v8 = 0 then x_M_repaired_0 a0 a1 v6 v8 1 (-1) 0 16 μ13 else
          if v8 = wr (v6 - 1) then x_M_repaired_0 a0 a1 v6 v8 1 (-1) 0 16 μ13 else
          x_M_repaired_0 a0 a1 v6 v8 0 (-1) 0 0 μ13
        else
        x_M_repaired_0 a0 a1 v6 v8 0 (-1) 0 0 μ13
      else
      bz_pI μ11 a0 10 11 2 fun μ15 =>
      bz_fI μ15 a0 10 11 fun v16 =>
      if (0 : Int) < v16 then rI 0 μ15 else
      if a1 = 2 then
        if v8 = 0 then x_M_repaired_0 a0 a1 v6 v8 1 (-1) 0 16 μ15 else
        if v8 = wr (v6 - 1) then x_M_repaired_0 a0 a1 v6 v8 1 (-1) 0 16 μ15 else
        x_M_repaired_0 a0 a1 v6 v8 0 (-1) 0 0 μ15
      else
      x_M_repaired_0 a0 a1 v6 v8 0 (-1) 0 0 μ15
    else
    bz_pI μ1 a0 10 11 0 fun μ17 =>
    bz_fI μ17 a0 10 11 fun v18 =>
    if (0 : Int) < v18 then rI 0 μ17 else
    bz_ci (d_M_laysVotes a0 a1 μ17) fun v20 μ19 =>
    bz_ci (d_M_doubtFrom a0 0 v20 μ19) fun v22 μ21 =>
    if v22 = (-1) then
      bz_pI μ21 a0 10 11 2 fun μ23 =>
      bz_fI μ23 a0 10 11 fun v24 =>
      if (0 : Int) < v24 then rI 0 μ23 else
      if a1 = 2 then
        if v22 = 0 then x_M_repaired_0 a0 a1 v20 v22 1 (-1) 0 16 μ23 else
        if v22 = wr (v20 - 1) then x_M_repaired_0 a0 a1 v20 v22 1 (-1) 0 16 μ23 else
        x_M_repaired_0 a0 a1 v20 v22 0 (-1) 0 0 μ23
      else
      x_M_repaired_0 a0 a1 v20 v22 0 (-1) 0 0 μ23
    else
    bz_ci (d_M_doubtFrom a0 (wr (v22 + 1)) v20 μ21) fun v26 μ25 =>
    if v26 = (-1) then
      bz_pI μ25 a0 10 11 0 fun μ27 =>
      bz_fI μ27 a0 10 11 fun v28 =>
      if (0 : Int) < v28 then rI 0 μ27 else
      if a1 = 2 then
        if v22 = 0 then x_M_repaired_0 a0 a1 v20 v22 1 (-1) 0 16 μ27 else
        if v22 = wr (v20 - 1) then x_M_repaired_0 a0 a1 v20 v22 1 (-1) 0 16 μ27 else
        x_M_repaired_0 a0 a1 v20 v22 0 (-1) 0 0 μ27
      else
      x_M_repaired_0 a0 a1 v20 v22 0 (-1) 0 0 μ27
    else
    bz_pI μ25 a0 10 11 2 fun μ29 =>
    bz_fI μ29 a0 10 11 fun v30 =>
    if (0 : Int) < v30 then rI 0 μ29 else
    if a1 = 2 then
      if v22 = 0 then x_M_repaired_0 a0 a1 v20 v22 1 (-1) 0 16 μ29 else
      if v22 = wr (v20 - 1) then x_M_repaired_0 a0 a1 v20 v22 1 (-1) 0 16 μ29 else
      x_M_repaired_0 a0 a1 v20 v22 0 (-1) 0 0 μ29
    else
    x_M_repaired_0 a0 a1 v20 v22 0 (-1) 0 0 μ29 := (bX_eq _ _ _ _ _).trans rfl
set_option maxRecDepth 100000 in
theorem x_M_repaired_0_eq (x0 : Nat) (x1 : Int) (x2 : Int) (x3 : Int) (x4 : Int) (x5 : Int) (x6 : Int) (x7 : Int) (μ : bz_M) : x_M_repaired_0 x0 x1 x2 x3 x4 x5 x6 x7 μ =
    if x4 = 0 then
      if x1 = 2 then
        if x7 < 16 then
          bz_ci (d_Str_charAt 6 x7 μ) fun v2 μ1 =>
          bz_ci (d_M_isRight x0 x1 x2 x3 v2 μ1) fun v4 μ3 =>
          if v4 = 0 then x_M_repaired_0 x0 x1 x2 x3 x4 x5 x6 (wr (x7 + 1)) μ3 else
          bz_ci (d_Str_charAt 6 x7 μ3) fun v6 μ5 =>
          x_M_repaired_0 x0 x1 x2 x3 x4 v6 (wr (x6 + 1)) (wr (x7 + 1)) μ5
        else
        if x6 = 1 then
          bz_pI μ x0 10 11 0 fun μ7 =>
          bz_fI μ7 x0 10 11 fun v8 =>
          if (0 : Int) < v8 then rI 0 μ7 else
          rI x5 μ7
        else
        bz_pI μ x0 10 11 3 fun μ9 =>
        bz_fI μ9 x0 10 11 fun v10 =>
        if (0 : Int) < v10 then rI 0 μ9 else
        rI x5 μ9
      else
      if x7 < 10 then
        bz_ci (d_Str_charAt 6 x7 μ) fun v12 μ11 =>
        bz_ci (d_M_isRight x0 x1 x2 x3 v12 μ11) fun v14 μ13 =>
        if v14 = 0 then x_M_repaired_0 x0 x1 x2 x3 x4 x5 x6 (wr (x7 + 1)) μ13 else
        bz_ci (d_Str_charAt 6 x7 μ13) fun v16 μ15 =>
        x_M_repaired_0 x0 x1 x2 x3 x4 v16 (wr (x6 + 1)) (wr (x7 + 1)) μ15
      else
      if x6 = 1 then
        bz_pI μ x0 10 11 0 fun μ17 =>
        bz_fI μ17 x0 10 11 fun v18 =>
        if (0 : Int) < v18 then rI 0 μ17 else
        rI x5 μ17
      else
      bz_pI μ x0 10 11 3 fun μ19 =>
      bz_fI μ19 x0 10 11 fun v20 =>
      if (0 : Int) < v20 then rI 0 μ19 else
      rI x5 μ19
    else
    if x7 < 20 then
      bz_ci (d_Str_charAt 6 x7 μ) fun v22 μ21 =>
      bz_ci (d_M_isRight x0 x1 x2 x3 v22 μ21) fun v24 μ23 =>
      if v24 = 0 then x_M_repaired_0 x0 x1 x2 x3 x4 x5 x6 (wr (x7 + 1)) μ23 else
      bz_ci (d_Str_charAt 6 x7 μ23) fun v26 μ25 =>
      x_M_repaired_0 x0 x1 x2 x3 x4 v26 (wr (x6 + 1)) (wr (x7 + 1)) μ25
    else
    if x6 = 1 then
      bz_pI μ x0 10 11 0 fun μ27 =>
      bz_fI μ27 x0 10 11 fun v28 =>
      if (0 : Int) < v28 then rI 0 μ27 else
      rI x5 μ27
    else
    bz_pI μ x0 10 11 3 fun μ29 =>
    bz_fI μ29 x0 10 11 fun v30 =>
    if (0 : Int) < v30 then rI 0 μ29 else
    rI x5 μ29 := (bX_eq _ _ _ _ _).trans rfl
set_option maxRecDepth 100000 in
theorem x_M_winner_eq (a0 : Nat) (μ : bz_M) : x_M_winner a0 μ =
    bz_pI μ a0 10 11 0 fun μ1 =>
    x_M_winner_0 a0 (-1) (-1) 0 μ1 := (bX_eq _ _ _ _ _).trans rfl
set_option maxRecDepth 100000 in
theorem x_M_winner_0_eq (x0 : Nat) (x1 : Int) (x2 : Int) (x3 : Int) (μ : bz_M) : x_M_winner_0 x0 x1 x2 x3 μ =
    if x3 < 3 then
      bz_ci (d_M_problemOf x0 x3 μ) fun v2 μ1 =>
      if v2 = 0 then
        bz_ci (d_M_shareOf x0 x3 μ1) fun v4 μ3 =>
        if x2 < v4 then
          bz_ci (d_M_shareOf x0 x3 μ3) fun v6 μ5 =>
          x_M_winner_0 x0 x3 v6 (wr (x3 + 1)) μ5
        else
        x_M_winner_0 x0 x1 x2 (wr (x3 + 1)) μ3
      else
      x_M_winner_0 x0 x1 x2 (wr (x3 + 1)) μ1
    else
    rI x1 μ := (bX_eq _ _ _ _ _).trans rfl
set_option maxRecDepth 100000 in
theorem x_M_shareOf_eq (a0 : Nat) (a1 : Int) (μ : bz_M) : x_M_shareOf a0 a1 μ =
    bz_ci (d_M_laysVotes a0 a1 μ) fun v2 μ1 =>
    x_M_shareOf_0 a0 v2 100 0 μ1 := (bX_eq _ _ _ _ _).trans rfl
set_option maxRecDepth 100000 in
theorem x_M_shareOf_0_eq (x0 : Nat) (x2 : Int) (x3 : Int) (x4 : Int) (μ : bz_M) : x_M_shareOf_0 x0 x2 x3 x4 μ =
    if x4 < x2 then
      bz_fR μ x0 10 32 fun v1 =>
      bz_ci (d_M_votedAt x0 x4 μ) fun v3 μ2 =>
      bz_rI μ2 v1 (wr ((wr (128 * x4)) + v3)) fun v4 =>
      bz_ci (d_M_allAt x0 x4 μ2) fun v6 μ5 =>
      bz_dv (wr (100 * v4)) v6 fun v7 =>
      if v7 < x3 then x_M_shareOf_0 x0 x2 v7 (wr (x4 + 1)) μ5 else
      x_M_shareOf_0 x0 x2 x3 (wr (x4 + 1)) μ5
    else
    rI x3 μ := (bX_eq _ _ _ _ _).trans rfl
set_option maxRecDepth 100000 in
theorem x_M_worstScan_eq (a0 : Nat) (a1 : Int) (μ : bz_M) : x_M_worstScan a0 a1 μ =
    bz_ci (x_M_isSymbology a1 μ) fun v2 μ1 =>
    if v2 = 0 then
      bz_pI μ1 a0 10 11 1 fun μ3 =>
      bz_fI μ3 a0 10 11 fun v4 =>
      if (0 : Int) < v4 then rI 0 μ3 else
      bz_ci (d_M_laysVotes a0 a1 μ3) fun v6 μ5 =>
      x_M_worstScan_0 a0 v6 (-1) (-1) 0 μ5
    else
    bz_pI μ1 a0 10 11 0 fun μ7 =>
    bz_fI μ7 a0 10 11 fun v8 =>
    if (0 : Int) < v8 then rI 0 μ7 else
    bz_ci (d_M_laysVotes a0 a1 μ7) fun v10 μ9 =>
    x_M_worstScan_0 a0 v10 (-1) (-1) 0 μ9 := (bX_eq _ _ _ _ _).trans rfl
set_option maxRecDepth 100000 in
theorem x_M_worstScan_0_eq (x0 : Nat) (x2 : Int) (x3 : Int) (x4 : Int) (x5 : Int) (μ : bz_M) : x_M_worstScan_0 x0 x2 x3 x4 x5 μ =
    bz_fI μ x0 10 8 fun v1 =>
    if x5 < v1 then
      if x2 = 0 then x_M_worstScan_0 x0 x2 x3 x4 (wr (x5 + 1)) μ else
      bz_ci (d_M_manyOf x0 x5 0 μ) fun v3 μ2 =>
      if v3 = x2 then x_M_worstScan_1 x0 x2 x3 x4 x5 0 0 μ2 else
      x_M_worstScan_0 x0 x2 x3 x4 (wr (x5 + 1)) μ2
    else
    if x3 = (-1) then
      bz_pI μ x0 10 11 2 fun μ4 =>
      bz_fI μ4 x0 10 11 fun v5 =>
      if (0 : Int) < v5 then rI 0 μ4 else
      rI x3 μ4
    else
    bz_pI μ x0 10 11 0 fun μ6 =>
    bz_fI μ6 x0 10 11 fun v7 =>
    if (0 : Int) < v7 then rI 0 μ6 else
    rI x3 μ6 := (bX_eq _ _ _ _ _).trans rfl
set_option maxRecDepth 100000 in
theorem x_M_worstScan_1_eq (x0 : Nat) (x2 : Int) (x3 : Int) (x4 : Int) (x5 : Int) (x6 : Int) (x7 : Int) (μ : bz_M) : x_M_worstScan_1 x0 x2 x3 x4 x5 x6 x7 μ =
    if x7 < x2 then
      bz_ci (d_M_signOf x0 x5 0 x7 μ) fun v2 μ1 =>
      bz_ci (d_M_votedAt x0 x7 μ1) fun v4 μ3 =>
      if v2 = v4 then x_M_worstScan_1 x0 x2 x3 x4 x5 (wr (x6 + 0)) (wr (x7 + 1)) μ3 else
      x_M_worstScan_1 x0 x2 x3 x4 x5 (wr (x6 + 1)) (wr (x7 + 1)) μ3
    else
    if x4 < x6 then x_M_worstScan_0 x0 x2 x5 x6 (wr (x5 + 1)) μ else
    x_M_worstScan_0 x0 x2 x3 x4 (wr (x5 + 1)) μ := (bX_eq _ _ _ _ _).trans rfl
set_option maxRecDepth 100000 in
theorem x_M_setCheck_eq (a0 : Nat) (a1 : Int) (a2 : Int) (μ : bz_M) : x_M_setCheck a0 a1 a2 μ =
    bz_ci (x_M_isSymbology a1 μ) fun v2 μ1 =>
    if v2 = 0 then
      bz_pI μ1 a0 10 11 1 fun μ3 =>
      bz_fI μ3 a0 10 11 fun v4 =>
      if (0 : Int) < v4 then rI 0 μ3 else
      bz_fR μ3 a0 10 4 fun v5 =>
      bz_rB μ3 v5 a1 fun v6 =>
      bz_fR μ3 a0 10 4 fun v7 =>
      bz_wB μ3 v7 a1 a2 fun μ8 =>
      bz_zB v6 μ8
    else
    bz_pI μ1 a0 10 11 0 fun μ9 =>
    bz_fI μ9 a0 10 11 fun v10 =>
    if (0 : Int) < v10 then rI 0 μ9 else
    bz_fR μ9 a0 10 4 fun v11 =>
    bz_rB μ9 v11 a1 fun v12 =>
    bz_fR μ9 a0 10 4 fun v13 =>
    bz_wB μ9 v13 a1 a2 fun μ14 =>
    bz_zB v12 μ14 := (bX_eq _ _ _ _ _).trans rfl
