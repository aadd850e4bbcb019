/-! BLOCK EQUATIONS, by program: each is what the machine does from there to the next cut, call by call -/
set_option maxRecDepth 100000 in
theorem x_E_new_eq (a0 : Nat) (μ : bz_M) : x_E_new a0 μ =
    bz_oi μ a0 fun v1 =>
    bz_na μ 20 60 fun v2 μ3 =>
    bz_pR μ3 a0 9 0 v2 fun μ4 =>
    bz_nw μ4 5 fun v5 μ6 =>
    bz_cu (d_Row_new v5 μ6) fun μ7 =>
    bz_pR μ7 a0 9 2 v5 fun μ8 =>
    bz_na μ8 24 24 fun v9 μ10 =>
    bz_pR μ10 a0 9 3 v9 fun μ11 =>
    bz_na μ11 26 3 fun v12 μ13 =>
    bz_nw μ13 2 fun v14 μ15 =>
    bz_cu (d_Ean_new v14 μ15) fun μ16 =>
    bz_wR μ16 v12 0 v14 fun μ17 =>
    bz_nw μ17 3 fun v18 μ19 =>
    bz_cu (d_Int_new v18 μ19) fun μ20 =>
    bz_wR μ20 v12 1 v18 fun μ21 =>
    bz_nw μ21 1 fun v22 μ23 =>
    bz_cu (d_Cod_new v22 μ23) fun μ24 =>
    bz_wR μ24 v12 2 v22 fun μ25 =>
    bz_pR μ25 a0 9 5 v12 fun μ26 =>
    bz_na μ26 27 3 fun v27 μ28 =>
    bz_nw μ28 8 fun v29 μ30 =>
    bz_cu (d_Tal_new v29 μ30) fun μ31 =>
    bz_wR μ31 v27 0 v29 fun μ32 =>
    bz_nw μ32 8 fun v33 μ34 =>
    bz_cu (d_Tal_new v33 μ34) fun μ35 =>
    bz_wR μ35 v27 1 v33 fun μ36 =>
    bz_nw μ36 8 fun v37 μ38 =>
    bz_cu (d_Tal_new v37 μ38) fun μ39 =>
    bz_wR μ39 v27 2 v37 fun μ40 =>
    bz_pR μ40 a0 9 6 v27 fun μ41 =>
    bz_na μ41 22 3 fun v42 μ43 =>
    bz_wB μ43 v42 0 1 fun μ44 =>
    bz_wB μ44 v42 1 0 fun μ45 =>
    bz_wB μ45 v42 2 0 fun μ46 =>
    bz_pR μ46 a0 9 7 v42 fun μ47 =>
    bz_nw μ47 5 fun v48 μ49 =>
    bz_cu (d_Row_new v48 μ49) fun μ50 =>
    bz_pR μ50 a0 9 8 v48 fun μ51 =>
    bz_nw μ51 5 fun v52 μ53 =>
    bz_cu (d_Row_new v52 μ53) fun μ54 =>
    bz_pR μ54 a0 9 9 v52 fun μ55 =>
    bz_nw μ55 5 fun v56 μ57 =>
    bz_cu (d_Row_new v56 μ57) fun μ58 =>
    bz_pR μ58 a0 9 10 v56 fun μ59 =>
    bz_nw μ59 7 fun v60 μ61 =>
    bz_cu (d_Seq_new v60 μ61) fun μ62 =>
    bz_pR μ62 a0 9 11 v60 fun μ63 =>
    x_E_new_0 a0 0 μ63 := (bX_eq _ _ _ _ _).trans rfl
set_option maxRecDepth 100000 in
theorem x_E_new_0_eq (x0 : Nat) (x1 : Int) (μ : bz_M) : x_E_new_0 x0 x1 μ =
    if x1 < 24 then
      bz_fR μ x0 9 3 fun v1 =>
      bz_nw μ 6 fun v2 μ3 =>
      bz_cu (d_Scn_new v2 μ3) fun μ4 =>
      bz_wR μ4 v1 x1 v2 fun μ5 =>
      x_E_new_0 x0 (wr (x1 + 1)) μ5
    else
    rI 0 μ := (bX_eq _ _ _ _ _).trans rfl
set_option maxRecDepth 100000 in
theorem x_Row_new_eq (a0 : Nat) (μ : bz_M) : x_Row_new a0 μ =
    bz_oi μ a0 fun v1 =>
    bz_na μ 20 129 fun v2 μ3 =>
    bz_pR μ3 a0 5 0 v2 fun μ4 =>
    rI 0 μ4 := (bX_eq _ _ _ _ _).trans rfl
set_option maxRecDepth 100000 in
theorem x_Ean_new_eq (a0 : Nat) (μ : bz_M) : x_Ean_new a0 μ =
    bz_cu (d_Sym_new a0 3 2 4 4 μ) fun μ1 =>
    rI 0 μ1 := (bX_eq _ _ _ _ _).trans rfl
set_option maxRecDepth 100000 in
theorem x_Sym_new_eq (a0 : Nat) (a1 : Int) (a2 : Int) (a3 : Int) (a4 : Int) (μ : bz_M) : x_Sym_new a0 a1 a2 a3 a4 μ =
    bz_oi μ a0 fun v1 =>
    bz_pS μ a0 0 a1 fun μ2 =>
    bz_pS μ2 a0 1 a2 fun μ3 =>
    bz_pS μ3 a0 2 a3 fun μ4 =>
    bz_pS μ4 a0 3 a4 fun μ5 =>
    rI 0 μ5 := (bX_eq _ _ _ _ _).trans rfl
set_option maxRecDepth 100000 in
theorem x_Int_new_eq (a0 : Nat) (μ : bz_M) : x_Int_new a0 μ =
    bz_cu (d_Sym_new a0 4 2 10 7 μ) fun μ1 =>
    rI 0 μ1 := (bX_eq _ _ _ _ _).trans rfl
set_option maxRecDepth 100000 in
theorem x_Cod_new_eq (a0 : Nat) (μ : bz_M) : x_Cod_new a0 μ =
    bz_cu (d_Sym_new a0 8 6 8 14 μ) fun μ1 =>
    rI 0 μ1 := (bX_eq _ _ _ _ _).trans rfl
set_option maxRecDepth 100000 in
theorem x_Tal_new_eq (a0 : Nat) (μ : bz_M) : x_Tal_new a0 μ =
    bz_oi μ a0 fun v1 =>
    bz_na μ 20 320 fun v2 μ3 =>
    bz_pR μ3 a0 8 0 v2 fun μ4 =>
    bz_na μ4 20 17 fun v5 μ6 =>
    bz_pR μ6 a0 8 1 v5 fun μ7 =>
    bz_na μ7 20 16 fun v8 μ9 =>
    bz_pR μ9 a0 8 2 v8 fun μ10 =>
    bz_na μ10 20 16 fun v11 μ12 =>
    bz_pR μ12 a0 8 3 v11 fun μ13 =>
    rI 0 μ13 := (bX_eq _ _ _ _ _).trans rfl
set_option maxRecDepth 100000 in
theorem x_Seq_new_eq (a0 : Nat) (μ : bz_M) : x_Seq_new a0 μ =
    bz_oi μ a0 fun v1 =>
    bz_na μ 20 16 fun v2 μ3 =>
    bz_pR μ3 a0 7 0 v2 fun μ4 =>
    bz_na μ4 20 16 fun v5 μ6 =>
    bz_pR μ6 a0 7 1 v5 fun μ7 =>
    rI 0 μ7 := (bX_eq _ _ _ _ _).trans rfl
set_option maxRecDepth 100000 in
theorem x_Scn_new_eq (a0 : Nat) (μ : bz_M) : x_Scn_new a0 μ =
    bz_oi μ a0 fun v1 =>
    bz_nw μ 5 fun v2 μ3 =>
    bz_cu (d_Row_new v2 μ3) fun μ4 =>
    bz_pR μ4 a0 6 0 v2 fun μ5 =>
    bz_na μ5 25 3 fun v6 μ7 =>
    bz_nw μ7 4 fun v8 μ9 =>
    bz_cu (d_Rdg_new v8 μ9) fun μ10 =>
    bz_wR μ10 v6 0 v8 fun μ11 =>
    bz_nw μ11 4 fun v12 μ13 =>
    bz_cu (d_Rdg_new v12 μ13) fun μ14 =>
    bz_wR μ14 v6 1 v12 fun μ15 =>
    bz_nw μ15 4 fun v16 μ17 =>
    bz_cu (d_Rdg_new v16 μ17) fun μ18 =>
    bz_wR μ18 v6 2 v16 fun μ19 =>
    bz_pR μ19 a0 6 1 v6 fun μ20 =>
    rI 0 μ20 := (bX_eq _ _ _ _ _).trans rfl
set_option maxRecDepth 100000 in
theorem x_Rdg_new_eq (a0 : Nat) (μ : bz_M) : x_Rdg_new a0 μ =
    bz_oi μ a0 fun v1 =>
    bz_nw μ 7 fun v2 μ3 =>
    bz_cu (d_Seq_new v2 μ3) fun μ4 =>
    bz_pR μ4 a0 4 0 v2 fun μ5 =>
    bz_nw μ5 7 fun v6 μ7 =>
    bz_cu (d_Seq_new v6 μ7) fun μ8 =>
    bz_pR μ8 a0 4 1 v6 fun μ9 =>
    bz_nw μ9 7 fun v10 μ11 =>
    bz_cu (d_Seq_new v10 μ11) fun μ12 =>
    bz_pR μ12 a0 4 2 v10 fun μ13 =>
    rI 0 μ13 := (bX_eq _ _ _ _ _).trans rfl
set_option maxRecDepth 100000 in
theorem x_E_scanCount_eq (a0 : Nat) (μ : bz_M) : x_E_scanCount a0 μ =
    bz_fI μ a0 9 4 fun v1 =>
    rI v1 μ := (bX_eq _ _ _ _ _).trans rfl
set_option maxRecDepth 100000 in
theorem x_E_winner_eq (a0 : Nat) (μ : bz_M) : x_E_winner a0 μ =
    x_E_winner_0 a0 (-1) (-1) 0 μ := (bX_eq _ _ _ _ _).trans rfl
set_option maxRecDepth 100000 in
theorem x_E_winner_0_eq (x0 : Nat) (x1 : Int) (x2 : Int) (x3 : Int) (μ : bz_M) : x_E_winner_0 x0 x1 x2 x3 μ =
    if x3 < 3 then
      bz_cr (d_E_tally x0 x3 μ) fun v2 μ1 =>
      bz_ci (d_E_problemOf x0 v2 x3 μ1) fun v4 μ3 =>
      if v4 = 0 then
        bz_ci (d_Tal_share v2 μ3) fun v6 μ5 =>
        if x2 < v6 then
          bz_ci (d_Tal_share v2 μ5) fun v8 μ7 =>
          x_E_winner_0 x0 x3 v8 (wr (x3 + 1)) μ7
        else
        x_E_winner_0 x0 x1 x2 (wr (x3 + 1)) μ5
      else
      x_E_winner_0 x0 x1 x2 (wr (x3 + 1)) μ3
    else
    rI x1 μ := (bX_eq _ _ _ _ _).trans rfl
set_option maxRecDepth 100000 in
theorem x_E_tally_eq (a0 : Nat) (a1 : Int) (μ : bz_M) : x_E_tally a0 a1 μ =
    bz_cv (x_E_requireSymbology a1 μ) fun μ1 =>
    bz_fR μ1 a0 9 6 fun v2 =>
    bz_rR μ1 v2 a1 fun v3 =>
    bz_fI μ1 v3 8 5 fun v4 =>
    if v4 = 0 then
      bz_fR μ1 a0 9 5 fun v5 =>
      bz_rR μ1 v5 a1 fun v6 =>
      x_E_tally_0 a0 a1 v3 v6 0 μ1
    else
    rR v3 μ1 := (bX_eq _ _ _ _ _).trans rfl
set_option maxRecDepth 100000 in
theorem x_E_tally_0_eq (x0 : Nat) (x1 : Int) (x2 : Nat) (x3 : Nat) (x4 : Int) (μ : bz_M) : x_E_tally_0 x0 x1 x2 x3 x4 μ =
    bz_fI μ x0 9 4 fun v1 =>
    if x4 < v1 then
      bz_fR μ x0 9 3 fun v2 =>
      bz_rR μ v2 x4 fun v3 =>
      bz_fR μ v3 6 0 fun v4 =>
      bz_fR μ x0 9 9 fun v5 =>
      bz_fR μ x0 9 3 fun v6 =>
      bz_rR μ v6 x4 fun v7 =>
      bz_fR μ v7 6 1 fun v8 =>
      bz_rR μ v8 x1 fun v9 =>
      bz_cu (d_Sym_interpret x3 v4 v5 v9 μ) fun μ10 =>
      x_E_tally_0 x0 x1 x2 x3 (wr (x4 + 1)) μ10
    else
    bz_fR μ x0 9 3 fun v11 =>
    bz_fI μ x0 9 4 fun v12 =>
    bz_cv (d_Tal_recount x2 x3 x1 v11 v12 μ) fun μ13 =>
    rR x2 μ13 := (bX_eq _ _ _ _ _).trans rfl
set_option maxRecDepth 100000 in
theorem x_E_requireSymbology_eq (a0 : Int) (μ : bz_M) : x_E_requireSymbology a0 μ =
    if a0 < 0 then rX 2 (sX μ) else
    if a0 < 3 then rI 0 μ else
    rX 2 (sX μ) := (bX_eq _ _ _ _ _).trans rfl
set_option maxRecDepth 100000 in
theorem x_Sym_interpret_eq (a0 : Nat) (a1 : Nat) (a2 : Nat) (a3 : Nat) (μ : bz_M) : x_Sym_interpret a0 a1 a2 a3 μ =
    bz_fI μ a3 4 3 fun v1 =>
    if v1 = 0 then
      bz_pB μ a3 4 3 1 fun μ2 =>
      bz_cv (d_Rdg_clear a3 μ2) fun μ3 =>
      bz_cn (d_Sym_findWhole a0 a1 a3 μ3) fun v5 μ4 =>
      if v5 = 0 then
        bz_cv (d_Row_copyReversed a2 a1 μ4) fun μ6 =>
        bz_cn (d_Sym_findWhole a0 a2 a3 μ6) fun v8 μ7 =>
        if v8 = 0 then
          bz_cn (d_Sym_findParts a0 a1 a3 μ7) fun v10 μ9 =>
          if v10 = 0 then
            bz_cn (d_Sym_findParts a0 a2 a3 μ9) fun v12 μ11 =>
            bz_pB μ11 a3 4 4 v12 fun μ13 =>
            rI 0 μ13
          else
          rI 0 μ9
        else
        bz_fI μ7 a1 5 1 fun v14 =>
        bz_cv (d_Rdg_turn a3 v14 μ7) fun μ15 =>
        rI 0 μ15
      else
      rI 0 μ4
    else
    rI 0 μ := (bX_eq _ _ _ _ _).trans rfl
set_option maxRecDepth 100000 in
theorem x_Rdg_clear_eq (a0 : Nat) (μ : bz_M) : x_Rdg_clear a0 μ =
    bz_fR μ a0 4 0 fun v1 =>
    bz_pI μ v1 7 2 0 fun μ2 =>
    bz_fR μ2 a0 4 1 fun v3 =>
    bz_pI μ2 v3 7 2 0 fun μ4 =>
    bz_fR μ4 a0 4 2 fun v5 =>
    bz_pI μ4 v5 7 2 0 fun μ6 =>
    bz_pB μ6 a0 4 4 0 fun μ7 =>
    bz_pI μ7 a0 4 5 0 fun μ8 =>
    bz_pI μ8 a0 4 6 0 fun μ9 =>
    rI 0 μ9 := (bX_eq _ _ _ _ _).trans rfl
set_option maxRecDepth 100000 in
theorem x_Sym_findWhole_eq (a0 : Nat) (a1 : Nat) (a2 : Nat) (μ : bz_M) : x_Sym_findWhole a0 a1 a2 μ =
    x_Sym_findWhole_0 a0 a1 a2 1 μ := (bX_eq _ _ _ _ _).trans rfl
set_option maxRecDepth 100000 in
theorem x_Sym_findWhole_0_eq (x0 : Nat) (x1 : Nat) (x2 : Nat) (x3 : Int) (μ : bz_M) : x_Sym_findWhole_0 x0 x1 x2 x3 μ =
    bz_fI μ x1 5 1 fun v1 =>
    if x3 < v1 then
      bz_cn (d_Sym_beginsAt x0 x1 x3 μ) fun v3 μ2 =>
      if v3 = 0 then x_Sym_findWhole_0 x0 x1 x2 (wr (x3 + 2)) μ2 else
      bz_fR μ2 x2 4 0 fun v4 =>
      bz_cn (d_Sym_addWhole x0 x1 x3 v4 μ2) fun v6 μ5 =>
      if v6 = (-1) then x_Sym_findWhole_0 x0 x1 x2 (wr (x3 + 2)) μ5 else
      bz_pI μ5 x2 4 5 x3 fun μ7 =>
      bz_pI μ7 x2 4 6 v6 fun μ8 =>
      rI 1 μ8
    else
    bz_fR μ x2 4 0 fun v9 =>
    bz_pI μ v9 7 2 0 fun μ10 =>
    rI 0 μ10 := (bX_eq _ _ _ _ _).trans rfl
set_option maxRecDepth 100000 in
theorem x_Cod_beginsAt_eq (a0 : Nat) (a1 : Nat) (a2 : Int) (μ : bz_M) : x_Cod_beginsAt a0 a1 a2 μ =
    bz_ci (d_Row_match a1 a2 1 7 4 μ) fun v2 μ1 =>
    if v2 < 16 then rI 0 μ1 else
    bz_ci (d_Row_isQuiet a1 (wr (a2 - 1)) a2 7 μ1) fun v4 μ3 =>
    if v4 = 0 then rI 0 μ3 else
    rI 1 μ3 := (bX_eq _ _ _ _ _).trans rfl
set_option maxRecDepth 100000 in
theorem x_Row_match_eq (a0 : Nat) (a1 : Int) (a2 : Int) (a3 : Int) (a4 : Nat) (μ : bz_M) : x_Row_match a0 a1 a2 a3 a4 μ =
    if a1 < 0 then rI (-1) μ else
    if wr (a1 + (wr (a2 * (wr (a3 - 1))))) < a1 then rI (-1) μ else
    bz_fI μ a0 5 1 fun v1 =>
    if wr (a1 + (wr (a2 * (wr (a3 - 1))))) < v1 then
      bz_fR μ a0 5 0 fun v2 =>
      bz_rI μ v2 a1 fun v3 =>
      x_Row_match_0 a0 a1 a2 a4 (wr (a1 + (wr (a2 * (wr (a3 - 1)))))) v3 v3 a1 μ
    else
    rI (-1) μ := (bX_eq _ _ _ _ _).trans rfl
set_option maxRecDepth 100000 in
theorem x_Row_match_0_eq (x0 : Nat) (x1 : Int) (x2 : Int) (x4 : Nat) (x5 : Int) (x6 : Int) (x7 : Int) (x8 : Int) (μ : bz_M) : x_Row_match_0 x0 x1 x2 x4 x5 x6 x7 x8 μ =
    if x5 < x8 then
      if wr (2 * x7) < wr (3 * x6) then rI (-1) μ else
      x_Row_match_1 x0 x2 x4 x5 x6 x7 0 x7 x6 x1 μ
    else
    bz_fR μ x0 5 0 fun v1 =>
    bz_rI μ v1 x8 fun v2 =>
    if v2 < x6 then
      bz_fR μ x0 5 0 fun v3 =>
      bz_rI μ v3 x8 fun v4 =>
      bz_fR μ x0 5 0 fun v5 =>
      bz_rI μ v5 x8 fun v6 =>
      if x7 < v6 then
        bz_fR μ x0 5 0 fun v7 =>
        bz_rI μ v7 x8 fun v8 =>
        x_Row_match_0 x0 x1 x2 x4 x5 v4 v8 (wr (x8 + x2)) μ
      else
      x_Row_match_0 x0 x1 x2 x4 x5 v4 x7 (wr (x8 + x2)) μ
    else
    bz_fR μ x0 5 0 fun v9 =>
    bz_rI μ v9 x8 fun v10 =>
    if x7 < v10 then
      bz_fR μ x0 5 0 fun v11 =>
      bz_rI μ v11 x8 fun v12 =>
      x_Row_match_0 x0 x1 x2 x4 x5 x6 v12 (wr (x8 + x2)) μ
    else
    x_Row_match_0 x0 x1 x2 x4 x5 x6 x7 (wr (x8 + x2)) μ := (bX_eq _ _ _ _ _).trans rfl
set_option maxRecDepth 100000 in
theorem x_Row_match_1_eq (x0 : Nat) (x2 : Int) (x4 : Nat) (x5 : Int) (x6 : Int) (x7 : Int) (x8 : Int) (x9 : Int) (x10 : Int) (x11 : Int) (μ : bz_M) : x_Row_match_1 x0 x2 x4 x5 x6 x7 x8 x9 x10 x11 μ =
    if x5 < x11 then
      if x9 < 1 then
        bz_pI μ x0 5 2 0 fun μ1 =>
        x_Row_match_2 x4 x8 0 μ1
      else
      bz_dv (wr (150 * (wr (x9 - x10)))) x9 fun v2 =>
      if (100 : Int) < v2 then
        bz_pI μ x0 5 2 100 fun μ3 =>
        x_Row_match_2 x4 x8 0 μ3
      else
      bz_pI μ x0 5 2 v2 fun μ4 =>
      x_Row_match_2 x4 x8 0 μ4
    else
    bz_fR μ x0 5 0 fun v5 =>
    bz_rI μ v5 x11 fun v6 =>
    if wr (x6 + x7) < wr (2 * v6) then
      if v6 < x9 then x_Row_match_1 x0 x2 x4 x5 x6 x7 (wr ((wr (2 * x8)) + 1)) v6 x10 (wr (x11 + x2)) μ else
      x_Row_match_1 x0 x2 x4 x5 x6 x7 (wr ((wr (2 * x8)) + 1)) x9 x10 (wr (x11 + x2)) μ
    else
    if x10 < v6 then x_Row_match_1 x0 x2 x4 x5 x6 x7 (wr (2 * x8)) x9 v6 (wr (x11 + x2)) μ else
    x_Row_match_1 x0 x2 x4 x5 x6 x7 (wr (2 * x8)) x9 x10 (wr (x11 + x2)) μ := (bX_eq _ _ _ _ _).trans rfl
set_option maxRecDepth 100000 in
theorem x_Row_match_2_eq (x4 : Nat) (x8 : Int) (x12 : Int) (μ : bz_M) : x_Row_match_2 x4 x8 x12 μ =
    bz_al μ x4 fun v1 =>
    if x12 < v1 then
      bz_rI μ x4 x12 fun v2 =>
      if v2 = x8 then rI x12 μ else
      x_Row_match_2 x4 x8 (wr (x12 + 1)) μ
    else
    rI (-1) μ := (bX_eq _ _ _ _ _).trans rfl
set_option maxRecDepth 100000 in
theorem x_Row_isQuiet_eq (a0 : Nat) (a1 : Int) (a2 : Int) (a3 : Int) (μ : bz_M) : x_Row_isQuiet a0 a1 a2 a3 μ =
    if a1 < 0 then rI 0 μ else
    bz_fI μ a0 5 1 fun v1 =>
    if a1 < v1 then
      if a2 < 0 then rI 0 μ else
      if a3 < 1 then rI 0 μ else
      bz_fI μ a0 5 1 fun v2 =>
      if v2 < wr (a2 + a3) then rI 0 μ else
      bz_fR μ a0 5 0 fun v3 =>
      bz_rI μ v3 a2 fun v4 =>
      x_Row_isQuiet_0 a0 a1 a2 a3 v4 a2 μ
    else
    rI 0 μ := (bX_eq _ _ _ _ _).trans rfl
set_option maxRecDepth 100000 in
theorem x_Row_isQuiet_0_eq (x0 : Nat) (x1 : Int) (x2 : Int) (x3 : Int) (x4 : Int) (x5 : Int) (μ : bz_M) : x_Row_isQuiet_0 x0 x1 x2 x3 x4 x5 μ =
    if x5 < wr (x2 + x3) then
      bz_fR μ x0 5 0 fun v1 =>
      bz_rI μ v1 x5 fun v2 =>
      if v2 < x4 then
        bz_fR μ x0 5 0 fun v3 =>
        bz_rI μ v3 x5 fun v4 =>
        x_Row_isQuiet_0 x0 x1 x2 x3 v4 (wr (x5 + 1)) μ
      else
      x_Row_isQuiet_0 x0 x1 x2 x3 x4 (wr (x5 + 1)) μ
    else
    bz_fR μ x0 5 0 fun v5 =>
    bz_rI μ v5 x1 fun v6 =>
    if v6 < wr (5 * x4) then rI 0 μ else
    rI 1 μ := (bX_eq _ _ _ _ _).trans rfl
set_option maxRecDepth 100000 in
theorem x_Ean_beginsAt_eq (a0 : Nat) (a1 : Nat) (a2 : Int) (μ : bz_M) : x_Ean_beginsAt a0 a1 a2 μ =
    bz_ci (d_Row_isEven a1 a2 3 μ) fun v2 μ1 =>
    if v2 = 0 then rI 0 μ1 else
    bz_ci (d_Row_isQuiet a1 (wr (a2 - 1)) a2 3 μ1) fun v4 μ3 =>
    if v4 = 0 then rI 0 μ3 else
    rI 1 μ3 := (bX_eq _ _ _ _ _).trans rfl
set_option maxRecDepth 100000 in
theorem x_Row_isEven_eq (a0 : Nat) (a1 : Int) (a2 : Int) (μ : bz_M) : x_Row_isEven a0 a1 a2 μ =
    if a1 < 0 then rI 0 μ else
    if a2 < 1 then rI 0 μ else
    bz_fI μ a0 5 1 fun v1 =>
    if v1 < wr (a1 + a2) then rI 0 μ else
    bz_fR μ a0 5 0 fun v2 =>
    bz_rI μ v2 a1 fun v3 =>
    x_Row_isEven_0 a0 a1 a2 v3 v3 a1 μ := (bX_eq _ _ _ _ _).trans rfl
set_option maxRecDepth 100000 in
theorem x_Row_isEven_0_eq (x0 : Nat) (x1 : Int) (x2 : Int) (x3 : Int) (x4 : Int) (x5 : Int) (μ : bz_M) : x_Row_isEven_0 x0 x1 x2 x3 x4 x5 μ =
    if x5 < wr (x1 + x2) then
      bz_fR μ x0 5 0 fun v1 =>
      bz_rI μ v1 x5 fun v2 =>
      if v2 < x3 then
        bz_fR μ x0 5 0 fun v3 =>
        bz_rI μ v3 x5 fun v4 =>
        bz_fR μ x0 5 0 fun v5 =>
        bz_rI μ v5 x5 fun v6 =>
        if x4 < v6 then
          bz_fR μ x0 5 0 fun v7 =>
          bz_rI μ v7 x5 fun v8 =>
          x_Row_isEven_0 x0 x1 x2 v4 v8 (wr (x5 + 1)) μ
        else
        x_Row_isEven_0 x0 x1 x2 v4 x4 (wr (x5 + 1)) μ
      else
      bz_fR μ x0 5 0 fun v9 =>
      bz_rI μ v9 x5 fun v10 =>
      if x4 < v10 then
        bz_fR μ x0 5 0 fun v11 =>
        bz_rI μ v11 x5 fun v12 =>
        x_Row_isEven_0 x0 x1 x2 x3 v12 (wr (x5 + 1)) μ
      else
      x_Row_isEven_0 x0 x1 x2 x3 x4 (wr (x5 + 1)) μ
    else
    if wr (2 * x3) < x4 then rI 0 μ else
    rI 1 μ := (bX_eq _ _ _ _ _).trans rfl
set_option maxRecDepth 100000 in
theorem x_Int_beginsAt_eq (a0 : Nat) (a1 : Nat) (a2 : Int) (μ : bz_M) : x_Int_beginsAt a0 a1 a2 μ =
    bz_ci (d_Row_isEven a1 a2 4 μ) fun v2 μ1 =>
    if v2 = 0 then rI 0 μ1 else
    bz_ci (d_Row_isQuiet a1 (wr (a2 - 1)) a2 4 μ1) fun v4 μ3 =>
    if v4 = 0 then rI 0 μ3 else
    rI 1 μ3 := (bX_eq _ _ _ _ _).trans rfl
set_option maxRecDepth 100000 in
theorem x_Ean_addWhole_eq (a0 : Nat) (a1 : Nat) (a2 : Int) (a3 : Nat) (μ : bz_M) : x_Ean_addWhole a0 a1 a2 a3 μ =
    bz_pI μ a3 7 2 0 fun μ1 =>
    bz_fS μ1 a0 0 fun v2 =>
    x_Ean_addWhole_0 a0 a1 a3 (wr (a2 + v2)) 0 μ1 := (bX_eq _ _ _ _ _).trans rfl
set_option maxRecDepth 100000 in
theorem x_Ean_addWhole_0_eq (x0 : Nat) (x1 : Nat) (x3 : Nat) (x4 : Int) (x5 : Int) (μ : bz_M) : x_Ean_addWhole_0 x0 x1 x3 x4 x5 μ =
    if x5 < 8 then
      if x5 = 4 then
        bz_ci (d_Row_isEven x1 x4 5 μ) fun v2 μ1 =>
        if v2 = 0 then rI (-1) μ1 else
        bz_ci (d_Ean_addUnit x0 x1 (wr (x4 + 5)) x3 μ1) fun v4 μ3 =>
        if v4 = 0 then rI (-1) μ3 else
        bz_fS μ3 x0 2 fun v5 =>
        x_Ean_addWhole_0 x0 x1 x3 (wr ((wr (x4 + 5)) + v5)) (wr (x5 + 1)) μ3
      else
      bz_ci (d_Ean_addUnit x0 x1 x4 x3 μ) fun v7 μ6 =>
      if v7 = 0 then rI (-1) μ6 else
      bz_fS μ6 x0 2 fun v8 =>
      x_Ean_addWhole_0 x0 x1 x3 (wr (x4 + v8)) (wr (x5 + 1)) μ6
    else
    bz_fS μ x0 1 fun v9 =>
    bz_ci (d_Ean_endsAt x0 x1 (wr (x4 + v9)) μ) fun v11 μ10 =>
    if v11 = 0 then rI (-1) μ10 else
    bz_fS μ10 x0 1 fun v12 =>
    rI (wr (x4 + v12)) μ10 := (bX_eq _ _ _ _ _).trans rfl
set_option maxHeartbeats 16000000 in
set_option maxRecDepth 100000 in
theorem x_Ean_addUnit_eq (a0 : Nat) (a1 : Nat) (a2 : Int) (a3 : Nat) (μ : bz_M) : x_Ean_addUnit a0 a1 a2 a3 μ =
    bz_ci (d_Row_has a1 a2 4 μ) fun v2 μ1 =>
    if v2 = 0 then rI 0 μ1 else
    bz_fR μ1 a1 5 0 fun v3 =>
    bz_rI μ1 v3 a2 fun v4 =>
    bz_fR μ1 a1 5 0 fun v5 =>
    bz_rI μ1 v5 (wr (a2 + 1)) fun v6 =>
    bz_fR μ1 a1 5 0 fun v7 =>
    bz_rI μ1 v7 (wr (a2 + 1)) fun v8 =>
    bz_fR μ1 a1 5 0 fun v9 =>
    bz_rI μ1 v9 (wr (a2 + 2)) fun v10 =>
    bz_fR μ1 a1 5 0 fun v11 =>
    bz_rI μ1 v11 (wr (a2 + 2)) fun v12 =>
    bz_fR μ1 a1 5 0 fun v13 =>
    bz_rI μ1 v13 (wr (a2 + 3)) fun v14 =>
    if wr ((wr ((wr (v4 + v6)) + v12)) + v14) < 1 then rI 0 μ1 else
    bz_dv (wr ((wr (14 * (wr (v4 + v6)))) + (wr ((wr ((wr (v4 + v6)) + v12)) + v14)))) (wr (2 * (wr ((wr ((wr (v4 + v6)) + v12)) + v14)))) fun v15 =>
    bz_dv (wr ((wr (14 * (wr (v8 + v10)))) + (wr ((wr ((wr (v4 + v6)) + v12)) + v14)))) (wr (2 * (wr ((wr ((wr (v4 + v6)) + v12)) + v14)))) fun v16 =>
    bz_fR μ1 a1 5 0 fun v17 =>
    bz_rI μ1 v17 a2 fun v18 =>
    bz_fR μ1 a1 5 0 fun v19 =>
    bz_rI μ1 v19 (wr (a2 + 2)) fun v20 =>
    if wr (7 * (wr (v18 + v20))) < wr (3 * (wr ((wr ((wr (v4 + v6)) + v12)) + v14))) then
      bz_ci (x_Ean_digitOf v15 v16 0 μ1) fun v22 μ21 =>
      if v22 = (-1) then rI 0 μ21 else
      bz_ci (x_Mth_abs (wr ((wr (7 * (wr (v4 + v6)))) - (wr (v15 * (wr ((wr ((wr (v4 + v6)) + v12)) + v14)))))) μ21) fun v24 μ23 =>
      bz_ci (x_Mth_abs (wr ((wr (7 * (wr (v8 + v10)))) - (wr (v16 * (wr ((wr ((wr (v4 + v6)) + v12)) + v14)))))) μ23) fun v26 μ25 =>
      bz_ci (x_Mth_max v24 v26 μ25) fun v28 μ27 =>
      bz_dv (wr (200 * v28)) (wr ((wr ((wr (v4 + v6)) + v12)) + v14)) fun v29 =>
      bz_cv (d_Seq_add a3 v22 (wr (100 - v29)) μ27) fun μ30 =>
      rI 1 μ30
    else
    bz_ci (x_Ean_digitOf v15 v16 1 μ1) fun v32 μ31 =>
    if v32 = (-1) then rI 0 μ31 else
    bz_ci (x_Mth_abs (wr ((wr (7 * (wr (v4 + v6)))) - (wr (v15 * (wr ((wr ((wr (v4 + v6)) + v12)) + v14)))))) μ31) fun v34 μ33 =>
    bz_ci (x_Mth_abs (wr ((wr (7 * (wr (v8 + v10)))) - (wr (v16 * (wr ((wr ((wr (v4 + v6)) + v12)) + v14)))))) μ33) fun v36 μ35 =>
    bz_ci (x_Mth_max v34 v36 μ35) fun v38 μ37 =>
    bz_dv (wr (200 * v38)) (wr ((wr ((wr (v4 + v6)) + v12)) + v14)) fun v39 =>
    bz_cv (d_Seq_add a3 v32 (wr (100 - v39)) μ37) fun μ40 =>
    rI 1 μ40 := (bX_eq _ _ _ _ _).trans rfl
set_option maxRecDepth 100000 in
theorem x_Row_has_eq (a0 : Nat) (a1 : Int) (a2 : Int) (μ : bz_M) : x_Row_has a0 a1 a2 μ =
    if a1 < 0 then rI 0 μ else
    bz_fI μ a0 5 1 fun v1 =>
    if v1 < wr (a1 + a2) then rI 0 μ else
    rI 1 μ := (bX_eq _ _ _ _ _).trans rfl
set_option maxRecDepth 100000 in
theorem x_Ean_digitOf_eq (a0 : Int) (a1 : Int) (a2 : Int) (μ : bz_M) : x_Ean_digitOf a0 a1 a2 μ =
    if wr ((wr (10 * a0)) + a1) = 22 then rI 6 μ else
    if wr ((wr (10 * a0)) + a1) = 24 then rI 4 μ else
    if wr ((wr (10 * a0)) + a1) = 33 then
      if a2 = 0 then rI 8 μ else
      rI 2 μ
    else
    if wr ((wr (10 * a0)) + a1) = 35 then rI 5 μ else
    if wr ((wr (10 * a0)) + a1) = 42 then rI 9 μ else
    if wr ((wr (10 * a0)) + a1) = 44 then
      if a2 = 0 then rI 7 μ else
      rI 1 μ
    else
    if wr ((wr (10 * a0)) + a1) = 53 then rI 0 μ else
    if wr ((wr (10 * a0)) + a1) = 55 then rI 3 μ else
    rI (-1) μ := (bX_eq _ _ _ _ _).trans rfl
set_option maxRecDepth 100000 in
theorem x_Mth_abs_eq (a0 : Int) (μ : bz_M) : x_Mth_abs a0 μ =
    if a0 < 0 then rI (wr (-a0)) μ else
    rI a0 μ := (bX_eq _ _ _ _ _).trans rfl
set_option maxRecDepth 100000 in
theorem x_Mth_max_eq (a0 : Int) (a1 : Int) (μ : bz_M) : x_Mth_max a0 a1 μ =
    if a0 < a1 then rI a1 μ else
    rI a0 μ := (bX_eq _ _ _ _ _).trans rfl
set_option maxRecDepth 100000 in
theorem x_Seq_add_eq (a0 : Nat) (a1 : Int) (a2 : Int) (μ : bz_M) : x_Seq_add a0 a1 a2 μ =
    bz_fI μ a0 7 2 fun v1 =>
    bz_fR μ a0 7 0 fun v2 =>
    bz_al μ v2 fun v3 =>
    if v1 < v3 then
      bz_fR μ a0 7 0 fun v4 =>
      bz_fI μ a0 7 2 fun v5 =>
      bz_wI μ v4 v5 a1 fun μ6 =>
      bz_fR μ6 a0 7 1 fun v7 =>
      bz_fI μ6 a0 7 2 fun v8 =>
      bz_wI μ6 v7 v8 a2 fun μ9 =>
      bz_fI μ9 a0 7 2 fun v10 =>
      bz_pI μ9 a0 7 2 (wr (v10 + 1)) fun μ11 =>
      rI 0 μ11
    else
    rI 0 μ := (bX_eq _ _ _ _ _).trans rfl
set_option maxRecDepth 100000 in
theorem x_Ean_endsAt_eq (a0 : Nat) (a1 : Nat) (a2 : Int) (μ : bz_M) : x_Ean_endsAt a0 a1 a2 μ =
    bz_ci (d_Row_isEven a1 (wr (a2 - 2)) 3 μ) fun v2 μ1 =>
    if v2 = 0 then rI 0 μ1 else
    bz_ci (d_Row_isQuiet a1 (wr (a2 + 1)) (wr (a2 - 2)) 3 μ1) fun v4 μ3 =>
    if v4 = 0 then rI 0 μ3 else
    rI 1 μ3 := (bX_eq _ _ _ _ _).trans rfl
set_option maxRecDepth 100000 in
theorem x_Sym_addWhole_eq (a0 : Nat) (a1 : Nat) (a2 : Int) (a3 : Nat) (μ : bz_M) : x_Sym_addWhole a0 a1 a2 a3 μ =
    bz_pI μ a3 7 2 0 fun μ1 =>
    bz_cu (d_Sym_addGuard a0 a1 a2 a3 μ1) fun μ2 =>
    bz_fS μ2 a0 0 fun v3 =>
    x_Sym_addWhole_0 a0 a1 a3 (wr (a2 + v3)) 0 μ2 := (bX_eq _ _ _ _ _).trans rfl
set_option maxRecDepth 100000 in
theorem x_Sym_addWhole_0_eq (x0 : Nat) (x1 : Nat) (x3 : Nat) (x4 : Int) (x5 : Int) (μ : bz_M) : x_Sym_addWhole_0 x0 x1 x3 x4 x5 μ =
    bz_fS μ x0 3 fun v1 =>
    if x5 < v1 then
      bz_cn (d_Sym_addUnit x0 x1 x4 x3 μ) fun v3 μ2 =>
      if v3 = 0 then rI (-1) μ2 else
      bz_fS μ2 x0 2 fun v4 =>
      bz_fS μ2 x0 1 fun v5 =>
      bz_cn (d_Sym_endsAt x0 x1 (wr ((wr (x4 + v4)) + v5)) μ2) fun v7 μ6 =>
      if v7 = 0 then x_Sym_addWhole_0 x0 x1 x3 (wr (x4 + v4)) (wr (x5 + 1)) μ6 else
      bz_cu (d_Sym_addGuard x0 x1 (wr (x4 + v4)) x3 μ6) fun μ8 =>
      bz_fS μ8 x0 1 fun v9 =>
      rI (wr ((wr (x4 + v4)) + v9)) μ8
    else
    rI (-1) μ := (bX_eq _ _ _ _ _).trans rfl
set_option maxRecDepth 100000 in
theorem x_Cod_addGuard_eq (a0 : Nat) (a1 : Nat) (a2 : Int) (a3 : Nat) (μ : bz_M) : x_Cod_addGuard a0 a1 a2 a3 μ =
    bz_ci (d_Row_match a1 a2 1 7 4 μ) fun v2 μ1 =>
    if v2 < 16 then rI 0 μ1 else
    bz_fI μ1 a1 5 2 fun v3 =>
    bz_cv (d_Seq_add a3 v2 v3 μ1) fun μ4 =>
    rI 0 μ4 := (bX_eq _ _ _ _ _).trans rfl
set_option maxRecDepth 100000 in
theorem x_Sym_addGuard_eq (a0 : Nat) (a1 : Nat) (a2 : Int) (a3 : Nat) (μ : bz_M) : x_Sym_addGuard a0 a1 a2 a3 μ =
    rI 0 μ := (bX_eq _ _ _ _ _).trans rfl
set_option maxRecDepth 100000 in
theorem x_Cod_addUnit_eq (a0 : Nat) (a1 : Nat) (a2 : Int) (a3 : Nat) (μ : bz_M) : x_Cod_addUnit a0 a1 a2 a3 μ =
    bz_ci (d_Row_match a1 a2 1 7 4 μ) fun v2 μ1 =>
    if v2 < 0 then rI 0 μ1 else
    if v2 < 16 then
      bz_fI μ1 a1 5 2 fun v3 =>
      bz_cv (d_Seq_add a3 v2 v3 μ1) fun μ4 =>
      rI 1 μ4
    else
    rI 0 μ1 := (bX_eq _ _ _ _ _).trans rfl
set_option maxRecDepth 100000 in
theorem x_Int_addUnit_eq (a0 : Nat) (a1 : Nat) (a2 : Int) (a3 : Nat) (μ : bz_M) : x_Int_addUnit a0 a1 a2 a3 μ =
    bz_ci (d_Row_match a1 a2 2 5 3 μ) fun v2 μ1 =>
    bz_fI μ1 a1 5 2 fun v3 =>
    bz_ci (d_Row_match a1 (wr (a2 + 1)) 2 5 3 μ1) fun v5 μ4 =>
    if v2 = (-1) then rI 0 μ4 else
    if v5 = (-1) then rI 0 μ4 else
    bz_cv (d_Seq_add a3 v2 v3 μ4) fun μ6 =>
    bz_fI μ6 a1 5 2 fun v7 =>
    bz_cv (d_Seq_add a3 v5 v7 μ6) fun μ8 =>
    rI 1 μ8 := (bX_eq _ _ _ _ _).trans rfl
set_option maxRecDepth 100000 in
theorem x_Cod_endsAt_eq (a0 : Nat) (a1 : Nat) (a2 : Int) (μ : bz_M) : x_Cod_endsAt a0 a1 a2 μ =
    bz_ci (d_Row_match a1 (wr (a2 - 6)) 1 7 4 μ) fun v2 μ1 =>
    if v2 < 16 then rI 0 μ1 else
    bz_ci (d_Row_isQuiet a1 (wr (a2 + 1)) (wr (a2 - 6)) 7 μ1) fun v4 μ3 =>
    if v4 = 0 then rI 0 μ3 else
    rI 1 μ3 := (bX_eq _ _ _ _ _).trans rfl
set_option maxRecDepth 100000 in
theorem x_Int_endsAt_eq (a0 : Nat) (a1 : Nat) (a2 : Int) (μ : bz_M) : x_Int_endsAt a0 a1 a2 μ =
    bz_ci (d_Row_has a1 (wr (a2 - 2)) 3 μ) fun v2 μ1 =>
    if v2 = 0 then rI 0 μ1 else
    bz_fR μ1 a1 5 0 fun v3 =>
    bz_rI μ1 v3 (wr (a2 - 2)) fun v4 =>
    bz_fR μ1 a1 5 0 fun v5 =>
    bz_rI μ1 v5 (wr (a2 - 1)) fun v6 =>
    if wr (2 * v4) < wr (3 * v6) then rI 0 μ1 else
    bz_fR μ1 a1 5 0 fun v7 =>
    bz_rI μ1 v7 a2 fun v8 =>
    if wr (2 * v4) < wr (3 * v8) then rI 0 μ1 else
    bz_ci (d_Row_isQuiet a1 (wr (a2 + 1)) (wr (a2 - 2)) 3 μ1) fun v10 μ9 =>
    if v10 = 0 then rI 0 μ9 else
    rI 1 μ9 := (bX_eq _ _ _ _ _).trans rfl
set_option maxRecDepth 100000 in
theorem x_Row_copyReversed_eq (a0 : Nat) (a1 : Nat) (μ : bz_M) : x_Row_copyReversed a0 a1 μ =
    bz_fI μ a1 5 1 fun v1 =>
    bz_pI μ a0 5 1 v1 fun μ2 =>
    x_Row_copyReversed_0 a0 a1 0 μ2 := (bX_eq _ _ _ _ _).trans rfl
set_option maxRecDepth 100000 in
theorem x_Row_copyReversed_0_eq (x0 : Nat) (x1 : Nat) (x2 : Int) (μ : bz_M) : x_Row_copyReversed_0 x0 x1 x2 μ =
    bz_fI μ x0 5 1 fun v1 =>
    if x2 < v1 then
      bz_fR μ x0 5 0 fun v2 =>
      bz_fR μ x1 5 0 fun v3 =>
      bz_fI μ x0 5 1 fun v4 =>
      bz_rI μ v3 (wr ((wr (v4 - 1)) - x2)) fun v5 =>
      bz_wI μ v2 x2 v5 fun μ6 =>
      x_Row_copyReversed_0 x0 x1 (wr (x2 + 1)) μ6
    else
    rI 0 μ := (bX_eq _ _ _ _ _).trans rfl
set_option maxRecDepth 100000 in
theorem x_Rdg_turn_eq (a0 : Nat) (a1 : Int) (μ : bz_M) : x_Rdg_turn a0 a1 μ =
    bz_fI μ a0 4 5 fun v1 =>
    bz_fI μ a0 4 6 fun v2 =>
    bz_pI μ a0 4 5 (wr ((wr (a1 - 1)) - v2)) fun μ3 =>
    bz_pI μ3 a0 4 6 (wr ((wr (a1 - 1)) - v1)) fun μ4 =>
    bz_pB μ4 a0 4 4 1 fun μ5 =>
    rI 0 μ5 := (bX_eq _ _ _ _ _).trans rfl
set_option maxRecDepth 100000 in
theorem x_Sym_findParts_eq (a0 : Nat) (a1 : Nat) (a2 : Nat) (μ : bz_M) : x_Sym_findParts a0 a1 a2 μ =
    bz_fR μ a2 4 1 fun v1 =>
    bz_pI μ v1 7 2 0 fun μ2 =>
    x_Sym_findParts_0 a0 a1 a2 v1 1 μ2 := (bX_eq _ _ _ _ _).trans rfl
set_option maxRecDepth 100000 in
theorem x_Sym_findParts_0_eq (x0 : Nat) (x1 : Nat) (x2 : Nat) (x3 : Nat) (x4 : Int) (μ : bz_M) : x_Sym_findParts_0 x0 x1 x2 x3 x4 μ =
    bz_fI μ x1 5 1 fun v1 =>
    if x4 < v1 then
      bz_fI μ x3 7 2 fun v2 =>
      if v2 < 2 then
        bz_pI μ x3 7 2 0 fun μ3 =>
        bz_cn (d_Sym_beginsAt x0 x1 x4 μ3) fun v5 μ4 =>
        if v5 = 0 then x_Sym_findParts_0 x0 x1 x2 x3 (wr (x4 + 2)) μ4 else
        bz_cu (d_Sym_addHead x0 x1 x4 x3 μ4) fun μ6 =>
        x_Sym_findParts_0 x0 x1 x2 x3 (wr (x4 + 2)) μ6
      else
      bz_fR μ x2 4 2 fun v7 =>
      bz_pI μ v7 7 2 0 fun μ8 =>
      bz_fI μ8 x1 5 1 fun v9 =>
      x_Sym_findParts_1 x0 x1 x3 v7 (wr (v9 - 2)) μ8
    else
    bz_fR μ x2 4 2 fun v10 =>
    bz_pI μ v10 7 2 0 fun μ11 =>
    bz_fI μ11 x1 5 1 fun v12 =>
    x_Sym_findParts_1 x0 x1 x3 v10 (wr (v12 - 2)) μ11 := (bX_eq _ _ _ _ _).trans rfl
set_option maxRecDepth 100000 in
theorem x_Sym_findParts_1_eq (x0 : Nat) (x1 : Nat) (x3 : Nat) (x4 : Nat) (x5 : Int) (μ : bz_M) : x_Sym_findParts_1 x0 x1 x3 x4 x5 μ =
    if (0 : Int) < x5 then
      bz_fI μ x4 7 2 fun v1 =>
      if v1 < 2 then
        bz_pI μ x4 7 2 0 fun μ2 =>
        bz_cn (d_Sym_endsAt x0 x1 x5 μ2) fun v4 μ3 =>
        if v4 = 0 then x_Sym_findParts_1 x0 x1 x3 x4 (wr (x5 + (-2))) μ3 else
        bz_cu (d_Sym_addTail x0 x1 x5 x4 μ3) fun μ5 =>
        x_Sym_findParts_1 x0 x1 x3 x4 (wr (x5 + (-2))) μ5
      else
      bz_fI μ x3 7 2 fun v6 =>
      if v6 < 2 then
        bz_pI μ x3 7 2 0 fun μ7 =>
        bz_fI μ7 x4 7 2 fun v8 =>
        if v8 < 2 then
          bz_pI μ7 x4 7 2 0 fun μ9 =>
          bz_fI μ9 x3 7 2 fun v10 =>
          if (0 : Int) < v10 then rI 1 μ9 else
          bz_fI μ9 x4 7 2 fun v11 =>
          if (0 : Int) < v11 then rI 1 μ9 else
          rI 0 μ9
        else
        bz_fI μ7 x4 7 2 fun v12 =>
        bz_pI μ7 x4 7 2 v12 fun μ13 =>
        bz_fI μ13 x3 7 2 fun v14 =>
        if (0 : Int) < v14 then rI 1 μ13 else
        bz_fI μ13 x4 7 2 fun v15 =>
        if (0 : Int) < v15 then rI 1 μ13 else
        rI 0 μ13
      else
      bz_fI μ x3 7 2 fun v16 =>
      bz_pI μ x3 7 2 v16 fun μ17 =>
      bz_fI μ17 x4 7 2 fun v18 =>
      if v18 < 2 then
        bz_pI μ17 x4 7 2 0 fun μ19 =>
        bz_fI μ19 x3 7 2 fun v20 =>
        if (0 : Int) < v20 then rI 1 μ19 else
        bz_fI μ19 x4 7 2 fun v21 =>
        if (0 : Int) < v21 then rI 1 μ19 else
        rI 0 μ19
      else
      bz_fI μ17 x4 7 2 fun v22 =>
      bz_pI μ17 x4 7 2 v22 fun μ23 =>
      bz_fI μ23 x3 7 2 fun v24 =>
      if (0 : Int) < v24 then rI 1 μ23 else
      bz_fI μ23 x4 7 2 fun v25 =>
      if (0 : Int) < v25 then rI 1 μ23 else
      rI 0 μ23
    else
    bz_fI μ x3 7 2 fun v26 =>
    if v26 < 2 then
      bz_pI μ x3 7 2 0 fun μ27 =>
      bz_fI μ27 x4 7 2 fun v28 =>
      if v28 < 2 then
        bz_pI μ27 x4 7 2 0 fun μ29 =>
        bz_fI μ29 x3 7 2 fun v30 =>
        if (0 : Int) < v30 then rI 1 μ29 else
        bz_fI μ29 x4 7 2 fun v31 =>
        if (0 : Int) < v31 then rI 1 μ29 else
        rI 0 μ29
      else
      bz_fI μ27 x4 7 2 fun v32 =>
      bz_pI μ27 x4 7 2 v32 fun μ33 =>
      bz_fI μ33 x3 7 2 fun v34 =>
      if (0 : Int) < v34 then rI 1 μ33 else
      bz_fI μ33 x4 7 2 fun v35 =>
      if (0 : Int) < v35 then rI 1 μ33 else
      rI 0 μ33
    else
    bz_fI μ x3 7 2 fun v36 =>
    bz_pI μ x3 7 2 v36 fun μ37 =>
    bz_fI μ37 x4 7 2 fun v38 =>
    if v38 < 2 then
      bz_pI μ37 x4 7 2 0 fun μ39 =>
      bz_fI μ39 x3 7 2 fun v40 =>
      if (0 : Int) < v40 then rI 1 μ39 else
      bz_fI μ39 x4 7 2 fun v41 =>
      if (0 : Int) < v41 then rI 1 μ39 else
      rI 0 μ39
    else
    bz_fI μ37 x4 7 2 fun v42 =>
    bz_pI μ37 x4 7 2 v42 fun μ43 =>
    bz_fI μ43 x3 7 2 fun v44 =>
    if (0 : Int) < v44 then rI 1 μ43 else
    bz_fI μ43 x4 7 2 fun v45 =>
    if (0 : Int) < v45 then rI 1 μ43 else
    rI 0 μ43 := (bX_eq _ _ _ _ _).trans rfl
set_option maxRecDepth 100000 in
theorem x_Sym_addHead_eq (a0 : Nat) (a1 : Nat) (a2 : Int) (a3 : Nat) (μ : bz_M) : x_Sym_addHead a0 a1 a2 a3 μ =
    bz_cu (d_Sym_addGuard a0 a1 a2 a3 μ) fun μ1 =>
    bz_fS μ1 a0 0 fun v2 =>
    x_Sym_addHead_0 a0 a1 a3 (wr (a2 + v2)) 0 μ1 := (bX_eq _ _ _ _ _).trans rfl
set_option maxRecDepth 100000 in
theorem x_Sym_addHead_0_eq (x0 : Nat) (x1 : Nat) (x3 : Nat) (x4 : Int) (x5 : Int) (μ : bz_M) : x_Sym_addHead_0 x0 x1 x3 x4 x5 μ =
    bz_fS μ x0 3 fun v1 =>
    if x5 < v1 then
      bz_cn (d_Sym_addUnit x0 x1 x4 x3 μ) fun v3 μ2 =>
      if v3 = 0 then rI 0 μ2 else
      bz_fS μ2 x0 2 fun v4 =>
      x_Sym_addHead_0 x0 x1 x3 (wr (x4 + v4)) (wr (x5 + 1)) μ2
    else
    rI 0 μ := (bX_eq _ _ _ _ _).trans rfl
set_option maxRecDepth 100000 in
theorem x_Sym_addTail_eq (a0 : Nat) (a1 : Nat) (a2 : Int) (a3 : Nat) (μ : bz_M) : x_Sym_addTail a0 a1 a2 a3 μ =
    bz_fS μ a0 1 fun v1 =>
    x_Sym_addTail_0 a0 a1 a3 (wr (a2 - v1)) 0 μ := (bX_eq _ _ _ _ _).trans rfl
set_option maxRecDepth 100000 in
theorem x_Sym_addTail_0_eq (x0 : Nat) (x1 : Nat) (x3 : Nat) (x4 : Int) (x5 : Int) (μ : bz_M) : x_Sym_addTail_0 x0 x1 x3 x4 x5 μ =
    bz_fS μ x0 3 fun v1 =>
    if x5 < v1 then
      bz_fS μ x0 2 fun v2 =>
      bz_cn (d_Sym_addUnit x0 x1 (wr (x4 - v2)) x3 μ) fun v4 μ3 =>
      if v4 = 0 then
        bz_pI μ3 x3 7 2 0 fun μ5 =>
        x_Sym_addTail_1 x0 x1 x3 x4 x5 0 μ5
      else
      bz_fS μ3 x0 2 fun v6 =>
      x_Sym_addTail_0 x0 x1 x3 (wr (x4 - v6)) (wr (x5 + 1)) μ3
    else
    bz_pI μ x3 7 2 0 fun μ7 =>
    x_Sym_addTail_1 x0 x1 x3 x4 x5 0 μ7 := (bX_eq _ _ _ _ _).trans rfl
set_option maxRecDepth 100000 in
theorem x_Sym_addTail_1_eq (x0 : Nat) (x1 : Nat) (x3 : Nat) (x4 : Int) (x5 : Int) (x6 : Int) (μ : bz_M) : x_Sym_addTail_1 x0 x1 x3 x4 x5 x6 μ =
    if x6 < x5 then
      bz_cn (d_Sym_addUnit x0 x1 x4 x3 μ) fun v2 μ1 =>
      bz_fS μ1 x0 2 fun v3 =>
      x_Sym_addTail_1 x0 x1 x3 (wr (x4 + v3)) x5 (wr (x6 + 1)) μ1
    else
    bz_cu (d_Sym_addGuard x0 x1 x4 x3 μ) fun μ4 =>
    rI 0 μ4 := (bX_eq _ _ _ _ _).trans rfl
set_option maxRecDepth 100000 in
theorem x_Tal_recount_eq (a0 : Nat) (a1 : Nat) (a2 : Int) (a3 : Nat) (a4 : Int) (μ : bz_M) : x_Tal_recount a0 a1 a2 a3 a4 μ =
    bz_ci (d_Tal_supportedLength a0 a2 a3 a4 μ) fun v2 μ1 =>
    bz_pI μ1 a0 8 4 v2 fun μ3 =>
    bz_fI μ3 a0 8 4 fun v4 =>
    if v4 = 0 then
      bz_cn (d_Sym_joinedLength a1 a2 a3 a4 μ3) fun v6 μ5 =>
      bz_pI μ5 a0 8 4 v6 fun μ7 =>
      x_Tal_recount_0 a0 a2 a3 a4 0 μ7
    else
    x_Tal_recount_0 a0 a2 a3 a4 0 μ3 := (bX_eq _ _ _ _ _).trans rfl
set_option maxRecDepth 100000 in
theorem x_Tal_recount_0_eq (x0 : Nat) (x2 : Int) (x3 : Nat) (x4 : Int) (x5 : Int) (μ : bz_M) : x_Tal_recount_0 x0 x2 x3 x4 x5 μ =
    bz_fR μ x0 8 0 fun v1 =>
    bz_al μ v1 fun v2 =>
    if x5 < v2 then
      bz_fR μ x0 8 0 fun v3 =>
      bz_wI μ v3 x5 0 fun μ4 =>
      x_Tal_recount_0 x0 x2 x3 x4 (wr (x5 + 1)) μ4
    else
    x_Tal_recount_1 x0 x2 x3 x4 0 μ := (bX_eq _ _ _ _ _).trans rfl
set_option maxRecDepth 100000 in
theorem x_Tal_recount_1_eq (x0 : Nat) (x2 : Int) (x3 : Nat) (x4 : Int) (x5 : Int) (μ : bz_M) : x_Tal_recount_1 x0 x2 x3 x4 x5 μ =
    bz_fR μ x0 8 2 fun v1 =>
    bz_al μ v1 fun v2 =>
    if x5 < v2 then
      bz_fR μ x0 8 2 fun v3 =>
      bz_wI μ v3 x5 0 fun μ4 =>
      x_Tal_recount_1 x0 x2 x3 x4 (wr (x5 + 1)) μ4
    else
    x_Tal_recount_2 x0 x2 x3 x4 0 μ := (bX_eq _ _ _ _ _).trans rfl
set_option maxRecDepth 100000 in
theorem x_Tal_recount_2_eq (x0 : Nat) (x2 : Int) (x3 : Nat) (x4 : Int) (x5 : Int) (μ : bz_M) : x_Tal_recount_2 x0 x2 x3 x4 x5 μ =
    if x5 < x4 then
      bz_rR μ x3 x5 fun v1 =>
      bz_fR μ v1 6 1 fun v2 =>
      bz_rR μ v2 x2 fun v3 =>
      bz_cv (d_Tal_countVotes x0 v3 μ) fun μ4 =>
      x_Tal_recount_2 x0 x2 x3 x4 (wr (x5 + 1)) μ4
    else
    x_Tal_recount_3 x0 0 μ := (bX_eq _ _ _ _ _).trans rfl
set_option maxRecDepth 100000 in
theorem x_Tal_recount_3_eq (x0 : Nat) (x5 : Int) (μ : bz_M) : x_Tal_recount_3 x0 x5 μ =
    if x5 < 16 then
      bz_fR μ x0 8 3 fun v1 =>
      bz_ci (d_Tal_majorityAt x0 x5 μ) fun v3 μ2 =>
      bz_wI μ2 v1 x5 v3 fun μ4 =>
      x_Tal_recount_3 x0 (wr (x5 + 1)) μ4
    else
    bz_pB μ x0 8 5 1 fun μ5 =>
    rI 0 μ5 := (bX_eq _ _ _ _ _).trans rfl
set_option maxRecDepth 100000 in
theorem x_Tal_supportedLength_eq (a0 : Nat) (a1 : Int) (a2 : Nat) (a3 : Int) (μ : bz_M) : x_Tal_supportedLength a0 a1 a2 a3 μ =
    x_Tal_supportedLength_0 a0 a1 a2 a3 0 μ := (bX_eq _ _ _ _ _).trans rfl
set_option maxRecDepth 100000 in
theorem x_Tal_supportedLength_0_eq (x0 : Nat) (x1 : Int) (x2 : Nat) (x3 : Int) (x4 : Int) (μ : bz_M) : x_Tal_supportedLength_0 x0 x1 x2 x3 x4 μ =
    bz_fR μ x0 8 1 fun v1 =>
    bz_al μ v1 fun v2 =>
    if x4 < v2 then
      bz_fR μ x0 8 1 fun v3 =>
      bz_wI μ v3 x4 0 fun μ4 =>
      x_Tal_supportedLength_0 x0 x1 x2 x3 (wr (x4 + 1)) μ4
    else
    x_Tal_supportedLength_1 x0 x1 x2 x3 0 μ := (bX_eq _ _ _ _ _).trans rfl
set_option maxRecDepth 100000 in
theorem x_Tal_supportedLength_1_eq (x0 : Nat) (x1 : Int) (x2 : Nat) (x3 : Int) (x4 : Int) (μ : bz_M) : x_Tal_supportedLength_1 x0 x1 x2 x3 x4 μ =
    if x4 < x3 then
      bz_rR μ x2 x4 fun v1 =>
      bz_fR μ v1 6 1 fun v2 =>
      bz_rR μ v2 x1 fun v3 =>
      bz_fR μ v3 4 0 fun v4 =>
      bz_fI μ v4 7 2 fun v5 =>
      if (0 : Int) < v5 then
        bz_fI μ v4 7 2 fun v6 =>
        bz_fR μ x0 8 1 fun v7 =>
        bz_al μ v7 fun v8 =>
        if v6 < v8 then
          bz_fR μ x0 8 1 fun v9 =>
          bz_fI μ v4 7 2 fun v10 =>
          bz_rI μ v9 v10 fun v11 =>
          bz_ci (d_Seq_leastConfidence v4 μ) fun v13 μ12 =>
          bz_wI μ12 v9 v10 (wr (v11 + (wr (1 + v13)))) fun μ14 =>
          x_Tal_supportedLength_1 x0 x1 x2 x3 (wr (x4 + 1)) μ14
        else
        x_Tal_supportedLength_1 x0 x1 x2 x3 (wr (x4 + 1)) μ
      else
      x_Tal_supportedLength_1 x0 x1 x2 x3 (wr (x4 + 1)) μ
    else
    x_Tal_supportedLength_2 x0 0 1 μ := (bX_eq _ _ _ _ _).trans rfl
set_option maxRecDepth 100000 in
theorem x_Tal_supportedLength_2_eq (x0 : Nat) (x4 : Int) (x5 : Int) (μ : bz_M) : x_Tal_supportedLength_2 x0 x4 x5 μ =
    bz_fR μ x0 8 1 fun v1 =>
    bz_al μ v1 fun v2 =>
    if x5 < v2 then
      bz_fR μ x0 8 1 fun v3 =>
      bz_rI μ v3 x5 fun v4 =>
      bz_fR μ x0 8 1 fun v5 =>
      bz_rI μ v5 x4 fun v6 =>
      if v6 < v4 then x_Tal_supportedLength_2 x0 x5 (wr (x5 + 1)) μ else
      x_Tal_supportedLength_2 x0 x4 (wr (x5 + 1)) μ
    else
    rI x4 μ := (bX_eq _ _ _ _ _).trans rfl
set_option maxRecDepth 100000 in
theorem x_Seq_leastConfidence_eq (a0 : Nat) (μ : bz_M) : x_Seq_leastConfidence a0 μ =
    x_Seq_leastConfidence_0 a0 100 0 μ := (bX_eq _ _ _ _ _).trans rfl
set_option maxRecDepth 100000 in
theorem x_Seq_leastConfidence_0_eq (x0 : Nat) (x1 : Int) (x2 : Int) (μ : bz_M) : x_Seq_leastConfidence_0 x0 x1 x2 μ =
    bz_fI μ x0 7 2 fun v1 =>
    if x2 < v1 then
      bz_fR μ x0 7 1 fun v2 =>
      bz_rI μ v2 x2 fun v3 =>
      bz_ci (x_Mth_min x1 v3 μ) fun v5 μ4 =>
      x_Seq_leastConfidence_0 x0 v5 (wr (x2 + 1)) μ4
    else
    rI x1 μ := (bX_eq _ _ _ _ _).trans rfl
set_option maxRecDepth 100000 in
theorem x_Mth_min_eq (a0 : Int) (a1 : Int) (μ : bz_M) : x_Mth_min a0 a1 μ =
    if a1 < a0 then rI a1 μ else
    rI a0 μ := (bX_eq _ _ _ _ _).trans rfl
set_option maxRecDepth 100000 in
theorem x_Ean_joinedLength_eq (a0 : Nat) (a1 : Int) (a2 : Nat) (a3 : Int) (μ : bz_M) : x_Ean_joinedLength a0 a1 a2 a3 μ =
    x_Ean_joinedLength_0 a1 a2 a3 0 0 0 μ := (bX_eq _ _ _ _ _).trans rfl
set_option maxRecDepth 100000 in
theorem x_Ean_joinedLength_0_eq (x1 : Int) (x2 : Nat) (x3 : Int) (x4 : Int) (x5 : Int) (x6 : Int) (μ : bz_M) : x_Ean_joinedLength_0 x1 x2 x3 x4 x5 x6 μ =
    if x6 < x3 then
      if x4 = 0 then
        bz_rR μ x2 x6 fun v1 =>
        bz_fR μ v1 6 1 fun v2 =>
        bz_rR μ v2 x1 fun v3 =>
        bz_fR μ v3 4 1 fun v4 =>
        bz_fI μ v4 7 2 fun v5 =>
        if (0 : Int) < v5 then
          if x5 = 0 then
            bz_rR μ x2 x6 fun v6 =>
            bz_fR μ v6 6 1 fun v7 =>
            bz_rR μ v7 x1 fun v8 =>
            bz_fR μ v8 4 2 fun v9 =>
            bz_fI μ v9 7 2 fun v10 =>
            if (0 : Int) < v10 then x_Ean_joinedLength_0 x1 x2 x3 1 1 (wr (x6 + 1)) μ else
            x_Ean_joinedLength_0 x1 x2 x3 1 0 (wr (x6 + 1)) μ
          else
          x_Ean_joinedLength_0 x1 x2 x3 1 1 (wr (x6 + 1)) μ
        else
        if x5 = 0 then
          bz_rR μ x2 x6 fun v11 =>
          bz_fR μ v11 6 1 fun v12 =>
          bz_rR μ v12 x1 fun v13 =>
          bz_fR μ v13 4 2 fun v14 =>
          bz_fI μ v14 7 2 fun v15 =>
          if (0 : Int) < v15 then x_Ean_joinedLength_0 x1 x2 x3 0 1 (wr (x6 + 1)) μ else
          x_Ean_joinedLength_0 x1 x2 x3 0 0 (wr (x6 + 1)) μ
        else
        x_Ean_joinedLength_0 x1 x2 x3 0 1 (wr (x6 + 1)) μ
      else
      if x5 = 0 then
        bz_rR μ x2 x6 fun v16 =>
        bz_fR μ v16 6 1 fun v17 =>
        bz_rR μ v17 x1 fun v18 =>
        bz_fR μ v18 4 2 fun v19 =>
        bz_fI μ v19 7 2 fun v20 =>
        if (0 : Int) < v20 then x_Ean_joinedLength_0 x1 x2 x3 1 1 (wr (x6 + 1)) μ else
        x_Ean_joinedLength_0 x1 x2 x3 1 0 (wr (x6 + 1)) μ
      else
      x_Ean_joinedLength_0 x1 x2 x3 1 1 (wr (x6 + 1)) μ
    else
    if x4 = 0 then rI 0 μ else
    if x5 = 0 then rI 0 μ else
    rI 8 μ := (bX_eq _ _ _ _ _).trans rfl
set_option maxRecDepth 100000 in
theorem x_Sym_joinedLength_eq (a0 : Nat) (a1 : Int) (a2 : Nat) (a3 : Int) (μ : bz_M) : x_Sym_joinedLength a0 a1 a2 a3 μ =
    x_Sym_joinedLength_0 a0 a1 a2 a3 (-1) 0 0 μ := (bX_eq _ _ _ _ _).trans rfl
set_option maxRecDepth 100000 in
theorem x_Sym_joinedLength_0_eq (x0 : Nat) (x1 : Int) (x2 : Nat) (x3 : Int) (x4 : Int) (x5 : Int) (x6 : Int) (μ : bz_M) : x_Sym_joinedLength_0 x0 x1 x2 x3 x4 x5 x6 μ =
    if x6 < x3 then
      bz_rR μ x2 x6 fun v1 =>
      bz_fR μ v1 6 1 fun v2 =>
      bz_rR μ v2 x1 fun v3 =>
      bz_fR μ v3 4 1 fun v4 =>
      x_Sym_joinedLength_1 x0 x1 x2 x3 x4 x5 x6 v4 0 μ
    else
    rI x5 μ := (bX_eq _ _ _ _ _).trans rfl
set_option maxRecDepth 100000 in
theorem x_Sym_joinedLength_1_eq (x0 : Nat) (x1 : Int) (x2 : Nat) (x3 : Int) (x4 : Int) (x5 : Int) (x6 : Int) (x7 : Nat) (x8 : Int) (μ : bz_M) : x_Sym_joinedLength_1 x0 x1 x2 x3 x4 x5 x6 x7 x8 μ =
    if x8 < x3 then
      bz_rR μ x2 x8 fun v1 =>
      bz_fR μ v1 6 1 fun v2 =>
      bz_rR μ v2 x1 fun v3 =>
      bz_fR μ v3 4 2 fun v4 =>
      if x6 = x8 then
        if x4 < (-1) then
          bz_fI μ x7 7 2 fun v5 =>
          bz_fI μ v4 7 2 fun v6 =>
          x_Sym_joinedLength_1 x0 x1 x2 x3 (-1) (wr ((wr (v5 + v6)) - (-1))) x6 x7 (wr (x8 + 1)) μ
        else
        x_Sym_joinedLength_1 x0 x1 x2 x3 x4 x5 x6 x7 (wr (x8 + 1)) μ
      else
      bz_cn (d_Sym_seam x0 x7 v4 μ) fun v8 μ7 =>
      if x4 < v8 then
        bz_fI μ7 x7 7 2 fun v9 =>
        bz_fI μ7 v4 7 2 fun v10 =>
        x_Sym_joinedLength_1 x0 x1 x2 x3 v8 (wr ((wr (v9 + v10)) - v8)) x6 x7 (wr (x8 + 1)) μ7
      else
      x_Sym_joinedLength_1 x0 x1 x2 x3 x4 x5 x6 x7 (wr (x8 + 1)) μ7
    else
    x_Sym_joinedLength_0 x0 x1 x2 x3 x4 x5 (wr (x6 + 1)) μ := (bX_eq _ _ _ _ _).trans rfl
set_option maxRecDepth 100000 in
theorem x_Ean_seam_eq (a0 : Nat) (a1 : Nat) (a2 : Nat) (μ : bz_M) : x_Ean_seam a0 a1 a2 μ =
    bz_fI μ a1 7 2 fun v1 =>
    if v1 = 4 then
      bz_fI μ a2 7 2 fun v2 =>
      if v2 = 4 then rI 0 μ else
      rI (-1) μ
    else
    rI (-1) μ := (bX_eq _ _ _ _ _).trans rfl
set_option maxRecDepth 100000 in
theorem x_Sym_seam_eq (a0 : Nat) (a1 : Nat) (a2 : Nat) (μ : bz_M) : x_Sym_seam a0 a1 a2 μ =
    bz_fI μ a1 7 2 fun v1 =>
    bz_fI μ a2 7 2 fun v2 =>
    bz_ci (x_Mth_min v1 v2 μ) fun v4 μ3 =>
    x_Sym_seam_0 a0 a1 a2 v4 μ3 := (bX_eq _ _ _ _ _).trans rfl
set_option maxRecDepth 100000 in
theorem x_Sym_seam_0_eq (x0 : Nat) (x1 : Nat) (x2 : Nat) (x3 : Int) (μ : bz_M) : x_Sym_seam_0 x0 x1 x2 x3 μ =
    if x3 < 2 then rI (-1) μ else
    bz_ci (d_Seq_endsLike x1 x2 x3 μ) fun v2 μ1 =>
    if v2 = 0 then x_Sym_seam_0 x0 x1 x2 (wr (x3 + (-1))) μ1 else
    bz_fI μ1 x1 7 2 fun v3 =>
    bz_fI μ1 x2 7 2 fun v4 =>
    bz_cn (d_Sym_hasLength x0 (wr ((wr (v3 + v4)) - x3)) μ1) fun v6 μ5 =>
    if v6 = 0 then x_Sym_seam_0 x0 x1 x2 (wr (x3 + (-1))) μ5 else
    rI x3 μ5 := (bX_eq _ _ _ _ _).trans rfl
set_option maxRecDepth 100000 in
theorem x_Seq_endsLike_eq (a0 : Nat) (a1 : Nat) (a2 : Int) (μ : bz_M) : x_Seq_endsLike a0 a1 a2 μ =
    if a2 < 0 then rI 0 μ else
    bz_fI μ a0 7 2 fun v1 =>
    if v1 < a2 then rI 0 μ else
    bz_fI μ a1 7 2 fun v2 =>
    if v2 < a2 then rI 0 μ else
    x_Seq_endsLike_0 a0 a1 a2 0 μ := (bX_eq _ _ _ _ _).trans rfl
set_option maxRecDepth 100000 in
theorem x_Seq_endsLike_0_eq (x0 : Nat) (x1 : Nat) (x2 : Int) (x3 : Int) (μ : bz_M) : x_Seq_endsLike_0 x0 x1 x2 x3 μ =
    if x3 < x2 then
      bz_fR μ x0 7 0 fun v1 =>
      bz_fI μ x0 7 2 fun v2 =>
      bz_rI μ v1 (wr ((wr (v2 - x2)) + x3)) fun v3 =>
      bz_fR μ x1 7 0 fun v4 =>
      bz_rI μ v4 x3 fun v5 =>
      if v3 = v5 then x_Seq_endsLike_0 x0 x1 x2 (wr (x3 + 1)) μ else
      rI 0 μ
    else
    rI 1 μ := (bX_eq _ _ _ _ _).trans rfl
set_option maxRecDepth 100000 in
theorem x_Cod_hasLength_eq (a0 : Nat) (a1 : Int) (μ : bz_M) : x_Cod_hasLength a0 a1 μ =
    if a1 < 3 then rI 0 μ else
    if (16 : Int) < a1 then rI 0 μ else
    rI 1 μ := (bX_eq _ _ _ _ _).trans rfl
set_option maxRecDepth 100000 in
theorem x_Ean_hasLength_eq (a0 : Nat) (a1 : Int) (μ : bz_M) : x_Ean_hasLength a0 a1 μ =
    if a1 = 8 then rI 1 μ else
    rI 0 μ := (bX_eq _ _ _ _ _).trans rfl
set_option maxRecDepth 100000 in
theorem x_Int_hasLength_eq (a0 : Nat) (a1 : Int) (μ : bz_M) : x_Int_hasLength a0 a1 μ =
    if a1 < 2 then rI 0 μ else
    if (14 : Int) < a1 then rI 0 μ else
    if Int.tmod a1 2 = 0 then rI 1 μ else
    rI 0 μ := (bX_eq _ _ _ _ _).trans rfl
set_option maxRecDepth 100000 in
theorem x_Tal_countVotes_eq (a0 : Nat) (a1 : Nat) (μ : bz_M) : x_Tal_countVotes a0 a1 μ =
    bz_fR μ a1 4 0 fun v1 =>
    bz_fI μ v1 7 2 fun v2 =>
    bz_fI μ a0 8 4 fun v3 =>
    if v2 = v3 then
      bz_fR μ a1 4 0 fun v4 =>
      bz_cv (d_Tal_addVotes a0 v4 0 μ) fun μ5 =>
      bz_fR μ5 a1 4 1 fun v6 =>
      bz_fI μ5 v6 7 2 fun v7 =>
      bz_fI μ5 a0 8 4 fun v8 =>
      if v8 < v7 then
        bz_fR μ5 a1 4 2 fun v9 =>
        bz_fI μ5 v9 7 2 fun v10 =>
        bz_fI μ5 a0 8 4 fun v11 =>
        if v11 < v10 then rI 0 μ5 else
        bz_fR μ5 a1 4 2 fun v12 =>
        bz_fI μ5 a0 8 4 fun v13 =>
        bz_fR μ5 a1 4 2 fun v14 =>
        bz_fI μ5 v14 7 2 fun v15 =>
        bz_cv (d_Tal_addVotes a0 v12 (wr (v13 - v15)) μ5) fun μ16 =>
        rI 0 μ16
      else
      bz_fR μ5 a1 4 1 fun v17 =>
      bz_cv (d_Tal_addVotes a0 v17 0 μ5) fun μ18 =>
      bz_fR μ18 a1 4 2 fun v19 =>
      bz_fI μ18 v19 7 2 fun v20 =>
      bz_fI μ18 a0 8 4 fun v21 =>
      if v21 < v20 then rI 0 μ18 else
      bz_fR μ18 a1 4 2 fun v22 =>
      bz_fI μ18 a0 8 4 fun v23 =>
      bz_fR μ18 a1 4 2 fun v24 =>
      bz_fI μ18 v24 7 2 fun v25 =>
      bz_cv (d_Tal_addVotes a0 v22 (wr (v23 - v25)) μ18) fun μ26 =>
      rI 0 μ26
    else
    bz_fR μ a1 4 1 fun v27 =>
    bz_fI μ v27 7 2 fun v28 =>
    bz_fI μ a0 8 4 fun v29 =>
    if v29 < v28 then
      bz_fR μ a1 4 2 fun v30 =>
      bz_fI μ v30 7 2 fun v31 =>
      bz_fI μ a0 8 4 fun v32 =>
      if v32 < v31 then rI 0 μ else
      bz_fR μ a1 4 2 fun v33 =>
      bz_fI μ a0 8 4 fun v34 =>
      bz_fR μ a1 4 2 fun v35 =>
      bz_fI μ v35 7 2 fun v36 =>
      bz_cv (d_Tal_addVotes a0 v33 (wr (v34 - v36)) μ) fun μ37 =>
      rI 0 μ37
    else
    bz_fR μ a1 4 1 fun v38 =>
    bz_cv (d_Tal_addVotes a0 v38 0 μ) fun μ39 =>
    bz_fR μ39 a1 4 2 fun v40 =>
    bz_fI μ39 v40 7 2 fun v41 =>
    bz_fI μ39 a0 8 4 fun v42 =>
    if v42 < v41 then rI 0 μ39 else
    bz_fR μ39 a1 4 2 fun v43 =>
    bz_fI μ39 a0 8 4 fun v44 =>
    bz_fR μ39 a1 4 2 fun v45 =>
    bz_fI μ39 v45 7 2 fun v46 =>
    bz_cv (d_Tal_addVotes a0 v43 (wr (v44 - v46)) μ39) fun μ47 =>
    rI 0 μ47 := (bX_eq _ _ _ _ _).trans rfl
set_option maxRecDepth 100000 in
theorem x_Tal_addVotes_eq (a0 : Nat) (a1 : Nat) (a2 : Int) (μ : bz_M) : x_Tal_addVotes a0 a1 a2 μ =
    x_Tal_addVotes_0 a0 a1 a2 0 μ := (bX_eq _ _ _ _ _).trans rfl
set_option maxRecDepth 100000 in
theorem x_Tal_addVotes_0_eq (x0 : Nat) (x1 : Nat) (x2 : Int) (x3 : Int) (μ : bz_M) : x_Tal_addVotes_0 x0 x1 x2 x3 μ =
    bz_fI μ x1 7 2 fun v1 =>
    if x3 < v1 then
      bz_fR μ x1 7 0 fun v2 =>
      bz_rI μ v2 x3 fun v3 =>
      if wr (x2 + x3) < 0 then x_Tal_addVotes_0 x0 x1 x2 (wr (x3 + 1)) μ else
      if wr (x2 + x3) < 16 then
        if wr ((wr ((wr (x2 + x3)) * 20)) + v3) < 0 then x_Tal_addVotes_0 x0 x1 x2 (wr (x3 + 1)) μ else
        bz_fR μ x0 8 0 fun v4 =>
        bz_al μ v4 fun v5 =>
        if wr ((wr ((wr (x2 + x3)) * 20)) + v3) < v5 then
          bz_fR μ x0 8 0 fun v6 =>
          bz_rI μ v6 (wr ((wr ((wr (x2 + x3)) * 20)) + v3)) fun v7 =>
          bz_fR μ x1 7 1 fun v8 =>
          bz_rI μ v8 x3 fun v9 =>
          bz_wI μ v6 (wr ((wr ((wr (x2 + x3)) * 20)) + v3)) (wr (v7 + (wr (1 + v9)))) fun μ10 =>
          bz_fR μ10 x0 8 2 fun v11 =>
          bz_rI μ10 v11 (wr (x2 + x3)) fun v12 =>
          bz_fR μ10 x1 7 1 fun v13 =>
          bz_rI μ10 v13 x3 fun v14 =>
          bz_wI μ10 v11 (wr (x2 + x3)) (wr (v12 + (wr (1 + v14)))) fun μ15 =>
          x_Tal_addVotes_0 x0 x1 x2 (wr (x3 + 1)) μ15
        else
        x_Tal_addVotes_0 x0 x1 x2 (wr (x3 + 1)) μ
      else
      x_Tal_addVotes_0 x0 x1 x2 (wr (x3 + 1)) μ
    else
    rI 0 μ := (bX_eq _ _ _ _ _).trans rfl
set_option maxRecDepth 100000 in
theorem x_Tal_majorityAt_eq (a0 : Nat) (a1 : Int) (μ : bz_M) : x_Tal_majorityAt a0 a1 μ =
    x_Tal_majorityAt_0 a0 a1 0 μ := (bX_eq _ _ _ _ _).trans rfl
set_option maxRecDepth 100000 in
theorem x_Tal_majorityAt_0_eq (x0 : Nat) (x1 : Int) (x2 : Int) (μ : bz_M) : x_Tal_majorityAt_0 x0 x1 x2 μ =
    if x2 < 20 then
      bz_ci (d_Tal_weightOf x0 x1 x2 μ) fun v2 μ1 =>
      bz_fR μ1 x0 8 2 fun v3 =>
      bz_rI μ1 v3 x1 fun v4 =>
      if v4 < wr (2 * v2) then rI x2 μ1 else
      x_Tal_majorityAt_0 x0 x1 (wr (x2 + 1)) μ1
    else
    rI (-1) μ := (bX_eq _ _ _ _ _).trans rfl
set_option maxRecDepth 100000 in
theorem x_Tal_weightOf_eq (a0 : Nat) (a1 : Int) (a2 : Int) (μ : bz_M) : x_Tal_weightOf a0 a1 a2 μ =
    if a1 < 0 then rI 0 μ else
    if a1 < 16 then
      if a2 < 0 then rI 0 μ else
      if a2 < 20 then
        bz_fR μ a0 8 0 fun v1 =>
        bz_rI μ v1 (wr ((wr (a1 * 20)) + a2)) fun v2 =>
        rI v2 μ
      else
      rI 0 μ
    else
    rI 0 μ := (bX_eq _ _ _ _ _).trans rfl
set_option maxRecDepth 100000 in
theorem x_E_problemOf_eq (a0 : Nat) (a1 : Nat) (a2 : Int) (μ : bz_M) : x_E_problemOf a0 a1 a2 μ =
    bz_fI μ a1 8 4 fun v1 =>
    if v1 = 0 then rI 1 μ else
    bz_ci (d_Tal_doubts a1 μ) fun v3 μ2 =>
    if (0 : Int) < v3 then rI 2 μ2 else
    bz_fR μ2 a0 9 11 fun v4 =>
    bz_fR μ2 a1 8 3 fun v5 =>
    bz_fI μ2 a1 8 4 fun v6 =>
    bz_cv (d_Seq_copyValues v4 v5 v6 μ2) fun μ7 =>
    bz_fR μ7 a0 9 7 fun v8 =>
    bz_rB μ7 v8 a2 fun v9 =>
    if v9 = 0 then rI 0 μ7 else
    bz_fR μ7 a0 9 5 fun v10 =>
    bz_rR μ7 v10 a2 fun v11 =>
    bz_fR μ7 a0 9 11 fun v12 =>
    bz_cn (d_Sym_isRight v11 v12 μ7) fun v14 μ13 =>
    if v14 = 0 then rI 3 μ13 else
    rI 0 μ13 := (bX_eq _ _ _ _ _).trans rfl
set_option maxRecDepth 100000 in
theorem x_Tal_doubts_eq (a0 : Nat) (μ : bz_M) : x_Tal_doubts a0 μ =
    x_Tal_doubts_0 a0 0 0 μ := (bX_eq _ _ _ _ _).trans rfl
set_option maxRecDepth 100000 in
theorem x_Tal_doubts_0_eq (x0 : Nat) (x1 : Int) (x2 : Int) (μ : bz_M) : x_Tal_doubts_0 x0 x1 x2 μ =
    bz_fI μ x0 8 4 fun v1 =>
    if x2 < v1 then
      bz_fR μ x0 8 3 fun v2 =>
      bz_rI μ v2 x2 fun v3 =>
      if v3 = (-1) then x_Tal_doubts_0 x0 (wr (x1 + 1)) (wr (x2 + 1)) μ else
      x_Tal_doubts_0 x0 x1 (wr (x2 + 1)) μ
    else
    rI x1 μ := (bX_eq _ _ _ _ _).trans rfl
set_option maxRecDepth 100000 in
theorem x_Seq_copyValues_eq (a0 : Nat) (a1 : Nat) (a2 : Int) (μ : bz_M) : x_Seq_copyValues a0 a1 a2 μ =
    bz_pI μ a0 7 2 0 fun μ1 =>
    x_Seq_copyValues_0 a0 a1 a2 0 μ1 := (bX_eq _ _ _ _ _).trans rfl
set_option maxRecDepth 100000 in
theorem x_Seq_copyValues_0_eq (x0 : Nat) (x1 : Nat) (x2 : Int) (x3 : Int) (μ : bz_M) : x_Seq_copyValues_0 x0 x1 x2 x3 μ =
    if x3 < x2 then
      bz_al μ x1 fun v1 =>
      if x3 < v1 then
        bz_rI μ x1 x3 fun v2 =>
        bz_cv (d_Seq_add x0 v2 0 μ) fun μ3 =>
        x_Seq_copyValues_0 x0 x1 x2 (wr (x3 + 1)) μ3
      else
      rI 0 μ
    else
    rI 0 μ := (bX_eq _ _ _ _ _).trans rfl
set_option maxRecDepth 100000 in
theorem x_Cod_isRight_eq (a0 : Nat) (a1 : Nat) (μ : bz_M) : x_Cod_isRight a0 a1 μ =
    x_Cod_isRight_0 a1 0 0 μ := (bX_eq _ _ _ _ _).trans rfl
set_option maxRecDepth 100000 in
theorem x_Cod_isRight_0_eq (x1 : Nat) (x2 : Int) (x3 : Int) (μ : bz_M) : x_Cod_isRight_0 x1 x2 x3 μ =
    bz_fI μ x1 7 2 fun v1 =>
    if x3 < v1 then
      bz_fR μ x1 7 0 fun v2 =>
      bz_rI μ v2 x3 fun v3 =>
      x_Cod_isRight_0 x1 (wr (x2 + v3)) (wr (x3 + 1)) μ
    else
    if Int.tmod x2 16 = 0 then rI 1 μ else
    rI 0 μ := (bX_eq _ _ _ _ _).trans rfl
set_option maxRecDepth 100000 in
theorem x_Sym_isRight_eq (a0 : Nat) (a1 : Nat) (μ : bz_M) : x_Sym_isRight a0 a1 μ =
    x_Sym_isRight_0 a1 0 0 μ := (bX_eq _ _ _ _ _).trans rfl
set_option maxRecDepth 100000 in
theorem x_Sym_isRight_0_eq (x1 : Nat) (x2 : Int) (x3 : Int) (μ : bz_M) : x_Sym_isRight_0 x1 x2 x3 μ =
    bz_fI μ x1 7 2 fun v1 =>
    if x3 < v1 then
      if Int.tmod x3 2 = 0 then
        bz_fR μ x1 7 0 fun v2 =>
        bz_rI μ v2 x3 fun v3 =>
        x_Sym_isRight_0 x1 (wr (x2 + (wr (3 * v3)))) (wr (x3 + 1)) μ
      else
      bz_fR μ x1 7 0 fun v4 =>
      bz_rI μ v4 x3 fun v5 =>
      x_Sym_isRight_0 x1 (wr (x2 + v5)) (wr (x3 + 1)) μ
    else
    if Int.tmod x2 10 = 0 then rI 1 μ else
    rI 0 μ := (bX_eq _ _ _ _ _).trans rfl
set_option maxRecDepth 100000 in
theorem x_Tal_share_eq (a0 : Nat) (μ : bz_M) : x_Tal_share a0 μ =
    x_Tal_share_0 a0 100 0 μ := (bX_eq _ _ _ _ _).trans rfl
set_option maxRecDepth 100000 in
theorem x_Tal_share_0_eq (x0 : Nat) (x1 : Int) (x2 : Int) (μ : bz_M) : x_Tal_share_0 x0 x1 x2 μ =
    bz_fI μ x0 8 4 fun v1 =>
    if x2 < v1 then
      bz_fR μ x0 8 2 fun v2 =>
      bz_rI μ v2 x2 fun v3 =>
      if (0 : Int) < v3 then
        bz_fR μ x0 8 3 fun v4 =>
        bz_rI μ v4 x2 fun v5 =>
        bz_ci (d_Tal_weightOf x0 x2 v5 μ) fun v7 μ6 =>
        bz_fR μ6 x0 8 2 fun v8 =>
        bz_rI μ6 v8 x2 fun v9 =>
        bz_dv (wr (100 * v7)) v9 fun v10 =>
        bz_ci (x_Mth_min x1 v10 μ6) fun v12 μ11 =>
        x_Tal_share_0 x0 v12 (wr (x2 + 1)) μ11
      else
      x_Tal_share_0 x0 x1 (wr (x2 + 1)) μ
    else
    rI x1 μ := (bX_eq _ _ _ _ _).trans rfl
set_option maxRecDepth 100000 in
theorem x_E_append_eq (a0 : Nat) (a1 : Int) (a2 : Int) (a3 : Int) (a4 : Int) (a5 : Int) (μ : bz_M) : x_E_append a0 a1 a2 a3 a4 a5 μ =
    bz_fI μ a0 9 1 fun v1 =>
    if (60 : Int) < wr (v1 + 20) then rX 1 (sX μ) else
    bz_cv (d_E_appendBytes a0 a1 μ) fun μ2 =>
    bz_cv (d_E_appendBytes a0 a2 μ2) fun μ3 =>
    bz_cv (d_E_appendBytes a0 a3 μ3) fun μ4 =>
    bz_cv (d_E_appendBytes a0 a4 μ4) fun μ5 =>
    bz_cv (d_E_appendBytes a0 a5 μ5) fun μ6 =>
    bz_fI μ6 a0 9 1 fun v7 =>
    rI v7 μ6 := (bX_eq _ _ _ _ _).trans rfl
set_option maxRecDepth 100000 in
theorem x_E_appendBytes_eq (a0 : Nat) (a1 : Int) (μ : bz_M) : x_E_appendBytes a0 a1 μ =
    x_E_appendBytes_0 a0 a1 24 μ := (bX_eq _ _ _ _ _).trans rfl
set_option maxRecDepth 100000 in
theorem x_E_appendBytes_0_eq (x0 : Nat) (x1 : Int) (x2 : Int) (μ : bz_M) : x_E_appendBytes_0 x0 x1 x2 μ =
    if x2 < 0 then rI 0 μ else
    bz_fI μ x0 9 1 fun v1 =>
    if v1 < 60 then
      bz_fR μ x0 9 0 fun v2 =>
      bz_fI μ x0 9 1 fun v3 =>
      bz_wI μ v2 v3 (bz_and (bz_ushr x1 x2) 255) fun μ4 =>
      bz_fI μ4 x0 9 1 fun v5 =>
      bz_pI μ4 x0 9 1 (wr (v5 + 1)) fun μ6 =>
      x_E_appendBytes_0 x0 x1 (wr (x2 + (-8))) μ6
    else
    rI 0 μ := (bX_eq _ _ _ _ _).trans rfl
set_option maxRecDepth 100000 in
theorem x_E_print_eq (a0 : Nat) (a1 : Int) (a2 : Int) (a3 : Int) (a4 : Int) (a5 : Int) (μ : bz_M) : x_E_print a0 a1 a2 a3 a4 a5 μ =
    bz_cv (x_E_requireSymbology a1 μ) fun μ1 =>
    bz_cv (d_E_requireTextLength a0 a2 μ1) fun μ2 =>
    if a3 < 4 then rX 3 (sX μ2) else
    if (40 : Int) < a3 then rX 3 (sX μ2) else
    if a4 < (-3) then rX 3 (sX μ2) else
    if (3 : Int) < a4 then rX 3 (sX μ2) else
    bz_fR μ2 a0 9 5 fun v3 =>
    bz_rR μ2 v3 a1 fun v4 =>
    bz_cv (d_E_takeText a0 a2 μ2) fun μ5 =>
    bz_cn (d_Sym_hasLength v4 a2 μ5) fun v7 μ6 =>
    if v7 = 0 then rX 3 (sX μ6) else
    bz_ci (d_E_isCode a0 v4 μ6) fun v9 μ8 =>
    if v9 = 0 then rX 3 (sX μ8) else
    bz_cv (d_E_requireRoomForScan a0 μ8) fun μ10 =>
    bz_fR μ10 a0 9 10 fun v11 =>
    bz_pI μ10 v11 5 1 0 fun μ12 =>
    bz_fR μ12 a0 9 11 fun v13 =>
    bz_fR μ12 a0 9 10 fun v14 =>
    bz_cu (d_Sym_draw v4 v13 v14 μ12) fun μ15 =>
    bz_fR μ15 a0 9 3 fun v16 =>
    bz_fI μ15 a0 9 4 fun v17 =>
    bz_rR μ15 v16 v17 fun v18 =>
    bz_fR μ15 v18 6 0 fun v19 =>
    bz_pI μ15 v19 5 1 0 fun μ20 =>
    bz_fR μ20 v18 6 0 fun v21 =>
    bz_cv (d_Row_add v21 (wr (10 * a3)) μ20) fun μ22 =>
    bz_fR μ22 v18 6 0 fun v23 =>
    bz_cv (d_E_addPrinted a0 v23 a3 a4 a5 μ22) fun μ24 =>
    bz_fR μ24 v18 6 0 fun v25 =>
    bz_cv (d_Row_add v25 (wr (10 * a3)) μ24) fun μ26 =>
    bz_pI μ26 a0 9 1 0 fun μ27 =>
    bz_ci (d_E_keepScan a0 v18 μ27) fun v29 μ28 =>
    rI v29 μ28 := (bX_eq _ _ _ _ _).trans rfl
set_option maxRecDepth 100000 in
theorem x_E_requireTextLength_eq (a0 : Nat) (a1 : Int) (μ : bz_M) : x_E_requireTextLength a0 a1 μ =
    if a1 < 0 then rX 3 (sX μ) else
    bz_fI μ a0 9 1 fun v1 =>
    if v1 < a1 then rX 3 (sX μ) else
    rI 0 μ := (bX_eq _ _ _ _ _).trans rfl
set_option maxRecDepth 100000 in
theorem x_E_takeText_eq (a0 : Nat) (a1 : Int) (μ : bz_M) : x_E_takeText a0 a1 μ =
    bz_fR μ a0 9 11 fun v1 =>
    bz_pI μ v1 7 2 0 fun μ2 =>
    x_E_takeText_0 a0 a1 0 μ2 := (bX_eq _ _ _ _ _).trans rfl
set_option maxRecDepth 100000 in
theorem x_E_takeText_0_eq (x0 : Nat) (x1 : Int) (x2 : Int) (μ : bz_M) : x_E_takeText_0 x0 x1 x2 μ =
    if x2 < x1 then
      if x2 < 60 then
        bz_fR μ x0 9 11 fun v1 =>
        bz_fR μ x0 9 0 fun v2 =>
        bz_rI μ v2 x2 fun v3 =>
        bz_ci (x_E_valueOf v3 μ) fun v5 μ4 =>
        bz_cv (d_Seq_add v1 v5 0 μ4) fun μ6 =>
        x_E_takeText_0 x0 x1 (wr (x2 + 1)) μ6
      else
      rI 0 μ
    else
    rI 0 μ := (bX_eq _ _ _ _ _).trans rfl
set_option maxRecDepth 100000 in
theorem x_E_valueOf_eq (a0 : Int) (μ : bz_M) : x_E_valueOf a0 μ =
    if a0 < 0 then rI (-1) μ else
    if (127 : Int) < a0 then rI (-1) μ else
    bz_ci (d_Str_indexOf 5 (bz_i2c a0) μ) fun v2 μ1 =>
    rI v2 μ1 := (bX_eq _ _ _ _ _).trans rfl
set_option maxRecDepth 100000 in
theorem x_Str_indexOf_eq (a0 : Nat) (a1 : Int) (μ : bz_M) : x_Str_indexOf a0 a1 μ =
    bz_ci (d_Str_indexOf2 a0 a1 0 μ) fun v2 μ1 =>
    rI v2 μ1 := (bX_eq _ _ _ _ _).trans rfl
set_option maxRecDepth 100000 in
theorem x_Str_indexOf2_eq (a0 : Nat) (a1 : Int) (a2 : Int) (μ : bz_M) : x_Str_indexOf2 a0 a1 a2 μ =
    bz_ci (d_Str_isLatin1 a0 μ) fun v2 μ1 =>
    if v2 = 0 then
      bz_fR μ1 a0 28 0 fun v3 =>
      bz_ci (d_Str_length a0 μ1) fun v5 μ4 =>
      none
    else
    bz_fR μ1 a0 28 0 fun v6 =>
    bz_ci (d_Str_length a0 μ1) fun v8 μ7 =>
    bz_ci (x_Lat_indexOf v6 a1 a2 v8 μ7) fun v10 μ9 =>
    rI v10 μ9 := (bX_eq _ _ _ _ _).trans rfl
set_option maxRecDepth 100000 in
theorem x_Str_isLatin1_eq (a0 : Nat) (μ : bz_M) : x_Str_isLatin1 a0 μ =
    bz_fI μ a0 28 1 fun v1 =>
    if v1 = 0 then rI 1 μ else
    rI 0 μ := (bX_eq _ _ _ _ _).trans rfl
set_option maxRecDepth 100000 in
theorem x_Str_length_eq (a0 : Nat) (μ : bz_M) : x_Str_length a0 μ =
    bz_fR μ a0 28 0 fun v1 =>
    bz_al μ v1 fun v2 =>
    bz_ci (d_Str_coder a0 μ) fun v4 μ3 =>
    rI (bz_shr v2 v4) μ3 := (bX_eq _ _ _ _ _).trans rfl
set_option maxRecDepth 100000 in
theorem x_Str_coder_eq (a0 : Nat) (μ : bz_M) : x_Str_coder a0 μ =
    bz_fI μ a0 28 1 fun v1 =>
    bz_zC v1 μ := (bX_eq _ _ _ _ _).trans rfl
set_option maxRecDepth 100000 in
theorem x_Lat_indexOf_eq (a0 : Nat) (a1 : Int) (a2 : Int) (a3 : Int) (μ : bz_M) : x_Lat_indexOf a0 a1 a2 a3 μ =
    bz_ci (x_Lat_canEncode a1 μ) fun v2 μ1 =>
    if v2 = 0 then rI (-1) μ1 else
    bz_ci (x_Mth_max a2 0 μ1) fun v4 μ3 =>
    bz_al μ3 a0 fun v5 =>
    bz_ci (x_Mth_min a3 v5 μ3) fun v7 μ6 =>
    if v4 < v7 then
      bz_ci (x_Lat_indexOfChar a0 a1 v4 v7 μ6) fun v9 μ8 =>
      rI v9 μ8
    else
    rI (-1) μ6 := (bX_eq _ _ _ _ _).trans rfl
set_option maxRecDepth 100000 in
theorem x_Lat_canEncode_eq (a0 : Int) (μ : bz_M) : x_Lat_canEncode a0 μ =
    if a0 < 0 then rI 0 μ else
    if (255 : Int) < a0 then rI 0 μ else
    rI 1 μ := (bX_eq _ _ _ _ _).trans rfl
set_option maxRecDepth 100000 in
theorem x_Lat_indexOfChar_eq (a0 : Nat) (a1 : Int) (a2 : Int) (a3 : Int) (μ : bz_M) : x_Lat_indexOfChar a0 a1 a2 a3 μ =
    x_Lat_indexOfChar_0 a0 a3 (bz_i2b a1) a2 μ := (bX_eq _ _ _ _ _).trans rfl
set_option maxRecDepth 100000 in
theorem x_Lat_indexOfChar_0_eq (x0 : Nat) (x3 : Int) (x4 : Int) (x5 : Int) (μ : bz_M) : x_Lat_indexOfChar_0 x0 x3 x4 x5 μ =
    if x5 < x3 then
      bz_rB μ x0 x5 fun v1 =>
      if v1 = x4 then rI x5 μ else
      x_Lat_indexOfChar_0 x0 x3 x4 (wr (x5 + 1)) μ
    else
    rI (-1) μ := (bX_eq _ _ _ _ _).trans rfl
set_option maxRecDepth 100000 in
theorem x_E_isCode_eq (a0 : Nat) (a1 : Nat) (μ : bz_M) : x_E_isCode a0 a1 μ =
    x_E_isCode_0 a0 a1 0 μ := (bX_eq _ _ _ _ _).trans rfl
set_option maxRecDepth 100000 in
theorem x_E_isCode_0_eq (x0 : Nat) (x1 : Nat) (x2 : Int) (μ : bz_M) : x_E_isCode_0 x0 x1 x2 μ =
    bz_fR μ x0 9 11 fun v1 =>
    bz_fI μ v1 7 2 fun v2 =>
    if x2 < v2 then
      bz_fR μ x0 9 11 fun v3 =>
      bz_fR μ v3 7 0 fun v4 =>
      bz_rI μ v4 x2 fun v5 =>
      bz_fR μ x0 9 11 fun v6 =>
      bz_fI μ v6 7 2 fun v7 =>
      bz_cn (d_Sym_allows x1 v5 x2 v7 μ) fun v9 μ8 =>
      if v9 = 0 then rI 0 μ8 else
      x_E_isCode_0 x0 x1 (wr (x2 + 1)) μ8
    else
    rI 1 μ := (bX_eq _ _ _ _ _).trans rfl
set_option maxRecDepth 100000 in
theorem x_Cod_allows_eq (a0 : Nat) (a1 : Int) (a2 : Int) (a3 : Int) (μ : bz_M) : x_Cod_allows a0 a1 a2 a3 μ =
    if a1 < 16 then
      if a1 < 0 then
        if a2 = 0 then rI 0 μ else
        if a2 = wr (a3 - 1) then rI 0 μ else
        rI 0 μ
      else
      if a1 < 16 then
        if a2 = 0 then rI 0 μ else
        if a2 = wr (a3 - 1) then rI 0 μ else
        rI 1 μ
      else
      if a2 = 0 then rI 0 μ else
      if a2 = wr (a3 - 1) then rI 0 μ else
      rI 0 μ
    else
    if a1 < 20 then
      if a1 < 0 then
        if a2 = 0 then rI 1 μ else
        if a2 = wr (a3 - 1) then rI 1 μ else
        rI 0 μ
      else
      if a1 < 16 then
        if a2 = 0 then rI 1 μ else
        if a2 = wr (a3 - 1) then rI 1 μ else
        rI 1 μ
      else
      if a2 = 0 then rI 1 μ else
      if a2 = wr (a3 - 1) then rI 1 μ else
      rI 0 μ
    else
    if a1 < 0 then
      if a2 = 0 then rI 0 μ else
      if a2 = wr (a3 - 1) then rI 0 μ else
      rI 0 μ
    else
    if a1 < 16 then
      if a2 = 0 then rI 0 μ else
      if a2 = wr (a3 - 1) then rI 0 μ else
      rI 1 μ
    else
    if a2 = 0 then rI 0 μ else
    if a2 = wr (a3 - 1) then rI 0 μ else
    rI 0 μ := (bX_eq _ _ _ _ _).trans rfl
set_option maxRecDepth 100000 in
theorem x_Sym_allows_eq (a0 : Nat) (a1 : Int) (a2 : Int) (a3 : Int) (μ : bz_M) : x_Sym_allows a0 a1 a2 a3 μ =
    if a1 < 0 then rI 0 μ else
    if a1 < 10 then rI 1 μ else
    rI 0 μ := (bX_eq _ _ _ _ _).trans rfl
set_option maxRecDepth 100000 in
theorem x_E_requireRoomForScan_eq (a0 : Nat) (μ : bz_M) : x_E_requireRoomForScan a0 μ =
    bz_fI μ a0 9 4 fun v1 =>
    if v1 < 24 then rI 0 μ else
    rX 1 (sX μ) := (bX_eq _ _ _ _ _).trans rfl
set_option maxRecDepth 100000 in
theorem x_Cod_draw_eq (a0 : Nat) (a1 : Nat) (a2 : Nat) (μ : bz_M) : x_Cod_draw a0 a1 a2 μ =
    x_Cod_draw_0 a1 a2 0 μ := (bX_eq _ _ _ _ _).trans rfl
set_option maxRecDepth 100000 in
theorem x_Cod_draw_0_eq (x1 : Nat) (x2 : Nat) (x3 : Int) (μ : bz_M) : x_Cod_draw_0 x1 x2 x3 μ =
    bz_fI μ x1 7 2 fun v1 =>
    if x3 < v1 then
      if (0 : Int) < x3 then
        bz_cv (d_Row_add x2 1 μ) fun μ2 =>
        bz_fR μ2 x1 7 0 fun v3 =>
        bz_rI μ2 v3 x3 fun v4 =>
        if v4 < 0 then x_Cod_draw_1 x1 x2 x3 0 6 μ2 else
        if v4 < 20 then
          bz_rI μ2 4 v4 fun v5 =>
          x_Cod_draw_1 x1 x2 x3 v5 6 μ2
        else
        x_Cod_draw_1 x1 x2 x3 0 6 μ2
      else
      bz_fR μ x1 7 0 fun v6 =>
      bz_rI μ v6 x3 fun v7 =>
      if v7 < 0 then x_Cod_draw_1 x1 x2 x3 0 6 μ else
      if v7 < 20 then
        bz_rI μ 4 v7 fun v8 =>
        x_Cod_draw_1 x1 x2 x3 v8 6 μ
      else
      x_Cod_draw_1 x1 x2 x3 0 6 μ
    else
    rI 0 μ := (bX_eq _ _ _ _ _).trans rfl
set_option maxRecDepth 100000 in
theorem x_Cod_draw_1_eq (x1 : Nat) (x2 : Nat) (x3 : Int) (x5 : Int) (x6 : Int) (μ : bz_M) : x_Cod_draw_1 x1 x2 x3 x5 x6 μ =
    if x6 < 0 then x_Cod_draw_0 x1 x2 (wr (x3 + 1)) μ else
    if bz_and (bz_shr x5 x6) 1 = 1 then
      bz_cv (d_Row_add x2 3 μ) fun μ1 =>
      x_Cod_draw_1 x1 x2 x3 x5 (wr (x6 + (-1))) μ1
    else
    bz_cv (d_Row_add x2 1 μ) fun μ2 =>
    x_Cod_draw_1 x1 x2 x3 x5 (wr (x6 + (-1))) μ2 := (bX_eq _ _ _ _ _).trans rfl
set_option maxRecDepth 100000 in
theorem x_Row_add_eq (a0 : Nat) (a1 : Int) (μ : bz_M) : x_Row_add a0 a1 μ =
    bz_fI μ a0 5 1 fun v1 =>
    bz_fR μ a0 5 0 fun v2 =>
    bz_al μ v2 fun v3 =>
    if v1 < v3 then
      bz_fR μ a0 5 0 fun v4 =>
      bz_fI μ a0 5 1 fun v5 =>
      bz_wI μ v4 v5 a1 fun μ6 =>
      bz_fI μ6 a0 5 1 fun v7 =>
      bz_pI μ6 a0 5 1 (wr (v7 + 1)) fun μ8 =>
      rI 0 μ8
    else
    rI 0 μ := (bX_eq _ _ _ _ _).trans rfl
set_option maxRecDepth 100000 in
theorem x_Ean_draw_eq (a0 : Nat) (a1 : Nat) (a2 : Nat) (μ : bz_M) : x_Ean_draw a0 a1 a2 μ =
    bz_cv (x_Ean_addOnes a2 3 μ) fun μ1 =>
    x_Ean_draw_0 a1 a2 0 μ1 := (bX_eq _ _ _ _ _).trans rfl
set_option maxRecDepth 100000 in
theorem x_Ean_draw_0_eq (x1 : Nat) (x2 : Nat) (x3 : Int) (μ : bz_M) : x_Ean_draw_0 x1 x2 x3 μ =
    bz_fI μ x1 7 2 fun v1 =>
    if x3 < v1 then
      if x3 = 4 then
        bz_cv (x_Ean_addOnes x2 5 μ) fun μ2 =>
        bz_fR μ2 x1 7 0 fun v3 =>
        bz_rI μ2 v3 x3 fun v4 =>
        x_Ean_draw_1 x1 x2 x3 (wr (4 * v4)) (wr (4 * v4)) μ2
      else
      bz_fR μ x1 7 0 fun v5 =>
      bz_rI μ v5 x3 fun v6 =>
      x_Ean_draw_1 x1 x2 x3 (wr (4 * v6)) (wr (4 * v6)) μ
    else
    bz_cv (x_Ean_addOnes x2 3 μ) fun μ7 =>
    rI 0 μ7 := (bX_eq _ _ _ _ _).trans rfl
set_option maxRecDepth 100000 in
theorem x_Ean_draw_1_eq (x1 : Nat) (x2 : Nat) (x3 : Int) (x4 : Int) (x5 : Int) (μ : bz_M) : x_Ean_draw_1 x1 x2 x3 x4 x5 μ =
    if x5 < wr (x4 + 4) then
      if x5 < 0 then x_Ean_draw_0 x1 x2 (wr (x3 + 1)) μ else
      bz_al μ 2 fun v1 =>
      if x5 < v1 then
        bz_rI μ 2 x5 fun v2 =>
        bz_cv (d_Row_add x2 v2 μ) fun μ3 =>
        x_Ean_draw_1 x1 x2 x3 x4 (wr (x5 + 1)) μ3
      else
      x_Ean_draw_0 x1 x2 (wr (x3 + 1)) μ
    else
    x_Ean_draw_0 x1 x2 (wr (x3 + 1)) μ := (bX_eq _ _ _ _ _).trans rfl
set_option maxRecDepth 100000 in
theorem x_Ean_addOnes_eq (a0 : Nat) (a1 : Int) (μ : bz_M) : x_Ean_addOnes a0 a1 μ =
    x_Ean_addOnes_0 a0 a1 0 μ := (bX_eq _ _ _ _ _).trans rfl
set_option maxRecDepth 100000 in
theorem x_Ean_addOnes_0_eq (x0 : Nat) (x1 : Int) (x2 : Int) (μ : bz_M) : x_Ean_addOnes_0 x0 x1 x2 μ =
    if x2 < x1 then
      bz_cv (d_Row_add x0 1 μ) fun μ1 =>
      x_Ean_addOnes_0 x0 x1 (wr (x2 + 1)) μ1
    else
    rI 0 μ := (bX_eq _ _ _ _ _).trans rfl
set_option maxRecDepth 100000 in
theorem x_Int_draw_eq (a0 : Nat) (a1 : Nat) (a2 : Nat) (μ : bz_M) : x_Int_draw a0 a1 a2 μ =
    x_Int_draw_0 a1 a2 0 μ := (bX_eq _ _ _ _ _).trans rfl
set_option maxRecDepth 100000 in
theorem x_Int_draw_0_eq (x1 : Nat) (x2 : Nat) (x3 : Int) (μ : bz_M) : x_Int_draw_0 x1 x2 x3 μ =
    if x3 < 4 then
      bz_cv (d_Row_add x2 1 μ) fun μ1 =>
      x_Int_draw_0 x1 x2 (wr (x3 + 1)) μ1
    else
    x_Int_draw_1 x1 x2 0 μ := (bX_eq _ _ _ _ _).trans rfl
set_option maxRecDepth 100000 in
theorem x_Int_draw_1_eq (x1 : Nat) (x2 : Nat) (x3 : Int) (μ : bz_M) : x_Int_draw_1 x1 x2 x3 μ =
    bz_fI μ x1 7 2 fun v1 =>
    if wr (x3 + 1) < v1 then
      bz_fR μ x1 7 0 fun v2 =>
      bz_rI μ v2 x3 fun v3 =>
      bz_ci (x_Int_patternOf v3 μ) fun v5 μ4 =>
      bz_fR μ4 x1 7 0 fun v6 =>
      bz_rI μ4 v6 (wr (x3 + 1)) fun v7 =>
      bz_ci (x_Int_patternOf v7 μ4) fun v9 μ8 =>
      x_Int_draw_2 x1 x2 x3 v5 v9 4 μ8
    else
    bz_cv (d_Row_add x2 3 μ) fun μ10 =>
    bz_cv (d_Row_add x2 1 μ10) fun μ11 =>
    bz_cv (d_Row_add x2 1 μ11) fun μ12 =>
    rI 0 μ12 := (bX_eq _ _ _ _ _).trans rfl
set_option maxRecDepth 100000 in
theorem x_Int_draw_2_eq (x1 : Nat) (x2 : Nat) (x3 : Int) (x4 : Int) (x5 : Int) (x6 : Int) (μ : bz_M) : x_Int_draw_2 x1 x2 x3 x4 x5 x6 μ =
    if x6 < 0 then x_Int_draw_1 x1 x2 (wr (x3 + 2)) μ else
    if bz_and (bz_shr x4 x6) 1 = 1 then
      bz_cv (d_Row_add x2 3 μ) fun μ1 =>
      if bz_and (bz_shr x5 x6) 1 = 1 then
        bz_cv (d_Row_add x2 3 μ1) fun μ2 =>
        x_Int_draw_2 x1 x2 x3 x4 x5 (wr (x6 + (-1))) μ2
      else
      bz_cv (d_Row_add x2 1 μ1) fun μ3 =>
      x_Int_draw_2 x1 x2 x3 x4 x5 (wr (x6 + (-1))) μ3
    else
    bz_cv (d_Row_add x2 1 μ) fun μ4 =>
    if bz_and (bz_shr x5 x6) 1 = 1 then
      bz_cv (d_Row_add x2 3 μ4) fun μ5 =>
      x_Int_draw_2 x1 x2 x3 x4 x5 (wr (x6 + (-1))) μ5
    else
    bz_cv (d_Row_add x2 1 μ4) fun μ6 =>
    x_Int_draw_2 x1 x2 x3 x4 x5 (wr (x6 + (-1))) μ6 := (bX_eq _ _ _ _ _).trans rfl
set_option maxRecDepth 100000 in
theorem x_Int_patternOf_eq (a0 : Int) (μ : bz_M) : x_Int_patternOf a0 μ =
    if a0 < 0 then rI 0 μ else
    bz_al μ 3 fun v1 =>
    if a0 < v1 then
      bz_rI μ 3 a0 fun v2 =>
      rI v2 μ
    else
    rI 0 μ := (bX_eq _ _ _ _ _).trans rfl
set_option maxRecDepth 100000 in
theorem x_E_addPrinted_eq (a0 : Nat) (a1 : Nat) (a2 : Int) (a3 : Int) (a4 : Int) (μ : bz_M) : x_E_addPrinted a0 a1 a2 a3 a4 μ =
    x_E_addPrinted_0 a0 a1 a2 a3 a4 a4 0 μ := (bX_eq _ _ _ _ _).trans rfl
set_option maxRecDepth 100000 in
theorem x_E_addPrinted_0_eq (x0 : Nat) (x1 : Nat) (x2 : Int) (x3 : Int) (x4 : Int) (x5 : Int) (x6 : Int) (μ : bz_M) : x_E_addPrinted_0 x0 x1 x2 x3 x4 x5 x6 μ =
    bz_fR μ x0 9 10 fun v1 =>
    bz_fI μ v1 5 1 fun v2 =>
    if x6 < v2 then
      bz_fR μ x0 9 10 fun v3 =>
      bz_fR μ v3 5 0 fun v4 =>
      bz_rI μ v4 x6 fun v5 =>
      if Int.tmod x6 2 = 0 then
        if x4 = 0 then
          bz_ci (x_Mth_max (wr ((wr (v5 * x2)) + x3)) 1 μ) fun v7 μ6 =>
          bz_cv (d_Row_add x1 v7 μ6) fun μ8 =>
          x_E_addPrinted_0 x0 x1 x2 x3 x4 x5 (wr (x6 + 1)) μ8
        else
        bz_ci (x_Mth_max (wr ((wr ((wr (v5 * x2)) + x3)) + (wr ((Int.tmod (bz_ushr (wr ((wr (1103515245 * x5)) + 12345)) 16) 3) - 1)))) 1 μ) fun v10 μ9 =>
        bz_cv (d_Row_add x1 v10 μ9) fun μ11 =>
        x_E_addPrinted_0 x0 x1 x2 x3 x4 (wr ((wr (1103515245 * x5)) + 12345)) (wr (x6 + 1)) μ11
      else
      if x4 = 0 then
        bz_ci (x_Mth_max (wr ((wr (v5 * x2)) + (wr (-x3)))) 1 μ) fun v13 μ12 =>
        bz_cv (d_Row_add x1 v13 μ12) fun μ14 =>
        x_E_addPrinted_0 x0 x1 x2 x3 x4 x5 (wr (x6 + 1)) μ14
      else
      bz_ci (x_Mth_max (wr ((wr ((wr (v5 * x2)) + (wr (-x3)))) + (wr ((Int.tmod (bz_ushr (wr ((wr (1103515245 * x5)) + 12345)) 16) 3) - 1)))) 1 μ) fun v16 μ15 =>
      bz_cv (d_Row_add x1 v16 μ15) fun μ17 =>
      x_E_addPrinted_0 x0 x1 x2 x3 x4 (wr ((wr (1103515245 * x5)) + 12345)) (wr (x6 + 1)) μ17
    else
    rI 0 μ := (bX_eq _ _ _ _ _).trans rfl
set_option maxRecDepth 100000 in
theorem x_E_keepScan_eq (a0 : Nat) (a1 : Nat) (μ : bz_M) : x_E_keepScan a0 a1 μ =
    bz_fI μ a0 9 4 fun v1 =>
    bz_pI μ a0 9 4 (wr (v1 + 1)) fun μ2 =>
    bz_cv (d_E_forget a0 a1 μ2) fun μ3 =>
    bz_fI μ3 a0 9 4 fun v4 =>
    rI (wr (v4 - 1)) μ3 := (bX_eq _ _ _ _ _).trans rfl
set_option maxRecDepth 100000 in
theorem x_E_forget_eq (a0 : Nat) (a1 : Nat) (μ : bz_M) : x_E_forget a0 a1 μ =
    x_E_forget_0 a0 a1 0 μ := (bX_eq _ _ _ _ _).trans rfl
set_option maxRecDepth 100000 in
theorem x_E_forget_0_eq (x0 : Nat) (x1 : Nat) (x2 : Int) (μ : bz_M) : x_E_forget_0 x0 x1 x2 μ =
    if x2 < 3 then
      bz_fR μ x1 6 1 fun v1 =>
      bz_rR μ v1 x2 fun v2 =>
      bz_pB μ v2 4 3 0 fun μ3 =>
      bz_fR μ3 x0 9 6 fun v4 =>
      bz_rR μ3 v4 x2 fun v5 =>
      bz_pB μ3 v5 8 5 0 fun μ6 =>
      x_E_forget_0 x0 x1 (wr (x2 + 1)) μ6
    else
    rI 0 μ := (bX_eq _ _ _ _ _).trans rfl
set_option maxRecDepth 100000 in
theorem x_E_checkCharacter_eq (a0 : Nat) (a1 : Int) (a2 : Int) (μ : bz_M) : x_E_checkCharacter a0 a1 a2 μ =
    bz_cv (x_E_requireSymbology a1 μ) fun μ1 =>
    bz_cv (d_E_requireTextLength a0 a2 μ1) fun μ2 =>
    bz_fR μ2 a0 9 5 fun v3 =>
    bz_rR μ2 v3 a1 fun v4 =>
    bz_cn (d_Sym_checkPlace v4 (wr (a2 + 1)) μ2) fun v6 μ5 =>
    bz_cv (d_E_takeText a0 a2 μ5) fun μ7 =>
    bz_fR μ7 a0 9 11 fun v8 =>
    bz_cv (d_Seq_insert v8 v6 0 μ7) fun μ9 =>
    bz_cn (d_Sym_hasLength v4 (wr (a2 + 1)) μ9) fun v11 μ10 =>
    if v11 = 0 then rX 3 (sX μ10) else
    bz_ci (d_E_isCode a0 v4 μ10) fun v13 μ12 =>
    if v13 = 0 then rX 3 (sX μ12) else
    bz_ci (d_E_rightValue a0 v4 v6 μ12) fun v15 μ14 =>
    bz_ci (x_E_characterOf v15 μ14) fun v17 μ16 =>
    rI v17 μ16 := (bX_eq _ _ _ _ _).trans rfl
set_option maxRecDepth 100000 in
theorem x_Cod_checkPlace_eq (a0 : Nat) (a1 : Int) (μ : bz_M) : x_Cod_checkPlace a0 a1 μ =
    rI (wr (a1 - 2)) μ := (bX_eq _ _ _ _ _).trans rfl
set_option maxRecDepth 100000 in
theorem x_Sym_checkPlace_eq (a0 : Nat) (a1 : Int) (μ : bz_M) : x_Sym_checkPlace a0 a1 μ =
    rI (wr (a1 - 1)) μ := (bX_eq _ _ _ _ _).trans rfl
set_option maxRecDepth 100000 in
theorem x_Seq_insert_eq (a0 : Nat) (a1 : Int) (a2 : Int) (μ : bz_M) : x_Seq_insert a0 a1 a2 μ =
    if a1 < 0 then rI 0 μ else
    bz_fI μ a0 7 2 fun v1 =>
    if v1 < a1 then rI 0 μ else
    bz_fI μ a0 7 2 fun v2 =>
    bz_fR μ a0 7 0 fun v3 =>
    bz_al μ v3 fun v4 =>
    if v2 < v4 then
      bz_fI μ a0 7 2 fun v5 =>
      x_Seq_insert_0 a0 a1 a2 v5 μ
    else
    rI 0 μ := (bX_eq _ _ _ _ _).trans rfl
set_option maxRecDepth 100000 in
theorem x_Seq_insert_0_eq (x0 : Nat) (x1 : Int) (x2 : Int) (x3 : Int) (μ : bz_M) : x_Seq_insert_0 x0 x1 x2 x3 μ =
    if x1 < x3 then
      bz_fR μ x0 7 0 fun v1 =>
      bz_fR μ x0 7 0 fun v2 =>
      bz_rI μ v2 (wr (x3 - 1)) fun v3 =>
      bz_wI μ v1 x3 v3 fun μ4 =>
      x_Seq_insert_0 x0 x1 x2 (wr (x3 + (-1))) μ4
    else
    bz_fR μ x0 7 0 fun v5 =>
    bz_wI μ v5 x1 x2 fun μ6 =>
    bz_fI μ6 x0 7 2 fun v7 =>
    bz_pI μ6 x0 7 2 (wr (v7 + 1)) fun μ8 =>
    rI 0 μ8 := (bX_eq _ _ _ _ _).trans rfl
set_option maxRecDepth 100000 in
theorem x_E_rightValue_eq (a0 : Nat) (a1 : Nat) (a2 : Int) (μ : bz_M) : x_E_rightValue a0 a1 a2 μ =
    if a2 < 0 then rI (-1) μ else
    bz_fR μ a0 9 11 fun v1 =>
    bz_fI μ v1 7 2 fun v2 =>
    if a2 < v2 then x_E_rightValue_0 a0 a1 a2 (-1) 0 0 μ else
    rI (-1) μ := (bX_eq _ _ _ _ _).trans rfl
set_option maxRecDepth 100000 in
theorem x_E_rightValue_0_eq (x0 : Nat) (x1 : Nat) (x2 : Int) (x3 : Int) (x4 : Int) (x5 : Int) (μ : bz_M) : x_E_rightValue_0 x0 x1 x2 x3 x4 x5 μ =
    if x5 < 20 then
      bz_fR μ x0 9 11 fun v1 =>
      bz_fR μ v1 7 0 fun v2 =>
      bz_wI μ v2 x2 x5 fun μ3 =>
      bz_fR μ3 x0 9 11 fun v4 =>
      bz_fI μ3 v4 7 2 fun v5 =>
      bz_cn (d_Sym_allows x1 x5 x2 v5 μ3) fun v7 μ6 =>
      if v7 = 0 then x_E_rightValue_0 x0 x1 x2 x3 x4 (wr (x5 + 1)) μ6 else
      bz_fR μ6 x0 9 11 fun v8 =>
      bz_cn (d_Sym_isRight x1 v8 μ6) fun v10 μ9 =>
      if v10 = 0 then x_E_rightValue_0 x0 x1 x2 x3 x4 (wr (x5 + 1)) μ9 else
      x_E_rightValue_0 x0 x1 x2 x5 (wr (x4 + 1)) (wr (x5 + 1)) μ9
    else
    if x4 = 1 then rI x3 μ else
    rI (-1) μ := (bX_eq _ _ _ _ _).trans rfl
set_option maxRecDepth 100000 in
theorem x_E_characterOf_eq (a0 : Int) (μ : bz_M) : x_E_characterOf a0 μ =
    if a0 < 0 then rI (-1) μ else
    if a0 < 20 then
      bz_ci (d_Str_charAt 5 a0 μ) fun v2 μ1 =>
      rI v2 μ1
    else
    rI (-1) μ := (bX_eq _ _ _ _ _).trans rfl
set_option maxRecDepth 100000 in
theorem x_Str_charAt_eq (a0 : Nat) (a1 : Int) (μ : bz_M) : x_Str_charAt a0 a1 μ =
    bz_ci (d_Str_isLatin1 a0 μ) fun v2 μ1 =>
    if v2 = 0 then
      bz_fR μ1 a0 28 0 fun v3 =>
      none
    else
    bz_fR μ1 a0 28 0 fun v4 =>
    bz_ci (x_Lat_charAt v4 a1 μ1) fun v6 μ5 =>
    bz_zC v6 μ5 := (bX_eq _ _ _ _ _).trans rfl
set_option maxRecDepth 100000 in
theorem x_Lat_charAt_eq (a0 : Nat) (a1 : Int) (μ : bz_M) : x_Lat_charAt a0 a1 μ =
    bz_al μ a0 fun v1 =>
    bz_cv (x_Str_checkIndex a1 v1 μ) fun μ2 =>
    bz_rB μ2 a0 a1 fun v3 =>
    bz_zC (bz_i2c (bz_and v3 255)) μ2 := (bX_eq _ _ _ _ _).trans rfl
set_option maxRecDepth 100000 in
theorem x_Str_checkIndex_eq (a0 : Int) (a1 : Int) (μ : bz_M) : x_Str_checkIndex a0 a1 μ =
    bz_ci (x_Pre_checkIndex a0 a1 15 μ) fun v2 μ1 =>
    rI 0 μ1 := (bX_eq _ _ _ _ _).trans rfl
set_option maxRecDepth 100000 in
theorem x_Pre_checkIndex_eq (a0 : Int) (a1 : Int) (a2 : Nat) (μ : bz_M) : x_Pre_checkIndex a0 a1 a2 μ =
    if a0 < 0 then none else
    if a0 < a1 then rI a0 μ else
    none := (bX_eq _ _ _ _ _).trans rfl
set_option maxRecDepth 100000 in
theorem x_E_addWidths_eq (a0 : Nat) (a1 : Int) (a2 : Int) (a3 : Int) (a4 : Int) (a5 : Int) (a6 : Int) (μ : bz_M) : x_E_addWidths a0 a1 a2 a3 a4 a5 a6 μ =
    bz_fR μ a0 9 8 fun v1 =>
    bz_pI μ v1 5 1 0 fun μ2 =>
    bz_fR μ2 a0 9 8 fun v3 =>
    bz_cv (d_Row_add v3 a1 μ2) fun μ4 =>
    bz_fR μ4 a0 9 8 fun v5 =>
    bz_cv (d_Row_add v5 a2 μ4) fun μ6 =>
    bz_fR μ6 a0 9 8 fun v7 =>
    bz_cv (d_Row_add v7 a3 μ6) fun μ8 =>
    bz_fR μ8 a0 9 8 fun v9 =>
    bz_cv (d_Row_add v9 a4 μ8) fun μ10 =>
    bz_fR μ10 a0 9 8 fun v11 =>
    bz_cv (d_Row_add v11 a5 μ10) fun μ12 =>
    bz_fR μ12 a0 9 8 fun v13 =>
    bz_cv (d_Row_add v13 a6 μ12) fun μ14 =>
    bz_fR μ14 a0 9 8 fun v15 =>
    bz_ci (d_Row_isWithin v15 0 10000 μ14) fun v17 μ16 =>
    if v17 = 0 then rX 3 (sX μ16) else
    bz_fR μ16 a0 9 8 fun v18 =>
    bz_ci (d_Row_countBeforeZero v18 μ16) fun v20 μ19 =>
    bz_fR μ19 a0 9 2 fun v21 =>
    bz_fI μ19 v21 5 1 fun v22 =>
    if (129 : Int) < wr (v22 + v20) then rX 1 (sX μ19) else
    x_E_addWidths_0 a0 v20 0 μ19 := (bX_eq _ _ _ _ _).trans rfl
set_option maxRecDepth 100000 in
theorem x_E_addWidths_0_eq (x0 : Nat) (x7 : Int) (x8 : Int) (μ : bz_M) : x_E_addWidths_0 x0 x7 x8 μ =
    if x8 < x7 then
      bz_fR μ x0 9 2 fun v1 =>
      bz_fR μ x0 9 8 fun v2 =>
      bz_fR μ v2 5 0 fun v3 =>
      bz_rI μ v3 x8 fun v4 =>
      bz_cv (d_Row_add v1 v4 μ) fun μ5 =>
      x_E_addWidths_0 x0 x7 (wr (x8 + 1)) μ5
    else
    bz_fR μ x0 9 2 fun v6 =>
    bz_fI μ v6 5 1 fun v7 =>
    rI v7 μ := (bX_eq _ _ _ _ _).trans rfl
set_option maxRecDepth 100000 in
theorem x_Row_isWithin_eq (a0 : Nat) (a1 : Int) (a2 : Int) (μ : bz_M) : x_Row_isWithin a0 a1 a2 μ =
    x_Row_isWithin_0 a0 a1 a2 0 μ := (bX_eq _ _ _ _ _).trans rfl
set_option maxRecDepth 100000 in
theorem x_Row_isWithin_0_eq (x0 : Nat) (x1 : Int) (x2 : Int) (x3 : Int) (μ : bz_M) : x_Row_isWithin_0 x0 x1 x2 x3 μ =
    bz_fI μ x0 5 1 fun v1 =>
    if x3 < v1 then
      bz_fR μ x0 5 0 fun v2 =>
      bz_rI μ v2 x3 fun v3 =>
      if v3 < x1 then rI 0 μ else
      bz_fR μ x0 5 0 fun v4 =>
      bz_rI μ v4 x3 fun v5 =>
      if x2 < v5 then rI 0 μ else
      x_Row_isWithin_0 x0 x1 x2 (wr (x3 + 1)) μ
    else
    rI 1 μ := (bX_eq _ _ _ _ _).trans rfl
set_option maxRecDepth 100000 in
theorem x_Row_countBeforeZero_eq (a0 : Nat) (μ : bz_M) : x_Row_countBeforeZero a0 μ =
    x_Row_countBeforeZero_0 a0 0 μ := (bX_eq _ _ _ _ _).trans rfl
set_option maxRecDepth 100000 in
theorem x_Row_countBeforeZero_0_eq (x0 : Nat) (x1 : Int) (μ : bz_M) : x_Row_countBeforeZero_0 x0 x1 μ =
    bz_fI μ x0 5 1 fun v1 =>
    if x1 < v1 then
      bz_fR μ x0 5 0 fun v2 =>
      bz_rI μ v2 x1 fun v3 =>
      if v3 = 0 then rI x1 μ else
      x_Row_countBeforeZero_0 x0 (wr (x1 + 1)) μ
    else
    rI x1 μ := (bX_eq _ _ _ _ _).trans rfl
set_option maxRecDepth 100000 in
theorem x_E_endScan_eq (a0 : Nat) (μ : bz_M) : x_E_endScan a0 μ =
    bz_fR μ a0 9 2 fun v1 =>
    bz_fI μ v1 5 1 fun v2 =>
    if v2 < 3 then rX 1 (sX μ) else
    bz_fR μ a0 9 2 fun v3 =>
    bz_fI μ v3 5 1 fun v4 =>
    if Int.tmod v4 2 = 0 then rX 1 (sX μ) else
    bz_cv (d_E_requireRoomForScan a0 μ) fun μ5 =>
    bz_fR μ5 a0 9 3 fun v6 =>
    bz_fI μ5 a0 9 4 fun v7 =>
    bz_rR μ5 v6 v7 fun v8 =>
    bz_fR μ5 v8 6 0 fun v9 =>
    bz_fR μ5 a0 9 2 fun v10 =>
    bz_cv (d_Row_copy v9 v10 μ5) fun μ11 =>
    bz_fR μ11 a0 9 2 fun v12 =>
    bz_pI μ11 v12 5 1 0 fun μ13 =>
    bz_ci (d_E_keepScan a0 v8 μ13) fun v15 μ14 =>
    rI v15 μ14 := (bX_eq _ _ _ _ _).trans rfl
set_option maxRecDepth 100000 in
theorem x_Row_copy_eq (a0 : Nat) (a1 : Nat) (μ : bz_M) : x_Row_copy a0 a1 μ =
    bz_fI μ a1 5 1 fun v1 =>
    bz_pI μ a0 5 1 v1 fun μ2 =>
    x_Row_copy_0 a0 a1 0 μ2 := (bX_eq _ _ _ _ _).trans rfl
set_option maxRecDepth 100000 in
theorem x_Row_copy_0_eq (x0 : Nat) (x1 : Nat) (x2 : Int) (μ : bz_M) : x_Row_copy_0 x0 x1 x2 μ =
    bz_fI μ x0 5 1 fun v1 =>
    if x2 < v1 then
      bz_fR μ x0 5 0 fun v2 =>
      bz_fR μ x1 5 0 fun v3 =>
      bz_rI μ v3 x2 fun v4 =>
      bz_wI μ v2 x2 v4 fun μ5 =>
      x_Row_copy_0 x0 x1 (wr (x2 + 1)) μ5
    else
    rI 0 μ := (bX_eq _ _ _ _ _).trans rfl
set_option maxRecDepth 100000 in
theorem x_E_widthCount_eq (a0 : Nat) (a1 : Int) (μ : bz_M) : x_E_widthCount a0 a1 μ =
    bz_cv (d_E_requireScan a0 a1 μ) fun μ1 =>
    bz_fR μ1 a0 9 3 fun v2 =>
    bz_rR μ1 v2 a1 fun v3 =>
    bz_fR μ1 v3 6 0 fun v4 =>
    bz_fI μ1 v4 5 1 fun v5 =>
    rI v5 μ1 := (bX_eq _ _ _ _ _).trans rfl
set_option maxRecDepth 100000 in
theorem x_E_requireScan_eq (a0 : Nat) (a1 : Int) (μ : bz_M) : x_E_requireScan a0 a1 μ =
    if a1 < 0 then rX 2 (sX μ) else
    bz_fI μ a0 9 4 fun v1 =>
    if a1 < v1 then rI 0 μ else
    rX 2 (sX μ) := (bX_eq _ _ _ _ _).trans rfl
set_option maxRecDepth 100000 in
theorem x_E_width_eq (a0 : Nat) (a1 : Int) (a2 : Int) (μ : bz_M) : x_E_width a0 a1 a2 μ =
    bz_cv (d_E_requireScan a0 a1 μ) fun μ1 =>
    bz_fR μ1 a0 9 3 fun v2 =>
    bz_rR μ1 v2 a1 fun v3 =>
    bz_fR μ1 v3 6 0 fun v4 =>
    bz_fI μ1 v4 5 1 fun v5 =>
    bz_cv (x_E_requirePlace a2 v5 μ1) fun μ6 =>
    bz_fR μ6 v4 5 0 fun v7 =>
    bz_rI μ6 v7 a2 fun v8 =>
    rI v8 μ6 := (bX_eq _ _ _ _ _).trans rfl
set_option maxRecDepth 100000 in
theorem x_E_requirePlace_eq (a0 : Int) (a1 : Int) (μ : bz_M) : x_E_requirePlace a0 a1 μ =
    if a0 < 0 then rX 2 (sX μ) else
    if a0 < a1 then rI 0 μ else
    rX 2 (sX μ) := (bX_eq _ _ _ _ _).trans rfl
set_option maxRecDepth 100000 in
theorem x_E_setWidth_eq (a0 : Nat) (a1 : Int) (a2 : Int) (a3 : Int) (μ : bz_M) : x_E_setWidth a0 a1 a2 a3 μ =
    bz_cv (d_E_requireScan a0 a1 μ) fun μ1 =>
    bz_fR μ1 a0 9 3 fun v2 =>
    bz_rR μ1 v2 a1 fun v3 =>
    bz_fR μ1 v3 6 0 fun v4 =>
    bz_fI μ1 v4 5 1 fun v5 =>
    bz_cv (x_E_requirePlace a2 v5 μ1) fun μ6 =>
    if a3 < 1 then rX 3 (sX μ6) else
    if (10000 : Int) < a3 then rX 3 (sX μ6) else
    bz_fR μ6 v4 5 0 fun v7 =>
    bz_rI μ6 v7 a2 fun v8 =>
    bz_fR μ6 v4 5 0 fun v9 =>
    bz_wI μ6 v9 a2 a3 fun μ10 =>
    bz_fR μ10 a0 9 3 fun v11 =>
    bz_rR μ10 v11 a1 fun v12 =>
    bz_cv (d_E_forget a0 v12 μ10) fun μ13 =>
    rI v8 μ13 := (bX_eq _ _ _ _ _).trans rfl
set_option maxRecDepth 100000 in
theorem x_E_cut_eq (a0 : Nat) (a1 : Int) (a2 : Int) (a3 : Int) (μ : bz_M) : x_E_cut a0 a1 a2 a3 μ =
    bz_cv (d_E_requireScan a0 a1 μ) fun μ1 =>
    bz_fR μ1 a0 9 3 fun v2 =>
    bz_rR μ1 v2 a1 fun v3 =>
    bz_fR μ1 v3 6 0 fun v4 =>
    bz_fI μ1 v4 5 1 fun v5 =>
    bz_cv (x_E_requirePlace a2 v5 μ1) fun μ6 =>
    bz_fI μ6 v4 5 1 fun v7 =>
    bz_cv (x_E_requirePlace a3 v7 μ6) fun μ8 =>
    if Int.tmod a2 2 = 0 then
      if Int.tmod a3 2 = 0 then
        if a3 < wr (a2 + 2) then rX 3 (sX μ8) else
        bz_cv (d_Row_keep v4 a2 a3 μ8) fun μ9 =>
        bz_fR μ9 a0 9 3 fun v10 =>
        bz_rR μ9 v10 a1 fun v11 =>
        bz_cv (d_E_forget a0 v11 μ9) fun μ12 =>
        bz_fI μ12 v4 5 1 fun v13 =>
        rI v13 μ12
      else
      rX 3 (sX μ8)
    else
    rX 3 (sX μ8) := (bX_eq _ _ _ _ _).trans rfl
set_option maxRecDepth 100000 in
theorem x_Row_keep_eq (a0 : Nat) (a1 : Int) (a2 : Int) (μ : bz_M) : x_Row_keep a0 a1 a2 μ =
    if a1 < 0 then rI 0 μ else
    bz_fI μ a0 5 1 fun v1 =>
    if a2 < v1 then x_Row_keep_0 a0 a1 a2 a1 μ else
    rI 0 μ := (bX_eq _ _ _ _ _).trans rfl
set_option maxRecDepth 100000 in
theorem x_Row_keep_0_eq (x0 : Nat) (x1 : Int) (x2 : Int) (x3 : Int) (μ : bz_M) : x_Row_keep_0 x0 x1 x2 x3 μ =
    if x2 < x3 then
      bz_pI μ x0 5 1 (wr ((wr (x2 - x1)) + 1)) fun μ1 =>
      rI 0 μ1
    else
    bz_fR μ x0 5 0 fun v2 =>
    bz_fR μ x0 5 0 fun v3 =>
    bz_rI μ v3 x3 fun v4 =>
    bz_wI μ v2 (wr (x3 - x1)) v4 fun μ5 =>
    x_Row_keep_0 x0 x1 x2 (wr (x3 + 1)) μ5 := (bX_eq _ _ _ _ _).trans rfl
set_option maxRecDepth 100000 in
theorem x_E_reverse_eq (a0 : Nat) (a1 : Int) (μ : bz_M) : x_E_reverse a0 a1 μ =
    bz_cv (d_E_requireScan a0 a1 μ) fun μ1 =>
    bz_fR μ1 a0 9 3 fun v2 =>
    bz_rR μ1 v2 a1 fun v3 =>
    bz_fR μ1 v3 6 0 fun v4 =>
    bz_fR μ1 a0 9 9 fun v5 =>
    bz_cv (d_Row_copyReversed v5 v4 μ1) fun μ6 =>
    bz_fR μ6 a0 9 9 fun v7 =>
    bz_cv (d_Row_copy v4 v7 μ6) fun μ8 =>
    bz_fR μ8 a0 9 3 fun v9 =>
    bz_rR μ8 v9 a1 fun v10 =>
    bz_cv (d_E_forget a0 v10 μ8) fun μ11 =>
    rI 0 μ11 := (bX_eq _ _ _ _ _).trans rfl
set_option maxRecDepth 100000 in
theorem x_E_smear_eq (a0 : Nat) (a1 : Int) (a2 : Int) (μ : bz_M) : x_E_smear a0 a1 a2 μ =
    bz_cv (d_E_requireScan a0 a1 μ) fun μ1 =>
    if a2 < (-100) then rX 3 (sX μ1) else
    if (100 : Int) < a2 then rX 3 (sX μ1) else
    bz_fR μ1 a0 9 3 fun v2 =>
    bz_rR μ1 v2 a1 fun v3 =>
    bz_fR μ1 v3 6 0 fun v4 =>
    bz_ci (d_Row_widenBars v4 a2 μ1) fun v6 μ5 =>
    bz_fR μ5 a0 9 3 fun v7 =>
    bz_rR μ5 v7 a1 fun v8 =>
    bz_cv (d_E_forget a0 v8 μ5) fun μ9 =>
    rI v6 μ9 := (bX_eq _ _ _ _ _).trans rfl
set_option maxRecDepth 100000 in
theorem x_Row_widenBars_eq (a0 : Nat) (a1 : Int) (μ : bz_M) : x_Row_widenBars a0 a1 μ =
    x_Row_widenBars_0 a0 a1 0 1 μ := (bX_eq _ _ _ _ _).trans rfl
set_option maxRecDepth 100000 in
theorem x_Row_widenBars_0_eq (x0 : Nat) (x1 : Int) (x2 : Int) (x3 : Int) (μ : bz_M) : x_Row_widenBars_0 x0 x1 x2 x3 μ =
    bz_fI μ x0 5 1 fun v1 =>
    if x3 < wr (v1 - 1) then
      bz_fR μ x0 5 0 fun v2 =>
      bz_rI μ v2 x3 fun v3 =>
      if Int.tmod x3 2 = 1 then
        bz_ci (x_Mth_min (wr (v3 + x1)) 10000 μ) fun v5 μ4 =>
        bz_ci (x_Mth_max 1 v5 μ4) fun v7 μ6 =>
        if v7 = wr (v3 + x1) then
          bz_fR μ6 x0 5 0 fun v8 =>
          bz_wI μ6 v8 x3 v7 fun μ9 =>
          x_Row_widenBars_0 x0 x1 x2 (wr (x3 + 1)) μ9
        else
        bz_fR μ6 x0 5 0 fun v10 =>
        bz_wI μ6 v10 x3 v7 fun μ11 =>
        x_Row_widenBars_0 x0 x1 (wr (x2 + 1)) (wr (x3 + 1)) μ11
      else
      bz_ci (x_Mth_min (wr (v3 + (wr (-x1)))) 10000 μ) fun v13 μ12 =>
      bz_ci (x_Mth_max 1 v13 μ12) fun v15 μ14 =>
      if v15 = wr (v3 + (wr (-x1))) then
        bz_fR μ14 x0 5 0 fun v16 =>
        bz_wI μ14 v16 x3 v15 fun μ17 =>
        x_Row_widenBars_0 x0 x1 x2 (wr (x3 + 1)) μ17
      else
      bz_fR μ14 x0 5 0 fun v18 =>
      bz_wI μ14 v18 x3 v15 fun μ19 =>
      x_Row_widenBars_0 x0 x1 (wr (x2 + 1)) (wr (x3 + 1)) μ19
    else
    rI x2 μ := (bX_eq _ _ _ _ _).trans rfl
set_option maxRecDepth 100000 in
theorem x_E_average_eq (a0 : Nat) (a1 : Int) (a2 : Int) (μ : bz_M) : x_E_average a0 a1 a2 μ =
    bz_cv (d_E_requireScan a0 a1 μ) fun μ1 =>
    bz_cv (d_E_requireScan a0 a2 μ1) fun μ2 =>
    bz_fR μ2 a0 9 3 fun v3 =>
    bz_rR μ2 v3 a1 fun v4 =>
    bz_fR μ2 v4 6 0 fun v5 =>
    bz_fR μ2 a0 9 3 fun v6 =>
    bz_rR μ2 v6 a2 fun v7 =>
    bz_fR μ2 v7 6 0 fun v8 =>
    bz_fI μ2 v5 5 1 fun v9 =>
    bz_fI μ2 v8 5 1 fun v10 =>
    if v9 = v10 then x_E_average_0 a0 a1 v5 v8 0 μ2 else
    rX 3 (sX μ2) := (bX_eq _ _ _ _ _).trans rfl
set_option maxRecDepth 100000 in
theorem x_E_average_0_eq (x0 : Nat) (x1 : Int) (x3 : Nat) (x4 : Nat) (x5 : Int) (μ : bz_M) : x_E_average_0 x0 x1 x3 x4 x5 μ =
    bz_fI μ x3 5 1 fun v1 =>
    if x5 < v1 then
      bz_fR μ x3 5 0 fun v2 =>
      bz_fR μ x3 5 0 fun v3 =>
      bz_rI μ v3 x5 fun v4 =>
      bz_fR μ x4 5 0 fun v5 =>
      bz_rI μ v5 x5 fun v6 =>
      bz_wI μ v2 x5 (wr (Int.tdiv (wr ((wr (v4 + v6)) + 1)) 2)) fun μ7 =>
      x_E_average_0 x0 x1 x3 x4 (wr (x5 + 1)) μ7
    else
    bz_fR μ x0 9 3 fun v8 =>
    bz_rR μ v8 x1 fun v9 =>
    bz_cv (d_E_forget x0 v9 μ) fun μ10 =>
    rI 0 μ10 := (bX_eq _ _ _ _ _).trans rfl
set_option maxRecDepth 100000 in
theorem x_E_removeScan_eq (a0 : Nat) (a1 : Int) (μ : bz_M) : x_E_removeScan a0 a1 μ =
    bz_cv (d_E_requireScan a0 a1 μ) fun μ1 =>
    bz_fR μ1 a0 9 3 fun v2 =>
    bz_rR μ1 v2 a1 fun v3 =>
    x_E_removeScan_0 a0 v3 a1 μ1 := (bX_eq _ _ _ _ _).trans rfl
set_option maxRecDepth 100000 in
theorem x_E_removeScan_0_eq (x0 : Nat) (x2 : Nat) (x3 : Int) (μ : bz_M) : x_E_removeScan_0 x0 x2 x3 μ =
    bz_fI μ x0 9 4 fun v1 =>
    if wr (x3 + 1) < v1 then
      bz_fR μ x0 9 3 fun v2 =>
      bz_fR μ x0 9 3 fun v3 =>
      bz_rR μ v3 (wr (x3 + 1)) fun v4 =>
      bz_wR μ v2 x3 v4 fun μ5 =>
      x_E_removeScan_0 x0 x2 (wr (x3 + 1)) μ5
    else
    bz_fI μ x0 9 4 fun v6 =>
    bz_pI μ x0 9 4 (wr (v6 - 1)) fun μ7 =>
    bz_fR μ7 x0 9 3 fun v8 =>
    bz_fI μ7 x0 9 4 fun v9 =>
    bz_wR μ7 v8 v9 x2 fun μ10 =>
    bz_cv (d_E_forget x0 x2 μ10) fun μ11 =>
    bz_fI μ11 x0 9 4 fun v12 =>
    rI v12 μ11 := (bX_eq _ _ _ _ _).trans rfl
set_option maxRecDepth 100000 in
theorem x_E_read_eq (a0 : Nat) (a1 : Int) (a2 : Int) (μ : bz_M) : x_E_read a0 a1 a2 μ =
    bz_cr (d_E_reading a0 a1 a2 μ) fun v2 μ1 =>
    bz_fR μ1 v2 4 0 fun v3 =>
    bz_fI μ1 v3 7 2 fun v4 =>
    rI v4 μ1 := (bX_eq _ _ _ _ _).trans rfl
set_option maxRecDepth 100000 in
theorem x_E_reading_eq (a0 : Nat) (a1 : Int) (a2 : Int) (μ : bz_M) : x_E_reading a0 a1 a2 μ =
    bz_cv (d_E_requireScan a0 a1 μ) fun μ1 =>
    bz_cv (x_E_requireSymbology a2 μ1) fun μ2 =>
    bz_fR μ2 a0 9 3 fun v3 =>
    bz_rR μ2 v3 a1 fun v4 =>
    bz_fR μ2 v4 6 1 fun v5 =>
    bz_rR μ2 v5 a2 fun v6 =>
    bz_fR μ2 a0 9 5 fun v7 =>
    bz_rR μ2 v7 a2 fun v8 =>
    bz_fR μ2 a0 9 3 fun v9 =>
    bz_rR μ2 v9 a1 fun v10 =>
    bz_fR μ2 v10 6 0 fun v11 =>
    bz_fR μ2 a0 9 9 fun v12 =>
    bz_cu (d_Sym_interpret v8 v11 v12 v6 μ2) fun μ13 =>
    rR v6 μ13 := (bX_eq _ _ _ _ _).trans rfl
set_option maxRecDepth 100000 in
theorem x_E_readPart_eq (a0 : Nat) (a1 : Int) (a2 : Int) (a3 : Int) (μ : bz_M) : x_E_readPart a0 a1 a2 a3 μ =
    bz_cr (d_E_reading a0 a1 a2 μ) fun v2 μ1 =>
    bz_cr (d_Rdg_part v2 a3 μ1) fun v4 μ3 =>
    bz_fI μ3 v4 7 2 fun v5 =>
    rI v5 μ3 := (bX_eq _ _ _ _ _).trans rfl
set_option maxRecDepth 100000 in
theorem x_Rdg_part_eq (a0 : Nat) (a1 : Int) (μ : bz_M) : x_Rdg_part a0 a1 μ =
    if a1 = 0 then
      bz_fR μ a0 4 1 fun v1 =>
      rR v1 μ
    else
    bz_fR μ a0 4 2 fun v2 =>
    rR v2 μ := (bX_eq _ _ _ _ _).trans rfl
set_option maxRecDepth 100000 in
theorem x_E_character_eq (a0 : Nat) (a1 : Int) (a2 : Int) (a3 : Int) (μ : bz_M) : x_E_character a0 a1 a2 a3 μ =
    bz_cr (d_E_reading a0 a1 a2 μ) fun v2 μ1 =>
    bz_fR μ1 v2 4 0 fun v3 =>
    bz_fI μ1 v3 7 2 fun v4 =>
    bz_cv (x_E_requirePlace a3 v4 μ1) fun μ5 =>
    bz_fR μ5 v3 7 0 fun v6 =>
    bz_rI μ5 v6 a3 fun v7 =>
    bz_ci (x_E_characterOf v7 μ5) fun v9 μ8 =>
    rI v9 μ8 := (bX_eq _ _ _ _ _).trans rfl
set_option maxRecDepth 100000 in
theorem x_E_confidence_eq (a0 : Nat) (a1 : Int) (a2 : Int) (a3 : Int) (μ : bz_M) : x_E_confidence a0 a1 a2 a3 μ =
    bz_cr (d_E_reading a0 a1 a2 μ) fun v2 μ1 =>
    bz_fR μ1 v2 4 0 fun v3 =>
    bz_fI μ1 v3 7 2 fun v4 =>
    bz_cv (x_E_requirePlace a3 v4 μ1) fun μ5 =>
    bz_fR μ5 v3 7 1 fun v6 =>
    bz_rI μ5 v6 a3 fun v7 =>
    rI v7 μ5 := (bX_eq _ _ _ _ _).trans rfl
set_option maxRecDepth 100000 in
theorem x_E_partCharacter_eq (a0 : Nat) (a1 : Int) (a2 : Int) (a3 : Int) (a4 : Int) (μ : bz_M) : x_E_partCharacter a0 a1 a2 a3 a4 μ =
    bz_cr (d_E_reading a0 a1 a2 μ) fun v2 μ1 =>
    bz_cr (d_Rdg_part v2 a3 μ1) fun v4 μ3 =>
    bz_fI μ3 v4 7 2 fun v5 =>
    bz_cv (x_E_requirePlace a4 v5 μ3) fun μ6 =>
    bz_fR μ6 v4 7 0 fun v7 =>
    bz_rI μ6 v7 a4 fun v8 =>
    bz_ci (x_E_characterOf v8 μ6) fun v10 μ9 =>
    rI v10 μ9 := (bX_eq _ _ _ _ _).trans rfl
set_option maxRecDepth 100000 in
theorem x_E_isReversed_eq (a0 : Nat) (a1 : Int) (a2 : Int) (μ : bz_M) : x_E_isReversed a0 a1 a2 μ =
    bz_cr (d_E_reading a0 a1 a2 μ) fun v2 μ1 =>
    bz_fI μ1 v2 4 4 fun v3 =>
    bz_zB v3 μ1 := (bX_eq _ _ _ _ _).trans rfl
set_option maxRecDepth 100000 in
theorem x_E_agreement_eq (a0 : Nat) (a1 : Int) (a2 : Int) (a3 : Int) (μ : bz_M) : x_E_agreement a0 a1 a2 a3 μ =
    bz_cr (d_E_reading a0 a1 a3 μ) fun v2 μ1 =>
    bz_fR μ1 v2 4 0 fun v3 =>
    bz_cr (d_E_reading a0 a2 a3 μ1) fun v5 μ4 =>
    bz_fR μ4 v5 4 0 fun v6 =>
    bz_fI μ4 v3 7 2 fun v7 =>
    if v7 = 0 then rI (-1) μ4 else
    bz_fI μ4 v3 7 2 fun v8 =>
    bz_fI μ4 v6 7 2 fun v9 =>
    if v8 = v9 then x_E_agreement_0 v3 v6 0 0 μ4 else
    rI (-1) μ4 := (bX_eq _ _ _ _ _).trans rfl
set_option maxRecDepth 100000 in
theorem x_E_agreement_0_eq (x4 : Nat) (x5 : Nat) (x6 : Int) (x7 : Int) (μ : bz_M) : x_E_agreement_0 x4 x5 x6 x7 μ =
    bz_fI μ x4 7 2 fun v1 =>
    if x7 < v1 then
      bz_fR μ x4 7 0 fun v2 =>
      bz_rI μ v2 x7 fun v3 =>
      bz_fR μ x5 7 0 fun v4 =>
      bz_rI μ v4 x7 fun v5 =>
      if v3 = v5 then x_E_agreement_0 x4 x5 (wr (x6 + 1)) (wr (x7 + 1)) μ else
      x_E_agreement_0 x4 x5 x6 (wr (x7 + 1)) μ
    else
    rI x6 μ := (bX_eq _ _ _ _ _).trans rfl
set_option maxRecDepth 100000 in
theorem x_E_overlap_eq (a0 : Nat) (a1 : Int) (a2 : Int) (a3 : Int) (μ : bz_M) : x_E_overlap a0 a1 a2 a3 μ =
    bz_cr (d_E_reading a0 a1 a3 μ) fun v2 μ1 =>
    bz_fR μ1 v2 4 1 fun v3 =>
    bz_cr (d_E_reading a0 a2 a3 μ1) fun v5 μ4 =>
    bz_fR μ4 v5 4 2 fun v6 =>
    bz_fI μ4 v3 7 2 fun v7 =>
    if v7 = 0 then rI (-1) μ4 else
    bz_fI μ4 v6 7 2 fun v8 =>
    if v8 = 0 then rI (-1) μ4 else
    bz_fI μ4 v3 7 2 fun v9 =>
    bz_fI μ4 v6 7 2 fun v10 =>
    bz_ci (x_Mth_min v9 v10 μ4) fun v12 μ11 =>
    x_E_overlap_0 v3 v6 v12 μ11 := (bX_eq _ _ _ _ _).trans rfl
set_option maxRecDepth 100000 in
theorem x_E_overlap_0_eq (x4 : Nat) (x5 : Nat) (x7 : Int) (μ : bz_M) : x_E_overlap_0 x4 x5 x7 μ =
    if (0 : Int) < x7 then
      bz_ci (d_Seq_endsLike x4 x5 x7 μ) fun v2 μ1 =>
      if v2 = 0 then x_E_overlap_0 x4 x5 (wr (x7 + (-1))) μ1 else
      rI x7 μ1
    else
    rI 0 μ := (bX_eq _ _ _ _ _).trans rfl
set_option maxRecDepth 100000 in
theorem x_E_module_eq (a0 : Nat) (a1 : Int) (a2 : Int) (μ : bz_M) : x_E_module a0 a1 a2 μ =
    bz_cr (d_E_reading a0 a1 a2 μ) fun v2 μ1 =>
    bz_fR μ1 a0 9 5 fun v3 =>
    bz_rR μ1 v3 a2 fun v4 =>
    bz_cv (d_E_drawWhole a0 v4 v2 μ1) fun μ5 =>
    bz_fR μ5 a0 9 10 fun v6 =>
    bz_fR μ5 a0 9 10 fun v7 =>
    bz_fI μ5 v7 5 1 fun v8 =>
    bz_cj (d_Row_sum v6 0 (wr (v8 - 1)) 1 μ5) fun v10 μ9 =>
    if (0 : Int) < bz_cmp v10 0 then
      bz_fR μ9 a0 9 3 fun v11 =>
      bz_rR μ9 v11 a1 fun v12 =>
      bz_fR μ9 v12 6 0 fun v13 =>
      bz_fI μ9 v2 4 5 fun v14 =>
      bz_fI μ9 v2 4 6 fun v15 =>
      bz_cj (d_Row_sum v13 v14 v15 1 μ9) fun v17 μ16 =>
      bz_ld (wl (100 * v17)) v10 fun v18 =>
      rI (wr v18) μ16
    else
    rI 0 μ9 := (bX_eq _ _ _ _ _).trans rfl
set_option maxRecDepth 100000 in
theorem x_E_drawWhole_eq (a0 : Nat) (a1 : Nat) (a2 : Nat) (μ : bz_M) : x_E_drawWhole a0 a1 a2 μ =
    bz_fR μ a2 4 0 fun v1 =>
    bz_fI μ v1 7 2 fun v2 =>
    if v2 = 0 then rX 4 (sX μ) else
    bz_fR μ a0 9 10 fun v3 =>
    bz_pI μ v3 5 1 0 fun μ4 =>
    bz_fR μ4 a2 4 0 fun v5 =>
    bz_fR μ4 a0 9 10 fun v6 =>
    bz_cu (d_Sym_draw a1 v5 v6 μ4) fun μ7 =>
    rI 0 μ7 := (bX_eq _ _ _ _ _).trans rfl
set_option maxRecDepth 100000 in
theorem x_Row_sum_eq (a0 : Nat) (a1 : Int) (a2 : Int) (a3 : Int) (μ : bz_M) : x_Row_sum a0 a1 a2 a3 μ =
    if a1 < 0 then rL 0 μ else
    bz_fI μ a0 5 1 fun v1 =>
    if a2 < v1 then
      if a3 < 1 then rL 0 μ else
      x_Row_sum_0 a0 a2 a3 0 a1 μ
    else
    rL 0 μ := (bX_eq _ _ _ _ _).trans rfl
set_option maxRecDepth 100000 in
theorem x_Row_sum_0_eq (x0 : Nat) (x2 : Int) (x3 : Int) (x4 : Int) (x6 : Int) (μ : bz_M) : x_Row_sum_0 x0 x2 x3 x4 x6 μ =
    if x2 < x6 then rL x4 μ else
    bz_fR μ x0 5 0 fun v1 =>
    bz_rI μ v1 x6 fun v2 =>
    x_Row_sum_0 x0 x2 x3 (wl (x4 + v2)) (wr (x6 + x3)) μ := (bX_eq _ _ _ _ _).trans rfl
set_option maxRecDepth 100000 in
theorem x_E_spread_eq (a0 : Nat) (a1 : Int) (a2 : Int) (μ : bz_M) : x_E_spread a0 a1 a2 μ =
    bz_cr (d_E_reading a0 a1 a2 μ) fun v2 μ1 =>
    bz_fR μ1 a0 9 5 fun v3 =>
    bz_rR μ1 v3 a2 fun v4 =>
    bz_cv (d_E_drawWhole a0 v4 v2 μ1) fun μ5 =>
    bz_fR μ5 a0 9 10 fun v6 =>
    bz_fR μ5 a0 9 10 fun v7 =>
    bz_fI μ5 v7 5 1 fun v8 =>
    bz_cj (d_Row_sum v6 0 (wr (v8 - 1)) 1 μ5) fun v10 μ9 =>
    x_E_spread_0 a0 a1 v2 v10 μ9 := (bX_eq _ _ _ _ _).trans rfl
set_option maxRecDepth 100000 in
theorem x_E_spread_0_eq (x0 : Nat) (x1 : Int) (x3 : Nat) (x4 : Int) (μ : bz_M) : x_E_spread_0 x0 x1 x3 x4 μ =
    bz_fR μ x0 9 10 fun v1 =>
    bz_fR μ x0 9 10 fun v2 =>
    bz_fI μ v2 5 1 fun v3 =>
    bz_cj (d_Row_sum v1 0 (wr (v3 - 1)) 2 μ) fun v5 μ4 =>
    x_E_spread_1 x0 x1 x3 x4 v5 μ4 := (bX_eq _ _ _ _ _).trans rfl
set_option maxRecDepth 100000 in
theorem x_E_spread_1_eq (x0 : Nat) (x1 : Int) (x3 : Nat) (x4 : Int) (x6 : Int) (μ : bz_M) : x_E_spread_1 x0 x1 x3 x4 x6 μ =
    bz_fR μ x0 9 3 fun v1 =>
    bz_rR μ v1 x1 fun v2 =>
    bz_fR μ v2 6 0 fun v3 =>
    bz_fI μ x3 4 5 fun v4 =>
    bz_fI μ x3 4 6 fun v5 =>
    bz_cj (d_Row_sum v3 v4 v5 1 μ) fun v7 μ6 =>
    x_E_spread_2 x0 x3 x4 x6 v3 v7 μ6 := (bX_eq _ _ _ _ _).trans rfl
set_option maxRecDepth 100000 in
theorem x_E_spread_2_eq (x0 : Nat) (x3 : Nat) (x4 : Int) (x6 : Int) (x8 : Nat) (x9 : Int) (μ : bz_M) : x_E_spread_2 x0 x3 x4 x6 x8 x9 μ =
    bz_fI μ x3 4 5 fun v1 =>
    bz_fI μ x3 4 6 fun v2 =>
    bz_cj (d_Row_sum x8 v1 v2 2 μ) fun v4 μ3 =>
    x_E_spread_3 x0 x4 x6 x9 v4 μ3 := (bX_eq _ _ _ _ _).trans rfl
set_option maxRecDepth 100000 in
theorem x_E_spread_3_eq (x0 : Nat) (x4 : Int) (x6 : Int) (x9 : Int) (x11 : Int) (μ : bz_M) : x_E_spread_3 x0 x4 x6 x9 x11 μ =
    bz_fR μ x0 9 10 fun v1 =>
    bz_fI μ v1 5 1 fun v2 =>
    x_E_spread_4 x4 x6 x9 x11 (wl ((wr (Int.tdiv (wr (v2 + 1)) 2)) * x4)) μ := (bX_eq _ _ _ _ _).trans rfl
set_option maxRecDepth 100000 in
theorem x_E_spread_4_eq (x4 : Int) (x6 : Int) (x9 : Int) (x11 : Int) (x13 : Int) (μ : bz_M) : x_E_spread_4 x4 x6 x9 x11 x13 μ =
    if (0 : Int) < bz_cmp x13 0 then
      bz_cj (x_Mth_floorDiv (wl (100 * (wl ((wl (x11 * x4)) - (wl (x9 * x6)))))) x13 μ) fun v2 μ1 =>
      rI (wr v2) μ1
    else
    rI 0 μ := (bX_eq _ _ _ _ _).trans rfl
set_option maxRecDepth 100000 in
theorem x_Mth_floorDiv_eq (a0 : Int) (a1 : Int) (μ : bz_M) : x_Mth_floorDiv a0 a1 μ =
    bz_ld a0 a1 fun v1 =>
    if bz_cmp (bz_lxor a0 a1) 0 < 0 then
      if bz_cmp (wl (v1 * a1)) a0 = 0 then rL v1 μ else
      rL (wl (v1 - 1)) μ
    else
    rL v1 μ := (bX_eq _ _ _ _ _).trans rfl
set_option maxRecDepth 100000 in
theorem x_E_mergedLength_eq (a0 : Nat) (a1 : Int) (a2 : Int) (a3 : Int) (μ : bz_M) : x_E_mergedLength a0 a1 a2 a3 μ =
    bz_cr (d_E_reading a0 a1 a3 μ) fun v2 μ1 =>
    bz_fR μ1 v2 4 1 fun v3 =>
    bz_cr (d_E_reading a0 a2 a3 μ1) fun v5 μ4 =>
    bz_fR μ4 v5 4 2 fun v6 =>
    bz_fR μ4 a0 9 5 fun v7 =>
    bz_rR μ4 v7 a3 fun v8 =>
    bz_cn (d_Sym_seam v8 v3 v6 μ4) fun v10 μ9 =>
    if v10 = (-1) then rI 0 μ9 else
    bz_fI μ9 v3 7 2 fun v11 =>
    bz_fI μ9 v6 7 2 fun v12 =>
    rI (wr ((wr (v11 + v12)) - v10)) μ9 := (bX_eq _ _ _ _ _).trans rfl
set_option maxRecDepth 100000 in
theorem x_E_mergedCharacter_eq (a0 : Nat) (a1 : Int) (a2 : Int) (a3 : Int) (a4 : Int) (μ : bz_M) : x_E_mergedCharacter a0 a1 a2 a3 a4 μ =
    bz_cr (d_E_reading a0 a1 a3 μ) fun v2 μ1 =>
    bz_fR μ1 v2 4 1 fun v3 =>
    bz_cr (d_E_reading a0 a2 a3 μ1) fun v5 μ4 =>
    bz_fR μ4 v5 4 2 fun v6 =>
    bz_fR μ4 a0 9 5 fun v7 =>
    bz_rR μ4 v7 a3 fun v8 =>
    bz_cn (d_Sym_seam v8 v3 v6 μ4) fun v10 μ9 =>
    if v10 = (-1) then
      bz_cv (x_E_requirePlace a4 0 μ9) fun μ11 =>
      bz_fI μ11 v3 7 2 fun v12 =>
      if a4 < v12 then
        bz_fR μ11 v3 7 0 fun v13 =>
        bz_rI μ11 v13 a4 fun v14 =>
        bz_ci (x_E_characterOf v14 μ11) fun v16 μ15 =>
        rI v16 μ15
      else
      bz_fR μ11 v6 7 0 fun v17 =>
      bz_fI μ11 v3 7 2 fun v18 =>
      bz_rI μ11 v17 (wr ((wr (a4 - v18)) + v10)) fun v19 =>
      bz_ci (x_E_characterOf v19 μ11) fun v21 μ20 =>
      rI v21 μ20
    else
    bz_fI μ9 v3 7 2 fun v22 =>
    bz_fI μ9 v6 7 2 fun v23 =>
    bz_cv (x_E_requirePlace a4 (wr ((wr (v22 + v23)) - v10)) μ9) fun μ24 =>
    bz_fI μ24 v3 7 2 fun v25 =>
    if a4 < v25 then
      bz_fR μ24 v3 7 0 fun v26 =>
      bz_rI μ24 v26 a4 fun v27 =>
      bz_ci (x_E_characterOf v27 μ24) fun v29 μ28 =>
      rI v29 μ28
    else
    bz_fR μ24 v6 7 0 fun v30 =>
    bz_fI μ24 v3 7 2 fun v31 =>
    bz_rI μ24 v30 (wr ((wr (a4 - v31)) + v10)) fun v32 =>
    bz_ci (x_E_characterOf v32 μ24) fun v34 μ33 =>
    rI v34 μ33 := (bX_eq _ _ _ _ _).trans rfl
set_option maxRecDepth 100000 in
theorem x_E_bestScan_eq (a0 : Nat) (a1 : Int) (μ : bz_M) : x_E_bestScan a0 a1 μ =
    bz_cv (x_E_requireSymbology a1 μ) fun μ1 =>
    x_E_bestScan_0 a0 a1 (-1) (-1) 0 μ1 := (bX_eq _ _ _ _ _).trans rfl
set_option maxRecDepth 100000 in
theorem x_E_bestScan_0_eq (x0 : Nat) (x1 : Int) (x2 : Int) (x3 : Int) (x4 : Int) (μ : bz_M) : x_E_bestScan_0 x0 x1 x2 x3 x4 μ =
    bz_fI μ x0 9 4 fun v1 =>
    if x4 < v1 then
      bz_cr (d_E_reading x0 x4 x1 μ) fun v3 μ2 =>
      bz_fR μ2 v3 4 0 fun v4 =>
      bz_fI μ2 v4 7 2 fun v5 =>
      if (0 : Int) < v5 then
        bz_ci (d_Seq_leastConfidence v4 μ2) fun v7 μ6 =>
        if x3 < v7 then
          bz_ci (d_Seq_leastConfidence v4 μ6) fun v9 μ8 =>
          x_E_bestScan_0 x0 x1 x4 v9 (wr (x4 + 1)) μ8
        else
        x_E_bestScan_0 x0 x1 x2 x3 (wr (x4 + 1)) μ6
      else
      x_E_bestScan_0 x0 x1 x2 x3 (wr (x4 + 1)) μ2
    else
    if x2 = (-1) then rX 4 (sX μ) else
    rI x2 μ := (bX_eq _ _ _ _ _).trans rfl
set_option maxRecDepth 100000 in
theorem x_E_length_eq (a0 : Nat) (a1 : Int) (μ : bz_M) : x_E_length a0 a1 μ =
    bz_cr (d_E_tally a0 a1 μ) fun v2 μ1 =>
    bz_fI μ1 v2 8 4 fun v3 =>
    rI v3 μ1 := (bX_eq _ _ _ _ _).trans rfl
set_option maxRecDepth 100000 in
theorem x_E_weight_eq (a0 : Nat) (a1 : Int) (a2 : Int) (a3 : Int) (μ : bz_M) : x_E_weight a0 a1 a2 a3 μ =
    bz_cr (d_E_tally a0 a1 μ) fun v2 μ1 =>
    bz_fI μ1 v2 8 4 fun v3 =>
    bz_cv (x_E_requirePlace a2 v3 μ1) fun μ4 =>
    if a3 = (-1) then
      bz_fR μ4 v2 8 2 fun v5 =>
      bz_rI μ4 v5 a2 fun v6 =>
      rI v6 μ4
    else
    bz_ci (x_E_valueOf a3 μ4) fun v8 μ7 =>
    if v8 = (-1) then rI 0 μ7 else
    bz_ci (d_Tal_weightOf v2 a2 v8 μ7) fun v10 μ9 =>
    rI v10 μ9 := (bX_eq _ _ _ _ _).trans rfl
set_option maxRecDepth 100000 in
theorem x_E_voted_eq (a0 : Nat) (a1 : Int) (a2 : Int) (μ : bz_M) : x_E_voted a0 a1 a2 μ =
    bz_cr (d_E_tally a0 a1 μ) fun v2 μ1 =>
    bz_fI μ1 v2 8 4 fun v3 =>
    bz_cv (x_E_requirePlace a2 v3 μ1) fun μ4 =>
    bz_fR μ4 v2 8 3 fun v5 =>
    bz_rI μ4 v5 a2 fun v6 =>
    bz_ci (x_E_characterOf v6 μ4) fun v8 μ7 =>
    rI v8 μ7 := (bX_eq _ _ _ _ _).trans rfl
set_option maxRecDepth 100000 in
theorem x_E_runnerUp_eq (a0 : Nat) (a1 : Int) (a2 : Int) (μ : bz_M) : x_E_runnerUp a0 a1 a2 μ =
    bz_cr (d_E_tally a0 a1 μ) fun v2 μ1 =>
    bz_fI μ1 v2 8 4 fun v3 =>
    bz_cv (x_E_requirePlace a2 v3 μ1) fun μ4 =>
    bz_ci (x_E_strongest v2 a2 (-1) μ4) fun v6 μ5 =>
    if v6 = (-1) then rI (-1) μ5 else
    bz_ci (x_E_strongest v2 a2 v6 μ5) fun v8 μ7 =>
    bz_ci (x_E_characterOf v8 μ7) fun v10 μ9 =>
    rI v10 μ9 := (bX_eq _ _ _ _ _).trans rfl
set_option maxRecDepth 100000 in
theorem x_E_strongest_eq (a0 : Nat) (a1 : Int) (a2 : Int) (μ : bz_M) : x_E_strongest a0 a1 a2 μ =
    x_E_strongest_0 a0 a1 a2 (-1) 0 0 μ := (bX_eq _ _ _ _ _).trans rfl
set_option maxRecDepth 100000 in
theorem x_E_strongest_0_eq (x0 : Nat) (x1 : Int) (x2 : Int) (x3 : Int) (x4 : Int) (x5 : Int) (μ : bz_M) : x_E_strongest_0 x0 x1 x2 x3 x4 x5 μ =
    if x5 < 20 then
      bz_ci (d_Tal_weightOf x0 x1 x5 μ) fun v2 μ1 =>
      if v2 = x4 then
        if x3 = (-1) then
          if x5 = x2 then x_E_strongest_0 x0 x1 x2 x3 x4 (wr (x5 + 1)) μ1 else
          if x4 < v2 then x_E_strongest_0 x0 x1 x2 x5 v2 (wr (x5 + 1)) μ1 else
          x_E_strongest_0 x0 x1 x2 x3 x4 (wr (x5 + 1)) μ1
        else
        bz_ci (x_E_characterOf x5 μ1) fun v4 μ3 =>
        bz_ci (x_E_characterOf x3 μ3) fun v6 μ5 =>
        if v4 < v6 then
          if x5 = x2 then x_E_strongest_0 x0 x1 x2 x3 x4 (wr (x5 + 1)) μ5 else
          if x4 < v2 then x_E_strongest_0 x0 x1 x2 x5 v2 (wr (x5 + 1)) μ5 else
          x_E_strongest_0 x0 x1 x2 x5 v2 (wr (x5 + 1)) μ5
        else
        if x5 = x2 then x_E_strongest_0 x0 x1 x2 x3 x4 (wr (x5 + 1)) μ5 else
        if x4 < v2 then x_E_strongest_0 x0 x1 x2 x5 v2 (wr (x5 + 1)) μ5 else
        x_E_strongest_0 x0 x1 x2 x3 x4 (wr (x5 + 1)) μ5
      else
      if x5 = x2 then x_E_strongest_0 x0 x1 x2 x3 x4 (wr (x5 + 1)) μ1 else
      if x4 < v2 then x_E_strongest_0 x0 x1 x2 x5 v2 (wr (x5 + 1)) μ1 else
      x_E_strongest_0 x0 x1 x2 x3 x4 (wr (x5 + 1)) μ1
    else
    rI x3 μ := (bX_eq _ _ _ _ _).trans rfl
set_option maxRecDepth 100000 in
theorem x_E_problem_eq (a0 : Nat) (a1 : Int) (μ : bz_M) : x_E_problem a0 a1 μ =
    bz_cr (d_E_tally a0 a1 μ) fun v2 μ1 =>
    bz_ci (d_E_problemOf a0 v2 a1 μ1) fun v4 μ3 =>
    rI v4 μ3 := (bX_eq _ _ _ _ _).trans rfl
set_option maxRecDepth 100000 in
theorem x_E_doubtful_eq (a0 : Nat) (a1 : Int) (μ : bz_M) : x_E_doubtful a0 a1 μ =
    bz_cr (d_E_tally a0 a1 μ) fun v2 μ1 =>
    bz_ci (d_Tal_firstDoubt v2 μ1) fun v4 μ3 =>
    rI v4 μ3 := (bX_eq _ _ _ _ _).trans rfl
set_option maxRecDepth 100000 in
theorem x_Tal_firstDoubt_eq (a0 : Nat) (μ : bz_M) : x_Tal_firstDoubt a0 μ =
    x_Tal_firstDoubt_0 a0 0 μ := (bX_eq _ _ _ _ _).trans rfl
set_option maxRecDepth 100000 in
theorem x_Tal_firstDoubt_0_eq (x0 : Nat) (x1 : Int) (μ : bz_M) : x_Tal_firstDoubt_0 x0 x1 μ =
    bz_fI μ x0 8 4 fun v1 =>
    if x1 < v1 then
      bz_fR μ x0 8 3 fun v2 =>
      bz_rI μ v2 x1 fun v3 =>
      if v3 = (-1) then rI x1 μ else
      x_Tal_firstDoubt_0 x0 (wr (x1 + 1)) μ
    else
    rI (-1) μ := (bX_eq _ _ _ _ _).trans rfl
set_option maxRecDepth 100000 in
theorem x_E_repaired_eq (a0 : Nat) (a1 : Int) (μ : bz_M) : x_E_repaired a0 a1 μ =
    bz_cr (d_E_tally a0 a1 μ) fun v2 μ1 =>
    bz_ci (d_Tal_doubts v2 μ1) fun v4 μ3 =>
    if v4 = 1 then
      bz_fR μ3 a0 9 11 fun v5 =>
      bz_fR μ3 v2 8 3 fun v6 =>
      bz_fI μ3 v2 8 4 fun v7 =>
      bz_cv (d_Seq_copyValues v5 v6 v7 μ3) fun μ8 =>
      bz_fR μ8 a0 9 5 fun v9 =>
      bz_rR μ8 v9 a1 fun v10 =>
      bz_ci (d_Tal_firstDoubt v2 μ8) fun v12 μ11 =>
      bz_ci (d_E_rightValue a0 v10 v12 μ11) fun v14 μ13 =>
      if v14 = (-1) then rX 4 (sX μ13) else
      bz_ci (x_E_characterOf v14 μ13) fun v16 μ15 =>
      rI v16 μ15
    else
    rX 1 (sX μ3) := (bX_eq _ _ _ _ _).trans rfl
set_option maxRecDepth 100000 in
theorem x_E_worstScan_eq (a0 : Nat) (a1 : Int) (μ : bz_M) : x_E_worstScan a0 a1 μ =
    bz_cr (d_E_tally a0 a1 μ) fun v2 μ1 =>
    x_E_worstScan_0 a0 a1 v2 (-1) (-1) 0 μ1 := (bX_eq _ _ _ _ _).trans rfl
set_option maxRecDepth 100000 in
theorem x_E_worstScan_0_eq (x0 : Nat) (x1 : Int) (x2 : Nat) (x3 : Int) (x4 : Int) (x5 : Int) (μ : bz_M) : x_E_worstScan_0 x0 x1 x2 x3 x4 x5 μ =
    bz_fI μ x0 9 4 fun v1 =>
    if x5 < v1 then
      bz_cr (d_E_reading x0 x5 x1 μ) fun v3 μ2 =>
      bz_fR μ2 v3 4 0 fun v4 =>
      bz_fI μ2 v4 7 2 fun v5 =>
      if (0 : Int) < v5 then
        bz_fI μ2 v4 7 2 fun v6 =>
        bz_fI μ2 x2 8 4 fun v7 =>
        if v6 = v7 then
          bz_ci (d_Tal_disagreements x2 v4 μ2) fun v9 μ8 =>
          if x4 < v9 then
            bz_ci (d_Tal_disagreements x2 v4 μ8) fun v11 μ10 =>
            x_E_worstScan_0 x0 x1 x2 x5 v11 (wr (x5 + 1)) μ10
          else
          x_E_worstScan_0 x0 x1 x2 x3 x4 (wr (x5 + 1)) μ8
        else
        x_E_worstScan_0 x0 x1 x2 x3 x4 (wr (x5 + 1)) μ2
      else
      x_E_worstScan_0 x0 x1 x2 x3 x4 (wr (x5 + 1)) μ2
    else
    if x3 = (-1) then rX 4 (sX μ) else
    rI x3 μ := (bX_eq _ _ _ _ _).trans rfl
set_option maxRecDepth 100000 in
theorem x_Tal_disagreements_eq (a0 : Nat) (a1 : Nat) (μ : bz_M) : x_Tal_disagreements a0 a1 μ =
    x_Tal_disagreements_0 a0 a1 0 0 μ := (bX_eq _ _ _ _ _).trans rfl
set_option maxRecDepth 100000 in
theorem x_Tal_disagreements_0_eq (x0 : Nat) (x1 : Nat) (x2 : Int) (x3 : Int) (μ : bz_M) : x_Tal_disagreements_0 x0 x1 x2 x3 μ =
    bz_fI μ x1 7 2 fun v1 =>
    if x3 < v1 then
      bz_fR μ x1 7 0 fun v2 =>
      bz_rI μ v2 x3 fun v3 =>
      bz_fR μ x0 8 3 fun v4 =>
      bz_rI μ v4 x3 fun v5 =>
      if v3 = v5 then x_Tal_disagreements_0 x0 x1 x2 (wr (x3 + 1)) μ else
      x_Tal_disagreements_0 x0 x1 (wr (x2 + 1)) (wr (x3 + 1)) μ
    else
    rI x2 μ := (bX_eq _ _ _ _ _).trans rfl
set_option maxRecDepth 100000 in
theorem x_E_setCheck_eq (a0 : Nat) (a1 : Int) (a2 : Int) (μ : bz_M) : x_E_setCheck a0 a1 a2 μ =
    bz_cv (x_E_requireSymbology a1 μ) fun μ1 =>
    bz_fR μ1 a0 9 7 fun v2 =>
    bz_rB μ1 v2 a1 fun v3 =>
    bz_fR μ1 a0 9 7 fun v4 =>
    bz_wB μ1 v4 a1 a2 fun μ5 =>
    bz_zB v3 μ5 := (bX_eq _ _ _ _ _).trans rfl
