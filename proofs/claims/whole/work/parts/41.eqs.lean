/-! BLOCK EQUATIONS, by program: each is what the machine does from there to the next cut, call by call -/
set_option maxRecDepth 100000 in
theorem x_E_new_eq (n : Nat) (a0 : Nat) (μ : bz_M) : x_E_new (n + 1) a0 μ =
    bz_oi μ a0 fun v1 =>
    bz_na μ 20 60 fun v2 μ3 =>
    bz_pR μ3 a0 9 0 v2 fun μ4 =>
    bz_nw μ4 5 fun v5 μ6 =>
    bz_cu (d_Row_new n v5 μ6) fun μ7 =>
    bz_pR μ7 a0 9 2 v5 fun μ8 =>
    bz_na μ8 24 24 fun v9 μ10 =>
    bz_pR μ10 a0 9 3 v9 fun μ11 =>
    bz_na μ11 26 3 fun v12 μ13 =>
    bz_nw μ13 2 fun v14 μ15 =>
    bz_cu (d_Ean_new n v14 μ15) fun μ16 =>
    bz_wR μ16 v12 0 v14 fun μ17 =>
    bz_nw μ17 3 fun v18 μ19 =>
    bz_cu (d_Int_new n v18 μ19) fun μ20 =>
    bz_wR μ20 v12 1 v18 fun μ21 =>
    bz_nw μ21 1 fun v22 μ23 =>
    bz_cu (d_Cod_new n v22 μ23) fun μ24 =>
    bz_wR μ24 v12 2 v22 fun μ25 =>
    bz_pR μ25 a0 9 5 v12 fun μ26 =>
    bz_na μ26 27 3 fun v27 μ28 =>
    bz_nw μ28 8 fun v29 μ30 =>
    bz_cu (d_Tal_new n v29 μ30) fun μ31 =>
    bz_wR μ31 v27 0 v29 fun μ32 =>
    bz_nw μ32 8 fun v33 μ34 =>
    bz_cu (d_Tal_new n v33 μ34) fun μ35 =>
    bz_wR μ35 v27 1 v33 fun μ36 =>
    bz_nw μ36 8 fun v37 μ38 =>
    bz_cu (d_Tal_new n v37 μ38) fun μ39 =>
    bz_wR μ39 v27 2 v37 fun μ40 =>
    bz_pR μ40 a0 9 6 v27 fun μ41 =>
    bz_na μ41 22 3 fun v42 μ43 =>
    bz_wB μ43 v42 0 1 fun μ44 =>
    bz_wB μ44 v42 1 0 fun μ45 =>
    bz_wB μ45 v42 2 0 fun μ46 =>
    bz_pR μ46 a0 9 7 v42 fun μ47 =>
    bz_nw μ47 5 fun v48 μ49 =>
    bz_cu (d_Row_new n v48 μ49) fun μ50 =>
    bz_pR μ50 a0 9 8 v48 fun μ51 =>
    bz_nw μ51 5 fun v52 μ53 =>
    bz_cu (d_Row_new n v52 μ53) fun μ54 =>
    bz_pR μ54 a0 9 9 v52 fun μ55 =>
    bz_nw μ55 5 fun v56 μ57 =>
    bz_cu (d_Row_new n v56 μ57) fun μ58 =>
    bz_pR μ58 a0 9 10 v56 fun μ59 =>
    bz_nw μ59 7 fun v60 μ61 =>
    bz_cu (d_Seq_new n v60 μ61) fun μ62 =>
    bz_pR μ62 a0 9 11 v60 fun μ63 =>
    x_E_new_0 n a0 0 μ63 := rfl
set_option maxRecDepth 100000 in
theorem x_E_new_0_eq (n : Nat) (x0 : Nat) (x1 : Int) (μ : bz_M) : x_E_new_0 (n + 1) x0 x1 μ =
    if x1 < 24 then
      bz_fR μ x0 9 3 fun v1 =>
      bz_nw μ 6 fun v2 μ3 =>
      bz_cu (d_Scn_new n v2 μ3) fun μ4 =>
      bz_wR μ4 v1 x1 v2 fun μ5 =>
      x_E_new_0 n x0 (wr (x1 + 1)) μ5
    else
    rI 0 μ := rfl
set_option maxRecDepth 100000 in
theorem x_Row_new_eq (n : Nat) (a0 : Nat) (μ : bz_M) : x_Row_new (n + 1) a0 μ =
    bz_oi μ a0 fun v1 =>
    bz_na μ 20 129 fun v2 μ3 =>
    bz_pR μ3 a0 5 0 v2 fun μ4 =>
    rI 0 μ4 := rfl
set_option maxRecDepth 100000 in
theorem x_Ean_new_eq (n : Nat) (a0 : Nat) (μ : bz_M) : x_Ean_new (n + 1) a0 μ =
    bz_cu (d_Sym_new n a0 3 2 4 4 μ) fun μ1 =>
    rI 0 μ1 := rfl
set_option maxRecDepth 100000 in
theorem x_Sym_new_eq (n : Nat) (a0 : Nat) (a1 : Int) (a2 : Int) (a3 : Int) (a4 : Int) (μ : bz_M) : x_Sym_new (n + 1) a0 a1 a2 a3 a4 μ =
    bz_oi μ a0 fun v1 =>
    bz_pS μ a0 0 a1 fun μ2 =>
    bz_pS μ2 a0 1 a2 fun μ3 =>
    bz_pS μ3 a0 2 a3 fun μ4 =>
    bz_pS μ4 a0 3 a4 fun μ5 =>
    rI 0 μ5 := rfl
set_option maxRecDepth 100000 in
theorem x_Int_new_eq (n : Nat) (a0 : Nat) (μ : bz_M) : x_Int_new (n + 1) a0 μ =
    bz_cu (d_Sym_new n a0 4 2 10 7 μ) fun μ1 =>
    rI 0 μ1 := rfl
set_option maxRecDepth 100000 in
theorem x_Cod_new_eq (n : Nat) (a0 : Nat) (μ : bz_M) : x_Cod_new (n + 1) a0 μ =
    bz_cu (d_Sym_new n a0 8 6 8 14 μ) fun μ1 =>
    rI 0 μ1 := rfl
set_option maxRecDepth 100000 in
theorem x_Tal_new_eq (n : Nat) (a0 : Nat) (μ : bz_M) : x_Tal_new (n + 1) a0 μ =
    bz_oi μ a0 fun v1 =>
    bz_na μ 20 320 fun v2 μ3 =>
    bz_pR μ3 a0 8 0 v2 fun μ4 =>
    bz_na μ4 20 17 fun v5 μ6 =>
    bz_pR μ6 a0 8 1 v5 fun μ7 =>
    bz_na μ7 20 16 fun v8 μ9 =>
    bz_pR μ9 a0 8 2 v8 fun μ10 =>
    bz_na μ10 20 16 fun v11 μ12 =>
    bz_pR μ12 a0 8 3 v11 fun μ13 =>
    rI 0 μ13 := rfl
set_option maxRecDepth 100000 in
theorem x_Seq_new_eq (n : Nat) (a0 : Nat) (μ : bz_M) : x_Seq_new (n + 1) a0 μ =
    bz_oi μ a0 fun v1 =>
    bz_na μ 20 16 fun v2 μ3 =>
    bz_pR μ3 a0 7 0 v2 fun μ4 =>
    bz_na μ4 20 16 fun v5 μ6 =>
    bz_pR μ6 a0 7 1 v5 fun μ7 =>
    rI 0 μ7 := rfl
set_option maxRecDepth 100000 in
theorem x_Scn_new_eq (n : Nat) (a0 : Nat) (μ : bz_M) : x_Scn_new (n + 1) a0 μ =
    bz_oi μ a0 fun v1 =>
    bz_nw μ 5 fun v2 μ3 =>
    bz_cu (d_Row_new n v2 μ3) fun μ4 =>
    bz_pR μ4 a0 6 0 v2 fun μ5 =>
    bz_na μ5 25 3 fun v6 μ7 =>
    bz_nw μ7 4 fun v8 μ9 =>
    bz_cu (d_Rdg_new n v8 μ9) fun μ10 =>
    bz_wR μ10 v6 0 v8 fun μ11 =>
    bz_nw μ11 4 fun v12 μ13 =>
    bz_cu (d_Rdg_new n v12 μ13) fun μ14 =>
    bz_wR μ14 v6 1 v12 fun μ15 =>
    bz_nw μ15 4 fun v16 μ17 =>
    bz_cu (d_Rdg_new n v16 μ17) fun μ18 =>
    bz_wR μ18 v6 2 v16 fun μ19 =>
    bz_pR μ19 a0 6 1 v6 fun μ20 =>
    rI 0 μ20 := rfl
set_option maxRecDepth 100000 in
theorem x_Rdg_new_eq (n : Nat) (a0 : Nat) (μ : bz_M) : x_Rdg_new (n + 1) a0 μ =
    bz_oi μ a0 fun v1 =>
    bz_nw μ 7 fun v2 μ3 =>
    bz_cu (d_Seq_new n v2 μ3) fun μ4 =>
    bz_pR μ4 a0 4 0 v2 fun μ5 =>
    bz_nw μ5 7 fun v6 μ7 =>
    bz_cu (d_Seq_new n v6 μ7) fun μ8 =>
    bz_pR μ8 a0 4 1 v6 fun μ9 =>
    bz_nw μ9 7 fun v10 μ11 =>
    bz_cu (d_Seq_new n v10 μ11) fun μ12 =>
    bz_pR μ12 a0 4 2 v10 fun μ13 =>
    rI 0 μ13 := rfl
set_option maxRecDepth 100000 in
theorem x_E_scanCount_eq (n : Nat) (a0 : Nat) (μ : bz_M) : x_E_scanCount (n + 1) a0 μ =
    bz_fI μ a0 9 4 fun v1 =>
    rI v1 μ := rfl
set_option maxRecDepth 100000 in
theorem x_E_winner_eq (n : Nat) (a0 : Nat) (μ : bz_M) : x_E_winner (n + 1) a0 μ =
    x_E_winner_0 n a0 (-1) (-1) 0 μ := rfl
set_option maxRecDepth 100000 in
theorem x_E_winner_0_eq (n : Nat) (x0 : Nat) (x1 : Int) (x2 : Int) (x3 : Int) (μ : bz_M) : x_E_winner_0 (n + 1) x0 x1 x2 x3 μ =
    if x3 < 3 then
      bz_cr (d_E_tally n x0 x3 μ) fun v2 μ1 =>
      bz_ci (d_E_problemOf n x0 v2 x3 μ1) fun v4 μ3 =>
      if v4 = 0 then
        bz_ci (d_Tal_share n v2 μ3) fun v6 μ5 =>
        if x2 < v6 then
          bz_ci (d_Tal_share n v2 μ5) fun v8 μ7 =>
          x_E_winner_0 n x0 x3 v8 (wr (x3 + 1)) μ7
        else
        x_E_winner_0 n x0 x1 x2 (wr (x3 + 1)) μ5
      else
      x_E_winner_0 n x0 x1 x2 (wr (x3 + 1)) μ3
    else
    rI x1 μ := rfl
set_option maxRecDepth 100000 in
theorem x_E_tally_eq (n : Nat) (a0 : Nat) (a1 : Int) (μ : bz_M) : x_E_tally (n + 1) a0 a1 μ =
    bz_cv (x_E_requireSymbology n a1 μ) fun μ1 =>
    bz_fR μ1 a0 9 6 fun v2 =>
    bz_rR μ1 v2 a1 fun v3 =>
    bz_fI μ1 v3 8 5 fun v4 =>
    if v4 = 0 then
      bz_fR μ1 a0 9 5 fun v5 =>
      bz_rR μ1 v5 a1 fun v6 =>
      x_E_tally_0 n a0 a1 v3 v6 0 μ1
    else
    rR v3 μ1 := rfl
set_option maxRecDepth 100000 in
theorem x_E_tally_0_eq (n : Nat) (x0 : Nat) (x1 : Int) (x2 : Nat) (x3 : Nat) (x4 : Int) (μ : bz_M) : x_E_tally_0 (n + 1) x0 x1 x2 x3 x4 μ =
    bz_fI μ x0 9 4 fun v1 =>
    if x4 < v1 then
      bz_fR μ x0 9 3 fun v2 =>
      bz_rR μ v2 x4 fun v3 =>
      bz_fR μ v3 6 0 fun v4 =>
      bz_fR μ x0 9 9 fun v5 =>
      bz_fR μ x0 9 3 fun v6 =>
      bz_rR μ v6 x4 fun v7 =>
      bz_fR μ v7 6 1 fun v8 =>
      bz_rR μ v8 x1 fun v9 =>
      bz_cu (d_Sym_interpret n x3 v4 v5 v9 μ) fun μ10 =>
      x_E_tally_0 n x0 x1 x2 x3 (wr (x4 + 1)) μ10
    else
    bz_fR μ x0 9 3 fun v11 =>
    bz_fI μ x0 9 4 fun v12 =>
    bz_cv (d_Tal_recount n x2 x3 x1 v11 v12 μ) fun μ13 =>
    rR x2 μ13 := rfl
set_option maxRecDepth 100000 in
theorem x_E_requireSymbology_eq (n : Nat) (a0 : Int) (μ : bz_M) : x_E_requireSymbology (n + 1) a0 μ =
    if a0 < 0 then rX 2 (sX μ) else
    if a0 < 3 then rI 0 μ else
    rX 2 (sX μ) := rfl
set_option maxRecDepth 100000 in
theorem x_Sym_interpret_eq (n : Nat) (a0 : Nat) (a1 : Nat) (a2 : Nat) (a3 : Nat) (μ : bz_M) : x_Sym_interpret (n + 1) a0 a1 a2 a3 μ =
    bz_fI μ a3 4 3 fun v1 =>
    if v1 = 0 then
      bz_pB μ a3 4 3 1 fun μ2 =>
      bz_cv (d_Rdg_clear n a3 μ2) fun μ3 =>
      bz_cn (d_Sym_findWhole n a0 a1 a3 μ3) fun v5 μ4 =>
      if v5 = 0 then
        bz_cv (d_Row_copyReversed n a2 a1 μ4) fun μ6 =>
        bz_cn (d_Sym_findWhole n a0 a2 a3 μ6) fun v8 μ7 =>
        if v8 = 0 then
          bz_cn (d_Sym_findParts n a0 a1 a3 μ7) fun v10 μ9 =>
          if v10 = 0 then
            bz_cn (d_Sym_findParts n a0 a2 a3 μ9) fun v12 μ11 =>
            bz_pB μ11 a3 4 4 v12 fun μ13 =>
            rI 0 μ13
          else
          rI 0 μ9
        else
        bz_fI μ7 a1 5 1 fun v14 =>
        bz_cv (d_Rdg_turn n a3 v14 μ7) fun μ15 =>
        rI 0 μ15
      else
      rI 0 μ4
    else
    rI 0 μ := rfl
set_option maxRecDepth 100000 in
theorem x_Rdg_clear_eq (n : Nat) (a0 : Nat) (μ : bz_M) : x_Rdg_clear (n + 1) a0 μ =
    bz_fR μ a0 4 0 fun v1 =>
    bz_pI μ v1 7 2 0 fun μ2 =>
    bz_fR μ2 a0 4 1 fun v3 =>
    bz_pI μ2 v3 7 2 0 fun μ4 =>
    bz_fR μ4 a0 4 2 fun v5 =>
    bz_pI μ4 v5 7 2 0 fun μ6 =>
    bz_pB μ6 a0 4 4 0 fun μ7 =>
    bz_pI μ7 a0 4 5 0 fun μ8 =>
    bz_pI μ8 a0 4 6 0 fun μ9 =>
    rI 0 μ9 := rfl
set_option maxRecDepth 100000 in
theorem x_Sym_findWhole_eq (n : Nat) (a0 : Nat) (a1 : Nat) (a2 : Nat) (μ : bz_M) : x_Sym_findWhole (n + 1) a0 a1 a2 μ =
    x_Sym_findWhole_0 n a0 a1 a2 1 μ := rfl
set_option maxRecDepth 100000 in
theorem x_Sym_findWhole_0_eq (n : Nat) (x0 : Nat) (x1 : Nat) (x2 : Nat) (x3 : Int) (μ : bz_M) : x_Sym_findWhole_0 (n + 1) x0 x1 x2 x3 μ =
    bz_fI μ x1 5 1 fun v1 =>
    if x3 < v1 then
      bz_cn (d_Sym_beginsAt n x0 x1 x3 μ) fun v3 μ2 =>
      if v3 = 0 then x_Sym_findWhole_0 n x0 x1 x2 (wr (x3 + 2)) μ2 else
      bz_fR μ2 x2 4 0 fun v4 =>
      bz_cn (d_Sym_addWhole n x0 x1 x3 v4 μ2) fun v6 μ5 =>
      if v6 = (-1) then x_Sym_findWhole_0 n x0 x1 x2 (wr (x3 + 2)) μ5 else
      bz_pI μ5 x2 4 5 x3 fun μ7 =>
      bz_pI μ7 x2 4 6 v6 fun μ8 =>
      rI 1 μ8
    else
    bz_fR μ x2 4 0 fun v9 =>
    bz_pI μ v9 7 2 0 fun μ10 =>
    rI 0 μ10 := rfl
set_option maxRecDepth 100000 in
theorem x_Cod_beginsAt_eq (n : Nat) (a0 : Nat) (a1 : Nat) (a2 : Int) (μ : bz_M) : x_Cod_beginsAt (n + 1) a0 a1 a2 μ =
    bz_ci (d_Row_match n a1 a2 1 7 4 μ) fun v2 μ1 =>
    if v2 < 16 then rI 0 μ1 else
    bz_ci (d_Row_isQuiet n a1 (wr (a2 - 1)) a2 7 μ1) fun v4 μ3 =>
    if v4 = 0 then rI 0 μ3 else
    rI 1 μ3 := rfl
set_option maxRecDepth 100000 in
theorem x_Row_match_eq (n : Nat) (a0 : Nat) (a1 : Int) (a2 : Int) (a3 : Int) (a4 : Nat) (μ : bz_M) : x_Row_match (n + 1) a0 a1 a2 a3 a4 μ =
    if a1 < 0 then rI (-1) μ else
    if wr (a1 + (wr (a2 * (wr (a3 - 1))))) < a1 then rI (-1) μ else
    bz_fI μ a0 5 1 fun v1 =>
    if wr (a1 + (wr (a2 * (wr (a3 - 1))))) < v1 then
      bz_fR μ a0 5 0 fun v2 =>
      bz_rI μ v2 a1 fun v3 =>
      x_Row_match_0 n a0 a1 a2 a4 (wr (a1 + (wr (a2 * (wr (a3 - 1)))))) v3 v3 a1 μ
    else
    rI (-1) μ := rfl
set_option maxRecDepth 100000 in
theorem x_Row_match_0_eq (n : Nat) (x0 : Nat) (x1 : Int) (x2 : Int) (x4 : Nat) (x5 : Int) (x6 : Int) (x7 : Int) (x8 : Int) (μ : bz_M) : x_Row_match_0 (n + 1) x0 x1 x2 x4 x5 x6 x7 x8 μ =
    if x5 < x8 then
      if wr (2 * x7) < wr (3 * x6) then rI (-1) μ else
      x_Row_match_1 n x0 x2 x4 x5 x6 x7 0 x7 x6 x1 μ
    else
    bz_fR μ x0 5 0 fun v1 =>
    bz_rI μ v1 x8 fun v2 =>
    if v2 < x6 then
      bz_fR μ x0 5 0 fun v3 =>
      bz_rI μ v3 x8 fun v4 =>
      bz_fR μ x0 5 0 fun v5 =>
      bz_rI μ v5 x8 fun v6 =>
      if x7 < v6 then
        bz_fR μ x0 5 0 fun v7 =>
        bz_rI μ v7 x8 fun v8 =>
        x_Row_match_0 n x0 x1 x2 x4 x5 v4 v8 (wr (x8 + x2)) μ
      else
      x_Row_match_0 n x0 x1 x2 x4 x5 v4 x7 (wr (x8 + x2)) μ
    else
    bz_fR μ x0 5 0 fun v9 =>
    bz_rI μ v9 x8 fun v10 =>
    if x7 < v10 then
      bz_fR μ x0 5 0 fun v11 =>
      bz_rI μ v11 x8 fun v12 =>
      x_Row_match_0 n x0 x1 x2 x4 x5 x6 v12 (wr (x8 + x2)) μ
    else
    x_Row_match_0 n x0 x1 x2 x4 x5 x6 x7 (wr (x8 + x2)) μ := rfl
set_option maxRecDepth 100000 in
theorem x_Row_match_1_eq (n : Nat) (x0 : Nat) (x2 : Int) (x4 : Nat) (x5 : Int) (x6 : Int) (x7 : Int) (x8 : Int) (x9 : Int) (x10 : Int) (x11 : Int) (μ : bz_M) : x_Row_match_1 (n + 1) x0 x2 x4 x5 x6 x7 x8 x9 x10 x11 μ =
    if x5 < x11 then
      if x9 < 1 then
        bz_pI μ x0 5 2 0 fun μ1 =>
        x_Row_match_2 n x4 x8 0 μ1
      else
      bz_dv (wr (150 * (wr (x9 - x10)))) x9 fun v2 =>
      if (100 : Int) < v2 then
        bz_pI μ x0 5 2 100 fun μ3 =>
        x_Row_match_2 n x4 x8 0 μ3
      else
      bz_pI μ x0 5 2 v2 fun μ4 =>
      x_Row_match_2 n x4 x8 0 μ4
    else
    bz_fR μ x0 5 0 fun v5 =>
    bz_rI μ v5 x11 fun v6 =>
    if wr (x6 + x7) < wr (2 * v6) then
      if v6 < x9 then x_Row_match_1 n x0 x2 x4 x5 x6 x7 (wr ((wr (2 * x8)) + 1)) v6 x10 (wr (x11 + x2)) μ else
      x_Row_match_1 n x0 x2 x4 x5 x6 x7 (wr ((wr (2 * x8)) + 1)) x9 x10 (wr (x11 + x2)) μ
    else
    if x10 < v6 then x_Row_match_1 n x0 x2 x4 x5 x6 x7 (wr (2 * x8)) x9 v6 (wr (x11 + x2)) μ else
    x_Row_match_1 n x0 x2 x4 x5 x6 x7 (wr (2 * x8)) x9 x10 (wr (x11 + x2)) μ := rfl
set_option maxRecDepth 100000 in
theorem x_Row_match_2_eq (n : Nat) (x4 : Nat) (x8 : Int) (x12 : Int) (μ : bz_M) : x_Row_match_2 (n + 1) x4 x8 x12 μ =
    bz_al μ x4 fun v1 =>
    if x12 < v1 then
      bz_rI μ x4 x12 fun v2 =>
      if v2 = x8 then rI x12 μ else
      x_Row_match_2 n x4 x8 (wr (x12 + 1)) μ
    else
    rI (-1) μ := rfl
set_option maxRecDepth 100000 in
theorem x_Row_isQuiet_eq (n : Nat) (a0 : Nat) (a1 : Int) (a2 : Int) (a3 : Int) (μ : bz_M) : x_Row_isQuiet (n + 1) a0 a1 a2 a3 μ =
    if a1 < 0 then rI 0 μ else
    bz_fI μ a0 5 1 fun v1 =>
    if a1 < v1 then
      if a2 < 0 then rI 0 μ else
      if a3 < 1 then rI 0 μ else
      bz_fI μ a0 5 1 fun v2 =>
      if v2 < wr (a2 + a3) then rI 0 μ else
      bz_fR μ a0 5 0 fun v3 =>
      bz_rI μ v3 a2 fun v4 =>
      x_Row_isQuiet_0 n a0 a1 a2 a3 v4 a2 μ
    else
    rI 0 μ := rfl
set_option maxRecDepth 100000 in
theorem x_Row_isQuiet_0_eq (n : Nat) (x0 : Nat) (x1 : Int) (x2 : Int) (x3 : Int) (x4 : Int) (x5 : Int) (μ : bz_M) : x_Row_isQuiet_0 (n + 1) x0 x1 x2 x3 x4 x5 μ =
    if x5 < wr (x2 + x3) then
      bz_fR μ x0 5 0 fun v1 =>
      bz_rI μ v1 x5 fun v2 =>
      if v2 < x4 then
        bz_fR μ x0 5 0 fun v3 =>
        bz_rI μ v3 x5 fun v4 =>
        x_Row_isQuiet_0 n x0 x1 x2 x3 v4 (wr (x5 + 1)) μ
      else
      x_Row_isQuiet_0 n x0 x1 x2 x3 x4 (wr (x5 + 1)) μ
    else
    bz_fR μ x0 5 0 fun v5 =>
    bz_rI μ v5 x1 fun v6 =>
    if v6 < wr (5 * x4) then rI 0 μ else
    rI 1 μ := rfl
set_option maxRecDepth 100000 in
theorem x_Ean_beginsAt_eq (n : Nat) (a0 : Nat) (a1 : Nat) (a2 : Int) (μ : bz_M) : x_Ean_beginsAt (n + 1) a0 a1 a2 μ =
    bz_ci (d_Row_isEven n a1 a2 3 μ) fun v2 μ1 =>
    if v2 = 0 then rI 0 μ1 else
    bz_ci (d_Row_isQuiet n a1 (wr (a2 - 1)) a2 3 μ1) fun v4 μ3 =>
    if v4 = 0 then rI 0 μ3 else
    rI 1 μ3 := rfl
set_option maxRecDepth 100000 in
theorem x_Row_isEven_eq (n : Nat) (a0 : Nat) (a1 : Int) (a2 : Int) (μ : bz_M) : x_Row_isEven (n + 1) a0 a1 a2 μ =
    if a1 < 0 then rI 0 μ else
    if a2 < 1 then rI 0 μ else
    bz_fI μ a0 5 1 fun v1 =>
    if v1 < wr (a1 + a2) then rI 0 μ else
    bz_fR μ a0 5 0 fun v2 =>
    bz_rI μ v2 a1 fun v3 =>
    x_Row_isEven_0 n a0 a1 a2 v3 v3 a1 μ := rfl
set_option maxRecDepth 100000 in
theorem x_Row_isEven_0_eq (n : Nat) (x0 : Nat) (x1 : Int) (x2 : Int) (x3 : Int) (x4 : Int) (x5 : Int) (μ : bz_M) : x_Row_isEven_0 (n + 1) x0 x1 x2 x3 x4 x5 μ =
    if x5 < wr (x1 + x2) then
      bz_fR μ x0 5 0 fun v1 =>
      bz_rI μ v1 x5 fun v2 =>
      if v2 < x3 then
        bz_fR μ x0 5 0 fun v3 =>
        bz_rI μ v3 x5 fun v4 =>
        bz_fR μ x0 5 0 fun v5 =>
        bz_rI μ v5 x5 fun v6 =>
        if x4 < v6 then
          bz_fR μ x0 5 0 fun v7 =>
          bz_rI μ v7 x5 fun v8 =>
          x_Row_isEven_0 n x0 x1 x2 v4 v8 (wr (x5 + 1)) μ
        else
        x_Row_isEven_0 n x0 x1 x2 v4 x4 (wr (x5 + 1)) μ
      else
      bz_fR μ x0 5 0 fun v9 =>
      bz_rI μ v9 x5 fun v10 =>
      if x4 < v10 then
        bz_fR μ x0 5 0 fun v11 =>
        bz_rI μ v11 x5 fun v12 =>
        x_Row_isEven_0 n x0 x1 x2 x3 v12 (wr (x5 + 1)) μ
      else
      x_Row_isEven_0 n x0 x1 x2 x3 x4 (wr (x5 + 1)) μ
    else
    if wr (2 * x3) < x4 then rI 0 μ else
    rI 1 μ := rfl
set_option maxRecDepth 100000 in
theorem x_Int_beginsAt_eq (n : Nat) (a0 : Nat) (a1 : Nat) (a2 : Int) (μ : bz_M) : x_Int_beginsAt (n + 1) a0 a1 a2 μ =
    bz_ci (d_Row_isEven n a1 a2 4 μ) fun v2 μ1 =>
    if v2 = 0 then rI 0 μ1 else
    bz_ci (d_Row_isQuiet n a1 (wr (a2 - 1)) a2 4 μ1) fun v4 μ3 =>
    if v4 = 0 then rI 0 μ3 else
    rI 1 μ3 := rfl
set_option maxRecDepth 100000 in
theorem x_Ean_addWhole_eq (n : Nat) (a0 : Nat) (a1 : Nat) (a2 : Int) (a3 : Nat) (μ : bz_M) : x_Ean_addWhole (n + 1) a0 a1 a2 a3 μ =
    bz_pI μ a3 7 2 0 fun μ1 =>
    bz_fS μ1 a0 0 fun v2 =>
    x_Ean_addWhole_0 n a0 a1 a3 (wr (a2 + v2)) 0 μ1 := rfl
set_option maxRecDepth 100000 in
theorem x_Ean_addWhole_0_eq (n : Nat) (x0 : Nat) (x1 : Nat) (x3 : Nat) (x4 : Int) (x5 : Int) (μ : bz_M) : x_Ean_addWhole_0 (n + 1) x0 x1 x3 x4 x5 μ =
    if x5 < 8 then
      if x5 = 4 then
        bz_ci (d_Row_isEven n x1 x4 5 μ) fun v2 μ1 =>
        if v2 = 0 then rI (-1) μ1 else
        bz_ci (d_Ean_addUnit n x0 x1 (wr (x4 + 5)) x3 μ1) fun v4 μ3 =>
        if v4 = 0 then rI (-1) μ3 else
        bz_fS μ3 x0 2 fun v5 =>
        x_Ean_addWhole_0 n x0 x1 x3 (wr ((wr (x4 + 5)) + v5)) (wr (x5 + 1)) μ3
      else
      bz_ci (d_Ean_addUnit n x0 x1 x4 x3 μ) fun v7 μ6 =>
      if v7 = 0 then rI (-1) μ6 else
      bz_fS μ6 x0 2 fun v8 =>
      x_Ean_addWhole_0 n x0 x1 x3 (wr (x4 + v8)) (wr (x5 + 1)) μ6
    else
    bz_fS μ x0 1 fun v9 =>
    bz_ci (d_Ean_endsAt n x0 x1 (wr (x4 + v9)) μ) fun v11 μ10 =>
    if v11 = 0 then rI (-1) μ10 else
    bz_fS μ10 x0 1 fun v12 =>
    rI (wr (x4 + v12)) μ10 := rfl
set_option maxRecDepth 100000 in
theorem x_Ean_addUnit_eq (n : Nat) (a0 : Nat) (a1 : Nat) (a2 : Int) (a3 : Nat) (μ : bz_M) : x_Ean_addUnit (n + 1) a0 a1 a2 a3 μ =
    bz_ci (d_Row_has n a1 a2 4 μ) fun v2 μ1 =>
    if v2 = 0 then rI 0 μ1 else
    bz_fR μ1 a1 5 0 fun v3 =>
    bz_rI μ1 v3 a2 fun v4 =>
    bz_fR μ1 a1 5 0 fun v5 =>
    bz_rI μ1 v5 (wr (a2 + 1)) fun v6 =>
    bz_fR μ1 a1 5 0 fun v7 =>
    bz_rI μ1 v7 (wr (a2 + 1)) fun v8 =>
    bz_fR μ1 a1 5 0 fun v9 =>
    bz_rI μ1 v9 (wr (a2 + 2)) fun v10 =>
    bz_fR μ1 a1 5 0 fun v11 =>
    bz_rI μ1 v11 (wr (a2 + 2)) fun v12 =>
    bz_fR μ1 a1 5 0 fun v13 =>
    bz_rI μ1 v13 (wr (a2 + 3)) fun v14 =>
    if wr ((wr ((wr (v4 + v6)) + v12)) + v14) < 1 then rI 0 μ1 else
    bz_dv (wr ((wr (14 * (wr (v4 + v6)))) + (wr ((wr ((wr (v4 + v6)) + v12)) + v14)))) (wr (2 * (wr ((wr ((wr (v4 + v6)) + v12)) + v14)))) fun v15 =>
    bz_dv (wr ((wr (14 * (wr (v8 + v10)))) + (wr ((wr ((wr (v4 + v6)) + v12)) + v14)))) (wr (2 * (wr ((wr ((wr (v4 + v6)) + v12)) + v14)))) fun v16 =>
    bz_fR μ1 a1 5 0 fun v17 =>
    bz_rI μ1 v17 a2 fun v18 =>
    bz_fR μ1 a1 5 0 fun v19 =>
    bz_rI μ1 v19 (wr (a2 + 2)) fun v20 =>
    if wr (7 * (wr (v18 + v20))) < wr (3 * (wr ((wr ((wr (v4 + v6)) + v12)) + v14))) then
      bz_ci (x_Ean_digitOf n v15 v16 0 μ1) fun v22 μ21 =>
      if v22 = (-1) then rI 0 μ21 else
      bz_ci (x_Mth_abs n (wr ((wr (7 * (wr (v4 + v6)))) - (wr (v15 * (wr ((wr ((wr (v4 + v6)) + v12)) + v14)))))) μ21) fun v24 μ23 =>
      bz_ci (x_Mth_abs n (wr ((wr (7 * (wr (v8 + v10)))) - (wr (v16 * (wr ((wr ((wr (v4 + v6)) + v12)) + v14)))))) μ23) fun v26 μ25 =>
      bz_ci (x_Mth_max n v24 v26 μ25) fun v28 μ27 =>
      bz_dv (wr (200 * v28)) (wr ((wr ((wr (v4 + v6)) + v12)) + v14)) fun v29 =>
      bz_cv (d_Seq_add n a3 v22 (wr (100 - v29)) μ27) fun μ30 =>
      rI 1 μ30
    else
    bz_ci (x_Ean_digitOf n v15 v16 1 μ1) fun v32 μ31 =>
    if v32 = (-1) then rI 0 μ31 else
    bz_ci (x_Mth_abs n (wr ((wr (7 * (wr (v4 + v6)))) - (wr (v15 * (wr ((wr ((wr (v4 + v6)) + v12)) + v14)))))) μ31) fun v34 μ33 =>
    bz_ci (x_Mth_abs n (wr ((wr (7 * (wr (v8 + v10)))) - (wr (v16 * (wr ((wr ((wr (v4 + v6)) + v12)) + v14)))))) μ33) fun v36 μ35 =>
    bz_ci (x_Mth_max n v34 v36 μ35) fun v38 μ37 =>
    bz_dv (wr (200 * v38)) (wr ((wr ((wr (v4 + v6)) + v12)) + v14)) fun v39 =>
    bz_cv (d_Seq_add n a3 v32 (wr (100 - v39)) μ37) fun μ40 =>
    rI 1 μ40 := rfl
set_option maxRecDepth 100000 in
theorem x_Row_has_eq (n : Nat) (a0 : Nat) (a1 : Int) (a2 : Int) (μ : bz_M) : x_Row_has (n + 1) a0 a1 a2 μ =
    if a1 < 0 then rI 0 μ else
    bz_fI μ a0 5 1 fun v1 =>
    if v1 < wr (a1 + a2) then rI 0 μ else
    rI 1 μ := rfl
set_option maxRecDepth 100000 in
theorem x_Ean_digitOf_eq (n : Nat) (a0 : Int) (a1 : Int) (a2 : Int) (μ : bz_M) : x_Ean_digitOf (n + 1) a0 a1 a2 μ =
    if wr ((wr (10 * a0)) + a1) = 22 then rI 6 μ else
    if wr ((wr (10 * a0)) + a1) = 24 then rI 4 μ else
    if wr ((wr (10 * a0)) + a1) = 33 then
      if a2 = 0 then rI 8 μ else
      rI 2 μ
    else
    if wr ((wr (10 * a0)) + a1) = 35 then rI 5 μ else
    if wr ((wr (10 * a0)) + a1) = 42 then rI 9 μ else
    if wr ((wr (10 * a0)) + a1) = 44 then
      if a2 = 0 then rI 7 μ else
      rI 1 μ
    else
    if wr ((wr (10 * a0)) + a1) = 53 then rI 0 μ else
    if wr ((wr (10 * a0)) + a1) = 55 then rI 3 μ else
    rI (-1) μ := rfl
set_option maxRecDepth 100000 in
theorem x_Mth_abs_eq (n : Nat) (a0 : Int) (μ : bz_M) : x_Mth_abs (n + 1) a0 μ =
    if a0 < 0 then rI (wr (-a0)) μ else
    rI a0 μ := rfl
set_option maxRecDepth 100000 in
theorem x_Mth_max_eq (n : Nat) (a0 : Int) (a1 : Int) (μ : bz_M) : x_Mth_max (n + 1) a0 a1 μ =
    if a0 < a1 then rI a1 μ else
    rI a0 μ := rfl
set_option maxRecDepth 100000 in
theorem x_Seq_add_eq (n : Nat) (a0 : Nat) (a1 : Int) (a2 : Int) (μ : bz_M) : x_Seq_add (n + 1) a0 a1 a2 μ =
    bz_fI μ a0 7 2 fun v1 =>
    bz_fR μ a0 7 0 fun v2 =>
    bz_al μ v2 fun v3 =>
    if v1 < v3 then
      bz_fR μ a0 7 0 fun v4 =>
      bz_fI μ a0 7 2 fun v5 =>
      bz_wI μ v4 v5 a1 fun μ6 =>
      bz_fR μ6 a0 7 1 fun v7 =>
      bz_fI μ6 a0 7 2 fun v8 =>
      bz_wI μ6 v7 v8 a2 fun μ9 =>
      bz_fI μ9 a0 7 2 fun v10 =>
      bz_pI μ9 a0 7 2 (wr (v10 + 1)) fun μ11 =>
      rI 0 μ11
    else
    rI 0 μ := rfl
set_option maxRecDepth 100000 in
theorem x_Ean_endsAt_eq (n : Nat) (a0 : Nat) (a1 : Nat) (a2 : Int) (μ : bz_M) : x_Ean_endsAt (n + 1) a0 a1 a2 μ =
    bz_ci (d_Row_isEven n a1 (wr (a2 - 2)) 3 μ) fun v2 μ1 =>
    if v2 = 0 then rI 0 μ1 else
    bz_ci (d_Row_isQuiet n a1 (wr (a2 + 1)) (wr (a2 - 2)) 3 μ1) fun v4 μ3 =>
    if v4 = 0 then rI 0 μ3 else
    rI 1 μ3 := rfl
set_option maxRecDepth 100000 in
theorem x_Sym_addWhole_eq (n : Nat) (a0 : Nat) (a1 : Nat) (a2 : Int) (a3 : Nat) (μ : bz_M) : x_Sym_addWhole (n + 1) a0 a1 a2 a3 μ =
    bz_pI μ a3 7 2 0 fun μ1 =>
    bz_cu (d_Sym_addGuard n a0 a1 a2 a3 μ1) fun μ2 =>
    bz_fS μ2 a0 0 fun v3 =>
    x_Sym_addWhole_0 n a0 a1 a3 (wr (a2 + v3)) 0 μ2 := rfl
set_option maxRecDepth 100000 in
theorem x_Sym_addWhole_0_eq (n : Nat) (x0 : Nat) (x1 : Nat) (x3 : Nat) (x4 : Int) (x5 : Int) (μ : bz_M) : x_Sym_addWhole_0 (n + 1) x0 x1 x3 x4 x5 μ =
    bz_fS μ x0 3 fun v1 =>
    if x5 < v1 then
      bz_cn (d_Sym_addUnit n x0 x1 x4 x3 μ) fun v3 μ2 =>
      if v3 = 0 then rI (-1) μ2 else
      bz_fS μ2 x0 2 fun v4 =>
      bz_fS μ2 x0 1 fun v5 =>
      bz_cn (d_Sym_endsAt n x0 x1 (wr ((wr (x4 + v4)) + v5)) μ2) fun v7 μ6 =>
      if v7 = 0 then x_Sym_addWhole_0 n x0 x1 x3 (wr (x4 + v4)) (wr (x5 + 1)) μ6 else
      bz_cu (d_Sym_addGuard n x0 x1 (wr (x4 + v4)) x3 μ6) fun μ8 =>
      bz_fS μ8 x0 1 fun v9 =>
      rI (wr ((wr (x4 + v4)) + v9)) μ8
    else
    rI (-1) μ := rfl
set_option maxRecDepth 100000 in
theorem x_Cod_addGuard_eq (n : Nat) (a0 : Nat) (a1 : Nat) (a2 : Int) (a3 : Nat) (μ : bz_M) : x_Cod_addGuard (n + 1) a0 a1 a2 a3 μ =
    bz_ci (d_Row_match n a1 a2 1 7 4 μ) fun v2 μ1 =>
    if v2 < 16 then rI 0 μ1 else
    bz_fI μ1 a1 5 2 fun v3 =>
    bz_cv (d_Seq_add n a3 v2 v3 μ1) fun μ4 =>
    rI 0 μ4 := rfl
set_option maxRecDepth 100000 in
theorem x_Sym_addGuard_eq (n : Nat) (a0 : Nat) (a1 : Nat) (a2 : Int) (a3 : Nat) (μ : bz_M) : x_Sym_addGuard (n + 1) a0 a1 a2 a3 μ =
    rI 0 μ := rfl
set_option maxRecDepth 100000 in
theorem x_Cod_addUnit_eq (n : Nat) (a0 : Nat) (a1 : Nat) (a2 : Int) (a3 : Nat) (μ : bz_M) : x_Cod_addUnit (n + 1) a0 a1 a2 a3 μ =
    bz_ci (d_Row_match n a1 a2 1 7 4 μ) fun v2 μ1 =>
    if v2 < 0 then rI 0 μ1 else
    if v2 < 16 then
      bz_fI μ1 a1 5 2 fun v3 =>
      bz_cv (d_Seq_add n a3 v2 v3 μ1) fun μ4 =>
      rI 1 μ4
    else
    rI 0 μ1 := rfl
set_option maxRecDepth 100000 in
theorem x_Int_addUnit_eq (n : Nat) (a0 : Nat) (a1 : Nat) (a2 : Int) (a3 : Nat) (μ : bz_M) : x_Int_addUnit (n + 1) a0 a1 a2 a3 μ =
    bz_ci (d_Row_match n a1 a2 2 5 3 μ) fun v2 μ1 =>
    bz_fI μ1 a1 5 2 fun v3 =>
    bz_ci (d_Row_match n a1 (wr (a2 + 1)) 2 5 3 μ1) fun v5 μ4 =>
    if v2 = (-1) then rI 0 μ4 else
    if v5 = (-1) then rI 0 μ4 else
    bz_cv (d_Seq_add n a3 v2 v3 μ4) fun μ6 =>
    bz_fI μ6 a1 5 2 fun v7 =>
    bz_cv (d_Seq_add n a3 v5 v7 μ6) fun μ8 =>
    rI 1 μ8 := rfl
set_option maxRecDepth 100000 in
theorem x_Cod_endsAt_eq (n : Nat) (a0 : Nat) (a1 : Nat) (a2 : Int) (μ : bz_M) : x_Cod_endsAt (n + 1) a0 a1 a2 μ =
    bz_ci (d_Row_match n a1 (wr (a2 - 6)) 1 7 4 μ) fun v2 μ1 =>
    if v2 < 16 then rI 0 μ1 else
    bz_ci (d_Row_isQuiet n a1 (wr (a2 + 1)) (wr (a2 - 6)) 7 μ1) fun v4 μ3 =>
    if v4 = 0 then rI 0 μ3 else
    rI 1 μ3 := rfl
set_option maxRecDepth 100000 in
theorem x_Int_endsAt_eq (n : Nat) (a0 : Nat) (a1 : Nat) (a2 : Int) (μ : bz_M) : x_Int_endsAt (n + 1) a0 a1 a2 μ =
    bz_ci (d_Row_has n a1 (wr (a2 - 2)) 3 μ) fun v2 μ1 =>
    if v2 = 0 then rI 0 μ1 else
    bz_fR μ1 a1 5 0 fun v3 =>
    bz_rI μ1 v3 (wr (a2 - 2)) fun v4 =>
    bz_fR μ1 a1 5 0 fun v5 =>
    bz_rI μ1 v5 (wr (a2 - 1)) fun v6 =>
    if wr (2 * v4) < wr (3 * v6) then rI 0 μ1 else
    bz_fR μ1 a1 5 0 fun v7 =>
    bz_rI μ1 v7 a2 fun v8 =>
    if wr (2 * v4) < wr (3 * v8) then rI 0 μ1 else
    bz_ci (d_Row_isQuiet n a1 (wr (a2 + 1)) (wr (a2 - 2)) 3 μ1) fun v10 μ9 =>
    if v10 = 0 then rI 0 μ9 else
    rI 1 μ9 := rfl
set_option maxRecDepth 100000 in
theorem x_Row_copyReversed_eq (n : Nat) (a0 : Nat) (a1 : Nat) (μ : bz_M) : x_Row_copyReversed (n + 1) a0 a1 μ =
    bz_fI μ a1 5 1 fun v1 =>
    bz_pI μ a0 5 1 v1 fun μ2 =>
    x_Row_copyReversed_0 n a0 a1 0 μ2 := rfl
set_option maxRecDepth 100000 in
theorem x_Row_copyReversed_0_eq (n : Nat) (x0 : Nat) (x1 : Nat) (x2 : Int) (μ : bz_M) : x_Row_copyReversed_0 (n + 1) x0 x1 x2 μ =
    bz_fI μ x0 5 1 fun v1 =>
    if x2 < v1 then
      bz_fR μ x0 5 0 fun v2 =>
      bz_fR μ x1 5 0 fun v3 =>
      bz_fI μ x0 5 1 fun v4 =>
      bz_rI μ v3 (wr ((wr (v4 - 1)) - x2)) fun v5 =>
      bz_wI μ v2 x2 v5 fun μ6 =>
      x_Row_copyReversed_0 n x0 x1 (wr (x2 + 1)) μ6
    else
    rI 0 μ := rfl
set_option maxRecDepth 100000 in
theorem x_Rdg_turn_eq (n : Nat) (a0 : Nat) (a1 : Int) (μ : bz_M) : x_Rdg_turn (n + 1) a0 a1 μ =
    bz_fI μ a0 4 5 fun v1 =>
    bz_fI μ a0 4 6 fun v2 =>
    bz_pI μ a0 4 5 (wr ((wr (a1 - 1)) - v2)) fun μ3 =>
    bz_pI μ3 a0 4 6 (wr ((wr (a1 - 1)) - v1)) fun μ4 =>
    bz_pB μ4 a0 4 4 1 fun μ5 =>
    rI 0 μ5 := rfl
set_option maxRecDepth 100000 in
theorem x_Sym_findParts_eq (n : Nat) (a0 : Nat) (a1 : Nat) (a2 : Nat) (μ : bz_M) : x_Sym_findParts (n + 1) a0 a1 a2 μ =
    bz_fR μ a2 4 1 fun v1 =>
    bz_pI μ v1 7 2 0 fun μ2 =>
    x_Sym_findParts_0 n a0 a1 a2 v1 1 μ2 := rfl
set_option maxRecDepth 100000 in
theorem x_Sym_findParts_0_eq (n : Nat) (x0 : Nat) (x1 : Nat) (x2 : Nat) (x3 : Nat) (x4 : Int) (μ : bz_M) : x_Sym_findParts_0 (n + 1) x0 x1 x2 x3 x4 μ =
    bz_fI μ x1 5 1 fun v1 =>
    if x4 < v1 then
      bz_fI μ x3 7 2 fun v2 =>
      if v2 < 2 then
        bz_pI μ x3 7 2 0 fun μ3 =>
        bz_cn (d_Sym_beginsAt n x0 x1 x4 μ3) fun v5 μ4 =>
        if v5 = 0 then x_Sym_findParts_0 n x0 x1 x2 x3 (wr (x4 + 2)) μ4 else
        bz_cu (d_Sym_addHead n x0 x1 x4 x3 μ4) fun μ6 =>
        x_Sym_findParts_0 n x0 x1 x2 x3 (wr (x4 + 2)) μ6
      else
      bz_fR μ x2 4 2 fun v7 =>
      bz_pI μ v7 7 2 0 fun μ8 =>
      bz_fI μ8 x1 5 1 fun v9 =>
      x_Sym_findParts_1 n x0 x1 x3 v7 (wr (v9 - 2)) μ8
    else
    bz_fR μ x2 4 2 fun v10 =>
    bz_pI μ v10 7 2 0 fun μ11 =>
    bz_fI μ11 x1 5 1 fun v12 =>
    x_Sym_findParts_1 n x0 x1 x3 v10 (wr (v12 - 2)) μ11 := rfl
set_option maxRecDepth 100000 in
theorem x_Sym_findParts_1_eq (n : Nat) (x0 : Nat) (x1 : Nat) (x3 : Nat) (x4 : Nat) (x5 : Int) (μ : bz_M) : x_Sym_findParts_1 (n + 1) x0 x1 x3 x4 x5 μ =
    if (0 : Int) < x5 then
      bz_fI μ x4 7 2 fun v1 =>
      if v1 < 2 then
        bz_pI μ x4 7 2 0 fun μ2 =>
        bz_cn (d_Sym_endsAt n x0 x1 x5 μ2) fun v4 μ3 =>
        if v4 = 0 then x_Sym_findParts_1 n x0 x1 x3 x4 (wr (x5 + (-2))) μ3 else
        bz_cu (d_Sym_addTail n x0 x1 x5 x4 μ3) fun μ5 =>
        x_Sym_findParts_1 n x0 x1 x3 x4 (wr (x5 + (-2))) μ5
      else
      bz_fI μ x3 7 2 fun v6 =>
      if v6 < 2 then
        bz_pI μ x3 7 2 0 fun μ7 =>
        bz_fI μ7 x4 7 2 fun v8 =>
        if v8 < 2 then
          bz_pI μ7 x4 7 2 0 fun μ9 =>
          bz_fI μ9 x3 7 2 fun v10 =>
          if (0 : Int) < v10 then rI 1 μ9 else
          bz_fI μ9 x4 7 2 fun v11 =>
          if (0 : Int) < v11 then rI 1 μ9 else
          rI 0 μ9
        else
        bz_fI μ7 x4 7 2 fun v12 =>
        bz_pI μ7 x4 7 2 v12 fun μ13 =>
        bz_fI μ13 x3 7 2 fun v14 =>
        if (0 : Int) < v14 then rI 1 μ13 else
        bz_fI μ13 x4 7 2 fun v15 =>
        if (0 : Int) < v15 then rI 1 μ13 else
        rI 0 μ13
      else
      bz_fI μ x3 7 2 fun v16 =>
      bz_pI μ x3 7 2 v16 fun μ17 =>
      bz_fI μ17 x4 7 2 fun v18 =>
      if v18 < 2 then
        bz_pI μ17 x4 7 2 0 fun μ19 =>
        bz_fI μ19 x3 7 2 fun v20 =>
        if (0 : Int) < v20 then rI 1 μ19 else
        bz_fI μ19 x4 7 2 fun v21 =>
        if (0 : Int) < v21 then rI 1 μ19 else
        rI 0 μ19
      else
      bz_fI μ17 x4 7 2 fun v22 =>
      bz_pI μ17 x4 7 2 v22 fun μ23 =>
      bz_fI μ23 x3 7 2 fun v24 =>
      if (0 : Int) < v24 then rI 1 μ23 else
      bz_fI μ23 x4 7 2 fun v25 =>
      if (0 : Int) < v25 then rI 1 μ23 else
      rI 0 μ23
    else
    bz_fI μ x3 7 2 fun v26 =>
    if v26 < 2 then
      bz_pI μ x3 7 2 0 fun μ27 =>
      bz_fI μ27 x4 7 2 fun v28 =>
      if v28 < 2 then
        bz_pI μ27 x4 7 2 0 fun μ29 =>
        bz_fI μ29 x3 7 2 fun v30 =>
        if (0 : Int) < v30 then rI 1 μ29 else
        bz_fI μ29 x4 7 2 fun v31 =>
        if (0 : Int) < v31 then rI 1 μ29 else
        rI 0 μ29
      else
      bz_fI μ27 x4 7 2 fun v32 =>
      bz_pI μ27 x4 7 2 v32 fun μ33 =>
      bz_fI μ33 x3 7 2 fun v34 =>
      if (0 : Int) < v34 then rI 1 μ33 else
      bz_fI μ33 x4 7 2 fun v35 =>
      if (0 : Int) < v35 then rI 1 μ33 else
      rI 0 μ33
    else
    bz_fI μ x3 7 2 fun v36 =>
    bz_pI μ x3 7 2 v36 fun μ37 =>
    bz_fI μ37 x4 7 2 fun v38 =>
    if v38 < 2 then
      bz_pI μ37 x4 7 2 0 fun μ39 =>
      bz_fI μ39 x3 7 2 fun v40 =>
      if (0 : Int) < v40 then rI 1 μ39 else
      bz_fI μ39 x4 7 2 fun v41 =>
      if (0 : Int) < v41 then rI 1 μ39 else
      rI 0 μ39
    else
    bz_fI μ37 x4 7 2 fun v42 =>
    bz_pI μ37 x4 7 2 v42 fun μ43 =>
    bz_fI μ43 x3 7 2 fun v44 =>
    if (0 : Int) < v44 then rI 1 μ43 else
    bz_fI μ43 x4 7 2 fun v45 =>
    if (0 : Int) < v45 then rI 1 μ43 else
    rI 0 μ43 := rfl
set_option maxRecDepth 100000 in
theorem x_Sym_addHead_eq (n : Nat) (a0 : Nat) (a1 : Nat) (a2 : Int) (a3 : Nat) (μ : bz_M) : x_Sym_addHead (n + 1) a0 a1 a2 a3 μ =
    bz_cu (d_Sym_addGuard n a0 a1 a2 a3 μ) fun μ1 =>
    bz_fS μ1 a0 0 fun v2 =>
    x_Sym_addHead_0 n a0 a1 a3 (wr (a2 + v2)) 0 μ1 := rfl
set_option maxRecDepth 100000 in
theorem x_Sym_addHead_0_eq (n : Nat) (x0 : Nat) (x1 : Nat) (x3 : Nat) (x4 : Int) (x5 : Int) (μ : bz_M) : x_Sym_addHead_0 (n + 1) x0 x1 x3 x4 x5 μ =
    bz_fS μ x0 3 fun v1 =>
    if x5 < v1 then
      bz_cn (d_Sym_addUnit n x0 x1 x4 x3 μ) fun v3 μ2 =>
      if v3 = 0 then rI 0 μ2 else
      bz_fS μ2 x0 2 fun v4 =>
      x_Sym_addHead_0 n x0 x1 x3 (wr (x4 + v4)) (wr (x5 + 1)) μ2
    else
    rI 0 μ := rfl
set_option maxRecDepth 100000 in
theorem x_Sym_addTail_eq (n : Nat) (a0 : Nat) (a1 : Nat) (a2 : Int) (a3 : Nat) (μ : bz_M) : x_Sym_addTail (n + 1) a0 a1 a2 a3 μ =
    bz_fS μ a0 1 fun v1 =>
    x_Sym_addTail_0 n a0 a1 a3 (wr (a2 - v1)) 0 μ := rfl
set_option maxRecDepth 100000 in
theorem x_Sym_addTail_0_eq (n : Nat) (x0 : Nat) (x1 : Nat) (x3 : Nat) (x4 : Int) (x5 : Int) (μ : bz_M) : x_Sym_addTail_0 (n + 1) x0 x1 x3 x4 x5 μ =
    bz_fS μ x0 3 fun v1 =>
    if x5 < v1 then
      bz_fS μ x0 2 fun v2 =>
      bz_cn (d_Sym_addUnit n x0 x1 (wr (x4 - v2)) x3 μ) fun v4 μ3 =>
      if v4 = 0 then
        bz_pI μ3 x3 7 2 0 fun μ5 =>
        x_Sym_addTail_1 n x0 x1 x3 x4 x5 0 μ5
      else
      bz_fS μ3 x0 2 fun v6 =>
      x_Sym_addTail_0 n x0 x1 x3 (wr (x4 - v6)) (wr (x5 + 1)) μ3
    else
    bz_pI μ x3 7 2 0 fun μ7 =>
    x_Sym_addTail_1 n x0 x1 x3 x4 x5 0 μ7 := rfl
set_option maxRecDepth 100000 in
theorem x_Sym_addTail_1_eq (n : Nat) (x0 : Nat) (x1 : Nat) (x3 : Nat) (x4 : Int) (x5 : Int) (x6 : Int) (μ : bz_M) : x_Sym_addTail_1 (n + 1) x0 x1 x3 x4 x5 x6 μ =
    if x6 < x5 then
      bz_cn (d_Sym_addUnit n x0 x1 x4 x3 μ) fun v2 μ1 =>
      bz_fS μ1 x0 2 fun v3 =>
      x_Sym_addTail_1 n x0 x1 x3 (wr (x4 + v3)) x5 (wr (x6 + 1)) μ1
    else
    bz_cu (d_Sym_addGuard n x0 x1 x4 x3 μ) fun μ4 =>
    rI 0 μ4 := rfl
set_option maxRecDepth 100000 in
theorem x_Tal_recount_eq (n : Nat) (a0 : Nat) (a1 : Nat) (a2 : Int) (a3 : Nat) (a4 : Int) (μ : bz_M) : x_Tal_recount (n + 1) a0 a1 a2 a3 a4 μ =
    bz_ci (d_Tal_supportedLength n a0 a2 a3 a4 μ) fun v2 μ1 =>
    bz_pI μ1 a0 8 4 v2 fun μ3 =>
    bz_fI μ3 a0 8 4 fun v4 =>
    if v4 = 0 then
      bz_cn (d_Sym_joinedLength n a1 a2 a3 a4 μ3) fun v6 μ5 =>
      bz_pI μ5 a0 8 4 v6 fun μ7 =>
      x_Tal_recount_0 n a0 a2 a3 a4 0 μ7
    else
    x_Tal_recount_0 n a0 a2 a3 a4 0 μ3 := rfl
set_option maxRecDepth 100000 in
theorem x_Tal_recount_0_eq (n : Nat) (x0 : Nat) (x2 : Int) (x3 : Nat) (x4 : Int) (x5 : Int) (μ : bz_M) : x_Tal_recount_0 (n + 1) x0 x2 x3 x4 x5 μ =
    bz_fR μ x0 8 0 fun v1 =>
    bz_al μ v1 fun v2 =>
    if x5 < v2 then
      bz_fR μ x0 8 0 fun v3 =>
      bz_wI μ v3 x5 0 fun μ4 =>
      x_Tal_recount_0 n x0 x2 x3 x4 (wr (x5 + 1)) μ4
    else
    x_Tal_recount_1 n x0 x2 x3 x4 0 μ := rfl
set_option maxRecDepth 100000 in
theorem x_Tal_recount_1_eq (n : Nat) (x0 : Nat) (x2 : Int) (x3 : Nat) (x4 : Int) (x5 : Int) (μ : bz_M) : x_Tal_recount_1 (n + 1) x0 x2 x3 x4 x5 μ =
    bz_fR μ x0 8 2 fun v1 =>
    bz_al μ v1 fun v2 =>
    if x5 < v2 then
      bz_fR μ x0 8 2 fun v3 =>
      bz_wI μ v3 x5 0 fun μ4 =>
      x_Tal_recount_1 n x0 x2 x3 x4 (wr (x5 + 1)) μ4
    else
    x_Tal_recount_2 n x0 x2 x3 x4 0 μ := rfl
set_option maxRecDepth 100000 in
theorem x_Tal_recount_2_eq (n : Nat) (x0 : Nat) (x2 : Int) (x3 : Nat) (x4 : Int) (x5 : Int) (μ : bz_M) : x_Tal_recount_2 (n + 1) x0 x2 x3 x4 x5 μ =
    if x5 < x4 then
      bz_rR μ x3 x5 fun v1 =>
      bz_fR μ v1 6 1 fun v2 =>
      bz_rR μ v2 x2 fun v3 =>
      bz_cv (d_Tal_countVotes n x0 v3 μ) fun μ4 =>
      x_Tal_recount_2 n x0 x2 x3 x4 (wr (x5 + 1)) μ4
    else
    x_Tal_recount_3 n x0 0 μ := rfl
set_option maxRecDepth 100000 in
theorem x_Tal_recount_3_eq (n : Nat) (x0 : Nat) (x5 : Int) (μ : bz_M) : x_Tal_recount_3 (n + 1) x0 x5 μ =
    if x5 < 16 then
      bz_fR μ x0 8 3 fun v1 =>
      bz_ci (d_Tal_majorityAt n x0 x5 μ) fun v3 μ2 =>
      bz_wI μ2 v1 x5 v3 fun μ4 =>
      x_Tal_recount_3 n x0 (wr (x5 + 1)) μ4
    else
    bz_pB μ x0 8 5 1 fun μ5 =>
    rI 0 μ5 := rfl
set_option maxRecDepth 100000 in
theorem x_Tal_supportedLength_eq (n : Nat) (a0 : Nat) (a1 : Int) (a2 : Nat) (a3 : Int) (μ : bz_M) : x_Tal_supportedLength (n + 1) a0 a1 a2 a3 μ =
    x_Tal_supportedLength_0 n a0 a1 a2 a3 0 μ := rfl
set_option maxRecDepth 100000 in
theorem x_Tal_supportedLength_0_eq (n : Nat) (x0 : Nat) (x1 : Int) (x2 : Nat) (x3 : Int) (x4 : Int) (μ : bz_M) : x_Tal_supportedLength_0 (n + 1) x0 x1 x2 x3 x4 μ =
    bz_fR μ x0 8 1 fun v1 =>
    bz_al μ v1 fun v2 =>
    if x4 < v2 then
      bz_fR μ x0 8 1 fun v3 =>
      bz_wI μ v3 x4 0 fun μ4 =>
      x_Tal_supportedLength_0 n x0 x1 x2 x3 (wr (x4 + 1)) μ4
    else
    x_Tal_supportedLength_1 n x0 x1 x2 x3 0 μ := rfl
set_option maxRecDepth 100000 in
theorem x_Tal_supportedLength_1_eq (n : Nat) (x0 : Nat) (x1 : Int) (x2 : Nat) (x3 : Int) (x4 : Int) (μ : bz_M) : x_Tal_supportedLength_1 (n + 1) x0 x1 x2 x3 x4 μ =
    if x4 < x3 then
      bz_rR μ x2 x4 fun v1 =>
      bz_fR μ v1 6 1 fun v2 =>
      bz_rR μ v2 x1 fun v3 =>
      bz_fR μ v3 4 0 fun v4 =>
      bz_fI μ v4 7 2 fun v5 =>
      if (0 : Int) < v5 then
        bz_fI μ v4 7 2 fun v6 =>
        bz_fR μ x0 8 1 fun v7 =>
        bz_al μ v7 fun v8 =>
        if v6 < v8 then
          bz_fR μ x0 8 1 fun v9 =>
          bz_fI μ v4 7 2 fun v10 =>
          bz_rI μ v9 v10 fun v11 =>
          bz_ci (d_Seq_leastConfidence n v4 μ) fun v13 μ12 =>
          bz_wI μ12 v9 v10 (wr (v11 + (wr (1 + v13)))) fun μ14 =>
          x_Tal_supportedLength_1 n x0 x1 x2 x3 (wr (x4 + 1)) μ14
        else
        x_Tal_supportedLength_1 n x0 x1 x2 x3 (wr (x4 + 1)) μ
      else
      x_Tal_supportedLength_1 n x0 x1 x2 x3 (wr (x4 + 1)) μ
    else
    x_Tal_supportedLength_2 n x0 0 1 μ := rfl
set_option maxRecDepth 100000 in
theorem x_Tal_supportedLength_2_eq (n : Nat) (x0 : Nat) (x4 : Int) (x5 : Int) (μ : bz_M) : x_Tal_supportedLength_2 (n + 1) x0 x4 x5 μ =
    bz_fR μ x0 8 1 fun v1 =>
    bz_al μ v1 fun v2 =>
    if x5 < v2 then
      bz_fR μ x0 8 1 fun v3 =>
      bz_rI μ v3 x5 fun v4 =>
      bz_fR μ x0 8 1 fun v5 =>
      bz_rI μ v5 x4 fun v6 =>
      if v6 < v4 then x_Tal_supportedLength_2 n x0 x5 (wr (x5 + 1)) μ else
      x_Tal_supportedLength_2 n x0 x4 (wr (x5 + 1)) μ
    else
    rI x4 μ := rfl
set_option maxRecDepth 100000 in
theorem x_Seq_leastConfidence_eq (n : Nat) (a0 : Nat) (μ : bz_M) : x_Seq_leastConfidence (n + 1) a0 μ =
    x_Seq_leastConfidence_0 n a0 100 0 μ := rfl
set_option maxRecDepth 100000 in
theorem x_Seq_leastConfidence_0_eq (n : Nat) (x0 : Nat) (x1 : Int) (x2 : Int) (μ : bz_M) : x_Seq_leastConfidence_0 (n + 1) x0 x1 x2 μ =
    bz_fI μ x0 7 2 fun v1 =>
    if x2 < v1 then
      bz_fR μ x0 7 1 fun v2 =>
      bz_rI μ v2 x2 fun v3 =>
      bz_ci (x_Mth_min n x1 v3 μ) fun v5 μ4 =>
      x_Seq_leastConfidence_0 n x0 v5 (wr (x2 + 1)) μ4
    else
    rI x1 μ := rfl
set_option maxRecDepth 100000 in
theorem x_Mth_min_eq (n : Nat) (a0 : Int) (a1 : Int) (μ : bz_M) : x_Mth_min (n + 1) a0 a1 μ =
    if a1 < a0 then rI a1 μ else
    rI a0 μ := rfl
set_option maxRecDepth 100000 in
theorem x_Ean_joinedLength_eq (n : Nat) (a0 : Nat) (a1 : Int) (a2 : Nat) (a3 : Int) (μ : bz_M) : x_Ean_joinedLength (n + 1) a0 a1 a2 a3 μ =
    x_Ean_joinedLength_0 n a1 a2 a3 0 0 0 μ := rfl
set_option maxRecDepth 100000 in
theorem x_Ean_joinedLength_0_eq (n : Nat) (x1 : Int) (x2 : Nat) (x3 : Int) (x4 : Int) (x5 : Int) (x6 : Int) (μ : bz_M) : x_Ean_joinedLength_0 (n + 1) x1 x2 x3 x4 x5 x6 μ =
    if x6 < x3 then
      if x4 = 0 then
        bz_rR μ x2 x6 fun v1 =>
        bz_fR μ v1 6 1 fun v2 =>
        bz_rR μ v2 x1 fun v3 =>
        bz_fR μ v3 4 1 fun v4 =>
        bz_fI μ v4 7 2 fun v5 =>
        if (0 : Int) < v5 then
          if x5 = 0 then
            bz_rR μ x2 x6 fun v6 =>
            bz_fR μ v6 6 1 fun v7 =>
            bz_rR μ v7 x1 fun v8 =>
            bz_fR μ v8 4 2 fun v9 =>
            bz_fI μ v9 7 2 fun v10 =>
            if (0 : Int) < v10 then x_Ean_joinedLength_0 n x1 x2 x3 1 1 (wr (x6 + 1)) μ else
            x_Ean_joinedLength_0 n x1 x2 x3 1 0 (wr (x6 + 1)) μ
          else
          x_Ean_joinedLength_0 n x1 x2 x3 1 1 (wr (x6 + 1)) μ
        else
        if x5 = 0 then
          bz_rR μ x2 x6 fun v11 =>
          bz_fR μ v11 6 1 fun v12 =>
          bz_rR μ v12 x1 fun v13 =>
          bz_fR μ v13 4 2 fun v14 =>
          bz_fI μ v14 7 2 fun v15 =>
          if (0 : Int) < v15 then x_Ean_joinedLength_0 n x1 x2 x3 0 1 (wr (x6 + 1)) μ else
          x_Ean_joinedLength_0 n x1 x2 x3 0 0 (wr (x6 + 1)) μ
        else
        x_Ean_joinedLength_0 n x1 x2 x3 0 1 (wr (x6 + 1)) μ
      else
      if x5 = 0 then
        bz_rR μ x2 x6 fun v16 =>
        bz_fR μ v16 6 1 fun v17 =>
        bz_rR μ v17 x1 fun v18 =>
        bz_fR μ v18 4 2 fun v19 =>
        bz_fI μ v19 7 2 fun v20 =>
        if (0 : Int) < v20 then x_Ean_joinedLength_0 n x1 x2 x3 1 1 (wr (x6 + 1)) μ else
        x_Ean_joinedLength_0 n x1 x2 x3 1 0 (wr (x6 + 1)) μ
      else
      x_Ean_joinedLength_0 n x1 x2 x3 1 1 (wr (x6 + 1)) μ
    else
    if x4 = 0 then rI 0 μ else
    if x5 = 0 then rI 0 μ else
    rI 8 μ := rfl
set_option maxRecDepth 100000 in
theorem x_Sym_joinedLength_eq (n : Nat) (a0 : Nat) (a1 : Int) (a2 : Nat) (a3 : Int) (μ : bz_M) : x_Sym_joinedLength (n + 1) a0 a1 a2 a3 μ =
    x_Sym_joinedLength_0 n a0 a1 a2 a3 (-1) 0 0 μ := rfl
set_option maxRecDepth 100000 in
theorem x_Sym_joinedLength_0_eq (n : Nat) (x0 : Nat) (x1 : Int) (x2 : Nat) (x3 : Int) (x4 : Int) (x5 : Int) (x6 : Int) (μ : bz_M) : x_Sym_joinedLength_0 (n + 1) x0 x1 x2 x3 x4 x5 x6 μ =
    if x6 < x3 then
      bz_rR μ x2 x6 fun v1 =>
      bz_fR μ v1 6 1 fun v2 =>
      bz_rR μ v2 x1 fun v3 =>
      bz_fR μ v3 4 1 fun v4 =>
      x_Sym_joinedLength_1 n x0 x1 x2 x3 x4 x5 x6 v4 0 μ
    else
    rI x5 μ := rfl
set_option maxRecDepth 100000 in
theorem x_Sym_joinedLength_1_eq (n : Nat) (x0 : Nat) (x1 : Int) (x2 : Nat) (x3 : Int) (x4 : Int) (x5 : Int) (x6 : Int) (x7 : Nat) (x8 : Int) (μ : bz_M) : x_Sym_joinedLength_1 (n + 1) x0 x1 x2 x3 x4 x5 x6 x7 x8 μ =
    if x8 < x3 then
      bz_rR μ x2 x8 fun v1 =>
      bz_fR μ v1 6 1 fun v2 =>
      bz_rR μ v2 x1 fun v3 =>
      bz_fR μ v3 4 2 fun v4 =>
      if x6 = x8 then
        if x4 < (-1) then
          bz_fI μ x7 7 2 fun v5 =>
          bz_fI μ v4 7 2 fun v6 =>
          x_Sym_joinedLength_1 n x0 x1 x2 x3 (-1) (wr ((wr (v5 + v6)) - (-1))) x6 x7 (wr (x8 + 1)) μ
        else
        x_Sym_joinedLength_1 n x0 x1 x2 x3 x4 x5 x6 x7 (wr (x8 + 1)) μ
      else
      bz_cn (d_Sym_seam n x0 x7 v4 μ) fun v8 μ7 =>
      if x4 < v8 then
        bz_fI μ7 x7 7 2 fun v9 =>
        bz_fI μ7 v4 7 2 fun v10 =>
        x_Sym_joinedLength_1 n x0 x1 x2 x3 v8 (wr ((wr (v9 + v10)) - v8)) x6 x7 (wr (x8 + 1)) μ7
      else
      x_Sym_joinedLength_1 n x0 x1 x2 x3 x4 x5 x6 x7 (wr (x8 + 1)) μ7
    else
    x_Sym_joinedLength_0 n x0 x1 x2 x3 x4 x5 (wr (x6 + 1)) μ := rfl
set_option maxRecDepth 100000 in
theorem x_Ean_seam_eq (n : Nat) (a0 : Nat) (a1 : Nat) (a2 : Nat) (μ : bz_M) : x_Ean_seam (n + 1) a0 a1 a2 μ =
    bz_fI μ a1 7 2 fun v1 =>
    if v1 = 4 then
      bz_fI μ a2 7 2 fun v2 =>
      if v2 = 4 then rI 0 μ else
      rI (-1) μ
    else
    rI (-1) μ := rfl
set_option maxRecDepth 100000 in
theorem x_Sym_seam_eq (n : Nat) (a0 : Nat) (a1 : Nat) (a2 : Nat) (μ : bz_M) : x_Sym_seam (n + 1) a0 a1 a2 μ =
    bz_fI μ a1 7 2 fun v1 =>
    bz_fI μ a2 7 2 fun v2 =>
    bz_ci (x_Mth_min n v1 v2 μ) fun v4 μ3 =>
    x_Sym_seam_0 n a0 a1 a2 v4 μ3 := rfl
set_option maxRecDepth 100000 in
theorem x_Sym_seam_0_eq (n : Nat) (x0 : Nat) (x1 : Nat) (x2 : Nat) (x3 : Int) (μ : bz_M) : x_Sym_seam_0 (n + 1) x0 x1 x2 x3 μ =
    if x3 < 2 then rI (-1) μ else
    bz_ci (d_Seq_endsLike n x1 x2 x3 μ) fun v2 μ1 =>
    if v2 = 0 then x_Sym_seam_0 n x0 x1 x2 (wr (x3 + (-1))) μ1 else
    bz_fI μ1 x1 7 2 fun v3 =>
    bz_fI μ1 x2 7 2 fun v4 =>
    bz_cn (d_Sym_hasLength n x0 (wr ((wr (v3 + v4)) - x3)) μ1) fun v6 μ5 =>
    if v6 = 0 then x_Sym_seam_0 n x0 x1 x2 (wr (x3 + (-1))) μ5 else
    rI x3 μ5 := rfl
set_option maxRecDepth 100000 in
theorem x_Seq_endsLike_eq (n : Nat) (a0 : Nat) (a1 : Nat) (a2 : Int) (μ : bz_M) : x_Seq_endsLike (n + 1) a0 a1 a2 μ =
    if a2 < 0 then rI 0 μ else
    bz_fI μ a0 7 2 fun v1 =>
    if v1 < a2 then rI 0 μ else
    bz_fI μ a1 7 2 fun v2 =>
    if v2 < a2 then rI 0 μ else
    x_Seq_endsLike_0 n a0 a1 a2 0 μ := rfl
set_option maxRecDepth 100000 in
theorem x_Seq_endsLike_0_eq (n : Nat) (x0 : Nat) (x1 : Nat) (x2 : Int) (x3 : Int) (μ : bz_M) : x_Seq_endsLike_0 (n + 1) x0 x1 x2 x3 μ =
    if x3 < x2 then
      bz_fR μ x0 7 0 fun v1 =>
      bz_fI μ x0 7 2 fun v2 =>
      bz_rI μ v1 (wr ((wr (v2 - x2)) + x3)) fun v3 =>
      bz_fR μ x1 7 0 fun v4 =>
      bz_rI μ v4 x3 fun v5 =>
      if v3 = v5 then x_Seq_endsLike_0 n x0 x1 x2 (wr (x3 + 1)) μ else
      rI 0 μ
    else
    rI 1 μ := rfl
set_option maxRecDepth 100000 in
theorem x_Cod_hasLength_eq (n : Nat) (a0 : Nat) (a1 : Int) (μ : bz_M) : x_Cod_hasLength (n + 1) a0 a1 μ =
    if a1 < 3 then rI 0 μ else
    if (16 : Int) < a1 then rI 0 μ else
    rI 1 μ := rfl
set_option maxRecDepth 100000 in
theorem x_Ean_hasLength_eq (n : Nat) (a0 : Nat) (a1 : Int) (μ : bz_M) : x_Ean_hasLength (n + 1) a0 a1 μ =
    if a1 = 8 then rI 1 μ else
    rI 0 μ := rfl
set_option maxRecDepth 100000 in
theorem x_Int_hasLength_eq (n : Nat) (a0 : Nat) (a1 : Int) (μ : bz_M) : x_Int_hasLength (n + 1) a0 a1 μ =
    if a1 < 2 then rI 0 μ else
    if (14 : Int) < a1 then rI 0 μ else
    if Int.tmod a1 2 = 0 then rI 1 μ else
    rI 0 μ := rfl
set_option maxRecDepth 100000 in
theorem x_Tal_countVotes_eq (n : Nat) (a0 : Nat) (a1 : Nat) (μ : bz_M) : x_Tal_countVotes (n + 1) a0 a1 μ =
    bz_fR μ a1 4 0 fun v1 =>
    bz_fI μ v1 7 2 fun v2 =>
    bz_fI μ a0 8 4 fun v3 =>
    if v2 = v3 then
      bz_fR μ a1 4 0 fun v4 =>
      bz_cv (d_Tal_addVotes n a0 v4 0 μ) fun μ5 =>
      bz_fR μ5 a1 4 1 fun v6 =>
      bz_fI μ5 v6 7 2 fun v7 =>
      bz_fI μ5 a0 8 4 fun v8 =>
      if v8 < v7 then
        bz_fR μ5 a1 4 2 fun v9 =>
        bz_fI μ5 v9 7 2 fun v10 =>
        bz_fI μ5 a0 8 4 fun v11 =>
        if v11 < v10 then rI 0 μ5 else
        bz_fR μ5 a1 4 2 fun v12 =>
        bz_fI μ5 a0 8 4 fun v13 =>
        bz_fR μ5 a1 4 2 fun v14 =>
        bz_fI μ5 v14 7 2 fun v15 =>
        bz_cv (d_Tal_addVotes n a0 v12 (wr (v13 - v15)) μ5) fun μ16 =>
        rI 0 μ16
      else
      bz_fR μ5 a1 4 1 fun v17 =>
      bz_cv (d_Tal_addVotes n a0 v17 0 μ5) fun μ18 =>
      bz_fR μ18 a1 4 2 fun v19 =>
      bz_fI μ18 v19 7 2 fun v20 =>
      bz_fI μ18 a0 8 4 fun v21 =>
      if v21 < v20 then rI 0 μ18 else
      bz_fR μ18 a1 4 2 fun v22 =>
      bz_fI μ18 a0 8 4 fun v23 =>
      bz_fR μ18 a1 4 2 fun v24 =>
      bz_fI μ18 v24 7 2 fun v25 =>
      bz_cv (d_Tal_addVotes n a0 v22 (wr (v23 - v25)) μ18) fun μ26 =>
      rI 0 μ26
    else
    bz_fR μ a1 4 1 fun v27 =>
    bz_fI μ v27 7 2 fun v28 =>
    bz_fI μ a0 8 4 fun v29 =>
    if v29 < v28 then
      bz_fR μ a1 4 2 fun v30 =>
      bz_fI μ v30 7 2 fun v31 =>
      bz_fI μ a0 8 4 fun v32 =>
      if v32 < v31 then rI 0 μ else
      bz_fR μ a1 4 2 fun v33 =>
      bz_fI μ a0 8 4 fun v34 =>
      bz_fR μ a1 4 2 fun v35 =>
      bz_fI μ v35 7 2 fun v36 =>
      bz_cv (d_Tal_addVotes n a0 v33 (wr (v34 - v36)) μ) fun μ37 =>
      rI 0 μ37
    else
    bz_fR μ a1 4 1 fun v38 =>
    bz_cv (d_Tal_addVotes n a0 v38 0 μ) fun μ39 =>
    bz_fR μ39 a1 4 2 fun v40 =>
    bz_fI μ39 v40 7 2 fun v41 =>
    bz_fI μ39 a0 8 4 fun v42 =>
    if v42 < v41 then rI 0 μ39 else
    bz_fR μ39 a1 4 2 fun v43 =>
    bz_fI μ39 a0 8 4 fun v44 =>
    bz_fR μ39 a1 4 2 fun v45 =>
    bz_fI μ39 v45 7 2 fun v46 =>
    bz_cv (d_Tal_addVotes n a0 v43 (wr (v44 - v46)) μ39) fun μ47 =>
    rI 0 μ47 := rfl
set_option maxRecDepth 100000 in
theorem x_Tal_addVotes_eq (n : Nat) (a0 : Nat) (a1 : Nat) (a2 : Int) (μ : bz_M) : x_Tal_addVotes (n + 1) a0 a1 a2 μ =
    x_Tal_addVotes_0 n a0 a1 a2 0 μ := rfl
set_option maxRecDepth 100000 in
theorem x_Tal_addVotes_0_eq (n : Nat) (x0 : Nat) (x1 : Nat) (x2 : Int) (x3 : Int) (μ : bz_M) : x_Tal_addVotes_0 (n + 1) x0 x1 x2 x3 μ =
    bz_fI μ x1 7 2 fun v1 =>
    if x3 < v1 then
      bz_fR μ x1 7 0 fun v2 =>
      bz_rI μ v2 x3 fun v3 =>
      if wr (x2 + x3) < 0 then x_Tal_addVotes_0 n x0 x1 x2 (wr (x3 + 1)) μ else
      if wr (x2 + x3) < 16 then
        if wr ((wr ((wr (x2 + x3)) * 20)) + v3) < 0 then x_Tal_addVotes_0 n x0 x1 x2 (wr (x3 + 1)) μ else
        bz_fR μ x0 8 0 fun v4 =>
        bz_al μ v4 fun v5 =>
        if wr ((wr ((wr (x2 + x3)) * 20)) + v3) < v5 then
          bz_fR μ x0 8 0 fun v6 =>
          bz_rI μ v6 (wr ((wr ((wr (x2 + x3)) * 20)) + v3)) fun v7 =>
          bz_fR μ x1 7 1 fun v8 =>
          bz_rI μ v8 x3 fun v9 =>
          bz_wI μ v6 (wr ((wr ((wr (x2 + x3)) * 20)) + v3)) (wr (v7 + (wr (1 + v9)))) fun μ10 =>
          bz_fR μ10 x0 8 2 fun v11 =>
          bz_rI μ10 v11 (wr (x2 + x3)) fun v12 =>
          bz_fR μ10 x1 7 1 fun v13 =>
          bz_rI μ10 v13 x3 fun v14 =>
          bz_wI μ10 v11 (wr (x2 + x3)) (wr (v12 + (wr (1 + v14)))) fun μ15 =>
          x_Tal_addVotes_0 n x0 x1 x2 (wr (x3 + 1)) μ15
        else
        x_Tal_addVotes_0 n x0 x1 x2 (wr (x3 + 1)) μ
      else
      x_Tal_addVotes_0 n x0 x1 x2 (wr (x3 + 1)) μ
    else
    rI 0 μ := rfl
set_option maxRecDepth 100000 in
theorem x_Tal_majorityAt_eq (n : Nat) (a0 : Nat) (a1 : Int) (μ : bz_M) : x_Tal_majorityAt (n + 1) a0 a1 μ =
    x_Tal_majorityAt_0 n a0 a1 0 μ := rfl
set_option maxRecDepth 100000 in
theorem x_Tal_majorityAt_0_eq (n : Nat) (x0 : Nat) (x1 : Int) (x2 : Int) (μ : bz_M) : x_Tal_majorityAt_0 (n + 1) x0 x1 x2 μ =
    if x2 < 20 then
      bz_ci (d_Tal_weightOf n x0 x1 x2 μ) fun v2 μ1 =>
      bz_fR μ1 x0 8 2 fun v3 =>
      bz_rI μ1 v3 x1 fun v4 =>
      if v4 < wr (2 * v2) then rI x2 μ1 else
      x_Tal_majorityAt_0 n x0 x1 (wr (x2 + 1)) μ1
    else
    rI (-1) μ := rfl
set_option maxRecDepth 100000 in
theorem x_Tal_weightOf_eq (n : Nat) (a0 : Nat) (a1 : Int) (a2 : Int) (μ : bz_M) : x_Tal_weightOf (n + 1) a0 a1 a2 μ =
    if a1 < 0 then rI 0 μ else
    if a1 < 16 then
      if a2 < 0 then rI 0 μ else
      if a2 < 20 then
        bz_fR μ a0 8 0 fun v1 =>
        bz_rI μ v1 (wr ((wr (a1 * 20)) + a2)) fun v2 =>
        rI v2 μ
      else
      rI 0 μ
    else
    rI 0 μ := rfl
set_option maxRecDepth 100000 in
theorem x_E_problemOf_eq (n : Nat) (a0 : Nat) (a1 : Nat) (a2 : Int) (μ : bz_M) : x_E_problemOf (n + 1) a0 a1 a2 μ =
    bz_fI μ a1 8 4 fun v1 =>
    if v1 = 0 then rI 1 μ else
    bz_ci (d_Tal_doubts n a1 μ) fun v3 μ2 =>
    if (0 : Int) < v3 then rI 2 μ2 else
    bz_fR μ2 a0 9 11 fun v4 =>
    bz_fR μ2 a1 8 3 fun v5 =>
    bz_fI μ2 a1 8 4 fun v6 =>
    bz_cv (d_Seq_copyValues n v4 v5 v6 μ2) fun μ7 =>
    bz_fR μ7 a0 9 7 fun v8 =>
    bz_rB μ7 v8 a2 fun v9 =>
    if v9 = 0 then rI 0 μ7 else
    bz_fR μ7 a0 9 5 fun v10 =>
    bz_rR μ7 v10 a2 fun v11 =>
    bz_fR μ7 a0 9 11 fun v12 =>
    bz_cn (d_Sym_isRight n v11 v12 μ7) fun v14 μ13 =>
    if v14 = 0 then rI 3 μ13 else
    rI 0 μ13 := rfl
set_option maxRecDepth 100000 in
theorem x_Tal_doubts_eq (n : Nat) (a0 : Nat) (μ : bz_M) : x_Tal_doubts (n + 1) a0 μ =
    x_Tal_doubts_0 n a0 0 0 μ := rfl
set_option maxRecDepth 100000 in
theorem x_Tal_doubts_0_eq (n : Nat) (x0 : Nat) (x1 : Int) (x2 : Int) (μ : bz_M) : x_Tal_doubts_0 (n + 1) x0 x1 x2 μ =
    bz_fI μ x0 8 4 fun v1 =>
    if x2 < v1 then
      bz_fR μ x0 8 3 fun v2 =>
      bz_rI μ v2 x2 fun v3 =>
      if v3 = (-1) then x_Tal_doubts_0 n x0 (wr (x1 + 1)) (wr (x2 + 1)) μ else
      x_Tal_doubts_0 n x0 x1 (wr (x2 + 1)) μ
    else
    rI x1 μ := rfl
set_option maxRecDepth 100000 in
theorem x_Seq_copyValues_eq (n : Nat) (a0 : Nat) (a1 : Nat) (a2 : Int) (μ : bz_M) : x_Seq_copyValues (n + 1) a0 a1 a2 μ =
    bz_pI μ a0 7 2 0 fun μ1 =>
    x_Seq_copyValues_0 n a0 a1 a2 0 μ1 := rfl
set_option maxRecDepth 100000 in
theorem x_Seq_copyValues_0_eq (n : Nat) (x0 : Nat) (x1 : Nat) (x2 : Int) (x3 : Int) (μ : bz_M) : x_Seq_copyValues_0 (n + 1) x0 x1 x2 x3 μ =
    if x3 < x2 then
      bz_al μ x1 fun v1 =>
      if x3 < v1 then
        bz_rI μ x1 x3 fun v2 =>
        bz_cv (d_Seq_add n x0 v2 0 μ) fun μ3 =>
        x_Seq_copyValues_0 n x0 x1 x2 (wr (x3 + 1)) μ3
      else
      rI 0 μ
    else
    rI 0 μ := rfl
set_option maxRecDepth 100000 in
theorem x_Cod_isRight_eq (n : Nat) (a0 : Nat) (a1 : Nat) (μ : bz_M) : x_Cod_isRight (n + 1) a0 a1 μ =
    x_Cod_isRight_0 n a1 0 0 μ := rfl
set_option maxRecDepth 100000 in
theorem x_Cod_isRight_0_eq (n : Nat) (x1 : Nat) (x2 : Int) (x3 : Int) (μ : bz_M) : x_Cod_isRight_0 (n + 1) x1 x2 x3 μ =
    bz_fI μ x1 7 2 fun v1 =>
    if x3 < v1 then
      bz_fR μ x1 7 0 fun v2 =>
      bz_rI μ v2 x3 fun v3 =>
      x_Cod_isRight_0 n x1 (wr (x2 + v3)) (wr (x3 + 1)) μ
    else
    if Int.tmod x2 16 = 0 then rI 1 μ else
    rI 0 μ := rfl
set_option maxRecDepth 100000 in
theorem x_Sym_isRight_eq (n : Nat) (a0 : Nat) (a1 : Nat) (μ : bz_M) : x_Sym_isRight (n + 1) a0 a1 μ =
    x_Sym_isRight_0 n a1 0 0 μ := rfl
set_option maxRecDepth 100000 in
theorem x_Sym_isRight_0_eq (n : Nat) (x1 : Nat) (x2 : Int) (x3 : Int) (μ : bz_M) : x_Sym_isRight_0 (n + 1) x1 x2 x3 μ =
    bz_fI μ x1 7 2 fun v1 =>
    if x3 < v1 then
      if Int.tmod x3 2 = 0 then
        bz_fR μ x1 7 0 fun v2 =>
        bz_rI μ v2 x3 fun v3 =>
        x_Sym_isRight_0 n x1 (wr (x2 + (wr (3 * v3)))) (wr (x3 + 1)) μ
      else
      bz_fR μ x1 7 0 fun v4 =>
      bz_rI μ v4 x3 fun v5 =>
      x_Sym_isRight_0 n x1 (wr (x2 + v5)) (wr (x3 + 1)) μ
    else
    if Int.tmod x2 10 = 0 then rI 1 μ else
    rI 0 μ := rfl
set_option maxRecDepth 100000 in
theorem x_Tal_share_eq (n : Nat) (a0 : Nat) (μ : bz_M) : x_Tal_share (n + 1) a0 μ =
    x_Tal_share_0 n a0 100 0 μ := rfl
set_option maxRecDepth 100000 in
theorem x_Tal_share_0_eq (n : Nat) (x0 : Nat) (x1 : Int) (x2 : Int) (μ : bz_M) : x_Tal_share_0 (n + 1) x0 x1 x2 μ =
    bz_fI μ x0 8 4 fun v1 =>
    if x2 < v1 then
      bz_fR μ x0 8 2 fun v2 =>
      bz_rI μ v2 x2 fun v3 =>
      if (0 : Int) < v3 then
        bz_fR μ x0 8 3 fun v4 =>
        bz_rI μ v4 x2 fun v5 =>
        bz_ci (d_Tal_weightOf n x0 x2 v5 μ) fun v7 μ6 =>
        bz_fR μ6 x0 8 2 fun v8 =>
        bz_rI μ6 v8 x2 fun v9 =>
        bz_dv (wr (100 * v7)) v9 fun v10 =>
        bz_ci (x_Mth_min n x1 v10 μ6) fun v12 μ11 =>
        x_Tal_share_0 n x0 v12 (wr (x2 + 1)) μ11
      else
      x_Tal_share_0 n x0 x1 (wr (x2 + 1)) μ
    else
    rI x1 μ := rfl
set_option maxRecDepth 100000 in
theorem x_L_append_eq (n : Nat) (a0 : Nat) (a1 : Int) (a2 : Int) (a3 : Int) (a4 : Int) (a5 : Int) (a6 : Nat) (μ : bz_M) : x_L_append (n + 1) a0 a1 a2 a3 a4 a5 a6 μ =
    bz_hi (d_E_append n a0 a1 a2 a3 a4 a5 μ) (fun v2 μ1 =>
      bz_wL μ1 a6 0 v2 fun μ3 =>
      rI 0 μ3
      ) fun c4 μ5 => if c4 = 1 then rI 1 μ5 else none := rfl
set_option maxRecDepth 100000 in
theorem x_E_append_eq (n : Nat) (a0 : Nat) (a1 : Int) (a2 : Int) (a3 : Int) (a4 : Int) (a5 : Int) (μ : bz_M) : x_E_append (n + 1) a0 a1 a2 a3 a4 a5 μ =
    bz_fI μ a0 9 1 fun v1 =>
    if (60 : Int) < wr (v1 + 20) then rX 1 (sX μ) else
    bz_cv (d_E_appendBytes n a0 a1 μ) fun μ2 =>
    bz_cv (d_E_appendBytes n a0 a2 μ2) fun μ3 =>
    bz_cv (d_E_appendBytes n a0 a3 μ3) fun μ4 =>
    bz_cv (d_E_appendBytes n a0 a4 μ4) fun μ5 =>
    bz_cv (d_E_appendBytes n a0 a5 μ5) fun μ6 =>
    bz_fI μ6 a0 9 1 fun v7 =>
    rI v7 μ6 := rfl
set_option maxRecDepth 100000 in
theorem x_E_appendBytes_eq (n : Nat) (a0 : Nat) (a1 : Int) (μ : bz_M) : x_E_appendBytes (n + 1) a0 a1 μ =
    x_E_appendBytes_0 n a0 a1 24 μ := rfl
set_option maxRecDepth 100000 in
theorem x_E_appendBytes_0_eq (n : Nat) (x0 : Nat) (x1 : Int) (x2 : Int) (μ : bz_M) : x_E_appendBytes_0 (n + 1) x0 x1 x2 μ =
    if x2 < 0 then rI 0 μ else
    bz_fI μ x0 9 1 fun v1 =>
    if v1 < 60 then
      bz_fR μ x0 9 0 fun v2 =>
      bz_fI μ x0 9 1 fun v3 =>
      bz_wI μ v2 v3 (bz_and (bz_ushr x1 x2) 255) fun μ4 =>
      bz_fI μ4 x0 9 1 fun v5 =>
      bz_pI μ4 x0 9 1 (wr (v5 + 1)) fun μ6 =>
      x_E_appendBytes_0 n x0 x1 (wr (x2 + (-8))) μ6
    else
    rI 0 μ := rfl
set_option maxRecDepth 100000 in
theorem x_L_print_eq (n : Nat) (a0 : Nat) (a1 : Int) (a2 : Int) (a3 : Int) (a4 : Int) (a5 : Int) (a6 : Nat) (μ : bz_M) : x_L_print (n + 1) a0 a1 a2 a3 a4 a5 a6 μ =
    bz_hi (d_E_print n a0 a1 a2 a3 a4 a5 μ) (fun v2 μ1 =>
      bz_wL μ1 a6 0 v2 fun μ3 =>
      rI 0 μ3
      ) fun c4 μ5 => if c4 = 2 then rI 1 μ5 else if c4 = 3 then rI 2 μ5 else if c4 = 1 then rI 3 μ5 else none := rfl
set_option maxRecDepth 100000 in
theorem x_E_print_eq (n : Nat) (a0 : Nat) (a1 : Int) (a2 : Int) (a3 : Int) (a4 : Int) (a5 : Int) (μ : bz_M) : x_E_print (n + 1) a0 a1 a2 a3 a4 a5 μ =
    bz_cv (x_E_requireSymbology n a1 μ) fun μ1 =>
    bz_cv (d_E_requireTextLength n a0 a2 μ1) fun μ2 =>
    if a3 < 4 then rX 3 (sX μ2) else
    if (40 : Int) < a3 then rX 3 (sX μ2) else
    if a4 < (-3) then rX 3 (sX μ2) else
    if (3 : Int) < a4 then rX 3 (sX μ2) else
    bz_fR μ2 a0 9 5 fun v3 =>
    bz_rR μ2 v3 a1 fun v4 =>
    bz_cv (d_E_takeText n a0 a2 μ2) fun μ5 =>
    bz_cn (d_Sym_hasLength n v4 a2 μ5) fun v7 μ6 =>
    if v7 = 0 then rX 3 (sX μ6) else
    bz_ci (d_E_isCode n a0 v4 μ6) fun v9 μ8 =>
    if v9 = 0 then rX 3 (sX μ8) else
    bz_cv (d_E_requireRoomForScan n a0 μ8) fun μ10 =>
    bz_fR μ10 a0 9 10 fun v11 =>
    bz_pI μ10 v11 5 1 0 fun μ12 =>
    bz_fR μ12 a0 9 11 fun v13 =>
    bz_fR μ12 a0 9 10 fun v14 =>
    bz_cu (d_Sym_draw n v4 v13 v14 μ12) fun μ15 =>
    bz_fR μ15 a0 9 3 fun v16 =>
    bz_fI μ15 a0 9 4 fun v17 =>
    bz_rR μ15 v16 v17 fun v18 =>
    bz_fR μ15 v18 6 0 fun v19 =>
    bz_pI μ15 v19 5 1 0 fun μ20 =>
    bz_fR μ20 v18 6 0 fun v21 =>
    bz_cv (d_Row_add n v21 (wr (10 * a3)) μ20) fun μ22 =>
    bz_fR μ22 v18 6 0 fun v23 =>
    bz_cv (d_E_addPrinted n a0 v23 a3 a4 a5 μ22) fun μ24 =>
    bz_fR μ24 v18 6 0 fun v25 =>
    bz_cv (d_Row_add n v25 (wr (10 * a3)) μ24) fun μ26 =>
    bz_pI μ26 a0 9 1 0 fun μ27 =>
    bz_ci (d_E_keepScan n a0 v18 μ27) fun v29 μ28 =>
    rI v29 μ28 := rfl
set_option maxRecDepth 100000 in
theorem x_E_requireTextLength_eq (n : Nat) (a0 : Nat) (a1 : Int) (μ : bz_M) : x_E_requireTextLength (n + 1) a0 a1 μ =
    if a1 < 0 then rX 3 (sX μ) else
    bz_fI μ a0 9 1 fun v1 =>
    if v1 < a1 then rX 3 (sX μ) else
    rI 0 μ := rfl
set_option maxRecDepth 100000 in
theorem x_E_takeText_eq (n : Nat) (a0 : Nat) (a1 : Int) (μ : bz_M) : x_E_takeText (n + 1) a0 a1 μ =
    bz_fR μ a0 9 11 fun v1 =>
    bz_pI μ v1 7 2 0 fun μ2 =>
    x_E_takeText_0 n a0 a1 0 μ2 := rfl
set_option maxRecDepth 100000 in
theorem x_E_takeText_0_eq (n : Nat) (x0 : Nat) (x1 : Int) (x2 : Int) (μ : bz_M) : x_E_takeText_0 (n + 1) x0 x1 x2 μ =
    if x2 < x1 then
      if x2 < 60 then
        bz_fR μ x0 9 11 fun v1 =>
        bz_fR μ x0 9 0 fun v2 =>
        bz_rI μ v2 x2 fun v3 =>
        bz_ci (x_E_valueOf n v3 μ) fun v5 μ4 =>
        bz_cv (d_Seq_add n v1 v5 0 μ4) fun μ6 =>
        x_E_takeText_0 n x0 x1 (wr (x2 + 1)) μ6
      else
      rI 0 μ
    else
    rI 0 μ := rfl
set_option maxRecDepth 100000 in
theorem x_E_valueOf_eq (n : Nat) (a0 : Int) (μ : bz_M) : x_E_valueOf (n + 1) a0 μ =
    if a0 < 0 then rI (-1) μ else
    if (127 : Int) < a0 then rI (-1) μ else
    bz_ci (d_Str_indexOf n 5 (bz_i2c a0) μ) fun v2 μ1 =>
    rI v2 μ1 := rfl
set_option maxRecDepth 100000 in
theorem x_Str_indexOf_eq (n : Nat) (a0 : Nat) (a1 : Int) (μ : bz_M) : x_Str_indexOf (n + 1) a0 a1 μ =
    bz_ci (d_Str_indexOf2 n a0 a1 0 μ) fun v2 μ1 =>
    rI v2 μ1 := rfl
set_option maxRecDepth 100000 in
theorem x_Str_indexOf2_eq (n : Nat) (a0 : Nat) (a1 : Int) (a2 : Int) (μ : bz_M) : x_Str_indexOf2 (n + 1) a0 a1 a2 μ =
    bz_ci (d_Str_isLatin1 n a0 μ) fun v2 μ1 =>
    if v2 = 0 then
      bz_fR μ1 a0 28 0 fun v3 =>
      bz_ci (d_Str_length n a0 μ1) fun v5 μ4 =>
      none
    else
    bz_fR μ1 a0 28 0 fun v6 =>
    bz_ci (d_Str_length n a0 μ1) fun v8 μ7 =>
    bz_ci (x_Lat_indexOf n v6 a1 a2 v8 μ7) fun v10 μ9 =>
    rI v10 μ9 := rfl
set_option maxRecDepth 100000 in
theorem x_Str_isLatin1_eq (n : Nat) (a0 : Nat) (μ : bz_M) : x_Str_isLatin1 (n + 1) a0 μ =
    bz_fI μ a0 28 1 fun v1 =>
    if v1 = 0 then rI 1 μ else
    rI 0 μ := rfl
set_option maxRecDepth 100000 in
theorem x_Str_length_eq (n : Nat) (a0 : Nat) (μ : bz_M) : x_Str_length (n + 1) a0 μ =
    bz_fR μ a0 28 0 fun v1 =>
    bz_al μ v1 fun v2 =>
    bz_ci (d_Str_coder n a0 μ) fun v4 μ3 =>
    rI (bz_shr v2 v4) μ3 := rfl
set_option maxRecDepth 100000 in
theorem x_Str_coder_eq (n : Nat) (a0 : Nat) (μ : bz_M) : x_Str_coder (n + 1) a0 μ =
    bz_fI μ a0 28 1 fun v1 =>
    bz_zC v1 μ := rfl
set_option maxRecDepth 100000 in
theorem x_Lat_indexOf_eq (n : Nat) (a0 : Nat) (a1 : Int) (a2 : Int) (a3 : Int) (μ : bz_M) : x_Lat_indexOf (n + 1) a0 a1 a2 a3 μ =
    bz_ci (x_Lat_canEncode n a1 μ) fun v2 μ1 =>
    if v2 = 0 then rI (-1) μ1 else
    bz_ci (x_Mth_max n a2 0 μ1) fun v4 μ3 =>
    bz_al μ3 a0 fun v5 =>
    bz_ci (x_Mth_min n a3 v5 μ3) fun v7 μ6 =>
    if v4 < v7 then
      bz_ci (x_Lat_indexOfChar n a0 a1 v4 v7 μ6) fun v9 μ8 =>
      rI v9 μ8
    else
    rI (-1) μ6 := rfl
set_option maxRecDepth 100000 in
theorem x_Lat_canEncode_eq (n : Nat) (a0 : Int) (μ : bz_M) : x_Lat_canEncode (n + 1) a0 μ =
    if a0 < 0 then rI 0 μ else
    if (255 : Int) < a0 then rI 0 μ else
    rI 1 μ := rfl
set_option maxRecDepth 100000 in
theorem x_Lat_indexOfChar_eq (n : Nat) (a0 : Nat) (a1 : Int) (a2 : Int) (a3 : Int) (μ : bz_M) : x_Lat_indexOfChar (n + 1) a0 a1 a2 a3 μ =
    x_Lat_indexOfChar_0 n a0 a3 (bz_i2b a1) a2 μ := rfl
set_option maxRecDepth 100000 in
theorem x_Lat_indexOfChar_0_eq (n : Nat) (x0 : Nat) (x3 : Int) (x4 : Int) (x5 : Int) (μ : bz_M) : x_Lat_indexOfChar_0 (n + 1) x0 x3 x4 x5 μ =
    if x5 < x3 then
      bz_rB μ x0 x5 fun v1 =>
      if v1 = x4 then rI x5 μ else
      x_Lat_indexOfChar_0 n x0 x3 x4 (wr (x5 + 1)) μ
    else
    rI (-1) μ := rfl
set_option maxRecDepth 100000 in
theorem x_E_isCode_eq (n : Nat) (a0 : Nat) (a1 : Nat) (μ : bz_M) : x_E_isCode (n + 1) a0 a1 μ =
    x_E_isCode_0 n a0 a1 0 μ := rfl
set_option maxRecDepth 100000 in
theorem x_E_isCode_0_eq (n : Nat) (x0 : Nat) (x1 : Nat) (x2 : Int) (μ : bz_M) : x_E_isCode_0 (n + 1) x0 x1 x2 μ =
    bz_fR μ x0 9 11 fun v1 =>
    bz_fI μ v1 7 2 fun v2 =>
    if x2 < v2 then
      bz_fR μ x0 9 11 fun v3 =>
      bz_fR μ v3 7 0 fun v4 =>
      bz_rI μ v4 x2 fun v5 =>
      bz_fR μ x0 9 11 fun v6 =>
      bz_fI μ v6 7 2 fun v7 =>
      bz_cn (d_Sym_allows n x1 v5 x2 v7 μ) fun v9 μ8 =>
      if v9 = 0 then rI 0 μ8 else
      x_E_isCode_0 n x0 x1 (wr (x2 + 1)) μ8
    else
    rI 1 μ := rfl
set_option maxRecDepth 100000 in
theorem x_Cod_allows_eq (n : Nat) (a0 : Nat) (a1 : Int) (a2 : Int) (a3 : Int) (μ : bz_M) : x_Cod_allows (n + 1) a0 a1 a2 a3 μ =
    if a1 < 16 then
      if a1 < 0 then
        if a2 = 0 then rI 0 μ else
        if a2 = wr (a3 - 1) then rI 0 μ else
        rI 0 μ
      else
      if a1 < 16 then
        if a2 = 0 then rI 0 μ else
        if a2 = wr (a3 - 1) then rI 0 μ else
        rI 1 μ
      else
      if a2 = 0 then rI 0 μ else
      if a2 = wr (a3 - 1) then rI 0 μ else
      rI 0 μ
    else
    if a1 < 20 then
      if a1 < 0 then
        if a2 = 0 then rI 1 μ else
        if a2 = wr (a3 - 1) then rI 1 μ else
        rI 0 μ
      else
      if a1 < 16 then
        if a2 = 0 then rI 1 μ else
        if a2 = wr (a3 - 1) then rI 1 μ else
        rI 1 μ
      else
      if a2 = 0 then rI 1 μ else
      if a2 = wr (a3 - 1) then rI 1 μ else
      rI 0 μ
    else
    if a1 < 0 then
      if a2 = 0 then rI 0 μ else
      if a2 = wr (a3 - 1) then rI 0 μ else
      rI 0 μ
    else
    if a1 < 16 then
      if a2 = 0 then rI 0 μ else
      if a2 = wr (a3 - 1) then rI 0 μ else
      rI 1 μ
    else
    if a2 = 0 then rI 0 μ else
    if a2 = wr (a3 - 1) then rI 0 μ else
    rI 0 μ := rfl
set_option maxRecDepth 100000 in
theorem x_Sym_allows_eq (n : Nat) (a0 : Nat) (a1 : Int) (a2 : Int) (a3 : Int) (μ : bz_M) : x_Sym_allows (n + 1) a0 a1 a2 a3 μ =
    if a1 < 0 then rI 0 μ else
    if a1 < 10 then rI 1 μ else
    rI 0 μ := rfl
set_option maxRecDepth 100000 in
theorem x_E_requireRoomForScan_eq (n : Nat) (a0 : Nat) (μ : bz_M) : x_E_requireRoomForScan (n + 1) a0 μ =
    bz_fI μ a0 9 4 fun v1 =>
    if v1 < 24 then rI 0 μ else
    rX 1 (sX μ) := rfl
set_option maxRecDepth 100000 in
theorem x_Cod_draw_eq (n : Nat) (a0 : Nat) (a1 : Nat) (a2 : Nat) (μ : bz_M) : x_Cod_draw (n + 1) a0 a1 a2 μ =
    x_Cod_draw_0 n a1 a2 0 μ := rfl
set_option maxRecDepth 100000 in
theorem x_Cod_draw_0_eq (n : Nat) (x1 : Nat) (x2 : Nat) (x3 : Int) (μ : bz_M) : x_Cod_draw_0 (n + 1) x1 x2 x3 μ =
    bz_fI μ x1 7 2 fun v1 =>
    if x3 < v1 then
      if (0 : Int) < x3 then
        bz_cv (d_Row_add n x2 1 μ) fun μ2 =>
        bz_fR μ2 x1 7 0 fun v3 =>
        bz_rI μ2 v3 x3 fun v4 =>
        if v4 < 0 then x_Cod_draw_1 n x1 x2 x3 0 6 μ2 else
        if v4 < 20 then
          bz_rI μ2 4 v4 fun v5 =>
          x_Cod_draw_1 n x1 x2 x3 v5 6 μ2
        else
        x_Cod_draw_1 n x1 x2 x3 0 6 μ2
      else
      bz_fR μ x1 7 0 fun v6 =>
      bz_rI μ v6 x3 fun v7 =>
      if v7 < 0 then x_Cod_draw_1 n x1 x2 x3 0 6 μ else
      if v7 < 20 then
        bz_rI μ 4 v7 fun v8 =>
        x_Cod_draw_1 n x1 x2 x3 v8 6 μ
      else
      x_Cod_draw_1 n x1 x2 x3 0 6 μ
    else
    rI 0 μ := rfl
set_option maxRecDepth 100000 in
theorem x_Cod_draw_1_eq (n : Nat) (x1 : Nat) (x2 : Nat) (x3 : Int) (x5 : Int) (x6 : Int) (μ : bz_M) : x_Cod_draw_1 (n + 1) x1 x2 x3 x5 x6 μ =
    if x6 < 0 then x_Cod_draw_0 n x1 x2 (wr (x3 + 1)) μ else
    if bz_and (bz_shr x5 x6) 1 = 1 then
      bz_cv (d_Row_add n x2 3 μ) fun μ1 =>
      x_Cod_draw_1 n x1 x2 x3 x5 (wr (x6 + (-1))) μ1
    else
    bz_cv (d_Row_add n x2 1 μ) fun μ2 =>
    x_Cod_draw_1 n x1 x2 x3 x5 (wr (x6 + (-1))) μ2 := rfl
set_option maxRecDepth 100000 in
theorem x_Row_add_eq (n : Nat) (a0 : Nat) (a1 : Int) (μ : bz_M) : x_Row_add (n + 1) a0 a1 μ =
    bz_fI μ a0 5 1 fun v1 =>
    bz_fR μ a0 5 0 fun v2 =>
    bz_al μ v2 fun v3 =>
    if v1 < v3 then
      bz_fR μ a0 5 0 fun v4 =>
      bz_fI μ a0 5 1 fun v5 =>
      bz_wI μ v4 v5 a1 fun μ6 =>
      bz_fI μ6 a0 5 1 fun v7 =>
      bz_pI μ6 a0 5 1 (wr (v7 + 1)) fun μ8 =>
      rI 0 μ8
    else
    rI 0 μ := rfl
set_option maxRecDepth 100000 in
theorem x_Ean_draw_eq (n : Nat) (a0 : Nat) (a1 : Nat) (a2 : Nat) (μ : bz_M) : x_Ean_draw (n + 1) a0 a1 a2 μ =
    bz_cv (x_Ean_addOnes n a2 3 μ) fun μ1 =>
    x_Ean_draw_0 n a1 a2 0 μ1 := rfl
set_option maxRecDepth 100000 in
theorem x_Ean_draw_0_eq (n : Nat) (x1 : Nat) (x2 : Nat) (x3 : Int) (μ : bz_M) : x_Ean_draw_0 (n + 1) x1 x2 x3 μ =
    bz_fI μ x1 7 2 fun v1 =>
    if x3 < v1 then
      if x3 = 4 then
        bz_cv (x_Ean_addOnes n x2 5 μ) fun μ2 =>
        bz_fR μ2 x1 7 0 fun v3 =>
        bz_rI μ2 v3 x3 fun v4 =>
        x_Ean_draw_1 n x1 x2 x3 (wr (4 * v4)) (wr (4 * v4)) μ2
      else
      bz_fR μ x1 7 0 fun v5 =>
      bz_rI μ v5 x3 fun v6 =>
      x_Ean_draw_1 n x1 x2 x3 (wr (4 * v6)) (wr (4 * v6)) μ
    else
    bz_cv (x_Ean_addOnes n x2 3 μ) fun μ7 =>
    rI 0 μ7 := rfl
set_option maxRecDepth 100000 in
theorem x_Ean_draw_1_eq (n : Nat) (x1 : Nat) (x2 : Nat) (x3 : Int) (x4 : Int) (x5 : Int) (μ : bz_M) : x_Ean_draw_1 (n + 1) x1 x2 x3 x4 x5 μ =
    if x5 < wr (x4 + 4) then
      if x5 < 0 then x_Ean_draw_0 n x1 x2 (wr (x3 + 1)) μ else
      bz_al μ 2 fun v1 =>
      if x5 < v1 then
        bz_rI μ 2 x5 fun v2 =>
        bz_cv (d_Row_add n x2 v2 μ) fun μ3 =>
        x_Ean_draw_1 n x1 x2 x3 x4 (wr (x5 + 1)) μ3
      else
      x_Ean_draw_0 n x1 x2 (wr (x3 + 1)) μ
    else
    x_Ean_draw_0 n x1 x2 (wr (x3 + 1)) μ := rfl
set_option maxRecDepth 100000 in
theorem x_Ean_addOnes_eq (n : Nat) (a0 : Nat) (a1 : Int) (μ : bz_M) : x_Ean_addOnes (n + 1) a0 a1 μ =
    x_Ean_addOnes_0 n a0 a1 0 μ := rfl
set_option maxRecDepth 100000 in
theorem x_Ean_addOnes_0_eq (n : Nat) (x0 : Nat) (x1 : Int) (x2 : Int) (μ : bz_M) : x_Ean_addOnes_0 (n + 1) x0 x1 x2 μ =
    if x2 < x1 then
      bz_cv (d_Row_add n x0 1 μ) fun μ1 =>
      x_Ean_addOnes_0 n x0 x1 (wr (x2 + 1)) μ1
    else
    rI 0 μ := rfl
set_option maxRecDepth 100000 in
theorem x_Int_draw_eq (n : Nat) (a0 : Nat) (a1 : Nat) (a2 : Nat) (μ : bz_M) : x_Int_draw (n + 1) a0 a1 a2 μ =
    x_Int_draw_0 n a1 a2 0 μ := rfl
set_option maxRecDepth 100000 in
theorem x_Int_draw_0_eq (n : Nat) (x1 : Nat) (x2 : Nat) (x3 : Int) (μ : bz_M) : x_Int_draw_0 (n + 1) x1 x2 x3 μ =
    if x3 < 4 then
      bz_cv (d_Row_add n x2 1 μ) fun μ1 =>
      x_Int_draw_0 n x1 x2 (wr (x3 + 1)) μ1
    else
    x_Int_draw_1 n x1 x2 0 μ := rfl
set_option maxRecDepth 100000 in
theorem x_Int_draw_1_eq (n : Nat) (x1 : Nat) (x2 : Nat) (x3 : Int) (μ : bz_M) : x_Int_draw_1 (n + 1) x1 x2 x3 μ =
    bz_fI μ x1 7 2 fun v1 =>
    if wr (x3 + 1) < v1 then
      bz_fR μ x1 7 0 fun v2 =>
      bz_rI μ v2 x3 fun v3 =>
      bz_ci (x_Int_patternOf n v3 μ) fun v5 μ4 =>
      bz_fR μ4 x1 7 0 fun v6 =>
      bz_rI μ4 v6 (wr (x3 + 1)) fun v7 =>
      bz_ci (x_Int_patternOf n v7 μ4) fun v9 μ8 =>
      x_Int_draw_2 n x1 x2 x3 v5 v9 4 μ8
    else
    bz_cv (d_Row_add n x2 3 μ) fun μ10 =>
    bz_cv (d_Row_add n x2 1 μ10) fun μ11 =>
    bz_cv (d_Row_add n x2 1 μ11) fun μ12 =>
    rI 0 μ12 := rfl
set_option maxRecDepth 100000 in
theorem x_Int_draw_2_eq (n : Nat) (x1 : Nat) (x2 : Nat) (x3 : Int) (x4 : Int) (x5 : Int) (x6 : Int) (μ : bz_M) : x_Int_draw_2 (n + 1) x1 x2 x3 x4 x5 x6 μ =
    if x6 < 0 then x_Int_draw_1 n x1 x2 (wr (x3 + 2)) μ else
    if bz_and (bz_shr x4 x6) 1 = 1 then
      bz_cv (d_Row_add n x2 3 μ) fun μ1 =>
      if bz_and (bz_shr x5 x6) 1 = 1 then
        bz_cv (d_Row_add n x2 3 μ1) fun μ2 =>
        x_Int_draw_2 n x1 x2 x3 x4 x5 (wr (x6 + (-1))) μ2
      else
      bz_cv (d_Row_add n x2 1 μ1) fun μ3 =>
      x_Int_draw_2 n x1 x2 x3 x4 x5 (wr (x6 + (-1))) μ3
    else
    bz_cv (d_Row_add n x2 1 μ) fun μ4 =>
    if bz_and (bz_shr x5 x6) 1 = 1 then
      bz_cv (d_Row_add n x2 3 μ4) fun μ5 =>
      x_Int_draw_2 n x1 x2 x3 x4 x5 (wr (x6 + (-1))) μ5
    else
    bz_cv (d_Row_add n x2 1 μ4) fun μ6 =>
    x_Int_draw_2 n x1 x2 x3 x4 x5 (wr (x6 + (-1))) μ6 := rfl
set_option maxRecDepth 100000 in
theorem x_Int_patternOf_eq (n : Nat) (a0 : Int) (μ : bz_M) : x_Int_patternOf (n + 1) a0 μ =
    if a0 < 0 then rI 0 μ else
    bz_al μ 3 fun v1 =>
    if a0 < v1 then
      bz_rI μ 3 a0 fun v2 =>
      rI v2 μ
    else
    rI 0 μ := rfl
set_option maxRecDepth 100000 in
theorem x_E_addPrinted_eq (n : Nat) (a0 : Nat) (a1 : Nat) (a2 : Int) (a3 : Int) (a4 : Int) (μ : bz_M) : x_E_addPrinted (n + 1) a0 a1 a2 a3 a4 μ =
    x_E_addPrinted_0 n a0 a1 a2 a3 a4 a4 0 μ := rfl
set_option maxRecDepth 100000 in
theorem x_E_addPrinted_0_eq (n : Nat) (x0 : Nat) (x1 : Nat) (x2 : Int) (x3 : Int) (x4 : Int) (x5 : Int) (x6 : Int) (μ : bz_M) : x_E_addPrinted_0 (n + 1) x0 x1 x2 x3 x4 x5 x6 μ =
    bz_fR μ x0 9 10 fun v1 =>
    bz_fI μ v1 5 1 fun v2 =>
    if x6 < v2 then
      bz_fR μ x0 9 10 fun v3 =>
      bz_fR μ v3 5 0 fun v4 =>
      bz_rI μ v4 x6 fun v5 =>
      if Int.tmod x6 2 = 0 then
        if x4 = 0 then
          bz_ci (x_Mth_max n (wr ((wr (v5 * x2)) + x3)) 1 μ) fun v7 μ6 =>
          bz_cv (d_Row_add n x1 v7 μ6) fun μ8 =>
          x_E_addPrinted_0 n x0 x1 x2 x3 x4 x5 (wr (x6 + 1)) μ8
        else
        bz_ci (x_Mth_max n (wr ((wr ((wr (v5 * x2)) + x3)) + (wr ((Int.tmod (bz_ushr (wr ((wr (1103515245 * x5)) + 12345)) 16) 3) - 1)))) 1 μ) fun v10 μ9 =>
        bz_cv (d_Row_add n x1 v10 μ9) fun μ11 =>
        x_E_addPrinted_0 n x0 x1 x2 x3 x4 (wr ((wr (1103515245 * x5)) + 12345)) (wr (x6 + 1)) μ11
      else
      if x4 = 0 then
        bz_ci (x_Mth_max n (wr ((wr (v5 * x2)) + (wr (-x3)))) 1 μ) fun v13 μ12 =>
        bz_cv (d_Row_add n x1 v13 μ12) fun μ14 =>
        x_E_addPrinted_0 n x0 x1 x2 x3 x4 x5 (wr (x6 + 1)) μ14
      else
      bz_ci (x_Mth_max n (wr ((wr ((wr (v5 * x2)) + (wr (-x3)))) + (wr ((Int.tmod (bz_ushr (wr ((wr (1103515245 * x5)) + 12345)) 16) 3) - 1)))) 1 μ) fun v16 μ15 =>
      bz_cv (d_Row_add n x1 v16 μ15) fun μ17 =>
      x_E_addPrinted_0 n x0 x1 x2 x3 x4 (wr ((wr (1103515245 * x5)) + 12345)) (wr (x6 + 1)) μ17
    else
    rI 0 μ := rfl
set_option maxRecDepth 100000 in
theorem x_E_keepScan_eq (n : Nat) (a0 : Nat) (a1 : Nat) (μ : bz_M) : x_E_keepScan (n + 1) a0 a1 μ =
    bz_fI μ a0 9 4 fun v1 =>
    bz_pI μ a0 9 4 (wr (v1 + 1)) fun μ2 =>
    bz_cv (d_E_forget n a0 a1 μ2) fun μ3 =>
    bz_fI μ3 a0 9 4 fun v4 =>
    rI (wr (v4 - 1)) μ3 := rfl
set_option maxRecDepth 100000 in
theorem x_E_forget_eq (n : Nat) (a0 : Nat) (a1 : Nat) (μ : bz_M) : x_E_forget (n + 1) a0 a1 μ =
    x_E_forget_0 n a0 a1 0 μ := rfl
set_option maxRecDepth 100000 in
theorem x_E_forget_0_eq (n : Nat) (x0 : Nat) (x1 : Nat) (x2 : Int) (μ : bz_M) : x_E_forget_0 (n + 1) x0 x1 x2 μ =
    if x2 < 3 then
      bz_fR μ x1 6 1 fun v1 =>
      bz_rR μ v1 x2 fun v2 =>
      bz_pB μ v2 4 3 0 fun μ3 =>
      bz_fR μ3 x0 9 6 fun v4 =>
      bz_rR μ3 v4 x2 fun v5 =>
      bz_pB μ3 v5 8 5 0 fun μ6 =>
      x_E_forget_0 n x0 x1 (wr (x2 + 1)) μ6
    else
    rI 0 μ := rfl
set_option maxRecDepth 100000 in
theorem x_L_checkCharacter_eq (n : Nat) (a0 : Nat) (a1 : Int) (a2 : Int) (a3 : Nat) (μ : bz_M) : x_L_checkCharacter (n + 1) a0 a1 a2 a3 μ =
    bz_hi (d_E_checkCharacter n a0 a1 a2 μ) (fun v2 μ1 =>
      bz_wL μ1 a3 0 v2 fun μ3 =>
      rI 0 μ3
      ) fun c4 μ5 => if c4 = 2 then rI 1 μ5 else if c4 = 3 then rI 2 μ5 else none := rfl
set_option maxRecDepth 100000 in
theorem x_E_checkCharacter_eq (n : Nat) (a0 : Nat) (a1 : Int) (a2 : Int) (μ : bz_M) : x_E_checkCharacter (n + 1) a0 a1 a2 μ =
    bz_cv (x_E_requireSymbology n a1 μ) fun μ1 =>
    bz_cv (d_E_requireTextLength n a0 a2 μ1) fun μ2 =>
    bz_fR μ2 a0 9 5 fun v3 =>
    bz_rR μ2 v3 a1 fun v4 =>
    bz_cn (d_Sym_checkPlace n v4 (wr (a2 + 1)) μ2) fun v6 μ5 =>
    bz_cv (d_E_takeText n a0 a2 μ5) fun μ7 =>
    bz_fR μ7 a0 9 11 fun v8 =>
    bz_cv (d_Seq_insert n v8 v6 0 μ7) fun μ9 =>
    bz_cn (d_Sym_hasLength n v4 (wr (a2 + 1)) μ9) fun v11 μ10 =>
    if v11 = 0 then rX 3 (sX μ10) else
    bz_ci (d_E_isCode n a0 v4 μ10) fun v13 μ12 =>
    if v13 = 0 then rX 3 (sX μ12) else
    bz_ci (d_E_rightValue n a0 v4 v6 μ12) fun v15 μ14 =>
    bz_ci (x_E_characterOf n v15 μ14) fun v17 μ16 =>
    rI v17 μ16 := rfl
set_option maxRecDepth 100000 in
theorem x_Cod_checkPlace_eq (n : Nat) (a0 : Nat) (a1 : Int) (μ : bz_M) : x_Cod_checkPlace (n + 1) a0 a1 μ =
    rI (wr (a1 - 2)) μ := rfl
set_option maxRecDepth 100000 in
theorem x_Sym_checkPlace_eq (n : Nat) (a0 : Nat) (a1 : Int) (μ : bz_M) : x_Sym_checkPlace (n + 1) a0 a1 μ =
    rI (wr (a1 - 1)) μ := rfl
set_option maxRecDepth 100000 in
theorem x_Seq_insert_eq (n : Nat) (a0 : Nat) (a1 : Int) (a2 : Int) (μ : bz_M) : x_Seq_insert (n + 1) a0 a1 a2 μ =
    if a1 < 0 then rI 0 μ else
    bz_fI μ a0 7 2 fun v1 =>
    if v1 < a1 then rI 0 μ else
    bz_fI μ a0 7 2 fun v2 =>
    bz_fR μ a0 7 0 fun v3 =>
    bz_al μ v3 fun v4 =>
    if v2 < v4 then
      bz_fI μ a0 7 2 fun v5 =>
      x_Seq_insert_0 n a0 a1 a2 v5 μ
    else
    rI 0 μ := rfl
set_option maxRecDepth 100000 in
theorem x_Seq_insert_0_eq (n : Nat) (x0 : Nat) (x1 : Int) (x2 : Int) (x3 : Int) (μ : bz_M) : x_Seq_insert_0 (n + 1) x0 x1 x2 x3 μ =
    if x1 < x3 then
      bz_fR μ x0 7 0 fun v1 =>
      bz_fR μ x0 7 0 fun v2 =>
      bz_rI μ v2 (wr (x3 - 1)) fun v3 =>
      bz_wI μ v1 x3 v3 fun μ4 =>
      x_Seq_insert_0 n x0 x1 x2 (wr (x3 + (-1))) μ4
    else
    bz_fR μ x0 7 0 fun v5 =>
    bz_wI μ v5 x1 x2 fun μ6 =>
    bz_fI μ6 x0 7 2 fun v7 =>
    bz_pI μ6 x0 7 2 (wr (v7 + 1)) fun μ8 =>
    rI 0 μ8 := rfl
set_option maxRecDepth 100000 in
theorem x_E_rightValue_eq (n : Nat) (a0 : Nat) (a1 : Nat) (a2 : Int) (μ : bz_M) : x_E_rightValue (n + 1) a0 a1 a2 μ =
    if a2 < 0 then rI (-1) μ else
    bz_fR μ a0 9 11 fun v1 =>
    bz_fI μ v1 7 2 fun v2 =>
    if a2 < v2 then x_E_rightValue_0 n a0 a1 a2 (-1) 0 0 μ else
    rI (-1) μ := rfl
set_option maxRecDepth 100000 in
theorem x_E_rightValue_0_eq (n : Nat) (x0 : Nat) (x1 : Nat) (x2 : Int) (x3 : Int) (x4 : Int) (x5 : Int) (μ : bz_M) : x_E_rightValue_0 (n + 1) x0 x1 x2 x3 x4 x5 μ =
    if x5 < 20 then
      bz_fR μ x0 9 11 fun v1 =>
      bz_fR μ v1 7 0 fun v2 =>
      bz_wI μ v2 x2 x5 fun μ3 =>
      bz_fR μ3 x0 9 11 fun v4 =>
      bz_fI μ3 v4 7 2 fun v5 =>
      bz_cn (d_Sym_allows n x1 x5 x2 v5 μ3) fun v7 μ6 =>
      if v7 = 0 then x_E_rightValue_0 n x0 x1 x2 x3 x4 (wr (x5 + 1)) μ6 else
      bz_fR μ6 x0 9 11 fun v8 =>
      bz_cn (d_Sym_isRight n x1 v8 μ6) fun v10 μ9 =>
      if v10 = 0 then x_E_rightValue_0 n x0 x1 x2 x3 x4 (wr (x5 + 1)) μ9 else
      x_E_rightValue_0 n x0 x1 x2 x5 (wr (x4 + 1)) (wr (x5 + 1)) μ9
    else
    if x4 = 1 then rI x3 μ else
    rI (-1) μ := rfl
set_option maxRecDepth 100000 in
theorem x_E_characterOf_eq (n : Nat) (a0 : Int) (μ : bz_M) : x_E_characterOf (n + 1) a0 μ =
    if a0 < 0 then rI (-1) μ else
    if a0 < 20 then
      bz_ci (d_Str_charAt n 5 a0 μ) fun v2 μ1 =>
      rI v2 μ1
    else
    rI (-1) μ := rfl
set_option maxRecDepth 100000 in
theorem x_Str_charAt_eq (n : Nat) (a0 : Nat) (a1 : Int) (μ : bz_M) : x_Str_charAt (n + 1) a0 a1 μ =
    bz_ci (d_Str_isLatin1 n a0 μ) fun v2 μ1 =>
    if v2 = 0 then
      bz_fR μ1 a0 28 0 fun v3 =>
      none
    else
    bz_fR μ1 a0 28 0 fun v4 =>
    bz_ci (x_Lat_charAt n v4 a1 μ1) fun v6 μ5 =>
    bz_zC v6 μ5 := rfl
set_option maxRecDepth 100000 in
theorem x_Lat_charAt_eq (n : Nat) (a0 : Nat) (a1 : Int) (μ : bz_M) : x_Lat_charAt (n + 1) a0 a1 μ =
    bz_al μ a0 fun v1 =>
    bz_cv (x_Str_checkIndex n a1 v1 μ) fun μ2 =>
    bz_rB μ2 a0 a1 fun v3 =>
    bz_zC (bz_i2c (bz_and v3 255)) μ2 := rfl
set_option maxRecDepth 100000 in
theorem x_Str_checkIndex_eq (n : Nat) (a0 : Int) (a1 : Int) (μ : bz_M) : x_Str_checkIndex (n + 1) a0 a1 μ =
    bz_ci (x_Pre_checkIndex n a0 a1 15 μ) fun v2 μ1 =>
    rI 0 μ1 := rfl
set_option maxRecDepth 100000 in
theorem x_Pre_checkIndex_eq (n : Nat) (a0 : Int) (a1 : Int) (a2 : Nat) (μ : bz_M) : x_Pre_checkIndex (n + 1) a0 a1 a2 μ =
    if a0 < 0 then none else
    if a0 < a1 then rI a0 μ else
    none := rfl
set_option maxRecDepth 100000 in
theorem x_L_addWidths_eq (n : Nat) (a0 : Nat) (a1 : Int) (a2 : Int) (a3 : Int) (a4 : Int) (a5 : Int) (a6 : Int) (a7 : Nat) (μ : bz_M) : x_L_addWidths (n + 1) a0 a1 a2 a3 a4 a5 a6 a7 μ =
    bz_hi (d_E_addWidths n a0 a1 a2 a3 a4 a5 a6 μ) (fun v2 μ1 =>
      bz_wL μ1 a7 0 v2 fun μ3 =>
      rI 0 μ3
      ) fun c4 μ5 => if c4 = 3 then rI 1 μ5 else if c4 = 1 then rI 2 μ5 else none := rfl
set_option maxRecDepth 100000 in
theorem x_E_addWidths_eq (n : Nat) (a0 : Nat) (a1 : Int) (a2 : Int) (a3 : Int) (a4 : Int) (a5 : Int) (a6 : Int) (μ : bz_M) : x_E_addWidths (n + 1) a0 a1 a2 a3 a4 a5 a6 μ =
    bz_fR μ a0 9 8 fun v1 =>
    bz_pI μ v1 5 1 0 fun μ2 =>
    bz_fR μ2 a0 9 8 fun v3 =>
    bz_cv (d_Row_add n v3 a1 μ2) fun μ4 =>
    bz_fR μ4 a0 9 8 fun v5 =>
    bz_cv (d_Row_add n v5 a2 μ4) fun μ6 =>
    bz_fR μ6 a0 9 8 fun v7 =>
    bz_cv (d_Row_add n v7 a3 μ6) fun μ8 =>
    bz_fR μ8 a0 9 8 fun v9 =>
    bz_cv (d_Row_add n v9 a4 μ8) fun μ10 =>
    bz_fR μ10 a0 9 8 fun v11 =>
    bz_cv (d_Row_add n v11 a5 μ10) fun μ12 =>
    bz_fR μ12 a0 9 8 fun v13 =>
    bz_cv (d_Row_add n v13 a6 μ12) fun μ14 =>
    bz_fR μ14 a0 9 8 fun v15 =>
    bz_ci (d_Row_isWithin n v15 0 10000 μ14) fun v17 μ16 =>
    if v17 = 0 then rX 3 (sX μ16) else
    bz_fR μ16 a0 9 8 fun v18 =>
    bz_ci (d_Row_countBeforeZero n v18 μ16) fun v20 μ19 =>
    bz_fR μ19 a0 9 2 fun v21 =>
    bz_fI μ19 v21 5 1 fun v22 =>
    if (129 : Int) < wr (v22 + v20) then rX 1 (sX μ19) else
    x_E_addWidths_0 n a0 v20 0 μ19 := rfl
set_option maxRecDepth 100000 in
theorem x_E_addWidths_0_eq (n : Nat) (x0 : Nat) (x7 : Int) (x8 : Int) (μ : bz_M) : x_E_addWidths_0 (n + 1) x0 x7 x8 μ =
    if x8 < x7 then
      bz_fR μ x0 9 2 fun v1 =>
      bz_fR μ x0 9 8 fun v2 =>
      bz_fR μ v2 5 0 fun v3 =>
      bz_rI μ v3 x8 fun v4 =>
      bz_cv (d_Row_add n v1 v4 μ) fun μ5 =>
      x_E_addWidths_0 n x0 x7 (wr (x8 + 1)) μ5
    else
    bz_fR μ x0 9 2 fun v6 =>
    bz_fI μ v6 5 1 fun v7 =>
    rI v7 μ := rfl
set_option maxRecDepth 100000 in
theorem x_Row_isWithin_eq (n : Nat) (a0 : Nat) (a1 : Int) (a2 : Int) (μ : bz_M) : x_Row_isWithin (n + 1) a0 a1 a2 μ =
    x_Row_isWithin_0 n a0 a1 a2 0 μ := rfl
set_option maxRecDepth 100000 in
theorem x_Row_isWithin_0_eq (n : Nat) (x0 : Nat) (x1 : Int) (x2 : Int) (x3 : Int) (μ : bz_M) : x_Row_isWithin_0 (n + 1) x0 x1 x2 x3 μ =
    bz_fI μ x0 5 1 fun v1 =>
    if x3 < v1 then
      bz_fR μ x0 5 0 fun v2 =>
      bz_rI μ v2 x3 fun v3 =>
      if v3 < x1 then rI 0 μ else
      bz_fR μ x0 5 0 fun v4 =>
      bz_rI μ v4 x3 fun v5 =>
      if x2 < v5 then rI 0 μ else
      x_Row_isWithin_0 n x0 x1 x2 (wr (x3 + 1)) μ
    else
    rI 1 μ := rfl
set_option maxRecDepth 100000 in
theorem x_Row_countBeforeZero_eq (n : Nat) (a0 : Nat) (μ : bz_M) : x_Row_countBeforeZero (n + 1) a0 μ =
    x_Row_countBeforeZero_0 n a0 0 μ := rfl
set_option maxRecDepth 100000 in
theorem x_Row_countBeforeZero_0_eq (n : Nat) (x0 : Nat) (x1 : Int) (μ : bz_M) : x_Row_countBeforeZero_0 (n + 1) x0 x1 μ =
    bz_fI μ x0 5 1 fun v1 =>
    if x1 < v1 then
      bz_fR μ x0 5 0 fun v2 =>
      bz_rI μ v2 x1 fun v3 =>
      if v3 = 0 then rI x1 μ else
      x_Row_countBeforeZero_0 n x0 (wr (x1 + 1)) μ
    else
    rI x1 μ := rfl
set_option maxRecDepth 100000 in
theorem x_L_endScan_eq (n : Nat) (a0 : Nat) (a1 : Nat) (μ : bz_M) : x_L_endScan (n + 1) a0 a1 μ =
    bz_hi (d_E_endScan n a0 μ) (fun v2 μ1 =>
      bz_wL μ1 a1 0 v2 fun μ3 =>
      rI 0 μ3
      ) fun c4 μ5 => if c4 = 1 then rI 1 μ5 else none := rfl
set_option maxRecDepth 100000 in
theorem x_E_endScan_eq (n : Nat) (a0 : Nat) (μ : bz_M) : x_E_endScan (n + 1) a0 μ =
    bz_fR μ a0 9 2 fun v1 =>
    bz_fI μ v1 5 1 fun v2 =>
    if v2 < 3 then rX 1 (sX μ) else
    bz_fR μ a0 9 2 fun v3 =>
    bz_fI μ v3 5 1 fun v4 =>
    if Int.tmod v4 2 = 0 then rX 1 (sX μ) else
    bz_cv (d_E_requireRoomForScan n a0 μ) fun μ5 =>
    bz_fR μ5 a0 9 3 fun v6 =>
    bz_fI μ5 a0 9 4 fun v7 =>
    bz_rR μ5 v6 v7 fun v8 =>
    bz_fR μ5 v8 6 0 fun v9 =>
    bz_fR μ5 a0 9 2 fun v10 =>
    bz_cv (d_Row_copy n v9 v10 μ5) fun μ11 =>
    bz_fR μ11 a0 9 2 fun v12 =>
    bz_pI μ11 v12 5 1 0 fun μ13 =>
    bz_ci (d_E_keepScan n a0 v8 μ13) fun v15 μ14 =>
    rI v15 μ14 := rfl
set_option maxRecDepth 100000 in
theorem x_Row_copy_eq (n : Nat) (a0 : Nat) (a1 : Nat) (μ : bz_M) : x_Row_copy (n + 1) a0 a1 μ =
    bz_fI μ a1 5 1 fun v1 =>
    bz_pI μ a0 5 1 v1 fun μ2 =>
    x_Row_copy_0 n a0 a1 0 μ2 := rfl
set_option maxRecDepth 100000 in
theorem x_Row_copy_0_eq (n : Nat) (x0 : Nat) (x1 : Nat) (x2 : Int) (μ : bz_M) : x_Row_copy_0 (n + 1) x0 x1 x2 μ =
    bz_fI μ x0 5 1 fun v1 =>
    if x2 < v1 then
      bz_fR μ x0 5 0 fun v2 =>
      bz_fR μ x1 5 0 fun v3 =>
      bz_rI μ v3 x2 fun v4 =>
      bz_wI μ v2 x2 v4 fun μ5 =>
      x_Row_copy_0 n x0 x1 (wr (x2 + 1)) μ5
    else
    rI 0 μ := rfl
set_option maxRecDepth 100000 in
theorem x_L_widthCount_eq (n : Nat) (a0 : Nat) (a1 : Int) (a2 : Nat) (μ : bz_M) : x_L_widthCount (n + 1) a0 a1 a2 μ =
    bz_hi (d_E_widthCount n a0 a1 μ) (fun v2 μ1 =>
      bz_wL μ1 a2 0 v2 fun μ3 =>
      rI 0 μ3
      ) fun c4 μ5 => if c4 = 2 then rI 1 μ5 else none := rfl
set_option maxRecDepth 100000 in
theorem x_E_widthCount_eq (n : Nat) (a0 : Nat) (a1 : Int) (μ : bz_M) : x_E_widthCount (n + 1) a0 a1 μ =
    bz_cv (d_E_requireScan n a0 a1 μ) fun μ1 =>
    bz_fR μ1 a0 9 3 fun v2 =>
    bz_rR μ1 v2 a1 fun v3 =>
    bz_fR μ1 v3 6 0 fun v4 =>
    bz_fI μ1 v4 5 1 fun v5 =>
    rI v5 μ1 := rfl
set_option maxRecDepth 100000 in
theorem x_E_requireScan_eq (n : Nat) (a0 : Nat) (a1 : Int) (μ : bz_M) : x_E_requireScan (n + 1) a0 a1 μ =
    if a1 < 0 then rX 2 (sX μ) else
    bz_fI μ a0 9 4 fun v1 =>
    if a1 < v1 then rI 0 μ else
    rX 2 (sX μ) := rfl
set_option maxRecDepth 100000 in
theorem x_L_width_eq (n : Nat) (a0 : Nat) (a1 : Int) (a2 : Int) (a3 : Nat) (μ : bz_M) : x_L_width (n + 1) a0 a1 a2 a3 μ =
    bz_hi (d_E_width n a0 a1 a2 μ) (fun v2 μ1 =>
      bz_wL μ1 a3 0 v2 fun μ3 =>
      rI 0 μ3
      ) fun c4 μ5 => if c4 = 2 then rI 1 μ5 else none := rfl
set_option maxRecDepth 100000 in
theorem x_E_width_eq (n : Nat) (a0 : Nat) (a1 : Int) (a2 : Int) (μ : bz_M) : x_E_width (n + 1) a0 a1 a2 μ =
    bz_cv (d_E_requireScan n a0 a1 μ) fun μ1 =>
    bz_fR μ1 a0 9 3 fun v2 =>
    bz_rR μ1 v2 a1 fun v3 =>
    bz_fR μ1 v3 6 0 fun v4 =>
    bz_fI μ1 v4 5 1 fun v5 =>
    bz_cv (x_E_requirePlace n a2 v5 μ1) fun μ6 =>
    bz_fR μ6 v4 5 0 fun v7 =>
    bz_rI μ6 v7 a2 fun v8 =>
    rI v8 μ6 := rfl
set_option maxRecDepth 100000 in
theorem x_E_requirePlace_eq (n : Nat) (a0 : Int) (a1 : Int) (μ : bz_M) : x_E_requirePlace (n + 1) a0 a1 μ =
    if a0 < 0 then rX 2 (sX μ) else
    if a0 < a1 then rI 0 μ else
    rX 2 (sX μ) := rfl
set_option maxRecDepth 100000 in
theorem x_L_setWidth_eq (n : Nat) (a0 : Nat) (a1 : Int) (a2 : Int) (a3 : Int) (a4 : Nat) (μ : bz_M) : x_L_setWidth (n + 1) a0 a1 a2 a3 a4 μ =
    bz_hi (d_E_setWidth n a0 a1 a2 a3 μ) (fun v2 μ1 =>
      bz_wL μ1 a4 0 v2 fun μ3 =>
      rI 0 μ3
      ) fun c4 μ5 => if c4 = 2 then rI 1 μ5 else if c4 = 3 then rI 2 μ5 else none := rfl
set_option maxRecDepth 100000 in
theorem x_E_setWidth_eq (n : Nat) (a0 : Nat) (a1 : Int) (a2 : Int) (a3 : Int) (μ : bz_M) : x_E_setWidth (n + 1) a0 a1 a2 a3 μ =
    bz_cv (d_E_requireScan n a0 a1 μ) fun μ1 =>
    bz_fR μ1 a0 9 3 fun v2 =>
    bz_rR μ1 v2 a1 fun v3 =>
    bz_fR μ1 v3 6 0 fun v4 =>
    bz_fI μ1 v4 5 1 fun v5 =>
    bz_cv (x_E_requirePlace n a2 v5 μ1) fun μ6 =>
    if a3 < 1 then rX 3 (sX μ6) else
    if (10000 : Int) < a3 then rX 3 (sX μ6) else
    bz_fR μ6 v4 5 0 fun v7 =>
    bz_rI μ6 v7 a2 fun v8 =>
    bz_fR μ6 v4 5 0 fun v9 =>
    bz_wI μ6 v9 a2 a3 fun μ10 =>
    bz_fR μ10 a0 9 3 fun v11 =>
    bz_rR μ10 v11 a1 fun v12 =>
    bz_cv (d_E_forget n a0 v12 μ10) fun μ13 =>
    rI v8 μ13 := rfl
set_option maxRecDepth 100000 in
theorem x_L_cut_eq (n : Nat) (a0 : Nat) (a1 : Int) (a2 : Int) (a3 : Int) (a4 : Nat) (μ : bz_M) : x_L_cut (n + 1) a0 a1 a2 a3 a4 μ =
    bz_hi (d_E_cut n a0 a1 a2 a3 μ) (fun v2 μ1 =>
      bz_wL μ1 a4 0 v2 fun μ3 =>
      rI 0 μ3
      ) fun c4 μ5 => if c4 = 2 then rI 1 μ5 else if c4 = 3 then rI 2 μ5 else none := rfl
set_option maxRecDepth 100000 in
theorem x_E_cut_eq (n : Nat) (a0 : Nat) (a1 : Int) (a2 : Int) (a3 : Int) (μ : bz_M) : x_E_cut (n + 1) a0 a1 a2 a3 μ =
    bz_cv (d_E_requireScan n a0 a1 μ) fun μ1 =>
    bz_fR μ1 a0 9 3 fun v2 =>
    bz_rR μ1 v2 a1 fun v3 =>
    bz_fR μ1 v3 6 0 fun v4 =>
    bz_fI μ1 v4 5 1 fun v5 =>
    bz_cv (x_E_requirePlace n a2 v5 μ1) fun μ6 =>
    bz_fI μ6 v4 5 1 fun v7 =>
    bz_cv (x_E_requirePlace n a3 v7 μ6) fun μ8 =>
    if Int.tmod a2 2 = 0 then
      if Int.tmod a3 2 = 0 then
        if a3 < wr (a2 + 2) then rX 3 (sX μ8) else
        bz_cv (d_Row_keep n v4 a2 a3 μ8) fun μ9 =>
        bz_fR μ9 a0 9 3 fun v10 =>
        bz_rR μ9 v10 a1 fun v11 =>
        bz_cv (d_E_forget n a0 v11 μ9) fun μ12 =>
        bz_fI μ12 v4 5 1 fun v13 =>
        rI v13 μ12
      else
      rX 3 (sX μ8)
    else
    rX 3 (sX μ8) := rfl
set_option maxRecDepth 100000 in
theorem x_Row_keep_eq (n : Nat) (a0 : Nat) (a1 : Int) (a2 : Int) (μ : bz_M) : x_Row_keep (n + 1) a0 a1 a2 μ =
    if a1 < 0 then rI 0 μ else
    bz_fI μ a0 5 1 fun v1 =>
    if a2 < v1 then x_Row_keep_0 n a0 a1 a2 a1 μ else
    rI 0 μ := rfl
set_option maxRecDepth 100000 in
theorem x_Row_keep_0_eq (n : Nat) (x0 : Nat) (x1 : Int) (x2 : Int) (x3 : Int) (μ : bz_M) : x_Row_keep_0 (n + 1) x0 x1 x2 x3 μ =
    if x2 < x3 then
      bz_pI μ x0 5 1 (wr ((wr (x2 - x1)) + 1)) fun μ1 =>
      rI 0 μ1
    else
    bz_fR μ x0 5 0 fun v2 =>
    bz_fR μ x0 5 0 fun v3 =>
    bz_rI μ v3 x3 fun v4 =>
    bz_wI μ v2 (wr (x3 - x1)) v4 fun μ5 =>
    x_Row_keep_0 n x0 x1 x2 (wr (x3 + 1)) μ5 := rfl
set_option maxRecDepth 100000 in
theorem x_L_reverse_eq (n : Nat) (a0 : Nat) (a1 : Int) (μ : bz_M) : x_L_reverse (n + 1) a0 a1 μ =
    bz_hv (d_E_reverse n a0 a1 μ) (fun μ1 =>
      rI 0 μ1
      ) fun c2 μ3 => if c2 = 2 then rI 1 μ3 else none := rfl
set_option maxRecDepth 100000 in
theorem x_E_reverse_eq (n : Nat) (a0 : Nat) (a1 : Int) (μ : bz_M) : x_E_reverse (n + 1) a0 a1 μ =
    bz_cv (d_E_requireScan n a0 a1 μ) fun μ1 =>
    bz_fR μ1 a0 9 3 fun v2 =>
    bz_rR μ1 v2 a1 fun v3 =>
    bz_fR μ1 v3 6 0 fun v4 =>
    bz_fR μ1 a0 9 9 fun v5 =>
    bz_cv (d_Row_copyReversed n v5 v4 μ1) fun μ6 =>
    bz_fR μ6 a0 9 9 fun v7 =>
    bz_cv (d_Row_copy n v4 v7 μ6) fun μ8 =>
    bz_fR μ8 a0 9 3 fun v9 =>
    bz_rR μ8 v9 a1 fun v10 =>
    bz_cv (d_E_forget n a0 v10 μ8) fun μ11 =>
    rI 0 μ11 := rfl
set_option maxRecDepth 100000 in
theorem x_L_smear_eq (n : Nat) (a0 : Nat) (a1 : Int) (a2 : Int) (a3 : Nat) (μ : bz_M) : x_L_smear (n + 1) a0 a1 a2 a3 μ =
    bz_hi (d_E_smear n a0 a1 a2 μ) (fun v2 μ1 =>
      bz_wL μ1 a3 0 v2 fun μ3 =>
      rI 0 μ3
      ) fun c4 μ5 => if c4 = 2 then rI 1 μ5 else if c4 = 3 then rI 2 μ5 else none := rfl
set_option maxRecDepth 100000 in
theorem x_E_smear_eq (n : Nat) (a0 : Nat) (a1 : Int) (a2 : Int) (μ : bz_M) : x_E_smear (n + 1) a0 a1 a2 μ =
    bz_cv (d_E_requireScan n a0 a1 μ) fun μ1 =>
    if a2 < (-100) then rX 3 (sX μ1) else
    if (100 : Int) < a2 then rX 3 (sX μ1) else
    bz_fR μ1 a0 9 3 fun v2 =>
    bz_rR μ1 v2 a1 fun v3 =>
    bz_fR μ1 v3 6 0 fun v4 =>
    bz_ci (d_Row_widenBars n v4 a2 μ1) fun v6 μ5 =>
    bz_fR μ5 a0 9 3 fun v7 =>
    bz_rR μ5 v7 a1 fun v8 =>
    bz_cv (d_E_forget n a0 v8 μ5) fun μ9 =>
    rI v6 μ9 := rfl
set_option maxRecDepth 100000 in
theorem x_Row_widenBars_eq (n : Nat) (a0 : Nat) (a1 : Int) (μ : bz_M) : x_Row_widenBars (n + 1) a0 a1 μ =
    x_Row_widenBars_0 n a0 a1 0 1 μ := rfl
set_option maxRecDepth 100000 in
theorem x_Row_widenBars_0_eq (n : Nat) (x0 : Nat) (x1 : Int) (x2 : Int) (x3 : Int) (μ : bz_M) : x_Row_widenBars_0 (n + 1) x0 x1 x2 x3 μ =
    bz_fI μ x0 5 1 fun v1 =>
    if x3 < wr (v1 - 1) then
      bz_fR μ x0 5 0 fun v2 =>
      bz_rI μ v2 x3 fun v3 =>
      if Int.tmod x3 2 = 1 then
        bz_ci (x_Mth_min n (wr (v3 + x1)) 10000 μ) fun v5 μ4 =>
        bz_ci (x_Mth_max n 1 v5 μ4) fun v7 μ6 =>
        if v7 = wr (v3 + x1) then
          bz_fR μ6 x0 5 0 fun v8 =>
          bz_wI μ6 v8 x3 v7 fun μ9 =>
          x_Row_widenBars_0 n x0 x1 x2 (wr (x3 + 1)) μ9
        else
        bz_fR μ6 x0 5 0 fun v10 =>
        bz_wI μ6 v10 x3 v7 fun μ11 =>
        x_Row_widenBars_0 n x0 x1 (wr (x2 + 1)) (wr (x3 + 1)) μ11
      else
      bz_ci (x_Mth_min n (wr (v3 + (wr (-x1)))) 10000 μ) fun v13 μ12 =>
      bz_ci (x_Mth_max n 1 v13 μ12) fun v15 μ14 =>
      if v15 = wr (v3 + (wr (-x1))) then
        bz_fR μ14 x0 5 0 fun v16 =>
        bz_wI μ14 v16 x3 v15 fun μ17 =>
        x_Row_widenBars_0 n x0 x1 x2 (wr (x3 + 1)) μ17
      else
      bz_fR μ14 x0 5 0 fun v18 =>
      bz_wI μ14 v18 x3 v15 fun μ19 =>
      x_Row_widenBars_0 n x0 x1 (wr (x2 + 1)) (wr (x3 + 1)) μ19
    else
    rI x2 μ := rfl
set_option maxRecDepth 100000 in
theorem x_L_average_eq (n : Nat) (a0 : Nat) (a1 : Int) (a2 : Int) (μ : bz_M) : x_L_average (n + 1) a0 a1 a2 μ =
    bz_hv (d_E_average n a0 a1 a2 μ) (fun μ1 =>
      rI 0 μ1
      ) fun c2 μ3 => if c2 = 2 then rI 1 μ3 else if c2 = 3 then rI 2 μ3 else none := rfl
set_option maxRecDepth 100000 in
theorem x_E_average_eq (n : Nat) (a0 : Nat) (a1 : Int) (a2 : Int) (μ : bz_M) : x_E_average (n + 1) a0 a1 a2 μ =
    bz_cv (d_E_requireScan n a0 a1 μ) fun μ1 =>
    bz_cv (d_E_requireScan n a0 a2 μ1) fun μ2 =>
    bz_fR μ2 a0 9 3 fun v3 =>
    bz_rR μ2 v3 a1 fun v4 =>
    bz_fR μ2 v4 6 0 fun v5 =>
    bz_fR μ2 a0 9 3 fun v6 =>
    bz_rR μ2 v6 a2 fun v7 =>
    bz_fR μ2 v7 6 0 fun v8 =>
    bz_fI μ2 v5 5 1 fun v9 =>
    bz_fI μ2 v8 5 1 fun v10 =>
    if v9 = v10 then x_E_average_0 n a0 a1 v5 v8 0 μ2 else
    rX 3 (sX μ2) := rfl
set_option maxRecDepth 100000 in
theorem x_E_average_0_eq (n : Nat) (x0 : Nat) (x1 : Int) (x3 : Nat) (x4 : Nat) (x5 : Int) (μ : bz_M) : x_E_average_0 (n + 1) x0 x1 x3 x4 x5 μ =
    bz_fI μ x3 5 1 fun v1 =>
    if x5 < v1 then
      bz_fR μ x3 5 0 fun v2 =>
      bz_fR μ x3 5 0 fun v3 =>
      bz_rI μ v3 x5 fun v4 =>
      bz_fR μ x4 5 0 fun v5 =>
      bz_rI μ v5 x5 fun v6 =>
      bz_wI μ v2 x5 (wr (Int.tdiv (wr ((wr (v4 + v6)) + 1)) 2)) fun μ7 =>
      x_E_average_0 n x0 x1 x3 x4 (wr (x5 + 1)) μ7
    else
    bz_fR μ x0 9 3 fun v8 =>
    bz_rR μ v8 x1 fun v9 =>
    bz_cv (d_E_forget n x0 v9 μ) fun μ10 =>
    rI 0 μ10 := rfl
set_option maxRecDepth 100000 in
theorem x_L_removeScan_eq (n : Nat) (a0 : Nat) (a1 : Int) (a2 : Nat) (μ : bz_M) : x_L_removeScan (n + 1) a0 a1 a2 μ =
    bz_hi (d_E_removeScan n a0 a1 μ) (fun v2 μ1 =>
      bz_wL μ1 a2 0 v2 fun μ3 =>
      rI 0 μ3
      ) fun c4 μ5 => if c4 = 2 then rI 1 μ5 else none := rfl
set_option maxRecDepth 100000 in
theorem x_E_removeScan_eq (n : Nat) (a0 : Nat) (a1 : Int) (μ : bz_M) : x_E_removeScan (n + 1) a0 a1 μ =
    bz_cv (d_E_requireScan n a0 a1 μ) fun μ1 =>
    bz_fR μ1 a0 9 3 fun v2 =>
    bz_rR μ1 v2 a1 fun v3 =>
    x_E_removeScan_0 n a0 v3 a1 μ1 := rfl
set_option maxRecDepth 100000 in
theorem x_E_removeScan_0_eq (n : Nat) (x0 : Nat) (x2 : Nat) (x3 : Int) (μ : bz_M) : x_E_removeScan_0 (n + 1) x0 x2 x3 μ =
    bz_fI μ x0 9 4 fun v1 =>
    if wr (x3 + 1) < v1 then
      bz_fR μ x0 9 3 fun v2 =>
      bz_fR μ x0 9 3 fun v3 =>
      bz_rR μ v3 (wr (x3 + 1)) fun v4 =>
      bz_wR μ v2 x3 v4 fun μ5 =>
      x_E_removeScan_0 n x0 x2 (wr (x3 + 1)) μ5
    else
    bz_fI μ x0 9 4 fun v6 =>
    bz_pI μ x0 9 4 (wr (v6 - 1)) fun μ7 =>
    bz_fR μ7 x0 9 3 fun v8 =>
    bz_fI μ7 x0 9 4 fun v9 =>
    bz_wR μ7 v8 v9 x2 fun μ10 =>
    bz_cv (d_E_forget n x0 x2 μ10) fun μ11 =>
    bz_fI μ11 x0 9 4 fun v12 =>
    rI v12 μ11 := rfl
set_option maxRecDepth 100000 in
theorem x_L_read_eq (n : Nat) (a0 : Nat) (a1 : Int) (a2 : Int) (a3 : Nat) (μ : bz_M) : x_L_read (n + 1) a0 a1 a2 a3 μ =
    bz_hi (d_E_read n a0 a1 a2 μ) (fun v2 μ1 =>
      bz_wL μ1 a3 0 v2 fun μ3 =>
      rI 0 μ3
      ) fun c4 μ5 => if c4 = 2 then rI 1 μ5 else none := rfl
set_option maxRecDepth 100000 in
theorem x_E_read_eq (n : Nat) (a0 : Nat) (a1 : Int) (a2 : Int) (μ : bz_M) : x_E_read (n + 1) a0 a1 a2 μ =
    bz_cr (d_E_reading n a0 a1 a2 μ) fun v2 μ1 =>
    bz_fR μ1 v2 4 0 fun v3 =>
    bz_fI μ1 v3 7 2 fun v4 =>
    rI v4 μ1 := rfl
set_option maxRecDepth 100000 in
theorem x_E_reading_eq (n : Nat) (a0 : Nat) (a1 : Int) (a2 : Int) (μ : bz_M) : x_E_reading (n + 1) a0 a1 a2 μ =
    bz_cv (d_E_requireScan n a0 a1 μ) fun μ1 =>
    bz_cv (x_E_requireSymbology n a2 μ1) fun μ2 =>
    bz_fR μ2 a0 9 3 fun v3 =>
    bz_rR μ2 v3 a1 fun v4 =>
    bz_fR μ2 v4 6 1 fun v5 =>
    bz_rR μ2 v5 a2 fun v6 =>
    bz_fR μ2 a0 9 5 fun v7 =>
    bz_rR μ2 v7 a2 fun v8 =>
    bz_fR μ2 a0 9 3 fun v9 =>
    bz_rR μ2 v9 a1 fun v10 =>
    bz_fR μ2 v10 6 0 fun v11 =>
    bz_fR μ2 a0 9 9 fun v12 =>
    bz_cu (d_Sym_interpret n v8 v11 v12 v6 μ2) fun μ13 =>
    rR v6 μ13 := rfl
set_option maxRecDepth 100000 in
theorem x_L_readPart_eq (n : Nat) (a0 : Nat) (a1 : Int) (a2 : Int) (a3 : Int) (a4 : Nat) (μ : bz_M) : x_L_readPart (n + 1) a0 a1 a2 a3 a4 μ =
    bz_hi (d_E_readPart n a0 a1 a2 a3 μ) (fun v2 μ1 =>
      bz_wL μ1 a4 0 v2 fun μ3 =>
      rI 0 μ3
      ) fun c4 μ5 => if c4 = 2 then rI 1 μ5 else none := rfl
set_option maxRecDepth 100000 in
theorem x_E_readPart_eq (n : Nat) (a0 : Nat) (a1 : Int) (a2 : Int) (a3 : Int) (μ : bz_M) : x_E_readPart (n + 1) a0 a1 a2 a3 μ =
    bz_cr (d_E_reading n a0 a1 a2 μ) fun v2 μ1 =>
    bz_cr (d_Rdg_part n v2 a3 μ1) fun v4 μ3 =>
    bz_fI μ3 v4 7 2 fun v5 =>
    rI v5 μ3 := rfl
set_option maxRecDepth 100000 in
theorem x_Rdg_part_eq (n : Nat) (a0 : Nat) (a1 : Int) (μ : bz_M) : x_Rdg_part (n + 1) a0 a1 μ =
    if a1 = 0 then
      bz_fR μ a0 4 1 fun v1 =>
      rR v1 μ
    else
    bz_fR μ a0 4 2 fun v2 =>
    rR v2 μ := rfl
set_option maxRecDepth 100000 in
theorem x_L_character_eq (n : Nat) (a0 : Nat) (a1 : Int) (a2 : Int) (a3 : Int) (a4 : Nat) (μ : bz_M) : x_L_character (n + 1) a0 a1 a2 a3 a4 μ =
    bz_hi (d_E_character n a0 a1 a2 a3 μ) (fun v2 μ1 =>
      bz_wL μ1 a4 0 v2 fun μ3 =>
      rI 0 μ3
      ) fun c4 μ5 => if c4 = 2 then rI 1 μ5 else none := rfl
set_option maxRecDepth 100000 in
theorem x_E_character_eq (n : Nat) (a0 : Nat) (a1 : Int) (a2 : Int) (a3 : Int) (μ : bz_M) : x_E_character (n + 1) a0 a1 a2 a3 μ =
    bz_cr (d_E_reading n a0 a1 a2 μ) fun v2 μ1 =>
    bz_fR μ1 v2 4 0 fun v3 =>
    bz_fI μ1 v3 7 2 fun v4 =>
    bz_cv (x_E_requirePlace n a3 v4 μ1) fun μ5 =>
    bz_fR μ5 v3 7 0 fun v6 =>
    bz_rI μ5 v6 a3 fun v7 =>
    bz_ci (x_E_characterOf n v7 μ5) fun v9 μ8 =>
    rI v9 μ8 := rfl
set_option maxRecDepth 100000 in
theorem x_L_confidence_eq (n : Nat) (a0 : Nat) (a1 : Int) (a2 : Int) (a3 : Int) (a4 : Nat) (μ : bz_M) : x_L_confidence (n + 1) a0 a1 a2 a3 a4 μ =
    bz_hi (d_E_confidence n a0 a1 a2 a3 μ) (fun v2 μ1 =>
      bz_wL μ1 a4 0 v2 fun μ3 =>
      rI 0 μ3
      ) fun c4 μ5 => if c4 = 2 then rI 1 μ5 else none := rfl
set_option maxRecDepth 100000 in
theorem x_E_confidence_eq (n : Nat) (a0 : Nat) (a1 : Int) (a2 : Int) (a3 : Int) (μ : bz_M) : x_E_confidence (n + 1) a0 a1 a2 a3 μ =
    bz_cr (d_E_reading n a0 a1 a2 μ) fun v2 μ1 =>
    bz_fR μ1 v2 4 0 fun v3 =>
    bz_fI μ1 v3 7 2 fun v4 =>
    bz_cv (x_E_requirePlace n a3 v4 μ1) fun μ5 =>
    bz_fR μ5 v3 7 1 fun v6 =>
    bz_rI μ5 v6 a3 fun v7 =>
    rI v7 μ5 := rfl
set_option maxRecDepth 100000 in
theorem x_L_partCharacter_eq (n : Nat) (a0 : Nat) (a1 : Int) (a2 : Int) (a3 : Int) (a4 : Int) (a5 : Nat) (μ : bz_M) : x_L_partCharacter (n + 1) a0 a1 a2 a3 a4 a5 μ =
    bz_hi (d_E_partCharacter n a0 a1 a2 a3 a4 μ) (fun v2 μ1 =>
      bz_wL μ1 a5 0 v2 fun μ3 =>
      rI 0 μ3
      ) fun c4 μ5 => if c4 = 2 then rI 1 μ5 else none := rfl
set_option maxRecDepth 100000 in
theorem x_E_partCharacter_eq (n : Nat) (a0 : Nat) (a1 : Int) (a2 : Int) (a3 : Int) (a4 : Int) (μ : bz_M) : x_E_partCharacter (n + 1) a0 a1 a2 a3 a4 μ =
    bz_cr (d_E_reading n a0 a1 a2 μ) fun v2 μ1 =>
    bz_cr (d_Rdg_part n v2 a3 μ1) fun v4 μ3 =>
    bz_fI μ3 v4 7 2 fun v5 =>
    bz_cv (x_E_requirePlace n a4 v5 μ3) fun μ6 =>
    bz_fR μ6 v4 7 0 fun v7 =>
    bz_rI μ6 v7 a4 fun v8 =>
    bz_ci (x_E_characterOf n v8 μ6) fun v10 μ9 =>
    rI v10 μ9 := rfl
set_option maxRecDepth 100000 in
theorem x_L_isReversed_eq (n : Nat) (a0 : Nat) (a1 : Int) (a2 : Int) (a3 : Nat) (μ : bz_M) : x_L_isReversed (n + 1) a0 a1 a2 a3 μ =
    bz_hi (d_E_isReversed n a0 a1 a2 μ) (fun v2 μ1 =>
      if v2 = 0 then
        bz_wL μ1 a3 0 0 fun μ3 =>
        rI 0 μ3
      else
      bz_wL μ1 a3 0 1 fun μ4 =>
      rI 0 μ4
      ) fun c5 μ6 => if c5 = 2 then rI 1 μ6 else none := rfl
set_option maxRecDepth 100000 in
theorem x_E_isReversed_eq (n : Nat) (a0 : Nat) (a1 : Int) (a2 : Int) (μ : bz_M) : x_E_isReversed (n + 1) a0 a1 a2 μ =
    bz_cr (d_E_reading n a0 a1 a2 μ) fun v2 μ1 =>
    bz_fI μ1 v2 4 4 fun v3 =>
    bz_zB v3 μ1 := rfl
set_option maxRecDepth 100000 in
theorem x_L_agreement_eq (n : Nat) (a0 : Nat) (a1 : Int) (a2 : Int) (a3 : Int) (a4 : Nat) (μ : bz_M) : x_L_agreement (n + 1) a0 a1 a2 a3 a4 μ =
    bz_hi (d_E_agreement n a0 a1 a2 a3 μ) (fun v2 μ1 =>
      bz_wL μ1 a4 0 v2 fun μ3 =>
      rI 0 μ3
      ) fun c4 μ5 => if c4 = 2 then rI 1 μ5 else none := rfl
set_option maxRecDepth 100000 in
theorem x_E_agreement_eq (n : Nat) (a0 : Nat) (a1 : Int) (a2 : Int) (a3 : Int) (μ : bz_M) : x_E_agreement (n + 1) a0 a1 a2 a3 μ =
    bz_cr (d_E_reading n a0 a1 a3 μ) fun v2 μ1 =>
    bz_fR μ1 v2 4 0 fun v3 =>
    bz_cr (d_E_reading n a0 a2 a3 μ1) fun v5 μ4 =>
    bz_fR μ4 v5 4 0 fun v6 =>
    bz_fI μ4 v3 7 2 fun v7 =>
    if v7 = 0 then rI (-1) μ4 else
    bz_fI μ4 v3 7 2 fun v8 =>
    bz_fI μ4 v6 7 2 fun v9 =>
    if v8 = v9 then x_E_agreement_0 n v3 v6 0 0 μ4 else
    rI (-1) μ4 := rfl
set_option maxRecDepth 100000 in
theorem x_E_agreement_0_eq (n : Nat) (x4 : Nat) (x5 : Nat) (x6 : Int) (x7 : Int) (μ : bz_M) : x_E_agreement_0 (n + 1) x4 x5 x6 x7 μ =
    bz_fI μ x4 7 2 fun v1 =>
    if x7 < v1 then
      bz_fR μ x4 7 0 fun v2 =>
      bz_rI μ v2 x7 fun v3 =>
      bz_fR μ x5 7 0 fun v4 =>
      bz_rI μ v4 x7 fun v5 =>
      if v3 = v5 then x_E_agreement_0 n x4 x5 (wr (x6 + 1)) (wr (x7 + 1)) μ else
      x_E_agreement_0 n x4 x5 x6 (wr (x7 + 1)) μ
    else
    rI x6 μ := rfl
set_option maxRecDepth 100000 in
theorem x_L_overlap_eq (n : Nat) (a0 : Nat) (a1 : Int) (a2 : Int) (a3 : Int) (a4 : Nat) (μ : bz_M) : x_L_overlap (n + 1) a0 a1 a2 a3 a4 μ =
    bz_hi (d_E_overlap n a0 a1 a2 a3 μ) (fun v2 μ1 =>
      bz_wL μ1 a4 0 v2 fun μ3 =>
      rI 0 μ3
      ) fun c4 μ5 => if c4 = 2 then rI 1 μ5 else none := rfl
set_option maxRecDepth 100000 in
theorem x_E_overlap_eq (n : Nat) (a0 : Nat) (a1 : Int) (a2 : Int) (a3 : Int) (μ : bz_M) : x_E_overlap (n + 1) a0 a1 a2 a3 μ =
    bz_cr (d_E_reading n a0 a1 a3 μ) fun v2 μ1 =>
    bz_fR μ1 v2 4 1 fun v3 =>
    bz_cr (d_E_reading n a0 a2 a3 μ1) fun v5 μ4 =>
    bz_fR μ4 v5 4 2 fun v6 =>
    bz_fI μ4 v3 7 2 fun v7 =>
    if v7 = 0 then rI (-1) μ4 else
    bz_fI μ4 v6 7 2 fun v8 =>
    if v8 = 0 then rI (-1) μ4 else
    bz_fI μ4 v3 7 2 fun v9 =>
    bz_fI μ4 v6 7 2 fun v10 =>
    bz_ci (x_Mth_min n v9 v10 μ4) fun v12 μ11 =>
    x_E_overlap_0 n v3 v6 v12 μ11 := rfl
set_option maxRecDepth 100000 in
theorem x_E_overlap_0_eq (n : Nat) (x4 : Nat) (x5 : Nat) (x7 : Int) (μ : bz_M) : x_E_overlap_0 (n + 1) x4 x5 x7 μ =
    if (0 : Int) < x7 then
      bz_ci (d_Seq_endsLike n x4 x5 x7 μ) fun v2 μ1 =>
      if v2 = 0 then x_E_overlap_0 n x4 x5 (wr (x7 + (-1))) μ1 else
      rI x7 μ1
    else
    rI 0 μ := rfl
set_option maxRecDepth 100000 in
theorem x_L_module_eq (n : Nat) (a0 : Nat) (a1 : Int) (a2 : Int) (a3 : Nat) (μ : bz_M) : x_L_module (n + 1) a0 a1 a2 a3 μ =
    bz_hi (d_E_module n a0 a1 a2 μ) (fun v2 μ1 =>
      bz_wL μ1 a3 0 v2 fun μ3 =>
      rI 0 μ3
      ) fun c4 μ5 => if c4 = 2 then rI 1 μ5 else if c4 = 4 then rI 2 μ5 else none := rfl
set_option maxRecDepth 100000 in
theorem x_E_module_eq (n : Nat) (a0 : Nat) (a1 : Int) (a2 : Int) (μ : bz_M) : x_E_module (n + 1) a0 a1 a2 μ =
    bz_cr (d_E_reading n a0 a1 a2 μ) fun v2 μ1 =>
    bz_fR μ1 a0 9 5 fun v3 =>
    bz_rR μ1 v3 a2 fun v4 =>
    bz_cv (d_E_drawWhole n a0 v4 v2 μ1) fun μ5 =>
    bz_fR μ5 a0 9 10 fun v6 =>
    bz_fR μ5 a0 9 10 fun v7 =>
    bz_fI μ5 v7 5 1 fun v8 =>
    bz_cj (d_Row_sum n v6 0 (wr (v8 - 1)) 1 μ5) fun v10 μ9 =>
    if (0 : Int) < bz_cmp v10 0 then
      bz_fR μ9 a0 9 3 fun v11 =>
      bz_rR μ9 v11 a1 fun v12 =>
      bz_fR μ9 v12 6 0 fun v13 =>
      bz_fI μ9 v2 4 5 fun v14 =>
      bz_fI μ9 v2 4 6 fun v15 =>
      bz_cj (d_Row_sum n v13 v14 v15 1 μ9) fun v17 μ16 =>
      bz_ld (wl (100 * v17)) v10 fun v18 =>
      rI (wr v18) μ16
    else
    rI 0 μ9 := rfl
set_option maxRecDepth 100000 in
theorem x_E_drawWhole_eq (n : Nat) (a0 : Nat) (a1 : Nat) (a2 : Nat) (μ : bz_M) : x_E_drawWhole (n + 1) a0 a1 a2 μ =
    bz_fR μ a2 4 0 fun v1 =>
    bz_fI μ v1 7 2 fun v2 =>
    if v2 = 0 then rX 4 (sX μ) else
    bz_fR μ a0 9 10 fun v3 =>
    bz_pI μ v3 5 1 0 fun μ4 =>
    bz_fR μ4 a2 4 0 fun v5 =>
    bz_fR μ4 a0 9 10 fun v6 =>
    bz_cu (d_Sym_draw n a1 v5 v6 μ4) fun μ7 =>
    rI 0 μ7 := rfl
set_option maxRecDepth 100000 in
theorem x_Row_sum_eq (n : Nat) (a0 : Nat) (a1 : Int) (a2 : Int) (a3 : Int) (μ : bz_M) : x_Row_sum (n + 1) a0 a1 a2 a3 μ =
    if a1 < 0 then rL 0 μ else
    bz_fI μ a0 5 1 fun v1 =>
    if a2 < v1 then
      if a3 < 1 then rL 0 μ else
      x_Row_sum_0 n a0 a2 a3 0 a1 μ
    else
    rL 0 μ := rfl
set_option maxRecDepth 100000 in
theorem x_Row_sum_0_eq (n : Nat) (x0 : Nat) (x2 : Int) (x3 : Int) (x4 : Int) (x6 : Int) (μ : bz_M) : x_Row_sum_0 (n + 1) x0 x2 x3 x4 x6 μ =
    if x2 < x6 then rL x4 μ else
    bz_fR μ x0 5 0 fun v1 =>
    bz_rI μ v1 x6 fun v2 =>
    x_Row_sum_0 n x0 x2 x3 (wl (x4 + v2)) (wr (x6 + x3)) μ := rfl
set_option maxRecDepth 100000 in
theorem x_L_spread_eq (n : Nat) (a0 : Nat) (a1 : Int) (a2 : Int) (a3 : Nat) (μ : bz_M) : x_L_spread (n + 1) a0 a1 a2 a3 μ =
    bz_hi (d_E_spread n a0 a1 a2 μ) (fun v2 μ1 =>
      bz_wL μ1 a3 0 v2 fun μ3 =>
      rI 0 μ3
      ) fun c4 μ5 => if c4 = 2 then rI 1 μ5 else if c4 = 4 then rI 2 μ5 else none := rfl
set_option maxRecDepth 100000 in
theorem x_E_spread_eq (n : Nat) (a0 : Nat) (a1 : Int) (a2 : Int) (μ : bz_M) : x_E_spread (n + 1) a0 a1 a2 μ =
    bz_cr (d_E_reading n a0 a1 a2 μ) fun v2 μ1 =>
    bz_fR μ1 a0 9 5 fun v3 =>
    bz_rR μ1 v3 a2 fun v4 =>
    bz_cv (d_E_drawWhole n a0 v4 v2 μ1) fun μ5 =>
    bz_fR μ5 a0 9 10 fun v6 =>
    bz_fR μ5 a0 9 10 fun v7 =>
    bz_fI μ5 v7 5 1 fun v8 =>
    bz_cj (d_Row_sum n v6 0 (wr (v8 - 1)) 1 μ5) fun v10 μ9 =>
    x_E_spread_0 n a0 a1 v2 v10 μ9 := rfl
set_option maxRecDepth 100000 in
theorem x_E_spread_0_eq (n : Nat) (x0 : Nat) (x1 : Int) (x3 : Nat) (x4 : Int) (μ : bz_M) : x_E_spread_0 (n + 1) x0 x1 x3 x4 μ =
    bz_fR μ x0 9 10 fun v1 =>
    bz_fR μ x0 9 10 fun v2 =>
    bz_fI μ v2 5 1 fun v3 =>
    bz_cj (d_Row_sum n v1 0 (wr (v3 - 1)) 2 μ) fun v5 μ4 =>
    x_E_spread_1 n x0 x1 x3 x4 v5 μ4 := rfl
set_option maxRecDepth 100000 in
theorem x_E_spread_1_eq (n : Nat) (x0 : Nat) (x1 : Int) (x3 : Nat) (x4 : Int) (x6 : Int) (μ : bz_M) : x_E_spread_1 (n + 1) x0 x1 x3 x4 x6 μ =
    bz_fR μ x0 9 3 fun v1 =>
    bz_rR μ v1 x1 fun v2 =>
    bz_fR μ v2 6 0 fun v3 =>
    bz_fI μ x3 4 5 fun v4 =>
    bz_fI μ x3 4 6 fun v5 =>
    bz_cj (d_Row_sum n v3 v4 v5 1 μ) fun v7 μ6 =>
    x_E_spread_2 n x0 x3 x4 x6 v3 v7 μ6 := rfl
set_option maxRecDepth 100000 in
theorem x_E_spread_2_eq (n : Nat) (x0 : Nat) (x3 : Nat) (x4 : Int) (x6 : Int) (x8 : Nat) (x9 : Int) (μ : bz_M) : x_E_spread_2 (n + 1) x0 x3 x4 x6 x8 x9 μ =
    bz_fI μ x3 4 5 fun v1 =>
    bz_fI μ x3 4 6 fun v2 =>
    bz_cj (d_Row_sum n x8 v1 v2 2 μ) fun v4 μ3 =>
    x_E_spread_3 n x0 x4 x6 x9 v4 μ3 := rfl
set_option maxRecDepth 100000 in
theorem x_E_spread_3_eq (n : Nat) (x0 : Nat) (x4 : Int) (x6 : Int) (x9 : Int) (x11 : Int) (μ : bz_M) : x_E_spread_3 (n + 1) x0 x4 x6 x9 x11 μ =
    bz_fR μ x0 9 10 fun v1 =>
    bz_fI μ v1 5 1 fun v2 =>
    x_E_spread_4 n x4 x6 x9 x11 (wl ((wr (Int.tdiv (wr (v2 + 1)) 2)) * x4)) μ := rfl
set_option maxRecDepth 100000 in
theorem x_E_spread_4_eq (n : Nat) (x4 : Int) (x6 : Int) (x9 : Int) (x11 : Int) (x13 : Int) (μ : bz_M) : x_E_spread_4 (n + 1) x4 x6 x9 x11 x13 μ =
    if (0 : Int) < bz_cmp x13 0 then
      bz_cj (x_Mth_floorDiv n (wl (100 * (wl ((wl (x11 * x4)) - (wl (x9 * x6)))))) x13 μ) fun v2 μ1 =>
      rI (wr v2) μ1
    else
    rI 0 μ := rfl
set_option maxRecDepth 100000 in
theorem x_Mth_floorDiv_eq (n : Nat) (a0 : Int) (a1 : Int) (μ : bz_M) : x_Mth_floorDiv (n + 1) a0 a1 μ =
    bz_ld a0 a1 fun v1 =>
    if bz_cmp (bz_lxor a0 a1) 0 < 0 then
      if bz_cmp (wl (v1 * a1)) a0 = 0 then rL v1 μ else
      rL (wl (v1 - 1)) μ
    else
    rL v1 μ := rfl
set_option maxRecDepth 100000 in
theorem x_L_mergedLength_eq (n : Nat) (a0 : Nat) (a1 : Int) (a2 : Int) (a3 : Int) (a4 : Nat) (μ : bz_M) : x_L_mergedLength (n + 1) a0 a1 a2 a3 a4 μ =
    bz_hi (d_E_mergedLength n a0 a1 a2 a3 μ) (fun v2 μ1 =>
      bz_wL μ1 a4 0 v2 fun μ3 =>
      rI 0 μ3
      ) fun c4 μ5 => if c4 = 2 then rI 1 μ5 else none := rfl
set_option maxRecDepth 100000 in
theorem x_E_mergedLength_eq (n : Nat) (a0 : Nat) (a1 : Int) (a2 : Int) (a3 : Int) (μ : bz_M) : x_E_mergedLength (n + 1) a0 a1 a2 a3 μ =
    bz_cr (d_E_reading n a0 a1 a3 μ) fun v2 μ1 =>
    bz_fR μ1 v2 4 1 fun v3 =>
    bz_cr (d_E_reading n a0 a2 a3 μ1) fun v5 μ4 =>
    bz_fR μ4 v5 4 2 fun v6 =>
    bz_fR μ4 a0 9 5 fun v7 =>
    bz_rR μ4 v7 a3 fun v8 =>
    bz_cn (d_Sym_seam n v8 v3 v6 μ4) fun v10 μ9 =>
    if v10 = (-1) then rI 0 μ9 else
    bz_fI μ9 v3 7 2 fun v11 =>
    bz_fI μ9 v6 7 2 fun v12 =>
    rI (wr ((wr (v11 + v12)) - v10)) μ9 := rfl
set_option maxRecDepth 100000 in
theorem x_L_mergedCharacter_eq (n : Nat) (a0 : Nat) (a1 : Int) (a2 : Int) (a3 : Int) (a4 : Int) (a5 : Nat) (μ : bz_M) : x_L_mergedCharacter (n + 1) a0 a1 a2 a3 a4 a5 μ =
    bz_hi (d_E_mergedCharacter n a0 a1 a2 a3 a4 μ) (fun v2 μ1 =>
      bz_wL μ1 a5 0 v2 fun μ3 =>
      rI 0 μ3
      ) fun c4 μ5 => if c4 = 2 then rI 1 μ5 else none := rfl
set_option maxRecDepth 100000 in
theorem x_E_mergedCharacter_eq (n : Nat) (a0 : Nat) (a1 : Int) (a2 : Int) (a3 : Int) (a4 : Int) (μ : bz_M) : x_E_mergedCharacter (n + 1) a0 a1 a2 a3 a4 μ =
    bz_cr (d_E_reading n a0 a1 a3 μ) fun v2 μ1 =>
    bz_fR μ1 v2 4 1 fun v3 =>
    bz_cr (d_E_reading n a0 a2 a3 μ1) fun v5 μ4 =>
    bz_fR μ4 v5 4 2 fun v6 =>
    bz_fR μ4 a0 9 5 fun v7 =>
    bz_rR μ4 v7 a3 fun v8 =>
    bz_cn (d_Sym_seam n v8 v3 v6 μ4) fun v10 μ9 =>
    if v10 = (-1) then
      bz_cv (x_E_requirePlace n a4 0 μ9) fun μ11 =>
      bz_fI μ11 v3 7 2 fun v12 =>
      if a4 < v12 then
        bz_fR μ11 v3 7 0 fun v13 =>
        bz_rI μ11 v13 a4 fun v14 =>
        bz_ci (x_E_characterOf n v14 μ11) fun v16 μ15 =>
        rI v16 μ15
      else
      bz_fR μ11 v6 7 0 fun v17 =>
      bz_fI μ11 v3 7 2 fun v18 =>
      bz_rI μ11 v17 (wr ((wr (a4 - v18)) + v10)) fun v19 =>
      bz_ci (x_E_characterOf n v19 μ11) fun v21 μ20 =>
      rI v21 μ20
    else
    bz_fI μ9 v3 7 2 fun v22 =>
    bz_fI μ9 v6 7 2 fun v23 =>
    bz_cv (x_E_requirePlace n a4 (wr ((wr (v22 + v23)) - v10)) μ9) fun μ24 =>
    bz_fI μ24 v3 7 2 fun v25 =>
    if a4 < v25 then
      bz_fR μ24 v3 7 0 fun v26 =>
      bz_rI μ24 v26 a4 fun v27 =>
      bz_ci (x_E_characterOf n v27 μ24) fun v29 μ28 =>
      rI v29 μ28
    else
    bz_fR μ24 v6 7 0 fun v30 =>
    bz_fI μ24 v3 7 2 fun v31 =>
    bz_rI μ24 v30 (wr ((wr (a4 - v31)) + v10)) fun v32 =>
    bz_ci (x_E_characterOf n v32 μ24) fun v34 μ33 =>
    rI v34 μ33 := rfl
set_option maxRecDepth 100000 in
theorem x_L_bestScan_eq (n : Nat) (a0 : Nat) (a1 : Int) (a2 : Nat) (μ : bz_M) : x_L_bestScan (n + 1) a0 a1 a2 μ =
    bz_hi (d_E_bestScan n a0 a1 μ) (fun v2 μ1 =>
      bz_wL μ1 a2 0 v2 fun μ3 =>
      rI 0 μ3
      ) fun c4 μ5 => if c4 = 2 then rI 1 μ5 else if c4 = 4 then rI 2 μ5 else none := rfl
set_option maxRecDepth 100000 in
theorem x_E_bestScan_eq (n : Nat) (a0 : Nat) (a1 : Int) (μ : bz_M) : x_E_bestScan (n + 1) a0 a1 μ =
    bz_cv (x_E_requireSymbology n a1 μ) fun μ1 =>
    x_E_bestScan_0 n a0 a1 (-1) (-1) 0 μ1 := rfl
set_option maxRecDepth 100000 in
theorem x_E_bestScan_0_eq (n : Nat) (x0 : Nat) (x1 : Int) (x2 : Int) (x3 : Int) (x4 : Int) (μ : bz_M) : x_E_bestScan_0 (n + 1) x0 x1 x2 x3 x4 μ =
    bz_fI μ x0 9 4 fun v1 =>
    if x4 < v1 then
      bz_cr (d_E_reading n x0 x4 x1 μ) fun v3 μ2 =>
      bz_fR μ2 v3 4 0 fun v4 =>
      bz_fI μ2 v4 7 2 fun v5 =>
      if (0 : Int) < v5 then
        bz_ci (d_Seq_leastConfidence n v4 μ2) fun v7 μ6 =>
        if x3 < v7 then
          bz_ci (d_Seq_leastConfidence n v4 μ6) fun v9 μ8 =>
          x_E_bestScan_0 n x0 x1 x4 v9 (wr (x4 + 1)) μ8
        else
        x_E_bestScan_0 n x0 x1 x2 x3 (wr (x4 + 1)) μ6
      else
      x_E_bestScan_0 n x0 x1 x2 x3 (wr (x4 + 1)) μ2
    else
    if x2 = (-1) then rX 4 (sX μ) else
    rI x2 μ := rfl
set_option maxRecDepth 100000 in
theorem x_L_length_eq (n : Nat) (a0 : Nat) (a1 : Int) (a2 : Nat) (μ : bz_M) : x_L_length (n + 1) a0 a1 a2 μ =
    bz_hi (d_E_length n a0 a1 μ) (fun v2 μ1 =>
      bz_wL μ1 a2 0 v2 fun μ3 =>
      rI 0 μ3
      ) fun c4 μ5 => if c4 = 2 then rI 1 μ5 else none := rfl
set_option maxRecDepth 100000 in
theorem x_E_length_eq (n : Nat) (a0 : Nat) (a1 : Int) (μ : bz_M) : x_E_length (n + 1) a0 a1 μ =
    bz_cr (d_E_tally n a0 a1 μ) fun v2 μ1 =>
    bz_fI μ1 v2 8 4 fun v3 =>
    rI v3 μ1 := rfl
set_option maxRecDepth 100000 in
theorem x_L_weight_eq (n : Nat) (a0 : Nat) (a1 : Int) (a2 : Int) (a3 : Int) (a4 : Nat) (μ : bz_M) : x_L_weight (n + 1) a0 a1 a2 a3 a4 μ =
    bz_hi (d_E_weight n a0 a1 a2 a3 μ) (fun v2 μ1 =>
      bz_wL μ1 a4 0 v2 fun μ3 =>
      rI 0 μ3
      ) fun c4 μ5 => if c4 = 2 then rI 1 μ5 else none := rfl
set_option maxRecDepth 100000 in
theorem x_E_weight_eq (n : Nat) (a0 : Nat) (a1 : Int) (a2 : Int) (a3 : Int) (μ : bz_M) : x_E_weight (n + 1) a0 a1 a2 a3 μ =
    bz_cr (d_E_tally n a0 a1 μ) fun v2 μ1 =>
    bz_fI μ1 v2 8 4 fun v3 =>
    bz_cv (x_E_requirePlace n a2 v3 μ1) fun μ4 =>
    if a3 = (-1) then
      bz_fR μ4 v2 8 2 fun v5 =>
      bz_rI μ4 v5 a2 fun v6 =>
      rI v6 μ4
    else
    bz_ci (x_E_valueOf n a3 μ4) fun v8 μ7 =>
    if v8 = (-1) then rI 0 μ7 else
    bz_ci (d_Tal_weightOf n v2 a2 v8 μ7) fun v10 μ9 =>
    rI v10 μ9 := rfl
set_option maxRecDepth 100000 in
theorem x_L_voted_eq (n : Nat) (a0 : Nat) (a1 : Int) (a2 : Int) (a3 : Nat) (μ : bz_M) : x_L_voted (n + 1) a0 a1 a2 a3 μ =
    bz_hi (d_E_voted n a0 a1 a2 μ) (fun v2 μ1 =>
      bz_wL μ1 a3 0 v2 fun μ3 =>
      rI 0 μ3
      ) fun c4 μ5 => if c4 = 2 then rI 1 μ5 else none := rfl
set_option maxRecDepth 100000 in
theorem x_E_voted_eq (n : Nat) (a0 : Nat) (a1 : Int) (a2 : Int) (μ : bz_M) : x_E_voted (n + 1) a0 a1 a2 μ =
    bz_cr (d_E_tally n a0 a1 μ) fun v2 μ1 =>
    bz_fI μ1 v2 8 4 fun v3 =>
    bz_cv (x_E_requirePlace n a2 v3 μ1) fun μ4 =>
    bz_fR μ4 v2 8 3 fun v5 =>
    bz_rI μ4 v5 a2 fun v6 =>
    bz_ci (x_E_characterOf n v6 μ4) fun v8 μ7 =>
    rI v8 μ7 := rfl
set_option maxRecDepth 100000 in
theorem x_L_runnerUp_eq (n : Nat) (a0 : Nat) (a1 : Int) (a2 : Int) (a3 : Nat) (μ : bz_M) : x_L_runnerUp (n + 1) a0 a1 a2 a3 μ =
    bz_hi (d_E_runnerUp n a0 a1 a2 μ) (fun v2 μ1 =>
      bz_wL μ1 a3 0 v2 fun μ3 =>
      rI 0 μ3
      ) fun c4 μ5 => if c4 = 2 then rI 1 μ5 else none := rfl
set_option maxRecDepth 100000 in
theorem x_E_runnerUp_eq (n : Nat) (a0 : Nat) (a1 : Int) (a2 : Int) (μ : bz_M) : x_E_runnerUp (n + 1) a0 a1 a2 μ =
    bz_cr (d_E_tally n a0 a1 μ) fun v2 μ1 =>
    bz_fI μ1 v2 8 4 fun v3 =>
    bz_cv (x_E_requirePlace n a2 v3 μ1) fun μ4 =>
    bz_ci (x_E_strongest n v2 a2 (-1) μ4) fun v6 μ5 =>
    if v6 = (-1) then rI (-1) μ5 else
    bz_ci (x_E_strongest n v2 a2 v6 μ5) fun v8 μ7 =>
    bz_ci (x_E_characterOf n v8 μ7) fun v10 μ9 =>
    rI v10 μ9 := rfl
set_option maxRecDepth 100000 in
theorem x_E_strongest_eq (n : Nat) (a0 : Nat) (a1 : Int) (a2 : Int) (μ : bz_M) : x_E_strongest (n + 1) a0 a1 a2 μ =
    x_E_strongest_0 n a0 a1 a2 (-1) 0 0 μ := rfl
set_option maxRecDepth 100000 in
theorem x_E_strongest_0_eq (n : Nat) (x0 : Nat) (x1 : Int) (x2 : Int) (x3 : Int) (x4 : Int) (x5 : Int) (μ : bz_M) : x_E_strongest_0 (n + 1) x0 x1 x2 x3 x4 x5 μ =
    if x5 < 20 then
      bz_ci (d_Tal_weightOf n x0 x1 x5 μ) fun v2 μ1 =>
      if v2 = x4 then
        if x3 = (-1) then
          if x5 = x2 then x_E_strongest_0 n x0 x1 x2 x3 x4 (wr (x5 + 1)) μ1 else
          if x4 < v2 then x_E_strongest_0 n x0 x1 x2 x5 v2 (wr (x5 + 1)) μ1 else
          x_E_strongest_0 n x0 x1 x2 x3 x4 (wr (x5 + 1)) μ1
        else
        bz_ci (x_E_characterOf n x5 μ1) fun v4 μ3 =>
        bz_ci (x_E_characterOf n x3 μ3) fun v6 μ5 =>
        if v4 < v6 then
          if x5 = x2 then x_E_strongest_0 n x0 x1 x2 x3 x4 (wr (x5 + 1)) μ5 else
          if x4 < v2 then x_E_strongest_0 n x0 x1 x2 x5 v2 (wr (x5 + 1)) μ5 else
          x_E_strongest_0 n x0 x1 x2 x5 v2 (wr (x5 + 1)) μ5
        else
        if x5 = x2 then x_E_strongest_0 n x0 x1 x2 x3 x4 (wr (x5 + 1)) μ5 else
        if x4 < v2 then x_E_strongest_0 n x0 x1 x2 x5 v2 (wr (x5 + 1)) μ5 else
        x_E_strongest_0 n x0 x1 x2 x3 x4 (wr (x5 + 1)) μ5
      else
      if x5 = x2 then x_E_strongest_0 n x0 x1 x2 x3 x4 (wr (x5 + 1)) μ1 else
      if x4 < v2 then x_E_strongest_0 n x0 x1 x2 x5 v2 (wr (x5 + 1)) μ1 else
      x_E_strongest_0 n x0 x1 x2 x3 x4 (wr (x5 + 1)) μ1
    else
    rI x3 μ := rfl
set_option maxRecDepth 100000 in
theorem x_L_problem_eq (n : Nat) (a0 : Nat) (a1 : Int) (a2 : Nat) (μ : bz_M) : x_L_problem (n + 1) a0 a1 a2 μ =
    bz_hi (d_E_problem n a0 a1 μ) (fun v2 μ1 =>
      bz_wL μ1 a2 0 v2 fun μ3 =>
      rI 0 μ3
      ) fun c4 μ5 => if c4 = 2 then rI 1 μ5 else none := rfl
set_option maxRecDepth 100000 in
theorem x_E_problem_eq (n : Nat) (a0 : Nat) (a1 : Int) (μ : bz_M) : x_E_problem (n + 1) a0 a1 μ =
    bz_cr (d_E_tally n a0 a1 μ) fun v2 μ1 =>
    bz_ci (d_E_problemOf n a0 v2 a1 μ1) fun v4 μ3 =>
    rI v4 μ3 := rfl
set_option maxRecDepth 100000 in
theorem x_L_doubtful_eq (n : Nat) (a0 : Nat) (a1 : Int) (a2 : Nat) (μ : bz_M) : x_L_doubtful (n + 1) a0 a1 a2 μ =
    bz_hi (d_E_doubtful n a0 a1 μ) (fun v2 μ1 =>
      bz_wL μ1 a2 0 v2 fun μ3 =>
      rI 0 μ3
      ) fun c4 μ5 => if c4 = 2 then rI 1 μ5 else none := rfl
set_option maxRecDepth 100000 in
theorem x_E_doubtful_eq (n : Nat) (a0 : Nat) (a1 : Int) (μ : bz_M) : x_E_doubtful (n + 1) a0 a1 μ =
    bz_cr (d_E_tally n a0 a1 μ) fun v2 μ1 =>
    bz_ci (d_Tal_firstDoubt n v2 μ1) fun v4 μ3 =>
    rI v4 μ3 := rfl
set_option maxRecDepth 100000 in
theorem x_Tal_firstDoubt_eq (n : Nat) (a0 : Nat) (μ : bz_M) : x_Tal_firstDoubt (n + 1) a0 μ =
    x_Tal_firstDoubt_0 n a0 0 μ := rfl
set_option maxRecDepth 100000 in
theorem x_Tal_firstDoubt_0_eq (n : Nat) (x0 : Nat) (x1 : Int) (μ : bz_M) : x_Tal_firstDoubt_0 (n + 1) x0 x1 μ =
    bz_fI μ x0 8 4 fun v1 =>
    if x1 < v1 then
      bz_fR μ x0 8 3 fun v2 =>
      bz_rI μ v2 x1 fun v3 =>
      if v3 = (-1) then rI x1 μ else
      x_Tal_firstDoubt_0 n x0 (wr (x1 + 1)) μ
    else
    rI (-1) μ := rfl
set_option maxRecDepth 100000 in
theorem x_L_repaired_eq (n : Nat) (a0 : Nat) (a1 : Int) (a2 : Nat) (μ : bz_M) : x_L_repaired (n + 1) a0 a1 a2 μ =
    bz_hi (d_E_repaired n a0 a1 μ) (fun v2 μ1 =>
      bz_wL μ1 a2 0 v2 fun μ3 =>
      rI 0 μ3
      ) fun c4 μ5 => if c4 = 2 then rI 1 μ5 else if c4 = 1 then rI 2 μ5 else if c4 = 4 then rI 3 μ5 else none := rfl
set_option maxRecDepth 100000 in
theorem x_E_repaired_eq (n : Nat) (a0 : Nat) (a1 : Int) (μ : bz_M) : x_E_repaired (n + 1) a0 a1 μ =
    bz_cr (d_E_tally n a0 a1 μ) fun v2 μ1 =>
    bz_ci (d_Tal_doubts n v2 μ1) fun v4 μ3 =>
    if v4 = 1 then
      bz_fR μ3 a0 9 11 fun v5 =>
      bz_fR μ3 v2 8 3 fun v6 =>
      bz_fI μ3 v2 8 4 fun v7 =>
      bz_cv (d_Seq_copyValues n v5 v6 v7 μ3) fun μ8 =>
      bz_fR μ8 a0 9 5 fun v9 =>
      bz_rR μ8 v9 a1 fun v10 =>
      bz_ci (d_Tal_firstDoubt n v2 μ8) fun v12 μ11 =>
      bz_ci (d_E_rightValue n a0 v10 v12 μ11) fun v14 μ13 =>
      if v14 = (-1) then rX 4 (sX μ13) else
      bz_ci (x_E_characterOf n v14 μ13) fun v16 μ15 =>
      rI v16 μ15
    else
    rX 1 (sX μ3) := rfl
set_option maxRecDepth 100000 in
theorem x_L_worstScan_eq (n : Nat) (a0 : Nat) (a1 : Int) (a2 : Nat) (μ : bz_M) : x_L_worstScan (n + 1) a0 a1 a2 μ =
    bz_hi (d_E_worstScan n a0 a1 μ) (fun v2 μ1 =>
      bz_wL μ1 a2 0 v2 fun μ3 =>
      rI 0 μ3
      ) fun c4 μ5 => if c4 = 2 then rI 1 μ5 else if c4 = 4 then rI 2 μ5 else none := rfl
set_option maxRecDepth 100000 in
theorem x_E_worstScan_eq (n : Nat) (a0 : Nat) (a1 : Int) (μ : bz_M) : x_E_worstScan (n + 1) a0 a1 μ =
    bz_cr (d_E_tally n a0 a1 μ) fun v2 μ1 =>
    x_E_worstScan_0 n a0 a1 v2 (-1) (-1) 0 μ1 := rfl
set_option maxRecDepth 100000 in
theorem x_E_worstScan_0_eq (n : Nat) (x0 : Nat) (x1 : Int) (x2 : Nat) (x3 : Int) (x4 : Int) (x5 : Int) (μ : bz_M) : x_E_worstScan_0 (n + 1) x0 x1 x2 x3 x4 x5 μ =
    bz_fI μ x0 9 4 fun v1 =>
    if x5 < v1 then
      bz_cr (d_E_reading n x0 x5 x1 μ) fun v3 μ2 =>
      bz_fR μ2 v3 4 0 fun v4 =>
      bz_fI μ2 v4 7 2 fun v5 =>
      if (0 : Int) < v5 then
        bz_fI μ2 v4 7 2 fun v6 =>
        bz_fI μ2 x2 8 4 fun v7 =>
        if v6 = v7 then
          bz_ci (d_Tal_disagreements n x2 v4 μ2) fun v9 μ8 =>
          if x4 < v9 then
            bz_ci (d_Tal_disagreements n x2 v4 μ8) fun v11 μ10 =>
            x_E_worstScan_0 n x0 x1 x2 x5 v11 (wr (x5 + 1)) μ10
          else
          x_E_worstScan_0 n x0 x1 x2 x3 x4 (wr (x5 + 1)) μ8
        else
        x_E_worstScan_0 n x0 x1 x2 x3 x4 (wr (x5 + 1)) μ2
      else
      x_E_worstScan_0 n x0 x1 x2 x3 x4 (wr (x5 + 1)) μ2
    else
    if x3 = (-1) then rX 4 (sX μ) else
    rI x3 μ := rfl
set_option maxRecDepth 100000 in
theorem x_Tal_disagreements_eq (n : Nat) (a0 : Nat) (a1 : Nat) (μ : bz_M) : x_Tal_disagreements (n + 1) a0 a1 μ =
    x_Tal_disagreements_0 n a0 a1 0 0 μ := rfl
set_option maxRecDepth 100000 in
theorem x_Tal_disagreements_0_eq (n : Nat) (x0 : Nat) (x1 : Nat) (x2 : Int) (x3 : Int) (μ : bz_M) : x_Tal_disagreements_0 (n + 1) x0 x1 x2 x3 μ =
    bz_fI μ x1 7 2 fun v1 =>
    if x3 < v1 then
      bz_fR μ x1 7 0 fun v2 =>
      bz_rI μ v2 x3 fun v3 =>
      bz_fR μ x0 8 3 fun v4 =>
      bz_rI μ v4 x3 fun v5 =>
      if v3 = v5 then x_Tal_disagreements_0 n x0 x1 x2 (wr (x3 + 1)) μ else
      x_Tal_disagreements_0 n x0 x1 (wr (x2 + 1)) (wr (x3 + 1)) μ
    else
    rI x2 μ := rfl
set_option maxRecDepth 100000 in
theorem x_L_setCheck_eq (n : Nat) (a0 : Nat) (a1 : Int) (a2 : Int) (a3 : Nat) (μ : bz_M) : x_L_setCheck (n + 1) a0 a1 a2 a3 μ =
    bz_hi (d_E_setCheck n a0 a1 a2 μ) (fun v2 μ1 =>
      if v2 = 0 then
        bz_wL μ1 a3 0 0 fun μ3 =>
        rI 0 μ3
      else
      bz_wL μ1 a3 0 1 fun μ4 =>
      rI 0 μ4
      ) fun c5 μ6 => if c5 = 2 then rI 1 μ6 else none := rfl
set_option maxRecDepth 100000 in
theorem x_E_setCheck_eq (n : Nat) (a0 : Nat) (a1 : Int) (a2 : Int) (μ : bz_M) : x_E_setCheck (n + 1) a0 a1 a2 μ =
    bz_cv (x_E_requireSymbology n a1 μ) fun μ1 =>
    bz_fR μ1 a0 9 7 fun v2 =>
    bz_rB μ1 v2 a1 fun v3 =>
    bz_fR μ1 a0 9 7 fun v4 =>
    bz_wB μ1 v4 a1 a2 fun μ5 =>
    bz_zB v3 μ5 := rfl
set_option maxRecDepth 100000 in
theorem x_M_new_eq (n : Nat) (a0 : Nat) (μ : bz_M) : x_M_new (n + 1) a0 μ =
    bz_oi μ a0 fun v1 =>
    bz_na μ 20 3096 fun v2 μ3 =>
    bz_pR μ3 a0 10 0 v2 fun μ4 =>
    bz_na μ4 20 24 fun v5 μ6 =>
    bz_pR μ6 a0 10 1 v5 fun μ7 =>
    bz_na μ7 20 129 fun v8 μ9 =>
    bz_pR μ9 a0 10 2 v8 fun μ10 =>
    bz_na μ10 20 60 fun v11 μ12 =>
    bz_pR μ12 a0 10 3 v11 fun μ13 =>
    bz_na μ13 22 3 fun v14 μ15 =>
    bz_wB μ15 v14 0 1 fun μ16 =>
    bz_wB μ16 v14 1 0 fun μ17 =>
    bz_wB μ17 v14 2 0 fun μ18 =>
    bz_pR μ18 a0 10 4 v14 fun μ19 =>
    bz_na μ19 20 10 fun v20 μ21 =>
    bz_wI μ21 v20 0 3211 fun μ22 =>
    bz_wI μ22 v20 1 2221 fun μ23 =>
    bz_wI μ23 v20 2 2122 fun μ24 =>
    bz_wI μ24 v20 3 1411 fun μ25 =>
    bz_wI μ25 v20 4 1132 fun μ26 =>
    bz_wI μ26 v20 5 1231 fun μ27 =>
    bz_wI μ27 v20 6 1114 fun μ28 =>
    bz_wI μ28 v20 7 1312 fun μ29 =>
    bz_wI μ29 v20 8 1213 fun μ30 =>
    bz_wI μ30 v20 9 3112 fun μ31 =>
    bz_pR μ31 a0 10 5 v20 fun μ32 =>
    bz_na μ32 20 10 fun v33 μ34 =>
    bz_wI μ34 v33 0 6 fun μ35 =>
    bz_wI μ35 v33 1 17 fun μ36 =>
    bz_wI μ36 v33 2 9 fun μ37 =>
    bz_wI μ37 v33 3 24 fun μ38 =>
    bz_wI μ38 v33 4 5 fun μ39 =>
    bz_wI μ39 v33 5 20 fun μ40 =>
    bz_wI μ40 v33 6 12 fun μ41 =>
    bz_wI μ41 v33 7 3 fun μ42 =>
    bz_wI μ42 v33 8 18 fun μ43 =>
    bz_wI μ43 v33 9 10 fun μ44 =>
    bz_pR μ44 a0 10 6 v33 fun μ45 =>
    bz_na μ45 20 20 fun v46 μ47 =>
    bz_wI μ47 v46 0 3 fun μ48 =>
    bz_wI μ48 v46 1 6 fun μ49 =>
    bz_wI μ49 v46 2 9 fun μ50 =>
    bz_wI μ50 v46 3 96 fun μ51 =>
    bz_wI μ51 v46 4 18 fun μ52 =>
    bz_wI μ52 v46 5 66 fun μ53 =>
    bz_wI μ53 v46 6 33 fun μ54 =>
    bz_wI μ54 v46 7 36 fun μ55 =>
    bz_wI μ55 v46 8 48 fun μ56 =>
    bz_wI μ56 v46 9 72 fun μ57 =>
    bz_wI μ57 v46 10 12 fun μ58 =>
    bz_wI μ58 v46 11 24 fun μ59 =>
    bz_wI μ59 v46 12 69 fun μ60 =>
    bz_wI μ60 v46 13 81 fun μ61 =>
    bz_wI μ61 v46 14 84 fun μ62 =>
    bz_wI μ62 v46 15 21 fun μ63 =>
    bz_wI μ63 v46 16 26 fun μ64 =>
    bz_wI μ64 v46 17 41 fun μ65 =>
    bz_wI μ65 v46 18 11 fun μ66 =>
    bz_wI μ66 v46 19 14 fun μ67 =>
    bz_pR μ67 a0 10 7 v46 fun μ68 =>
    bz_na μ68 20 60 fun v69 μ70 =>
    bz_pR μ70 a0 10 12 v69 fun μ71 =>
    bz_na μ71 20 127 fun v72 μ73 =>
    bz_pR μ73 a0 10 13 v72 fun μ74 =>
    bz_na μ74 20 129 fun v75 μ76 =>
    bz_pR μ76 a0 10 15 v75 fun μ77 =>
    bz_na μ77 20 16 fun v78 μ79 =>
    bz_pR μ79 a0 10 17 v78 fun μ80 =>
    bz_na μ80 20 16 fun v81 μ82 =>
    bz_pR μ82 a0 10 18 v81 fun μ83 =>
    bz_na μ83 20 72 fun v84 μ85 =>
    bz_pR μ85 a0 10 22 v84 fun μ86 =>
    bz_na μ86 20 1152 fun v87 μ88 =>
    bz_pR μ88 a0 10 23 v87 fun μ89 =>
    bz_na μ89 20 1152 fun v90 μ91 =>
    bz_pR μ91 a0 10 24 v90 fun μ92 =>
    bz_na μ92 22 24 fun v93 μ94 =>
    bz_pR μ94 a0 10 25 v93 fun μ95 =>
    bz_na μ95 20 24 fun v96 μ97 =>
    bz_pR μ97 a0 10 26 v96 fun μ98 =>
    bz_na μ98 20 17 fun v99 μ100 =>
    bz_pR μ100 a0 10 31 v99 fun μ101 =>
    bz_na μ101 20 2048 fun v102 μ103 =>
    bz_pR μ103 a0 10 32 v102 fun μ104 =>
    rI 0 μ104 := rfl
set_option maxRecDepth 100000 in
theorem x_M_thrown_eq (n : Nat) (a0 : Nat) (μ : bz_M) : x_M_thrown (n + 1) a0 μ =
    bz_fI μ a0 10 11 fun v1 =>
    rI v1 μ := rfl
set_option maxRecDepth 100000 in
theorem x_M_append_eq (n : Nat) (a0 : Nat) (a1 : Int) (a2 : Int) (a3 : Int) (a4 : Int) (a5 : Int) (μ : bz_M) : x_M_append (n + 1) a0 a1 a2 a3 a4 a5 μ =
    bz_fI μ a0 10 10 fun v1 =>
    if (60 : Int) < wr (v1 + 20) then
      bz_pI μ a0 10 11 1 fun μ2 =>
      bz_fI μ2 a0 10 11 fun v3 =>
      if (0 : Int) < v3 then rI 0 μ2 else
      x_M_append_0 n a0 a1 a2 a3 a4 a5 0 μ2
    else
    bz_pI μ a0 10 11 0 fun μ4 =>
    bz_fI μ4 a0 10 11 fun v5 =>
    if (0 : Int) < v5 then rI 0 μ4 else
    x_M_append_0 n a0 a1 a2 a3 a4 a5 0 μ4 := rfl
set_option maxRecDepth 100000 in
theorem x_M_append_0_eq (n : Nat) (x0 : Nat) (x1 : Int) (x2 : Int) (x3 : Int) (x4 : Int) (x5 : Int) (x6 : Int) (μ : bz_M) : x_M_append_0 (n + 1) x0 x1 x2 x3 x4 x5 x6 μ =
    if x6 < 20 then
      if x6 < 4 then
        bz_fR μ x0 10 3 fun v1 =>
        bz_fI μ x0 10 10 fun v2 =>
        bz_wI μ v1 v2 (bz_and (bz_shr x1 (wr (24 - (wr (8 * (Int.tmod x6 4)))))) 255) fun μ3 =>
        bz_fI μ3 x0 10 10 fun v4 =>
        bz_pI μ3 x0 10 10 (wr (v4 + 1)) fun μ5 =>
        x_M_append_0 n x0 x1 x2 x3 x4 x5 (wr (x6 + 1)) μ5
      else
      if x6 < 8 then
        bz_fR μ x0 10 3 fun v6 =>
        bz_fI μ x0 10 10 fun v7 =>
        bz_wI μ v6 v7 (bz_and (bz_shr x2 (wr (24 - (wr (8 * (Int.tmod x6 4)))))) 255) fun μ8 =>
        bz_fI μ8 x0 10 10 fun v9 =>
        bz_pI μ8 x0 10 10 (wr (v9 + 1)) fun μ10 =>
        x_M_append_0 n x0 x1 x2 x3 x4 x5 (wr (x6 + 1)) μ10
      else
      if x6 < 12 then
        bz_fR μ x0 10 3 fun v11 =>
        bz_fI μ x0 10 10 fun v12 =>
        bz_wI μ v11 v12 (bz_and (bz_shr x3 (wr (24 - (wr (8 * (Int.tmod x6 4)))))) 255) fun μ13 =>
        bz_fI μ13 x0 10 10 fun v14 =>
        bz_pI μ13 x0 10 10 (wr (v14 + 1)) fun μ15 =>
        x_M_append_0 n x0 x1 x2 x3 x4 x5 (wr (x6 + 1)) μ15
      else
      if x6 < 16 then
        bz_fR μ x0 10 3 fun v16 =>
        bz_fI μ x0 10 10 fun v17 =>
        bz_wI μ v16 v17 (bz_and (bz_shr x4 (wr (24 - (wr (8 * (Int.tmod x6 4)))))) 255) fun μ18 =>
        bz_fI μ18 x0 10 10 fun v19 =>
        bz_pI μ18 x0 10 10 (wr (v19 + 1)) fun μ20 =>
        x_M_append_0 n x0 x1 x2 x3 x4 x5 (wr (x6 + 1)) μ20
      else
      bz_fR μ x0 10 3 fun v21 =>
      bz_fI μ x0 10 10 fun v22 =>
      bz_wI μ v21 v22 (bz_and (bz_shr x5 (wr (24 - (wr (8 * (Int.tmod x6 4)))))) 255) fun μ23 =>
      bz_fI μ23 x0 10 10 fun v24 =>
      bz_pI μ23 x0 10 10 (wr (v24 + 1)) fun μ25 =>
      x_M_append_0 n x0 x1 x2 x3 x4 x5 (wr (x6 + 1)) μ25
    else
    bz_fI μ x0 10 10 fun v26 =>
    rI v26 μ := rfl
set_option maxRecDepth 100000 in
theorem x_M_print_eq (n : Nat) (a0 : Nat) (a1 : Int) (a2 : Int) (a3 : Int) (a4 : Int) (a5 : Int) (μ : bz_M) : x_M_print (n + 1) a0 a1 a2 a3 a4 a5 μ =
    bz_ci (x_M_isSymbology n a1 μ) fun v2 μ1 =>
    if v2 = 0 then
      bz_pI μ1 a0 10 11 1 fun μ3 =>
      bz_fI μ3 a0 10 11 fun v4 =>
      if (0 : Int) < v4 then rI 0 μ3 else
      x_M_print_0 n a0 a1 a2 a3 a4 a5 0 μ3
    else
    bz_ci (d_M_canPrint n a0 a1 a2 a3 a4 μ1) fun v6 μ5 =>
    if v6 = 0 then
      bz_pI μ5 a0 10 11 2 fun μ7 =>
      bz_fI μ7 a0 10 11 fun v8 =>
      if (0 : Int) < v8 then rI 0 μ7 else
      x_M_print_0 n a0 a1 a2 a3 a4 a5 0 μ7
    else
    bz_fI μ5 a0 10 8 fun v9 =>
    if v9 = 24 then
      bz_pI μ5 a0 10 11 3 fun μ10 =>
      bz_fI μ10 a0 10 11 fun v11 =>
      if (0 : Int) < v11 then rI 0 μ10 else
      x_M_print_0 n a0 a1 a2 a3 a4 a5 0 μ10
    else
    bz_pI μ5 a0 10 11 0 fun μ12 =>
    bz_fI μ12 a0 10 11 fun v13 =>
    if (0 : Int) < v13 then rI 0 μ12 else
    x_M_print_0 n a0 a1 a2 a3 a4 a5 0 μ12 := rfl
set_option maxRecDepth 100000 in
theorem x_M_print_0_eq (n : Nat) (x0 : Nat) (x1 : Int) (x2 : Int) (x3 : Int) (x4 : Int) (x5 : Int) (x6 : Int) (μ : bz_M) : x_M_print_0 (n + 1) x0 x1 x2 x3 x4 x5 x6 μ =
    if x6 < x2 then
      bz_fR μ x0 10 12 fun v1 =>
      bz_fR μ x0 10 3 fun v2 =>
      bz_rI μ v2 x6 fun v3 =>
      bz_wI μ v1 x6 v3 fun μ4 =>
      x_M_print_0 n x0 x1 x2 x3 x4 x5 (wr (x6 + 1)) μ4
    else
    bz_cv (d_M_laysModules n x0 x1 x2 μ) fun μ5 =>
    bz_fI μ5 x0 10 8 fun v6 =>
    bz_fR μ5 x0 10 0 fun v7 =>
    bz_wI μ5 v7 (wr (129 * v6)) (wr (10 * x3)) fun μ8 =>
    x_M_print_1 n x0 x3 x4 x5 (wr (129 * v6)) x5 0 μ8 := rfl
set_option maxRecDepth 100000 in
theorem x_M_print_1_eq (n : Nat) (x0 : Nat) (x3 : Int) (x4 : Int) (x5 : Int) (x6 : Int) (x7 : Int) (x8 : Int) (μ : bz_M) : x_M_print_1 (n + 1) x0 x3 x4 x5 x6 x7 x8 μ =
    bz_fI μ x0 10 14 fun v1 =>
    if x8 < v1 then
      bz_fR μ x0 10 13 fun v2 =>
      bz_rI μ v2 x8 fun v3 =>
      if Int.tmod x8 2 = 0 then
        if x5 = 0 then
          bz_fR μ x0 10 0 fun v4 =>
          if wr ((wr ((wr (v3 * x3)) + x4)) + 0) < 1 then
            bz_wI μ v4 (wr ((wr (x6 + x8)) + 1)) 1 fun μ5 =>
            x_M_print_1 n x0 x3 x4 x5 x6 (wr ((wr (1103515245 * x7)) + 12345)) (wr (x8 + 1)) μ5
          else
          bz_wI μ v4 (wr ((wr (x6 + x8)) + 1)) (wr ((wr ((wr (v3 * x3)) + x4)) + 0)) fun μ6 =>
          x_M_print_1 n x0 x3 x4 x5 x6 (wr ((wr (1103515245 * x7)) + 12345)) (wr (x8 + 1)) μ6
        else
        bz_fR μ x0 10 0 fun v7 =>
        if wr ((wr ((wr (v3 * x3)) + x4)) + (wr ((Int.tmod (bz_ushr (wr ((wr (1103515245 * x7)) + 12345)) 16) 3) - 1))) < 1 then
          bz_wI μ v7 (wr ((wr (x6 + x8)) + 1)) 1 fun μ8 =>
          x_M_print_1 n x0 x3 x4 x5 x6 (wr ((wr (1103515245 * x7)) + 12345)) (wr (x8 + 1)) μ8
        else
        bz_wI μ v7 (wr ((wr (x6 + x8)) + 1)) (wr ((wr ((wr (v3 * x3)) + x4)) + (wr ((Int.tmod (bz_ushr (wr ((wr (1103515245 * x7)) + 12345)) 16) 3) - 1)))) fun μ9 =>
        x_M_print_1 n x0 x3 x4 x5 x6 (wr ((wr (1103515245 * x7)) + 12345)) (wr (x8 + 1)) μ9
      else
      if x5 = 0 then
        bz_fR μ x0 10 0 fun v10 =>
        if wr ((wr ((wr (v3 * x3)) + (wr (-x4)))) + 0) < 1 then
          bz_wI μ v10 (wr ((wr (x6 + x8)) + 1)) 1 fun μ11 =>
          x_M_print_1 n x0 x3 x4 x5 x6 (wr ((wr (1103515245 * x7)) + 12345)) (wr (x8 + 1)) μ11
        else
        bz_wI μ v10 (wr ((wr (x6 + x8)) + 1)) (wr ((wr ((wr (v3 * x3)) + (wr (-x4)))) + 0)) fun μ12 =>
        x_M_print_1 n x0 x3 x4 x5 x6 (wr ((wr (1103515245 * x7)) + 12345)) (wr (x8 + 1)) μ12
      else
      bz_fR μ x0 10 0 fun v13 =>
      if wr ((wr ((wr (v3 * x3)) + (wr (-x4)))) + (wr ((Int.tmod (bz_ushr (wr ((wr (1103515245 * x7)) + 12345)) 16) 3) - 1))) < 1 then
        bz_wI μ v13 (wr ((wr (x6 + x8)) + 1)) 1 fun μ14 =>
        x_M_print_1 n x0 x3 x4 x5 x6 (wr ((wr (1103515245 * x7)) + 12345)) (wr (x8 + 1)) μ14
      else
      bz_wI μ v13 (wr ((wr (x6 + x8)) + 1)) (wr ((wr ((wr (v3 * x3)) + (wr (-x4)))) + (wr ((Int.tmod (bz_ushr (wr ((wr (1103515245 * x7)) + 12345)) 16) 3) - 1)))) fun μ15 =>
      x_M_print_1 n x0 x3 x4 x5 x6 (wr ((wr (1103515245 * x7)) + 12345)) (wr (x8 + 1)) μ15
    else
    bz_fR μ x0 10 0 fun v16 =>
    bz_fI μ x0 10 14 fun v17 =>
    bz_wI μ v16 (wr ((wr (x6 + v17)) + 1)) (wr (10 * x3)) fun μ18 =>
    bz_fR μ18 x0 10 1 fun v19 =>
    bz_fI μ18 x0 10 8 fun v20 =>
    bz_fI μ18 x0 10 14 fun v21 =>
    bz_wI μ18 v19 v20 (wr (v21 + 2)) fun μ22 =>
    bz_pI μ22 x0 10 10 0 fun μ23 =>
    bz_fI μ23 x0 10 8 fun v24 =>
    bz_pI μ23 x0 10 8 (wr (v24 + 1)) fun μ25 =>
    bz_fI μ25 x0 10 8 fun v26 =>
    rI (wr (v26 - 1)) μ25 := rfl
set_option maxRecDepth 100000 in
theorem x_M_isSymbology_eq (n : Nat) (a0 : Int) (μ : bz_M) : x_M_isSymbology (n + 1) a0 μ =
    bz_ci (x_M_isIn n a0 0 2 μ) fun v2 μ1 =>
    bz_zB v2 μ1 := rfl
set_option maxRecDepth 100000 in
theorem x_M_isIn_eq (n : Nat) (a0 : Int) (a1 : Int) (a2 : Int) (μ : bz_M) : x_M_isIn (n + 1) a0 a1 a2 μ =
    if bz_cmp a0 a1 < 0 then rI 0 μ else
    if (0 : Int) < bz_cmp a0 a2 then rI 0 μ else
    rI 1 μ := rfl
set_option maxRecDepth 100000 in
theorem x_M_canPrint_eq (n : Nat) (a0 : Nat) (a1 : Int) (a2 : Int) (a3 : Int) (a4 : Int) (μ : bz_M) : x_M_canPrint (n + 1) a0 a1 a2 a3 a4 μ =
    bz_fI μ a0 10 10 fun v1 =>
    bz_ci (x_M_isIn n a2 0 v1 μ) fun v3 μ2 =>
    if v3 = 0 then rI 0 μ2 else
    bz_ci (x_M_isIn n a3 4 40 μ2) fun v5 μ4 =>
    if v5 = 0 then rI 0 μ4 else
    bz_ci (x_M_isIn n a4 (-3) 3 μ4) fun v7 μ6 =>
    if v7 = 0 then rI 0 μ6 else
    bz_ci (x_M_isLength n a1 a2 μ6) fun v9 μ8 =>
    if v9 = 0 then rI 0 μ8 else
    bz_ci (d_M_areCharacters n a0 a1 a2 μ8) fun v11 μ10 =>
    if v11 = 0 then rI 0 μ10 else
    rI 1 μ10 := rfl
set_option maxRecDepth 100000 in
theorem x_M_isLength_eq (n : Nat) (a0 : Int) (a1 : Int) (μ : bz_M) : x_M_isLength (n + 1) a0 a1 μ =
    if a0 = 0 then
      if a1 = 8 then rI 1 μ else
      rI 0 μ
    else
    if a0 = 1 then
      if Int.tmod a1 2 = 0 then
        bz_ci (x_M_isIn n a1 2 14 μ) fun v2 μ1 =>
        if v2 = 0 then rI 0 μ1 else
        rI 1 μ1
      else
      rI 0 μ
    else
    bz_ci (x_M_isIn n a1 3 16 μ) fun v4 μ3 =>
    bz_zB v4 μ3 := rfl
set_option maxRecDepth 100000 in
theorem x_M_areCharacters_eq (n : Nat) (a0 : Nat) (a1 : Int) (a2 : Int) (μ : bz_M) : x_M_areCharacters (n + 1) a0 a1 a2 μ =
    x_M_areCharacters_0 n a0 a1 a2 0 μ := rfl
set_option maxRecDepth 100000 in
theorem x_M_areCharacters_0_eq (n : Nat) (x0 : Nat) (x1 : Int) (x2 : Int) (x3 : Int) (μ : bz_M) : x_M_areCharacters_0 (n + 1) x0 x1 x2 x3 μ =
    if x3 < x2 then
      if x1 = 2 then
        if x3 = 0 then
          if x1 = 2 then
            bz_fR μ x0 10 3 fun v1 =>
            bz_rI μ v1 x3 fun v2 =>
            bz_ci (x_M_isLetter n v2 μ) fun v4 μ3 =>
            if v4 = 0 then rI 0 μ3 else
            x_M_areCharacters_0 n x0 x1 x2 (wr (x3 + 1)) μ3
          else
          bz_fR μ x0 10 3 fun v5 =>
          bz_rI μ v5 x3 fun v6 =>
          bz_ci (x_M_isIn n v6 48 57 μ) fun v8 μ7 =>
          if v8 = 0 then rI 0 μ7 else
          x_M_areCharacters_0 n x0 x1 x2 (wr (x3 + 1)) μ7
        else
        if x3 = wr (x2 - 1) then
          if x1 = 2 then
            bz_fR μ x0 10 3 fun v9 =>
            bz_rI μ v9 x3 fun v10 =>
            bz_ci (x_M_isLetter n v10 μ) fun v12 μ11 =>
            if v12 = 0 then rI 0 μ11 else
            x_M_areCharacters_0 n x0 x1 x2 (wr (x3 + 1)) μ11
          else
          bz_fR μ x0 10 3 fun v13 =>
          bz_rI μ v13 x3 fun v14 =>
          bz_ci (x_M_isIn n v14 48 57 μ) fun v16 μ15 =>
          if v16 = 0 then rI 0 μ15 else
          x_M_areCharacters_0 n x0 x1 x2 (wr (x3 + 1)) μ15
        else
        if x1 = 2 then
          bz_fR μ x0 10 3 fun v17 =>
          bz_rI μ v17 x3 fun v18 =>
          bz_ci (x_M_valueOf n v18 μ) fun v20 μ19 =>
          if v20 = (-1) then rI 0 μ19 else
          bz_fR μ19 x0 10 3 fun v21 =>
          bz_rI μ19 v21 x3 fun v22 =>
          bz_ci (x_M_isLetter n v22 μ19) fun v24 μ23 =>
          if v24 = 0 then x_M_areCharacters_0 n x0 x1 x2 (wr (x3 + 1)) μ23 else
          rI 0 μ23
        else
        bz_fR μ x0 10 3 fun v25 =>
        bz_rI μ v25 x3 fun v26 =>
        bz_ci (x_M_isIn n v26 48 57 μ) fun v28 μ27 =>
        if v28 = 0 then rI 0 μ27 else
        x_M_areCharacters_0 n x0 x1 x2 (wr (x3 + 1)) μ27
      else
      if x1 = 2 then
        bz_fR μ x0 10 3 fun v29 =>
        bz_rI μ v29 x3 fun v30 =>
        bz_ci (x_M_valueOf n v30 μ) fun v32 μ31 =>
        if v32 = (-1) then rI 0 μ31 else
        bz_fR μ31 x0 10 3 fun v33 =>
        bz_rI μ31 v33 x3 fun v34 =>
        bz_ci (x_M_isLetter n v34 μ31) fun v36 μ35 =>
        if v36 = 0 then x_M_areCharacters_0 n x0 x1 x2 (wr (x3 + 1)) μ35 else
        rI 0 μ35
      else
      bz_fR μ x0 10 3 fun v37 =>
      bz_rI μ v37 x3 fun v38 =>
      bz_ci (x_M_isIn n v38 48 57 μ) fun v40 μ39 =>
      if v40 = 0 then rI 0 μ39 else
      x_M_areCharacters_0 n x0 x1 x2 (wr (x3 + 1)) μ39
    else
    rI 1 μ := rfl
set_option maxRecDepth 100000 in
theorem x_M_isLetter_eq (n : Nat) (a0 : Int) (μ : bz_M) : x_M_isLetter (n + 1) a0 μ =
    bz_ci (x_M_isIn n a0 65 68 μ) fun v2 μ1 =>
    bz_zB v2 μ1 := rfl
set_option maxRecDepth 100000 in
theorem x_M_valueOf_eq (n : Nat) (a0 : Int) (μ : bz_M) : x_M_valueOf (n + 1) a0 μ =
    x_M_valueOf_0 n a0 0 μ := rfl
set_option maxRecDepth 100000 in
theorem x_M_valueOf_0_eq (n : Nat) (x0 : Int) (x1 : Int) (μ : bz_M) : x_M_valueOf_0 (n + 1) x0 x1 μ =
    if x1 < 20 then
      bz_ci (d_Str_charAt n 6 x1 μ) fun v2 μ1 =>
      if v2 = x0 then rI x1 μ1 else
      x_M_valueOf_0 n x0 (wr (x1 + 1)) μ1
    else
    rI (-1) μ := rfl
set_option maxRecDepth 100000 in
theorem x_M_laysModules_eq (n : Nat) (a0 : Nat) (a1 : Int) (a2 : Int) (μ : bz_M) : x_M_laysModules (n + 1) a0 a1 a2 μ =
    bz_pI μ a0 10 14 0 fun μ1 =>
    if a1 = 0 then
      bz_cv (d_M_laysEan n a0 μ1) fun μ2 =>
      rI 0 μ2
    else
    if a1 = 1 then
      bz_cv (d_M_laysPairs n a0 a2 μ1) fun μ3 =>
      rI 0 μ3
    else
    bz_cv (d_M_laysCodabar n a0 a2 μ1) fun μ4 =>
    rI 0 μ4 := rfl
set_option maxRecDepth 100000 in
theorem x_M_laysEan_eq (n : Nat) (a0 : Nat) (μ : bz_M) : x_M_laysEan (n + 1) a0 μ =
    bz_cv (d_M_laysOnes n a0 3 μ) fun μ1 =>
    x_M_laysEan_0 n a0 0 μ1 := rfl
set_option maxRecDepth 100000 in
theorem x_M_laysEan_0_eq (n : Nat) (x0 : Nat) (x1 : Int) (μ : bz_M) : x_M_laysEan_0 (n + 1) x0 x1 μ =
    if x1 < 8 then
      if x1 = 4 then
        bz_cv (d_M_laysOnes n x0 5 μ) fun μ1 =>
        x_M_laysEan_1 n x0 x1 1000 μ1
      else
      x_M_laysEan_1 n x0 x1 1000 μ
    else
    bz_cv (d_M_laysOnes n x0 3 μ) fun μ2 =>
    rI 0 μ2 := rfl
set_option maxRecDepth 100000 in
theorem x_M_laysEan_1_eq (n : Nat) (x0 : Nat) (x1 : Int) (x2 : Int) (μ : bz_M) : x_M_laysEan_1 (n + 1) x0 x1 x2 μ =
    if (0 : Int) < x2 then
      bz_fR μ x0 10 5 fun v1 =>
      bz_fR μ x0 10 12 fun v2 =>
      bz_rI μ v2 x1 fun v3 =>
      bz_rI μ v1 (wr (v3 - 48)) fun v4 =>
      bz_dv v4 x2 fun v5 =>
      bz_cv (d_M_lays n x0 (Int.tmod v5 10) μ) fun μ6 =>
      x_M_laysEan_1 n x0 x1 (wr (Int.tdiv x2 10)) μ6
    else
    x_M_laysEan_0 n x0 (wr (x1 + 1)) μ := rfl
set_option maxRecDepth 100000 in
theorem x_M_laysOnes_eq (n : Nat) (a0 : Nat) (a1 : Int) (μ : bz_M) : x_M_laysOnes (n + 1) a0 a1 μ =
    x_M_laysOnes_0 n a0 a1 0 μ := rfl
set_option maxRecDepth 100000 in
theorem x_M_laysOnes_0_eq (n : Nat) (x0 : Nat) (x1 : Int) (x2 : Int) (μ : bz_M) : x_M_laysOnes_0 (n + 1) x0 x1 x2 μ =
    if x2 < x1 then
      bz_cv (d_M_lays n x0 1 μ) fun μ1 =>
      x_M_laysOnes_0 n x0 x1 (wr (x2 + 1)) μ1
    else
    rI 0 μ := rfl
set_option maxRecDepth 100000 in
theorem x_M_lays_eq (n : Nat) (a0 : Nat) (a1 : Int) (μ : bz_M) : x_M_lays (n + 1) a0 a1 μ =
    bz_fR μ a0 10 13 fun v1 =>
    bz_fI μ a0 10 14 fun v2 =>
    bz_wI μ v1 v2 a1 fun μ3 =>
    bz_fI μ3 a0 10 14 fun v4 =>
    bz_pI μ3 a0 10 14 (wr (v4 + 1)) fun μ5 =>
    rI 0 μ5 := rfl
set_option maxRecDepth 100000 in
theorem x_M_laysPairs_eq (n : Nat) (a0 : Nat) (a1 : Int) (μ : bz_M) : x_M_laysPairs (n + 1) a0 a1 μ =
    bz_cv (d_M_laysOnes n a0 4 μ) fun μ1 =>
    x_M_laysPairs_0 n a0 a1 0 μ1 := rfl
set_option maxRecDepth 100000 in
theorem x_M_laysPairs_0_eq (n : Nat) (x0 : Nat) (x1 : Int) (x2 : Int) (μ : bz_M) : x_M_laysPairs_0 (n + 1) x0 x1 x2 μ =
    if x2 < x1 then x_M_laysPairs_1 n x0 x1 x2 4 μ else
    bz_cv (d_M_lays n x0 3 μ) fun μ1 =>
    bz_cv (d_M_laysOnes n x0 2 μ1) fun μ2 =>
    rI 0 μ2 := rfl
set_option maxRecDepth 100000 in
theorem x_M_laysPairs_1_eq (n : Nat) (x0 : Nat) (x1 : Int) (x2 : Int) (x3 : Int) (μ : bz_M) : x_M_laysPairs_1 (n + 1) x0 x1 x2 x3 μ =
    if x3 < 0 then x_M_laysPairs_0 n x0 x1 (wr (x2 + 2)) μ else
    bz_fR μ x0 10 6 fun v1 =>
    bz_fR μ x0 10 12 fun v2 =>
    bz_rI μ v2 x2 fun v3 =>
    bz_rI μ v1 (wr (v3 - 48)) fun v4 =>
    bz_ci (x_M_wideOr n v4 x3 μ) fun v6 μ5 =>
    bz_cv (d_M_lays n x0 v6 μ5) fun μ7 =>
    bz_fR μ7 x0 10 6 fun v8 =>
    bz_fR μ7 x0 10 12 fun v9 =>
    bz_rI μ7 v9 (wr (x2 + 1)) fun v10 =>
    bz_rI μ7 v8 (wr (v10 - 48)) fun v11 =>
    bz_ci (x_M_wideOr n v11 x3 μ7) fun v13 μ12 =>
    bz_cv (d_M_lays n x0 v13 μ12) fun μ14 =>
    x_M_laysPairs_1 n x0 x1 x2 (wr (x3 + (-1))) μ14 := rfl
set_option maxRecDepth 100000 in
theorem x_M_wideOr_eq (n : Nat) (a0 : Int) (a1 : Int) (μ : bz_M) : x_M_wideOr (n + 1) a0 a1 μ =
    if bz_and (bz_shr a0 a1) 1 = 1 then rI 3 μ else
    rI 1 μ := rfl
set_option maxRecDepth 100000 in
theorem x_M_laysCodabar_eq (n : Nat) (a0 : Nat) (a1 : Int) (μ : bz_M) : x_M_laysCodabar (n + 1) a0 a1 μ =
    x_M_laysCodabar_0 n a0 a1 0 μ := rfl
set_option maxRecDepth 100000 in
theorem x_M_laysCodabar_0_eq (n : Nat) (x0 : Nat) (x1 : Int) (x2 : Int) (μ : bz_M) : x_M_laysCodabar_0 (n + 1) x0 x1 x2 μ =
    if x2 < x1 then
      if (0 : Int) < x2 then
        bz_cv (d_M_lays n x0 1 μ) fun μ1 =>
        x_M_laysCodabar_1 n x0 x1 x2 6 μ1
      else
      x_M_laysCodabar_1 n x0 x1 x2 6 μ
    else
    rI 0 μ := rfl
set_option maxRecDepth 100000 in
theorem x_M_laysCodabar_1_eq (n : Nat) (x0 : Nat) (x1 : Int) (x2 : Int) (x3 : Int) (μ : bz_M) : x_M_laysCodabar_1 (n + 1) x0 x1 x2 x3 μ =
    if x3 < 0 then x_M_laysCodabar_0 n x0 x1 (wr (x2 + 1)) μ else
    bz_fR μ x0 10 7 fun v1 =>
    bz_fR μ x0 10 12 fun v2 =>
    bz_rI μ v2 x2 fun v3 =>
    bz_ci (x_M_valueOf n v3 μ) fun v5 μ4 =>
    bz_rI μ4 v1 v5 fun v6 =>
    bz_ci (x_M_wideOr n v6 x3 μ4) fun v8 μ7 =>
    bz_cv (d_M_lays n x0 v8 μ7) fun μ9 =>
    x_M_laysCodabar_1 n x0 x1 x2 (wr (x3 + (-1))) μ9 := rfl
set_option maxRecDepth 100000 in
theorem x_M_checkCharacter_eq (n : Nat) (a0 : Nat) (a1 : Int) (a2 : Int) (μ : bz_M) : x_M_checkCharacter (n + 1) a0 a1 a2 μ =
    bz_ci (x_M_isSymbology n a1 μ) fun v2 μ1 =>
    if v2 = 0 then
      bz_pI μ1 a0 10 11 1 fun μ3 =>
      bz_fI μ3 a0 10 11 fun v4 =>
      if (0 : Int) < v4 then rI 0 μ3 else
      if a1 = 2 then x_M_checkCharacter_0 n a0 a2 0 0 μ3 else
      x_M_checkCharacter_1 n a0 a2 0 0 μ3
    else
    bz_fI μ1 a0 10 10 fun v5 =>
    bz_ci (x_M_isIn n a2 0 v5 μ1) fun v7 μ6 =>
    if v7 = 0 then
      bz_pI μ6 a0 10 11 2 fun μ8 =>
      bz_fI μ8 a0 10 11 fun v9 =>
      if (0 : Int) < v9 then rI 0 μ8 else
      if a1 = 2 then x_M_checkCharacter_0 n a0 a2 0 0 μ8 else
      x_M_checkCharacter_1 n a0 a2 0 0 μ8
    else
    bz_ci (x_M_isLength n a1 (wr (a2 + 1)) μ6) fun v11 μ10 =>
    if v11 = 0 then
      bz_pI μ10 a0 10 11 2 fun μ12 =>
      bz_fI μ12 a0 10 11 fun v13 =>
      if (0 : Int) < v13 then rI 0 μ12 else
      if a1 = 2 then x_M_checkCharacter_0 n a0 a2 0 0 μ12 else
      x_M_checkCharacter_1 n a0 a2 0 0 μ12
    else
    bz_ci (d_M_areCharacters n a0 a1 a2 μ10) fun v15 μ14 =>
    if v15 = 0 then
      bz_pI μ14 a0 10 11 2 fun μ16 =>
      bz_fI μ16 a0 10 11 fun v17 =>
      if (0 : Int) < v17 then rI 0 μ16 else
      if a1 = 2 then x_M_checkCharacter_0 n a0 a2 0 0 μ16 else
      x_M_checkCharacter_1 n a0 a2 0 0 μ16
    else
    bz_pI μ14 a0 10 11 0 fun μ18 =>
    bz_fI μ18 a0 10 11 fun v19 =>
    if (0 : Int) < v19 then rI 0 μ18 else
    if a1 = 2 then x_M_checkCharacter_0 n a0 a2 0 0 μ18 else
    x_M_checkCharacter_1 n a0 a2 0 0 μ18 := rfl
set_option maxRecDepth 100000 in
theorem x_M_checkCharacter_0_eq (n : Nat) (x0 : Nat) (x2 : Int) (x3 : Int) (x4 : Int) (μ : bz_M) : x_M_checkCharacter_0 (n + 1) x0 x2 x3 x4 μ =
    if x4 < x2 then
      bz_fR μ x0 10 3 fun v1 =>
      bz_rI μ v1 x4 fun v2 =>
      bz_ci (x_M_valueOf n v2 μ) fun v4 μ3 =>
      x_M_checkCharacter_0 n x0 x2 (wr (x3 + v4)) (wr (x4 + 1)) μ3
    else
    bz_ci (d_Str_charAt n 6 (Int.tmod (wr (16 - (Int.tmod x3 16))) 16) μ) fun v6 μ5 =>
    rI v6 μ5 := rfl
set_option maxRecDepth 100000 in
theorem x_M_checkCharacter_1_eq (n : Nat) (x0 : Nat) (x2 : Int) (x3 : Int) (x4 : Int) (μ : bz_M) : x_M_checkCharacter_1 (n + 1) x0 x2 x3 x4 μ =
    if x4 < x2 then
      if Int.tmod x4 2 = 0 then
        bz_fR μ x0 10 3 fun v1 =>
        bz_rI μ v1 x4 fun v2 =>
        x_M_checkCharacter_1 n x0 x2 (wr (x3 + (wr (3 * (wr (v2 - 48)))))) (wr (x4 + 1)) μ
      else
      bz_fR μ x0 10 3 fun v3 =>
      bz_rI μ v3 x4 fun v4 =>
      x_M_checkCharacter_1 n x0 x2 (wr (x3 + (wr (1 * (wr (v4 - 48)))))) (wr (x4 + 1)) μ
    else
    rI (wr (48 + (Int.tmod (wr (10 - (Int.tmod x3 10))) 10))) μ := rfl
set_option maxRecDepth 100000 in
theorem x_M_addWidths_eq (n : Nat) (a0 : Nat) (a1 : Int) (a2 : Int) (a3 : Int) (a4 : Int) (a5 : Int) (a6 : Int) (μ : bz_M) : x_M_addWidths (n + 1) a0 a1 a2 a3 a4 a5 a6 μ =
    bz_ci (x_M_isWidth n a1 0 μ) fun v2 μ1 =>
    if v2 = 0 then x_M_addWidths_0 n a0 a1 a2 a3 a4 a5 a6 0 μ1 else
    bz_ci (x_M_isWidth n a2 0 μ1) fun v4 μ3 =>
    if v4 = 0 then x_M_addWidths_0 n a0 a1 a2 a3 a4 a5 a6 0 μ3 else
    bz_ci (x_M_isWidth n a3 0 μ3) fun v6 μ5 =>
    if v6 = 0 then x_M_addWidths_0 n a0 a1 a2 a3 a4 a5 a6 0 μ5 else
    bz_ci (x_M_isWidth n a4 0 μ5) fun v8 μ7 =>
    if v8 = 0 then x_M_addWidths_0 n a0 a1 a2 a3 a4 a5 a6 0 μ7 else
    bz_ci (x_M_isWidth n a5 0 μ7) fun v10 μ9 =>
    if v10 = 0 then x_M_addWidths_0 n a0 a1 a2 a3 a4 a5 a6 0 μ9 else
    bz_ci (x_M_isWidth n a6 0 μ9) fun v12 μ11 =>
    if v12 = 0 then x_M_addWidths_0 n a0 a1 a2 a3 a4 a5 a6 0 μ11 else
    x_M_addWidths_0 n a0 a1 a2 a3 a4 a5 a6 1 μ11 := rfl
set_option maxRecDepth 100000 in
theorem x_M_addWidths_0_eq (n : Nat) (x0 : Nat) (x1 : Int) (x2 : Int) (x3 : Int) (x4 : Int) (x5 : Int) (x6 : Int) (x7 : Int) (μ : bz_M) : x_M_addWidths_0 (n + 1) x0 x1 x2 x3 x4 x5 x6 x7 μ =
    if x1 = 0 then x_M_addWidths_1 n x0 x1 x2 x3 x4 x5 x6 x7 0 μ else
    if x2 = 0 then x_M_addWidths_1 n x0 x1 x2 x3 x4 x5 x6 x7 1 μ else
    if x3 = 0 then x_M_addWidths_1 n x0 x1 x2 x3 x4 x5 x6 x7 2 μ else
    if x4 = 0 then x_M_addWidths_1 n x0 x1 x2 x3 x4 x5 x6 x7 3 μ else
    if x5 = 0 then x_M_addWidths_1 n x0 x1 x2 x3 x4 x5 x6 x7 4 μ else
    if x6 = 0 then x_M_addWidths_1 n x0 x1 x2 x3 x4 x5 x6 x7 5 μ else
    x_M_addWidths_1 n x0 x1 x2 x3 x4 x5 x6 x7 6 μ := rfl
set_option maxRecDepth 100000 in
theorem x_M_addWidths_1_eq (n : Nat) (x0 : Nat) (x1 : Int) (x2 : Int) (x3 : Int) (x4 : Int) (x5 : Int) (x6 : Int) (x7 : Int) (x8 : Int) (μ : bz_M) : x_M_addWidths_1 (n + 1) x0 x1 x2 x3 x4 x5 x6 x7 x8 μ =
    if x7 = 0 then
      bz_pI μ x0 10 11 1 fun μ1 =>
      bz_fI μ1 x0 10 11 fun v2 =>
      if (0 : Int) < v2 then rI 0 μ1 else
      x_M_addWidths_2 n x0 x1 x2 x3 x4 x5 x6 x8 0 μ1
    else
    bz_fI μ x0 10 9 fun v3 =>
    if (129 : Int) < wr (v3 + x8) then
      bz_pI μ x0 10 11 2 fun μ4 =>
      bz_fI μ4 x0 10 11 fun v5 =>
      if (0 : Int) < v5 then rI 0 μ4 else
      x_M_addWidths_2 n x0 x1 x2 x3 x4 x5 x6 x8 0 μ4
    else
    bz_pI μ x0 10 11 0 fun μ6 =>
    bz_fI μ6 x0 10 11 fun v7 =>
    if (0 : Int) < v7 then rI 0 μ6 else
    x_M_addWidths_2 n x0 x1 x2 x3 x4 x5 x6 x8 0 μ6 := rfl
set_option maxRecDepth 100000 in
theorem x_M_addWidths_2_eq (n : Nat) (x0 : Nat) (x1 : Int) (x2 : Int) (x3 : Int) (x4 : Int) (x5 : Int) (x6 : Int) (x8 : Int) (x9 : Int) (μ : bz_M) : x_M_addWidths_2 (n + 1) x0 x1 x2 x3 x4 x5 x6 x8 x9 μ =
    if x9 < x8 then
      bz_fR μ x0 10 2 fun v1 =>
      bz_fI μ x0 10 9 fun v2 =>
      if x9 = 0 then
        bz_wI μ v1 v2 x1 fun μ3 =>
        bz_fI μ3 x0 10 9 fun v4 =>
        bz_pI μ3 x0 10 9 (wr (v4 + 1)) fun μ5 =>
        x_M_addWidths_2 n x0 x1 x2 x3 x4 x5 x6 x8 (wr (x9 + 1)) μ5
      else
      if x9 = 1 then
        bz_wI μ v1 v2 x2 fun μ6 =>
        bz_fI μ6 x0 10 9 fun v7 =>
        bz_pI μ6 x0 10 9 (wr (v7 + 1)) fun μ8 =>
        x_M_addWidths_2 n x0 x1 x2 x3 x4 x5 x6 x8 (wr (x9 + 1)) μ8
      else
      if x9 = 2 then
        bz_wI μ v1 v2 x3 fun μ9 =>
        bz_fI μ9 x0 10 9 fun v10 =>
        bz_pI μ9 x0 10 9 (wr (v10 + 1)) fun μ11 =>
        x_M_addWidths_2 n x0 x1 x2 x3 x4 x5 x6 x8 (wr (x9 + 1)) μ11
      else
      if x9 = 3 then
        bz_wI μ v1 v2 x4 fun μ12 =>
        bz_fI μ12 x0 10 9 fun v13 =>
        bz_pI μ12 x0 10 9 (wr (v13 + 1)) fun μ14 =>
        x_M_addWidths_2 n x0 x1 x2 x3 x4 x5 x6 x8 (wr (x9 + 1)) μ14
      else
      if x9 = 4 then
        bz_wI μ v1 v2 x5 fun μ15 =>
        bz_fI μ15 x0 10 9 fun v16 =>
        bz_pI μ15 x0 10 9 (wr (v16 + 1)) fun μ17 =>
        x_M_addWidths_2 n x0 x1 x2 x3 x4 x5 x6 x8 (wr (x9 + 1)) μ17
      else
      bz_wI μ v1 v2 x6 fun μ18 =>
      bz_fI μ18 x0 10 9 fun v19 =>
      bz_pI μ18 x0 10 9 (wr (v19 + 1)) fun μ20 =>
      x_M_addWidths_2 n x0 x1 x2 x3 x4 x5 x6 x8 (wr (x9 + 1)) μ20
    else
    bz_fI μ x0 10 9 fun v21 =>
    rI v21 μ := rfl
set_option maxRecDepth 100000 in
theorem x_M_isWidth_eq (n : Nat) (a0 : Int) (a1 : Int) (μ : bz_M) : x_M_isWidth (n + 1) a0 a1 μ =
    bz_ci (x_M_isIn n a0 a1 10000 μ) fun v2 μ1 =>
    bz_zB v2 μ1 := rfl
set_option maxRecDepth 100000 in
theorem x_M_endScan_eq (n : Nat) (a0 : Nat) (μ : bz_M) : x_M_endScan (n + 1) a0 μ =
    bz_fI μ a0 10 9 fun v1 =>
    if v1 < 3 then
      bz_pI μ a0 10 11 1 fun μ2 =>
      bz_fI μ2 a0 10 11 fun v3 =>
      if (0 : Int) < v3 then rI 0 μ2 else
      x_M_endScan_0 n a0 0 μ2
    else
    bz_fI μ a0 10 9 fun v4 =>
    if Int.tmod v4 2 = 0 then
      bz_pI μ a0 10 11 1 fun μ5 =>
      bz_fI μ5 a0 10 11 fun v6 =>
      if (0 : Int) < v6 then rI 0 μ5 else
      x_M_endScan_0 n a0 0 μ5
    else
    bz_fI μ a0 10 8 fun v7 =>
    if v7 = 24 then
      bz_pI μ a0 10 11 1 fun μ8 =>
      bz_fI μ8 a0 10 11 fun v9 =>
      if (0 : Int) < v9 then rI 0 μ8 else
      x_M_endScan_0 n a0 0 μ8
    else
    bz_pI μ a0 10 11 0 fun μ10 =>
    bz_fI μ10 a0 10 11 fun v11 =>
    if (0 : Int) < v11 then rI 0 μ10 else
    x_M_endScan_0 n a0 0 μ10 := rfl
set_option maxRecDepth 100000 in
theorem x_M_endScan_0_eq (n : Nat) (x0 : Nat) (x1 : Int) (μ : bz_M) : x_M_endScan_0 (n + 1) x0 x1 μ =
    bz_fI μ x0 10 9 fun v1 =>
    if x1 < v1 then
      bz_fR μ x0 10 0 fun v2 =>
      bz_fI μ x0 10 8 fun v3 =>
      bz_fR μ x0 10 2 fun v4 =>
      bz_rI μ v4 x1 fun v5 =>
      bz_wI μ v2 (wr ((wr (129 * v3)) + x1)) v5 fun μ6 =>
      x_M_endScan_0 n x0 (wr (x1 + 1)) μ6
    else
    bz_fR μ x0 10 1 fun v7 =>
    bz_fI μ x0 10 8 fun v8 =>
    bz_fI μ x0 10 9 fun v9 =>
    bz_wI μ v7 v8 v9 fun μ10 =>
    bz_pI μ10 x0 10 9 0 fun μ11 =>
    bz_fI μ11 x0 10 8 fun v12 =>
    bz_pI μ11 x0 10 8 (wr (v12 + 1)) fun μ13 =>
    bz_fI μ13 x0 10 8 fun v14 =>
    rI (wr (v14 - 1)) μ13 := rfl
set_option maxRecDepth 100000 in
theorem x_M_scanCount_eq (n : Nat) (a0 : Nat) (μ : bz_M) : x_M_scanCount (n + 1) a0 μ =
    bz_pI μ a0 10 11 0 fun μ1 =>
    bz_fI μ1 a0 10 8 fun v2 =>
    rI v2 μ1 := rfl
set_option maxRecDepth 100000 in
theorem x_M_widthCount_eq (n : Nat) (a0 : Nat) (a1 : Int) (μ : bz_M) : x_M_widthCount (n + 1) a0 a1 μ =
    bz_ci (d_M_isScan n a0 a1 μ) fun v2 μ1 =>
    if v2 = 0 then
      bz_pI μ1 a0 10 11 1 fun μ3 =>
      bz_fI μ3 a0 10 11 fun v4 =>
      if (0 : Int) < v4 then rI 0 μ3 else
      bz_fR μ3 a0 10 1 fun v5 =>
      bz_rI μ3 v5 a1 fun v6 =>
      rI v6 μ3
    else
    bz_pI μ1 a0 10 11 0 fun μ7 =>
    bz_fI μ7 a0 10 11 fun v8 =>
    if (0 : Int) < v8 then rI 0 μ7 else
    bz_fR μ7 a0 10 1 fun v9 =>
    bz_rI μ7 v9 a1 fun v10 =>
    rI v10 μ7 := rfl
set_option maxRecDepth 100000 in
theorem x_M_isScan_eq (n : Nat) (a0 : Nat) (a1 : Int) (μ : bz_M) : x_M_isScan (n + 1) a0 a1 μ =
    bz_fI μ a0 10 8 fun v1 =>
    bz_ci (x_M_isIn n a1 0 (wr (v1 - 1)) μ) fun v3 μ2 =>
    bz_zB v3 μ2 := rfl
set_option maxRecDepth 100000 in
theorem x_M_width_eq (n : Nat) (a0 : Nat) (a1 : Int) (a2 : Int) (μ : bz_M) : x_M_width (n + 1) a0 a1 a2 μ =
    bz_ci (d_M_hasWidth n a0 a1 a2 μ) fun v2 μ1 =>
    if v2 = 0 then
      bz_pI μ1 a0 10 11 1 fun μ3 =>
      bz_fI μ3 a0 10 11 fun v4 =>
      if (0 : Int) < v4 then rI 0 μ3 else
      bz_fR μ3 a0 10 0 fun v5 =>
      bz_rI μ3 v5 (wr ((wr (129 * a1)) + a2)) fun v6 =>
      rI v6 μ3
    else
    bz_pI μ1 a0 10 11 0 fun μ7 =>
    bz_fI μ7 a0 10 11 fun v8 =>
    if (0 : Int) < v8 then rI 0 μ7 else
    bz_fR μ7 a0 10 0 fun v9 =>
    bz_rI μ7 v9 (wr ((wr (129 * a1)) + a2)) fun v10 =>
    rI v10 μ7 := rfl
set_option maxRecDepth 100000 in
theorem x_M_hasWidth_eq (n : Nat) (a0 : Nat) (a1 : Int) (a2 : Int) (μ : bz_M) : x_M_hasWidth (n + 1) a0 a1 a2 μ =
    bz_ci (d_M_isScan n a0 a1 μ) fun v2 μ1 =>
    if v2 = 0 then rI 0 μ1 else
    bz_fR μ1 a0 10 1 fun v3 =>
    bz_rI μ1 v3 a1 fun v4 =>
    bz_ci (x_M_isIn n a2 0 (wr (v4 - 1)) μ1) fun v6 μ5 =>
    if v6 = 0 then rI 0 μ5 else
    rI 1 μ5 := rfl
set_option maxRecDepth 100000 in
theorem x_M_setWidth_eq (n : Nat) (a0 : Nat) (a1 : Int) (a2 : Int) (a3 : Int) (μ : bz_M) : x_M_setWidth (n + 1) a0 a1 a2 a3 μ =
    bz_ci (d_M_hasWidth n a0 a1 a2 μ) fun v2 μ1 =>
    if v2 = 0 then
      bz_pI μ1 a0 10 11 1 fun μ3 =>
      bz_fI μ3 a0 10 11 fun v4 =>
      if (0 : Int) < v4 then rI 0 μ3 else
      bz_fR μ3 a0 10 0 fun v5 =>
      bz_rI μ3 v5 (wr ((wr (129 * a1)) + a2)) fun v6 =>
      bz_fR μ3 a0 10 0 fun v7 =>
      bz_wI μ3 v7 (wr ((wr (129 * a1)) + a2)) a3 fun μ8 =>
      rI v6 μ8
    else
    bz_ci (x_M_isWidth n a3 1 μ1) fun v10 μ9 =>
    if v10 = 0 then
      bz_pI μ9 a0 10 11 2 fun μ11 =>
      bz_fI μ11 a0 10 11 fun v12 =>
      if (0 : Int) < v12 then rI 0 μ11 else
      bz_fR μ11 a0 10 0 fun v13 =>
      bz_rI μ11 v13 (wr ((wr (129 * a1)) + a2)) fun v14 =>
      bz_fR μ11 a0 10 0 fun v15 =>
      bz_wI μ11 v15 (wr ((wr (129 * a1)) + a2)) a3 fun μ16 =>
      rI v14 μ16
    else
    bz_pI μ9 a0 10 11 0 fun μ17 =>
    bz_fI μ17 a0 10 11 fun v18 =>
    if (0 : Int) < v18 then rI 0 μ17 else
    bz_fR μ17 a0 10 0 fun v19 =>
    bz_rI μ17 v19 (wr ((wr (129 * a1)) + a2)) fun v20 =>
    bz_fR μ17 a0 10 0 fun v21 =>
    bz_wI μ17 v21 (wr ((wr (129 * a1)) + a2)) a3 fun μ22 =>
    rI v20 μ22 := rfl
set_option maxRecDepth 100000 in
theorem x_M_cut_eq (n : Nat) (a0 : Nat) (a1 : Int) (a2 : Int) (a3 : Int) (μ : bz_M) : x_M_cut (n + 1) a0 a1 a2 a3 μ =
    bz_ci (d_M_hasWidth n a0 a1 a2 μ) fun v2 μ1 =>
    if v2 = 0 then
      bz_pI μ1 a0 10 11 1 fun μ3 =>
      bz_fI μ3 a0 10 11 fun v4 =>
      if (0 : Int) < v4 then rI 0 μ3 else
      bz_fR μ3 a0 10 1 fun v5 =>
      bz_wI μ3 v5 a1 (wr ((wr (a3 - a2)) + 1)) fun μ6 =>
      x_M_cut_0 n a0 a1 a2 0 μ6
    else
    bz_ci (d_M_hasWidth n a0 a1 a3 μ1) fun v8 μ7 =>
    if v8 = 0 then
      bz_pI μ7 a0 10 11 1 fun μ9 =>
      bz_fI μ9 a0 10 11 fun v10 =>
      if (0 : Int) < v10 then rI 0 μ9 else
      bz_fR μ9 a0 10 1 fun v11 =>
      bz_wI μ9 v11 a1 (wr ((wr (a3 - a2)) + 1)) fun μ12 =>
      x_M_cut_0 n a0 a1 a2 0 μ12
    else
    if Int.tmod a2 2 = 1 then
      bz_pI μ7 a0 10 11 2 fun μ13 =>
      bz_fI μ13 a0 10 11 fun v14 =>
      if (0 : Int) < v14 then rI 0 μ13 else
      bz_fR μ13 a0 10 1 fun v15 =>
      bz_wI μ13 v15 a1 (wr ((wr (a3 - a2)) + 1)) fun μ16 =>
      x_M_cut_0 n a0 a1 a2 0 μ16
    else
    if Int.tmod a3 2 = 1 then
      bz_pI μ7 a0 10 11 2 fun μ17 =>
      bz_fI μ17 a0 10 11 fun v18 =>
      if (0 : Int) < v18 then rI 0 μ17 else
      bz_fR μ17 a0 10 1 fun v19 =>
      bz_wI μ17 v19 a1 (wr ((wr (a3 - a2)) + 1)) fun μ20 =>
      x_M_cut_0 n a0 a1 a2 0 μ20
    else
    if a3 < wr (a2 + 2) then
      bz_pI μ7 a0 10 11 2 fun μ21 =>
      bz_fI μ21 a0 10 11 fun v22 =>
      if (0 : Int) < v22 then rI 0 μ21 else
      bz_fR μ21 a0 10 1 fun v23 =>
      bz_wI μ21 v23 a1 (wr ((wr (a3 - a2)) + 1)) fun μ24 =>
      x_M_cut_0 n a0 a1 a2 0 μ24
    else
    bz_pI μ7 a0 10 11 0 fun μ25 =>
    bz_fI μ25 a0 10 11 fun v26 =>
    if (0 : Int) < v26 then rI 0 μ25 else
    bz_fR μ25 a0 10 1 fun v27 =>
    bz_wI μ25 v27 a1 (wr ((wr (a3 - a2)) + 1)) fun μ28 =>
    x_M_cut_0 n a0 a1 a2 0 μ28 := rfl
set_option maxRecDepth 100000 in
theorem x_M_cut_0_eq (n : Nat) (x0 : Nat) (x1 : Int) (x2 : Int) (x4 : Int) (μ : bz_M) : x_M_cut_0 (n + 1) x0 x1 x2 x4 μ =
    bz_fR μ x0 10 1 fun v1 =>
    bz_rI μ v1 x1 fun v2 =>
    if x4 < v2 then
      bz_fR μ x0 10 0 fun v3 =>
      bz_fR μ x0 10 0 fun v4 =>
      bz_rI μ v4 (wr ((wr ((wr (129 * x1)) + x2)) + x4)) fun v5 =>
      bz_wI μ v3 (wr ((wr (129 * x1)) + x4)) v5 fun μ6 =>
      x_M_cut_0 n x0 x1 x2 (wr (x4 + 1)) μ6
    else
    bz_fR μ x0 10 1 fun v7 =>
    bz_rI μ v7 x1 fun v8 =>
    rI v8 μ := rfl
set_option maxRecDepth 100000 in
theorem x_M_reverse_eq (n : Nat) (a0 : Nat) (a1 : Int) (μ : bz_M) : x_M_reverse (n + 1) a0 a1 μ =
    bz_ci (d_M_isScan n a0 a1 μ) fun v2 μ1 =>
    if v2 = 0 then
      bz_pI μ1 a0 10 11 1 fun μ3 =>
      bz_fI μ3 a0 10 11 fun v4 =>
      if (0 : Int) < v4 then rI 0 μ3 else
      bz_cv (d_M_laysRow n a0 a1 1 μ3) fun μ5 =>
      x_M_reverse_0 n a0 a1 0 μ5
    else
    bz_pI μ1 a0 10 11 0 fun μ6 =>
    bz_fI μ6 a0 10 11 fun v7 =>
    if (0 : Int) < v7 then rI 0 μ6 else
    bz_cv (d_M_laysRow n a0 a1 1 μ6) fun μ8 =>
    x_M_reverse_0 n a0 a1 0 μ8 := rfl
set_option maxRecDepth 100000 in
theorem x_M_reverse_0_eq (n : Nat) (x0 : Nat) (x1 : Int) (x2 : Int) (μ : bz_M) : x_M_reverse_0 (n + 1) x0 x1 x2 μ =
    bz_fI μ x0 10 16 fun v1 =>
    if x2 < v1 then
      bz_fR μ x0 10 0 fun v2 =>
      bz_fR μ x0 10 15 fun v3 =>
      bz_rI μ v3 x2 fun v4 =>
      bz_wI μ v2 (wr ((wr (129 * x1)) + x2)) v4 fun μ5 =>
      x_M_reverse_0 n x0 x1 (wr (x2 + 1)) μ5
    else
    rI 0 μ := rfl
set_option maxRecDepth 100000 in
theorem x_M_laysRow_eq (n : Nat) (a0 : Nat) (a1 : Int) (a2 : Int) (μ : bz_M) : x_M_laysRow (n + 1) a0 a1 a2 μ =
    bz_fR μ a0 10 1 fun v1 =>
    bz_rI μ v1 a1 fun v2 =>
    bz_pI μ a0 10 16 v2 fun μ3 =>
    x_M_laysRow_0 n a0 a1 a2 0 μ3 := rfl
set_option maxRecDepth 100000 in
theorem x_M_laysRow_0_eq (n : Nat) (x0 : Nat) (x1 : Int) (x2 : Int) (x3 : Int) (μ : bz_M) : x_M_laysRow_0 (n + 1) x0 x1 x2 x3 μ =
    bz_fI μ x0 10 16 fun v1 =>
    if x3 < v1 then
      bz_fR μ x0 10 15 fun v2 =>
      bz_fR μ x0 10 0 fun v3 =>
      if x2 = 0 then
        bz_rI μ v3 (wr ((wr (129 * x1)) + x3)) fun v4 =>
        bz_wI μ v2 x3 v4 fun μ5 =>
        x_M_laysRow_0 n x0 x1 x2 (wr (x3 + 1)) μ5
      else
      bz_fI μ x0 10 16 fun v6 =>
      bz_rI μ v3 (wr ((wr (129 * x1)) + (wr ((wr (v6 - 1)) - x3)))) fun v7 =>
      bz_wI μ v2 x3 v7 fun μ8 =>
      x_M_laysRow_0 n x0 x1 x2 (wr (x3 + 1)) μ8
    else
    rI 0 μ := rfl
set_option maxRecDepth 100000 in
theorem x_M_smear_eq (n : Nat) (a0 : Nat) (a1 : Int) (a2 : Int) (μ : bz_M) : x_M_smear (n + 1) a0 a1 a2 μ =
    bz_ci (d_M_isScan n a0 a1 μ) fun v2 μ1 =>
    if v2 = 0 then
      bz_pI μ1 a0 10 11 1 fun μ3 =>
      bz_fI μ3 a0 10 11 fun v4 =>
      if (0 : Int) < v4 then rI 0 μ3 else
      x_M_smear_0 n a0 a1 a2 0 1 μ3
    else
    bz_ci (x_M_isIn n a2 (-100) 100 μ1) fun v6 μ5 =>
    if v6 = 0 then
      bz_pI μ5 a0 10 11 2 fun μ7 =>
      bz_fI μ7 a0 10 11 fun v8 =>
      if (0 : Int) < v8 then rI 0 μ7 else
      x_M_smear_0 n a0 a1 a2 0 1 μ7
    else
    bz_pI μ5 a0 10 11 0 fun μ9 =>
    bz_fI μ9 a0 10 11 fun v10 =>
    if (0 : Int) < v10 then rI 0 μ9 else
    x_M_smear_0 n a0 a1 a2 0 1 μ9 := rfl
set_option maxRecDepth 100000 in
theorem x_M_smear_0_eq (n : Nat) (x0 : Nat) (x1 : Int) (x2 : Int) (x3 : Int) (x4 : Int) (μ : bz_M) : x_M_smear_0 (n + 1) x0 x1 x2 x3 x4 μ =
    bz_fR μ x0 10 1 fun v1 =>
    bz_rI μ v1 x1 fun v2 =>
    if x4 < wr (v2 - 1) then
      bz_fR μ x0 10 0 fun v3 =>
      bz_rI μ v3 (wr ((wr (129 * x1)) + x4)) fun v4 =>
      if Int.tmod x4 2 = 1 then
        bz_ci (x_M_isWidth n (wr (v4 + x2)) 1 μ) fun v6 μ5 =>
        if v6 = 0 then
          bz_fR μ5 x0 10 0 fun v7 =>
          if wr (v4 + x2) < 1 then
            bz_wI μ5 v7 (wr ((wr (129 * x1)) + x4)) 1 fun μ8 =>
            x_M_smear_0 n x0 x1 x2 (wr (x3 + 1)) (wr (x4 + 1)) μ8
          else
          if (10000 : Int) < wr (v4 + x2) then
            bz_wI μ5 v7 (wr ((wr (129 * x1)) + x4)) 10000 fun μ9 =>
            x_M_smear_0 n x0 x1 x2 (wr (x3 + 1)) (wr (x4 + 1)) μ9
          else
          bz_wI μ5 v7 (wr ((wr (129 * x1)) + x4)) (wr (v4 + x2)) fun μ10 =>
          x_M_smear_0 n x0 x1 x2 (wr (x3 + 1)) (wr (x4 + 1)) μ10
        else
        bz_fR μ5 x0 10 0 fun v11 =>
        if wr (v4 + x2) < 1 then
          bz_wI μ5 v11 (wr ((wr (129 * x1)) + x4)) 1 fun μ12 =>
          x_M_smear_0 n x0 x1 x2 (wr (x3 + 0)) (wr (x4 + 1)) μ12
        else
        if (10000 : Int) < wr (v4 + x2) then
          bz_wI μ5 v11 (wr ((wr (129 * x1)) + x4)) 10000 fun μ13 =>
          x_M_smear_0 n x0 x1 x2 (wr (x3 + 0)) (wr (x4 + 1)) μ13
        else
        bz_wI μ5 v11 (wr ((wr (129 * x1)) + x4)) (wr (v4 + x2)) fun μ14 =>
        x_M_smear_0 n x0 x1 x2 (wr (x3 + 0)) (wr (x4 + 1)) μ14
      else
      bz_ci (x_M_isWidth n (wr (v4 + (wr (-x2)))) 1 μ) fun v16 μ15 =>
      if v16 = 0 then
        bz_fR μ15 x0 10 0 fun v17 =>
        if wr (v4 + (wr (-x2))) < 1 then
          bz_wI μ15 v17 (wr ((wr (129 * x1)) + x4)) 1 fun μ18 =>
          x_M_smear_0 n x0 x1 x2 (wr (x3 + 1)) (wr (x4 + 1)) μ18
        else
        if (10000 : Int) < wr (v4 + (wr (-x2))) then
          bz_wI μ15 v17 (wr ((wr (129 * x1)) + x4)) 10000 fun μ19 =>
          x_M_smear_0 n x0 x1 x2 (wr (x3 + 1)) (wr (x4 + 1)) μ19
        else
        bz_wI μ15 v17 (wr ((wr (129 * x1)) + x4)) (wr (v4 + (wr (-x2)))) fun μ20 =>
        x_M_smear_0 n x0 x1 x2 (wr (x3 + 1)) (wr (x4 + 1)) μ20
      else
      bz_fR μ15 x0 10 0 fun v21 =>
      if wr (v4 + (wr (-x2))) < 1 then
        bz_wI μ15 v21 (wr ((wr (129 * x1)) + x4)) 1 fun μ22 =>
        x_M_smear_0 n x0 x1 x2 (wr (x3 + 0)) (wr (x4 + 1)) μ22
      else
      if (10000 : Int) < wr (v4 + (wr (-x2))) then
        bz_wI μ15 v21 (wr ((wr (129 * x1)) + x4)) 10000 fun μ23 =>
        x_M_smear_0 n x0 x1 x2 (wr (x3 + 0)) (wr (x4 + 1)) μ23
      else
      bz_wI μ15 v21 (wr ((wr (129 * x1)) + x4)) (wr (v4 + (wr (-x2)))) fun μ24 =>
      x_M_smear_0 n x0 x1 x2 (wr (x3 + 0)) (wr (x4 + 1)) μ24
    else
    rI x3 μ := rfl
set_option maxRecDepth 100000 in
theorem x_M_average_eq (n : Nat) (a0 : Nat) (a1 : Int) (a2 : Int) (μ : bz_M) : x_M_average (n + 1) a0 a1 a2 μ =
    bz_ci (d_M_isScan n a0 a1 μ) fun v2 μ1 =>
    if v2 = 0 then
      bz_pI μ1 a0 10 11 1 fun μ3 =>
      x_M_average_0 n a0 a1 a2 0 μ3
    else
    bz_ci (d_M_isScan n a0 a2 μ1) fun v5 μ4 =>
    if v5 = 0 then
      bz_pI μ4 a0 10 11 1 fun μ6 =>
      x_M_average_0 n a0 a1 a2 0 μ6
    else
    bz_fR μ4 a0 10 1 fun v7 =>
    bz_rI μ4 v7 a1 fun v8 =>
    bz_fR μ4 a0 10 1 fun v9 =>
    bz_rI μ4 v9 a2 fun v10 =>
    if v8 = v10 then
      bz_pI μ4 a0 10 11 0 fun μ11 =>
      x_M_average_0 n a0 a1 a2 0 μ11
    else
    bz_pI μ4 a0 10 11 2 fun μ12 =>
    x_M_average_0 n a0 a1 a2 0 μ12 := rfl
set_option maxRecDepth 100000 in
theorem x_M_average_0_eq (n : Nat) (x0 : Nat) (x1 : Int) (x2 : Int) (x3 : Int) (μ : bz_M) : x_M_average_0 (n + 1) x0 x1 x2 x3 μ =
    bz_fI μ x0 10 11 fun v1 =>
    if v1 = 0 then
      bz_fR μ x0 10 1 fun v2 =>
      bz_rI μ v2 x1 fun v3 =>
      if x3 < v3 then
        bz_fR μ x0 10 0 fun v4 =>
        bz_fR μ x0 10 0 fun v5 =>
        bz_rI μ v5 (wr ((wr (129 * x1)) + x3)) fun v6 =>
        bz_fR μ x0 10 0 fun v7 =>
        bz_rI μ v7 (wr ((wr (129 * x2)) + x3)) fun v8 =>
        bz_wI μ v4 (wr ((wr (129 * x1)) + x3)) (wr (Int.tdiv (wr ((wr (v6 + v8)) + 1)) 2)) fun μ9 =>
        x_M_average_0 n x0 x1 x2 (wr (x3 + 1)) μ9
      else
      rI 0 μ
    else
    rI 0 μ := rfl
set_option maxRecDepth 100000 in
theorem x_M_removeScan_eq (n : Nat) (a0 : Nat) (a1 : Int) (μ : bz_M) : x_M_removeScan (n + 1) a0 a1 μ =
    bz_ci (d_M_isScan n a0 a1 μ) fun v2 μ1 =>
    if v2 = 0 then
      bz_pI μ1 a0 10 11 1 fun μ3 =>
      bz_fI μ3 a0 10 11 fun v4 =>
      if (0 : Int) < v4 then rI 0 μ3 else
      bz_fI μ3 a0 10 8 fun v5 =>
      bz_pI μ3 a0 10 8 (wr (v5 - 1)) fun μ6 =>
      x_M_removeScan_0 n a0 a1 a1 μ6
    else
    bz_pI μ1 a0 10 11 0 fun μ7 =>
    bz_fI μ7 a0 10 11 fun v8 =>
    if (0 : Int) < v8 then rI 0 μ7 else
    bz_fI μ7 a0 10 8 fun v9 =>
    bz_pI μ7 a0 10 8 (wr (v9 - 1)) fun μ10 =>
    x_M_removeScan_0 n a0 a1 a1 μ10 := rfl
set_option maxRecDepth 100000 in
theorem x_M_removeScan_0_eq (n : Nat) (x0 : Nat) (x1 : Int) (x2 : Int) (μ : bz_M) : x_M_removeScan_0 (n + 1) x0 x1 x2 μ =
    bz_fI μ x0 10 8 fun v1 =>
    if x2 < v1 then
      bz_fR μ x0 10 1 fun v2 =>
      bz_fR μ x0 10 1 fun v3 =>
      bz_rI μ v3 (wr (x2 + 1)) fun v4 =>
      bz_wI μ v2 x2 v4 fun μ5 =>
      x_M_removeScan_0 n x0 x1 (wr (x2 + 1)) μ5
    else
    x_M_removeScan_1 n x0 (wr (129 * x1)) μ := rfl
set_option maxRecDepth 100000 in
theorem x_M_removeScan_1_eq (n : Nat) (x0 : Nat) (x2 : Int) (μ : bz_M) : x_M_removeScan_1 (n + 1) x0 x2 μ =
    bz_fI μ x0 10 8 fun v1 =>
    if x2 < wr (129 * v1) then
      bz_fR μ x0 10 0 fun v2 =>
      bz_fR μ x0 10 0 fun v3 =>
      bz_rI μ v3 (wr (x2 + 129)) fun v4 =>
      bz_wI μ v2 x2 v4 fun μ5 =>
      x_M_removeScan_1 n x0 (wr (x2 + 1)) μ5
    else
    bz_fI μ x0 10 8 fun v6 =>
    rI v6 μ := rfl
set_option maxRecDepth 100000 in
theorem x_M_read_eq (n : Nat) (a0 : Nat) (a1 : Int) (a2 : Int) (μ : bz_M) : x_M_read (n + 1) a0 a1 a2 μ =
    bz_ci (d_M_reads n a0 a1 a2 μ) fun v2 μ1 =>
    if v2 = 0 then rI 0 μ1 else
    bz_ci (d_M_manyOf n a0 a1 0 μ1) fun v4 μ3 =>
    rI v4 μ3 := rfl
set_option maxRecDepth 100000 in
theorem x_M_reads_eq (n : Nat) (a0 : Nat) (a1 : Int) (a2 : Int) (μ : bz_M) : x_M_reads (n + 1) a0 a1 a2 μ =
    bz_ci (d_M_isScan n a0 a1 μ) fun v2 μ1 =>
    if v2 = 0 then
      bz_pI μ1 a0 10 11 1 fun μ3 =>
      bz_fI μ3 a0 10 11 fun v4 =>
      if v4 = 0 then
        bz_cv (d_M_readsScan n a0 a1 a2 μ3) fun μ5 =>
        bz_fI μ5 a0 10 11 fun v6 =>
        if v6 = 0 then rI 1 μ5 else
        rI 0 μ5
      else
      bz_fI μ3 a0 10 11 fun v7 =>
      if v7 = 0 then rI 1 μ3 else
      rI 0 μ3
    else
    bz_ci (x_M_isSymbology n a2 μ1) fun v9 μ8 =>
    if v9 = 0 then
      bz_pI μ8 a0 10 11 1 fun μ10 =>
      bz_fI μ10 a0 10 11 fun v11 =>
      if v11 = 0 then
        bz_cv (d_M_readsScan n a0 a1 a2 μ10) fun μ12 =>
        bz_fI μ12 a0 10 11 fun v13 =>
        if v13 = 0 then rI 1 μ12 else
        rI 0 μ12
      else
      bz_fI μ10 a0 10 11 fun v14 =>
      if v14 = 0 then rI 1 μ10 else
      rI 0 μ10
    else
    bz_pI μ8 a0 10 11 0 fun μ15 =>
    bz_fI μ15 a0 10 11 fun v16 =>
    if v16 = 0 then
      bz_cv (d_M_readsScan n a0 a1 a2 μ15) fun μ17 =>
      bz_fI μ17 a0 10 11 fun v18 =>
      if v18 = 0 then rI 1 μ17 else
      rI 0 μ17
    else
    bz_fI μ15 a0 10 11 fun v19 =>
    if v19 = 0 then rI 1 μ15 else
    rI 0 μ15 := rfl
set_option maxRecDepth 100000 in
theorem x_M_readsScan_eq (n : Nat) (a0 : Nat) (a1 : Int) (a2 : Int) (μ : bz_M) : x_M_readsScan (n + 1) a0 a1 a2 μ =
    x_M_readsScan_0 n a0 a1 a2 0 μ := rfl
set_option maxRecDepth 100000 in
theorem x_M_readsScan_0_eq (n : Nat) (x0 : Nat) (x1 : Int) (x2 : Int) (x3 : Int) (μ : bz_M) : x_M_readsScan_0 (n + 1) x0 x1 x2 x3 μ =
    if x3 < 3 then
      bz_fR μ x0 10 22 fun v1 =>
      bz_wI μ v1 (wr ((wr (3 * x1)) + x3)) 0 fun μ2 =>
      x_M_readsScan_0 n x0 x1 x2 (wr (x3 + 1)) μ2
    else
    bz_fR μ x0 10 25 fun v3 =>
    bz_wB μ v3 x1 0 fun μ4 =>
    bz_cv (d_M_laysRow n x0 x1 0 μ4) fun μ5 =>
    bz_ci (d_M_isWhole n x0 x1 x2 μ5) fun v7 μ6 =>
    if v7 = 0 then
      bz_cv (d_M_laysRow n x0 x1 1 μ6) fun μ8 =>
      bz_fR μ8 x0 10 25 fun v9 =>
      bz_wB μ8 v9 x1 1 fun μ10 =>
      bz_ci (d_M_isWhole n x0 x1 x2 μ10) fun v12 μ11 =>
      if v12 = 0 then
        bz_cv (d_M_laysRow n x0 x1 0 μ11) fun μ13 =>
        bz_fR μ13 x0 10 25 fun v14 =>
        bz_wB μ13 v14 x1 0 fun μ15 =>
        bz_ci (d_M_hasParts n x0 x1 x2 μ15) fun v17 μ16 =>
        if v17 = 0 then
          bz_cv (d_M_laysRow n x0 x1 1 μ16) fun μ18 =>
          bz_fR μ18 x0 10 25 fun v19 =>
          bz_ci (d_M_hasParts n x0 x1 x2 μ18) fun v21 μ20 =>
          bz_wB μ20 v19 x1 v21 fun μ22 =>
          rI 0 μ22
        else
        rI 0 μ16
      else
      rI 0 μ11
    else
    rI 0 μ6 := rfl
set_option maxRecDepth 100000 in
theorem x_M_isWhole_eq (n : Nat) (a0 : Nat) (a1 : Int) (a2 : Int) (μ : bz_M) : x_M_isWhole (n + 1) a0 a1 a2 μ =
    x_M_isWhole_0 n a0 a1 a2 1 μ := rfl
set_option maxRecDepth 100000 in
theorem x_M_isWhole_0_eq (n : Nat) (x0 : Nat) (x1 : Int) (x2 : Int) (x3 : Int) (μ : bz_M) : x_M_isWhole_0 (n + 1) x0 x1 x2 x3 μ =
    bz_fI μ x0 10 16 fun v1 =>
    if x3 < v1 then
      bz_ci (d_M_isWholeFrom n x0 x2 x3 μ) fun v3 μ2 =>
      if v3 = 0 then x_M_isWhole_0 n x0 x1 x2 (wr (x3 + 2)) μ2 else
      bz_cv (d_M_keeps n x0 x1 0 μ2) fun μ4 =>
      bz_fR μ4 x0 10 26 fun v5 =>
      bz_wI μ4 v5 x1 x3 fun μ6 =>
      rI 1 μ6
    else
    rI 0 μ := rfl
set_option maxRecDepth 100000 in
theorem x_M_isWholeFrom_eq (n : Nat) (a0 : Nat) (a1 : Int) (a2 : Int) (μ : bz_M) : x_M_isWholeFrom (n + 1) a0 a1 a2 μ =
    bz_pI μ a0 10 19 0 fun μ1 =>
    bz_ci (d_M_isBeginning n a0 a1 a2 μ1) fun v3 μ2 =>
    if v3 = 0 then rI 0 μ2 else
    if a1 = 0 then
      bz_ci (d_M_isWholeEan n a0 a2 μ2) fun v5 μ4 =>
      if v5 = 0 then rI 0 μ4 else
      rI 1 μ4
    else
    if a1 = 1 then
      bz_ci (d_M_isWholePairs n a0 a2 μ2) fun v7 μ6 =>
      if v7 = 0 then rI 0 μ6 else
      rI 1 μ6
    else
    bz_ci (d_M_isWholeCodabar n a0 a2 μ2) fun v9 μ8 =>
    if v9 = 0 then rI 0 μ8 else
    rI 1 μ8 := rfl
set_option maxRecDepth 100000 in
theorem x_M_isBeginning_eq (n : Nat) (a0 : Nat) (a1 : Int) (a2 : Int) (μ : bz_M) : x_M_isBeginning (n + 1) a0 a1 a2 μ =
    bz_ci (x_M_startOf n a1 μ) fun v2 μ1 =>
    bz_ci (d_M_exists n a0 a2 v2 μ1) fun v4 μ3 =>
    if v4 = 0 then rI 0 μ3 else
    if a1 = 2 then
      bz_ci (d_M_sevenAt n a0 a2 μ3) fun v6 μ5 =>
      if v6 < 16 then rI 0 μ5 else
      bz_fR μ5 a0 10 15 fun v7 =>
      bz_rI μ5 v7 (wr (a2 - 1)) fun v8 =>
      bz_ci (d_M_leastOf n a0 a2 v2 μ5) fun v10 μ9 =>
      if v8 < wr (5 * v10) then rI 0 μ9 else
      rI 1 μ9
    else
    bz_ci (d_M_areEven n a0 a2 v2 μ3) fun v12 μ11 =>
    if v12 = 0 then rI 0 μ11 else
    bz_fR μ11 a0 10 15 fun v13 =>
    bz_rI μ11 v13 (wr (a2 - 1)) fun v14 =>
    bz_ci (d_M_leastOf n a0 a2 v2 μ11) fun v16 μ15 =>
    if v14 < wr (5 * v16) then rI 0 μ15 else
    rI 1 μ15 := rfl
set_option maxRecDepth 100000 in
theorem x_M_startOf_eq (n : Nat) (a0 : Int) (μ : bz_M) : x_M_startOf (n + 1) a0 μ =
    if a0 = 0 then rI 3 μ else
    if a0 = 1 then rI 4 μ else
    rI 7 μ := rfl
set_option maxRecDepth 100000 in
theorem x_M_exists_eq (n : Nat) (a0 : Nat) (a1 : Int) (a2 : Int) (μ : bz_M) : x_M_exists (n + 1) a0 a1 a2 μ =
    if a1 < 0 then rI 0 μ else
    bz_fI μ a0 10 16 fun v1 =>
    if v1 < wr (a1 + a2) then rI 0 μ else
    rI 1 μ := rfl
set_option maxRecDepth 100000 in
theorem x_M_sevenAt_eq (n : Nat) (a0 : Nat) (a1 : Int) (μ : bz_M) : x_M_sevenAt (n + 1) a0 a1 μ =
    bz_ci (d_M_exists n a0 a1 7 μ) fun v2 μ1 =>
    if v2 = 0 then rI (-1) μ1 else
    bz_ci (d_M_readsWides n a0 a1 7 1 μ1) fun v4 μ3 =>
    if v4 = 0 then rI (-1) μ3 else
    x_M_sevenAt_0 n a0 0 μ3 := rfl
set_option maxRecDepth 100000 in
theorem x_M_sevenAt_0_eq (n : Nat) (x0 : Nat) (x2 : Int) (μ : bz_M) : x_M_sevenAt_0 (n + 1) x0 x2 μ =
    if x2 < 20 then
      bz_fR μ x0 10 7 fun v1 =>
      bz_rI μ v1 x2 fun v2 =>
      bz_fI μ x0 10 20 fun v3 =>
      if v2 = v3 then rI x2 μ else
      x_M_sevenAt_0 n x0 (wr (x2 + 1)) μ
    else
    rI (-1) μ := rfl
set_option maxRecDepth 100000 in
theorem x_M_readsWides_eq (n : Nat) (a0 : Nat) (a1 : Int) (a2 : Int) (a3 : Int) (μ : bz_M) : x_M_readsWides (n + 1) a0 a1 a2 a3 μ =
    bz_fR μ a0 10 15 fun v1 =>
    bz_rI μ v1 a1 fun v2 =>
    bz_fR μ a0 10 15 fun v3 =>
    bz_rI μ v3 a1 fun v4 =>
    x_M_readsWides_0 n a0 a1 a2 a3 v2 v4 0 μ := rfl
set_option maxRecDepth 100000 in
theorem x_M_readsWides_0_eq (n : Nat) (x0 : Nat) (x1 : Int) (x2 : Int) (x3 : Int) (x4 : Int) (x5 : Int) (x6 : Int) (μ : bz_M) : x_M_readsWides_0 (n + 1) x0 x1 x2 x3 x4 x5 x6 μ =
    if x6 < x2 then
      bz_fR μ x0 10 15 fun v1 =>
      bz_rI μ v1 (wr (x1 + (wr (x3 * x6)))) fun v2 =>
      if v2 < x4 then
        bz_fR μ x0 10 15 fun v3 =>
        bz_rI μ v3 (wr (x1 + (wr (x3 * x6)))) fun v4 =>
        bz_fR μ x0 10 15 fun v5 =>
        bz_rI μ v5 (wr (x1 + (wr (x3 * x6)))) fun v6 =>
        if x5 < v6 then
          bz_fR μ x0 10 15 fun v7 =>
          bz_rI μ v7 (wr (x1 + (wr (x3 * x6)))) fun v8 =>
          x_M_readsWides_0 n x0 x1 x2 x3 v4 v8 (wr (x6 + 1)) μ
        else
        x_M_readsWides_0 n x0 x1 x2 x3 v4 x5 (wr (x6 + 1)) μ
      else
      bz_fR μ x0 10 15 fun v9 =>
      bz_rI μ v9 (wr (x1 + (wr (x3 * x6)))) fun v10 =>
      if x5 < v10 then
        bz_fR μ x0 10 15 fun v11 =>
        bz_rI μ v11 (wr (x1 + (wr (x3 * x6)))) fun v12 =>
        x_M_readsWides_0 n x0 x1 x2 x3 x4 v12 (wr (x6 + 1)) μ
      else
      x_M_readsWides_0 n x0 x1 x2 x3 x4 x5 (wr (x6 + 1)) μ
    else
    if wr (2 * x5) < wr (3 * x4) then rI 0 μ else
    bz_pI μ x0 10 20 0 fun μ13 =>
    x_M_readsWides_1 n x0 x1 x2 x3 x4 x5 x5 x4 0 μ13 := rfl
set_option maxRecDepth 100000 in
theorem x_M_readsWides_1_eq (n : Nat) (x0 : Nat) (x1 : Int) (x2 : Int) (x3 : Int) (x4 : Int) (x5 : Int) (x6 : Int) (x7 : Int) (x8 : Int) (μ : bz_M) : x_M_readsWides_1 (n + 1) x0 x1 x2 x3 x4 x5 x6 x7 x8 μ =
    if x8 < x2 then
      bz_fR μ x0 10 15 fun v1 =>
      bz_rI μ v1 (wr (x1 + (wr (x3 * x8)))) fun v2 =>
      if wr (x4 + x5) < wr (2 * v2) then
        bz_fI μ x0 10 20 fun v3 =>
        bz_pI μ x0 10 20 (wr ((wr (2 * v3)) + 1)) fun μ4 =>
        if v2 < x6 then x_M_readsWides_1 n x0 x1 x2 x3 x4 x5 v2 x7 (wr (x8 + 1)) μ4 else
        x_M_readsWides_1 n x0 x1 x2 x3 x4 x5 x6 x7 (wr (x8 + 1)) μ4
      else
      bz_fI μ x0 10 20 fun v5 =>
      bz_pI μ x0 10 20 (wr ((wr (2 * v5)) + 0)) fun μ6 =>
      if x7 < v2 then x_M_readsWides_1 n x0 x1 x2 x3 x4 x5 x6 v2 (wr (x8 + 1)) μ6 else
      x_M_readsWides_1 n x0 x1 x2 x3 x4 x5 x6 x7 (wr (x8 + 1)) μ6
    else
    bz_dv (wr (150 * (wr (x6 - x7)))) x6 fun v7 =>
    bz_pI μ x0 10 21 v7 fun μ8 =>
    bz_fI μ8 x0 10 21 fun v9 =>
    if (100 : Int) < v9 then
      bz_pI μ8 x0 10 21 100 fun μ10 =>
      rI 1 μ10
    else
    bz_fI μ8 x0 10 21 fun v11 =>
    bz_pI μ8 x0 10 21 v11 fun μ12 =>
    rI 1 μ12 := rfl
set_option maxRecDepth 100000 in
theorem x_M_areEven_eq (n : Nat) (a0 : Nat) (a1 : Int) (a2 : Int) (μ : bz_M) : x_M_areEven (n + 1) a0 a1 a2 μ =
    x_M_areEven_0 n a0 a1 a2 0 a1 μ := rfl
set_option maxRecDepth 100000 in
theorem x_M_areEven_0_eq (n : Nat) (x0 : Nat) (x1 : Int) (x2 : Int) (x3 : Int) (x4 : Int) (μ : bz_M) : x_M_areEven_0 (n + 1) x0 x1 x2 x3 x4 μ =
    if x4 < wr (x1 + x2) then
      bz_fR μ x0 10 15 fun v1 =>
      bz_rI μ v1 x4 fun v2 =>
      if x3 < v2 then
        bz_fR μ x0 10 15 fun v3 =>
        bz_rI μ v3 x4 fun v4 =>
        x_M_areEven_0 n x0 x1 x2 v4 (wr (x4 + 1)) μ
      else
      x_M_areEven_0 n x0 x1 x2 x3 (wr (x4 + 1)) μ
    else
    bz_ci (d_M_leastOf n x0 x1 x2 μ) fun v6 μ5 =>
    if wr (2 * v6) < x3 then rI 0 μ5 else
    rI 1 μ5 := rfl
set_option maxRecDepth 100000 in
theorem x_M_leastOf_eq (n : Nat) (a0 : Nat) (a1 : Int) (a2 : Int) (μ : bz_M) : x_M_leastOf (n + 1) a0 a1 a2 μ =
    bz_fR μ a0 10 15 fun v1 =>
    bz_rI μ v1 a1 fun v2 =>
    x_M_leastOf_0 n a0 a1 a2 v2 a1 μ := rfl
set_option maxRecDepth 100000 in
theorem x_M_leastOf_0_eq (n : Nat) (x0 : Nat) (x1 : Int) (x2 : Int) (x3 : Int) (x4 : Int) (μ : bz_M) : x_M_leastOf_0 (n + 1) x0 x1 x2 x3 x4 μ =
    if x4 < wr (x1 + x2) then
      bz_fR μ x0 10 15 fun v1 =>
      bz_rI μ v1 x4 fun v2 =>
      if v2 < x3 then
        bz_fR μ x0 10 15 fun v3 =>
        bz_rI μ v3 x4 fun v4 =>
        x_M_leastOf_0 n x0 x1 x2 v4 (wr (x4 + 1)) μ
      else
      x_M_leastOf_0 n x0 x1 x2 x3 (wr (x4 + 1)) μ
    else
    rI x3 μ := rfl
set_option maxRecDepth 100000 in
theorem x_M_isWholeEan_eq (n : Nat) (a0 : Nat) (a1 : Int) (μ : bz_M) : x_M_isWholeEan (n + 1) a0 a1 μ =
    bz_ci (d_M_exists n a0 a1 44 μ) fun v2 μ1 =>
    if v2 = 0 then rI 0 μ1 else
    bz_ci (d_M_readsDigits n a0 (wr (a1 + 3)) μ1) fun v4 μ3 =>
    if v4 = 0 then rI 0 μ3 else
    bz_ci (d_M_areEven n a0 (wr (a1 + 19)) 5 μ3) fun v6 μ5 =>
    if v6 = 0 then rI 0 μ5 else
    bz_ci (d_M_readsDigits n a0 (wr (a1 + 24)) μ5) fun v8 μ7 =>
    if v8 = 0 then rI 0 μ7 else
    bz_ci (d_M_isEnd n a0 0 (wr (a1 + 42)) μ7) fun v10 μ9 =>
    if v10 = 0 then rI 0 μ9 else
    rI 1 μ9 := rfl
set_option maxRecDepth 100000 in
theorem x_M_readsDigits_eq (n : Nat) (a0 : Nat) (a1 : Int) (μ : bz_M) : x_M_readsDigits (n + 1) a0 a1 μ =
    x_M_readsDigits_0 n a0 a1 0 μ := rfl
set_option maxRecDepth 100000 in
theorem x_M_readsDigits_0_eq (n : Nat) (x0 : Nat) (x1 : Int) (x2 : Int) (μ : bz_M) : x_M_readsDigits_0 (n + 1) x0 x1 x2 μ =
    if x2 < 4 then
      bz_ci (d_M_readsDigit n x0 (wr (x1 + (wr (4 * x2)))) μ) fun v2 μ1 =>
      if v2 = 0 then rI 0 μ1 else
      x_M_readsDigits_0 n x0 x1 (wr (x2 + 1)) μ1
    else
    rI 1 μ := rfl
set_option maxRecDepth 100000 in
theorem x_M_readsDigit_eq (n : Nat) (a0 : Nat) (a1 : Int) (μ : bz_M) : x_M_readsDigit (n + 1) a0 a1 μ =
    bz_ci (d_M_exists n a0 a1 4 μ) fun v2 μ1 =>
    if v2 = 0 then rI 0 μ1 else
    bz_fR μ1 a0 10 15 fun v3 =>
    bz_rI μ1 v3 a1 fun v4 =>
    bz_fR μ1 a0 10 15 fun v5 =>
    bz_rI μ1 v5 (wr (a1 + 1)) fun v6 =>
    bz_fR μ1 a0 10 15 fun v7 =>
    bz_rI μ1 v7 (wr (a1 + 2)) fun v8 =>
    bz_fR μ1 a0 10 15 fun v9 =>
    bz_rI μ1 v9 (wr (a1 + 3)) fun v10 =>
    bz_fR μ1 a0 10 15 fun v11 =>
    bz_rI μ1 v11 a1 fun v12 =>
    bz_fR μ1 a0 10 15 fun v13 =>
    bz_rI μ1 v13 (wr (a1 + 1)) fun v14 =>
    bz_fR μ1 a0 10 15 fun v15 =>
    bz_rI μ1 v15 (wr (a1 + 1)) fun v16 =>
    bz_fR μ1 a0 10 15 fun v17 =>
    bz_rI μ1 v17 (wr (a1 + 2)) fun v18 =>
    bz_ci (x_M_rounded n (wr (7 * (wr (v12 + v14)))) (wr ((wr ((wr (v4 + v6)) + v8)) + v10)) μ1) fun v20 μ19 =>
    bz_ci (x_M_rounded n (wr (7 * (wr (v16 + v18)))) (wr ((wr ((wr (v4 + v6)) + v8)) + v10)) μ19) fun v22 μ21 =>
    bz_fR μ21 a0 10 15 fun v23 =>
    bz_rI μ21 v23 a1 fun v24 =>
    bz_fR μ21 a0 10 15 fun v25 =>
    bz_rI μ21 v25 (wr (a1 + 2)) fun v26 =>
    if wr (7 * (wr (v24 + v26))) < wr (3 * (wr ((wr ((wr (v4 + v6)) + v8)) + v10))) then
      bz_ci (x_M_digitBy n v20 v22 0 μ21) fun v28 μ27 =>
      if v28 = (-1) then rI 0 μ27 else
      bz_ci (x_M_apart n (wr (7 * (wr (v12 + v14)))) (wr (v20 * (wr ((wr ((wr (v4 + v6)) + v8)) + v10)))) μ27) fun v30 μ29 =>
      bz_ci (x_M_apart n (wr (7 * (wr (v16 + v18)))) (wr (v22 * (wr ((wr ((wr (v4 + v6)) + v8)) + v10)))) μ29) fun v32 μ31 =>
      if v32 < v30 then
        bz_dv (wr (200 * v30)) (wr ((wr ((wr (v4 + v6)) + v8)) + v10)) fun v33 =>
        bz_cv (d_M_signsOne n a0 (wr (48 + v28)) (wr (100 - v33)) μ31) fun μ34 =>
        rI 1 μ34
      else
      bz_dv (wr (200 * v32)) (wr ((wr ((wr (v4 + v6)) + v8)) + v10)) fun v35 =>
      bz_cv (d_M_signsOne n a0 (wr (48 + v28)) (wr (100 - v35)) μ31) fun μ36 =>
      rI 1 μ36
    else
    bz_ci (x_M_digitBy n v20 v22 1 μ21) fun v38 μ37 =>
    if v38 = (-1) then rI 0 μ37 else
    bz_ci (x_M_apart n (wr (7 * (wr (v12 + v14)))) (wr (v20 * (wr ((wr ((wr (v4 + v6)) + v8)) + v10)))) μ37) fun v40 μ39 =>
    bz_ci (x_M_apart n (wr (7 * (wr (v16 + v18)))) (wr (v22 * (wr ((wr ((wr (v4 + v6)) + v8)) + v10)))) μ39) fun v42 μ41 =>
    if v42 < v40 then
      bz_dv (wr (200 * v40)) (wr ((wr ((wr (v4 + v6)) + v8)) + v10)) fun v43 =>
      bz_cv (d_M_signsOne n a0 (wr (48 + v38)) (wr (100 - v43)) μ41) fun μ44 =>
      rI 1 μ44
    else
    bz_dv (wr (200 * v42)) (wr ((wr ((wr (v4 + v6)) + v8)) + v10)) fun v45 =>
    bz_cv (d_M_signsOne n a0 (wr (48 + v38)) (wr (100 - v45)) μ41) fun μ46 =>
    rI 1 μ46 := rfl
set_option maxRecDepth 100000 in
theorem x_M_rounded_eq (n : Nat) (a0 : Int) (a1 : Int) (μ : bz_M) : x_M_rounded (n + 1) a0 a1 μ =
    bz_dv (wr ((wr (2 * a0)) + a1)) (wr (2 * a1)) fun v1 =>
    rI v1 μ := rfl
set_option maxRecDepth 100000 in
theorem x_M_digitBy_eq (n : Nat) (a0 : Int) (a1 : Int) (a2 : Int) (μ : bz_M) : x_M_digitBy (n + 1) a0 a1 a2 μ =
    if wr ((wr (10 * a0)) + a1) = 22 then rI 6 μ else
    if wr ((wr (10 * a0)) + a1) = 24 then rI 4 μ else
    if wr ((wr (10 * a0)) + a1) = 33 then
      if a2 = 0 then rI 8 μ else
      rI 2 μ
    else
    if wr ((wr (10 * a0)) + a1) = 35 then rI 5 μ else
    if wr ((wr (10 * a0)) + a1) = 42 then rI 9 μ else
    if wr ((wr (10 * a0)) + a1) = 44 then
      if a2 = 0 then rI 7 μ else
      rI 1 μ
    else
    if wr ((wr (10 * a0)) + a1) = 53 then rI 0 μ else
    if wr ((wr (10 * a0)) + a1) = 55 then rI 3 μ else
    rI (-1) μ := rfl
set_option maxRecDepth 100000 in
theorem x_M_apart_eq (n : Nat) (a0 : Int) (a1 : Int) (μ : bz_M) : x_M_apart (n + 1) a0 a1 μ =
    if a1 < a0 then rI (wr (a0 - a1)) μ else
    rI (wr (a1 - a0)) μ := rfl
set_option maxRecDepth 100000 in
theorem x_M_signsOne_eq (n : Nat) (a0 : Nat) (a1 : Int) (a2 : Int) (μ : bz_M) : x_M_signsOne (n + 1) a0 a1 a2 μ =
    bz_fR μ a0 10 17 fun v1 =>
    bz_fI μ a0 10 19 fun v2 =>
    bz_wI μ v1 v2 a1 fun μ3 =>
    bz_fR μ3 a0 10 18 fun v4 =>
    bz_fI μ3 a0 10 19 fun v5 =>
    bz_wI μ3 v4 v5 a2 fun μ6 =>
    bz_fI μ6 a0 10 19 fun v7 =>
    bz_pI μ6 a0 10 19 (wr (v7 + 1)) fun μ8 =>
    rI 0 μ8 := rfl
set_option maxRecDepth 100000 in
theorem x_M_isEnd_eq (n : Nat) (a0 : Nat) (a1 : Int) (a2 : Int) (μ : bz_M) : x_M_isEnd (n + 1) a0 a1 a2 μ =
    bz_ci (x_M_stopOf n a1 μ) fun v2 μ1 =>
    bz_ci (d_M_exists n a0 (wr ((wr (a2 - v2)) + 1)) (wr (v2 + 1)) μ1) fun v4 μ3 =>
    if v4 = 0 then rI 0 μ3 else
    if a1 = 0 then
      bz_ci (d_M_areEven n a0 (wr ((wr (a2 - v2)) + 1)) 3 μ3) fun v6 μ5 =>
      if v6 = 0 then rI 0 μ5 else
      bz_fR μ5 a0 10 15 fun v7 =>
      bz_rI μ5 v7 (wr (a2 + 1)) fun v8 =>
      bz_ci (d_M_leastOf n a0 (wr ((wr (a2 - v2)) + 1)) v2 μ5) fun v10 μ9 =>
      if v8 < wr (5 * v10) then rI 0 μ9 else
      rI 1 μ9
    else
    if a1 = 2 then
      bz_ci (d_M_sevenAt n a0 (wr ((wr (a2 - v2)) + 1)) μ3) fun v12 μ11 =>
      if v12 < 16 then rI 0 μ11 else
      bz_fR μ11 a0 10 15 fun v13 =>
      bz_rI μ11 v13 (wr (a2 + 1)) fun v14 =>
      bz_ci (d_M_leastOf n a0 (wr ((wr (a2 - v2)) + 1)) v2 μ11) fun v16 μ15 =>
      if v14 < wr (5 * v16) then rI 0 μ15 else
      rI 1 μ15
    else
    bz_fR μ3 a0 10 15 fun v17 =>
    bz_rI μ3 v17 (wr ((wr (a2 - v2)) + 1)) fun v18 =>
    bz_fR μ3 a0 10 15 fun v19 =>
    bz_rI μ3 v19 (wr ((wr ((wr (a2 - v2)) + 1)) + 1)) fun v20 =>
    if wr (2 * v18) < wr (3 * v20) then rI 0 μ3 else
    bz_fR μ3 a0 10 15 fun v21 =>
    bz_rI μ3 v21 (wr ((wr (a2 - v2)) + 1)) fun v22 =>
    bz_fR μ3 a0 10 15 fun v23 =>
    bz_rI μ3 v23 (wr ((wr ((wr (a2 - v2)) + 1)) + 2)) fun v24 =>
    if wr (2 * v22) < wr (3 * v24) then rI 0 μ3 else
    bz_fR μ3 a0 10 15 fun v25 =>
    bz_rI μ3 v25 (wr (a2 + 1)) fun v26 =>
    bz_ci (d_M_leastOf n a0 (wr ((wr (a2 - v2)) + 1)) v2 μ3) fun v28 μ27 =>
    if v26 < wr (5 * v28) then rI 0 μ27 else
    rI 1 μ27 := rfl
set_option maxRecDepth 100000 in
theorem x_M_stopOf_eq (n : Nat) (a0 : Int) (μ : bz_M) : x_M_stopOf (n + 1) a0 μ =
    if a0 = 2 then rI 7 μ else
    rI 3 μ := rfl
set_option maxRecDepth 100000 in
theorem x_M_isWholePairs_eq (n : Nat) (a0 : Nat) (a1 : Int) (μ : bz_M) : x_M_isWholePairs (n + 1) a0 a1 μ =
    x_M_isWholePairs_0 n a0 a1 0 μ := rfl
set_option maxRecDepth 100000 in
theorem x_M_isWholePairs_0_eq (n : Nat) (x0 : Nat) (x1 : Int) (x2 : Int) (μ : bz_M) : x_M_isWholePairs_0 (n + 1) x0 x1 x2 μ =
    if x2 < 7 then
      bz_ci (d_M_readsPair n x0 (wr ((wr (x1 + 4)) + (wr (10 * x2)))) μ) fun v2 μ1 =>
      if v2 = 0 then rI 0 μ1 else
      bz_ci (d_M_isEnd n x0 1 (wr ((wr (x1 + 16)) + (wr (10 * x2)))) μ1) fun v4 μ3 =>
      if v4 = 0 then x_M_isWholePairs_0 n x0 x1 (wr (x2 + 1)) μ3 else
      rI 1 μ3
    else
    rI 0 μ := rfl
set_option maxRecDepth 100000 in
theorem x_M_readsPair_eq (n : Nat) (a0 : Nat) (a1 : Int) (μ : bz_M) : x_M_readsPair (n + 1) a0 a1 μ =
    bz_ci (d_M_exists n a0 a1 10 μ) fun v2 μ1 =>
    if v2 = 0 then rI 0 μ1 else
    bz_ci (d_M_readsFive n a0 a1 μ1) fun v4 μ3 =>
    if v4 = 0 then rI 0 μ3 else
    bz_ci (d_M_readsFive n a0 (wr (a1 + 1)) μ3) fun v6 μ5 =>
    if v6 = 0 then
      bz_fI μ5 a0 10 19 fun v7 =>
      bz_pI μ5 a0 10 19 (wr (v7 - 1)) fun μ8 =>
      rI 0 μ8
    else
    rI 1 μ5 := rfl
set_option maxRecDepth 100000 in
theorem x_M_readsFive_eq (n : Nat) (a0 : Nat) (a1 : Int) (μ : bz_M) : x_M_readsFive (n + 1) a0 a1 μ =
    bz_ci (d_M_readsWides n a0 a1 5 2 μ) fun v2 μ1 =>
    if v2 = 0 then rI 0 μ1 else
    x_M_readsFive_0 n a0 0 μ1 := rfl
set_option maxRecDepth 100000 in
theorem x_M_readsFive_0_eq (n : Nat) (x0 : Nat) (x2 : Int) (μ : bz_M) : x_M_readsFive_0 (n + 1) x0 x2 μ =
    if x2 < 10 then
      bz_fR μ x0 10 6 fun v1 =>
      bz_rI μ v1 x2 fun v2 =>
      bz_fI μ x0 10 20 fun v3 =>
      if v2 = v3 then
        bz_fI μ x0 10 21 fun v4 =>
        bz_cv (d_M_signsOne n x0 (wr (48 + x2)) v4 μ) fun μ5 =>
        rI 1 μ5
      else
      x_M_readsFive_0 n x0 (wr (x2 + 1)) μ
    else
    rI 0 μ := rfl
set_option maxRecDepth 100000 in
theorem x_M_isWholeCodabar_eq (n : Nat) (a0 : Nat) (a1 : Int) (μ : bz_M) : x_M_isWholeCodabar (n + 1) a0 a1 μ =
    bz_ci (d_M_readsSeven n a0 a1 1 μ) fun v2 μ1 =>
    if v2 = 0 then rI 0 μ1 else
    x_M_isWholeCodabar_0 n a0 (wr (a1 + 8)) μ1 := rfl
set_option maxRecDepth 100000 in
theorem x_M_isWholeCodabar_0_eq (n : Nat) (x0 : Nat) (x2 : Int) (μ : bz_M) : x_M_isWholeCodabar_0 (n + 1) x0 x2 μ =
    bz_fI μ x0 10 19 fun v1 =>
    if v1 < 15 then
      bz_ci (d_M_readsSeven n x0 x2 0 μ) fun v3 μ2 =>
      if v3 = 0 then
        bz_fI μ2 x0 10 19 fun v4 =>
        if (1 : Int) < v4 then
          bz_ci (d_M_readsSeven n x0 x2 1 μ2) fun v6 μ5 =>
          if v6 = 0 then rI 0 μ5 else
          bz_ci (d_M_isEnd n x0 2 (wr (x2 + 6)) μ5) fun v8 μ7 =>
          if v8 = 0 then rI 0 μ7 else
          rI 1 μ7
        else
        rI 0 μ2
      else
      x_M_isWholeCodabar_0 n x0 (wr (x2 + 8)) μ2
    else
    bz_fI μ x0 10 19 fun v9 =>
    if (1 : Int) < v9 then
      bz_ci (d_M_readsSeven n x0 x2 1 μ) fun v11 μ10 =>
      if v11 = 0 then rI 0 μ10 else
      bz_ci (d_M_isEnd n x0 2 (wr (x2 + 6)) μ10) fun v13 μ12 =>
      if v13 = 0 then rI 0 μ12 else
      rI 1 μ12
    else
    rI 0 μ := rfl
set_option maxRecDepth 100000 in
theorem x_M_readsSeven_eq (n : Nat) (a0 : Nat) (a1 : Int) (a2 : Int) (μ : bz_M) : x_M_readsSeven (n + 1) a0 a1 a2 μ =
    bz_ci (d_M_sevenAt n a0 a1 μ) fun v2 μ1 =>
    if v2 = (-1) then rI 0 μ1 else
    if v2 < 16 then
      if a2 = 0 then
        bz_ci (d_Str_charAt n 6 v2 μ1) fun v4 μ3 =>
        bz_fI μ3 a0 10 21 fun v5 =>
        bz_cv (d_M_signsOne n a0 v4 v5 μ3) fun μ6 =>
        rI 1 μ6
      else
      rI 0 μ1
    else
    if a2 = 1 then
      bz_ci (d_Str_charAt n 6 v2 μ1) fun v8 μ7 =>
      bz_fI μ7 a0 10 21 fun v9 =>
      bz_cv (d_M_signsOne n a0 v8 v9 μ7) fun μ10 =>
      rI 1 μ10
    else
    rI 0 μ1 := rfl
set_option maxRecDepth 100000 in
theorem x_M_keeps_eq (n : Nat) (a0 : Nat) (a1 : Int) (a2 : Int) (μ : bz_M) : x_M_keeps (n + 1) a0 a1 a2 μ =
    bz_fR μ a0 10 22 fun v1 =>
    bz_fI μ a0 10 19 fun v2 =>
    bz_wI μ v1 (wr ((wr (3 * a1)) + a2)) v2 fun μ3 =>
    x_M_keeps_0 n a0 a1 a2 0 μ3 := rfl
set_option maxRecDepth 100000 in
theorem x_M_keeps_0_eq (n : Nat) (x0 : Nat) (x1 : Int) (x2 : Int) (x3 : Int) (μ : bz_M) : x_M_keeps_0 (n + 1) x0 x1 x2 x3 μ =
    bz_fI μ x0 10 19 fun v1 =>
    if x3 < v1 then
      bz_fR μ x0 10 23 fun v2 =>
      bz_fR μ x0 10 17 fun v3 =>
      bz_rI μ v3 x3 fun v4 =>
      bz_wI μ v2 (wr ((wr (16 * (wr ((wr (3 * x1)) + x2)))) + x3)) v4 fun μ5 =>
      bz_fR μ5 x0 10 24 fun v6 =>
      bz_fR μ5 x0 10 18 fun v7 =>
      bz_rI μ5 v7 x3 fun v8 =>
      bz_wI μ5 v6 (wr ((wr (16 * (wr ((wr (3 * x1)) + x2)))) + x3)) v8 fun μ9 =>
      x_M_keeps_0 n x0 x1 x2 (wr (x3 + 1)) μ9
    else
    rI 0 μ := rfl
set_option maxRecDepth 100000 in
theorem x_M_hasParts_eq (n : Nat) (a0 : Nat) (a1 : Int) (a2 : Int) (μ : bz_M) : x_M_hasParts (n + 1) a0 a1 a2 μ =
    x_M_hasParts_0 n a0 a1 a2 1 μ := rfl
set_option maxRecDepth 100000 in
theorem x_M_hasParts_0_eq (n : Nat) (x0 : Nat) (x1 : Int) (x2 : Int) (x3 : Int) (μ : bz_M) : x_M_hasParts_0 (n + 1) x0 x1 x2 x3 μ =
    bz_fI μ x0 10 16 fun v1 =>
    if x3 < v1 then
      bz_fR μ x0 10 22 fun v2 =>
      bz_rI μ v2 (wr ((wr (3 * x1)) + 1)) fun v3 =>
      if v3 = 0 then
        bz_cv (d_M_readsHead n x0 x2 x3 μ) fun μ4 =>
        bz_fI μ4 x0 10 19 fun v5 =>
        if (1 : Int) < v5 then
          bz_cv (d_M_keeps n x0 x1 1 μ4) fun μ6 =>
          x_M_hasParts_0 n x0 x1 x2 (wr (x3 + 2)) μ6
        else
        x_M_hasParts_0 n x0 x1 x2 (wr (x3 + 2)) μ4
      else
      bz_fI μ x0 10 16 fun v7 =>
      x_M_hasParts_1 n x0 x1 x2 (wr (v7 - 2)) μ
    else
    bz_fI μ x0 10 16 fun v8 =>
    x_M_hasParts_1 n x0 x1 x2 (wr (v8 - 2)) μ := rfl
set_option maxRecDepth 100000 in
theorem x_M_hasParts_1_eq (n : Nat) (x0 : Nat) (x1 : Int) (x2 : Int) (x3 : Int) (μ : bz_M) : x_M_hasParts_1 (n + 1) x0 x1 x2 x3 μ =
    if (0 : Int) < x3 then
      bz_fR μ x0 10 22 fun v1 =>
      bz_rI μ v1 (wr ((wr (3 * x1)) + 2)) fun v2 =>
      if v2 = 0 then
        bz_cv (d_M_readsTail n x0 x2 x3 μ) fun μ3 =>
        bz_fI μ3 x0 10 19 fun v4 =>
        if (1 : Int) < v4 then
          bz_cv (d_M_keeps n x0 x1 2 μ3) fun μ5 =>
          x_M_hasParts_1 n x0 x1 x2 (wr (x3 + (-2))) μ5
        else
        x_M_hasParts_1 n x0 x1 x2 (wr (x3 + (-2))) μ3
      else
      bz_fR μ x0 10 22 fun v6 =>
      bz_rI μ v6 (wr ((wr (3 * x1)) + 1)) fun v7 =>
      if (0 : Int) < v7 then rI 1 μ else
      bz_fR μ x0 10 22 fun v8 =>
      bz_rI μ v8 (wr ((wr (3 * x1)) + 2)) fun v9 =>
      if (0 : Int) < v9 then rI 1 μ else
      rI 0 μ
    else
    bz_fR μ x0 10 22 fun v10 =>
    bz_rI μ v10 (wr ((wr (3 * x1)) + 1)) fun v11 =>
    if (0 : Int) < v11 then rI 1 μ else
    bz_fR μ x0 10 22 fun v12 =>
    bz_rI μ v12 (wr ((wr (3 * x1)) + 2)) fun v13 =>
    if (0 : Int) < v13 then rI 1 μ else
    rI 0 μ := rfl
set_option maxRecDepth 100000 in
theorem x_M_readsHead_eq (n : Nat) (a0 : Nat) (a1 : Int) (a2 : Int) (μ : bz_M) : x_M_readsHead (n + 1) a0 a1 a2 μ =
    bz_pI μ a0 10 19 0 fun μ1 =>
    bz_ci (d_M_isBeginning n a0 a1 a2 μ1) fun v3 μ2 =>
    if v3 = 0 then rI 0 μ2 else
    if a1 = 0 then x_M_readsHead_0 n a0 a2 0 μ2 else
    if a1 = 1 then x_M_readsHead_1 n a0 a2 0 μ2 else
    bz_ci (d_M_readsSeven n a0 a2 1 μ2) fun v5 μ4 =>
    if v5 = 0 then rI 0 μ4 else
    x_M_readsHead_2 n a0 a2 0 μ4 := rfl
set_option maxRecDepth 100000 in
theorem x_M_readsHead_0_eq (n : Nat) (x0 : Nat) (x2 : Int) (x3 : Int) (μ : bz_M) : x_M_readsHead_0 (n + 1) x0 x2 x3 μ =
    if x3 < 4 then
      bz_ci (d_M_readsDigit n x0 (wr ((wr (x2 + 3)) + (wr (4 * x3)))) μ) fun v2 μ1 =>
      if v2 = 0 then rI 0 μ1 else
      x_M_readsHead_0 n x0 x2 (wr (x3 + 1)) μ1
    else
    rI 0 μ := rfl
set_option maxRecDepth 100000 in
theorem x_M_readsHead_1_eq (n : Nat) (x0 : Nat) (x2 : Int) (x3 : Int) (μ : bz_M) : x_M_readsHead_1 (n + 1) x0 x2 x3 μ =
    if x3 < 7 then
      bz_ci (d_M_readsPair n x0 (wr ((wr (x2 + 4)) + (wr (10 * x3)))) μ) fun v2 μ1 =>
      if v2 = 0 then rI 0 μ1 else
      x_M_readsHead_1 n x0 x2 (wr (x3 + 1)) μ1
    else
    rI 0 μ := rfl
set_option maxRecDepth 100000 in
theorem x_M_readsHead_2_eq (n : Nat) (x0 : Nat) (x2 : Int) (x3 : Int) (μ : bz_M) : x_M_readsHead_2 (n + 1) x0 x2 x3 μ =
    if x3 < 14 then
      bz_ci (d_M_readsSeven n x0 (wr ((wr (x2 + 8)) + (wr (8 * x3)))) 0 μ) fun v2 μ1 =>
      if v2 = 0 then rI 0 μ1 else
      x_M_readsHead_2 n x0 x2 (wr (x3 + 1)) μ1
    else
    rI 0 μ := rfl
set_option maxRecDepth 100000 in
theorem x_M_readsTail_eq (n : Nat) (a0 : Nat) (a1 : Int) (a2 : Int) (μ : bz_M) : x_M_readsTail (n + 1) a0 a1 a2 μ =
    bz_pI μ a0 10 19 0 fun μ1 =>
    bz_ci (d_M_isEnd n a0 a1 a2 μ1) fun v3 μ2 =>
    if v3 = 0 then rI 0 μ2 else
    bz_ci (d_M_partsTo n a0 a1 a2 μ2) fun v5 μ4 =>
    bz_pI μ4 a0 10 19 0 fun μ6 =>
    x_M_readsTail_0 n a0 a1 a2 (wr (v5 - 1)) μ6 := rfl
set_option maxRecDepth 100000 in
theorem x_M_readsTail_0_eq (n : Nat) (x0 : Nat) (x1 : Int) (x2 : Int) (x4 : Int) (μ : bz_M) : x_M_readsTail_0 (n + 1) x0 x1 x2 x4 μ =
    if x4 < 0 then
      if x1 = 2 then
        bz_ci (d_M_readsSeven n x0 (wr (x2 - 6)) 1 μ) fun v2 μ1 =>
        rI 0 μ1
      else
      rI 0 μ
    else
    if x1 = 0 then
      bz_ci (d_M_readsDigit n x0 (wr ((wr (x2 - 6)) - (wr (4 * x4)))) μ) fun v4 μ3 =>
      x_M_readsTail_0 n x0 x1 x2 (wr (x4 + (-1))) μ3
    else
    if x1 = 1 then
      bz_ci (d_M_readsPair n x0 (wr ((wr (x2 - 12)) - (wr (10 * x4)))) μ) fun v6 μ5 =>
      x_M_readsTail_0 n x0 x1 x2 (wr (x4 + (-1))) μ5
    else
    bz_ci (d_M_readsSeven n x0 (wr ((wr (x2 - 14)) - (wr (8 * x4)))) 0 μ) fun v8 μ7 =>
    x_M_readsTail_0 n x0 x1 x2 (wr (x4 + (-1))) μ7 := rfl
set_option maxRecDepth 100000 in
theorem x_M_partsTo_eq (n : Nat) (a0 : Nat) (a1 : Int) (a2 : Int) (μ : bz_M) : x_M_partsTo (n + 1) a0 a1 a2 μ =
    x_M_partsTo_0 n a0 a1 a2 0 1 μ := rfl
set_option maxRecDepth 100000 in
theorem x_M_partsTo_0_eq (n : Nat) (x0 : Nat) (x1 : Int) (x2 : Int) (x3 : Int) (x4 : Int) (μ : bz_M) : x_M_partsTo_0 (n + 1) x0 x1 x2 x3 x4 μ =
    if x4 = 0 then rI x3 μ else
    bz_pI μ x0 10 19 0 fun μ1 =>
    if x1 = 0 then
      if x3 < 4 then
        bz_ci (d_M_readsDigit n x0 (wr ((wr (x2 - 6)) - (wr (4 * x3)))) μ1) fun v3 μ2 =>
        if v3 = 0 then x_M_partsTo_0 n x0 x1 x2 (wr (x3 + 0)) 0 μ2 else
        x_M_partsTo_0 n x0 x1 x2 (wr (x3 + 1)) 1 μ2
      else
      x_M_partsTo_0 n x0 x1 x2 (wr (x3 + 0)) 0 μ1
    else
    if x1 = 1 then
      if x3 < 7 then
        bz_ci (d_M_readsPair n x0 (wr ((wr (x2 - 12)) - (wr (10 * x3)))) μ1) fun v5 μ4 =>
        if v5 = 0 then x_M_partsTo_0 n x0 x1 x2 (wr (x3 + 0)) 0 μ4 else
        x_M_partsTo_0 n x0 x1 x2 (wr (x3 + 1)) 1 μ4
      else
      x_M_partsTo_0 n x0 x1 x2 (wr (x3 + 0)) 0 μ1
    else
    if x3 < 14 then
      bz_ci (d_M_readsSeven n x0 (wr ((wr (x2 - 14)) - (wr (8 * x3)))) 0 μ1) fun v7 μ6 =>
      if v7 = 0 then x_M_partsTo_0 n x0 x1 x2 (wr (x3 + 0)) 0 μ6 else
      x_M_partsTo_0 n x0 x1 x2 (wr (x3 + 1)) 1 μ6
    else
    x_M_partsTo_0 n x0 x1 x2 (wr (x3 + 0)) 0 μ1 := rfl
set_option maxRecDepth 100000 in
theorem x_M_manyOf_eq (n : Nat) (a0 : Nat) (a1 : Int) (a2 : Int) (μ : bz_M) : x_M_manyOf (n + 1) a0 a1 a2 μ =
    bz_fR μ a0 10 22 fun v1 =>
    bz_rI μ v1 (wr ((wr (3 * a1)) + a2)) fun v2 =>
    rI v2 μ := rfl
set_option maxRecDepth 100000 in
theorem x_M_readPart_eq (n : Nat) (a0 : Nat) (a1 : Int) (a2 : Int) (a3 : Int) (μ : bz_M) : x_M_readPart (n + 1) a0 a1 a2 a3 μ =
    bz_ci (d_M_reads n a0 a1 a2 μ) fun v2 μ1 =>
    if v2 = 0 then rI 0 μ1 else
    if a3 = 0 then
      bz_ci (d_M_manyOf n a0 a1 1 μ1) fun v4 μ3 =>
      rI v4 μ3
    else
    bz_ci (d_M_manyOf n a0 a1 2 μ1) fun v6 μ5 =>
    rI v6 μ5 := rfl
set_option maxRecDepth 100000 in
theorem x_M_character_eq (n : Nat) (a0 : Nat) (a1 : Int) (a2 : Int) (a3 : Int) (μ : bz_M) : x_M_character (n + 1) a0 a1 a2 a3 μ =
    bz_ci (d_M_has n a0 a1 a2 0 a3 μ) fun v2 μ1 =>
    if v2 = 0 then rI 0 μ1 else
    bz_ci (d_M_signOf n a0 a1 0 a3 μ1) fun v4 μ3 =>
    rI v4 μ3 := rfl
set_option maxRecDepth 100000 in
theorem x_M_has_eq (n : Nat) (a0 : Nat) (a1 : Int) (a2 : Int) (a3 : Int) (a4 : Int) (μ : bz_M) : x_M_has (n + 1) a0 a1 a2 a3 a4 μ =
    bz_ci (d_M_reads n a0 a1 a2 μ) fun v2 μ1 =>
    if v2 = 0 then
      bz_fI μ1 a0 10 11 fun v3 =>
      if v3 = 0 then rI 1 μ1 else
      rI 0 μ1
    else
    bz_ci (d_M_manyOf n a0 a1 a3 μ1) fun v5 μ4 =>
    bz_ci (x_M_isIn n a4 0 (wr (v5 - 1)) μ4) fun v7 μ6 =>
    if v7 = 0 then
      bz_pI μ6 a0 10 11 1 fun μ8 =>
      bz_fI μ8 a0 10 11 fun v9 =>
      if v9 = 0 then rI 1 μ8 else
      rI 0 μ8
    else
    bz_fI μ6 a0 10 11 fun v10 =>
    if v10 = 0 then rI 1 μ6 else
    rI 0 μ6 := rfl
set_option maxRecDepth 100000 in
theorem x_M_signOf_eq (n : Nat) (a0 : Nat) (a1 : Int) (a2 : Int) (a3 : Int) (μ : bz_M) : x_M_signOf (n + 1) a0 a1 a2 a3 μ =
    bz_fR μ a0 10 23 fun v1 =>
    bz_rI μ v1 (wr ((wr (16 * (wr ((wr (3 * a1)) + a2)))) + a3)) fun v2 =>
    rI v2 μ := rfl
set_option maxRecDepth 100000 in
theorem x_M_confidence_eq (n : Nat) (a0 : Nat) (a1 : Int) (a2 : Int) (a3 : Int) (μ : bz_M) : x_M_confidence (n + 1) a0 a1 a2 a3 μ =
    bz_ci (d_M_has n a0 a1 a2 0 a3 μ) fun v2 μ1 =>
    if v2 = 0 then rI 0 μ1 else
    bz_ci (d_M_weightOf n a0 a1 0 a3 μ1) fun v4 μ3 =>
    rI (wr (v4 - 1)) μ3 := rfl
set_option maxRecDepth 100000 in
theorem x_M_weightOf_eq (n : Nat) (a0 : Nat) (a1 : Int) (a2 : Int) (a3 : Int) (μ : bz_M) : x_M_weightOf (n + 1) a0 a1 a2 a3 μ =
    bz_fR μ a0 10 24 fun v1 =>
    bz_rI μ v1 (wr ((wr (16 * (wr ((wr (3 * a1)) + a2)))) + a3)) fun v2 =>
    rI (wr (1 + v2)) μ := rfl
set_option maxRecDepth 100000 in
theorem x_M_partCharacter_eq (n : Nat) (a0 : Nat) (a1 : Int) (a2 : Int) (a3 : Int) (a4 : Int) (μ : bz_M) : x_M_partCharacter (n + 1) a0 a1 a2 a3 a4 μ =
    if a3 = 0 then
      bz_ci (d_M_has n a0 a1 a2 1 a4 μ) fun v2 μ1 =>
      if v2 = 0 then rI 0 μ1 else
      bz_ci (d_M_signOf n a0 a1 1 a4 μ1) fun v4 μ3 =>
      rI v4 μ3
    else
    bz_ci (d_M_has n a0 a1 a2 2 a4 μ) fun v6 μ5 =>
    if v6 = 0 then rI 0 μ5 else
    bz_ci (d_M_signOf n a0 a1 2 a4 μ5) fun v8 μ7 =>
    rI v8 μ7 := rfl
set_option maxRecDepth 100000 in
theorem x_M_isReversed_eq (n : Nat) (a0 : Nat) (a1 : Int) (a2 : Int) (μ : bz_M) : x_M_isReversed (n + 1) a0 a1 a2 μ =
    bz_ci (d_M_reads n a0 a1 a2 μ) fun v2 μ1 =>
    if v2 = 0 then rI 0 μ1 else
    bz_fR μ1 a0 10 25 fun v3 =>
    bz_rB μ1 v3 a1 fun v4 =>
    if v4 = 0 then rI 0 μ1 else
    rI 1 μ1 := rfl
set_option maxRecDepth 100000 in
theorem x_M_module_eq (n : Nat) (a0 : Nat) (a1 : Int) (a2 : Int) (μ : bz_M) : x_M_module (n + 1) a0 a1 a2 μ =
    bz_ci (d_M_measures n a0 a1 a2 μ) fun v2 μ1 =>
    if v2 = 0 then rI 0 μ1 else
    bz_fL μ1 a0 10 27 fun v3 =>
    bz_fL μ1 a0 10 28 fun v4 =>
    bz_ld (wl (100 * v3)) v4 fun v5 =>
    rI (wr v5) μ1 := rfl
set_option maxRecDepth 100000 in
theorem x_M_measures_eq (n : Nat) (a0 : Nat) (a1 : Int) (a2 : Int) (μ : bz_M) : x_M_measures (n + 1) a0 a1 a2 μ =
    bz_ci (d_M_reads n a0 a1 a2 μ) fun v2 μ1 =>
    if v2 = 0 then rI 0 μ1 else
    bz_ci (d_M_manyOf n a0 a1 0 μ1) fun v4 μ3 =>
    if v4 = 0 then
      bz_pI μ3 a0 10 11 2 fun μ5 =>
      bz_fI μ5 a0 10 11 fun v6 =>
      if (0 : Int) < v6 then rI 0 μ5 else
      x_M_measures_0 n a0 a1 a2 v4 0 μ5
    else
    bz_pI μ3 a0 10 11 0 fun μ7 =>
    bz_fI μ7 a0 10 11 fun v8 =>
    if (0 : Int) < v8 then rI 0 μ7 else
    x_M_measures_0 n a0 a1 a2 v4 0 μ7 := rfl
set_option maxRecDepth 100000 in
theorem x_M_measures_0_eq (n : Nat) (x0 : Nat) (x1 : Int) (x2 : Int) (x3 : Int) (x4 : Int) (μ : bz_M) : x_M_measures_0 (n + 1) x0 x1 x2 x3 x4 μ =
    if x4 < x3 then
      bz_fR μ x0 10 12 fun v1 =>
      bz_ci (d_M_signOf n x0 x1 0 x4 μ) fun v3 μ2 =>
      bz_wI μ2 v1 x4 v3 fun μ4 =>
      x_M_measures_0 n x0 x1 x2 x3 (wr (x4 + 1)) μ4
    else
    bz_cv (d_M_laysModules n x0 x2 x3 μ) fun μ5 =>
    bz_fR μ5 x0 10 25 fun v6 =>
    bz_rB μ5 v6 x1 fun v7 =>
    bz_cv (d_M_laysRow n x0 x1 v7 μ5) fun μ8 =>
    bz_pL μ8 x0 10 27 0 fun μ9 =>
    bz_pL μ9 x0 10 28 0 fun μ10 =>
    bz_pL μ10 x0 10 29 0 fun μ11 =>
    bz_pL μ11 x0 10 30 0 fun μ12 =>
    x_M_measures_1 n x0 x1 0 μ12 := rfl
set_option maxRecDepth 100000 in
theorem x_M_measures_1_eq (n : Nat) (x0 : Nat) (x1 : Int) (x4 : Int) (μ : bz_M) : x_M_measures_1 (n + 1) x0 x1 x4 μ =
    bz_fI μ x0 10 14 fun v1 =>
    if x4 < v1 then
      bz_fR μ x0 10 15 fun v2 =>
      bz_fR μ x0 10 26 fun v3 =>
      bz_rI μ v3 x1 fun v4 =>
      bz_rI μ v2 (wr (v4 + x4)) fun v5 =>
      bz_fL μ x0 10 27 fun v6 =>
      bz_pL μ x0 10 27 (wl (v6 + v5)) fun μ7 =>
      bz_fL μ7 x0 10 28 fun v8 =>
      bz_fR μ7 x0 10 13 fun v9 =>
      bz_rI μ7 v9 x4 fun v10 =>
      bz_pL μ7 x0 10 28 (wl (v8 + v10)) fun μ11 =>
      bz_fL μ11 x0 10 29 fun v12 =>
      if Int.tmod x4 2 = 0 then
        bz_pL μ11 x0 10 29 (wl (v12 + v5)) fun μ13 =>
        bz_fL μ13 x0 10 30 fun v14 =>
        if Int.tmod x4 2 = 0 then
          bz_fR μ13 x0 10 13 fun v15 =>
          bz_rI μ13 v15 x4 fun v16 =>
          bz_pL μ13 x0 10 30 (wl (v14 + v16)) fun μ17 =>
          x_M_measures_1 n x0 x1 (wr (x4 + 1)) μ17
        else
        bz_pL μ13 x0 10 30 (wl (v14 + 0)) fun μ18 =>
        x_M_measures_1 n x0 x1 (wr (x4 + 1)) μ18
      else
      bz_pL μ11 x0 10 29 (wl (v12 + 0)) fun μ19 =>
      bz_fL μ19 x0 10 30 fun v20 =>
      if Int.tmod x4 2 = 0 then
        bz_fR μ19 x0 10 13 fun v21 =>
        bz_rI μ19 v21 x4 fun v22 =>
        bz_pL μ19 x0 10 30 (wl (v20 + v22)) fun μ23 =>
        x_M_measures_1 n x0 x1 (wr (x4 + 1)) μ23
      else
      bz_pL μ19 x0 10 30 (wl (v20 + 0)) fun μ24 =>
      x_M_measures_1 n x0 x1 (wr (x4 + 1)) μ24
    else
    rI 1 μ := rfl
set_option maxRecDepth 100000 in
theorem x_M_spread_eq (n : Nat) (a0 : Nat) (a1 : Int) (a2 : Int) (μ : bz_M) : x_M_spread (n + 1) a0 a1 a2 μ =
    bz_ci (d_M_measures n a0 a1 a2 μ) fun v2 μ1 =>
    if v2 = 0 then rI 0 μ1 else
    bz_fL μ1 a0 10 29 fun v3 =>
    bz_fL μ1 a0 10 28 fun v4 =>
    bz_fL μ1 a0 10 27 fun v5 =>
    bz_fL μ1 a0 10 30 fun v6 =>
    bz_fI μ1 a0 10 14 fun v7 =>
    bz_fL μ1 a0 10 28 fun v8 =>
    bz_ld (wl (100 * (wl ((wl (v3 * v4)) - (wl (v5 * v6)))))) (wl ((wr (Int.tdiv (wr (v7 + 1)) 2)) * v8)) fun v9 =>
    if (0 : Int) < bz_cmp (wl (v9 * (wl ((wr (Int.tdiv (wr (v7 + 1)) 2)) * v8)))) (wl (100 * (wl ((wl (v3 * v4)) - (wl (v5 * v6)))))) then rI (wr (wl (v9 - 1))) μ1 else
    rI (wr v9) μ1 := rfl
set_option maxRecDepth 100000 in
theorem x_M_agreement_eq (n : Nat) (a0 : Nat) (a1 : Int) (a2 : Int) (a3 : Int) (μ : bz_M) : x_M_agreement (n + 1) a0 a1 a2 a3 μ =
    bz_ci (d_M_isScan n a0 a1 μ) fun v2 μ1 =>
    if v2 = 0 then
      bz_pI μ1 a0 10 11 1 fun μ3 =>
      bz_fI μ3 a0 10 11 fun v4 =>
      if (0 : Int) < v4 then rI 0 μ3 else
      bz_cv (d_M_readsAll n a0 a3 μ3) fun μ5 =>
      bz_ci (d_M_manyOf n a0 a1 0 μ5) fun v7 μ6 =>
      if v7 = 0 then rI (-1) μ6 else
      bz_ci (d_M_manyOf n a0 a2 0 μ6) fun v9 μ8 =>
      if v9 = v7 then x_M_agreement_0 n a0 a1 a2 v7 0 0 μ8 else
      rI (-1) μ8
    else
    bz_ci (d_M_isScan n a0 a2 μ1) fun v11 μ10 =>
    if v11 = 0 then
      bz_pI μ10 a0 10 11 1 fun μ12 =>
      bz_fI μ12 a0 10 11 fun v13 =>
      if (0 : Int) < v13 then rI 0 μ12 else
      bz_cv (d_M_readsAll n a0 a3 μ12) fun μ14 =>
      bz_ci (d_M_manyOf n a0 a1 0 μ14) fun v16 μ15 =>
      if v16 = 0 then rI (-1) μ15 else
      bz_ci (d_M_manyOf n a0 a2 0 μ15) fun v18 μ17 =>
      if v18 = v16 then x_M_agreement_0 n a0 a1 a2 v16 0 0 μ17 else
      rI (-1) μ17
    else
    bz_ci (x_M_isSymbology n a3 μ10) fun v20 μ19 =>
    if v20 = 0 then
      bz_pI μ19 a0 10 11 1 fun μ21 =>
      bz_fI μ21 a0 10 11 fun v22 =>
      if (0 : Int) < v22 then rI 0 μ21 else
      bz_cv (d_M_readsAll n a0 a3 μ21) fun μ23 =>
      bz_ci (d_M_manyOf n a0 a1 0 μ23) fun v25 μ24 =>
      if v25 = 0 then rI (-1) μ24 else
      bz_ci (d_M_manyOf n a0 a2 0 μ24) fun v27 μ26 =>
      if v27 = v25 then x_M_agreement_0 n a0 a1 a2 v25 0 0 μ26 else
      rI (-1) μ26
    else
    bz_pI μ19 a0 10 11 0 fun μ28 =>
    bz_fI μ28 a0 10 11 fun v29 =>
    if (0 : Int) < v29 then rI 0 μ28 else
    bz_cv (d_M_readsAll n a0 a3 μ28) fun μ30 =>
    bz_ci (d_M_manyOf n a0 a1 0 μ30) fun v32 μ31 =>
    if v32 = 0 then rI (-1) μ31 else
    bz_ci (d_M_manyOf n a0 a2 0 μ31) fun v34 μ33 =>
    if v34 = v32 then x_M_agreement_0 n a0 a1 a2 v32 0 0 μ33 else
    rI (-1) μ33 := rfl
set_option maxRecDepth 100000 in
theorem x_M_agreement_0_eq (n : Nat) (x0 : Nat) (x1 : Int) (x2 : Int) (x4 : Int) (x5 : Int) (x6 : Int) (μ : bz_M) : x_M_agreement_0 (n + 1) x0 x1 x2 x4 x5 x6 μ =
    if x6 < x4 then
      bz_ci (d_M_signOf n x0 x1 0 x6 μ) fun v2 μ1 =>
      bz_ci (d_M_signOf n x0 x2 0 x6 μ1) fun v4 μ3 =>
      if v2 = v4 then x_M_agreement_0 n x0 x1 x2 x4 (wr (x5 + 1)) (wr (x6 + 1)) μ3 else
      x_M_agreement_0 n x0 x1 x2 x4 (wr (x5 + 0)) (wr (x6 + 1)) μ3
    else
    rI x5 μ := rfl
set_option maxRecDepth 100000 in
theorem x_M_readsAll_eq (n : Nat) (a0 : Nat) (a1 : Int) (μ : bz_M) : x_M_readsAll (n + 1) a0 a1 μ =
    x_M_readsAll_0 n a0 a1 0 μ := rfl
set_option maxRecDepth 100000 in
theorem x_M_readsAll_0_eq (n : Nat) (x0 : Nat) (x1 : Int) (x2 : Int) (μ : bz_M) : x_M_readsAll_0 (n + 1) x0 x1 x2 μ =
    bz_fI μ x0 10 8 fun v1 =>
    if x2 < v1 then
      bz_cv (d_M_readsScan n x0 x2 x1 μ) fun μ2 =>
      x_M_readsAll_0 n x0 x1 (wr (x2 + 1)) μ2
    else
    rI 0 μ := rfl
set_option maxRecDepth 100000 in
theorem x_M_overlap_eq (n : Nat) (a0 : Nat) (a1 : Int) (a2 : Int) (a3 : Int) (μ : bz_M) : x_M_overlap (n + 1) a0 a1 a2 a3 μ =
    bz_ci (d_M_isScan n a0 a1 μ) fun v2 μ1 =>
    if v2 = 0 then
      bz_pI μ1 a0 10 11 1 fun μ3 =>
      bz_fI μ3 a0 10 11 fun v4 =>
      if (0 : Int) < v4 then rI 0 μ3 else
      bz_cv (d_M_readsAll n a0 a3 μ3) fun μ5 =>
      bz_ci (d_M_mostOverlap n a0 a1 a2 μ5) fun v7 μ6 =>
      if v7 = 0 then rI (-1) μ6 else
      x_M_overlap_0 n a0 a1 a2 v7 μ6
    else
    bz_ci (d_M_isScan n a0 a2 μ1) fun v9 μ8 =>
    if v9 = 0 then
      bz_pI μ8 a0 10 11 1 fun μ10 =>
      bz_fI μ10 a0 10 11 fun v11 =>
      if (0 : Int) < v11 then rI 0 μ10 else
      bz_cv (d_M_readsAll n a0 a3 μ10) fun μ12 =>
      bz_ci (d_M_mostOverlap n a0 a1 a2 μ12) fun v14 μ13 =>
      if v14 = 0 then rI (-1) μ13 else
      x_M_overlap_0 n a0 a1 a2 v14 μ13
    else
    bz_ci (x_M_isSymbology n a3 μ8) fun v16 μ15 =>
    if v16 = 0 then
      bz_pI μ15 a0 10 11 1 fun μ17 =>
      bz_fI μ17 a0 10 11 fun v18 =>
      if (0 : Int) < v18 then rI 0 μ17 else
      bz_cv (d_M_readsAll n a0 a3 μ17) fun μ19 =>
      bz_ci (d_M_mostOverlap n a0 a1 a2 μ19) fun v21 μ20 =>
      if v21 = 0 then rI (-1) μ20 else
      x_M_overlap_0 n a0 a1 a2 v21 μ20
    else
    bz_pI μ15 a0 10 11 0 fun μ22 =>
    bz_fI μ22 a0 10 11 fun v23 =>
    if (0 : Int) < v23 then rI 0 μ22 else
    bz_cv (d_M_readsAll n a0 a3 μ22) fun μ24 =>
    bz_ci (d_M_mostOverlap n a0 a1 a2 μ24) fun v26 μ25 =>
    if v26 = 0 then rI (-1) μ25 else
    x_M_overlap_0 n a0 a1 a2 v26 μ25 := rfl
set_option maxRecDepth 100000 in
theorem x_M_overlap_0_eq (n : Nat) (x0 : Nat) (x1 : Int) (x2 : Int) (x4 : Int) (μ : bz_M) : x_M_overlap_0 (n + 1) x0 x1 x2 x4 μ =
    bz_ci (d_M_overlaps n x0 x1 x2 x4 μ) fun v2 μ1 =>
    if v2 = 0 then x_M_overlap_0 n x0 x1 x2 (wr (x4 + (-1))) μ1 else
    rI x4 μ1 := rfl
set_option maxRecDepth 100000 in
theorem x_M_mostOverlap_eq (n : Nat) (a0 : Nat) (a1 : Int) (a2 : Int) (μ : bz_M) : x_M_mostOverlap (n + 1) a0 a1 a2 μ =
    bz_ci (d_M_manyOf n a0 a1 1 μ) fun v2 μ1 =>
    bz_ci (d_M_manyOf n a0 a2 2 μ1) fun v4 μ3 =>
    if v2 < v4 then rI v2 μ3 else
    rI v4 μ3 := rfl
set_option maxRecDepth 100000 in
theorem x_M_overlaps_eq (n : Nat) (a0 : Nat) (a1 : Int) (a2 : Int) (a3 : Int) (μ : bz_M) : x_M_overlaps (n + 1) a0 a1 a2 a3 μ =
    bz_ci (d_M_manyOf n a0 a1 1 μ) fun v2 μ1 =>
    x_M_overlaps_0 n a0 a1 a2 a3 (wr (v2 - a3)) 0 μ1 := rfl
set_option maxRecDepth 100000 in
theorem x_M_overlaps_0_eq (n : Nat) (x0 : Nat) (x1 : Int) (x2 : Int) (x3 : Int) (x4 : Int) (x5 : Int) (μ : bz_M) : x_M_overlaps_0 (n + 1) x0 x1 x2 x3 x4 x5 μ =
    if x5 < x3 then
      bz_ci (d_M_signOf n x0 x1 1 (wr (x4 + x5)) μ) fun v2 μ1 =>
      bz_ci (d_M_signOf n x0 x2 2 x5 μ1) fun v4 μ3 =>
      if v2 = v4 then x_M_overlaps_0 n x0 x1 x2 x3 x4 (wr (x5 + 1)) μ3 else
      rI 0 μ3
    else
    rI 1 μ := rfl
set_option maxRecDepth 100000 in
theorem x_M_mergedLength_eq (n : Nat) (a0 : Nat) (a1 : Int) (a2 : Int) (a3 : Int) (μ : bz_M) : x_M_mergedLength (n + 1) a0 a1 a2 a3 μ =
    bz_ci (d_M_mergesNow n a0 a1 a2 a3 μ) fun v2 μ1 =>
    rI v2 μ1 := rfl
set_option maxRecDepth 100000 in
theorem x_M_mergesNow_eq (n : Nat) (a0 : Nat) (a1 : Int) (a2 : Int) (a3 : Int) (μ : bz_M) : x_M_mergesNow (n + 1) a0 a1 a2 a3 μ =
    bz_ci (d_M_isScan n a0 a1 μ) fun v2 μ1 =>
    if v2 = 0 then
      bz_pI μ1 a0 10 11 1 fun μ3 =>
      bz_fI μ3 a0 10 11 fun v4 =>
      if (0 : Int) < v4 then rI 0 μ3 else
      bz_cv (d_M_readsAll n a0 a3 μ3) fun μ5 =>
      bz_ci (d_M_merges n a0 a1 a2 a3 μ5) fun v7 μ6 =>
      rI v7 μ6
    else
    bz_ci (d_M_isScan n a0 a2 μ1) fun v9 μ8 =>
    if v9 = 0 then
      bz_pI μ8 a0 10 11 1 fun μ10 =>
      bz_fI μ10 a0 10 11 fun v11 =>
      if (0 : Int) < v11 then rI 0 μ10 else
      bz_cv (d_M_readsAll n a0 a3 μ10) fun μ12 =>
      bz_ci (d_M_merges n a0 a1 a2 a3 μ12) fun v14 μ13 =>
      rI v14 μ13
    else
    bz_ci (x_M_isSymbology n a3 μ8) fun v16 μ15 =>
    if v16 = 0 then
      bz_pI μ15 a0 10 11 1 fun μ17 =>
      bz_fI μ17 a0 10 11 fun v18 =>
      if (0 : Int) < v18 then rI 0 μ17 else
      bz_cv (d_M_readsAll n a0 a3 μ17) fun μ19 =>
      bz_ci (d_M_merges n a0 a1 a2 a3 μ19) fun v21 μ20 =>
      rI v21 μ20
    else
    bz_pI μ15 a0 10 11 0 fun μ22 =>
    bz_fI μ22 a0 10 11 fun v23 =>
    if (0 : Int) < v23 then rI 0 μ22 else
    bz_cv (d_M_readsAll n a0 a3 μ22) fun μ24 =>
    bz_ci (d_M_merges n a0 a1 a2 a3 μ24) fun v26 μ25 =>
    rI v26 μ25 := rfl
set_option maxRecDepth 100000 in
theorem x_M_merges_eq (n : Nat) (a0 : Nat) (a1 : Int) (a2 : Int) (a3 : Int) (μ : bz_M) : x_M_merges (n + 1) a0 a1 a2 a3 μ =
    if a3 = 0 then
      bz_ci (d_M_manyOf n a0 a1 1 μ) fun v2 μ1 =>
      if v2 = 4 then
        bz_ci (d_M_manyOf n a0 a2 2 μ1) fun v4 μ3 =>
        if v4 = 4 then rI 8 μ3 else
        rI 0 μ3
      else
      rI 0 μ1
    else
    bz_ci (d_M_mostOverlap n a0 a1 a2 μ) fun v6 μ5 =>
    x_M_merges_0 n a0 a1 a2 a3 v6 μ5 := rfl
set_option maxRecDepth 100000 in
theorem x_M_merges_0_eq (n : Nat) (x0 : Nat) (x1 : Int) (x2 : Int) (x3 : Int) (x4 : Int) (μ : bz_M) : x_M_merges_0 (n + 1) x0 x1 x2 x3 x4 μ =
    if x4 < 2 then rI 0 μ else
    bz_ci (d_M_manyOf n x0 x1 1 μ) fun v2 μ1 =>
    bz_ci (d_M_manyOf n x0 x2 2 μ1) fun v4 μ3 =>
    bz_ci (x_M_isLength n x3 (wr ((wr (v2 + v4)) - x4)) μ3) fun v6 μ5 =>
    if v6 = 0 then x_M_merges_0 n x0 x1 x2 x3 (wr (x4 + (-1))) μ5 else
    bz_ci (d_M_overlaps n x0 x1 x2 x4 μ5) fun v8 μ7 =>
    if v8 = 0 then x_M_merges_0 n x0 x1 x2 x3 (wr (x4 + (-1))) μ7 else
    rI (wr ((wr (v2 + v4)) - x4)) μ7 := rfl
set_option maxRecDepth 100000 in
theorem x_M_mergedCharacter_eq (n : Nat) (a0 : Nat) (a1 : Int) (a2 : Int) (a3 : Int) (a4 : Int) (μ : bz_M) : x_M_mergedCharacter (n + 1) a0 a1 a2 a3 a4 μ =
    bz_ci (d_M_mergesNow n a0 a1 a2 a3 μ) fun v2 μ1 =>
    bz_ci (x_M_isIn n a4 0 (wr (v2 - 1)) μ1) fun v4 μ3 =>
    if v4 = 0 then
      bz_pI μ3 a0 10 11 1 fun μ5 =>
      bz_fI μ5 a0 10 11 fun v6 =>
      if (0 : Int) < v6 then rI 0 μ5 else
      bz_ci (d_M_manyOf n a0 a1 1 μ5) fun v8 μ7 =>
      if a4 < v8 then
        bz_ci (d_M_signOf n a0 a1 1 a4 μ7) fun v10 μ9 =>
        rI v10 μ9
      else
      bz_ci (d_M_manyOf n a0 a2 2 μ7) fun v12 μ11 =>
      bz_ci (d_M_signOf n a0 a2 2 (wr ((wr (a4 - v2)) + v12)) μ11) fun v14 μ13 =>
      rI v14 μ13
    else
    bz_fI μ3 a0 10 11 fun v15 =>
    if (0 : Int) < v15 then rI 0 μ3 else
    bz_ci (d_M_manyOf n a0 a1 1 μ3) fun v17 μ16 =>
    if a4 < v17 then
      bz_ci (d_M_signOf n a0 a1 1 a4 μ16) fun v19 μ18 =>
      rI v19 μ18
    else
    bz_ci (d_M_manyOf n a0 a2 2 μ16) fun v21 μ20 =>
    bz_ci (d_M_signOf n a0 a2 2 (wr ((wr (a4 - v2)) + v21)) μ20) fun v23 μ22 =>
    rI v23 μ22 := rfl
set_option maxRecDepth 100000 in
theorem x_M_bestScan_eq (n : Nat) (a0 : Nat) (a1 : Int) (μ : bz_M) : x_M_bestScan (n + 1) a0 a1 μ =
    bz_ci (x_M_isSymbology n a1 μ) fun v2 μ1 =>
    if v2 = 0 then
      bz_pI μ1 a0 10 11 1 fun μ3 =>
      bz_fI μ3 a0 10 11 fun v4 =>
      if (0 : Int) < v4 then rI 0 μ3 else
      bz_cv (d_M_readsAll n a0 a1 μ3) fun μ5 =>
      x_M_bestScan_0 n a0 (-1) 0 μ5
    else
    bz_pI μ1 a0 10 11 0 fun μ6 =>
    bz_fI μ6 a0 10 11 fun v7 =>
    if (0 : Int) < v7 then rI 0 μ6 else
    bz_cv (d_M_readsAll n a0 a1 μ6) fun μ8 =>
    x_M_bestScan_0 n a0 (-1) 0 μ8 := rfl
set_option maxRecDepth 100000 in
theorem x_M_bestScan_0_eq (n : Nat) (x0 : Nat) (x2 : Int) (x3 : Int) (μ : bz_M) : x_M_bestScan_0 (n + 1) x0 x2 x3 μ =
    bz_fI μ x0 10 8 fun v1 =>
    if x3 < v1 then
      bz_ci (d_M_manyOf n x0 x3 0 μ) fun v3 μ2 =>
      if (0 : Int) < v3 then
        if x2 = (-1) then x_M_bestScan_0 n x0 x3 (wr (x3 + 1)) μ2 else
        bz_ci (d_M_leastWeight n x0 x3 μ2) fun v5 μ4 =>
        bz_ci (d_M_leastWeight n x0 x2 μ4) fun v7 μ6 =>
        if v7 < v5 then x_M_bestScan_0 n x0 x3 (wr (x3 + 1)) μ6 else
        x_M_bestScan_0 n x0 x2 (wr (x3 + 1)) μ6
      else
      x_M_bestScan_0 n x0 x2 (wr (x3 + 1)) μ2
    else
    if x2 = (-1) then
      bz_pI μ x0 10 11 2 fun μ8 =>
      bz_fI μ8 x0 10 11 fun v9 =>
      if (0 : Int) < v9 then rI 0 μ8 else
      rI x2 μ8
    else
    bz_pI μ x0 10 11 0 fun μ10 =>
    bz_fI μ10 x0 10 11 fun v11 =>
    if (0 : Int) < v11 then rI 0 μ10 else
    rI x2 μ10 := rfl
set_option maxRecDepth 100000 in
theorem x_M_leastWeight_eq (n : Nat) (a0 : Nat) (a1 : Int) (μ : bz_M) : x_M_leastWeight (n + 1) a0 a1 μ =
    bz_ci (d_M_weightOf n a0 a1 0 0 μ) fun v2 μ1 =>
    x_M_leastWeight_0 n a0 a1 v2 1 μ1 := rfl
set_option maxRecDepth 100000 in
theorem x_M_leastWeight_0_eq (n : Nat) (x0 : Nat) (x1 : Int) (x2 : Int) (x3 : Int) (μ : bz_M) : x_M_leastWeight_0 (n + 1) x0 x1 x2 x3 μ =
    bz_ci (d_M_manyOf n x0 x1 0 μ) fun v2 μ1 =>
    if x3 < v2 then
      bz_ci (d_M_weightOf n x0 x1 0 x3 μ1) fun v4 μ3 =>
      if v4 < x2 then
        bz_ci (d_M_weightOf n x0 x1 0 x3 μ3) fun v6 μ5 =>
        x_M_leastWeight_0 n x0 x1 v6 (wr (x3 + 1)) μ5
      else
      x_M_leastWeight_0 n x0 x1 x2 (wr (x3 + 1)) μ3
    else
    rI x2 μ1 := rfl
set_option maxRecDepth 100000 in
theorem x_M_length_eq (n : Nat) (a0 : Nat) (a1 : Int) (μ : bz_M) : x_M_length (n + 1) a0 a1 μ =
    bz_ci (x_M_isSymbology n a1 μ) fun v2 μ1 =>
    if v2 = 0 then
      bz_pI μ1 a0 10 11 1 fun μ3 =>
      bz_fI μ3 a0 10 11 fun v4 =>
      if (0 : Int) < v4 then rI 0 μ3 else
      bz_ci (d_M_lengthOf n a0 a1 μ3) fun v6 μ5 =>
      rI v6 μ5
    else
    bz_pI μ1 a0 10 11 0 fun μ7 =>
    bz_fI μ7 a0 10 11 fun v8 =>
    if (0 : Int) < v8 then rI 0 μ7 else
    bz_ci (d_M_lengthOf n a0 a1 μ7) fun v10 μ9 =>
    rI v10 μ9 := rfl
set_option maxRecDepth 100000 in
theorem x_M_lengthOf_eq (n : Nat) (a0 : Nat) (a1 : Int) (μ : bz_M) : x_M_lengthOf (n + 1) a0 a1 μ =
    bz_cv (d_M_readsAll n a0 a1 μ) fun μ1 =>
    bz_ci (d_M_wholeLength n a0 μ1) fun v3 μ2 =>
    if (0 : Int) < v3 then rI v3 μ2 else
    if a1 = 0 then
      bz_ci (d_M_hasAny n a0 1 μ2) fun v5 μ4 =>
      if v5 = 0 then rI 0 μ4 else
      bz_ci (d_M_hasAny n a0 2 μ4) fun v7 μ6 =>
      if v7 = 0 then rI 0 μ6 else
      rI 8 μ6
    else
    bz_ci (d_M_longestMerge n a0 a1 μ2) fun v9 μ8 =>
    rI v9 μ8 := rfl
set_option maxRecDepth 100000 in
theorem x_M_wholeLength_eq (n : Nat) (a0 : Nat) (μ : bz_M) : x_M_wholeLength (n + 1) a0 μ =
    x_M_wholeLength_0 n a0 0 μ := rfl
set_option maxRecDepth 100000 in
theorem x_M_wholeLength_0_eq (n : Nat) (x0 : Nat) (x1 : Int) (μ : bz_M) : x_M_wholeLength_0 (n + 1) x0 x1 μ =
    if (16 : Int) < x1 then x_M_wholeLength_1 n x0 0 μ else
    bz_fR μ x0 10 31 fun v1 =>
    bz_wI μ v1 x1 0 fun μ2 =>
    x_M_wholeLength_0 n x0 (wr (x1 + 1)) μ2 := rfl
set_option maxRecDepth 100000 in
theorem x_M_wholeLength_1_eq (n : Nat) (x0 : Nat) (x1 : Int) (μ : bz_M) : x_M_wholeLength_1 (n + 1) x0 x1 μ =
    bz_fI μ x0 10 8 fun v1 =>
    if x1 < v1 then
      bz_ci (d_M_manyOf n x0 x1 0 μ) fun v3 μ2 =>
      if (0 : Int) < v3 then
        bz_fR μ2 x0 10 31 fun v4 =>
        bz_ci (d_M_manyOf n x0 x1 0 μ2) fun v6 μ5 =>
        bz_rI μ5 v4 v6 fun v7 =>
        bz_ci (d_M_leastWeight n x0 x1 μ5) fun v9 μ8 =>
        bz_wI μ8 v4 v6 (wr (v7 + v9)) fun μ10 =>
        x_M_wholeLength_1 n x0 (wr (x1 + 1)) μ10
      else
      x_M_wholeLength_1 n x0 (wr (x1 + 1)) μ2
    else
    x_M_wholeLength_2 n x0 0 1 μ := rfl
set_option maxRecDepth 100000 in
theorem x_M_wholeLength_2_eq (n : Nat) (x0 : Nat) (x1 : Int) (x2 : Int) (μ : bz_M) : x_M_wholeLength_2 (n + 1) x0 x1 x2 μ =
    if (16 : Int) < x2 then rI x1 μ else
    bz_fR μ x0 10 31 fun v1 =>
    bz_rI μ v1 x2 fun v2 =>
    bz_fR μ x0 10 31 fun v3 =>
    bz_rI μ v3 x1 fun v4 =>
    if v4 < v2 then x_M_wholeLength_2 n x0 x2 (wr (x2 + 1)) μ else
    x_M_wholeLength_2 n x0 x1 (wr (x2 + 1)) μ := rfl
set_option maxRecDepth 100000 in
theorem x_M_hasAny_eq (n : Nat) (a0 : Nat) (a1 : Int) (μ : bz_M) : x_M_hasAny (n + 1) a0 a1 μ =
    x_M_hasAny_0 n a0 a1 0 0 μ := rfl
set_option maxRecDepth 100000 in
theorem x_M_hasAny_0_eq (n : Nat) (x0 : Nat) (x1 : Int) (x2 : Int) (x3 : Int) (μ : bz_M) : x_M_hasAny_0 (n + 1) x0 x1 x2 x3 μ =
    bz_fI μ x0 10 8 fun v1 =>
    if x3 < v1 then
      bz_ci (d_M_manyOf n x0 x3 x1 μ) fun v3 μ2 =>
      if (0 : Int) < v3 then x_M_hasAny_0 n x0 x1 (bz_or x2 1) (wr (x3 + 1)) μ2 else
      x_M_hasAny_0 n x0 x1 (bz_or x2 0) (wr (x3 + 1)) μ2
    else
    bz_zB x2 μ := rfl
set_option maxRecDepth 100000 in
theorem x_M_longestMerge_eq (n : Nat) (a0 : Nat) (a1 : Int) (μ : bz_M) : x_M_longestMerge (n + 1) a0 a1 μ =
    x_M_longestMerge_0 n a0 a1 16 μ := rfl
set_option maxRecDepth 100000 in
theorem x_M_longestMerge_0_eq (n : Nat) (x0 : Nat) (x1 : Int) (x2 : Int) (μ : bz_M) : x_M_longestMerge_0 (n + 1) x0 x1 x2 μ =
    if x2 < 2 then rI 0 μ else
    x_M_longestMerge_1 n x0 x1 x2 0 μ := rfl
set_option maxRecDepth 100000 in
theorem x_M_longestMerge_1_eq (n : Nat) (x0 : Nat) (x1 : Int) (x2 : Int) (x3 : Int) (μ : bz_M) : x_M_longestMerge_1 (n + 1) x0 x1 x2 x3 μ =
    bz_fI μ x0 10 8 fun v1 =>
    if x3 < v1 then x_M_longestMerge_2 n x0 x1 x2 x3 0 μ else
    x_M_longestMerge_0 n x0 x1 (wr (x2 + (-1))) μ := rfl
set_option maxRecDepth 100000 in
theorem x_M_longestMerge_2_eq (n : Nat) (x0 : Nat) (x1 : Int) (x2 : Int) (x3 : Int) (x4 : Int) (μ : bz_M) : x_M_longestMerge_2 (n + 1) x0 x1 x2 x3 x4 μ =
    bz_fI μ x0 10 8 fun v1 =>
    if x4 < v1 then
      bz_ci (d_M_manyOf n x0 x3 1 μ) fun v3 μ2 =>
      bz_ci (d_M_manyOf n x0 x4 2 μ2) fun v5 μ4 =>
      if x3 = x4 then x_M_longestMerge_2 n x0 x1 x2 x3 (wr (x4 + 1)) μ4 else
      bz_ci (d_M_mostOverlap n x0 x3 x4 μ4) fun v7 μ6 =>
      if v7 < x2 then x_M_longestMerge_2 n x0 x1 x2 x3 (wr (x4 + 1)) μ6 else
      bz_ci (x_M_isLength n x1 (wr ((wr (v3 + v5)) - x2)) μ6) fun v9 μ8 =>
      if v9 = 0 then x_M_longestMerge_2 n x0 x1 x2 x3 (wr (x4 + 1)) μ8 else
      bz_ci (d_M_overlaps n x0 x3 x4 x2 μ8) fun v11 μ10 =>
      if v11 = 0 then x_M_longestMerge_2 n x0 x1 x2 x3 (wr (x4 + 1)) μ10 else
      rI (wr ((wr (v3 + v5)) - x2)) μ10
    else
    x_M_longestMerge_1 n x0 x1 x2 (wr (x3 + 1)) μ := rfl
set_option maxRecDepth 100000 in
theorem x_M_weight_eq (n : Nat) (a0 : Nat) (a1 : Int) (a2 : Int) (a3 : Int) (μ : bz_M) : x_M_weight (n + 1) a0 a1 a2 a3 μ =
    bz_ci (d_M_hasPlace n a0 a1 a2 μ) fun v2 μ1 =>
    if v2 = 0 then rI 0 μ1 else
    if a3 = (-1) then
      bz_ci (d_M_allAt n a0 a2 μ1) fun v4 μ3 =>
      rI v4 μ3
    else
    bz_ci (x_M_isIn n a3 0 127 μ1) fun v6 μ5 =>
    if v6 = 0 then rI 0 μ5 else
    bz_fR μ5 a0 10 32 fun v7 =>
    bz_rI μ5 v7 (wr ((wr (128 * a2)) + a3)) fun v8 =>
    rI v8 μ5 := rfl
set_option maxRecDepth 100000 in
theorem x_M_hasPlace_eq (n : Nat) (a0 : Nat) (a1 : Int) (a2 : Int) (μ : bz_M) : x_M_hasPlace (n + 1) a0 a1 a2 μ =
    bz_ci (x_M_isSymbology n a1 μ) fun v2 μ1 =>
    if v2 = 0 then
      bz_pI μ1 a0 10 11 1 fun μ3 =>
      bz_fI μ3 a0 10 11 fun v4 =>
      if v4 = 0 then rI 1 μ3 else
      rI 0 μ3
    else
    bz_ci (d_M_laysVotes n a0 a1 μ1) fun v6 μ5 =>
    bz_ci (x_M_isIn n a2 0 (wr (v6 - 1)) μ5) fun v8 μ7 =>
    if v8 = 0 then
      bz_pI μ7 a0 10 11 1 fun μ9 =>
      bz_fI μ9 a0 10 11 fun v10 =>
      if v10 = 0 then rI 1 μ9 else
      rI 0 μ9
    else
    bz_pI μ7 a0 10 11 0 fun μ11 =>
    bz_fI μ11 a0 10 11 fun v12 =>
    if v12 = 0 then rI 1 μ11 else
    rI 0 μ11 := rfl
set_option maxRecDepth 100000 in
theorem x_M_laysVotes_eq (n : Nat) (a0 : Nat) (a1 : Int) (μ : bz_M) : x_M_laysVotes (n + 1) a0 a1 μ =
    bz_ci (d_M_lengthOf n a0 a1 μ) fun v2 μ1 =>
    x_M_laysVotes_0 n a0 v2 0 μ1 := rfl
set_option maxRecDepth 100000 in
theorem x_M_laysVotes_0_eq (n : Nat) (x0 : Nat) (x2 : Int) (x3 : Int) (μ : bz_M) : x_M_laysVotes_0 (n + 1) x0 x2 x3 μ =
    if x3 < 2048 then
      bz_fR μ x0 10 32 fun v1 =>
      bz_wI μ v1 x3 0 fun μ2 =>
      x_M_laysVotes_0 n x0 x2 (wr (x3 + 1)) μ2
    else
    x_M_laysVotes_1 n x0 x2 0 μ := rfl
set_option maxRecDepth 100000 in
theorem x_M_laysVotes_1_eq (n : Nat) (x0 : Nat) (x2 : Int) (x3 : Int) (μ : bz_M) : x_M_laysVotes_1 (n + 1) x0 x2 x3 μ =
    bz_fI μ x0 10 8 fun v1 =>
    if x3 < v1 then
      if (0 : Int) < x2 then
        bz_ci (d_M_manyOf n x0 x3 0 μ) fun v3 μ2 =>
        if v3 = x2 then
          bz_cv (d_M_adds n x0 x3 0 0 μ2) fun μ4 =>
          bz_ci (d_M_manyOf n x0 x3 1 μ4) fun v6 μ5 =>
          if x2 < v6 then
            bz_ci (d_M_manyOf n x0 x3 2 μ5) fun v8 μ7 =>
            if x2 < v8 then x_M_laysVotes_1 n x0 x2 (wr (x3 + 1)) μ7 else
            bz_ci (d_M_manyOf n x0 x3 2 μ7) fun v10 μ9 =>
            bz_cv (d_M_adds n x0 x3 2 (wr (x2 - v10)) μ9) fun μ11 =>
            x_M_laysVotes_1 n x0 x2 (wr (x3 + 1)) μ11
          else
          bz_cv (d_M_adds n x0 x3 1 0 μ5) fun μ12 =>
          bz_ci (d_M_manyOf n x0 x3 2 μ12) fun v14 μ13 =>
          if x2 < v14 then x_M_laysVotes_1 n x0 x2 (wr (x3 + 1)) μ13 else
          bz_ci (d_M_manyOf n x0 x3 2 μ13) fun v16 μ15 =>
          bz_cv (d_M_adds n x0 x3 2 (wr (x2 - v16)) μ15) fun μ17 =>
          x_M_laysVotes_1 n x0 x2 (wr (x3 + 1)) μ17
        else
        bz_ci (d_M_manyOf n x0 x3 1 μ2) fun v19 μ18 =>
        if x2 < v19 then
          bz_ci (d_M_manyOf n x0 x3 2 μ18) fun v21 μ20 =>
          if x2 < v21 then x_M_laysVotes_1 n x0 x2 (wr (x3 + 1)) μ20 else
          bz_ci (d_M_manyOf n x0 x3 2 μ20) fun v23 μ22 =>
          bz_cv (d_M_adds n x0 x3 2 (wr (x2 - v23)) μ22) fun μ24 =>
          x_M_laysVotes_1 n x0 x2 (wr (x3 + 1)) μ24
        else
        bz_cv (d_M_adds n x0 x3 1 0 μ18) fun μ25 =>
        bz_ci (d_M_manyOf n x0 x3 2 μ25) fun v27 μ26 =>
        if x2 < v27 then x_M_laysVotes_1 n x0 x2 (wr (x3 + 1)) μ26 else
        bz_ci (d_M_manyOf n x0 x3 2 μ26) fun v29 μ28 =>
        bz_cv (d_M_adds n x0 x3 2 (wr (x2 - v29)) μ28) fun μ30 =>
        x_M_laysVotes_1 n x0 x2 (wr (x3 + 1)) μ30
      else
      rI x2 μ
    else
    rI x2 μ := rfl
set_option maxRecDepth 100000 in
theorem x_M_adds_eq (n : Nat) (a0 : Nat) (a1 : Int) (a2 : Int) (a3 : Int) (μ : bz_M) : x_M_adds (n + 1) a0 a1 a2 a3 μ =
    x_M_adds_0 n a0 a1 a2 a3 0 μ := rfl
set_option maxRecDepth 100000 in
theorem x_M_adds_0_eq (n : Nat) (x0 : Nat) (x1 : Int) (x2 : Int) (x3 : Int) (x4 : Int) (μ : bz_M) : x_M_adds_0 (n + 1) x0 x1 x2 x3 x4 μ =
    bz_ci (d_M_manyOf n x0 x1 x2 μ) fun v2 μ1 =>
    if x4 < v2 then
      bz_fR μ1 x0 10 32 fun v3 =>
      bz_ci (d_M_signOf n x0 x1 x2 x4 μ1) fun v5 μ4 =>
      bz_rI μ4 v3 (wr ((wr (128 * (wr (x3 + x4)))) + v5)) fun v6 =>
      bz_ci (d_M_weightOf n x0 x1 x2 x4 μ4) fun v8 μ7 =>
      bz_wI μ7 v3 (wr ((wr (128 * (wr (x3 + x4)))) + v5)) (wr (v6 + v8)) fun μ9 =>
      x_M_adds_0 n x0 x1 x2 x3 (wr (x4 + 1)) μ9
    else
    rI 0 μ1 := rfl
set_option maxRecDepth 100000 in
theorem x_M_allAt_eq (n : Nat) (a0 : Nat) (a1 : Int) (μ : bz_M) : x_M_allAt (n + 1) a0 a1 μ =
    x_M_allAt_0 n a0 a1 0 0 μ := rfl
set_option maxRecDepth 100000 in
theorem x_M_allAt_0_eq (n : Nat) (x0 : Nat) (x1 : Int) (x2 : Int) (x3 : Int) (μ : bz_M) : x_M_allAt_0 (n + 1) x0 x1 x2 x3 μ =
    if x3 < 128 then
      bz_fR μ x0 10 32 fun v1 =>
      bz_rI μ v1 (wr ((wr (128 * x1)) + x3)) fun v2 =>
      x_M_allAt_0 n x0 x1 (wr (x2 + v2)) (wr (x3 + 1)) μ
    else
    rI x2 μ := rfl
set_option maxRecDepth 100000 in
theorem x_M_voted_eq (n : Nat) (a0 : Nat) (a1 : Int) (a2 : Int) (μ : bz_M) : x_M_voted (n + 1) a0 a1 a2 μ =
    bz_ci (d_M_hasPlace n a0 a1 a2 μ) fun v2 μ1 =>
    if v2 = 0 then rI 0 μ1 else
    bz_ci (d_M_votedAt n a0 a2 μ1) fun v4 μ3 =>
    rI v4 μ3 := rfl
set_option maxRecDepth 100000 in
theorem x_M_votedAt_eq (n : Nat) (a0 : Nat) (a1 : Int) (μ : bz_M) : x_M_votedAt (n + 1) a0 a1 μ =
    bz_ci (d_M_allAt n a0 a1 μ) fun v2 μ1 =>
    x_M_votedAt_0 n a0 a1 v2 0 μ1 := rfl
set_option maxRecDepth 100000 in
theorem x_M_votedAt_0_eq (n : Nat) (x0 : Nat) (x1 : Int) (x2 : Int) (x3 : Int) (μ : bz_M) : x_M_votedAt_0 (n + 1) x0 x1 x2 x3 μ =
    if x3 < 128 then
      bz_fR μ x0 10 32 fun v1 =>
      bz_rI μ v1 (wr ((wr (128 * x1)) + x3)) fun v2 =>
      if x2 < wr (2 * v2) then rI x3 μ else
      x_M_votedAt_0 n x0 x1 x2 (wr (x3 + 1)) μ
    else
    rI (-1) μ := rfl
set_option maxRecDepth 100000 in
theorem x_M_runnerUp_eq (n : Nat) (a0 : Nat) (a1 : Int) (a2 : Int) (μ : bz_M) : x_M_runnerUp (n + 1) a0 a1 a2 μ =
    bz_ci (d_M_hasPlace n a0 a1 a2 μ) fun v2 μ1 =>
    if v2 = 0 then rI 0 μ1 else
    x_M_runnerUp_0 n a0 a2 (-1) (-1) 0 μ1 := rfl
set_option maxRecDepth 100000 in
theorem x_M_runnerUp_0_eq (n : Nat) (x0 : Nat) (x2 : Int) (x3 : Int) (x4 : Int) (x5 : Int) (μ : bz_M) : x_M_runnerUp_0 (n + 1) x0 x2 x3 x4 x5 μ =
    if x5 < 128 then
      bz_fR μ x0 10 32 fun v1 =>
      bz_rI μ v1 (wr ((wr (128 * x2)) + x5)) fun v2 =>
      if v2 = 0 then x_M_runnerUp_0 n x0 x2 x3 x4 (wr (x5 + 1)) μ else
      if x3 = (-1) then x_M_runnerUp_0 n x0 x2 x5 x3 (wr (x5 + 1)) μ else
      bz_fR μ x0 10 32 fun v3 =>
      bz_rI μ v3 (wr ((wr (128 * x2)) + x3)) fun v4 =>
      if v4 < v2 then x_M_runnerUp_0 n x0 x2 x5 x3 (wr (x5 + 1)) μ else
      if x4 = (-1) then x_M_runnerUp_0 n x0 x2 x3 x5 (wr (x5 + 1)) μ else
      bz_fR μ x0 10 32 fun v5 =>
      bz_rI μ v5 (wr ((wr (128 * x2)) + x4)) fun v6 =>
      if v6 < v2 then x_M_runnerUp_0 n x0 x2 x3 x5 (wr (x5 + 1)) μ else
      x_M_runnerUp_0 n x0 x2 x3 x4 (wr (x5 + 1)) μ
    else
    rI x4 μ := rfl
set_option maxRecDepth 100000 in
theorem x_M_problem_eq (n : Nat) (a0 : Nat) (a1 : Int) (μ : bz_M) : x_M_problem (n + 1) a0 a1 μ =
    bz_ci (x_M_isSymbology n a1 μ) fun v2 μ1 =>
    if v2 = 0 then
      bz_pI μ1 a0 10 11 1 fun μ3 =>
      bz_fI μ3 a0 10 11 fun v4 =>
      if (0 : Int) < v4 then rI 0 μ3 else
      bz_ci (d_M_problemOf n a0 a1 μ3) fun v6 μ5 =>
      rI v6 μ5
    else
    bz_pI μ1 a0 10 11 0 fun μ7 =>
    bz_fI μ7 a0 10 11 fun v8 =>
    if (0 : Int) < v8 then rI 0 μ7 else
    bz_ci (d_M_problemOf n a0 a1 μ7) fun v10 μ9 =>
    rI v10 μ9 := rfl
set_option maxRecDepth 100000 in
theorem x_M_problemOf_eq (n : Nat) (a0 : Nat) (a1 : Int) (μ : bz_M) : x_M_problemOf (n + 1) a0 a1 μ =
    bz_ci (d_M_laysVotes n a0 a1 μ) fun v2 μ1 =>
    if v2 = 0 then rI 1 μ1 else
    bz_ci (d_M_doubtFrom n a0 0 v2 μ1) fun v4 μ3 =>
    if v4 = (-1) then
      bz_fR μ3 a0 10 4 fun v5 =>
      bz_rB μ3 v5 a1 fun v6 =>
      if v6 = 0 then rI 0 μ3 else
      bz_ci (d_M_isRight n a0 a1 v2 (-1) (-1) μ3) fun v8 μ7 =>
      if v8 = 0 then rI 3 μ7 else
      rI 0 μ7
    else
    rI 2 μ3 := rfl
set_option maxRecDepth 100000 in
theorem x_M_doubtFrom_eq (n : Nat) (a0 : Nat) (a1 : Int) (a2 : Int) (μ : bz_M) : x_M_doubtFrom (n + 1) a0 a1 a2 μ =
    x_M_doubtFrom_0 n a0 a2 a1 μ := rfl
set_option maxRecDepth 100000 in
theorem x_M_doubtFrom_0_eq (n : Nat) (x0 : Nat) (x2 : Int) (x3 : Int) (μ : bz_M) : x_M_doubtFrom_0 (n + 1) x0 x2 x3 μ =
    if x3 < x2 then
      bz_ci (d_M_votedAt n x0 x3 μ) fun v2 μ1 =>
      if v2 = (-1) then rI x3 μ1 else
      x_M_doubtFrom_0 n x0 x2 (wr (x3 + 1)) μ1
    else
    rI (-1) μ := rfl
set_option maxRecDepth 100000 in
theorem x_M_isRight_eq (n : Nat) (a0 : Nat) (a1 : Int) (a2 : Int) (a3 : Int) (a4 : Int) (μ : bz_M) : x_M_isRight (n + 1) a0 a1 a2 a3 a4 μ =
    x_M_isRight_0 n a0 a1 a2 a3 a4 0 0 μ := rfl
set_option maxRecDepth 100000 in
theorem x_M_isRight_0_eq (n : Nat) (x0 : Nat) (x1 : Int) (x2 : Int) (x3 : Int) (x4 : Int) (x5 : Int) (x6 : Int) (μ : bz_M) : x_M_isRight_0 (n + 1) x0 x1 x2 x3 x4 x5 x6 μ =
    if x6 < x2 then
      if x6 = x3 then
        if x1 = 2 then
          bz_ci (x_M_valueOf n x4 μ) fun v2 μ1 =>
          x_M_isRight_0 n x0 x1 x2 x3 x4 (wr (x5 + v2)) (wr (x6 + 1)) μ1
        else
        if Int.tmod x6 2 = 0 then x_M_isRight_0 n x0 x1 x2 x3 x4 (wr (x5 + (wr (3 * (wr (x4 - 48)))))) (wr (x6 + 1)) μ else
        x_M_isRight_0 n x0 x1 x2 x3 x4 (wr (x5 + (wr (1 * (wr (x4 - 48)))))) (wr (x6 + 1)) μ
      else
      bz_ci (d_M_votedAt n x0 x6 μ) fun v4 μ3 =>
      if x1 = 2 then
        bz_ci (x_M_valueOf n v4 μ3) fun v6 μ5 =>
        x_M_isRight_0 n x0 x1 x2 x3 x4 (wr (x5 + v6)) (wr (x6 + 1)) μ5
      else
      if Int.tmod x6 2 = 0 then x_M_isRight_0 n x0 x1 x2 x3 x4 (wr (x5 + (wr (3 * (wr (v4 - 48)))))) (wr (x6 + 1)) μ3 else
      x_M_isRight_0 n x0 x1 x2 x3 x4 (wr (x5 + (wr (1 * (wr (v4 - 48)))))) (wr (x6 + 1)) μ3
    else
    if x1 = 2 then
      if Int.tmod x5 16 = 0 then rI 1 μ else
      rI 0 μ
    else
    if Int.tmod x5 10 = 0 then rI 1 μ else
    rI 0 μ := rfl
set_option maxRecDepth 100000 in
theorem x_M_doubtful_eq (n : Nat) (a0 : Nat) (a1 : Int) (μ : bz_M) : x_M_doubtful (n + 1) a0 a1 μ =
    bz_ci (x_M_isSymbology n a1 μ) fun v2 μ1 =>
    if v2 = 0 then
      bz_pI μ1 a0 10 11 1 fun μ3 =>
      bz_fI μ3 a0 10 11 fun v4 =>
      if (0 : Int) < v4 then rI 0 μ3 else
      bz_ci (d_M_laysVotes n a0 a1 μ3) fun v6 μ5 =>
      bz_ci (d_M_doubtFrom n a0 0 v6 μ5) fun v8 μ7 =>
      rI v8 μ7
    else
    bz_pI μ1 a0 10 11 0 fun μ9 =>
    bz_fI μ9 a0 10 11 fun v10 =>
    if (0 : Int) < v10 then rI 0 μ9 else
    bz_ci (d_M_laysVotes n a0 a1 μ9) fun v12 μ11 =>
    bz_ci (d_M_doubtFrom n a0 0 v12 μ11) fun v14 μ13 =>
    rI v14 μ13 := rfl
set_option maxRecDepth 100000 in
theorem x_M_repaired_eq (n : Nat) (a0 : Nat) (a1 : Int) (μ : bz_M) : x_M_repaired (n + 1) a0 a1 μ =
    bz_ci (x_M_isSymbology n a1 μ) fun v2 μ1 =>
    if v2 = 0 then
      bz_pI μ1 a0 10 11 1 fun μ3 =>
      bz_fI μ3 a0 10 11 fun v4 =>
      if (0 : Int) < v4 then rI 0 μ3 else
      bz_ci (d_M_laysVotes n a0 a1 μ3) fun v6 μ5 =>
      bz_ci (d_M_doubtFrom n a0 0 v6 μ5) fun v8 μ7 =>
      if v8 = (-1) then
        bz_pI μ7 a0 10 11 2 fun μ9 =>
        bz_fI μ9 a0 10 11 fun v10 =>
        if (0 : Int) < v10 then rI 0 μ9 else
        if a1 = 2 then
          if v8 = 0 then x_M_repaired_0 n a0 a1 v6 v8 1 (-1) 0 16 μ9 else
          if v8 = wr (v6 - 1) then x_M_repaired_0 n a0 a1 v6 v8 1 (-1) 0 16 μ9 else
          x_M_repaired_0 n a0 a1 v6 v8 0 (-1) 0 0 μ9
        else
        x_M_repaired_0 n a0 a1 v6 v8 0 (-1) 0 0 μ9
      else
      bz_ci (d_M_doubtFrom n a0 (wr (v8 + 1)) v6 μ7) fun v12 μ11 =>
      if v12 = (-1) then
        bz_pI μ11 a0 10 11 0 fun μ13 =>
        bz_fI μ13 a0 10 11 fun v14 =>
        if (0 : Int) < v14 then rI 0 μ13 else
        if a1 = 2 then
          if v8 = 0 then x_M_repaired_0 n a0 a1 v6 v8 1 (-1) 0 16 μ13 else
          if v8 = wr (v6 - 1) then x_M_repaired_0 n a0 a1 v6 v8 1 (-1) 0 16 μ13 else
          x_M_repaired_0 n a0 a1 v6 v8 0 (-1) 0 0 μ13
        else
        x_M_repaired_0 n a0 a1 v6 v8 0 (-1) 0 0 μ13
      else
      bz_pI μ11 a0 10 11 2 fun μ15 =>
      bz_fI μ15 a0 10 11 fun v16 =>
      if (0 : Int) < v16 then rI 0 μ15 else
      if a1 = 2 then
        if v8 = 0 then x_M_repaired_0 n a0 a1 v6 v8 1 (-1) 0 16 μ15 else
        if v8 = wr (v6 - 1) then x_M_repaired_0 n a0 a1 v6 v8 1 (-1) 0 16 μ15 else
        x_M_repaired_0 n a0 a1 v6 v8 0 (-1) 0 0 μ15
      else
      x_M_repaired_0 n a0 a1 v6 v8 0 (-1) 0 0 μ15
    else
    bz_pI μ1 a0 10 11 0 fun μ17 =>
    bz_fI μ17 a0 10 11 fun v18 =>
    if (0 : Int) < v18 then rI 0 μ17 else
    bz_ci (d_M_laysVotes n a0 a1 μ17) fun v20 μ19 =>
    bz_ci (d_M_doubtFrom n a0 0 v20 μ19) fun v22 μ21 =>
    if v22 = (-1) then
      bz_pI μ21 a0 10 11 2 fun μ23 =>
      bz_fI μ23 a0 10 11 fun v24 =>
      if (0 : Int) < v24 then rI 0 μ23 else
      if a1 = 2 then
        if v22 = 0 then x_M_repaired_0 n a0 a1 v20 v22 1 (-1) 0 16 μ23 else
        if v22 = wr (v20 - 1) then x_M_repaired_0 n a0 a1 v20 v22 1 (-1) 0 16 μ23 else
        x_M_repaired_0 n a0 a1 v20 v22 0 (-1) 0 0 μ23
      else
      x_M_repaired_0 n a0 a1 v20 v22 0 (-1) 0 0 μ23
    else
    bz_ci (d_M_doubtFrom n a0 (wr (v22 + 1)) v20 μ21) fun v26 μ25 =>
    if v26 = (-1) then
      bz_pI μ25 a0 10 11 0 fun μ27 =>
      bz_fI μ27 a0 10 11 fun v28 =>
      if (0 : Int) < v28 then rI 0 μ27 else
      if a1 = 2 then
        if v22 = 0 then x_M_repaired_0 n a0 a1 v20 v22 1 (-1) 0 16 μ27 else
        if v22 = wr (v20 - 1) then x_M_repaired_0 n a0 a1 v20 v22 1 (-1) 0 16 μ27 else
        x_M_repaired_0 n a0 a1 v20 v22 0 (-1) 0 0 μ27
      else
      x_M_repaired_0 n a0 a1 v20 v22 0 (-1) 0 0 μ27
    else
    bz_pI μ25 a0 10 11 2 fun μ29 =>
    bz_fI μ29 a0 10 11 fun v30 =>
    if (0 : Int) < v30 then rI 0 μ29 else
    if a1 = 2 then
      if v22 = 0 then x_M_repaired_0 n a0 a1 v20 v22 1 (-1) 0 16 μ29 else
      if v22 = wr (v20 - 1) then x_M_repaired_0 n a0 a1 v20 v22 1 (-1) 0 16 μ29 else
      x_M_repaired_0 n a0 a1 v20 v22 0 (-1) 0 0 μ29
    else
    x_M_repaired_0 n a0 a1 v20 v22 0 (-1) 0 0 μ29 := rfl
set_option maxRecDepth 100000 in
theorem x_M_repaired_0_eq (n : Nat) (x0 : Nat) (x1 : Int) (x2 : Int) (x3 : Int) (x4 : Int) (x5 : Int) (x6 : Int) (x7 : Int) (μ : bz_M) : x_M_repaired_0 (n + 1) x0 x1 x2 x3 x4 x5 x6 x7 μ =
    if x4 = 0 then
      if x1 = 2 then
        if x7 < 16 then
          bz_ci (d_Str_charAt n 6 x7 μ) fun v2 μ1 =>
          bz_ci (d_M_isRight n x0 x1 x2 x3 v2 μ1) fun v4 μ3 =>
          if v4 = 0 then x_M_repaired_0 n x0 x1 x2 x3 x4 x5 x6 (wr (x7 + 1)) μ3 else
          bz_ci (d_Str_charAt n 6 x7 μ3) fun v6 μ5 =>
          x_M_repaired_0 n x0 x1 x2 x3 x4 v6 (wr (x6 + 1)) (wr (x7 + 1)) μ5
        else
        if x6 = 1 then
          bz_pI μ x0 10 11 0 fun μ7 =>
          bz_fI μ7 x0 10 11 fun v8 =>
          if (0 : Int) < v8 then rI 0 μ7 else
          rI x5 μ7
        else
        bz_pI μ x0 10 11 3 fun μ9 =>
        bz_fI μ9 x0 10 11 fun v10 =>
        if (0 : Int) < v10 then rI 0 μ9 else
        rI x5 μ9
      else
      if x7 < 10 then
        bz_ci (d_Str_charAt n 6 x7 μ) fun v12 μ11 =>
        bz_ci (d_M_isRight n x0 x1 x2 x3 v12 μ11) fun v14 μ13 =>
        if v14 = 0 then x_M_repaired_0 n x0 x1 x2 x3 x4 x5 x6 (wr (x7 + 1)) μ13 else
        bz_ci (d_Str_charAt n 6 x7 μ13) fun v16 μ15 =>
        x_M_repaired_0 n x0 x1 x2 x3 x4 v16 (wr (x6 + 1)) (wr (x7 + 1)) μ15
      else
      if x6 = 1 then
        bz_pI μ x0 10 11 0 fun μ17 =>
        bz_fI μ17 x0 10 11 fun v18 =>
        if (0 : Int) < v18 then rI 0 μ17 else
        rI x5 μ17
      else
      bz_pI μ x0 10 11 3 fun μ19 =>
      bz_fI μ19 x0 10 11 fun v20 =>
      if (0 : Int) < v20 then rI 0 μ19 else
      rI x5 μ19
    else
    if x7 < 20 then
      bz_ci (d_Str_charAt n 6 x7 μ) fun v22 μ21 =>
      bz_ci (d_M_isRight n x0 x1 x2 x3 v22 μ21) fun v24 μ23 =>
      if v24 = 0 then x_M_repaired_0 n x0 x1 x2 x3 x4 x5 x6 (wr (x7 + 1)) μ23 else
      bz_ci (d_Str_charAt n 6 x7 μ23) fun v26 μ25 =>
      x_M_repaired_0 n x0 x1 x2 x3 x4 v26 (wr (x6 + 1)) (wr (x7 + 1)) μ25
    else
    if x6 = 1 then
      bz_pI μ x0 10 11 0 fun μ27 =>
      bz_fI μ27 x0 10 11 fun v28 =>
      if (0 : Int) < v28 then rI 0 μ27 else
      rI x5 μ27
    else
    bz_pI μ x0 10 11 3 fun μ29 =>
    bz_fI μ29 x0 10 11 fun v30 =>
    if (0 : Int) < v30 then rI 0 μ29 else
    rI x5 μ29 := rfl
set_option maxRecDepth 100000 in
theorem x_M_winner_eq (n : Nat) (a0 : Nat) (μ : bz_M) : x_M_winner (n + 1) a0 μ =
    bz_pI μ a0 10 11 0 fun μ1 =>
    x_M_winner_0 n a0 (-1) (-1) 0 μ1 := rfl
set_option maxRecDepth 100000 in
theorem x_M_winner_0_eq (n : Nat) (x0 : Nat) (x1 : Int) (x2 : Int) (x3 : Int) (μ : bz_M) : x_M_winner_0 (n + 1) x0 x1 x2 x3 μ =
    if x3 < 3 then
      bz_ci (d_M_problemOf n x0 x3 μ) fun v2 μ1 =>
      if v2 = 0 then
        bz_ci (d_M_shareOf n x0 x3 μ1) fun v4 μ3 =>
        if x2 < v4 then
          bz_ci (d_M_shareOf n x0 x3 μ3) fun v6 μ5 =>
          x_M_winner_0 n x0 x3 v6 (wr (x3 + 1)) μ5
        else
        x_M_winner_0 n x0 x1 x2 (wr (x3 + 1)) μ3
      else
      x_M_winner_0 n x0 x1 x2 (wr (x3 + 1)) μ1
    else
    rI x1 μ := rfl
set_option maxRecDepth 100000 in
theorem x_M_shareOf_eq (n : Nat) (a0 : Nat) (a1 : Int) (μ : bz_M) : x_M_shareOf (n + 1) a0 a1 μ =
    bz_ci (d_M_laysVotes n a0 a1 μ) fun v2 μ1 =>
    x_M_shareOf_0 n a0 v2 100 0 μ1 := rfl
set_option maxRecDepth 100000 in
theorem x_M_shareOf_0_eq (n : Nat) (x0 : Nat) (x2 : Int) (x3 : Int) (x4 : Int) (μ : bz_M) : x_M_shareOf_0 (n + 1) x0 x2 x3 x4 μ =
    if x4 < x2 then
      bz_fR μ x0 10 32 fun v1 =>
      bz_ci (d_M_votedAt n x0 x4 μ) fun v3 μ2 =>
      bz_rI μ2 v1 (wr ((wr (128 * x4)) + v3)) fun v4 =>
      bz_ci (d_M_allAt n x0 x4 μ2) fun v6 μ5 =>
      bz_dv (wr (100 * v4)) v6 fun v7 =>
      if v7 < x3 then x_M_shareOf_0 n x0 x2 v7 (wr (x4 + 1)) μ5 else
      x_M_shareOf_0 n x0 x2 x3 (wr (x4 + 1)) μ5
    else
    rI x3 μ := rfl
set_option maxRecDepth 100000 in
theorem x_M_worstScan_eq (n : Nat) (a0 : Nat) (a1 : Int) (μ : bz_M) : x_M_worstScan (n + 1) a0 a1 μ =
    bz_ci (x_M_isSymbology n a1 μ) fun v2 μ1 =>
    if v2 = 0 then
      bz_pI μ1 a0 10 11 1 fun μ3 =>
      bz_fI μ3 a0 10 11 fun v4 =>
      if (0 : Int) < v4 then rI 0 μ3 else
      bz_ci (d_M_laysVotes n a0 a1 μ3) fun v6 μ5 =>
      x_M_worstScan_0 n a0 v6 (-1) (-1) 0 μ5
    else
    bz_pI μ1 a0 10 11 0 fun μ7 =>
    bz_fI μ7 a0 10 11 fun v8 =>
    if (0 : Int) < v8 then rI 0 μ7 else
    bz_ci (d_M_laysVotes n a0 a1 μ7) fun v10 μ9 =>
    x_M_worstScan_0 n a0 v10 (-1) (-1) 0 μ9 := rfl
set_option maxRecDepth 100000 in
theorem x_M_worstScan_0_eq (n : Nat) (x0 : Nat) (x2 : Int) (x3 : Int) (x4 : Int) (x5 : Int) (μ : bz_M) : x_M_worstScan_0 (n + 1) x0 x2 x3 x4 x5 μ =
    bz_fI μ x0 10 8 fun v1 =>
    if x5 < v1 then
      if x2 = 0 then x_M_worstScan_0 n x0 x2 x3 x4 (wr (x5 + 1)) μ else
      bz_ci (d_M_manyOf n x0 x5 0 μ) fun v3 μ2 =>
      if v3 = x2 then x_M_worstScan_1 n x0 x2 x3 x4 x5 0 0 μ2 else
      x_M_worstScan_0 n x0 x2 x3 x4 (wr (x5 + 1)) μ2
    else
    if x3 = (-1) then
      bz_pI μ x0 10 11 2 fun μ4 =>
      bz_fI μ4 x0 10 11 fun v5 =>
      if (0 : Int) < v5 then rI 0 μ4 else
      rI x3 μ4
    else
    bz_pI μ x0 10 11 0 fun μ6 =>
    bz_fI μ6 x0 10 11 fun v7 =>
    if (0 : Int) < v7 then rI 0 μ6 else
    rI x3 μ6 := rfl
set_option maxRecDepth 100000 in
theorem x_M_worstScan_1_eq (n : Nat) (x0 : Nat) (x2 : Int) (x3 : Int) (x4 : Int) (x5 : Int) (x6 : Int) (x7 : Int) (μ : bz_M) : x_M_worstScan_1 (n + 1) x0 x2 x3 x4 x5 x6 x7 μ =
    if x7 < x2 then
      bz_ci (d_M_signOf n x0 x5 0 x7 μ) fun v2 μ1 =>
      bz_ci (d_M_votedAt n x0 x7 μ1) fun v4 μ3 =>
      if v2 = v4 then x_M_worstScan_1 n x0 x2 x3 x4 x5 (wr (x6 + 0)) (wr (x7 + 1)) μ3 else
      x_M_worstScan_1 n x0 x2 x3 x4 x5 (wr (x6 + 1)) (wr (x7 + 1)) μ3
    else
    if x4 < x6 then x_M_worstScan_0 n x0 x2 x5 x6 (wr (x5 + 1)) μ else
    x_M_worstScan_0 n x0 x2 x3 x4 (wr (x5 + 1)) μ := rfl
set_option maxRecDepth 100000 in
theorem x_M_setCheck_eq (n : Nat) (a0 : Nat) (a1 : Int) (a2 : Int) (μ : bz_M) : x_M_setCheck (n + 1) a0 a1 a2 μ =
    bz_ci (x_M_isSymbology n a1 μ) fun v2 μ1 =>
    if v2 = 0 then
      bz_pI μ1 a0 10 11 1 fun μ3 =>
      bz_fI μ3 a0 10 11 fun v4 =>
      if (0 : Int) < v4 then rI 0 μ3 else
      bz_fR μ3 a0 10 4 fun v5 =>
      bz_rB μ3 v5 a1 fun v6 =>
      bz_fR μ3 a0 10 4 fun v7 =>
      bz_wB μ3 v7 a1 a2 fun μ8 =>
      bz_zB v6 μ8
    else
    bz_pI μ1 a0 10 11 0 fun μ9 =>
    bz_fI μ9 a0 10 11 fun v10 =>
    if (0 : Int) < v10 then rI 0 μ9 else
    bz_fR μ9 a0 10 4 fun v11 =>
    bz_rB μ9 v11 a1 fun v12 =>
    bz_fR μ9 a0 10 4 fun v13 =>
    bz_wB μ9 v13 a1 a2 fun μ14 =>
    bz_zB v12 μ14 := rfl
