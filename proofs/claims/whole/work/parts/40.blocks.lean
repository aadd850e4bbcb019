/-! THE BLOCKS BY NAME: x_<method> from its start, x_<method>_<i> from its i-th cut; d_: a call by the receiver -/
noncomputable def x_E_new (n : Nat) (a0 : Nat) (μ : bz_M) : Option bz_R := bx n 0 0 [some (zR a0), none] [] μ
noncomputable def x_E_new_0 (n : Nat) (x0 : Nat) (x1 : Int) (μ : bz_M) : Option bz_R := bx n 0 98 [some (zR x0), some (zI x1)] [] μ
noncomputable def x_Row_new (n : Nat) (a0 : Nat) (μ : bz_M) : Option bz_R := bx n 1 0 [some (zR a0)] [] μ
noncomputable def x_Ean_new (n : Nat) (a0 : Nat) (μ : bz_M) : Option bz_R := bx n 2 0 [some (zR a0)] [] μ
noncomputable def x_Sym_new (n : Nat) (a0 : Nat) (a1 : Int) (a2 : Int) (a3 : Int) (a4 : Int) (μ : bz_M) : Option bz_R := bx n 3 0 [some (zR a0), some (zI a1), some (zI a2), some (zI a3), some (zI a4)] [] μ
noncomputable def x_Int_new (n : Nat) (a0 : Nat) (μ : bz_M) : Option bz_R := bx n 4 0 [some (zR a0)] [] μ
noncomputable def x_Cod_new (n : Nat) (a0 : Nat) (μ : bz_M) : Option bz_R := bx n 5 0 [some (zR a0)] [] μ
noncomputable def x_Tal_new (n : Nat) (a0 : Nat) (μ : bz_M) : Option bz_R := bx n 6 0 [some (zR a0)] [] μ
noncomputable def x_Seq_new (n : Nat) (a0 : Nat) (μ : bz_M) : Option bz_R := bx n 7 0 [some (zR a0)] [] μ
noncomputable def x_Scn_new (n : Nat) (a0 : Nat) (μ : bz_M) : Option bz_R := bx n 8 0 [some (zR a0)] [] μ
noncomputable def x_Rdg_new (n : Nat) (a0 : Nat) (μ : bz_M) : Option bz_R := bx n 9 0 [some (zR a0)] [] μ
noncomputable def x_E_scanCount (n : Nat) (a0 : Nat) (μ : bz_M) : Option bz_R := bx n 10 0 [some (zR a0)] [] μ
noncomputable def x_E_winner (n : Nat) (a0 : Nat) (μ : bz_M) : Option bz_R := bx n 11 0 [some (zR a0), none, none, none, none] [] μ
noncomputable def x_E_winner_0 (n : Nat) (x0 : Nat) (x1 : Int) (x2 : Int) (x3 : Int) (μ : bz_M) : Option bz_R := bx n 11 7 [some (zR x0), some (zI x1), some (zI x2), some (zI x3), none] [] μ
noncomputable def x_E_tally (n : Nat) (a0 : Nat) (a1 : Int) (μ : bz_M) : Option bz_R := bx n 12 0 [some (zR a0), some (zI a1), none, none, none] [] μ
noncomputable def x_E_tally_0 (n : Nat) (x0 : Nat) (x1 : Int) (x2 : Nat) (x3 : Nat) (x4 : Int) (μ : bz_M) : Option bz_R := bx n 12 20 [some (zR x0), some (zI x1), some (zR x2), some (zR x3), some (zI x4)] [] μ
noncomputable def x_E_requireSymbology (n : Nat) (a0 : Int) (μ : bz_M) : Option bz_R := bx n 13 0 [some (zI a0)] [] μ
noncomputable def x_Sym_interpret (n : Nat) (a0 : Nat) (a1 : Nat) (a2 : Nat) (a3 : Nat) (μ : bz_M) : Option bz_R := bx n 14 0 [some (zR a0), some (zR a1), some (zR a2), some (zR a3)] [] μ
noncomputable def x_Rdg_clear (n : Nat) (a0 : Nat) (μ : bz_M) : Option bz_R := bx n 15 0 [some (zR a0)] [] μ
noncomputable def x_Sym_findWhole (n : Nat) (a0 : Nat) (a1 : Nat) (a2 : Nat) (μ : bz_M) : Option bz_R := bx n 16 0 [some (zR a0), some (zR a1), some (zR a2), none, none] [] μ
noncomputable def x_Sym_findWhole_0 (n : Nat) (x0 : Nat) (x1 : Nat) (x2 : Nat) (x3 : Int) (μ : bz_M) : Option bz_R := bx n 16 3 [some (zR x0), some (zR x1), some (zR x2), some (zI x3), none] [] μ
noncomputable def x_Cod_beginsAt (n : Nat) (a0 : Nat) (a1 : Nat) (a2 : Int) (μ : bz_M) : Option bz_R := bx n 17 0 [some (zR a0), some (zR a1), some (zI a2)] [] μ
noncomputable def x_Row_match (n : Nat) (a0 : Nat) (a1 : Int) (a2 : Int) (a3 : Int) (a4 : Nat) (μ : bz_M) : Option bz_R := bx n 18 0 [some (zR a0), some (zI a1), some (zI a2), some (zI a3), some (zR a4), none, none, none, none, none, none, none, none] [] μ
noncomputable def x_Row_match_0 (n : Nat) (x0 : Nat) (x1 : Int) (x2 : Int) (x4 : Nat) (x5 : Int) (x6 : Int) (x7 : Int) (x8 : Int) (μ : bz_M) : Option bz_R := bx n 18 29 [some (zR x0), some (zI x1), some (zI x2), none, some (zR x4), some (zI x5), some (zI x6), some (zI x7), some (zI x8), none, none, none, none] [] μ
noncomputable def x_Row_match_1 (n : Nat) (x0 : Nat) (x2 : Int) (x4 : Nat) (x5 : Int) (x6 : Int) (x7 : Int) (x8 : Int) (x9 : Int) (x10 : Int) (x11 : Int) (μ : bz_M) : Option bz_R := bx n 18 81 [some (zR x0), none, some (zI x2), none, some (zR x4), some (zI x5), some (zI x6), some (zI x7), some (zI x8), some (zI x9), some (zI x10), some (zI x11), none] [] μ
noncomputable def x_Row_match_2 (n : Nat) (x4 : Nat) (x8 : Int) (x12 : Int) (μ : bz_M) : Option bz_R := bx n 18 150 [none, none, none, none, some (zR x4), none, none, none, some (zI x8), none, none, none, some (zI x12)] [] μ
noncomputable def x_Row_isQuiet (n : Nat) (a0 : Nat) (a1 : Int) (a2 : Int) (a3 : Int) (μ : bz_M) : Option bz_R := bx n 19 0 [some (zR a0), some (zI a1), some (zI a2), some (zI a3), none, none] [] μ
noncomputable def x_Row_isQuiet_0 (n : Nat) (x0 : Nat) (x1 : Int) (x2 : Int) (x3 : Int) (x4 : Int) (x5 : Int) (μ : bz_M) : Option bz_R := bx n 19 27 [some (zR x0), some (zI x1), some (zI x2), some (zI x3), some (zI x4), some (zI x5)] [] μ
noncomputable def x_Ean_beginsAt (n : Nat) (a0 : Nat) (a1 : Nat) (a2 : Int) (μ : bz_M) : Option bz_R := bx n 20 0 [some (zR a0), some (zR a1), some (zI a2)] [] μ
noncomputable def x_Row_isEven (n : Nat) (a0 : Nat) (a1 : Int) (a2 : Int) (μ : bz_M) : Option bz_R := bx n 21 0 [some (zR a0), some (zI a1), some (zI a2), none, none, none] [] μ
noncomputable def x_Row_isEven_0 (n : Nat) (x0 : Nat) (x1 : Int) (x2 : Int) (x3 : Int) (x4 : Int) (x5 : Int) (μ : bz_M) : Option bz_R := bx n 21 23 [some (zR x0), some (zI x1), some (zI x2), some (zI x3), some (zI x4), some (zI x5)] [] μ
noncomputable def x_Int_beginsAt (n : Nat) (a0 : Nat) (a1 : Nat) (a2 : Int) (μ : bz_M) : Option bz_R := bx n 22 0 [some (zR a0), some (zR a1), some (zI a2)] [] μ
noncomputable def x_Ean_addWhole (n : Nat) (a0 : Nat) (a1 : Nat) (a2 : Int) (a3 : Nat) (μ : bz_M) : Option bz_R := bx n 23 0 [some (zR a0), some (zR a1), some (zI a2), some (zR a3), none, none] [] μ
noncomputable def x_Ean_addWhole_0 (n : Nat) (x0 : Nat) (x1 : Nat) (x3 : Nat) (x4 : Int) (x5 : Int) (μ : bz_M) : Option bz_R := bx n 23 11 [some (zR x0), some (zR x1), none, some (zR x3), some (zI x4), some (zI x5)] [] μ
noncomputable def x_Ean_addUnit (n : Nat) (a0 : Nat) (a1 : Nat) (a2 : Int) (a3 : Nat) (μ : bz_M) : Option bz_R := bx n 24 0 [some (zR a0), some (zR a1), some (zI a2), some (zR a3), none, none, none, none, none, none, none, none] [] μ
noncomputable def x_Row_has (n : Nat) (a0 : Nat) (a1 : Int) (a2 : Int) (μ : bz_M) : Option bz_R := bx n 25 0 [some (zR a0), some (zI a1), some (zI a2)] [] μ
noncomputable def x_Ean_digitOf (n : Nat) (a0 : Int) (a1 : Int) (a2 : Int) (μ : bz_M) : Option bz_R := bx n 26 0 [some (zI a0), some (zI a1), some (zI a2)] [] μ
noncomputable def x_Mth_abs (n : Nat) (a0 : Int) (μ : bz_M) : Option bz_R := bx n 27 0 [some (zI a0)] [] μ
noncomputable def x_Mth_max (n : Nat) (a0 : Int) (a1 : Int) (μ : bz_M) : Option bz_R := bx n 28 0 [some (zI a0), some (zI a1)] [] μ
noncomputable def x_Seq_add (n : Nat) (a0 : Nat) (a1 : Int) (a2 : Int) (μ : bz_M) : Option bz_R := bx n 29 0 [some (zR a0), some (zI a1), some (zI a2)] [] μ
noncomputable def x_Ean_endsAt (n : Nat) (a0 : Nat) (a1 : Nat) (a2 : Int) (μ : bz_M) : Option bz_R := bx n 30 0 [some (zR a0), some (zR a1), some (zI a2)] [] μ
noncomputable def x_Sym_addWhole (n : Nat) (a0 : Nat) (a1 : Nat) (a2 : Int) (a3 : Nat) (μ : bz_M) : Option bz_R := bx n 31 0 [some (zR a0), some (zR a1), some (zI a2), some (zR a3), none, none] [] μ
noncomputable def x_Sym_addWhole_0 (n : Nat) (x0 : Nat) (x1 : Nat) (x3 : Nat) (x4 : Int) (x5 : Int) (μ : bz_M) : Option bz_R := bx n 31 16 [some (zR x0), some (zR x1), none, some (zR x3), some (zI x4), some (zI x5)] [] μ
noncomputable def x_Cod_addGuard (n : Nat) (a0 : Nat) (a1 : Nat) (a2 : Int) (a3 : Nat) (μ : bz_M) : Option bz_R := bx n 32 0 [some (zR a0), some (zR a1), some (zI a2), some (zR a3), none] [] μ
noncomputable def x_Sym_addGuard (n : Nat) (a0 : Nat) (a1 : Nat) (a2 : Int) (a3 : Nat) (μ : bz_M) : Option bz_R := bx n 33 0 [some (zR a0), some (zR a1), some (zI a2), some (zR a3)] [] μ
noncomputable def x_Cod_addUnit (n : Nat) (a0 : Nat) (a1 : Nat) (a2 : Int) (a3 : Nat) (μ : bz_M) : Option bz_R := bx n 34 0 [some (zR a0), some (zR a1), some (zI a2), some (zR a3), none] [] μ
noncomputable def x_Int_addUnit (n : Nat) (a0 : Nat) (a1 : Nat) (a2 : Int) (a3 : Nat) (μ : bz_M) : Option bz_R := bx n 35 0 [some (zR a0), some (zR a1), some (zI a2), some (zR a3), none, none, none] [] μ
noncomputable def x_Cod_endsAt (n : Nat) (a0 : Nat) (a1 : Nat) (a2 : Int) (μ : bz_M) : Option bz_R := bx n 36 0 [some (zR a0), some (zR a1), some (zI a2)] [] μ
noncomputable def x_Int_endsAt (n : Nat) (a0 : Nat) (a1 : Nat) (a2 : Int) (μ : bz_M) : Option bz_R := bx n 37 0 [some (zR a0), some (zR a1), some (zI a2), none] [] μ
noncomputable def x_Row_copyReversed (n : Nat) (a0 : Nat) (a1 : Nat) (μ : bz_M) : Option bz_R := bx n 38 0 [some (zR a0), some (zR a1), none] [] μ
noncomputable def x_Row_copyReversed_0 (n : Nat) (x0 : Nat) (x1 : Nat) (x2 : Int) (μ : bz_M) : Option bz_R := bx n 38 7 [some (zR x0), some (zR x1), some (zI x2)] [] μ
noncomputable def x_Rdg_turn (n : Nat) (a0 : Nat) (a1 : Int) (μ : bz_M) : Option bz_R := bx n 39 0 [some (zR a0), some (zI a1), none] [] μ
noncomputable def x_Sym_findParts (n : Nat) (a0 : Nat) (a1 : Nat) (a2 : Nat) (μ : bz_M) : Option bz_R := bx n 40 0 [some (zR a0), some (zR a1), some (zR a2), none, none, none] [] μ
noncomputable def x_Sym_findParts_0 (n : Nat) (x0 : Nat) (x1 : Nat) (x2 : Nat) (x3 : Nat) (x4 : Int) (μ : bz_M) : Option bz_R := bx n 40 9 [some (zR x0), some (zR x1), some (zR x2), some (zR x3), some (zI x4), none] [] μ
noncomputable def x_Sym_findParts_1 (n : Nat) (x0 : Nat) (x1 : Nat) (x3 : Nat) (x4 : Nat) (x5 : Int) (μ : bz_M) : Option bz_R := bx n 40 44 [some (zR x0), some (zR x1), none, some (zR x3), some (zR x4), some (zI x5)] [] μ
noncomputable def x_Sym_addHead (n : Nat) (a0 : Nat) (a1 : Nat) (a2 : Int) (a3 : Nat) (μ : bz_M) : Option bz_R := bx n 41 0 [some (zR a0), some (zR a1), some (zI a2), some (zR a3), none, none] [] μ
noncomputable def x_Sym_addHead_0 (n : Nat) (x0 : Nat) (x1 : Nat) (x3 : Nat) (x4 : Int) (x5 : Int) (μ : bz_M) : Option bz_R := bx n 41 13 [some (zR x0), some (zR x1), none, some (zR x3), some (zI x4), some (zI x5)] [] μ
noncomputable def x_Sym_addTail (n : Nat) (a0 : Nat) (a1 : Nat) (a2 : Int) (a3 : Nat) (μ : bz_M) : Option bz_R := bx n 42 0 [some (zR a0), some (zR a1), some (zI a2), some (zR a3), none, none, none] [] μ
noncomputable def x_Sym_addTail_0 (n : Nat) (x0 : Nat) (x1 : Nat) (x3 : Nat) (x4 : Int) (x5 : Int) (μ : bz_M) : Option bz_R := bx n 42 8 [some (zR x0), some (zR x1), none, some (zR x3), some (zI x4), some (zI x5), none] [] μ
noncomputable def x_Sym_addTail_1 (n : Nat) (x0 : Nat) (x1 : Nat) (x3 : Nat) (x4 : Int) (x5 : Int) (x6 : Int) (μ : bz_M) : Option bz_R := bx n 42 34 [some (zR x0), some (zR x1), none, some (zR x3), some (zI x4), some (zI x5), some (zI x6)] [] μ
noncomputable def x_Tal_recount (n : Nat) (a0 : Nat) (a1 : Nat) (a2 : Int) (a3 : Nat) (a4 : Int) (μ : bz_M) : Option bz_R := bx n 43 0 [some (zR a0), some (zR a1), some (zI a2), some (zR a3), some (zI a4), none] [] μ
noncomputable def x_Tal_recount_0 (n : Nat) (x0 : Nat) (x2 : Int) (x3 : Nat) (x4 : Int) (x5 : Int) (μ : bz_M) : Option bz_R := bx n 43 20 [some (zR x0), none, some (zI x2), some (zR x3), some (zI x4), some (zI x5)] [] μ
noncomputable def x_Tal_recount_1 (n : Nat) (x0 : Nat) (x2 : Int) (x3 : Nat) (x4 : Int) (x5 : Int) (μ : bz_M) : Option bz_R := bx n 43 35 [some (zR x0), none, some (zI x2), some (zR x3), some (zI x4), some (zI x5)] [] μ
noncomputable def x_Tal_recount_2 (n : Nat) (x0 : Nat) (x2 : Int) (x3 : Nat) (x4 : Int) (x5 : Int) (μ : bz_M) : Option bz_R := bx n 43 50 [some (zR x0), none, some (zI x2), some (zR x3), some (zI x4), some (zI x5)] [] μ
noncomputable def x_Tal_recount_3 (n : Nat) (x0 : Nat) (x5 : Int) (μ : bz_M) : Option bz_R := bx n 43 66 [some (zR x0), none, none, none, none, some (zI x5)] [] μ
noncomputable def x_Tal_supportedLength (n : Nat) (a0 : Nat) (a1 : Int) (a2 : Nat) (a3 : Int) (μ : bz_M) : Option bz_R := bx n 44 0 [some (zR a0), some (zI a1), some (zR a2), some (zI a3), none, none] [] μ
noncomputable def x_Tal_supportedLength_0 (n : Nat) (x0 : Nat) (x1 : Int) (x2 : Nat) (x3 : Int) (x4 : Int) (μ : bz_M) : Option bz_R := bx n 44 3 [some (zR x0), some (zI x1), some (zR x2), some (zI x3), some (zI x4), none] [] μ
noncomputable def x_Tal_supportedLength_1 (n : Nat) (x0 : Nat) (x1 : Int) (x2 : Nat) (x3 : Int) (x4 : Int) (μ : bz_M) : Option bz_R := bx n 44 18 [some (zR x0), some (zI x1), some (zR x2), some (zI x3), some (zI x4), none] [] μ
noncomputable def x_Tal_supportedLength_2 (n : Nat) (x0 : Nat) (x4 : Int) (x5 : Int) (μ : bz_M) : Option bz_R := bx n 44 57 [some (zR x0), none, none, none, some (zI x4), some (zI x5)] [] μ
noncomputable def x_Seq_leastConfidence (n : Nat) (a0 : Nat) (μ : bz_M) : Option bz_R := bx n 45 0 [some (zR a0), none, none] [] μ
noncomputable def x_Seq_leastConfidence_0 (n : Nat) (x0 : Nat) (x1 : Int) (x2 : Int) (μ : bz_M) : Option bz_R := bx n 45 5 [some (zR x0), some (zI x1), some (zI x2)] [] μ
noncomputable def x_Mth_min (n : Nat) (a0 : Int) (a1 : Int) (μ : bz_M) : Option bz_R := bx n 46 0 [some (zI a0), some (zI a1)] [] μ
noncomputable def x_Ean_joinedLength (n : Nat) (a0 : Nat) (a1 : Int) (a2 : Nat) (a3 : Int) (μ : bz_M) : Option bz_R := bx n 47 0 [some (zR a0), some (zI a1), some (zR a2), some (zI a3), none, none, none] [] μ
noncomputable def x_Ean_joinedLength_0 (n : Nat) (x1 : Int) (x2 : Nat) (x3 : Int) (x4 : Int) (x5 : Int) (x6 : Int) (μ : bz_M) : Option bz_R := bx n 47 7 [none, some (zI x1), some (zR x2), some (zI x3), some (zI x4), some (zI x5), some (zI x6)] [] μ
noncomputable def x_Sym_joinedLength (n : Nat) (a0 : Nat) (a1 : Int) (a2 : Nat) (a3 : Int) (μ : bz_M) : Option bz_R := bx n 48 0 [some (zR a0), some (zI a1), some (zR a2), some (zI a3), none, none, none, none, none, none, none] [] μ
noncomputable def x_Sym_joinedLength_0 (n : Nat) (x0 : Nat) (x1 : Int) (x2 : Nat) (x3 : Int) (x4 : Int) (x5 : Int) (x6 : Int) (μ : bz_M) : Option bz_R := bx n 48 7 [some (zR x0), some (zI x1), some (zR x2), some (zI x3), some (zI x4), some (zI x5), some (zI x6), none, none, none, none] [] μ
noncomputable def x_Sym_joinedLength_1 (n : Nat) (x0 : Nat) (x1 : Int) (x2 : Nat) (x3 : Int) (x4 : Int) (x5 : Int) (x6 : Int) (x7 : Nat) (x8 : Int) (μ : bz_M) : Option bz_R := bx n 48 21 [some (zR x0), some (zI x1), some (zR x2), some (zI x3), some (zI x4), some (zI x5), some (zI x6), some (zR x7), some (zI x8), none, none] [] μ
noncomputable def x_Ean_seam (n : Nat) (a0 : Nat) (a1 : Nat) (a2 : Nat) (μ : bz_M) : Option bz_R := bx n 49 0 [some (zR a0), some (zR a1), some (zR a2)] [] μ
noncomputable def x_Sym_seam (n : Nat) (a0 : Nat) (a1 : Nat) (a2 : Nat) (μ : bz_M) : Option bz_R := bx n 50 0 [some (zR a0), some (zR a1), some (zR a2), none] [] μ
noncomputable def x_Sym_seam_0 (n : Nat) (x0 : Nat) (x1 : Nat) (x2 : Nat) (x3 : Int) (μ : bz_M) : Option bz_R := bx n 50 7 [some (zR x0), some (zR x1), some (zR x2), some (zI x3)] [] μ
noncomputable def x_Seq_endsLike (n : Nat) (a0 : Nat) (a1 : Nat) (a2 : Int) (μ : bz_M) : Option bz_R := bx n 51 0 [some (zR a0), some (zR a1), some (zI a2), none] [] μ
noncomputable def x_Seq_endsLike_0 (n : Nat) (x0 : Nat) (x1 : Nat) (x2 : Int) (x3 : Int) (μ : bz_M) : Option bz_R := bx n 51 15 [some (zR x0), some (zR x1), some (zI x2), some (zI x3)] [] μ
noncomputable def x_Cod_hasLength (n : Nat) (a0 : Nat) (a1 : Int) (μ : bz_M) : Option bz_R := bx n 52 0 [some (zR a0), some (zI a1)] [] μ
noncomputable def x_Ean_hasLength (n : Nat) (a0 : Nat) (a1 : Int) (μ : bz_M) : Option bz_R := bx n 53 0 [some (zR a0), some (zI a1)] [] μ
noncomputable def x_Int_hasLength (n : Nat) (a0 : Nat) (a1 : Int) (μ : bz_M) : Option bz_R := bx n 54 0 [some (zR a0), some (zI a1)] [] μ
noncomputable def x_Tal_countVotes (n : Nat) (a0 : Nat) (a1 : Nat) (μ : bz_M) : Option bz_R := bx n 55 0 [some (zR a0), some (zR a1)] [] μ
noncomputable def x_Tal_addVotes (n : Nat) (a0 : Nat) (a1 : Nat) (a2 : Int) (μ : bz_M) : Option bz_R := bx n 56 0 [some (zR a0), some (zR a1), some (zI a2), none, none, none] [] μ
noncomputable def x_Tal_addVotes_0 (n : Nat) (x0 : Nat) (x1 : Nat) (x2 : Int) (x3 : Int) (μ : bz_M) : Option bz_R := bx n 56 3 [some (zR x0), some (zR x1), some (zI x2), some (zI x3), none, none] [] μ
noncomputable def x_Tal_majorityAt (n : Nat) (a0 : Nat) (a1 : Int) (μ : bz_M) : Option bz_R := bx n 57 0 [some (zR a0), some (zI a1), none] [] μ
noncomputable def x_Tal_majorityAt_0 (n : Nat) (x0 : Nat) (x1 : Int) (x2 : Int) (μ : bz_M) : Option bz_R := bx n 57 3 [some (zR x0), some (zI x1), some (zI x2)] [] μ
noncomputable def x_Tal_weightOf (n : Nat) (a0 : Nat) (a1 : Int) (a2 : Int) (μ : bz_M) : Option bz_R := bx n 58 0 [some (zR a0), some (zI a1), some (zI a2), none, none] [] μ
noncomputable def x_E_problemOf (n : Nat) (a0 : Nat) (a1 : Nat) (a2 : Int) (μ : bz_M) : Option bz_R := bx n 59 0 [some (zR a0), some (zR a1), some (zI a2)] [] μ
noncomputable def x_Tal_doubts (n : Nat) (a0 : Nat) (μ : bz_M) : Option bz_R := bx n 60 0 [some (zR a0), none, none] [] μ
noncomputable def x_Tal_doubts_0 (n : Nat) (x0 : Nat) (x1 : Int) (x2 : Int) (μ : bz_M) : Option bz_R := bx n 60 5 [some (zR x0), some (zI x1), some (zI x2)] [] μ
noncomputable def x_Seq_copyValues (n : Nat) (a0 : Nat) (a1 : Nat) (a2 : Int) (μ : bz_M) : Option bz_R := bx n 61 0 [some (zR a0), some (zR a1), some (zI a2), none] [] μ
noncomputable def x_Seq_copyValues_0 (n : Nat) (x0 : Nat) (x1 : Nat) (x2 : Int) (x3 : Int) (μ : bz_M) : Option bz_R := bx n 61 6 [some (zR x0), some (zR x1), some (zI x2), some (zI x3)] [] μ
noncomputable def x_Cod_isRight (n : Nat) (a0 : Nat) (a1 : Nat) (μ : bz_M) : Option bz_R := bx n 62 0 [some (zR a0), some (zR a1), none, none] [] μ
noncomputable def x_Cod_isRight_0 (n : Nat) (x1 : Nat) (x2 : Int) (x3 : Int) (μ : bz_M) : Option bz_R := bx n 62 5 [none, some (zR x1), some (zI x2), some (zI x3)] [] μ
noncomputable def x_Sym_isRight (n : Nat) (a0 : Nat) (a1 : Nat) (μ : bz_M) : Option bz_R := bx n 63 0 [some (zR a0), some (zR a1), none, none] [] μ
noncomputable def x_Sym_isRight_0 (n : Nat) (x1 : Nat) (x2 : Int) (x3 : Int) (μ : bz_M) : Option bz_R := bx n 63 5 [none, some (zR x1), some (zI x2), some (zI x3)] [] μ
noncomputable def x_Tal_share (n : Nat) (a0 : Nat) (μ : bz_M) : Option bz_R := bx n 64 0 [some (zR a0), none, none, none] [] μ
noncomputable def x_Tal_share_0 (n : Nat) (x0 : Nat) (x1 : Int) (x2 : Int) (μ : bz_M) : Option bz_R := bx n 64 5 [some (zR x0), some (zI x1), some (zI x2), none] [] μ
noncomputable def x_L_append (n : Nat) (a0 : Nat) (a1 : Int) (a2 : Int) (a3 : Int) (a4 : Int) (a5 : Int) (a6 : Nat) (μ : bz_M) : Option bz_R := bx n 65 0 [some (zR a0), some (zI a1), some (zI a2), some (zI a3), some (zI a4), some (zI a5), some (zR a6), none] [] μ
noncomputable def x_E_append (n : Nat) (a0 : Nat) (a1 : Int) (a2 : Int) (a3 : Int) (a4 : Int) (a5 : Int) (μ : bz_M) : Option bz_R := bx n 66 0 [some (zR a0), some (zI a1), some (zI a2), some (zI a3), some (zI a4), some (zI a5)] [] μ
noncomputable def x_E_appendBytes (n : Nat) (a0 : Nat) (a1 : Int) (μ : bz_M) : Option bz_R := bx n 67 0 [some (zR a0), some (zI a1), none] [] μ
noncomputable def x_E_appendBytes_0 (n : Nat) (x0 : Nat) (x1 : Int) (x2 : Int) (μ : bz_M) : Option bz_R := bx n 67 3 [some (zR x0), some (zI x1), some (zI x2)] [] μ
noncomputable def x_L_print (n : Nat) (a0 : Nat) (a1 : Int) (a2 : Int) (a3 : Int) (a4 : Int) (a5 : Int) (a6 : Nat) (μ : bz_M) : Option bz_R := bx n 68 0 [some (zR a0), some (zI a1), some (zI a2), some (zI a3), some (zI a4), some (zI a5), some (zR a6), none] [] μ
noncomputable def x_E_print (n : Nat) (a0 : Nat) (a1 : Int) (a2 : Int) (a3 : Int) (a4 : Int) (a5 : Int) (μ : bz_M) : Option bz_R := bx n 69 0 [some (zR a0), some (zI a1), some (zI a2), some (zI a3), some (zI a4), some (zI a5), none, none] [] μ
noncomputable def x_E_requireTextLength (n : Nat) (a0 : Nat) (a1 : Int) (μ : bz_M) : Option bz_R := bx n 70 0 [some (zR a0), some (zI a1)] [] μ
noncomputable def x_E_takeText (n : Nat) (a0 : Nat) (a1 : Int) (μ : bz_M) : Option bz_R := bx n 71 0 [some (zR a0), some (zI a1), none] [] μ
noncomputable def x_E_takeText_0 (n : Nat) (x0 : Nat) (x1 : Int) (x2 : Int) (μ : bz_M) : Option bz_R := bx n 71 7 [some (zR x0), some (zI x1), some (zI x2)] [] μ
noncomputable def x_E_valueOf (n : Nat) (a0 : Int) (μ : bz_M) : Option bz_R := bx n 72 0 [some (zI a0)] [] μ
noncomputable def x_Str_indexOf (n : Nat) (a0 : Nat) (a1 : Int) (μ : bz_M) : Option bz_R := bx n 73 0 [some (zR a0), some (zI a1)] [] μ
noncomputable def x_Str_indexOf2 (n : Nat) (a0 : Nat) (a1 : Int) (a2 : Int) (μ : bz_M) : Option bz_R := bx n 74 0 [some (zR a0), some (zI a1), some (zI a2)] [] μ
noncomputable def x_Str_isLatin1 (n : Nat) (a0 : Nat) (μ : bz_M) : Option bz_R := bx n 75 0 [some (zR a0)] [] μ
noncomputable def x_Str_length (n : Nat) (a0 : Nat) (μ : bz_M) : Option bz_R := bx n 76 0 [some (zR a0)] [] μ
noncomputable def x_Str_coder (n : Nat) (a0 : Nat) (μ : bz_M) : Option bz_R := bx n 77 0 [some (zR a0)] [] μ
noncomputable def x_Lat_indexOf (n : Nat) (a0 : Nat) (a1 : Int) (a2 : Int) (a3 : Int) (μ : bz_M) : Option bz_R := bx n 78 0 [some (zR a0), some (zI a1), some (zI a2), some (zI a3)] [] μ
noncomputable def x_Lat_canEncode (n : Nat) (a0 : Int) (μ : bz_M) : Option bz_R := bx n 79 0 [some (zI a0)] [] μ
noncomputable def x_Lat_indexOfChar (n : Nat) (a0 : Nat) (a1 : Int) (a2 : Int) (a3 : Int) (μ : bz_M) : Option bz_R := bx n 80 0 [some (zR a0), some (zI a1), some (zI a2), some (zI a3), none, none] [] μ
noncomputable def x_Lat_indexOfChar_0 (n : Nat) (x0 : Nat) (x3 : Int) (x4 : Int) (x5 : Int) (μ : bz_M) : Option bz_R := bx n 80 6 [some (zR x0), none, none, some (zI x3), some (zI x4), some (zI x5)] [] μ
noncomputable def x_E_isCode (n : Nat) (a0 : Nat) (a1 : Nat) (μ : bz_M) : Option bz_R := bx n 81 0 [some (zR a0), some (zR a1), none] [] μ
noncomputable def x_E_isCode_0 (n : Nat) (x0 : Nat) (x1 : Nat) (x2 : Int) (μ : bz_M) : Option bz_R := bx n 81 3 [some (zR x0), some (zR x1), some (zI x2)] [] μ
noncomputable def x_Cod_allows (n : Nat) (a0 : Nat) (a1 : Int) (a2 : Int) (a3 : Int) (μ : bz_M) : Option bz_R := bx n 82 0 [some (zR a0), some (zI a1), some (zI a2), some (zI a3), none, none] [] μ
noncomputable def x_Sym_allows (n : Nat) (a0 : Nat) (a1 : Int) (a2 : Int) (a3 : Int) (μ : bz_M) : Option bz_R := bx n 83 0 [some (zR a0), some (zI a1), some (zI a2), some (zI a3)] [] μ
noncomputable def x_E_requireRoomForScan (n : Nat) (a0 : Nat) (μ : bz_M) : Option bz_R := bx n 84 0 [some (zR a0)] [] μ
noncomputable def x_Cod_draw (n : Nat) (a0 : Nat) (a1 : Nat) (a2 : Nat) (μ : bz_M) : Option bz_R := bx n 85 0 [some (zR a0), some (zR a1), some (zR a2), none, none, none, none] [] μ
noncomputable def x_Cod_draw_0 (n : Nat) (x1 : Nat) (x2 : Nat) (x3 : Int) (μ : bz_M) : Option bz_R := bx n 85 3 [none, some (zR x1), some (zR x2), some (zI x3), none, none, none] [] μ
noncomputable def x_Cod_draw_1 (n : Nat) (x1 : Nat) (x2 : Nat) (x3 : Int) (x5 : Int) (x6 : Int) (μ : bz_M) : Option bz_R := bx n 85 31 [none, some (zR x1), some (zR x2), some (zI x3), none, some (zI x5), some (zI x6)] [] μ
noncomputable def x_Row_add (n : Nat) (a0 : Nat) (a1 : Int) (μ : bz_M) : Option bz_R := bx n 86 0 [some (zR a0), some (zI a1)] [] μ
noncomputable def x_Ean_draw (n : Nat) (a0 : Nat) (a1 : Nat) (a2 : Nat) (μ : bz_M) : Option bz_R := bx n 87 0 [some (zR a0), some (zR a1), some (zR a2), none, none, none] [] μ
noncomputable def x_Ean_draw_0 (n : Nat) (x1 : Nat) (x2 : Nat) (x3 : Int) (μ : bz_M) : Option bz_R := bx n 87 6 [none, some (zR x1), some (zR x2), some (zI x3), none, none] [] μ
noncomputable def x_Ean_draw_1 (n : Nat) (x1 : Nat) (x2 : Nat) (x3 : Int) (x4 : Int) (x5 : Int) (μ : bz_M) : Option bz_R := bx n 87 26 [none, some (zR x1), some (zR x2), some (zI x3), some (zI x4), some (zI x5)] [] μ
noncomputable def x_Ean_addOnes (n : Nat) (a0 : Nat) (a1 : Int) (μ : bz_M) : Option bz_R := bx n 88 0 [some (zR a0), some (zI a1), none] [] μ
noncomputable def x_Ean_addOnes_0 (n : Nat) (x0 : Nat) (x1 : Int) (x2 : Int) (μ : bz_M) : Option bz_R := bx n 88 3 [some (zR x0), some (zI x1), some (zI x2)] [] μ
noncomputable def x_Int_draw (n : Nat) (a0 : Nat) (a1 : Nat) (a2 : Nat) (μ : bz_M) : Option bz_R := bx n 89 0 [some (zR a0), some (zR a1), some (zR a2), none, none, none, none] [] μ
noncomputable def x_Int_draw_0 (n : Nat) (x1 : Nat) (x2 : Nat) (x3 : Int) (μ : bz_M) : Option bz_R := bx n 89 3 [none, some (zR x1), some (zR x2), some (zI x3), none, none, none] [] μ
noncomputable def x_Int_draw_1 (n : Nat) (x1 : Nat) (x2 : Nat) (x3 : Int) (μ : bz_M) : Option bz_R := bx n 89 14 [none, some (zR x1), some (zR x2), some (zI x3), none, none, none] [] μ
noncomputable def x_Int_draw_2 (n : Nat) (x1 : Nat) (x2 : Nat) (x3 : Int) (x4 : Int) (x5 : Int) (x6 : Int) (μ : bz_M) : Option bz_R := bx n 89 37 [none, some (zR x1), some (zR x2), some (zI x3), some (zI x4), some (zI x5), some (zI x6)] [] μ
noncomputable def x_Int_patternOf (n : Nat) (a0 : Int) (μ : bz_M) : Option bz_R := bx n 90 0 [some (zI a0)] [] μ
noncomputable def x_E_addPrinted (n : Nat) (a0 : Nat) (a1 : Nat) (a2 : Int) (a3 : Int) (a4 : Int) (μ : bz_M) : Option bz_R := bx n 91 0 [some (zR a0), some (zR a1), some (zI a2), some (zI a3), some (zI a4), none, none, none] [] μ
noncomputable def x_E_addPrinted_0 (n : Nat) (x0 : Nat) (x1 : Nat) (x2 : Int) (x3 : Int) (x4 : Int) (x5 : Int) (x6 : Int) (μ : bz_M) : Option bz_R := bx n 91 5 [some (zR x0), some (zR x1), some (zI x2), some (zI x3), some (zI x4), some (zI x5), some (zI x6), none] [] μ
noncomputable def x_E_keepScan (n : Nat) (a0 : Nat) (a1 : Nat) (μ : bz_M) : Option bz_R := bx n 92 0 [some (zR a0), some (zR a1)] [] μ
noncomputable def x_E_forget (n : Nat) (a0 : Nat) (a1 : Nat) (μ : bz_M) : Option bz_R := bx n 93 0 [some (zR a0), some (zR a1), none] [] μ
noncomputable def x_E_forget_0 (n : Nat) (x0 : Nat) (x1 : Nat) (x2 : Int) (μ : bz_M) : Option bz_R := bx n 93 3 [some (zR x0), some (zR x1), some (zI x2)] [] μ
noncomputable def x_L_checkCharacter (n : Nat) (a0 : Nat) (a1 : Int) (a2 : Int) (a3 : Nat) (μ : bz_M) : Option bz_R := bx n 94 0 [some (zR a0), some (zI a1), some (zI a2), some (zR a3), none] [] μ
noncomputable def x_E_checkCharacter (n : Nat) (a0 : Nat) (a1 : Int) (a2 : Int) (μ : bz_M) : Option bz_R := bx n 95 0 [some (zR a0), some (zI a1), some (zI a2), none, none] [] μ
noncomputable def x_Cod_checkPlace (n : Nat) (a0 : Nat) (a1 : Int) (μ : bz_M) : Option bz_R := bx n 96 0 [some (zR a0), some (zI a1)] [] μ
noncomputable def x_Sym_checkPlace (n : Nat) (a0 : Nat) (a1 : Int) (μ : bz_M) : Option bz_R := bx n 97 0 [some (zR a0), some (zI a1)] [] μ
noncomputable def x_Seq_insert (n : Nat) (a0 : Nat) (a1 : Int) (a2 : Int) (μ : bz_M) : Option bz_R := bx n 98 0 [some (zR a0), some (zI a1), some (zI a2), none] [] μ
noncomputable def x_Seq_insert_0 (n : Nat) (x0 : Nat) (x1 : Int) (x2 : Int) (x3 : Int) (μ : bz_M) : Option bz_R := bx n 98 17 [some (zR x0), some (zI x1), some (zI x2), some (zI x3)] [] μ
noncomputable def x_E_rightValue (n : Nat) (a0 : Nat) (a1 : Nat) (a2 : Int) (μ : bz_M) : Option bz_R := bx n 99 0 [some (zR a0), some (zR a1), some (zI a2), none, none, none] [] μ
noncomputable def x_E_rightValue_0 (n : Nat) (x0 : Nat) (x1 : Nat) (x2 : Int) (x3 : Int) (x4 : Int) (x5 : Int) (μ : bz_M) : Option bz_R := bx n 99 16 [some (zR x0), some (zR x1), some (zI x2), some (zI x3), some (zI x4), some (zI x5)] [] μ
noncomputable def x_E_characterOf (n : Nat) (a0 : Int) (μ : bz_M) : Option bz_R := bx n 100 0 [some (zI a0)] [] μ
noncomputable def x_Str_charAt (n : Nat) (a0 : Nat) (a1 : Int) (μ : bz_M) : Option bz_R := bx n 101 0 [some (zR a0), some (zI a1)] [] μ
noncomputable def x_Lat_charAt (n : Nat) (a0 : Nat) (a1 : Int) (μ : bz_M) : Option bz_R := bx n 102 0 [some (zR a0), some (zI a1)] [] μ
noncomputable def x_Str_checkIndex (n : Nat) (a0 : Int) (a1 : Int) (μ : bz_M) : Option bz_R := bx n 103 0 [some (zI a0), some (zI a1)] [] μ
noncomputable def x_Pre_checkIndex (n : Nat) (a0 : Int) (a1 : Int) (a2 : Nat) (μ : bz_M) : Option bz_R := bx n 104 0 [some (zI a0), some (zI a1), some (zR a2)] [] μ
noncomputable def x_L_addWidths (n : Nat) (a0 : Nat) (a1 : Int) (a2 : Int) (a3 : Int) (a4 : Int) (a5 : Int) (a6 : Int) (a7 : Nat) (μ : bz_M) : Option bz_R := bx n 105 0 [some (zR a0), some (zI a1), some (zI a2), some (zI a3), some (zI a4), some (zI a5), some (zI a6), some (zR a7), none] [] μ
noncomputable def x_E_addWidths (n : Nat) (a0 : Nat) (a1 : Int) (a2 : Int) (a3 : Int) (a4 : Int) (a5 : Int) (a6 : Int) (μ : bz_M) : Option bz_R := bx n 106 0 [some (zR a0), some (zI a1), some (zI a2), some (zI a3), some (zI a4), some (zI a5), some (zI a6), none, none] [] μ
noncomputable def x_E_addWidths_0 (n : Nat) (x0 : Nat) (x7 : Int) (x8 : Int) (μ : bz_M) : Option bz_R := bx n 106 58 [some (zR x0), none, none, none, none, none, none, some (zI x7), some (zI x8)] [] μ
noncomputable def x_Row_isWithin (n : Nat) (a0 : Nat) (a1 : Int) (a2 : Int) (μ : bz_M) : Option bz_R := bx n 107 0 [some (zR a0), some (zI a1), some (zI a2), none] [] μ
noncomputable def x_Row_isWithin_0 (n : Nat) (x0 : Nat) (x1 : Int) (x2 : Int) (x3 : Int) (μ : bz_M) : Option bz_R := bx n 107 3 [some (zR x0), some (zI x1), some (zI x2), some (zI x3)] [] μ
noncomputable def x_Row_countBeforeZero (n : Nat) (a0 : Nat) (μ : bz_M) : Option bz_R := bx n 108 0 [some (zR a0), none] [] μ
noncomputable def x_Row_countBeforeZero_0 (n : Nat) (x0 : Nat) (x1 : Int) (μ : bz_M) : Option bz_R := bx n 108 3 [some (zR x0), some (zI x1)] [] μ
noncomputable def x_L_endScan (n : Nat) (a0 : Nat) (a1 : Nat) (μ : bz_M) : Option bz_R := bx n 109 0 [some (zR a0), some (zR a1), none] [] μ
noncomputable def x_E_endScan (n : Nat) (a0 : Nat) (μ : bz_M) : Option bz_R := bx n 110 0 [some (zR a0), none] [] μ
noncomputable def x_Row_copy (n : Nat) (a0 : Nat) (a1 : Nat) (μ : bz_M) : Option bz_R := bx n 111 0 [some (zR a0), some (zR a1), none] [] μ
noncomputable def x_Row_copy_0 (n : Nat) (x0 : Nat) (x1 : Nat) (x2 : Int) (μ : bz_M) : Option bz_R := bx n 111 7 [some (zR x0), some (zR x1), some (zI x2)] [] μ
noncomputable def x_L_widthCount (n : Nat) (a0 : Nat) (a1 : Int) (a2 : Nat) (μ : bz_M) : Option bz_R := bx n 112 0 [some (zR a0), some (zI a1), some (zR a2), none] [] μ
noncomputable def x_E_widthCount (n : Nat) (a0 : Nat) (a1 : Int) (μ : bz_M) : Option bz_R := bx n 113 0 [some (zR a0), some (zI a1)] [] μ
noncomputable def x_E_requireScan (n : Nat) (a0 : Nat) (a1 : Int) (μ : bz_M) : Option bz_R := bx n 114 0 [some (zR a0), some (zI a1)] [] μ
noncomputable def x_L_width (n : Nat) (a0 : Nat) (a1 : Int) (a2 : Int) (a3 : Nat) (μ : bz_M) : Option bz_R := bx n 115 0 [some (zR a0), some (zI a1), some (zI a2), some (zR a3), none] [] μ
noncomputable def x_E_width (n : Nat) (a0 : Nat) (a1 : Int) (a2 : Int) (μ : bz_M) : Option bz_R := bx n 116 0 [some (zR a0), some (zI a1), some (zI a2), none] [] μ
noncomputable def x_E_requirePlace (n : Nat) (a0 : Int) (a1 : Int) (μ : bz_M) : Option bz_R := bx n 117 0 [some (zI a0), some (zI a1)] [] μ
noncomputable def x_L_setWidth (n : Nat) (a0 : Nat) (a1 : Int) (a2 : Int) (a3 : Int) (a4 : Nat) (μ : bz_M) : Option bz_R := bx n 118 0 [some (zR a0), some (zI a1), some (zI a2), some (zI a3), some (zR a4), none] [] μ
noncomputable def x_E_setWidth (n : Nat) (a0 : Nat) (a1 : Int) (a2 : Int) (a3 : Int) (μ : bz_M) : Option bz_R := bx n 119 0 [some (zR a0), some (zI a1), some (zI a2), some (zI a3), none, none] [] μ
noncomputable def x_L_cut (n : Nat) (a0 : Nat) (a1 : Int) (a2 : Int) (a3 : Int) (a4 : Nat) (μ : bz_M) : Option bz_R := bx n 120 0 [some (zR a0), some (zI a1), some (zI a2), some (zI a3), some (zR a4), none] [] μ
noncomputable def x_E_cut (n : Nat) (a0 : Nat) (a1 : Int) (a2 : Int) (a3 : Int) (μ : bz_M) : Option bz_R := bx n 121 0 [some (zR a0), some (zI a1), some (zI a2), some (zI a3), none] [] μ
noncomputable def x_Row_keep (n : Nat) (a0 : Nat) (a1 : Int) (a2 : Int) (μ : bz_M) : Option bz_R := bx n 122 0 [some (zR a0), some (zI a1), some (zI a2), none] [] μ
noncomputable def x_Row_keep_0 (n : Nat) (x0 : Nat) (x1 : Int) (x2 : Int) (x3 : Int) (μ : bz_M) : Option bz_R := bx n 122 10 [some (zR x0), some (zI x1), some (zI x2), some (zI x3)] [] μ
noncomputable def x_L_reverse (n : Nat) (a0 : Nat) (a1 : Int) (μ : bz_M) : Option bz_R := bx n 123 0 [some (zR a0), some (zI a1), none] [] μ
noncomputable def x_E_reverse (n : Nat) (a0 : Nat) (a1 : Int) (μ : bz_M) : Option bz_R := bx n 124 0 [some (zR a0), some (zI a1), none] [] μ
noncomputable def x_L_smear (n : Nat) (a0 : Nat) (a1 : Int) (a2 : Int) (a3 : Nat) (μ : bz_M) : Option bz_R := bx n 125 0 [some (zR a0), some (zI a1), some (zI a2), some (zR a3), none] [] μ
noncomputable def x_E_smear (n : Nat) (a0 : Nat) (a1 : Int) (a2 : Int) (μ : bz_M) : Option bz_R := bx n 126 0 [some (zR a0), some (zI a1), some (zI a2), none] [] μ
noncomputable def x_Row_widenBars (n : Nat) (a0 : Nat) (a1 : Int) (μ : bz_M) : Option bz_R := bx n 127 0 [some (zR a0), some (zI a1), none, none, none, none] [] μ
noncomputable def x_Row_widenBars_0 (n : Nat) (x0 : Nat) (x1 : Int) (x2 : Int) (x3 : Int) (μ : bz_M) : Option bz_R := bx n 127 5 [some (zR x0), some (zI x1), some (zI x2), some (zI x3), none, none] [] μ
noncomputable def x_L_average (n : Nat) (a0 : Nat) (a1 : Int) (a2 : Int) (μ : bz_M) : Option bz_R := bx n 128 0 [some (zR a0), some (zI a1), some (zI a2), none] [] μ
noncomputable def x_E_average (n : Nat) (a0 : Nat) (a1 : Int) (a2 : Int) (μ : bz_M) : Option bz_R := bx n 129 0 [some (zR a0), some (zI a1), some (zI a2), none, none, none] [] μ
noncomputable def x_E_average_0 (n : Nat) (x0 : Nat) (x1 : Int) (x3 : Nat) (x4 : Nat) (x5 : Int) (μ : bz_M) : Option bz_R := bx n 129 31 [some (zR x0), some (zI x1), none, some (zR x3), some (zR x4), some (zI x5)] [] μ
noncomputable def x_L_removeScan (n : Nat) (a0 : Nat) (a1 : Int) (a2 : Nat) (μ : bz_M) : Option bz_R := bx n 130 0 [some (zR a0), some (zI a1), some (zR a2), none] [] μ
noncomputable def x_E_removeScan (n : Nat) (a0 : Nat) (a1 : Int) (μ : bz_M) : Option bz_R := bx n 131 0 [some (zR a0), some (zI a1), none, none] [] μ
noncomputable def x_E_removeScan_0 (n : Nat) (x0 : Nat) (x2 : Nat) (x3 : Int) (μ : bz_M) : Option bz_R := bx n 131 11 [some (zR x0), none, some (zR x2), some (zI x3)] [] μ
noncomputable def x_L_read (n : Nat) (a0 : Nat) (a1 : Int) (a2 : Int) (a3 : Nat) (μ : bz_M) : Option bz_R := bx n 132 0 [some (zR a0), some (zI a1), some (zI a2), some (zR a3), none] [] μ
noncomputable def x_E_read (n : Nat) (a0 : Nat) (a1 : Int) (a2 : Int) (μ : bz_M) : Option bz_R := bx n 133 0 [some (zR a0), some (zI a1), some (zI a2)] [] μ
noncomputable def x_E_reading (n : Nat) (a0 : Nat) (a1 : Int) (a2 : Int) (μ : bz_M) : Option bz_R := bx n 134 0 [some (zR a0), some (zI a1), some (zI a2), none] [] μ
noncomputable def x_L_readPart (n : Nat) (a0 : Nat) (a1 : Int) (a2 : Int) (a3 : Int) (a4 : Nat) (μ : bz_M) : Option bz_R := bx n 135 0 [some (zR a0), some (zI a1), some (zI a2), some (zI a3), some (zR a4), none] [] μ
noncomputable def x_E_readPart (n : Nat) (a0 : Nat) (a1 : Int) (a2 : Int) (a3 : Int) (μ : bz_M) : Option bz_R := bx n 136 0 [some (zR a0), some (zI a1), some (zI a2), some (zI a3)] [] μ
noncomputable def x_Rdg_part (n : Nat) (a0 : Nat) (a1 : Int) (μ : bz_M) : Option bz_R := bx n 137 0 [some (zR a0), some (zI a1)] [] μ
noncomputable def x_L_character (n : Nat) (a0 : Nat) (a1 : Int) (a2 : Int) (a3 : Int) (a4 : Nat) (μ : bz_M) : Option bz_R := bx n 138 0 [some (zR a0), some (zI a1), some (zI a2), some (zI a3), some (zR a4), none] [] μ
noncomputable def x_E_character (n : Nat) (a0 : Nat) (a1 : Int) (a2 : Int) (a3 : Int) (μ : bz_M) : Option bz_R := bx n 139 0 [some (zR a0), some (zI a1), some (zI a2), some (zI a3), none] [] μ
noncomputable def x_L_confidence (n : Nat) (a0 : Nat) (a1 : Int) (a2 : Int) (a3 : Int) (a4 : Nat) (μ : bz_M) : Option bz_R := bx n 140 0 [some (zR a0), some (zI a1), some (zI a2), some (zI a3), some (zR a4), none] [] μ
noncomputable def x_E_confidence (n : Nat) (a0 : Nat) (a1 : Int) (a2 : Int) (a3 : Int) (μ : bz_M) : Option bz_R := bx n 141 0 [some (zR a0), some (zI a1), some (zI a2), some (zI a3), none] [] μ
noncomputable def x_L_partCharacter (n : Nat) (a0 : Nat) (a1 : Int) (a2 : Int) (a3 : Int) (a4 : Int) (a5 : Nat) (μ : bz_M) : Option bz_R := bx n 142 0 [some (zR a0), some (zI a1), some (zI a2), some (zI a3), some (zI a4), some (zR a5), none] [] μ
noncomputable def x_E_partCharacter (n : Nat) (a0 : Nat) (a1 : Int) (a2 : Int) (a3 : Int) (a4 : Int) (μ : bz_M) : Option bz_R := bx n 143 0 [some (zR a0), some (zI a1), some (zI a2), some (zI a3), some (zI a4), none] [] μ
noncomputable def x_L_isReversed (n : Nat) (a0 : Nat) (a1 : Int) (a2 : Int) (a3 : Nat) (μ : bz_M) : Option bz_R := bx n 144 0 [some (zR a0), some (zI a1), some (zI a2), some (zR a3), none] [] μ
noncomputable def x_E_isReversed (n : Nat) (a0 : Nat) (a1 : Int) (a2 : Int) (μ : bz_M) : Option bz_R := bx n 145 0 [some (zR a0), some (zI a1), some (zI a2)] [] μ
noncomputable def x_L_agreement (n : Nat) (a0 : Nat) (a1 : Int) (a2 : Int) (a3 : Int) (a4 : Nat) (μ : bz_M) : Option bz_R := bx n 146 0 [some (zR a0), some (zI a1), some (zI a2), some (zI a3), some (zR a4), none] [] μ
noncomputable def x_E_agreement (n : Nat) (a0 : Nat) (a1 : Int) (a2 : Int) (a3 : Int) (μ : bz_M) : Option bz_R := bx n 147 0 [some (zR a0), some (zI a1), some (zI a2), some (zI a3), none, none, none, none] [] μ
noncomputable def x_E_agreement_0 (n : Nat) (x4 : Nat) (x5 : Nat) (x6 : Int) (x7 : Int) (μ : bz_M) : Option bz_R := bx n 147 27 [none, none, none, none, some (zR x4), some (zR x5), some (zI x6), some (zI x7)] [] μ
noncomputable def x_L_overlap (n : Nat) (a0 : Nat) (a1 : Int) (a2 : Int) (a3 : Int) (a4 : Nat) (μ : bz_M) : Option bz_R := bx n 148 0 [some (zR a0), some (zI a1), some (zI a2), some (zI a3), some (zR a4), none] [] μ
noncomputable def x_E_overlap (n : Nat) (a0 : Nat) (a1 : Int) (a2 : Int) (a3 : Int) (μ : bz_M) : Option bz_R := bx n 149 0 [some (zR a0), some (zI a1), some (zI a2), some (zI a3), none, none, none, none] [] μ
noncomputable def x_E_overlap_0 (n : Nat) (x4 : Nat) (x5 : Nat) (x7 : Int) (μ : bz_M) : Option bz_R := bx n 149 29 [none, none, none, none, some (zR x4), some (zR x5), none, some (zI x7)] [] μ
noncomputable def x_L_module (n : Nat) (a0 : Nat) (a1 : Int) (a2 : Int) (a3 : Nat) (μ : bz_M) : Option bz_R := bx n 150 0 [some (zR a0), some (zI a1), some (zI a2), some (zR a3), none] [] μ
noncomputable def x_E_module (n : Nat) (a0 : Nat) (a1 : Int) (a2 : Int) (μ : bz_M) : Option bz_R := bx n 151 0 [some (zR a0), some (zI a1), some (zI a2), none, none, none, none, none] [] μ
noncomputable def x_E_drawWhole (n : Nat) (a0 : Nat) (a1 : Nat) (a2 : Nat) (μ : bz_M) : Option bz_R := bx n 152 0 [some (zR a0), some (zR a1), some (zR a2)] [] μ
noncomputable def x_Row_sum (n : Nat) (a0 : Nat) (a1 : Int) (a2 : Int) (a3 : Int) (μ : bz_M) : Option bz_R := bx n 153 0 [some (zR a0), some (zI a1), some (zI a2), some (zI a3), none, none, none] [] μ
noncomputable def x_Row_sum_0 (n : Nat) (x0 : Nat) (x2 : Int) (x3 : Int) (x4 : Int) (x6 : Int) (μ : bz_M) : Option bz_R := bx n 153 16 [some (zR x0), none, some (zI x2), some (zI x3), some (zL x4), none, some (zI x6)] [] μ
noncomputable def x_L_spread (n : Nat) (a0 : Nat) (a1 : Int) (a2 : Int) (a3 : Nat) (μ : bz_M) : Option bz_R := bx n 154 0 [some (zR a0), some (zI a1), some (zI a2), some (zR a3), none] [] μ
noncomputable def x_E_spread (n : Nat) (a0 : Nat) (a1 : Int) (a2 : Int) (μ : bz_M) : Option bz_R := bx n 155 0 [some (zR a0), some (zI a1), some (zI a2), none, none, none, none, none, none, none, none, none, none, none, none] [] μ
noncomputable def x_E_spread_0 (n : Nat) (x0 : Nat) (x1 : Int) (x3 : Nat) (x4 : Int) (μ : bz_M) : Option bz_R := bx n 155 24 [some (zR x0), some (zI x1), none, some (zR x3), some (zL x4), none, none, none, none, none, none, none, none, none, none] [] μ
noncomputable def x_E_spread_1 (n : Nat) (x0 : Nat) (x1 : Int) (x3 : Nat) (x4 : Int) (x6 : Int) (μ : bz_M) : Option bz_R := bx n 155 36 [some (zR x0), some (zI x1), none, some (zR x3), some (zL x4), none, some (zL x6), none, none, none, none, none, none, none, none] [] μ
noncomputable def x_E_spread_2 (n : Nat) (x0 : Nat) (x3 : Nat) (x4 : Int) (x6 : Int) (x8 : Nat) (x9 : Int) (μ : bz_M) : Option bz_R := bx n 155 51 [some (zR x0), none, none, some (zR x3), some (zL x4), none, some (zL x6), none, some (zR x8), some (zL x9), none, none, none, none, none] [] μ
noncomputable def x_E_spread_3 (n : Nat) (x0 : Nat) (x4 : Int) (x6 : Int) (x9 : Int) (x11 : Int) (μ : bz_M) : Option bz_R := bx n 155 60 [some (zR x0), none, none, none, some (zL x4), none, some (zL x6), none, none, some (zL x9), none, some (zL x11), none, none, none] [] μ
noncomputable def x_E_spread_4 (n : Nat) (x4 : Int) (x6 : Int) (x9 : Int) (x11 : Int) (x13 : Int) (μ : bz_M) : Option bz_R := bx n 155 72 [none, none, none, none, some (zL x4), none, some (zL x6), none, none, some (zL x9), none, some (zL x11), none, some (zL x13), none] [] μ
noncomputable def x_Mth_floorDiv (n : Nat) (a0 : Int) (a1 : Int) (μ : bz_M) : Option bz_R := bx n 156 0 [some (zL a0), none, some (zL a1), none, none, none] [] μ
noncomputable def x_L_mergedLength (n : Nat) (a0 : Nat) (a1 : Int) (a2 : Int) (a3 : Int) (a4 : Nat) (μ : bz_M) : Option bz_R := bx n 157 0 [some (zR a0), some (zI a1), some (zI a2), some (zI a3), some (zR a4), none] [] μ
noncomputable def x_E_mergedLength (n : Nat) (a0 : Nat) (a1 : Int) (a2 : Int) (a3 : Int) (μ : bz_M) : Option bz_R := bx n 158 0 [some (zR a0), some (zI a1), some (zI a2), some (zI a3), none, none, none] [] μ
noncomputable def x_L_mergedCharacter (n : Nat) (a0 : Nat) (a1 : Int) (a2 : Int) (a3 : Int) (a4 : Int) (a5 : Nat) (μ : bz_M) : Option bz_R := bx n 159 0 [some (zR a0), some (zI a1), some (zI a2), some (zI a3), some (zI a4), some (zR a5), none] [] μ
noncomputable def x_E_mergedCharacter (n : Nat) (a0 : Nat) (a1 : Int) (a2 : Int) (a3 : Int) (a4 : Int) (μ : bz_M) : Option bz_R := bx n 160 0 [some (zR a0), some (zI a1), some (zI a2), some (zI a3), some (zI a4), none, none, none] [] μ
noncomputable def x_L_bestScan (n : Nat) (a0 : Nat) (a1 : Int) (a2 : Nat) (μ : bz_M) : Option bz_R := bx n 161 0 [some (zR a0), some (zI a1), some (zR a2), none] [] μ
noncomputable def x_E_bestScan (n : Nat) (a0 : Nat) (a1 : Int) (μ : bz_M) : Option bz_R := bx n 162 0 [some (zR a0), some (zI a1), none, none, none, none] [] μ
noncomputable def x_E_bestScan_0 (n : Nat) (x0 : Nat) (x1 : Int) (x2 : Int) (x3 : Int) (x4 : Int) (μ : bz_M) : Option bz_R := bx n 162 9 [some (zR x0), some (zI x1), some (zI x2), some (zI x3), some (zI x4), none] [] μ
noncomputable def x_L_length (n : Nat) (a0 : Nat) (a1 : Int) (a2 : Nat) (μ : bz_M) : Option bz_R := bx n 163 0 [some (zR a0), some (zI a1), some (zR a2), none] [] μ
noncomputable def x_E_length (n : Nat) (a0 : Nat) (a1 : Int) (μ : bz_M) : Option bz_R := bx n 164 0 [some (zR a0), some (zI a1)] [] μ
noncomputable def x_L_weight (n : Nat) (a0 : Nat) (a1 : Int) (a2 : Int) (a3 : Int) (a4 : Nat) (μ : bz_M) : Option bz_R := bx n 165 0 [some (zR a0), some (zI a1), some (zI a2), some (zI a3), some (zR a4), none] [] μ
noncomputable def x_E_weight (n : Nat) (a0 : Nat) (a1 : Int) (a2 : Int) (a3 : Int) (μ : bz_M) : Option bz_R := bx n 166 0 [some (zR a0), some (zI a1), some (zI a2), some (zI a3), none, none] [] μ
noncomputable def x_L_voted (n : Nat) (a0 : Nat) (a1 : Int) (a2 : Int) (a3 : Nat) (μ : bz_M) : Option bz_R := bx n 167 0 [some (zR a0), some (zI a1), some (zI a2), some (zR a3), none] [] μ
noncomputable def x_E_voted (n : Nat) (a0 : Nat) (a1 : Int) (a2 : Int) (μ : bz_M) : Option bz_R := bx n 168 0 [some (zR a0), some (zI a1), some (zI a2), none] [] μ
noncomputable def x_L_runnerUp (n : Nat) (a0 : Nat) (a1 : Int) (a2 : Int) (a3 : Nat) (μ : bz_M) : Option bz_R := bx n 169 0 [some (zR a0), some (zI a1), some (zI a2), some (zR a3), none] [] μ
noncomputable def x_E_runnerUp (n : Nat) (a0 : Nat) (a1 : Int) (a2 : Int) (μ : bz_M) : Option bz_R := bx n 170 0 [some (zR a0), some (zI a1), some (zI a2), none, none] [] μ
noncomputable def x_E_strongest (n : Nat) (a0 : Nat) (a1 : Int) (a2 : Int) (μ : bz_M) : Option bz_R := bx n 171 0 [some (zR a0), some (zI a1), some (zI a2), none, none, none, none, none] [] μ
noncomputable def x_E_strongest_0 (n : Nat) (x0 : Nat) (x1 : Int) (x2 : Int) (x3 : Int) (x4 : Int) (x5 : Int) (μ : bz_M) : Option bz_R := bx n 171 7 [some (zR x0), some (zI x1), some (zI x2), some (zI x3), some (zI x4), some (zI x5), none, none] [] μ
noncomputable def x_L_problem (n : Nat) (a0 : Nat) (a1 : Int) (a2 : Nat) (μ : bz_M) : Option bz_R := bx n 172 0 [some (zR a0), some (zI a1), some (zR a2), none] [] μ
noncomputable def x_E_problem (n : Nat) (a0 : Nat) (a1 : Int) (μ : bz_M) : Option bz_R := bx n 173 0 [some (zR a0), some (zI a1)] [] μ
noncomputable def x_L_doubtful (n : Nat) (a0 : Nat) (a1 : Int) (a2 : Nat) (μ : bz_M) : Option bz_R := bx n 174 0 [some (zR a0), some (zI a1), some (zR a2), none] [] μ
noncomputable def x_E_doubtful (n : Nat) (a0 : Nat) (a1 : Int) (μ : bz_M) : Option bz_R := bx n 175 0 [some (zR a0), some (zI a1)] [] μ
noncomputable def x_Tal_firstDoubt (n : Nat) (a0 : Nat) (μ : bz_M) : Option bz_R := bx n 176 0 [some (zR a0), none] [] μ
noncomputable def x_Tal_firstDoubt_0 (n : Nat) (x0 : Nat) (x1 : Int) (μ : bz_M) : Option bz_R := bx n 176 3 [some (zR x0), some (zI x1)] [] μ
noncomputable def x_L_repaired (n : Nat) (a0 : Nat) (a1 : Int) (a2 : Nat) (μ : bz_M) : Option bz_R := bx n 177 0 [some (zR a0), some (zI a1), some (zR a2), none] [] μ
noncomputable def x_E_repaired (n : Nat) (a0 : Nat) (a1 : Int) (μ : bz_M) : Option bz_R := bx n 178 0 [some (zR a0), some (zI a1), none, none] [] μ
noncomputable def x_L_worstScan (n : Nat) (a0 : Nat) (a1 : Int) (a2 : Nat) (μ : bz_M) : Option bz_R := bx n 179 0 [some (zR a0), some (zI a1), some (zR a2), none] [] μ
noncomputable def x_E_worstScan (n : Nat) (a0 : Nat) (a1 : Int) (μ : bz_M) : Option bz_R := bx n 180 0 [some (zR a0), some (zI a1), none, none, none, none, none] [] μ
noncomputable def x_E_worstScan_0 (n : Nat) (x0 : Nat) (x1 : Int) (x2 : Nat) (x3 : Int) (x4 : Int) (x5 : Int) (μ : bz_M) : Option bz_R := bx n 180 11 [some (zR x0), some (zI x1), some (zR x2), some (zI x3), some (zI x4), some (zI x5), none] [] μ
noncomputable def x_Tal_disagreements (n : Nat) (a0 : Nat) (a1 : Nat) (μ : bz_M) : Option bz_R := bx n 181 0 [some (zR a0), some (zR a1), none, none] [] μ
noncomputable def x_Tal_disagreements_0 (n : Nat) (x0 : Nat) (x1 : Nat) (x2 : Int) (x3 : Int) (μ : bz_M) : Option bz_R := bx n 181 5 [some (zR x0), some (zR x1), some (zI x2), some (zI x3)] [] μ
noncomputable def x_L_setCheck (n : Nat) (a0 : Nat) (a1 : Int) (a2 : Int) (a3 : Nat) (μ : bz_M) : Option bz_R := bx n 182 0 [some (zR a0), some (zI a1), some (zI a2), some (zR a3), none] [] μ
noncomputable def x_E_setCheck (n : Nat) (a0 : Nat) (a1 : Int) (a2 : Int) (μ : bz_M) : Option bz_R := bx n 183 0 [some (zR a0), some (zI a1), some (zI a2), none] [] μ
noncomputable def x_M_new (n : Nat) (a0 : Nat) (μ : bz_M) : Option bz_R := bx n 184 0 [some (zR a0)] [] μ
noncomputable def x_M_thrown (n : Nat) (a0 : Nat) (μ : bz_M) : Option bz_R := bx n 185 0 [some (zR a0)] [] μ
noncomputable def x_M_append (n : Nat) (a0 : Nat) (a1 : Int) (a2 : Int) (a3 : Int) (a4 : Int) (a5 : Int) (μ : bz_M) : Option bz_R := bx n 186 0 [some (zR a0), some (zI a1), some (zI a2), some (zI a3), some (zI a4), some (zI a5), none, none] [] μ
noncomputable def x_M_append_0 (n : Nat) (x0 : Nat) (x1 : Int) (x2 : Int) (x3 : Int) (x4 : Int) (x5 : Int) (x6 : Int) (μ : bz_M) : Option bz_R := bx n 186 19 [some (zR x0), some (zI x1), some (zI x2), some (zI x3), some (zI x4), some (zI x5), some (zI x6), none] [] μ
noncomputable def x_M_print (n : Nat) (a0 : Nat) (a1 : Int) (a2 : Int) (a3 : Int) (a4 : Int) (a5 : Int) (μ : bz_M) : Option bz_R := bx n 187 0 [some (zR a0), some (zI a1), some (zI a2), some (zI a3), some (zI a4), some (zI a5), none, none, none, none] [] μ
noncomputable def x_M_print_0 (n : Nat) (x0 : Nat) (x1 : Int) (x2 : Int) (x3 : Int) (x4 : Int) (x5 : Int) (x6 : Int) (μ : bz_M) : Option bz_R := bx n 187 31 [some (zR x0), some (zI x1), some (zI x2), some (zI x3), some (zI x4), some (zI x5), some (zI x6), none, none, none] [] μ
noncomputable def x_M_print_1 (n : Nat) (x0 : Nat) (x3 : Int) (x4 : Int) (x5 : Int) (x6 : Int) (x7 : Int) (x8 : Int) (μ : bz_M) : Option bz_R := bx n 187 65 [some (zR x0), none, none, some (zI x3), some (zI x4), some (zI x5), some (zI x6), some (zI x7), some (zI x8), none] [] μ
noncomputable def x_M_isSymbology (n : Nat) (a0 : Int) (μ : bz_M) : Option bz_R := bx n 188 0 [some (zI a0)] [] μ
noncomputable def x_M_isIn (n : Nat) (a0 : Int) (a1 : Int) (a2 : Int) (μ : bz_M) : Option bz_R := bx n 189 0 [some (zL a0), none, some (zL a1), none, some (zL a2), none] [] μ
noncomputable def x_M_canPrint (n : Nat) (a0 : Nat) (a1 : Int) (a2 : Int) (a3 : Int) (a4 : Int) (μ : bz_M) : Option bz_R := bx n 190 0 [some (zR a0), some (zI a1), some (zI a2), some (zI a3), some (zI a4)] [] μ
noncomputable def x_M_isLength (n : Nat) (a0 : Int) (a1 : Int) (μ : bz_M) : Option bz_R := bx n 191 0 [some (zI a0), some (zI a1)] [] μ
noncomputable def x_M_areCharacters (n : Nat) (a0 : Nat) (a1 : Int) (a2 : Int) (μ : bz_M) : Option bz_R := bx n 192 0 [some (zR a0), some (zI a1), some (zI a2), none, none, none] [] μ
noncomputable def x_M_areCharacters_0 (n : Nat) (x0 : Nat) (x1 : Int) (x2 : Int) (x3 : Int) (μ : bz_M) : Option bz_R := bx n 192 3 [some (zR x0), some (zI x1), some (zI x2), some (zI x3), none, none] [] μ
noncomputable def x_M_isLetter (n : Nat) (a0 : Int) (μ : bz_M) : Option bz_R := bx n 193 0 [some (zI a0)] [] μ
noncomputable def x_M_valueOf (n : Nat) (a0 : Int) (μ : bz_M) : Option bz_R := bx n 194 0 [some (zI a0), none] [] μ
noncomputable def x_M_valueOf_0 (n : Nat) (x0 : Int) (x1 : Int) (μ : bz_M) : Option bz_R := bx n 194 3 [some (zI x0), some (zI x1)] [] μ
noncomputable def x_M_laysModules (n : Nat) (a0 : Nat) (a1 : Int) (a2 : Int) (μ : bz_M) : Option bz_R := bx n 195 0 [some (zR a0), some (zI a1), some (zI a2)] [] μ
noncomputable def x_M_laysEan (n : Nat) (a0 : Nat) (μ : bz_M) : Option bz_R := bx n 196 0 [some (zR a0), none, none] [] μ
noncomputable def x_M_laysEan_0 (n : Nat) (x0 : Nat) (x1 : Int) (μ : bz_M) : Option bz_R := bx n 196 6 [some (zR x0), some (zI x1), none] [] μ
noncomputable def x_M_laysEan_1 (n : Nat) (x0 : Nat) (x1 : Int) (x2 : Int) (μ : bz_M) : Option bz_R := bx n 196 18 [some (zR x0), some (zI x1), some (zI x2)] [] μ
noncomputable def x_M_laysOnes (n : Nat) (a0 : Nat) (a1 : Int) (μ : bz_M) : Option bz_R := bx n 197 0 [some (zR a0), some (zI a1), none] [] μ
noncomputable def x_M_laysOnes_0 (n : Nat) (x0 : Nat) (x1 : Int) (x2 : Int) (μ : bz_M) : Option bz_R := bx n 197 3 [some (zR x0), some (zI x1), some (zI x2)] [] μ
noncomputable def x_M_lays (n : Nat) (a0 : Nat) (a1 : Int) (μ : bz_M) : Option bz_R := bx n 198 0 [some (zR a0), some (zI a1)] [] μ
noncomputable def x_M_laysPairs (n : Nat) (a0 : Nat) (a1 : Int) (μ : bz_M) : Option bz_R := bx n 199 0 [some (zR a0), some (zI a1), none, none] [] μ
noncomputable def x_M_laysPairs_0 (n : Nat) (x0 : Nat) (x1 : Int) (x2 : Int) (μ : bz_M) : Option bz_R := bx n 199 6 [some (zR x0), some (zI x1), some (zI x2), none] [] μ
noncomputable def x_M_laysPairs_1 (n : Nat) (x0 : Nat) (x1 : Int) (x2 : Int) (x3 : Int) (μ : bz_M) : Option bz_R := bx n 199 12 [some (zR x0), some (zI x1), some (zI x2), some (zI x3)] [] μ
noncomputable def x_M_wideOr (n : Nat) (a0 : Int) (a1 : Int) (μ : bz_M) : Option bz_R := bx n 200 0 [some (zI a0), some (zI a1)] [] μ
noncomputable def x_M_laysCodabar (n : Nat) (a0 : Nat) (a1 : Int) (μ : bz_M) : Option bz_R := bx n 201 0 [some (zR a0), some (zI a1), none, none] [] μ
noncomputable def x_M_laysCodabar_0 (n : Nat) (x0 : Nat) (x1 : Int) (x2 : Int) (μ : bz_M) : Option bz_R := bx n 201 3 [some (zR x0), some (zI x1), some (zI x2), none] [] μ
noncomputable def x_M_laysCodabar_1 (n : Nat) (x0 : Nat) (x1 : Int) (x2 : Int) (x3 : Int) (μ : bz_M) : Option bz_R := bx n 201 14 [some (zR x0), some (zI x1), some (zI x2), some (zI x3)] [] μ
noncomputable def x_M_checkCharacter (n : Nat) (a0 : Nat) (a1 : Int) (a2 : Int) (μ : bz_M) : Option bz_R := bx n 202 0 [some (zR a0), some (zI a1), some (zI a2), none, none] [] μ
noncomputable def x_M_checkCharacter_0 (n : Nat) (x0 : Nat) (x2 : Int) (x3 : Int) (x4 : Int) (μ : bz_M) : Option bz_R := bx n 202 42 [some (zR x0), none, some (zI x2), some (zI x3), some (zI x4)] [] μ
noncomputable def x_M_checkCharacter_1 (n : Nat) (x0 : Nat) (x2 : Int) (x3 : Int) (x4 : Int) (μ : bz_M) : Option bz_R := bx n 202 68 [some (zR x0), none, some (zI x2), some (zI x3), some (zI x4)] [] μ
noncomputable def x_M_addWidths (n : Nat) (a0 : Nat) (a1 : Int) (a2 : Int) (a3 : Int) (a4 : Int) (a5 : Int) (a6 : Int) (μ : bz_M) : Option bz_R := bx n 203 0 [some (zR a0), some (zI a1), some (zI a2), some (zI a3), some (zI a4), some (zI a5), some (zI a6), none, none, none] [] μ
noncomputable def x_M_addWidths_0 (n : Nat) (x0 : Nat) (x1 : Int) (x2 : Int) (x3 : Int) (x4 : Int) (x5 : Int) (x6 : Int) (x7 : Int) (μ : bz_M) : Option bz_R := bx n 203 29 [some (zR x0), some (zI x1), some (zI x2), some (zI x3), some (zI x4), some (zI x5), some (zI x6), some (zI x7), none, none] [] μ
noncomputable def x_M_addWidths_1 (n : Nat) (x0 : Nat) (x1 : Int) (x2 : Int) (x3 : Int) (x4 : Int) (x5 : Int) (x6 : Int) (x7 : Int) (x8 : Int) (μ : bz_M) : Option bz_R := bx n 203 56 [some (zR x0), some (zI x1), some (zI x2), some (zI x3), some (zI x4), some (zI x5), some (zI x6), some (zI x7), some (zI x8), none] [] μ
noncomputable def x_M_addWidths_2 (n : Nat) (x0 : Nat) (x1 : Int) (x2 : Int) (x3 : Int) (x4 : Int) (x5 : Int) (x6 : Int) (x8 : Int) (x9 : Int) (μ : bz_M) : Option bz_R := bx n 203 79 [some (zR x0), some (zI x1), some (zI x2), some (zI x3), some (zI x4), some (zI x5), some (zI x6), none, some (zI x8), some (zI x9)] [] μ
noncomputable def x_M_isWidth (n : Nat) (a0 : Int) (a1 : Int) (μ : bz_M) : Option bz_R := bx n 204 0 [some (zI a0), some (zI a1)] [] μ
noncomputable def x_M_endScan (n : Nat) (a0 : Nat) (μ : bz_M) : Option bz_R := bx n 205 0 [some (zR a0), none] [] μ
noncomputable def x_M_endScan_0 (n : Nat) (x0 : Nat) (x1 : Int) (μ : bz_M) : Option bz_R := bx n 205 26 [some (zR x0), some (zI x1)] [] μ
noncomputable def x_M_scanCount (n : Nat) (a0 : Nat) (μ : bz_M) : Option bz_R := bx n 206 0 [some (zR a0)] [] μ
noncomputable def x_M_widthCount (n : Nat) (a0 : Nat) (a1 : Int) (μ : bz_M) : Option bz_R := bx n 207 0 [some (zR a0), some (zI a1)] [] μ
noncomputable def x_M_isScan (n : Nat) (a0 : Nat) (a1 : Int) (μ : bz_M) : Option bz_R := bx n 208 0 [some (zR a0), some (zI a1)] [] μ
noncomputable def x_M_width (n : Nat) (a0 : Nat) (a1 : Int) (a2 : Int) (μ : bz_M) : Option bz_R := bx n 209 0 [some (zR a0), some (zI a1), some (zI a2)] [] μ
noncomputable def x_M_hasWidth (n : Nat) (a0 : Nat) (a1 : Int) (a2 : Int) (μ : bz_M) : Option bz_R := bx n 210 0 [some (zR a0), some (zI a1), some (zI a2)] [] μ
noncomputable def x_M_setWidth (n : Nat) (a0 : Nat) (a1 : Int) (a2 : Int) (a3 : Int) (μ : bz_M) : Option bz_R := bx n 211 0 [some (zR a0), some (zI a1), some (zI a2), some (zI a3), none] [] μ
noncomputable def x_M_cut (n : Nat) (a0 : Nat) (a1 : Int) (a2 : Int) (a3 : Int) (μ : bz_M) : Option bz_R := bx n 212 0 [some (zR a0), some (zI a1), some (zI a2), some (zI a3), none] [] μ
noncomputable def x_M_cut_0 (n : Nat) (x0 : Nat) (x1 : Int) (x2 : Int) (x4 : Int) (μ : bz_M) : Option bz_R := bx n 212 49 [some (zR x0), some (zI x1), some (zI x2), none, some (zI x4)] [] μ
noncomputable def x_M_reverse (n : Nat) (a0 : Nat) (a1 : Int) (μ : bz_M) : Option bz_R := bx n 213 0 [some (zR a0), some (zI a1), none] [] μ
noncomputable def x_M_reverse_0 (n : Nat) (x0 : Nat) (x1 : Int) (x2 : Int) (μ : bz_M) : Option bz_R := bx n 213 20 [some (zR x0), some (zI x1), some (zI x2)] [] μ
noncomputable def x_M_laysRow (n : Nat) (a0 : Nat) (a1 : Int) (a2 : Int) (μ : bz_M) : Option bz_R := bx n 214 0 [some (zR a0), some (zI a1), some (zI a2), none] [] μ
noncomputable def x_M_laysRow_0 (n : Nat) (x0 : Nat) (x1 : Int) (x2 : Int) (x3 : Int) (μ : bz_M) : Option bz_R := bx n 214 9 [some (zR x0), some (zI x1), some (zI x2), some (zI x3)] [] μ
noncomputable def x_M_smear (n : Nat) (a0 : Nat) (a1 : Int) (a2 : Int) (μ : bz_M) : Option bz_R := bx n 215 0 [some (zR a0), some (zI a1), some (zI a2), none, none, none] [] μ
noncomputable def x_M_smear_0 (n : Nat) (x0 : Nat) (x1 : Int) (x2 : Int) (x3 : Int) (x4 : Int) (μ : bz_M) : Option bz_R := bx n 215 27 [some (zR x0), some (zI x1), some (zI x2), some (zI x3), some (zI x4), none] [] μ
noncomputable def x_M_average (n : Nat) (a0 : Nat) (a1 : Int) (a2 : Int) (μ : bz_M) : Option bz_R := bx n 216 0 [some (zR a0), some (zI a1), some (zI a2), none] [] μ
noncomputable def x_M_average_0 (n : Nat) (x0 : Nat) (x1 : Int) (x2 : Int) (x3 : Int) (μ : bz_M) : Option bz_R := bx n 216 27 [some (zR x0), some (zI x1), some (zI x2), some (zI x3)] [] μ
noncomputable def x_M_removeScan (n : Nat) (a0 : Nat) (a1 : Int) (μ : bz_M) : Option bz_R := bx n 217 0 [some (zR a0), some (zI a1), none] [] μ
noncomputable def x_M_removeScan_0 (n : Nat) (x0 : Nat) (x1 : Int) (x2 : Int) (μ : bz_M) : Option bz_R := bx n 217 23 [some (zR x0), some (zI x1), some (zI x2)] [] μ
noncomputable def x_M_removeScan_1 (n : Nat) (x0 : Nat) (x2 : Int) (μ : bz_M) : Option bz_R := bx n 217 44 [some (zR x0), none, some (zI x2)] [] μ
noncomputable def x_M_read (n : Nat) (a0 : Nat) (a1 : Int) (a2 : Int) (μ : bz_M) : Option bz_R := bx n 218 0 [some (zR a0), some (zI a1), some (zI a2)] [] μ
noncomputable def x_M_reads (n : Nat) (a0 : Nat) (a1 : Int) (a2 : Int) (μ : bz_M) : Option bz_R := bx n 219 0 [some (zR a0), some (zI a1), some (zI a2)] [] μ
noncomputable def x_M_readsScan (n : Nat) (a0 : Nat) (a1 : Int) (a2 : Int) (μ : bz_M) : Option bz_R := bx n 220 0 [some (zR a0), some (zI a1), some (zI a2), none] [] μ
noncomputable def x_M_readsScan_0 (n : Nat) (x0 : Nat) (x1 : Int) (x2 : Int) (x3 : Int) (μ : bz_M) : Option bz_R := bx n 220 3 [some (zR x0), some (zI x1), some (zI x2), some (zI x3)] [] μ
noncomputable def x_M_isWhole (n : Nat) (a0 : Nat) (a1 : Int) (a2 : Int) (μ : bz_M) : Option bz_R := bx n 221 0 [some (zR a0), some (zI a1), some (zI a2), none] [] μ
noncomputable def x_M_isWhole_0 (n : Nat) (x0 : Nat) (x1 : Int) (x2 : Int) (x3 : Int) (μ : bz_M) : Option bz_R := bx n 221 3 [some (zR x0), some (zI x1), some (zI x2), some (zI x3)] [] μ
noncomputable def x_M_isWholeFrom (n : Nat) (a0 : Nat) (a1 : Int) (a2 : Int) (μ : bz_M) : Option bz_R := bx n 222 0 [some (zR a0), some (zI a1), some (zI a2)] [] μ
noncomputable def x_M_isBeginning (n : Nat) (a0 : Nat) (a1 : Int) (a2 : Int) (μ : bz_M) : Option bz_R := bx n 223 0 [some (zR a0), some (zI a1), some (zI a2), none, none] [] μ
noncomputable def x_M_startOf (n : Nat) (a0 : Int) (μ : bz_M) : Option bz_R := bx n 224 0 [some (zI a0)] [] μ
noncomputable def x_M_exists (n : Nat) (a0 : Nat) (a1 : Int) (a2 : Int) (μ : bz_M) : Option bz_R := bx n 225 0 [some (zR a0), some (zI a1), some (zI a2)] [] μ
noncomputable def x_M_sevenAt (n : Nat) (a0 : Nat) (a1 : Int) (μ : bz_M) : Option bz_R := bx n 226 0 [some (zR a0), some (zI a1), none] [] μ
noncomputable def x_M_sevenAt_0 (n : Nat) (x0 : Nat) (x2 : Int) (μ : bz_M) : Option bz_R := bx n 226 16 [some (zR x0), none, some (zI x2)] [] μ
noncomputable def x_M_readsWides (n : Nat) (a0 : Nat) (a1 : Int) (a2 : Int) (a3 : Int) (μ : bz_M) : Option bz_R := bx n 227 0 [some (zR a0), some (zI a1), some (zI a2), some (zI a3), none, none, none, none, none, none, none] [] μ
noncomputable def x_M_readsWides_0 (n : Nat) (x0 : Nat) (x1 : Int) (x2 : Int) (x3 : Int) (x4 : Int) (x5 : Int) (x6 : Int) (μ : bz_M) : Option bz_R := bx n 227 13 [some (zR x0), some (zI x1), some (zI x2), some (zI x3), some (zI x4), some (zI x5), some (zI x6), none, none, none, none] [] μ
noncomputable def x_M_readsWides_1 (n : Nat) (x0 : Nat) (x1 : Int) (x2 : Int) (x3 : Int) (x4 : Int) (x5 : Int) (x6 : Int) (x7 : Int) (x8 : Int) (μ : bz_M) : Option bz_R := bx n 227 79 [some (zR x0), some (zI x1), some (zI x2), some (zI x3), some (zI x4), some (zI x5), some (zI x6), some (zI x7), some (zI x8), none, none] [] μ
noncomputable def x_M_areEven (n : Nat) (a0 : Nat) (a1 : Int) (a2 : Int) (μ : bz_M) : Option bz_R := bx n 228 0 [some (zR a0), some (zI a1), some (zI a2), none, none] [] μ
noncomputable def x_M_areEven_0 (n : Nat) (x0 : Nat) (x1 : Int) (x2 : Int) (x3 : Int) (x4 : Int) (μ : bz_M) : Option bz_R := bx n 228 5 [some (zR x0), some (zI x1), some (zI x2), some (zI x3), some (zI x4)] [] μ
noncomputable def x_M_leastOf (n : Nat) (a0 : Nat) (a1 : Int) (a2 : Int) (μ : bz_M) : Option bz_R := bx n 229 0 [some (zR a0), some (zI a1), some (zI a2), none, none] [] μ
noncomputable def x_M_leastOf_0 (n : Nat) (x0 : Nat) (x1 : Int) (x2 : Int) (x3 : Int) (x4 : Int) (μ : bz_M) : Option bz_R := bx n 229 8 [some (zR x0), some (zI x1), some (zI x2), some (zI x3), some (zI x4)] [] μ
noncomputable def x_M_isWholeEan (n : Nat) (a0 : Nat) (a1 : Int) (μ : bz_M) : Option bz_R := bx n 230 0 [some (zR a0), some (zI a1)] [] μ
noncomputable def x_M_readsDigits (n : Nat) (a0 : Nat) (a1 : Int) (μ : bz_M) : Option bz_R := bx n 231 0 [some (zR a0), some (zI a1), none] [] μ
noncomputable def x_M_readsDigits_0 (n : Nat) (x0 : Nat) (x1 : Int) (x2 : Int) (μ : bz_M) : Option bz_R := bx n 231 3 [some (zR x0), some (zI x1), some (zI x2)] [] μ
noncomputable def x_M_readsDigit (n : Nat) (a0 : Nat) (a1 : Int) (μ : bz_M) : Option bz_R := bx n 232 0 [some (zR a0), some (zI a1), none, none, none, none, none, none, none, none] [] μ
noncomputable def x_M_rounded (n : Nat) (a0 : Int) (a1 : Int) (μ : bz_M) : Option bz_R := bx n 233 0 [some (zI a0), some (zI a1)] [] μ
noncomputable def x_M_digitBy (n : Nat) (a0 : Int) (a1 : Int) (a2 : Int) (μ : bz_M) : Option bz_R := bx n 234 0 [some (zI a0), some (zI a1), some (zI a2)] [] μ
noncomputable def x_M_apart (n : Nat) (a0 : Int) (a1 : Int) (μ : bz_M) : Option bz_R := bx n 235 0 [some (zI a0), some (zI a1)] [] μ
noncomputable def x_M_signsOne (n : Nat) (a0 : Nat) (a1 : Int) (a2 : Int) (μ : bz_M) : Option bz_R := bx n 236 0 [some (zR a0), some (zI a1), some (zI a2)] [] μ
noncomputable def x_M_isEnd (n : Nat) (a0 : Nat) (a1 : Int) (a2 : Int) (μ : bz_M) : Option bz_R := bx n 237 0 [some (zR a0), some (zI a1), some (zI a2), none, none, none] [] μ
noncomputable def x_M_stopOf (n : Nat) (a0 : Int) (μ : bz_M) : Option bz_R := bx n 238 0 [some (zI a0)] [] μ
noncomputable def x_M_isWholePairs (n : Nat) (a0 : Nat) (a1 : Int) (μ : bz_M) : Option bz_R := bx n 239 0 [some (zR a0), some (zI a1), none] [] μ
noncomputable def x_M_isWholePairs_0 (n : Nat) (x0 : Nat) (x1 : Int) (x2 : Int) (μ : bz_M) : Option bz_R := bx n 239 3 [some (zR x0), some (zI x1), some (zI x2)] [] μ
noncomputable def x_M_readsPair (n : Nat) (a0 : Nat) (a1 : Int) (μ : bz_M) : Option bz_R := bx n 240 0 [some (zR a0), some (zI a1)] [] μ
noncomputable def x_M_readsFive (n : Nat) (a0 : Nat) (a1 : Int) (μ : bz_M) : Option bz_R := bx n 241 0 [some (zR a0), some (zI a1), none] [] μ
noncomputable def x_M_readsFive_0 (n : Nat) (x0 : Nat) (x2 : Int) (μ : bz_M) : Option bz_R := bx n 241 11 [some (zR x0), none, some (zI x2)] [] μ
noncomputable def x_M_isWholeCodabar (n : Nat) (a0 : Nat) (a1 : Int) (μ : bz_M) : Option bz_R := bx n 242 0 [some (zR a0), some (zI a1), none] [] μ
noncomputable def x_M_isWholeCodabar_0 (n : Nat) (x0 : Nat) (x2 : Int) (μ : bz_M) : Option bz_R := bx n 242 12 [some (zR x0), none, some (zI x2)] [] μ
noncomputable def x_M_readsSeven (n : Nat) (a0 : Nat) (a1 : Int) (a2 : Int) (μ : bz_M) : Option bz_R := bx n 243 0 [some (zR a0), some (zI a1), some (zI a2), none] [] μ
noncomputable def x_M_keeps (n : Nat) (a0 : Nat) (a1 : Int) (a2 : Int) (μ : bz_M) : Option bz_R := bx n 244 0 [some (zR a0), some (zI a1), some (zI a2), none] [] μ
noncomputable def x_M_keeps_0 (n : Nat) (x0 : Nat) (x1 : Int) (x2 : Int) (x3 : Int) (μ : bz_M) : Option bz_R := bx n 244 13 [some (zR x0), some (zI x1), some (zI x2), some (zI x3)] [] μ
noncomputable def x_M_hasParts (n : Nat) (a0 : Nat) (a1 : Int) (a2 : Int) (μ : bz_M) : Option bz_R := bx n 245 0 [some (zR a0), some (zI a1), some (zI a2), none] [] μ
noncomputable def x_M_hasParts_0 (n : Nat) (x0 : Nat) (x1 : Int) (x2 : Int) (x3 : Int) (μ : bz_M) : Option bz_R := bx n 245 3 [some (zR x0), some (zI x1), some (zI x2), some (zI x3)] [] μ
noncomputable def x_M_hasParts_1 (n : Nat) (x0 : Nat) (x1 : Int) (x2 : Int) (x3 : Int) (μ : bz_M) : Option bz_R := bx n 245 36 [some (zR x0), some (zI x1), some (zI x2), some (zI x3)] [] μ
noncomputable def x_M_readsHead (n : Nat) (a0 : Nat) (a1 : Int) (a2 : Int) (μ : bz_M) : Option bz_R := bx n 246 0 [some (zR a0), some (zI a1), some (zI a2), none] [] μ
noncomputable def x_M_readsHead_0 (n : Nat) (x0 : Nat) (x2 : Int) (x3 : Int) (μ : bz_M) : Option bz_R := bx n 246 14 [some (zR x0), none, some (zI x2), some (zI x3)] [] μ
noncomputable def x_M_readsHead_1 (n : Nat) (x0 : Nat) (x2 : Int) (x3 : Int) (μ : bz_M) : Option bz_R := bx n 246 33 [some (zR x0), none, some (zI x2), some (zI x3)] [] μ
noncomputable def x_M_readsHead_2 (n : Nat) (x0 : Nat) (x2 : Int) (x3 : Int) (μ : bz_M) : Option bz_R := bx n 246 54 [some (zR x0), none, some (zI x2), some (zI x3)] [] μ
noncomputable def x_M_readsTail (n : Nat) (a0 : Nat) (a1 : Int) (a2 : Int) (μ : bz_M) : Option bz_R := bx n 247 0 [some (zR a0), some (zI a1), some (zI a2), none, none, none] [] μ
noncomputable def x_M_readsTail_0 (n : Nat) (x0 : Nat) (x1 : Int) (x2 : Int) (x4 : Int) (μ : bz_M) : Option bz_R := bx n 247 22 [some (zR x0), some (zI x1), some (zI x2), none, some (zI x4), none] [] μ
noncomputable def x_M_partsTo (n : Nat) (a0 : Nat) (a1 : Int) (a2 : Int) (μ : bz_M) : Option bz_R := bx n 248 0 [some (zR a0), some (zI a1), some (zI a2), none, none] [] μ
noncomputable def x_M_partsTo_0 (n : Nat) (x0 : Nat) (x1 : Int) (x2 : Int) (x3 : Int) (x4 : Int) (μ : bz_M) : Option bz_R := bx n 248 5 [some (zR x0), some (zI x1), some (zI x2), some (zI x3), some (zI x4)] [] μ
noncomputable def x_M_manyOf (n : Nat) (a0 : Nat) (a1 : Int) (a2 : Int) (μ : bz_M) : Option bz_R := bx n 249 0 [some (zR a0), some (zI a1), some (zI a2)] [] μ
noncomputable def x_M_readPart (n : Nat) (a0 : Nat) (a1 : Int) (a2 : Int) (a3 : Int) (μ : bz_M) : Option bz_R := bx n 250 0 [some (zR a0), some (zI a1), some (zI a2), some (zI a3)] [] μ
noncomputable def x_M_character (n : Nat) (a0 : Nat) (a1 : Int) (a2 : Int) (a3 : Int) (μ : bz_M) : Option bz_R := bx n 251 0 [some (zR a0), some (zI a1), some (zI a2), some (zI a3)] [] μ
noncomputable def x_M_has (n : Nat) (a0 : Nat) (a1 : Int) (a2 : Int) (a3 : Int) (a4 : Int) (μ : bz_M) : Option bz_R := bx n 252 0 [some (zR a0), some (zI a1), some (zI a2), some (zI a3), some (zI a4)] [] μ
noncomputable def x_M_signOf (n : Nat) (a0 : Nat) (a1 : Int) (a2 : Int) (a3 : Int) (μ : bz_M) : Option bz_R := bx n 253 0 [some (zR a0), some (zI a1), some (zI a2), some (zI a3)] [] μ
noncomputable def x_M_confidence (n : Nat) (a0 : Nat) (a1 : Int) (a2 : Int) (a3 : Int) (μ : bz_M) : Option bz_R := bx n 254 0 [some (zR a0), some (zI a1), some (zI a2), some (zI a3)] [] μ
noncomputable def x_M_weightOf (n : Nat) (a0 : Nat) (a1 : Int) (a2 : Int) (a3 : Int) (μ : bz_M) : Option bz_R := bx n 255 0 [some (zR a0), some (zI a1), some (zI a2), some (zI a3)] [] μ
noncomputable def x_M_partCharacter (n : Nat) (a0 : Nat) (a1 : Int) (a2 : Int) (a3 : Int) (a4 : Int) (μ : bz_M) : Option bz_R := bx n 256 0 [some (zR a0), some (zI a1), some (zI a2), some (zI a3), some (zI a4), none] [] μ
noncomputable def x_M_isReversed (n : Nat) (a0 : Nat) (a1 : Int) (a2 : Int) (μ : bz_M) : Option bz_R := bx n 257 0 [some (zR a0), some (zI a1), some (zI a2)] [] μ
noncomputable def x_M_module (n : Nat) (a0 : Nat) (a1 : Int) (a2 : Int) (μ : bz_M) : Option bz_R := bx n 258 0 [some (zR a0), some (zI a1), some (zI a2)] [] μ
noncomputable def x_M_measures (n : Nat) (a0 : Nat) (a1 : Int) (a2 : Int) (μ : bz_M) : Option bz_R := bx n 259 0 [some (zR a0), some (zI a1), some (zI a2), none, none, none] [] μ
noncomputable def x_M_measures_0 (n : Nat) (x0 : Nat) (x1 : Int) (x2 : Int) (x3 : Int) (x4 : Int) (μ : bz_M) : Option bz_R := bx n 259 27 [some (zR x0), some (zI x1), some (zI x2), some (zI x3), some (zI x4), none] [] μ
noncomputable def x_M_measures_1 (n : Nat) (x0 : Nat) (x1 : Int) (x4 : Int) (μ : bz_M) : Option bz_R := bx n 259 67 [some (zR x0), some (zI x1), none, none, some (zI x4), none] [] μ
noncomputable def x_M_spread (n : Nat) (a0 : Nat) (a1 : Int) (a2 : Int) (μ : bz_M) : Option bz_R := bx n 260 0 [some (zR a0), some (zI a1), some (zI a2), none, none, none, none, none, none] [] μ
noncomputable def x_M_agreement (n : Nat) (a0 : Nat) (a1 : Int) (a2 : Int) (a3 : Int) (μ : bz_M) : Option bz_R := bx n 261 0 [some (zR a0), some (zI a1), some (zI a2), some (zI a3), none, none, none] [] μ
noncomputable def x_M_agreement_0 (n : Nat) (x0 : Nat) (x1 : Int) (x2 : Int) (x4 : Int) (x5 : Int) (x6 : Int) (μ : bz_M) : Option bz_R := bx n 261 44 [some (zR x0), some (zI x1), some (zI x2), none, some (zI x4), some (zI x5), some (zI x6)] [] μ
noncomputable def x_M_readsAll (n : Nat) (a0 : Nat) (a1 : Int) (μ : bz_M) : Option bz_R := bx n 262 0 [some (zR a0), some (zI a1), none] [] μ
noncomputable def x_M_readsAll_0 (n : Nat) (x0 : Nat) (x1 : Int) (x2 : Int) (μ : bz_M) : Option bz_R := bx n 262 3 [some (zR x0), some (zI x1), some (zI x2)] [] μ
noncomputable def x_M_overlap (n : Nat) (a0 : Nat) (a1 : Int) (a2 : Int) (a3 : Int) (μ : bz_M) : Option bz_R := bx n 263 0 [some (zR a0), some (zI a1), some (zI a2), some (zI a3), none] [] μ
noncomputable def x_M_overlap_0 (n : Nat) (x0 : Nat) (x1 : Int) (x2 : Int) (x4 : Int) (μ : bz_M) : Option bz_R := bx n 263 34 [some (zR x0), some (zI x1), some (zI x2), none, some (zI x4)] [] μ
noncomputable def x_M_mostOverlap (n : Nat) (a0 : Nat) (a1 : Int) (a2 : Int) (μ : bz_M) : Option bz_R := bx n 264 0 [some (zR a0), some (zI a1), some (zI a2), none, none] [] μ
noncomputable def x_M_overlaps (n : Nat) (a0 : Nat) (a1 : Int) (a2 : Int) (a3 : Int) (μ : bz_M) : Option bz_R := bx n 265 0 [some (zR a0), some (zI a1), some (zI a2), some (zI a3), none, none] [] μ
noncomputable def x_M_overlaps_0 (n : Nat) (x0 : Nat) (x1 : Int) (x2 : Int) (x3 : Int) (x4 : Int) (x5 : Int) (μ : bz_M) : Option bz_R := bx n 265 10 [some (zR x0), some (zI x1), some (zI x2), some (zI x3), some (zI x4), some (zI x5)] [] μ
noncomputable def x_M_mergedLength (n : Nat) (a0 : Nat) (a1 : Int) (a2 : Int) (a3 : Int) (μ : bz_M) : Option bz_R := bx n 266 0 [some (zR a0), some (zI a1), some (zI a2), some (zI a3)] [] μ
noncomputable def x_M_mergesNow (n : Nat) (a0 : Nat) (a1 : Int) (a2 : Int) (a3 : Int) (μ : bz_M) : Option bz_R := bx n 267 0 [some (zR a0), some (zI a1), some (zI a2), some (zI a3)] [] μ
noncomputable def x_M_merges (n : Nat) (a0 : Nat) (a1 : Int) (a2 : Int) (a3 : Int) (μ : bz_M) : Option bz_R := bx n 268 0 [some (zR a0), some (zI a1), some (zI a2), some (zI a3), none, none] [] μ
noncomputable def x_M_merges_0 (n : Nat) (x0 : Nat) (x1 : Int) (x2 : Int) (x3 : Int) (x4 : Int) (μ : bz_M) : Option bz_R := bx n 268 24 [some (zR x0), some (zI x1), some (zI x2), some (zI x3), some (zI x4), none] [] μ
noncomputable def x_M_mergedCharacter (n : Nat) (a0 : Nat) (a1 : Int) (a2 : Int) (a3 : Int) (a4 : Int) (μ : bz_M) : Option bz_R := bx n 269 0 [some (zR a0), some (zI a1), some (zI a2), some (zI a3), some (zI a4), none, none] [] μ
noncomputable def x_M_bestScan (n : Nat) (a0 : Nat) (a1 : Int) (μ : bz_M) : Option bz_R := bx n 270 0 [some (zR a0), some (zI a1), none, none] [] μ
noncomputable def x_M_bestScan_0 (n : Nat) (x0 : Nat) (x2 : Int) (x3 : Int) (μ : bz_M) : Option bz_R := bx n 270 21 [some (zR x0), none, some (zI x2), some (zI x3)] [] μ
noncomputable def x_M_leastWeight (n : Nat) (a0 : Nat) (a1 : Int) (μ : bz_M) : Option bz_R := bx n 271 0 [some (zR a0), some (zI a1), none, none] [] μ
noncomputable def x_M_leastWeight_0 (n : Nat) (x0 : Nat) (x1 : Int) (x2 : Int) (x3 : Int) (μ : bz_M) : Option bz_R := bx n 271 9 [some (zR x0), some (zI x1), some (zI x2), some (zI x3)] [] μ
noncomputable def x_M_length (n : Nat) (a0 : Nat) (a1 : Int) (μ : bz_M) : Option bz_R := bx n 272 0 [some (zR a0), some (zI a1)] [] μ
noncomputable def x_M_lengthOf (n : Nat) (a0 : Nat) (a1 : Int) (μ : bz_M) : Option bz_R := bx n 273 0 [some (zR a0), some (zI a1), none] [] μ
noncomputable def x_M_wholeLength (n : Nat) (a0 : Nat) (μ : bz_M) : Option bz_R := bx n 274 0 [some (zR a0), none, none] [] μ
noncomputable def x_M_wholeLength_0 (n : Nat) (x0 : Nat) (x1 : Int) (μ : bz_M) : Option bz_R := bx n 274 3 [some (zR x0), some (zI x1), none] [] μ
noncomputable def x_M_wholeLength_1 (n : Nat) (x0 : Nat) (x1 : Int) (μ : bz_M) : Option bz_R := bx n 274 16 [some (zR x0), some (zI x1), none] [] μ
noncomputable def x_M_wholeLength_2 (n : Nat) (x0 : Nat) (x1 : Int) (x2 : Int) (μ : bz_M) : Option bz_R := bx n 274 45 [some (zR x0), some (zI x1), some (zI x2)] [] μ
noncomputable def x_M_hasAny (n : Nat) (a0 : Nat) (a1 : Int) (μ : bz_M) : Option bz_R := bx n 275 0 [some (zR a0), some (zI a1), none, none] [] μ
noncomputable def x_M_hasAny_0 (n : Nat) (x0 : Nat) (x1 : Int) (x2 : Int) (x3 : Int) (μ : bz_M) : Option bz_R := bx n 275 5 [some (zR x0), some (zI x1), some (zI x2), some (zI x3)] [] μ
noncomputable def x_M_longestMerge (n : Nat) (a0 : Nat) (a1 : Int) (μ : bz_M) : Option bz_R := bx n 276 0 [some (zR a0), some (zI a1), none, none, none, none] [] μ
noncomputable def x_M_longestMerge_0 (n : Nat) (x0 : Nat) (x1 : Int) (x2 : Int) (μ : bz_M) : Option bz_R := bx n 276 3 [some (zR x0), some (zI x1), some (zI x2), none, none, none] [] μ
noncomputable def x_M_longestMerge_1 (n : Nat) (x0 : Nat) (x1 : Int) (x2 : Int) (x3 : Int) (μ : bz_M) : Option bz_R := bx n 276 9 [some (zR x0), some (zI x1), some (zI x2), some (zI x3), none, none] [] μ
noncomputable def x_M_longestMerge_2 (n : Nat) (x0 : Nat) (x1 : Int) (x2 : Int) (x3 : Int) (x4 : Int) (μ : bz_M) : Option bz_R := bx n 276 16 [some (zR x0), some (zI x1), some (zI x2), some (zI x3), some (zI x4), none] [] μ
noncomputable def x_M_weight (n : Nat) (a0 : Nat) (a1 : Int) (a2 : Int) (a3 : Int) (μ : bz_M) : Option bz_R := bx n 277 0 [some (zR a0), some (zI a1), some (zI a2), some (zI a3)] [] μ
noncomputable def x_M_hasPlace (n : Nat) (a0 : Nat) (a1 : Int) (a2 : Int) (μ : bz_M) : Option bz_R := bx n 278 0 [some (zR a0), some (zI a1), some (zI a2)] [] μ
noncomputable def x_M_laysVotes (n : Nat) (a0 : Nat) (a1 : Int) (μ : bz_M) : Option bz_R := bx n 279 0 [some (zR a0), some (zI a1), none, none] [] μ
noncomputable def x_M_laysVotes_0 (n : Nat) (x0 : Nat) (x2 : Int) (x3 : Int) (μ : bz_M) : Option bz_R := bx n 279 7 [some (zR x0), none, some (zI x2), some (zI x3)] [] μ
noncomputable def x_M_laysVotes_1 (n : Nat) (x0 : Nat) (x2 : Int) (x3 : Int) (μ : bz_M) : Option bz_R := bx n 279 20 [some (zR x0), none, some (zI x2), some (zI x3)] [] μ
noncomputable def x_M_adds (n : Nat) (a0 : Nat) (a1 : Int) (a2 : Int) (a3 : Int) (μ : bz_M) : Option bz_R := bx n 280 0 [some (zR a0), some (zI a1), some (zI a2), some (zI a3), none] [] μ
noncomputable def x_M_adds_0 (n : Nat) (x0 : Nat) (x1 : Int) (x2 : Int) (x3 : Int) (x4 : Int) (μ : bz_M) : Option bz_R := bx n 280 3 [some (zR x0), some (zI x1), some (zI x2), some (zI x3), some (zI x4)] [] μ
noncomputable def x_M_allAt (n : Nat) (a0 : Nat) (a1 : Int) (μ : bz_M) : Option bz_R := bx n 281 0 [some (zR a0), some (zI a1), none, none] [] μ
noncomputable def x_M_allAt_0 (n : Nat) (x0 : Nat) (x1 : Int) (x2 : Int) (x3 : Int) (μ : bz_M) : Option bz_R := bx n 281 5 [some (zR x0), some (zI x1), some (zI x2), some (zI x3)] [] μ
noncomputable def x_M_voted (n : Nat) (a0 : Nat) (a1 : Int) (a2 : Int) (μ : bz_M) : Option bz_R := bx n 282 0 [some (zR a0), some (zI a1), some (zI a2)] [] μ
noncomputable def x_M_votedAt (n : Nat) (a0 : Nat) (a1 : Int) (μ : bz_M) : Option bz_R := bx n 283 0 [some (zR a0), some (zI a1), none, none] [] μ
noncomputable def x_M_votedAt_0 (n : Nat) (x0 : Nat) (x1 : Int) (x2 : Int) (x3 : Int) (μ : bz_M) : Option bz_R := bx n 283 7 [some (zR x0), some (zI x1), some (zI x2), some (zI x3)] [] μ
noncomputable def x_M_runnerUp (n : Nat) (a0 : Nat) (a1 : Int) (a2 : Int) (μ : bz_M) : Option bz_R := bx n 284 0 [some (zR a0), some (zI a1), some (zI a2), none, none, none, none] [] μ
noncomputable def x_M_runnerUp_0 (n : Nat) (x0 : Nat) (x2 : Int) (x3 : Int) (x4 : Int) (x5 : Int) (μ : bz_M) : Option bz_R := bx n 284 14 [some (zR x0), none, some (zI x2), some (zI x3), some (zI x4), some (zI x5), none] [] μ
noncomputable def x_M_problem (n : Nat) (a0 : Nat) (a1 : Int) (μ : bz_M) : Option bz_R := bx n 285 0 [some (zR a0), some (zI a1)] [] μ
noncomputable def x_M_problemOf (n : Nat) (a0 : Nat) (a1 : Int) (μ : bz_M) : Option bz_R := bx n 286 0 [some (zR a0), some (zI a1), none] [] μ
noncomputable def x_M_doubtFrom (n : Nat) (a0 : Nat) (a1 : Int) (a2 : Int) (μ : bz_M) : Option bz_R := bx n 287 0 [some (zR a0), some (zI a1), some (zI a2), none] [] μ
noncomputable def x_M_doubtFrom_0 (n : Nat) (x0 : Nat) (x2 : Int) (x3 : Int) (μ : bz_M) : Option bz_R := bx n 287 3 [some (zR x0), none, some (zI x2), some (zI x3)] [] μ
noncomputable def x_M_isRight (n : Nat) (a0 : Nat) (a1 : Int) (a2 : Int) (a3 : Int) (a4 : Int) (μ : bz_M) : Option bz_R := bx n 288 0 [some (zR a0), some (zI a1), some (zI a2), some (zI a3), some (zI a4), none, none, none] [] μ
noncomputable def x_M_isRight_0 (n : Nat) (x0 : Nat) (x1 : Int) (x2 : Int) (x3 : Int) (x4 : Int) (x5 : Int) (x6 : Int) (μ : bz_M) : Option bz_R := bx n 288 5 [some (zR x0), some (zI x1), some (zI x2), some (zI x3), some (zI x4), some (zI x5), some (zI x6), none] [] μ
noncomputable def x_M_doubtful (n : Nat) (a0 : Nat) (a1 : Int) (μ : bz_M) : Option bz_R := bx n 289 0 [some (zR a0), some (zI a1)] [] μ
noncomputable def x_M_repaired (n : Nat) (a0 : Nat) (a1 : Int) (μ : bz_M) : Option bz_R := bx n 290 0 [some (zR a0), some (zI a1), none, none, none, none, none, none] [] μ
noncomputable def x_M_repaired_0 (n : Nat) (x0 : Nat) (x1 : Int) (x2 : Int) (x3 : Int) (x4 : Int) (x5 : Int) (x6 : Int) (x7 : Int) (μ : bz_M) : Option bz_R := bx n 290 68 [some (zR x0), some (zI x1), some (zI x2), some (zI x3), some (zI x4), some (zI x5), some (zI x6), some (zI x7)] [] μ
noncomputable def x_M_winner (n : Nat) (a0 : Nat) (μ : bz_M) : Option bz_R := bx n 291 0 [some (zR a0), none, none, none] [] μ
noncomputable def x_M_winner_0 (n : Nat) (x0 : Nat) (x1 : Int) (x2 : Int) (x3 : Int) (μ : bz_M) : Option bz_R := bx n 291 10 [some (zR x0), some (zI x1), some (zI x2), some (zI x3)] [] μ
noncomputable def x_M_shareOf (n : Nat) (a0 : Nat) (a1 : Int) (μ : bz_M) : Option bz_R := bx n 292 0 [some (zR a0), some (zI a1), none, none, none, none] [] μ
noncomputable def x_M_shareOf_0 (n : Nat) (x0 : Nat) (x2 : Int) (x3 : Int) (x4 : Int) (μ : bz_M) : Option bz_R := bx n 292 9 [some (zR x0), none, some (zI x2), some (zI x3), some (zI x4), none] [] μ
noncomputable def x_M_worstScan (n : Nat) (a0 : Nat) (a1 : Int) (μ : bz_M) : Option bz_R := bx n 293 0 [some (zR a0), some (zI a1), none, none, none, none, none, none] [] μ
noncomputable def x_M_worstScan_0 (n : Nat) (x0 : Nat) (x2 : Int) (x3 : Int) (x4 : Int) (x5 : Int) (μ : bz_M) : Option bz_R := bx n 293 24 [some (zR x0), none, some (zI x2), some (zI x3), some (zI x4), some (zI x5), none, none] [] μ
noncomputable def x_M_worstScan_1 (n : Nat) (x0 : Nat) (x2 : Int) (x3 : Int) (x4 : Int) (x5 : Int) (x6 : Int) (x7 : Int) (μ : bz_M) : Option bz_R := bx n 293 42 [some (zR x0), none, some (zI x2), some (zI x3), some (zI x4), some (zI x5), some (zI x6), some (zI x7)] [] μ
noncomputable def x_M_setCheck (n : Nat) (a0 : Nat) (a1 : Int) (a2 : Int) (μ : bz_M) : Option bz_R := bx n 294 0 [some (zR a0), some (zI a1), some (zI a2), none] [] μ
noncomputable def d_Row_new (n : Nat) (a0 : Nat) (μ : bz_M) : Option bz_R := bz_tg [(5, 1)] (gT μ a0) fun k => bx n k 0 (bz_lo (bz_mls.getD k 0) [zR a0]) [] μ
noncomputable def d_Ean_new (n : Nat) (a0 : Nat) (μ : bz_M) : Option bz_R := bz_tg [(2, 2)] (gT μ a0) fun k => bx n k 0 (bz_lo (bz_mls.getD k 0) [zR a0]) [] μ
noncomputable def d_Int_new (n : Nat) (a0 : Nat) (μ : bz_M) : Option bz_R := bz_tg [(3, 4)] (gT μ a0) fun k => bx n k 0 (bz_lo (bz_mls.getD k 0) [zR a0]) [] μ
noncomputable def d_Cod_new (n : Nat) (a0 : Nat) (μ : bz_M) : Option bz_R := bz_tg [(1, 5)] (gT μ a0) fun k => bx n k 0 (bz_lo (bz_mls.getD k 0) [zR a0]) [] μ
noncomputable def d_Tal_new (n : Nat) (a0 : Nat) (μ : bz_M) : Option bz_R := bz_tg [(8, 6)] (gT μ a0) fun k => bx n k 0 (bz_lo (bz_mls.getD k 0) [zR a0]) [] μ
noncomputable def d_Seq_new (n : Nat) (a0 : Nat) (μ : bz_M) : Option bz_R := bz_tg [(7, 7)] (gT μ a0) fun k => bx n k 0 (bz_lo (bz_mls.getD k 0) [zR a0]) [] μ
noncomputable def d_Scn_new (n : Nat) (a0 : Nat) (μ : bz_M) : Option bz_R := bz_tg [(6, 8)] (gT μ a0) fun k => bx n k 0 (bz_lo (bz_mls.getD k 0) [zR a0]) [] μ
noncomputable def d_Sym_new (n : Nat) (a0 : Nat) (a1 : Int) (a2 : Int) (a3 : Int) (a4 : Int) (μ : bz_M) : Option bz_R := bz_tg [(1, 3), (2, 3), (3, 3)] (gT μ a0) fun k => bx n k 0 (bz_lo (bz_mls.getD k 0) [zR a0, zI a1, zI a2, zI a3, zI a4]) [] μ
noncomputable def d_Rdg_new (n : Nat) (a0 : Nat) (μ : bz_M) : Option bz_R := bz_tg [(4, 9)] (gT μ a0) fun k => bx n k 0 (bz_lo (bz_mls.getD k 0) [zR a0]) [] μ
noncomputable def d_E_tally (n : Nat) (a0 : Nat) (a1 : Int) (μ : bz_M) : Option bz_R := bz_tg [(9, 12)] (gT μ a0) fun k => bx n k 0 (bz_lo (bz_mls.getD k 0) [zR a0, zI a1]) [] μ
noncomputable def d_E_problemOf (n : Nat) (a0 : Nat) (a1 : Nat) (a2 : Int) (μ : bz_M) : Option bz_R := bz_tg [(9, 59)] (gT μ a0) fun k => bx n k 0 (bz_lo (bz_mls.getD k 0) [zR a0, zR a1, zI a2]) [] μ
noncomputable def d_Tal_share (n : Nat) (a0 : Nat) (μ : bz_M) : Option bz_R := bz_tg [(8, 64)] (gT μ a0) fun k => bx n k 0 (bz_lo (bz_mls.getD k 0) [zR a0]) [] μ
noncomputable def d_Sym_interpret (n : Nat) (a0 : Nat) (a1 : Nat) (a2 : Nat) (a3 : Nat) (μ : bz_M) : Option bz_R := bz_tg [(1, 14), (2, 14), (3, 14)] (gT μ a0) fun k => bx n k 0 (bz_lo (bz_mls.getD k 0) [zR a0, zR a1, zR a2, zR a3]) [] μ
noncomputable def d_Tal_recount (n : Nat) (a0 : Nat) (a1 : Nat) (a2 : Int) (a3 : Nat) (a4 : Int) (μ : bz_M) : Option bz_R := bz_tg [(8, 43)] (gT μ a0) fun k => bx n k 0 (bz_lo (bz_mls.getD k 0) [zR a0, zR a1, zI a2, zR a3, zI a4]) [] μ
noncomputable def d_Rdg_clear (n : Nat) (a0 : Nat) (μ : bz_M) : Option bz_R := bz_tg [(4, 15)] (gT μ a0) fun k => bx n k 0 (bz_lo (bz_mls.getD k 0) [zR a0]) [] μ
noncomputable def d_Sym_findWhole (n : Nat) (a0 : Nat) (a1 : Nat) (a2 : Nat) (μ : bz_M) : Option bz_R := bz_tg [(1, 16), (2, 16), (3, 16)] (gT μ a0) fun k => bx n k 0 (bz_lo (bz_mls.getD k 0) [zR a0, zR a1, zR a2]) [] μ
noncomputable def d_Row_copyReversed (n : Nat) (a0 : Nat) (a1 : Nat) (μ : bz_M) : Option bz_R := bz_tg [(5, 38)] (gT μ a0) fun k => bx n k 0 (bz_lo (bz_mls.getD k 0) [zR a0, zR a1]) [] μ
noncomputable def d_Sym_findParts (n : Nat) (a0 : Nat) (a1 : Nat) (a2 : Nat) (μ : bz_M) : Option bz_R := bz_tg [(1, 40), (2, 40), (3, 40)] (gT μ a0) fun k => bx n k 0 (bz_lo (bz_mls.getD k 0) [zR a0, zR a1, zR a2]) [] μ
noncomputable def d_Rdg_turn (n : Nat) (a0 : Nat) (a1 : Int) (μ : bz_M) : Option bz_R := bz_tg [(4, 39)] (gT μ a0) fun k => bx n k 0 (bz_lo (bz_mls.getD k 0) [zR a0, zI a1]) [] μ
noncomputable def d_Sym_beginsAt (n : Nat) (a0 : Nat) (a1 : Nat) (a2 : Int) (μ : bz_M) : Option bz_R := bz_tg [(1, 17), (2, 20), (3, 22)] (gT μ a0) fun k => bx n k 0 (bz_lo (bz_mls.getD k 0) [zR a0, zR a1, zI a2]) [] μ
noncomputable def d_Sym_addWhole (n : Nat) (a0 : Nat) (a1 : Nat) (a2 : Int) (a3 : Nat) (μ : bz_M) : Option bz_R := bz_tg [(1, 31), (2, 23), (3, 31)] (gT μ a0) fun k => bx n k 0 (bz_lo (bz_mls.getD k 0) [zR a0, zR a1, zI a2, zR a3]) [] μ
noncomputable def d_Row_match (n : Nat) (a0 : Nat) (a1 : Int) (a2 : Int) (a3 : Int) (a4 : Nat) (μ : bz_M) : Option bz_R := bz_tg [(5, 18)] (gT μ a0) fun k => bx n k 0 (bz_lo (bz_mls.getD k 0) [zR a0, zI a1, zI a2, zI a3, zR a4]) [] μ
noncomputable def d_Row_isQuiet (n : Nat) (a0 : Nat) (a1 : Int) (a2 : Int) (a3 : Int) (μ : bz_M) : Option bz_R := bz_tg [(5, 19)] (gT μ a0) fun k => bx n k 0 (bz_lo (bz_mls.getD k 0) [zR a0, zI a1, zI a2, zI a3]) [] μ
noncomputable def d_Row_isEven (n : Nat) (a0 : Nat) (a1 : Int) (a2 : Int) (μ : bz_M) : Option bz_R := bz_tg [(5, 21)] (gT μ a0) fun k => bx n k 0 (bz_lo (bz_mls.getD k 0) [zR a0, zI a1, zI a2]) [] μ
noncomputable def d_Ean_addUnit (n : Nat) (a0 : Nat) (a1 : Nat) (a2 : Int) (a3 : Nat) (μ : bz_M) : Option bz_R := bz_tg [(2, 24)] (gT μ a0) fun k => bx n k 0 (bz_lo (bz_mls.getD k 0) [zR a0, zR a1, zI a2, zR a3]) [] μ
noncomputable def d_Ean_endsAt (n : Nat) (a0 : Nat) (a1 : Nat) (a2 : Int) (μ : bz_M) : Option bz_R := bz_tg [(2, 30)] (gT μ a0) fun k => bx n k 0 (bz_lo (bz_mls.getD k 0) [zR a0, zR a1, zI a2]) [] μ
noncomputable def d_Row_has (n : Nat) (a0 : Nat) (a1 : Int) (a2 : Int) (μ : bz_M) : Option bz_R := bz_tg [(5, 25)] (gT μ a0) fun k => bx n k 0 (bz_lo (bz_mls.getD k 0) [zR a0, zI a1, zI a2]) [] μ
noncomputable def d_Seq_add (n : Nat) (a0 : Nat) (a1 : Int) (a2 : Int) (μ : bz_M) : Option bz_R := bz_tg [(7, 29)] (gT μ a0) fun k => bx n k 0 (bz_lo (bz_mls.getD k 0) [zR a0, zI a1, zI a2]) [] μ
noncomputable def d_Sym_addGuard (n : Nat) (a0 : Nat) (a1 : Nat) (a2 : Int) (a3 : Nat) (μ : bz_M) : Option bz_R := bz_tg [(1, 32), (2, 33), (3, 33)] (gT μ a0) fun k => bx n k 0 (bz_lo (bz_mls.getD k 0) [zR a0, zR a1, zI a2, zR a3]) [] μ
noncomputable def d_Sym_addUnit (n : Nat) (a0 : Nat) (a1 : Nat) (a2 : Int) (a3 : Nat) (μ : bz_M) : Option bz_R := bz_tg [(1, 34), (2, 24), (3, 35)] (gT μ a0) fun k => bx n k 0 (bz_lo (bz_mls.getD k 0) [zR a0, zR a1, zI a2, zR a3]) [] μ
noncomputable def d_Sym_endsAt (n : Nat) (a0 : Nat) (a1 : Nat) (a2 : Int) (μ : bz_M) : Option bz_R := bz_tg [(1, 36), (2, 30), (3, 37)] (gT μ a0) fun k => bx n k 0 (bz_lo (bz_mls.getD k 0) [zR a0, zR a1, zI a2]) [] μ
noncomputable def d_Sym_addHead (n : Nat) (a0 : Nat) (a1 : Nat) (a2 : Int) (a3 : Nat) (μ : bz_M) : Option bz_R := bz_tg [(1, 41), (2, 41), (3, 41)] (gT μ a0) fun k => bx n k 0 (bz_lo (bz_mls.getD k 0) [zR a0, zR a1, zI a2, zR a3]) [] μ
noncomputable def d_Sym_addTail (n : Nat) (a0 : Nat) (a1 : Nat) (a2 : Int) (a3 : Nat) (μ : bz_M) : Option bz_R := bz_tg [(1, 42), (2, 42), (3, 42)] (gT μ a0) fun k => bx n k 0 (bz_lo (bz_mls.getD k 0) [zR a0, zR a1, zI a2, zR a3]) [] μ
noncomputable def d_Tal_supportedLength (n : Nat) (a0 : Nat) (a1 : Int) (a2 : Nat) (a3 : Int) (μ : bz_M) : Option bz_R := bz_tg [(8, 44)] (gT μ a0) fun k => bx n k 0 (bz_lo (bz_mls.getD k 0) [zR a0, zI a1, zR a2, zI a3]) [] μ
noncomputable def d_Sym_joinedLength (n : Nat) (a0 : Nat) (a1 : Int) (a2 : Nat) (a3 : Int) (μ : bz_M) : Option bz_R := bz_tg [(1, 48), (2, 47), (3, 48)] (gT μ a0) fun k => bx n k 0 (bz_lo (bz_mls.getD k 0) [zR a0, zI a1, zR a2, zI a3]) [] μ
noncomputable def d_Tal_countVotes (n : Nat) (a0 : Nat) (a1 : Nat) (μ : bz_M) : Option bz_R := bz_tg [(8, 55)] (gT μ a0) fun k => bx n k 0 (bz_lo (bz_mls.getD k 0) [zR a0, zR a1]) [] μ
noncomputable def d_Tal_majorityAt (n : Nat) (a0 : Nat) (a1 : Int) (μ : bz_M) : Option bz_R := bz_tg [(8, 57)] (gT μ a0) fun k => bx n k 0 (bz_lo (bz_mls.getD k 0) [zR a0, zI a1]) [] μ
noncomputable def d_Seq_leastConfidence (n : Nat) (a0 : Nat) (μ : bz_M) : Option bz_R := bz_tg [(7, 45)] (gT μ a0) fun k => bx n k 0 (bz_lo (bz_mls.getD k 0) [zR a0]) [] μ
noncomputable def d_Sym_seam (n : Nat) (a0 : Nat) (a1 : Nat) (a2 : Nat) (μ : bz_M) : Option bz_R := bz_tg [(1, 50), (2, 49), (3, 50)] (gT μ a0) fun k => bx n k 0 (bz_lo (bz_mls.getD k 0) [zR a0, zR a1, zR a2]) [] μ
noncomputable def d_Seq_endsLike (n : Nat) (a0 : Nat) (a1 : Nat) (a2 : Int) (μ : bz_M) : Option bz_R := bz_tg [(7, 51)] (gT μ a0) fun k => bx n k 0 (bz_lo (bz_mls.getD k 0) [zR a0, zR a1, zI a2]) [] μ
noncomputable def d_Sym_hasLength (n : Nat) (a0 : Nat) (a1 : Int) (μ : bz_M) : Option bz_R := bz_tg [(1, 52), (2, 53), (3, 54)] (gT μ a0) fun k => bx n k 0 (bz_lo (bz_mls.getD k 0) [zR a0, zI a1]) [] μ
noncomputable def d_Tal_addVotes (n : Nat) (a0 : Nat) (a1 : Nat) (a2 : Int) (μ : bz_M) : Option bz_R := bz_tg [(8, 56)] (gT μ a0) fun k => bx n k 0 (bz_lo (bz_mls.getD k 0) [zR a0, zR a1, zI a2]) [] μ
noncomputable def d_Tal_weightOf (n : Nat) (a0 : Nat) (a1 : Int) (a2 : Int) (μ : bz_M) : Option bz_R := bz_tg [(8, 58)] (gT μ a0) fun k => bx n k 0 (bz_lo (bz_mls.getD k 0) [zR a0, zI a1, zI a2]) [] μ
noncomputable def d_Tal_doubts (n : Nat) (a0 : Nat) (μ : bz_M) : Option bz_R := bz_tg [(8, 60)] (gT μ a0) fun k => bx n k 0 (bz_lo (bz_mls.getD k 0) [zR a0]) [] μ
noncomputable def d_Seq_copyValues (n : Nat) (a0 : Nat) (a1 : Nat) (a2 : Int) (μ : bz_M) : Option bz_R := bz_tg [(7, 61)] (gT μ a0) fun k => bx n k 0 (bz_lo (bz_mls.getD k 0) [zR a0, zR a1, zI a2]) [] μ
noncomputable def d_Sym_isRight (n : Nat) (a0 : Nat) (a1 : Nat) (μ : bz_M) : Option bz_R := bz_tg [(1, 62), (2, 63), (3, 63)] (gT μ a0) fun k => bx n k 0 (bz_lo (bz_mls.getD k 0) [zR a0, zR a1]) [] μ
noncomputable def d_E_append (n : Nat) (a0 : Nat) (a1 : Int) (a2 : Int) (a3 : Int) (a4 : Int) (a5 : Int) (μ : bz_M) : Option bz_R := bz_tg [(9, 66)] (gT μ a0) fun k => bx n k 0 (bz_lo (bz_mls.getD k 0) [zR a0, zI a1, zI a2, zI a3, zI a4, zI a5]) [] μ
noncomputable def d_E_appendBytes (n : Nat) (a0 : Nat) (a1 : Int) (μ : bz_M) : Option bz_R := bz_tg [(9, 67)] (gT μ a0) fun k => bx n k 0 (bz_lo (bz_mls.getD k 0) [zR a0, zI a1]) [] μ
noncomputable def d_E_print (n : Nat) (a0 : Nat) (a1 : Int) (a2 : Int) (a3 : Int) (a4 : Int) (a5 : Int) (μ : bz_M) : Option bz_R := bz_tg [(9, 69)] (gT μ a0) fun k => bx n k 0 (bz_lo (bz_mls.getD k 0) [zR a0, zI a1, zI a2, zI a3, zI a4, zI a5]) [] μ
noncomputable def d_E_requireTextLength (n : Nat) (a0 : Nat) (a1 : Int) (μ : bz_M) : Option bz_R := bz_tg [(9, 70)] (gT μ a0) fun k => bx n k 0 (bz_lo (bz_mls.getD k 0) [zR a0, zI a1]) [] μ
noncomputable def d_E_takeText (n : Nat) (a0 : Nat) (a1 : Int) (μ : bz_M) : Option bz_R := bz_tg [(9, 71)] (gT μ a0) fun k => bx n k 0 (bz_lo (bz_mls.getD k 0) [zR a0, zI a1]) [] μ
noncomputable def d_E_isCode (n : Nat) (a0 : Nat) (a1 : Nat) (μ : bz_M) : Option bz_R := bz_tg [(9, 81)] (gT μ a0) fun k => bx n k 0 (bz_lo (bz_mls.getD k 0) [zR a0, zR a1]) [] μ
noncomputable def d_E_requireRoomForScan (n : Nat) (a0 : Nat) (μ : bz_M) : Option bz_R := bz_tg [(9, 84)] (gT μ a0) fun k => bx n k 0 (bz_lo (bz_mls.getD k 0) [zR a0]) [] μ
noncomputable def d_Sym_draw (n : Nat) (a0 : Nat) (a1 : Nat) (a2 : Nat) (μ : bz_M) : Option bz_R := bz_tg [(1, 85), (2, 87), (3, 89)] (gT μ a0) fun k => bx n k 0 (bz_lo (bz_mls.getD k 0) [zR a0, zR a1, zR a2]) [] μ
noncomputable def d_Row_add (n : Nat) (a0 : Nat) (a1 : Int) (μ : bz_M) : Option bz_R := bz_tg [(5, 86)] (gT μ a0) fun k => bx n k 0 (bz_lo (bz_mls.getD k 0) [zR a0, zI a1]) [] μ
noncomputable def d_E_addPrinted (n : Nat) (a0 : Nat) (a1 : Nat) (a2 : Int) (a3 : Int) (a4 : Int) (μ : bz_M) : Option bz_R := bz_tg [(9, 91)] (gT μ a0) fun k => bx n k 0 (bz_lo (bz_mls.getD k 0) [zR a0, zR a1, zI a2, zI a3, zI a4]) [] μ
noncomputable def d_E_keepScan (n : Nat) (a0 : Nat) (a1 : Nat) (μ : bz_M) : Option bz_R := bz_tg [(9, 92)] (gT μ a0) fun k => bx n k 0 (bz_lo (bz_mls.getD k 0) [zR a0, zR a1]) [] μ
noncomputable def d_Str_indexOf (n : Nat) (a0 : Nat) (a1 : Int) (μ : bz_M) : Option bz_R := bz_tg [(28, 73)] (gT μ a0) fun k => bx n k 0 (bz_lo (bz_mls.getD k 0) [zR a0, zI a1]) [] μ
noncomputable def d_Str_indexOf2 (n : Nat) (a0 : Nat) (a1 : Int) (a2 : Int) (μ : bz_M) : Option bz_R := bz_tg [(28, 74)] (gT μ a0) fun k => bx n k 0 (bz_lo (bz_mls.getD k 0) [zR a0, zI a1, zI a2]) [] μ
noncomputable def d_Str_isLatin1 (n : Nat) (a0 : Nat) (μ : bz_M) : Option bz_R := bz_tg [(28, 75)] (gT μ a0) fun k => bx n k 0 (bz_lo (bz_mls.getD k 0) [zR a0]) [] μ
noncomputable def d_Str_length (n : Nat) (a0 : Nat) (μ : bz_M) : Option bz_R := bz_tg [(28, 76)] (gT μ a0) fun k => bx n k 0 (bz_lo (bz_mls.getD k 0) [zR a0]) [] μ
noncomputable def d_Str_coder (n : Nat) (a0 : Nat) (μ : bz_M) : Option bz_R := bz_tg [(28, 77)] (gT μ a0) fun k => bx n k 0 (bz_lo (bz_mls.getD k 0) [zR a0]) [] μ
noncomputable def d_Sym_allows (n : Nat) (a0 : Nat) (a1 : Int) (a2 : Int) (a3 : Int) (μ : bz_M) : Option bz_R := bz_tg [(1, 82), (2, 83), (3, 83)] (gT μ a0) fun k => bx n k 0 (bz_lo (bz_mls.getD k 0) [zR a0, zI a1, zI a2, zI a3]) [] μ
noncomputable def d_E_forget (n : Nat) (a0 : Nat) (a1 : Nat) (μ : bz_M) : Option bz_R := bz_tg [(9, 93)] (gT μ a0) fun k => bx n k 0 (bz_lo (bz_mls.getD k 0) [zR a0, zR a1]) [] μ
noncomputable def d_E_checkCharacter (n : Nat) (a0 : Nat) (a1 : Int) (a2 : Int) (μ : bz_M) : Option bz_R := bz_tg [(9, 95)] (gT μ a0) fun k => bx n k 0 (bz_lo (bz_mls.getD k 0) [zR a0, zI a1, zI a2]) [] μ
noncomputable def d_Sym_checkPlace (n : Nat) (a0 : Nat) (a1 : Int) (μ : bz_M) : Option bz_R := bz_tg [(1, 96), (2, 97), (3, 97)] (gT μ a0) fun k => bx n k 0 (bz_lo (bz_mls.getD k 0) [zR a0, zI a1]) [] μ
noncomputable def d_Seq_insert (n : Nat) (a0 : Nat) (a1 : Int) (a2 : Int) (μ : bz_M) : Option bz_R := bz_tg [(7, 98)] (gT μ a0) fun k => bx n k 0 (bz_lo (bz_mls.getD k 0) [zR a0, zI a1, zI a2]) [] μ
noncomputable def d_E_rightValue (n : Nat) (a0 : Nat) (a1 : Nat) (a2 : Int) (μ : bz_M) : Option bz_R := bz_tg [(9, 99)] (gT μ a0) fun k => bx n k 0 (bz_lo (bz_mls.getD k 0) [zR a0, zR a1, zI a2]) [] μ
noncomputable def d_Str_charAt (n : Nat) (a0 : Nat) (a1 : Int) (μ : bz_M) : Option bz_R := bz_tg [(28, 101)] (gT μ a0) fun k => bx n k 0 (bz_lo (bz_mls.getD k 0) [zR a0, zI a1]) [] μ
noncomputable def d_E_addWidths (n : Nat) (a0 : Nat) (a1 : Int) (a2 : Int) (a3 : Int) (a4 : Int) (a5 : Int) (a6 : Int) (μ : bz_M) : Option bz_R := bz_tg [(9, 106)] (gT μ a0) fun k => bx n k 0 (bz_lo (bz_mls.getD k 0) [zR a0, zI a1, zI a2, zI a3, zI a4, zI a5, zI a6]) [] μ
noncomputable def d_Row_isWithin (n : Nat) (a0 : Nat) (a1 : Int) (a2 : Int) (μ : bz_M) : Option bz_R := bz_tg [(5, 107)] (gT μ a0) fun k => bx n k 0 (bz_lo (bz_mls.getD k 0) [zR a0, zI a1, zI a2]) [] μ
noncomputable def d_Row_countBeforeZero (n : Nat) (a0 : Nat) (μ : bz_M) : Option bz_R := bz_tg [(5, 108)] (gT μ a0) fun k => bx n k 0 (bz_lo (bz_mls.getD k 0) [zR a0]) [] μ
noncomputable def d_E_endScan (n : Nat) (a0 : Nat) (μ : bz_M) : Option bz_R := bz_tg [(9, 110)] (gT μ a0) fun k => bx n k 0 (bz_lo (bz_mls.getD k 0) [zR a0]) [] μ
noncomputable def d_Row_copy (n : Nat) (a0 : Nat) (a1 : Nat) (μ : bz_M) : Option bz_R := bz_tg [(5, 111)] (gT μ a0) fun k => bx n k 0 (bz_lo (bz_mls.getD k 0) [zR a0, zR a1]) [] μ
noncomputable def d_E_widthCount (n : Nat) (a0 : Nat) (a1 : Int) (μ : bz_M) : Option bz_R := bz_tg [(9, 113)] (gT μ a0) fun k => bx n k 0 (bz_lo (bz_mls.getD k 0) [zR a0, zI a1]) [] μ
noncomputable def d_E_requireScan (n : Nat) (a0 : Nat) (a1 : Int) (μ : bz_M) : Option bz_R := bz_tg [(9, 114)] (gT μ a0) fun k => bx n k 0 (bz_lo (bz_mls.getD k 0) [zR a0, zI a1]) [] μ
noncomputable def d_E_width (n : Nat) (a0 : Nat) (a1 : Int) (a2 : Int) (μ : bz_M) : Option bz_R := bz_tg [(9, 116)] (gT μ a0) fun k => bx n k 0 (bz_lo (bz_mls.getD k 0) [zR a0, zI a1, zI a2]) [] μ
noncomputable def d_E_setWidth (n : Nat) (a0 : Nat) (a1 : Int) (a2 : Int) (a3 : Int) (μ : bz_M) : Option bz_R := bz_tg [(9, 119)] (gT μ a0) fun k => bx n k 0 (bz_lo (bz_mls.getD k 0) [zR a0, zI a1, zI a2, zI a3]) [] μ
noncomputable def d_E_cut (n : Nat) (a0 : Nat) (a1 : Int) (a2 : Int) (a3 : Int) (μ : bz_M) : Option bz_R := bz_tg [(9, 121)] (gT μ a0) fun k => bx n k 0 (bz_lo (bz_mls.getD k 0) [zR a0, zI a1, zI a2, zI a3]) [] μ
noncomputable def d_Row_keep (n : Nat) (a0 : Nat) (a1 : Int) (a2 : Int) (μ : bz_M) : Option bz_R := bz_tg [(5, 122)] (gT μ a0) fun k => bx n k 0 (bz_lo (bz_mls.getD k 0) [zR a0, zI a1, zI a2]) [] μ
noncomputable def d_E_reverse (n : Nat) (a0 : Nat) (a1 : Int) (μ : bz_M) : Option bz_R := bz_tg [(9, 124)] (gT μ a0) fun k => bx n k 0 (bz_lo (bz_mls.getD k 0) [zR a0, zI a1]) [] μ
noncomputable def d_E_smear (n : Nat) (a0 : Nat) (a1 : Int) (a2 : Int) (μ : bz_M) : Option bz_R := bz_tg [(9, 126)] (gT μ a0) fun k => bx n k 0 (bz_lo (bz_mls.getD k 0) [zR a0, zI a1, zI a2]) [] μ
noncomputable def d_Row_widenBars (n : Nat) (a0 : Nat) (a1 : Int) (μ : bz_M) : Option bz_R := bz_tg [(5, 127)] (gT μ a0) fun k => bx n k 0 (bz_lo (bz_mls.getD k 0) [zR a0, zI a1]) [] μ
noncomputable def d_E_average (n : Nat) (a0 : Nat) (a1 : Int) (a2 : Int) (μ : bz_M) : Option bz_R := bz_tg [(9, 129)] (gT μ a0) fun k => bx n k 0 (bz_lo (bz_mls.getD k 0) [zR a0, zI a1, zI a2]) [] μ
noncomputable def d_E_removeScan (n : Nat) (a0 : Nat) (a1 : Int) (μ : bz_M) : Option bz_R := bz_tg [(9, 131)] (gT μ a0) fun k => bx n k 0 (bz_lo (bz_mls.getD k 0) [zR a0, zI a1]) [] μ
noncomputable def d_E_read (n : Nat) (a0 : Nat) (a1 : Int) (a2 : Int) (μ : bz_M) : Option bz_R := bz_tg [(9, 133)] (gT μ a0) fun k => bx n k 0 (bz_lo (bz_mls.getD k 0) [zR a0, zI a1, zI a2]) [] μ
noncomputable def d_E_reading (n : Nat) (a0 : Nat) (a1 : Int) (a2 : Int) (μ : bz_M) : Option bz_R := bz_tg [(9, 134)] (gT μ a0) fun k => bx n k 0 (bz_lo (bz_mls.getD k 0) [zR a0, zI a1, zI a2]) [] μ
noncomputable def d_E_readPart (n : Nat) (a0 : Nat) (a1 : Int) (a2 : Int) (a3 : Int) (μ : bz_M) : Option bz_R := bz_tg [(9, 136)] (gT μ a0) fun k => bx n k 0 (bz_lo (bz_mls.getD k 0) [zR a0, zI a1, zI a2, zI a3]) [] μ
noncomputable def d_Rdg_part (n : Nat) (a0 : Nat) (a1 : Int) (μ : bz_M) : Option bz_R := bz_tg [(4, 137)] (gT μ a0) fun k => bx n k 0 (bz_lo (bz_mls.getD k 0) [zR a0, zI a1]) [] μ
noncomputable def d_E_character (n : Nat) (a0 : Nat) (a1 : Int) (a2 : Int) (a3 : Int) (μ : bz_M) : Option bz_R := bz_tg [(9, 139)] (gT μ a0) fun k => bx n k 0 (bz_lo (bz_mls.getD k 0) [zR a0, zI a1, zI a2, zI a3]) [] μ
noncomputable def d_E_confidence (n : Nat) (a0 : Nat) (a1 : Int) (a2 : Int) (a3 : Int) (μ : bz_M) : Option bz_R := bz_tg [(9, 141)] (gT μ a0) fun k => bx n k 0 (bz_lo (bz_mls.getD k 0) [zR a0, zI a1, zI a2, zI a3]) [] μ
noncomputable def d_E_partCharacter (n : Nat) (a0 : Nat) (a1 : Int) (a2 : Int) (a3 : Int) (a4 : Int) (μ : bz_M) : Option bz_R := bz_tg [(9, 143)] (gT μ a0) fun k => bx n k 0 (bz_lo (bz_mls.getD k 0) [zR a0, zI a1, zI a2, zI a3, zI a4]) [] μ
noncomputable def d_E_isReversed (n : Nat) (a0 : Nat) (a1 : Int) (a2 : Int) (μ : bz_M) : Option bz_R := bz_tg [(9, 145)] (gT μ a0) fun k => bx n k 0 (bz_lo (bz_mls.getD k 0) [zR a0, zI a1, zI a2]) [] μ
noncomputable def d_E_agreement (n : Nat) (a0 : Nat) (a1 : Int) (a2 : Int) (a3 : Int) (μ : bz_M) : Option bz_R := bz_tg [(9, 147)] (gT μ a0) fun k => bx n k 0 (bz_lo (bz_mls.getD k 0) [zR a0, zI a1, zI a2, zI a3]) [] μ
noncomputable def d_E_overlap (n : Nat) (a0 : Nat) (a1 : Int) (a2 : Int) (a3 : Int) (μ : bz_M) : Option bz_R := bz_tg [(9, 149)] (gT μ a0) fun k => bx n k 0 (bz_lo (bz_mls.getD k 0) [zR a0, zI a1, zI a2, zI a3]) [] μ
noncomputable def d_E_module (n : Nat) (a0 : Nat) (a1 : Int) (a2 : Int) (μ : bz_M) : Option bz_R := bz_tg [(9, 151)] (gT μ a0) fun k => bx n k 0 (bz_lo (bz_mls.getD k 0) [zR a0, zI a1, zI a2]) [] μ
noncomputable def d_E_drawWhole (n : Nat) (a0 : Nat) (a1 : Nat) (a2 : Nat) (μ : bz_M) : Option bz_R := bz_tg [(9, 152)] (gT μ a0) fun k => bx n k 0 (bz_lo (bz_mls.getD k 0) [zR a0, zR a1, zR a2]) [] μ
noncomputable def d_Row_sum (n : Nat) (a0 : Nat) (a1 : Int) (a2 : Int) (a3 : Int) (μ : bz_M) : Option bz_R := bz_tg [(5, 153)] (gT μ a0) fun k => bx n k 0 (bz_lo (bz_mls.getD k 0) [zR a0, zI a1, zI a2, zI a3]) [] μ
noncomputable def d_E_spread (n : Nat) (a0 : Nat) (a1 : Int) (a2 : Int) (μ : bz_M) : Option bz_R := bz_tg [(9, 155)] (gT μ a0) fun k => bx n k 0 (bz_lo (bz_mls.getD k 0) [zR a0, zI a1, zI a2]) [] μ
noncomputable def d_E_mergedLength (n : Nat) (a0 : Nat) (a1 : Int) (a2 : Int) (a3 : Int) (μ : bz_M) : Option bz_R := bz_tg [(9, 158)] (gT μ a0) fun k => bx n k 0 (bz_lo (bz_mls.getD k 0) [zR a0, zI a1, zI a2, zI a3]) [] μ
noncomputable def d_E_mergedCharacter (n : Nat) (a0 : Nat) (a1 : Int) (a2 : Int) (a3 : Int) (a4 : Int) (μ : bz_M) : Option bz_R := bz_tg [(9, 160)] (gT μ a0) fun k => bx n k 0 (bz_lo (bz_mls.getD k 0) [zR a0, zI a1, zI a2, zI a3, zI a4]) [] μ
noncomputable def d_E_bestScan (n : Nat) (a0 : Nat) (a1 : Int) (μ : bz_M) : Option bz_R := bz_tg [(9, 162)] (gT μ a0) fun k => bx n k 0 (bz_lo (bz_mls.getD k 0) [zR a0, zI a1]) [] μ
noncomputable def d_E_length (n : Nat) (a0 : Nat) (a1 : Int) (μ : bz_M) : Option bz_R := bz_tg [(9, 164)] (gT μ a0) fun k => bx n k 0 (bz_lo (bz_mls.getD k 0) [zR a0, zI a1]) [] μ
noncomputable def d_E_weight (n : Nat) (a0 : Nat) (a1 : Int) (a2 : Int) (a3 : Int) (μ : bz_M) : Option bz_R := bz_tg [(9, 166)] (gT μ a0) fun k => bx n k 0 (bz_lo (bz_mls.getD k 0) [zR a0, zI a1, zI a2, zI a3]) [] μ
noncomputable def d_E_voted (n : Nat) (a0 : Nat) (a1 : Int) (a2 : Int) (μ : bz_M) : Option bz_R := bz_tg [(9, 168)] (gT μ a0) fun k => bx n k 0 (bz_lo (bz_mls.getD k 0) [zR a0, zI a1, zI a2]) [] μ
noncomputable def d_E_runnerUp (n : Nat) (a0 : Nat) (a1 : Int) (a2 : Int) (μ : bz_M) : Option bz_R := bz_tg [(9, 170)] (gT μ a0) fun k => bx n k 0 (bz_lo (bz_mls.getD k 0) [zR a0, zI a1, zI a2]) [] μ
noncomputable def d_E_problem (n : Nat) (a0 : Nat) (a1 : Int) (μ : bz_M) : Option bz_R := bz_tg [(9, 173)] (gT μ a0) fun k => bx n k 0 (bz_lo (bz_mls.getD k 0) [zR a0, zI a1]) [] μ
noncomputable def d_E_doubtful (n : Nat) (a0 : Nat) (a1 : Int) (μ : bz_M) : Option bz_R := bz_tg [(9, 175)] (gT μ a0) fun k => bx n k 0 (bz_lo (bz_mls.getD k 0) [zR a0, zI a1]) [] μ
noncomputable def d_Tal_firstDoubt (n : Nat) (a0 : Nat) (μ : bz_M) : Option bz_R := bz_tg [(8, 176)] (gT μ a0) fun k => bx n k 0 (bz_lo (bz_mls.getD k 0) [zR a0]) [] μ
noncomputable def d_E_repaired (n : Nat) (a0 : Nat) (a1 : Int) (μ : bz_M) : Option bz_R := bz_tg [(9, 178)] (gT μ a0) fun k => bx n k 0 (bz_lo (bz_mls.getD k 0) [zR a0, zI a1]) [] μ
noncomputable def d_E_worstScan (n : Nat) (a0 : Nat) (a1 : Int) (μ : bz_M) : Option bz_R := bz_tg [(9, 180)] (gT μ a0) fun k => bx n k 0 (bz_lo (bz_mls.getD k 0) [zR a0, zI a1]) [] μ
noncomputable def d_Tal_disagreements (n : Nat) (a0 : Nat) (a1 : Nat) (μ : bz_M) : Option bz_R := bz_tg [(8, 181)] (gT μ a0) fun k => bx n k 0 (bz_lo (bz_mls.getD k 0) [zR a0, zR a1]) [] μ
noncomputable def d_E_setCheck (n : Nat) (a0 : Nat) (a1 : Int) (a2 : Int) (μ : bz_M) : Option bz_R := bz_tg [(9, 183)] (gT μ a0) fun k => bx n k 0 (bz_lo (bz_mls.getD k 0) [zR a0, zI a1, zI a2]) [] μ
noncomputable def d_M_canPrint (n : Nat) (a0 : Nat) (a1 : Int) (a2 : Int) (a3 : Int) (a4 : Int) (μ : bz_M) : Option bz_R := bz_tg [(10, 190)] (gT μ a0) fun k => bx n k 0 (bz_lo (bz_mls.getD k 0) [zR a0, zI a1, zI a2, zI a3, zI a4]) [] μ
noncomputable def d_M_laysModules (n : Nat) (a0 : Nat) (a1 : Int) (a2 : Int) (μ : bz_M) : Option bz_R := bz_tg [(10, 195)] (gT μ a0) fun k => bx n k 0 (bz_lo (bz_mls.getD k 0) [zR a0, zI a1, zI a2]) [] μ
noncomputable def d_M_areCharacters (n : Nat) (a0 : Nat) (a1 : Int) (a2 : Int) (μ : bz_M) : Option bz_R := bz_tg [(10, 192)] (gT μ a0) fun k => bx n k 0 (bz_lo (bz_mls.getD k 0) [zR a0, zI a1, zI a2]) [] μ
noncomputable def d_M_laysEan (n : Nat) (a0 : Nat) (μ : bz_M) : Option bz_R := bz_tg [(10, 196)] (gT μ a0) fun k => bx n k 0 (bz_lo (bz_mls.getD k 0) [zR a0]) [] μ
noncomputable def d_M_laysPairs (n : Nat) (a0 : Nat) (a1 : Int) (μ : bz_M) : Option bz_R := bz_tg [(10, 199)] (gT μ a0) fun k => bx n k 0 (bz_lo (bz_mls.getD k 0) [zR a0, zI a1]) [] μ
noncomputable def d_M_laysCodabar (n : Nat) (a0 : Nat) (a1 : Int) (μ : bz_M) : Option bz_R := bz_tg [(10, 201)] (gT μ a0) fun k => bx n k 0 (bz_lo (bz_mls.getD k 0) [zR a0, zI a1]) [] μ
noncomputable def d_M_laysOnes (n : Nat) (a0 : Nat) (a1 : Int) (μ : bz_M) : Option bz_R := bz_tg [(10, 197)] (gT μ a0) fun k => bx n k 0 (bz_lo (bz_mls.getD k 0) [zR a0, zI a1]) [] μ
noncomputable def d_M_lays (n : Nat) (a0 : Nat) (a1 : Int) (μ : bz_M) : Option bz_R := bz_tg [(10, 198)] (gT μ a0) fun k => bx n k 0 (bz_lo (bz_mls.getD k 0) [zR a0, zI a1]) [] μ
noncomputable def d_M_isScan (n : Nat) (a0 : Nat) (a1 : Int) (μ : bz_M) : Option bz_R := bz_tg [(10, 208)] (gT μ a0) fun k => bx n k 0 (bz_lo (bz_mls.getD k 0) [zR a0, zI a1]) [] μ
noncomputable def d_M_hasWidth (n : Nat) (a0 : Nat) (a1 : Int) (a2 : Int) (μ : bz_M) : Option bz_R := bz_tg [(10, 210)] (gT μ a0) fun k => bx n k 0 (bz_lo (bz_mls.getD k 0) [zR a0, zI a1, zI a2]) [] μ
noncomputable def d_M_laysRow (n : Nat) (a0 : Nat) (a1 : Int) (a2 : Int) (μ : bz_M) : Option bz_R := bz_tg [(10, 214)] (gT μ a0) fun k => bx n k 0 (bz_lo (bz_mls.getD k 0) [zR a0, zI a1, zI a2]) [] μ
noncomputable def d_M_reads (n : Nat) (a0 : Nat) (a1 : Int) (a2 : Int) (μ : bz_M) : Option bz_R := bz_tg [(10, 219)] (gT μ a0) fun k => bx n k 0 (bz_lo (bz_mls.getD k 0) [zR a0, zI a1, zI a2]) [] μ
noncomputable def d_M_manyOf (n : Nat) (a0 : Nat) (a1 : Int) (a2 : Int) (μ : bz_M) : Option bz_R := bz_tg [(10, 249)] (gT μ a0) fun k => bx n k 0 (bz_lo (bz_mls.getD k 0) [zR a0, zI a1, zI a2]) [] μ
noncomputable def d_M_readsScan (n : Nat) (a0 : Nat) (a1 : Int) (a2 : Int) (μ : bz_M) : Option bz_R := bz_tg [(10, 220)] (gT μ a0) fun k => bx n k 0 (bz_lo (bz_mls.getD k 0) [zR a0, zI a1, zI a2]) [] μ
noncomputable def d_M_isWhole (n : Nat) (a0 : Nat) (a1 : Int) (a2 : Int) (μ : bz_M) : Option bz_R := bz_tg [(10, 221)] (gT μ a0) fun k => bx n k 0 (bz_lo (bz_mls.getD k 0) [zR a0, zI a1, zI a2]) [] μ
noncomputable def d_M_hasParts (n : Nat) (a0 : Nat) (a1 : Int) (a2 : Int) (μ : bz_M) : Option bz_R := bz_tg [(10, 245)] (gT μ a0) fun k => bx n k 0 (bz_lo (bz_mls.getD k 0) [zR a0, zI a1, zI a2]) [] μ
noncomputable def d_M_isWholeFrom (n : Nat) (a0 : Nat) (a1 : Int) (a2 : Int) (μ : bz_M) : Option bz_R := bz_tg [(10, 222)] (gT μ a0) fun k => bx n k 0 (bz_lo (bz_mls.getD k 0) [zR a0, zI a1, zI a2]) [] μ
noncomputable def d_M_keeps (n : Nat) (a0 : Nat) (a1 : Int) (a2 : Int) (μ : bz_M) : Option bz_R := bz_tg [(10, 244)] (gT μ a0) fun k => bx n k 0 (bz_lo (bz_mls.getD k 0) [zR a0, zI a1, zI a2]) [] μ
noncomputable def d_M_isBeginning (n : Nat) (a0 : Nat) (a1 : Int) (a2 : Int) (μ : bz_M) : Option bz_R := bz_tg [(10, 223)] (gT μ a0) fun k => bx n k 0 (bz_lo (bz_mls.getD k 0) [zR a0, zI a1, zI a2]) [] μ
noncomputable def d_M_isWholeEan (n : Nat) (a0 : Nat) (a1 : Int) (μ : bz_M) : Option bz_R := bz_tg [(10, 230)] (gT μ a0) fun k => bx n k 0 (bz_lo (bz_mls.getD k 0) [zR a0, zI a1]) [] μ
noncomputable def d_M_isWholePairs (n : Nat) (a0 : Nat) (a1 : Int) (μ : bz_M) : Option bz_R := bz_tg [(10, 239)] (gT μ a0) fun k => bx n k 0 (bz_lo (bz_mls.getD k 0) [zR a0, zI a1]) [] μ
noncomputable def d_M_isWholeCodabar (n : Nat) (a0 : Nat) (a1 : Int) (μ : bz_M) : Option bz_R := bz_tg [(10, 242)] (gT μ a0) fun k => bx n k 0 (bz_lo (bz_mls.getD k 0) [zR a0, zI a1]) [] μ
noncomputable def d_M_exists (n : Nat) (a0 : Nat) (a1 : Int) (a2 : Int) (μ : bz_M) : Option bz_R := bz_tg [(10, 225)] (gT μ a0) fun k => bx n k 0 (bz_lo (bz_mls.getD k 0) [zR a0, zI a1, zI a2]) [] μ
noncomputable def d_M_sevenAt (n : Nat) (a0 : Nat) (a1 : Int) (μ : bz_M) : Option bz_R := bz_tg [(10, 226)] (gT μ a0) fun k => bx n k 0 (bz_lo (bz_mls.getD k 0) [zR a0, zI a1]) [] μ
noncomputable def d_M_leastOf (n : Nat) (a0 : Nat) (a1 : Int) (a2 : Int) (μ : bz_M) : Option bz_R := bz_tg [(10, 229)] (gT μ a0) fun k => bx n k 0 (bz_lo (bz_mls.getD k 0) [zR a0, zI a1, zI a2]) [] μ
noncomputable def d_M_areEven (n : Nat) (a0 : Nat) (a1 : Int) (a2 : Int) (μ : bz_M) : Option bz_R := bz_tg [(10, 228)] (gT μ a0) fun k => bx n k 0 (bz_lo (bz_mls.getD k 0) [zR a0, zI a1, zI a2]) [] μ
noncomputable def d_M_readsWides (n : Nat) (a0 : Nat) (a1 : Int) (a2 : Int) (a3 : Int) (μ : bz_M) : Option bz_R := bz_tg [(10, 227)] (gT μ a0) fun k => bx n k 0 (bz_lo (bz_mls.getD k 0) [zR a0, zI a1, zI a2, zI a3]) [] μ
noncomputable def d_M_readsDigits (n : Nat) (a0 : Nat) (a1 : Int) (μ : bz_M) : Option bz_R := bz_tg [(10, 231)] (gT μ a0) fun k => bx n k 0 (bz_lo (bz_mls.getD k 0) [zR a0, zI a1]) [] μ
noncomputable def d_M_isEnd (n : Nat) (a0 : Nat) (a1 : Int) (a2 : Int) (μ : bz_M) : Option bz_R := bz_tg [(10, 237)] (gT μ a0) fun k => bx n k 0 (bz_lo (bz_mls.getD k 0) [zR a0, zI a1, zI a2]) [] μ
noncomputable def d_M_readsDigit (n : Nat) (a0 : Nat) (a1 : Int) (μ : bz_M) : Option bz_R := bz_tg [(10, 232)] (gT μ a0) fun k => bx n k 0 (bz_lo (bz_mls.getD k 0) [zR a0, zI a1]) [] μ
noncomputable def d_M_signsOne (n : Nat) (a0 : Nat) (a1 : Int) (a2 : Int) (μ : bz_M) : Option bz_R := bz_tg [(10, 236)] (gT μ a0) fun k => bx n k 0 (bz_lo (bz_mls.getD k 0) [zR a0, zI a1, zI a2]) [] μ
noncomputable def d_M_readsPair (n : Nat) (a0 : Nat) (a1 : Int) (μ : bz_M) : Option bz_R := bz_tg [(10, 240)] (gT μ a0) fun k => bx n k 0 (bz_lo (bz_mls.getD k 0) [zR a0, zI a1]) [] μ
noncomputable def d_M_readsFive (n : Nat) (a0 : Nat) (a1 : Int) (μ : bz_M) : Option bz_R := bz_tg [(10, 241)] (gT μ a0) fun k => bx n k 0 (bz_lo (bz_mls.getD k 0) [zR a0, zI a1]) [] μ
noncomputable def d_M_readsSeven (n : Nat) (a0 : Nat) (a1 : Int) (a2 : Int) (μ : bz_M) : Option bz_R := bz_tg [(10, 243)] (gT μ a0) fun k => bx n k 0 (bz_lo (bz_mls.getD k 0) [zR a0, zI a1, zI a2]) [] μ
noncomputable def d_M_readsHead (n : Nat) (a0 : Nat) (a1 : Int) (a2 : Int) (μ : bz_M) : Option bz_R := bz_tg [(10, 246)] (gT μ a0) fun k => bx n k 0 (bz_lo (bz_mls.getD k 0) [zR a0, zI a1, zI a2]) [] μ
noncomputable def d_M_readsTail (n : Nat) (a0 : Nat) (a1 : Int) (a2 : Int) (μ : bz_M) : Option bz_R := bz_tg [(10, 247)] (gT μ a0) fun k => bx n k 0 (bz_lo (bz_mls.getD k 0) [zR a0, zI a1, zI a2]) [] μ
noncomputable def d_M_partsTo (n : Nat) (a0 : Nat) (a1 : Int) (a2 : Int) (μ : bz_M) : Option bz_R := bz_tg [(10, 248)] (gT μ a0) fun k => bx n k 0 (bz_lo (bz_mls.getD k 0) [zR a0, zI a1, zI a2]) [] μ
noncomputable def d_M_has (n : Nat) (a0 : Nat) (a1 : Int) (a2 : Int) (a3 : Int) (a4 : Int) (μ : bz_M) : Option bz_R := bz_tg [(10, 252)] (gT μ a0) fun k => bx n k 0 (bz_lo (bz_mls.getD k 0) [zR a0, zI a1, zI a2, zI a3, zI a4]) [] μ
noncomputable def d_M_signOf (n : Nat) (a0 : Nat) (a1 : Int) (a2 : Int) (a3 : Int) (μ : bz_M) : Option bz_R := bz_tg [(10, 253)] (gT μ a0) fun k => bx n k 0 (bz_lo (bz_mls.getD k 0) [zR a0, zI a1, zI a2, zI a3]) [] μ
noncomputable def d_M_weightOf (n : Nat) (a0 : Nat) (a1 : Int) (a2 : Int) (a3 : Int) (μ : bz_M) : Option bz_R := bz_tg [(10, 255)] (gT μ a0) fun k => bx n k 0 (bz_lo (bz_mls.getD k 0) [zR a0, zI a1, zI a2, zI a3]) [] μ
noncomputable def d_M_measures (n : Nat) (a0 : Nat) (a1 : Int) (a2 : Int) (μ : bz_M) : Option bz_R := bz_tg [(10, 259)] (gT μ a0) fun k => bx n k 0 (bz_lo (bz_mls.getD k 0) [zR a0, zI a1, zI a2]) [] μ
noncomputable def d_M_readsAll (n : Nat) (a0 : Nat) (a1 : Int) (μ : bz_M) : Option bz_R := bz_tg [(10, 262)] (gT μ a0) fun k => bx n k 0 (bz_lo (bz_mls.getD k 0) [zR a0, zI a1]) [] μ
noncomputable def d_M_mostOverlap (n : Nat) (a0 : Nat) (a1 : Int) (a2 : Int) (μ : bz_M) : Option bz_R := bz_tg [(10, 264)] (gT μ a0) fun k => bx n k 0 (bz_lo (bz_mls.getD k 0) [zR a0, zI a1, zI a2]) [] μ
noncomputable def d_M_overlaps (n : Nat) (a0 : Nat) (a1 : Int) (a2 : Int) (a3 : Int) (μ : bz_M) : Option bz_R := bz_tg [(10, 265)] (gT μ a0) fun k => bx n k 0 (bz_lo (bz_mls.getD k 0) [zR a0, zI a1, zI a2, zI a3]) [] μ
noncomputable def d_M_mergesNow (n : Nat) (a0 : Nat) (a1 : Int) (a2 : Int) (a3 : Int) (μ : bz_M) : Option bz_R := bz_tg [(10, 267)] (gT μ a0) fun k => bx n k 0 (bz_lo (bz_mls.getD k 0) [zR a0, zI a1, zI a2, zI a3]) [] μ
noncomputable def d_M_merges (n : Nat) (a0 : Nat) (a1 : Int) (a2 : Int) (a3 : Int) (μ : bz_M) : Option bz_R := bz_tg [(10, 268)] (gT μ a0) fun k => bx n k 0 (bz_lo (bz_mls.getD k 0) [zR a0, zI a1, zI a2, zI a3]) [] μ
noncomputable def d_M_leastWeight (n : Nat) (a0 : Nat) (a1 : Int) (μ : bz_M) : Option bz_R := bz_tg [(10, 271)] (gT μ a0) fun k => bx n k 0 (bz_lo (bz_mls.getD k 0) [zR a0, zI a1]) [] μ
noncomputable def d_M_lengthOf (n : Nat) (a0 : Nat) (a1 : Int) (μ : bz_M) : Option bz_R := bz_tg [(10, 273)] (gT μ a0) fun k => bx n k 0 (bz_lo (bz_mls.getD k 0) [zR a0, zI a1]) [] μ
noncomputable def d_M_wholeLength (n : Nat) (a0 : Nat) (μ : bz_M) : Option bz_R := bz_tg [(10, 274)] (gT μ a0) fun k => bx n k 0 (bz_lo (bz_mls.getD k 0) [zR a0]) [] μ
noncomputable def d_M_hasAny (n : Nat) (a0 : Nat) (a1 : Int) (μ : bz_M) : Option bz_R := bz_tg [(10, 275)] (gT μ a0) fun k => bx n k 0 (bz_lo (bz_mls.getD k 0) [zR a0, zI a1]) [] μ
noncomputable def d_M_longestMerge (n : Nat) (a0 : Nat) (a1 : Int) (μ : bz_M) : Option bz_R := bz_tg [(10, 276)] (gT μ a0) fun k => bx n k 0 (bz_lo (bz_mls.getD k 0) [zR a0, zI a1]) [] μ
noncomputable def d_M_hasPlace (n : Nat) (a0 : Nat) (a1 : Int) (a2 : Int) (μ : bz_M) : Option bz_R := bz_tg [(10, 278)] (gT μ a0) fun k => bx n k 0 (bz_lo (bz_mls.getD k 0) [zR a0, zI a1, zI a2]) [] μ
noncomputable def d_M_allAt (n : Nat) (a0 : Nat) (a1 : Int) (μ : bz_M) : Option bz_R := bz_tg [(10, 281)] (gT μ a0) fun k => bx n k 0 (bz_lo (bz_mls.getD k 0) [zR a0, zI a1]) [] μ
noncomputable def d_M_laysVotes (n : Nat) (a0 : Nat) (a1 : Int) (μ : bz_M) : Option bz_R := bz_tg [(10, 279)] (gT μ a0) fun k => bx n k 0 (bz_lo (bz_mls.getD k 0) [zR a0, zI a1]) [] μ
noncomputable def d_M_adds (n : Nat) (a0 : Nat) (a1 : Int) (a2 : Int) (a3 : Int) (μ : bz_M) : Option bz_R := bz_tg [(10, 280)] (gT μ a0) fun k => bx n k 0 (bz_lo (bz_mls.getD k 0) [zR a0, zI a1, zI a2, zI a3]) [] μ
noncomputable def d_M_votedAt (n : Nat) (a0 : Nat) (a1 : Int) (μ : bz_M) : Option bz_R := bz_tg [(10, 283)] (gT μ a0) fun k => bx n k 0 (bz_lo (bz_mls.getD k 0) [zR a0, zI a1]) [] μ
noncomputable def d_M_problemOf (n : Nat) (a0 : Nat) (a1 : Int) (μ : bz_M) : Option bz_R := bz_tg [(10, 286)] (gT μ a0) fun k => bx n k 0 (bz_lo (bz_mls.getD k 0) [zR a0, zI a1]) [] μ
noncomputable def d_M_doubtFrom (n : Nat) (a0 : Nat) (a1 : Int) (a2 : Int) (μ : bz_M) : Option bz_R := bz_tg [(10, 287)] (gT μ a0) fun k => bx n k 0 (bz_lo (bz_mls.getD k 0) [zR a0, zI a1, zI a2]) [] μ
noncomputable def d_M_isRight (n : Nat) (a0 : Nat) (a1 : Int) (a2 : Int) (a3 : Int) (a4 : Int) (μ : bz_M) : Option bz_R := bz_tg [(10, 288)] (gT μ a0) fun k => bx n k 0 (bz_lo (bz_mls.getD k 0) [zR a0, zI a1, zI a2, zI a3, zI a4]) [] μ
noncomputable def d_M_shareOf (n : Nat) (a0 : Nat) (a1 : Int) (μ : bz_M) : Option bz_R := bz_tg [(10, 292)] (gT μ a0) fun k => bx n k 0 (bz_lo (bz_mls.getD k 0) [zR a0, zI a1]) [] μ
