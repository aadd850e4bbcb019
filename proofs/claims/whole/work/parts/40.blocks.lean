/-! THE BLOCKS BY NAME, without fuel: x_<method> from its start, x_<method>_<i> from its i-th cut; d_: a call by the receiver -/
noncomputable def x_E_new (a0 : Nat) (μ : bz_M) : Option bz_R := bX 0 0 [some (zR a0), none] [] μ
noncomputable def x_E_new_0 (x0 : Nat) (x1 : Int) (μ : bz_M) : Option bz_R := bX 0 98 [some (zR x0), some (zI x1)] [] μ
noncomputable def x_Row_new (a0 : Nat) (μ : bz_M) : Option bz_R := bX 1 0 [some (zR a0)] [] μ
noncomputable def x_Ean_new (a0 : Nat) (μ : bz_M) : Option bz_R := bX 2 0 [some (zR a0)] [] μ
noncomputable def x_Sym_new (a0 : Nat) (a1 : Int) (a2 : Int) (a3 : Int) (a4 : Int) (μ : bz_M) : Option bz_R := bX 3 0 [some (zR a0), some (zI a1), some (zI a2), some (zI a3), some (zI a4)] [] μ
noncomputable def x_Int_new (a0 : Nat) (μ : bz_M) : Option bz_R := bX 4 0 [some (zR a0)] [] μ
noncomputable def x_Cod_new (a0 : Nat) (μ : bz_M) : Option bz_R := bX 5 0 [some (zR a0)] [] μ
noncomputable def x_Tal_new (a0 : Nat) (μ : bz_M) : Option bz_R := bX 6 0 [some (zR a0)] [] μ
noncomputable def x_Seq_new (a0 : Nat) (μ : bz_M) : Option bz_R := bX 7 0 [some (zR a0)] [] μ
noncomputable def x_Scn_new (a0 : Nat) (μ : bz_M) : Option bz_R := bX 8 0 [some (zR a0)] [] μ
noncomputable def x_Rdg_new (a0 : Nat) (μ : bz_M) : Option bz_R := bX 9 0 [some (zR a0)] [] μ
noncomputable def x_E_scanCount (a0 : Nat) (μ : bz_M) : Option bz_R := bX 10 0 [some (zR a0)] [] μ
noncomputable def x_E_winner (a0 : Nat) (μ : bz_M) : Option bz_R := bX 11 0 [some (zR a0), none, none, none, none] [] μ
noncomputable def x_E_winner_0 (x0 : Nat) (x1 : Int) (x2 : Int) (x3 : Int) (μ : bz_M) : Option bz_R := bX 11 7 [some (zR x0), some (zI x1), some (zI x2), some (zI x3), none] [] μ
noncomputable def x_E_tally (a0 : Nat) (a1 : Int) (μ : bz_M) : Option bz_R := bX 12 0 [some (zR a0), some (zI a1), none, none, none] [] μ
noncomputable def x_E_tally_0 (x0 : Nat) (x1 : Int) (x2 : Nat) (x3 : Nat) (x4 : Int) (μ : bz_M) : Option bz_R := bX 12 20 [some (zR x0), some (zI x1), some (zR x2), some (zR x3), some (zI x4)] [] μ
noncomputable def x_E_requireSymbology (a0 : Int) (μ : bz_M) : Option bz_R := bX 13 0 [some (zI a0)] [] μ
noncomputable def x_Sym_interpret (a0 : Nat) (a1 : Nat) (a2 : Nat) (a3 : Nat) (μ : bz_M) : Option bz_R := bX 14 0 [some (zR a0), some (zR a1), some (zR a2), some (zR a3)] [] μ
noncomputable def x_Rdg_clear (a0 : Nat) (μ : bz_M) : Option bz_R := bX 15 0 [some (zR a0)] [] μ
noncomputable def x_Sym_findWhole (a0 : Nat) (a1 : Nat) (a2 : Nat) (μ : bz_M) : Option bz_R := bX 16 0 [some (zR a0), some (zR a1), some (zR a2), none, none] [] μ
noncomputable def x_Sym_findWhole_0 (x0 : Nat) (x1 : Nat) (x2 : Nat) (x3 : Int) (μ : bz_M) : Option bz_R := bX 16 3 [some (zR x0), some (zR x1), some (zR x2), some (zI x3), none] [] μ
noncomputable def x_Cod_beginsAt (a0 : Nat) (a1 : Nat) (a2 : Int) (μ : bz_M) : Option bz_R := bX 17 0 [some (zR a0), some (zR a1), some (zI a2)] [] μ
noncomputable def x_Row_match (a0 : Nat) (a1 : Int) (a2 : Int) (a3 : Int) (a4 : Nat) (μ : bz_M) : Option bz_R := bX 18 0 [some (zR a0), some (zI a1), some (zI a2), some (zI a3), some (zR a4), none, none, none, none, none, none, none, none] [] μ
noncomputable def x_Row_match_0 (x0 : Nat) (x1 : Int) (x2 : Int) (x4 : Nat) (x5 : Int) (x6 : Int) (x7 : Int) (x8 : Int) (μ : bz_M) : Option bz_R := bX 18 29 [some (zR x0), some (zI x1), some (zI x2), none, some (zR x4), some (zI x5), some (zI x6), some (zI x7), some (zI x8), none, none, none, none] [] μ
noncomputable def x_Row_match_1 (x0 : Nat) (x2 : Int) (x4 : Nat) (x5 : Int) (x6 : Int) (x7 : Int) (x8 : Int) (x9 : Int) (x10 : Int) (x11 : Int) (μ : bz_M) : Option bz_R := bX 18 81 [some (zR x0), none, some (zI x2), none, some (zR x4), some (zI x5), some (zI x6), some (zI x7), some (zI x8), some (zI x9), some (zI x10), some (zI x11), none] [] μ
noncomputable def x_Row_match_2 (x4 : Nat) (x8 : Int) (x12 : Int) (μ : bz_M) : Option bz_R := bX 18 150 [none, none, none, none, some (zR x4), none, none, none, some (zI x8), none, none, none, some (zI x12)] [] μ
noncomputable def x_Row_isQuiet (a0 : Nat) (a1 : Int) (a2 : Int) (a3 : Int) (μ : bz_M) : Option bz_R := bX 19 0 [some (zR a0), some (zI a1), some (zI a2), some (zI a3), none, none] [] μ
noncomputable def x_Row_isQuiet_0 (x0 : Nat) (x1 : Int) (x2 : Int) (x3 : Int) (x4 : Int) (x5 : Int) (μ : bz_M) : Option bz_R := bX 19 27 [some (zR x0), some (zI x1), some (zI x2), some (zI x3), some (zI x4), some (zI x5)] [] μ
noncomputable def x_Ean_beginsAt (a0 : Nat) (a1 : Nat) (a2 : Int) (μ : bz_M) : Option bz_R := bX 20 0 [some (zR a0), some (zR a1), some (zI a2)] [] μ
noncomputable def x_Row_isEven (a0 : Nat) (a1 : Int) (a2 : Int) (μ : bz_M) : Option bz_R := bX 21 0 [some (zR a0), some (zI a1), some (zI a2), none, none, none] [] μ
noncomputable def x_Row_isEven_0 (x0 : Nat) (x1 : Int) (x2 : Int) (x3 : Int) (x4 : Int) (x5 : Int) (μ : bz_M) : Option bz_R := bX 21 23 [some (zR x0), some (zI x1), some (zI x2), some (zI x3), some (zI x4), some (zI x5)] [] μ
noncomputable def x_Int_beginsAt (a0 : Nat) (a1 : Nat) (a2 : Int) (μ : bz_M) : Option bz_R := bX 22 0 [some (zR a0), some (zR a1), some (zI a2)] [] μ
noncomputable def x_Ean_addWhole (a0 : Nat) (a1 : Nat) (a2 : Int) (a3 : Nat) (μ : bz_M) : Option bz_R := bX 23 0 [some (zR a0), some (zR a1), some (zI a2), some (zR a3), none, none] [] μ
noncomputable def x_Ean_addWhole_0 (x0 : Nat) (x1 : Nat) (x3 : Nat) (x4 : Int) (x5 : Int) (μ : bz_M) : Option bz_R := bX 23 11 [some (zR x0), some (zR x1), none, some (zR x3), some (zI x4), some (zI x5)] [] μ
noncomputable def x_Ean_addUnit (a0 : Nat) (a1 : Nat) (a2 : Int) (a3 : Nat) (μ : bz_M) : Option bz_R := bX 24 0 [some (zR a0), some (zR a1), some (zI a2), some (zR a3), none, none, none, none, none, none, none, none] [] μ
noncomputable def x_Row_has (a0 : Nat) (a1 : Int) (a2 : Int) (μ : bz_M) : Option bz_R := bX 25 0 [some (zR a0), some (zI a1), some (zI a2)] [] μ
noncomputable def x_Ean_digitOf (a0 : Int) (a1 : Int) (a2 : Int) (μ : bz_M) : Option bz_R := bX 26 0 [some (zI a0), some (zI a1), some (zI a2)] [] μ
noncomputable def x_Mth_abs (a0 : Int) (μ : bz_M) : Option bz_R := bX 27 0 [some (zI a0)] [] μ
noncomputable def x_Mth_max (a0 : Int) (a1 : Int) (μ : bz_M) : Option bz_R := bX 28 0 [some (zI a0), some (zI a1)] [] μ
noncomputable def x_Seq_add (a0 : Nat) (a1 : Int) (a2 : Int) (μ : bz_M) : Option bz_R := bX 29 0 [some (zR a0), some (zI a1), some (zI a2)] [] μ
noncomputable def x_Ean_endsAt (a0 : Nat) (a1 : Nat) (a2 : Int) (μ : bz_M) : Option bz_R := bX 30 0 [some (zR a0), some (zR a1), some (zI a2)] [] μ
noncomputable def x_Sym_addWhole (a0 : Nat) (a1 : Nat) (a2 : Int) (a3 : Nat) (μ : bz_M) : Option bz_R := bX 31 0 [some (zR a0), some (zR a1), some (zI a2), some (zR a3), none, none] [] μ
noncomputable def x_Sym_addWhole_0 (x0 : Nat) (x1 : Nat) (x3 : Nat) (x4 : Int) (x5 : Int) (μ : bz_M) : Option bz_R := bX 31 16 [some (zR x0), some (zR x1), none, some (zR x3), some (zI x4), some (zI x5)] [] μ
noncomputable def x_Cod_addGuard (a0 : Nat) (a1 : Nat) (a2 : Int) (a3 : Nat) (μ : bz_M) : Option bz_R := bX 32 0 [some (zR a0), some (zR a1), some (zI a2), some (zR a3), none] [] μ
noncomputable def x_Sym_addGuard (a0 : Nat) (a1 : Nat) (a2 : Int) (a3 : Nat) (μ : bz_M) : Option bz_R := bX 33 0 [some (zR a0), some (zR a1), some (zI a2), some (zR a3)] [] μ
noncomputable def x_Cod_addUnit (a0 : Nat) (a1 : Nat) (a2 : Int) (a3 : Nat) (μ : bz_M) : Option bz_R := bX 34 0 [some (zR a0), some (zR a1), some (zI a2), some (zR a3), none] [] μ
noncomputable def x_Int_addUnit (a0 : Nat) (a1 : Nat) (a2 : Int) (a3 : Nat) (μ : bz_M) : Option bz_R := bX 35 0 [some (zR a0), some (zR a1), some (zI a2), some (zR a3), none, none, none] [] μ
noncomputable def x_Cod_endsAt (a0 : Nat) (a1 : Nat) (a2 : Int) (μ : bz_M) : Option bz_R := bX 36 0 [some (zR a0), some (zR a1), some (zI a2)] [] μ
noncomputable def x_Int_endsAt (a0 : Nat) (a1 : Nat) (a2 : Int) (μ : bz_M) : Option bz_R := bX 37 0 [some (zR a0), some (zR a1), some (zI a2), none] [] μ
noncomputable def x_Row_copyReversed (a0 : Nat) (a1 : Nat) (μ : bz_M) : Option bz_R := bX 38 0 [some (zR a0), some (zR a1), none] [] μ
noncomputable def x_Row_copyReversed_0 (x0 : Nat) (x1 : Nat) (x2 : Int) (μ : bz_M) : Option bz_R := bX 38 7 [some (zR x0), some (zR x1), some (zI x2)] [] μ
noncomputable def x_Rdg_turn (a0 : Nat) (a1 : Int) (μ : bz_M) : Option bz_R := bX 39 0 [some (zR a0), some (zI a1), none] [] μ
noncomputable def x_Sym_findParts (a0 : Nat) (a1 : Nat) (a2 : Nat) (μ : bz_M) : Option bz_R := bX 40 0 [some (zR a0), some (zR a1), some (zR a2), none, none, none] [] μ
noncomputable def x_Sym_findParts_0 (x0 : Nat) (x1 : Nat) (x2 : Nat) (x3 : Nat) (x4 : Int) (μ : bz_M) : Option bz_R := bX 40 9 [some (zR x0), some (zR x1), some (zR x2), some (zR x3), some (zI x4), none] [] μ
noncomputable def x_Sym_findParts_1 (x0 : Nat) (x1 : Nat) (x3 : Nat) (x4 : Nat) (x5 : Int) (μ : bz_M) : Option bz_R := bX 40 44 [some (zR x0), some (zR x1), none, some (zR x3), some (zR x4), some (zI x5)] [] μ
noncomputable def x_Sym_addHead (a0 : Nat) (a1 : Nat) (a2 : Int) (a3 : Nat) (μ : bz_M) : Option bz_R := bX 41 0 [some (zR a0), some (zR a1), some (zI a2), some (zR a3), none, none] [] μ
noncomputable def x_Sym_addHead_0 (x0 : Nat) (x1 : Nat) (x3 : Nat) (x4 : Int) (x5 : Int) (μ : bz_M) : Option bz_R := bX 41 13 [some (zR x0), some (zR x1), none, some (zR x3), some (zI x4), some (zI x5)] [] μ
noncomputable def x_Sym_addTail (a0 : Nat) (a1 : Nat) (a2 : Int) (a3 : Nat) (μ : bz_M) : Option bz_R := bX 42 0 [some (zR a0), some (zR a1), some (zI a2), some (zR a3), none, none, none] [] μ
noncomputable def x_Sym_addTail_0 (x0 : Nat) (x1 : Nat) (x3 : Nat) (x4 : Int) (x5 : Int) (μ : bz_M) : Option bz_R := bX 42 8 [some (zR x0), some (zR x1), none, some (zR x3), some (zI x4), some (zI x5), none] [] μ
noncomputable def x_Sym_addTail_1 (x0 : Nat) (x1 : Nat) (x3 : Nat) (x4 : Int) (x5 : Int) (x6 : Int) (μ : bz_M) : Option bz_R := bX 42 34 [some (zR x0), some (zR x1), none, some (zR x3), some (zI x4), some (zI x5), some (zI x6)] [] μ
noncomputable def x_Tal_recount (a0 : Nat) (a1 : Nat) (a2 : Int) (a3 : Nat) (a4 : Int) (μ : bz_M) : Option bz_R := bX 43 0 [some (zR a0), some (zR a1), some (zI a2), some (zR a3), some (zI a4), none] [] μ
noncomputable def x_Tal_recount_0 (x0 : Nat) (x2 : Int) (x3 : Nat) (x4 : Int) (x5 : Int) (μ : bz_M) : Option bz_R := bX 43 20 [some (zR x0), none, some (zI x2), some (zR x3), some (zI x4), some (zI x5)] [] μ
noncomputable def x_Tal_recount_1 (x0 : Nat) (x2 : Int) (x3 : Nat) (x4 : Int) (x5 : Int) (μ : bz_M) : Option bz_R := bX 43 35 [some (zR x0), none, some (zI x2), some (zR x3), some (zI x4), some (zI x5)] [] μ
noncomputable def x_Tal_recount_2 (x0 : Nat) (x2 : Int) (x3 : Nat) (x4 : Int) (x5 : Int) (μ : bz_M) : Option bz_R := bX 43 50 [some (zR x0), none, some (zI x2), some (zR x3), some (zI x4), some (zI x5)] [] μ
noncomputable def x_Tal_recount_3 (x0 : Nat) (x5 : Int) (μ : bz_M) : Option bz_R := bX 43 66 [some (zR x0), none, none, none, none, some (zI x5)] [] μ
noncomputable def x_Tal_supportedLength (a0 : Nat) (a1 : Int) (a2 : Nat) (a3 : Int) (μ : bz_M) : Option bz_R := bX 44 0 [some (zR a0), some (zI a1), some (zR a2), some (zI a3), none, none] [] μ
noncomputable def x_Tal_supportedLength_0 (x0 : Nat) (x1 : Int) (x2 : Nat) (x3 : Int) (x4 : Int) (μ : bz_M) : Option bz_R := bX 44 3 [some (zR x0), some (zI x1), some (zR x2), some (zI x3), some (zI x4), none] [] μ
noncomputable def x_Tal_supportedLength_1 (x0 : Nat) (x1 : Int) (x2 : Nat) (x3 : Int) (x4 : Int) (μ : bz_M) : Option bz_R := bX 44 18 [some (zR x0), some (zI x1), some (zR x2), some (zI x3), some (zI x4), none] [] μ
noncomputable def x_Tal_supportedLength_2 (x0 : Nat) (x4 : Int) (x5 : Int) (μ : bz_M) : Option bz_R := bX 44 57 [some (zR x0), none, none, none, some (zI x4), some (zI x5)] [] μ
noncomputable def x_Seq_leastConfidence (a0 : Nat) (μ : bz_M) : Option bz_R := bX 45 0 [some (zR a0), none, none] [] μ
noncomputable def x_Seq_leastConfidence_0 (x0 : Nat) (x1 : Int) (x2 : Int) (μ : bz_M) : Option bz_R := bX 45 5 [some (zR x0), some (zI x1), some (zI x2)] [] μ
noncomputable def x_Mth_min (a0 : Int) (a1 : Int) (μ : bz_M) : Option bz_R := bX 46 0 [some (zI a0), some (zI a1)] [] μ
noncomputable def x_Ean_joinedLength (a0 : Nat) (a1 : Int) (a2 : Nat) (a3 : Int) (μ : bz_M) : Option bz_R := bX 47 0 [some (zR a0), some (zI a1), some (zR a2), some (zI a3), none, none, none] [] μ
noncomputable def x_Ean_joinedLength_0 (x1 : Int) (x2 : Nat) (x3 : Int) (x4 : Int) (x5 : Int) (x6 : Int) (μ : bz_M) : Option bz_R := bX 47 7 [none, some (zI x1), some (zR x2), some (zI x3), some (zI x4), some (zI x5), some (zI x6)] [] μ
noncomputable def x_Sym_joinedLength (a0 : Nat) (a1 : Int) (a2 : Nat) (a3 : Int) (μ : bz_M) : Option bz_R := bX 48 0 [some (zR a0), some (zI a1), some (zR a2), some (zI a3), none, none, none, none, none, none, none] [] μ
noncomputable def x_Sym_joinedLength_0 (x0 : Nat) (x1 : Int) (x2 : Nat) (x3 : Int) (x4 : Int) (x5 : Int) (x6 : Int) (μ : bz_M) : Option bz_R := bX 48 7 [some (zR x0), some (zI x1), some (zR x2), some (zI x3), some (zI x4), some (zI x5), some (zI x6), none, none, none, none] [] μ
noncomputable def x_Sym_joinedLength_1 (x0 : Nat) (x1 : Int) (x2 : Nat) (x3 : Int) (x4 : Int) (x5 : Int) (x6 : Int) (x7 : Nat) (x8 : Int) (μ : bz_M) : Option bz_R := bX 48 21 [some (zR x0), some (zI x1), some (zR x2), some (zI x3), some (zI x4), some (zI x5), some (zI x6), some (zR x7), some (zI x8), none, none] [] μ
noncomputable def x_Ean_seam (a0 : Nat) (a1 : Nat) (a2 : Nat) (μ : bz_M) : Option bz_R := bX 49 0 [some (zR a0), some (zR a1), some (zR a2)] [] μ
noncomputable def x_Sym_seam (a0 : Nat) (a1 : Nat) (a2 : Nat) (μ : bz_M) : Option bz_R := bX 50 0 [some (zR a0), some (zR a1), some (zR a2), none] [] μ
noncomputable def x_Sym_seam_0 (x0 : Nat) (x1 : Nat) (x2 : Nat) (x3 : Int) (μ : bz_M) : Option bz_R := bX 50 7 [some (zR x0), some (zR x1), some (zR x2), some (zI x3)] [] μ
noncomputable def x_Seq_endsLike (a0 : Nat) (a1 : Nat) (a2 : Int) (μ : bz_M) : Option bz_R := bX 51 0 [some (zR a0), some (zR a1), some (zI a2), none] [] μ
noncomputable def x_Seq_endsLike_0 (x0 : Nat) (x1 : Nat) (x2 : Int) (x3 : Int) (μ : bz_M) : Option bz_R := bX 51 15 [some (zR x0), some (zR x1), some (zI x2), some (zI x3)] [] μ
noncomputable def x_Cod_hasLength (a0 : Nat) (a1 : Int) (μ : bz_M) : Option bz_R := bX 52 0 [some (zR a0), some (zI a1)] [] μ
noncomputable def x_Ean_hasLength (a0 : Nat) (a1 : Int) (μ : bz_M) : Option bz_R := bX 53 0 [some (zR a0), some (zI a1)] [] μ
noncomputable def x_Int_hasLength (a0 : Nat) (a1 : Int) (μ : bz_M) : Option bz_R := bX 54 0 [some (zR a0), some (zI a1)] [] μ
noncomputable def x_Tal_countVotes (a0 : Nat) (a1 : Nat) (μ : bz_M) : Option bz_R := bX 55 0 [some (zR a0), some (zR a1)] [] μ
noncomputable def x_Tal_addVotes (a0 : Nat) (a1 : Nat) (a2 : Int) (μ : bz_M) : Option bz_R := bX 56 0 [some (zR a0), some (zR a1), some (zI a2), none, none, none] [] μ
noncomputable def x_Tal_addVotes_0 (x0 : Nat) (x1 : Nat) (x2 : Int) (x3 : Int) (μ : bz_M) : Option bz_R := bX 56 3 [some (zR x0), some (zR x1), some (zI x2), some (zI x3), none, none] [] μ
noncomputable def x_Tal_majorityAt (a0 : Nat) (a1 : Int) (μ : bz_M) : Option bz_R := bX 57 0 [some (zR a0), some (zI a1), none] [] μ
noncomputable def x_Tal_majorityAt_0 (x0 : Nat) (x1 : Int) (x2 : Int) (μ : bz_M) : Option bz_R := bX 57 3 [some (zR x0), some (zI x1), some (zI x2)] [] μ
noncomputable def x_Tal_weightOf (a0 : Nat) (a1 : Int) (a2 : Int) (μ : bz_M) : Option bz_R := bX 58 0 [some (zR a0), some (zI a1), some (zI a2), none, none] [] μ
noncomputable def x_E_problemOf (a0 : Nat) (a1 : Nat) (a2 : Int) (μ : bz_M) : Option bz_R := bX 59 0 [some (zR a0), some (zR a1), some (zI a2)] [] μ
noncomputable def x_Tal_doubts (a0 : Nat) (μ : bz_M) : Option bz_R := bX 60 0 [some (zR a0), none, none] [] μ
noncomputable def x_Tal_doubts_0 (x0 : Nat) (x1 : Int) (x2 : Int) (μ : bz_M) : Option bz_R := bX 60 5 [some (zR x0), some (zI x1), some (zI x2)] [] μ
noncomputable def x_Seq_copyValues (a0 : Nat) (a1 : Nat) (a2 : Int) (μ : bz_M) : Option bz_R := bX 61 0 [some (zR a0), some (zR a1), some (zI a2), none] [] μ
noncomputable def x_Seq_copyValues_0 (x0 : Nat) (x1 : Nat) (x2 : Int) (x3 : Int) (μ : bz_M) : Option bz_R := bX 61 6 [some (zR x0), some (zR x1), some (zI x2), some (zI x3)] [] μ
noncomputable def x_Cod_isRight (a0 : Nat) (a1 : Nat) (μ : bz_M) : Option bz_R := bX 62 0 [some (zR a0), some (zR a1), none, none] [] μ
noncomputable def x_Cod_isRight_0 (x1 : Nat) (x2 : Int) (x3 : Int) (μ : bz_M) : Option bz_R := bX 62 5 [none, some (zR x1), some (zI x2), some (zI x3)] [] μ
noncomputable def x_Sym_isRight (a0 : Nat) (a1 : Nat) (μ : bz_M) : Option bz_R := bX 63 0 [some (zR a0), some (zR a1), none, none] [] μ
noncomputable def x_Sym_isRight_0 (x1 : Nat) (x2 : Int) (x3 : Int) (μ : bz_M) : Option bz_R := bX 63 5 [none, some (zR x1), some (zI x2), some (zI x3)] [] μ
noncomputable def x_Tal_share (a0 : Nat) (μ : bz_M) : Option bz_R := bX 64 0 [some (zR a0), none, none, none] [] μ
noncomputable def x_Tal_share_0 (x0 : Nat) (x1 : Int) (x2 : Int) (μ : bz_M) : Option bz_R := bX 64 5 [some (zR x0), some (zI x1), some (zI x2), none] [] μ
noncomputable def x_L_append (a0 : Nat) (a1 : Int) (a2 : Int) (a3 : Int) (a4 : Int) (a5 : Int) (a6 : Nat) (μ : bz_M) : Option bz_R := bX 65 0 [some (zR a0), some (zI a1), some (zI a2), some (zI a3), some (zI a4), some (zI a5), some (zR a6), none] [] μ
noncomputable def x_E_append (a0 : Nat) (a1 : Int) (a2 : Int) (a3 : Int) (a4 : Int) (a5 : Int) (μ : bz_M) : Option bz_R := bX 66 0 [some (zR a0), some (zI a1), some (zI a2), some (zI a3), some (zI a4), some (zI a5)] [] μ
noncomputable def x_E_appendBytes (a0 : Nat) (a1 : Int) (μ : bz_M) : Option bz_R := bX 67 0 [some (zR a0), some (zI a1), none] [] μ
noncomputable def x_E_appendBytes_0 (x0 : Nat) (x1 : Int) (x2 : Int) (μ : bz_M) : Option bz_R := bX 67 3 [some (zR x0), some (zI x1), some (zI x2)] [] μ
noncomputable def x_L_print (a0 : Nat) (a1 : Int) (a2 : Int) (a3 : Int) (a4 : Int) (a5 : Int) (a6 : Nat) (μ : bz_M) : Option bz_R := bX 68 0 [some (zR a0), some (zI a1), some (zI a2), some (zI a3), some (zI a4), some (zI a5), some (zR a6), none] [] μ
noncomputable def x_E_print (a0 : Nat) (a1 : Int) (a2 : Int) (a3 : Int) (a4 : Int) (a5 : Int) (μ : bz_M) : Option bz_R := bX 69 0 [some (zR a0), some (zI a1), some (zI a2), some (zI a3), some (zI a4), some (zI a5), none, none] [] μ
noncomputable def x_E_requireTextLength (a0 : Nat) (a1 : Int) (μ : bz_M) : Option bz_R := bX 70 0 [some (zR a0), some (zI a1)] [] μ
noncomputable def x_E_takeText (a0 : Nat) (a1 : Int) (μ : bz_M) : Option bz_R := bX 71 0 [some (zR a0), some (zI a1), none] [] μ
noncomputable def x_E_takeText_0 (x0 : Nat) (x1 : Int) (x2 : Int) (μ : bz_M) : Option bz_R := bX 71 7 [some (zR x0), some (zI x1), some (zI x2)] [] μ
noncomputable def x_E_valueOf (a0 : Int) (μ : bz_M) : Option bz_R := bX 72 0 [some (zI a0)] [] μ
noncomputable def x_Str_indexOf (a0 : Nat) (a1 : Int) (μ : bz_M) : Option bz_R := bX 73 0 [some (zR a0), some (zI a1)] [] μ
noncomputable def x_Str_indexOf2 (a0 : Nat) (a1 : Int) (a2 : Int) (μ : bz_M) : Option bz_R := bX 74 0 [some (zR a0), some (zI a1), some (zI a2)] [] μ
noncomputable def x_Str_isLatin1 (a0 : Nat) (μ : bz_M) : Option bz_R := bX 75 0 [some (zR a0)] [] μ
noncomputable def x_Str_length (a0 : Nat) (μ : bz_M) : Option bz_R := bX 76 0 [some (zR a0)] [] μ
noncomputable def x_Str_coder (a0 : Nat) (μ : bz_M) : Option bz_R := bX 77 0 [some (zR a0)] [] μ
noncomputable def x_Lat_indexOf (a0 : Nat) (a1 : Int) (a2 : Int) (a3 : Int) (μ : bz_M) : Option bz_R := bX 78 0 [some (zR a0), some (zI a1), some (zI a2), some (zI a3)] [] μ
noncomputable def x_Lat_canEncode (a0 : Int) (μ : bz_M) : Option bz_R := bX 79 0 [some (zI a0)] [] μ
noncomputable def x_Lat_indexOfChar (a0 : Nat) (a1 : Int) (a2 : Int) (a3 : Int) (μ : bz_M) : Option bz_R := bX 80 0 [some (zR a0), some (zI a1), some (zI a2), some (zI a3), none, none] [] μ
noncomputable def x_Lat_indexOfChar_0 (x0 : Nat) (x3 : Int) (x4 : Int) (x5 : Int) (μ : bz_M) : Option bz_R := bX 80 6 [some (zR x0), none, none, some (zI x3), some (zI x4), some (zI x5)] [] μ
noncomputable def x_E_isCode (a0 : Nat) (a1 : Nat) (μ : bz_M) : Option bz_R := bX 81 0 [some (zR a0), some (zR a1), none] [] μ
noncomputable def x_E_isCode_0 (x0 : Nat) (x1 : Nat) (x2 : Int) (μ : bz_M) : Option bz_R := bX 81 3 [some (zR x0), some (zR x1), some (zI x2)] [] μ
noncomputable def x_Cod_allows (a0 : Nat) (a1 : Int) (a2 : Int) (a3 : Int) (μ : bz_M) : Option bz_R := bX 82 0 [some (zR a0), some (zI a1), some (zI a2), some (zI a3), none, none] [] μ
noncomputable def x_Sym_allows (a0 : Nat) (a1 : Int) (a2 : Int) (a3 : Int) (μ : bz_M) : Option bz_R := bX 83 0 [some (zR a0), some (zI a1), some (zI a2), some (zI a3)] [] μ
noncomputable def x_E_requireRoomForScan (a0 : Nat) (μ : bz_M) : Option bz_R := bX 84 0 [some (zR a0)] [] μ
noncomputable def x_Cod_draw (a0 : Nat) (a1 : Nat) (a2 : Nat) (μ : bz_M) : Option bz_R := bX 85 0 [some (zR a0), some (zR a1), some (zR a2), none, none, none, none] [] μ
noncomputable def x_Cod_draw_0 (x1 : Nat) (x2 : Nat) (x3 : Int) (μ : bz_M) : Option bz_R := bX 85 3 [none, some (zR x1), some (zR x2), some (zI x3), none, none, none] [] μ
noncomputable def x_Cod_draw_1 (x1 : Nat) (x2 : Nat) (x3 : Int) (x5 : Int) (x6 : Int) (μ : bz_M) : Option bz_R := bX 85 31 [none, some (zR x1), some (zR x2), some (zI x3), none, some (zI x5), some (zI x6)] [] μ
noncomputable def x_Row_add (a0 : Nat) (a1 : Int) (μ : bz_M) : Option bz_R := bX 86 0 [some (zR a0), some (zI a1)] [] μ
noncomputable def x_Ean_draw (a0 : Nat) (a1 : Nat) (a2 : Nat) (μ : bz_M) : Option bz_R := bX 87 0 [some (zR a0), some (zR a1), some (zR a2), none, none, none] [] μ
noncomputable def x_Ean_draw_0 (x1 : Nat) (x2 : Nat) (x3 : Int) (μ : bz_M) : Option bz_R := bX 87 6 [none, some (zR x1), some (zR x2), some (zI x3), none, none] [] μ
noncomputable def x_Ean_draw_1 (x1 : Nat) (x2 : Nat) (x3 : Int) (x4 : Int) (x5 : Int) (μ : bz_M) : Option bz_R := bX 87 26 [none, some (zR x1), some (zR x2), some (zI x3), some (zI x4), some (zI x5)] [] μ
noncomputable def x_Ean_addOnes (a0 : Nat) (a1 : Int) (μ : bz_M) : Option bz_R := bX 88 0 [some (zR a0), some (zI a1), none] [] μ
noncomputable def x_Ean_addOnes_0 (x0 : Nat) (x1 : Int) (x2 : Int) (μ : bz_M) : Option bz_R := bX 88 3 [some (zR x0), some (zI x1), some (zI x2)] [] μ
noncomputable def x_Int_draw (a0 : Nat) (a1 : Nat) (a2 : Nat) (μ : bz_M) : Option bz_R := bX 89 0 [some (zR a0), some (zR a1), some (zR a2), none, none, none, none] [] μ
noncomputable def x_Int_draw_0 (x1 : Nat) (x2 : Nat) (x3 : Int) (μ : bz_M) : Option bz_R := bX 89 3 [none, some (zR x1), some (zR x2), some (zI x3), none, none, none] [] μ
noncomputable def x_Int_draw_1 (x1 : Nat) (x2 : Nat) (x3 : Int) (μ : bz_M) : Option bz_R := bX 89 14 [none, some (zR x1), some (zR x2), some (zI x3), none, none, none] [] μ
noncomputable def x_Int_draw_2 (x1 : Nat) (x2 : Nat) (x3 : Int) (x4 : Int) (x5 : Int) (x6 : Int) (μ : bz_M) : Option bz_R := bX 89 37 [none, some (zR x1), some (zR x2), some (zI x3), some (zI x4), some (zI x5), some (zI x6)] [] μ
noncomputable def x_Int_patternOf (a0 : Int) (μ : bz_M) : Option bz_R := bX 90 0 [some (zI a0)] [] μ
noncomputable def x_E_addPrinted (a0 : Nat) (a1 : Nat) (a2 : Int) (a3 : Int) (a4 : Int) (μ : bz_M) : Option bz_R := bX 91 0 [some (zR a0), some (zR a1), some (zI a2), some (zI a3), some (zI a4), none, none, none] [] μ
noncomputable def x_E_addPrinted_0 (x0 : Nat) (x1 : Nat) (x2 : Int) (x3 : Int) (x4 : Int) (x5 : Int) (x6 : Int) (μ : bz_M) : Option bz_R := bX 91 5 [some (zR x0), some (zR x1), some (zI x2), some (zI x3), some (zI x4), some (zI x5), some (zI x6), none] [] μ
noncomputable def x_E_keepScan (a0 : Nat) (a1 : Nat) (μ : bz_M) : Option bz_R := bX 92 0 [some (zR a0), some (zR a1)] [] μ
noncomputable def x_E_forget (a0 : Nat) (a1 : Nat) (μ : bz_M) : Option bz_R := bX 93 0 [some (zR a0), some (zR a1), none] [] μ
noncomputable def x_E_forget_0 (x0 : Nat) (x1 : Nat) (x2 : Int) (μ : bz_M) : Option bz_R := bX 93 3 [some (zR x0), some (zR x1), some (zI x2)] [] μ
noncomputable def x_L_checkCharacter (a0 : Nat) (a1 : Int) (a2 : Int) (a3 : Nat) (μ : bz_M) : Option bz_R := bX 94 0 [some (zR a0), some (zI a1), some (zI a2), some (zR a3), none] [] μ
noncomputable def x_E_checkCharacter (a0 : Nat) (a1 : Int) (a2 : Int) (μ : bz_M) : Option bz_R := bX 95 0 [some (zR a0), some (zI a1), some (zI a2), none, none] [] μ
noncomputable def x_Cod_checkPlace (a0 : Nat) (a1 : Int) (μ : bz_M) : Option bz_R := bX 96 0 [some (zR a0), some (zI a1)] [] μ
noncomputable def x_Sym_checkPlace (a0 : Nat) (a1 : Int) (μ : bz_M) : Option bz_R := bX 97 0 [some (zR a0), some (zI a1)] [] μ
noncomputable def x_Seq_insert (a0 : Nat) (a1 : Int) (a2 : Int) (μ : bz_M) : Option bz_R := bX 98 0 [some (zR a0), some (zI a1), some (zI a2), none] [] μ
noncomputable def x_Seq_insert_0 (x0 : Nat) (x1 : Int) (x2 : Int) (x3 : Int) (μ : bz_M) : Option bz_R := bX 98 17 [some (zR x0), some (zI x1), some (zI x2), some (zI x3)] [] μ
noncomputable def x_E_rightValue (a0 : Nat) (a1 : Nat) (a2 : Int) (μ : bz_M) : Option bz_R := bX 99 0 [some (zR a0), some (zR a1), some (zI a2), none, none, none] [] μ
noncomputable def x_E_rightValue_0 (x0 : Nat) (x1 : Nat) (x2 : Int) (x3 : Int) (x4 : Int) (x5 : Int) (μ : bz_M) : Option bz_R := bX 99 16 [some (zR x0), some (zR x1), some (zI x2), some (zI x3), some (zI x4), some (zI x5)] [] μ
noncomputable def x_E_characterOf (a0 : Int) (μ : bz_M) : Option bz_R := bX 100 0 [some (zI a0)] [] μ
noncomputable def x_Str_charAt (a0 : Nat) (a1 : Int) (μ : bz_M) : Option bz_R := bX 101 0 [some (zR a0), some (zI a1)] [] μ
noncomputable def x_Lat_charAt (a0 : Nat) (a1 : Int) (μ : bz_M) : Option bz_R := bX 102 0 [some (zR a0), some (zI a1)] [] μ
noncomputable def x_Str_checkIndex (a0 : Int) (a1 : Int) (μ : bz_M) : Option bz_R := bX 103 0 [some (zI a0), some (zI a1)] [] μ
noncomputable def x_Pre_checkIndex (a0 : Int) (a1 : Int) (a2 : Nat) (μ : bz_M) : Option bz_R := bX 104 0 [some (zI a0), some (zI a1), some (zR a2)] [] μ
noncomputable def x_L_addWidths (a0 : Nat) (a1 : Int) (a2 : Int) (a3 : Int) (a4 : Int) (a5 : Int) (a6 : Int) (a7 : Nat) (μ : bz_M) : Option bz_R := bX 105 0 [some (zR a0), some (zI a1), some (zI a2), some (zI a3), some (zI a4), some (zI a5), some (zI a6), some (zR a7), none] [] μ
noncomputable def x_E_addWidths (a0 : Nat) (a1 : Int) (a2 : Int) (a3 : Int) (a4 : Int) (a5 : Int) (a6 : Int) (μ : bz_M) : Option bz_R := bX 106 0 [some (zR a0), some (zI a1), some (zI a2), some (zI a3), some (zI a4), some (zI a5), some (zI a6), none, none] [] μ
noncomputable def x_E_addWidths_0 (x0 : Nat) (x7 : Int) (x8 : Int) (μ : bz_M) : Option bz_R := bX 106 58 [some (zR x0), none, none, none, none, none, none, some (zI x7), some (zI x8)] [] μ
noncomputable def x_Row_isWithin (a0 : Nat) (a1 : Int) (a2 : Int) (μ : bz_M) : Option bz_R := bX 107 0 [some (zR a0), some (zI a1), some (zI a2), none] [] μ
noncomputable def x_Row_isWithin_0 (x0 : Nat) (x1 : Int) (x2 : Int) (x3 : Int) (μ : bz_M) : Option bz_R := bX 107 3 [some (zR x0), some (zI x1), some (zI x2), some (zI x3)] [] μ
noncomputable def x_Row_countBeforeZero (a0 : Nat) (μ : bz_M) : Option bz_R := bX 108 0 [some (zR a0), none] [] μ
noncomputable def x_Row_countBeforeZero_0 (x0 : Nat) (x1 : Int) (μ : bz_M) : Option bz_R := bX 108 3 [some (zR x0), some (zI x1)] [] μ
noncomputable def x_L_endScan (a0 : Nat) (a1 : Nat) (μ : bz_M) : Option bz_R := bX 109 0 [some (zR a0), some (zR a1), none] [] μ
noncomputable def x_E_endScan (a0 : Nat) (μ : bz_M) : Option bz_R := bX 110 0 [some (zR a0), none] [] μ
noncomputable def x_Row_copy (a0 : Nat) (a1 : Nat) (μ : bz_M) : Option bz_R := bX 111 0 [some (zR a0), some (zR a1), none] [] μ
noncomputable def x_Row_copy_0 (x0 : Nat) (x1 : Nat) (x2 : Int) (μ : bz_M) : Option bz_R := bX 111 7 [some (zR x0), some (zR x1), some (zI x2)] [] μ
noncomputable def x_L_widthCount (a0 : Nat) (a1 : Int) (a2 : Nat) (μ : bz_M) : Option bz_R := bX 112 0 [some (zR a0), some (zI a1), some (zR a2), none] [] μ
noncomputable def x_E_widthCount (a0 : Nat) (a1 : Int) (μ : bz_M) : Option bz_R := bX 113 0 [some (zR a0), some (zI a1)] [] μ
noncomputable def x_E_requireScan (a0 : Nat) (a1 : Int) (μ : bz_M) : Option bz_R := bX 114 0 [some (zR a0), some (zI a1)] [] μ
noncomputable def x_L_width (a0 : Nat) (a1 : Int) (a2 : Int) (a3 : Nat) (μ : bz_M) : Option bz_R := bX 115 0 [some (zR a0), some (zI a1), some (zI a2), some (zR a3), none] [] μ
noncomputable def x_E_width (a0 : Nat) (a1 : Int) (a2 : Int) (μ : bz_M) : Option bz_R := bX 116 0 [some (zR a0), some (zI a1), some (zI a2), none] [] μ
noncomputable def x_E_requirePlace (a0 : Int) (a1 : Int) (μ : bz_M) : Option bz_R := bX 117 0 [some (zI a0), some (zI a1)] [] μ
noncomputable def x_L_setWidth (a0 : Nat) (a1 : Int) (a2 : Int) (a3 : Int) (a4 : Nat) (μ : bz_M) : Option bz_R := bX 118 0 [some (zR a0), some (zI a1), some (zI a2), some (zI a3), some (zR a4), none] [] μ
noncomputable def x_E_setWidth (a0 : Nat) (a1 : Int) (a2 : Int) (a3 : Int) (μ : bz_M) : Option bz_R := bX 119 0 [some (zR a0), some (zI a1), some (zI a2), some (zI a3), none, none] [] μ
noncomputable def x_L_cut (a0 : Nat) (a1 : Int) (a2 : Int) (a3 : Int) (a4 : Nat) (μ : bz_M) : Option bz_R := bX 120 0 [some (zR a0), some (zI a1), some (zI a2), some (zI a3), some (zR a4), none] [] μ
noncomputable def x_E_cut (a0 : Nat) (a1 : Int) (a2 : Int) (a3 : Int) (μ : bz_M) : Option bz_R := bX 121 0 [some (zR a0), some (zI a1), some (zI a2), some (zI a3), none] [] μ
noncomputable def x_Row_keep (a0 : Nat) (a1 : Int) (a2 : Int) (μ : bz_M) : Option bz_R := bX 122 0 [some (zR a0), some (zI a1), some (zI a2), none] [] μ
noncomputable def x_Row_keep_0 (x0 : Nat) (x1 : Int) (x2 : Int) (x3 : Int) (μ : bz_M) : Option bz_R := bX 122 10 [some (zR x0), some (zI x1), some (zI x2), some (zI x3)] [] μ
noncomputable def x_L_reverse (a0 : Nat) (a1 : Int) (μ : bz_M) : Option bz_R := bX 123 0 [some (zR a0), some (zI a1), none] [] μ
noncomputable def x_E_reverse (a0 : Nat) (a1 : Int) (μ : bz_M) : Option bz_R := bX 124 0 [some (zR a0), some (zI a1), none] [] μ
noncomputable def x_L_smear (a0 : Nat) (a1 : Int) (a2 : Int) (a3 : Nat) (μ : bz_M) : Option bz_R := bX 125 0 [some (zR a0), some (zI a1), some (zI a2), some (zR a3), none] [] μ
noncomputable def x_E_smear (a0 : Nat) (a1 : Int) (a2 : Int) (μ : bz_M) : Option bz_R := bX 126 0 [some (zR a0), some (zI a1), some (zI a2), none] [] μ
noncomputable def x_Row_widenBars (a0 : Nat) (a1 : Int) (μ : bz_M) : Option bz_R := bX 127 0 [some (zR a0), some (zI a1), none, none, none, none] [] μ
noncomputable def x_Row_widenBars_0 (x0 : Nat) (x1 : Int) (x2 : Int) (x3 : Int) (μ : bz_M) : Option bz_R := bX 127 5 [some (zR x0), some (zI x1), some (zI x2), some (zI x3), none, none] [] μ
noncomputable def x_L_average (a0 : Nat) (a1 : Int) (a2 : Int) (μ : bz_M) : Option bz_R := bX 128 0 [some (zR a0), some (zI a1), some (zI a2), none] [] μ
noncomputable def x_E_average (a0 : Nat) (a1 : Int) (a2 : Int) (μ : bz_M) : Option bz_R := bX 129 0 [some (zR a0), some (zI a1), some (zI a2), none, none, none] [] μ
noncomputable def x_E_average_0 (x0 : Nat) (x1 : Int) (x3 : Nat) (x4 : Nat) (x5 : Int) (μ : bz_M) : Option bz_R := bX 129 31 [some (zR x0), some (zI x1), none, some (zR x3), some (zR x4), some (zI x5)] [] μ
noncomputable def x_L_removeScan (a0 : Nat) (a1 : Int) (a2 : Nat) (μ : bz_M) : Option bz_R := bX 130 0 [some (zR a0), some (zI a1), some (zR a2), none] [] μ
noncomputable def x_E_removeScan (a0 : Nat) (a1 : Int) (μ : bz_M) : Option bz_R := bX 131 0 [some (zR a0), some (zI a1), none, none] [] μ
noncomputable def x_E_removeScan_0 (x0 : Nat) (x2 : Nat) (x3 : Int) (μ : bz_M) : Option bz_R := bX 131 11 [some (zR x0), none, some (zR x2), some (zI x3)] [] μ
noncomputable def x_L_read (a0 : Nat) (a1 : Int) (a2 : Int) (a3 : Nat) (μ : bz_M) : Option bz_R := bX 132 0 [some (zR a0), some (zI a1), some (zI a2), some (zR a3), none] [] μ
noncomputable def x_E_read (a0 : Nat) (a1 : Int) (a2 : Int) (μ : bz_M) : Option bz_R := bX 133 0 [some (zR a0), some (zI a1), some (zI a2)] [] μ
noncomputable def x_E_reading (a0 : Nat) (a1 : Int) (a2 : Int) (μ : bz_M) : Option bz_R := bX 134 0 [some (zR a0), some (zI a1), some (zI a2), none] [] μ
noncomputable def x_L_readPart (a0 : Nat) (a1 : Int) (a2 : Int) (a3 : Int) (a4 : Nat) (μ : bz_M) : Option bz_R := bX 135 0 [some (zR a0), some (zI a1), some (zI a2), some (zI a3), some (zR a4), none] [] μ
noncomputable def x_E_readPart (a0 : Nat) (a1 : Int) (a2 : Int) (a3 : Int) (μ : bz_M) : Option bz_R := bX 136 0 [some (zR a0), some (zI a1), some (zI a2), some (zI a3)] [] μ
noncomputable def x_Rdg_part (a0 : Nat) (a1 : Int) (μ : bz_M) : Option bz_R := bX 137 0 [some (zR a0), some (zI a1)] [] μ
noncomputable def x_L_character (a0 : Nat) (a1 : Int) (a2 : Int) (a3 : Int) (a4 : Nat) (μ : bz_M) : Option bz_R := bX 138 0 [some (zR a0), some (zI a1), some (zI a2), some (zI a3), some (zR a4), none] [] μ
noncomputable def x_E_character (a0 : Nat) (a1 : Int) (a2 : Int) (a3 : Int) (μ : bz_M) : Option bz_R := bX 139 0 [some (zR a0), some (zI a1), some (zI a2), some (zI a3), none] [] μ
noncomputable def x_L_confidence (a0 : Nat) (a1 : Int) (a2 : Int) (a3 : Int) (a4 : Nat) (μ : bz_M) : Option bz_R := bX 140 0 [some (zR a0), some (zI a1), some (zI a2), some (zI a3), some (zR a4), none] [] μ
noncomputable def x_E_confidence (a0 : Nat) (a1 : Int) (a2 : Int) (a3 : Int) (μ : bz_M) : Option bz_R := bX 141 0 [some (zR a0), some (zI a1), some (zI a2), some (zI a3), none] [] μ
noncomputable def x_L_partCharacter (a0 : Nat) (a1 : Int) (a2 : Int) (a3 : Int) (a4 : Int) (a5 : Nat) (μ : bz_M) : Option bz_R := bX 142 0 [some (zR a0), some (zI a1), some (zI a2), some (zI a3), some (zI a4), some (zR a5), none] [] μ
noncomputable def x_E_partCharacter (a0 : Nat) (a1 : Int) (a2 : Int) (a3 : Int) (a4 : Int) (μ : bz_M) : Option bz_R := bX 143 0 [some (zR a0), some (zI a1), some (zI a2), some (zI a3), some (zI a4), none] [] μ
noncomputable def x_L_isReversed (a0 : Nat) (a1 : Int) (a2 : Int) (a3 : Nat) (μ : bz_M) : Option bz_R := bX 144 0 [some (zR a0), some (zI a1), some (zI a2), some (zR a3), none] [] μ
noncomputable def x_E_isReversed (a0 : Nat) (a1 : Int) (a2 : Int) (μ : bz_M) : Option bz_R := bX 145 0 [some (zR a0), some (zI a1), some (zI a2)] [] μ
noncomputable def x_L_agreement (a0 : Nat) (a1 : Int) (a2 : Int) (a3 : Int) (a4 : Nat) (μ : bz_M) : Option bz_R := bX 146 0 [some (zR a0), some (zI a1), some (zI a2), some (zI a3), some (zR a4), none] [] μ
noncomputable def x_E_agreement (a0 : Nat) (a1 : Int) (a2 : Int) (a3 : Int) (μ : bz_M) : Option bz_R := bX 147 0 [some (zR a0), some (zI a1), some (zI a2), some (zI a3), none, none, none, none] [] μ
noncomputable def x_E_agreement_0 (x4 : Nat) (x5 : Nat) (x6 : Int) (x7 : Int) (μ : bz_M) : Option bz_R := bX 147 27 [none, none, none, none, some (zR x4), some (zR x5), some (zI x6), some (zI x7)] [] μ
noncomputable def x_L_overlap (a0 : Nat) (a1 : Int) (a2 : Int) (a3 : Int) (a4 : Nat) (μ : bz_M) : Option bz_R := bX 148 0 [some (zR a0), some (zI a1), some (zI a2), some (zI a3), some (zR a4), none] [] μ
noncomputable def x_E_overlap (a0 : Nat) (a1 : Int) (a2 : Int) (a3 : Int) (μ : bz_M) : Option bz_R := bX 149 0 [some (zR a0), some (zI a1), some (zI a2), some (zI a3), none, none, none, none] [] μ
noncomputable def x_E_overlap_0 (x4 : Nat) (x5 : Nat) (x7 : Int) (μ : bz_M) : Option bz_R := bX 149 29 [none, none, none, none, some (zR x4), some (zR x5), none, some (zI x7)] [] μ
noncomputable def x_L_module (a0 : Nat) (a1 : Int) (a2 : Int) (a3 : Nat) (μ : bz_M) : Option bz_R := bX 150 0 [some (zR a0), some (zI a1), some (zI a2), some (zR a3), none] [] μ
noncomputable def x_E_module (a0 : Nat) (a1 : Int) (a2 : Int) (μ : bz_M) : Option bz_R := bX 151 0 [some (zR a0), some (zI a1), some (zI a2), none, none, none, none, none] [] μ
noncomputable def x_E_drawWhole (a0 : Nat) (a1 : Nat) (a2 : Nat) (μ : bz_M) : Option bz_R := bX 152 0 [some (zR a0), some (zR a1), some (zR a2)] [] μ
noncomputable def x_Row_sum (a0 : Nat) (a1 : Int) (a2 : Int) (a3 : Int) (μ : bz_M) : Option bz_R := bX 153 0 [some (zR a0), some (zI a1), some (zI a2), some (zI a3), none, none, none] [] μ
noncomputable def x_Row_sum_0 (x0 : Nat) (x2 : Int) (x3 : Int) (x4 : Int) (x6 : Int) (μ : bz_M) : Option bz_R := bX 153 16 [some (zR x0), none, some (zI x2), some (zI x3), some (zL x4), none, some (zI x6)] [] μ
noncomputable def x_L_spread (a0 : Nat) (a1 : Int) (a2 : Int) (a3 : Nat) (μ : bz_M) : Option bz_R := bX 154 0 [some (zR a0), some (zI a1), some (zI a2), some (zR a3), none] [] μ
noncomputable def x_E_spread (a0 : Nat) (a1 : Int) (a2 : Int) (μ : bz_M) : Option bz_R := bX 155 0 [some (zR a0), some (zI a1), some (zI a2), none, none, none, none, none, none, none, none, none, none, none, none] [] μ
noncomputable def x_E_spread_0 (x0 : Nat) (x1 : Int) (x3 : Nat) (x4 : Int) (μ : bz_M) : Option bz_R := bX 155 24 [some (zR x0), some (zI x1), none, some (zR x3), some (zL x4), none, none, none, none, none, none, none, none, none, none] [] μ
noncomputable def x_E_spread_1 (x0 : Nat) (x1 : Int) (x3 : Nat) (x4 : Int) (x6 : Int) (μ : bz_M) : Option bz_R := bX 155 36 [some (zR x0), some (zI x1), none, some (zR x3), some (zL x4), none, some (zL x6), none, none, none, none, none, none, none, none] [] μ
noncomputable def x_E_spread_2 (x0 : Nat) (x3 : Nat) (x4 : Int) (x6 : Int) (x8 : Nat) (x9 : Int) (μ : bz_M) : Option bz_R := bX 155 51 [some (zR x0), none, none, some (zR x3), some (zL x4), none, some (zL x6), none, some (zR x8), some (zL x9), none, none, none, none, none] [] μ
noncomputable def x_E_spread_3 (x0 : Nat) (x4 : Int) (x6 : Int) (x9 : Int) (x11 : Int) (μ : bz_M) : Option bz_R := bX 155 60 [some (zR x0), none, none, none, some (zL x4), none, some (zL x6), none, none, some (zL x9), none, some (zL x11), none, none, none] [] μ
noncomputable def x_E_spread_4 (x4 : Int) (x6 : Int) (x9 : Int) (x11 : Int) (x13 : Int) (μ : bz_M) : Option bz_R := bX 155 72 [none, none, none, none, some (zL x4), none, some (zL x6), none, none, some (zL x9), none, some (zL x11), none, some (zL x13), none] [] μ
noncomputable def x_Mth_floorDiv (a0 : Int) (a1 : Int) (μ : bz_M) : Option bz_R := bX 156 0 [some (zL a0), none, some (zL a1), none, none, none] [] μ
noncomputable def x_L_mergedLength (a0 : Nat) (a1 : Int) (a2 : Int) (a3 : Int) (a4 : Nat) (μ : bz_M) : Option bz_R := bX 157 0 [some (zR a0), some (zI a1), some (zI a2), some (zI a3), some (zR a4), none] [] μ
noncomputable def x_E_mergedLength (a0 : Nat) (a1 : Int) (a2 : Int) (a3 : Int) (μ : bz_M) : Option bz_R := bX 158 0 [some (zR a0), some (zI a1), some (zI a2), some (zI a3), none, none, none] [] μ
noncomputable def x_L_mergedCharacter (a0 : Nat) (a1 : Int) (a2 : Int) (a3 : Int) (a4 : Int) (a5 : Nat) (μ : bz_M) : Option bz_R := bX 159 0 [some (zR a0), some (zI a1), some (zI a2), some (zI a3), some (zI a4), some (zR a5), none] [] μ
noncomputable def x_E_mergedCharacter (a0 : Nat) (a1 : Int) (a2 : Int) (a3 : Int) (a4 : Int) (μ : bz_M) : Option bz_R := bX 160 0 [some (zR a0), some (zI a1), some (zI a2), some (zI a3), some (zI a4), none, none, none] [] μ
noncomputable def x_L_bestScan (a0 : Nat) (a1 : Int) (a2 : Nat) (μ : bz_M) : Option bz_R := bX 161 0 [some (zR a0), some (zI a1), some (zR a2), none] [] μ
noncomputable def x_E_bestScan (a0 : Nat) (a1 : Int) (μ : bz_M) : Option bz_R := bX 162 0 [some (zR a0), some (zI a1), none, none, none, none] [] μ
noncomputable def x_E_bestScan_0 (x0 : Nat) (x1 : Int) (x2 : Int) (x3 : Int) (x4 : Int) (μ : bz_M) : Option bz_R := bX 162 9 [some (zR x0), some (zI x1), some (zI x2), some (zI x3), some (zI x4), none] [] μ
noncomputable def x_L_length (a0 : Nat) (a1 : Int) (a2 : Nat) (μ : bz_M) : Option bz_R := bX 163 0 [some (zR a0), some (zI a1), some (zR a2), none] [] μ
noncomputable def x_E_length (a0 : Nat) (a1 : Int) (μ : bz_M) : Option bz_R := bX 164 0 [some (zR a0), some (zI a1)] [] μ
noncomputable def x_L_weight (a0 : Nat) (a1 : Int) (a2 : Int) (a3 : Int) (a4 : Nat) (μ : bz_M) : Option bz_R := bX 165 0 [some (zR a0), some (zI a1), some (zI a2), some (zI a3), some (zR a4), none] [] μ
noncomputable def x_E_weight (a0 : Nat) (a1 : Int) (a2 : Int) (a3 : Int) (μ : bz_M) : Option bz_R := bX 166 0 [some (zR a0), some (zI a1), some (zI a2), some (zI a3), none, none] [] μ
noncomputable def x_L_voted (a0 : Nat) (a1 : Int) (a2 : Int) (a3 : Nat) (μ : bz_M) : Option bz_R := bX 167 0 [some (zR a0), some (zI a1), some (zI a2), some (zR a3), none] [] μ
noncomputable def x_E_voted (a0 : Nat) (a1 : Int) (a2 : Int) (μ : bz_M) : Option bz_R := bX 168 0 [some (zR a0), some (zI a1), some (zI a2), none] [] μ
noncomputable def x_L_runnerUp (a0 : Nat) (a1 : Int) (a2 : Int) (a3 : Nat) (μ : bz_M) : Option bz_R := bX 169 0 [some (zR a0), some (zI a1), some (zI a2), some (zR a3), none] [] μ
noncomputable def x_E_runnerUp (a0 : Nat) (a1 : Int) (a2 : Int) (μ : bz_M) : Option bz_R := bX 170 0 [some (zR a0), some (zI a1), some (zI a2), none, none] [] μ
noncomputable def x_E_strongest (a0 : Nat) (a1 : Int) (a2 : Int) (μ : bz_M) : Option bz_R := bX 171 0 [some (zR a0), some (zI a1), some (zI a2), none, none, none, none, none] [] μ
noncomputable def x_E_strongest_0 (x0 : Nat) (x1 : Int) (x2 : Int) (x3 : Int) (x4 : Int) (x5 : Int) (μ : bz_M) : Option bz_R := bX 171 7 [some (zR x0), some (zI x1), some (zI x2), some (zI x3), some (zI x4), some (zI x5), none, none] [] μ
noncomputable def x_L_problem (a0 : Nat) (a1 : Int) (a2 : Nat) (μ : bz_M) : Option bz_R := bX 172 0 [some (zR a0), some (zI a1), some (zR a2), none] [] μ
noncomputable def x_E_problem (a0 : Nat) (a1 : Int) (μ : bz_M) : Option bz_R := bX 173 0 [some (zR a0), some (zI a1)] [] μ
noncomputable def x_L_doubtful (a0 : Nat) (a1 : Int) (a2 : Nat) (μ : bz_M) : Option bz_R := bX 174 0 [some (zR a0), some (zI a1), some (zR a2), none] [] μ
noncomputable def x_E_doubtful (a0 : Nat) (a1 : Int) (μ : bz_M) : Option bz_R := bX 175 0 [some (zR a0), some (zI a1)] [] μ
noncomputable def x_Tal_firstDoubt (a0 : Nat) (μ : bz_M) : Option bz_R := bX 176 0 [some (zR a0), none] [] μ
noncomputable def x_Tal_firstDoubt_0 (x0 : Nat) (x1 : Int) (μ : bz_M) : Option bz_R := bX 176 3 [some (zR x0), some (zI x1)] [] μ
noncomputable def x_L_repaired (a0 : Nat) (a1 : Int) (a2 : Nat) (μ : bz_M) : Option bz_R := bX 177 0 [some (zR a0), some (zI a1), some (zR a2), none] [] μ
noncomputable def x_E_repaired (a0 : Nat) (a1 : Int) (μ : bz_M) : Option bz_R := bX 178 0 [some (zR a0), some (zI a1), none, none] [] μ
noncomputable def x_L_worstScan (a0 : Nat) (a1 : Int) (a2 : Nat) (μ : bz_M) : Option bz_R := bX 179 0 [some (zR a0), some (zI a1), some (zR a2), none] [] μ
noncomputable def x_E_worstScan (a0 : Nat) (a1 : Int) (μ : bz_M) : Option bz_R := bX 180 0 [some (zR a0), some (zI a1), none, none, none, none, none] [] μ
noncomputable def x_E_worstScan_0 (x0 : Nat) (x1 : Int) (x2 : Nat) (x3 : Int) (x4 : Int) (x5 : Int) (μ : bz_M) : Option bz_R := bX 180 11 [some (zR x0), some (zI x1), some (zR x2), some (zI x3), some (zI x4), some (zI x5), none] [] μ
noncomputable def x_Tal_disagreements (a0 : Nat) (a1 : Nat) (μ : bz_M) : Option bz_R := bX 181 0 [some (zR a0), some (zR a1), none, none] [] μ
noncomputable def x_Tal_disagreements_0 (x0 : Nat) (x1 : Nat) (x2 : Int) (x3 : Int) (μ : bz_M) : Option bz_R := bX 181 5 [some (zR x0), some (zR x1), some (zI x2), some (zI x3)] [] μ
noncomputable def x_L_setCheck (a0 : Nat) (a1 : Int) (a2 : Int) (a3 : Nat) (μ : bz_M) : Option bz_R := bX 182 0 [some (zR a0), some (zI a1), some (zI a2), some (zR a3), none] [] μ
noncomputable def x_E_setCheck (a0 : Nat) (a1 : Int) (a2 : Int) (μ : bz_M) : Option bz_R := bX 183 0 [some (zR a0), some (zI a1), some (zI a2), none] [] μ
noncomputable def x_M_new (a0 : Nat) (μ : bz_M) : Option bz_R := bX 184 0 [some (zR a0)] [] μ
noncomputable def x_M_thrown (a0 : Nat) (μ : bz_M) : Option bz_R := bX 185 0 [some (zR a0)] [] μ
noncomputable def x_M_append (a0 : Nat) (a1 : Int) (a2 : Int) (a3 : Int) (a4 : Int) (a5 : Int) (μ : bz_M) : Option bz_R := bX 186 0 [some (zR a0), some (zI a1), some (zI a2), some (zI a3), some (zI a4), some (zI a5), none, none] [] μ
noncomputable def x_M_append_0 (x0 : Nat) (x1 : Int) (x2 : Int) (x3 : Int) (x4 : Int) (x5 : Int) (x6 : Int) (μ : bz_M) : Option bz_R := bX 186 19 [some (zR x0), some (zI x1), some (zI x2), some (zI x3), some (zI x4), some (zI x5), some (zI x6), none] [] μ
noncomputable def x_M_print (a0 : Nat) (a1 : Int) (a2 : Int) (a3 : Int) (a4 : Int) (a5 : Int) (μ : bz_M) : Option bz_R := bX 187 0 [some (zR a0), some (zI a1), some (zI a2), some (zI a3), some (zI a4), some (zI a5), none, none, none, none] [] μ
noncomputable def x_M_print_0 (x0 : Nat) (x1 : Int) (x2 : Int) (x3 : Int) (x4 : Int) (x5 : Int) (x6 : Int) (μ : bz_M) : Option bz_R := bX 187 31 [some (zR x0), some (zI x1), some (zI x2), some (zI x3), some (zI x4), some (zI x5), some (zI x6), none, none, none] [] μ
noncomputable def x_M_print_1 (x0 : Nat) (x3 : Int) (x4 : Int) (x5 : Int) (x6 : Int) (x7 : Int) (x8 : Int) (μ : bz_M) : Option bz_R := bX 187 65 [some (zR x0), none, none, some (zI x3), some (zI x4), some (zI x5), some (zI x6), some (zI x7), some (zI x8), none] [] μ
noncomputable def x_M_isSymbology (a0 : Int) (μ : bz_M) : Option bz_R := bX 188 0 [some (zI a0)] [] μ
noncomputable def x_M_isIn (a0 : Int) (a1 : Int) (a2 : Int) (μ : bz_M) : Option bz_R := bX 189 0 [some (zL a0), none, some (zL a1), none, some (zL a2), none] [] μ
noncomputable def x_M_canPrint (a0 : Nat) (a1 : Int) (a2 : Int) (a3 : Int) (a4 : Int) (μ : bz_M) : Option bz_R := bX 190 0 [some (zR a0), some (zI a1), some (zI a2), some (zI a3), some (zI a4)] [] μ
noncomputable def x_M_isLength (a0 : Int) (a1 : Int) (μ : bz_M) : Option bz_R := bX 191 0 [some (zI a0), some (zI a1)] [] μ
noncomputable def x_M_areCharacters (a0 : Nat) (a1 : Int) (a2 : Int) (μ : bz_M) : Option bz_R := bX 192 0 [some (zR a0), some (zI a1), some (zI a2), none, none, none] [] μ
noncomputable def x_M_areCharacters_0 (x0 : Nat) (x1 : Int) (x2 : Int) (x3 : Int) (μ : bz_M) : Option bz_R := bX 192 3 [some (zR x0), some (zI x1), some (zI x2), some (zI x3), none, none] [] μ
noncomputable def x_M_isLetter (a0 : Int) (μ : bz_M) : Option bz_R := bX 193 0 [some (zI a0)] [] μ
noncomputable def x_M_valueOf (a0 : Int) (μ : bz_M) : Option bz_R := bX 194 0 [some (zI a0), none] [] μ
noncomputable def x_M_valueOf_0 (x0 : Int) (x1 : Int) (μ : bz_M) : Option bz_R := bX 194 3 [some (zI x0), some (zI x1)] [] μ
noncomputable def x_M_laysModules (a0 : Nat) (a1 : Int) (a2 : Int) (μ : bz_M) : Option bz_R := bX 195 0 [some (zR a0), some (zI a1), some (zI a2)] [] μ
noncomputable def x_M_laysEan (a0 : Nat) (μ : bz_M) : Option bz_R := bX 196 0 [some (zR a0), none, none] [] μ
noncomputable def x_M_laysEan_0 (x0 : Nat) (x1 : Int) (μ : bz_M) : Option bz_R := bX 196 6 [some (zR x0), some (zI x1), none] [] μ
noncomputable def x_M_laysEan_1 (x0 : Nat) (x1 : Int) (x2 : Int) (μ : bz_M) : Option bz_R := bX 196 18 [some (zR x0), some (zI x1), some (zI x2)] [] μ
noncomputable def x_M_laysOnes (a0 : Nat) (a1 : Int) (μ : bz_M) : Option bz_R := bX 197 0 [some (zR a0), some (zI a1), none] [] μ
noncomputable def x_M_laysOnes_0 (x0 : Nat) (x1 : Int) (x2 : Int) (μ : bz_M) : Option bz_R := bX 197 3 [some (zR x0), some (zI x1), some (zI x2)] [] μ
noncomputable def x_M_lays (a0 : Nat) (a1 : Int) (μ : bz_M) : Option bz_R := bX 198 0 [some (zR a0), some (zI a1)] [] μ
noncomputable def x_M_laysPairs (a0 : Nat) (a1 : Int) (μ : bz_M) : Option bz_R := bX 199 0 [some (zR a0), some (zI a1), none, none] [] μ
noncomputable def x_M_laysPairs_0 (x0 : Nat) (x1 : Int) (x2 : Int) (μ : bz_M) : Option bz_R := bX 199 6 [some (zR x0), some (zI x1), some (zI x2), none] [] μ
noncomputable def x_M_laysPairs_1 (x0 : Nat) (x1 : Int) (x2 : Int) (x3 : Int) (μ : bz_M) : Option bz_R := bX 199 12 [some (zR x0), some (zI x1), some (zI x2), some (zI x3)] [] μ
noncomputable def x_M_wideOr (a0 : Int) (a1 : Int) (μ : bz_M) : Option bz_R := bX 200 0 [some (zI a0), some (zI a1)] [] μ
noncomputable def x_M_laysCodabar (a0 : Nat) (a1 : Int) (μ : bz_M) : Option bz_R := bX 201 0 [some (zR a0), some (zI a1), none, none] [] μ
noncomputable def x_M_laysCodabar_0 (x0 : Nat) (x1 : Int) (x2 : Int) (μ : bz_M) : Option bz_R := bX 201 3 [some (zR x0), some (zI x1), some (zI x2), none] [] μ
noncomputable def x_M_laysCodabar_1 (x0 : Nat) (x1 : Int) (x2 : Int) (x3 : Int) (μ : bz_M) : Option bz_R := bX 201 14 [some (zR x0), some (zI x1), some (zI x2), some (zI x3)] [] μ
noncomputable def x_M_checkCharacter (a0 : Nat) (a1 : Int) (a2 : Int) (μ : bz_M) : Option bz_R := bX 202 0 [some (zR a0), some (zI a1), some (zI a2), none, none] [] μ
noncomputable def x_M_checkCharacter_0 (x0 : Nat) (x2 : Int) (x3 : Int) (x4 : Int) (μ : bz_M) : Option bz_R := bX 202 42 [some (zR x0), none, some (zI x2), some (zI x3), some (zI x4)] [] μ
noncomputable def x_M_checkCharacter_1 (x0 : Nat) (x2 : Int) (x3 : Int) (x4 : Int) (μ : bz_M) : Option bz_R := bX 202 68 [some (zR x0), none, some (zI x2), some (zI x3), some (zI x4)] [] μ
noncomputable def x_M_addWidths (a0 : Nat) (a1 : Int) (a2 : Int) (a3 : Int) (a4 : Int) (a5 : Int) (a6 : Int) (μ : bz_M) : Option bz_R := bX 203 0 [some (zR a0), some (zI a1), some (zI a2), some (zI a3), some (zI a4), some (zI a5), some (zI a6), none, none, none] [] μ
noncomputable def x_M_addWidths_0 (x0 : Nat) (x1 : Int) (x2 : Int) (x3 : Int) (x4 : Int) (x5 : Int) (x6 : Int) (x7 : Int) (μ : bz_M) : Option bz_R := bX 203 29 [some (zR x0), some (zI x1), some (zI x2), some (zI x3), some (zI x4), some (zI x5), some (zI x6), some (zI x7), none, none] [] μ
noncomputable def x_M_addWidths_1 (x0 : Nat) (x1 : Int) (x2 : Int) (x3 : Int) (x4 : Int) (x5 : Int) (x6 : Int) (x7 : Int) (x8 : Int) (μ : bz_M) : Option bz_R := bX 203 56 [some (zR x0), some (zI x1), some (zI x2), some (zI x3), some (zI x4), some (zI x5), some (zI x6), some (zI x7), some (zI x8), none] [] μ
noncomputable def x_M_addWidths_2 (x0 : Nat) (x1 : Int) (x2 : Int) (x3 : Int) (x4 : Int) (x5 : Int) (x6 : Int) (x8 : Int) (x9 : Int) (μ : bz_M) : Option bz_R := bX 203 79 [some (zR x0), some (zI x1), some (zI x2), some (zI x3), some (zI x4), some (zI x5), some (zI x6), none, some (zI x8), some (zI x9)] [] μ
noncomputable def x_M_isWidth (a0 : Int) (a1 : Int) (μ : bz_M) : Option bz_R := bX 204 0 [some (zI a0), some (zI a1)] [] μ
noncomputable def x_M_endScan (a0 : Nat) (μ : bz_M) : Option bz_R := bX 205 0 [some (zR a0), none] [] μ
noncomputable def x_M_endScan_0 (x0 : Nat) (x1 : Int) (μ : bz_M) : Option bz_R := bX 205 26 [some (zR x0), some (zI x1)] [] μ
noncomputable def x_M_scanCount (a0 : Nat) (μ : bz_M) : Option bz_R := bX 206 0 [some (zR a0)] [] μ
noncomputable def x_M_widthCount (a0 : Nat) (a1 : Int) (μ : bz_M) : Option bz_R := bX 207 0 [some (zR a0), some (zI a1)] [] μ
noncomputable def x_M_isScan (a0 : Nat) (a1 : Int) (μ : bz_M) : Option bz_R := bX 208 0 [some (zR a0), some (zI a1)] [] μ
noncomputable def x_M_width (a0 : Nat) (a1 : Int) (a2 : Int) (μ : bz_M) : Option bz_R := bX 209 0 [some (zR a0), some (zI a1), some (zI a2)] [] μ
noncomputable def x_M_hasWidth (a0 : Nat) (a1 : Int) (a2 : Int) (μ : bz_M) : Option bz_R := bX 210 0 [some (zR a0), some (zI a1), some (zI a2)] [] μ
noncomputable def x_M_setWidth (a0 : Nat) (a1 : Int) (a2 : Int) (a3 : Int) (μ : bz_M) : Option bz_R := bX 211 0 [some (zR a0), some (zI a1), some (zI a2), some (zI a3), none] [] μ
noncomputable def x_M_cut (a0 : Nat) (a1 : Int) (a2 : Int) (a3 : Int) (μ : bz_M) : Option bz_R := bX 212 0 [some (zR a0), some (zI a1), some (zI a2), some (zI a3), none] [] μ
noncomputable def x_M_cut_0 (x0 : Nat) (x1 : Int) (x2 : Int) (x4 : Int) (μ : bz_M) : Option bz_R := bX 212 49 [some (zR x0), some (zI x1), some (zI x2), none, some (zI x4)] [] μ
noncomputable def x_M_reverse (a0 : Nat) (a1 : Int) (μ : bz_M) : Option bz_R := bX 213 0 [some (zR a0), some (zI a1), none] [] μ
noncomputable def x_M_reverse_0 (x0 : Nat) (x1 : Int) (x2 : Int) (μ : bz_M) : Option bz_R := bX 213 20 [some (zR x0), some (zI x1), some (zI x2)] [] μ
noncomputable def x_M_laysRow (a0 : Nat) (a1 : Int) (a2 : Int) (μ : bz_M) : Option bz_R := bX 214 0 [some (zR a0), some (zI a1), some (zI a2), none] [] μ
noncomputable def x_M_laysRow_0 (x0 : Nat) (x1 : Int) (x2 : Int) (x3 : Int) (μ : bz_M) : Option bz_R := bX 214 9 [some (zR x0), some (zI x1), some (zI x2), some (zI x3)] [] μ
noncomputable def x_M_smear (a0 : Nat) (a1 : Int) (a2 : Int) (μ : bz_M) : Option bz_R := bX 215 0 [some (zR a0), some (zI a1), some (zI a2), none, none, none] [] μ
noncomputable def x_M_smear_0 (x0 : Nat) (x1 : Int) (x2 : Int) (x3 : Int) (x4 : Int) (μ : bz_M) : Option bz_R := bX 215 27 [some (zR x0), some (zI x1), some (zI x2), some (zI x3), some (zI x4), none] [] μ
noncomputable def x_M_average (a0 : Nat) (a1 : Int) (a2 : Int) (μ : bz_M) : Option bz_R := bX 216 0 [some (zR a0), some (zI a1), some (zI a2), none] [] μ
noncomputable def x_M_average_0 (x0 : Nat) (x1 : Int) (x2 : Int) (x3 : Int) (μ : bz_M) : Option bz_R := bX 216 27 [some (zR x0), some (zI x1), some (zI x2), some (zI x3)] [] μ
noncomputable def x_M_removeScan (a0 : Nat) (a1 : Int) (μ : bz_M) : Option bz_R := bX 217 0 [some (zR a0), some (zI a1), none] [] μ
noncomputable def x_M_removeScan_0 (x0 : Nat) (x1 : Int) (x2 : Int) (μ : bz_M) : Option bz_R := bX 217 23 [some (zR x0), some (zI x1), some (zI x2)] [] μ
noncomputable def x_M_removeScan_1 (x0 : Nat) (x2 : Int) (μ : bz_M) : Option bz_R := bX 217 44 [some (zR x0), none, some (zI x2)] [] μ
noncomputable def x_M_read (a0 : Nat) (a1 : Int) (a2 : Int) (μ : bz_M) : Option bz_R := bX 218 0 [some (zR a0), some (zI a1), some (zI a2)] [] μ
noncomputable def x_M_reads (a0 : Nat) (a1 : Int) (a2 : Int) (μ : bz_M) : Option bz_R := bX 219 0 [some (zR a0), some (zI a1), some (zI a2)] [] μ
noncomputable def x_M_readsScan (a0 : Nat) (a1 : Int) (a2 : Int) (μ : bz_M) : Option bz_R := bX 220 0 [some (zR a0), some (zI a1), some (zI a2), none] [] μ
noncomputable def x_M_readsScan_0 (x0 : Nat) (x1 : Int) (x2 : Int) (x3 : Int) (μ : bz_M) : Option bz_R := bX 220 3 [some (zR x0), some (zI x1), some (zI x2), some (zI x3)] [] μ
noncomputable def x_M_isWhole (a0 : Nat) (a1 : Int) (a2 : Int) (μ : bz_M) : Option bz_R := bX 221 0 [some (zR a0), some (zI a1), some (zI a2), none] [] μ
noncomputable def x_M_isWhole_0 (x0 : Nat) (x1 : Int) (x2 : Int) (x3 : Int) (μ : bz_M) : Option bz_R := bX 221 3 [some (zR x0), some (zI x1), some (zI x2), some (zI x3)] [] μ
noncomputable def x_M_isWholeFrom (a0 : Nat) (a1 : Int) (a2 : Int) (μ : bz_M) : Option bz_R := bX 222 0 [some (zR a0), some (zI a1), some (zI a2)] [] μ
noncomputable def x_M_isBeginning (a0 : Nat) (a1 : Int) (a2 : Int) (μ : bz_M) : Option bz_R := bX 223 0 [some (zR a0), some (zI a1), some (zI a2), none, none] [] μ
noncomputable def x_M_startOf (a0 : Int) (μ : bz_M) : Option bz_R := bX 224 0 [some (zI a0)] [] μ
noncomputable def x_M_exists (a0 : Nat) (a1 : Int) (a2 : Int) (μ : bz_M) : Option bz_R := bX 225 0 [some (zR a0), some (zI a1), some (zI a2)] [] μ
noncomputable def x_M_sevenAt (a0 : Nat) (a1 : Int) (μ : bz_M) : Option bz_R := bX 226 0 [some (zR a0), some (zI a1), none] [] μ
noncomputable def x_M_sevenAt_0 (x0 : Nat) (x2 : Int) (μ : bz_M) : Option bz_R := bX 226 16 [some (zR x0), none, some (zI x2)] [] μ
noncomputable def x_M_readsWides (a0 : Nat) (a1 : Int) (a2 : Int) (a3 : Int) (μ : bz_M) : Option bz_R := bX 227 0 [some (zR a0), some (zI a1), some (zI a2), some (zI a3), none, none, none, none, none, none, none] [] μ
noncomputable def x_M_readsWides_0 (x0 : Nat) (x1 : Int) (x2 : Int) (x3 : Int) (x4 : Int) (x5 : Int) (x6 : Int) (μ : bz_M) : Option bz_R := bX 227 13 [some (zR x0), some (zI x1), some (zI x2), some (zI x3), some (zI x4), some (zI x5), some (zI x6), none, none, none, none] [] μ
noncomputable def x_M_readsWides_1 (x0 : Nat) (x1 : Int) (x2 : Int) (x3 : Int) (x4 : Int) (x5 : Int) (x6 : Int) (x7 : Int) (x8 : Int) (μ : bz_M) : Option bz_R := bX 227 79 [some (zR x0), some (zI x1), some (zI x2), some (zI x3), some (zI x4), some (zI x5), some (zI x6), some (zI x7), some (zI x8), none, none] [] μ
noncomputable def x_M_areEven (a0 : Nat) (a1 : Int) (a2 : Int) (μ : bz_M) : Option bz_R := bX 228 0 [some (zR a0), some (zI a1), some (zI a2), none, none] [] μ
noncomputable def x_M_areEven_0 (x0 : Nat) (x1 : Int) (x2 : Int) (x3 : Int) (x4 : Int) (μ : bz_M) : Option bz_R := bX 228 5 [some (zR x0), some (zI x1), some (zI x2), some (zI x3), some (zI x4)] [] μ
noncomputable def x_M_leastOf (a0 : Nat) (a1 : Int) (a2 : Int) (μ : bz_M) : Option bz_R := bX 229 0 [some (zR a0), some (zI a1), some (zI a2), none, none] [] μ
noncomputable def x_M_leastOf_0 (x0 : Nat) (x1 : Int) (x2 : Int) (x3 : Int) (x4 : Int) (μ : bz_M) : Option bz_R := bX 229 8 [some (zR x0), some (zI x1), some (zI x2), some (zI x3), some (zI x4)] [] μ
noncomputable def x_M_isWholeEan (a0 : Nat) (a1 : Int) (μ : bz_M) : Option bz_R := bX 230 0 [some (zR a0), some (zI a1)] [] μ
noncomputable def x_M_readsDigits (a0 : Nat) (a1 : Int) (μ : bz_M) : Option bz_R := bX 231 0 [some (zR a0), some (zI a1), none] [] μ
noncomputable def x_M_readsDigits_0 (x0 : Nat) (x1 : Int) (x2 : Int) (μ : bz_M) : Option bz_R := bX 231 3 [some (zR x0), some (zI x1), some (zI x2)] [] μ
noncomputable def x_M_readsDigit (a0 : Nat) (a1 : Int) (μ : bz_M) : Option bz_R := bX 232 0 [some (zR a0), some (zI a1), none, none, none, none, none, none, none, none] [] μ
noncomputable def x_M_rounded (a0 : Int) (a1 : Int) (μ : bz_M) : Option bz_R := bX 233 0 [some (zI a0), some (zI a1)] [] μ
noncomputable def x_M_digitBy (a0 : Int) (a1 : Int) (a2 : Int) (μ : bz_M) : Option bz_R := bX 234 0 [some (zI a0), some (zI a1), some (zI a2)] [] μ
noncomputable def x_M_apart (a0 : Int) (a1 : Int) (μ : bz_M) : Option bz_R := bX 235 0 [some (zI a0), some (zI a1)] [] μ
noncomputable def x_M_signsOne (a0 : Nat) (a1 : Int) (a2 : Int) (μ : bz_M) : Option bz_R := bX 236 0 [some (zR a0), some (zI a1), some (zI a2)] [] μ
noncomputable def x_M_isEnd (a0 : Nat) (a1 : Int) (a2 : Int) (μ : bz_M) : Option bz_R := bX 237 0 [some (zR a0), some (zI a1), some (zI a2), none, none, none] [] μ
noncomputable def x_M_stopOf (a0 : Int) (μ : bz_M) : Option bz_R := bX 238 0 [some (zI a0)] [] μ
noncomputable def x_M_isWholePairs (a0 : Nat) (a1 : Int) (μ : bz_M) : Option bz_R := bX 239 0 [some (zR a0), some (zI a1), none] [] μ
noncomputable def x_M_isWholePairs_0 (x0 : Nat) (x1 : Int) (x2 : Int) (μ : bz_M) : Option bz_R := bX 239 3 [some (zR x0), some (zI x1), some (zI x2)] [] μ
noncomputable def x_M_readsPair (a0 : Nat) (a1 : Int) (μ : bz_M) : Option bz_R := bX 240 0 [some (zR a0), some (zI a1)] [] μ
noncomputable def x_M_readsFive (a0 : Nat) (a1 : Int) (μ : bz_M) : Option bz_R := bX 241 0 [some (zR a0), some (zI a1), none] [] μ
noncomputable def x_M_readsFive_0 (x0 : Nat) (x2 : Int) (μ : bz_M) : Option bz_R := bX 241 11 [some (zR x0), none, some (zI x2)] [] μ
noncomputable def x_M_isWholeCodabar (a0 : Nat) (a1 : Int) (μ : bz_M) : Option bz_R := bX 242 0 [some (zR a0), some (zI a1), none] [] μ
noncomputable def x_M_isWholeCodabar_0 (x0 : Nat) (x2 : Int) (μ : bz_M) : Option bz_R := bX 242 12 [some (zR x0), none, some (zI x2)] [] μ
noncomputable def x_M_readsSeven (a0 : Nat) (a1 : Int) (a2 : Int) (μ : bz_M) : Option bz_R := bX 243 0 [some (zR a0), some (zI a1), some (zI a2), none] [] μ
noncomputable def x_M_keeps (a0 : Nat) (a1 : Int) (a2 : Int) (μ : bz_M) : Option bz_R := bX 244 0 [some (zR a0), some (zI a1), some (zI a2), none] [] μ
noncomputable def x_M_keeps_0 (x0 : Nat) (x1 : Int) (x2 : Int) (x3 : Int) (μ : bz_M) : Option bz_R := bX 244 13 [some (zR x0), some (zI x1), some (zI x2), some (zI x3)] [] μ
noncomputable def x_M_hasParts (a0 : Nat) (a1 : Int) (a2 : Int) (μ : bz_M) : Option bz_R := bX 245 0 [some (zR a0), some (zI a1), some (zI a2), none] [] μ
noncomputable def x_M_hasParts_0 (x0 : Nat) (x1 : Int) (x2 : Int) (x3 : Int) (μ : bz_M) : Option bz_R := bX 245 3 [some (zR x0), some (zI x1), some (zI x2), some (zI x3)] [] μ
noncomputable def x_M_hasParts_1 (x0 : Nat) (x1 : Int) (x2 : Int) (x3 : Int) (μ : bz_M) : Option bz_R := bX 245 36 [some (zR x0), some (zI x1), some (zI x2), some (zI x3)] [] μ
noncomputable def x_M_readsHead (a0 : Nat) (a1 : Int) (a2 : Int) (μ : bz_M) : Option bz_R := bX 246 0 [some (zR a0), some (zI a1), some (zI a2), none] [] μ
noncomputable def x_M_readsHead_0 (x0 : Nat) (x2 : Int) (x3 : Int) (μ : bz_M) : Option bz_R := bX 246 14 [some (zR x0), none, some (zI x2), some (zI x3)] [] μ
noncomputable def x_M_readsHead_1 (x0 : Nat) (x2 : Int) (x3 : Int) (μ : bz_M) : Option bz_R := bX 246 33 [some (zR x0), none, some (zI x2), some (zI x3)] [] μ
noncomputable def x_M_readsHead_2 (x0 : Nat) (x2 : Int) (x3 : Int) (μ : bz_M) : Option bz_R := bX 246 54 [some (zR x0), none, some (zI x2), some (zI x3)] [] μ
noncomputable def x_M_readsTail (a0 : Nat) (a1 : Int) (a2 : Int) (μ : bz_M) : Option bz_R := bX 247 0 [some (zR a0), some (zI a1), some (zI a2), none, none, none] [] μ
noncomputable def x_M_readsTail_0 (x0 : Nat) (x1 : Int) (x2 : Int) (x4 : Int) (μ : bz_M) : Option bz_R := bX 247 22 [some (zR x0), some (zI x1), some (zI x2), none, some (zI x4), none] [] μ
noncomputable def x_M_partsTo (a0 : Nat) (a1 : Int) (a2 : Int) (μ : bz_M) : Option bz_R := bX 248 0 [some (zR a0), some (zI a1), some (zI a2), none, none] [] μ
noncomputable def x_M_partsTo_0 (x0 : Nat) (x1 : Int) (x2 : Int) (x3 : Int) (x4 : Int) (μ : bz_M) : Option bz_R := bX 248 5 [some (zR x0), some (zI x1), some (zI x2), some (zI x3), some (zI x4)] [] μ
noncomputable def x_M_manyOf (a0 : Nat) (a1 : Int) (a2 : Int) (μ : bz_M) : Option bz_R := bX 249 0 [some (zR a0), some (zI a1), some (zI a2)] [] μ
noncomputable def x_M_readPart (a0 : Nat) (a1 : Int) (a2 : Int) (a3 : Int) (μ : bz_M) : Option bz_R := bX 250 0 [some (zR a0), some (zI a1), some (zI a2), some (zI a3)] [] μ
noncomputable def x_M_character (a0 : Nat) (a1 : Int) (a2 : Int) (a3 : Int) (μ : bz_M) : Option bz_R := bX 251 0 [some (zR a0), some (zI a1), some (zI a2), some (zI a3)] [] μ
noncomputable def x_M_has (a0 : Nat) (a1 : Int) (a2 : Int) (a3 : Int) (a4 : Int) (μ : bz_M) : Option bz_R := bX 252 0 [some (zR a0), some (zI a1), some (zI a2), some (zI a3), some (zI a4)] [] μ
noncomputable def x_M_signOf (a0 : Nat) (a1 : Int) (a2 : Int) (a3 : Int) (μ : bz_M) : Option bz_R := bX 253 0 [some (zR a0), some (zI a1), some (zI a2), some (zI a3)] [] μ
noncomputable def x_M_confidence (a0 : Nat) (a1 : Int) (a2 : Int) (a3 : Int) (μ : bz_M) : Option bz_R := bX 254 0 [some (zR a0), some (zI a1), some (zI a2), some (zI a3)] [] μ
noncomputable def x_M_weightOf (a0 : Nat) (a1 : Int) (a2 : Int) (a3 : Int) (μ : bz_M) : Option bz_R := bX 255 0 [some (zR a0), some (zI a1), some (zI a2), some (zI a3)] [] μ
noncomputable def x_M_partCharacter (a0 : Nat) (a1 : Int) (a2 : Int) (a3 : Int) (a4 : Int) (μ : bz_M) : Option bz_R := bX 256 0 [some (zR a0), some (zI a1), some (zI a2), some (zI a3), some (zI a4), none] [] μ
noncomputable def x_M_isReversed (a0 : Nat) (a1 : Int) (a2 : Int) (μ : bz_M) : Option bz_R := bX 257 0 [some (zR a0), some (zI a1), some (zI a2)] [] μ
noncomputable def x_M_module (a0 : Nat) (a1 : Int) (a2 : Int) (μ : bz_M) : Option bz_R := bX 258 0 [some (zR a0), some (zI a1), some (zI a2)] [] μ
noncomputable def x_M_measures (a0 : Nat) (a1 : Int) (a2 : Int) (μ : bz_M) : Option bz_R := bX 259 0 [some (zR a0), some (zI a1), some (zI a2), none, none, none] [] μ
noncomputable def x_M_measures_0 (x0 : Nat) (x1 : Int) (x2 : Int) (x3 : Int) (x4 : Int) (μ : bz_M) : Option bz_R := bX 259 27 [some (zR x0), some (zI x1), some (zI x2), some (zI x3), some (zI x4), none] [] μ
noncomputable def x_M_measures_1 (x0 : Nat) (x1 : Int) (x4 : Int) (μ : bz_M) : Option bz_R := bX 259 67 [some (zR x0), some (zI x1), none, none, some (zI x4), none] [] μ
noncomputable def x_M_spread (a0 : Nat) (a1 : Int) (a2 : Int) (μ : bz_M) : Option bz_R := bX 260 0 [some (zR a0), some (zI a1), some (zI a2), none, none, none, none, none, none] [] μ
noncomputable def x_M_agreement (a0 : Nat) (a1 : Int) (a2 : Int) (a3 : Int) (μ : bz_M) : Option bz_R := bX 261 0 [some (zR a0), some (zI a1), some (zI a2), some (zI a3), none, none, none] [] μ
noncomputable def x_M_agreement_0 (x0 : Nat) (x1 : Int) (x2 : Int) (x4 : Int) (x5 : Int) (x6 : Int) (μ : bz_M) : Option bz_R := bX 261 44 [some (zR x0), some (zI x1), some (zI x2), none, some (zI x4), some (zI x5), some (zI x6)] [] μ
noncomputable def x_M_readsAll (a0 : Nat) (a1 : Int) (μ : bz_M) : Option bz_R := bX 262 0 [some (zR a0), some (zI a1), none] [] μ
noncomputable def x_M_readsAll_0 (x0 : Nat) (x1 : Int) (x2 : Int) (μ : bz_M) : Option bz_R := bX 262 3 [some (zR x0), some (zI x1), some (zI x2)] [] μ
noncomputable def x_M_overlap (a0 : Nat) (a1 : Int) (a2 : Int) (a3 : Int) (μ : bz_M) : Option bz_R := bX 263 0 [some (zR a0), some (zI a1), some (zI a2), some (zI a3), none] [] μ
noncomputable def x_M_overlap_0 (x0 : Nat) (x1 : Int) (x2 : Int) (x4 : Int) (μ : bz_M) : Option bz_R := bX 263 34 [some (zR x0), some (zI x1), some (zI x2), none, some (zI x4)] [] μ
noncomputable def x_M_mostOverlap (a0 : Nat) (a1 : Int) (a2 : Int) (μ : bz_M) : Option bz_R := bX 264 0 [some (zR a0), some (zI a1), some (zI a2), none, none] [] μ
noncomputable def x_M_overlaps (a0 : Nat) (a1 : Int) (a2 : Int) (a3 : Int) (μ : bz_M) : Option bz_R := bX 265 0 [some (zR a0), some (zI a1), some (zI a2), some (zI a3), none, none] [] μ
noncomputable def x_M_overlaps_0 (x0 : Nat) (x1 : Int) (x2 : Int) (x3 : Int) (x4 : Int) (x5 : Int) (μ : bz_M) : Option bz_R := bX 265 10 [some (zR x0), some (zI x1), some (zI x2), some (zI x3), some (zI x4), some (zI x5)] [] μ
noncomputable def x_M_mergedLength (a0 : Nat) (a1 : Int) (a2 : Int) (a3 : Int) (μ : bz_M) : Option bz_R := bX 266 0 [some (zR a0), some (zI a1), some (zI a2), some (zI a3)] [] μ
noncomputable def x_M_mergesNow (a0 : Nat) (a1 : Int) (a2 : Int) (a3 : Int) (μ : bz_M) : Option bz_R := bX 267 0 [some (zR a0), some (zI a1), some (zI a2), some (zI a3)] [] μ
noncomputable def x_M_merges (a0 : Nat) (a1 : Int) (a2 : Int) (a3 : Int) (μ : bz_M) : Option bz_R := bX 268 0 [some (zR a0), some (zI a1), some (zI a2), some (zI a3), none, none] [] μ
noncomputable def x_M_merges_0 (x0 : Nat) (x1 : Int) (x2 : Int) (x3 : Int) (x4 : Int) (μ : bz_M) : Option bz_R := bX 268 24 [some (zR x0), some (zI x1), some (zI x2), some (zI x3), some (zI x4), none] [] μ
noncomputable def x_M_mergedCharacter (a0 : Nat) (a1 : Int) (a2 : Int) (a3 : Int) (a4 : Int) (μ : bz_M) : Option bz_R := bX 269 0 [some (zR a0), some (zI a1), some (zI a2), some (zI a3), some (zI a4), none, none] [] μ
noncomputable def x_M_bestScan (a0 : Nat) (a1 : Int) (μ : bz_M) : Option bz_R := bX 270 0 [some (zR a0), some (zI a1), none, none] [] μ
noncomputable def x_M_bestScan_0 (x0 : Nat) (x2 : Int) (x3 : Int) (μ : bz_M) : Option bz_R := bX 270 21 [some (zR x0), none, some (zI x2), some (zI x3)] [] μ
noncomputable def x_M_leastWeight (a0 : Nat) (a1 : Int) (μ : bz_M) : Option bz_R := bX 271 0 [some (zR a0), some (zI a1), none, none] [] μ
noncomputable def x_M_leastWeight_0 (x0 : Nat) (x1 : Int) (x2 : Int) (x3 : Int) (μ : bz_M) : Option bz_R := bX 271 9 [some (zR x0), some (zI x1), some (zI x2), some (zI x3)] [] μ
noncomputable def x_M_length (a0 : Nat) (a1 : Int) (μ : bz_M) : Option bz_R := bX 272 0 [some (zR a0), some (zI a1)] [] μ
noncomputable def x_M_lengthOf (a0 : Nat) (a1 : Int) (μ : bz_M) : Option bz_R := bX 273 0 [some (zR a0), some (zI a1), none] [] μ
noncomputable def x_M_wholeLength (a0 : Nat) (μ : bz_M) : Option bz_R := bX 274 0 [some (zR a0), none, none] [] μ
noncomputable def x_M_wholeLength_0 (x0 : Nat) (x1 : Int) (μ : bz_M) : Option bz_R := bX 274 3 [some (zR x0), some (zI x1), none] [] μ
noncomputable def x_M_wholeLength_1 (x0 : Nat) (x1 : Int) (μ : bz_M) : Option bz_R := bX 274 16 [some (zR x0), some (zI x1), none] [] μ
noncomputable def x_M_wholeLength_2 (x0 : Nat) (x1 : Int) (x2 : Int) (μ : bz_M) : Option bz_R := bX 274 45 [some (zR x0), some (zI x1), some (zI x2)] [] μ
noncomputable def x_M_hasAny (a0 : Nat) (a1 : Int) (μ : bz_M) : Option bz_R := bX 275 0 [some (zR a0), some (zI a1), none, none] [] μ
noncomputable def x_M_hasAny_0 (x0 : Nat) (x1 : Int) (x2 : Int) (x3 : Int) (μ : bz_M) : Option bz_R := bX 275 5 [some (zR x0), some (zI x1), some (zI x2), some (zI x3)] [] μ
noncomputable def x_M_longestMerge (a0 : Nat) (a1 : Int) (μ : bz_M) : Option bz_R := bX 276 0 [some (zR a0), some (zI a1), none, none, none, none] [] μ
noncomputable def x_M_longestMerge_0 (x0 : Nat) (x1 : Int) (x2 : Int) (μ : bz_M) : Option bz_R := bX 276 3 [some (zR x0), some (zI x1), some (zI x2), none, none, none] [] μ
noncomputable def x_M_longestMerge_1 (x0 : Nat) (x1 : Int) (x2 : Int) (x3 : Int) (μ : bz_M) : Option bz_R := bX 276 9 [some (zR x0), some (zI x1), some (zI x2), some (zI x3), none, none] [] μ
noncomputable def x_M_longestMerge_2 (x0 : Nat) (x1 : Int) (x2 : Int) (x3 : Int) (x4 : Int) (μ : bz_M) : Option bz_R := bX 276 16 [some (zR x0), some (zI x1), some (zI x2), some (zI x3), some (zI x4), none] [] μ
noncomputable def x_M_weight (a0 : Nat) (a1 : Int) (a2 : Int) (a3 : Int) (μ : bz_M) : Option bz_R := bX 277 0 [some (zR a0), some (zI a1), some (zI a2), some (zI a3)] [] μ
noncomputable def x_M_hasPlace (a0 : Nat) (a1 : Int) (a2 : Int) (μ : bz_M) : Option bz_R := bX 278 0 [some (zR a0), some (zI a1), some (zI a2)] [] μ
noncomputable def x_M_laysVotes (a0 : Nat) (a1 : Int) (μ : bz_M) : Option bz_R := bX 279 0 [some (zR a0), some (zI a1), none, none] [] μ
noncomputable def x_M_laysVotes_0 (x0 : Nat) (x2 : Int) (x3 : Int) (μ : bz_M) : Option bz_R := bX 279 7 [some (zR x0), none, some (zI x2), some (zI x3)] [] μ
noncomputable def x_M_laysVotes_1 (x0 : Nat) (x2 : Int) (x3 : Int) (μ : bz_M) : Option bz_R := bX 279 20 [some (zR x0), none, some (zI x2), some (zI x3)] [] μ
noncomputable def x_M_adds (a0 : Nat) (a1 : Int) (a2 : Int) (a3 : Int) (μ : bz_M) : Option bz_R := bX 280 0 [some (zR a0), some (zI a1), some (zI a2), some (zI a3), none] [] μ
noncomputable def x_M_adds_0 (x0 : Nat) (x1 : Int) (x2 : Int) (x3 : Int) (x4 : Int) (μ : bz_M) : Option bz_R := bX 280 3 [some (zR x0), some (zI x1), some (zI x2), some (zI x3), some (zI x4)] [] μ
noncomputable def x_M_allAt (a0 : Nat) (a1 : Int) (μ : bz_M) : Option bz_R := bX 281 0 [some (zR a0), some (zI a1), none, none] [] μ
noncomputable def x_M_allAt_0 (x0 : Nat) (x1 : Int) (x2 : Int) (x3 : Int) (μ : bz_M) : Option bz_R := bX 281 5 [some (zR x0), some (zI x1), some (zI x2), some (zI x3)] [] μ
noncomputable def x_M_voted (a0 : Nat) (a1 : Int) (a2 : Int) (μ : bz_M) : Option bz_R := bX 282 0 [some (zR a0), some (zI a1), some (zI a2)] [] μ
noncomputable def x_M_votedAt (a0 : Nat) (a1 : Int) (μ : bz_M) : Option bz_R := bX 283 0 [some (zR a0), some (zI a1), none, none] [] μ
noncomputable def x_M_votedAt_0 (x0 : Nat) (x1 : Int) (x2 : Int) (x3 : Int) (μ : bz_M) : Option bz_R := bX 283 7 [some (zR x0), some (zI x1), some (zI x2), some (zI x3)] [] μ
noncomputable def x_M_runnerUp (a0 : Nat) (a1 : Int) (a2 : Int) (μ : bz_M) : Option bz_R := bX 284 0 [some (zR a0), some (zI a1), some (zI a2), none, none, none, none] [] μ
noncomputable def x_M_runnerUp_0 (x0 : Nat) (x2 : Int) (x3 : Int) (x4 : Int) (x5 : Int) (μ : bz_M) : Option bz_R := bX 284 14 [some (zR x0), none, some (zI x2), some (zI x3), some (zI x4), some (zI x5), none] [] μ
noncomputable def x_M_problem (a0 : Nat) (a1 : Int) (μ : bz_M) : Option bz_R := bX 285 0 [some (zR a0), some (zI a1)] [] μ
noncomputable def x_M_problemOf (a0 : Nat) (a1 : Int) (μ : bz_M) : Option bz_R := bX 286 0 [some (zR a0), some (zI a1), none] [] μ
noncomputable def x_M_doubtFrom (a0 : Nat) (a1 : Int) (a2 : Int) (μ : bz_M) : Option bz_R := bX 287 0 [some (zR a0), some (zI a1), some (zI a2), none] [] μ
noncomputable def x_M_doubtFrom_0 (x0 : Nat) (x2 : Int) (x3 : Int) (μ : bz_M) : Option bz_R := bX 287 3 [some (zR x0), none, some (zI x2), some (zI x3)] [] μ
noncomputable def x_M_isRight (a0 : Nat) (a1 : Int) (a2 : Int) (a3 : Int) (a4 : Int) (μ : bz_M) : Option bz_R := bX 288 0 [some (zR a0), some (zI a1), some (zI a2), some (zI a3), some (zI a4), none, none, none] [] μ
noncomputable def x_M_isRight_0 (x0 : Nat) (x1 : Int) (x2 : Int) (x3 : Int) (x4 : Int) (x5 : Int) (x6 : Int) (μ : bz_M) : Option bz_R := bX 288 5 [some (zR x0), some (zI x1), some (zI x2), some (zI x3), some (zI x4), some (zI x5), some (zI x6), none] [] μ
noncomputable def x_M_doubtful (a0 : Nat) (a1 : Int) (μ : bz_M) : Option bz_R := bX 289 0 [some (zR a0), some (zI a1)] [] μ
noncomputable def x_M_repaired (a0 : Nat) (a1 : Int) (μ : bz_M) : Option bz_R := bX 290 0 [some (zR a0), some (zI a1), none, none, none, none, none, none] [] μ
noncomputable def x_M_repaired_0 (x0 : Nat) (x1 : Int) (x2 : Int) (x3 : Int) (x4 : Int) (x5 : Int) (x6 : Int) (x7 : Int) (μ : bz_M) : Option bz_R := bX 290 68 [some (zR x0), some (zI x1), some (zI x2), some (zI x3), some (zI x4), some (zI x5), some (zI x6), some (zI x7)] [] μ
noncomputable def x_M_winner (a0 : Nat) (μ : bz_M) : Option bz_R := bX 291 0 [some (zR a0), none, none, none] [] μ
noncomputable def x_M_winner_0 (x0 : Nat) (x1 : Int) (x2 : Int) (x3 : Int) (μ : bz_M) : Option bz_R := bX 291 10 [some (zR x0), some (zI x1), some (zI x2), some (zI x3)] [] μ
noncomputable def x_M_shareOf (a0 : Nat) (a1 : Int) (μ : bz_M) : Option bz_R := bX 292 0 [some (zR a0), some (zI a1), none, none, none, none] [] μ
noncomputable def x_M_shareOf_0 (x0 : Nat) (x2 : Int) (x3 : Int) (x4 : Int) (μ : bz_M) : Option bz_R := bX 292 9 [some (zR x0), none, some (zI x2), some (zI x3), some (zI x4), none] [] μ
noncomputable def x_M_worstScan (a0 : Nat) (a1 : Int) (μ : bz_M) : Option bz_R := bX 293 0 [some (zR a0), some (zI a1), none, none, none, none, none, none] [] μ
noncomputable def x_M_worstScan_0 (x0 : Nat) (x2 : Int) (x3 : Int) (x4 : Int) (x5 : Int) (μ : bz_M) : Option bz_R := bX 293 24 [some (zR x0), none, some (zI x2), some (zI x3), some (zI x4), some (zI x5), none, none] [] μ
noncomputable def x_M_worstScan_1 (x0 : Nat) (x2 : Int) (x3 : Int) (x4 : Int) (x5 : Int) (x6 : Int) (x7 : Int) (μ : bz_M) : Option bz_R := bX 293 42 [some (zR x0), none, some (zI x2), some (zI x3), some (zI x4), some (zI x5), some (zI x6), some (zI x7)] [] μ
noncomputable def x_M_setCheck (a0 : Nat) (a1 : Int) (a2 : Int) (μ : bz_M) : Option bz_R := bX 294 0 [some (zR a0), some (zI a1), some (zI a2), none] [] μ
noncomputable def x_L_law (a0 : Nat) (μ : bz_M) : Option bz_R := bX 295 0 [some (zR a0), none, none, none, none, none, none] [] μ
noncomputable def x_L_law_0 (x0 : Nat) (x1 : Nat) (x2 : Nat) (x3 : Nat) (x4 : Int) (μ : bz_M) : Option bz_R := bX 295 14 [some (zR x0), some (zR x1), some (zR x2), some (zR x3), some (zI x4), none, none] [] μ
noncomputable def x_L_law_sw (x0 : Nat) (x1 : Nat) (x2 : Nat) (x3 : Nat) (x4 : Int) (v : Int) (μ : bz_M) : Option bz_R := bz_go bz_ct bz_mls bX 295 (bz_cds.getD 295 []) 25 [some (zR x0), some (zR x1), some (zR x2), some (zR x3), some (zI x4), none, none] [zI v] μ
noncomputable def d_Row_new (a0 : Nat) (μ : bz_M) : Option bz_R := bz_tg [(5, 1)] (gT μ a0) fun k => bX k 0 (bz_lo (bz_mls.getD k 0) [zR a0]) [] μ
noncomputable def d_Ean_new (a0 : Nat) (μ : bz_M) : Option bz_R := bz_tg [(2, 2)] (gT μ a0) fun k => bX k 0 (bz_lo (bz_mls.getD k 0) [zR a0]) [] μ
noncomputable def d_Int_new (a0 : Nat) (μ : bz_M) : Option bz_R := bz_tg [(3, 4)] (gT μ a0) fun k => bX k 0 (bz_lo (bz_mls.getD k 0) [zR a0]) [] μ
noncomputable def d_Cod_new (a0 : Nat) (μ : bz_M) : Option bz_R := bz_tg [(1, 5)] (gT μ a0) fun k => bX k 0 (bz_lo (bz_mls.getD k 0) [zR a0]) [] μ
noncomputable def d_Tal_new (a0 : Nat) (μ : bz_M) : Option bz_R := bz_tg [(8, 6)] (gT μ a0) fun k => bX k 0 (bz_lo (bz_mls.getD k 0) [zR a0]) [] μ
noncomputable def d_Seq_new (a0 : Nat) (μ : bz_M) : Option bz_R := bz_tg [(7, 7)] (gT μ a0) fun k => bX k 0 (bz_lo (bz_mls.getD k 0) [zR a0]) [] μ
noncomputable def d_Scn_new (a0 : Nat) (μ : bz_M) : Option bz_R := bz_tg [(6, 8)] (gT μ a0) fun k => bX k 0 (bz_lo (bz_mls.getD k 0) [zR a0]) [] μ
noncomputable def d_Sym_new (a0 : Nat) (a1 : Int) (a2 : Int) (a3 : Int) (a4 : Int) (μ : bz_M) : Option bz_R := bz_tg [(1, 3), (2, 3), (3, 3)] (gT μ a0) fun k => bX k 0 (bz_lo (bz_mls.getD k 0) [zR a0, zI a1, zI a2, zI a3, zI a4]) [] μ
noncomputable def d_Rdg_new (a0 : Nat) (μ : bz_M) : Option bz_R := bz_tg [(4, 9)] (gT μ a0) fun k => bX k 0 (bz_lo (bz_mls.getD k 0) [zR a0]) [] μ
noncomputable def d_E_tally (a0 : Nat) (a1 : Int) (μ : bz_M) : Option bz_R := bz_tg [(9, 12)] (gT μ a0) fun k => bX k 0 (bz_lo (bz_mls.getD k 0) [zR a0, zI a1]) [] μ
noncomputable def d_E_problemOf (a0 : Nat) (a1 : Nat) (a2 : Int) (μ : bz_M) : Option bz_R := bz_tg [(9, 59)] (gT μ a0) fun k => bX k 0 (bz_lo (bz_mls.getD k 0) [zR a0, zR a1, zI a2]) [] μ
noncomputable def d_Tal_share (a0 : Nat) (μ : bz_M) : Option bz_R := bz_tg [(8, 64)] (gT μ a0) fun k => bX k 0 (bz_lo (bz_mls.getD k 0) [zR a0]) [] μ
noncomputable def d_Sym_interpret (a0 : Nat) (a1 : Nat) (a2 : Nat) (a3 : Nat) (μ : bz_M) : Option bz_R := bz_tg [(1, 14), (2, 14), (3, 14)] (gT μ a0) fun k => bX k 0 (bz_lo (bz_mls.getD k 0) [zR a0, zR a1, zR a2, zR a3]) [] μ
noncomputable def d_Tal_recount (a0 : Nat) (a1 : Nat) (a2 : Int) (a3 : Nat) (a4 : Int) (μ : bz_M) : Option bz_R := bz_tg [(8, 43)] (gT μ a0) fun k => bX k 0 (bz_lo (bz_mls.getD k 0) [zR a0, zR a1, zI a2, zR a3, zI a4]) [] μ
noncomputable def d_Rdg_clear (a0 : Nat) (μ : bz_M) : Option bz_R := bz_tg [(4, 15)] (gT μ a0) fun k => bX k 0 (bz_lo (bz_mls.getD k 0) [zR a0]) [] μ
noncomputable def d_Sym_findWhole (a0 : Nat) (a1 : Nat) (a2 : Nat) (μ : bz_M) : Option bz_R := bz_tg [(1, 16), (2, 16), (3, 16)] (gT μ a0) fun k => bX k 0 (bz_lo (bz_mls.getD k 0) [zR a0, zR a1, zR a2]) [] μ
noncomputable def d_Row_copyReversed (a0 : Nat) (a1 : Nat) (μ : bz_M) : Option bz_R := bz_tg [(5, 38)] (gT μ a0) fun k => bX k 0 (bz_lo (bz_mls.getD k 0) [zR a0, zR a1]) [] μ
noncomputable def d_Sym_findParts (a0 : Nat) (a1 : Nat) (a2 : Nat) (μ : bz_M) : Option bz_R := bz_tg [(1, 40), (2, 40), (3, 40)] (gT μ a0) fun k => bX k 0 (bz_lo (bz_mls.getD k 0) [zR a0, zR a1, zR a2]) [] μ
noncomputable def d_Rdg_turn (a0 : Nat) (a1 : Int) (μ : bz_M) : Option bz_R := bz_tg [(4, 39)] (gT μ a0) fun k => bX k 0 (bz_lo (bz_mls.getD k 0) [zR a0, zI a1]) [] μ
noncomputable def d_Sym_beginsAt (a0 : Nat) (a1 : Nat) (a2 : Int) (μ : bz_M) : Option bz_R := bz_tg [(1, 17), (2, 20), (3, 22)] (gT μ a0) fun k => bX k 0 (bz_lo (bz_mls.getD k 0) [zR a0, zR a1, zI a2]) [] μ
noncomputable def d_Sym_addWhole (a0 : Nat) (a1 : Nat) (a2 : Int) (a3 : Nat) (μ : bz_M) : Option bz_R := bz_tg [(1, 31), (2, 23), (3, 31)] (gT μ a0) fun k => bX k 0 (bz_lo (bz_mls.getD k 0) [zR a0, zR a1, zI a2, zR a3]) [] μ
noncomputable def d_Row_match (a0 : Nat) (a1 : Int) (a2 : Int) (a3 : Int) (a4 : Nat) (μ : bz_M) : Option bz_R := bz_tg [(5, 18)] (gT μ a0) fun k => bX k 0 (bz_lo (bz_mls.getD k 0) [zR a0, zI a1, zI a2, zI a3, zR a4]) [] μ
noncomputable def d_Row_isQuiet (a0 : Nat) (a1 : Int) (a2 : Int) (a3 : Int) (μ : bz_M) : Option bz_R := bz_tg [(5, 19)] (gT μ a0) fun k => bX k 0 (bz_lo (bz_mls.getD k 0) [zR a0, zI a1, zI a2, zI a3]) [] μ
noncomputable def d_Row_isEven (a0 : Nat) (a1 : Int) (a2 : Int) (μ : bz_M) : Option bz_R := bz_tg [(5, 21)] (gT μ a0) fun k => bX k 0 (bz_lo (bz_mls.getD k 0) [zR a0, zI a1, zI a2]) [] μ
noncomputable def d_Ean_addUnit (a0 : Nat) (a1 : Nat) (a2 : Int) (a3 : Nat) (μ : bz_M) : Option bz_R := bz_tg [(2, 24)] (gT μ a0) fun k => bX k 0 (bz_lo (bz_mls.getD k 0) [zR a0, zR a1, zI a2, zR a3]) [] μ
noncomputable def d_Ean_endsAt (a0 : Nat) (a1 : Nat) (a2 : Int) (μ : bz_M) : Option bz_R := bz_tg [(2, 30)] (gT μ a0) fun k => bX k 0 (bz_lo (bz_mls.getD k 0) [zR a0, zR a1, zI a2]) [] μ
noncomputable def d_Row_has (a0 : Nat) (a1 : Int) (a2 : Int) (μ : bz_M) : Option bz_R := bz_tg [(5, 25)] (gT μ a0) fun k => bX k 0 (bz_lo (bz_mls.getD k 0) [zR a0, zI a1, zI a2]) [] μ
noncomputable def d_Seq_add (a0 : Nat) (a1 : Int) (a2 : Int) (μ : bz_M) : Option bz_R := bz_tg [(7, 29)] (gT μ a0) fun k => bX k 0 (bz_lo (bz_mls.getD k 0) [zR a0, zI a1, zI a2]) [] μ
noncomputable def d_Sym_addGuard (a0 : Nat) (a1 : Nat) (a2 : Int) (a3 : Nat) (μ : bz_M) : Option bz_R := bz_tg [(1, 32), (2, 33), (3, 33)] (gT μ a0) fun k => bX k 0 (bz_lo (bz_mls.getD k 0) [zR a0, zR a1, zI a2, zR a3]) [] μ
noncomputable def d_Sym_addUnit (a0 : Nat) (a1 : Nat) (a2 : Int) (a3 : Nat) (μ : bz_M) : Option bz_R := bz_tg [(1, 34), (2, 24), (3, 35)] (gT μ a0) fun k => bX k 0 (bz_lo (bz_mls.getD k 0) [zR a0, zR a1, zI a2, zR a3]) [] μ
noncomputable def d_Sym_endsAt (a0 : Nat) (a1 : Nat) (a2 : Int) (μ : bz_M) : Option bz_R := bz_tg [(1, 36), (2, 30), (3, 37)] (gT μ a0) fun k => bX k 0 (bz_lo (bz_mls.getD k 0) [zR a0, zR a1, zI a2]) [] μ
noncomputable def d_Sym_addHead (a0 : Nat) (a1 : Nat) (a2 : Int) (a3 : Nat) (μ : bz_M) : Option bz_R := bz_tg [(1, 41), (2, 41), (3, 41)] (gT μ a0) fun k => bX k 0 (bz_lo (bz_mls.getD k 0) [zR a0, zR a1, zI a2, zR a3]) [] μ
noncomputable def d_Sym_addTail (a0 : Nat) (a1 : Nat) (a2 : Int) (a3 : Nat) (μ : bz_M) : Option bz_R := bz_tg [(1, 42), (2, 42), (3, 42)] (gT μ a0) fun k => bX k 0 (bz_lo (bz_mls.getD k 0) [zR a0, zR a1, zI a2, zR a3]) [] μ
noncomputable def d_Tal_supportedLength (a0 : Nat) (a1 : Int) (a2 : Nat) (a3 : Int) (μ : bz_M) : Option bz_R := bz_tg [(8, 44)] (gT μ a0) fun k => bX k 0 (bz_lo (bz_mls.getD k 0) [zR a0, zI a1, zR a2, zI a3]) [] μ
noncomputable def d_Sym_joinedLength (a0 : Nat) (a1 : Int) (a2 : Nat) (a3 : Int) (μ : bz_M) : Option bz_R := bz_tg [(1, 48), (2, 47), (3, 48)] (gT μ a0) fun k => bX k 0 (bz_lo (bz_mls.getD k 0) [zR a0, zI a1, zR a2, zI a3]) [] μ
noncomputable def d_Tal_countVotes (a0 : Nat) (a1 : Nat) (μ : bz_M) : Option bz_R := bz_tg [(8, 55)] (gT μ a0) fun k => bX k 0 (bz_lo (bz_mls.getD k 0) [zR a0, zR a1]) [] μ
noncomputable def d_Tal_majorityAt (a0 : Nat) (a1 : Int) (μ : bz_M) : Option bz_R := bz_tg [(8, 57)] (gT μ a0) fun k => bX k 0 (bz_lo (bz_mls.getD k 0) [zR a0, zI a1]) [] μ
noncomputable def d_Seq_leastConfidence (a0 : Nat) (μ : bz_M) : Option bz_R := bz_tg [(7, 45)] (gT μ a0) fun k => bX k 0 (bz_lo (bz_mls.getD k 0) [zR a0]) [] μ
noncomputable def d_Sym_seam (a0 : Nat) (a1 : Nat) (a2 : Nat) (μ : bz_M) : Option bz_R := bz_tg [(1, 50), (2, 49), (3, 50)] (gT μ a0) fun k => bX k 0 (bz_lo (bz_mls.getD k 0) [zR a0, zR a1, zR a2]) [] μ
noncomputable def d_Seq_endsLike (a0 : Nat) (a1 : Nat) (a2 : Int) (μ : bz_M) : Option bz_R := bz_tg [(7, 51)] (gT μ a0) fun k => bX k 0 (bz_lo (bz_mls.getD k 0) [zR a0, zR a1, zI a2]) [] μ
noncomputable def d_Sym_hasLength (a0 : Nat) (a1 : Int) (μ : bz_M) : Option bz_R := bz_tg [(1, 52), (2, 53), (3, 54)] (gT μ a0) fun k => bX k 0 (bz_lo (bz_mls.getD k 0) [zR a0, zI a1]) [] μ
noncomputable def d_Tal_addVotes (a0 : Nat) (a1 : Nat) (a2 : Int) (μ : bz_M) : Option bz_R := bz_tg [(8, 56)] (gT μ a0) fun k => bX k 0 (bz_lo (bz_mls.getD k 0) [zR a0, zR a1, zI a2]) [] μ
noncomputable def d_Tal_weightOf (a0 : Nat) (a1 : Int) (a2 : Int) (μ : bz_M) : Option bz_R := bz_tg [(8, 58)] (gT μ a0) fun k => bX k 0 (bz_lo (bz_mls.getD k 0) [zR a0, zI a1, zI a2]) [] μ
noncomputable def d_Tal_doubts (a0 : Nat) (μ : bz_M) : Option bz_R := bz_tg [(8, 60)] (gT μ a0) fun k => bX k 0 (bz_lo (bz_mls.getD k 0) [zR a0]) [] μ
noncomputable def d_Seq_copyValues (a0 : Nat) (a1 : Nat) (a2 : Int) (μ : bz_M) : Option bz_R := bz_tg [(7, 61)] (gT μ a0) fun k => bX k 0 (bz_lo (bz_mls.getD k 0) [zR a0, zR a1, zI a2]) [] μ
noncomputable def d_Sym_isRight (a0 : Nat) (a1 : Nat) (μ : bz_M) : Option bz_R := bz_tg [(1, 62), (2, 63), (3, 63)] (gT μ a0) fun k => bX k 0 (bz_lo (bz_mls.getD k 0) [zR a0, zR a1]) [] μ
noncomputable def d_E_append (a0 : Nat) (a1 : Int) (a2 : Int) (a3 : Int) (a4 : Int) (a5 : Int) (μ : bz_M) : Option bz_R := bz_tg [(9, 66)] (gT μ a0) fun k => bX k 0 (bz_lo (bz_mls.getD k 0) [zR a0, zI a1, zI a2, zI a3, zI a4, zI a5]) [] μ
noncomputable def d_E_appendBytes (a0 : Nat) (a1 : Int) (μ : bz_M) : Option bz_R := bz_tg [(9, 67)] (gT μ a0) fun k => bX k 0 (bz_lo (bz_mls.getD k 0) [zR a0, zI a1]) [] μ
noncomputable def d_E_print (a0 : Nat) (a1 : Int) (a2 : Int) (a3 : Int) (a4 : Int) (a5 : Int) (μ : bz_M) : Option bz_R := bz_tg [(9, 69)] (gT μ a0) fun k => bX k 0 (bz_lo (bz_mls.getD k 0) [zR a0, zI a1, zI a2, zI a3, zI a4, zI a5]) [] μ
noncomputable def d_E_requireTextLength (a0 : Nat) (a1 : Int) (μ : bz_M) : Option bz_R := bz_tg [(9, 70)] (gT μ a0) fun k => bX k 0 (bz_lo (bz_mls.getD k 0) [zR a0, zI a1]) [] μ
noncomputable def d_E_takeText (a0 : Nat) (a1 : Int) (μ : bz_M) : Option bz_R := bz_tg [(9, 71)] (gT μ a0) fun k => bX k 0 (bz_lo (bz_mls.getD k 0) [zR a0, zI a1]) [] μ
noncomputable def d_E_isCode (a0 : Nat) (a1 : Nat) (μ : bz_M) : Option bz_R := bz_tg [(9, 81)] (gT μ a0) fun k => bX k 0 (bz_lo (bz_mls.getD k 0) [zR a0, zR a1]) [] μ
noncomputable def d_E_requireRoomForScan (a0 : Nat) (μ : bz_M) : Option bz_R := bz_tg [(9, 84)] (gT μ a0) fun k => bX k 0 (bz_lo (bz_mls.getD k 0) [zR a0]) [] μ
noncomputable def d_Sym_draw (a0 : Nat) (a1 : Nat) (a2 : Nat) (μ : bz_M) : Option bz_R := bz_tg [(1, 85), (2, 87), (3, 89)] (gT μ a0) fun k => bX k 0 (bz_lo (bz_mls.getD k 0) [zR a0, zR a1, zR a2]) [] μ
noncomputable def d_Row_add (a0 : Nat) (a1 : Int) (μ : bz_M) : Option bz_R := bz_tg [(5, 86)] (gT μ a0) fun k => bX k 0 (bz_lo (bz_mls.getD k 0) [zR a0, zI a1]) [] μ
noncomputable def d_E_addPrinted (a0 : Nat) (a1 : Nat) (a2 : Int) (a3 : Int) (a4 : Int) (μ : bz_M) : Option bz_R := bz_tg [(9, 91)] (gT μ a0) fun k => bX k 0 (bz_lo (bz_mls.getD k 0) [zR a0, zR a1, zI a2, zI a3, zI a4]) [] μ
noncomputable def d_E_keepScan (a0 : Nat) (a1 : Nat) (μ : bz_M) : Option bz_R := bz_tg [(9, 92)] (gT μ a0) fun k => bX k 0 (bz_lo (bz_mls.getD k 0) [zR a0, zR a1]) [] μ
noncomputable def d_Str_indexOf (a0 : Nat) (a1 : Int) (μ : bz_M) : Option bz_R := bz_tg [(28, 73)] (gT μ a0) fun k => bX k 0 (bz_lo (bz_mls.getD k 0) [zR a0, zI a1]) [] μ
noncomputable def d_Str_indexOf2 (a0 : Nat) (a1 : Int) (a2 : Int) (μ : bz_M) : Option bz_R := bz_tg [(28, 74)] (gT μ a0) fun k => bX k 0 (bz_lo (bz_mls.getD k 0) [zR a0, zI a1, zI a2]) [] μ
noncomputable def d_Str_isLatin1 (a0 : Nat) (μ : bz_M) : Option bz_R := bz_tg [(28, 75)] (gT μ a0) fun k => bX k 0 (bz_lo (bz_mls.getD k 0) [zR a0]) [] μ
noncomputable def d_Str_length (a0 : Nat) (μ : bz_M) : Option bz_R := bz_tg [(28, 76)] (gT μ a0) fun k => bX k 0 (bz_lo (bz_mls.getD k 0) [zR a0]) [] μ
noncomputable def d_Str_coder (a0 : Nat) (μ : bz_M) : Option bz_R := bz_tg [(28, 77)] (gT μ a0) fun k => bX k 0 (bz_lo (bz_mls.getD k 0) [zR a0]) [] μ
noncomputable def d_Sym_allows (a0 : Nat) (a1 : Int) (a2 : Int) (a3 : Int) (μ : bz_M) : Option bz_R := bz_tg [(1, 82), (2, 83), (3, 83)] (gT μ a0) fun k => bX k 0 (bz_lo (bz_mls.getD k 0) [zR a0, zI a1, zI a2, zI a3]) [] μ
noncomputable def d_E_forget (a0 : Nat) (a1 : Nat) (μ : bz_M) : Option bz_R := bz_tg [(9, 93)] (gT μ a0) fun k => bX k 0 (bz_lo (bz_mls.getD k 0) [zR a0, zR a1]) [] μ
noncomputable def d_E_checkCharacter (a0 : Nat) (a1 : Int) (a2 : Int) (μ : bz_M) : Option bz_R := bz_tg [(9, 95)] (gT μ a0) fun k => bX k 0 (bz_lo (bz_mls.getD k 0) [zR a0, zI a1, zI a2]) [] μ
noncomputable def d_Sym_checkPlace (a0 : Nat) (a1 : Int) (μ : bz_M) : Option bz_R := bz_tg [(1, 96), (2, 97), (3, 97)] (gT μ a0) fun k => bX k 0 (bz_lo (bz_mls.getD k 0) [zR a0, zI a1]) [] μ
noncomputable def d_Seq_insert (a0 : Nat) (a1 : Int) (a2 : Int) (μ : bz_M) : Option bz_R := bz_tg [(7, 98)] (gT μ a0) fun k => bX k 0 (bz_lo (bz_mls.getD k 0) [zR a0, zI a1, zI a2]) [] μ
noncomputable def d_E_rightValue (a0 : Nat) (a1 : Nat) (a2 : Int) (μ : bz_M) : Option bz_R := bz_tg [(9, 99)] (gT μ a0) fun k => bX k 0 (bz_lo (bz_mls.getD k 0) [zR a0, zR a1, zI a2]) [] μ
noncomputable def d_Str_charAt (a0 : Nat) (a1 : Int) (μ : bz_M) : Option bz_R := bz_tg [(28, 101)] (gT μ a0) fun k => bX k 0 (bz_lo (bz_mls.getD k 0) [zR a0, zI a1]) [] μ
noncomputable def d_E_addWidths (a0 : Nat) (a1 : Int) (a2 : Int) (a3 : Int) (a4 : Int) (a5 : Int) (a6 : Int) (μ : bz_M) : Option bz_R := bz_tg [(9, 106)] (gT μ a0) fun k => bX k 0 (bz_lo (bz_mls.getD k 0) [zR a0, zI a1, zI a2, zI a3, zI a4, zI a5, zI a6]) [] μ
noncomputable def d_Row_isWithin (a0 : Nat) (a1 : Int) (a2 : Int) (μ : bz_M) : Option bz_R := bz_tg [(5, 107)] (gT μ a0) fun k => bX k 0 (bz_lo (bz_mls.getD k 0) [zR a0, zI a1, zI a2]) [] μ
noncomputable def d_Row_countBeforeZero (a0 : Nat) (μ : bz_M) : Option bz_R := bz_tg [(5, 108)] (gT μ a0) fun k => bX k 0 (bz_lo (bz_mls.getD k 0) [zR a0]) [] μ
noncomputable def d_E_endScan (a0 : Nat) (μ : bz_M) : Option bz_R := bz_tg [(9, 110)] (gT μ a0) fun k => bX k 0 (bz_lo (bz_mls.getD k 0) [zR a0]) [] μ
noncomputable def d_Row_copy (a0 : Nat) (a1 : Nat) (μ : bz_M) : Option bz_R := bz_tg [(5, 111)] (gT μ a0) fun k => bX k 0 (bz_lo (bz_mls.getD k 0) [zR a0, zR a1]) [] μ
noncomputable def d_E_widthCount (a0 : Nat) (a1 : Int) (μ : bz_M) : Option bz_R := bz_tg [(9, 113)] (gT μ a0) fun k => bX k 0 (bz_lo (bz_mls.getD k 0) [zR a0, zI a1]) [] μ
noncomputable def d_E_requireScan (a0 : Nat) (a1 : Int) (μ : bz_M) : Option bz_R := bz_tg [(9, 114)] (gT μ a0) fun k => bX k 0 (bz_lo (bz_mls.getD k 0) [zR a0, zI a1]) [] μ
noncomputable def d_E_width (a0 : Nat) (a1 : Int) (a2 : Int) (μ : bz_M) : Option bz_R := bz_tg [(9, 116)] (gT μ a0) fun k => bX k 0 (bz_lo (bz_mls.getD k 0) [zR a0, zI a1, zI a2]) [] μ
noncomputable def d_E_setWidth (a0 : Nat) (a1 : Int) (a2 : Int) (a3 : Int) (μ : bz_M) : Option bz_R := bz_tg [(9, 119)] (gT μ a0) fun k => bX k 0 (bz_lo (bz_mls.getD k 0) [zR a0, zI a1, zI a2, zI a3]) [] μ
noncomputable def d_E_cut (a0 : Nat) (a1 : Int) (a2 : Int) (a3 : Int) (μ : bz_M) : Option bz_R := bz_tg [(9, 121)] (gT μ a0) fun k => bX k 0 (bz_lo (bz_mls.getD k 0) [zR a0, zI a1, zI a2, zI a3]) [] μ
noncomputable def d_Row_keep (a0 : Nat) (a1 : Int) (a2 : Int) (μ : bz_M) : Option bz_R := bz_tg [(5, 122)] (gT μ a0) fun k => bX k 0 (bz_lo (bz_mls.getD k 0) [zR a0, zI a1, zI a2]) [] μ
noncomputable def d_E_reverse (a0 : Nat) (a1 : Int) (μ : bz_M) : Option bz_R := bz_tg [(9, 124)] (gT μ a0) fun k => bX k 0 (bz_lo (bz_mls.getD k 0) [zR a0, zI a1]) [] μ
noncomputable def d_E_smear (a0 : Nat) (a1 : Int) (a2 : Int) (μ : bz_M) : Option bz_R := bz_tg [(9, 126)] (gT μ a0) fun k => bX k 0 (bz_lo (bz_mls.getD k 0) [zR a0, zI a1, zI a2]) [] μ
noncomputable def d_Row_widenBars (a0 : Nat) (a1 : Int) (μ : bz_M) : Option bz_R := bz_tg [(5, 127)] (gT μ a0) fun k => bX k 0 (bz_lo (bz_mls.getD k 0) [zR a0, zI a1]) [] μ
noncomputable def d_E_average (a0 : Nat) (a1 : Int) (a2 : Int) (μ : bz_M) : Option bz_R := bz_tg [(9, 129)] (gT μ a0) fun k => bX k 0 (bz_lo (bz_mls.getD k 0) [zR a0, zI a1, zI a2]) [] μ
noncomputable def d_E_removeScan (a0 : Nat) (a1 : Int) (μ : bz_M) : Option bz_R := bz_tg [(9, 131)] (gT μ a0) fun k => bX k 0 (bz_lo (bz_mls.getD k 0) [zR a0, zI a1]) [] μ
noncomputable def d_E_read (a0 : Nat) (a1 : Int) (a2 : Int) (μ : bz_M) : Option bz_R := bz_tg [(9, 133)] (gT μ a0) fun k => bX k 0 (bz_lo (bz_mls.getD k 0) [zR a0, zI a1, zI a2]) [] μ
noncomputable def d_E_reading (a0 : Nat) (a1 : Int) (a2 : Int) (μ : bz_M) : Option bz_R := bz_tg [(9, 134)] (gT μ a0) fun k => bX k 0 (bz_lo (bz_mls.getD k 0) [zR a0, zI a1, zI a2]) [] μ
noncomputable def d_E_readPart (a0 : Nat) (a1 : Int) (a2 : Int) (a3 : Int) (μ : bz_M) : Option bz_R := bz_tg [(9, 136)] (gT μ a0) fun k => bX k 0 (bz_lo (bz_mls.getD k 0) [zR a0, zI a1, zI a2, zI a3]) [] μ
noncomputable def d_Rdg_part (a0 : Nat) (a1 : Int) (μ : bz_M) : Option bz_R := bz_tg [(4, 137)] (gT μ a0) fun k => bX k 0 (bz_lo (bz_mls.getD k 0) [zR a0, zI a1]) [] μ
noncomputable def d_E_character (a0 : Nat) (a1 : Int) (a2 : Int) (a3 : Int) (μ : bz_M) : Option bz_R := bz_tg [(9, 139)] (gT μ a0) fun k => bX k 0 (bz_lo (bz_mls.getD k 0) [zR a0, zI a1, zI a2, zI a3]) [] μ
noncomputable def d_E_confidence (a0 : Nat) (a1 : Int) (a2 : Int) (a3 : Int) (μ : bz_M) : Option bz_R := bz_tg [(9, 141)] (gT μ a0) fun k => bX k 0 (bz_lo (bz_mls.getD k 0) [zR a0, zI a1, zI a2, zI a3]) [] μ
noncomputable def d_E_partCharacter (a0 : Nat) (a1 : Int) (a2 : Int) (a3 : Int) (a4 : Int) (μ : bz_M) : Option bz_R := bz_tg [(9, 143)] (gT μ a0) fun k => bX k 0 (bz_lo (bz_mls.getD k 0) [zR a0, zI a1, zI a2, zI a3, zI a4]) [] μ
noncomputable def d_E_isReversed (a0 : Nat) (a1 : Int) (a2 : Int) (μ : bz_M) : Option bz_R := bz_tg [(9, 145)] (gT μ a0) fun k => bX k 0 (bz_lo (bz_mls.getD k 0) [zR a0, zI a1, zI a2]) [] μ
noncomputable def d_E_agreement (a0 : Nat) (a1 : Int) (a2 : Int) (a3 : Int) (μ : bz_M) : Option bz_R := bz_tg [(9, 147)] (gT μ a0) fun k => bX k 0 (bz_lo (bz_mls.getD k 0) [zR a0, zI a1, zI a2, zI a3]) [] μ
noncomputable def d_E_overlap (a0 : Nat) (a1 : Int) (a2 : Int) (a3 : Int) (μ : bz_M) : Option bz_R := bz_tg [(9, 149)] (gT μ a0) fun k => bX k 0 (bz_lo (bz_mls.getD k 0) [zR a0, zI a1, zI a2, zI a3]) [] μ
noncomputable def d_E_module (a0 : Nat) (a1 : Int) (a2 : Int) (μ : bz_M) : Option bz_R := bz_tg [(9, 151)] (gT μ a0) fun k => bX k 0 (bz_lo (bz_mls.getD k 0) [zR a0, zI a1, zI a2]) [] μ
noncomputable def d_E_drawWhole (a0 : Nat) (a1 : Nat) (a2 : Nat) (μ : bz_M) : Option bz_R := bz_tg [(9, 152)] (gT μ a0) fun k => bX k 0 (bz_lo (bz_mls.getD k 0) [zR a0, zR a1, zR a2]) [] μ
noncomputable def d_Row_sum (a0 : Nat) (a1 : Int) (a2 : Int) (a3 : Int) (μ : bz_M) : Option bz_R := bz_tg [(5, 153)] (gT μ a0) fun k => bX k 0 (bz_lo (bz_mls.getD k 0) [zR a0, zI a1, zI a2, zI a3]) [] μ
noncomputable def d_E_spread (a0 : Nat) (a1 : Int) (a2 : Int) (μ : bz_M) : Option bz_R := bz_tg [(9, 155)] (gT μ a0) fun k => bX k 0 (bz_lo (bz_mls.getD k 0) [zR a0, zI a1, zI a2]) [] μ
noncomputable def d_E_mergedLength (a0 : Nat) (a1 : Int) (a2 : Int) (a3 : Int) (μ : bz_M) : Option bz_R := bz_tg [(9, 158)] (gT μ a0) fun k => bX k 0 (bz_lo (bz_mls.getD k 0) [zR a0, zI a1, zI a2, zI a3]) [] μ
noncomputable def d_E_mergedCharacter (a0 : Nat) (a1 : Int) (a2 : Int) (a3 : Int) (a4 : Int) (μ : bz_M) : Option bz_R := bz_tg [(9, 160)] (gT μ a0) fun k => bX k 0 (bz_lo (bz_mls.getD k 0) [zR a0, zI a1, zI a2, zI a3, zI a4]) [] μ
noncomputable def d_E_bestScan (a0 : Nat) (a1 : Int) (μ : bz_M) : Option bz_R := bz_tg [(9, 162)] (gT μ a0) fun k => bX k 0 (bz_lo (bz_mls.getD k 0) [zR a0, zI a1]) [] μ
noncomputable def d_E_length (a0 : Nat) (a1 : Int) (μ : bz_M) : Option bz_R := bz_tg [(9, 164)] (gT μ a0) fun k => bX k 0 (bz_lo (bz_mls.getD k 0) [zR a0, zI a1]) [] μ
noncomputable def d_E_weight (a0 : Nat) (a1 : Int) (a2 : Int) (a3 : Int) (μ : bz_M) : Option bz_R := bz_tg [(9, 166)] (gT μ a0) fun k => bX k 0 (bz_lo (bz_mls.getD k 0) [zR a0, zI a1, zI a2, zI a3]) [] μ
noncomputable def d_E_voted (a0 : Nat) (a1 : Int) (a2 : Int) (μ : bz_M) : Option bz_R := bz_tg [(9, 168)] (gT μ a0) fun k => bX k 0 (bz_lo (bz_mls.getD k 0) [zR a0, zI a1, zI a2]) [] μ
noncomputable def d_E_runnerUp (a0 : Nat) (a1 : Int) (a2 : Int) (μ : bz_M) : Option bz_R := bz_tg [(9, 170)] (gT μ a0) fun k => bX k 0 (bz_lo (bz_mls.getD k 0) [zR a0, zI a1, zI a2]) [] μ
noncomputable def d_E_problem (a0 : Nat) (a1 : Int) (μ : bz_M) : Option bz_R := bz_tg [(9, 173)] (gT μ a0) fun k => bX k 0 (bz_lo (bz_mls.getD k 0) [zR a0, zI a1]) [] μ
noncomputable def d_E_doubtful (a0 : Nat) (a1 : Int) (μ : bz_M) : Option bz_R := bz_tg [(9, 175)] (gT μ a0) fun k => bX k 0 (bz_lo (bz_mls.getD k 0) [zR a0, zI a1]) [] μ
noncomputable def d_Tal_firstDoubt (a0 : Nat) (μ : bz_M) : Option bz_R := bz_tg [(8, 176)] (gT μ a0) fun k => bX k 0 (bz_lo (bz_mls.getD k 0) [zR a0]) [] μ
noncomputable def d_E_repaired (a0 : Nat) (a1 : Int) (μ : bz_M) : Option bz_R := bz_tg [(9, 178)] (gT μ a0) fun k => bX k 0 (bz_lo (bz_mls.getD k 0) [zR a0, zI a1]) [] μ
noncomputable def d_E_worstScan (a0 : Nat) (a1 : Int) (μ : bz_M) : Option bz_R := bz_tg [(9, 180)] (gT μ a0) fun k => bX k 0 (bz_lo (bz_mls.getD k 0) [zR a0, zI a1]) [] μ
noncomputable def d_Tal_disagreements (a0 : Nat) (a1 : Nat) (μ : bz_M) : Option bz_R := bz_tg [(8, 181)] (gT μ a0) fun k => bX k 0 (bz_lo (bz_mls.getD k 0) [zR a0, zR a1]) [] μ
noncomputable def d_E_setCheck (a0 : Nat) (a1 : Int) (a2 : Int) (μ : bz_M) : Option bz_R := bz_tg [(9, 183)] (gT μ a0) fun k => bX k 0 (bz_lo (bz_mls.getD k 0) [zR a0, zI a1, zI a2]) [] μ
noncomputable def d_M_canPrint (a0 : Nat) (a1 : Int) (a2 : Int) (a3 : Int) (a4 : Int) (μ : bz_M) : Option bz_R := bz_tg [(10, 190)] (gT μ a0) fun k => bX k 0 (bz_lo (bz_mls.getD k 0) [zR a0, zI a1, zI a2, zI a3, zI a4]) [] μ
noncomputable def d_M_laysModules (a0 : Nat) (a1 : Int) (a2 : Int) (μ : bz_M) : Option bz_R := bz_tg [(10, 195)] (gT μ a0) fun k => bX k 0 (bz_lo (bz_mls.getD k 0) [zR a0, zI a1, zI a2]) [] μ
noncomputable def d_M_areCharacters (a0 : Nat) (a1 : Int) (a2 : Int) (μ : bz_M) : Option bz_R := bz_tg [(10, 192)] (gT μ a0) fun k => bX k 0 (bz_lo (bz_mls.getD k 0) [zR a0, zI a1, zI a2]) [] μ
noncomputable def d_M_laysEan (a0 : Nat) (μ : bz_M) : Option bz_R := bz_tg [(10, 196)] (gT μ a0) fun k => bX k 0 (bz_lo (bz_mls.getD k 0) [zR a0]) [] μ
noncomputable def d_M_laysPairs (a0 : Nat) (a1 : Int) (μ : bz_M) : Option bz_R := bz_tg [(10, 199)] (gT μ a0) fun k => bX k 0 (bz_lo (bz_mls.getD k 0) [zR a0, zI a1]) [] μ
noncomputable def d_M_laysCodabar (a0 : Nat) (a1 : Int) (μ : bz_M) : Option bz_R := bz_tg [(10, 201)] (gT μ a0) fun k => bX k 0 (bz_lo (bz_mls.getD k 0) [zR a0, zI a1]) [] μ
noncomputable def d_M_laysOnes (a0 : Nat) (a1 : Int) (μ : bz_M) : Option bz_R := bz_tg [(10, 197)] (gT μ a0) fun k => bX k 0 (bz_lo (bz_mls.getD k 0) [zR a0, zI a1]) [] μ
noncomputable def d_M_lays (a0 : Nat) (a1 : Int) (μ : bz_M) : Option bz_R := bz_tg [(10, 198)] (gT μ a0) fun k => bX k 0 (bz_lo (bz_mls.getD k 0) [zR a0, zI a1]) [] μ
noncomputable def d_M_isScan (a0 : Nat) (a1 : Int) (μ : bz_M) : Option bz_R := bz_tg [(10, 208)] (gT μ a0) fun k => bX k 0 (bz_lo (bz_mls.getD k 0) [zR a0, zI a1]) [] μ
noncomputable def d_M_hasWidth (a0 : Nat) (a1 : Int) (a2 : Int) (μ : bz_M) : Option bz_R := bz_tg [(10, 210)] (gT μ a0) fun k => bX k 0 (bz_lo (bz_mls.getD k 0) [zR a0, zI a1, zI a2]) [] μ
noncomputable def d_M_laysRow (a0 : Nat) (a1 : Int) (a2 : Int) (μ : bz_M) : Option bz_R := bz_tg [(10, 214)] (gT μ a0) fun k => bX k 0 (bz_lo (bz_mls.getD k 0) [zR a0, zI a1, zI a2]) [] μ
noncomputable def d_M_reads (a0 : Nat) (a1 : Int) (a2 : Int) (μ : bz_M) : Option bz_R := bz_tg [(10, 219)] (gT μ a0) fun k => bX k 0 (bz_lo (bz_mls.getD k 0) [zR a0, zI a1, zI a2]) [] μ
noncomputable def d_M_manyOf (a0 : Nat) (a1 : Int) (a2 : Int) (μ : bz_M) : Option bz_R := bz_tg [(10, 249)] (gT μ a0) fun k => bX k 0 (bz_lo (bz_mls.getD k 0) [zR a0, zI a1, zI a2]) [] μ
noncomputable def d_M_readsScan (a0 : Nat) (a1 : Int) (a2 : Int) (μ : bz_M) : Option bz_R := bz_tg [(10, 220)] (gT μ a0) fun k => bX k 0 (bz_lo (bz_mls.getD k 0) [zR a0, zI a1, zI a2]) [] μ
noncomputable def d_M_isWhole (a0 : Nat) (a1 : Int) (a2 : Int) (μ : bz_M) : Option bz_R := bz_tg [(10, 221)] (gT μ a0) fun k => bX k 0 (bz_lo (bz_mls.getD k 0) [zR a0, zI a1, zI a2]) [] μ
noncomputable def d_M_hasParts (a0 : Nat) (a1 : Int) (a2 : Int) (μ : bz_M) : Option bz_R := bz_tg [(10, 245)] (gT μ a0) fun k => bX k 0 (bz_lo (bz_mls.getD k 0) [zR a0, zI a1, zI a2]) [] μ
noncomputable def d_M_isWholeFrom (a0 : Nat) (a1 : Int) (a2 : Int) (μ : bz_M) : Option bz_R := bz_tg [(10, 222)] (gT μ a0) fun k => bX k 0 (bz_lo (bz_mls.getD k 0) [zR a0, zI a1, zI a2]) [] μ
noncomputable def d_M_keeps (a0 : Nat) (a1 : Int) (a2 : Int) (μ : bz_M) : Option bz_R := bz_tg [(10, 244)] (gT μ a0) fun k => bX k 0 (bz_lo (bz_mls.getD k 0) [zR a0, zI a1, zI a2]) [] μ
noncomputable def d_M_isBeginning (a0 : Nat) (a1 : Int) (a2 : Int) (μ : bz_M) : Option bz_R := bz_tg [(10, 223)] (gT μ a0) fun k => bX k 0 (bz_lo (bz_mls.getD k 0) [zR a0, zI a1, zI a2]) [] μ
noncomputable def d_M_isWholeEan (a0 : Nat) (a1 : Int) (μ : bz_M) : Option bz_R := bz_tg [(10, 230)] (gT μ a0) fun k => bX k 0 (bz_lo (bz_mls.getD k 0) [zR a0, zI a1]) [] μ
noncomputable def d_M_isWholePairs (a0 : Nat) (a1 : Int) (μ : bz_M) : Option bz_R := bz_tg [(10, 239)] (gT μ a0) fun k => bX k 0 (bz_lo (bz_mls.getD k 0) [zR a0, zI a1]) [] μ
noncomputable def d_M_isWholeCodabar (a0 : Nat) (a1 : Int) (μ : bz_M) : Option bz_R := bz_tg [(10, 242)] (gT μ a0) fun k => bX k 0 (bz_lo (bz_mls.getD k 0) [zR a0, zI a1]) [] μ
noncomputable def d_M_exists (a0 : Nat) (a1 : Int) (a2 : Int) (μ : bz_M) : Option bz_R := bz_tg [(10, 225)] (gT μ a0) fun k => bX k 0 (bz_lo (bz_mls.getD k 0) [zR a0, zI a1, zI a2]) [] μ
noncomputable def d_M_sevenAt (a0 : Nat) (a1 : Int) (μ : bz_M) : Option bz_R := bz_tg [(10, 226)] (gT μ a0) fun k => bX k 0 (bz_lo (bz_mls.getD k 0) [zR a0, zI a1]) [] μ
noncomputable def d_M_leastOf (a0 : Nat) (a1 : Int) (a2 : Int) (μ : bz_M) : Option bz_R := bz_tg [(10, 229)] (gT μ a0) fun k => bX k 0 (bz_lo (bz_mls.getD k 0) [zR a0, zI a1, zI a2]) [] μ
noncomputable def d_M_areEven (a0 : Nat) (a1 : Int) (a2 : Int) (μ : bz_M) : Option bz_R := bz_tg [(10, 228)] (gT μ a0) fun k => bX k 0 (bz_lo (bz_mls.getD k 0) [zR a0, zI a1, zI a2]) [] μ
noncomputable def d_M_readsWides (a0 : Nat) (a1 : Int) (a2 : Int) (a3 : Int) (μ : bz_M) : Option bz_R := bz_tg [(10, 227)] (gT μ a0) fun k => bX k 0 (bz_lo (bz_mls.getD k 0) [zR a0, zI a1, zI a2, zI a3]) [] μ
noncomputable def d_M_readsDigits (a0 : Nat) (a1 : Int) (μ : bz_M) : Option bz_R := bz_tg [(10, 231)] (gT μ a0) fun k => bX k 0 (bz_lo (bz_mls.getD k 0) [zR a0, zI a1]) [] μ
noncomputable def d_M_isEnd (a0 : Nat) (a1 : Int) (a2 : Int) (μ : bz_M) : Option bz_R := bz_tg [(10, 237)] (gT μ a0) fun k => bX k 0 (bz_lo (bz_mls.getD k 0) [zR a0, zI a1, zI a2]) [] μ
noncomputable def d_M_readsDigit (a0 : Nat) (a1 : Int) (μ : bz_M) : Option bz_R := bz_tg [(10, 232)] (gT μ a0) fun k => bX k 0 (bz_lo (bz_mls.getD k 0) [zR a0, zI a1]) [] μ
noncomputable def d_M_signsOne (a0 : Nat) (a1 : Int) (a2 : Int) (μ : bz_M) : Option bz_R := bz_tg [(10, 236)] (gT μ a0) fun k => bX k 0 (bz_lo (bz_mls.getD k 0) [zR a0, zI a1, zI a2]) [] μ
noncomputable def d_M_readsPair (a0 : Nat) (a1 : Int) (μ : bz_M) : Option bz_R := bz_tg [(10, 240)] (gT μ a0) fun k => bX k 0 (bz_lo (bz_mls.getD k 0) [zR a0, zI a1]) [] μ
noncomputable def d_M_readsFive (a0 : Nat) (a1 : Int) (μ : bz_M) : Option bz_R := bz_tg [(10, 241)] (gT μ a0) fun k => bX k 0 (bz_lo (bz_mls.getD k 0) [zR a0, zI a1]) [] μ
noncomputable def d_M_readsSeven (a0 : Nat) (a1 : Int) (a2 : Int) (μ : bz_M) : Option bz_R := bz_tg [(10, 243)] (gT μ a0) fun k => bX k 0 (bz_lo (bz_mls.getD k 0) [zR a0, zI a1, zI a2]) [] μ
noncomputable def d_M_readsHead (a0 : Nat) (a1 : Int) (a2 : Int) (μ : bz_M) : Option bz_R := bz_tg [(10, 246)] (gT μ a0) fun k => bX k 0 (bz_lo (bz_mls.getD k 0) [zR a0, zI a1, zI a2]) [] μ
noncomputable def d_M_readsTail (a0 : Nat) (a1 : Int) (a2 : Int) (μ : bz_M) : Option bz_R := bz_tg [(10, 247)] (gT μ a0) fun k => bX k 0 (bz_lo (bz_mls.getD k 0) [zR a0, zI a1, zI a2]) [] μ
noncomputable def d_M_partsTo (a0 : Nat) (a1 : Int) (a2 : Int) (μ : bz_M) : Option bz_R := bz_tg [(10, 248)] (gT μ a0) fun k => bX k 0 (bz_lo (bz_mls.getD k 0) [zR a0, zI a1, zI a2]) [] μ
noncomputable def d_M_has (a0 : Nat) (a1 : Int) (a2 : Int) (a3 : Int) (a4 : Int) (μ : bz_M) : Option bz_R := bz_tg [(10, 252)] (gT μ a0) fun k => bX k 0 (bz_lo (bz_mls.getD k 0) [zR a0, zI a1, zI a2, zI a3, zI a4]) [] μ
noncomputable def d_M_signOf (a0 : Nat) (a1 : Int) (a2 : Int) (a3 : Int) (μ : bz_M) : Option bz_R := bz_tg [(10, 253)] (gT μ a0) fun k => bX k 0 (bz_lo (bz_mls.getD k 0) [zR a0, zI a1, zI a2, zI a3]) [] μ
noncomputable def d_M_weightOf (a0 : Nat) (a1 : Int) (a2 : Int) (a3 : Int) (μ : bz_M) : Option bz_R := bz_tg [(10, 255)] (gT μ a0) fun k => bX k 0 (bz_lo (bz_mls.getD k 0) [zR a0, zI a1, zI a2, zI a3]) [] μ
noncomputable def d_M_measures (a0 : Nat) (a1 : Int) (a2 : Int) (μ : bz_M) : Option bz_R := bz_tg [(10, 259)] (gT μ a0) fun k => bX k 0 (bz_lo (bz_mls.getD k 0) [zR a0, zI a1, zI a2]) [] μ
noncomputable def d_M_readsAll (a0 : Nat) (a1 : Int) (μ : bz_M) : Option bz_R := bz_tg [(10, 262)] (gT μ a0) fun k => bX k 0 (bz_lo (bz_mls.getD k 0) [zR a0, zI a1]) [] μ
noncomputable def d_M_mostOverlap (a0 : Nat) (a1 : Int) (a2 : Int) (μ : bz_M) : Option bz_R := bz_tg [(10, 264)] (gT μ a0) fun k => bX k 0 (bz_lo (bz_mls.getD k 0) [zR a0, zI a1, zI a2]) [] μ
noncomputable def d_M_overlaps (a0 : Nat) (a1 : Int) (a2 : Int) (a3 : Int) (μ : bz_M) : Option bz_R := bz_tg [(10, 265)] (gT μ a0) fun k => bX k 0 (bz_lo (bz_mls.getD k 0) [zR a0, zI a1, zI a2, zI a3]) [] μ
noncomputable def d_M_mergesNow (a0 : Nat) (a1 : Int) (a2 : Int) (a3 : Int) (μ : bz_M) : Option bz_R := bz_tg [(10, 267)] (gT μ a0) fun k => bX k 0 (bz_lo (bz_mls.getD k 0) [zR a0, zI a1, zI a2, zI a3]) [] μ
noncomputable def d_M_merges (a0 : Nat) (a1 : Int) (a2 : Int) (a3 : Int) (μ : bz_M) : Option bz_R := bz_tg [(10, 268)] (gT μ a0) fun k => bX k 0 (bz_lo (bz_mls.getD k 0) [zR a0, zI a1, zI a2, zI a3]) [] μ
noncomputable def d_M_leastWeight (a0 : Nat) (a1 : Int) (μ : bz_M) : Option bz_R := bz_tg [(10, 271)] (gT μ a0) fun k => bX k 0 (bz_lo (bz_mls.getD k 0) [zR a0, zI a1]) [] μ
noncomputable def d_M_lengthOf (a0 : Nat) (a1 : Int) (μ : bz_M) : Option bz_R := bz_tg [(10, 273)] (gT μ a0) fun k => bX k 0 (bz_lo (bz_mls.getD k 0) [zR a0, zI a1]) [] μ
noncomputable def d_M_wholeLength (a0 : Nat) (μ : bz_M) : Option bz_R := bz_tg [(10, 274)] (gT μ a0) fun k => bX k 0 (bz_lo (bz_mls.getD k 0) [zR a0]) [] μ
noncomputable def d_M_hasAny (a0 : Nat) (a1 : Int) (μ : bz_M) : Option bz_R := bz_tg [(10, 275)] (gT μ a0) fun k => bX k 0 (bz_lo (bz_mls.getD k 0) [zR a0, zI a1]) [] μ
noncomputable def d_M_longestMerge (a0 : Nat) (a1 : Int) (μ : bz_M) : Option bz_R := bz_tg [(10, 276)] (gT μ a0) fun k => bX k 0 (bz_lo (bz_mls.getD k 0) [zR a0, zI a1]) [] μ
noncomputable def d_M_hasPlace (a0 : Nat) (a1 : Int) (a2 : Int) (μ : bz_M) : Option bz_R := bz_tg [(10, 278)] (gT μ a0) fun k => bX k 0 (bz_lo (bz_mls.getD k 0) [zR a0, zI a1, zI a2]) [] μ
noncomputable def d_M_allAt (a0 : Nat) (a1 : Int) (μ : bz_M) : Option bz_R := bz_tg [(10, 281)] (gT μ a0) fun k => bX k 0 (bz_lo (bz_mls.getD k 0) [zR a0, zI a1]) [] μ
noncomputable def d_M_laysVotes (a0 : Nat) (a1 : Int) (μ : bz_M) : Option bz_R := bz_tg [(10, 279)] (gT μ a0) fun k => bX k 0 (bz_lo (bz_mls.getD k 0) [zR a0, zI a1]) [] μ
noncomputable def d_M_adds (a0 : Nat) (a1 : Int) (a2 : Int) (a3 : Int) (μ : bz_M) : Option bz_R := bz_tg [(10, 280)] (gT μ a0) fun k => bX k 0 (bz_lo (bz_mls.getD k 0) [zR a0, zI a1, zI a2, zI a3]) [] μ
noncomputable def d_M_votedAt (a0 : Nat) (a1 : Int) (μ : bz_M) : Option bz_R := bz_tg [(10, 283)] (gT μ a0) fun k => bX k 0 (bz_lo (bz_mls.getD k 0) [zR a0, zI a1]) [] μ
noncomputable def d_M_problemOf (a0 : Nat) (a1 : Int) (μ : bz_M) : Option bz_R := bz_tg [(10, 286)] (gT μ a0) fun k => bX k 0 (bz_lo (bz_mls.getD k 0) [zR a0, zI a1]) [] μ
noncomputable def d_M_doubtFrom (a0 : Nat) (a1 : Int) (a2 : Int) (μ : bz_M) : Option bz_R := bz_tg [(10, 287)] (gT μ a0) fun k => bX k 0 (bz_lo (bz_mls.getD k 0) [zR a0, zI a1, zI a2]) [] μ
noncomputable def d_M_isRight (a0 : Nat) (a1 : Int) (a2 : Int) (a3 : Int) (a4 : Int) (μ : bz_M) : Option bz_R := bz_tg [(10, 288)] (gT μ a0) fun k => bX k 0 (bz_lo (bz_mls.getD k 0) [zR a0, zI a1, zI a2, zI a3, zI a4]) [] μ
noncomputable def d_M_shareOf (a0 : Nat) (a1 : Int) (μ : bz_M) : Option bz_R := bz_tg [(10, 292)] (gT μ a0) fun k => bX k 0 (bz_lo (bz_mls.getD k 0) [zR a0, zI a1]) [] μ
noncomputable def d_E_new (a0 : Nat) (μ : bz_M) : Option bz_R := bz_tg [(9, 0)] (gT μ a0) fun k => bX k 0 (bz_lo (bz_mls.getD k 0) [zR a0]) [] μ
noncomputable def d_M_new (a0 : Nat) (μ : bz_M) : Option bz_R := bz_tg [(10, 184)] (gT μ a0) fun k => bX k 0 (bz_lo (bz_mls.getD k 0) [zR a0]) [] μ
theorem d_Row_new_5 (a0 : Nat) (μ : bz_M) (h : gT μ a0 = 5) : d_Row_new a0 μ = x_Row_new a0 μ := by unfold d_Row_new; rw [h]; rfl
theorem d_Ean_new_2 (a0 : Nat) (μ : bz_M) (h : gT μ a0 = 2) : d_Ean_new a0 μ = x_Ean_new a0 μ := by unfold d_Ean_new; rw [h]; rfl
theorem d_Int_new_3 (a0 : Nat) (μ : bz_M) (h : gT μ a0 = 3) : d_Int_new a0 μ = x_Int_new a0 μ := by unfold d_Int_new; rw [h]; rfl
theorem d_Cod_new_1 (a0 : Nat) (μ : bz_M) (h : gT μ a0 = 1) : d_Cod_new a0 μ = x_Cod_new a0 μ := by unfold d_Cod_new; rw [h]; rfl
theorem d_Tal_new_8 (a0 : Nat) (μ : bz_M) (h : gT μ a0 = 8) : d_Tal_new a0 μ = x_Tal_new a0 μ := by unfold d_Tal_new; rw [h]; rfl
theorem d_Seq_new_7 (a0 : Nat) (μ : bz_M) (h : gT μ a0 = 7) : d_Seq_new a0 μ = x_Seq_new a0 μ := by unfold d_Seq_new; rw [h]; rfl
theorem d_Scn_new_6 (a0 : Nat) (μ : bz_M) (h : gT μ a0 = 6) : d_Scn_new a0 μ = x_Scn_new a0 μ := by unfold d_Scn_new; rw [h]; rfl
theorem d_Sym_new_1 (a0 : Nat) (a1 : Int) (a2 : Int) (a3 : Int) (a4 : Int) (μ : bz_M) (h : gT μ a0 = 1) : d_Sym_new a0 a1 a2 a3 a4 μ = x_Sym_new a0 a1 a2 a3 a4 μ := by unfold d_Sym_new; rw [h]; rfl
theorem d_Sym_new_2 (a0 : Nat) (a1 : Int) (a2 : Int) (a3 : Int) (a4 : Int) (μ : bz_M) (h : gT μ a0 = 2) : d_Sym_new a0 a1 a2 a3 a4 μ = x_Sym_new a0 a1 a2 a3 a4 μ := by unfold d_Sym_new; rw [h]; rfl
theorem d_Sym_new_3 (a0 : Nat) (a1 : Int) (a2 : Int) (a3 : Int) (a4 : Int) (μ : bz_M) (h : gT μ a0 = 3) : d_Sym_new a0 a1 a2 a3 a4 μ = x_Sym_new a0 a1 a2 a3 a4 μ := by unfold d_Sym_new; rw [h]; rfl
theorem d_Rdg_new_4 (a0 : Nat) (μ : bz_M) (h : gT μ a0 = 4) : d_Rdg_new a0 μ = x_Rdg_new a0 μ := by unfold d_Rdg_new; rw [h]; rfl
theorem d_E_tally_9 (a0 : Nat) (a1 : Int) (μ : bz_M) (h : gT μ a0 = 9) : d_E_tally a0 a1 μ = x_E_tally a0 a1 μ := by unfold d_E_tally; rw [h]; rfl
theorem d_E_problemOf_9 (a0 : Nat) (a1 : Nat) (a2 : Int) (μ : bz_M) (h : gT μ a0 = 9) : d_E_problemOf a0 a1 a2 μ = x_E_problemOf a0 a1 a2 μ := by unfold d_E_problemOf; rw [h]; rfl
theorem d_Tal_share_8 (a0 : Nat) (μ : bz_M) (h : gT μ a0 = 8) : d_Tal_share a0 μ = x_Tal_share a0 μ := by unfold d_Tal_share; rw [h]; rfl
theorem d_Sym_interpret_1 (a0 : Nat) (a1 : Nat) (a2 : Nat) (a3 : Nat) (μ : bz_M) (h : gT μ a0 = 1) : d_Sym_interpret a0 a1 a2 a3 μ = x_Sym_interpret a0 a1 a2 a3 μ := by unfold d_Sym_interpret; rw [h]; rfl
theorem d_Sym_interpret_2 (a0 : Nat) (a1 : Nat) (a2 : Nat) (a3 : Nat) (μ : bz_M) (h : gT μ a0 = 2) : d_Sym_interpret a0 a1 a2 a3 μ = x_Sym_interpret a0 a1 a2 a3 μ := by unfold d_Sym_interpret; rw [h]; rfl
theorem d_Sym_interpret_3 (a0 : Nat) (a1 : Nat) (a2 : Nat) (a3 : Nat) (μ : bz_M) (h : gT μ a0 = 3) : d_Sym_interpret a0 a1 a2 a3 μ = x_Sym_interpret a0 a1 a2 a3 μ := by unfold d_Sym_interpret; rw [h]; rfl
theorem d_Tal_recount_8 (a0 : Nat) (a1 : Nat) (a2 : Int) (a3 : Nat) (a4 : Int) (μ : bz_M) (h : gT μ a0 = 8) : d_Tal_recount a0 a1 a2 a3 a4 μ = x_Tal_recount a0 a1 a2 a3 a4 μ := by unfold d_Tal_recount; rw [h]; rfl
theorem d_Rdg_clear_4 (a0 : Nat) (μ : bz_M) (h : gT μ a0 = 4) : d_Rdg_clear a0 μ = x_Rdg_clear a0 μ := by unfold d_Rdg_clear; rw [h]; rfl
theorem d_Sym_findWhole_1 (a0 : Nat) (a1 : Nat) (a2 : Nat) (μ : bz_M) (h : gT μ a0 = 1) : d_Sym_findWhole a0 a1 a2 μ = x_Sym_findWhole a0 a1 a2 μ := by unfold d_Sym_findWhole; rw [h]; rfl
theorem d_Sym_findWhole_2 (a0 : Nat) (a1 : Nat) (a2 : Nat) (μ : bz_M) (h : gT μ a0 = 2) : d_Sym_findWhole a0 a1 a2 μ = x_Sym_findWhole a0 a1 a2 μ := by unfold d_Sym_findWhole; rw [h]; rfl
theorem d_Sym_findWhole_3 (a0 : Nat) (a1 : Nat) (a2 : Nat) (μ : bz_M) (h : gT μ a0 = 3) : d_Sym_findWhole a0 a1 a2 μ = x_Sym_findWhole a0 a1 a2 μ := by unfold d_Sym_findWhole; rw [h]; rfl
theorem d_Row_copyReversed_5 (a0 : Nat) (a1 : Nat) (μ : bz_M) (h : gT μ a0 = 5) : d_Row_copyReversed a0 a1 μ = x_Row_copyReversed a0 a1 μ := by unfold d_Row_copyReversed; rw [h]; rfl
theorem d_Sym_findParts_1 (a0 : Nat) (a1 : Nat) (a2 : Nat) (μ : bz_M) (h : gT μ a0 = 1) : d_Sym_findParts a0 a1 a2 μ = x_Sym_findParts a0 a1 a2 μ := by unfold d_Sym_findParts; rw [h]; rfl
theorem d_Sym_findParts_2 (a0 : Nat) (a1 : Nat) (a2 : Nat) (μ : bz_M) (h : gT μ a0 = 2) : d_Sym_findParts a0 a1 a2 μ = x_Sym_findParts a0 a1 a2 μ := by unfold d_Sym_findParts; rw [h]; rfl
theorem d_Sym_findParts_3 (a0 : Nat) (a1 : Nat) (a2 : Nat) (μ : bz_M) (h : gT μ a0 = 3) : d_Sym_findParts a0 a1 a2 μ = x_Sym_findParts a0 a1 a2 μ := by unfold d_Sym_findParts; rw [h]; rfl
theorem d_Rdg_turn_4 (a0 : Nat) (a1 : Int) (μ : bz_M) (h : gT μ a0 = 4) : d_Rdg_turn a0 a1 μ = x_Rdg_turn a0 a1 μ := by unfold d_Rdg_turn; rw [h]; rfl
theorem d_Sym_beginsAt_1 (a0 : Nat) (a1 : Nat) (a2 : Int) (μ : bz_M) (h : gT μ a0 = 1) : d_Sym_beginsAt a0 a1 a2 μ = x_Cod_beginsAt a0 a1 a2 μ := by unfold d_Sym_beginsAt; rw [h]; rfl
theorem d_Sym_beginsAt_2 (a0 : Nat) (a1 : Nat) (a2 : Int) (μ : bz_M) (h : gT μ a0 = 2) : d_Sym_beginsAt a0 a1 a2 μ = x_Ean_beginsAt a0 a1 a2 μ := by unfold d_Sym_beginsAt; rw [h]; rfl
theorem d_Sym_beginsAt_3 (a0 : Nat) (a1 : Nat) (a2 : Int) (μ : bz_M) (h : gT μ a0 = 3) : d_Sym_beginsAt a0 a1 a2 μ = x_Int_beginsAt a0 a1 a2 μ := by unfold d_Sym_beginsAt; rw [h]; rfl
theorem d_Sym_addWhole_1 (a0 : Nat) (a1 : Nat) (a2 : Int) (a3 : Nat) (μ : bz_M) (h : gT μ a0 = 1) : d_Sym_addWhole a0 a1 a2 a3 μ = x_Sym_addWhole a0 a1 a2 a3 μ := by unfold d_Sym_addWhole; rw [h]; rfl
theorem d_Sym_addWhole_2 (a0 : Nat) (a1 : Nat) (a2 : Int) (a3 : Nat) (μ : bz_M) (h : gT μ a0 = 2) : d_Sym_addWhole a0 a1 a2 a3 μ = x_Ean_addWhole a0 a1 a2 a3 μ := by unfold d_Sym_addWhole; rw [h]; rfl
theorem d_Sym_addWhole_3 (a0 : Nat) (a1 : Nat) (a2 : Int) (a3 : Nat) (μ : bz_M) (h : gT μ a0 = 3) : d_Sym_addWhole a0 a1 a2 a3 μ = x_Sym_addWhole a0 a1 a2 a3 μ := by unfold d_Sym_addWhole; rw [h]; rfl
theorem d_Row_match_5 (a0 : Nat) (a1 : Int) (a2 : Int) (a3 : Int) (a4 : Nat) (μ : bz_M) (h : gT μ a0 = 5) : d_Row_match a0 a1 a2 a3 a4 μ = x_Row_match a0 a1 a2 a3 a4 μ := by unfold d_Row_match; rw [h]; rfl
theorem d_Row_isQuiet_5 (a0 : Nat) (a1 : Int) (a2 : Int) (a3 : Int) (μ : bz_M) (h : gT μ a0 = 5) : d_Row_isQuiet a0 a1 a2 a3 μ = x_Row_isQuiet a0 a1 a2 a3 μ := by unfold d_Row_isQuiet; rw [h]; rfl
theorem d_Row_isEven_5 (a0 : Nat) (a1 : Int) (a2 : Int) (μ : bz_M) (h : gT μ a0 = 5) : d_Row_isEven a0 a1 a2 μ = x_Row_isEven a0 a1 a2 μ := by unfold d_Row_isEven; rw [h]; rfl
theorem d_Ean_addUnit_2 (a0 : Nat) (a1 : Nat) (a2 : Int) (a3 : Nat) (μ : bz_M) (h : gT μ a0 = 2) : d_Ean_addUnit a0 a1 a2 a3 μ = x_Ean_addUnit a0 a1 a2 a3 μ := by unfold d_Ean_addUnit; rw [h]; rfl
theorem d_Ean_endsAt_2 (a0 : Nat) (a1 : Nat) (a2 : Int) (μ : bz_M) (h : gT μ a0 = 2) : d_Ean_endsAt a0 a1 a2 μ = x_Ean_endsAt a0 a1 a2 μ := by unfold d_Ean_endsAt; rw [h]; rfl
theorem d_Row_has_5 (a0 : Nat) (a1 : Int) (a2 : Int) (μ : bz_M) (h : gT μ a0 = 5) : d_Row_has a0 a1 a2 μ = x_Row_has a0 a1 a2 μ := by unfold d_Row_has; rw [h]; rfl
theorem d_Seq_add_7 (a0 : Nat) (a1 : Int) (a2 : Int) (μ : bz_M) (h : gT μ a0 = 7) : d_Seq_add a0 a1 a2 μ = x_Seq_add a0 a1 a2 μ := by unfold d_Seq_add; rw [h]; rfl
theorem d_Sym_addGuard_1 (a0 : Nat) (a1 : Nat) (a2 : Int) (a3 : Nat) (μ : bz_M) (h : gT μ a0 = 1) : d_Sym_addGuard a0 a1 a2 a3 μ = x_Cod_addGuard a0 a1 a2 a3 μ := by unfold d_Sym_addGuard; rw [h]; rfl
theorem d_Sym_addGuard_2 (a0 : Nat) (a1 : Nat) (a2 : Int) (a3 : Nat) (μ : bz_M) (h : gT μ a0 = 2) : d_Sym_addGuard a0 a1 a2 a3 μ = x_Sym_addGuard a0 a1 a2 a3 μ := by unfold d_Sym_addGuard; rw [h]; rfl
theorem d_Sym_addGuard_3 (a0 : Nat) (a1 : Nat) (a2 : Int) (a3 : Nat) (μ : bz_M) (h : gT μ a0 = 3) : d_Sym_addGuard a0 a1 a2 a3 μ = x_Sym_addGuard a0 a1 a2 a3 μ := by unfold d_Sym_addGuard; rw [h]; rfl
theorem d_Sym_addUnit_1 (a0 : Nat) (a1 : Nat) (a2 : Int) (a3 : Nat) (μ : bz_M) (h : gT μ a0 = 1) : d_Sym_addUnit a0 a1 a2 a3 μ = x_Cod_addUnit a0 a1 a2 a3 μ := by unfold d_Sym_addUnit; rw [h]; rfl
theorem d_Sym_addUnit_2 (a0 : Nat) (a1 : Nat) (a2 : Int) (a3 : Nat) (μ : bz_M) (h : gT μ a0 = 2) : d_Sym_addUnit a0 a1 a2 a3 μ = x_Ean_addUnit a0 a1 a2 a3 μ := by unfold d_Sym_addUnit; rw [h]; rfl
theorem d_Sym_addUnit_3 (a0 : Nat) (a1 : Nat) (a2 : Int) (a3 : Nat) (μ : bz_M) (h : gT μ a0 = 3) : d_Sym_addUnit a0 a1 a2 a3 μ = x_Int_addUnit a0 a1 a2 a3 μ := by unfold d_Sym_addUnit; rw [h]; rfl
theorem d_Sym_endsAt_1 (a0 : Nat) (a1 : Nat) (a2 : Int) (μ : bz_M) (h : gT μ a0 = 1) : d_Sym_endsAt a0 a1 a2 μ = x_Cod_endsAt a0 a1 a2 μ := by unfold d_Sym_endsAt; rw [h]; rfl
theorem d_Sym_endsAt_2 (a0 : Nat) (a1 : Nat) (a2 : Int) (μ : bz_M) (h : gT μ a0 = 2) : d_Sym_endsAt a0 a1 a2 μ = x_Ean_endsAt a0 a1 a2 μ := by unfold d_Sym_endsAt; rw [h]; rfl
theorem d_Sym_endsAt_3 (a0 : Nat) (a1 : Nat) (a2 : Int) (μ : bz_M) (h : gT μ a0 = 3) : d_Sym_endsAt a0 a1 a2 μ = x_Int_endsAt a0 a1 a2 μ := by unfold d_Sym_endsAt; rw [h]; rfl
theorem d_Sym_addHead_1 (a0 : Nat) (a1 : Nat) (a2 : Int) (a3 : Nat) (μ : bz_M) (h : gT μ a0 = 1) : d_Sym_addHead a0 a1 a2 a3 μ = x_Sym_addHead a0 a1 a2 a3 μ := by unfold d_Sym_addHead; rw [h]; rfl
theorem d_Sym_addHead_2 (a0 : Nat) (a1 : Nat) (a2 : Int) (a3 : Nat) (μ : bz_M) (h : gT μ a0 = 2) : d_Sym_addHead a0 a1 a2 a3 μ = x_Sym_addHead a0 a1 a2 a3 μ := by unfold d_Sym_addHead; rw [h]; rfl
theorem d_Sym_addHead_3 (a0 : Nat) (a1 : Nat) (a2 : Int) (a3 : Nat) (μ : bz_M) (h : gT μ a0 = 3) : d_Sym_addHead a0 a1 a2 a3 μ = x_Sym_addHead a0 a1 a2 a3 μ := by unfold d_Sym_addHead; rw [h]; rfl
theorem d_Sym_addTail_1 (a0 : Nat) (a1 : Nat) (a2 : Int) (a3 : Nat) (μ : bz_M) (h : gT μ a0 = 1) : d_Sym_addTail a0 a1 a2 a3 μ = x_Sym_addTail a0 a1 a2 a3 μ := by unfold d_Sym_addTail; rw [h]; rfl
theorem d_Sym_addTail_2 (a0 : Nat) (a1 : Nat) (a2 : Int) (a3 : Nat) (μ : bz_M) (h : gT μ a0 = 2) : d_Sym_addTail a0 a1 a2 a3 μ = x_Sym_addTail a0 a1 a2 a3 μ := by unfold d_Sym_addTail; rw [h]; rfl
theorem d_Sym_addTail_3 (a0 : Nat) (a1 : Nat) (a2 : Int) (a3 : Nat) (μ : bz_M) (h : gT μ a0 = 3) : d_Sym_addTail a0 a1 a2 a3 μ = x_Sym_addTail a0 a1 a2 a3 μ := by unfold d_Sym_addTail; rw [h]; rfl
theorem d_Tal_supportedLength_8 (a0 : Nat) (a1 : Int) (a2 : Nat) (a3 : Int) (μ : bz_M) (h : gT μ a0 = 8) : d_Tal_supportedLength a0 a1 a2 a3 μ = x_Tal_supportedLength a0 a1 a2 a3 μ := by unfold d_Tal_supportedLength; rw [h]; rfl
theorem d_Sym_joinedLength_1 (a0 : Nat) (a1 : Int) (a2 : Nat) (a3 : Int) (μ : bz_M) (h : gT μ a0 = 1) : d_Sym_joinedLength a0 a1 a2 a3 μ = x_Sym_joinedLength a0 a1 a2 a3 μ := by unfold d_Sym_joinedLength; rw [h]; rfl
theorem d_Sym_joinedLength_2 (a0 : Nat) (a1 : Int) (a2 : Nat) (a3 : Int) (μ : bz_M) (h : gT μ a0 = 2) : d_Sym_joinedLength a0 a1 a2 a3 μ = x_Ean_joinedLength a0 a1 a2 a3 μ := by unfold d_Sym_joinedLength; rw [h]; rfl
theorem d_Sym_joinedLength_3 (a0 : Nat) (a1 : Int) (a2 : Nat) (a3 : Int) (μ : bz_M) (h : gT μ a0 = 3) : d_Sym_joinedLength a0 a1 a2 a3 μ = x_Sym_joinedLength a0 a1 a2 a3 μ := by unfold d_Sym_joinedLength; rw [h]; rfl
theorem d_Tal_countVotes_8 (a0 : Nat) (a1 : Nat) (μ : bz_M) (h : gT μ a0 = 8) : d_Tal_countVotes a0 a1 μ = x_Tal_countVotes a0 a1 μ := by unfold d_Tal_countVotes; rw [h]; rfl
theorem d_Tal_majorityAt_8 (a0 : Nat) (a1 : Int) (μ : bz_M) (h : gT μ a0 = 8) : d_Tal_majorityAt a0 a1 μ = x_Tal_majorityAt a0 a1 μ := by unfold d_Tal_majorityAt; rw [h]; rfl
theorem d_Seq_leastConfidence_7 (a0 : Nat) (μ : bz_M) (h : gT μ a0 = 7) : d_Seq_leastConfidence a0 μ = x_Seq_leastConfidence a0 μ := by unfold d_Seq_leastConfidence; rw [h]; rfl
theorem d_Sym_seam_1 (a0 : Nat) (a1 : Nat) (a2 : Nat) (μ : bz_M) (h : gT μ a0 = 1) : d_Sym_seam a0 a1 a2 μ = x_Sym_seam a0 a1 a2 μ := by unfold d_Sym_seam; rw [h]; rfl
theorem d_Sym_seam_2 (a0 : Nat) (a1 : Nat) (a2 : Nat) (μ : bz_M) (h : gT μ a0 = 2) : d_Sym_seam a0 a1 a2 μ = x_Ean_seam a0 a1 a2 μ := by unfold d_Sym_seam; rw [h]; rfl
theorem d_Sym_seam_3 (a0 : Nat) (a1 : Nat) (a2 : Nat) (μ : bz_M) (h : gT μ a0 = 3) : d_Sym_seam a0 a1 a2 μ = x_Sym_seam a0 a1 a2 μ := by unfold d_Sym_seam; rw [h]; rfl
theorem d_Seq_endsLike_7 (a0 : Nat) (a1 : Nat) (a2 : Int) (μ : bz_M) (h : gT μ a0 = 7) : d_Seq_endsLike a0 a1 a2 μ = x_Seq_endsLike a0 a1 a2 μ := by unfold d_Seq_endsLike; rw [h]; rfl
theorem d_Sym_hasLength_1 (a0 : Nat) (a1 : Int) (μ : bz_M) (h : gT μ a0 = 1) : d_Sym_hasLength a0 a1 μ = x_Cod_hasLength a0 a1 μ := by unfold d_Sym_hasLength; rw [h]; rfl
theorem d_Sym_hasLength_2 (a0 : Nat) (a1 : Int) (μ : bz_M) (h : gT μ a0 = 2) : d_Sym_hasLength a0 a1 μ = x_Ean_hasLength a0 a1 μ := by unfold d_Sym_hasLength; rw [h]; rfl
theorem d_Sym_hasLength_3 (a0 : Nat) (a1 : Int) (μ : bz_M) (h : gT μ a0 = 3) : d_Sym_hasLength a0 a1 μ = x_Int_hasLength a0 a1 μ := by unfold d_Sym_hasLength; rw [h]; rfl
theorem d_Tal_addVotes_8 (a0 : Nat) (a1 : Nat) (a2 : Int) (μ : bz_M) (h : gT μ a0 = 8) : d_Tal_addVotes a0 a1 a2 μ = x_Tal_addVotes a0 a1 a2 μ := by unfold d_Tal_addVotes; rw [h]; rfl
theorem d_Tal_weightOf_8 (a0 : Nat) (a1 : Int) (a2 : Int) (μ : bz_M) (h : gT μ a0 = 8) : d_Tal_weightOf a0 a1 a2 μ = x_Tal_weightOf a0 a1 a2 μ := by unfold d_Tal_weightOf; rw [h]; rfl
theorem d_Tal_doubts_8 (a0 : Nat) (μ : bz_M) (h : gT μ a0 = 8) : d_Tal_doubts a0 μ = x_Tal_doubts a0 μ := by unfold d_Tal_doubts; rw [h]; rfl
theorem d_Seq_copyValues_7 (a0 : Nat) (a1 : Nat) (a2 : Int) (μ : bz_M) (h : gT μ a0 = 7) : d_Seq_copyValues a0 a1 a2 μ = x_Seq_copyValues a0 a1 a2 μ := by unfold d_Seq_copyValues; rw [h]; rfl
theorem d_Sym_isRight_1 (a0 : Nat) (a1 : Nat) (μ : bz_M) (h : gT μ a0 = 1) : d_Sym_isRight a0 a1 μ = x_Cod_isRight a0 a1 μ := by unfold d_Sym_isRight; rw [h]; rfl
theorem d_Sym_isRight_2 (a0 : Nat) (a1 : Nat) (μ : bz_M) (h : gT μ a0 = 2) : d_Sym_isRight a0 a1 μ = x_Sym_isRight a0 a1 μ := by unfold d_Sym_isRight; rw [h]; rfl
theorem d_Sym_isRight_3 (a0 : Nat) (a1 : Nat) (μ : bz_M) (h : gT μ a0 = 3) : d_Sym_isRight a0 a1 μ = x_Sym_isRight a0 a1 μ := by unfold d_Sym_isRight; rw [h]; rfl
theorem d_E_append_9 (a0 : Nat) (a1 : Int) (a2 : Int) (a3 : Int) (a4 : Int) (a5 : Int) (μ : bz_M) (h : gT μ a0 = 9) : d_E_append a0 a1 a2 a3 a4 a5 μ = x_E_append a0 a1 a2 a3 a4 a5 μ := by unfold d_E_append; rw [h]; rfl
theorem d_E_appendBytes_9 (a0 : Nat) (a1 : Int) (μ : bz_M) (h : gT μ a0 = 9) : d_E_appendBytes a0 a1 μ = x_E_appendBytes a0 a1 μ := by unfold d_E_appendBytes; rw [h]; rfl
theorem d_E_print_9 (a0 : Nat) (a1 : Int) (a2 : Int) (a3 : Int) (a4 : Int) (a5 : Int) (μ : bz_M) (h : gT μ a0 = 9) : d_E_print a0 a1 a2 a3 a4 a5 μ = x_E_print a0 a1 a2 a3 a4 a5 μ := by unfold d_E_print; rw [h]; rfl
theorem d_E_requireTextLength_9 (a0 : Nat) (a1 : Int) (μ : bz_M) (h : gT μ a0 = 9) : d_E_requireTextLength a0 a1 μ = x_E_requireTextLength a0 a1 μ := by unfold d_E_requireTextLength; rw [h]; rfl
theorem d_E_takeText_9 (a0 : Nat) (a1 : Int) (μ : bz_M) (h : gT μ a0 = 9) : d_E_takeText a0 a1 μ = x_E_takeText a0 a1 μ := by unfold d_E_takeText; rw [h]; rfl
theorem d_E_isCode_9 (a0 : Nat) (a1 : Nat) (μ : bz_M) (h : gT μ a0 = 9) : d_E_isCode a0 a1 μ = x_E_isCode a0 a1 μ := by unfold d_E_isCode; rw [h]; rfl
theorem d_E_requireRoomForScan_9 (a0 : Nat) (μ : bz_M) (h : gT μ a0 = 9) : d_E_requireRoomForScan a0 μ = x_E_requireRoomForScan a0 μ := by unfold d_E_requireRoomForScan; rw [h]; rfl
theorem d_Sym_draw_1 (a0 : Nat) (a1 : Nat) (a2 : Nat) (μ : bz_M) (h : gT μ a0 = 1) : d_Sym_draw a0 a1 a2 μ = x_Cod_draw a0 a1 a2 μ := by unfold d_Sym_draw; rw [h]; rfl
theorem d_Sym_draw_2 (a0 : Nat) (a1 : Nat) (a2 : Nat) (μ : bz_M) (h : gT μ a0 = 2) : d_Sym_draw a0 a1 a2 μ = x_Ean_draw a0 a1 a2 μ := by unfold d_Sym_draw; rw [h]; rfl
theorem d_Sym_draw_3 (a0 : Nat) (a1 : Nat) (a2 : Nat) (μ : bz_M) (h : gT μ a0 = 3) : d_Sym_draw a0 a1 a2 μ = x_Int_draw a0 a1 a2 μ := by unfold d_Sym_draw; rw [h]; rfl
theorem d_Row_add_5 (a0 : Nat) (a1 : Int) (μ : bz_M) (h : gT μ a0 = 5) : d_Row_add a0 a1 μ = x_Row_add a0 a1 μ := by unfold d_Row_add; rw [h]; rfl
theorem d_E_addPrinted_9 (a0 : Nat) (a1 : Nat) (a2 : Int) (a3 : Int) (a4 : Int) (μ : bz_M) (h : gT μ a0 = 9) : d_E_addPrinted a0 a1 a2 a3 a4 μ = x_E_addPrinted a0 a1 a2 a3 a4 μ := by unfold d_E_addPrinted; rw [h]; rfl
theorem d_E_keepScan_9 (a0 : Nat) (a1 : Nat) (μ : bz_M) (h : gT μ a0 = 9) : d_E_keepScan a0 a1 μ = x_E_keepScan a0 a1 μ := by unfold d_E_keepScan; rw [h]; rfl
theorem d_Str_indexOf_28 (a0 : Nat) (a1 : Int) (μ : bz_M) (h : gT μ a0 = 28) : d_Str_indexOf a0 a1 μ = x_Str_indexOf a0 a1 μ := by unfold d_Str_indexOf; rw [h]; rfl
theorem d_Str_indexOf2_28 (a0 : Nat) (a1 : Int) (a2 : Int) (μ : bz_M) (h : gT μ a0 = 28) : d_Str_indexOf2 a0 a1 a2 μ = x_Str_indexOf2 a0 a1 a2 μ := by unfold d_Str_indexOf2; rw [h]; rfl
theorem d_Str_isLatin1_28 (a0 : Nat) (μ : bz_M) (h : gT μ a0 = 28) : d_Str_isLatin1 a0 μ = x_Str_isLatin1 a0 μ := by unfold d_Str_isLatin1; rw [h]; rfl
theorem d_Str_length_28 (a0 : Nat) (μ : bz_M) (h : gT μ a0 = 28) : d_Str_length a0 μ = x_Str_length a0 μ := by unfold d_Str_length; rw [h]; rfl
theorem d_Str_coder_28 (a0 : Nat) (μ : bz_M) (h : gT μ a0 = 28) : d_Str_coder a0 μ = x_Str_coder a0 μ := by unfold d_Str_coder; rw [h]; rfl
theorem d_Sym_allows_1 (a0 : Nat) (a1 : Int) (a2 : Int) (a3 : Int) (μ : bz_M) (h : gT μ a0 = 1) : d_Sym_allows a0 a1 a2 a3 μ = x_Cod_allows a0 a1 a2 a3 μ := by unfold d_Sym_allows; rw [h]; rfl
theorem d_Sym_allows_2 (a0 : Nat) (a1 : Int) (a2 : Int) (a3 : Int) (μ : bz_M) (h : gT μ a0 = 2) : d_Sym_allows a0 a1 a2 a3 μ = x_Sym_allows a0 a1 a2 a3 μ := by unfold d_Sym_allows; rw [h]; rfl
theorem d_Sym_allows_3 (a0 : Nat) (a1 : Int) (a2 : Int) (a3 : Int) (μ : bz_M) (h : gT μ a0 = 3) : d_Sym_allows a0 a1 a2 a3 μ = x_Sym_allows a0 a1 a2 a3 μ := by unfold d_Sym_allows; rw [h]; rfl
theorem d_E_forget_9 (a0 : Nat) (a1 : Nat) (μ : bz_M) (h : gT μ a0 = 9) : d_E_forget a0 a1 μ = x_E_forget a0 a1 μ := by unfold d_E_forget; rw [h]; rfl
theorem d_E_checkCharacter_9 (a0 : Nat) (a1 : Int) (a2 : Int) (μ : bz_M) (h : gT μ a0 = 9) : d_E_checkCharacter a0 a1 a2 μ = x_E_checkCharacter a0 a1 a2 μ := by unfold d_E_checkCharacter; rw [h]; rfl
theorem d_Sym_checkPlace_1 (a0 : Nat) (a1 : Int) (μ : bz_M) (h : gT μ a0 = 1) : d_Sym_checkPlace a0 a1 μ = x_Cod_checkPlace a0 a1 μ := by unfold d_Sym_checkPlace; rw [h]; rfl
theorem d_Sym_checkPlace_2 (a0 : Nat) (a1 : Int) (μ : bz_M) (h : gT μ a0 = 2) : d_Sym_checkPlace a0 a1 μ = x_Sym_checkPlace a0 a1 μ := by unfold d_Sym_checkPlace; rw [h]; rfl
theorem d_Sym_checkPlace_3 (a0 : Nat) (a1 : Int) (μ : bz_M) (h : gT μ a0 = 3) : d_Sym_checkPlace a0 a1 μ = x_Sym_checkPlace a0 a1 μ := by unfold d_Sym_checkPlace; rw [h]; rfl
theorem d_Seq_insert_7 (a0 : Nat) (a1 : Int) (a2 : Int) (μ : bz_M) (h : gT μ a0 = 7) : d_Seq_insert a0 a1 a2 μ = x_Seq_insert a0 a1 a2 μ := by unfold d_Seq_insert; rw [h]; rfl
theorem d_E_rightValue_9 (a0 : Nat) (a1 : Nat) (a2 : Int) (μ : bz_M) (h : gT μ a0 = 9) : d_E_rightValue a0 a1 a2 μ = x_E_rightValue a0 a1 a2 μ := by unfold d_E_rightValue; rw [h]; rfl
theorem d_Str_charAt_28 (a0 : Nat) (a1 : Int) (μ : bz_M) (h : gT μ a0 = 28) : d_Str_charAt a0 a1 μ = x_Str_charAt a0 a1 μ := by unfold d_Str_charAt; rw [h]; rfl
theorem d_E_addWidths_9 (a0 : Nat) (a1 : Int) (a2 : Int) (a3 : Int) (a4 : Int) (a5 : Int) (a6 : Int) (μ : bz_M) (h : gT μ a0 = 9) : d_E_addWidths a0 a1 a2 a3 a4 a5 a6 μ = x_E_addWidths a0 a1 a2 a3 a4 a5 a6 μ := by unfold d_E_addWidths; rw [h]; rfl
theorem d_Row_isWithin_5 (a0 : Nat) (a1 : Int) (a2 : Int) (μ : bz_M) (h : gT μ a0 = 5) : d_Row_isWithin a0 a1 a2 μ = x_Row_isWithin a0 a1 a2 μ := by unfold d_Row_isWithin; rw [h]; rfl
theorem d_Row_countBeforeZero_5 (a0 : Nat) (μ : bz_M) (h : gT μ a0 = 5) : d_Row_countBeforeZero a0 μ = x_Row_countBeforeZero a0 μ := by unfold d_Row_countBeforeZero; rw [h]; rfl
theorem d_E_endScan_9 (a0 : Nat) (μ : bz_M) (h : gT μ a0 = 9) : d_E_endScan a0 μ = x_E_endScan a0 μ := by unfold d_E_endScan; rw [h]; rfl
theorem d_Row_copy_5 (a0 : Nat) (a1 : Nat) (μ : bz_M) (h : gT μ a0 = 5) : d_Row_copy a0 a1 μ = x_Row_copy a0 a1 μ := by unfold d_Row_copy; rw [h]; rfl
theorem d_E_widthCount_9 (a0 : Nat) (a1 : Int) (μ : bz_M) (h : gT μ a0 = 9) : d_E_widthCount a0 a1 μ = x_E_widthCount a0 a1 μ := by unfold d_E_widthCount; rw [h]; rfl
theorem d_E_requireScan_9 (a0 : Nat) (a1 : Int) (μ : bz_M) (h : gT μ a0 = 9) : d_E_requireScan a0 a1 μ = x_E_requireScan a0 a1 μ := by unfold d_E_requireScan; rw [h]; rfl
theorem d_E_width_9 (a0 : Nat) (a1 : Int) (a2 : Int) (μ : bz_M) (h : gT μ a0 = 9) : d_E_width a0 a1 a2 μ = x_E_width a0 a1 a2 μ := by unfold d_E_width; rw [h]; rfl
theorem d_E_setWidth_9 (a0 : Nat) (a1 : Int) (a2 : Int) (a3 : Int) (μ : bz_M) (h : gT μ a0 = 9) : d_E_setWidth a0 a1 a2 a3 μ = x_E_setWidth a0 a1 a2 a3 μ := by unfold d_E_setWidth; rw [h]; rfl
theorem d_E_cut_9 (a0 : Nat) (a1 : Int) (a2 : Int) (a3 : Int) (μ : bz_M) (h : gT μ a0 = 9) : d_E_cut a0 a1 a2 a3 μ = x_E_cut a0 a1 a2 a3 μ := by unfold d_E_cut; rw [h]; rfl
theorem d_Row_keep_5 (a0 : Nat) (a1 : Int) (a2 : Int) (μ : bz_M) (h : gT μ a0 = 5) : d_Row_keep a0 a1 a2 μ = x_Row_keep a0 a1 a2 μ := by unfold d_Row_keep; rw [h]; rfl
theorem d_E_reverse_9 (a0 : Nat) (a1 : Int) (μ : bz_M) (h : gT μ a0 = 9) : d_E_reverse a0 a1 μ = x_E_reverse a0 a1 μ := by unfold d_E_reverse; rw [h]; rfl
theorem d_E_smear_9 (a0 : Nat) (a1 : Int) (a2 : Int) (μ : bz_M) (h : gT μ a0 = 9) : d_E_smear a0 a1 a2 μ = x_E_smear a0 a1 a2 μ := by unfold d_E_smear; rw [h]; rfl
theorem d_Row_widenBars_5 (a0 : Nat) (a1 : Int) (μ : bz_M) (h : gT μ a0 = 5) : d_Row_widenBars a0 a1 μ = x_Row_widenBars a0 a1 μ := by unfold d_Row_widenBars; rw [h]; rfl
theorem d_E_average_9 (a0 : Nat) (a1 : Int) (a2 : Int) (μ : bz_M) (h : gT μ a0 = 9) : d_E_average a0 a1 a2 μ = x_E_average a0 a1 a2 μ := by unfold d_E_average; rw [h]; rfl
theorem d_E_removeScan_9 (a0 : Nat) (a1 : Int) (μ : bz_M) (h : gT μ a0 = 9) : d_E_removeScan a0 a1 μ = x_E_removeScan a0 a1 μ := by unfold d_E_removeScan; rw [h]; rfl
theorem d_E_read_9 (a0 : Nat) (a1 : Int) (a2 : Int) (μ : bz_M) (h : gT μ a0 = 9) : d_E_read a0 a1 a2 μ = x_E_read a0 a1 a2 μ := by unfold d_E_read; rw [h]; rfl
theorem d_E_reading_9 (a0 : Nat) (a1 : Int) (a2 : Int) (μ : bz_M) (h : gT μ a0 = 9) : d_E_reading a0 a1 a2 μ = x_E_reading a0 a1 a2 μ := by unfold d_E_reading; rw [h]; rfl
theorem d_E_readPart_9 (a0 : Nat) (a1 : Int) (a2 : Int) (a3 : Int) (μ : bz_M) (h : gT μ a0 = 9) : d_E_readPart a0 a1 a2 a3 μ = x_E_readPart a0 a1 a2 a3 μ := by unfold d_E_readPart; rw [h]; rfl
theorem d_Rdg_part_4 (a0 : Nat) (a1 : Int) (μ : bz_M) (h : gT μ a0 = 4) : d_Rdg_part a0 a1 μ = x_Rdg_part a0 a1 μ := by unfold d_Rdg_part; rw [h]; rfl
theorem d_E_character_9 (a0 : Nat) (a1 : Int) (a2 : Int) (a3 : Int) (μ : bz_M) (h : gT μ a0 = 9) : d_E_character a0 a1 a2 a3 μ = x_E_character a0 a1 a2 a3 μ := by unfold d_E_character; rw [h]; rfl
theorem d_E_confidence_9 (a0 : Nat) (a1 : Int) (a2 : Int) (a3 : Int) (μ : bz_M) (h : gT μ a0 = 9) : d_E_confidence a0 a1 a2 a3 μ = x_E_confidence a0 a1 a2 a3 μ := by unfold d_E_confidence; rw [h]; rfl
theorem d_E_partCharacter_9 (a0 : Nat) (a1 : Int) (a2 : Int) (a3 : Int) (a4 : Int) (μ : bz_M) (h : gT μ a0 = 9) : d_E_partCharacter a0 a1 a2 a3 a4 μ = x_E_partCharacter a0 a1 a2 a3 a4 μ := by unfold d_E_partCharacter; rw [h]; rfl
theorem d_E_isReversed_9 (a0 : Nat) (a1 : Int) (a2 : Int) (μ : bz_M) (h : gT μ a0 = 9) : d_E_isReversed a0 a1 a2 μ = x_E_isReversed a0 a1 a2 μ := by unfold d_E_isReversed; rw [h]; rfl
theorem d_E_agreement_9 (a0 : Nat) (a1 : Int) (a2 : Int) (a3 : Int) (μ : bz_M) (h : gT μ a0 = 9) : d_E_agreement a0 a1 a2 a3 μ = x_E_agreement a0 a1 a2 a3 μ := by unfold d_E_agreement; rw [h]; rfl
theorem d_E_overlap_9 (a0 : Nat) (a1 : Int) (a2 : Int) (a3 : Int) (μ : bz_M) (h : gT μ a0 = 9) : d_E_overlap a0 a1 a2 a3 μ = x_E_overlap a0 a1 a2 a3 μ := by unfold d_E_overlap; rw [h]; rfl
theorem d_E_module_9 (a0 : Nat) (a1 : Int) (a2 : Int) (μ : bz_M) (h : gT μ a0 = 9) : d_E_module a0 a1 a2 μ = x_E_module a0 a1 a2 μ := by unfold d_E_module; rw [h]; rfl
theorem d_E_drawWhole_9 (a0 : Nat) (a1 : Nat) (a2 : Nat) (μ : bz_M) (h : gT μ a0 = 9) : d_E_drawWhole a0 a1 a2 μ = x_E_drawWhole a0 a1 a2 μ := by unfold d_E_drawWhole; rw [h]; rfl
theorem d_Row_sum_5 (a0 : Nat) (a1 : Int) (a2 : Int) (a3 : Int) (μ : bz_M) (h : gT μ a0 = 5) : d_Row_sum a0 a1 a2 a3 μ = x_Row_sum a0 a1 a2 a3 μ := by unfold d_Row_sum; rw [h]; rfl
theorem d_E_spread_9 (a0 : Nat) (a1 : Int) (a2 : Int) (μ : bz_M) (h : gT μ a0 = 9) : d_E_spread a0 a1 a2 μ = x_E_spread a0 a1 a2 μ := by unfold d_E_spread; rw [h]; rfl
theorem d_E_mergedLength_9 (a0 : Nat) (a1 : Int) (a2 : Int) (a3 : Int) (μ : bz_M) (h : gT μ a0 = 9) : d_E_mergedLength a0 a1 a2 a3 μ = x_E_mergedLength a0 a1 a2 a3 μ := by unfold d_E_mergedLength; rw [h]; rfl
theorem d_E_mergedCharacter_9 (a0 : Nat) (a1 : Int) (a2 : Int) (a3 : Int) (a4 : Int) (μ : bz_M) (h : gT μ a0 = 9) : d_E_mergedCharacter a0 a1 a2 a3 a4 μ = x_E_mergedCharacter a0 a1 a2 a3 a4 μ := by unfold d_E_mergedCharacter; rw [h]; rfl
theorem d_E_bestScan_9 (a0 : Nat) (a1 : Int) (μ : bz_M) (h : gT μ a0 = 9) : d_E_bestScan a0 a1 μ = x_E_bestScan a0 a1 μ := by unfold d_E_bestScan; rw [h]; rfl
theorem d_E_length_9 (a0 : Nat) (a1 : Int) (μ : bz_M) (h : gT μ a0 = 9) : d_E_length a0 a1 μ = x_E_length a0 a1 μ := by unfold d_E_length; rw [h]; rfl
theorem d_E_weight_9 (a0 : Nat) (a1 : Int) (a2 : Int) (a3 : Int) (μ : bz_M) (h : gT μ a0 = 9) : d_E_weight a0 a1 a2 a3 μ = x_E_weight a0 a1 a2 a3 μ := by unfold d_E_weight; rw [h]; rfl
theorem d_E_voted_9 (a0 : Nat) (a1 : Int) (a2 : Int) (μ : bz_M) (h : gT μ a0 = 9) : d_E_voted a0 a1 a2 μ = x_E_voted a0 a1 a2 μ := by unfold d_E_voted; rw [h]; rfl
theorem d_E_runnerUp_9 (a0 : Nat) (a1 : Int) (a2 : Int) (μ : bz_M) (h : gT μ a0 = 9) : d_E_runnerUp a0 a1 a2 μ = x_E_runnerUp a0 a1 a2 μ := by unfold d_E_runnerUp; rw [h]; rfl
theorem d_E_problem_9 (a0 : Nat) (a1 : Int) (μ : bz_M) (h : gT μ a0 = 9) : d_E_problem a0 a1 μ = x_E_problem a0 a1 μ := by unfold d_E_problem; rw [h]; rfl
theorem d_E_doubtful_9 (a0 : Nat) (a1 : Int) (μ : bz_M) (h : gT μ a0 = 9) : d_E_doubtful a0 a1 μ = x_E_doubtful a0 a1 μ := by unfold d_E_doubtful; rw [h]; rfl
theorem d_Tal_firstDoubt_8 (a0 : Nat) (μ : bz_M) (h : gT μ a0 = 8) : d_Tal_firstDoubt a0 μ = x_Tal_firstDoubt a0 μ := by unfold d_Tal_firstDoubt; rw [h]; rfl
theorem d_E_repaired_9 (a0 : Nat) (a1 : Int) (μ : bz_M) (h : gT μ a0 = 9) : d_E_repaired a0 a1 μ = x_E_repaired a0 a1 μ := by unfold d_E_repaired; rw [h]; rfl
theorem d_E_worstScan_9 (a0 : Nat) (a1 : Int) (μ : bz_M) (h : gT μ a0 = 9) : d_E_worstScan a0 a1 μ = x_E_worstScan a0 a1 μ := by unfold d_E_worstScan; rw [h]; rfl
theorem d_Tal_disagreements_8 (a0 : Nat) (a1 : Nat) (μ : bz_M) (h : gT μ a0 = 8) : d_Tal_disagreements a0 a1 μ = x_Tal_disagreements a0 a1 μ := by unfold d_Tal_disagreements; rw [h]; rfl
theorem d_E_setCheck_9 (a0 : Nat) (a1 : Int) (a2 : Int) (μ : bz_M) (h : gT μ a0 = 9) : d_E_setCheck a0 a1 a2 μ = x_E_setCheck a0 a1 a2 μ := by unfold d_E_setCheck; rw [h]; rfl
theorem d_M_canPrint_10 (a0 : Nat) (a1 : Int) (a2 : Int) (a3 : Int) (a4 : Int) (μ : bz_M) (h : gT μ a0 = 10) : d_M_canPrint a0 a1 a2 a3 a4 μ = x_M_canPrint a0 a1 a2 a3 a4 μ := by unfold d_M_canPrint; rw [h]; rfl
theorem d_M_laysModules_10 (a0 : Nat) (a1 : Int) (a2 : Int) (μ : bz_M) (h : gT μ a0 = 10) : d_M_laysModules a0 a1 a2 μ = x_M_laysModules a0 a1 a2 μ := by unfold d_M_laysModules; rw [h]; rfl
theorem d_M_areCharacters_10 (a0 : Nat) (a1 : Int) (a2 : Int) (μ : bz_M) (h : gT μ a0 = 10) : d_M_areCharacters a0 a1 a2 μ = x_M_areCharacters a0 a1 a2 μ := by unfold d_M_areCharacters; rw [h]; rfl
theorem d_M_laysEan_10 (a0 : Nat) (μ : bz_M) (h : gT μ a0 = 10) : d_M_laysEan a0 μ = x_M_laysEan a0 μ := by unfold d_M_laysEan; rw [h]; rfl
theorem d_M_laysPairs_10 (a0 : Nat) (a1 : Int) (μ : bz_M) (h : gT μ a0 = 10) : d_M_laysPairs a0 a1 μ = x_M_laysPairs a0 a1 μ := by unfold d_M_laysPairs; rw [h]; rfl
theorem d_M_laysCodabar_10 (a0 : Nat) (a1 : Int) (μ : bz_M) (h : gT μ a0 = 10) : d_M_laysCodabar a0 a1 μ = x_M_laysCodabar a0 a1 μ := by unfold d_M_laysCodabar; rw [h]; rfl
theorem d_M_laysOnes_10 (a0 : Nat) (a1 : Int) (μ : bz_M) (h : gT μ a0 = 10) : d_M_laysOnes a0 a1 μ = x_M_laysOnes a0 a1 μ := by unfold d_M_laysOnes; rw [h]; rfl
theorem d_M_lays_10 (a0 : Nat) (a1 : Int) (μ : bz_M) (h : gT μ a0 = 10) : d_M_lays a0 a1 μ = x_M_lays a0 a1 μ := by unfold d_M_lays; rw [h]; rfl
theorem d_M_isScan_10 (a0 : Nat) (a1 : Int) (μ : bz_M) (h : gT μ a0 = 10) : d_M_isScan a0 a1 μ = x_M_isScan a0 a1 μ := by unfold d_M_isScan; rw [h]; rfl
theorem d_M_hasWidth_10 (a0 : Nat) (a1 : Int) (a2 : Int) (μ : bz_M) (h : gT μ a0 = 10) : d_M_hasWidth a0 a1 a2 μ = x_M_hasWidth a0 a1 a2 μ := by unfold d_M_hasWidth; rw [h]; rfl
theorem d_M_laysRow_10 (a0 : Nat) (a1 : Int) (a2 : Int) (μ : bz_M) (h : gT μ a0 = 10) : d_M_laysRow a0 a1 a2 μ = x_M_laysRow a0 a1 a2 μ := by unfold d_M_laysRow; rw [h]; rfl
theorem d_M_reads_10 (a0 : Nat) (a1 : Int) (a2 : Int) (μ : bz_M) (h : gT μ a0 = 10) : d_M_reads a0 a1 a2 μ = x_M_reads a0 a1 a2 μ := by unfold d_M_reads; rw [h]; rfl
theorem d_M_manyOf_10 (a0 : Nat) (a1 : Int) (a2 : Int) (μ : bz_M) (h : gT μ a0 = 10) : d_M_manyOf a0 a1 a2 μ = x_M_manyOf a0 a1 a2 μ := by unfold d_M_manyOf; rw [h]; rfl
theorem d_M_readsScan_10 (a0 : Nat) (a1 : Int) (a2 : Int) (μ : bz_M) (h : gT μ a0 = 10) : d_M_readsScan a0 a1 a2 μ = x_M_readsScan a0 a1 a2 μ := by unfold d_M_readsScan; rw [h]; rfl
theorem d_M_isWhole_10 (a0 : Nat) (a1 : Int) (a2 : Int) (μ : bz_M) (h : gT μ a0 = 10) : d_M_isWhole a0 a1 a2 μ = x_M_isWhole a0 a1 a2 μ := by unfold d_M_isWhole; rw [h]; rfl
theorem d_M_hasParts_10 (a0 : Nat) (a1 : Int) (a2 : Int) (μ : bz_M) (h : gT μ a0 = 10) : d_M_hasParts a0 a1 a2 μ = x_M_hasParts a0 a1 a2 μ := by unfold d_M_hasParts; rw [h]; rfl
theorem d_M_isWholeFrom_10 (a0 : Nat) (a1 : Int) (a2 : Int) (μ : bz_M) (h : gT μ a0 = 10) : d_M_isWholeFrom a0 a1 a2 μ = x_M_isWholeFrom a0 a1 a2 μ := by unfold d_M_isWholeFrom; rw [h]; rfl
theorem d_M_keeps_10 (a0 : Nat) (a1 : Int) (a2 : Int) (μ : bz_M) (h : gT μ a0 = 10) : d_M_keeps a0 a1 a2 μ = x_M_keeps a0 a1 a2 μ := by unfold d_M_keeps; rw [h]; rfl
theorem d_M_isBeginning_10 (a0 : Nat) (a1 : Int) (a2 : Int) (μ : bz_M) (h : gT μ a0 = 10) : d_M_isBeginning a0 a1 a2 μ = x_M_isBeginning a0 a1 a2 μ := by unfold d_M_isBeginning; rw [h]; rfl
theorem d_M_isWholeEan_10 (a0 : Nat) (a1 : Int) (μ : bz_M) (h : gT μ a0 = 10) : d_M_isWholeEan a0 a1 μ = x_M_isWholeEan a0 a1 μ := by unfold d_M_isWholeEan; rw [h]; rfl
theorem d_M_isWholePairs_10 (a0 : Nat) (a1 : Int) (μ : bz_M) (h : gT μ a0 = 10) : d_M_isWholePairs a0 a1 μ = x_M_isWholePairs a0 a1 μ := by unfold d_M_isWholePairs; rw [h]; rfl
theorem d_M_isWholeCodabar_10 (a0 : Nat) (a1 : Int) (μ : bz_M) (h : gT μ a0 = 10) : d_M_isWholeCodabar a0 a1 μ = x_M_isWholeCodabar a0 a1 μ := by unfold d_M_isWholeCodabar; rw [h]; rfl
theorem d_M_exists_10 (a0 : Nat) (a1 : Int) (a2 : Int) (μ : bz_M) (h : gT μ a0 = 10) : d_M_exists a0 a1 a2 μ = x_M_exists a0 a1 a2 μ := by unfold d_M_exists; rw [h]; rfl
theorem d_M_sevenAt_10 (a0 : Nat) (a1 : Int) (μ : bz_M) (h : gT μ a0 = 10) : d_M_sevenAt a0 a1 μ = x_M_sevenAt a0 a1 μ := by unfold d_M_sevenAt; rw [h]; rfl
theorem d_M_leastOf_10 (a0 : Nat) (a1 : Int) (a2 : Int) (μ : bz_M) (h : gT μ a0 = 10) : d_M_leastOf a0 a1 a2 μ = x_M_leastOf a0 a1 a2 μ := by unfold d_M_leastOf; rw [h]; rfl
theorem d_M_areEven_10 (a0 : Nat) (a1 : Int) (a2 : Int) (μ : bz_M) (h : gT μ a0 = 10) : d_M_areEven a0 a1 a2 μ = x_M_areEven a0 a1 a2 μ := by unfold d_M_areEven; rw [h]; rfl
theorem d_M_readsWides_10 (a0 : Nat) (a1 : Int) (a2 : Int) (a3 : Int) (μ : bz_M) (h : gT μ a0 = 10) : d_M_readsWides a0 a1 a2 a3 μ = x_M_readsWides a0 a1 a2 a3 μ := by unfold d_M_readsWides; rw [h]; rfl
theorem d_M_readsDigits_10 (a0 : Nat) (a1 : Int) (μ : bz_M) (h : gT μ a0 = 10) : d_M_readsDigits a0 a1 μ = x_M_readsDigits a0 a1 μ := by unfold d_M_readsDigits; rw [h]; rfl
theorem d_M_isEnd_10 (a0 : Nat) (a1 : Int) (a2 : Int) (μ : bz_M) (h : gT μ a0 = 10) : d_M_isEnd a0 a1 a2 μ = x_M_isEnd a0 a1 a2 μ := by unfold d_M_isEnd; rw [h]; rfl
theorem d_M_readsDigit_10 (a0 : Nat) (a1 : Int) (μ : bz_M) (h : gT μ a0 = 10) : d_M_readsDigit a0 a1 μ = x_M_readsDigit a0 a1 μ := by unfold d_M_readsDigit; rw [h]; rfl
theorem d_M_signsOne_10 (a0 : Nat) (a1 : Int) (a2 : Int) (μ : bz_M) (h : gT μ a0 = 10) : d_M_signsOne a0 a1 a2 μ = x_M_signsOne a0 a1 a2 μ := by unfold d_M_signsOne; rw [h]; rfl
theorem d_M_readsPair_10 (a0 : Nat) (a1 : Int) (μ : bz_M) (h : gT μ a0 = 10) : d_M_readsPair a0 a1 μ = x_M_readsPair a0 a1 μ := by unfold d_M_readsPair; rw [h]; rfl
theorem d_M_readsFive_10 (a0 : Nat) (a1 : Int) (μ : bz_M) (h : gT μ a0 = 10) : d_M_readsFive a0 a1 μ = x_M_readsFive a0 a1 μ := by unfold d_M_readsFive; rw [h]; rfl
theorem d_M_readsSeven_10 (a0 : Nat) (a1 : Int) (a2 : Int) (μ : bz_M) (h : gT μ a0 = 10) : d_M_readsSeven a0 a1 a2 μ = x_M_readsSeven a0 a1 a2 μ := by unfold d_M_readsSeven; rw [h]; rfl
theorem d_M_readsHead_10 (a0 : Nat) (a1 : Int) (a2 : Int) (μ : bz_M) (h : gT μ a0 = 10) : d_M_readsHead a0 a1 a2 μ = x_M_readsHead a0 a1 a2 μ := by unfold d_M_readsHead; rw [h]; rfl
theorem d_M_readsTail_10 (a0 : Nat) (a1 : Int) (a2 : Int) (μ : bz_M) (h : gT μ a0 = 10) : d_M_readsTail a0 a1 a2 μ = x_M_readsTail a0 a1 a2 μ := by unfold d_M_readsTail; rw [h]; rfl
theorem d_M_partsTo_10 (a0 : Nat) (a1 : Int) (a2 : Int) (μ : bz_M) (h : gT μ a0 = 10) : d_M_partsTo a0 a1 a2 μ = x_M_partsTo a0 a1 a2 μ := by unfold d_M_partsTo; rw [h]; rfl
theorem d_M_has_10 (a0 : Nat) (a1 : Int) (a2 : Int) (a3 : Int) (a4 : Int) (μ : bz_M) (h : gT μ a0 = 10) : d_M_has a0 a1 a2 a3 a4 μ = x_M_has a0 a1 a2 a3 a4 μ := by unfold d_M_has; rw [h]; rfl
theorem d_M_signOf_10 (a0 : Nat) (a1 : Int) (a2 : Int) (a3 : Int) (μ : bz_M) (h : gT μ a0 = 10) : d_M_signOf a0 a1 a2 a3 μ = x_M_signOf a0 a1 a2 a3 μ := by unfold d_M_signOf; rw [h]; rfl
theorem d_M_weightOf_10 (a0 : Nat) (a1 : Int) (a2 : Int) (a3 : Int) (μ : bz_M) (h : gT μ a0 = 10) : d_M_weightOf a0 a1 a2 a3 μ = x_M_weightOf a0 a1 a2 a3 μ := by unfold d_M_weightOf; rw [h]; rfl
theorem d_M_measures_10 (a0 : Nat) (a1 : Int) (a2 : Int) (μ : bz_M) (h : gT μ a0 = 10) : d_M_measures a0 a1 a2 μ = x_M_measures a0 a1 a2 μ := by unfold d_M_measures; rw [h]; rfl
theorem d_M_readsAll_10 (a0 : Nat) (a1 : Int) (μ : bz_M) (h : gT μ a0 = 10) : d_M_readsAll a0 a1 μ = x_M_readsAll a0 a1 μ := by unfold d_M_readsAll; rw [h]; rfl
theorem d_M_mostOverlap_10 (a0 : Nat) (a1 : Int) (a2 : Int) (μ : bz_M) (h : gT μ a0 = 10) : d_M_mostOverlap a0 a1 a2 μ = x_M_mostOverlap a0 a1 a2 μ := by unfold d_M_mostOverlap; rw [h]; rfl
theorem d_M_overlaps_10 (a0 : Nat) (a1 : Int) (a2 : Int) (a3 : Int) (μ : bz_M) (h : gT μ a0 = 10) : d_M_overlaps a0 a1 a2 a3 μ = x_M_overlaps a0 a1 a2 a3 μ := by unfold d_M_overlaps; rw [h]; rfl
theorem d_M_mergesNow_10 (a0 : Nat) (a1 : Int) (a2 : Int) (a3 : Int) (μ : bz_M) (h : gT μ a0 = 10) : d_M_mergesNow a0 a1 a2 a3 μ = x_M_mergesNow a0 a1 a2 a3 μ := by unfold d_M_mergesNow; rw [h]; rfl
theorem d_M_merges_10 (a0 : Nat) (a1 : Int) (a2 : Int) (a3 : Int) (μ : bz_M) (h : gT μ a0 = 10) : d_M_merges a0 a1 a2 a3 μ = x_M_merges a0 a1 a2 a3 μ := by unfold d_M_merges; rw [h]; rfl
theorem d_M_leastWeight_10 (a0 : Nat) (a1 : Int) (μ : bz_M) (h : gT μ a0 = 10) : d_M_leastWeight a0 a1 μ = x_M_leastWeight a0 a1 μ := by unfold d_M_leastWeight; rw [h]; rfl
theorem d_M_lengthOf_10 (a0 : Nat) (a1 : Int) (μ : bz_M) (h : gT μ a0 = 10) : d_M_lengthOf a0 a1 μ = x_M_lengthOf a0 a1 μ := by unfold d_M_lengthOf; rw [h]; rfl
theorem d_M_wholeLength_10 (a0 : Nat) (μ : bz_M) (h : gT μ a0 = 10) : d_M_wholeLength a0 μ = x_M_wholeLength a0 μ := by unfold d_M_wholeLength; rw [h]; rfl
theorem d_M_hasAny_10 (a0 : Nat) (a1 : Int) (μ : bz_M) (h : gT μ a0 = 10) : d_M_hasAny a0 a1 μ = x_M_hasAny a0 a1 μ := by unfold d_M_hasAny; rw [h]; rfl
theorem d_M_longestMerge_10 (a0 : Nat) (a1 : Int) (μ : bz_M) (h : gT μ a0 = 10) : d_M_longestMerge a0 a1 μ = x_M_longestMerge a0 a1 μ := by unfold d_M_longestMerge; rw [h]; rfl
theorem d_M_hasPlace_10 (a0 : Nat) (a1 : Int) (a2 : Int) (μ : bz_M) (h : gT μ a0 = 10) : d_M_hasPlace a0 a1 a2 μ = x_M_hasPlace a0 a1 a2 μ := by unfold d_M_hasPlace; rw [h]; rfl
theorem d_M_allAt_10 (a0 : Nat) (a1 : Int) (μ : bz_M) (h : gT μ a0 = 10) : d_M_allAt a0 a1 μ = x_M_allAt a0 a1 μ := by unfold d_M_allAt; rw [h]; rfl
theorem d_M_laysVotes_10 (a0 : Nat) (a1 : Int) (μ : bz_M) (h : gT μ a0 = 10) : d_M_laysVotes a0 a1 μ = x_M_laysVotes a0 a1 μ := by unfold d_M_laysVotes; rw [h]; rfl
theorem d_M_adds_10 (a0 : Nat) (a1 : Int) (a2 : Int) (a3 : Int) (μ : bz_M) (h : gT μ a0 = 10) : d_M_adds a0 a1 a2 a3 μ = x_M_adds a0 a1 a2 a3 μ := by unfold d_M_adds; rw [h]; rfl
theorem d_M_votedAt_10 (a0 : Nat) (a1 : Int) (μ : bz_M) (h : gT μ a0 = 10) : d_M_votedAt a0 a1 μ = x_M_votedAt a0 a1 μ := by unfold d_M_votedAt; rw [h]; rfl
theorem d_M_problemOf_10 (a0 : Nat) (a1 : Int) (μ : bz_M) (h : gT μ a0 = 10) : d_M_problemOf a0 a1 μ = x_M_problemOf a0 a1 μ := by unfold d_M_problemOf; rw [h]; rfl
theorem d_M_doubtFrom_10 (a0 : Nat) (a1 : Int) (a2 : Int) (μ : bz_M) (h : gT μ a0 = 10) : d_M_doubtFrom a0 a1 a2 μ = x_M_doubtFrom a0 a1 a2 μ := by unfold d_M_doubtFrom; rw [h]; rfl
theorem d_M_isRight_10 (a0 : Nat) (a1 : Int) (a2 : Int) (a3 : Int) (a4 : Int) (μ : bz_M) (h : gT μ a0 = 10) : d_M_isRight a0 a1 a2 a3 a4 μ = x_M_isRight a0 a1 a2 a3 a4 μ := by unfold d_M_isRight; rw [h]; rfl
theorem d_M_shareOf_10 (a0 : Nat) (a1 : Int) (μ : bz_M) (h : gT μ a0 = 10) : d_M_shareOf a0 a1 μ = x_M_shareOf a0 a1 μ := by unfold d_M_shareOf; rw [h]; rfl
theorem d_E_new_9 (a0 : Nat) (μ : bz_M) (h : gT μ a0 = 9) : d_E_new a0 μ = x_E_new a0 μ := by unfold d_E_new; rw [h]; rfl
theorem d_M_new_10 (a0 : Nat) (μ : bz_M) (h : gT μ a0 = 10) : d_M_new a0 μ = x_M_new a0 μ := by unfold d_M_new; rw [h]; rfl
