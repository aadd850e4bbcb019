/-! CALLS BY THE RECEIVER THAT ONLY THE LAW'S SWITCH MAKES -/
noncomputable def d_M_append (a0 : Nat) (a1 : Int) (a2 : Int) (a3 : Int) (a4 : Int) (a5 : Int) (μ : bz_M) : Option bz_R := bz_tg [(10, 186)] (gT μ a0) fun k => bX k 0 (bz_lo (bz_mls.getD k 0) [zR a0, zI a1, zI a2, zI a3, zI a4, zI a5]) [] μ
noncomputable def d_M_thrown (a0 : Nat) (μ : bz_M) : Option bz_R := bz_tg [(10, 185)] (gT μ a0) fun k => bX k 0 (bz_lo (bz_mls.getD k 0) [zR a0]) [] μ
noncomputable def d_M_print (a0 : Nat) (a1 : Int) (a2 : Int) (a3 : Int) (a4 : Int) (a5 : Int) (μ : bz_M) : Option bz_R := bz_tg [(10, 187)] (gT μ a0) fun k => bX k 0 (bz_lo (bz_mls.getD k 0) [zR a0, zI a1, zI a2, zI a3, zI a4, zI a5]) [] μ
noncomputable def d_M_checkCharacter (a0 : Nat) (a1 : Int) (a2 : Int) (μ : bz_M) : Option bz_R := bz_tg [(10, 202)] (gT μ a0) fun k => bX k 0 (bz_lo (bz_mls.getD k 0) [zR a0, zI a1, zI a2]) [] μ
noncomputable def d_M_addWidths (a0 : Nat) (a1 : Int) (a2 : Int) (a3 : Int) (a4 : Int) (a5 : Int) (a6 : Int) (μ : bz_M) : Option bz_R := bz_tg [(10, 203)] (gT μ a0) fun k => bX k 0 (bz_lo (bz_mls.getD k 0) [zR a0, zI a1, zI a2, zI a3, zI a4, zI a5, zI a6]) [] μ
noncomputable def d_M_endScan (a0 : Nat) (μ : bz_M) : Option bz_R := bz_tg [(10, 205)] (gT μ a0) fun k => bX k 0 (bz_lo (bz_mls.getD k 0) [zR a0]) [] μ
noncomputable def d_E_scanCount (a0 : Nat) (μ : bz_M) : Option bz_R := bz_tg [(9, 10)] (gT μ a0) fun k => bX k 0 (bz_lo (bz_mls.getD k 0) [zR a0]) [] μ
noncomputable def d_M_scanCount (a0 : Nat) (μ : bz_M) : Option bz_R := bz_tg [(10, 206)] (gT μ a0) fun k => bX k 0 (bz_lo (bz_mls.getD k 0) [zR a0]) [] μ
noncomputable def d_M_widthCount (a0 : Nat) (a1 : Int) (μ : bz_M) : Option bz_R := bz_tg [(10, 207)] (gT μ a0) fun k => bX k 0 (bz_lo (bz_mls.getD k 0) [zR a0, zI a1]) [] μ
noncomputable def d_M_width (a0 : Nat) (a1 : Int) (a2 : Int) (μ : bz_M) : Option bz_R := bz_tg [(10, 209)] (gT μ a0) fun k => bX k 0 (bz_lo (bz_mls.getD k 0) [zR a0, zI a1, zI a2]) [] μ
noncomputable def d_M_setWidth (a0 : Nat) (a1 : Int) (a2 : Int) (a3 : Int) (μ : bz_M) : Option bz_R := bz_tg [(10, 211)] (gT μ a0) fun k => bX k 0 (bz_lo (bz_mls.getD k 0) [zR a0, zI a1, zI a2, zI a3]) [] μ
noncomputable def d_M_cut (a0 : Nat) (a1 : Int) (a2 : Int) (a3 : Int) (μ : bz_M) : Option bz_R := bz_tg [(10, 212)] (gT μ a0) fun k => bX k 0 (bz_lo (bz_mls.getD k 0) [zR a0, zI a1, zI a2, zI a3]) [] μ
noncomputable def d_M_reverse (a0 : Nat) (a1 : Int) (μ : bz_M) : Option bz_R := bz_tg [(10, 213)] (gT μ a0) fun k => bX k 0 (bz_lo (bz_mls.getD k 0) [zR a0, zI a1]) [] μ
noncomputable def d_M_smear (a0 : Nat) (a1 : Int) (a2 : Int) (μ : bz_M) : Option bz_R := bz_tg [(10, 215)] (gT μ a0) fun k => bX k 0 (bz_lo (bz_mls.getD k 0) [zR a0, zI a1, zI a2]) [] μ
noncomputable def d_M_average (a0 : Nat) (a1 : Int) (a2 : Int) (μ : bz_M) : Option bz_R := bz_tg [(10, 216)] (gT μ a0) fun k => bX k 0 (bz_lo (bz_mls.getD k 0) [zR a0, zI a1, zI a2]) [] μ
noncomputable def d_M_removeScan (a0 : Nat) (a1 : Int) (μ : bz_M) : Option bz_R := bz_tg [(10, 217)] (gT μ a0) fun k => bX k 0 (bz_lo (bz_mls.getD k 0) [zR a0, zI a1]) [] μ
noncomputable def d_M_read (a0 : Nat) (a1 : Int) (a2 : Int) (μ : bz_M) : Option bz_R := bz_tg [(10, 218)] (gT μ a0) fun k => bX k 0 (bz_lo (bz_mls.getD k 0) [zR a0, zI a1, zI a2]) [] μ
noncomputable def d_M_readPart (a0 : Nat) (a1 : Int) (a2 : Int) (a3 : Int) (μ : bz_M) : Option bz_R := bz_tg [(10, 250)] (gT μ a0) fun k => bX k 0 (bz_lo (bz_mls.getD k 0) [zR a0, zI a1, zI a2, zI a3]) [] μ
noncomputable def d_M_character (a0 : Nat) (a1 : Int) (a2 : Int) (a3 : Int) (μ : bz_M) : Option bz_R := bz_tg [(10, 251)] (gT μ a0) fun k => bX k 0 (bz_lo (bz_mls.getD k 0) [zR a0, zI a1, zI a2, zI a3]) [] μ
noncomputable def d_M_confidence (a0 : Nat) (a1 : Int) (a2 : Int) (a3 : Int) (μ : bz_M) : Option bz_R := bz_tg [(10, 254)] (gT μ a0) fun k => bX k 0 (bz_lo (bz_mls.getD k 0) [zR a0, zI a1, zI a2, zI a3]) [] μ
noncomputable def d_M_partCharacter (a0 : Nat) (a1 : Int) (a2 : Int) (a3 : Int) (a4 : Int) (μ : bz_M) : Option bz_R := bz_tg [(10, 256)] (gT μ a0) fun k => bX k 0 (bz_lo (bz_mls.getD k 0) [zR a0, zI a1, zI a2, zI a3, zI a4]) [] μ
noncomputable def d_M_isReversed (a0 : Nat) (a1 : Int) (a2 : Int) (μ : bz_M) : Option bz_R := bz_tg [(10, 257)] (gT μ a0) fun k => bX k 0 (bz_lo (bz_mls.getD k 0) [zR a0, zI a1, zI a2]) [] μ
noncomputable def d_M_agreement (a0 : Nat) (a1 : Int) (a2 : Int) (a3 : Int) (μ : bz_M) : Option bz_R := bz_tg [(10, 261)] (gT μ a0) fun k => bX k 0 (bz_lo (bz_mls.getD k 0) [zR a0, zI a1, zI a2, zI a3]) [] μ
noncomputable def d_M_overlap (a0 : Nat) (a1 : Int) (a2 : Int) (a3 : Int) (μ : bz_M) : Option bz_R := bz_tg [(10, 263)] (gT μ a0) fun k => bX k 0 (bz_lo (bz_mls.getD k 0) [zR a0, zI a1, zI a2, zI a3]) [] μ
noncomputable def d_M_module (a0 : Nat) (a1 : Int) (a2 : Int) (μ : bz_M) : Option bz_R := bz_tg [(10, 258)] (gT μ a0) fun k => bX k 0 (bz_lo (bz_mls.getD k 0) [zR a0, zI a1, zI a2]) [] μ
noncomputable def d_M_spread (a0 : Nat) (a1 : Int) (a2 : Int) (μ : bz_M) : Option bz_R := bz_tg [(10, 260)] (gT μ a0) fun k => bX k 0 (bz_lo (bz_mls.getD k 0) [zR a0, zI a1, zI a2]) [] μ
noncomputable def d_M_mergedLength (a0 : Nat) (a1 : Int) (a2 : Int) (a3 : Int) (μ : bz_M) : Option bz_R := bz_tg [(10, 266)] (gT μ a0) fun k => bX k 0 (bz_lo (bz_mls.getD k 0) [zR a0, zI a1, zI a2, zI a3]) [] μ
noncomputable def d_M_mergedCharacter (a0 : Nat) (a1 : Int) (a2 : Int) (a3 : Int) (a4 : Int) (μ : bz_M) : Option bz_R := bz_tg [(10, 269)] (gT μ a0) fun k => bX k 0 (bz_lo (bz_mls.getD k 0) [zR a0, zI a1, zI a2, zI a3, zI a4]) [] μ
noncomputable def d_M_bestScan (a0 : Nat) (a1 : Int) (μ : bz_M) : Option bz_R := bz_tg [(10, 270)] (gT μ a0) fun k => bX k 0 (bz_lo (bz_mls.getD k 0) [zR a0, zI a1]) [] μ
noncomputable def d_M_length (a0 : Nat) (a1 : Int) (μ : bz_M) : Option bz_R := bz_tg [(10, 272)] (gT μ a0) fun k => bX k 0 (bz_lo (bz_mls.getD k 0) [zR a0, zI a1]) [] μ
noncomputable def d_M_weight (a0 : Nat) (a1 : Int) (a2 : Int) (a3 : Int) (μ : bz_M) : Option bz_R := bz_tg [(10, 277)] (gT μ a0) fun k => bX k 0 (bz_lo (bz_mls.getD k 0) [zR a0, zI a1, zI a2, zI a3]) [] μ
noncomputable def d_M_voted (a0 : Nat) (a1 : Int) (a2 : Int) (μ : bz_M) : Option bz_R := bz_tg [(10, 282)] (gT μ a0) fun k => bX k 0 (bz_lo (bz_mls.getD k 0) [zR a0, zI a1, zI a2]) [] μ
noncomputable def d_M_runnerUp (a0 : Nat) (a1 : Int) (a2 : Int) (μ : bz_M) : Option bz_R := bz_tg [(10, 284)] (gT μ a0) fun k => bX k 0 (bz_lo (bz_mls.getD k 0) [zR a0, zI a1, zI a2]) [] μ
noncomputable def d_M_problem (a0 : Nat) (a1 : Int) (μ : bz_M) : Option bz_R := bz_tg [(10, 285)] (gT μ a0) fun k => bX k 0 (bz_lo (bz_mls.getD k 0) [zR a0, zI a1]) [] μ
noncomputable def d_M_doubtful (a0 : Nat) (a1 : Int) (μ : bz_M) : Option bz_R := bz_tg [(10, 289)] (gT μ a0) fun k => bX k 0 (bz_lo (bz_mls.getD k 0) [zR a0, zI a1]) [] μ
noncomputable def d_M_repaired (a0 : Nat) (a1 : Int) (μ : bz_M) : Option bz_R := bz_tg [(10, 290)] (gT μ a0) fun k => bX k 0 (bz_lo (bz_mls.getD k 0) [zR a0, zI a1]) [] μ
noncomputable def d_E_winner (a0 : Nat) (μ : bz_M) : Option bz_R := bz_tg [(9, 11)] (gT μ a0) fun k => bX k 0 (bz_lo (bz_mls.getD k 0) [zR a0]) [] μ
noncomputable def d_M_winner (a0 : Nat) (μ : bz_M) : Option bz_R := bz_tg [(10, 291)] (gT μ a0) fun k => bX k 0 (bz_lo (bz_mls.getD k 0) [zR a0]) [] μ
noncomputable def d_M_worstScan (a0 : Nat) (a1 : Int) (μ : bz_M) : Option bz_R := bz_tg [(10, 293)] (gT μ a0) fun k => bX k 0 (bz_lo (bz_mls.getD k 0) [zR a0, zI a1]) [] μ
noncomputable def d_M_setCheck (a0 : Nat) (a1 : Int) (a2 : Int) (μ : bz_M) : Option bz_R := bz_tg [(10, 294)] (gT μ a0) fun k => bX k 0 (bz_lo (bz_mls.getD k 0) [zR a0, zI a1, zI a2]) [] μ
theorem d_M_append_10 (a0 : Nat) (a1 : Int) (a2 : Int) (a3 : Int) (a4 : Int) (a5 : Int) (μ : bz_M) (h : gT μ a0 = 10) : d_M_append a0 a1 a2 a3 a4 a5 μ = x_M_append a0 a1 a2 a3 a4 a5 μ := by unfold d_M_append; rw [h]; rfl
theorem d_M_thrown_10 (a0 : Nat) (μ : bz_M) (h : gT μ a0 = 10) : d_M_thrown a0 μ = x_M_thrown a0 μ := by unfold d_M_thrown; rw [h]; rfl
theorem d_M_print_10 (a0 : Nat) (a1 : Int) (a2 : Int) (a3 : Int) (a4 : Int) (a5 : Int) (μ : bz_M) (h : gT μ a0 = 10) : d_M_print a0 a1 a2 a3 a4 a5 μ = x_M_print a0 a1 a2 a3 a4 a5 μ := by unfold d_M_print; rw [h]; rfl
theorem d_M_checkCharacter_10 (a0 : Nat) (a1 : Int) (a2 : Int) (μ : bz_M) (h : gT μ a0 = 10) : d_M_checkCharacter a0 a1 a2 μ = x_M_checkCharacter a0 a1 a2 μ := by unfold d_M_checkCharacter; rw [h]; rfl
theorem d_M_addWidths_10 (a0 : Nat) (a1 : Int) (a2 : Int) (a3 : Int) (a4 : Int) (a5 : Int) (a6 : Int) (μ : bz_M) (h : gT μ a0 = 10) : d_M_addWidths a0 a1 a2 a3 a4 a5 a6 μ = x_M_addWidths a0 a1 a2 a3 a4 a5 a6 μ := by unfold d_M_addWidths; rw [h]; rfl
theorem d_M_endScan_10 (a0 : Nat) (μ : bz_M) (h : gT μ a0 = 10) : d_M_endScan a0 μ = x_M_endScan a0 μ := by unfold d_M_endScan; rw [h]; rfl
theorem d_E_scanCount_9 (a0 : Nat) (μ : bz_M) (h : gT μ a0 = 9) : d_E_scanCount a0 μ = x_E_scanCount a0 μ := by unfold d_E_scanCount; rw [h]; rfl
theorem d_M_scanCount_10 (a0 : Nat) (μ : bz_M) (h : gT μ a0 = 10) : d_M_scanCount a0 μ = x_M_scanCount a0 μ := by unfold d_M_scanCount; rw [h]; rfl
theorem d_M_widthCount_10 (a0 : Nat) (a1 : Int) (μ : bz_M) (h : gT μ a0 = 10) : d_M_widthCount a0 a1 μ = x_M_widthCount a0 a1 μ := by unfold d_M_widthCount; rw [h]; rfl
theorem d_M_width_10 (a0 : Nat) (a1 : Int) (a2 : Int) (μ : bz_M) (h : gT μ a0 = 10) : d_M_width a0 a1 a2 μ = x_M_width a0 a1 a2 μ := by unfold d_M_width; rw [h]; rfl
theorem d_M_setWidth_10 (a0 : Nat) (a1 : Int) (a2 : Int) (a3 : Int) (μ : bz_M) (h : gT μ a0 = 10) : d_M_setWidth a0 a1 a2 a3 μ = x_M_setWidth a0 a1 a2 a3 μ := by unfold d_M_setWidth; rw [h]; rfl
theorem d_M_cut_10 (a0 : Nat) (a1 : Int) (a2 : Int) (a3 : Int) (μ : bz_M) (h : gT μ a0 = 10) : d_M_cut a0 a1 a2 a3 μ = x_M_cut a0 a1 a2 a3 μ := by unfold d_M_cut; rw [h]; rfl
theorem d_M_reverse_10 (a0 : Nat) (a1 : Int) (μ : bz_M) (h : gT μ a0 = 10) : d_M_reverse a0 a1 μ = x_M_reverse a0 a1 μ := by unfold d_M_reverse; rw [h]; rfl
theorem d_M_smear_10 (a0 : Nat) (a1 : Int) (a2 : Int) (μ : bz_M) (h : gT μ a0 = 10) : d_M_smear a0 a1 a2 μ = x_M_smear a0 a1 a2 μ := by unfold d_M_smear; rw [h]; rfl
theorem d_M_average_10 (a0 : Nat) (a1 : Int) (a2 : Int) (μ : bz_M) (h : gT μ a0 = 10) : d_M_average a0 a1 a2 μ = x_M_average a0 a1 a2 μ := by unfold d_M_average; rw [h]; rfl
theorem d_M_removeScan_10 (a0 : Nat) (a1 : Int) (μ : bz_M) (h : gT μ a0 = 10) : d_M_removeScan a0 a1 μ = x_M_removeScan a0 a1 μ := by unfold d_M_removeScan; rw [h]; rfl
theorem d_M_read_10 (a0 : Nat) (a1 : Int) (a2 : Int) (μ : bz_M) (h : gT μ a0 = 10) : d_M_read a0 a1 a2 μ = x_M_read a0 a1 a2 μ := by unfold d_M_read; rw [h]; rfl
theorem d_M_readPart_10 (a0 : Nat) (a1 : Int) (a2 : Int) (a3 : Int) (μ : bz_M) (h : gT μ a0 = 10) : d_M_readPart a0 a1 a2 a3 μ = x_M_readPart a0 a1 a2 a3 μ := by unfold d_M_readPart; rw [h]; rfl
theorem d_M_character_10 (a0 : Nat) (a1 : Int) (a2 : Int) (a3 : Int) (μ : bz_M) (h : gT μ a0 = 10) : d_M_character a0 a1 a2 a3 μ = x_M_character a0 a1 a2 a3 μ := by unfold d_M_character; rw [h]; rfl
theorem d_M_confidence_10 (a0 : Nat) (a1 : Int) (a2 : Int) (a3 : Int) (μ : bz_M) (h : gT μ a0 = 10) : d_M_confidence a0 a1 a2 a3 μ = x_M_confidence a0 a1 a2 a3 μ := by unfold d_M_confidence; rw [h]; rfl
theorem d_M_partCharacter_10 (a0 : Nat) (a1 : Int) (a2 : Int) (a3 : Int) (a4 : Int) (μ : bz_M) (h : gT μ a0 = 10) : d_M_partCharacter a0 a1 a2 a3 a4 μ = x_M_partCharacter a0 a1 a2 a3 a4 μ := by unfold d_M_partCharacter; rw [h]; rfl
theorem d_M_isReversed_10 (a0 : Nat) (a1 : Int) (a2 : Int) (μ : bz_M) (h : gT μ a0 = 10) : d_M_isReversed a0 a1 a2 μ = x_M_isReversed a0 a1 a2 μ := by unfold d_M_isReversed; rw [h]; rfl
theorem d_M_agreement_10 (a0 : Nat) (a1 : Int) (a2 : Int) (a3 : Int) (μ : bz_M) (h : gT μ a0 = 10) : d_M_agreement a0 a1 a2 a3 μ = x_M_agreement a0 a1 a2 a3 μ := by unfold d_M_agreement; rw [h]; rfl
theorem d_M_overlap_10 (a0 : Nat) (a1 : Int) (a2 : Int) (a3 : Int) (μ : bz_M) (h : gT μ a0 = 10) : d_M_overlap a0 a1 a2 a3 μ = x_M_overlap a0 a1 a2 a3 μ := by unfold d_M_overlap; rw [h]; rfl
theorem d_M_module_10 (a0 : Nat) (a1 : Int) (a2 : Int) (μ : bz_M) (h : gT μ a0 = 10) : d_M_module a0 a1 a2 μ = x_M_module a0 a1 a2 μ := by unfold d_M_module; rw [h]; rfl
theorem d_M_spread_10 (a0 : Nat) (a1 : Int) (a2 : Int) (μ : bz_M) (h : gT μ a0 = 10) : d_M_spread a0 a1 a2 μ = x_M_spread a0 a1 a2 μ := by unfold d_M_spread; rw [h]; rfl
theorem d_M_mergedLength_10 (a0 : Nat) (a1 : Int) (a2 : Int) (a3 : Int) (μ : bz_M) (h : gT μ a0 = 10) : d_M_mergedLength a0 a1 a2 a3 μ = x_M_mergedLength a0 a1 a2 a3 μ := by unfold d_M_mergedLength; rw [h]; rfl
theorem d_M_mergedCharacter_10 (a0 : Nat) (a1 : Int) (a2 : Int) (a3 : Int) (a4 : Int) (μ : bz_M) (h : gT μ a0 = 10) : d_M_mergedCharacter a0 a1 a2 a3 a4 μ = x_M_mergedCharacter a0 a1 a2 a3 a4 μ := by unfold d_M_mergedCharacter; rw [h]; rfl
theorem d_M_bestScan_10 (a0 : Nat) (a1 : Int) (μ : bz_M) (h : gT μ a0 = 10) : d_M_bestScan a0 a1 μ = x_M_bestScan a0 a1 μ := by unfold d_M_bestScan; rw [h]; rfl
theorem d_M_length_10 (a0 : Nat) (a1 : Int) (μ : bz_M) (h : gT μ a0 = 10) : d_M_length a0 a1 μ = x_M_length a0 a1 μ := by unfold d_M_length; rw [h]; rfl
theorem d_M_weight_10 (a0 : Nat) (a1 : Int) (a2 : Int) (a3 : Int) (μ : bz_M) (h : gT μ a0 = 10) : d_M_weight a0 a1 a2 a3 μ = x_M_weight a0 a1 a2 a3 μ := by unfold d_M_weight; rw [h]; rfl
theorem d_M_voted_10 (a0 : Nat) (a1 : Int) (a2 : Int) (μ : bz_M) (h : gT μ a0 = 10) : d_M_voted a0 a1 a2 μ = x_M_voted a0 a1 a2 μ := by unfold d_M_voted; rw [h]; rfl
theorem d_M_runnerUp_10 (a0 : Nat) (a1 : Int) (a2 : Int) (μ : bz_M) (h : gT μ a0 = 10) : d_M_runnerUp a0 a1 a2 μ = x_M_runnerUp a0 a1 a2 μ := by unfold d_M_runnerUp; rw [h]; rfl
theorem d_M_problem_10 (a0 : Nat) (a1 : Int) (μ : bz_M) (h : gT μ a0 = 10) : d_M_problem a0 a1 μ = x_M_problem a0 a1 μ := by unfold d_M_problem; rw [h]; rfl
theorem d_M_doubtful_10 (a0 : Nat) (a1 : Int) (μ : bz_M) (h : gT μ a0 = 10) : d_M_doubtful a0 a1 μ = x_M_doubtful a0 a1 μ := by unfold d_M_doubtful; rw [h]; rfl
theorem d_M_repaired_10 (a0 : Nat) (a1 : Int) (μ : bz_M) (h : gT μ a0 = 10) : d_M_repaired a0 a1 μ = x_M_repaired a0 a1 μ := by unfold d_M_repaired; rw [h]; rfl
theorem d_E_winner_9 (a0 : Nat) (μ : bz_M) (h : gT μ a0 = 9) : d_E_winner a0 μ = x_E_winner a0 μ := by unfold d_E_winner; rw [h]; rfl
theorem d_M_winner_10 (a0 : Nat) (μ : bz_M) (h : gT μ a0 = 10) : d_M_winner a0 μ = x_M_winner a0 μ := by unfold d_M_winner; rw [h]; rfl
theorem d_M_worstScan_10 (a0 : Nat) (a1 : Int) (μ : bz_M) (h : gT μ a0 = 10) : d_M_worstScan a0 a1 μ = x_M_worstScan a0 a1 μ := by unfold d_M_worstScan; rw [h]; rfl
theorem d_M_setCheck_10 (a0 : Nat) (a1 : Int) (a2 : Int) (μ : bz_M) (h : gT μ a0 = 10) : d_M_setCheck a0 a1 a2 μ = x_M_setCheck a0 a1 a2 μ := by unfold d_M_setCheck; rw [h]; rfl
