/-! EACH CALL OF BOTH -/
theorem sym_nat {s : Int} (h : 0 ≤ s ∧ s < 3) : ∃ t : Nat, t < 3 ∧ s = t := ⟨s.toNat, by omega, by omega⟩
section
variable {σ : Sg}
theorem jb_append {a b c d f : Int} : jB [(1, 1)] σ (d_E_append 16 a b c d f) (d_M_append 867 a b c d f) := by
  by_cases q : gtl σ + 20 ≤ 60
  · exact ⟨ggT σ a b c d f, 0, gtl σ + 20, jC_ok fun sl e π M G h => (qo_append h).1 q, jM_ok fun sl e π M G h => (qm_append h).1 q⟩
  · exact ⟨σ, 1, 0, jC_x (c := 1) rfl (by decide) fun sl e π M G h => (qo_append h).2 q, jM_x (by decide) fun sl e π M G h => (qm_append h).2 q⟩
theorem jb_print {s n mo sp sd : Int} : jB [(2, 1), (3, 2), (1, 3)] σ (d_E_print 16 s n mo sp sd) (d_M_print 867 s n mo sp sd) := by
  by_cases hs : 0 ≤ s ∧ s < 3
  · obtain ⟨t, ht, rfl⟩ := sym_nat hs
    by_cases q : okPr σ t n mo sp
    · by_cases q2 : gc σ < 24
      · exact ⟨ggRp σ t n mo sp sd, 0, gc σ, jC_ok fun sl e π M G h => (qo_print h ht).1 q q2, jM_ok fun sl e π M G h => (qm_print h ht).1 q q2⟩
      · exact ⟨σ, 3, 0, jC_xm (c := 1) rfl (by decide) fun sl e π M G h => (qo_print h ht).2.1 q q2, jM_x (by decide) fun sl e π M G h => (qm_print h ht).2.1 q q2⟩
    · exact ⟨σ, 2, 0, jC_xm (c := 3) rfl (by decide) fun sl e π M G h => (qo_print h ht).2.2 q, jM_x (by decide) fun sl e π M G h => (qm_print h ht).2.2 q⟩
  · exact ⟨σ, 1, 0, jC_x (c := 2) rfl (by decide) fun sl e π M G h => qo_printX hs, jM_x (by decide) fun sl e π M G h => qm_printX hs⟩
theorem jb_checkCharacter {s n : Int} : jB [(2, 1), (3, 2)] σ (d_E_checkCharacter 16 s n) (d_M_checkCharacter 867 s n) := by
  by_cases hs : 0 ≤ s ∧ s < 3
  · obtain ⟨t, ht, rfl⟩ := sym_nat hs
    by_cases q : okCk σ t n
    · exact ⟨σ, 0, gCk σ t n, jC_ok fun sl e π M G h => (qo_checkCharacter h ht).1 q, jM_ok fun sl e π M G h => ⟨up M 867 11 0, (qm_checkCharacter h ht).1 q, MR_th h, fr_thhi, up_s⟩⟩
    · exact ⟨σ, 2, 0, jC_xm (c := 3) rfl (by decide) fun sl e π M G h => (qo_checkCharacter h ht).2 q, jM_x (by decide) fun sl e π M G h => (qm_checkCharacter h ht).2 q⟩
  · exact ⟨σ, 1, 0, jC_x (c := 2) rfl (by decide) fun sl e π M G h => qo_checkCharacterX hs, jM_x (by decide) fun sl e π M G h => qm_checkCharacterX hs⟩
theorem jb_addWidths {a b c d f g : Int} : jB [(3, 1), (1, 2)] σ (d_E_addWidths 16 a b c d f g) (d_M_addWidths 867 a b c d f g) := by
  by_cases q : ok6 a b c d f g
  · by_cases q2 : gpl σ + aN a b c d f g ≤ 129
    · exact ⟨ggP σ a b c d f g, 0, gpl σ + aN a b c d f g, jC_ok fun sl e π M G h => (qo_addWidths h).1 q q2, jM_ok fun sl e π M G h => (qm_addWidths h).1 q q2⟩
    · exact ⟨σ, 2, 0, jC_xm (c := 1) rfl (by decide) fun sl e π M G h => (qo_addWidths h).2.1 q q2, jM_x (by decide) fun sl e π M G h => (qm_addWidths h).2.1 q q2⟩
  · exact ⟨σ, 1, 0, jC_xm (c := 3) rfl (by decide) fun sl e π M G h => (qo_addWidths h).2.2 q, jM_x (by decide) fun sl e π M G h => (qm_addWidths h).2.2 q⟩
theorem jb_endScan : jB [(1, 1)] σ (d_E_endScan 16) (d_M_endScan 867) := by
  by_cases q : okE σ
  · exact ⟨ggE σ, 0, gc σ, jC_ok fun sl e π M G h => (qo_endScan h).1 q, jM_ok fun sl e π M G h => (qm_endScan h).1 q⟩
  · exact ⟨σ, 1, 0, jC_x (c := 1) rfl (by decide) fun sl e π M G h => (qo_endScan h).2 q, jM_x (by decide) fun sl e π M G h => (qm_endScan h).2 q⟩
theorem jb_widthCount {k : Int} : jB [(2, 1)] σ (d_E_widthCount 16 k) (d_M_widthCount 867 k) := by
  by_cases q : 0 ≤ k ∧ k < gc σ
  · refine ⟨σ, 0, gs σ k, jC_ok fun sl e π M G h => ⟨M, (qo_widthCount h).trans (if_pos q), h, fun _ _ _ => rfl⟩, jM_ok fun sl e π M G h => ?_⟩
    obtain ⟨M', g, m, f, t0⟩ := qm_widthCount (sl := sl) (e := e) (π := π) (G := G) h
    rw [if_pos q] at g t0
    exact ⟨M', g, m, f, t0⟩
  · refine ⟨σ, 1, 0, jC_x (c := 2) rfl (by decide) fun sl e π M G h => (qo_widthCount h).trans (if_neg q), fun sl e π M G h => ?_⟩
    obtain ⟨M', g, m, f, t0⟩ := qm_widthCount (sl := sl) (e := e) (π := π) (G := G) h
    rw [if_neg q] at g t0
    exact ⟨0, M', G, g, m, f, fun _ _ _ => rfl, t0, fun z => absurd z (by decide)⟩
theorem jb_width {k i : Int} : jB [(2, 1)] σ (d_E_width 16 k i) (d_M_width 867 k i) := by
  by_cases q : (0 ≤ k ∧ k < gc σ) ∧ 0 ≤ i ∧ i < gs σ k
  · refine ⟨σ, 0, gw σ k i, jC_ok fun sl e π M G h => ⟨M, (qo_width h).trans (if_pos q), h, fun _ _ _ => rfl⟩, jM_ok fun sl e π M G h => ?_⟩
    obtain ⟨M', g, m, f, t0⟩ := qm_width (sl := sl) (e := e) (π := π) (G := G) h
    rw [if_pos q] at g t0
    exact ⟨M', g, m, f, t0⟩
  · refine ⟨σ, 1, 0, jC_x (c := 2) rfl (by decide) fun sl e π M G h => (qo_width h).trans (if_neg q), fun sl e π M G h => ?_⟩
    obtain ⟨M', g, m, f, t0⟩ := qm_width (sl := sl) (e := e) (π := π) (G := G) h
    rw [if_neg q] at g t0
    exact ⟨0, M', G, g, m, f, fun _ _ _ => rfl, t0, fun z => absurd z (by decide)⟩
theorem jb_setWidth {k i v : Int} : jB [(2, 1), (3, 2)] σ (d_E_setWidth 16 k i v) (d_M_setWidth 867 k i v) := by
  by_cases q : (0 ≤ k ∧ k < gc σ) ∧ 0 ≤ i ∧ i < gs σ k
  · by_cases q2 : 1 ≤ v ∧ v ≤ 10000
    · exact ⟨ggW σ k i v, 0, gw σ k i, jC_ok fun sl e π M G h => (qo_setWidth h).1 q q2, jM_ok fun sl e π M G h => (qm_setWidth h).1 q q2⟩
    · exact ⟨σ, 2, 0, jC_x (c := 3) rfl (by decide) fun sl e π M G h => (qo_setWidth h).2.1 q q2, jM_x (by decide) fun sl e π M G h => (qm_setWidth h).2.1 q q2⟩
  · exact ⟨σ, 1, 0, jC_x (c := 2) rfl (by decide) fun sl e π M G h => (qo_setWidth h).2.2 q, jM_x (by decide) fun sl e π M G h => (qm_setWidth h).2.2 q⟩
theorem jb_cut {k i j : Int} : jB [(2, 1), (3, 2)] σ (d_E_cut 16 k i j) (d_M_cut 867 k i j) := by
  by_cases q : ok3 σ k i j
  · by_cases q2 : okC2 i j
    · exact ⟨ggC σ k i j, 0, j - i + 1, jC_ok fun sl e π M G h => (qo_cut h).1 q q2, jM_ok fun sl e π M G h => (qm_cut h).1 q q2⟩
    · exact ⟨σ, 2, 0, jC_x (c := 3) rfl (by decide) fun sl e π M G h => (qo_cut h).2.1 q q2, jM_x (by decide) fun sl e π M G h => (qm_cut h).2.1 q q2⟩
  · exact ⟨σ, 1, 0, jC_x (c := 2) rfl (by decide) fun sl e π M G h => (qo_cut h).2.2 q, jM_x (by decide) fun sl e π M G h => (qm_cut h).2.2 q⟩
theorem jb_reverse {k : Int} : jB [(2, 1)] σ (d_E_reverse 16 k) (d_M_reverse 867 k) := by
  by_cases q : 0 ≤ k ∧ k < gc σ
  · exact ⟨ggR σ k, 0, 0, jC_ok fun sl e π M G h => (qo_reverse h).1 q, jM_ok fun sl e π M G h => (qm_reverse h).1 q⟩
  · exact ⟨σ, 1, 0, jC_x (c := 2) rfl (by decide) fun sl e π M G h => (qo_reverse h).2 q, jM_x (by decide) fun sl e π M G h => (qm_reverse h).2 q⟩
theorem jb_smear {k a : Int} : jB [(2, 1), (3, 2)] σ (d_E_smear 16 k a) (d_M_smear 867 k a) := by
  by_cases q : 0 ≤ k ∧ k < gc σ
  · by_cases q2 : -100 ≤ a ∧ a ≤ 100
    · exact ⟨ggS σ k a, 0, bs_sc a (gw σ k) (gs σ k - 2).toNat 1, jC_ok fun sl e π M G h => (qo_smear h).1 q q2, jM_ok fun sl e π M G h => (qm_smear h).1 q q2⟩
    · exact ⟨σ, 2, 0, jC_x (c := 3) rfl (by decide) fun sl e π M G h => (qo_smear h).2.1 q q2, jM_x (by decide) fun sl e π M G h => (qm_smear h).2.1 q q2⟩
  · exact ⟨σ, 1, 0, jC_x (c := 2) rfl (by decide) fun sl e π M G h => (qo_smear h).2.2 q, jM_x (by decide) fun sl e π M G h => (qm_smear h).2.2 q⟩
theorem jb_average {k l : Int} : jB [(2, 1), (3, 2)] σ (d_E_average 16 k l) (d_M_average 867 k l) := by
  by_cases q : (0 ≤ k ∧ k < gc σ) ∧ (0 ≤ l ∧ l < gc σ)
  · by_cases q2 : gs σ k = gs σ l
    · exact ⟨ggA σ k l, 0, 0, jC_ok fun sl e π M G h => (qo_average h).1 q q2, jM_ok fun sl e π M G h => (qm_average h).1 q q2⟩
    · exact ⟨σ, 2, 0, jC_x (c := 3) rfl (by decide) fun sl e π M G h => (qo_average h).2.1 q q2, jM_x (by decide) fun sl e π M G h => (qm_average h).2.1 q q2⟩
  · exact ⟨σ, 1, 0, jC_x (c := 2) rfl (by decide) fun sl e π M G h => (qo_average h).2.2 q, jM_x (by decide) fun sl e π M G h => (qm_average h).2.2 q⟩
theorem jb_removeScan {k : Int} : jB [(2, 1)] σ (d_E_removeScan 16 k) (d_M_removeScan 867 k) := by
  by_cases q : 0 ≤ k ∧ k < gc σ
  · refine ⟨ggD σ k, 0, gc σ - 1, fun sl e π M G h => ?_, jM_ok fun sl e π M G h => (qm_removeScan h).1 q⟩
    obtain ⟨π', M', g, c, lo⟩ := (qo_removeScan (sl := sl) (e := e) (G := G) h).1 q
    exact ⟨π', M', c, lo, Or.inl ⟨rfl, g⟩⟩
  · exact ⟨σ, 1, 0, jC_x (c := 2) rfl (by decide) fun sl e π M G h => (qo_removeScan h).2 q, jM_x (by decide) fun sl e π M G h => (qm_removeScan h).2 q⟩
theorem jb_read {k s : Int} : jB [(2, 1)] σ (d_E_read 16 k s) (d_M_read 867 k s) := by
  by_cases q : (0 ≤ k ∧ k < gc σ) ∧ 0 ≤ s ∧ s < 3
  · obtain ⟨hk, hs⟩ := q
    obtain ⟨t, ht, rfl⟩ := sym_nat hs
    exact ⟨σ, 0, ((gR σ t k).1.1.length : Int), jC_ok fun sl e π M G h => qo_read h hk ht, jM_ok fun sl e π M G h => qm_read h hk ht⟩
  · exact ⟨σ, 1, 0, jC_x (c := 2) rfl (by decide) fun sl e π M G h => qo_readX h q, jM_x (by decide) fun sl e π M G h => qm_readX h q⟩
theorem jb_readPart {k s b : Int} : jB [(2, 1)] σ (d_E_readPart 16 k s b) (d_M_readPart 867 k s b) := by
  by_cases q : (0 ≤ k ∧ k < gc σ) ∧ 0 ≤ s ∧ s < 3
  · obtain ⟨hk, hs⟩ := q
    obtain ⟨t, ht, rfl⟩ := sym_nat hs
    exact ⟨σ, 0, ((rpt (gR σ t k) b).length : Int), jC_ok fun sl e π M G h => qo_readPart h hk ht, jM_ok fun sl e π M G h => qm_readPart h hk ht⟩
  · exact ⟨σ, 1, 0, jC_x (c := 2) rfl (by decide) fun sl e π M G h => qo_readPartX h q, jM_x (by decide) fun sl e π M G h => qm_readPartX h q⟩
theorem jb_character {k s p : Int} : jB [(2, 1)] σ (d_E_character 16 k s p) (d_M_character 867 k s p) := by
  by_cases q : (0 ≤ k ∧ k < gc σ) ∧ 0 ≤ s ∧ s < 3
  · obtain ⟨hk, hs⟩ := q
    obtain ⟨t, ht, rfl⟩ := sym_nat hs
    by_cases q2 : 0 ≤ p ∧ p < ((gR σ t k).1.1).length
    · obtain ⟨i, hi, rfl⟩ : ∃ i : Nat, i < ((gR σ t k).1.1).length ∧ p = i := ⟨p.toNat, by omega, by omega⟩
      refine ⟨σ, 0, al ((gR σ t k).1.1[i]).1, jC_ok fun sl e π M G h => ?_, jM_ok fun sl e π M G h => ?_⟩
      · obtain ⟨M', ⟨c, lo⟩, g, -⟩ := qo_character (sl := sl) (e := e) (G := G) (p := (i : Int)) h hk ht
        exact ⟨M', g i hi rfl, c, lo⟩
      · obtain ⟨M', ⟨m, f⟩, g, -⟩ := qm_character (sl := sl) (e := e) (π := π) (G := G) (p := (i : Int)) h hk ht
        exact ⟨M', (g i hi rfl).1, m, f, (g i hi rfl).2⟩
    · refine ⟨σ, 1, 0, jC_xm (c := 2) rfl (by decide) fun sl e π M G h => ?_, jM_xm (by decide) fun sl e π M G h => ?_⟩
      · obtain ⟨M', ⟨c, lo⟩, -, g⟩ := qo_character (sl := sl) (e := e) (G := G) (p := p) h hk ht
        exact ⟨M', g q2, c, lo⟩
      · obtain ⟨M', ⟨m, f⟩, -, g⟩ := qm_character (sl := sl) (e := e) (π := π) (G := G) (p := p) h hk ht
        exact ⟨M', g q2, m, f⟩
  · exact ⟨σ, 1, 0, jC_x (c := 2) rfl (by decide) fun sl e π M G h => qo_characterX h q, jM_x (by decide) fun sl e π M G h => qm_characterX h q⟩
theorem jb_confidence {k s p : Int} : jB [(2, 1)] σ (d_E_confidence 16 k s p) (d_M_confidence 867 k s p) := by
  by_cases q : (0 ≤ k ∧ k < gc σ) ∧ 0 ≤ s ∧ s < 3
  · obtain ⟨hk, hs⟩ := q
    obtain ⟨t, ht, rfl⟩ := sym_nat hs
    by_cases q2 : 0 ≤ p ∧ p < ((gR σ t k).1.1).length
    · obtain ⟨i, hi, rfl⟩ : ∃ i : Nat, i < ((gR σ t k).1.1).length ∧ p = i := ⟨p.toNat, by omega, by omega⟩
      refine ⟨σ, 0, ((gR σ t k).1.1[i]).2, jC_ok fun sl e π M G h => ?_, jM_ok fun sl e π M G h => ?_⟩
      · obtain ⟨M', ⟨c, lo⟩, g, -⟩ := qo_confidence (sl := sl) (e := e) (G := G) (p := (i : Int)) h hk ht
        exact ⟨M', g i hi rfl, c, lo⟩
      · obtain ⟨M', ⟨m, f⟩, g, -⟩ := qm_confidence (sl := sl) (e := e) (π := π) (G := G) (p := (i : Int)) h hk ht
        exact ⟨M', (g i hi rfl).1, m, f, (g i hi rfl).2⟩
    · refine ⟨σ, 1, 0, jC_xm (c := 2) rfl (by decide) fun sl e π M G h => ?_, jM_xm (by decide) fun sl e π M G h => ?_⟩
      · obtain ⟨M', ⟨c, lo⟩, -, g⟩ := qo_confidence (sl := sl) (e := e) (G := G) (p := p) h hk ht
        exact ⟨M', g q2, c, lo⟩
      · obtain ⟨M', ⟨m, f⟩, -, g⟩ := qm_confidence (sl := sl) (e := e) (π := π) (G := G) (p := p) h hk ht
        exact ⟨M', g q2, m, f⟩
  · exact ⟨σ, 1, 0, jC_x (c := 2) rfl (by decide) fun sl e π M G h => qo_confidenceX h q, jM_x (by decide) fun sl e π M G h => qm_confidenceX h q⟩
theorem jb_partCharacter {k s b p : Int} : jB [(2, 1)] σ (d_E_partCharacter 16 k s b p) (d_M_partCharacter 867 k s b p) := by
  by_cases q : (0 ≤ k ∧ k < gc σ) ∧ 0 ≤ s ∧ s < 3
  · obtain ⟨hk, hs⟩ := q
    obtain ⟨t, ht, rfl⟩ := sym_nat hs
    by_cases q2 : 0 ≤ p ∧ p < (rpt (gR σ t k) b).length
    · obtain ⟨i, hi, rfl⟩ : ∃ i : Nat, i < (rpt (gR σ t k) b).length ∧ p = i := ⟨p.toNat, by omega, by omega⟩
      refine ⟨σ, 0, al ((rpt (gR σ t k) b)[i]).1, jC_ok fun sl e π M G h => ?_, jM_ok fun sl e π M G h => ?_⟩
      · obtain ⟨M', ⟨c, lo⟩, g, -⟩ := qo_partCharacter (b := b) (sl := sl) (e := e) (G := G) (p := (i : Int)) h hk ht
        exact ⟨M', g i hi rfl, c, lo⟩
      · obtain ⟨M', ⟨m, f⟩, g, -⟩ := qm_partCharacter (b := b) (sl := sl) (e := e) (π := π) (G := G) (p := (i : Int)) h hk ht
        exact ⟨M', (g i hi rfl).1, m, f, (g i hi rfl).2⟩
    · refine ⟨σ, 1, 0, jC_xm (c := 2) rfl (by decide) fun sl e π M G h => ?_, jM_xm (by decide) fun sl e π M G h => ?_⟩
      · obtain ⟨M', ⟨c, lo⟩, -, g⟩ := qo_partCharacter (b := b) (sl := sl) (e := e) (G := G) (p := p) h hk ht
        exact ⟨M', g q2, c, lo⟩
      · obtain ⟨M', ⟨m, f⟩, -, g⟩ := qm_partCharacter (b := b) (sl := sl) (e := e) (π := π) (G := G) (p := p) h hk ht
        exact ⟨M', g q2, m, f⟩
  · exact ⟨σ, 1, 0, jC_x (c := 2) rfl (by decide) fun sl e π M G h => qo_partCharacterX h q, jM_x (by decide) fun sl e π M G h => qm_partCharacterX h q⟩
theorem jb_isReversed {k s : Int} : jB [(2, 1)] σ (d_E_isReversed 16 k s) (d_M_isReversed 867 k s) := by
  by_cases q : (0 ≤ k ∧ k < gc σ) ∧ 0 ≤ s ∧ s < 3
  · obtain ⟨hk, hs⟩ := q
    obtain ⟨t, ht, rfl⟩ := sym_nat hs
    exact ⟨σ, 0, bi (gR σ t k).2.1, jC_ok fun sl e π M G h => qo_isReversed h hk ht, jM_ok fun sl e π M G h => qm_isReversed h hk ht⟩
  · exact ⟨σ, 1, 0, jC_x (c := 2) rfl (by decide) fun sl e π M G h => qo_isReversedX h q, jM_x (by decide) fun sl e π M G h => qm_isReversedX h q⟩
theorem jb_agreement {k l s : Int} : jB [(2, 1)] σ (d_E_agreement 16 k l s) (d_M_agreement 867 k l s) := by
  by_cases q : ok2 σ k l s
  · obtain ⟨⟨hk, hl⟩, hs⟩ := q
    obtain ⟨t, ht, rfl⟩ := sym_nat hs
    exact ⟨σ, 0, gAg (gR σ t k).1.1 (gR σ t l).1.1, jC_ok fun sl e π M G h => qo_agreement h hk hl ht, jM_ok fun sl e π M G h => qm_agreement h hk hl ht⟩
  · exact ⟨σ, 1, 0, jC_xm (c := 2) rfl (by decide) fun sl e π M G h => qo_agreementX h q, jM_x (by decide) fun sl e π M G h => qm_agreementX h q⟩
theorem jb_overlap {k l s : Int} : jB [(2, 1)] σ (d_E_overlap 16 k l s) (d_M_overlap 867 k l s) := by
  by_cases q : ok2 σ k l s
  · obtain ⟨⟨hk, hl⟩, hs⟩ := q
    obtain ⟨t, ht, rfl⟩ := sym_nat hs
    exact ⟨σ, 0, gOv (gR σ t k).1.2.1 (gR σ t l).1.2.2, jC_ok fun sl e π M G h => qo_overlap h hk hl ht, jM_ok fun sl e π M G h => qm_overlap h hk hl ht⟩
  · exact ⟨σ, 1, 0, jC_xm (c := 2) rfl (by decide) fun sl e π M G h => qo_overlapX h q, jM_x (by decide) fun sl e π M G h => qm_overlapX h q⟩
theorem jb_mergedLength {k l s : Int} : jB [(2, 1)] σ (d_E_mergedLength 16 k l s) (d_M_mergedLength 867 k l s) := by
  by_cases q : ok2 σ k l s
  · obtain ⟨⟨hk, hl⟩, hs⟩ := q
    obtain ⟨t, ht, rfl⟩ := sym_nat hs
    exact ⟨σ, 0, gMl t (gR σ t k).1.2.1 (gR σ t l).1.2.2, jC_ok fun sl e π M G h => qo_mergedLength h hk hl ht, jM_ok fun sl e π M G h => qm_mergedLength h hk hl ht⟩
  · exact ⟨σ, 1, 0, jC_xm (c := 2) rfl (by decide) fun sl e π M G h => qo_mergedLengthX h q, jM_x (by decide) fun sl e π M G h => qm_mergedLengthX h q⟩
theorem jb_mergedCharacter {k l s p : Int} : jB [(2, 1)] σ (d_E_mergedCharacter 16 k l s p) (d_M_mergedCharacter 867 k l s p) := by
  by_cases q : ok2 σ k l s
  · obtain ⟨⟨hk, hl⟩, hs⟩ := q
    obtain ⟨t, ht, rfl⟩ := sym_nat hs
    by_cases q2 : 0 ≤ p ∧ p < gMl t (gR σ t k).1.2.1 (gR σ t l).1.2.2
    · refine ⟨σ, 0, al (gMc t (gR σ t k).1.2.1 (gR σ t l).1.2.2 p.toNat), jC_ok fun sl e π M G h => ?_, jM_ok fun sl e π M G h => ?_⟩
      · obtain ⟨M', ⟨c, lo⟩, g, -⟩ := qo_mergedCharacter (sl := sl) (e := e) (G := G) (p := p) h hk hl ht
        exact ⟨M', g q2, c, lo⟩
      · obtain ⟨M', ⟨m, f⟩, g, -⟩ := qm_mergedCharacter (sl := sl) (e := e) (π := π) (G := G) (p := p) h hk hl ht
        exact ⟨M', (g q2).1, m, f, (g q2).2⟩
    · refine ⟨σ, 1, 0, jC_xm (c := 2) rfl (by decide) fun sl e π M G h => ?_, jM_xm (by decide) fun sl e π M G h => ?_⟩
      · obtain ⟨M', ⟨c, lo⟩, -, g⟩ := qo_mergedCharacter (sl := sl) (e := e) (G := G) (p := p) h hk hl ht
        exact ⟨M', g q2, c, lo⟩
      · obtain ⟨M', ⟨m, f⟩, -, g⟩ := qm_mergedCharacter (sl := sl) (e := e) (π := π) (G := G) (p := p) h hk hl ht
        exact ⟨M', g q2, m, f⟩
  · exact ⟨σ, 1, 0, jC_xm (c := 2) rfl (by decide) fun sl e π M G h => qo_mergedCharacterX h q, jM_x (by decide) fun sl e π M G h => by rw [qm_mergedCharacterX h q, up_up]⟩
theorem jb_module {k s : Int} : jB [(2, 1), (4, 2)] σ (d_E_module 16 k s) (d_M_module 867 k s) := by
  by_cases q : (0 ≤ k ∧ k < gc σ) ∧ 0 ≤ s ∧ s < 3
  · obtain ⟨hk, hs⟩ := q
    obtain ⟨t, ht, rfl⟩ := sym_nat hs
    by_cases q2 : (gR σ t k).1.1 = []
    · refine ⟨σ, 2, 0, jC_xm (c := 4) rfl (by decide) fun sl e π M G h => ?_, jM_xm (by decide) fun sl e π M G h => ?_⟩
      · obtain ⟨M', c, lo, g, -⟩ := qo_module (sl := sl) (e := e) (G := G) h hk ht
        exact ⟨M', g q2, c, lo⟩
      · obtain ⟨M', ⟨m, f⟩, g, -⟩ := qm_module (sl := sl) (e := e) (π := π) (G := G) h hk ht
        exact ⟨M', g q2, m, f⟩
    · refine ⟨σ, 0, gMd σ k t, jC_ok fun sl e π M G h => ?_, jM_okG fun sl e π M G h => ?_⟩
      · obtain ⟨M', c, lo, -, g⟩ := qo_module (sl := sl) (e := e) (G := G) h hk ht
        exact ⟨M', g q2, c, lo⟩
      · obtain ⟨M', ⟨m, f⟩, -, g⟩ := qm_module (sl := sl) (e := e) (π := π) (G := G) h hk ht
        obtain ⟨G', g, fG, t0⟩ := g q2
        exact ⟨M', G', g, m, f, fG, t0⟩
  · exact ⟨σ, 1, 0, jC_x (c := 2) rfl (by decide) fun sl e π M G h => qo_moduleX h q, jM_x (by decide) fun sl e π M G h => qm_moduleX h q⟩
theorem jb_spread {k s : Int} : jB [(2, 1), (4, 2)] σ (d_E_spread 16 k s) (d_M_spread 867 k s) := by
  by_cases q : (0 ≤ k ∧ k < gc σ) ∧ 0 ≤ s ∧ s < 3
  · obtain ⟨hk, hs⟩ := q
    obtain ⟨t, ht, rfl⟩ := sym_nat hs
    by_cases q2 : (gR σ t k).1.1 = []
    · refine ⟨σ, 2, 0, jC_xm (c := 4) rfl (by decide) fun sl e π M G h => ?_, jM_xm (by decide) fun sl e π M G h => ?_⟩
      · obtain ⟨M', c, lo, g, -⟩ := qo_spread (sl := sl) (e := e) (G := G) h hk ht
        exact ⟨M', g q2, c, lo⟩
      · obtain ⟨M', ⟨m, f⟩, g, -⟩ := qm_spread (sl := sl) (e := e) (π := π) (G := G) h hk ht
        exact ⟨M', g q2, m, f⟩
    · refine ⟨σ, 0, wr (bs_fl (gSp σ k t) (gSq σ k t)), jC_ok fun sl e π M G h => ?_, jM_okG fun sl e π M G h => ?_⟩
      · obtain ⟨M', c, lo, -, g⟩ := qo_spread (sl := sl) (e := e) (G := G) h hk ht
        exact ⟨M', g q2, c, lo⟩
      · obtain ⟨M', ⟨m, f⟩, -, g⟩ := qm_spread (sl := sl) (e := e) (π := π) (G := G) h hk ht
        obtain ⟨G', g, fG, t0⟩ := g q2
        exact ⟨M', G', g, m, f, fG, t0⟩
  · exact ⟨σ, 1, 0, jC_x (c := 2) rfl (by decide) fun sl e π M G h => qo_spreadX h q, jM_x (by decide) fun sl e π M G h => qm_spreadX h q⟩
theorem jb_bestScan {s : Int} : jB [(2, 1), (4, 2)] σ (d_E_bestScan 16 s) (d_M_bestScan 867 s) := by
  by_cases hs : 0 ≤ s ∧ s < 3
  · obtain ⟨t, ht, rfl⟩ := sym_nat hs
    by_cases q2 : gBs σ t = -1
    · refine ⟨σ, 2, 0, jC_xm (c := 4) rfl (by decide) fun sl e π M G h => ?_, jM_xm (by decide) fun sl e π M G h => ?_⟩
      · obtain ⟨M', g, c, lo⟩ := qo_bestScan (sl := sl) (e := e) (G := G) h ht
        exact ⟨M', g.trans (if_pos q2), c, lo⟩
      · obtain ⟨M', ⟨m, f⟩, -, g⟩ := qm_bestScan (sl := sl) (e := e) (π := π) (G := G) h ht
        exact ⟨M', g q2, m, f⟩
    · refine ⟨σ, 0, gBs σ t, jC_ok fun sl e π M G h => ?_, jM_ok fun sl e π M G h => ?_⟩
      · obtain ⟨M', g, c, lo⟩ := qo_bestScan (sl := sl) (e := e) (G := G) h ht
        exact ⟨M', g.trans (if_neg q2), c, lo⟩
      · obtain ⟨M', ⟨m, f⟩, g, -⟩ := qm_bestScan (sl := sl) (e := e) (π := π) (G := G) h ht
        exact ⟨M', (g q2).1, m, f, (g q2).2⟩
  · exact ⟨σ, 1, 0, jC_x (c := 2) rfl (by decide) fun sl e π M G h => qo_bestScanX hs, jM_x (by decide) fun sl e π M G h => qm_bestScanX hs⟩
theorem jb_length {s : Int} : jB [(2, 1)] σ (d_E_length 16 s) (d_M_length 867 s) := by
  by_cases hs : 0 ≤ s ∧ s < 3
  · obtain ⟨t, ht, rfl⟩ := sym_nat hs
    exact ⟨σ, 0, gL σ t, jC_ok fun sl e π M G h => qo_length h ht, jM_ok fun sl e π M G h => qm_length h ht⟩
  · exact ⟨σ, 1, 0, jC_x (c := 2) rfl (by decide) fun sl e π M G h => qo_lengthX hs, jM_x (by decide) fun sl e π M G h => qm_lengthX hs⟩
theorem jb_weight {s p c : Int} : jB [(2, 1)] σ (d_E_weight 16 s p c) (d_M_weight 867 s p c) := by
  by_cases hs : 0 ≤ s ∧ s < 3
  · obtain ⟨t, ht, rfl⟩ := sym_nat hs
    by_cases q2 : 0 ≤ p ∧ p < gL σ t
    · refine ⟨σ, 0, gWt (gV σ t) p c, jC_ok fun sl e π M G h => ?_, jM_ok fun sl e π M G h => ?_⟩
      · obtain ⟨M', c', lo, g, -⟩ := qo_weight (sl := sl) (e := e) (G := G) (p := p) (c := c) h ht
        exact ⟨M', g q2, c', lo⟩
      · obtain ⟨M', ⟨m, f⟩, g, -⟩ := qm_weight1 (sl := sl) (e := e) (π := π) (G := G) (p := p) (c := c) h ht
        exact ⟨M', (g q2).1, m, f, (g q2).2⟩
    · refine ⟨σ, 1, 0, jC_xm (c := 2) rfl (by decide) fun sl e π M G h => ?_, jM_xm (by decide) fun sl e π M G h => ?_⟩
      · obtain ⟨M', c', lo, -, g⟩ := qo_weight (sl := sl) (e := e) (G := G) (p := p) (c := c) h ht
        exact ⟨M', g q2, c', lo⟩
      · obtain ⟨M', ⟨m, f⟩, -, g⟩ := qm_weight1 (sl := sl) (e := e) (π := π) (G := G) (p := p) (c := c) h ht
        exact ⟨M', g q2, m, f⟩
  · exact ⟨σ, 1, 0, jC_x (c := 2) rfl (by decide) fun sl e π M G h => qo_weightX hs, jM_x (by decide) fun sl e π M G h => qm_weightX hs⟩
theorem jb_voted {s p : Int} : jB [(2, 1)] σ (d_E_voted 16 s p) (d_M_voted 867 s p) := by
  by_cases hs : 0 ≤ s ∧ s < 3
  · obtain ⟨t, ht, rfl⟩ := sym_nat hs
    by_cases q2 : 0 ≤ p ∧ p < gL σ t
    · refine ⟨σ, 0, al1 (bs_mj (gV σ t) p), jC_ok fun sl e π M G h => ?_, jM_ok fun sl e π M G h => ?_⟩
      · obtain ⟨M', c', lo, g, -⟩ := qo_voted (sl := sl) (e := e) (G := G) (p := p) h ht
        exact ⟨M', g q2, c', lo⟩
      · obtain ⟨M', ⟨m, f⟩, g, -⟩ := qm_voted1 (sl := sl) (e := e) (π := π) (G := G) (p := p) h ht
        exact ⟨M', (g q2).1, m, f, (g q2).2⟩
    · refine ⟨σ, 1, 0, jC_xm (c := 2) rfl (by decide) fun sl e π M G h => ?_, jM_xm (by decide) fun sl e π M G h => ?_⟩
      · obtain ⟨M', c', lo, -, g⟩ := qo_voted (sl := sl) (e := e) (G := G) (p := p) h ht
        exact ⟨M', g q2, c', lo⟩
      · obtain ⟨M', ⟨m, f⟩, -, g⟩ := qm_voted1 (sl := sl) (e := e) (π := π) (G := G) (p := p) h ht
        exact ⟨M', g q2, m, f⟩
  · exact ⟨σ, 1, 0, jC_x (c := 2) rfl (by decide) fun sl e π M G h => qo_votedX hs, jM_x (by decide) fun sl e π M G h => qm_votedX hs⟩
theorem jb_runnerUp {s p : Int} : jB [(2, 1)] σ (d_E_runnerUp 16 s p) (d_M_runnerUp 867 s p) := by
  by_cases hs : 0 ≤ s ∧ s < 3
  · obtain ⟨t, ht, rfl⟩ := sym_nat hs
    by_cases q2 : 0 ≤ p ∧ p < gL σ t
    · refine ⟨σ, 0, gRu (gV σ t) p, jC_ok fun sl e π M G h => ?_, jM_ok fun sl e π M G h => ?_⟩
      · obtain ⟨M', c', lo, g, -⟩ := qo_runnerUp (sl := sl) (e := e) (G := G) (p := p) h ht
        exact ⟨M', g q2, c', lo⟩
      · obtain ⟨M', ⟨m, f⟩, g, -⟩ := qm_runnerUp (sl := sl) (e := e) (π := π) (G := G) (p := p) h ht
        exact ⟨M', (g q2).1, m, f, (g q2).2⟩
    · refine ⟨σ, 1, 0, jC_xm (c := 2) rfl (by decide) fun sl e π M G h => ?_, jM_xm (by decide) fun sl e π M G h => ?_⟩
      · obtain ⟨M', c', lo, -, g⟩ := qo_runnerUp (sl := sl) (e := e) (G := G) (p := p) h ht
        exact ⟨M', g q2, c', lo⟩
      · obtain ⟨M', ⟨m, f⟩, -, g⟩ := qm_runnerUp (sl := sl) (e := e) (π := π) (G := G) (p := p) h ht
        exact ⟨M', g q2, m, f⟩
  · exact ⟨σ, 1, 0, jC_x (c := 2) rfl (by decide) fun sl e π M G h => qo_runnerUpX hs, jM_x (by decide) fun sl e π M G h => qm_runnerUpX hs⟩
theorem jb_problem {s : Int} : jB [(2, 1)] σ (d_E_problem 16 s) (d_M_problem 867 s) := by
  by_cases hs : 0 ≤ s ∧ s < 3
  · obtain ⟨t, ht, rfl⟩ := sym_nat hs
    exact ⟨σ, 0, gPr σ t, jC_ok fun sl e π M G h => qo_problem h ht, jM_ok fun sl e π M G h => qm_problem h ht⟩
  · exact ⟨σ, 1, 0, jC_x (c := 2) rfl (by decide) fun sl e π M G h => qo_problemX hs, jM_x (by decide) fun sl e π M G h => qm_problemX hs⟩
theorem jb_doubtful {s : Int} : jB [(2, 1)] σ (d_E_doubtful 16 s) (d_M_doubtful 867 s) := by
  by_cases hs : 0 ≤ s ∧ s < 3
  · obtain ⟨t, ht, rfl⟩ := sym_nat hs
    exact ⟨σ, 0, gFd σ t, jC_ok fun sl e π M G h => qo_doubtful h ht, jM_ok fun sl e π M G h => qm_doubtful h ht⟩
  · exact ⟨σ, 1, 0, jC_x (c := 2) rfl (by decide) fun sl e π M G h => qo_doubtfulX hs, jM_x (by decide) fun sl e π M G h => qm_doubtfulX hs⟩
theorem jb_repaired {s : Int} : jB [(2, 1), (1, 2), (4, 3)] σ (d_E_repaired 16 s) (d_M_repaired 867 s) := by
  by_cases hs : 0 ≤ s ∧ s < 3
  · obtain ⟨t, ht, rfl⟩ := sym_nat hs
    by_cases q2 : bs_db (gV σ t) (gL σ t).toNat = 1
    · by_cases q3 : gRp σ t = -1
      · refine ⟨σ, 3, 0, jC_xm (c := 4) rfl (by decide) fun sl e π M G h => ?_, jM_xm (by decide) fun sl e π M G h => ?_⟩
        · obtain ⟨M', c, lo, -, g, -⟩ := qo_repaired (sl := sl) (e := e) (G := G) h ht
          exact ⟨M', g q2 q3, c, lo⟩
        · obtain ⟨M', ⟨m, f⟩, -, g, -⟩ := qm_repaired (sl := sl) (e := e) (π := π) (G := G) h ht
          exact ⟨M', g q2 q3, m, f⟩
      · refine ⟨σ, 0, al1 (gRp σ t), jC_ok fun sl e π M G h => ?_, jM_ok fun sl e π M G h => ?_⟩
        · obtain ⟨M', c, lo, -, -, g⟩ := qo_repaired (sl := sl) (e := e) (G := G) h ht
          exact ⟨M', g q2 q3, c, lo⟩
        · obtain ⟨M', ⟨m, f⟩, -, -, g⟩ := qm_repaired (sl := sl) (e := e) (π := π) (G := G) h ht
          exact ⟨M', (g q2 q3).1, m, f, (g q2 q3).2⟩
    · refine ⟨σ, 2, 0, jC_xm (c := 1) rfl (by decide) fun sl e π M G h => ?_, jM_xm (by decide) fun sl e π M G h => ?_⟩
      · obtain ⟨M', c, lo, g, -⟩ := qo_repaired (sl := sl) (e := e) (G := G) h ht
        exact ⟨M', g q2, c, lo⟩
      · obtain ⟨M', ⟨m, f⟩, g, -⟩ := qm_repaired (sl := sl) (e := e) (π := π) (G := G) h ht
        exact ⟨M', g q2, m, f⟩
  · exact ⟨σ, 1, 0, jC_x (c := 2) rfl (by decide) fun sl e π M G h => qo_repairedX hs, jM_x (by decide) fun sl e π M G h => qm_repairedX hs⟩
theorem jb_worstScan {s : Int} : jB [(2, 1), (4, 2)] σ (d_E_worstScan 16 s) (d_M_worstScan 867 s) := by
  by_cases hs : 0 ≤ s ∧ s < 3
  · obtain ⟨t, ht, rfl⟩ := sym_nat hs
    by_cases q2 : gWs σ t = -1
    · refine ⟨σ, 2, 0, jC_xm (c := 4) rfl (by decide) fun sl e π M G h => ?_, jM_xm (by decide) fun sl e π M G h => ?_⟩
      · obtain ⟨M', g, c, lo⟩ := qo_worstScan (sl := sl) (e := e) (G := G) h ht
        exact ⟨M', g.trans (if_pos q2), c, lo⟩
      · obtain ⟨M', ⟨m, f⟩, -, g⟩ := qm_worstScan (sl := sl) (e := e) (π := π) (G := G) h ht
        exact ⟨M', g q2, m, f⟩
    · refine ⟨σ, 0, gWs σ t, jC_ok fun sl e π M G h => ?_, jM_ok fun sl e π M G h => ?_⟩
      · obtain ⟨M', g, c, lo⟩ := qo_worstScan (sl := sl) (e := e) (G := G) h ht
        exact ⟨M', g.trans (if_neg q2), c, lo⟩
      · obtain ⟨M', ⟨m, f⟩, g, -⟩ := qm_worstScan (sl := sl) (e := e) (π := π) (G := G) h ht
        exact ⟨M', (g q2).1, m, f, (g q2).2⟩
  · exact ⟨σ, 1, 0, jC_x (c := 2) rfl (by decide) fun sl e π M G h => qo_worstScanX hs, jM_x (by decide) fun sl e π M G h => qm_worstScanX hs⟩
theorem jb_setCheck {s v : Int} (hv : v = 0 ∨ v = 1) : jB [(2, 1)] σ (d_E_setCheck 16 s v) (d_M_setCheck 867 s v) := by
  by_cases q : 0 ≤ s ∧ s < 3
  · exact ⟨ggK σ s v, 0, gk σ s, jC_ok fun sl e π M G h => (qo_setCheck h hv).1 q, jM_ok fun sl e π M G h => (qm_setCheck h hv).1 q⟩
  · exact ⟨σ, 1, 0, jC_x (c := 2) rfl (by decide) fun sl e π M G h => (qo_setCheck h hv).2 q, jM_x (by decide) fun sl e π M G h => (qm_setCheck h hv).2 q⟩
end
