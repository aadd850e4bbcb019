/-! THE LAW'S STEPS (by program) -/
/-- the law's end -/
def lG (sl n : Nat) (r : Option bz_R) : Prop := ∃ π M G e, r = rI 1 (bM sl π M G e) ∧ e ≤ n
theorem lG_of {sl n : Nat} {r r' : Option bz_R} (h : r = r') (h' : lG sl n r') : lG sl n r := by rw [h]; exact h'
theorem sc_r {sl e : Nat} {π : Int → Nat} {M G : Nat → Int → Int} {i j : Int} {k : Int → Option bz_R} (hi : (0 ≤ i ∧ i + 7 ≤ (sl : Int)) ∧ (sl : Int) ≤ 3584) (hj : 0 ≤ j ∧ j < 7) : bz_rI (bM sl π M G e) 1 (wr (i + j)) k = k (M 1 (i + j)) := by
  rw [wr_id (by omega), bm_rS (by omega)]
section
variable {sl e n : Nat} {π : Int → Nat} {M G : Nat → Int → Int} {σ : Sg} {i : Int}
theorem sw_0 (hi : (0 ≤ i ∧ i + 7 ≤ (sl : Int)) ∧ (sl : Int) ≤ 3584) (F : ∀ σ' π' M' G' e', CR σ' π' M' → MR σ' M' → e' ≤ e + 1 → lG sl n (x_L_law_0 1 16 867 888 (wr (i + 7)) (bM sl π' M' G' e'))) (c : CR σ π M) (m : MR σ M) : lG sl n (x_L_law_sw 1 16 867 888 i 0 (bM sl π M G e)) := by
  rw [x_L_law_sw0_eq, sc_r hi (by decide), sc_r hi (by decide), sc_r hi (by decide), sc_r hi (by decide), sc_r hi (by decide)]
  obtain ⟨σ', t, v, hC, hM⟩ := jb_append (σ := σ) (a := M 1 (i + 1)) (b := M 1 (i + 2)) (c := M 1 (i + 3)) (d := M 1 (i + 4)) (f := M 1 (i + 5))
  obtain ⟨π', M', G', e', g, c', lo, he, hv⟩ := jW (W := x_L_append 16 (M 1 (i + 1)) (M 1 (i + 2)) (M 1 (i + 3)) (M 1 (i + 4)) (M 1 (i + 5)) 888) (sl := sl) (e := e) (G := G) (fun μ => x_L_append_eq 16 (M 1 (i + 1)) (M 1 (i + 2)) (M 1 (i + 3)) (M 1 (i + 4)) (M 1 (i + 5)) 888 μ) hC c
  have ks : ∀ j, M' 1 j = M 1 j := fun j => scr_keep g j
  rw [g, cn_r, sc_r hi (by decide), sc_r hi (by decide), sc_r hi (by decide), sc_r hi (by decide), sc_r hi (by decide)]
  simp only [ks]
  obtain ⟨M'', G'', gT, c'', m''⟩ := jT (sl := sl) (e := e') (G := G') hM (MR_lo m lo c') c' hv
  exact lG_of (gT _) (F σ' π' M'' G'' e' c'' m'' he)
theorem sw_1 (hi : (0 ≤ i ∧ i + 7 ≤ (sl : Int)) ∧ (sl : Int) ≤ 3584) (F : ∀ σ' π' M' G' e', CR σ' π' M' → MR σ' M' → e' ≤ e + 1 → lG sl n (x_L_law_0 1 16 867 888 (wr (i + 7)) (bM sl π' M' G' e'))) (c : CR σ π M) (m : MR σ M) : lG sl n (x_L_law_sw 1 16 867 888 i 1 (bM sl π M G e)) := by
  rw [x_L_law_sw1_eq, sc_r hi (by decide), sc_r hi (by decide), sc_r hi (by decide), sc_r hi (by decide), sc_r hi (by decide)]
  obtain ⟨σ', t, v, hC, hM⟩ := jb_print (σ := σ) (s := M 1 (i + 1)) (n := M 1 (i + 2)) (mo := M 1 (i + 3)) (sp := M 1 (i + 4)) (sd := M 1 (i + 5))
  obtain ⟨π', M', G', e', g, c', lo, he, hv⟩ := jW (W := x_L_print 16 (M 1 (i + 1)) (M 1 (i + 2)) (M 1 (i + 3)) (M 1 (i + 4)) (M 1 (i + 5)) 888) (sl := sl) (e := e) (G := G) (fun μ => x_L_print_eq 16 (M 1 (i + 1)) (M 1 (i + 2)) (M 1 (i + 3)) (M 1 (i + 4)) (M 1 (i + 5)) 888 μ) hC c
  have ks : ∀ j, M' 1 j = M 1 j := fun j => scr_keep g j
  rw [g, cn_r, sc_r hi (by decide), sc_r hi (by decide), sc_r hi (by decide), sc_r hi (by decide), sc_r hi (by decide)]
  simp only [ks]
  obtain ⟨M'', G'', gT, c'', m''⟩ := jT (sl := sl) (e := e') (G := G') hM (MR_lo m lo c') c' hv
  exact lG_of (gT _) (F σ' π' M'' G'' e' c'' m'' he)
theorem sw_2 (hi : (0 ≤ i ∧ i + 7 ≤ (sl : Int)) ∧ (sl : Int) ≤ 3584) (F : ∀ σ' π' M' G' e', CR σ' π' M' → MR σ' M' → e' ≤ e + 1 → lG sl n (x_L_law_0 1 16 867 888 (wr (i + 7)) (bM sl π' M' G' e'))) (c : CR σ π M) (m : MR σ M) : lG sl n (x_L_law_sw 1 16 867 888 i 2 (bM sl π M G e)) := by
  rw [x_L_law_sw2_eq, sc_r hi (by decide), sc_r hi (by decide)]
  obtain ⟨σ', t, v, hC, hM⟩ := jb_checkCharacter (σ := σ) (s := M 1 (i + 1)) (n := M 1 (i + 2))
  obtain ⟨π', M', G', e', g, c', lo, he, hv⟩ := jW (W := x_L_checkCharacter 16 (M 1 (i + 1)) (M 1 (i + 2)) 888) (sl := sl) (e := e) (G := G) (fun μ => x_L_checkCharacter_eq 16 (M 1 (i + 1)) (M 1 (i + 2)) 888 μ) hC c
  have ks : ∀ j, M' 1 j = M 1 j := fun j => scr_keep g j
  rw [g, cn_r, sc_r hi (by decide), sc_r hi (by decide)]
  simp only [ks]
  obtain ⟨M'', G'', gT, c'', m''⟩ := jT (sl := sl) (e := e') (G := G') hM (MR_lo m lo c') c' hv
  exact lG_of (gT _) (F σ' π' M'' G'' e' c'' m'' he)
theorem sw_3 (hi : (0 ≤ i ∧ i + 7 ≤ (sl : Int)) ∧ (sl : Int) ≤ 3584) (F : ∀ σ' π' M' G' e', CR σ' π' M' → MR σ' M' → e' ≤ e + 1 → lG sl n (x_L_law_0 1 16 867 888 (wr (i + 7)) (bM sl π' M' G' e'))) (c : CR σ π M) (m : MR σ M) : lG sl n (x_L_law_sw 1 16 867 888 i 3 (bM sl π M G e)) := by
  rw [x_L_law_sw3_eq, sc_r hi (by decide), sc_r hi (by decide), sc_r hi (by decide), sc_r hi (by decide), sc_r hi (by decide), sc_r hi (by decide)]
  obtain ⟨σ', t, v, hC, hM⟩ := jb_addWidths (σ := σ) (a := M 1 (i + 1)) (b := M 1 (i + 2)) (c := M 1 (i + 3)) (d := M 1 (i + 4)) (f := M 1 (i + 5)) (g := M 1 (i + 6))
  obtain ⟨π', M', G', e', g, c', lo, he, hv⟩ := jW (W := x_L_addWidths 16 (M 1 (i + 1)) (M 1 (i + 2)) (M 1 (i + 3)) (M 1 (i + 4)) (M 1 (i + 5)) (M 1 (i + 6)) 888) (sl := sl) (e := e) (G := G) (fun μ => x_L_addWidths_eq 16 (M 1 (i + 1)) (M 1 (i + 2)) (M 1 (i + 3)) (M 1 (i + 4)) (M 1 (i + 5)) (M 1 (i + 6)) 888 μ) hC c
  have ks : ∀ j, M' 1 j = M 1 j := fun j => scr_keep g j
  rw [g, cn_r, sc_r hi (by decide), sc_r hi (by decide), sc_r hi (by decide), sc_r hi (by decide), sc_r hi (by decide), sc_r hi (by decide)]
  simp only [ks]
  obtain ⟨M'', G'', gT, c'', m''⟩ := jT (sl := sl) (e := e') (G := G') hM (MR_lo m lo c') c' hv
  exact lG_of (gT _) (F σ' π' M'' G'' e' c'' m'' he)
theorem sw_4 (hi : (0 ≤ i ∧ i + 7 ≤ (sl : Int)) ∧ (sl : Int) ≤ 3584) (F : ∀ σ' π' M' G' e', CR σ' π' M' → MR σ' M' → e' ≤ e + 1 → lG sl n (x_L_law_0 1 16 867 888 (wr (i + 7)) (bM sl π' M' G' e'))) (c : CR σ π M) (m : MR σ M) : lG sl n (x_L_law_sw 1 16 867 888 i 4 (bM sl π M G e)) := by
  rw [x_L_law_sw4_eq]
  obtain ⟨σ', t, v, hC, hM⟩ := jb_endScan (σ := σ)
  obtain ⟨π', M', G', e', g, c', lo, he, hv⟩ := jW (W := x_L_endScan 16 888) (sl := sl) (e := e) (G := G) (fun μ => x_L_endScan_eq 16 888 μ) hC c
  rw [g, cn_r]
  obtain ⟨M'', G'', gT, c'', m''⟩ := jT (sl := sl) (e := e') (G := G') hM (MR_lo m lo c') c' hv
  exact lG_of (gT _) (F σ' π' M'' G'' e' c'' m'' he)
theorem sw_6 (hi : (0 ≤ i ∧ i + 7 ≤ (sl : Int)) ∧ (sl : Int) ≤ 3584) (F : ∀ σ' π' M' G' e', CR σ' π' M' → MR σ' M' → e' ≤ e + 1 → lG sl n (x_L_law_0 1 16 867 888 (wr (i + 7)) (bM sl π' M' G' e'))) (c : CR σ π M) (m : MR σ M) : lG sl n (x_L_law_sw 1 16 867 888 i 6 (bM sl π M G e)) := by
  rw [x_L_law_sw6_eq, sc_r hi (by decide)]
  obtain ⟨σ', t, v, hC, hM⟩ := jb_widthCount (σ := σ) (k := M 1 (i + 1))
  obtain ⟨π', M', G', e', g, c', lo, he, hv⟩ := jW (W := x_L_widthCount 16 (M 1 (i + 1)) 888) (sl := sl) (e := e) (G := G) (fun μ => x_L_widthCount_eq 16 (M 1 (i + 1)) 888 μ) hC c
  have ks : ∀ j, M' 1 j = M 1 j := fun j => scr_keep g j
  rw [g, cn_r, sc_r hi (by decide)]
  simp only [ks]
  obtain ⟨M'', G'', gT, c'', m''⟩ := jT (sl := sl) (e := e') (G := G') hM (MR_lo m lo c') c' hv
  exact lG_of (gT _) (F σ' π' M'' G'' e' c'' m'' he)
theorem sw_7 (hi : (0 ≤ i ∧ i + 7 ≤ (sl : Int)) ∧ (sl : Int) ≤ 3584) (F : ∀ σ' π' M' G' e', CR σ' π' M' → MR σ' M' → e' ≤ e + 1 → lG sl n (x_L_law_0 1 16 867 888 (wr (i + 7)) (bM sl π' M' G' e'))) (c : CR σ π M) (m : MR σ M) : lG sl n (x_L_law_sw 1 16 867 888 i 7 (bM sl π M G e)) := by
  rw [x_L_law_sw7_eq, sc_r hi (by decide), sc_r hi (by decide)]
  obtain ⟨σ', t, v, hC, hM⟩ := jb_width (σ := σ) (k := M 1 (i + 1)) (i := M 1 (i + 2))
  obtain ⟨π', M', G', e', g, c', lo, he, hv⟩ := jW (W := x_L_width 16 (M 1 (i + 1)) (M 1 (i + 2)) 888) (sl := sl) (e := e) (G := G) (fun μ => x_L_width_eq 16 (M 1 (i + 1)) (M 1 (i + 2)) 888 μ) hC c
  have ks : ∀ j, M' 1 j = M 1 j := fun j => scr_keep g j
  rw [g, cn_r, sc_r hi (by decide), sc_r hi (by decide)]
  simp only [ks]
  obtain ⟨M'', G'', gT, c'', m''⟩ := jT (sl := sl) (e := e') (G := G') hM (MR_lo m lo c') c' hv
  exact lG_of (gT _) (F σ' π' M'' G'' e' c'' m'' he)
theorem sw_8 (hi : (0 ≤ i ∧ i + 7 ≤ (sl : Int)) ∧ (sl : Int) ≤ 3584) (F : ∀ σ' π' M' G' e', CR σ' π' M' → MR σ' M' → e' ≤ e + 1 → lG sl n (x_L_law_0 1 16 867 888 (wr (i + 7)) (bM sl π' M' G' e'))) (c : CR σ π M) (m : MR σ M) : lG sl n (x_L_law_sw 1 16 867 888 i 8 (bM sl π M G e)) := by
  rw [x_L_law_sw8_eq, sc_r hi (by decide), sc_r hi (by decide), sc_r hi (by decide)]
  obtain ⟨σ', t, v, hC, hM⟩ := jb_setWidth (σ := σ) (k := M 1 (i + 1)) (i := M 1 (i + 2)) (v := M 1 (i + 3))
  obtain ⟨π', M', G', e', g, c', lo, he, hv⟩ := jW (W := x_L_setWidth 16 (M 1 (i + 1)) (M 1 (i + 2)) (M 1 (i + 3)) 888) (sl := sl) (e := e) (G := G) (fun μ => x_L_setWidth_eq 16 (M 1 (i + 1)) (M 1 (i + 2)) (M 1 (i + 3)) 888 μ) hC c
  have ks : ∀ j, M' 1 j = M 1 j := fun j => scr_keep g j
  rw [g, cn_r, sc_r hi (by decide), sc_r hi (by decide), sc_r hi (by decide)]
  simp only [ks]
  obtain ⟨M'', G'', gT, c'', m''⟩ := jT (sl := sl) (e := e') (G := G') hM (MR_lo m lo c') c' hv
  exact lG_of (gT _) (F σ' π' M'' G'' e' c'' m'' he)
theorem sw_9 (hi : (0 ≤ i ∧ i + 7 ≤ (sl : Int)) ∧ (sl : Int) ≤ 3584) (F : ∀ σ' π' M' G' e', CR σ' π' M' → MR σ' M' → e' ≤ e + 1 → lG sl n (x_L_law_0 1 16 867 888 (wr (i + 7)) (bM sl π' M' G' e'))) (c : CR σ π M) (m : MR σ M) : lG sl n (x_L_law_sw 1 16 867 888 i 9 (bM sl π M G e)) := by
  rw [x_L_law_sw9_eq, sc_r hi (by decide), sc_r hi (by decide), sc_r hi (by decide)]
  obtain ⟨σ', t, v, hC, hM⟩ := jb_cut (σ := σ) (k := M 1 (i + 1)) (i := M 1 (i + 2)) (j := M 1 (i + 3))
  obtain ⟨π', M', G', e', g, c', lo, he, hv⟩ := jW (W := x_L_cut 16 (M 1 (i + 1)) (M 1 (i + 2)) (M 1 (i + 3)) 888) (sl := sl) (e := e) (G := G) (fun μ => x_L_cut_eq 16 (M 1 (i + 1)) (M 1 (i + 2)) (M 1 (i + 3)) 888 μ) hC c
  have ks : ∀ j, M' 1 j = M 1 j := fun j => scr_keep g j
  rw [g, cn_r, sc_r hi (by decide), sc_r hi (by decide), sc_r hi (by decide)]
  simp only [ks]
  obtain ⟨M'', G'', gT, c'', m''⟩ := jT (sl := sl) (e := e') (G := G') hM (MR_lo m lo c') c' hv
  exact lG_of (gT _) (F σ' π' M'' G'' e' c'' m'' he)
theorem sw_10 (hi : (0 ≤ i ∧ i + 7 ≤ (sl : Int)) ∧ (sl : Int) ≤ 3584) (F : ∀ σ' π' M' G' e', CR σ' π' M' → MR σ' M' → e' ≤ e + 1 → lG sl n (x_L_law_0 1 16 867 888 (wr (i + 7)) (bM sl π' M' G' e'))) (c : CR σ π M) (m : MR σ M) : lG sl n (x_L_law_sw 1 16 867 888 i 10 (bM sl π M G e)) := by
  rw [x_L_law_sw10_eq, sc_r hi (by decide)]
  obtain ⟨σ', t, v, hC, hM⟩ := jb_reverse (σ := σ) (k := M 1 (i + 1))
  obtain ⟨π', M', G', e', g, c', lo, he⟩ := jWv (W := x_L_reverse 16 (M 1 (i + 1))) (sl := sl) (e := e) (G := G) (fun μ => x_L_reverse_eq 16 (M 1 (i + 1)) μ) hC c
  have ks : ∀ j, M' 1 j = M 1 j := fun j => scr_keep g j
  rw [g, cn_r, sc_r hi (by decide)]
  simp only [ks]
  obtain ⟨M'', G'', gT, c'', m''⟩ := jTv (sl := sl) (e := e') (G := G') hM (MR_lo m lo c') c'
  exact lG_of (gT _) (F σ' π' M'' G'' e' c'' m'' he)
theorem sw_11 (hi : (0 ≤ i ∧ i + 7 ≤ (sl : Int)) ∧ (sl : Int) ≤ 3584) (F : ∀ σ' π' M' G' e', CR σ' π' M' → MR σ' M' → e' ≤ e + 1 → lG sl n (x_L_law_0 1 16 867 888 (wr (i + 7)) (bM sl π' M' G' e'))) (c : CR σ π M) (m : MR σ M) : lG sl n (x_L_law_sw 1 16 867 888 i 11 (bM sl π M G e)) := by
  rw [x_L_law_sw11_eq, sc_r hi (by decide), sc_r hi (by decide)]
  obtain ⟨σ', t, v, hC, hM⟩ := jb_smear (σ := σ) (k := M 1 (i + 1)) (a := M 1 (i + 2))
  obtain ⟨π', M', G', e', g, c', lo, he, hv⟩ := jW (W := x_L_smear 16 (M 1 (i + 1)) (M 1 (i + 2)) 888) (sl := sl) (e := e) (G := G) (fun μ => x_L_smear_eq 16 (M 1 (i + 1)) (M 1 (i + 2)) 888 μ) hC c
  have ks : ∀ j, M' 1 j = M 1 j := fun j => scr_keep g j
  rw [g, cn_r, sc_r hi (by decide), sc_r hi (by decide)]
  simp only [ks]
  obtain ⟨M'', G'', gT, c'', m''⟩ := jT (sl := sl) (e := e') (G := G') hM (MR_lo m lo c') c' hv
  exact lG_of (gT _) (F σ' π' M'' G'' e' c'' m'' he)
theorem sw_12 (hi : (0 ≤ i ∧ i + 7 ≤ (sl : Int)) ∧ (sl : Int) ≤ 3584) (F : ∀ σ' π' M' G' e', CR σ' π' M' → MR σ' M' → e' ≤ e + 1 → lG sl n (x_L_law_0 1 16 867 888 (wr (i + 7)) (bM sl π' M' G' e'))) (c : CR σ π M) (m : MR σ M) : lG sl n (x_L_law_sw 1 16 867 888 i 12 (bM sl π M G e)) := by
  rw [x_L_law_sw12_eq, sc_r hi (by decide), sc_r hi (by decide)]
  obtain ⟨σ', t, v, hC, hM⟩ := jb_average (σ := σ) (k := M 1 (i + 1)) (l := M 1 (i + 2))
  obtain ⟨π', M', G', e', g, c', lo, he⟩ := jWv (W := x_L_average 16 (M 1 (i + 1)) (M 1 (i + 2))) (sl := sl) (e := e) (G := G) (fun μ => x_L_average_eq 16 (M 1 (i + 1)) (M 1 (i + 2)) μ) hC c
  have ks : ∀ j, M' 1 j = M 1 j := fun j => scr_keep g j
  rw [g, cn_r, sc_r hi (by decide), sc_r hi (by decide)]
  simp only [ks]
  obtain ⟨M'', G'', gT, c'', m''⟩ := jTv (sl := sl) (e := e') (G := G') hM (MR_lo m lo c') c'
  exact lG_of (gT _) (F σ' π' M'' G'' e' c'' m'' he)
theorem sw_13 (hi : (0 ≤ i ∧ i + 7 ≤ (sl : Int)) ∧ (sl : Int) ≤ 3584) (F : ∀ σ' π' M' G' e', CR σ' π' M' → MR σ' M' → e' ≤ e + 1 → lG sl n (x_L_law_0 1 16 867 888 (wr (i + 7)) (bM sl π' M' G' e'))) (c : CR σ π M) (m : MR σ M) : lG sl n (x_L_law_sw 1 16 867 888 i 13 (bM sl π M G e)) := by
  rw [x_L_law_sw13_eq, sc_r hi (by decide)]
  obtain ⟨σ', t, v, hC, hM⟩ := jb_removeScan (σ := σ) (k := M 1 (i + 1))
  obtain ⟨π', M', G', e', g, c', lo, he, hv⟩ := jW (W := x_L_removeScan 16 (M 1 (i + 1)) 888) (sl := sl) (e := e) (G := G) (fun μ => x_L_removeScan_eq 16 (M 1 (i + 1)) 888 μ) hC c
  have ks : ∀ j, M' 1 j = M 1 j := fun j => scr_keep g j
  rw [g, cn_r, sc_r hi (by decide)]
  simp only [ks]
  obtain ⟨M'', G'', gT, c'', m''⟩ := jT (sl := sl) (e := e') (G := G') hM (MR_lo m lo c') c' hv
  exact lG_of (gT _) (F σ' π' M'' G'' e' c'' m'' he)
theorem sw_14 (hi : (0 ≤ i ∧ i + 7 ≤ (sl : Int)) ∧ (sl : Int) ≤ 3584) (F : ∀ σ' π' M' G' e', CR σ' π' M' → MR σ' M' → e' ≤ e + 1 → lG sl n (x_L_law_0 1 16 867 888 (wr (i + 7)) (bM sl π' M' G' e'))) (c : CR σ π M) (m : MR σ M) : lG sl n (x_L_law_sw 1 16 867 888 i 14 (bM sl π M G e)) := by
  rw [x_L_law_sw14_eq, sc_r hi (by decide), sc_r hi (by decide)]
  obtain ⟨σ', t, v, hC, hM⟩ := jb_read (σ := σ) (k := M 1 (i + 1)) (s := M 1 (i + 2))
  obtain ⟨π', M', G', e', g, c', lo, he, hv⟩ := jW (W := x_L_read 16 (M 1 (i + 1)) (M 1 (i + 2)) 888) (sl := sl) (e := e) (G := G) (fun μ => x_L_read_eq 16 (M 1 (i + 1)) (M 1 (i + 2)) 888 μ) hC c
  have ks : ∀ j, M' 1 j = M 1 j := fun j => scr_keep g j
  rw [g, cn_r, sc_r hi (by decide), sc_r hi (by decide)]
  simp only [ks]
  obtain ⟨M'', G'', gT, c'', m''⟩ := jT (sl := sl) (e := e') (G := G') hM (MR_lo m lo c') c' hv
  exact lG_of (gT _) (F σ' π' M'' G'' e' c'' m'' he)
theorem sw_15 (hi : (0 ≤ i ∧ i + 7 ≤ (sl : Int)) ∧ (sl : Int) ≤ 3584) (F : ∀ σ' π' M' G' e', CR σ' π' M' → MR σ' M' → e' ≤ e + 1 → lG sl n (x_L_law_0 1 16 867 888 (wr (i + 7)) (bM sl π' M' G' e'))) (c : CR σ π M) (m : MR σ M) : lG sl n (x_L_law_sw 1 16 867 888 i 15 (bM sl π M G e)) := by
  rw [x_L_law_sw15_eq, sc_r hi (by decide), sc_r hi (by decide), sc_r hi (by decide)]
  by_cases z : M 1 (i + 3) = 0
  · rw [if_pos z]
    obtain ⟨σ', t, v, hC, hM⟩ := jb_readPart (σ := σ) (k := M 1 (i + 1)) (s := M 1 (i + 2)) (b := 0)
    obtain ⟨π', M', G', e', g, c', lo, he, hv⟩ := jW (W := x_L_readPart 16 (M 1 (i + 1)) (M 1 (i + 2)) 0 888) (sl := sl) (e := e) (G := G) (fun μ => x_L_readPart_eq 16 (M 1 (i + 1)) (M 1 (i + 2)) 0 888 μ) hC c
    have ks : ∀ j, M' 1 j = M 1 j := fun j => scr_keep g j
    rw [g, cn_r, sc_r hi (by decide), sc_r hi (by decide), sc_r hi (by decide), if_pos (by rw [ks]; exact z)]
    simp only [ks]
    obtain ⟨M'', G'', gT, c'', m''⟩ := jT (sl := sl) (e := e') (G := G') hM (MR_lo m lo c') c' hv
    exact lG_of (gT _) (F σ' π' M'' G'' e' c'' m'' he)
  · rw [if_neg z]
    obtain ⟨σ', t, v, hC, hM⟩ := jb_readPart (σ := σ) (k := M 1 (i + 1)) (s := M 1 (i + 2)) (b := 1)
    obtain ⟨π', M', G', e', g, c', lo, he, hv⟩ := jW (W := x_L_readPart 16 (M 1 (i + 1)) (M 1 (i + 2)) 1 888) (sl := sl) (e := e) (G := G) (fun μ => x_L_readPart_eq 16 (M 1 (i + 1)) (M 1 (i + 2)) 1 888 μ) hC c
    have ks : ∀ j, M' 1 j = M 1 j := fun j => scr_keep g j
    rw [g, cn_r, sc_r hi (by decide), sc_r hi (by decide), sc_r hi (by decide), if_neg (by rw [ks]; exact z)]
    simp only [ks]
    obtain ⟨M'', G'', gT, c'', m''⟩ := jT (sl := sl) (e := e') (G := G') hM (MR_lo m lo c') c' hv
    exact lG_of (gT _) (F σ' π' M'' G'' e' c'' m'' he)
theorem sw_16 (hi : (0 ≤ i ∧ i + 7 ≤ (sl : Int)) ∧ (sl : Int) ≤ 3584) (F : ∀ σ' π' M' G' e', CR σ' π' M' → MR σ' M' → e' ≤ e + 1 → lG sl n (x_L_law_0 1 16 867 888 (wr (i + 7)) (bM sl π' M' G' e'))) (c : CR σ π M) (m : MR σ M) : lG sl n (x_L_law_sw 1 16 867 888 i 16 (bM sl π M G e)) := by
  rw [x_L_law_sw16_eq, sc_r hi (by decide), sc_r hi (by decide), sc_r hi (by decide)]
  obtain ⟨σ', t, v, hC, hM⟩ := jb_character (σ := σ) (k := M 1 (i + 1)) (s := M 1 (i + 2)) (p := M 1 (i + 3))
  obtain ⟨π', M', G', e', g, c', lo, he, hv⟩ := jW (W := x_L_character 16 (M 1 (i + 1)) (M 1 (i + 2)) (M 1 (i + 3)) 888) (sl := sl) (e := e) (G := G) (fun μ => x_L_character_eq 16 (M 1 (i + 1)) (M 1 (i + 2)) (M 1 (i + 3)) 888 μ) hC c
  have ks : ∀ j, M' 1 j = M 1 j := fun j => scr_keep g j
  rw [g, cn_r, sc_r hi (by decide), sc_r hi (by decide), sc_r hi (by decide)]
  simp only [ks]
  obtain ⟨M'', G'', gT, c'', m''⟩ := jT (sl := sl) (e := e') (G := G') hM (MR_lo m lo c') c' hv
  exact lG_of (gT _) (F σ' π' M'' G'' e' c'' m'' he)
theorem sw_17 (hi : (0 ≤ i ∧ i + 7 ≤ (sl : Int)) ∧ (sl : Int) ≤ 3584) (F : ∀ σ' π' M' G' e', CR σ' π' M' → MR σ' M' → e' ≤ e + 1 → lG sl n (x_L_law_0 1 16 867 888 (wr (i + 7)) (bM sl π' M' G' e'))) (c : CR σ π M) (m : MR σ M) : lG sl n (x_L_law_sw 1 16 867 888 i 17 (bM sl π M G e)) := by
  rw [x_L_law_sw17_eq, sc_r hi (by decide), sc_r hi (by decide), sc_r hi (by decide)]
  obtain ⟨σ', t, v, hC, hM⟩ := jb_confidence (σ := σ) (k := M 1 (i + 1)) (s := M 1 (i + 2)) (p := M 1 (i + 3))
  obtain ⟨π', M', G', e', g, c', lo, he, hv⟩ := jW (W := x_L_confidence 16 (M 1 (i + 1)) (M 1 (i + 2)) (M 1 (i + 3)) 888) (sl := sl) (e := e) (G := G) (fun μ => x_L_confidence_eq 16 (M 1 (i + 1)) (M 1 (i + 2)) (M 1 (i + 3)) 888 μ) hC c
  have ks : ∀ j, M' 1 j = M 1 j := fun j => scr_keep g j
  rw [g, cn_r, sc_r hi (by decide), sc_r hi (by decide), sc_r hi (by decide)]
  simp only [ks]
  obtain ⟨M'', G'', gT, c'', m''⟩ := jT (sl := sl) (e := e') (G := G') hM (MR_lo m lo c') c' hv
  exact lG_of (gT _) (F σ' π' M'' G'' e' c'' m'' he)
theorem sw_18 (hi : (0 ≤ i ∧ i + 7 ≤ (sl : Int)) ∧ (sl : Int) ≤ 3584) (F : ∀ σ' π' M' G' e', CR σ' π' M' → MR σ' M' → e' ≤ e + 1 → lG sl n (x_L_law_0 1 16 867 888 (wr (i + 7)) (bM sl π' M' G' e'))) (c : CR σ π M) (m : MR σ M) : lG sl n (x_L_law_sw 1 16 867 888 i 18 (bM sl π M G e)) := by
  rw [x_L_law_sw18_eq, sc_r hi (by decide), sc_r hi (by decide), sc_r hi (by decide)]
  by_cases z : M 1 (i + 3) = 0
  · rw [if_pos z, sc_r hi (by decide)]
    obtain ⟨σ', t, v, hC, hM⟩ := jb_partCharacter (σ := σ) (k := M 1 (i + 1)) (s := M 1 (i + 2)) (b := 0) (p := M 1 (i + 4))
    obtain ⟨π', M', G', e', g, c', lo, he, hv⟩ := jW (W := x_L_partCharacter 16 (M 1 (i + 1)) (M 1 (i + 2)) 0 (M 1 (i + 4)) 888) (sl := sl) (e := e) (G := G) (fun μ => x_L_partCharacter_eq 16 (M 1 (i + 1)) (M 1 (i + 2)) 0 (M 1 (i + 4)) 888 μ) hC c
    have ks : ∀ j, M' 1 j = M 1 j := fun j => scr_keep g j
    rw [g, cn_r, sc_r hi (by decide), sc_r hi (by decide), sc_r hi (by decide), if_pos (by rw [ks]; exact z), sc_r hi (by decide)]
    simp only [ks]
    obtain ⟨M'', G'', gT, c'', m''⟩ := jT (sl := sl) (e := e') (G := G') hM (MR_lo m lo c') c' hv
    exact lG_of (gT _) (F σ' π' M'' G'' e' c'' m'' he)
  · rw [if_neg z, sc_r hi (by decide)]
    obtain ⟨σ', t, v, hC, hM⟩ := jb_partCharacter (σ := σ) (k := M 1 (i + 1)) (s := M 1 (i + 2)) (b := 1) (p := M 1 (i + 4))
    obtain ⟨π', M', G', e', g, c', lo, he, hv⟩ := jW (W := x_L_partCharacter 16 (M 1 (i + 1)) (M 1 (i + 2)) 1 (M 1 (i + 4)) 888) (sl := sl) (e := e) (G := G) (fun μ => x_L_partCharacter_eq 16 (M 1 (i + 1)) (M 1 (i + 2)) 1 (M 1 (i + 4)) 888 μ) hC c
    have ks : ∀ j, M' 1 j = M 1 j := fun j => scr_keep g j
    rw [g, cn_r, sc_r hi (by decide), sc_r hi (by decide), sc_r hi (by decide), if_neg (by rw [ks]; exact z), sc_r hi (by decide)]
    simp only [ks]
    obtain ⟨M'', G'', gT, c'', m''⟩ := jT (sl := sl) (e := e') (G := G') hM (MR_lo m lo c') c' hv
    exact lG_of (gT _) (F σ' π' M'' G'' e' c'' m'' he)
end
