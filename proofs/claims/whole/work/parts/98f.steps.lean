/-! THE LAW'S STEPS (by program) -/
section
variable {sl e n : Nat} {π : Int → Nat} {M G : Nat → Int → Int} {σ : Sg} {i : Int}
theorem sw_19 (hi : (0 ≤ i ∧ i + 7 ≤ (sl : Int)) ∧ (sl : Int) ≤ 3584) (F : ∀ σ' π' M' G' e', CR σ' π' M' → MR σ' M' → e' ≤ e + 1 → lG sl n (x_L_law_0 1 16 867 888 (wr (i + 7)) (bM sl π' M' G' e'))) (c : CR σ π M) (m : MR σ M) : lG sl n (x_L_law_sw 1 16 867 888 i 19 (bM sl π M G e)) := by
  rw [x_L_law_sw19_eq, sc_r hi (by decide), sc_r hi (by decide)]
  obtain ⟨σ', t, v, hC, hM⟩ := jb_isReversed (σ := σ) (k := M 1 (i + 1)) (s := M 1 (i + 2))
  obtain ⟨π', M', G', e', g, c', lo, he, hv⟩ := jWb (W := x_L_isReversed 16 (M 1 (i + 1)) (M 1 (i + 2)) 888) (sl := sl) (e := e) (G := G) (fun μ => x_L_isReversed_eq 16 (M 1 (i + 1)) (M 1 (i + 2)) 888 μ) hC c
  have ks : ∀ j, M' 1 j = M 1 j := fun j => scr_keep g j
  rw [g, cn_r, sc_r hi (by decide), sc_r hi (by decide)]
  simp only [ks]
  obtain ⟨M'', G'', gT, c'', m''⟩ := jTb (sl := sl) (e := e') (G := G') hM (MR_lo m lo c') c' hv
  exact lG_of (gT _) (F σ' π' M'' G'' e' c'' m'' he)
theorem sw_20 (hi : (0 ≤ i ∧ i + 7 ≤ (sl : Int)) ∧ (sl : Int) ≤ 3584) (F : ∀ σ' π' M' G' e', CR σ' π' M' → MR σ' M' → e' ≤ e + 1 → lG sl n (x_L_law_0 1 16 867 888 (wr (i + 7)) (bM sl π' M' G' e'))) (c : CR σ π M) (m : MR σ M) : lG sl n (x_L_law_sw 1 16 867 888 i 20 (bM sl π M G e)) := by
  rw [x_L_law_sw20_eq, sc_r hi (by decide), sc_r hi (by decide), sc_r hi (by decide)]
  obtain ⟨σ', t, v, hC, hM⟩ := jb_agreement (σ := σ) (k := M 1 (i + 1)) (l := M 1 (i + 2)) (s := M 1 (i + 3))
  obtain ⟨π', M', G', e', g, c', lo, he, hv⟩ := jW (W := x_L_agreement 16 (M 1 (i + 1)) (M 1 (i + 2)) (M 1 (i + 3)) 888) (sl := sl) (e := e) (G := G) (fun μ => x_L_agreement_eq 16 (M 1 (i + 1)) (M 1 (i + 2)) (M 1 (i + 3)) 888 μ) hC c
  have ks : ∀ j, M' 1 j = M 1 j := fun j => scr_keep g j
  rw [g, cn_r, sc_r hi (by decide), sc_r hi (by decide), sc_r hi (by decide)]
  simp only [ks]
  obtain ⟨M'', G'', gT, c'', m''⟩ := jT (sl := sl) (e := e') (G := G') hM (MR_lo m lo c') c' hv
  exact lG_of (gT _) (F σ' π' M'' G'' e' c'' m'' he)
theorem sw_21 (hi : (0 ≤ i ∧ i + 7 ≤ (sl : Int)) ∧ (sl : Int) ≤ 3584) (F : ∀ σ' π' M' G' e', CR σ' π' M' → MR σ' M' → e' ≤ e + 1 → lG sl n (x_L_law_0 1 16 867 888 (wr (i + 7)) (bM sl π' M' G' e'))) (c : CR σ π M) (m : MR σ M) : lG sl n (x_L_law_sw 1 16 867 888 i 21 (bM sl π M G e)) := by
  rw [x_L_law_sw21_eq, sc_r hi (by decide), sc_r hi (by decide), sc_r hi (by decide)]
  obtain ⟨σ', t, v, hC, hM⟩ := jb_overlap (σ := σ) (k := M 1 (i + 1)) (l := M 1 (i + 2)) (s := M 1 (i + 3))
  obtain ⟨π', M', G', e', g, c', lo, he, hv⟩ := jW (W := x_L_overlap 16 (M 1 (i + 1)) (M 1 (i + 2)) (M 1 (i + 3)) 888) (sl := sl) (e := e) (G := G) (fun μ => x_L_overlap_eq 16 (M 1 (i + 1)) (M 1 (i + 2)) (M 1 (i + 3)) 888 μ) hC c
  have ks : ∀ j, M' 1 j = M 1 j := fun j => scr_keep g j
  rw [g, cn_r, sc_r hi (by decide), sc_r hi (by decide), sc_r hi (by decide)]
  simp only [ks]
  obtain ⟨M'', G'', gT, c'', m''⟩ := jT (sl := sl) (e := e') (G := G') hM (MR_lo m lo c') c' hv
  exact lG_of (gT _) (F σ' π' M'' G'' e' c'' m'' he)
theorem sw_22 (hi : (0 ≤ i ∧ i + 7 ≤ (sl : Int)) ∧ (sl : Int) ≤ 3584) (F : ∀ σ' π' M' G' e', CR σ' π' M' → MR σ' M' → e' ≤ e + 1 → lG sl n (x_L_law_0 1 16 867 888 (wr (i + 7)) (bM sl π' M' G' e'))) (c : CR σ π M) (m : MR σ M) : lG sl n (x_L_law_sw 1 16 867 888 i 22 (bM sl π M G e)) := by
  rw [x_L_law_sw22_eq, sc_r hi (by decide), sc_r hi (by decide)]
  obtain ⟨σ', t, v, hC, hM⟩ := jb_module (σ := σ) (k := M 1 (i + 1)) (s := M 1 (i + 2))
  obtain ⟨π', M', G', e', g, c', lo, he, hv⟩ := jW (W := x_L_module 16 (M 1 (i + 1)) (M 1 (i + 2)) 888) (sl := sl) (e := e) (G := G) (fun μ => x_L_module_eq 16 (M 1 (i + 1)) (M 1 (i + 2)) 888 μ) hC c
  have ks : ∀ j, M' 1 j = M 1 j := fun j => scr_keep g j
  rw [g, cn_r, sc_r hi (by decide), sc_r hi (by decide)]
  simp only [ks]
  obtain ⟨M'', G'', gT, c'', m''⟩ := jT (sl := sl) (e := e') (G := G') hM (MR_lo m lo c') c' hv
  exact lG_of (gT _) (F σ' π' M'' G'' e' c'' m'' he)
theorem sw_23 (hi : (0 ≤ i ∧ i + 7 ≤ (sl : Int)) ∧ (sl : Int) ≤ 3584) (F : ∀ σ' π' M' G' e', CR σ' π' M' → MR σ' M' → e' ≤ e + 1 → lG sl n (x_L_law_0 1 16 867 888 (wr (i + 7)) (bM sl π' M' G' e'))) (c : CR σ π M) (m : MR σ M) : lG sl n (x_L_law_sw 1 16 867 888 i 23 (bM sl π M G e)) := by
  rw [x_L_law_sw23_eq, sc_r hi (by decide), sc_r hi (by decide)]
  obtain ⟨σ', t, v, hC, hM⟩ := jb_spread (σ := σ) (k := M 1 (i + 1)) (s := M 1 (i + 2))
  obtain ⟨π', M', G', e', g, c', lo, he, hv⟩ := jW (W := x_L_spread 16 (M 1 (i + 1)) (M 1 (i + 2)) 888) (sl := sl) (e := e) (G := G) (fun μ => x_L_spread_eq 16 (M 1 (i + 1)) (M 1 (i + 2)) 888 μ) hC c
  have ks : ∀ j, M' 1 j = M 1 j := fun j => scr_keep g j
  rw [g, cn_r, sc_r hi (by decide), sc_r hi (by decide)]
  simp only [ks]
  obtain ⟨M'', G'', gT, c'', m''⟩ := jT (sl := sl) (e := e') (G := G') hM (MR_lo m lo c') c' hv
  exact lG_of (gT _) (F σ' π' M'' G'' e' c'' m'' he)
theorem sw_24 (hi : (0 ≤ i ∧ i + 7 ≤ (sl : Int)) ∧ (sl : Int) ≤ 3584) (F : ∀ σ' π' M' G' e', CR σ' π' M' → MR σ' M' → e' ≤ e + 1 → lG sl n (x_L_law_0 1 16 867 888 (wr (i + 7)) (bM sl π' M' G' e'))) (c : CR σ π M) (m : MR σ M) : lG sl n (x_L_law_sw 1 16 867 888 i 24 (bM sl π M G e)) := by
  rw [x_L_law_sw24_eq, sc_r hi (by decide), sc_r hi (by decide), sc_r hi (by decide)]
  obtain ⟨σ', t, v, hC, hM⟩ := jb_mergedLength (σ := σ) (k := M 1 (i + 1)) (l := M 1 (i + 2)) (s := M 1 (i + 3))
  obtain ⟨π', M', G', e', g, c', lo, he, hv⟩ := jW (W := x_L_mergedLength 16 (M 1 (i + 1)) (M 1 (i + 2)) (M 1 (i + 3)) 888) (sl := sl) (e := e) (G := G) (fun μ => x_L_mergedLength_eq 16 (M 1 (i + 1)) (M 1 (i + 2)) (M 1 (i + 3)) 888 μ) hC c
  have ks : ∀ j, M' 1 j = M 1 j := fun j => scr_keep g j
  rw [g, cn_r, sc_r hi (by decide), sc_r hi (by decide), sc_r hi (by decide)]
  simp only [ks]
  obtain ⟨M'', G'', gT, c'', m''⟩ := jT (sl := sl) (e := e') (G := G') hM (MR_lo m lo c') c' hv
  exact lG_of (gT _) (F σ' π' M'' G'' e' c'' m'' he)
theorem sw_25 (hi : (0 ≤ i ∧ i + 7 ≤ (sl : Int)) ∧ (sl : Int) ≤ 3584) (F : ∀ σ' π' M' G' e', CR σ' π' M' → MR σ' M' → e' ≤ e + 1 → lG sl n (x_L_law_0 1 16 867 888 (wr (i + 7)) (bM sl π' M' G' e'))) (c : CR σ π M) (m : MR σ M) : lG sl n (x_L_law_sw 1 16 867 888 i 25 (bM sl π M G e)) := by
  rw [x_L_law_sw25_eq, sc_r hi (by decide), sc_r hi (by decide), sc_r hi (by decide), sc_r hi (by decide)]
  obtain ⟨σ', t, v, hC, hM⟩ := jb_mergedCharacter (σ := σ) (k := M 1 (i + 1)) (l := M 1 (i + 2)) (s := M 1 (i + 3)) (p := M 1 (i + 4))
  obtain ⟨π', M', G', e', g, c', lo, he, hv⟩ := jW (W := x_L_mergedCharacter 16 (M 1 (i + 1)) (M 1 (i + 2)) (M 1 (i + 3)) (M 1 (i + 4)) 888) (sl := sl) (e := e) (G := G) (fun μ => x_L_mergedCharacter_eq 16 (M 1 (i + 1)) (M 1 (i + 2)) (M 1 (i + 3)) (M 1 (i + 4)) 888 μ) hC c
  have ks : ∀ j, M' 1 j = M 1 j := fun j => scr_keep g j
  rw [g, cn_r, sc_r hi (by decide), sc_r hi (by decide), sc_r hi (by decide), sc_r hi (by decide)]
  simp only [ks]
  obtain ⟨M'', G'', gT, c'', m''⟩ := jT (sl := sl) (e := e') (G := G') hM (MR_lo m lo c') c' hv
  exact lG_of (gT _) (F σ' π' M'' G'' e' c'' m'' he)
theorem sw_26 (hi : (0 ≤ i ∧ i + 7 ≤ (sl : Int)) ∧ (sl : Int) ≤ 3584) (F : ∀ σ' π' M' G' e', CR σ' π' M' → MR σ' M' → e' ≤ e + 1 → lG sl n (x_L_law_0 1 16 867 888 (wr (i + 7)) (bM sl π' M' G' e'))) (c : CR σ π M) (m : MR σ M) : lG sl n (x_L_law_sw 1 16 867 888 i 26 (bM sl π M G e)) := by
  rw [x_L_law_sw26_eq, sc_r hi (by decide)]
  obtain ⟨σ', t, v, hC, hM⟩ := jb_bestScan (σ := σ) (s := M 1 (i + 1))
  obtain ⟨π', M', G', e', g, c', lo, he, hv⟩ := jW (W := x_L_bestScan 16 (M 1 (i + 1)) 888) (sl := sl) (e := e) (G := G) (fun μ => x_L_bestScan_eq 16 (M 1 (i + 1)) 888 μ) hC c
  have ks : ∀ j, M' 1 j = M 1 j := fun j => scr_keep g j
  rw [g, cn_r, sc_r hi (by decide)]
  simp only [ks]
  obtain ⟨M'', G'', gT, c'', m''⟩ := jT (sl := sl) (e := e') (G := G') hM (MR_lo m lo c') c' hv
  exact lG_of (gT _) (F σ' π' M'' G'' e' c'' m'' he)
theorem sw_27 (hi : (0 ≤ i ∧ i + 7 ≤ (sl : Int)) ∧ (sl : Int) ≤ 3584) (F : ∀ σ' π' M' G' e', CR σ' π' M' → MR σ' M' → e' ≤ e + 1 → lG sl n (x_L_law_0 1 16 867 888 (wr (i + 7)) (bM sl π' M' G' e'))) (c : CR σ π M) (m : MR σ M) : lG sl n (x_L_law_sw 1 16 867 888 i 27 (bM sl π M G e)) := by
  rw [x_L_law_sw27_eq, sc_r hi (by decide)]
  obtain ⟨σ', t, v, hC, hM⟩ := jb_length (σ := σ) (s := M 1 (i + 1))
  obtain ⟨π', M', G', e', g, c', lo, he, hv⟩ := jW (W := x_L_length 16 (M 1 (i + 1)) 888) (sl := sl) (e := e) (G := G) (fun μ => x_L_length_eq 16 (M 1 (i + 1)) 888 μ) hC c
  have ks : ∀ j, M' 1 j = M 1 j := fun j => scr_keep g j
  rw [g, cn_r, sc_r hi (by decide)]
  simp only [ks]
  obtain ⟨M'', G'', gT, c'', m''⟩ := jT (sl := sl) (e := e') (G := G') hM (MR_lo m lo c') c' hv
  exact lG_of (gT _) (F σ' π' M'' G'' e' c'' m'' he)
theorem sw_28 (hi : (0 ≤ i ∧ i + 7 ≤ (sl : Int)) ∧ (sl : Int) ≤ 3584) (F : ∀ σ' π' M' G' e', CR σ' π' M' → MR σ' M' → e' ≤ e + 1 → lG sl n (x_L_law_0 1 16 867 888 (wr (i + 7)) (bM sl π' M' G' e'))) (c : CR σ π M) (m : MR σ M) : lG sl n (x_L_law_sw 1 16 867 888 i 28 (bM sl π M G e)) := by
  rw [x_L_law_sw28_eq, sc_r hi (by decide), sc_r hi (by decide), sc_r hi (by decide)]
  obtain ⟨σ', t, v, hC, hM⟩ := jb_weight (σ := σ) (s := M 1 (i + 1)) (p := M 1 (i + 2)) (c := M 1 (i + 3))
  obtain ⟨π', M', G', e', g, c', lo, he, hv⟩ := jW (W := x_L_weight 16 (M 1 (i + 1)) (M 1 (i + 2)) (M 1 (i + 3)) 888) (sl := sl) (e := e) (G := G) (fun μ => x_L_weight_eq 16 (M 1 (i + 1)) (M 1 (i + 2)) (M 1 (i + 3)) 888 μ) hC c
  have ks : ∀ j, M' 1 j = M 1 j := fun j => scr_keep g j
  rw [g, cn_r, sc_r hi (by decide), sc_r hi (by decide), sc_r hi (by decide)]
  simp only [ks]
  obtain ⟨M'', G'', gT, c'', m''⟩ := jT (sl := sl) (e := e') (G := G') hM (MR_lo m lo c') c' hv
  exact lG_of (gT _) (F σ' π' M'' G'' e' c'' m'' he)
theorem sw_29 (hi : (0 ≤ i ∧ i + 7 ≤ (sl : Int)) ∧ (sl : Int) ≤ 3584) (F : ∀ σ' π' M' G' e', CR σ' π' M' → MR σ' M' → e' ≤ e + 1 → lG sl n (x_L_law_0 1 16 867 888 (wr (i + 7)) (bM sl π' M' G' e'))) (c : CR σ π M) (m : MR σ M) : lG sl n (x_L_law_sw 1 16 867 888 i 29 (bM sl π M G e)) := by
  rw [x_L_law_sw29_eq, sc_r hi (by decide), sc_r hi (by decide)]
  obtain ⟨σ', t, v, hC, hM⟩ := jb_voted (σ := σ) (s := M 1 (i + 1)) (p := M 1 (i + 2))
  obtain ⟨π', M', G', e', g, c', lo, he, hv⟩ := jW (W := x_L_voted 16 (M 1 (i + 1)) (M 1 (i + 2)) 888) (sl := sl) (e := e) (G := G) (fun μ => x_L_voted_eq 16 (M 1 (i + 1)) (M 1 (i + 2)) 888 μ) hC c
  have ks : ∀ j, M' 1 j = M 1 j := fun j => scr_keep g j
  rw [g, cn_r, sc_r hi (by decide), sc_r hi (by decide)]
  simp only [ks]
  obtain ⟨M'', G'', gT, c'', m''⟩ := jT (sl := sl) (e := e') (G := G') hM (MR_lo m lo c') c' hv
  exact lG_of (gT _) (F σ' π' M'' G'' e' c'' m'' he)
theorem sw_30 (hi : (0 ≤ i ∧ i + 7 ≤ (sl : Int)) ∧ (sl : Int) ≤ 3584) (F : ∀ σ' π' M' G' e', CR σ' π' M' → MR σ' M' → e' ≤ e + 1 → lG sl n (x_L_law_0 1 16 867 888 (wr (i + 7)) (bM sl π' M' G' e'))) (c : CR σ π M) (m : MR σ M) : lG sl n (x_L_law_sw 1 16 867 888 i 30 (bM sl π M G e)) := by
  rw [x_L_law_sw30_eq, sc_r hi (by decide), sc_r hi (by decide)]
  obtain ⟨σ', t, v, hC, hM⟩ := jb_runnerUp (σ := σ) (s := M 1 (i + 1)) (p := M 1 (i + 2))
  obtain ⟨π', M', G', e', g, c', lo, he, hv⟩ := jW (W := x_L_runnerUp 16 (M 1 (i + 1)) (M 1 (i + 2)) 888) (sl := sl) (e := e) (G := G) (fun μ => x_L_runnerUp_eq 16 (M 1 (i + 1)) (M 1 (i + 2)) 888 μ) hC c
  have ks : ∀ j, M' 1 j = M 1 j := fun j => scr_keep g j
  rw [g, cn_r, sc_r hi (by decide), sc_r hi (by decide)]
  simp only [ks]
  obtain ⟨M'', G'', gT, c'', m''⟩ := jT (sl := sl) (e := e') (G := G') hM (MR_lo m lo c') c' hv
  exact lG_of (gT _) (F σ' π' M'' G'' e' c'' m'' he)
theorem sw_31 (hi : (0 ≤ i ∧ i + 7 ≤ (sl : Int)) ∧ (sl : Int) ≤ 3584) (F : ∀ σ' π' M' G' e', CR σ' π' M' → MR σ' M' → e' ≤ e + 1 → lG sl n (x_L_law_0 1 16 867 888 (wr (i + 7)) (bM sl π' M' G' e'))) (c : CR σ π M) (m : MR σ M) : lG sl n (x_L_law_sw 1 16 867 888 i 31 (bM sl π M G e)) := by
  rw [x_L_law_sw31_eq, sc_r hi (by decide)]
  obtain ⟨σ', t, v, hC, hM⟩ := jb_problem (σ := σ) (s := M 1 (i + 1))
  obtain ⟨π', M', G', e', g, c', lo, he, hv⟩ := jW (W := x_L_problem 16 (M 1 (i + 1)) 888) (sl := sl) (e := e) (G := G) (fun μ => x_L_problem_eq 16 (M 1 (i + 1)) 888 μ) hC c
  have ks : ∀ j, M' 1 j = M 1 j := fun j => scr_keep g j
  rw [g, cn_r, sc_r hi (by decide)]
  simp only [ks]
  obtain ⟨M'', G'', gT, c'', m''⟩ := jT (sl := sl) (e := e') (G := G') hM (MR_lo m lo c') c' hv
  exact lG_of (gT _) (F σ' π' M'' G'' e' c'' m'' he)
theorem sw_32 (hi : (0 ≤ i ∧ i + 7 ≤ (sl : Int)) ∧ (sl : Int) ≤ 3584) (F : ∀ σ' π' M' G' e', CR σ' π' M' → MR σ' M' → e' ≤ e + 1 → lG sl n (x_L_law_0 1 16 867 888 (wr (i + 7)) (bM sl π' M' G' e'))) (c : CR σ π M) (m : MR σ M) : lG sl n (x_L_law_sw 1 16 867 888 i 32 (bM sl π M G e)) := by
  rw [x_L_law_sw32_eq, sc_r hi (by decide)]
  obtain ⟨σ', t, v, hC, hM⟩ := jb_doubtful (σ := σ) (s := M 1 (i + 1))
  obtain ⟨π', M', G', e', g, c', lo, he, hv⟩ := jW (W := x_L_doubtful 16 (M 1 (i + 1)) 888) (sl := sl) (e := e) (G := G) (fun μ => x_L_doubtful_eq 16 (M 1 (i + 1)) 888 μ) hC c
  have ks : ∀ j, M' 1 j = M 1 j := fun j => scr_keep g j
  rw [g, cn_r, sc_r hi (by decide)]
  simp only [ks]
  obtain ⟨M'', G'', gT, c'', m''⟩ := jT (sl := sl) (e := e') (G := G') hM (MR_lo m lo c') c' hv
  exact lG_of (gT _) (F σ' π' M'' G'' e' c'' m'' he)
theorem sw_33 (hi : (0 ≤ i ∧ i + 7 ≤ (sl : Int)) ∧ (sl : Int) ≤ 3584) (F : ∀ σ' π' M' G' e', CR σ' π' M' → MR σ' M' → e' ≤ e + 1 → lG sl n (x_L_law_0 1 16 867 888 (wr (i + 7)) (bM sl π' M' G' e'))) (c : CR σ π M) (m : MR σ M) : lG sl n (x_L_law_sw 1 16 867 888 i 33 (bM sl π M G e)) := by
  rw [x_L_law_sw33_eq, sc_r hi (by decide)]
  obtain ⟨σ', t, v, hC, hM⟩ := jb_repaired (σ := σ) (s := M 1 (i + 1))
  obtain ⟨π', M', G', e', g, c', lo, he, hv⟩ := jW (W := x_L_repaired 16 (M 1 (i + 1)) 888) (sl := sl) (e := e) (G := G) (fun μ => x_L_repaired_eq 16 (M 1 (i + 1)) 888 μ) hC c
  have ks : ∀ j, M' 1 j = M 1 j := fun j => scr_keep g j
  rw [g, cn_r, sc_r hi (by decide)]
  simp only [ks]
  obtain ⟨M'', G'', gT, c'', m''⟩ := jT (sl := sl) (e := e') (G := G') hM (MR_lo m lo c') c' hv
  exact lG_of (gT _) (F σ' π' M'' G'' e' c'' m'' he)
theorem sw_35 (hi : (0 ≤ i ∧ i + 7 ≤ (sl : Int)) ∧ (sl : Int) ≤ 3584) (F : ∀ σ' π' M' G' e', CR σ' π' M' → MR σ' M' → e' ≤ e + 1 → lG sl n (x_L_law_0 1 16 867 888 (wr (i + 7)) (bM sl π' M' G' e'))) (c : CR σ π M) (m : MR σ M) : lG sl n (x_L_law_sw 1 16 867 888 i 35 (bM sl π M G e)) := by
  rw [x_L_law_sw35_eq, sc_r hi (by decide)]
  obtain ⟨σ', t, v, hC, hM⟩ := jb_worstScan (σ := σ) (s := M 1 (i + 1))
  obtain ⟨π', M', G', e', g, c', lo, he, hv⟩ := jW (W := x_L_worstScan 16 (M 1 (i + 1)) 888) (sl := sl) (e := e) (G := G) (fun μ => x_L_worstScan_eq 16 (M 1 (i + 1)) 888 μ) hC c
  have ks : ∀ j, M' 1 j = M 1 j := fun j => scr_keep g j
  rw [g, cn_r, sc_r hi (by decide)]
  simp only [ks]
  obtain ⟨M'', G'', gT, c'', m''⟩ := jT (sl := sl) (e := e') (G := G') hM (MR_lo m lo c') c' hv
  exact lG_of (gT _) (F σ' π' M'' G'' e' c'' m'' he)
theorem sw_36 (hi : (0 ≤ i ∧ i + 7 ≤ (sl : Int)) ∧ (sl : Int) ≤ 3584) (F : ∀ σ' π' M' G' e', CR σ' π' M' → MR σ' M' → e' ≤ e + 1 → lG sl n (x_L_law_0 1 16 867 888 (wr (i + 7)) (bM sl π' M' G' e'))) (c : CR σ π M) (m : MR σ M) : lG sl n (x_L_law_sw 1 16 867 888 i 36 (bM sl π M G e)) := by
  rw [x_L_law_sw36_eq, sc_r hi (by decide), sc_r hi (by decide)]
  by_cases z : M 1 (i + 2) = 0
  · rw [if_pos z]
    obtain ⟨σ', t, v, hC, hM⟩ := jb_setCheck (σ := σ) (s := M 1 (i + 1)) (v := 0) (Or.inl rfl)
    obtain ⟨π', M', G', e', g, c', lo, he, hv⟩ := jWb (W := x_L_setCheck 16 (M 1 (i + 1)) 0 888) (sl := sl) (e := e) (G := G) (fun μ => x_L_setCheck_eq 16 (M 1 (i + 1)) 0 888 μ) hC c
    have ks : ∀ j, M' 1 j = M 1 j := fun j => scr_keep g j
    rw [g, cn_r, sc_r hi (by decide), sc_r hi (by decide), if_pos (by rw [ks]; exact z)]
    simp only [ks]
    obtain ⟨M'', G'', gT, c'', m''⟩ := jTb (sl := sl) (e := e') (G := G') hM (MR_lo m lo c') c' hv
    exact lG_of (gT _) (F σ' π' M'' G'' e' c'' m'' he)
  · rw [if_neg z]
    obtain ⟨σ', t, v, hC, hM⟩ := jb_setCheck (σ := σ) (s := M 1 (i + 1)) (v := 1) (Or.inr rfl)
    obtain ⟨π', M', G', e', g, c', lo, he, hv⟩ := jWb (W := x_L_setCheck 16 (M 1 (i + 1)) 1 888) (sl := sl) (e := e) (G := G) (fun μ => x_L_setCheck_eq 16 (M 1 (i + 1)) 1 888 μ) hC c
    have ks : ∀ j, M' 1 j = M 1 j := fun j => scr_keep g j
    rw [g, cn_r, sc_r hi (by decide), sc_r hi (by decide), if_neg (by rw [ks]; exact z)]
    simp only [ks]
    obtain ⟨M'', G'', gT, c'', m''⟩ := jTb (sl := sl) (e := e') (G := G') hM (MR_lo m lo c') c' hv
    exact lG_of (gT _) (F σ' π' M'' G'' e' c'' m'' he)
theorem sw_5 (hi : (0 ≤ i ∧ i + 7 ≤ (sl : Int)) ∧ (sl : Int) ≤ 3584) (F : ∀ σ' π' M' G' e', CR σ' π' M' → MR σ' M' → e' ≤ e + 1 → lG sl n (x_L_law_0 1 16 867 888 (wr (i + 7)) (bM sl π' M' G' e'))) (c : CR σ π M) (m : MR σ M) : lG sl n (x_L_law_sw 1 16 867 888 i 5 (bM sl π M G e)) := by
  rw [x_L_law_sw5_eq, qo_scanCount c, ci_r]
  obtain ⟨M', g, m', f, -⟩ := qm_scanCount (sl := sl) (e := e) (π := π) (G := G) m
  rw [g, ci_r, if_pos rfl]
  exact F σ π M' G e (CR_hi c f) m' (by omega)
theorem sw_34 (hi : (0 ≤ i ∧ i + 7 ≤ (sl : Int)) ∧ (sl : Int) ≤ 3584) (F : ∀ σ' π' M' G' e', CR σ' π' M' → MR σ' M' → e' ≤ e + 1 → lG sl n (x_L_law_0 1 16 867 888 (wr (i + 7)) (bM sl π' M' G' e'))) (c : CR σ π M) (m : MR σ M) : lG sl n (x_L_law_sw 1 16 867 888 i 34 (bM sl π M G e)) := by
  rw [x_L_law_sw34_eq]
  obtain ⟨A, g1, c1, lo⟩ := qo_winner (sl := sl) (e := e) (G := G) c
  obtain ⟨M', g, m', f, -⟩ := qm_winner (sl := sl) (e := e) (π := π) (G := G) (MR_lo m lo c1)
  rw [g1, ci_r, g, ci_r, if_pos rfl]
  exact F σ π M' G e (CR_hi c1 f) m' (by omega)
end
