/-! THE CLASS'S MODULE AND SPREAD -/
theorem bz_lxor_neg {x y : Int} (hx : r64 x) (hy : r64 y) (h0 : 0 ≤ y) : (bz_lxor x y < 0) = (x < 0) := by
  have e1 : (Int64.ofInt x ^^^ Int64.ofInt y).toBitVec.msb = ((Int64.ofInt x).toBitVec.msb ^^ (Int64.ofInt y).toBitVec.msb) := by
    rw [Int64.toBitVec_xor, BitVec.msb_xor]
  rw [BitVec.msb_eq_toInt, BitVec.msb_eq_toInt, BitVec.msb_eq_toInt, Int64.toInt_toBitVec, Int64.toInt_toBitVec, Int64.toInt_toBitVec, bz_tol hx, bz_tol hy, decide_eq_false (show ¬ y < 0 by omega), Bool.xor_false] at e1
  exact propext (decide_eq_decide.mp e1)
theorem bw_cmp_eq {x y : Int} : (bz_cmp x y = 0) = (x = y) := by
  have h1 := @bw_cmp_lt x y
  have h2 := @bw_cmp_gt x y
  refine propext ⟨fun q => ?_, fun q => ?_⟩
  · have n1 : ¬ x < y := by rw [← h1, q]; decide
    have n2 : ¬ y < x := by rw [← h2, q]; decide
    omega
  · have n1 : ¬ bz_cmp x y < 0 := by rw [h1]; omega
    have n2 : ¬ 0 < bz_cmp x y := by rw [h2]; omega
    omega
theorem tdiv_is {a b : Int} (hb : 0 < b) : (0 ≤ a → (0 ≤ b * a.tdiv b ∧ b * a.tdiv b ≤ a) ∧ 0 ≤ a.tdiv b ∧ a.tdiv b ≤ a) ∧ (a < 0 → (a ≤ b * a.tdiv b ∧ b * a.tdiv b ≤ 0) ∧ a ≤ a.tdiv b ∧ a.tdiv b ≤ 0) := by
  have pos : ∀ c : Int, 0 ≤ c → (0 ≤ b * c.tdiv b ∧ b * c.tdiv b ≤ c) ∧ 0 ≤ c.tdiv b ∧ c.tdiv b ≤ c := fun c hc => by
    have h := Int.mul_tdiv_add_tmod c b
    have h1 := Int.tmod_nonneg b hc
    have h2 := Int.tdiv_nonneg hc (Int.le_of_lt hb)
    have h3 := Int.tdiv_le_self b hc
    have h4 := Int.mul_nonneg (Int.le_of_lt hb) h2
    exact ⟨⟨h4, by omega⟩, h2, h3⟩
  refine ⟨pos a, fun h0 => ?_⟩
  have h := pos (-a) (by omega)
  rw [Int.neg_tdiv, Int.mul_neg] at h
  omega
section
variable {sl e : Nat} {π : Int → Nat} {M G : Nat → Int → Int} {σ : Sg} {k : Int} {t : Nat}
theorem bc_floor {a b : Int} {μ : bz_M} (ha : -1000000000000000 ≤ a ∧ a ≤ 1000000000000000) (hb : 0 < b ∧ b ≤ 1000000000000000) : x_Mth_floorDiv a b μ = rL (bs_fl a b) μ := by
  have hd := tdiv_is (a := a) hb.1
  have rq : -1000000000000000 ≤ a.tdiv b ∧ a.tdiv b ≤ 1000000000000000 := by
    by_cases z : 0 ≤ a
    · have := hd.1 z; omega
    · have := hd.2 (by omega); omega
  have rp : -1000000000000000 ≤ b * a.tdiv b ∧ b * a.tdiv b ≤ 1000000000000000 := by
    by_cases z : 0 ≤ a
    · have := hd.1 z; omega
    · have := hd.2 (by omega); omega
  rw [x_Mth_floorDiv_eq, ld_r (by omega), wl_id (x := a.tdiv b) (by omega)]
  have hx := bz_lxor_neg (x := a) (y := b) (by unfold r64; omega) (by unfold r64; omega) (by omega)
  simp only [bw_cmp_lt, bw_cmp_eq, hx]
  rw [Int.mul_comm (a.tdiv b) b, wl_id (x := b * a.tdiv b) (by omega), wl_id (x := a.tdiv b - 1) (by omega)]
  unfold bs_fl
  by_cases z : a < 0
  · have h := (hd.2 z).1
    rw [if_pos z]
    by_cases y : b * a.tdiv b = a
    · rw [if_pos y, if_pos (by omega)]
    · rw [if_neg y, if_neg (by omega)]
  · have h := (hd.1 (by omega)).1
    rw [if_neg z, if_pos (by omega)]
/-- a whole code's facts -/
theorem gS_ok (h : okS σ) (hk : 0 ≤ k ∧ k < gc σ) (ht : t < 3) (hne : (gR σ t k).1.1 ≠ []) : okW t (gR σ t k).1.1 ∧ (0 < (gR σ t k).2.2.1 ∧ (gR σ t k).2.2.2 + 1 < gs σ k ∧ (gR σ t k).2.2.2 = (gR σ t k).2.2.1 + (gMm σ k t : Int) - 1) ∧ (gMm σ k t % 2 = 1 ∧ 17 ≤ gMm σ k t ∧ gMm σ k t ≤ 127) ∧ (∀ i : Nat, i < gMm σ k t → 1 ≤ gSf σ k t i ∧ gSf σ k t i ≤ 10000) ∧ ∀ i : Nat, i < gMm σ k t → 1 ≤ gSd σ k t i ∧ gSd σ k t i ≤ 4 := by
  have ok := (okRd_g h hk ht).1 hne
  have hl := bs_dr_l ht ok.1
  have ho := nm_odd ht ok.1
  have hw := (h.2.1 k hk).2
  have e1 : (gMm σ k t : Int) = bs_nm t (gR σ t k).1.1.length := hl.1
  rw [← e1] at ho
  have o2 := ok.2.2.2.2
  rw [← e1] at o2
  exact ⟨ok.1, ⟨ok.2.2.1, ok.2.2.2.1, o2⟩, by omega, fun i hi => hw _ ⟨by have := ok.2.2.1; omega, by have := ok.2.2.1; have := ok.2.2.2.1; omega⟩, fun i hi => dw_bd (bs_dr_bd ht ok.1) ⟨by omega, by show (i : Int) < ((bs_dr t (gR σ t k).1.1).length : Int); have : i < (bs_dr t (gR σ t k).1.1).length := hi; omega⟩⟩
theorem gS_bd (h : okS σ) (hk : 0 ≤ k ∧ k < gc σ) (ht : t < 3) (hne : (gR σ t k).1.1 ≠ []) : (17 ≤ bs_sm (gSf σ k t) (gMm σ k t) ∧ bs_sm (gSf σ k t) (gMm σ k t) ≤ 1270000) ∧ (17 ≤ bs_sm (gSd σ k t) (gMm σ k t) ∧ bs_sm (gSd σ k t) (gMm σ k t) ≤ 508) ∧ (0 ≤ bs_ev (gSf σ k t) (gMm σ k t) ∧ bs_ev (gSf σ k t) (gMm σ k t) ≤ 1270000) ∧ 0 ≤ bs_ev (gSd σ k t) (gMm σ k t) ∧ bs_ev (gSd σ k t) (gMm σ k t) ≤ 508 := by
  obtain ⟨-, -, hm, hf, hd⟩ := gS_ok h hk ht hne
  have b1 := bs_sm_bd _ hf
  have b2 := bs_sm_bd _ hd
  have b3 := bs_sm_bd (f := fun j => if j % 2 = 0 then gSf σ k t j else 0) (a := 0) (b := 10000) (gMm σ k t) fun i hi => by
    have := hf i hi
    split <;> omega
  have b4 := bs_sm_bd (f := fun j => if j % 2 = 0 then gSd σ k t j else 0) (a := 0) (b := 4) (gMm σ k t) fun i hi => by
    have := hd i hi
    split <;> omega
  unfold bs_ev
  omega
theorem sum_1 {w : Int → Int} {a : Int} (d : Nat) : bs_sm (fun j : Nat => w (a + 1 * (j : Int))) d = bs_sm (fun j : Nat => w (a + (j : Int))) d := bs_sm_ext d fun i _ => by rw [Int.one_mul]
theorem sum_2 {w : Int → Int} {a : Int} {m : Nat} (hm : m % 2 = 1) : bs_sm (fun j : Nat => w (a + 2 * (j : Int))) (m / 2 + 1) = bs_ev (fun j : Nat => w (a + (j : Int))) m := by
  have h := bs_ev_odd (f := fun j : Nat => w (a + (j : Int))) (m / 2)
  rw [show 2 * (m / 2) + 1 = m by omega] at h
  rw [← h]
  exact bs_sm_ext _ fun i _ => by rw [show ((2 * i : Nat) : Int) = 2 * (i : Int) by omega]
/-- the sums of the row of modules -/
theorem bc_sumT {D : List Int} (hw : rD M 46 D) (hD : ∀ x ∈ D, 1 ≤ x ∧ x ≤ 4) (hl : 1 ≤ D.length ∧ D.length ≤ 127) : d_Row_sum 46 0 (wr ((D.length : Int) - 1)) 1 (bM sl π M G e) = rL (bs_sm (fun i => dw D i) D.length) (bM sl π M G e) := by
  rw [wr_id (by omega), bc_sum (d := D.length) a_46 hw (Or.inl rfl) (by omega) (by omega) (by omega) (by omega) (fun j hj => by have := dw_bd hD (i := 0 + 1 * (j : Int)) (by omega); omega), sum_1]
  congr 1
  exact bs_sm_ext _ fun i _ => by rw [Int.zero_add]
theorem bc_sumU {D : List Int} (hw : rD M 46 D) (hD : ∀ x ∈ D, 1 ≤ x ∧ x ≤ 4) (hl : 1 ≤ D.length ∧ D.length ≤ 127) (ho : D.length % 2 = 1) : d_Row_sum 46 0 (wr ((D.length : Int) - 1)) 2 (bM sl π M G e) = rL (bs_ev (fun i => dw D i) D.length) (bM sl π M G e) := by
  rw [wr_id (by omega), bc_sum (d := D.length / 2 + 1) a_46 hw (Or.inr rfl) (by omega) (by omega) (by omega) (by omega) (fun j hj => by have := dw_bd hD (i := 0 + 2 * (j : Int)) (by omega); omega), sum_2 ho]
  unfold bs_ev
  congr 1
  exact bs_sm_ext _ fun i _ => by simp only [Int.zero_add]
theorem bc_sumW (h : CR σ π M) (hk : 0 ≤ k ∧ k < gc σ) (ht : t < 3) (hne : (gR σ t k).1.1 ≠ []) : d_Row_sum (π k + 1) (gR σ t k).2.2.1 (gR σ t k).2.2.2 1 (bM sl π M G e) = rL (bs_sm (gSf σ k t) (gMm σ k t)) (bM sl π M G e) := by
  obtain ⟨-, hb, hm, hf, -⟩ := gS_ok h.1 hk ht hne
  rw [bc_sum (d := gMm σ k t) (PV_row h.2.2.2.2.2.2.1 (CR_k24 h hk)) (h.2.2.2.2.2.2.2.1 k hk) (Or.inl rfl) (by omega) (by omega) (by omega) (by omega) (fun j hj => by have := hf j hj; unfold gSf at this; rw [Int.one_mul]; omega), sum_1]
  rfl
theorem bc_sumB (h : CR σ π M) (hk : 0 ≤ k ∧ k < gc σ) (ht : t < 3) (hne : (gR σ t k).1.1 ≠ []) : d_Row_sum (π k + 1) (gR σ t k).2.2.1 (gR σ t k).2.2.2 2 (bM sl π M G e) = rL (bs_ev (gSf σ k t) (gMm σ k t)) (bM sl π M G e) := by
  obtain ⟨-, hb, hm, hf, -⟩ := gS_ok h.1 hk ht hne
  rw [bc_sum (d := gMm σ k t / 2 + 1) (PV_row h.2.2.2.2.2.2.1 (CR_k24 h hk)) (h.2.2.2.2.2.2.2.1 k hk) (Or.inr rfl) (by omega) (by omega) (by omega) (by omega) (fun j hj => by
    have := hf (2 * j) (by omega)
    unfold gSf at this
    rw [show ((2 * j : Nat) : Int) = 2 * (j : Int) by omega] at this
    omega), sum_2 hm.1]
  rfl
theorem S_ra_z {b : Nat} {j : Int} (z : S_ra 46 b j) : S_z π b j := Or.inr (Or.inl (by unfold S_ra at z; omega))
theorem S_ra_lo {M' : Nat → Int → Int} (f : fr (S_ra 46) M M') : lo867 M M' := fun b j hb => f b j (by unfold S_ra; omega)
theorem lo_trans {M' M'' : Nat → Int → Int} (h : lo867 M M') (h' : lo867 M' M'') : lo867 M M'' := fun b j hb => (h' b j hb).trans (h b j hb)
theorem qo_draw (h : CR σ π M) (hk : 0 ≤ k ∧ k < gc σ) (ht : t < 3) : ∃ M1, d_E_reading 16 k t (bM sl π M G e) = rR (π k + (4 + 10 * t)) (bM sl π M1 G e) ∧ CR σ π M1 ∧ lo867 M M1 ∧ rRdg M1 (π k + (4 + 10 * t)) (gR σ t k) ∧ ((gR σ t k).1.1 = [] → d_E_drawWhole 16 (22 + t) (π k + (4 + 10 * t)) (bM sl π M1 G e) = rX 4 (bM sl π M1 G (e + 1))) ∧
    ((gR σ t k).1.1 ≠ [] → ∃ M', d_E_drawWhole 16 (22 + t) (π k + (4 + 10 * t)) (bM sl π M1 G e) = rI 0 (bM sl π M' G e) ∧ CR σ π M' ∧ lo867 M1 M' ∧ rD M' 46 (bs_dr t (gR σ t k).1.1) ∧ rRdg M' (π k + (4 + 10 * t)) (gR σ t k)) := by
  have hπ := h.2.2.2.2.2.2.1
  have k24 := CR_k24 h hk
  have hin := PV_in hπ k24
  obtain ⟨A, g, c, lo, r, -⟩ := qo_reading (sl := sl) (e := e) (G := G) h hk ht
  obtain ⟨d1, d2⟩ := bc_drawWhole (sl := sl) (e := e) (π := π) (G := G) (PV_rdg hπ k24 ht) ht c.2.1 r (fun z => ((okRd_g h.1 hk ht).1 z).1)
  refine ⟨A, g, c, lo, r, d1, fun z => ?_⟩
  obtain ⟨M', g2, f2, w2⟩ := d2 z
  exact ⟨M', g2, CR_fr c (fr_mono (fun b j y => S_ra_z y) f2), S_ra_lo f2, w2, rRdg_fr r f2 fun b j hb => by unfold S_ra; omega⟩
theorem qo_module (h : CR σ π M) (hk : 0 ≤ k ∧ k < gc σ) (ht : t < 3) : ∃ M', CR σ π M' ∧ lo867 M M' ∧ ((gR σ t k).1.1 = [] → d_E_module 16 k t (bM sl π M G e) = rX 4 (bM sl π M' G (e + 1))) ∧ ((gR σ t k).1.1 ≠ [] → d_E_module 16 k t (bM sl π M G e) = rI (gMd σ k t) (bM sl π M' G e)) := by
  obtain ⟨A, g, c, lo, r, d1, d2⟩ := qo_draw (sl := sl) (e := e) (G := G) h hk ht
  have hπ := h.2.2.2.2.2.2.1
  have k24 := CR_k24 h hk
  rw [d_E_module_9 _ _ _ _ en_d, x_E_module_eq, g, cr_r, en_R5, en_r21 ht]
  by_cases z : (gR σ t k).1.1 = []
  · exact ⟨A, c, lo, fun _ => by rw [d1 z]; rfl, fun n => absurd z n⟩
  · obtain ⟨M', g2, c2, lo2, w2, r2⟩ := d2 z
    obtain ⟨ok, hb, hm, hf, hd⟩ := gS_ok h.1 hk ht z
    obtain ⟨bW, bT, bB, bU⟩ := gS_bd h.1 hk ht z
    have hT := bc_sumT (sl := sl) (e := e) (π := π) (G := G) w2 (bs_dr_bd ht ok) ⟨by have : 17 ≤ (bs_dr t (gR σ t k).1.1).length := hm.2.1; omega, hm.2.2⟩
    refine ⟨M', c2, lo_trans lo lo2, fun n => absurd n z, fun _ => ?_⟩
    rw [g2, cv_r, en_R10, en_R10, row_I a_46, w2.2.1, hT, cj_r]
    rw [show bs_sm (fun i : Nat => dw (bs_dr t (gR σ t k).1.1) i) (bs_dr t (gR σ t k).1.1).length = bs_sm (gSd σ k t) (gMm σ k t) from rfl]
    rw [if_pos (by rw [bw_cmp_gt]; omega), en_R3, qo_rSc hπ k24, scn_w (PV_a hπ k24), rdg_I (PV_rdg hπ k24 ht), rdg_I (PV_rdg hπ k24 ht), r2.2.2.1, r2.2.2.2, bc_sumW c2 hk ht z, cj_r, ld_r (by omega)]
    rfl
theorem qo_moduleX {s : Int} (h : CR σ π M) (hx : ¬ ((0 ≤ k ∧ k < gc σ) ∧ 0 ≤ s ∧ s < 3)) : d_E_module 16 k s (bM sl π M G e) = rX 2 (bM sl π M G (e + 1)) := by
  rw [d_E_module_9 _ _ _ _ en_d, x_E_module_eq, qo_readingX h hx]; rfl
theorem mul_bd {a b p q : Int} (ha : 0 ≤ a ∧ a ≤ p) (hb : 0 ≤ b ∧ b ≤ q) : 0 ≤ a * b ∧ a * b ≤ p * q :=
  ⟨Int.mul_nonneg ha.1 hb.1, Int.mul_le_mul ha.2 hb.2 hb.1 (Int.le_trans ha.1 ha.2)⟩
theorem gSp_bd (h : okS σ) (hk : 0 ≤ k ∧ k < gc σ) (ht : t < 3) (hne : (gR σ t k).1.1 ≠ []) : (0 ≤ bs_ev (gSf σ k t) (gMm σ k t) * bs_sm (gSd σ k t) (gMm σ k t) ∧ bs_ev (gSf σ k t) (gMm σ k t) * bs_sm (gSd σ k t) (gMm σ k t) ≤ 1000000000) ∧ (0 ≤ bs_sm (gSf σ k t) (gMm σ k t) * bs_ev (gSd σ k t) (gMm σ k t) ∧ bs_sm (gSf σ k t) (gMm σ k t) * bs_ev (gSd σ k t) (gMm σ k t) ≤ 1000000000) ∧ (-100000000000 ≤ gSp σ k t ∧ gSp σ k t ≤ 100000000000) ∧ 0 < gSq σ k t ∧ gSq σ k t ≤ 1000000 := by
  obtain ⟨bW, bT, bB, bU⟩ := gS_bd h hk ht hne
  obtain ⟨ok, hb, hm, hf, hd⟩ := gS_ok h hk ht hne
  have p1 := mul_bd bB (show 0 ≤ bs_sm (gSd σ k t) (gMm σ k t) ∧ bs_sm (gSd σ k t) (gMm σ k t) ≤ 508 by omega)
  have p2 := mul_bd (show 0 ≤ bs_sm (gSf σ k t) (gMm σ k t) ∧ bs_sm (gSf σ k t) (gMm σ k t) ≤ 1270000 by omega) bU
  have hh : 9 ≤ ((gMm σ k t : Nat) : Int) + 1 ∧ 9 ≤ (((gMm σ k t : Nat) : Int) + 1) / 2 ∧ (((gMm σ k t : Nat) : Int) + 1) / 2 ≤ 64 := by omega
  have p3 := mul_bd (show 0 ≤ (((gMm σ k t : Nat) : Int) + 1) / 2 ∧ (((gMm σ k t : Nat) : Int) + 1) / 2 ≤ 64 by omega) (show 0 ≤ bs_sm (gSd σ k t) (gMm σ k t) ∧ bs_sm (gSd σ k t) (gMm σ k t) ≤ 508 by omega)
  have p4 : 0 < (((gMm σ k t : Nat) : Int) + 1) / 2 * bs_sm (gSd σ k t) (gMm σ k t) := Int.mul_pos (by omega) (by omega)
  unfold gSp gSq
  omega
theorem gSq_eq (h : okS σ) (hk : 0 ≤ k ∧ k < gc σ) (ht : t < 3) (hne : (gR σ t k).1.1 ≠ []) : wl ((wr (Int.tdiv (wr ((gMm σ k t : Int) + 1)) 2)) * bs_sm (gSd σ k t) (gMm σ k t)) = gSq σ k t := by
  obtain ⟨ok, hb, hm, hf, hd⟩ := gS_ok h hk ht hne
  have hq := (gSp_bd h hk ht hne).2.2.2
  rw [wr_id (x := (gMm σ k t : Int) + 1) (by omega), Int.tdiv_eq_ediv_of_nonneg (by omega), wr_id (by omega)]
  unfold gSq at hq ⊢
  rw [wl_id (by omega)]
theorem gSp_eq (h : okS σ) (hk : 0 ≤ k ∧ k < gc σ) (ht : t < 3) (hne : (gR σ t k).1.1 ≠ []) : wl (100 * (wl ((wl (bs_ev (gSf σ k t) (gMm σ k t) * bs_sm (gSd σ k t) (gMm σ k t))) - (wl (bs_sm (gSf σ k t) (gMm σ k t) * bs_ev (gSd σ k t) (gMm σ k t)))))) = gSp σ k t := by
  obtain ⟨p1, p2, p3, -⟩ := gSp_bd h hk ht hne
  unfold gSp at p3 ⊢
  rw [wl_id (x := bs_ev (gSf σ k t) (gMm σ k t) * bs_sm (gSd σ k t) (gMm σ k t)) (by omega), wl_id (x := bs_sm (gSf σ k t) (gMm σ k t) * bs_ev (gSd σ k t) (gMm σ k t)) (by omega), wl_id (x := bs_ev (gSf σ k t) (gMm σ k t) * bs_sm (gSd σ k t) (gMm σ k t) - bs_sm (gSf σ k t) (gMm σ k t) * bs_ev (gSd σ k t) (gMm σ k t)) (by omega), wl_id (by omega)]
theorem qo_spread (h : CR σ π M) (hk : 0 ≤ k ∧ k < gc σ) (ht : t < 3) : ∃ M', CR σ π M' ∧ lo867 M M' ∧ ((gR σ t k).1.1 = [] → d_E_spread 16 k t (bM sl π M G e) = rX 4 (bM sl π M' G (e + 1))) ∧ ((gR σ t k).1.1 ≠ [] → d_E_spread 16 k t (bM sl π M G e) = rI (wr (bs_fl (gSp σ k t) (gSq σ k t))) (bM sl π M' G e)) := by
  obtain ⟨A, g, c, lo, r, d1, d2⟩ := qo_draw (sl := sl) (e := e) (G := G) h hk ht
  have hπ := h.2.2.2.2.2.2.1
  have k24 := CR_k24 h hk
  rw [d_E_spread_9 _ _ _ _ en_d, x_E_spread_eq, g, cr_r, en_R5, en_r21 ht]
  by_cases z : (gR σ t k).1.1 = []
  · exact ⟨A, c, lo, fun _ => by rw [d1 z]; rfl, fun n => absurd z n⟩
  · obtain ⟨M', g2, c2, lo2, w2, r2⟩ := d2 z
    obtain ⟨ok, hb, hm, hf, hd⟩ := gS_ok h.1 hk ht z
    obtain ⟨p1, p2, p3, p4⟩ := gSp_bd h.1 hk ht z
    have hl : 1 ≤ (bs_dr t (gR σ t k).1.1).length ∧ (bs_dr t (gR σ t k).1.1).length ≤ 127 := ⟨by have : 17 ≤ (bs_dr t (gR σ t k).1.1).length := hm.2.1; omega, hm.2.2⟩
    have hT := bc_sumT (sl := sl) (e := e) (π := π) (G := G) w2 (bs_dr_bd ht ok) hl
    have hU := bc_sumU (sl := sl) (e := e) (π := π) (G := G) w2 (bs_dr_bd ht ok) hl hm.1
    refine ⟨M', c2, lo_trans lo lo2, fun n => absurd n z, fun _ => ?_⟩
    rw [g2, cv_r, en_R10, en_R10, row_I a_46, w2.2.1, hT, cj_r, x_E_spread_0_eq, en_R10, en_R10, row_I a_46, w2.2.1, hU, cj_r]
    rw [show bs_sm (fun i : Nat => dw (bs_dr t (gR σ t k).1.1) i) (bs_dr t (gR σ t k).1.1).length = bs_sm (gSd σ k t) (gMm σ k t) from rfl, show bs_ev (fun i : Nat => dw (bs_dr t (gR σ t k).1.1) i) (bs_dr t (gR σ t k).1.1).length = bs_ev (gSd σ k t) (gMm σ k t) from rfl]
    rw [x_E_spread_1_eq, en_R3, qo_rSc hπ k24, scn_w (PV_a hπ k24), rdg_I (PV_rdg hπ k24 ht), rdg_I (PV_rdg hπ k24 ht), r2.2.2.1, r2.2.2.2, bc_sumW c2 hk ht z, cj_r, x_E_spread_2_eq, rdg_I (PV_rdg hπ k24 ht), rdg_I (PV_rdg hπ k24 ht), r2.2.2.1, r2.2.2.2, bc_sumB c2 hk ht z, cj_r, x_E_spread_3_eq, en_R10, row_I a_46, w2.2.1]
    rw [show ((bs_dr t (gR σ t k).1.1).length : Int) = (gMm σ k t : Int) from rfl, gSq_eq h.1 hk ht z, x_E_spread_4_eq, if_pos (by rw [bw_cmp_gt]; exact p4.1), gSp_eq h.1 hk ht z, bc_floor (by omega) (by omega), cj_r]
theorem qo_spreadX {s : Int} (h : CR σ π M) (hx : ¬ ((0 ≤ k ∧ k < gc σ) ∧ 0 ≤ s ∧ s < 3)) : d_E_spread 16 k s (bM sl π M G e) = rX 2 (bM sl π M G (e + 1)) := by
  rw [d_E_spread_9 _ _ _ _ en_d, x_E_spread_eq, qo_readingX h hx]; rfl
end
