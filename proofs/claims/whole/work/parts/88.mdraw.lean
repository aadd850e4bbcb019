/-! THE MODEL LAYS MODULES -/
def mD (M : Nat → Int → Int) (D : List Int) : Prop := M 867 14 = D.length ∧ D.length ≤ 127 ∧ ∀ k, 0 ≤ k ∧ k < (D.length : Int) → M 877 k = dw D k
def S_ly (b : Nat) (j : Int) : Prop := (b = 867 ∧ j = 14) ∨ b = 877
/-- the model's code -/
def mC (M : Nat → Int → Int) (l : List Ch) : Prop := ∀ (k : Nat) (hk : k < l.length), M 876 k = al (l[k]).1
theorem mC_fr {S : Nat → Int → Prop} {M M' : Nat → Int → Int} {l : List Ch} (h : mC M l) (f : fr S M M') (hs : ∀ j, ¬ S 876 j) : mC M' l := fun k hk => (f _ _ (hs _)).trans (h k hk)
theorem S_ly_mod {b : Nat} {j : Int} (z : S_ly b j) : 867 ≤ b ∧ ¬ (873 ≤ b ∧ b ≤ 875) := by unfold S_ly at z; omega
theorem al_48 {v : Int} (h : 0 ≤ v ∧ v < 10) : wr (al v - 48) = v := by rw [al_dg h, wr_id (by omega)]; omega
def bs_e4 : Nat → Int := fun k => ([3211, 2221, 2122, 1411, 1132, 1231, 1114, 1312, 1213, 3112] : List Int).getD k 0
theorem bs_e4_el : ∀ k : Nat, k < 10 → [Int.tmod (wr (Int.tdiv (bs_e4 k) 1000)) 10, Int.tmod (wr (Int.tdiv (bs_e4 k) 100)) 10, Int.tmod (wr (Int.tdiv (bs_e4 k) 10)) 10, Int.tmod (wr (Int.tdiv (bs_e4 k) 1)) 10] = bs_el k 4 := by decide
section
variable {sl e : Nat} {π : Int → Nat} {M G : Nat → Int → Int} {l : List Ch}
theorem qm_lays {D : List Int} (h : mD M D) (hl : D.length < 127) (x : Int) : ∃ M', d_M_lays 867 x (bM sl π M G e) = rI 0 (bM sl π M' G e) ∧ fr S_ly M M' ∧ mD M' (D ++ [x]) := by
  have hlen : (D ++ [x]).length = D.length + 1 := by rw [List.length_append]; rfl
  rw [d_M_lays_10 _ _ _ mo_d, x_M_lays_eq, mo_R13, mo_I, h.1, mo_w877 (by omega), mo_I, up_a (by decide), h.1, mo_p, wr_id (by omega)]
  refine ⟨_, rfl, fr_up (Or.inl ⟨rfl, rfl⟩) (fr_up (Or.inr rfl) fr_refl), ?_, by omega, fun k hk => ?_⟩
  · rw [up_s, hlen]; omega
  · rw [hlen] at hk
    rw [up_a (by decide), ← dw_app (by omega)]
    by_cases z : k = (D.length : Int)
    · rw [if_pos z, z, up_s]
    · rw [if_neg z, up_i z]; exact h.2.2 k (by omega)
theorem qm_ones_0 {n : Int} : ∀ (d : Nat) (i : Int) (D : List Int) (M : Nat → Int → Int), i + d = n → 0 ≤ i → n ≤ 100 → mD M D → D.length + d ≤ 127 → ∃ M', x_M_laysOnes_0 867 n i (bM sl π M G e) = rI 0 (bM sl π M' G e) ∧ fr S_ly M M' ∧ mD M' (D ++ bs_on d) := by
  intro d
  induction d with
  | zero =>
    intro i D M hi h0 hn h hl
    rw [x_M_laysOnes_0_eq, if_neg (by omega)]
    refine ⟨M, rfl, fr_refl, ?_⟩
    show mD M (D ++ [])
    rw [List.append_nil]; exact h
  | succ d ih =>
    intro i D M hi h0 hn h hl
    obtain ⟨A, g, f, w⟩ := qm_lays (sl := sl) (e := e) (π := π) (G := G) h (by omega) 1
    obtain ⟨M', g2, f2, w2⟩ := ih (i + 1) (D ++ [1]) A (by omega) (by omega) hn w (by rw [List.length_append, List.length_singleton]; omega)
    rw [x_M_laysOnes_0_eq, if_pos (by omega), g]
    simp only [cv_r]
    rw [wr_id (by omega)]
    refine ⟨M', g2, fr_trans f f2, ?_⟩
    rw [List.append_assoc] at w2
    exact w2
theorem qm_ones {n : Nat} {D : List Int} (hn : n ≤ 100) (h : mD M D) (hl : D.length + n ≤ 127) : ∃ M', d_M_laysOnes 867 n (bM sl π M G e) = rI 0 (bM sl π M' G e) ∧ fr S_ly M M' ∧ mD M' (D ++ bs_on n) := by
  rw [d_M_laysOnes_10 _ _ _ mo_d, x_M_laysOnes_eq]
  exact qm_ones_0 n 0 D M (by omega) (by omega) (by omega) h hl
theorem qm_wideOr {p i : Int} {μ : bz_M} : x_M_wideOr p i μ = rI (bs_bt p i) μ := by
  rw [x_M_wideOr_eq]
  unfold bs_bt
  by_cases z : bz_and (bz_shr p i) 1 = 1
  · rw [if_pos z, if_pos z]
  · rw [if_neg z, if_neg z]
theorem mC_r {i : Nat} {kk : Int → Option bz_R} (h : mC M l) (h16 : l.length ≤ 16) (hi : i < l.length) : bz_rI (bM sl π M G e) 876 i kk = kk (al (l[i]).1) := by
  rw [mo_r876 (by omega), h i hi]
theorem m5_r {v : Int} {kk : Int → Option bz_R} (hM : mMod M) (hv : 0 ≤ v ∧ v < 10) : bz_rI (bM sl π M G e) 874 v kk = kk (bs_P5 v.toNat) := by
  have h := hM.2.1 v.toNat (by omega)
  rw [show ((v.toNat : Nat) : Int) = v by omega] at h
  rw [mo_r874 hv, h]
theorem m7_r {v : Int} {kk : Int → Option bz_R} (hM : mMod M) (hv : 0 ≤ v ∧ v < 20) : bz_rI (bM sl π M G e) 875 v kk = kk (bs_P7 v.toNat) := by
  have h := hM.2.2.1 v.toNat (by omega)
  rw [show ((v.toNat : Nat) : Int) = v by omega] at h
  rw [mo_r875 hv, h]
theorem m4_r {v : Int} {kk : Int → Option bz_R} (hM : mMod M) (hv : 0 ≤ v ∧ v < 10) : bz_rI (bM sl π M G e) 873 v kk = kk (bs_e4 v.toNat) := by
  have h := hM.1 v.toNat (by omega)
  rw [show ((v.toNat : Nat) : Int) = v by omega] at h
  rw [mo_r873 hv, h]
  rfl
/-! Codabar -/
theorem qm_dc_1 {n : Int} {i : Nat} (h16 : l.length ≤ 16) (hi : i < l.length) (hv : 0 ≤ (l[i]).1 ∧ (l[i]).1 < 20) : ∀ (s : Nat) (D : List Int) (M : Nat → Int → Int), s ≤ 7 → mMod M → mC M l → mD M D → D.length + s ≤ 127 → ∃ M', x_M_laysCodabar_1 867 n i ((s : Int) - 1) (bM sl π M G e) = x_M_laysCodabar_0 867 n ((i + 1 : Nat) : Int) (bM sl π M' G e) ∧ fr S_ly M M' ∧ mD M' (D ++ bs_bl (bs_P7 (l[i]).1.toNat) s) := by
  intro s
  induction s with
  | zero =>
    intro D M hs hM hC h hl
    have e2 : wr ((i : Int) + 1) = ((i + 1 : Nat) : Int) := by rw [wr_id (by omega)]; omega
    rw [x_M_laysCodabar_1_eq, if_pos (by omega), e2]
    exact ⟨M, rfl, fr_refl, by rw [bs_bl, List.append_nil]; exact h⟩
  | succ s ih =>
    intro D M hs hM hC h hl
    have e1 : ((s + 1 : Nat) : Int) - 1 = s := by omega
    have e2 : wr ((s : Int) + (-1)) = (s : Int) - 1 := by rw [wr_id (by omega)]; omega
    obtain ⟨A, g, f, w⟩ := qm_lays (sl := sl) (e := e) (π := π) (G := G) h (by omega) (bs_bt (bs_P7 (l[i]).1.toNat) s)
    obtain ⟨M', g2, f2, w2⟩ := ih (D ++ [bs_bt (bs_P7 (l[i]).1.toNat) s]) A (by omega) (mMod_fr hM f fun b j z => S_ly_mod z) (mC_fr hC f fun j => by unfold S_ly; omega) w (by rw [List.length_append, List.length_singleton]; omega)
    refine ⟨M', ?_, fr_trans f f2, ?_⟩
    · rw [x_M_laysCodabar_1_eq, e1, if_neg (by omega), mo_R7, mo_R12, mC_r hC h16 hi, qm_valueOf hM.2.2.2, vof_al hv]
      simp only [ci_r]
      rw [m7_r hM hv, qm_wideOr]
      simp only [ci_r]
      rw [g]
      simp only [cv_r]
      rw [e2]
      exact g2
    · rw [List.append_assoc] at w2
      exact w2
theorem qm_dc_0 (h16 : l.length ≤ 16) (h20 : ∀ c ∈ l, 0 ≤ c.1 ∧ c.1 < 20) : ∀ (d i : Nat) (D : List Int) (M : Nat → Int → Int), i + d = l.length → mMod M → mC M l → mD M D → D.length + 8 * d ≤ 127 ∨ (i = 0 ∧ D.length + 8 * d ≤ 128) → ∃ M', x_M_laysCodabar_0 867 l.length i (bM sl π M G e) = rI 0 (bM sl π M' G e) ∧ fr S_ly M M' ∧ mD M' (D ++ bs_dc (l.drop i) i) := by
  intro d
  induction d with
  | zero =>
    intro i D M hi hM hC h hl
    rw [x_M_laysCodabar_0_eq, if_neg (by omega), List.drop_eq_nil_of_le (by omega), bs_dc, List.append_nil]
    exact ⟨M, rfl, fr_refl, h⟩
  | succ d ih =>
    intro i D M hi hM hC h hl
    have hi2 : i < l.length := by omega
    have hc := h20 _ (List.getElem_mem hi2)
    have step : ∀ (D : List Int) (A : Nat → Int → Int), fr S_ly M A → mD A D → D.length + 7 + 8 * d ≤ 127 → ∃ M', x_M_laysCodabar_1 867 l.length i 6 (bM sl π A G e) = rI 0 (bM sl π M' G e) ∧ fr S_ly M M' ∧ mD M' (D ++ (bs_bl (bs_P7 (l[i]).1.toNat) 7 ++ bs_dc (l.drop (i + 1)) (i + 1))) := by
      intro D A fA hA hl
      have hMA := mMod_fr hM fA fun b j z => S_ly_mod z
      have hCA := mC_fr hC fA fun j => by unfold S_ly; omega
      obtain ⟨B, g, f, w⟩ := qm_dc_1 (sl := sl) (e := e) (π := π) (G := G) (n := l.length) h16 hi2 hc 7 D A (by decide) hMA hCA hA (by omega)
      have fB := fr_trans fA f
      obtain ⟨M', g2, f2, w2⟩ := ih (i + 1) (D ++ bs_bl (bs_P7 (l[i]).1.toNat) 7) B (by omega) (mMod_fr hM fB fun b j z => S_ly_mod z) (mC_fr hC fB fun j => by unfold S_ly; omega) w (by rw [List.length_append, bs_bl_l]; omega)
      rw [List.append_assoc] at w2
      exact ⟨M', g.trans g2, fr_trans fB f2, w2⟩
    rw [x_M_laysCodabar_0_eq, if_pos (by omega), List.drop_eq_getElem_cons hi2, bs_dc]
    by_cases z : 0 < i
    · obtain ⟨A, g, f, w⟩ := qm_lays (sl := sl) (e := e) (π := π) (G := G) h (by omega) 1
      obtain ⟨M', g2, f2, w2⟩ := step (D ++ [1]) A f w (by rw [List.length_append, List.length_singleton]; omega)
      rw [if_pos (by omega), if_pos z, g]
      rw [List.append_assoc] at w2
      exact ⟨M', g2, f2, w2⟩
    · rw [if_neg (by omega), if_neg z]
      exact step D M fr_refl h (by omega)
/-! Interleaved 2 of 5 -/
theorem qm_dp_2 {n p1 p2 : Int} {i : Nat} (h16 : l.length ≤ 16) (hi : i < l.length) (hi1 : i + 1 < l.length) (hv : 0 ≤ (l[i]).1 ∧ (l[i]).1 < 10) (hv1 : 0 ≤ (l[i + 1]).1 ∧ (l[i + 1]).1 < 10) (hp1 : bs_P5 (l[i]).1.toNat = p1) (hp2 : bs_P5 (l[i + 1]).1.toNat = p2) : ∀ (s : Nat) (D : List Int) (M : Nat → Int → Int), s ≤ 5 → mMod M → mC M l → mD M D → D.length + 2 * s ≤ 127 → ∃ M', x_M_laysPairs_1 867 n i ((s : Int) - 1) (bM sl π M G e) = x_M_laysPairs_0 867 n ((i + 2 : Nat) : Int) (bM sl π M' G e) ∧ fr S_ly M M' ∧ mD M' (D ++ bs_pl p1 p2 s) := by
  intro s
  induction s with
  | zero =>
    intro D M hs hM hC h hl
    have e2 : wr ((i : Int) + 2) = ((i + 2 : Nat) : Int) := by rw [wr_id (by omega)]; omega
    rw [x_M_laysPairs_1_eq, if_pos (by omega), e2]
    exact ⟨M, rfl, fr_refl, by rw [bs_pl, List.append_nil]; exact h⟩
  | succ s ih =>
    intro D M hs hM hC h hl
    have e1 : ((s + 1 : Nat) : Int) - 1 = s := by omega
    have e2 : wr ((s : Int) + (-1)) = (s : Int) - 1 := by rw [wr_id (by omega)]; omega
    have e3 : wr ((i : Int) + 1) = ((i + 1 : Nat) : Int) := by rw [wr_id (by omega)]; omega
    obtain ⟨A, g, f, w⟩ := qm_lays (sl := sl) (e := e) (π := π) (G := G) h (by omega) (bs_bt p1 s)
    have hMA := mMod_fr hM f fun b j z => S_ly_mod z
    have hCA := mC_fr hC f fun j => by unfold S_ly; omega
    obtain ⟨B, gB, fB, wB⟩ := qm_lays (sl := sl) (e := e) (π := π) (G := G) w (by rw [List.length_append, List.length_singleton]; omega) (bs_bt p2 s)
    obtain ⟨M', g2, f2, w2⟩ := ih (D ++ [bs_bt p1 s] ++ [bs_bt p2 s]) B (by omega) (mMod_fr hMA fB fun b j z => S_ly_mod z) (mC_fr hCA fB fun j => by unfold S_ly; omega) wB (by rw [List.length_append, List.length_append, List.length_singleton, List.length_singleton]; omega)
    refine ⟨M', ?_, fr_trans f (fr_trans fB f2), ?_⟩
    · rw [x_M_laysPairs_1_eq, e1, if_neg (by omega), mo_R6, mo_R12, mC_r hC h16 hi, al_48 hv, m5_r hM hv, hp1, qm_wideOr]
      simp only [ci_r]
      rw [g]
      rw [cv_r, mo_R6, mo_R12, e3, mC_r hCA h16 hi1, al_48 hv1, m5_r hMA hv1, hp2, qm_wideOr]
      simp only [ci_r]
      rw [gB]
      simp only [cv_r]
      rw [e2]
      exact g2
    · rw [List.append_assoc, List.append_assoc] at w2
      exact w2
theorem qm_dp_1 (h16 : l.length ≤ 16) (h10 : ∀ c ∈ l, 0 ≤ c.1 ∧ c.1 < 10) : ∀ (d i : Nat) (D : List Int) (M : Nat → Int → Int), i + 2 * d = l.length → mMod M → mC M l → mD M D → D.length + 10 * d + 3 ≤ 127 → ∃ M', x_M_laysPairs_0 867 l.length i (bM sl π M G e) = rI 0 (bM sl π M' G e) ∧ fr S_ly M M' ∧ mD M' (D ++ bs_dp (l.drop i)) := by
  intro d
  induction d with
  | zero =>
    intro i D M hi hM hC h hl
    obtain ⟨A, gA, fA, wA⟩ := qm_lays (sl := sl) (e := e) (π := π) (G := G) h (by omega) 3
    obtain ⟨B, gB, fB, wB⟩ := qm_ones (sl := sl) (e := e) (π := π) (G := G) (n := 2) (by decide) wA (by rw [List.length_append, List.length_singleton]; omega)
    rw [x_M_laysPairs_0_eq, if_neg (by omega), gA]
    simp only [cv_r]
    rw [show d_M_laysOnes 867 2 (bM sl π A G e) = _ from gB, List.drop_eq_nil_of_le (by omega)]
    rw [List.append_assoc] at wB
    exact ⟨B, rfl, fr_trans fA fB, wB⟩
  | succ d ih =>
    intro i D M hi hM hC h hl
    have hi2 : i < l.length := by omega
    have hi3 : i + 1 < l.length := by omega
    have hc := h10 _ (List.getElem_mem hi2)
    have hc2 := h10 _ (List.getElem_mem hi3)
    obtain ⟨B, g, f, w⟩ := qm_dp_2 (sl := sl) (e := e) (π := π) (G := G) (n := l.length) h16 hi2 hi3 hc hc2 rfl rfl 5 D M (by decide) hM hC h (by omega)
    obtain ⟨M', g2, f2, w2⟩ := ih (i + 2) (D ++ bs_pl (bs_P5 (l[i]).1.toNat) (bs_P5 (l[i + 1]).1.toNat) 5) B (by omega) (mMod_fr hM f fun b j z => S_ly_mod z) (mC_fr hC f fun j => by unfold S_ly; omega) w (by rw [List.length_append, bs_pl_l]; omega)
    rw [x_M_laysPairs_0_eq, if_pos (by omega), List.drop_eq_getElem_cons hi2, List.drop_eq_getElem_cons hi3, bs_dp]
    rw [List.append_assoc] at w2
    exact ⟨M', g.trans g2, fr_trans f f2, w2⟩
/-! EAN-8 -/
theorem qm_de_s {i : Nat} {b : Int} {D : List Int} (h16 : l.length ≤ 16) (hi : i < l.length) (hv : 0 ≤ (l[i]).1 ∧ (l[i]).1 < 10) (hM : mMod M) (hC : mC M l) (h : mD M D) (hl : D.length < 127) (hb : 0 < b) : ∃ M', x_M_laysEan_1 867 i b (bM sl π M G e) = x_M_laysEan_1 867 i (wr (Int.tdiv b 10)) (bM sl π M' G e) ∧ fr S_ly M M' ∧ mD M' (D ++ [Int.tmod (wr (Int.tdiv (bs_e4 (l[i]).1.toNat) b)) 10]) := by
  obtain ⟨A, g, f, w⟩ := qm_lays (sl := sl) (e := e) (π := π) (G := G) h hl (Int.tmod (wr (Int.tdiv (bs_e4 (l[i]).1.toNat) b)) 10)
  refine ⟨A, ?_, f, w⟩
  rw [x_M_laysEan_1_eq, if_pos hb, mo_R5, mo_R12, mC_r hC h16 hi, al_48 hv, m4_r hM hv, dv_r (by omega), g]
  rfl
theorem qm_de_1 {i : Nat} {D : List Int} (h16 : l.length ≤ 16) (hi : i < l.length) (hv : 0 ≤ (l[i]).1 ∧ (l[i]).1 < 10) (hM : mMod M) (hC : mC M l) (h : mD M D) (hl : D.length + 4 ≤ 127) : ∃ M', x_M_laysEan_1 867 i 1000 (bM sl π M G e) = x_M_laysEan_0 867 ((i + 1 : Nat) : Int) (bM sl π M' G e) ∧ fr S_ly M M' ∧ mD M' (D ++ bs_el (l[i]).1 4) := by
  have e2 : wr ((i : Int) + 1) = ((i + 1 : Nat) : Int) := by rw [wr_id (by omega)]; omega
  have L1 : ∀ (E : List Int) (x : Int), (E ++ [x]).length = E.length + 1 := fun E x => by rw [List.length_append]; rfl
  have nc : ∀ j, ¬ S_ly 876 j := fun j => by unfold S_ly; omega
  obtain ⟨A, gA, fA, wA⟩ := qm_de_s (sl := sl) (e := e) (π := π) (G := G) (b := 1000) h16 hi hv hM hC h (by omega) (by decide)
  obtain ⟨B, gB, fB, wB⟩ := qm_de_s (sl := sl) (e := e) (π := π) (G := G) (b := 100) h16 hi hv (mMod_fr hM fA fun b j z => S_ly_mod z) (mC_fr hC fA nc) wA (by rw [L1]; omega) (by decide)
  have fAB := fr_trans fA fB
  obtain ⟨C, gC, fC, wC⟩ := qm_de_s (sl := sl) (e := e) (π := π) (G := G) (b := 10) h16 hi hv (mMod_fr hM fAB fun b j z => S_ly_mod z) (mC_fr hC fAB nc) wB (by rw [L1, L1]; omega) (by decide)
  have fABC := fr_trans fAB fC
  obtain ⟨E, gE, fE, wE⟩ := qm_de_s (sl := sl) (e := e) (π := π) (G := G) (b := 1) h16 hi hv (mMod_fr hM fABC fun b j z => S_ly_mod z) (mC_fr hC fABC nc) wC (by rw [L1, L1, L1]; omega) (by decide)
  refine ⟨E, gA.trans (gB.trans (gC.trans (gE.trans ?_))), fr_trans fABC fE, ?_⟩
  · rw [x_M_laysEan_1_eq, if_neg (by decide), e2]
  · have k := bs_e4_el (l[i]).1.toNat (by omega)
    rw [show (((l[i]).1.toNat : Nat) : Int) = (l[i]).1 by omega] at k
    rw [← k]
    rw [List.append_assoc, List.append_assoc, List.append_assoc] at wE
    exact wE
theorem qm_de_0 (h10 : ∀ c ∈ l, 0 ≤ c.1 ∧ c.1 < 10) (h8 : l.length = 8) : ∀ (d i : Nat) (D : List Int) (M : Nat → Int → Int), i + d = l.length → mMod M → mC M l → mD M D → (i ≤ 4 → D.length + 4 * d + 8 ≤ 127) ∧ (4 < i → D.length + 4 * d + 3 ≤ 127) → ∃ M', x_M_laysEan_0 867 i (bM sl π M G e) = rI 0 (bM sl π M' G e) ∧ fr S_ly M M' ∧ mD M' (D ++ bs_de (l.drop i) i) := by
  intro d
  induction d with
  | zero =>
    intro i D M hi hM hC h hl
    obtain ⟨A, g, f, w⟩ := qm_ones (sl := sl) (e := e) (π := π) (G := G) (n := 3) (by decide) h (by omega)
    rw [x_M_laysEan_0_eq, if_neg (by omega), show d_M_laysOnes 867 3 (bM sl π M G e) = _ from g, List.drop_eq_nil_of_le (by omega), bs_de]
    exact ⟨A, rfl, f, w⟩
  | succ d ih =>
    intro i D M hi hM hC h hl
    have hi2 : i < l.length := by omega
    have hc := h10 _ (List.getElem_mem hi2)
    have nc : ∀ j, ¬ S_ly 876 j := fun j => by unfold S_ly; omega
    have step : ∀ (D : List Int) (A : Nat → Int → Int), fr S_ly M A → mD A D → (i < 4 → D.length + 4 + 4 * d + 8 ≤ 127) ∧ (4 ≤ i → D.length + 4 + 4 * d + 3 ≤ 127) → ∃ M', x_M_laysEan_1 867 i 1000 (bM sl π A G e) = rI 0 (bM sl π M' G e) ∧ fr S_ly M M' ∧ mD M' (D ++ (bs_el (l[i]).1 4 ++ bs_de (l.drop (i + 1)) (i + 1))) := by
      intro D A fA hA hl
      obtain ⟨B, g, f, w⟩ := qm_de_1 (sl := sl) (e := e) (π := π) (G := G) (by omega) hi2 hc (mMod_fr hM fA fun b j z => S_ly_mod z) (mC_fr hC fA nc) hA (by omega)
      have fB := fr_trans fA f
      obtain ⟨M', g2, f2, w2⟩ := ih (i + 1) (D ++ bs_el (l[i]).1 4) B (by omega) (mMod_fr hM fB fun b j z => S_ly_mod z) (mC_fr hC fB nc) w (by rw [List.length_append, bs_el_l]; omega)
      rw [List.append_assoc] at w2
      exact ⟨M', g.trans g2, fr_trans fB f2, w2⟩
    rw [x_M_laysEan_0_eq, if_pos (by omega), List.drop_eq_getElem_cons hi2, bs_de]
    by_cases z : i = 4
    · obtain ⟨A, g, f, w⟩ := qm_ones (sl := sl) (e := e) (π := π) (G := G) (n := 5) (by decide) h (by omega)
      obtain ⟨M', g2, f2, w2⟩ := step (D ++ bs_on 5) A f w (by rw [List.length_append, bs_on_l]; omega)
      rw [if_pos (by omega), if_pos z, show d_M_laysOnes 867 5 (bM sl π M G e) = _ from g]
      rw [List.append_assoc] at w2
      exact ⟨M', g2, f2, w2⟩
    · rw [if_neg (by omega), if_neg z]
      exact step D M fr_refl h (by omega)
theorem qm_laysModules {s : Nat} (hs : s < 3) (hM : mMod M) (hC : mC M l) (hok : okW s l) : ∃ M', d_M_laysModules 867 s l.length (bM sl π M G e) = rI 0 (bM sl π M' G e) ∧ fr S_ly M M' ∧ mD M' (bs_dr s l) := by
  have h16 := (okW_len hs hok).2
  have f0 : fr S_ly M (up M 867 14 0) := fr_up (Or.inl ⟨rfl, rfl⟩) fr_refl
  have hM0 := mMod_fr hM f0 fun b j z => S_ly_mod z
  have nc : ∀ j, ¬ S_ly 876 j := fun j => by unfold S_ly; omega
  have hC0 := mC_fr hC f0 nc
  have hD : mD (up M 867 14 0) [] := ⟨up_s, by decide, fun i hi => absurd hi (by show ¬ (0 ≤ i ∧ i < 0); omega)⟩
  rw [d_M_laysModules_10 _ _ _ _ mo_d, x_M_laysModules_eq, mo_p]
  unfold bs_dr
  match s, hs with
  | 0, _ =>
    have h8 := hok.2.1 rfl
    obtain ⟨A, g, f, w⟩ := qm_ones (sl := sl) (e := e) (π := π) (G := G) (n := 3) (by decide) hD (by decide)
    obtain ⟨M', g2, f2, w2⟩ := qm_de_0 (sl := sl) (e := e) (π := π) (G := G) (fun c hc => (hok.1 c hc).1) h8 8 0 _ A (by omega) (mMod_fr hM0 f fun b j z => S_ly_mod z) (mC_fr hC0 f nc) w (by rw [List.nil_append, bs_on_l]; omega)
    rw [if_pos (show (((0 : Nat) : Int)) = 0 from rfl), d_M_laysEan_10 _ _ mo_d, x_M_laysEan_eq, show d_M_laysOnes 867 3 (bM sl π (up M 867 14 0) G e) = _ from g]
    simp only [cv_r]
    rw [show x_M_laysEan_0 867 0 (bM sl π A G e) = _ from g2, if_pos trivial]
    exact ⟨M', rfl, fr_trans f0 (fr_trans f f2), w2⟩
  | 1, _ =>
    have h1 := hok.2.2.1 rfl
    obtain ⟨A, g, f, w⟩ := qm_ones (sl := sl) (e := e) (π := π) (G := G) (n := 4) (by decide) hD (by decide)
    obtain ⟨M', g2, f2, w2⟩ := qm_dp_1 (sl := sl) (e := e) (π := π) (G := G) h16 (fun c hc => (hok.1 c hc).1) (l.length / 2) 0 _ A (by omega) (mMod_fr hM0 f fun b j z => S_ly_mod z) (mC_fr hC0 f nc) w (by rw [List.nil_append, bs_on_l]; omega)
    rw [if_neg (show ¬ ((1 : Nat) : Int) = 0 by decide), if_pos (show ((1 : Nat) : Int) = 1 from rfl), d_M_laysPairs_10 _ _ _ mo_d, x_M_laysPairs_eq, show d_M_laysOnes 867 4 (bM sl π (up M 867 14 0) G e) = _ from g]
    simp only [cv_r]
    rw [show x_M_laysPairs_0 867 l.length 0 (bM sl π A G e) = _ from g2, if_neg (by decide), if_pos trivial]
    exact ⟨M', rfl, fr_trans f0 (fr_trans f f2), w2⟩
  | 2, _ =>
    have h1 := hok.2.2.2 rfl
    obtain ⟨M', g2, f2, w2⟩ := qm_dc_0 (sl := sl) (e := e) (π := π) (G := G) h16 (fun c hc => (hok.1 c hc).1) l.length 0 [] _ (by omega) hM0 hC0 hD (Or.inr ⟨rfl, by show 0 + _ ≤ _; omega⟩)
    rw [if_neg (show ¬ ((2 : Nat) : Int) = 0 by decide), if_neg (show ¬ ((2 : Nat) : Int) = 1 by decide), d_M_laysCodabar_10 _ _ _ mo_d, x_M_laysCodabar_eq, show x_M_laysCodabar_0 867 l.length 0 (bM sl π (up M 867 14 0) G e) = _ from g2, if_neg (by decide), if_neg (by decide)]
    exact ⟨M', rfl, fr_trans f0 f2, w2⟩
end
