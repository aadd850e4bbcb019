/-! cut, reverse, smear, average: both sides -/
theorem tm2 {x : Int} (h : 0 ≤ x) : Int.tmod x 2 = x % 2 := Int.tmod_eq_emod_of_nonneg h
section
variable {sl e : Nat} {π : Int → Nat} {M G : Nat → Int → Int} {σ : Sg}
def ok3 (σ : Sg) (k i j : Int) : Prop := (0 ≤ k ∧ k < gc σ) ∧ (0 ≤ i ∧ i < gs σ k) ∧ 0 ≤ j ∧ j < gs σ k
def okC2 (i j : Int) : Prop := i % 2 = 0 ∧ j % 2 = 0 ∧ i + 2 ≤ j
def ggC (σ : Sg) (k i j : Int) : Sg := sg_row σ k (j - i + 1) (fun x => gw σ k (i + x))
theorem qo_cut {k i j : Int} (h : CR σ π M) :
    (ok3 σ k i j → okC2 i j → ∃ M', d_E_cut 16 k i j (bM sl π M G e) = rI (j - i + 1) (bM sl π M' G e) ∧ CR (ggC σ k i j) π M' ∧ ∀ b j, 867 ≤ b → M' b j = M b j) ∧
    (ok3 σ k i j → ¬ okC2 i j → d_E_cut 16 k i j (bM sl π M G e) = rX 3 (bM sl π M G (e + 1))) ∧
    (¬ ok3 σ k i j → d_E_cut 16 k i j (bM sl π M G e) = rX 2 (bM sl π M G (e + 1))) := by
  rw [d_E_cut_9 _ _ _ _ _ en_d, x_E_cut_eq, qo_scan h]
  by_cases q : 0 ≤ k ∧ k < gc σ
  · have hk := CR_k24 h q
    have hπ := CR_pv h
    have hr := CR_row h q
    have hn := hr.1
    have hin := PV_in hπ hk
    rw [if_pos q]
    simp only [cv_r]
    rw [en_R3, qo_rSc hπ hk, scn_w (PV_a hπ hk), row_I (PV_row hπ hk), hr.2.1, qo_place]
    by_cases q2 : 0 ≤ i ∧ i < gs σ k
    · rw [if_pos q2]
      simp only [cv_r]
      rw [row_I (PV_row hπ hk), hr.2.1, qo_place]
      by_cases q3 : 0 ≤ j ∧ j < gs σ k
      · rw [if_pos q3]
        simp only [cv_r]
        rw [tm2 q2.1, tm2 q3.1, wr_id (by omega)]
        refine ⟨fun _ q4 => ?_, fun _ q4 => ?_, fun z => absurd ⟨q, q2, q3⟩ z⟩
        · obtain ⟨z1, z2, z3⟩ := q4
          rw [if_pos z1, if_pos z2, if_neg (by omega)]
          obtain ⟨M1, g1, f1, r1⟩ := bc_keep (sl := sl) (e := e) (π := π) (G := G) (PV_row hπ hk) hr (a := i) (b := j) (by omega)
          rw [g1]
          simp only [cv_r]
          rw [en_R3, qo_rSc hπ hk]
          have hsc := CR_scan h q
          obtain ⟨M', g, c, f⟩ := qo_after (sl := sl) (e := e) (G := G) (k := k) (n := j - i + 1) (w := fun x => gw σ k (i + x)) (M1 := M1) h q (by omega) (fun x hx => hsc.2 (i + x) (by omega)) (fr_mono (fun b y z => ⟨Or.inr (by omega), by omega⟩) f1) r1
          have hr' := CR_row c (show 0 ≤ k ∧ k < gc (sg_row σ k (j - i + 1) (fun x => gw σ k (i + x))) from q)
          rw [g]
          simp only [cv_r]
          rw [row_I (PV_row hπ hk), hr'.2.1]
          refine ⟨M', ?_, c, f⟩
          show rI (if k = k then j - i + 1 else gs σ k) _ = _
          rw [if_pos rfl]
        · rw [sX_bM]
          by_cases z1 : i % 2 = 0
          · rw [if_pos z1]
            by_cases z2 : j % 2 = 0
            · rw [if_pos z2, if_pos (by
                rcases Int.lt_or_le j (i + 2) with y | y
                · exact y
                · exact absurd ⟨z1, z2, y⟩ q4)]
            · rw [if_neg z2]
          · rw [if_neg z1]
      · rw [if_neg q3]
        exact ⟨fun z => absurd z.2.2 q3, fun z => absurd z.2.2 q3, fun _ => rfl⟩
    · rw [if_neg q2]
      exact ⟨fun z => absurd z.2.1 q2, fun z => absurd z.2.1 q2, fun _ => rfl⟩
  · rw [if_neg q]
    exact ⟨fun z => absurd z.1 q, fun z => absurd z.1 q, fun _ => rfl⟩
theorem bw_cut_0 {k i n : Int} {w : Int → Int} (hk : 0 ≤ k ∧ k < 24) (hi : 0 ≤ i ∧ i + n ≤ 129 ∧ 0 ≤ n) : ∀ (m : Nat) (x : Int) (M : Nat → Int → Int), x + m = n → 0 ≤ x → M 869 k = n → (∀ y, 0 ≤ y ∧ y < x → M 868 (129 * k + y) = w (i + y)) → (∀ y, i + x ≤ y ∧ y < i + n → M 868 (129 * k + y) = w y) →
    ∃ M', x_M_cut_0 867 k i x (bM sl π M G e) = rI n (bM sl π M' G e) ∧ fr (S_mk k) M M' ∧ (∀ b j, b ≠ 868 → M' b j = M b j) ∧ mScan M' k n (fun y => w (i + y)) := by
  intro m
  induction m with
  | zero =>
    intro x M hx h0 h1 h2 h3
    rw [x_M_cut_0_eq, mo_R1, mo_r869 (by omega), h1, if_neg (by omega), mo_R1, mo_r869 (by omega), h1]
    exact ⟨M, rfl, fr_refl, fun b j hb => rfl, by omega, h1, fun y hy => h2 y (by omega)⟩
  | succ m ih =>
    intro x M hx h0 h1 h2 h3
    have e1 : wr (wr (wr (129 * k) + i) + x) = 129 * k + (i + x) := by rw [wr_id (x := 129 * k) (by omega), wr_id (x := 129 * k + i) (by omega), wr_id (by omega)]; omega
    have e2 : wr (wr (129 * k) + x) = 129 * k + x := by rw [wr_id (x := 129 * k) (by omega), wr_id (by omega)]
    rw [x_M_cut_0_eq, mo_R1, mo_r869 (by omega), h1, if_pos (by omega), mo_R0, mo_R0, e1, e2, mo_r868 (by omega), h3 (i + x) (by omega), mo_w868 (by omega), wr_id (by omega)]
    obtain ⟨M', g, f, u, c⟩ := ih (x + 1) (up M 868 (129 * k + x) (w (i + x))) (by omega) (by omega) (by rw [up_a (by decide)]; exact h1) (fun y hy => by
      by_cases z : y = x
      · rw [z, up_s]
      · rw [up_i (by omega)]; exact h2 y (by omega)) (fun y hy => by rw [up_i (by omega)]; exact h3 y (by omega))
    exact ⟨M', g, fr_trans (fr_up (by unfold S_mk; omega) fr_refl) f, fun b j hb => (u b j hb).trans (up_a hb), c⟩
theorem qm_cut {k i j : Int} (h : MR σ M) :
    (ok3 σ k i j → okC2 i j → ∃ M', d_M_cut 867 k i j (bM sl π M G e) = rI (j - i + 1) (bM sl π M' G e) ∧ MR (ggC σ k i j) M' ∧ fr S_hi M M' ∧ M' 867 11 = 0) ∧
    (ok3 σ k i j → ¬ okC2 i j → d_M_cut 867 k i j (bM sl π M G e) = rI 0 (bM sl π (up M 867 11 2) G e)) ∧
    (¬ ok3 σ k i j → d_M_cut 867 k i j (bM sl π M G e) = rI 0 (bM sl π (up M 867 11 1) G e)) := by
  have h1 := h.1.1
  rw [d_M_cut_10 _ _ _ _ _ mo_d, x_M_cut_eq, bw_hasWidth h]
  simp only [ci_r, bi_eq0]
  by_cases q : (0 ≤ k ∧ k < gc σ) ∧ 0 ≤ i ∧ i < gs σ k
  · rw [if_neg (by rw [decide_eq_true q]; decide), bw_hasWidth h]
    simp only [ci_r, bi_eq0]
    by_cases q2 : (0 ≤ k ∧ k < gc σ) ∧ 0 ≤ j ∧ j < gs σ k
    · have hs := h.2.2.2.2.2.2 k q.1
      have hn := hs.1
      have hsc := h.1.2.1 k q.1
      rw [if_neg (by rw [decide_eq_true q2]; decide), tm2 q.2.1, tm2 q2.2.1, wr_id (x := i + 2) (by omega)]
      refine ⟨fun _ q4 => ?_, fun _ q4 => ?_, fun z => absurd ⟨q.1, q.2, q2.2⟩ z⟩
      · obtain ⟨z1, z2, z3⟩ := q4
        rw [if_neg (by omega), if_neg (by omega), if_neg (by omega), mo_p, mo_I, up_s, t_zero, mo_R1, wr_id (x := j - i) (by omega), wr_id (x := j - i + 1) (by omega), mo_w869 (by omega)]
        obtain ⟨M', g, f, u, c⟩ := bw_cut_0 (sl := sl) (e := e) (π := π) (G := G) (k := k) (i := i) (n := j - i + 1) (w := gw σ k) (by omega) (by omega) (j - i + 1).toNat 0 (up (up M 867 11 0) 869 k (j - i + 1)) (by omega) (by omega) up_s (fun y hy => by omega) (fun y hy => by rw [up_a (by decide), up_a (by decide)]; exact hs.2.2 y (by omega))
        have f0 : fr (S_mk k) M (up (up M 867 11 0) 869 k (j - i + 1)) := fr_up (by unfold S_mk; omega) (fr_up (by unfold S_mk; omega) fr_refl)
        have fa := fr_trans f0 f
        refine ⟨M', g, MR_row h q.1 (by omega) (fun x hx => hsc.2 (i + x) (by omega)) fa c, S_mk_hi fa, ?_⟩
        rw [u _ _ (by decide), up_a (by decide), up_s]
      · by_cases z1 : i % 2 = 1
        · rw [if_pos z1, mo_p, mo_I, up_s, t_pos2]
        · rw [if_neg z1]
          by_cases z2 : j % 2 = 1
          · rw [if_pos z2, mo_p, mo_I, up_s, t_pos2]
          · rw [if_neg z2, if_pos (by
              rcases Int.lt_or_le j (i + 2) with y | y
              · exact y
              · exact absurd ⟨by omega, by omega, y⟩ q4), mo_p, mo_I, up_s, t_pos2]
    · rw [if_pos (decide_eq_false q2), mo_p, mo_I, up_s, t_pos]
      exact ⟨fun z => absurd ⟨z.1, z.2.2⟩ q2, fun z => absurd ⟨z.1, z.2.2⟩ q2, fun _ => rfl⟩
  · rw [if_pos (decide_eq_false q), mo_p, mo_I, up_s, t_pos]
    exact ⟨fun z => absurd ⟨z.1, z.2.1⟩ q, fun z => absurd ⟨z.1, z.2.1⟩ q, fun _ => rfl⟩
/-! reverse -/
def ggR (σ : Sg) (k : Int) : Sg := sg_row σ k (gs σ k) (bs_rv (gw σ k) (gs σ k))
theorem qo_reverse {k : Int} (h : CR σ π M) :
    ((0 ≤ k ∧ k < gc σ) → ∃ M', d_E_reverse 16 k (bM sl π M G e) = rI 0 (bM sl π M' G e) ∧ CR (ggR σ k) π M' ∧ ∀ b j, 867 ≤ b → M' b j = M b j) ∧
    (¬ (0 ≤ k ∧ k < gc σ) → d_E_reverse 16 k (bM sl π M G e) = rX 2 (bM sl π M G (e + 1))) := by
  rw [d_E_reverse_9 _ _ _ en_d, x_E_reverse_eq, qo_scan h]
  by_cases q : 0 ≤ k ∧ k < gc σ
  · have hk := CR_k24 h q
    have hπ := CR_pv h
    have hr := CR_row h q
    have hn := hr.1
    have hin := PV_in hπ hk
    have hsc := CR_scan h q
    refine ⟨fun _ => ?_, fun z => absurd q z⟩
    rw [if_pos q]
    simp only [cv_r]
    rw [en_R3, qo_rSc hπ hk, scn_w (PV_a hπ hk), en_R9]
    obtain ⟨M1, g1, f1, r1⟩ := bc_copyRev (sl := sl) (e := e) (π := π) (G := G) (p := 44) (PV_row hπ hk) a_44 (by omega) hr
    rw [g1]
    simp only [cv_r]
    rw [en_R9]
    obtain ⟨M2, g2, f2, r2⟩ := bc_copy (sl := sl) (e := e) (π := π) (G := G) (p := π k + 1) (r := 44) a_44 (PV_row hπ hk) (by omega) r1
    rw [g2]
    simp only [cv_r]
    rw [en_R3, qo_rSc hπ hk]
    have fa : fr (fun b j => (S_z π b j ∨ (π k + 1 ≤ b ∧ b ≤ π k + 2)) ∧ b < 867) M M2 := fr_trans (fr_mono (fun b j z => ⟨Or.inl (Or.inr (Or.inl (by omega))), by omega⟩) f1) (fr_mono (fun b j z => ⟨Or.inr (by omega), by omega⟩) f2)
    obtain ⟨M', g, c, f⟩ := qo_after (sl := sl) (e := e) (G := G) (k := k) (n := gs σ k) (w := bs_rv (gw σ k) (gs σ k)) (M1 := M2) h q hsc.1 (fun x hx => hsc.2 _ (by omega)) fa r2
    rw [g]
    exact ⟨M', rfl, c, f⟩
  · refine ⟨fun z => absurd z q, fun _ => ?_⟩
    rw [if_neg q]; rfl
theorem bw_reverse_0 {k n : Int} {w : Int → Int} (hk : 0 ≤ k ∧ k < 24) (hn : 0 ≤ n ∧ n ≤ 129) : ∀ (m : Nat) (x : Int) (M : Nat → Int → Int), x + m = n → 0 ≤ x → mRow M n w → M 869 k = n → (∀ y, 0 ≤ y ∧ y < x → M 868 (129 * k + y) = w y) →
    ∃ M', x_M_reverse_0 867 k x (bM sl π M G e) = rI 0 (bM sl π M' G e) ∧ fr (S_mk k) M M' ∧ (∀ b j, b ≠ 868 → M' b j = M b j) ∧ mScan M' k n w := by
  intro m
  induction m with
  | zero =>
    intro x M hx h0 hr h1 h2
    rw [x_M_reverse_0_eq, mo_I, hr.2.1, if_neg (by omega)]
    exact ⟨M, rfl, fr_refl, fun b j hb => rfl, hn, h1, fun y hy => h2 y (by omega)⟩
  | succ m ih =>
    intro x M hx h0 hr h1 h2
    have e2 : wr (wr (129 * k) + x) = 129 * k + x := by rw [wr_id (x := 129 * k) (by omega), wr_id (by omega)]
    rw [x_M_reverse_0_eq, mo_I, hr.2.1, if_pos (by omega), mo_R0, mo_R15, mo_r878 (by omega), hr.2.2 x (by omega), e2, mo_w868 (by omega), wr_id (by omega)]
    have f0 : fr (fun b _ => b = 868) M (up M 868 (129 * k + x) (w x)) := fr_up rfl fr_refl
    obtain ⟨M', g, f, u, c⟩ := ih (x + 1) (up M 868 (129 * k + x) (w x)) (by omega) (by omega) (mRow_fr hr f0 ⟨by omega, fun j => by omega⟩) (by rw [up_a (by decide)]; exact h1) (fun y hy => by
      by_cases z : y = x
      · rw [z, up_s]
      · rw [up_i (by omega)]; exact h2 y (by omega))
    exact ⟨M', g, fr_trans (fr_up (by unfold S_mk; omega) fr_refl) f, fun b j hb => (u b j hb).trans (up_a hb), c⟩
theorem qm_reverse {k : Int} (h : MR σ M) :
    ((0 ≤ k ∧ k < gc σ) → ∃ M', d_M_reverse 867 k (bM sl π M G e) = rI 0 (bM sl π M' G e) ∧ MR (ggR σ k) M' ∧ fr S_hi M M' ∧ M' 867 11 = 0) ∧
    (¬ (0 ≤ k ∧ k < gc σ) → d_M_reverse 867 k (bM sl π M G e) = rI 0 (bM sl π (up M 867 11 1) G e)) := by
  have h1 := h.1.1
  rw [d_M_reverse_10 _ _ _ mo_d, x_M_reverse_eq, bw_isScan h]
  simp only [ci_r, bi_eq0]
  by_cases q : 0 ≤ k ∧ k < gc σ
  · have hs := h.2.2.2.2.2.2 k q
    have hn := hs.1
    have hsc := h.1.2.1 k q
    refine ⟨fun _ => ?_, fun z => absurd q z⟩
    rw [if_neg (by rw [decide_eq_true q]; decide), mo_p, mo_I, up_s, t_zero]
    have hs0 : mScan (up M 867 11 0) k (gs σ k) (gw σ k) := mScan_fr hs (fr_th (t := 0)) fun j => ⟨by unfold S_th; omega, by unfold S_th; omega⟩
    obtain ⟨M1, g1, f1, r1⟩ := bw_lays (sl := sl) (e := e) (π := π) (G := G) (k := k) (by omega) true hs0
    have g1' : d_M_laysRow 867 k 1 (bM sl π (up M 867 11 0) G e) = _ := g1
    have r1 : mRow M1 (gs σ k) (bs_rv (gw σ k) (gs σ k)) := r1
    rw [g1']
    simp only [cv_r]
    obtain ⟨M', g, f, u, c⟩ := bw_reverse_0 (sl := sl) (e := e) (π := π) (G := G) (k := k) (by omega) hn (gs σ k).toNat 0 M1 (by omega) (by omega) r1 (by rw [f1 _ _ (by unfold S_l; omega)]; exact hs0.2.1) (fun y hy => by omega)
    have fa : fr (S_mk k) M M' := fr_trans (fr_mono (fun b j z => by unfold S_th at z; unfold S_mk; omega) (fr_th (t := 0))) (fr_trans (fr_mono (fun b j z => by unfold S_l at z; unfold S_mk; omega) f1) f)
    refine ⟨M', g, MR_row h q hsc.1 (fun x hx => hsc.2 _ (by omega)) fa c, S_mk_hi fa, ?_⟩
    rw [u _ _ (by decide), f1 _ _ (by unfold S_l; omega), up_s]
  · refine ⟨fun z => absurd z q, fun _ => ?_⟩
    rw [if_pos (decide_eq_false q), mo_p, mo_I, up_s, t_pos]
/-! smear -/
def ggS (σ : Sg) (k a : Int) : Sg := sg_row σ k (gs σ k) (bs_sw a (gs σ k) (gw σ k))
theorem bs_sw_ok {a n : Int} {w : Int → Int} (h : wOK n w) : wOK n (bs_sw a n w) := by
  intro i hi
  unfold bs_sw
  split
  · exact bs_cl_bd
  · exact h i hi
theorem qo_smear {k a : Int} (h : CR σ π M) :
    ((0 ≤ k ∧ k < gc σ) → -100 ≤ a ∧ a ≤ 100 → ∃ M', d_E_smear 16 k a (bM sl π M G e) = rI (bs_sc a (gw σ k) (gs σ k - 2).toNat 1) (bM sl π M' G e) ∧ CR (ggS σ k a) π M' ∧ ∀ b j, 867 ≤ b → M' b j = M b j) ∧
    ((0 ≤ k ∧ k < gc σ) → ¬ (-100 ≤ a ∧ a ≤ 100) → d_E_smear 16 k a (bM sl π M G e) = rX 3 (bM sl π M G (e + 1))) ∧
    (¬ (0 ≤ k ∧ k < gc σ) → d_E_smear 16 k a (bM sl π M G e) = rX 2 (bM sl π M G (e + 1))) := by
  rw [d_E_smear_9 _ _ _ _ en_d, x_E_smear_eq, qo_scan h]
  by_cases q : 0 ≤ k ∧ k < gc σ
  · have hk := CR_k24 h q
    have hπ := CR_pv h
    have hr := CR_row h q
    have hn := hr.1
    have hin := PV_in hπ hk
    have hsc := CR_scan h q
    rw [if_pos q]
    simp only [cv_r]
    refine ⟨fun _ q2 => ?_, fun _ q2 => ?_, fun z => absurd q z⟩
    · rw [if_neg (by omega), if_neg (by omega), en_R3, qo_rSc hπ hk, scn_w (PV_a hπ hk)]
      obtain ⟨M1, g1, f1, r1⟩ := bc_widen (sl := sl) (e := e) (π := π) (G := G) (PV_row hπ hk) (a := a) hr hsc.2 q2 ⟨hsc.1.1, hsc.1.2.1⟩
      rw [g1]
      simp only [ci_r]
      rw [en_R3, qo_rSc hπ hk]
      obtain ⟨M', g, c, f⟩ := qo_after (sl := sl) (e := e) (G := G) (k := k) (n := gs σ k) (w := bs_sw a (gs σ k) (gw σ k)) (M1 := M1) h q hsc.1 (bs_sw_ok hsc.2) (fr_mono (fun b j z => ⟨Or.inr (by omega), by omega⟩) f1) r1
      rw [g]
      exact ⟨M', rfl, c, f⟩
    · rw [sX_bM]
      by_cases z : a < -100
      · rw [if_pos z]
      · rw [if_neg z, if_pos (by omega)]
  · rw [if_neg q]
    exact ⟨fun z => absurd z q, fun z => absurd z q, fun _ => rfl⟩
theorem bw_smear_0 {k a n : Int} {w : Int → Int} (hk : 0 ≤ k ∧ k < 24) (hp : wOK n w) (ha : -100 ≤ a ∧ a ≤ 100) (hn : 3 ≤ n ∧ n ≤ 129) : ∀ (m : Nat) (i c : Int) (M : Nat → Int → Int), i + m = n - 1 → 1 ≤ i → 0 ≤ c ∧ c ≤ i → M 869 k = n → (∀ j, 0 ≤ j ∧ j < i → M 868 (129 * k + j) = bs_sw a n w j) → (∀ j, i ≤ j ∧ j < n → M 868 (129 * k + j) = w j) →
    ∃ M', x_M_smear_0 867 k a c i (bM sl π M G e) = rI (c + bs_sc a w m i) (bM sl π M' G e) ∧ fr (S_mk k) M M' ∧ (∀ b j, b ≠ 868 → M' b j = M b j) ∧ mScan M' k n (bs_sw a n w) := by
  intro m
  induction m with
  | zero =>
    intro i c M hi h1 hc hM h2 h3
    rw [x_M_smear_0_eq, mo_R1, mo_r869 (by omega), hM, wr_id (by omega), if_neg (by omega), show c + bs_sc a w 0 i = c by show c + 0 = c; omega]
    refine ⟨M, rfl, fr_refl, fun b j hb => rfl, by omega, hM, fun j hj => ?_⟩
    by_cases z : j < i
    · exact h2 j (by omega)
    · rw [h3 j (by omega)]; unfold bs_sw; rw [if_neg (by omega)]
  | succ m ih =>
    intro i c M hi h1 hc hM h2 h3
    have hpi := hp i (by omega)
    have e0 : wr (-a) = -a := wr_id (by omega)
    have e1 : wr (w i + a) = w i + a := wr_id (by omega)
    have e2 : wr (w i + -a) = w i - a := by rw [wr_id (by omega)]; omega
    have e3 : wr (i + 1) = i + 1 := wr_id (by omega)
    have e4 : wr (c + 1) = c + 1 := wr_id (by omega)
    have e5 : wr (c + 0) = c := by rw [wr_id (by omega)]; omega
    have e6 : wr (wr (129 * k) + i) = 129 * k + i := by rw [wr_id (x := 129 * k) (by omega), wr_id (by omega)]
    rw [x_M_smear_0_eq, mo_R1, mo_r869 (by omega), hM, wr_id (x := n - 1) (by omega), if_pos (by omega), mo_R0, e6, mo_r868 (by omega), h3 i (by omega), e0, e1, e2, e3, e4, e5]
    simp only [bw_isWidth, ci_r, mo_R0, bi_eq0]
    have step : ∀ (c' : Int), 0 ≤ c' ∧ c' ≤ i + 1 → ∃ M', bz_wI (bM sl π M G e) 868 (129 * k + i) (bs_cl (bs_sx a i (w i))) (fun μ9 => x_M_smear_0 867 k a c' (i + 1) μ9) = rI (c' + bs_sc a w m (i + 1)) (bM sl π M' G e) ∧ fr (S_mk k) M M' ∧ (∀ b j, b ≠ 868 → M' b j = M b j) ∧ mScan M' k n (bs_sw a n w) := by
      intro c' hc'
      rw [mo_w868 (by omega)]
      obtain ⟨M', g, f, u, x⟩ := ih (i + 1) c' (up M 868 (129 * k + i) (bs_cl (bs_sx a i (w i)))) (by omega) (by omega) hc' (by rw [up_a (by decide)]; exact hM) (fun j hj => by
        by_cases z : j = i
        · rw [z, up_s]; unfold bs_sw; rw [if_pos (by omega)]
        · rw [up_i (by omega)]; exact h2 j (by omega)) (fun j hj => by rw [up_i (by omega)]; exact h3 j (by omega))
      exact ⟨M', g, fr_trans (fr_up (by unfold S_mk; omega) fr_refl) f, fun b j hb => (u b j hb).trans (up_a hb), x⟩
    rw [show bs_sc a w (m + 1) i = (if bs_cl (bs_sx a i (w i)) = bs_sx a i (w i) then 0 else 1) + bs_sc a w m (i + 1) from rfl]
    have three : ∀ (Y : Int) (K : Int → Option bz_R), (if Y < 1 then K 1 else if 10000 < Y then K 10000 else K Y) = K (bs_cl Y) := by
      intro Y K
      unfold bs_cl bs_mx bs_mn
      by_cases y1 : Y < 1
      · rw [if_pos y1, if_neg (show ¬ 10000 < Y by omega), if_neg (by omega)]
      · rw [if_neg y1]
        by_cases y2 : 10000 < Y
        · rw [if_pos y2, if_pos y2, if_pos (by decide)]
        · rw [if_neg y2, if_neg y2]
          by_cases y3 : 1 < Y
          · rw [if_pos y3]
          · rw [if_neg y3, show Y = 1 by omega]
    have fin : ∀ Y, Y = bs_sx a i (w i) → ∃ M', (if decide (1 ≤ Y ∧ Y ≤ 10000) = false then (if Y < 1 then bz_wI (bM sl π M G e) 868 (129 * k + i) 1 (fun μ8 => x_M_smear_0 867 k a (c + 1) (i + 1) μ8) else if 10000 < Y then bz_wI (bM sl π M G e) 868 (129 * k + i) 10000 (fun μ8 => x_M_smear_0 867 k a (c + 1) (i + 1) μ8) else bz_wI (bM sl π M G e) 868 (129 * k + i) Y (fun μ8 => x_M_smear_0 867 k a (c + 1) (i + 1) μ8)) else (if Y < 1 then bz_wI (bM sl π M G e) 868 (129 * k + i) 1 (fun μ8 => x_M_smear_0 867 k a c (i + 1) μ8) else if 10000 < Y then bz_wI (bM sl π M G e) 868 (129 * k + i) 10000 (fun μ8 => x_M_smear_0 867 k a c (i + 1) μ8) else bz_wI (bM sl π M G e) 868 (129 * k + i) Y (fun μ8 => x_M_smear_0 867 k a c (i + 1) μ8))) = rI (c + ((if bs_cl (bs_sx a i (w i)) = bs_sx a i (w i) then 0 else 1) + bs_sc a w m (i + 1))) (bM sl π M' G e) ∧ fr (S_mk k) M M' ∧ (∀ b j, b ≠ 868 → M' b j = M b j) ∧ mScan M' k n (bs_sw a n w) := by
      intro Y hY
      subst hY
      rw [three _ (fun x => bz_wI (bM sl π M G e) 868 (129 * k + i) x (fun μ8 => x_M_smear_0 867 k a (c + 1) (i + 1) μ8)), three _ (fun x => bz_wI (bM sl π M G e) 868 (129 * k + i) x (fun μ8 => x_M_smear_0 867 k a c (i + 1) μ8))]
      have hcl : bs_cl (bs_sx a i (w i)) = bs_sx a i (w i) ↔ 1 ≤ bs_sx a i (w i) ∧ bs_sx a i (w i) ≤ 10000 := by
        have hb := bs_cl_bd (x := bs_sx a i (w i))
        constructor
        · intro z; omega
        · intro z
          unfold bs_cl bs_mx bs_mn
          rw [if_neg (show ¬ 10000 < bs_sx a i (w i) by omega)]
          split <;> omega
      by_cases z : bs_cl (bs_sx a i (w i)) = bs_sx a i (w i)
      · rw [if_pos z, Int.zero_add, if_neg (by rw [decide_eq_true (hcl.mp z)]; decide)]; exact step c (by omega)
      · rw [if_neg z, if_pos (decide_eq_false (fun y => z (hcl.mpr y))), show c + (1 + bs_sc a w m (i + 1)) = c + 1 + bs_sc a w m (i + 1) by omega]; exact step (c + 1) (by omega)
    by_cases z : Int.tmod i 2 = 1
    · rw [if_pos z]
      exact fin (w i + a) (by unfold bs_sx; rw [if_pos z])
    · rw [if_neg z]
      exact fin (w i - a) (by unfold bs_sx; rw [if_neg z])
theorem qm_smear {k a : Int} (h : MR σ M) :
    ((0 ≤ k ∧ k < gc σ) → -100 ≤ a ∧ a ≤ 100 → ∃ M', d_M_smear 867 k a (bM sl π M G e) = rI (bs_sc a (gw σ k) (gs σ k - 2).toNat 1) (bM sl π M' G e) ∧ MR (ggS σ k a) M' ∧ fr S_hi M M' ∧ M' 867 11 = 0) ∧
    ((0 ≤ k ∧ k < gc σ) → ¬ (-100 ≤ a ∧ a ≤ 100) → d_M_smear 867 k a (bM sl π M G e) = rI 0 (bM sl π (up M 867 11 2) G e)) ∧
    (¬ (0 ≤ k ∧ k < gc σ) → d_M_smear 867 k a (bM sl π M G e) = rI 0 (bM sl π (up M 867 11 1) G e)) := by
  have h1 := h.1.1
  rw [d_M_smear_10 _ _ _ _ mo_d, x_M_smear_eq, bw_isScan h]
  simp only [ci_r, bi_eq0]
  by_cases q : 0 ≤ k ∧ k < gc σ
  · have hs := h.2.2.2.2.2.2 k q
    have hn := hs.1
    have hsc := h.1.2.1 k q
    rw [if_neg (by rw [decide_eq_true q]; decide), bw_isIn]
    simp only [ci_r, bi_eq0]
    refine ⟨fun _ q2 => ?_, fun _ q2 => ?_, fun z => absurd q z⟩
    · rw [if_neg (by rw [decide_eq_true q2]; decide), mo_p, mo_I, up_s, t_zero]
      obtain ⟨M', g, f, u, c⟩ := bw_smear_0 (sl := sl) (e := e) (π := π) (G := G) (k := k) (by omega) hsc.2 q2 (by have := hsc.1; omega) (gs σ k - 2).toNat 1 0 (up M 867 11 0) (by have := hsc.1; omega) (by decide) (by decide) (by rw [up_a (by decide)]; exact hs.2.1) (fun j hj => by rw [up_a (by decide), hs.2.2 j (by have := hsc.1; omega)]; unfold bs_sw; rw [if_neg (by omega)]) (fun j hj => by rw [up_a (by decide)]; exact hs.2.2 j (by omega))
      rw [Int.zero_add] at g
      have fa : fr (S_mk k) M M' := fr_trans (fr_mono (fun b j z => by unfold S_th at z; unfold S_mk; omega) (fr_th (t := 0))) f
      refine ⟨M', g, MR_row h q hsc.1 (bs_sw_ok hsc.2) fa c, S_mk_hi fa, ?_⟩
      rw [u _ _ (by decide), up_s]
    · rw [if_pos (decide_eq_false q2), mo_p, mo_I, up_s, t_pos2]
  · rw [if_pos (decide_eq_false q), mo_p, mo_I, up_s, t_pos]
    exact ⟨fun z => absurd z q, fun z => absurd z q, fun _ => rfl⟩
/-! average -/
def bs_av (w v : Int → Int) : Int → Int := fun i => Int.tdiv (w i + v i + 1) 2
theorem bs_av_ok {n : Int} {w v : Int → Int} (h : wOK n w) (h' : wOK n v) : wOK n (bs_av w v) := by
  intro i hi
  have h1 := h i hi
  have h2 := h' i hi
  unfold bs_av
  rw [Int.tdiv_eq_ediv_of_nonneg (by omega)]
  omega
def ggA (σ : Sg) (k l : Int) : Sg := sg_row σ k (gs σ k) (bs_av (gw σ k) (gw σ l))
theorem bs_av_same {w : Int → Int} {i : Int} (h : 0 ≤ w i) : bs_av w w i = w i := by
  unfold bs_av
  rw [Int.tdiv_eq_ediv_of_nonneg (by omega)]
  omega
theorem bc_av_0 {k l : Int} (h : CR σ π M) (hk : 0 ≤ k ∧ k < gc σ) (hl : 0 ≤ l ∧ l < gc σ) (hnn : gs σ k = gs σ l) : ∀ (m : Nat) (i : Int) (M1 : Nat → Int → Int), i + m = gs σ k → 0 ≤ i → fr (fun b _ => b = π k + 1 + 1) M M1 → (∀ j, 0 ≤ j ∧ j < i → M1 (π k + 1 + 1) j = bs_av (gw σ k) (gw σ l) j) → (∀ j, i ≤ j ∧ j < gs σ k → M1 (π k + 1 + 1) j = gw σ k j) →
    ∃ M', x_E_average_0 16 k (π k + 1) (π l + 1) i (bM sl π M1 G e) = rI 0 (bM sl π M' G e) ∧ CR (ggA σ k l) π M' ∧ ∀ b j, 867 ≤ b → M' b j = M b j := by
  have hk24 := CR_k24 h hk
  have hl24 := CR_k24 h hl
  have hπ := CR_pv h
  have hrk := CR_row h hk
  have hrl := CR_row h hl
  have hn := hrk.1
  have hin := PV_in hπ hk24
  have hsk := CR_scan h hk
  have hsl := CR_scan h hl
  intro m
  induction m with
  | zero =>
    intro i M1 hi h0 f1 h1 h2
    rw [x_E_average_0_eq, row_I (PV_row hπ hk24), f1 _ _ (by omega), hrk.2.1, if_neg (by omega), en_R3, qo_rSc hπ hk24]
    obtain ⟨M', g, c, f⟩ := qo_after (sl := sl) (e := e) (G := G) (k := k) (n := gs σ k) (w := bs_av (gw σ k) (gw σ l)) (M1 := M1) h hk hsk.1 (bs_av_ok hsk.2 (by rw [hnn]; exact hsl.2)) (fr_mono (fun b j z => ⟨Or.inr (by omega), by omega⟩) f1) ⟨hn, (f1 _ _ (by omega)).trans hrk.2.1, fun j hj => h1 j (by omega)⟩
    rw [g]
    exact ⟨M', rfl, c, f⟩
  | succ m ih =>
    intro i M1 hi h0 f1 h1 h2
    have hp1 := hsk.2 i (by omega)
    have hp2 := hsl.2 i (by omega)
    have hvl : M1 (π l + 1 + 1) i = gw σ l i := by
      by_cases z : l = k
      · subst z; exact h2 i (by omega)
      · have := PV_ne hπ hl24 hk24 z
        rw [f1 _ _ (by omega)]
        exact hrl.2.2 i (by omega)
    have e1 : wr (Int.tdiv (wr (wr (gw σ k i + gw σ l i) + 1)) 2) = bs_av (gw σ k) (gw σ l) i := by
      rw [wr_id (x := gw σ k i + gw σ l i) (by omega), wr_id (x := gw σ k i + gw σ l i + 1) (by omega), wr_id]
      · rfl
      · rw [Int.tdiv_eq_ediv_of_nonneg (by omega)]; omega
    rw [x_E_average_0_eq, row_I (PV_row hπ hk24), f1 _ _ (by omega), hrk.2.1, if_pos (by omega), row_w (PV_row hπ hk24), row_w (PV_row hπ hk24), row_r (PV_row hπ hk24) (by omega), h2 i (by omega), row_w (PV_row hπ hl24), row_r (PV_row hπ hl24) (by omega), hvl, e1, row_s (PV_row hπ hk24) (by omega), wr_id (x := i + 1) (by omega)]
    exact ih (i + 1) (up M1 (π k + 1 + 1) i (bs_av (gw σ k) (gw σ l) i)) (by omega) (by omega) (fr_trans f1 (fr_up rfl fr_refl)) (fun j hj => by
      by_cases z : j = i
      · subst z; exact up_s
      · rw [up_i z]; exact h1 j (by omega)) (fun j hj => by rw [up_i (by omega)]; exact h2 j (by omega))
theorem qo_average {k l : Int} (h : CR σ π M) :
    ((0 ≤ k ∧ k < gc σ) ∧ (0 ≤ l ∧ l < gc σ) → gs σ k = gs σ l → ∃ M', d_E_average 16 k l (bM sl π M G e) = rI 0 (bM sl π M' G e) ∧ CR (ggA σ k l) π M' ∧ ∀ b j, 867 ≤ b → M' b j = M b j) ∧
    ((0 ≤ k ∧ k < gc σ) ∧ (0 ≤ l ∧ l < gc σ) → ¬ gs σ k = gs σ l → d_E_average 16 k l (bM sl π M G e) = rX 3 (bM sl π M G (e + 1))) ∧
    (¬ ((0 ≤ k ∧ k < gc σ) ∧ (0 ≤ l ∧ l < gc σ)) → d_E_average 16 k l (bM sl π M G e) = rX 2 (bM sl π M G (e + 1))) := by
  rw [d_E_average_9 _ _ _ _ en_d, x_E_average_eq, qo_scan h]
  by_cases q : 0 ≤ k ∧ k < gc σ
  · rw [if_pos q]
    simp only [cv_r]
    rw [qo_scan h]
    by_cases q2 : 0 ≤ l ∧ l < gc σ
    · have hk24 := CR_k24 h q
      have hl24 := CR_k24 h q2
      have hπ := CR_pv h
      rw [if_pos q2]
      simp only [cv_r]
      rw [en_R3, qo_rSc hπ hk24, scn_w (PV_a hπ hk24), en_R3, qo_rSc hπ hl24, scn_w (PV_a hπ hl24), row_I (PV_row hπ hk24), row_I (PV_row hπ hl24), (CR_row h q).2.1, (CR_row h q2).2.1]
      refine ⟨fun _ q3 => ?_, fun _ q3 => ?_, fun z => absurd ⟨q, q2⟩ z⟩
      · rw [if_pos q3]
        exact bc_av_0 h q q2 q3 (gs σ k).toNat 0 M (by have := (CR_row h q).1; omega) (by decide) fr_refl (fun j hj => by omega) (fun j hj => (CR_row h q).2.2 j (by omega))
      · rw [if_neg q3, sX_bM]
    · rw [if_neg q2]
      exact ⟨fun z => absurd z.2 q2, fun z => absurd z.2 q2, fun _ => rfl⟩
  · rw [if_neg q]
    exact ⟨fun z => absurd z.1 q, fun z => absurd z.1 q, fun _ => rfl⟩
theorem bw_av_0 {k l : Int} (h : MR σ M) (hk : 0 ≤ k ∧ k < gc σ) (hl : 0 ≤ l ∧ l < gc σ) (hnn : gs σ k = gs σ l) : ∀ (m : Nat) (i : Int) (M1 : Nat → Int → Int), i + m = gs σ k → 0 ≤ i → fr (fun b j => (b = 867 ∧ j = 11) ∨ (b = 868 ∧ 129 * k ≤ j ∧ j < 129 * k + 129)) M M1 → M1 867 11 = 0 → (∀ j, 0 ≤ j ∧ j < i → M1 868 (129 * k + j) = bs_av (gw σ k) (gw σ l) j) → (∀ j, i ≤ j ∧ j < gs σ k → M1 868 (129 * k + j) = gw σ k j) →
    ∃ M', x_M_average_0 867 k l i (bM sl π M1 G e) = rI 0 (bM sl π M' G e) ∧ MR (ggA σ k l) M' ∧ fr S_hi M M' ∧ M' 867 11 = 0 := by
  have hc := h.1.1
  have hsk := h.2.2.2.2.2.2 k hk
  have hsl := h.2.2.2.2.2.2 l hl
  have hn := hsk.1
  have ok := h.1.2.1 k hk
  have ol := h.1.2.1 l hl
  intro m
  induction m with
  | zero =>
    intro i M1 hi h0 f1 ht h1 h2
    rw [x_M_average_0_eq, mo_I, ht, if_pos rfl, mo_R1, mo_r869 (by omega), f1 _ _ (by omega), hsk.2.1, if_neg (by omega)]
    have fa : fr (S_mk k) M M1 := fr_mono (fun b j z => by unfold S_mk; omega) f1
    exact ⟨M1, rfl, MR_row h hk ok.1 (bs_av_ok ok.2 (by rw [hnn]; exact ol.2)) fa ⟨hn, (f1 _ _ (by omega)).trans hsk.2.1, fun j hj => h1 j (by omega)⟩, S_mk_hi fa, ht⟩
  | succ m ih =>
    intro i M1 hi h0 f1 ht h1 h2
    have hp1 := ok.2 i (by omega)
    have hp2 := ol.2 i (by omega)
    have hvl : M1 868 (129 * l + i) = gw σ l i := by
      by_cases z : l = k
      · subst z; exact h2 i (by omega)
      · rw [f1 _ _ (by omega)]
        exact hsl.2.2 i (by omega)
    have e1 : wr (Int.tdiv (wr (wr (gw σ k i + gw σ l i) + 1)) 2) = bs_av (gw σ k) (gw σ l) i := by
      rw [wr_id (x := gw σ k i + gw σ l i) (by omega), wr_id (x := gw σ k i + gw σ l i + 1) (by omega), wr_id]
      · rfl
      · rw [Int.tdiv_eq_ediv_of_nonneg (by omega)]; omega
    have e2 : wr (wr (129 * k) + i) = 129 * k + i := by rw [wr_id (x := 129 * k) (by omega), wr_id (by omega)]
    have e3 : wr (wr (129 * l) + i) = 129 * l + i := by rw [wr_id (x := 129 * l) (by omega), wr_id (by omega)]
    rw [x_M_average_0_eq, mo_I, ht, if_pos rfl, mo_R1, mo_r869 (by omega), f1 _ _ (by omega), hsk.2.1, if_pos (by omega), mo_R0, mo_R0, e2, e3, mo_r868 (by omega), h2 i (by omega), mo_R0, mo_r868 (by omega), hvl, e1, mo_w868 (by omega), wr_id (x := i + 1) (by omega)]
    exact ih (i + 1) (up M1 868 (129 * k + i) (bs_av (gw σ k) (gw σ l) i)) (by omega) (by omega) (fr_trans f1 (fr_up (by omega) fr_refl)) (by rw [up_a (by decide)]; exact ht) (fun j hj => by
      by_cases z : j = i
      · subst z; exact up_s
      · rw [up_i (by omega)]; exact h1 j (by omega)) (fun j hj => by rw [up_i (by omega)]; exact h2 j (by omega))
theorem qm_average {k l : Int} (h : MR σ M) :
    ((0 ≤ k ∧ k < gc σ) ∧ (0 ≤ l ∧ l < gc σ) → gs σ k = gs σ l → ∃ M', d_M_average 867 k l (bM sl π M G e) = rI 0 (bM sl π M' G e) ∧ MR (ggA σ k l) M' ∧ fr S_hi M M' ∧ M' 867 11 = 0) ∧
    ((0 ≤ k ∧ k < gc σ) ∧ (0 ≤ l ∧ l < gc σ) → ¬ gs σ k = gs σ l → d_M_average 867 k l (bM sl π M G e) = rI 0 (bM sl π (up M 867 11 2) G e)) ∧
    (¬ ((0 ≤ k ∧ k < gc σ) ∧ (0 ≤ l ∧ l < gc σ)) → d_M_average 867 k l (bM sl π M G e) = rI 0 (bM sl π (up M 867 11 1) G e)) := by
  have hc := h.1.1
  have stop : ∀ t, t ≠ 0 → x_M_average_0 867 k l 0 (bM sl π (up M 867 11 t) G e) = rI 0 (bM sl π (up M 867 11 t) G e) := by
    intro t ht
    rw [x_M_average_0_eq, mo_I, up_s, if_neg ht]
  rw [d_M_average_10 _ _ _ _ mo_d, x_M_average_eq, bw_isScan h]
  simp only [ci_r, bi_eq0]
  by_cases q : 0 ≤ k ∧ k < gc σ
  · rw [if_neg (by rw [decide_eq_true q]; decide), bw_isScan h]
    simp only [ci_r, bi_eq0]
    by_cases q2 : 0 ≤ l ∧ l < gc σ
    · have hsk := h.2.2.2.2.2.2 k q
      rw [if_neg (by rw [decide_eq_true q2]; decide), mo_R1, mo_r869 (by omega), mo_R1, mo_r869 (by omega), hsk.2.1, (h.2.2.2.2.2.2 l q2).2.1]
      refine ⟨fun _ q3 => ?_, fun _ q3 => ?_, fun z => absurd ⟨q, q2⟩ z⟩
      · rw [if_pos q3, mo_p]
        exact bw_av_0 h q q2 q3 (gs σ k).toNat 0 (up M 867 11 0) (by have := hsk.1; omega) (by decide) (fr_up (Or.inl ⟨rfl, rfl⟩) fr_refl) up_s (fun j hj => by omega) (fun j hj => by rw [up_a (by decide)]; exact hsk.2.2 j (by omega))
      · rw [if_neg q3, mo_p, stop 2 (by decide)]
    · rw [if_pos (decide_eq_false q2), mo_p, stop 1 (by decide)]
      exact ⟨fun z => absurd z.2 q2, fun z => absurd z.2 q2, fun _ => rfl⟩
  · rw [if_pos (decide_eq_false q), mo_p, stop 1 (by decide)]
    exact ⟨fun z => absurd z.1 q, fun z => absurd z.1 q, fun _ => rfl⟩
end
