/-! THE MODEL'S QUERIES OF VOTES -/
theorem up_up {M : Nat → Int → Int} {a : Nat} {i v w : Int} : up (up M a i v) a i w = up M a i w := by
  funext b j
  unfold up
  split
  · rfl
  · rfl
theorem bs_cd_0 {V : Vt} : ∀ d i, bs_cd V d i = 0 → ∀ k : Nat, i ≤ k → k < i + d → bs_mj V k ≠ -1 := by
  intro d
  induction d with
  | zero => intro i _ k h1 h2; omega
  | succ d ih =>
    intro i h k h1 h2
    have nn := bs_cd_nn (V := V) d (i + 1)
    rw [bs_cd] at h
    by_cases z : bs_mj V i = -1
    · rw [if_pos z] at h; omega
    · rw [if_neg z] at h
      by_cases y : k = i
      · rw [y]; exact z
      · exact ih (i + 1) (by omega) k (by omega) (by omega)
theorem bs_db_f {V : Vt} {n : Nat} : (bs_fdt V n 0 = -1) = (bs_db V n = 0) := by
  have h1 := bs_db_cd (V := V) n 0
  rw [Nat.zero_add] at h1
  have h0 : bs_db V 0 = 0 := rfl
  refine propext ?_
  rcases bs_cd_f (V := V) n 0 with ⟨y1, y2⟩ | ⟨p, y1, y2, y3, y4, y5⟩
  · exact ⟨fun _ => by omega, fun _ => y1⟩
  · have := bs_cd_nn (V := V) (0 + n - (p + 1)) (p + 1)
    exact ⟨fun _ => by omega, fun _ => by omega⟩
theorem bs_db_1 {V : Vt} {n : Nat} : (bs_db V n = 1) = ∃ p : Nat, bs_fdt V n 0 = p ∧ p < n ∧ bs_fdt V (n - (p + 1)) (p + 1) = -1 := by
  have h1 := bs_db_cd (V := V) n 0
  rw [Nat.zero_add] at h1
  have h0 : bs_db V 0 = 0 := rfl
  refine propext ?_
  rcases bs_cd_f (V := V) n 0 with ⟨y1, y2⟩ | ⟨p, y1, y2, y3, y4, y5⟩
  · exact ⟨fun h => by omega, fun ⟨p, h, _⟩ => by omega⟩
  · rw [Nat.zero_add] at y3 y5
    have key : bs_fdt V (n - (p + 1)) (p + 1) = -1 ↔ bs_cd V (n - (p + 1)) (p + 1) = 0 := by
      rcases bs_cd_f (V := V) (n - (p + 1)) (p + 1) with ⟨z1, z2⟩ | ⟨q, z1, z2, z3, z4, z5⟩
      · exact ⟨fun _ => z2, fun _ => z1⟩
      · have := bs_cd_nn (V := V) (p + 1 + (n - (p + 1)) - (q + 1)) (q + 1)
        exact ⟨fun _ => by omega, fun _ => by omega⟩
    refine ⟨fun h => ⟨p, y1, y3, key.mpr (by omega)⟩, fun ⟨q, hq, hq2, hq3⟩ => ?_⟩
    have : q = p := by omega
    subst this
    have := key.mp hq3
    omega
section
variable {sl e : Nat} {π : Int → Nat} {M G : Nat → Int → Int} {σ : Sg} {t : Nat} {p : Int}
theorem gV_b6 (h : okS σ) (ht : t < 3) : bdV (gV σ t) 1000000 := bdV_mono (gV_bd h ht) (by decide)
theorem gV_rtL (h : okS σ) (ht : t < 3) {n : Nat} (hd : bs_db (gV σ t) n = 0) : rtL t (gV σ t) (-1) (-1) (bs_cvt (gV σ t) n) := by
  intro k hk
  have hk2 : k < n := by rw [bs_cvt_l] at hk; exact hk
  have h1 := bs_db_cd (V := gV σ t) n 0
  rw [Nat.zero_add] at h1
  have h0 : bs_db (gV σ t) 0 = 0 := rfl
  have hm := bs_cd_0 (V := gV σ t) n 0 (by omega) k (by omega) (by omega)
  have hg := bs_mj_dg (p := k) (gV_dg h ht) (gV_bd h ht)
  rw [bs_cvt_at n k hk]
  refine ⟨?_, fun q => by omega, fun _ => rfl⟩
  rcases hg with z | z
  · exact absurd z hm
  · exact z
theorem qm_problemOf (h : MR σ M) (ht : t < 3) : ∃ M', d_M_problemOf 867 t (bM sl π M G e) = rI (gPr σ t) (bM sl π M' G e) ∧ MR σ M' ∧ fr S_vo M M' := by
  have hL := gL_bd h.1 ht
  obtain ⟨A, g, m, f, r, w⟩ := qm_laysVotes (sl := sl) (e := e) (π := π) (G := G) h ht
  refine ⟨A, ?_, m, f⟩
  rw [d_M_problemOf_10 _ _ _ mo_d, x_M_problemOf_eq, g]
  simp only [ci_r]
  unfold gPr bs_pr
  by_cases z : gL σ t = 0
  · rw [if_pos z, if_pos z]
  · have df := qm_doubtFrom (sl := sl) (e := e) (π := π) (G := G) (i := 0) hL w (gV_b6 h.1 ht) (by omega)
    rw [if_neg z, if_neg z, show d_M_doubtFrom 867 0 (gL σ t) (bM sl π A G e) = _ from df]
    simp only [ci_r]
    rw [Nat.sub_zero]
    simp only [bs_db_f]
    have hdb := bs_db_bd (V := gV σ t) (gL σ t).toNat
    by_cases y : bs_db (gV σ t) (gL σ t).toNat = 0
    · rw [if_pos y, if_neg (by omega), mo_R4, mo_r872 (by omega), m.2.2.2.2.2.1 t (by omega)]
      by_cases x : gk σ t = 0
      · rw [if_pos x, if_pos x]
      · rw [if_neg x, if_neg x, qm_isRight m.2.1.2.2.2 (l := bs_cvt (gV σ t) (gL σ t).toNat) (by rw [bs_cvt_l]; omega) hL.2 (w z) (gV_b6 h.1 ht) (gV_rtL h.1 ht y)]
        simp only [ci_r, bi_eq0]
        cases hb : bs_rt t (bs_cvt (gV σ t) (gL σ t).toNat) with
        | false => rw [if_pos rfl, if_neg (by decide)]
        | true => rw [if_neg (by decide), if_pos rfl]
    · rw [if_neg y, if_pos (by omega)]
theorem gPr0 (h : gPr σ t = 0) : gL σ t ≠ 0 ∧ ∀ k : Nat, k < (gL σ t).toNat → bs_mj (gV σ t) k ≠ -1 := by
  unfold gPr bs_pr at h
  by_cases z : gL σ t = 0
  · rw [if_pos z] at h; exact absurd h (by decide)
  · rw [if_neg z] at h
    by_cases y : 0 < bs_db (gV σ t) (gL σ t).toNat
    · rw [if_pos y] at h; exact absurd h (by decide)
    · have hdb := bs_db_bd (V := gV σ t) (gL σ t).toNat
      have h1 := bs_db_cd (V := gV σ t) (gL σ t).toNat 0
      rw [Nat.zero_add] at h1
      have h0 : bs_db (gV σ t) 0 = 0 := rfl
      exact ⟨z, fun k hk => bs_cd_0 (gL σ t).toNat 0 (by omega) k (by omega) (by omega)⟩
theorem qm_sh_st {i L a all x sh : Int} (hv : d_M_votedAt 867 i (bM sl π M G e) = rI a (bM sl π M G e)) (hall : d_M_allAt 867 i (bM sl π M G e) = rI all (bM sl π M G e)) (ha : 0 ≤ a ∧ a < 128) (hx : M 887 (128 * i + a) = x) (hxb : 0 ≤ x ∧ x ≤ 7272) (h0 : 0 < all) (hi : 0 ≤ i ∧ i < 16) (hL : i < L) :
    x_M_shareOf_0 867 L sh i (bM sl π M G e) = x_M_shareOf_0 867 L (bs_mn sh ((100 * x).tdiv all)) (i + 1) (bM sl π M G e) := by
  have h1 : 0 ≤ (100 * x).tdiv all := Int.tdiv_nonneg (by omega) (by omega)
  have h2 : (100 * x).tdiv all ≤ 100 * x := Int.tdiv_le_self _ (by omega)
  rw [x_M_shareOf_0_eq, if_pos hL, mo_R32, hv]
  simp only [ci_r]
  rw [wr_id (x := 128 * i) (by omega), wr_id (x := 128 * i + a) (by omega), mo_r887 (by omega), hx, hall]
  simp only [ci_r]
  rw [dv_r (by omega), wr_id (x := 100 * x) (by omega), wr_id (x := (100 * x).tdiv all) (by omega), wr_id (x := i + 1) (by omega)]
  unfold bs_mn
  by_cases q : (100 * x).tdiv all < sh
  · rw [if_pos q, if_pos q]
  · rw [if_neg q, if_neg q]
theorem qm_sh_0 {V : Vt} {L : Int} (hL : 0 ≤ L ∧ L ≤ 16) (hW : L ≠ 0 → rVt M V) (hV : bdV V 7272) (hm : ∀ k : Nat, k < L.toNat → bs_mj V k ≠ -1) : ∀ d i : Nat, (i : Int) + d = L → x_M_shareOf_0 867 L (bs_sh V i) i (bM sl π M G e) = rI (bs_sh V L.toNat) (bM sl π M G e) := by
  have hV6 := bdV_mono hV (show (7272 : Int) ≤ 1000000 by decide)
  intro d
  induction d with
  | zero =>
    intro i hi
    have : i = L.toNat := by omega
    rw [x_M_shareOf_0_eq, if_neg (by omega), this]
  | succ d ih =>
    intro i hi
    have hi16 : 0 ≤ (i : Int) ∧ (i : Int) < 16 := by omega
    have hiL : (i : Int) < L := by omega
    have e5 : (i : Int) + 1 = ((i + 1 : Nat) : Int) := by omega
    have hW1 := hW (by omega)
    have hmi := hm i (by omega)
    have st := ih (i + 1) (by omega)
    rw [bs_sh] at st
    rcases bs_mj0_is (V := V) (p := i) 20 0 with ⟨y, -⟩ | ⟨v, y1, y2, y3, y4⟩
    · exact absurd y hmi
    · have ev : bs_mj V i = v := y1
      have hv20 : 0 ≤ (v : Int) ∧ (v : Int) < 20 := by omega
      have hwt : bs_wt V i (bs_mj V i) = V i v := by rw [ev]; exact if_pos hv20.1
      have le : V i v ≤ bs_tt V i := (bs_sm_nn (f := fun v => V i v) 20 (fun j _ => (hV.1 i j).1)).2 v (by omega)
      have hz : 0 < bs_tt V i := by omega
      have ea : al1 (bs_mj V i) = al v := by rw [ev]; exact if_pos hv20
      rw [if_pos hz, hwt] at st
      have hvd := qm_votedAt (sl := sl) (e := e) (π := π) (G := G) hi16 hW1 hV6
      rw [ea] at hvd
      rw [qm_sh_st hvd (qm_allAt hi16 hW1 hV6) (al_bd hv20) ((hW1 i _ hi16 (al_bd hv20)).trans (gVc_al hv20)) (hV.1 _ _) hz hi16 hiL, e5]
      exact st
theorem qm_shareOf (h : MR σ M) (ht : t < 3) (h0 : gPr σ t = 0) : ∃ M', d_M_shareOf 867 t (bM sl π M G e) = rI (bs_sh (gV σ t) (gL σ t).toNat) (bM sl π M' G e) ∧ MR σ M' ∧ fr S_vo M M' := by
  have hL := gL_bd h.1 ht
  obtain ⟨A, g, m, f, r, w⟩ := qm_laysVotes (sl := sl) (e := e) (π := π) (G := G) h ht
  refine ⟨A, ?_, m, f⟩
  rw [d_M_shareOf_10 _ _ _ mo_d, x_M_shareOf_eq, g]
  simp only [ci_r]
  exact qm_sh_0 hL w (gV_bd h.1 ht) (gPr0 h0).2 (gL σ t).toNat 0 (by omega)
theorem qm_winner_0 : ∀ (d i : Nat) (M : Nat → Int → Int), MR σ M → i + d = 3 →
    ∃ M', x_M_winner_0 867 (bs_wn σ i).1 (bs_wn σ i).2 i (bM sl π M G e) = rI (bs_wn σ 3).1 (bM sl π M' G e) ∧ MR σ M' ∧ fr S_vo M M' := by
  intro d
  induction d with
  | zero =>
    intro i M m hi
    have : i = 3 := by omega
    subst this
    rw [x_M_winner_0_eq, if_neg (by omega)]
    exact ⟨M, rfl, m, fr_refl⟩
  | succ d ih =>
    intro i M m hi
    have e2 : wr ((i : Int) + 1) = ((i + 1 : Nat) : Int) := by rw [wr_id (by omega)]; omega
    have hi3 : i < 3 := by omega
    obtain ⟨A, g, mA, fA⟩ := qm_problemOf (sl := sl) (e := e) (π := π) (G := G) m hi3
    rw [x_M_winner_0_eq, if_pos (by omega), g]
    simp only [ci_r]
    rw [e2]
    by_cases z : gPr σ i = 0
    · obtain ⟨B, gB, mB, fB⟩ := qm_shareOf (sl := sl) (e := e) (π := π) (G := G) mA hi3 z
      rw [if_pos z, gB]
      simp only [ci_r]
      by_cases y : (bs_wn σ i).2 < bs_sh (gV σ i) (gL σ i).toNat
      · obtain ⟨C, gC, mC, fC⟩ := qm_shareOf (sl := sl) (e := e) (π := π) (G := G) mB hi3 z
        obtain ⟨M', g', m', f'⟩ := ih (i + 1) C mC (by omega)
        rw [bs_wn, if_pos ⟨z, y⟩] at g'
        rw [if_pos y, gC]
        exact ⟨M', g', m', fr_trans fA (fr_trans fB (fr_trans fC f'))⟩
      · obtain ⟨M', g', m', f'⟩ := ih (i + 1) B mB (by omega)
        rw [bs_wn, if_neg (fun q => y q.2)] at g'
        rw [if_neg y]
        exact ⟨M', g', m', fr_trans fA (fr_trans fB f')⟩
    · obtain ⟨M', g', m', f'⟩ := ih (i + 1) A mA (by omega)
      rw [bs_wn, if_neg (fun q => z q.1)] at g'
      rw [if_neg z]
      exact ⟨M', g', m', fr_trans fA f'⟩
theorem qm_winner (h : MR σ M) : ∃ M', d_M_winner 867 (bM sl π M G e) = rI (bs_wn σ 3).1 (bM sl π M' G e) ∧ MR σ M' ∧ fr S_hi M M' ∧ M' 867 11 = 0 := by
  obtain ⟨M', g, m, f⟩ := qm_winner_0 (sl := sl) (e := e) (π := π) (G := G) 3 0 (up M 867 11 0) (MR_th h) (by omega)
  rw [d_M_winner_10 _ _ mo_d, x_M_winner_eq, mo_p]
  exact ⟨M', g, m, fr_trans fr_thhi (S_vo_hi f), (S_vo_t f).trans up_s⟩
theorem sym_t (ht : t < 3) : decide (0 ≤ (t : Int) ∧ (t : Int) < 3) = true := decide_eq_true (by omega)
theorem qm_length (h : MR σ M) (ht : t < 3) : ∃ M', d_M_length 867 t (bM sl π M G e) = rI (gL σ t) (bM sl π M' G e) ∧ MR σ M' ∧ fr S_hi M M' ∧ M' 867 11 = 0 := by
  obtain ⟨M', g, m, f, -⟩ := qm_lengthOf (sl := sl) (e := e) (π := π) (G := G) (MR_th (t := 0) h) ht
  rw [d_M_length_10 _ _ _ mo_d, x_M_length_eq, bw_isSym, sym_t ht]
  simp only [ci_r, bi_eq0]
  rw [if_neg (by decide), mo_p, mo_I, up_s, t_zero, g]
  exact ⟨M', rfl, m, fr_trans fr_thhi (S_vo_hi f), (S_vo_t f).trans up_s⟩
theorem qm_lengthX {s : Int} (hs : ¬ (0 ≤ s ∧ s < 3)) : d_M_length 867 s (bM sl π M G e) = rI 0 (bM sl π (up M 867 11 1) G e) := by
  rw [d_M_length_10 _ _ _ mo_d, x_M_length_eq, bw_isSym, decide_eq_false hs]
  simp only [ci_r, bi_eq0]
  rw [if_pos trivial, mo_p, mo_I, up_s, t_pos]
theorem qm_problem (h : MR σ M) (ht : t < 3) : ∃ M', d_M_problem 867 t (bM sl π M G e) = rI (gPr σ t) (bM sl π M' G e) ∧ MR σ M' ∧ fr S_hi M M' ∧ M' 867 11 = 0 := by
  obtain ⟨M', g, m, f⟩ := qm_problemOf (sl := sl) (e := e) (π := π) (G := G) (MR_th (t := 0) h) ht
  rw [d_M_problem_10 _ _ _ mo_d, x_M_problem_eq, bw_isSym, sym_t ht]
  simp only [ci_r, bi_eq0]
  rw [if_neg (by decide), mo_p, mo_I, up_s, t_zero, g]
  exact ⟨M', rfl, m, fr_trans fr_thhi (S_vo_hi f), (S_vo_t f).trans up_s⟩
theorem qm_problemX {s : Int} (hs : ¬ (0 ≤ s ∧ s < 3)) : d_M_problem 867 s (bM sl π M G e) = rI 0 (bM sl π (up M 867 11 1) G e) := by
  rw [d_M_problem_10 _ _ _ mo_d, x_M_problem_eq, bw_isSym, decide_eq_false hs]
  simp only [ci_r, bi_eq0]
  rw [if_pos trivial, mo_p, mo_I, up_s, t_pos]
theorem qm_doubtful (h : MR σ M) (ht : t < 3) : ∃ M', d_M_doubtful 867 t (bM sl π M G e) = rI (gFd σ t) (bM sl π M' G e) ∧ MR σ M' ∧ fr S_hi M M' ∧ M' 867 11 = 0 := by
  have hL := gL_bd h.1 ht
  obtain ⟨M', g, m, f, r, w⟩ := qm_laysVotes (sl := sl) (e := e) (π := π) (G := G) (MR_th (t := 0) h) ht
  have df := qm_doubtFrom (sl := sl) (e := e) (π := π) (G := G) (i := 0) hL w (gV_b6 h.1 ht) (by omega)
  rw [d_M_doubtful_10 _ _ _ mo_d, x_M_doubtful_eq, bw_isSym, sym_t ht]
  simp only [ci_r, bi_eq0]
  rw [if_neg (by decide), mo_p, mo_I, up_s, t_zero, g]
  simp only [ci_r]
  rw [show d_M_doubtFrom 867 0 (gL σ t) (bM sl π M' G e) = _ from df]
  exact ⟨M', rfl, m, fr_trans fr_thhi (S_vo_hi f), (S_vo_t f).trans up_s⟩
theorem qm_doubtfulX {s : Int} (hs : ¬ (0 ≤ s ∧ s < 3)) : d_M_doubtful 867 s (bM sl π M G e) = rI 0 (bM sl π (up M 867 11 1) G e) := by
  rw [d_M_doubtful_10 _ _ _ mo_d, x_M_doubtful_eq, bw_isSym, decide_eq_false hs]
  simp only [ci_r, bi_eq0]
  rw [if_pos trivial, mo_p, mo_I, up_s, t_pos]
theorem qm_hasPlace (h : MR σ M) (ht : t < 3) : ∃ M', (MR σ M' ∧ fr S_hi M M' ∧ M' 867 11 = 0 ∧ (gL σ t ≠ 0 → rVt M' (gV σ t))) ∧ (0 ≤ p ∧ p < gL σ t → d_M_hasPlace 867 t p (bM sl π M G e) = rI 1 (bM sl π M' G e)) ∧ (¬ (0 ≤ p ∧ p < gL σ t) → d_M_hasPlace 867 t p (bM sl π M G e) = rI 0 (bM sl π (up M' 867 11 1) G e)) := by
  have hL := gL_bd h.1 ht
  obtain ⟨A, g, m, f, r, w⟩ := qm_laysVotes (sl := sl) (e := e) (π := π) (G := G) h ht
  refine ⟨up A 867 11 0, ⟨MR_th m, fr_trans (S_vo_hi f) fr_thhi, up_s, fun z p ch hp hch => by rw [up_a (by decide)]; exact w z p ch hp hch⟩, ?_⟩
  rw [d_M_hasPlace_10 _ _ _ _ mo_d, x_M_hasPlace_eq, bw_isSym, sym_t ht]
  simp only [ci_r, bi_eq0]
  rw [if_neg (by decide), g]
  simp only [ci_r]
  rw [wr_id (by omega), bw_isIn]
  simp only [ci_r, bi_eq0]
  refine ⟨fun hp => ?_, fun hp => ?_⟩
  · rw [if_neg (by rw [decide_eq_true (show 0 ≤ p ∧ p ≤ gL σ t - 1 by omega)]; decide), mo_p, mo_I, up_s, if_pos rfl]
  · rw [if_pos (decide_eq_false (show ¬ (0 ≤ p ∧ p ≤ gL σ t - 1) by omega)), mo_p, mo_I, up_s, if_neg (by decide), up_up]
theorem qm_hasPlaceX {s : Int} (hs : ¬ (0 ≤ s ∧ s < 3)) : d_M_hasPlace 867 s p (bM sl π M G e) = rI 0 (bM sl π (up M 867 11 1) G e) := by
  rw [d_M_hasPlace_10 _ _ _ _ mo_d, x_M_hasPlace_eq, bw_isSym, decide_eq_false hs]
  simp only [ci_r, bi_eq0]
  rw [if_pos trivial, mo_p, mo_I, up_s, if_neg (by decide)]
theorem qm_weight1 {c : Int} (h : MR σ M) (ht : t < 3) : ∃ M', (MR σ M' ∧ fr S_hi M M') ∧ (0 ≤ p ∧ p < gL σ t → d_M_weight 867 t p c (bM sl π M G e) = rI (gWt (gV σ t) p c) (bM sl π M' G e) ∧ M' 867 11 = 0) ∧ (¬ (0 ≤ p ∧ p < gL σ t) → d_M_weight 867 t p c (bM sl π M G e) = rI 0 (bM sl π (up M' 867 11 1) G e)) := by
  have hL := gL_bd h.1 ht
  obtain ⟨A, ⟨m, f, t0, w⟩, g1, g2⟩ := qm_hasPlace (sl := sl) (e := e) (π := π) (G := G) (p := p) h ht
  refine ⟨A, ⟨m, f⟩, ?_⟩
  rw [d_M_weight_10 _ _ _ _ _ mo_d, x_M_weight_eq]
  refine ⟨fun hp => ⟨?_, t0⟩, fun hp => ?_⟩
  · have hW := w (by omega)
    rw [g1 hp]
    simp only [ci_r]
    rw [if_neg (by decide)]
    unfold gWt
    by_cases z : c = -1
    · rw [if_pos z, if_pos z, qm_allAt (by omega) hW (gV_b6 h.1 ht)]; rfl
    · rw [if_neg z, if_neg z, bw_isIn]
      simp only [ci_r, bi_eq0]
      by_cases y : 0 ≤ c ∧ c ≤ 127
      · rw [if_neg (by rw [decide_eq_true y]; decide), mo_R32, wr_id (x := 128 * p) (by omega), wr_id (by omega), mo_r887 (by omega), hW p c (by omega) (by omega)]
        rfl
      · rw [if_pos (decide_eq_false y), if_pos (show vof c = -1 from bs_vi_no (by omega) 20 0 (by omega))]
  · rw [g2 hp]; rfl
theorem qm_weightX {s c : Int} (hs : ¬ (0 ≤ s ∧ s < 3)) : d_M_weight 867 s p c (bM sl π M G e) = rI 0 (bM sl π (up M 867 11 1) G e) := by
  rw [d_M_weight_10 _ _ _ _ _ mo_d, x_M_weight_eq, qm_hasPlaceX hs]; rfl
theorem qm_voted1 (h : MR σ M) (ht : t < 3) : ∃ M', (MR σ M' ∧ fr S_hi M M') ∧ (0 ≤ p ∧ p < gL σ t → d_M_voted 867 t p (bM sl π M G e) = rI (al1 (bs_mj (gV σ t) p)) (bM sl π M' G e) ∧ M' 867 11 = 0) ∧ (¬ (0 ≤ p ∧ p < gL σ t) → d_M_voted 867 t p (bM sl π M G e) = rI 0 (bM sl π (up M' 867 11 1) G e)) := by
  have hL := gL_bd h.1 ht
  obtain ⟨A, ⟨m, f, t0, w⟩, g1, g2⟩ := qm_hasPlace (sl := sl) (e := e) (π := π) (G := G) (p := p) h ht
  refine ⟨A, ⟨m, f⟩, ?_⟩
  rw [d_M_voted_10 _ _ _ _ mo_d, x_M_voted_eq]
  refine ⟨fun hp => ⟨?_, t0⟩, fun hp => ?_⟩
  · rw [g1 hp]
    simp only [ci_r]
    rw [if_neg (by decide), qm_votedAt (by omega) (w (by omega)) (gV_b6 h.1 ht)]; rfl
  · rw [g2 hp]; rfl
theorem qm_votedX {s : Int} (hs : ¬ (0 ≤ s ∧ s < 3)) : d_M_voted 867 s p (bM sl π M G e) = rI 0 (bM sl π (up M 867 11 1) G e) := by
  rw [d_M_voted_10 _ _ _ _ mo_d, x_M_voted_eq, qm_hasPlaceX hs]; rfl
end
