/-! THE MODEL'S MODULE AND SPREAD -/
section
variable {sl e : Nat} {π : Int → Nat} {M G : Nat → Int → Int} {σ : Sg} {k : Int} {t : Nat} {n : Int} {w : Int → Int}
def S_me (b : Nat) (j : Int) : Prop := (b = 867 ∧ (j = 14 ∨ j = 16)) ∨ b = 876 ∨ b = 877 ∨ b = 878
theorem qm_code_0 {s : Int} {l : List Ch} (hk : 0 ≤ k ∧ k < 24) : ∀ (d i : Nat) (M : Nat → Int → Int), i + d = l.length → mKept M k 0 l → (∀ (j : Nat) (hj : j < l.length), j < i → M 876 j = al (l[j]).1) →
    ∃ M', x_M_measures_0 867 k s l.length i (bM sl π M G e) = x_M_measures_0 867 k s l.length l.length (bM sl π M' G e) ∧ fr (fun b _ => b = 876) M M' ∧ mC M' l := by
  intro d
  induction d with
  | zero =>
    intro i M hi hK hC
    have : i = l.length := by omega
    subst this
    exact ⟨M, rfl, fr_refl, fun j hj => hC j hj hj⟩
  | succ d ih =>
    intro i M hi hK hC
    have h16 := hK.2.1
    have hi2 : i < l.length := by omega
    have hi60 : 0 ≤ (i : Int) ∧ (i : Int) < 60 := by omega
    have e2 : wr ((i : Int) + 1) = ((i + 1 : Nat) : Int) := by rw [wr_id (by omega)]; omega
    have hin : (i : Int) < l.length := by omega
    have hKA : mKept (up M 876 i (al (l[i]).1)) k 0 l := ⟨(up_a (by decide)).trans hK.1, hK.2.1, fun i' c' hc => ⟨(up_a (by decide)).trans (hK.2.2 i' c' hc).1, (up_a (by decide)).trans (hK.2.2 i' c' hc).2⟩⟩
    obtain ⟨M', g, f, c⟩ := ih (i + 1) (up M 876 i (al (l[i]).1)) (by omega) hKA (fun j hj hji => by
      by_cases z : j = i
      · subst z; exact up_s
      · rw [up_i (show (j : Int) ≠ i from fun y => z (by omega))]; exact hC j hj (by omega))
    refine ⟨M', ?_, fr_trans (fr_up rfl fr_refl) f, c⟩
    rw [x_M_measures_0_eq, if_pos hin, mo_R12, qm_sign hk (by decide) hK hi2, ci_r, mo_w876 hi60, e2]
    exact g
theorem up_G (v27 v28 v29 v30 : Int) : up (up (up (up G 867 27 v27) 867 28 v28) 867 29 v29) 867 30 v30 867 27 = v27 ∧ up (up (up (up G 867 27 v27) 867 28 v28) 867 29 v29) 867 30 v30 867 28 = v28 ∧ up (up (up (up G 867 27 v27) 867 28 v28) 867 29 v29) 867 30 v30 867 29 = v29 ∧ up (up (up (up G 867 27 v27) 867 28 v28) 867 29 v29) 867 30 v30 867 30 = v30 := by
  refine ⟨?_, ?_, ?_, up_s⟩
  · rw [up_i (by decide), up_i (by decide), up_i (by decide), up_s]
  · rw [up_i (by decide), up_i (by decide), up_s]
  · rw [up_i (by decide), up_s]
def gLs (G : Nat → Int → Int) (f d : Nat → Int) (m : Nat) : Prop := G 867 27 = bs_sm f m ∧ G 867 28 = bs_sm d m ∧ G 867 29 = bs_ev f m ∧ G 867 30 = bs_ev d m
/-- longs outside the model -/
def frG (G G' : Nat → Int → Int) : Prop := ∀ b j, b ≠ 867 → G' b j = G b j
theorem frG_up {G G' : Nat → Int → Int} {j v : Int} (h : frG G G') : frG G (up G' 867 j v) := fun b i hb => by rw [up_a hb]; exact h b i hb
theorem qm_me_1 {f d : Nat → Int} {m : Nat} {b0 : Int} (hk : 0 ≤ k ∧ k < 24) (hm : m ≤ 127) (h14 : M 867 14 = m) (h5 : M 885 k = b0) (hb0 : 0 ≤ b0 ∧ b0 + m ≤ 129) (hf : ∀ i : Nat, i < m → M 878 (b0 + i) = f i ∧ 0 ≤ f i ∧ f i ≤ 10000) (hd : ∀ i : Nat, i < m → M 877 i = d i ∧ 0 ≤ d i ∧ d i ≤ 10000) : ∀ (c i : Nat) (G : Nat → Int → Int), i + c = m → gLs G f d i →
    ∃ G', x_M_measures_1 867 k i (bM sl π M G e) = rI 1 (bM sl π M G' e) ∧ gLs G' f d m ∧ frG G G' := by
  intro c
  induction c with
  | zero =>
    intro i G hi hG
    have : i = m := by omega
    subst this
    rw [x_M_measures_1_eq, mo_I, h14, if_neg (by omega)]
    exact ⟨G, rfl, hG, fun _ _ _ => rfl⟩
  | succ c ih =>
    intro i G hi hG
    have him : i < m := by omega
    have hi127 : 0 ≤ (i : Int) ∧ (i : Int) < 127 := by omega
    have e2 : wr ((i : Int) + 1) = ((i + 1 : Nat) : Int) := by rw [wr_id (by omega)]; omega
    have e3 : wr (b0 + (i : Int)) = b0 + i := wr_id (by omega)
    have hfi := hf i him
    have hdi := hd i him
    have B1 := bs_sm_bd i fun j hj => (hf j (by omega)).2
    have B2 := bs_sm_bd i fun j hj => (hd j (by omega)).2
    have B3 := bs_sm_bd (f := fun j => if j % 2 = 0 then f j else 0) (a := 0) (b := 10000) i fun j hj => by
      have := (hf j (by omega)).2
      split <;> omega
    have B4 := bs_sm_bd (f := fun j => if j % 2 = 0 then d j else 0) (a := 0) (b := 10000) i fun j hj => by
      have := (hd j (by omega)).2
      split <;> omega
    have w1 : wl (G 867 27 + f i) = bs_sm f (i + 1) := by rw [hG.1, wl_id (by omega), bs_sm]
    have w2 : wl (G 867 28 + d i) = bs_sm d (i + 1) := by rw [hG.2.1, wl_id (by omega), bs_sm]
    rw [x_M_measures_1_eq, mo_I, h14, if_pos (by omega), mo_R15, mo_R26, mo_r885 hk, h5, e3, mo_r878 (by omega), hfi.1, mo_L, mo_pL, mo_L, mo_R13, mo_r877 hi127, hdi.1, mo_pL, mo_L, e2]
    by_cases z : i % 2 = 0
    · have w3 : wl (G 867 29 + f i) = bs_ev f (i + 1) := by
        rw [hG.2.2.1]
        unfold bs_ev
        rw [wl_id (by omega), bs_sm, if_pos z]
      have w4 : wl (G 867 30 + d i) = bs_ev d (i + 1) := by
        rw [hG.2.2.2]
        unfold bs_ev
        rw [wl_id (by omega), bs_sm, if_pos z]
      have tm : Int.tmod (i : Int) 2 = 0 := by rw [Int.tmod_eq_emod_of_nonneg (by omega)]; omega
      rw [if_pos tm, mo_pL, mo_L, if_pos tm, mo_R13, mo_r877 hi127, hdi.1, mo_pL]
      rw [up_i (show (28 : Int) ≠ 27 by decide), up_i (show (29 : Int) ≠ 28 by decide), up_i (show (29 : Int) ≠ 27 by decide), up_i (show (30 : Int) ≠ 29 by decide), up_i (show (30 : Int) ≠ 28 by decide), up_i (show (30 : Int) ≠ 27 by decide), w1, w2, w3, w4]
      obtain ⟨G', g, a, b⟩ := ih (i + 1) _ (by omega) (up_G (G := G) (bs_sm f (i + 1)) (bs_sm d (i + 1)) (bs_ev f (i + 1)) (bs_ev d (i + 1)))
      exact ⟨G', g, a, fun x j hx => (b x j hx).trans (frG_up (frG_up (frG_up (frG_up (fun _ _ _ => rfl)))) x j hx)⟩
    · have w3 : wl (G 867 29 + 0) = bs_ev f (i + 1) := by
        rw [hG.2.2.1]
        unfold bs_ev
        rw [wl_id (by omega), bs_sm, if_neg z]
      have w4 : wl (G 867 30 + 0) = bs_ev d (i + 1) := by
        rw [hG.2.2.2]
        unfold bs_ev
        rw [wl_id (by omega), bs_sm, if_neg z]
      have tm : ¬ Int.tmod (i : Int) 2 = 0 := by rw [Int.tmod_eq_emod_of_nonneg (by omega)]; omega
      rw [if_neg tm, mo_pL, mo_L, if_neg tm, mo_pL]
      rw [up_i (show (28 : Int) ≠ 27 by decide), up_i (show (29 : Int) ≠ 28 by decide), up_i (show (29 : Int) ≠ 27 by decide), up_i (show (30 : Int) ≠ 29 by decide), up_i (show (30 : Int) ≠ 28 by decide), up_i (show (30 : Int) ≠ 27 by decide), w1, w2, w3, w4]
      obtain ⟨G', g, a, b⟩ := ih (i + 1) _ (by omega) (up_G (G := G) (bs_sm f (i + 1)) (bs_sm d (i + 1)) (bs_ev f (i + 1)) (bs_ev d (i + 1)))
      exact ⟨G', g, a, fun x j hx => (b x j hx).trans (frG_up (frG_up (frG_up (frG_up (fun _ _ _ => rfl)))) x j hx)⟩
theorem S_ly_me {M' : Nat → Int → Int} (f : fr S_ly M M') : fr S_me M M' := fr_mono (fun b j z => by unfold S_ly at z; unfold S_me; omega) f
theorem qm_measures (h : MR σ M) (hk : 0 ≤ k ∧ k < gc σ) (ht : t < 3) : ∃ M', (MR σ M' ∧ fr S_hi M M') ∧ ((gR σ t k).1.1 = [] → d_M_measures 867 k t (bM sl π M G e) = rI 0 (bM sl π (up M' 867 11 2) G e)) ∧
    ((gR σ t k).1.1 ≠ [] → ∃ G', d_M_measures 867 k t (bM sl π M G e) = rI 1 (bM sl π M' G' e) ∧ frG G G' ∧ M' 867 11 = 0 ∧ M' 867 14 = gMm σ k t ∧ gLs G' (gSf σ k t) (gSd σ k t) (gMm σ k t)) := by
  have hc := h.1.1
  have k24 : 0 ≤ k ∧ k < 24 := by omega
  obtain ⟨A, g, m, f, t0, r⟩ := qm_reads (sl := sl) (e := e) (π := π) (G := G) h hk ht
  rw [d_M_measures_10 _ _ _ _ mo_d, x_M_measures_eq, g, ci_r, if_neg (by decide), qm_many k24 (by decide) r.1.1, ci_r]
  by_cases z : (gR σ t k).1.1 = []
  · refine ⟨A, ⟨m, f⟩, fun _ => ?_, fun n => absurd z n⟩
    rw [if_pos (by rw [z]; rfl), mo_p, mo_I, up_s, t_pos2]
  · obtain ⟨ok, hb, hm, hf, hd⟩ := gS_ok h.1 hk ht z
    have hl : ¬ ((gR σ t k).1.1.length : Int) = 0 := by
      have : (gR σ t k).1.1.length ≠ 0 := fun y => z (List.eq_nil_of_length_eq_zero y)
      omega
    have mA := MR_th (t := 0) m
    have rA : mRdg (up A 867 11 0) k (gs σ k) (gR σ t k) := mRdg_fr r fr_th fun b j y => by unfold S_th; omega
    obtain ⟨B, gB, fB, cB⟩ := qm_code_0 (sl := sl) (e := e) (π := π) (G := G) (s := t) k24 (gR σ t k).1.1.length 0 (up A 867 11 0) (by omega) rA.1.1 (fun j hj hji => by omega)
    have mB : MR σ B := MR_fr mA fB fun b j y => by omega
    have rB := mRdg_fr rA fB fun b j y => by omega
    obtain ⟨C, gC, fC, dC⟩ := qm_laysModules (sl := sl) (e := e) (π := π) (G := G) ht mB.2.1 cB ok
    have mC' : MR σ C := MR_fr mB fC fun b j y => by unfold S_ly at y; omega
    have rC := mRdg_fr rB fC fun b j y => by unfold S_ly; omega
    obtain ⟨E, gE, fE, rE⟩ := bw_lays (sl := sl) (e := e) (π := π) (G := G) k24 (gR σ t k).2.1 (mC'.2.2.2.2.2.2 k hk)
    have mE : MR σ E := MR_fr mC' fE fun b j y => by unfold S_l at y; omega
    have rE' := mRdg_fr rC fE fun b j y => by unfold S_l; omega
    have h14 : E 867 14 = (gMm σ k t : Int) := (fE _ _ (by unfold S_l; omega)).trans dC.1
    have hn := rE.1
    have h5 := rE'.2.2 z
    have hdE : ∀ i : Nat, i < gMm σ k t → E 877 i = gSd σ k t i ∧ 0 ≤ gSd σ k t i ∧ gSd σ k t i ≤ 10000 := fun i hi => by
      have := hd i hi
      refine ⟨(fE _ _ (by unfold S_l; omega)).trans (dC.2.2 i ⟨by omega, ?_⟩), by omega, by omega⟩
      show (i : Int) < ((bs_dr t (gR σ t k).1.1).length : Int)
      have : i < (bs_dr t (gR σ t k).1.1).length := hi
      omega
    have tE : E 867 11 = 0 := by rw [fE _ _ (by unfold S_l; omega), fC _ _ (by unfold S_ly; omega), fB _ _ (by omega), up_s]
    have go : ∀ (f' : Nat → Int) (b0 : Int), E 885 k = b0 → (0 ≤ b0 ∧ b0 + (gMm σ k t : Int) ≤ 129) → (∀ i : Nat, i < gMm σ k t → E 878 (b0 + i) = f' i ∧ 0 ≤ f' i ∧ f' i ≤ 10000) → bs_sm f' (gMm σ k t) = bs_sm (gSf σ k t) (gMm σ k t) → bs_ev f' (gMm σ k t) = bs_ev (gSf σ k t) (gMm σ k t) →
        ∃ G', x_M_measures_0 867 k t (gR σ t k).1.1.length 0 (bM sl π (up A 867 11 0) G e) = rI 1 (bM sl π E G' e) ∧ frG G G' ∧ E 867 11 = 0 ∧ E 867 14 = gMm σ k t ∧ gLs G' (gSf σ k t) (gSd σ k t) (gMm σ k t) := by
      intro f' b0 e5 hb0 hf' s1 s2
      have z0 : gLs (up (up (up (up G 867 27 0) 867 28 0) 867 29 0) 867 30 0) f' (gSd σ k t) 0 := up_G (G := G) 0 0 0 0
      obtain ⟨G', gG', aG, fG⟩ := qm_me_1 (sl := sl) (e := e) (π := π) k24 hm.2.2 h14 e5 hb0 hf' hdE (gMm σ k t) 0 _ (by omega) z0
      refine ⟨G', ?_, fun x j hx => (fG x j hx).trans (frG_up (frG_up (frG_up (frG_up (fun _ _ _ => rfl)))) x j hx), tE, h14, by rw [← s1]; exact aG.1, aG.2.1, by rw [← s2]; exact aG.2.2.1, aG.2.2.2⟩
      refine gB.trans ?_
      rw [x_M_measures_0_eq, if_neg (by omega), gC, cv_r, mo_R25, mo_r884 k24, rC.2.1, gE, cv_r, mo_pL, mo_pL, mo_pL, mo_pL]
      exact gG'
    refine ⟨E, ⟨mE, fr_trans f (fr_trans fr_thhi (fr_trans (fr_mono (fun b j y => by unfold S_hi; omega) fB) (fr_trans (fr_mono (fun b j y => by unfold S_ly at y; unfold S_hi; omega) fC) (fr_mono (fun b j y => by unfold S_l at y; unfold S_hi; omega) fE))))⟩, fun n => absurd n z, fun _ => ?_⟩
    rw [if_neg hl, mo_p, mo_I, up_s, t_zero]
    cases hB : (gR σ t k).2.1 with
    | false =>
      rw [hB] at h5 rE
      refine go (gSf σ k t) _ h5 (by rw [if_neg (by decide)]; omega) (fun i hi => ?_) rfl rfl
      have := hf i hi
      refine ⟨?_, by omega, by omega⟩
      rw [if_neg (by decide)]
      exact rE.2.2 _ (by omega)
    | true =>
      rw [hB] at h5 rE
      refine go (fun i => gSf σ k t (gMm σ k t - 1 - i)) _ h5 (by rw [if_pos rfl]; omega) (fun i hi => ?_) (bs_sm_rev _) (bs_ev_rev hm.1)
      have := hf (gMm σ k t - 1 - i) (by omega)
      refine ⟨?_, by omega, by omega⟩
      rw [if_pos rfl]
      refine (rE.2.2 _ (by omega)).trans ?_
      rw [if_pos rfl]
      unfold bs_rv gSf
      exact congrArg (gw σ k) (by omega)
theorem qm_measuresX {s : Int} (h : MR σ M) (hx : ¬ ((0 ≤ k ∧ k < gc σ) ∧ 0 ≤ s ∧ s < 3)) : d_M_measures 867 k s (bM sl π M G e) = rI 0 (bM sl π (up M 867 11 1) G e) := by
  rw [d_M_measures_10 _ _ _ _ mo_d, x_M_measures_eq, qm_readsX h hx]; rfl
theorem qm_module (h : MR σ M) (hk : 0 ≤ k ∧ k < gc σ) (ht : t < 3) : ∃ M', (MR σ M' ∧ fr S_hi M M') ∧ ((gR σ t k).1.1 = [] → d_M_module 867 k t (bM sl π M G e) = rI 0 (bM sl π (up M' 867 11 2) G e)) ∧
    ((gR σ t k).1.1 ≠ [] → ∃ G', d_M_module 867 k t (bM sl π M G e) = rI (gMd σ k t) (bM sl π M' G' e) ∧ frG G G' ∧ M' 867 11 = 0) := by
  obtain ⟨A, m, g1, g2⟩ := qm_measures (sl := sl) (e := e) (π := π) (G := G) h hk ht
  refine ⟨A, m, fun z => ?_, fun z => ?_⟩
  · rw [d_M_module_10 _ _ _ _ mo_d, x_M_module_eq, g1 z]; rfl
  · obtain ⟨G', g, fG, t0, -, aG⟩ := g2 z
    obtain ⟨bW, bT, -⟩ := gS_bd h.1 hk ht z
    refine ⟨G', ?_, fG, t0⟩
    rw [d_M_module_10 _ _ _ _ mo_d, x_M_module_eq, g, ci_r, if_neg (by decide), mo_L, mo_L, aG.1, aG.2.1, ld_r (by omega)]
    rfl
theorem qm_moduleX {s : Int} (h : MR σ M) (hx : ¬ ((0 ≤ k ∧ k < gc σ) ∧ 0 ≤ s ∧ s < 3)) : d_M_module 867 k s (bM sl π M G e) = rI 0 (bM sl π (up M 867 11 1) G e) := by
  rw [d_M_module_10 _ _ _ _ mo_d, x_M_module_eq, qm_measuresX h hx]; rfl
theorem qm_spread (h : MR σ M) (hk : 0 ≤ k ∧ k < gc σ) (ht : t < 3) : ∃ M', (MR σ M' ∧ fr S_hi M M') ∧ ((gR σ t k).1.1 = [] → d_M_spread 867 k t (bM sl π M G e) = rI 0 (bM sl π (up M' 867 11 2) G e)) ∧
    ((gR σ t k).1.1 ≠ [] → ∃ G', d_M_spread 867 k t (bM sl π M G e) = rI (wr (bs_fl (gSp σ k t) (gSq σ k t))) (bM sl π M' G' e) ∧ frG G G' ∧ M' 867 11 = 0) := by
  obtain ⟨A, m, g1, g2⟩ := qm_measures (sl := sl) (e := e) (π := π) (G := G) h hk ht
  refine ⟨A, m, fun z => ?_, fun z => ?_⟩
  · rw [d_M_spread_10 _ _ _ _ mo_d, x_M_spread_eq, g1 z]; rfl
  · obtain ⟨G', g, fG, t0, h14, aG⟩ := g2 z
    obtain ⟨p1, p2, p3, p4⟩ := gSp_bd h.1 hk ht z
    have hd := tdiv_is (a := gSp σ k t) p4.1
    have rq : -1000000000000000 ≤ (gSp σ k t).tdiv (gSq σ k t) ∧ (gSp σ k t).tdiv (gSq σ k t) ≤ 1000000000000000 := by
      by_cases z : 0 ≤ gSp σ k t
      · have := hd.1 z; omega
      · have := hd.2 (by omega); omega
    have rp : -1000000000000000 ≤ gSq σ k t * (gSp σ k t).tdiv (gSq σ k t) ∧ gSq σ k t * (gSp σ k t).tdiv (gSq σ k t) ≤ 1000000000000000 := by
      by_cases z : 0 ≤ gSp σ k t
      · have := hd.1 z; omega
      · have := hd.2 (by omega); omega
    refine ⟨G', ?_, fG, t0⟩
    rw [d_M_spread_10 _ _ _ _ mo_d, x_M_spread_eq, g, ci_r, if_neg (by decide), mo_L, mo_L, mo_L, mo_L, mo_I, mo_L, aG.1, aG.2.1, aG.2.2.1, aG.2.2.2, h14, gSq_eq h.1 hk ht z, gSp_eq h.1 hk ht z, ld_r (by omega), wl_id (x := (gSp σ k t).tdiv (gSq σ k t)) (by omega), Int.mul_comm ((gSp σ k t).tdiv (gSq σ k t)) (gSq σ k t), wl_id (x := gSq σ k t * (gSp σ k t).tdiv (gSq σ k t)) (by omega), wl_id (x := (gSp σ k t).tdiv (gSq σ k t) - 1) (by omega)]
    simp only [bw_cmp_gt]
    unfold bs_fl
    by_cases y : gSp σ k t < gSq σ k t * (gSp σ k t).tdiv (gSq σ k t)
    · rw [if_pos y, if_neg (by omega)]
    · rw [if_neg y, if_pos (by omega)]
theorem qm_spreadX {s : Int} (h : MR σ M) (hx : ¬ ((0 ≤ k ∧ k < gc σ) ∧ 0 ≤ s ∧ s < 3)) : d_M_spread 867 k s (bM sl π M G e) = rI 0 (bM sl π (up M 867 11 1) G e) := by
  rw [d_M_spread_10 _ _ _ _ mo_d, x_M_spread_eq, qm_measuresX h hx]; rfl
end
