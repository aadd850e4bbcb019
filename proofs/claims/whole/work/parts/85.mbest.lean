/-! THE MODEL'S BEST AND WORST SCAN; its runner up -/
theorem bs_bsn_is {R : Int → Rd} : ∀ k : Nat, ((bs_bsn R k).1 = -1 ∧ (bs_bsn R k).2 = -1) ∨ ∃ j : Nat, j < k ∧ (bs_bsn R k).1 = j ∧ 0 < (R j).1.1.length ∧ (bs_bsn R k).2 = bs_lc (R j).1.1 := by
  intro k
  induction k with
  | zero => exact Or.inl ⟨rfl, rfl⟩
  | succ k ih =>
    rw [bs_bsn]
    split
    · rename_i z; exact Or.inr ⟨k, by omega, rfl, z.1, rfl⟩
    · rcases ih with w | ⟨j, w1, w2⟩
      · exact Or.inl w
      · exact Or.inr ⟨j, by omega, w2⟩
section
variable {sl e : Nat} {π : Int → Nat} {M G : Nat → Int → Int} {σ : Sg} {t c : Nat} {R : Int → Rd} {p L : Int} {V : Vt}
theorem qm_best_0 (hc24 : c ≤ 24) (hx : ∀ k : Int, 0 ≤ k ∧ k < c → okX (R k)) (h8 : M 867 8 = c) (hA : mAll M R c) : ∀ d i : Nat, i + d = c →
    x_M_bestScan_0 867 (bs_bsn R i).1 i (bM sl π M G e) = (if (bs_bsn R c).1 = -1 then rI 0 (bM sl π (up M 867 11 2) G e) else rI (bs_bsn R c).1 (bM sl π (up M 867 11 0) G e)) := by
  intro d
  induction d with
  | zero =>
    intro i hi
    have : i = c := by omega
    subst this
    rw [x_M_bestScan_0_eq, mo_I, h8, if_neg (by omega)]
    by_cases z : (bs_bsn R i).1 = -1
    · rw [if_pos z, if_pos z, mo_p, mo_I, up_s, t_pos2]
    · rw [if_neg z, if_neg z, mo_p, mo_I, up_s, t_zero]
  | succ d ih =>
    intro i hi
    have e2 : wr ((i : Int) + 1) = ((i + 1 : Nat) : Int) := by rw [wr_id (by omega)]; omega
    have h0 := (hA i (by omega)).1
    have ok := hx i (by omega)
    have hcf : ∀ c ∈ (R i).1.1, 0 ≤ c.2 ∧ c.2 ≤ 100 := fun c hc => (ok.1 c hc).2
    have hlc := bs_lc_bd hcf
    have st := ih (i + 1) (by omega)
    rw [bs_bsn] at st
    rw [x_M_bestScan_0_eq, mo_I, h8, if_pos (by omega), qm_many (by omega) (by decide) h0]
    simp only [ci_r]
    rw [e2]
    by_cases z : 0 < (R i).1.1.length
    · rw [if_pos (by omega)]
      rcases bs_bsn_is (R := R) i with ⟨w1, w2⟩ | ⟨j, w1, w2, w3, w4⟩
      · rw [if_pos ⟨z, by omega⟩] at st
        rw [if_pos w1]; exact st
      · have okj := hx j (by omega)
        have hcj : ∀ c ∈ (R j).1.1, 0 ≤ c.2 ∧ c.2 ≤ 100 := fun c hc => (okj.1 c hc).2
        rw [if_neg (by omega), qm_least (by omega) h0 hcf z]
        simp only [ci_r]
        rw [w2, qm_least (by omega) (hA j (by omega)).1 hcj w3]
        simp only [ci_r]
        by_cases y : (bs_bsn R i).2 < bs_lc (R i).1.1
        · rw [if_pos ⟨z, y⟩] at st
          rw [if_pos (by omega)]; exact st
        · rw [if_neg (fun q => y q.2), w2] at st
          rw [if_neg (by omega)]; exact st
    · rw [if_neg (by omega)]
      rw [if_neg (fun q => z q.1)] at st
      exact st
theorem qm_bestScan (h : MR σ M) (ht : t < 3) : ∃ M', (MR σ M' ∧ fr S_hi M M') ∧ (gBs σ t ≠ -1 → d_M_bestScan 867 t (bM sl π M G e) = rI (gBs σ t) (bM sl π M' G e) ∧ M' 867 11 = 0) ∧ (gBs σ t = -1 → d_M_bestScan 867 t (bM sl π M G e) = rI 0 (bM sl π (up M' 867 11 2) G e)) := by
  have hc := h.1.1
  obtain ⟨A, g, m, f, r⟩ := qm_all (sl := sl) (e := e) (π := π) (G := G) (MR_th (t := 0) h) ht
  have hA : mAll A (gR σ t) (gc σ).toNat := fun j hj => (r j (by omega)).1
  have b := qm_best_0 (sl := sl) (e := e) (π := π) (G := G) (show (gc σ).toNat ≤ 24 by omega) (okX_all h.1 ht) (by rw [m.2.2.1.1]; omega) hA (gc σ).toNat 0 (by omega)
  refine ⟨up A 867 11 0, ⟨MR_th m, fr_trans fr_thhi (fr_trans (S_all_hi f) fr_thhi)⟩, ?_⟩
  rw [d_M_bestScan_10 _ _ _ mo_d, x_M_bestScan_eq, bw_isSym, sym_t ht]
  simp only [ci_r, bi_eq0]
  rw [if_neg (by decide), mo_p, mo_I, up_s, t_zero, g]
  simp only [cv_r]
  rw [show x_M_bestScan_0 867 (-1) 0 (bM sl π A G e) = _ from b]
  unfold gBs
  refine ⟨fun z => ?_, fun z => ?_⟩
  · rw [if_neg z]; exact ⟨rfl, up_s⟩
  · rw [if_pos z, up_up]
theorem qm_bestScanX {s : Int} (hs : ¬ (0 ≤ s ∧ s < 3)) : d_M_bestScan 867 s (bM sl π M G e) = rI 0 (bM sl π (up M 867 11 1) G e) := by
  rw [d_M_bestScan_10 _ _ _ mo_d, x_M_bestScan_eq, bw_isSym, decide_eq_false hs]
  simp only [ci_r, bi_eq0]
  rw [if_pos trivial, mo_p, mo_I, up_s, t_pos]
theorem al_al1 {x m : Int} (hx : 0 ≤ x ∧ x < 20) (hm : m = -1 ∨ (0 ≤ m ∧ m < 20)) : (al x = al1 m) = (x = m) := by
  rcases hm with z | z
  · rw [z]
    exact propext ⟨fun q => absurd (al_bd hx).1 (by rw [q]; decide), fun q => absurd hx.1 (by rw [q]; decide)⟩
  · unfold al1
    rw [if_pos z]
    exact al_inj hx z
theorem qm_ws_1 {w mo k : Int} {l : List Ch} (hk : 0 ≤ k ∧ k < 24) (hl : mKept M k 0 l) (hok : okL l) (hL : (l.length : Int) = L) (h16 : L ≤ 16) (hW : L ≠ 0 → rVt M V) (hV : bdV V 1000000) : ∀ (d i : Nat) (a : Int), i + d = l.length → 0 ≤ a ∧ a ≤ i →
    x_M_worstScan_1 867 L w mo k a i (bM sl π M G e) = (if mo < a + bs_dgs V (l.drop i) i then x_M_worstScan_0 867 L k (a + bs_dgs V (l.drop i) i) (wr (k + 1)) (bM sl π M G e) else x_M_worstScan_0 867 L w mo (wr (k + 1)) (bM sl π M G e)) := by
  intro d
  induction d with
  | zero =>
    intro i a hi ha
    rw [x_M_worstScan_1_eq, if_neg (by omega), List.drop_eq_nil_of_le (by omega), bs_dgs, Int.add_zero]
  | succ d ih =>
    intro i a hi ha
    have hi2 : i < l.length := by omega
    have e2 : wr ((i : Int) + 1) = ((i + 1 : Nat) : Int) := by rw [wr_id (by omega)]; omega
    have hci := (hok _ (List.getElem_mem hi2)).1
    rw [x_M_worstScan_1_eq, if_pos (by omega), qm_sign hk (by decide) hl hi2]
    simp only [ci_r]
    rw [qm_votedAt (by omega) (hW (by omega)) hV]
    simp only [ci_r, al_al1 hci bs_mj_bd]
    rw [e2, List.drop_eq_getElem_cons hi2, bs_dgs]
    by_cases z : (l[i]).1 = bs_mj V i
    · rw [if_pos z, if_pos z, wr_id (x := a + 0) (by omega), ih (i + 1) (a + 0) (by omega) (by omega), Int.add_assoc]
    · rw [if_neg z, if_neg z, wr_id (x := a + 1) (by omega), ih (i + 1) (a + 1) (by omega) (by omega), Int.add_assoc]
theorem qm_ws_0 (hc24 : c ≤ 24) (hx : ∀ k : Int, 0 ≤ k ∧ k < c → okX (R k)) (h8 : M 867 8 = c) (hA : mAll M R c) (hL : 0 ≤ L ∧ L ≤ 16) (hW : L ≠ 0 → rVt M V) (hV : bdV V 1000000) : ∀ d i : Nat, i + d = c →
    x_M_worstScan_0 867 L (bs_ws R L V i).1 (bs_ws R L V i).2 i (bM sl π M G e) = (if (bs_ws R L V c).1 = -1 then rI 0 (bM sl π (up M 867 11 2) G e) else rI (bs_ws R L V c).1 (bM sl π (up M 867 11 0) G e)) := by
  intro d
  induction d with
  | zero =>
    intro i hi
    have : i = c := by omega
    subst this
    rw [x_M_worstScan_0_eq, mo_I, h8, if_neg (by omega)]
    by_cases z : (bs_ws R L V i).1 = -1
    · rw [if_pos z, if_pos z, mo_p, mo_I, up_s, t_pos2]
    · rw [if_neg z, if_neg z, mo_p, mo_I, up_s, t_zero]
  | succ d ih =>
    intro i hi
    have e2 : wr ((i : Int) + 1) = ((i + 1 : Nat) : Int) := by rw [wr_id (by omega)]; omega
    have h0 := (hA i (by omega)).1
    have ok := hx i (by omega)
    have st := ih (i + 1) (by omega)
    rw [bs_ws] at st
    rw [x_M_worstScan_0_eq, mo_I, h8, if_pos (by omega), e2]
    by_cases z : L = 0
    · rw [if_pos z]
      rw [if_neg (fun q => by have := q.1; omega)] at st
      exact st
    · rw [if_neg z, qm_many (by omega) (by decide) h0]
      simp only [ci_r]
      by_cases y : ((R i).1.1.length : Int) = L
      · have h1 := qm_ws_1 (sl := sl) (e := e) (π := π) (G := G) (w := (bs_ws R L V i).1) (mo := (bs_ws R L V i).2) (show 0 ≤ (i : Int) ∧ (i : Int) < 24 by omega) h0 ok.1 y hL.2 hW hV (R i).1.1.length 0 0 (by omega) (by omega)
        rw [Int.zero_add, List.drop_zero, e2] at h1
        rw [if_pos y]
        refine Eq.trans h1 ?_
        by_cases x : (bs_ws R L V i).2 < bs_dgs V (R i).1.1 0
        · rw [if_pos ⟨⟨by omega, y⟩, x⟩] at st
          rw [if_pos x]; exact st
        · rw [if_neg (fun q => x q.2)] at st
          rw [if_neg x]; exact st
      · rw [if_neg y]
        rw [if_neg (fun q => y q.1.2)] at st
        exact st
theorem qm_worstScan (h : MR σ M) (ht : t < 3) : ∃ M', (MR σ M' ∧ fr S_hi M M') ∧ (gWs σ t ≠ -1 → d_M_worstScan 867 t (bM sl π M G e) = rI (gWs σ t) (bM sl π M' G e) ∧ M' 867 11 = 0) ∧ (gWs σ t = -1 → d_M_worstScan 867 t (bM sl π M G e) = rI 0 (bM sl π (up M' 867 11 2) G e)) := by
  have hc := h.1.1
  have hL := gL_bd h.1 ht
  obtain ⟨A, g, m, f, hA, w⟩ := qm_laysVotes (sl := sl) (e := e) (π := π) (G := G) (MR_th (t := 0) h) ht
  have b := qm_ws_0 (sl := sl) (e := e) (π := π) (G := G) (show (gc σ).toNat ≤ 24 by omega) (okX_all h.1 ht) (by rw [m.2.2.1.1]; omega) hA hL w (gV_b6 h.1 ht) (gc σ).toNat 0 (by omega)
  refine ⟨up A 867 11 0, ⟨MR_th m, fr_trans fr_thhi (fr_trans (S_vo_hi f) fr_thhi)⟩, ?_⟩
  rw [d_M_worstScan_10 _ _ _ mo_d, x_M_worstScan_eq, bw_isSym, sym_t ht]
  simp only [ci_r, bi_eq0]
  rw [if_neg (by decide), mo_p, mo_I, up_s, t_zero, g]
  simp only [ci_r]
  rw [show x_M_worstScan_0 867 (gL σ t) (-1) (-1) 0 (bM sl π A G e) = _ from b]
  unfold gWs
  refine ⟨fun z => ?_, fun z => ?_⟩
  · rw [if_neg z]; exact ⟨rfl, up_s⟩
  · rw [if_pos z, up_up]
theorem qm_worstScanX {s : Int} (hs : ¬ (0 ≤ s ∧ s < 3)) : d_M_worstScan 867 s (bM sl π M G e) = rI 0 (bM sl π (up M 867 11 1) G e) := by
  rw [d_M_worstScan_10 _ _ _ mo_d, x_M_worstScan_eq, bw_isSym, decide_eq_false hs]
  simp only [ci_r, bi_eq0]
  rw [if_pos trivial, mo_p, mo_I, up_s, t_pos]
end
/-! RUNNERS UP: by values with ASCII ties, by characters in order -/
def bt (W : Int → Int) (a b : Int) : Prop := W b < W a ∨ (W b = W a ∧ a < b)
def ivM (W : Int → Int) (i f s : Int) : Prop := (f = -1 ∧ s = -1 ∧ ∀ ch, 0 ≤ ch ∧ ch < i → W ch = 0) ∨ ((0 ≤ f ∧ f < i) ∧ 0 < W f ∧ (∀ ch, 0 ≤ ch ∧ ch < i → ch ≠ f → bt W f ch) ∧ ((s = -1 ∧ ∀ ch, 0 ≤ ch ∧ ch < i → ch ≠ f → W ch = 0) ∨ ((0 ≤ s ∧ s < i) ∧ s ≠ f ∧ 0 < W s ∧ ∀ ch, 0 ≤ ch ∧ ch < i → ch ≠ f → ch ≠ s → bt W s ch)))
theorem ivM_skip {W : Int → Int} {i f s : Int} (hi : 0 ≤ i) (h : ivM W i f s) (h0 : W i = 0) : ivM W (i + 1) f s := by
  have sp : ∀ ch, 0 ≤ ch ∧ ch < i + 1 → (0 ≤ ch ∧ ch < i) ∨ ch = i := fun ch q => by omega
  rcases h with ⟨h1, h2, h3⟩ | ⟨h1, h2, h3, h4⟩
  · refine Or.inl ⟨h1, h2, fun ch q => ?_⟩
    rcases sp ch q with z | z
    · exact h3 ch z
    · rw [z]; exact h0
  · refine Or.inr ⟨by omega, h2, fun ch q hn => ?_, ?_⟩
    · rcases sp ch q with z | z
      · exact h3 ch z hn
      · rw [z]; unfold bt; omega
    · rcases h4 with ⟨h5, h6⟩ | ⟨h5, h6, h7, h8⟩
      · refine Or.inl ⟨h5, fun ch q hn => ?_⟩
        rcases sp ch q with z | z
        · exact h6 ch z hn
        · rw [z]; exact h0
      · refine Or.inr ⟨by omega, h6, h7, fun ch q hn hn2 => ?_⟩
        rcases sp ch q with z | z
        · exact h8 ch z hn hn2
        · rw [z]; unfold bt; omega
theorem ivM_first {W : Int → Int} {i s : Int} (hi : 0 ≤ i) (h : ivM W i (-1) s) (h0 : 0 < W i) : ivM W (i + 1) i (-1) := by
  have sp : ∀ ch, 0 ≤ ch ∧ ch < i + 1 → (0 ≤ ch ∧ ch < i) ∨ ch = i := fun ch q => by omega
  rcases h with ⟨h1, h2, h3⟩ | ⟨h1, h2, h3, h4⟩
  · refine Or.inr ⟨by omega, h0, fun ch q hn => ?_, Or.inl ⟨rfl, fun ch q hn => ?_⟩⟩
    · rcases sp ch q with z | z
      · have := h3 ch z; unfold bt; omega
      · exact absurd z hn
    · rcases sp ch q with z | z
      · exact h3 ch z
      · exact absurd z hn
  · omega
theorem ivM_top {W : Int → Int} {i f s : Int} (hi : 0 ≤ i) (h : ivM W i f s) (hf : f ≠ -1) (h0 : W f < W i) : ivM W (i + 1) i f := by
  have sp : ∀ ch, 0 ≤ ch ∧ ch < i + 1 → (0 ≤ ch ∧ ch < i) ∨ ch = i := fun ch q => by omega
  rcases h with ⟨h1, h2, h3⟩ | ⟨h1, h2, h3, h4⟩
  · exact absurd h1 hf
  · refine Or.inr ⟨by omega, by omega, fun ch q hn => ?_, Or.inr ⟨by omega, by omega, h2, fun ch q hn hn2 => ?_⟩⟩
    · rcases sp ch q with z | z
      · by_cases y : ch = f
        · rw [y]; unfold bt; omega
        · have := h3 ch z y; unfold bt at this ⊢; omega
      · exact absurd z hn
    · rcases sp ch q with z | z
      · exact h3 ch z hn2
      · exact absurd z hn
theorem ivM_sec {W : Int → Int} {i f s : Int} (hi : 0 ≤ i) (h : ivM W i f s) (hf : f ≠ -1) (h0 : ¬ W f < W i) (hp : 0 < W i) (hs : s = -1 ∨ W s < W i) : ivM W (i + 1) f i := by
  have sp : ∀ ch, 0 ≤ ch ∧ ch < i + 1 → (0 ≤ ch ∧ ch < i) ∨ ch = i := fun ch q => by omega
  rcases h with ⟨h1, h2, h3⟩ | ⟨h1, h2, h3, h4⟩
  · exact absurd h1 hf
  · refine Or.inr ⟨by omega, h2, fun ch q hn => ?_, Or.inr ⟨by omega, by omega, hp, fun ch q hn hn2 => ?_⟩⟩
    · rcases sp ch q with z | z
      · exact h3 ch z hn
      · rw [z]; unfold bt; omega
    · rcases sp ch q with z | z
      · rcases h4 with ⟨h5, h6⟩ | ⟨h5, h6, h7, h8⟩
        · have := h6 ch z hn; unfold bt; omega
        · by_cases y : ch = s
          · rcases hs with w | w
            · omega
            · rw [y]; unfold bt; omega
          · have := h8 ch z hn y
            rcases hs with w | w
            · omega
            · unfold bt at this ⊢; omega
      · exact absurd z hn2
theorem ivM_none {W : Int → Int} {i f s : Int} (hi : 0 ≤ i) (h : ivM W i f s) (hf : f ≠ -1) (hs : s ≠ -1) (h0 : ¬ W f < W i) (h1' : ¬ W s < W i) : ivM W (i + 1) f s := by
  have sp : ∀ ch, 0 ≤ ch ∧ ch < i + 1 → (0 ≤ ch ∧ ch < i) ∨ ch = i := fun ch q => by omega
  rcases h with ⟨h1, h2, h3⟩ | ⟨h1, h2, h3, h4⟩
  · exact absurd h1 hf
  · rcases h4 with ⟨h5, h6⟩ | ⟨h5, h6, h7, h8⟩
    · exact absurd h5 hs
    · refine Or.inr ⟨by omega, h2, fun ch q hn => ?_, Or.inr ⟨by omega, h6, h7, fun ch q hn hn2 => ?_⟩⟩
      · rcases sp ch q with z | z
        · exact h3 ch z hn
        · rw [z]; unfold bt; omega
      · rcases sp ch q with z | z
        · exact h8 ch z hn hn2
        · rw [z]; unfold bt; omega
/-- the class's strongest value; A: the order of equal ones -/
def ivC (A U : Int → Int) (x : Int) (i : Nat) (q : Int × Int) : Prop := (q.1 = -1 ∧ q.2 = 0 ∧ ∀ v : Nat, v < i → (v : Int) ≠ x → U v = 0) ∨ ∃ n : Nat, q.1 = n ∧ n < i ∧ (n : Int) ≠ x ∧ q.2 = U n ∧ 0 < U n ∧ ∀ v : Nat, v < i → (v : Int) ≠ x → v ≠ n → U v < U n ∨ (U v = U n ∧ A n < A v)
theorem ivC_step {A U : Int → Int} {x : Int} {i : Nat} {q : Int × Int} (hA : ∀ a b : Nat, a < 20 → b < 20 → A a = A b → a = b) (hi : i < 20) (nn : ∀ v : Nat, 0 ≤ U v) (h : ivC A U x i q) : ivC A U x (i + 1) (if (i : Int) = x then q else if q.2 < U i ∨ (U i = q.2 ∧ q.1 ≠ -1 ∧ A i < A q.1) then ((i : Int), U i) else q) := by
  have sp : ∀ v : Nat, v < i + 1 → v < i ∨ v = i := fun v q => by omega
  have n0 := nn i
  by_cases zx : (i : Int) = x
  · rw [if_pos zx]
    rcases h with ⟨h1, h2, h3⟩ | ⟨m, h1, h2, h3, h4, h5, h6⟩
    · refine Or.inl ⟨h1, h2, fun v hv hx => ?_⟩
      rcases sp v hv with z | z
      · exact h3 v z hx
      · rw [z] at hx; exact absurd zx hx
    · refine Or.inr ⟨m, h1, by omega, h3, h4, h5, fun v hv hx hn => ?_⟩
      rcases sp v hv with z | z
      · exact h6 v z hx hn
      · rw [z] at hx; exact absurd zx hx
  · rw [if_neg zx]
    by_cases u : q.2 < U i ∨ (U i = q.2 ∧ q.1 ≠ -1 ∧ A i < A q.1)
    · rw [if_pos u]
      refine Or.inr ⟨i, rfl, by omega, zx, rfl, ?_, fun v hv hx hn => ?_⟩
      · rcases h with ⟨h1, h2, h3⟩ | ⟨m, h1, h2, h3, h4, h5, h6⟩
        · rcases u with y | y
          · omega
          · exact absurd h1 y.2.1
        · omega
      · rcases sp v hv with z | z
        · rcases h with ⟨h1, h2, h3⟩ | ⟨m, h1, h2, h3, h4, h5, h6⟩
          · have := h3 v z hx
            rcases u with y | y
            · omega
            · exact absurd h1 y.2.1
          · rw [h1, h4] at u
            by_cases w : v = m
            · rw [w]; omega
            · have := h6 v z hx w; omega
        · exact absurd z hn
    · rw [if_neg u]
      rcases h with ⟨h1, h2, h3⟩ | ⟨m, h1, h2, h3, h4, h5, h6⟩
      · refine Or.inl ⟨h1, h2, fun v hv hx => ?_⟩
        rcases sp v hv with z | z
        · exact h3 v z hx
        · rw [z]; omega
      · refine Or.inr ⟨m, h1, by omega, h3, h4, h5, fun v hv hx hn => ?_⟩
        rcases sp v hv with z | z
        · exact h6 v z hx hn
        · have : A i ≠ A m := fun y => hn (by rw [z]; exact hA i m (by omega) (by omega) y)
          rw [h1, h4] at u
          rw [z]; omega
theorem al1_inj (a b : Nat) (ha : a < 20) (hb : b < 20) (h : al1 a = al1 b) : a = b := by
  have ha2 : 0 ≤ (a : Int) ∧ (a : Int) < 20 := by omega
  have hb2 : 0 ≤ (b : Int) ∧ (b : Int) < 20 := by omega
  unfold al1 at h
  rw [if_pos ha2, if_pos hb2, al_inj ha2 hb2] at h
  exact Int.ofNat.inj h
theorem bs_sg_is {V : Vt} {p x n : Int} (hV : bdV V n) : ∀ i : Nat, i ≤ 20 → ivC al1 (V p) x i (bs_sg V p x i) := by
  intro i
  induction i with
  | zero => intro _; exact Or.inl ⟨rfl, rfl, fun v hv => absurd hv (Nat.not_lt_zero _)⟩
  | succ i ih =>
    intro hi
    exact ivC_step al1_inj (by omega) (fun v => (hV.1 p v).1) (ih (by omega))
theorem ru_eq {A W U : Int → Int} {q1 q2 : Int × Int} {f s : Int} (hW : ∀ v : Nat, v < 20 → W (A v) = U v ∧ 0 ≤ A v ∧ A v < 128) (hW2 : ∀ ch : Int, 0 < W ch → ∃ v : Nat, v < 20 ∧ A v = ch) (nn : ∀ v : Nat, 0 ≤ U v) (hA : ∀ a b : Nat, a < 20 → b < 20 → A a = A b → a = b) (hm : A (-1) = -1)
    (i1 : ivC A U (-1) 20 q1) (i2 : ∀ a : Nat, q1.1 = a → ivC A U a 20 q2) (h : ivM W 128 f s) : (if q1.1 = -1 then -1 else A q2.1) = s := by
  have inj : ∀ a b : Nat, a < 20 → b < 20 → a ≠ b → A a ≠ A b := fun a b ha hb hn y => hn (hA a b ha hb y)
  rcases h with ⟨h1, h2, h3⟩ | ⟨h1, h2, h3, h4⟩
  · rcases i1 with ⟨k1, -⟩ | ⟨m, k1, k2, k3, k4, k5, k6⟩
    · rw [if_pos k1, h2]
    · have := hW m k2
      have := h3 (A m) (by omega)
      omega
  · obtain ⟨a, ha, ea⟩ := hW2 f h2
    have wa := hW a ha
    rw [← ea] at h2 h3 h4
    rcases i1 with ⟨-, -, k3⟩ | ⟨m, k1, k2, k3, k4, k5, k6⟩
    · have := k3 a ha (by omega); omega
    · have em : m = a := by
        by_cases y : m = a
        · exact y
        · have q1 := k6 a ha (by omega) (fun w => y w.symm)
          have wm := hW m k2
          have q2 := h3 (A m) (by omega) (inj m a k2 ha y)
          unfold bt at q2
          omega
      have i2 := i2 m k1
      rw [if_neg (by omega)]
      rw [em] at i2
      rcases h4 with ⟨h5, h6⟩ | ⟨h5, h6, h7, h8⟩
      · rcases i2 with ⟨j1, -⟩ | ⟨l, j1, j2, j3, j4, j5, j6⟩
        · rw [j1, h5]; exact hm
        · have wl := hW l j2
          have := h6 (A l) (by omega) (inj l a j2 ha (by omega))
          omega
      · obtain ⟨b, hb, eb⟩ := hW2 s h7
        have wb := hW b hb
        rw [← eb] at h6 h7 h8 ⊢
        have hab : a ≠ b := fun y => h6 (by rw [y])
        rcases i2 with ⟨-, -, j3⟩ | ⟨l, j1, j2, j3, j4, j5, j6⟩
        · have := j3 b hb (by omega); omega
        · have el : l = b := by
            by_cases y : l = b
            · exact y
            · have q1 := j6 b hb (by omega) (fun w => y w.symm)
              have wl := hW l j2
              have q2 := h8 (A l) (by omega) (inj l a j2 ha (by omega)) (inj l b j2 hb y)
              unfold bt at q2
              omega
          rw [j1, el]
theorem gRu_is {V : Vt} {p n f s : Int} (hV : bdV V n) (h : ivM (gVc V p) 128 f s) : gRu V p = s := by
  refine ru_eq (A := al1) (W := gVc V p) (U := V p) (fun v hv => ?_) (fun ch hc => ?_) (fun v => (hV.1 p v).1) al1_inj rfl (bs_sg_is hV 20 (Nat.le_refl _)) (fun a ha => by rw [ha]; exact bs_sg_is hV 20 (Nat.le_refl _)) h
  · have h2 : 0 ≤ (v : Int) ∧ (v : Int) < 20 := by omega
    rw [show al1 (v : Int) = al v from if_pos h2]
    exact ⟨gVc_al h2, al_bd h2⟩
  · obtain ⟨v, v20, ev, gv⟩ := gVc_pos (V := V) (p := p) (ch := ch) (fun w => by rw [w] at hc; exact absurd hc (by decide))
    have h2 : 0 ≤ (v : Int) ∧ (v : Int) < 20 := by omega
    exact ⟨v, v20, (show al1 (v : Int) = al v from if_pos h2).trans ev⟩
section
variable {sl e : Nat} {π : Int → Nat} {M G : Nat → Int → Int} {σ : Sg} {t : Nat} {p : Int} {V : Vt}
theorem qm_ru_0 (hp : 0 ≤ p ∧ p < 16) (hW : rVt M V) (hV : bdV V 1000000) : ∀ (d i : Nat) (f s : Int), i + d = 128 → ivM (gVc V p) i f s → x_M_runnerUp_0 867 p f s i (bM sl π M G e) = rI (gRu V p) (bM sl π M G e) := by
  intro d
  induction d with
  | zero =>
    intro i f s hi h
    have : i = 128 := by omega
    subst this
    rw [x_M_runnerUp_0_eq, if_neg (by omega), gRu_is hV h]
  | succ d ih =>
    intro i f s hi h
    have e3 : wr ((i : Int) + 1) = ((i + 1 : Nat) : Int) := by rw [wr_id (by omega)]; omega
    have e4 : ((i + 1 : Nat) : Int) = (i : Int) + 1 := by omega
    have hg := gVc_bd (p := p) (ch := (i : Int)) hV
    have rd : ∀ (ch : Int) (kk : Int → Option bz_R), 0 ≤ ch ∧ ch < 128 → bz_rI (bM sl π M G e) 887 (wr ((wr (128 * p)) + ch)) kk = kk (gVc V p ch) := fun ch kk hc => by
      rw [wr_id (x := 128 * p) (by omega), wr_id (by omega), mo_r887 (by omega), hW p ch hp hc]
    rw [x_M_runnerUp_0_eq, if_pos (by omega), mo_R32, rd i _ (by omega), e3]
    by_cases z : gVc V p i = 0
    · rw [if_pos z]; exact ih _ _ _ (by omega) (by rw [e4]; exact ivM_skip (by omega) h z)
    · rw [if_neg z]
      by_cases zf : f = -1
      · rw [if_pos zf, zf]
        rw [zf] at h
        exact ih _ _ _ (by omega) (by rw [e4]; exact ivM_first (by omega) h (by omega))
      · have hf : 0 ≤ f ∧ f < i := by
          rcases h with q | q
          · exact absurd q.1 zf
          · exact q.1
        rw [if_neg zf, mo_R32, rd f _ (by omega)]
        by_cases y : gVc V p f < gVc V p i
        · rw [if_pos y]; exact ih _ _ _ (by omega) (by rw [e4]; exact ivM_top (by omega) h zf y)
        · rw [if_neg y]
          by_cases zs : s = -1
          · rw [if_pos zs]; exact ih _ _ _ (by omega) (by rw [e4]; exact ivM_sec (by omega) h zf y (by omega) (Or.inl zs))
          · have hs : 0 ≤ s ∧ s < i := by
              rcases h with q | q
              · exact absurd q.1 zf
              · rcases q.2.2.2 with q | q
                · exact absurd q.1 zs
                · exact q.1
            rw [if_neg zs, mo_R32, rd s _ (by omega)]
            by_cases x : gVc V p s < gVc V p i
            · rw [if_pos x]; exact ih _ _ _ (by omega) (by rw [e4]; exact ivM_sec (by omega) h zf y (by omega) (Or.inr x))
            · rw [if_neg x]; exact ih _ _ _ (by omega) (by rw [e4]; exact ivM_none (by omega) h zf zs y x)
theorem qm_runnerUp (h : MR σ M) (ht : t < 3) : ∃ M', (MR σ M' ∧ fr S_hi M M') ∧ (0 ≤ p ∧ p < gL σ t → d_M_runnerUp 867 t p (bM sl π M G e) = rI (gRu (gV σ t) p) (bM sl π M' G e) ∧ M' 867 11 = 0) ∧ (¬ (0 ≤ p ∧ p < gL σ t) → d_M_runnerUp 867 t p (bM sl π M G e) = rI 0 (bM sl π (up M' 867 11 1) G e)) := by
  have hL := gL_bd h.1 ht
  obtain ⟨A, ⟨m, f, t0, w⟩, g1, g2⟩ := qm_hasPlace (sl := sl) (e := e) (π := π) (G := G) (p := p) h ht
  refine ⟨A, ⟨m, f⟩, ?_⟩
  rw [d_M_runnerUp_10 _ _ _ _ mo_d, x_M_runnerUp_eq]
  refine ⟨fun hp => ⟨?_, t0⟩, fun hp => ?_⟩
  · rw [g1 hp]
    simp only [ci_r]
    rw [if_neg (by decide)]
    exact qm_ru_0 (by omega) (w (by omega)) (gV_b6 h.1 ht) 128 0 (-1) (-1) (by omega) (Or.inl ⟨rfl, rfl, fun ch hc => by omega⟩)
  · rw [g2 hp]; rfl
theorem qm_runnerUpX {s : Int} (hs : ¬ (0 ≤ s ∧ s < 3)) : d_M_runnerUp 867 s p (bM sl π M G e) = rI 0 (bM sl π (up M 867 11 1) G e) := by
  rw [d_M_runnerUp_10 _ _ _ _ mo_d, x_M_runnerUp_eq, qm_hasPlaceX hs]; rfl
end
