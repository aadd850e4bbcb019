/-! CHANGES OF A SCAN: setWidth, cut, reverse, smear, average -/
section
variable {sl e : Nat} {π : Int → Nat} {M G : Nat → Int → Int} {σ : Sg}
theorem CR_row (h : CR σ π M) {k : Int} (hk : 0 ≤ k ∧ k < gc σ) : rRow M (π k + 1) (gs σ k) (gw σ k) := h.2.2.2.2.2.2.2.1 k hk
theorem CR_scan (h : CR σ π M) {k : Int} (hk : 0 ≤ k ∧ k < gc σ) : okScan σ k := h.1.2.1 k hk
theorem CR_pv (h : CR σ π M) : PV π := h.2.2.2.2.2.2.1
theorem fr_lo {a : Nat} {S : Nat → Int → Prop} {M' : Nat → Int → Int} (f : fr S M M') (hs : ∀ b j, S b j → b < 867) : ∀ b j, 867 ≤ b → M' b j = M b j := fun b j hb => f b j fun z => by have := hs b j z; omega
def ggW (σ : Sg) (k i v : Int) : Sg := sg_row σ k (gs σ k) (fun j => if j = i then v else gw σ k j)
/-- forget behind a change of a row -/
theorem qo_after {k n : Int} {w : Int → Int} {M1 : Nat → Int → Int} (h : CR σ π M) (hk : 0 ≤ k ∧ k < gc σ) (hn : 3 ≤ n ∧ n ≤ 129 ∧ n % 2 = 1) (hw : wOK n w) (f : fr (fun b j => (S_z π b j ∨ (π k + 1 ≤ b ∧ b ≤ π k + 2)) ∧ b < 867) M M1) (hr : rRow M1 (π k + 1) n w) :
    ∃ M', d_E_forget 16 (π k) (bM sl π M1 G e) = rI 0 (bM sl π M' G e) ∧ CR (sg_row σ k n w) π M' ∧ ∀ b j, 867 ≤ b → M' b j = M b j := by
  have hk24 := CR_k24 h hk
  have hin := PV_in (CR_pv h) hk24
  obtain ⟨M', g, c, f2⟩ := CX_forget (sl := sl) (e := e) (G := G) hk24 (CX_row h hk hn hw (fr_mono (fun b j z => z.1) f) hr)
  refine ⟨M', g, c, fun b j hb => ?_⟩
  rw [f2 b j (by unfold S_fg; omega), f b j (fun z => by omega)]
theorem qo_setWidth {k i v : Int} (h : CR σ π M) :
    (((0 ≤ k ∧ k < gc σ) ∧ 0 ≤ i ∧ i < gs σ k) → 1 ≤ v ∧ v ≤ 10000 → ∃ M', d_E_setWidth 16 k i v (bM sl π M G e) = rI (gw σ k i) (bM sl π M' G e) ∧ CR (ggW σ k i v) π M' ∧ ∀ b j, 867 ≤ b → M' b j = M b j) ∧
    (((0 ≤ k ∧ k < gc σ) ∧ 0 ≤ i ∧ i < gs σ k) → ¬ (1 ≤ v ∧ v ≤ 10000) → d_E_setWidth 16 k i v (bM sl π M G e) = rX 3 (bM sl π M G (e + 1))) ∧
    (¬ ((0 ≤ k ∧ k < gc σ) ∧ 0 ≤ i ∧ i < gs σ k) → d_E_setWidth 16 k i v (bM sl π M G e) = rX 2 (bM sl π M G (e + 1))) := by
  rw [d_E_setWidth_9 _ _ _ _ _ en_d, x_E_setWidth_eq, qo_scan h]
  by_cases q : 0 ≤ k ∧ k < gc σ
  · have hk := CR_k24 h q
    have hπ := CR_pv h
    have hr := CR_row h q
    have hn := hr.1
    have hin := PV_in hπ hk
    rw [if_pos q]
    simp only [cv_r]
    rw [en_R3, qo_rSc hπ hk, scn_w (PV_a hπ hk), row_I (PV_row hπ hk), hr.2.1, qo_place]
    by_cases q2 : 0 ≤ i ∧ i < gs σ k
    · rw [if_pos q2]
      simp only [cv_r]
      refine ⟨fun _ q3 => ?_, fun _ q3 => ?_, fun z => absurd ⟨q, q2⟩ z⟩
      · rw [if_neg (by omega), if_neg (by omega), row_w (PV_row hπ hk), row_r (PV_row hπ hk) (by omega), row_w (PV_row hπ hk), row_s (PV_row hπ hk) (by omega), en_R3, qo_rSc hπ hk, hr.2.2 i q2]
        have hsc := CR_scan h q
        obtain ⟨M', g, c, f⟩ := qo_after (sl := sl) (e := e) (G := G) (k := k) (n := gs σ k) (w := fun j => if j = i then v else gw σ k j) (M1 := up M (π k + 1 + 1) i v) h q hsc.1 (fun j hj => by
          dsimp only
          split
          · exact q3
          · exact hsc.2 j hj) (fr_up ⟨Or.inr (by omega), by omega⟩ fr_refl) ⟨hn, by rw [up_a (by omega)]; exact hr.2.1, fun j hj => by
          rw [up_ite]
          show _ = (if j = i then v else gw σ k j)
          by_cases z : j = i
          · rw [if_pos ⟨rfl, z⟩, if_pos z]
          · rw [if_neg (fun y => z y.2), if_neg z]; exact hr.2.2 j hj⟩
        rw [g]
        exact ⟨M', rfl, c, f⟩
      · by_cases q4 : v < 1
        · rw [if_pos q4]; rfl
        · rw [if_neg q4, if_pos (by omega)]; rfl
    · rw [if_neg q2]
      exact ⟨fun z => absurd z.2 q2, fun z => absurd z.2 q2, fun _ => rfl⟩
  · rw [if_neg q]
    exact ⟨fun z => absurd z.1 q, fun z => absurd z.1 q, fun _ => rfl⟩
/-- the model's scan changed -/
def S_mk (k : Int) (b : Nat) (j : Int) : Prop := (b = 867 ∧ (j = 11 ∨ j = 16)) ∨ b = 878 ∨ (b = 869 ∧ j = k) ∨ (b = 868 ∧ 129 * k ≤ j ∧ j < 129 * k + 129)
theorem MR_row {M' : Nat → Int → Int} {k n : Int} {w : Int → Int} (h : MR σ M) (hk : 0 ≤ k ∧ k < gc σ) (hn : 3 ≤ n ∧ n ≤ 129 ∧ n % 2 = 1) (hw : wOK n w) (f : fr (S_mk k) M M') (hr : mScan M' k n w) : MR (sg_row σ k n w) M' := by
  obtain ⟨h1, h2, ⟨h3, h3', h3''⟩, h4, h5, h6, h7⟩ := h
  refine ⟨sg_row_ok h1 hn hw, mMod_fr h2 f fun b j z => by unfold S_mk at z; omega, ⟨?_, ?_, ?_⟩, fun i hi => ?_, fun i hi => ?_, fun s hs => ?_, fun j hj => ?_⟩
  · rw [f _ _ (by unfold S_mk; omega)]; exact h3
  · rw [f _ _ (by unfold S_mk; omega)]; exact h3'
  · rw [f _ _ (by unfold S_mk; omega)]; exact h3''
  · rw [f _ _ (by unfold S_mk; omega)]; exact h4 i hi
  · rw [f _ _ (by unfold S_mk; omega)]; exact h5 i hi
  · rw [f _ _ (by unfold S_mk; omega)]; exact h6 s hs
  · show mScan M' j (if j = k then n else gs σ j) (if j = k then w else gw σ j)
    by_cases z : j = k
    · rw [if_pos z, if_pos z, z]; exact hr
    · rw [if_neg z, if_neg z]
      have h8 := h7 j hj
      have hj9 := h8.1
      exact ⟨h8.1, (f _ _ (by unfold S_mk; omega)).trans h8.2.1, fun i hi => (f _ _ (by unfold S_mk; omega)).trans (h8.2.2 i hi)⟩
theorem S_mk_hi {k : Int} {M' : Nat → Int → Int} (f : fr (S_mk k) M M') : fr S_hi M M' := fr_mono (fun b j z => by unfold S_mk at z; unfold S_hi; omega) f
theorem qm_setWidth {k i v : Int} (h : MR σ M) :
    (((0 ≤ k ∧ k < gc σ) ∧ 0 ≤ i ∧ i < gs σ k) → 1 ≤ v ∧ v ≤ 10000 → ∃ M', d_M_setWidth 867 k i v (bM sl π M G e) = rI (gw σ k i) (bM sl π M' G e) ∧ MR (ggW σ k i v) M' ∧ fr S_hi M M' ∧ M' 867 11 = 0) ∧
    (((0 ≤ k ∧ k < gc σ) ∧ 0 ≤ i ∧ i < gs σ k) → ¬ (1 ≤ v ∧ v ≤ 10000) → d_M_setWidth 867 k i v (bM sl π M G e) = rI 0 (bM sl π (up M 867 11 2) G e)) ∧
    (¬ ((0 ≤ k ∧ k < gc σ) ∧ 0 ≤ i ∧ i < gs σ k) → d_M_setWidth 867 k i v (bM sl π M G e) = rI 0 (bM sl π (up M 867 11 1) G e)) := by
  have h1 := h.1.1
  rw [d_M_setWidth_10 _ _ _ _ _ mo_d, x_M_setWidth_eq, bw_hasWidth h]
  simp only [ci_r, bi_eq0]
  by_cases q : (0 ≤ k ∧ k < gc σ) ∧ 0 ≤ i ∧ i < gs σ k
  · have hs := h.2.2.2.2.2.2 k q.1
    have hn := hs.1
    have hsc := h.1.2.1 k q.1
    rw [if_neg (by rw [decide_eq_true q]; decide), bw_isWidth]
    simp only [ci_r, bi_eq0]
    refine ⟨fun _ q3 => ?_, fun _ q3 => ?_, fun z => absurd q z⟩
    · have e1 : wr (wr (129 * k) + i) = 129 * k + i := by rw [wr_id (x := 129 * k) (by omega), wr_id (by omega)]
      rw [if_neg (by rw [decide_eq_true q3]; decide), mo_p, mo_I, up_s, t_zero, mo_R0, e1, mo_r868 (by omega), mo_R0, mo_w868 (by omega), up_a (by decide), hs.2.2 i q.2]
      have f : fr (S_mk k) M (up (up M 867 11 0) 868 (129 * k + i) v) := fr_up (by unfold S_mk; omega) (fr_up (by unfold S_mk; omega) fr_refl)
      refine ⟨_, rfl, MR_row h q.1 hsc.1 (fun j hj => ?_) f ⟨hn, ?_, fun j hj => ?_⟩, S_mk_hi f, ?_⟩
      · show 1 ≤ (if j = i then v else gw σ k j) ∧ (if j = i then v else gw σ k j) ≤ 10000
        split
        · exact q3
        · exact hsc.2 j hj
      · rw [up_a (by decide), up_a (by decide)]; exact hs.2.1
      · rw [up_ite]
        show _ = (if j = i then v else gw σ k j)
        by_cases z : j = i
        · rw [if_pos ⟨rfl, by omega⟩, if_pos z]
        · rw [if_neg (by omega), if_neg z, up_a (by decide)]; exact hs.2.2 j hj
      · rw [up_a (by decide), up_s]
    · rw [if_pos (decide_eq_false q3), mo_p, mo_I, up_s, t_pos2]
  · rw [if_pos (decide_eq_false q), mo_p, mo_I, up_s, t_pos]
    exact ⟨fun z => absurd z q, fun z => absurd z q, fun _ => rfl⟩
/-! rows: keep, copy, widenBars -/
variable {r : Nat} {n : Int} {w : Int → Int}
theorem bc_keep_0 (hr : aRow r) {a b : Int} (hab : 0 ≤ a ∧ a ≤ b ∧ b < n ∧ n ≤ 129) : ∀ (m : Nat) (i : Int) (M : Nat → Int → Int), i + m = b + 1 → a ≤ i → (∀ j, 0 ≤ j ∧ j < i - a → M (r + 1) j = w (a + j)) → (∀ j, i ≤ j ∧ j < n → M (r + 1) j = w j) →
    ∃ M', x_Row_keep_0 r a b i (bM sl π M G e) = rI 0 (bM sl π M' G e) ∧ fr (fun c j => c = r + 1 ∨ (c = r ∧ j = 1)) M M' ∧ rRow M' r (b - a + 1) (fun j => w (a + j)) := by
  intro m
  induction m with
  | zero =>
    intro i M hi hai h1 h2
    have e1 : wr (wr (b - a) + 1) = b - a + 1 := by rw [wr_id (x := b - a) (by omega), wr_id (by omega)]
    rw [x_Row_keep_0_eq, if_pos (by omega), row_p hr, e1]
    refine ⟨_, rfl, fr_up (Or.inr ⟨rfl, rfl⟩) fr_refl, by omega, up_s, fun j hj => ?_⟩
    rw [up_a (by omega)]
    exact h1 j (by omega)
  | succ m ih =>
    intro i M hi hai h1 h2
    rw [x_Row_keep_0_eq, if_neg (by omega), row_w hr, row_w hr, row_r hr (by omega), wr_id (x := i - a) (by omega), row_s hr (by omega), wr_id (x := i + 1) (by omega), h2 i (by omega)]
    obtain ⟨M', g, f, c⟩ := ih (i + 1) (up M (r + 1) (i - a) (w i)) (by omega) (by omega) (fun j hj => by
      by_cases z : j = i - a
      · rw [z, up_s, show a + (i - a) = i by omega]
      · rw [up_i z]; exact h1 j (by omega)) (fun j hj => by rw [up_i (by omega)]; exact h2 j (by omega))
    exact ⟨M', g, fr_trans (fr_up (Or.inl rfl) fr_refl) f, c⟩
theorem bc_keep (hr : aRow r) (hw : rRow M r n w) {a b : Int} (hab : 0 ≤ a ∧ a ≤ b ∧ b < n) : ∃ M', d_Row_keep r a b (bM sl π M G e) = rI 0 (bM sl π M' G e) ∧ fr (fun c j => c = r + 1 ∨ (c = r ∧ j = 1)) M M' ∧ rRow M' r (b - a + 1) (fun j => w (a + j)) := by
  have hn := hw.1
  rw [d_Row_keep_5 _ _ _ _ (row_d hr), x_Row_keep_eq, if_neg (by omega), row_I hr, hw.2.1, if_pos (by omega)]
  exact bc_keep_0 (n := n) hr (by omega) (b + 1 - a).toNat a M (by omega) (by omega) (fun j hj => by omega) (fun j hj => hw.2.2 j (by omega))
theorem bc_copy_0 {p : Nat} (hr : aRow r) (hp : aRow p) (hne : p ≠ r) : ∀ (m : Nat) (i : Int) (M : Nat → Int → Int), rRow M r n w → M p 1 = n → (∀ j, 0 ≤ j ∧ j < i → M (p + 1) j = w j) → i + m = n → 0 ≤ i →
    ∃ M', x_Row_copy_0 p r i (bM sl π M G e) = rI 0 (bM sl π M' G e) ∧ fr (fun b _ => b = p + 1) M M' ∧ rRow M' p n w := by
  have hpr := aRR hr hp (Ne.symm hne)
  intro m
  induction m with
  | zero =>
    intro i M hw h1 h2 hi h0
    have hn := hw.1
    rw [x_Row_copy_0_eq, row_I hp, h1, if_neg (by omega)]
    exact ⟨M, rfl, fr_refl, hn, h1, fun j hj => h2 j (by omega)⟩
  | succ m ih =>
    intro i M hw h1 h2 hi h0
    have hn := hw.1
    have e2 : wr (i + 1) = i + 1 := wr_id (by omega)
    rw [x_Row_copy_0_eq, row_I hp, h1, if_pos (by omega), row_w hp, row_w hr, row_r hr (by omega), row_s hp (by omega), e2, hw.2.2 i (by omega)]
    have f0 : fr (fun b _ => b = p + 1) M (up M (p + 1) i (w i)) := fr_up rfl fr_refl
    obtain ⟨M2, g2, f2, a2⟩ := ih (i + 1) (up M (p + 1) i (w i)) (rRow_fr hw f0 (by omega) (fun j => by omega)) (by rw [up_a (by omega)]; exact h1) (fun j hj => by
      by_cases z : j = i
      · subst z; exact up_s
      · rw [up_i z]; exact h2 j (by omega)) (by omega) (by omega)
    exact ⟨M2, g2, fr_trans f0 f2, a2⟩
theorem bc_copy {p : Nat} (hr : aRow r) (hp : aRow p) (hne : p ≠ r) (hw : rRow M r n w) :
    ∃ M', d_Row_copy p r (bM sl π M G e) = rI 0 (bM sl π M' G e) ∧ fr (fun b j => b = p + 1 ∨ (b = p ∧ j = 1)) M M' ∧ rRow M' p n w := by
  have hpr := aRR hr hp (Ne.symm hne)
  have hn := hw.1
  rw [d_Row_copy_5 _ _ _ (row_d hp), x_Row_copy_eq, row_I hr, hw.2.1, row_p hp]
  have f0 : fr (fun b j => b = p + 1 ∨ (b = p ∧ j = 1)) M (up M p 1 n) := fr_up (Or.inr ⟨rfl, rfl⟩) fr_refl
  obtain ⟨M2, g2, f2, a2⟩ := bc_copy_0 (sl := sl) (e := e) (π := π) (G := G) hr hp hne n.toNat 0 (up M p 1 n) (rRow_fr hw f0 (by omega) (fun j => by omega)) up_s (fun j hj => by omega) (by omega) (by omega)
  exact ⟨M2, g2, fr_trans f0 (fr_mono (fun b j z => Or.inl z) f2), a2⟩
/-- a width smeared, and whether it was limited -/
def bs_sx (a i x : Int) : Int := if Int.tmod i 2 = 1 then x + a else x - a
def bs_cl (x : Int) : Int := bs_mx 1 (bs_mn x 10000)
def bs_sw (a n : Int) (w : Int → Int) : Int → Int := fun i => if 1 ≤ i ∧ i < n - 1 then bs_cl (bs_sx a i (w i)) else w i
def bs_sc (a : Int) (w : Int → Int) : Nat → Int → Int
  | 0, _ => 0
  | m + 1, i => (if bs_cl (bs_sx a i (w i)) = bs_sx a i (w i) then 0 else 1) + bs_sc a w m (i + 1)
theorem bs_cl_bd {x : Int} : 1 ≤ bs_cl x ∧ bs_cl x ≤ 10000 := by unfold bs_cl bs_mx bs_mn; split <;> split <;> omega
theorem bs_sc_bd {a : Int} {w : Int → Int} : ∀ (m : Nat) (i : Int), 0 ≤ bs_sc a w m i ∧ bs_sc a w m i ≤ m := by
  intro m
  induction m with
  | zero => intro i; exact ⟨Int.le_refl _, Int.le_refl _⟩
  | succ m ih => intro i; have := ih (i + 1); unfold bs_sc; split <;> omega
theorem bc_widen_0 (hr : aRow r) {a : Int} (hp : wOK n w) (ha : -100 ≤ a ∧ a ≤ 100) (hn : 3 ≤ n ∧ n ≤ 129) : ∀ (m : Nat) (i c : Int) (M : Nat → Int → Int), i + m = n - 1 → 1 ≤ i → 0 ≤ c ∧ c ≤ i → M r 1 = n → (∀ j, 0 ≤ j ∧ j < i → M (r + 1) j = bs_sw a n w j) → (∀ j, i ≤ j ∧ j < n → M (r + 1) j = w j) →
    ∃ M', x_Row_widenBars_0 r a c i (bM sl π M G e) = rI (c + bs_sc a w m i) (bM sl π M' G e) ∧ fr (fun c _ => c = r + 1) M M' ∧ rRow M' r n (bs_sw a n w) := by
  intro m
  induction m with
  | zero =>
    intro i c M hi h1 hc hM h2 h3
    rw [x_Row_widenBars_0_eq, row_I hr, hM, wr_id (by omega), if_neg (by omega), show c + bs_sc a w 0 i = c by show c + 0 = c; omega]
    refine ⟨M, rfl, fr_refl, by omega, hM, fun j hj => ?_⟩
    by_cases z : j < i
    · exact h2 j (by omega)
    · rw [h3 j (by omega)]; unfold bs_sw; rw [if_neg (by omega)]
  | succ m ih =>
    intro i c M hi h1 hc hM h2 h3
    have hpi := hp i (by omega)
    have e0 : wr (-a) = -a := wr_id (by omega)
    have e1 : wr (w i + a) = w i + a := wr_id (by omega)
    have e2 : wr (w i + -a) = w i - a := by rw [wr_id (by omega)]; omega
    have e3 : wr (i + 1) = i + 1 := wr_id (by omega)
    have e4 : wr (c + 1) = c + 1 := wr_id (by omega)
    rw [x_Row_widenBars_0_eq, row_I hr, hM, wr_id (x := n - 1) (by omega), if_pos (by omega), row_w hr, row_r hr (by omega), h3 i (by omega), e0, e1, e2, e3, e4]
    simp only [bc_min, bc_max, ci_r, row_w hr]
    have step : ∀ (c' : Int), 0 ≤ c' ∧ c' ≤ i + 1 → ∃ M', bz_wI (bM sl π M G e) (r + 1) i (bs_cl (bs_sx a i (w i))) (fun μ9 => x_Row_widenBars_0 r a c' (i + 1) μ9) = rI (c' + bs_sc a w m (i + 1)) (bM sl π M' G e) ∧ fr (fun c _ => c = r + 1) M M' ∧ rRow M' r n (bs_sw a n w) := by
      intro c' hc'
      rw [row_s hr (by omega)]
      obtain ⟨M', g, f, x⟩ := ih (i + 1) c' (up M (r + 1) i (bs_cl (bs_sx a i (w i)))) (by omega) (by omega) hc' (by rw [up_a (by omega)]; exact hM) (fun j hj => by
        by_cases z : j = i
        · subst z; rw [up_s]; unfold bs_sw; rw [if_pos (by omega)]
        · rw [up_i z]; exact h2 j (by omega)) (fun j hj => by rw [up_i (by omega)]; exact h3 j (by omega))
      exact ⟨M', g, fr_trans (fr_up rfl fr_refl) f, x⟩
    rw [show bs_sc a w (m + 1) i = (if bs_cl (bs_sx a i (w i)) = bs_sx a i (w i) then 0 else 1) + bs_sc a w m (i + 1) from rfl]
    have fin : ∀ Y, Y = bs_sx a i (w i) → ∃ M', (if bs_mx 1 (bs_mn Y 10000) = Y then bz_wI (bM sl π M G e) (r + 1) i (bs_mx 1 (bs_mn Y 10000)) (fun μ9 => x_Row_widenBars_0 r a c (i + 1) μ9) else bz_wI (bM sl π M G e) (r + 1) i (bs_mx 1 (bs_mn Y 10000)) (fun μ9 => x_Row_widenBars_0 r a (c + 1) (i + 1) μ9)) = rI (c + ((if bs_cl (bs_sx a i (w i)) = bs_sx a i (w i) then 0 else 1) + bs_sc a w m (i + 1))) (bM sl π M' G e) ∧ fr (fun c _ => c = r + 1) M M' ∧ rRow M' r n (bs_sw a n w) := by
      intro Y hY
      subst hY
      rw [show bs_mx 1 (bs_mn (bs_sx a i (w i)) 10000) = bs_cl (bs_sx a i (w i)) from rfl]
      by_cases z : bs_cl (bs_sx a i (w i)) = bs_sx a i (w i)
      · rw [if_pos z, if_pos z, Int.zero_add]; exact step c (by omega)
      · rw [if_neg z, if_neg z, show c + (1 + bs_sc a w m (i + 1)) = c + 1 + bs_sc a w m (i + 1) by omega]; exact step (c + 1) (by omega)
    by_cases z : Int.tmod i 2 = 1
    · rw [if_pos z]
      exact fin (w i + a) (by unfold bs_sx; rw [if_pos z])
    · rw [if_neg z]
      exact fin (w i - a) (by unfold bs_sx; rw [if_neg z])
theorem bc_widen (hr : aRow r) {a : Int} (hw : rRow M r n w) (hp : wOK n w) (ha : -100 ≤ a ∧ a ≤ 100) (hn : 3 ≤ n ∧ n ≤ 129) : ∃ M', d_Row_widenBars r a (bM sl π M G e) = rI (bs_sc a w (n - 2).toNat 1) (bM sl π M' G e) ∧ fr (fun c _ => c = r + 1) M M' ∧ rRow M' r n (bs_sw a n w) := by
  obtain ⟨M', g, f, x⟩ := bc_widen_0 (sl := sl) (e := e) (π := π) (G := G) hr hp ha hn (n - 2).toNat 1 0 M (by omega) (by omega) (by omega) hw.2.1 (fun j hj => by rw [hw.2.2 j (by omega)]; unfold bs_sw; rw [if_neg (by omega)]) (fun j hj => hw.2.2 j (by omega))
  rw [Int.zero_add] at g
  rw [d_Row_widenBars_5 _ _ _ (row_d hr), x_Row_widenBars_eq]
  exact ⟨M', g, f, x⟩
end
