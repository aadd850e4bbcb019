/-! THE MODEL'S PAIRS, SEVENS, BEGINNINGS AND ENDS -/
section
variable {sl e : Nat} {π : Int → Nat} {M G : Nat → Int → Int} {n a : Int} {w : Int → Int} {l : List Ch}
theorem bw_five_0 {v : Int} (hM : mMod M) (hl : mSeq M l) (hlen : l.length + 1 ≤ 16) : ∀ d i : Nat, i + d = 10 →
    ∃ M', x_M_readsFive_0 867 i (bM sl π M G e) = rI (bi (decide (bs_fd bs_P5 (M 867 20) d i ≠ -1))) (bM sl π M' G e) ∧ fr S_m M M' ∧ mSeq M' (l ++ if bs_fd bs_P5 (M 867 20) d i = -1 then [] else [(bs_fd bs_P5 (M 867 20) d i, M 867 21)]) := by
  intro d
  induction d with
  | zero =>
    intro i hi
    rw [x_M_readsFive_0_eq, if_neg (by omega)]
    refine ⟨M, rfl, fr_refl, ?_⟩
    rw [if_pos (show bs_fd bs_P5 (M 867 20) 0 i = -1 from rfl)]
    simpa using hl
  | succ d ih =>
    intro i hi
    have ih := ih (i + 1) (by omega)
    rw [x_M_readsFive_0_eq, if_pos (by omega), mo_R6, mo_r874 (by omega), mo_I, mo_I, hM.2.1 i (by omega), show bs_fd bs_P5 (M 867 20) (d + 1) i = if bs_P5 i = M 867 20 then (i : Int) else bs_fd bs_P5 (M 867 20) d (i + 1) from rfl]
    by_cases q : bs_P5 i = M 867 20
    · rw [if_pos q, if_pos q, decide_eq_true (by omega), if_neg (by omega), wr_id (by omega)]
      obtain ⟨M1, h1, f1, -, s1⟩ := bw_signsOne (sl := sl) (e := e) (π := π) (G := G) hl (by omega) (i : Int) (M 867 21) (48 + i) (al_d (by omega)).symm
      rw [h1]
      exact ⟨M1, rfl, f1, s1⟩
    · rw [if_neg q, if_neg q, wr_id (by omega), show (i : Int) + 1 = ((i + 1 : Nat) : Int) by omega]
      exact ih
theorem bw_five (hM : mMod M) (hw : mRow M n w) (hpw : wOK n w) (hl : mSeq M l) (ha : 0 ≤ a ∧ a + 8 < n) (hlen : l.length + 1 ≤ 16) :
    ∃ M', d_M_readsFive 867 a (bM sl π M G e) = rI (bi (decide (bs_rd w n a 2 5 bs_P5 10 ≠ -1))) (bM sl π M' G e) ∧ fr S_m M M' ∧ mSeq M' (l ++ if bs_rd w n a 2 5 bs_P5 10 = -1 then [] else [(bs_rd w n a 2 5 bs_P5 10, bs_cf (bs_u w a 2) 5)]) := by
  obtain ⟨M1, g1, f1, b1⟩ := bw_wides (sl := sl) (e := e) (π := π) (G := G) (c := 5) (s := 2) hw hpw (Or.inr rfl) (by decide) (by decide) (a := a) (by omega)
  have f1m : fr S_m M M1 := fr_mono (fun _ _ => S_wm) f1
  obtain ⟨hM1, w1⟩ := keep_m f1m hM hw
  have l1 := mSeq_fr hl f1 S_w_seq
  have g1' : d_M_readsWides 867 a 5 2 (bM sl π M G e) = _ := g1
  rw [d_M_readsFive_10 _ _ _ mo_d, x_M_readsFive_eq, g1']
  simp only [ci_r, bi_eq0]
  have hrd : bs_rd w n a 2 5 bs_P5 10 = bs_mi (bs_u w a 2) 5 bs_P5 10 := if_pos (by omega)
  rw [hrd]
  unfold bs_mi
  by_cases q : 2 * bs_hi (bs_u w a 2) 5 < 3 * bs_lo (bs_u w a 2) 5
  · rw [if_pos (decide_eq_false (fun z => z q)), if_pos q]
    exact ⟨M1, rfl, f1m, by simpa using l1⟩
  · rw [if_neg (by rw [decide_eq_true q]; decide), if_neg q]
    obtain ⟨c1, c2⟩ := b1 q
    obtain ⟨M2, g2, f2, l2⟩ := bw_five_0 (sl := sl) (e := e) (π := π) (G := G) (v := 0) hM1 l1 hlen 10 0 (by decide)
    rw [c1, c2] at l2
    rw [c1] at g2
    exact ⟨M2, g2, fr_trans f1m f2, l2⟩
theorem bw_pair (hM : mMod M) (hw : mRow M n w) (hpw : wOK n w) (hl : mSeq M l) (hab : -50000 ≤ a ∧ a ≤ 50000) (hlen : l.length + 2 ≤ 16) :
    ∃ M', d_M_readsPair 867 a (bM sl π M G e) = rI (bi (bs_unI w n a).isSome) (bM sl π M' G e) ∧ fr S_m M M' ∧ mSeq M' (l ++ (bs_unI w n a).getD []) := by
  rw [d_M_readsPair_10 _ _ _ mo_d, x_M_readsPair_eq, bw_exists hw.2.1 (by omega)]
  simp only [ci_r, bi_eq0]
  have hn := hw.1
  by_cases q1 : 0 ≤ a ∧ a + 10 ≤ n
  · rw [decide_eq_true q1, if_neg (by decide)]
    obtain ⟨M1, g1, f1, l1⟩ := bw_five (sl := sl) (e := e) (π := π) (G := G) hM hw hpw hl (a := a) (by omega) (by omega)
    obtain ⟨hM1, w1⟩ := keep_m f1 hM hw
    rw [g1]
    simp only [ci_r, bi_eq0]
    unfold bs_unI
    by_cases q2 : bs_rd w n a 2 5 bs_P5 10 = -1
    · rw [if_pos q2] at l1
      rw [if_pos (decide_eq_false (fun z => z q2)), if_pos q2]
      exact ⟨M1, rfl, f1, l1⟩
    · rw [if_neg q2] at l1
      rw [if_neg (by rw [decide_eq_true q2]; decide), if_neg q2, wr_id (by omega)]
      obtain ⟨M2, g2, f2, l2⟩ := bw_five (sl := sl) (e := e) (π := π) (G := G) hM1 w1 hpw l1 (a := a + 1) (by omega) (by rw [List.length_append]; simp; omega)
      rw [g2]
      simp only [ci_r, bi_eq0]
      by_cases q3 : bs_rd w n (a + 1) 2 5 bs_P5 10 = -1
      · rw [if_pos q3, List.append_nil] at l2
        rw [if_pos (decide_eq_false (fun z => z q3)), if_pos q3, mo_I, mo_p]
        have hlen2 : (l ++ [(bs_rd w n a 2 5 bs_P5 10, bs_cf (bs_u w a 2) 5)]).length = l.length + 1 := by rw [List.length_append]; rfl
        have e1 : M2 867 19 = ((l.length + 1 : Nat) : Int) := by rw [l2.1, hlen2]
        rw [e1, wr_id (by omega)]
        refine ⟨_, rfl, fr_trans f1 (fr_trans f2 fr_m0), ?_⟩
        rw [show l ++ (none : Option (List Ch)).getD [] = l by simp]
        refine ⟨?_, hl.2.1, fun k c hk => ?_⟩
        · rw [up_s]; omega
        · rw [up_a (by decide), up_a (by decide)]
          refine l2.2.2 k c ?_
          have hk2 : k < l.length := (List.getElem?_eq_some_iff.mp hk).1
          rw [List.getElem?_append_left hk2]
          exact hk
      · rw [if_neg q3] at l2
        rw [if_neg (by rw [decide_eq_true q3]; decide), if_neg q3]
        rw [List.append_assoc] at l2
        exact ⟨M2, rfl, fr_trans f1 f2, l2⟩
  · rw [decide_eq_false q1, if_pos rfl]
    have hnone : bs_unI w n a = none := by
      unfold bs_unI
      by_cases z : 0 ≤ a ∧ a + 2 * ((5 : Nat) - 1 : Int) < n
      · split
        · rfl
        · rw [if_pos (show bs_rd w n (a + 1) 2 5 bs_P5 10 = -1 from if_neg (by omega))]
      · rw [if_pos (show bs_rd w n a 2 5 bs_P5 10 = -1 from if_neg z)]
    rw [hnone]
    exact ⟨M, rfl, fr_refl, by simpa using hl⟩
theorem bw_seven_0 (hM : mMod M) : ∀ d i : Nat, i + d = 20 → x_M_sevenAt_0 867 i (bM sl π M G e) = rI (bs_fd bs_P7 (M 867 20) d i) (bM sl π M G e) := by
  intro d
  induction d with
  | zero =>
    intro i hi
    rw [x_M_sevenAt_0_eq, if_neg (by omega)]
    rfl
  | succ d ih =>
    intro i hi
    have ih := ih (i + 1) (by omega)
    rw [x_M_sevenAt_0_eq, if_pos (by omega), mo_R7, mo_r875 (by omega), mo_I, hM.2.2.1 i (by omega), show bs_fd bs_P7 (M 867 20) (d + 1) i = if bs_P7 i = M 867 20 then (i : Int) else bs_fd bs_P7 (M 867 20) d (i + 1) from rfl]
    by_cases q : bs_P7 i = M 867 20
    · rw [if_pos q, if_pos q]
    · rw [if_neg q, if_neg q, wr_id (by omega), show (i : Int) + 1 = ((i + 1 : Nat) : Int) by omega]
      exact ih
theorem bw_seven (hM : mMod M) (hw : mRow M n w) (hpw : wOK n w) (hab : -50000 ≤ a ∧ a ≤ 50000) :
    ∃ M', d_M_sevenAt 867 a (bM sl π M G e) = rI (bs_v7 w n a) (bM sl π M' G e) ∧ fr S_w M M' ∧ (bs_v7 w n a ≠ -1 → M' 867 21 = bs_cf (bs_u w a 1) 7) := by
  rw [d_M_sevenAt_10 _ _ _ mo_d, x_M_sevenAt_eq, bw_exists hw.2.1 (by omega)]
  simp only [ci_r, bi_eq0]
  have hn := hw.1
  by_cases q1 : 0 ≤ a ∧ a + 7 ≤ n
  · rw [decide_eq_true q1, if_neg (by decide)]
    obtain ⟨M1, g1, f1, b1⟩ := bw_wides (sl := sl) (e := e) (π := π) (G := G) (c := 7) (s := 1) hw hpw (Or.inl rfl) (by decide) (by decide) (a := a) (by omega)
    have f1m : fr S_m M M1 := fr_mono (fun _ _ => S_wm) f1
    obtain ⟨hM1, w1⟩ := keep_m f1m hM hw
    have g1' : d_M_readsWides 867 a 7 1 (bM sl π M G e) = _ := g1
    rw [g1']
    simp only [ci_r, bi_eq0]
    have hrd : bs_v7 w n a = bs_mi (bs_u w a 1) 7 bs_P7 20 := if_pos (by omega)
    rw [hrd]
    unfold bs_mi
    by_cases q : 2 * bs_hi (bs_u w a 1) 7 < 3 * bs_lo (bs_u w a 1) 7
    · rw [if_pos (decide_eq_false (fun z => z q)), if_pos q]
      exact ⟨M1, rfl, f1, fun z => absurd rfl z⟩
    · rw [if_neg (by rw [decide_eq_true q]; decide), if_neg q]
      obtain ⟨c1, c2⟩ := b1 q
      have g2 := bw_seven_0 (sl := sl) (e := e) (π := π) (G := G) hM1 20 0 (by decide)
      rw [c1] at g2
      exact ⟨M1, g2, f1, fun _ => c2⟩
  · rw [decide_eq_false q1, if_pos rfl]
    have hnone : bs_v7 w n a = -1 := if_neg (by omega)
    rw [hnone]
    exact ⟨M, rfl, fr_refl, fun z => absurd rfl z⟩
theorem al_ok : ∀ k : Nat, k < 20 → 0 ≤ bs_al k ∧ bs_al k < 128 := by decide
theorem bz_and255 : ∀ k : Nat, k < 20 → bz_i2c (bz_and (bs_al k) 255) = bs_al k := by decide
/-- a character of the alphabet, of either text -/
theorem bc_charAt {t b : Nat} {v : Int} (ht : (t = 5 ∧ b = 7) ∨ (t = 6 ∧ b = 8)) (hM : mCon M) (hv : 0 ≤ v ∧ v < 20) : d_Str_charAt t v (bM sl π M G e) = rI (al v) (bM sl π M G e) := by
  have ht28 : bm_tg t = 28 := by rcases ht with ⟨h, _⟩ | ⟨h, _⟩ <;> subst h <;> decide
  have hp : bm_pp t 0 = b := by rcases ht with ⟨h, h'⟩ | ⟨h, h'⟩ <;> subst h <;> subst h' <;> decide
  have hb29 : bm_tg b = 29 := by rcases ht with ⟨_, h⟩ | ⟨_, h⟩ <;> subst h <;> decide
  have hbl : bm_ln b = 20 := by rcases ht with ⟨_, h⟩ | ⟨_, h⟩ <;> subst h <;> decide
  have h0 : M t 1 = 0 := by rcases ht with ⟨h, _⟩ | ⟨h, _⟩ <;> subst h; exact hM.2.2.2.2.1.1; exact hM.2.2.2.2.1.2
  have hc : M b v = al v := by
    have hk : (v.toNat : Int) = v := by omega
    rcases ht with ⟨_, h⟩ | ⟨_, h⟩ <;> subst h
    · have := hM.2.2.2.2.2.1 v.toNat (by omega); rw [hk] at this; exact this
    · have := hM.2.2.2.2.2.2 v.toNat (by omega); rw [hk] at this; exact this
  have hb20 : b ≠ 20 ∧ b ≠ 0 ∧ t ≠ 20 ∧ b ≠ 1 := by omega
  have ha := al_ok v.toNat (by omega)
  have hand := bz_and255 v.toNat (by omega)
  rw [d_Str_charAt_28 _ _ _ (gT_bM.trans ht28), x_Str_charAt_eq, d_Str_isLatin1_28 _ _ (gT_bM.trans ht28), x_Str_isLatin1_eq, bm_fI ht28, h0, if_pos rfl]
  simp only [ci_r]
  rw [if_neg (by decide), bm_fR ht28 hp hb20.2.2.1 hb20.2.1, x_Lat_charAt_eq, bm_al (n := 20) (by rw [hb29]; decide) hbl hb20.2.2.2, x_Str_checkIndex_eq, x_Pre_checkIndex_eq, if_neg (by omega), if_pos (by omega)]
  simp only [ci_r, cv_r]
  rw [bm_rB (n := 20) (Or.inr hb29) hbl hb20.2.2.2 (by omega), hc]
  have e1 : bz_i2c (bz_and (al v) 255) = al v := hand
  rw [e1]
  have e2 : ∀ μ : bz_M, bz_zC (al v) μ = rI (al v) μ := fun μ => if_pos ha
  rw [e2]
  simp only [ci_r]
  rw [e2]
/-- an inner character of Codabar, or a letter -/
theorem bw_readsSeven (hM : mMod M) (hw : mRow M n w) (hpw : wOK n w) (hl : mSeq M l) (hab : -50000 ≤ a ∧ a ≤ 50000) (hlen : l.length + 1 ≤ 16) (L : Bool) :
    ∃ M', d_M_readsSeven 867 a (bi L) (bM sl π M G e) = rI (bi (decide (bs_v7 w n a ≠ -1 ∧ (L = true ↔ 16 ≤ bs_v7 w n a)))) (bM sl π M' G e) ∧ fr S_m M M' ∧ mSeq M' (l ++ if bs_v7 w n a ≠ -1 ∧ (L = true ↔ 16 ≤ bs_v7 w n a) then [(bs_v7 w n a, bs_cf (bs_u w a 1) 7)] else []) := by
  obtain ⟨M1, g1, f1, b1⟩ := bw_seven (sl := sl) (e := e) (π := π) (G := G) hM hw hpw hab
  have f1m : fr S_m M M1 := fr_mono (fun _ _ => S_wm) f1
  obtain ⟨hM1, w1⟩ := keep_m f1m hM hw
  have l1 := mSeq_fr hl f1 S_w_seq
  have hbd := bs_rd_bd (w := w) (n := n) (a := a) (s := 1) (c := 7) (P := bs_P7) (len := 20)
  rw [show bs_rd w n a 1 7 bs_P7 20 = bs_v7 w n a from rfl] at hbd
  rw [d_M_readsSeven_10 _ _ _ _ mo_d, x_M_readsSeven_eq, g1]
  simp only [ci_r]
  have no : ¬ (bs_v7 w n a ≠ -1 ∧ (L = true ↔ 16 ≤ bs_v7 w n a)) → ∃ M', rI 0 (bM sl π M1 G e) = rI (bi (decide (bs_v7 w n a ≠ -1 ∧ (L = true ↔ 16 ≤ bs_v7 w n a)))) (bM sl π M' G e) ∧ fr S_m M M' ∧ mSeq M' (l ++ if bs_v7 w n a ≠ -1 ∧ (L = true ↔ 16 ≤ bs_v7 w n a) then [(bs_v7 w n a, bs_cf (bs_u w a 1) 7)] else []) := by
    intro h
    rw [decide_eq_false h, if_neg h]
    exact ⟨M1, rfl, f1m, by simpa using l1⟩
  have yes : (bs_v7 w n a ≠ -1 ∧ (L = true ↔ 16 ≤ bs_v7 w n a)) → ∃ M', (bz_ci (d_Str_charAt 6 (bs_v7 w n a) (bM sl π M1 G e)) fun v4 μ3 => bz_fI μ3 867 10 21 fun v5 => bz_cv (d_M_signsOne 867 v4 v5 μ3) fun μ6 => rI 1 μ6) = rI (bi (decide (bs_v7 w n a ≠ -1 ∧ (L = true ↔ 16 ≤ bs_v7 w n a)))) (bM sl π M' G e) ∧ fr S_m M M' ∧ mSeq M' (l ++ if bs_v7 w n a ≠ -1 ∧ (L = true ↔ 16 ≤ bs_v7 w n a) then [(bs_v7 w n a, bs_cf (bs_u w a 1) 7)] else []) := by
    intro h
    rw [decide_eq_true h, if_pos h, bc_charAt (Or.inr ⟨rfl, rfl⟩) hM1.2.2.2 (by omega)]
    simp only [ci_r]
    rw [mo_I, b1 h.1]
    obtain ⟨M2, g2, f2, -, l2⟩ := bw_signsOne (sl := sl) (e := e) (π := π) (G := G) l1 (by omega) (bs_v7 w n a) (bs_cf (bs_u w a 1) 7) _ rfl
    rw [g2]
    exact ⟨M2, rfl, fr_trans f1m f2, l2⟩
  by_cases q1 : bs_v7 w n a = -1
  · rw [if_pos q1]
    exact no fun z => z.1 q1
  · rw [if_neg q1]
    by_cases q2 : bs_v7 w n a < 16
    · rw [if_pos q2]
      cases L with
      | false =>
        rw [if_pos (show bi false = 0 from rfl)]
        exact yes ⟨q1, fun z => (by cases z), fun z => by omega⟩
      | true =>
        rw [if_neg (show ¬ bi true = 0 by decide)]
        exact no fun z => by have := z.2.1 rfl; omega
    · rw [if_neg q2]
      cases L with
      | false =>
        rw [if_neg (show ¬ bi false = 1 by decide)]
        exact no fun z => by have := z.2.2 (by omega); cases this
      | true =>
        rw [if_pos (show bi true = 1 from rfl)]
        exact yes ⟨q1, fun _ => by omega, fun _ => rfl⟩
theorem bw_sevenC (hM : mMod M) (hw : mRow M n w) (hpw : wOK n w) (hl : mSeq M l) (hab : -50000 ≤ a ∧ a ≤ 50000) (hlen : l.length + 1 ≤ 16) :
    ∃ M', d_M_readsSeven 867 a 0 (bM sl π M G e) = rI (bi (bs_unC w n a).isSome) (bM sl π M' G e) ∧ fr S_m M M' ∧ mSeq M' (l ++ (bs_unC w n a).getD []) := by
  obtain ⟨M', g, f, l'⟩ := bw_readsSeven (sl := sl) (e := e) (π := π) (G := G) hM hw hpw hl hab hlen false
  have hbd := bs_rd_bd (w := w) (n := n) (a := a) (s := 1) (c := 7) (P := bs_P7) (len := 20)
  rw [show bs_rd w n a 1 7 bs_P7 20 = bs_v7 w n a from rfl] at hbd
  refine ⟨M', ?_, f, ?_⟩
  · rw [show (0 : Int) = bi false from rfl, g]
    unfold bs_unC
    by_cases q1 : bs_v7 w n a < 0
    · rw [if_pos q1, decide_eq_false (fun z => z.1 (by omega))]; rfl
    · rw [if_neg q1]
      by_cases q2 : bs_v7 w n a < 16
      · rw [if_pos q2, decide_eq_true ⟨by omega, fun z => (by cases z), fun z => by omega⟩]; rfl
      · rw [if_neg q2, decide_eq_false (fun z => by have := z.2.2 (by omega); cases this)]; rfl
  · unfold bs_unC
    by_cases q1 : bs_v7 w n a < 0
    · rw [if_neg (fun z => z.1 (by omega))] at l'
      rw [if_pos q1]; exact l'
    · rw [if_neg q1]
      by_cases q2 : bs_v7 w n a < 16
      · rw [if_pos ⟨by omega, fun z => (by cases z), fun z => by omega⟩] at l'
        rw [if_pos q2]; exact l'
      · rw [if_neg (fun z => by have := z.2.2 (by omega); cases this)] at l'
        rw [if_neg q2]; exact l'
theorem bw_sevenL (hM : mMod M) (hw : mRow M n w) (hpw : wOK n w) (hl : mSeq M l) (hab : -50000 ≤ a ∧ a ≤ 50000) (hlen : l.length + 1 ≤ 16) :
    ∃ M', d_M_readsSeven 867 a 1 (bM sl π M G e) = rI (bi (decide (16 ≤ bs_v7 w n a))) (bM sl π M' G e) ∧ fr S_m M M' ∧ mSeq M' (l ++ bs_gu 2 w n a) := by
  obtain ⟨M', g, f, l'⟩ := bw_readsSeven (sl := sl) (e := e) (π := π) (G := G) hM hw hpw hl hab hlen true
  refine ⟨M', ?_, f, ?_⟩
  · rw [show (1 : Int) = bi true from rfl, g]
    by_cases q2 : 16 ≤ bs_v7 w n a
    · rw [decide_eq_true q2, decide_eq_true ⟨by omega, fun _ => q2, fun _ => rfl⟩]
    · rw [decide_eq_false q2, decide_eq_false (fun z => q2 (z.2.1 rfl))]
  · unfold bs_gu
    rw [if_pos rfl]
    by_cases q2 : 16 ≤ bs_v7 w n a
    · rw [if_pos ⟨by omega, fun _ => q2, fun _ => rfl⟩] at l'
      rw [if_neg (by omega)]; exact l'
    · rw [if_neg (fun z => q2 (z.2.1 rfl))] at l'
      rw [if_pos (by omega)]; exact l'
end
