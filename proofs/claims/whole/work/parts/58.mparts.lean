/-! THE MODEL'S BEGINNINGS, ENDS, WHOLE CODES, HEADS AND TAILS -/
theorem S_w_row : ¬ S_w 867 16 ∧ ∀ j, ¬ S_w 878 j := ⟨by unfold S_w; omega, fun j => by unfold S_w; omega⟩
section
variable {sl e : Nat} {π : Int → Nat} {M G : Nat → Int → Int} {n a : Int} {w : Int → Int} {l : List Ch}
theorem bw_quiet (hw : mRow M n w) (hp : wOK n w) {c : Nat} {x : Int} (h0 : 0 < c) (hx : 0 ≤ x ∧ x < n) (ha : 0 ≤ a ∧ a + c ≤ n) :
    (bz_fR (bM sl π M G e) 867 10 15 fun v13 => bz_rI (bM sl π M G e) v13 x fun v14 => bz_ci (d_M_leastOf 867 a c (bM sl π M G e)) fun v16 μ15 => if v14 < wr (5 * v16) then rI 0 μ15 else rI 1 μ15) = rI (bi (bs_quiet w n x a c)) (bM sl π M G e) := by
  have hn := hw.1
  have h1 := mRow_u (c := c) (s := 1) (a := a) hw hp (fun k hk => by omega)
  have h2 := bs_lo_bd h0 h1.2 c (Nat.le_refl _)
  rw [mo_R15, mo_r878 (by omega), hw.2.2 x hx, bw_leastOf hw hp h0 ha]
  simp only [ci_r]
  rw [wr_id (by omega)]
  unfold bs_quiet
  rw [decide_eq_true ⟨hx, ha⟩, Bool.true_and]
  by_cases q : 5 * bs_lo (bs_u w a 1) c ≤ w x
  · rw [if_neg (by omega), decide_eq_true q]; rfl
  · rw [if_pos (by omega), decide_eq_false q]; rfl
theorem bw_begin {s : Nat} (hs : s < 3) (hM : mMod M) (hw : mRow M n w) (hpw : wOK n w) (hab : 1 ≤ a ∧ a ≤ 40000) :
    ∃ M', d_M_isBeginning 867 s a (bM sl π M G e) = rI (bi (bs_be s w n a)) (bM sl π M' G e) ∧ fr S_w M M' := by
  have hn := hw.1
  have e1 : wr (a - 1) = a - 1 := wr_id (by omega)
  match s, hs with
  | 0, _ =>
    rw [show ((0 : Nat) : Int) = 0 from rfl, d_M_isBeginning_10 _ _ _ _ mo_d, x_M_isBeginning_eq, x_M_startOf_eq, if_pos rfl]
    simp only [ci_r]
    rw [bw_exists hw.2.1 (by omega)]
    simp only [ci_r, bi_eq0]
    rw [if_neg (show ¬ (0 : Int) = 2 by decide), e1, show bs_be 0 w n a = (bs_even w n a 3 && bs_quiet w n (a - 1) a 3) from rfl]
    by_cases q1 : 0 ≤ a ∧ a + 3 ≤ n
    · have g1 := bw_areEven (sl := sl) (e := e) (π := π) (G := G) hw hpw (c := 3) (by decide) q1
      have g2 := bw_quiet (sl := sl) (e := e) (π := π) (G := G) hw hpw (c := 3) (x := a - 1) (by decide) (by omega) q1
      have g1' : d_M_areEven 867 a 3 (bM sl π M G e) = _ := g1
      have g2' : (bz_fR (bM sl π M G e) 867 10 15 fun v13 => bz_rI (bM sl π M G e) v13 (a - 1) fun v14 => bz_ci (d_M_leastOf 867 a 3 (bM sl π M G e)) fun v16 μ15 => if v14 < wr (5 * v16) then rI 0 μ15 else rI 1 μ15) = _ := g2
      rw [if_neg (by rw [decide_eq_true q1]; decide), g1']
      simp only [ci_r, bi_eq0]
      rw [g2']
      refine ⟨M, ?_, fr_refl⟩
      cases bs_even w n a 3 <;> rfl
    · rw [if_pos (decide_eq_false q1)]
      refine ⟨M, ?_, fr_refl⟩
      have : bs_even w n a 3 = false := by
        unfold bs_even
        rw [decide_eq_false (show ¬ (0 ≤ a ∧ a + ((3 : Nat) : Int) ≤ n) from q1)]; rfl
      rw [this]; rfl
  | 1, _ =>
    rw [show ((1 : Nat) : Int) = 1 from rfl, d_M_isBeginning_10 _ _ _ _ mo_d, x_M_isBeginning_eq, x_M_startOf_eq, if_neg (by decide), if_pos rfl]
    simp only [ci_r]
    rw [bw_exists hw.2.1 (by omega)]
    simp only [ci_r, bi_eq0]
    rw [if_neg (show ¬ (1 : Int) = 2 by decide), e1, show bs_be 1 w n a = (bs_even w n a 4 && bs_quiet w n (a - 1) a 4) from rfl]
    by_cases q1 : 0 ≤ a ∧ a + 4 ≤ n
    · have g1 := bw_areEven (sl := sl) (e := e) (π := π) (G := G) hw hpw (c := 4) (by decide) q1
      have g2 := bw_quiet (sl := sl) (e := e) (π := π) (G := G) hw hpw (c := 4) (x := a - 1) (by decide) (by omega) q1
      have g1' : d_M_areEven 867 a 4 (bM sl π M G e) = _ := g1
      have g2' : (bz_fR (bM sl π M G e) 867 10 15 fun v13 => bz_rI (bM sl π M G e) v13 (a - 1) fun v14 => bz_ci (d_M_leastOf 867 a 4 (bM sl π M G e)) fun v16 μ15 => if v14 < wr (5 * v16) then rI 0 μ15 else rI 1 μ15) = _ := g2
      rw [if_neg (by rw [decide_eq_true q1]; decide), g1']
      simp only [ci_r, bi_eq0]
      rw [g2']
      refine ⟨M, ?_, fr_refl⟩
      cases bs_even w n a 4 <;> rfl
    · rw [if_pos (decide_eq_false q1)]
      refine ⟨M, ?_, fr_refl⟩
      have : bs_even w n a 4 = false := by
        unfold bs_even
        rw [decide_eq_false (show ¬ (0 ≤ a ∧ a + ((4 : Nat) : Int) ≤ n) from q1)]; rfl
      rw [this]; rfl
  | 2, _ =>
    rw [show ((2 : Nat) : Int) = 2 from rfl, d_M_isBeginning_10 _ _ _ _ mo_d, x_M_isBeginning_eq, x_M_startOf_eq, if_neg (by decide), if_neg (by decide)]
    simp only [ci_r]
    rw [bw_exists hw.2.1 (by omega)]
    simp only [ci_r, bi_eq0]
    rw [if_pos trivial, e1, show bs_be 2 w n a = (decide (16 ≤ bs_v7 w n a) && bs_quiet w n (a - 1) a 7) from rfl]
    by_cases q1 : 0 ≤ a ∧ a + 7 ≤ n
    · obtain ⟨M1, g1, f1, -⟩ := bw_seven (sl := sl) (e := e) (π := π) (G := G) hM hw hpw (a := a) (by omega)
      have w1 := mRow_fr hw f1 S_w_row
      have g2 := bw_quiet (sl := sl) (e := e) (π := π) (G := G) w1 hpw (c := 7) (x := a - 1) (by decide) (by omega) q1
      have g2' : (bz_fR (bM sl π M1 G e) 867 10 15 fun v13 => bz_rI (bM sl π M1 G e) v13 (a - 1) fun v14 => bz_ci (d_M_leastOf 867 a 7 (bM sl π M1 G e)) fun v16 μ15 => if v14 < wr (5 * v16) then rI 0 μ15 else rI 1 μ15) = _ := g2
      rw [if_neg (by rw [decide_eq_true q1]; decide), g1]
      simp only [ci_r]
      rw [g2']
      refine ⟨M1, ?_, f1⟩
      by_cases q2 : bs_v7 w n a < 16
      · rw [if_pos q2, decide_eq_false (by omega)]; rfl
      · rw [if_neg q2, decide_eq_true (by omega)]; rfl
    · rw [if_pos (decide_eq_false q1)]
      refine ⟨M, ?_, fr_refl⟩
      have : bs_v7 w n a = -1 := if_neg (by omega)
      rw [this]; rfl
theorem bw_end {s : Nat} (hs : s < 3) (hM : mMod M) (hw : mRow M n w) (hpw : wOK n w) (hab : -40000 ≤ a ∧ a ≤ 40000) :
    ∃ M', d_M_isEnd 867 s a (bM sl π M G e) = rI (bi (bs_en s w n a)) (bM sl π M' G e) ∧ fr S_w M M' := by
  have hn := hw.1
  have e1 : wr (a + 1) = a + 1 := wr_id (by omega)
  have e3 : wr (wr (a - 3) + 1) = a - 2 := by rw [wr_id (x := a - 3) (by omega), wr_id (by omega)]; omega
  have e7 : wr (wr (a - 7) + 1) = a - 6 := by rw [wr_id (x := a - 7) (by omega), wr_id (by omega)]; omega
  match s, hs with
  | 0, _ =>
    rw [show ((0 : Nat) : Int) = 0 from rfl, d_M_isEnd_10 _ _ _ _ mo_d, x_M_isEnd_eq, x_M_stopOf_eq, if_neg (by decide)]
    simp only [ci_r]
    rw [e3, show wr (3 + 1) = 4 from rfl, bw_exists hw.2.1 (by omega)]
    simp only [ci_r, bi_eq0]
    rw [if_pos trivial, e1, show bs_en 0 w n a = (bs_even w n (a - 2) 3 && bs_quiet w n (a + 1) (a - 2) 3) from rfl]
    by_cases q1 : 0 ≤ a - 2 ∧ a - 2 + 4 ≤ n
    · have g1 := bw_areEven (sl := sl) (e := e) (π := π) (G := G) hw hpw (c := 3) (a := a - 2) (by decide) (by omega)
      have g2 := bw_quiet (sl := sl) (e := e) (π := π) (G := G) hw hpw (c := 3) (a := a - 2) (x := a + 1) (by decide) (by omega) (by omega)
      have g1' : d_M_areEven 867 (a - 2) 3 (bM sl π M G e) = _ := g1
      have g2' : (bz_fR (bM sl π M G e) 867 10 15 fun v13 => bz_rI (bM sl π M G e) v13 (a + 1) fun v14 => bz_ci (d_M_leastOf 867 (a - 2) 3 (bM sl π M G e)) fun v16 μ15 => if v14 < wr (5 * v16) then rI 0 μ15 else rI 1 μ15) = _ := g2
      rw [if_neg (by rw [decide_eq_true q1]; decide), g1']
      simp only [ci_r, bi_eq0]
      rw [g2']
      refine ⟨M, ?_, fr_refl⟩
      cases bs_even w n (a - 2) 3 <;> rfl
    · rw [if_pos (decide_eq_false q1)]
      refine ⟨M, ?_, fr_refl⟩
      have : bs_quiet w n (a + 1) (a - 2) 3 = false ∨ bs_even w n (a - 2) 3 = false := by
        unfold bs_even bs_quiet
        by_cases z : 0 ≤ a - 2 ∧ a - 2 + (3 : Nat) ≤ n
        · left; rw [decide_eq_false (by omega)]; rfl
        · right; rw [decide_eq_false z]; rfl
      rcases this with h | h
      · rw [h, Bool.and_false]; rfl
      · rw [h]; rfl
  | 1, _ =>
    rw [show ((1 : Nat) : Int) = 1 from rfl, d_M_isEnd_10 _ _ _ _ mo_d, x_M_isEnd_eq, x_M_stopOf_eq, if_neg (by decide)]
    simp only [ci_r]
    rw [e3, show wr (3 + 1) = 4 from rfl, bw_exists hw.2.1 (by omega)]
    simp only [ci_r, bi_eq0]
    rw [if_neg (show ¬ (1 : Int) = 0 by decide), if_neg (show ¬ (1 : Int) = 2 by decide), e1, show bs_en 1 w n a = ((decide (0 ≤ a - 2 ∧ a - 2 + 3 ≤ n) && decide (3 * w (a - 1) ≤ 2 * w (a - 2) ∧ 3 * w a ≤ 2 * w (a - 2))) && bs_quiet w n (a + 1) (a - 2) 3) from rfl]
    by_cases q1 : 0 ≤ a - 2 ∧ a - 2 + 4 ≤ n
    · have g2 := bw_quiet (sl := sl) (e := e) (π := π) (G := G) hw hpw (c := 3) (a := a - 2) (x := a + 1) (by decide) (by omega) (by omega)
      have g2' : (bz_fR (bM sl π M G e) 867 10 15 fun v13 => bz_rI (bM sl π M G e) v13 (a + 1) fun v14 => bz_ci (d_M_leastOf 867 (a - 2) 3 (bM sl π M G e)) fun v16 μ15 => if v14 < wr (5 * v16) then rI 0 μ15 else rI 1 μ15) = _ := g2
      have g0 := hw.2.2 (a - 2) (by omega)
      have g1 := hw.2.2 (a - 1) (by omega)
      have g3 := hw.2.2 a (by omega)
      have p0 := hpw (a - 2) (by omega)
      have p1 := hpw (a - 1) (by omega)
      have p2 := hpw a (by omega)
      have i1 : wr (2 * w (a - 2)) = 2 * w (a - 2) := wr_id (by omega)
      have i2 : wr (3 * w (a - 1)) = 3 * w (a - 1) := wr_id (by omega)
      have i3 : wr (3 * w a) = 3 * w a := wr_id (by omega)
      have j1 : wr (a - 2 + 1) = a - 1 := by rw [wr_id (by omega)]; omega
      have j2 : wr (a - 2 + 2) = a := by rw [wr_id (by omega)]; omega
      rw [if_neg (by rw [decide_eq_true q1]; decide), j1, j2, g2', mo_R15, mo_r878 (by omega), g0, mo_R15, mo_r878 (by omega), g1, mo_R15, mo_r878 (by omega), g0, mo_R15, mo_r878 (by omega), g3, i1, i2, i3]
      refine ⟨M, ?_, fr_refl⟩
      rw [decide_eq_true (show 0 ≤ a - 2 ∧ a - 2 + 3 ≤ n by omega), Bool.true_and]
      by_cases q2 : 2 * w (a - 2) < 3 * w (a - 1)
      · rw [if_pos q2, decide_eq_false (by omega)]; rfl
      · rw [if_neg q2]
        by_cases q3 : 2 * w (a - 2) < 3 * w a
        · rw [if_pos q3, decide_eq_false (by omega)]; rfl
        · rw [if_neg q3, decide_eq_true (by omega)]; rfl
    · rw [if_pos (decide_eq_false q1)]
      refine ⟨M, ?_, fr_refl⟩
      by_cases z : 0 ≤ a - 2 ∧ a - 2 + 3 ≤ n
      · have : bs_quiet w n (a + 1) (a - 2) 3 = false := by
          unfold bs_quiet
          rw [decide_eq_false (by omega)]; rfl
        rw [this, Bool.and_false]; rfl
      · rw [decide_eq_false z]; rfl
  | 2, _ =>
    rw [show ((2 : Nat) : Int) = 2 from rfl, d_M_isEnd_10 _ _ _ _ mo_d, x_M_isEnd_eq, x_M_stopOf_eq, if_pos rfl]
    simp only [ci_r]
    rw [e7, show wr (7 + 1) = 8 from rfl, bw_exists hw.2.1 (by omega)]
    simp only [ci_r, bi_eq0]
    rw [if_neg (show ¬ (2 : Int) = 0 by decide), if_pos trivial, e1, show bs_en 2 w n a = (decide (16 ≤ bs_v7 w n (a - 6)) && bs_quiet w n (a + 1) (a - 6) 7) from rfl]
    by_cases q1 : 0 ≤ a - 6 ∧ a - 6 + 8 ≤ n
    · obtain ⟨M1, g1, f1, -⟩ := bw_seven (sl := sl) (e := e) (π := π) (G := G) hM hw hpw (a := a - 6) (by omega)
      have w1 := mRow_fr hw f1 S_w_row
      have g2 := bw_quiet (sl := sl) (e := e) (π := π) (G := G) w1 hpw (c := 7) (a := a - 6) (x := a + 1) (by decide) (by omega) (by omega)
      have g2' : (bz_fR (bM sl π M1 G e) 867 10 15 fun v13 => bz_rI (bM sl π M1 G e) v13 (a + 1) fun v14 => bz_ci (d_M_leastOf 867 (a - 6) 7 (bM sl π M1 G e)) fun v16 μ15 => if v14 < wr (5 * v16) then rI 0 μ15 else rI 1 μ15) = _ := g2
      rw [if_neg (by rw [decide_eq_true q1]; decide), g1]
      simp only [ci_r]
      rw [g2']
      refine ⟨M1, ?_, f1⟩
      by_cases q2 : bs_v7 w n (a - 6) < 16
      · rw [if_pos q2, decide_eq_false (by omega)]; rfl
      · rw [if_neg q2, decide_eq_true (by omega)]; rfl
    · rw [if_pos (decide_eq_false q1)]
      refine ⟨M, ?_, fr_refl⟩
      by_cases z : 0 ≤ a - 6 ∧ a - 6 + 7 ≤ n
      · have : bs_quiet w n (a + 1) (a - 6) 7 = false := by
          unfold bs_quiet
          rw [decide_eq_false (by omega)]; rfl
        rw [this, Bool.and_false]; rfl
      · have : bs_v7 w n (a - 6) = -1 := if_neg (by omega)
        rw [this]; rfl
theorem keep_w {M' : Nat → Int → Int} (f : fr S_w M M') (hM : mMod M) (hw : mRow M n w) (hl : mSeq M l) : mMod M' ∧ mRow M' n w ∧ mSeq M' l := by
  have h := keep_m (fr_mono (fun _ _ => S_wm) f) hM hw
  exact ⟨h.1, h.2, mSeq_fr hl f S_w_seq⟩
theorem w2m {M' : Nat → Int → Int} (f : fr S_w M M') : fr S_m M M' := fr_mono (fun _ _ => S_wm) f
theorem bw_head_0 (hpw : wOK n w) (ha : 0 ≤ a ∧ a ≤ 200) : ∀ (d k : Nat) (M : Nat → Int → Int) (acc : List Ch), k + d = 4 → mMod M → mRow M n w → mSeq M acc → acc.length + d + 1 ≤ 16 →
    ∃ M', x_M_readsHead_0 867 a k (bM sl π M G e) = rI 0 (bM sl π M' G e) ∧ fr S_m M M' ∧ mSeq M' (acc ++ bs_up 0 w n d (a + 3 + 4 * k)) := by
  intro d
  induction d with
  | zero =>
    intro k M acc hk hM hw hl hlen
    rw [x_M_readsHead_0_eq, if_neg (by omega)]
    exact ⟨M, rfl, fr_refl, by simpa [bs_up] using hl⟩
  | succ d ih =>
    intro k M acc hk hM hw hl hlen
    have e1 : wr (wr (a + 3) + wr (4 * (k : Int))) = a + 3 + 4 * k := by rw [wr_id (x := a + 3) (by omega), wr_id (x := 4 * (k : Int)) (by omega), wr_id (by omega)]
    have e2 : wr ((k : Int) + 1) = ((k + 1 : Nat) : Int) := by rw [wr_id (by omega)]; omega
    have hul := (bs_un_len (s := 0) (w := w) (n := n) (a := a + 3 + 4 * k)).2 (by decide)
    rw [show bs_un 0 w n (a + 3 + 4 * k) = bs_unE w n (a + 3 + 4 * k) from rfl] at hul
    obtain ⟨M1, g1, f1, l1⟩ := bw_digit (sl := sl) (e := e) (π := π) (G := G) hM hw hpw hl (a := a + 3 + 4 * k) (by omega) (by omega)
    rw [x_M_readsHead_0_eq, if_pos (by omega), e1, e2, g1]
    simp only [ci_r, bi_eq0]
    rw [bs_up, show bs_un 0 w n (a + 3 + 4 * k) = bs_unE w n (a + 3 + 4 * k) from rfl]
    cases hu : bs_unE w n (a + 3 + 4 * k) with
    | none =>
      rw [if_pos (show (none : Option (List Ch)).isSome = false from rfl)]
      rw [hu] at l1
      exact ⟨M1, rfl, f1, l1⟩
    | some ls =>
      rw [hu] at l1 hul
      have l1 : mSeq M1 (acc ++ ls) := l1
      have hul : ls.length ≤ 1 := hul
      obtain ⟨hM1, w1⟩ := keep_m f1 hM hw
      rw [if_neg (by simp)]
      obtain ⟨M3, g3, f3, l3⟩ := ih (k + 1) M1 (acc ++ ls) (by omega) hM1 w1 l1 (by rw [List.length_append]; omega)
      rw [g3]
      rw [List.append_assoc, show a + 3 + 4 * ((k + 1 : Nat) : Int) = a + 3 + 4 * k + bs_us 0 by rw [show bs_us 0 = 4 from rfl]; omega] at l3
      exact ⟨M3, rfl, fr_trans f1 f3, l3⟩
theorem bw_parts_0 (hpw : wOK n w) (ha : 0 ≤ a ∧ a ≤ 200) : ∀ (d k : Nat) (M : Nat → Int → Int), k + d = 4 → mMod M → mRow M n w →
    ∃ M', x_M_partsTo_0 867 0 a k 1 (bM sl π M G e) = rI ((k + bs_cb 0 w n d (a - 2 - 4 * k) : Nat) : Int) (bM sl π M' G e) ∧ fr S_m M M' := by
  have stop : ∀ (k : Nat) (M : Nat → Int → Int), k ≤ 100 → x_M_partsTo_0 867 0 a (wr ((k : Int) + 0)) 0 (bM sl π M G e) = rI (k : Int) (bM sl π M G e) := by
    intro k M hk
    rw [x_M_partsTo_0_eq, if_pos rfl, Int.add_zero, wr_id (by omega)]
  intro d
  induction d with
  | zero =>
    intro k M hk hM hw
    rw [x_M_partsTo_0_eq, if_neg (by decide), mo_p, if_pos rfl, if_neg (by omega), stop k _ (by omega)]
    exact ⟨_, rfl, fr_m0⟩
  | succ d ih =>
    intro k M hk hM hw
    have e1 : wr (wr (a - 6) - wr (4 * (k : Int))) = a - 2 - 4 * k - 4 := by rw [wr_id (x := a - 6) (by omega), wr_id (x := 4 * (k : Int)) (by omega), wr_id (by omega)]; omega
    have e2 : wr ((k : Int) + 1) = ((k + 1 : Nat) : Int) := by rw [wr_id (by omega)]; omega
    obtain ⟨hM0, w0⟩ := keep_m (fr_m0 (v := 0)) hM hw
    obtain ⟨M1, g1, f1, l1⟩ := bw_digit (sl := sl) (e := e) (π := π) (G := G) hM0 w0 hpw mSeq_0 (a := a - 2 - 4 * k - 4) (by omega) (by decide)
    rw [x_M_partsTo_0_eq, if_neg (by decide), mo_p, if_pos rfl, if_pos (by omega), e1, e2, g1]
    simp only [ci_r, bi_eq0]
    rw [bs_cb, show bs_us 0 = 4 from rfl, show bs_un 0 w n (a - 2 - 4 * k - 4) = bs_unE w n (a - 2 - 4 * k - 4) from rfl]
    cases hu : (bs_unE w n (a - 2 - 4 * k - 4)).isSome with
    | false =>
      rw [if_pos rfl, stop k _ (by omega), if_neg (by decide)]
      exact ⟨M1, rfl, fr_trans fr_m0 f1⟩
    | true =>
      obtain ⟨hM1, w1⟩ := keep_m f1 hM0 w0
      rw [if_neg (by decide), if_pos rfl]
      obtain ⟨M3, g3, f3⟩ := ih (k + 1) M1 (by omega) hM1 w1
      rw [g3]
      refine ⟨M3, ?_, fr_trans fr_m0 (fr_trans f1 f3)⟩
      rw [show a - 2 - 4 * ((k + 1 : Nat) : Int) = a - 2 - 4 * k - 4 by omega, show k + 1 + bs_cb 0 w n d (a - 2 - 4 * k - 4) = k + (bs_cb 0 w n d (a - 2 - 4 * k - 4) + 1) by omega]
theorem bw_tail_0 (hpw : wOK n w) (ha : 0 ≤ a ∧ a ≤ 200) : ∀ (d : Nat) (M : Nat → Int → Int) (acc : List Ch), d ≤ 4 → mMod M → mRow M n w → mSeq M acc → acc.length + d + 1 ≤ 16 →
    ∃ M', x_M_readsTail_0 867 0 a (d - 1) (bM sl π M G e) = rI 0 (bM sl π M' G e) ∧ fr S_m M M' ∧ mSeq M' (acc ++ (bs_fo 0 w n d (a - 2 - 4 * d) ++ bs_gu 0 w n (a - 2))) := by
  intro d
  induction d with
  | zero =>
    intro M acc hk hM hw hl hlen
    rw [x_M_readsTail_0_eq, if_pos (by omega)]
    rw [if_neg (by decide)]
    exact ⟨M, rfl, fr_refl, by simpa [bs_fo, bs_gu] using hl⟩
  | succ d ih =>
    intro M acc hk hM hw hl hlen
    have e0 : ((d + 1 : Nat) : Int) - 1 = d := by omega
    have e1 : wr (wr (a - 6) - wr (4 * (d : Int))) = a - 2 - 4 * ((d + 1 : Nat) : Int) := by rw [wr_id (x := a - 6) (by omega), wr_id (x := 4 * (d : Int)) (by omega), wr_id (by omega)]; omega
    have e2 : wr ((d : Int) + -1) = (d : Int) - 1 := by rw [wr_id (by omega)]; omega
    have hul := (bs_un_len (s := 0) (w := w) (n := n) (a := a - 2 - 4 * ((d + 1 : Nat) : Int))).2 (by decide)
    rw [show bs_un 0 w n (a - 2 - 4 * ((d + 1 : Nat) : Int)) = bs_unE w n (a - 2 - 4 * ((d + 1 : Nat) : Int)) from rfl] at hul
    obtain ⟨M1, g1, f1, l1⟩ := bw_digit (sl := sl) (e := e) (π := π) (G := G) hM hw hpw hl (a := a - 2 - 4 * ((d + 1 : Nat) : Int)) (by omega) (by omega)
    obtain ⟨hM1, w1⟩ := keep_m f1 hM hw
    rw [e0, x_M_readsTail_0_eq, if_neg (by omega), if_pos rfl, e1, e2, g1]
    simp only [ci_r]
    obtain ⟨M3, g3, f3, l3⟩ := ih M1 _ (by omega) hM1 w1 l1 (by rw [List.length_append]; omega)
    rw [g3]
    refine ⟨M3, rfl, fr_trans f1 f3, ?_⟩
    rw [bs_fo, show bs_us 0 = 4 from rfl, show bs_un 0 w n (a - 2 - 4 * ((d + 1 : Nat) : Int)) = bs_unE w n (a - 2 - 4 * ((d + 1 : Nat) : Int)) from rfl, show a - 2 - 4 * ((d + 1 : Nat) : Int) + 4 = a - 2 - 4 * (d : Int) by omega, List.append_assoc]
    rw [List.append_assoc] at l3
    exact l3
theorem bw_head_1 (hpw : wOK n w) (ha : 0 ≤ a ∧ a ≤ 200) : ∀ (d k : Nat) (M : Nat → Int → Int) (acc : List Ch), k + d = 7 → mMod M → mRow M n w → mSeq M acc → acc.length + 2 * d ≤ 14 →
    ∃ M', x_M_readsHead_1 867 a k (bM sl π M G e) = rI 0 (bM sl π M' G e) ∧ fr S_m M M' ∧ mSeq M' (acc ++ bs_up 1 w n d (a + 4 + 10 * k)) := by
  intro d
  induction d with
  | zero =>
    intro k M acc hk hM hw hl hlen
    rw [x_M_readsHead_1_eq, if_neg (by omega)]
    exact ⟨M, rfl, fr_refl, by simpa [bs_up] using hl⟩
  | succ d ih =>
    intro k M acc hk hM hw hl hlen
    have e1 : wr (wr (a + 4) + wr (10 * (k : Int))) = a + 4 + 10 * k := by rw [wr_id (x := a + 4) (by omega), wr_id (x := 10 * (k : Int)) (by omega), wr_id (by omega)]
    have e2 : wr ((k : Int) + 1) = ((k + 1 : Nat) : Int) := by rw [wr_id (by omega)]; omega
    have hul := (bs_un_len (s := 1) (w := w) (n := n) (a := a + 4 + 10 * k)).1 rfl
    rw [show bs_un 1 w n (a + 4 + 10 * k) = bs_unI w n (a + 4 + 10 * k) from rfl] at hul
    obtain ⟨M1, g1, f1, l1⟩ := bw_pair (sl := sl) (e := e) (π := π) (G := G) hM hw hpw hl (a := a + 4 + 10 * k) (by omega) (by omega)
    rw [x_M_readsHead_1_eq, if_pos (by omega), e1, e2, g1]
    simp only [ci_r, bi_eq0]
    rw [bs_up, show bs_un 1 w n (a + 4 + 10 * k) = bs_unI w n (a + 4 + 10 * k) from rfl]
    cases hu : bs_unI w n (a + 4 + 10 * k) with
    | none =>
      rw [if_pos (show (none : Option (List Ch)).isSome = false from rfl)]
      rw [hu] at l1
      exact ⟨M1, rfl, f1, l1⟩
    | some ls =>
      rw [hu] at l1 hul
      have l1 : mSeq M1 (acc ++ ls) := l1
      have hul : ls.length ≤ 2 := hul
      obtain ⟨hM1, w1⟩ := keep_m f1 hM hw
      rw [if_neg (by simp)]
      obtain ⟨M3, g3, f3, l3⟩ := ih (k + 1) M1 (acc ++ ls) (by omega) hM1 w1 l1 (by rw [List.length_append]; omega)
      rw [g3]
      rw [List.append_assoc, show a + 4 + 10 * ((k + 1 : Nat) : Int) = a + 4 + 10 * k + bs_us 1 by rw [show bs_us 1 = 10 from rfl]; omega] at l3
      exact ⟨M3, rfl, fr_trans f1 f3, l3⟩
theorem bw_parts_1 (hpw : wOK n w) (ha : 0 ≤ a ∧ a ≤ 200) : ∀ (d k : Nat) (M : Nat → Int → Int), k + d = 7 → mMod M → mRow M n w →
    ∃ M', x_M_partsTo_0 867 1 a k 1 (bM sl π M G e) = rI ((k + bs_cb 1 w n d (a - 2 - 10 * k) : Nat) : Int) (bM sl π M' G e) ∧ fr S_m M M' := by
  have stop : ∀ (k : Nat) (M : Nat → Int → Int), k ≤ 100 → x_M_partsTo_0 867 1 a (wr ((k : Int) + 0)) 0 (bM sl π M G e) = rI (k : Int) (bM sl π M G e) := by
    intro k M hk
    rw [x_M_partsTo_0_eq, if_pos rfl, Int.add_zero, wr_id (by omega)]
  intro d
  induction d with
  | zero =>
    intro k M hk hM hw
    rw [x_M_partsTo_0_eq, if_neg (by decide), mo_p, if_neg (by decide), if_pos rfl, if_neg (by omega), stop k _ (by omega)]
    exact ⟨_, rfl, fr_m0⟩
  | succ d ih =>
    intro k M hk hM hw
    have e1 : wr (wr (a - 12) - wr (10 * (k : Int))) = a - 2 - 10 * k - 10 := by rw [wr_id (x := a - 12) (by omega), wr_id (x := 10 * (k : Int)) (by omega), wr_id (by omega)]; omega
    have e2 : wr ((k : Int) + 1) = ((k + 1 : Nat) : Int) := by rw [wr_id (by omega)]; omega
    obtain ⟨hM0, w0⟩ := keep_m (fr_m0 (v := 0)) hM hw
    obtain ⟨M1, g1, f1, l1⟩ := bw_pair (sl := sl) (e := e) (π := π) (G := G) hM0 w0 hpw mSeq_0 (a := a - 2 - 10 * k - 10) (by omega) (by decide)
    rw [x_M_partsTo_0_eq, if_neg (by decide), mo_p, if_neg (by decide), if_pos rfl, if_pos (by omega), e1, e2, g1]
    simp only [ci_r, bi_eq0]
    rw [bs_cb, show bs_us 1 = 10 from rfl, show bs_un 1 w n (a - 2 - 10 * k - 10) = bs_unI w n (a - 2 - 10 * k - 10) from rfl]
    cases hu : (bs_unI w n (a - 2 - 10 * k - 10)).isSome with
    | false =>
      rw [if_pos rfl, stop k _ (by omega), if_neg (by decide)]
      exact ⟨M1, rfl, fr_trans fr_m0 f1⟩
    | true =>
      obtain ⟨hM1, w1⟩ := keep_m f1 hM0 w0
      rw [if_neg (by decide), if_pos rfl]
      obtain ⟨M3, g3, f3⟩ := ih (k + 1) M1 (by omega) hM1 w1
      rw [g3]
      refine ⟨M3, ?_, fr_trans fr_m0 (fr_trans f1 f3)⟩
      rw [show a - 2 - 10 * ((k + 1 : Nat) : Int) = a - 2 - 10 * k - 10 by omega, show k + 1 + bs_cb 1 w n d (a - 2 - 10 * k - 10) = k + (bs_cb 1 w n d (a - 2 - 10 * k - 10) + 1) by omega]
theorem bw_tail_1 (hpw : wOK n w) (ha : 0 ≤ a ∧ a ≤ 200) : ∀ (d : Nat) (M : Nat → Int → Int) (acc : List Ch), d ≤ 7 → mMod M → mRow M n w → mSeq M acc → acc.length + 2 * d ≤ 14 →
    ∃ M', x_M_readsTail_0 867 1 a (d - 1) (bM sl π M G e) = rI 0 (bM sl π M' G e) ∧ fr S_m M M' ∧ mSeq M' (acc ++ (bs_fo 1 w n d (a - 2 - 10 * d) ++ bs_gu 1 w n (a - 2))) := by
  intro d
  induction d with
  | zero =>
    intro M acc hk hM hw hl hlen
    rw [x_M_readsTail_0_eq, if_pos (by omega)]
    rw [if_neg (by decide)]
    exact ⟨M, rfl, fr_refl, by simpa [bs_fo, bs_gu] using hl⟩
  | succ d ih =>
    intro M acc hk hM hw hl hlen
    have e0 : ((d + 1 : Nat) : Int) - 1 = d := by omega
    have e1 : wr (wr (a - 12) - wr (10 * (d : Int))) = a - 2 - 10 * ((d + 1 : Nat) : Int) := by rw [wr_id (x := a - 12) (by omega), wr_id (x := 10 * (d : Int)) (by omega), wr_id (by omega)]; omega
    have e2 : wr ((d : Int) + -1) = (d : Int) - 1 := by rw [wr_id (by omega)]; omega
    have hul := (bs_un_len (s := 1) (w := w) (n := n) (a := a - 2 - 10 * ((d + 1 : Nat) : Int))).1 rfl
    rw [show bs_un 1 w n (a - 2 - 10 * ((d + 1 : Nat) : Int)) = bs_unI w n (a - 2 - 10 * ((d + 1 : Nat) : Int)) from rfl] at hul
    obtain ⟨M1, g1, f1, l1⟩ := bw_pair (sl := sl) (e := e) (π := π) (G := G) hM hw hpw hl (a := a - 2 - 10 * ((d + 1 : Nat) : Int)) (by omega) (by omega)
    obtain ⟨hM1, w1⟩ := keep_m f1 hM hw
    rw [e0, x_M_readsTail_0_eq, if_neg (by omega), if_neg (by decide), if_pos rfl, e1, e2, g1]
    simp only [ci_r]
    obtain ⟨M3, g3, f3, l3⟩ := ih M1 _ (by omega) hM1 w1 l1 (by rw [List.length_append]; omega)
    rw [g3]
    refine ⟨M3, rfl, fr_trans f1 f3, ?_⟩
    rw [bs_fo, show bs_us 1 = 10 from rfl, show bs_un 1 w n (a - 2 - 10 * ((d + 1 : Nat) : Int)) = bs_unI w n (a - 2 - 10 * ((d + 1 : Nat) : Int)) from rfl, show a - 2 - 10 * ((d + 1 : Nat) : Int) + 10 = a - 2 - 10 * (d : Int) by omega, List.append_assoc]
    rw [List.append_assoc] at l3
    exact l3
theorem bw_head_2 (hpw : wOK n w) (ha : 0 ≤ a ∧ a ≤ 200) : ∀ (d k : Nat) (M : Nat → Int → Int) (acc : List Ch), k + d = 14 → mMod M → mRow M n w → mSeq M acc → acc.length + d + 1 ≤ 16 →
    ∃ M', x_M_readsHead_2 867 a k (bM sl π M G e) = rI 0 (bM sl π M' G e) ∧ fr S_m M M' ∧ mSeq M' (acc ++ bs_up 2 w n d (a + 8 + 8 * k)) := by
  intro d
  induction d with
  | zero =>
    intro k M acc hk hM hw hl hlen
    rw [x_M_readsHead_2_eq, if_neg (by omega)]
    exact ⟨M, rfl, fr_refl, by simpa [bs_up] using hl⟩
  | succ d ih =>
    intro k M acc hk hM hw hl hlen
    have e1 : wr (wr (a + 8) + wr (8 * (k : Int))) = a + 8 + 8 * k := by rw [wr_id (x := a + 8) (by omega), wr_id (x := 8 * (k : Int)) (by omega), wr_id (by omega)]
    have e2 : wr ((k : Int) + 1) = ((k + 1 : Nat) : Int) := by rw [wr_id (by omega)]; omega
    have hul := (bs_un_len (s := 2) (w := w) (n := n) (a := a + 8 + 8 * k)).2 (by decide)
    rw [show bs_un 2 w n (a + 8 + 8 * k) = bs_unC w n (a + 8 + 8 * k) from rfl] at hul
    obtain ⟨M1, g1, f1, l1⟩ := bw_sevenC (sl := sl) (e := e) (π := π) (G := G) hM hw hpw hl (a := a + 8 + 8 * k) (by omega) (by omega)
    rw [x_M_readsHead_2_eq, if_pos (by omega), e1, e2, g1]
    simp only [ci_r, bi_eq0]
    rw [bs_up, show bs_un 2 w n (a + 8 + 8 * k) = bs_unC w n (a + 8 + 8 * k) from rfl]
    cases hu : bs_unC w n (a + 8 + 8 * k) with
    | none =>
      rw [if_pos (show (none : Option (List Ch)).isSome = false from rfl)]
      rw [hu] at l1
      exact ⟨M1, rfl, f1, l1⟩
    | some ls =>
      rw [hu] at l1 hul
      have l1 : mSeq M1 (acc ++ ls) := l1
      have hul : ls.length ≤ 1 := hul
      obtain ⟨hM1, w1⟩ := keep_m f1 hM hw
      rw [if_neg (by simp)]
      obtain ⟨M3, g3, f3, l3⟩ := ih (k + 1) M1 (acc ++ ls) (by omega) hM1 w1 l1 (by rw [List.length_append]; omega)
      rw [g3]
      rw [List.append_assoc, show a + 8 + 8 * ((k + 1 : Nat) : Int) = a + 8 + 8 * k + bs_us 2 by rw [show bs_us 2 = 8 from rfl]; omega] at l3
      exact ⟨M3, rfl, fr_trans f1 f3, l3⟩
theorem bw_parts_2 (hpw : wOK n w) (ha : 0 ≤ a ∧ a ≤ 200) : ∀ (d k : Nat) (M : Nat → Int → Int), k + d = 14 → mMod M → mRow M n w →
    ∃ M', x_M_partsTo_0 867 2 a k 1 (bM sl π M G e) = rI ((k + bs_cb 2 w n d (a - 6 - 8 * k) : Nat) : Int) (bM sl π M' G e) ∧ fr S_m M M' := by
  have stop : ∀ (k : Nat) (M : Nat → Int → Int), k ≤ 100 → x_M_partsTo_0 867 2 a (wr ((k : Int) + 0)) 0 (bM sl π M G e) = rI (k : Int) (bM sl π M G e) := by
    intro k M hk
    rw [x_M_partsTo_0_eq, if_pos rfl, Int.add_zero, wr_id (by omega)]
  intro d
  induction d with
  | zero =>
    intro k M hk hM hw
    rw [x_M_partsTo_0_eq, if_neg (by decide), mo_p, if_neg (by decide), if_neg (by decide), if_neg (by omega), stop k _ (by omega)]
    exact ⟨_, rfl, fr_m0⟩
  | succ d ih =>
    intro k M hk hM hw
    have e1 : wr (wr (a - 14) - wr (8 * (k : Int))) = a - 6 - 8 * k - 8 := by rw [wr_id (x := a - 14) (by omega), wr_id (x := 8 * (k : Int)) (by omega), wr_id (by omega)]; omega
    have e2 : wr ((k : Int) + 1) = ((k + 1 : Nat) : Int) := by rw [wr_id (by omega)]; omega
    obtain ⟨hM0, w0⟩ := keep_m (fr_m0 (v := 0)) hM hw
    obtain ⟨M1, g1, f1, l1⟩ := bw_sevenC (sl := sl) (e := e) (π := π) (G := G) hM0 w0 hpw mSeq_0 (a := a - 6 - 8 * k - 8) (by omega) (by decide)
    rw [x_M_partsTo_0_eq, if_neg (by decide), mo_p, if_neg (by decide), if_neg (by decide), if_pos (by omega), e1, e2, g1]
    simp only [ci_r, bi_eq0]
    rw [bs_cb, show bs_us 2 = 8 from rfl, show bs_un 2 w n (a - 6 - 8 * k - 8) = bs_unC w n (a - 6 - 8 * k - 8) from rfl]
    cases hu : (bs_unC w n (a - 6 - 8 * k - 8)).isSome with
    | false =>
      rw [if_pos rfl, stop k _ (by omega), if_neg (by decide)]
      exact ⟨M1, rfl, fr_trans fr_m0 f1⟩
    | true =>
      obtain ⟨hM1, w1⟩ := keep_m f1 hM0 w0
      rw [if_neg (by decide), if_pos rfl]
      obtain ⟨M3, g3, f3⟩ := ih (k + 1) M1 (by omega) hM1 w1
      rw [g3]
      refine ⟨M3, ?_, fr_trans fr_m0 (fr_trans f1 f3)⟩
      rw [show a - 6 - 8 * ((k + 1 : Nat) : Int) = a - 6 - 8 * k - 8 by omega, show k + 1 + bs_cb 2 w n d (a - 6 - 8 * k - 8) = k + (bs_cb 2 w n d (a - 6 - 8 * k - 8) + 1) by omega]
theorem bw_tail_2 (hpw : wOK n w) (ha : 0 ≤ a ∧ a ≤ 200) : ∀ (d : Nat) (M : Nat → Int → Int) (acc : List Ch), d ≤ 14 → mMod M → mRow M n w → mSeq M acc → acc.length + d + 1 ≤ 16 →
    ∃ M', x_M_readsTail_0 867 2 a (d - 1) (bM sl π M G e) = rI 0 (bM sl π M' G e) ∧ fr S_m M M' ∧ mSeq M' (acc ++ (bs_fo 2 w n d (a - 6 - 8 * d) ++ bs_gu 2 w n (a - 6))) := by
  intro d
  induction d with
  | zero =>
    intro M acc hk hM hw hl hlen
    rw [x_M_readsTail_0_eq, if_pos (by omega)]
    rw [if_pos rfl, wr_id (x := a - 6) (by omega)]
    obtain ⟨M1, g1, f1, l1⟩ := bw_sevenL (sl := sl) (e := e) (π := π) (G := G) hM hw hpw hl (a := a - 6) (by omega) (by omega)
    rw [g1]
    exact ⟨M1, rfl, f1, l1⟩
  | succ d ih =>
    intro M acc hk hM hw hl hlen
    have e0 : ((d + 1 : Nat) : Int) - 1 = d := by omega
    have e1 : wr (wr (a - 14) - wr (8 * (d : Int))) = a - 6 - 8 * ((d + 1 : Nat) : Int) := by rw [wr_id (x := a - 14) (by omega), wr_id (x := 8 * (d : Int)) (by omega), wr_id (by omega)]; omega
    have e2 : wr ((d : Int) + -1) = (d : Int) - 1 := by rw [wr_id (by omega)]; omega
    have hul := (bs_un_len (s := 2) (w := w) (n := n) (a := a - 6 - 8 * ((d + 1 : Nat) : Int))).2 (by decide)
    rw [show bs_un 2 w n (a - 6 - 8 * ((d + 1 : Nat) : Int)) = bs_unC w n (a - 6 - 8 * ((d + 1 : Nat) : Int)) from rfl] at hul
    obtain ⟨M1, g1, f1, l1⟩ := bw_sevenC (sl := sl) (e := e) (π := π) (G := G) hM hw hpw hl (a := a - 6 - 8 * ((d + 1 : Nat) : Int)) (by omega) (by omega)
    obtain ⟨hM1, w1⟩ := keep_m f1 hM hw
    rw [e0, x_M_readsTail_0_eq, if_neg (by omega), if_neg (by decide), if_neg (by decide), e1, e2, g1]
    simp only [ci_r]
    obtain ⟨M3, g3, f3, l3⟩ := ih M1 _ (by omega) hM1 w1 l1 (by rw [List.length_append]; omega)
    rw [g3]
    refine ⟨M3, rfl, fr_trans f1 f3, ?_⟩
    rw [bs_fo, show bs_us 2 = 8 from rfl, show bs_un 2 w n (a - 6 - 8 * ((d + 1 : Nat) : Int)) = bs_unC w n (a - 6 - 8 * ((d + 1 : Nat) : Int)) from rfl, show a - 6 - 8 * ((d + 1 : Nat) : Int) + 8 = a - 6 - 8 * (d : Int) by omega, List.append_assoc]
    rw [List.append_assoc] at l3
    exact l3
end
