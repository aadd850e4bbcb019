/-! UNITS, GUARDS, BEGINNINGS AND ENDS: the class -/
section
variable {sl e : Nat} {π : Int → Nat} {M G : Nat → Int → Int} {r q : Nat} {n a : Int} {w : Int → Int} {l : List Ch}
theorem bc_dig0 {x y : Int} {μ : bz_M} (hx : 0 ≤ x ∧ x ≤ 7) (hy : 0 ≤ y ∧ y ≤ 7) : x_Ean_digitOf x y 0 μ = rI (bs_dig (10 * x + y) false) μ := by
  rw [x_Ean_digitOf_eq]
  simp (disch := first | assumption | exact row_d (by assumption) | exact seq_d (by assumption) | exact rdg_d (by assumption) | exact tal_d (by assumption) | omega) only [wr_id]
  unfold bs_dig
  repeat' split
  all_goals first
    | rfl
    | contradiction
    | omega
theorem bc_dig1 {x y : Int} {μ : bz_M} (hx : 0 ≤ x ∧ x ≤ 7) (hy : 0 ≤ y ∧ y ≤ 7) : x_Ean_digitOf x y 1 μ = rI (bs_dig (10 * x + y) true) μ := by
  rw [x_Ean_digitOf_eq]
  simp (disch := first | assumption | exact row_d (by assumption) | exact seq_d (by assumption) | exact rdg_d (by assumption) | exact tal_d (by assumption) | omega) only [wr_id]
  unfold bs_dig
  repeat' split
  all_goals first
    | rfl
    | contradiction
    | omega
theorem bc_abs {x : Int} {μ : bz_M} (hx : -2147483647 ≤ x ∧ x ≤ 2147483647) : x_Mth_abs x μ = rI (bs_ab x) μ := by
  rw [x_Mth_abs_eq]
  simp (disch := first | assumption | exact row_d (by assumption) | exact seq_d (by assumption) | exact rdg_d (by assumption) | exact tal_d (by assumption) | omega) only [wr_id]
  unfold bs_ab
  split <;> rfl
theorem bc_max {x y : Int} {μ : bz_M} : x_Mth_max x y μ = rI (bs_mx x y) μ := by
  rw [x_Mth_max_eq]
  unfold bs_mx
  split <;> rfl
def bs_mn (x y : Int) : Int := if y < x then y else x
theorem bc_min {x y : Int} {μ : bz_M} : x_Mth_min x y μ = rI (bs_mn x y) μ := by
  rw [x_Mth_min_eq]
  unfold bs_mn
  split <;> rfl
theorem dvE {x s : Int} {k : Int → Option bz_R} (hs : 0 < s ∧ s ≤ 1000000) (hx : 0 ≤ x ∧ x ≤ s) : bz_dv (14 * x + s) (2 * s) k = k (bs_e x s) := by
  rw [dv_r (by omega), show Int.tdiv (14 * x + s) (2 * s) = bs_e x s from rfl, wr_id]
  have := bs_e_bd hs.1 hx
  omega
theorem dvC {m s : Int} {k : Int → Option bz_R} (hs : 0 < s ∧ s ≤ 1000000) (hm : 0 ≤ m ∧ 2 * m ≤ s) : bz_dv (200 * m) s k = k (Int.tdiv (200 * m) s) := by
  rw [dv_r (by omega), wr_id]
  have := bs_cE_bd hs.1 hm
  omega
set_option maxHeartbeats 1600000 in
theorem bc_unE {x0 : Nat} (hr : aRow r) (hw : rRow M r n w) (hpw : wOK n w) (hq : aSeq q) (hl : rSeq M q l) (hab : -50000 ≤ a ∧ a ≤ 50000) (hlen : l.length + 1 ≤ 16) :
    ∃ M', x_Ean_addUnit x0 r a q (bM sl π M G e) = rI (bi (bs_unE w n a).isSome) (bM sl π M' G e) ∧ fr (S_u r q) M M' ∧ rSeq M' q (l ++ (bs_unE w n a).getD []) := by
  rw [x_Ean_addUnit_eq, bc_has hr hw.2.1 (by omega)]
  simp only [ci_r, bi_eq0]
  unfold bs_unE
  have hn := hw.1
  by_cases q1 : 0 ≤ a ∧ a + 4 ≤ n
  · have g0 := hw.2.2 a (by omega)
    have g1 := hw.2.2 (a + 1) (by omega)
    have g2 := hw.2.2 (a + 2) (by omega)
    have g3 := hw.2.2 (a + 3) (by omega)
    have p0 := hpw a (by omega)
    have p1 := hpw (a + 1) (by omega)
    have p2 := hpw (a + 2) (by omega)
    have p3 := hpw (a + 3) (by omega)
    have i1 : wr (a + 1) = a + 1 := wr_id (by omega)
    have i2 : wr (a + 2) = a + 2 := wr_id (by omega)
    have i3 : wr (a + 3) = a + 3 := wr_id (by omega)
    rw [if_pos q1, decide_eq_true q1, if_neg (by decide), i1, i2, i3]
    rw [row_w hr, row_r hr (by omega), g0, row_w hr, row_r hr (by omega), g1, row_w hr, row_r hr (by omega), g1, row_w hr, row_r hr (by omega), g2, row_w hr, row_r hr (by omega), g2, row_w hr, row_r hr (by omega), g3]
    dsimp only
    generalize w a = A at *
    generalize w (a + 1) = B at *
    generalize w (a + 2) = C at *
    generalize w (a + 3) = D at *
    have s1 : wr (A + B) = A + B := wr_id (by omega)
    have s2 : wr (B + C) = B + C := wr_id (by omega)
    have s3 : wr (A + B + C) = A + B + C := wr_id (by omega)
    have s4 : wr (A + B + C + D) = A + B + C + D := wr_id (by omega)
    have s5 : wr (14 * (A + B)) = 14 * (A + B) := wr_id (by omega)
    have s6 : wr (14 * (B + C)) = 14 * (B + C) := wr_id (by omega)
    have s7 : wr (7 * (A + B)) = 7 * (A + B) := wr_id (by omega)
    have s8 : wr (7 * (B + C)) = 7 * (B + C) := wr_id (by omega)
    have s9 : wr (7 * (A + C)) = 7 * (A + C) := wr_id (by omega)
    have s0 : wr (A + C) = A + C := wr_id (by omega)
    rw [s1, s2, s3, s4, s5, s6]
    obtain ⟨S, hS⟩ : ∃ S, S = A + B + C + D := ⟨_, rfl⟩
    rw [← hS]
    have t1 : wr (14 * (A + B) + S) = 14 * (A + B) + S := wr_id (by omega)
    have t2 : wr (14 * (B + C) + S) = 14 * (B + C) + S := wr_id (by omega)
    have t3 : wr (2 * S) = 2 * S := wr_id (by omega)
    have t4 : wr (3 * S) = 3 * S := wr_id (by omega)
    rw [t1, t2, t3, if_neg (by omega), dvE (by omega) (by omega), dvE (by omega) (by omega)]
    rw [row_w hr, row_r hr (by omega), g0, row_w hr, row_r hr (by omega), g2, s0, s9, t4, s7, s8]
    have e1 := bs_e_bd (x := A + B) (s := S) (by omega) (by omega)
    have e2 := bs_e_bd (x := B + C) (s := S) (by omega) (by omega)
    have m1 := bs_ms_bd (x := A + B) (s := S) (by omega) (by omega)
    have m2 := bs_ms_bd (x := B + C) (s := S) (by omega) (by omega)
    have m3 : 0 ≤ bs_mx (bs_ms (A + B) S) (bs_ms (B + C) S) ∧ 2 * bs_mx (bs_ms (A + B) S) (bs_ms (B + C) S) ≤ S := by
      unfold bs_mx; split <;> omega
    have m4 := bs_cE_bd (s := S) (by omega) m3
    have u1 : wr (bs_e (A + B) S * S) = bs_e (A + B) S * S := wr_id (by omega)
    have u2 : wr (bs_e (B + C) S * S) = bs_e (B + C) S * S := wr_id (by omega)
    have u3 : wr (7 * (A + B) - bs_e (A + B) S * S) = 7 * (A + B) - bs_e (A + B) S * S := wr_id (by omega)
    have u4 : wr (7 * (B + C) - bs_e (B + C) S * S) = 7 * (B + C) - bs_e (B + C) S * S := wr_id (by omega)
    rw [u1, u2, u3, u4, bc_dig0 e1.1 e2.1, bc_dig1 e1.1 e2.1]
    have ab1 : ∀ μ, x_Mth_abs (7 * (A + B) - bs_e (A + B) S * S) μ = rI (bs_ms (A + B) S) μ := fun μ => bc_abs (by omega)
    have ab2 : ∀ μ, x_Mth_abs (7 * (B + C) - bs_e (B + C) S * S) μ = rI (bs_ms (B + C) S) μ := fun μ => bc_abs (by omega)
    simp only [ci_r, bc_max, ab1, ab2]
    have v1 : wr (200 * bs_mx (bs_ms (A + B) S) (bs_ms (B + C) S)) = 200 * bs_mx (bs_ms (A + B) S) (bs_ms (B + C) S) := wr_id (by omega)
    rw [v1]
    have fin : ∀ g : Int, g ≠ -1 → ∃ M', bz_dv (200 * bs_mx (bs_ms (A + B) S) (bs_ms (B + C) S)) S (fun v29 => bz_cv (d_Seq_add q g (wr (100 - v29)) (bM sl π M G e)) fun μ30 => rI 1 μ30) = rI (bi (some [(g, 100 - Int.tdiv (200 * bs_mx (bs_ms (A + B) S) (bs_ms (B + C) S)) S)]).isSome) (bM sl π M' G e) ∧ fr (S_u r q) M M' ∧ rSeq M' q (l ++ (some [(g, 100 - Int.tdiv (200 * bs_mx (bs_ms (A + B) S) (bs_ms (B + C) S)) S)]).getD []) := by
      intro g hg
      rw [dvC (by omega) m3, wr_id (by omega)]
      obtain ⟨M1, h1, f1, s1⟩ := bc_Seq_add (sl := sl) (e := e) (π := π) (G := G) hq hl (by omega) g (100 - Int.tdiv (200 * bs_mx (bs_ms (A + B) S) (bs_ms (B + C) S)) S)
      rw [h1]
      exact ⟨M1, rfl, fr_mono (fun b j z => Or.inr z) f1, s1⟩
    have fin0 : ∃ M', rI 0 (bM sl π M G e) = rI (bi (none : Option (List Ch)).isSome) (bM sl π M' G e) ∧ fr (S_u r q) M M' ∧ rSeq M' q (l ++ (none : Option (List Ch)).getD []) := ⟨M, rfl, fr_refl, by simpa using hl⟩
    by_cases q2 : 7 * (A + C) < 3 * S
    · rw [if_pos q2, decide_eq_false (by omega)]
      by_cases q3 : bs_dig (10 * bs_e (A + B) S + bs_e (B + C) S) false = -1
      · rw [if_pos q3, if_pos q3]; exact fin0
      · rw [if_neg q3, if_neg q3]; exact fin _ q3
    · rw [if_neg q2, decide_eq_true (by omega)]
      by_cases q3 : bs_dig (10 * bs_e (A + B) S + bs_e (B + C) S) true = -1
      · rw [if_pos q3, if_pos q3]; exact fin0
      · rw [if_neg q3, if_neg q3]; exact fin _ q3
  · rw [if_neg q1, decide_eq_false q1, if_pos rfl]
    exact ⟨M, rfl, fr_refl, by simpa using hl⟩
theorem bc_unC {x0 : Nat} (hM : mCon M) (hr : aRow r) (hw : rRow M r n w) (hpw : wOK n w) (hq : aSeq q) (hl : rSeq M q l) (hab : -50000 ≤ a ∧ a ≤ 50000) (hlen : l.length + 1 ≤ 16) :
    ∃ M', x_Cod_addUnit x0 r a q (bM sl π M G e) = rI (bi (bs_unC w n a).isSome) (bM sl π M' G e) ∧ fr (S_u r q) M M' ∧ rSeq M' q (l ++ (bs_unC w n a).getD []) := by
  obtain ⟨M1, h1, f1, c1⟩ := bc_match7 (sl := sl) (e := e) (π := π) (G := G) hM hr hw hpw (a := a) (by omega)
  have f1' : fr (S_u r q) M M1 := fr_mono (fun b j z => Or.inl z) f1
  have l1 : rSeq M1 q l := rSeq_fr hl f1 (fun b j z y => (aRS hr hq).1 (by rw [← y.1]; exact z))
  rw [x_Cod_addUnit_eq, h1]
  simp only [ci_r]
  unfold bs_unC
  rw [show bs_rd w n a 1 7 bs_P7 20 = bs_v7 w n a from rfl] at c1 ⊢
  by_cases q1 : bs_v7 w n a < 0
  · rw [if_pos q1, if_pos q1]
    exact ⟨M1, rfl, f1', by simpa using l1⟩
  · rw [if_neg q1, if_neg q1]
    by_cases q2 : bs_v7 w n a < 16
    · rw [if_pos q2, if_pos q2, row_I hr, c1 (by omega)]
      obtain ⟨M2, h2, f2, l2⟩ := bc_Seq_add (sl := sl) (e := e) (π := π) (G := G) hq l1 (by omega) (bs_v7 w n a) (bs_cf (bs_u w a 1) 7)
      rw [h2]
      exact ⟨M2, rfl, fr_trans f1' (fr_mono (fun b j z => Or.inr z) f2), l2⟩
    · rw [if_neg q2, if_neg q2]
      exact ⟨M1, rfl, f1', by simpa using l1⟩
theorem bc_unI {x0 : Nat} (hM : mCon M) (hr : aRow r) (hw : rRow M r n w) (hpw : wOK n w) (hq : aSeq q) (hl : rSeq M q l) (hab : -50000 ≤ a ∧ a ≤ 50000) (hlen : l.length + 2 ≤ 16) :
    ∃ M', x_Int_addUnit x0 r a q (bM sl π M G e) = rI (bi (bs_unI w n a).isSome) (bM sl π M' G e) ∧ fr (S_u r q) M M' ∧ rSeq M' q (l ++ (bs_unI w n a).getD []) := by
  have hri := aRow_in hr
  have hRS := aRS hr hq
  obtain ⟨M1, h1, f1, c1⟩ := bc_match5 (sl := sl) (e := e) (π := π) (G := G) hM hr hw hpw (a := a) (by omega)
  have w1 : rRow M1 r n w := rRow_fr hw f1 (fun z => absurd z.2 (by decide)) (fun j z => absurd z.1 (by omega))
  have hM1 : mCon M1 := mCon_fr hM f1 (fun b j z => by have := z.1; omega)
  obtain ⟨M2, h2, f2, c2⟩ := bc_match5 (sl := sl) (e := e) (π := π) (G := G) hM1 hr w1 hpw (a := a + 1) (by omega)
  have f12 : fr (S_1 r) M M2 := fr_trans f1 f2
  have f1' : fr (S_u r q) M M2 := fr_mono (fun b j z => Or.inl z) f12
  have l1 : rSeq M2 q l := rSeq_fr hl f12 (fun b j z y => hRS.1 (by rw [← y.1]; exact z))
  rw [x_Int_addUnit_eq, h1]
  simp (disch := first | assumption | exact row_d (by assumption) | exact seq_d (by assumption) | exact rdg_d (by assumption) | exact tal_d (by assumption) | omega) only [ci_r, row_I, wr_id]
  rw [h2]
  simp only [ci_r]
  unfold bs_unI
  by_cases q1 : bs_rd w n a 2 5 bs_P5 10 = -1
  · rw [if_pos q1, if_pos q1]
    exact ⟨M2, rfl, f1', by simpa using l1⟩
  · rw [if_neg q1, if_neg q1]
    by_cases q2 : bs_rd w n (a + 1) 2 5 bs_P5 10 = -1
    · rw [if_pos q2, if_pos q2]
      exact ⟨M2, rfl, f1', by simpa using l1⟩
    · rw [if_neg q2, if_neg q2, c1 q1]
      obtain ⟨M3, h3, f3, l3⟩ := bc_Seq_add (sl := sl) (e := e) (π := π) (G := G) hq l1 (by omega) (bs_rd w n a 2 5 bs_P5 10) (bs_cf (bs_u w a 2) 5)
      have e3 : M3 r 2 = bs_cf (bs_u w (a + 1) 2) 5 := (f3 r 2 (fun z => hRS.1 z)).trans (c2 q2)
      rw [h3]
      simp (disch := first | assumption | exact row_d (by assumption) | exact seq_d (by assumption) | exact rdg_d (by assumption) | exact tal_d (by assumption) | omega) only [cv_r, row_I]
      rw [e3]
      obtain ⟨M4, h4, f4, l4⟩ := bc_Seq_add (sl := sl) (e := e) (π := π) (G := G) hq l3 (by rw [List.length_append]; simp; omega) (bs_rd w n (a + 1) 2 5 bs_P5 10) (bs_cf (bs_u w (a + 1) 2) 5)
      rw [h4]
      refine ⟨M4, rfl, fr_trans f1' (fr_mono (fun b j z => Or.inr z) (fr_trans f3 f4)), ?_⟩
      rw [List.append_assoc] at l4
      exact l4
end
