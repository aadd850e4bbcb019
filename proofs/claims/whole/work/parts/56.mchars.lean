/-! THE MODEL'S DIGITS, PAIRS AND SEVENS -/
section
variable {sl e : Nat} {π : Int → Nat} {M G : Nat → Int → Int} {n a : Int} {w : Int → Int} {l : List Ch}
theorem bw_dig0 {x y : Int} {μ : bz_M} (hx : 0 ≤ x ∧ x ≤ 7) (hy : 0 ≤ y ∧ y ≤ 7) : x_M_digitBy x y 0 μ = rI (bs_dig (10 * x + y) false) μ := by
  rw [x_M_digitBy_eq]
  simp (disch := first | assumption | exact row_d (by assumption) | exact seq_d (by assumption) | exact rdg_d (by assumption) | exact tal_d (by assumption) | omega) only [wr_id]
  unfold bs_dig
  repeat' split
  all_goals first
    | rfl
    | contradiction
    | omega
theorem bw_dig1 {x y : Int} {μ : bz_M} (hx : 0 ≤ x ∧ x ≤ 7) (hy : 0 ≤ y ∧ y ≤ 7) : x_M_digitBy x y 1 μ = rI (bs_dig (10 * x + y) true) μ := by
  rw [x_M_digitBy_eq]
  simp (disch := first | assumption | exact row_d (by assumption) | exact seq_d (by assumption) | exact rdg_d (by assumption) | exact tal_d (by assumption) | omega) only [wr_id]
  unfold bs_dig
  repeat' split
  all_goals first
    | rfl
    | contradiction
    | omega
theorem bw_rounded {t s : Int} {μ : bz_M} (hs : 0 < s ∧ s ≤ 1000000) (ht : 0 ≤ t ∧ t ≤ s) : x_M_rounded (7 * t) s μ = rI (bs_e t s) μ := by
  rw [x_M_rounded_eq, wr_id (x := 2 * (7 * t)) (by omega), wr_id (x := 2 * (7 * t) + s) (by omega), wr_id (x := 2 * s) (by omega), show 2 * (7 * t) = 14 * t by omega, dvE hs ht]
theorem bw_apart {x y : Int} {μ : bz_M} (hx : -1000000 ≤ x ∧ x ≤ 1000000) (hy : -1000000 ≤ y ∧ y ≤ 1000000) : x_M_apart x y μ = rI (bs_ab (x - y)) μ := by
  rw [x_M_apart_eq, wr_id (by omega), wr_id (by omega)]
  unfold bs_ab
  by_cases q : y < x
  · rw [if_pos q, if_neg (by omega)]
  · rw [if_neg q]
    by_cases q2 : x - y < 0
    · rw [if_pos q2, show -(x - y) = y - x by omega]
    · rw [if_neg q2, show y - x = x - y by omega]
theorem bw_digit (hM : mMod M) (hw : mRow M n w) (hpw : wOK n w) (hl : mSeq M l) (hab : -50000 ≤ a ∧ a ≤ 50000) (hlen : l.length + 1 ≤ 16) :
    ∃ M', d_M_readsDigit 867 a (bM sl π M G e) = rI (bi (bs_unE w n a).isSome) (bM sl π M' G e) ∧ fr S_m M M' ∧ mSeq M' (l ++ (bs_unE w n a).getD []) := by
  rw [d_M_readsDigit_10 _ _ _ mo_d, x_M_readsDigit_eq, bw_exists hw.2.1 (by omega)]
  simp only [ci_r, bi_eq0]
  unfold bs_unE
  have hn := hw.1
  by_cases q1 : 0 ≤ a ∧ a + 4 ≤ n
  · have g0 := hw.2.2 a (by omega)
    have g1 := hw.2.2 (a + 1) (by omega)
    have g2 := hw.2.2 (a + 2) (by omega)
    have g3 := hw.2.2 (a + 3) (by omega)
    have p0 := hpw a (by omega)
    have p1 := hpw (a + 1) (by omega)
    have p2 := hpw (a + 2) (by omega)
    have p3 := hpw (a + 3) (by omega)
    have i1 : wr (a + 1) = a + 1 := wr_id (by omega)
    have i2 : wr (a + 2) = a + 2 := wr_id (by omega)
    have i3 : wr (a + 3) = a + 3 := wr_id (by omega)
    rw [if_pos q1, decide_eq_true q1, if_neg (by decide), i1, i2, i3]
    rw [mo_R15, mo_r878 (by omega), g0, mo_R15, mo_r878 (by omega), g1, mo_R15, mo_r878 (by omega), g2, mo_R15, mo_r878 (by omega), g3]
    rw [mo_R15, mo_r878 (by omega), g0, mo_R15, mo_r878 (by omega), g1, mo_R15, mo_r878 (by omega), g1, mo_R15, mo_r878 (by omega), g2]
    dsimp only
    generalize w a = A at *
    generalize w (a + 1) = B at *
    generalize w (a + 2) = C at *
    generalize w (a + 3) = D at *
    have s1 : wr (A + B) = A + B := wr_id (by omega)
    have s2 : wr (B + C) = B + C := wr_id (by omega)
    have s3 : wr (A + B + C) = A + B + C := wr_id (by omega)
    have s4 : wr (A + B + C + D) = A + B + C + D := wr_id (by omega)
    have s7 : wr (7 * (A + B)) = 7 * (A + B) := wr_id (by omega)
    have s8 : wr (7 * (B + C)) = 7 * (B + C) := wr_id (by omega)
    have s9 : wr (7 * (A + C)) = 7 * (A + C) := wr_id (by omega)
    have s0 : wr (A + C) = A + C := wr_id (by omega)
    rw [s1, s2, s3, s4, s7, s8]
    obtain ⟨S, hS⟩ : ∃ S, S = A + B + C + D := ⟨_, rfl⟩
    rw [← hS]
    have t4 : wr (3 * S) = 3 * S := wr_id (by omega)
    rw [bw_rounded (by omega) (by omega)]
    simp only [ci_r]
    rw [bw_rounded (by omega) (by omega)]
    simp only [ci_r]
    rw [mo_R15, mo_r878 (by omega), g0, mo_R15, mo_r878 (by omega), g2, s0, s9, t4]
    have e1 := bs_e_bd (x := A + B) (s := S) (by omega) (by omega)
    have e2 := bs_e_bd (x := B + C) (s := S) (by omega) (by omega)
    have m1 := bs_ms_bd (x := A + B) (s := S) (by omega) (by omega)
    have m2 := bs_ms_bd (x := B + C) (s := S) (by omega) (by omega)
    have m3 : 0 ≤ bs_mx (bs_ms (A + B) S) (bs_ms (B + C) S) ∧ 2 * bs_mx (bs_ms (A + B) S) (bs_ms (B + C) S) ≤ S := by
      unfold bs_mx; split <;> omega
    have m4 := bs_cE_bd (s := S) (by omega) m3
    have u1 : wr (bs_e (A + B) S * S) = bs_e (A + B) S * S := wr_id (by omega)
    have u2 : wr (bs_e (B + C) S * S) = bs_e (B + C) S * S := wr_id (by omega)
    have ab1 : ∀ μ, x_M_apart (7 * (A + B)) (bs_e (A + B) S * S) μ = rI (bs_ms (A + B) S) μ := fun μ => bw_apart (by omega) (by omega)
    have ab2 : ∀ μ, x_M_apart (7 * (B + C)) (bs_e (B + C) S * S) μ = rI (bs_ms (B + C) S) μ := fun μ => bw_apart (by omega) (by omega)
    have v1 : wr (200 * bs_ms (A + B) S) = 200 * bs_ms (A + B) S := wr_id (by omega)
    have v2 : wr (200 * bs_ms (B + C) S) = 200 * bs_ms (B + C) S := wr_id (by omega)
    rw [u1, u2, bw_dig0 e1.1 e2.1, bw_dig1 e1.1 e2.1]
    simp only [ci_r, ab1, ab2, v1, v2]
    have fin : ∀ g : Int, 0 ≤ g ∧ g < 10 → ∃ M', (if bs_ms (B + C) S < bs_ms (A + B) S then bz_dv (200 * bs_ms (A + B) S) S (fun v33 => bz_cv (d_M_signsOne 867 (wr (48 + g)) (wr (100 - v33)) (bM sl π M G e)) fun μ34 => rI 1 μ34) else bz_dv (200 * bs_ms (B + C) S) S (fun v33 => bz_cv (d_M_signsOne 867 (wr (48 + g)) (wr (100 - v33)) (bM sl π M G e)) fun μ34 => rI 1 μ34)) = rI (bi (some [(g, 100 - Int.tdiv (200 * bs_mx (bs_ms (A + B) S) (bs_ms (B + C) S)) S)]).isSome) (bM sl π M' G e) ∧ fr S_m M M' ∧ mSeq M' (l ++ (some [(g, 100 - Int.tdiv (200 * bs_mx (bs_ms (A + B) S) (bs_ms (B + C) S)) S)]).getD []) := by
      intro g hg
      have hmx : ∀ k : Int → Option bz_R, (if bs_ms (B + C) S < bs_ms (A + B) S then k (bs_ms (A + B) S) else k (bs_ms (B + C) S)) = k (bs_mx (bs_ms (A + B) S) (bs_ms (B + C) S)) := by
        intro k
        unfold bs_mx
        by_cases z1 : bs_ms (B + C) S < bs_ms (A + B) S
        · rw [if_pos z1, if_neg (by omega)]
        · rw [if_neg z1]
          by_cases z2 : bs_ms (A + B) S < bs_ms (B + C) S
          · rw [if_pos z2]
          · rw [if_neg z2, show bs_ms (B + C) S = bs_ms (A + B) S by omega]
      rw [hmx (fun m => bz_dv (200 * m) S (fun v33 => bz_cv (d_M_signsOne 867 (wr (48 + g)) (wr (100 - v33)) (bM sl π M G e)) fun μ34 => rI 1 μ34))]
      rw [dvC (by omega) m3, wr_id (by omega), wr_id (by omega)]
      obtain ⟨M1, h1, f1, -, s1⟩ := bw_signsOne (sl := sl) (e := e) (π := π) (G := G) hl (by omega) g (100 - Int.tdiv (200 * bs_mx (bs_ms (A + B) S) (bs_ms (B + C) S)) S) (48 + g) (al_d hg).symm
      rw [h1]
      exact ⟨M1, rfl, f1, s1⟩
    have fin0 : ∃ M', rI 0 (bM sl π M G e) = rI (bi (none : Option (List Ch)).isSome) (bM sl π M' G e) ∧ fr S_m M M' ∧ mSeq M' (l ++ (none : Option (List Ch)).getD []) := ⟨M, rfl, fr_refl, by simpa using hl⟩
    by_cases q2 : 7 * (A + C) < 3 * S
    · rw [if_pos q2, decide_eq_false (by omega)]
      have hb := bs_dig_bd (k := 10 * bs_e (A + B) S + bs_e (B + C) S) (b := false)
      by_cases q3 : bs_dig (10 * bs_e (A + B) S + bs_e (B + C) S) false = -1
      · rw [if_pos q3, if_pos q3]; exact fin0
      · rw [if_neg q3, if_neg q3]; exact fin _ (by omega)
    · rw [if_neg q2, decide_eq_true (by omega)]
      have hb := bs_dig_bd (k := 10 * bs_e (A + B) S + bs_e (B + C) S) (b := true)
      by_cases q3 : bs_dig (10 * bs_e (A + B) S + bs_e (B + C) S) true = -1
      · rw [if_pos q3, if_pos q3]; exact fin0
      · rw [if_neg q3, if_neg q3]; exact fin _ (by omega)
  · rw [if_neg q1, decide_eq_false q1, if_pos rfl]
    exact ⟨M, rfl, fr_refl, by simpa using hl⟩
theorem bw_wides_1 {u : Nat → Int} {c : Nat} {s lo hi : Int} (hs : s = 1 ∨ s = 2) (h0 : 0 < c) (hc : c ≤ 7) (ha : 0 ≤ a ∧ a + s * (c - 1) < 129) (hb : ∀ k, k < c → 1 ≤ u k ∧ u k ≤ 10000) (hlo : 1 ≤ lo ∧ lo ≤ hi ∧ hi ≤ 10000) : ∀ (d m : Nat) (M : Nat → Int → Int), m + d = c → (∀ k : Nat, k < c → M 878 (a + s * k) = u k) → M 867 20 = bs_bits u (lo + hi) m →
    ∃ (M' : Nat → Int → Int) (q : Int), (q = Int.tdiv (150 * (bs_lw u (lo + hi) hi c - bs_gn u (lo + hi) lo c)) (bs_lw u (lo + hi) hi c)) ∧ x_M_readsWides_1 867 a c s lo hi (bs_lw u (lo + hi) hi m) (bs_gn u (lo + hi) lo m) m (bM sl π M G e) = rI 1 (bM sl π M' G e) ∧ fr S_w M M' ∧ M' 867 20 = bs_bits u (lo + hi) c ∧ M' 867 21 = (if 100 < q then 100 else q) := by
  intro d
  induction d with
  | zero =>
    intro m M hm hu h20
    have e1 : m = c := by omega
    subst e1
    have h4 := bs_lw_bd (t := lo + hi) hb (h := hi) (by omega) (by omega) m (Nat.le_refl _)
    have h5 := bs_gn_bd (t := lo + hi) hb (l := lo) (by omega) (by omega) m (Nat.le_refl _)
    have h6 := tdiv_bd (B := 1500000) (v := bs_lw u (lo + hi) hi m) (x := 150 * (bs_lw u (lo + hi) hi m - bs_gn u (lo + hi) lo m)) (by omega) (by omega)
    have i1 : wr (bs_lw u (lo + hi) hi m - bs_gn u (lo + hi) lo m) = bs_lw u (lo + hi) hi m - bs_gn u (lo + hi) lo m := wr_id (by omega)
    have i2 : wr (150 * (bs_lw u (lo + hi) hi m - bs_gn u (lo + hi) lo m)) = 150 * (bs_lw u (lo + hi) hi m - bs_gn u (lo + hi) lo m) := wr_id (by omega)
    rw [x_M_readsWides_1_eq, if_neg (by omega), dv_r (by omega), i1, i2, wr_id (by omega), mo_p, mo_I, mo_I, mo_p, mo_p, up_s]
    generalize hq : Int.tdiv (150 * (bs_lw u (lo + hi) hi m - bs_gn u (lo + hi) lo m)) (bs_lw u (lo + hi) hi m) = q at *
    by_cases z : 100 < q
    · rw [if_pos z]
      refine ⟨_, q, rfl, rfl, fr_up ⟨rfl, Or.inr rfl⟩ (fr_up ⟨rfl, Or.inr rfl⟩ fr_refl), ?_, ?_⟩
      · rw [up_i (by decide), up_i (by decide)]; exact h20
      · rw [if_pos z, up_s]
    · rw [if_neg z]
      refine ⟨_, q, rfl, rfl, fr_up ⟨rfl, Or.inr rfl⟩ (fr_up ⟨rfl, Or.inr rfl⟩ fr_refl), ?_, ?_⟩
      · rw [up_i (by decide), up_i (by decide)]; exact h20
      · rw [if_neg z, up_s]
  | succ d ih =>
    intro m M hm hu h20
    have h1 := bs_bits_bd (u := u) (t := lo + hi) m
    have h1' : ((2 ^ m : Nat) : Int) ≤ ((2 ^ 7 : Nat) : Int) := by exact_mod_cast Nat.pow_le_pow_right (by decide) (by omega)
    have h1'' : ((2 ^ 7 : Nat) : Int) = 128 := by decide
    have h3 := hb m (by omega)
    have h4 := hu m (by omega)
    have e3 : 0 ≤ a + s * m ∧ a + s * m < 129 := by rcases hs with rfl | rfl <;> omega
    have e5 : wr (s * (m : Int)) = s * m := wr_id (by rcases hs with rfl | rfl <;> omega)
    have e6 : wr (a + s * m) = a + s * m := wr_id (by omega)
    have e7 : wr ((m : Int) + 1) = ((m + 1 : Nat) : Int) := by rw [wr_id (by omega)]; omega
    have e8 : wr (lo + hi) = lo + hi := wr_id (by omega)
    have e9 : wr (2 * u m) = 2 * u m := wr_id (by omega)
    have e10 : wr (2 * bs_bits u (lo + hi) m) = 2 * bs_bits u (lo + hi) m := wr_id (by omega)
    have e11 : wr (2 * bs_bits u (lo + hi) m + 1) = 2 * bs_bits u (lo + hi) m + 1 := wr_id (by omega)
    have e12 : wr (2 * bs_bits u (lo + hi) m + 0) = 2 * bs_bits u (lo + hi) m := by rw [Int.add_zero]; exact e10
    rw [x_M_readsWides_1_eq, if_pos (by omega), mo_R15, e5, e6, mo_r878 e3, h4, mo_I, mo_I, mo_p, mo_p, h20, e7, e8, e9, e10, e11, e12]
    have step : ∀ X, bs_bits u (lo + hi) (m + 1) = X → ∃ (M' : Nat → Int → Int) (q : Int), (q = Int.tdiv (150 * (bs_lw u (lo + hi) hi c - bs_gn u (lo + hi) lo c)) (bs_lw u (lo + hi) hi c)) ∧ x_M_readsWides_1 867 a c s lo hi (bs_lw u (lo + hi) hi (m + 1)) (bs_gn u (lo + hi) lo (m + 1)) ((m + 1 : Nat) : Int) (bM sl π (up M 867 20 X) G e) = rI 1 (bM sl π M' G e) ∧ fr S_w M M' ∧ M' 867 20 = bs_bits u (lo + hi) c ∧ M' 867 21 = (if 100 < q then 100 else q) := by
      intro X hX
      obtain ⟨M', q, hq, g1, f1, b1, b2⟩ := ih (m + 1) (up M 867 20 X) (by omega) (fun k hk => by rw [up_a (by decide)]; exact hu k hk) (by rw [up_s]; exact hX.symm)
      exact ⟨M', q, hq, g1, fr_trans (fr_up ⟨rfl, Or.inl rfl⟩ fr_refl) f1, b1, b2⟩
    simp only [bs_bits, bs_lw, bs_gn] at step
    by_cases q1 : lo + hi < 2 * u m
    · simp only [if_pos q1] at step ⊢
      by_cases q2 : u m < bs_lw u (lo + hi) hi m <;> simp only [q2, if_true, if_false] at step ⊢ <;> exact step _ rfl
    · simp only [if_neg q1] at step ⊢
      by_cases q2 : bs_gn u (lo + hi) lo m < u m <;> simp only [q2, if_true, if_false] at step ⊢ <;> exact step _ rfl
theorem bw_wides_0 {u : Nat → Int} {c : Nat} {s : Int} (hs : s = 1 ∨ s = 2) (h0 : 0 < c) (hc : c ≤ 7) (ha : 0 ≤ a ∧ a + s * (c - 1) < 129) (hu : ∀ k : Nat, k < c → M 878 (a + s * k) = u k) (hb : ∀ k, k < c → 1 ≤ u k ∧ u k ≤ 10000) : ∀ d m : Nat, m + d = c →
    x_M_readsWides_0 867 a c s (bs_lo u m) (bs_hi u m) m (bM sl π M G e) = if 2 * bs_hi u c < 3 * bs_lo u c then rI 0 (bM sl π M G e) else x_M_readsWides_1 867 a c s (bs_lo u c) (bs_hi u c) (bs_hi u c) (bs_lo u c) 0 (bM sl π (up M 867 20 0) G e) := by
  intro d
  induction d with
  | zero =>
    intro m hm
    have e1 : m = c := by omega
    subst e1
    have h1 := bs_lo_bd h0 hb m (Nat.le_refl _)
    have h2 := bs_hi_bd h0 hb m (Nat.le_refl _)
    rw [x_M_readsWides_0_eq, if_neg (by omega)]
    simp (disch := first | assumption | exact row_d (by assumption) | exact seq_d (by assumption) | exact rdg_d (by assumption) | exact tal_d (by assumption) | omega) only [wr_id, mo_p]
  | succ d ih =>
    intro m hm
    have h3 := hb m (by omega)
    have h4 := hu m (by omega)
    have ih := ih (m + 1) (by omega)
    have e3 : 0 ≤ a + s * m ∧ a + s * m < 129 := by rcases hs with rfl | rfl <;> omega
    have e5 : wr (s * (m : Int)) = s * m := wr_id (by rcases hs with rfl | rfl <;> omega)
    have e6 : wr (a + s * m) = a + s * m := wr_id (by omega)
    have e7 : wr ((m : Int) + 1) = ((m + 1 : Nat) : Int) := by rw [wr_id (by omega)]; omega
    rw [x_M_readsWides_0_eq, if_pos (by omega), e5, e6, e7]
    simp (disch := first | assumption | exact row_d (by assumption) | exact seq_d (by assumption) | exact rdg_d (by assumption) | exact tal_d (by assumption) | omega) only [mo_R15, mo_r878, h4]
    simp only [bs_lo, bs_hi] at ih
    by_cases q1 : u m < bs_lo u m <;> by_cases q2 : bs_hi u m < u m <;> simp only [q1, q2, if_true, if_false] at ih ⊢ <;> exact ih
/-- widths read together: refused, or their bits and confidence are laid -/
theorem bw_wides (hw : mRow M n w) (hpw : wOK n w) {c : Nat} {s : Int} (hs : s = 1 ∨ s = 2) (h0 : 0 < c) (hc : c ≤ 7) (ha : 0 ≤ a ∧ a + s * (c - 1) < n) :
    ∃ M', d_M_readsWides 867 a c s (bM sl π M G e) = rI (bi (decide (¬ 2 * bs_hi (bs_u w a s) c < 3 * bs_lo (bs_u w a s) c))) (bM sl π M' G e) ∧ fr S_w M M' ∧ (¬ 2 * bs_hi (bs_u w a s) c < 3 * bs_lo (bs_u w a s) c → M' 867 20 = bs_bits (bs_u w a s) (bs_lo (bs_u w a s) c + bs_hi (bs_u w a s) c) c ∧ M' 867 21 = bs_cf (bs_u w a s) c) := by
  have hn := hw.1
  have h1 := mRow_u (c := c) (s := s) (a := a) hw hpw (fun k hk => by rcases hs with rfl | rfl <;> omega)
  have h3 : M 878 a = bs_u w a s 0 := by have := h1.1 0 h0; rw [show a + s * ((0 : Nat) : Int) = a by omega] at this; exact this
  have h2 := bw_wides_0 (sl := sl) (e := e) (π := π) (G := G) hs h0 hc (by omega) h1.1 h1.2 c 0 (by omega)
  have ha9 : 0 ≤ a ∧ a < 129 := by rcases hs with rfl | rfl <;> omega
  rw [d_M_readsWides_10 _ _ _ _ _ mo_d, x_M_readsWides_eq, mo_R15, mo_r878 ha9, mo_R15, mo_r878 ha9, h3]
  have h2' : x_M_readsWides_0 867 a c s (bs_u w a s 0) (bs_u w a s 0) 0 (bM sl π M G e) = _ := h2
  rw [h2']
  by_cases q2 : 2 * bs_hi (bs_u w a s) c < 3 * bs_lo (bs_u w a s) c
  · rw [if_pos q2, decide_eq_false (fun z => z q2)]
    exact ⟨M, rfl, fr_refl, fun z => absurd q2 z⟩
  · rw [if_neg q2, decide_eq_true q2]
    have g1 := bs_lo_bd h0 h1.2 c (Nat.le_refl _)
    have g2 := bs_hi_bd h0 h1.2 c (Nat.le_refl _)
    have g3 := bs_lohi (bs_u w a s) c
    obtain ⟨M', q, hq, g4, f4, b1, b2⟩ := bw_wides_1 (sl := sl) (e := e) (π := π) (G := G) (a := a) (lo := bs_lo (bs_u w a s) c) (hi := bs_hi (bs_u w a s) c) hs h0 hc (by omega) h1.2 ⟨g1.1, g3, g2.2⟩ c 0 (up M 867 20 0) (by omega) (fun k hk => by rw [up_a (by decide)]; exact h1.1 k hk) up_s
    exact ⟨M', g4, fr_trans (fr_up ⟨rfl, Or.inl rfl⟩ fr_refl) f4, fun _ => ⟨b1, b2.trans (by rw [hq]; rfl)⟩⟩
end
