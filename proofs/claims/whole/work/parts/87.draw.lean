/-! MODULES DRAWN: what they are; the class draws them -/
def dw (D : List Int) : Int → Int := fun i => D.getD i.toNat 0
theorem dw_app {D : List Int} {x i : Int} (hi : 0 ≤ i ∧ i < (D.length : Int) + 1) : (if i = (D.length : Int) then x else dw D i) = dw (D ++ [x]) i := by
  unfold dw
  rw [List.getD_eq_getElem?_getD, List.getD_eq_getElem?_getD]
  by_cases z : i = (D.length : Int)
  · rw [if_pos z, show i.toNat = D.length by omega, List.getElem?_append_right (Nat.le_refl _), Nat.sub_self]; rfl
  · rw [if_neg z, List.getElem?_append_left (by omega)]
def bs_bt (p i : Int) : Int := if bz_and (bz_shr p i) 1 = 1 then 3 else 1
def bs_bl (p : Int) : Nat → List Int
  | 0 => []
  | s + 1 => bs_bt p s :: bs_bl p s
def bs_pl (a b : Int) : Nat → List Int
  | 0 => []
  | s + 1 => bs_bt a s :: bs_bt b s :: bs_pl a b s
/-- the widths of a digit of EAN-8, the last s of them -/
def bs_el (v : Int) : Nat → List Int
  | 0 => []
  | s + 1 => bs_E (4 * v + 3 - s).toNat :: bs_el v s
def bs_on (n : Nat) : List Int := List.replicate n 1
def bs_dc : List Ch → Nat → List Int
  | [], _ => []
  | c :: l, i => (if 0 < i then [1] else []) ++ (bs_bl (bs_P7 c.1.toNat) 7 ++ bs_dc l (i + 1))
def bs_dp : List Ch → List Int
  | c :: d :: l => bs_pl (bs_P5 c.1.toNat) (bs_P5 d.1.toNat) 5 ++ bs_dp l
  | _ => [3, 1, 1]
def bs_de : List Ch → Nat → List Int
  | [], _ => bs_on 3
  | c :: l, i => (if i = 4 then bs_on 5 else []) ++ (bs_el c.1 4 ++ bs_de l (i + 1))
/-- the modules of a code -/
def bs_dr (s : Nat) (l : List Ch) : List Int := if s = 0 then bs_on 3 ++ bs_de l 0 else if s = 1 then bs_on 4 ++ bs_dp l else bs_dc l 0
theorem bs_bl_l {p : Int} : ∀ s, (bs_bl p s).length = s := by
  intro s
  induction s with
  | zero => rfl
  | succ s ih => rw [bs_bl, List.length_cons, ih]
theorem bs_pl_l {a b : Int} : ∀ s, (bs_pl a b s).length = 2 * s := by
  intro s
  induction s with
  | zero => rfl
  | succ s ih => rw [bs_pl, List.length_cons, List.length_cons, ih]; omega
theorem bs_el_l {v : Int} : ∀ s, (bs_el v s).length = s := by
  intro s
  induction s with
  | zero => rfl
  | succ s ih => rw [bs_el, List.length_cons, ih]
theorem bs_on_l {n : Nat} : (bs_on n).length = n := List.length_replicate
theorem bs_dc_l {l : List Ch} : ∀ i, (bs_dc l i).length = if l.length = 0 then 0 else if 0 < i then 8 * l.length else 8 * l.length - 1 := by
  induction l with
  | nil => intro i; rfl
  | cons c l ih =>
    intro i
    rw [bs_dc, List.length_append, List.length_append, bs_bl_l, ih (i + 1), List.length_cons]
    by_cases z : 0 < i
    · simp only [if_pos z, List.length_singleton]
      (repeat' split) <;> omega
    · simp only [if_neg z, List.length_nil]
      (repeat' split) <;> omega
theorem bs_dp_l : ∀ (n : Nat) (l : List Ch), l.length = 2 * n → (bs_dp l).length = 10 * n + 3 := by
  intro n
  induction n with
  | zero =>
    intro l h
    match l, h with
    | [], _ => rfl
  | succ n ih =>
    intro l h
    match l, h with
    | c :: d :: l, h =>
      rw [bs_dp, List.length_append, bs_pl_l, ih l (by simp at h; omega)]; omega
theorem bs_de_l {l : List Ch} : ∀ i, i + l.length = 8 → (bs_de l i).length = 4 * l.length + (if i ≤ 4 then 8 else 3) := by
  induction l with
  | nil =>
    intro i h
    have : i = 8 := by simp at h; omega
    rw [this]; rfl
  | cons c l ih =>
    intro i h
    rw [List.length_cons] at h
    rw [bs_de, List.length_append, List.length_append, bs_el_l, ih (i + 1) (by omega), List.length_cons]
    by_cases z : i = 4
    · simp only [if_pos z, bs_on_l]
      (repeat' split) <;> omega
    · simp only [if_neg z, List.length_nil]
      (repeat' split) <;> omega
theorem bs_dr_l {s : Nat} {l : List Ch} (hs : s < 3) (h : okW s l) : ((bs_dr s l).length : Int) = bs_nm s l.length ∧ (bs_dr s l).length ≤ 127 := by
  unfold bs_dr bs_nm
  match s, hs with
  | 0, _ =>
    have := h.2.1 rfl
    rw [if_pos rfl, if_pos rfl, List.length_append, bs_on_l, bs_de_l 0 (by omega), this]
    decide
  | 1, _ =>
    have := h.2.2.1 rfl
    rw [if_neg (by decide), if_pos rfl, if_neg (by decide), if_pos rfl, List.length_append, bs_on_l, bs_dp_l (l.length / 2) l (by omega)]
    omega
  | 2, _ =>
    have := h.2.2.2 rfl
    rw [if_neg (by decide), if_neg (by decide), if_neg (by decide), if_neg (by decide), bs_dc_l 0, if_neg (by omega), if_neg (by decide)]
    omega
/-- a row holds a list -/
def rD (M : Nat → Int → Int) (r : Nat) (D : List Int) : Prop := rRow M r D.length (dw D)
def S_ra (r : Nat) (b : Nat) (j : Int) : Prop := b = r + 1 ∨ (b = r ∧ j = 1)
section
variable {sl e : Nat} {π : Int → Nat} {M G : Nat → Int → Int} {r q : Nat}
theorem bc_dadd {D : List Int} (hr : aRow r) (h : rD M r D) (hl : D.length < 129) (x : Int) : ∃ M', d_Row_add r x (bM sl π M G e) = rI 0 (bM sl π M' G e) ∧ fr (S_ra r) M M' ∧ rD M' r (D ++ [x]) := by
  obtain ⟨M', g, f, w⟩ := bc_radd (sl := sl) (e := e) (π := π) (G := G) hr h (by omega) x
  refine ⟨M', g, f, ?_⟩
  have : ((D ++ [x]).length : Int) = (D.length : Int) + 1 := by rw [List.length_append]; rfl
  unfold rD
  rw [this]
  exact rRow_ext w fun i hi => dw_app hi
theorem bc_ones {n : Int} (hr : aRow r) : ∀ (d : Nat) (i : Int) (D : List Int) (M : Nat → Int → Int), i + d = n → 0 ≤ i → n ≤ 100 → rD M r D → D.length + d ≤ 129 → ∃ M', x_Ean_addOnes_0 r n i (bM sl π M G e) = rI 0 (bM sl π M' G e) ∧ fr (S_ra r) M M' ∧ rD M' r (D ++ bs_on d) := by
  intro d
  induction d with
  | zero =>
    intro i D M hi h0 hn h hl
    rw [x_Ean_addOnes_0_eq, if_neg (by omega)]
    refine ⟨M, rfl, fr_refl, ?_⟩
    show rD M r (D ++ [])
    rw [List.append_nil]; exact h
  | succ d ih =>
    intro i D M hi h0 hn h hl
    obtain ⟨A, g, f, w⟩ := bc_dadd (sl := sl) (e := e) (π := π) (G := G) hr h (by omega) 1
    obtain ⟨M', g2, f2, w2⟩ := ih (i + 1) (D ++ [1]) A (by omega) (by omega) hn w (by rw [List.length_append, List.length_singleton]; omega)
    rw [x_Ean_addOnes_0_eq, if_pos (by omega), g]
    simp only [cv_r]
    rw [wr_id (by omega)]
    refine ⟨M', g2, fr_trans f f2, ?_⟩
    rw [List.append_assoc] at w2
    exact w2
theorem bc_addOnes {n : Nat} {D : List Int} (hr : aRow r) (hn : n ≤ 100) (h : rD M r D) (hl : D.length + n ≤ 129) : ∃ M', x_Ean_addOnes r n (bM sl π M G e) = rI 0 (bM sl π M' G e) ∧ fr (S_ra r) M M' ∧ rD M' r (D ++ bs_on n) := by
  rw [x_Ean_addOnes_eq]
  exact bc_ones hr n 0 D M (by omega) (by omega) (by omega) h hl
/-! Codabar -/
theorem bc_dc_1 {i pt : Int} (hr : aRow r) : ∀ (s : Nat) (D : List Int) (M : Nat → Int → Int), s ≤ 7 → rD M r D → D.length + s ≤ 129 → ∃ M', x_Cod_draw_1 q r i pt ((s : Int) - 1) (bM sl π M G e) = x_Cod_draw_0 q r (wr (i + 1)) (bM sl π M' G e) ∧ fr (S_ra r) M M' ∧ rD M' r (D ++ bs_bl pt s) := by
  intro s
  induction s with
  | zero =>
    intro D M hs h hl
    rw [x_Cod_draw_1_eq, if_pos (by omega)]
    exact ⟨M, rfl, fr_refl, by rw [bs_bl, List.append_nil]; exact h⟩
  | succ s ih =>
    intro D M hs h hl
    have e1 : ((s + 1 : Nat) : Int) - 1 = s := by omega
    have e2 : wr ((s : Int) + (-1)) = (s : Int) - 1 := by rw [wr_id (by omega)]; omega
    obtain ⟨A, g, f, w⟩ := bc_dadd (sl := sl) (e := e) (π := π) (G := G) hr h (by omega) (bs_bt pt s)
    obtain ⟨M', g2, f2, w2⟩ := ih (D ++ [bs_bt pt s]) A (by omega) w (by rw [List.length_append, List.length_singleton]; omega)
    refine ⟨M', ?_, fr_trans f f2, ?_⟩
    · rw [x_Cod_draw_1_eq, e1, if_neg (by omega), e2]
      unfold bs_bt at g
      by_cases z : bz_and (bz_shr pt s) 1 = 1
      · rw [if_pos z] at g
        rw [if_pos z, g]; exact g2
      · rw [if_neg z] at g
        rw [if_neg z, g]; exact g2
    · rw [List.append_assoc] at w2
      exact w2
theorem t4_r {v : Int} {kk : Int → Option bz_R} (hM : mCon M) (hv : 0 ≤ v ∧ v < 20) : bz_rI (bM sl π M G e) 4 v kk = kk (bs_P7 v.toNat) := by
  have h := hM.2.2.1 v.toNat (by omega)
  rw [show ((v.toNat : Nat) : Int) = v by omega] at h
  rw [bm_rI (n := 20) (Or.inr (by decide +kernel)) (by decide +kernel) (by decide) hv, h]
theorem t3_r {v : Int} {kk : Int → Option bz_R} (hM : mCon M) (hv : 0 ≤ v ∧ v < 10) : bz_rI (bM sl π M G e) 3 v kk = kk (bs_P5 v.toNat) := by
  have h := hM.2.1 v.toNat (by omega)
  rw [show ((v.toNat : Nat) : Int) = v by omega] at h
  rw [bm_rI (n := 10) (Or.inr (by decide +kernel)) (by decide +kernel) (by decide) hv, h]
theorem t2_r {v : Int} {kk : Int → Option bz_R} (hM : mCon M) (hv : 0 ≤ v ∧ v < 40) : bz_rI (bM sl π M G e) 2 v kk = kk (bs_E v.toNat) := by
  have h := hM.1 v.toNat (by omega)
  rw [show ((v.toNat : Nat) : Int) = v by omega] at h
  rw [bm_rI (n := 40) (Or.inr (by decide +kernel)) (by decide +kernel) (by decide) hv, h]
theorem S_ra_con {b : Nat} {j : Int} (hr : aRow r) (z : S_ra r b j) : 16 ≤ b ∧ ¬ (22 ≤ b ∧ b ≤ 24) := by
  have := aRow_in hr
  unfold S_ra at z
  omega
theorem S_ra_seq (hr : aRow r) (hq : aSeq q) {b : Nat} {j : Int} (hb : q ≤ b ∧ b ≤ q + 2) : ¬ S_ra r b j := by
  have := aRS hr hq
  unfold S_ra
  omega
theorem bc_dc_0 {l : List Ch} (hr : aRow r) (hq : aSeq q) (h20 : ∀ c ∈ l, 0 ≤ c.1 ∧ c.1 < 20) : ∀ (d i : Nat) (D : List Int) (M : Nat → Int → Int), i + d = l.length → mCon M → rSeq M q l → rD M r D → D.length + 8 * d ≤ 129 → ∃ M', x_Cod_draw_0 q r i (bM sl π M G e) = rI 0 (bM sl π M' G e) ∧ fr (S_ra r) M M' ∧ rD M' r (D ++ bs_dc (l.drop i) i) := by
  intro d
  induction d with
  | zero =>
    intro i D M hi hM hs h hl
    rw [x_Cod_draw_0_eq, seq_I hq, hs.1, if_neg (by omega), List.drop_eq_nil_of_le (by omega), bs_dc, List.append_nil]
    exact ⟨M, rfl, fr_refl, h⟩
  | succ d ih =>
    intro i D M hi hM hs h hl
    have h16 := hs.2.1
    have hi2 : i < l.length := by omega
    have hc := h20 _ (List.getElem_mem hi2)
    have e2 : wr ((i : Int) + 1) = ((i + 1 : Nat) : Int) := by rw [wr_id (by omega)]; omega
    have step : ∀ (D : List Int) (A : Nat → Int → Int), fr (S_ra r) M A → rD A r D → D.length + 7 + 8 * d ≤ 129 → ∃ M', (bz_fR (bM sl π A G e) q 7 0 fun v3 => bz_rI (bM sl π A G e) v3 i fun v4 => if v4 < 0 then x_Cod_draw_1 q r i 0 6 (bM sl π A G e) else if v4 < 20 then bz_rI (bM sl π A G e) 4 v4 fun v5 => x_Cod_draw_1 q r i v5 6 (bM sl π A G e) else x_Cod_draw_1 q r i 0 6 (bM sl π A G e)) = rI 0 (bM sl π M' G e) ∧ fr (S_ra r) M M' ∧ rD M' r (D ++ (bs_bl (bs_P7 (l[i]).1.toNat) 7 ++ bs_dc (l.drop (i + 1)) (i + 1))) := by
      intro D A fA hA hl
      have hMA := mCon_fr hM fA fun b j z => S_ra_con hr z
      have hsA := rSeq_fr hs fA fun b j z => S_ra_seq hr hq z
      obtain ⟨B, g, f, w⟩ := bc_dc_1 (sl := sl) (e := e) (π := π) (G := G) (q := q) (i := (i : Int)) (pt := bs_P7 (l[i]).1.toNat) hr 7 D A (by decide) hA (by omega)
      have fB := fr_trans fA f
      obtain ⟨M', g2, f2, w2⟩ := ih (i + 1) (D ++ bs_bl (bs_P7 (l[i]).1.toNat) 7) B (by omega) (mCon_fr hM fB fun b j z => S_ra_con hr z) (rSeq_fr hs fB fun b j z => S_ra_seq hr hq z) w (by rw [List.length_append, bs_bl_l]; omega)
      rw [seq_v hq, seq_v_at hq hsA hi2, if_neg (by omega), if_pos hc.2, t4_r hMA hc]
      rw [e2] at g
      rw [List.append_assoc] at w2
      exact ⟨M', g.trans g2, fr_trans fB f2, w2⟩
    rw [x_Cod_draw_0_eq, seq_I hq, hs.1, if_pos (by omega), List.drop_eq_getElem_cons hi2, bs_dc]
    by_cases z : 0 < i
    · obtain ⟨A, g, f, w⟩ := bc_dadd (sl := sl) (e := e) (π := π) (G := G) hr h (by omega) 1
      obtain ⟨M', g2, f2, w2⟩ := step (D ++ [1]) A f w (by rw [List.length_append, List.length_singleton]; omega)
      rw [if_pos (by omega), if_pos z, g]
      rw [List.append_assoc] at w2
      exact ⟨M', g2, f2, w2⟩
    · rw [if_neg (by omega), if_neg z]
      exact step D M fr_refl h (by omega)
/-! Interleaved 2 of 5 -/
theorem bc_dp_2 {i p1 p2 : Int} (hr : aRow r) : ∀ (s : Nat) (D : List Int) (M : Nat → Int → Int), s ≤ 5 → rD M r D → D.length + 2 * s ≤ 129 → ∃ M', x_Int_draw_2 q r i p1 p2 ((s : Int) - 1) (bM sl π M G e) = x_Int_draw_1 q r (wr (i + 2)) (bM sl π M' G e) ∧ fr (S_ra r) M M' ∧ rD M' r (D ++ bs_pl p1 p2 s) := by
  intro s
  induction s with
  | zero =>
    intro D M hs h hl
    rw [x_Int_draw_2_eq, if_pos (by omega)]
    exact ⟨M, rfl, fr_refl, by rw [bs_pl, List.append_nil]; exact h⟩
  | succ s ih =>
    intro D M hs h hl
    have e1 : ((s + 1 : Nat) : Int) - 1 = s := by omega
    have e2 : wr ((s : Int) + (-1)) = (s : Int) - 1 := by rw [wr_id (by omega)]; omega
    obtain ⟨A, g, f, w⟩ := bc_dadd (sl := sl) (e := e) (π := π) (G := G) hr h (by omega) (bs_bt p1 s)
    obtain ⟨B, gB, fB, wB⟩ := bc_dadd (sl := sl) (e := e) (π := π) (G := G) hr w (by rw [List.length_append, List.length_singleton]; omega) (bs_bt p2 s)
    obtain ⟨M', g2, f2, w2⟩ := ih (D ++ [bs_bt p1 s] ++ [bs_bt p2 s]) B (by omega) wB (by rw [List.length_append, List.length_append, List.length_singleton, List.length_singleton]; omega)
    refine ⟨M', ?_, fr_trans f (fr_trans fB f2), ?_⟩
    · rw [x_Int_draw_2_eq, e1, if_neg (by omega), e2]
      unfold bs_bt at g gB
      by_cases z : bz_and (bz_shr p1 s) 1 = 1
      · rw [if_pos z] at g
        rw [if_pos z, g]
        simp only [cv_r]
        by_cases y : bz_and (bz_shr p2 s) 1 = 1
        · rw [if_pos y] at gB
          rw [if_pos y, gB]; exact g2
        · rw [if_neg y] at gB
          rw [if_neg y, gB]; exact g2
      · rw [if_neg z] at g
        rw [if_neg z, g]
        simp only [cv_r]
        by_cases y : bz_and (bz_shr p2 s) 1 = 1
        · rw [if_pos y] at gB
          rw [if_pos y, gB]; exact g2
        · rw [if_neg y] at gB
          rw [if_neg y, gB]; exact g2
    · rw [List.append_assoc, List.append_assoc] at w2
      exact w2
theorem bc_pattern {v : Int} (hM : mCon M) (hv : 0 ≤ v ∧ v < 10) : x_Int_patternOf v (bM sl π M G e) = rI (bs_P5 v.toNat) (bM sl π M G e) := by
  rw [x_Int_patternOf_eq, if_neg (by omega), bm_al (n := 10) (by decide +kernel) (by decide +kernel) (by decide), if_pos (by omega), t3_r hM hv]
theorem bc_dp_1 {l : List Ch} (hr : aRow r) (hq : aSeq q) (h10 : ∀ c ∈ l, 0 ≤ c.1 ∧ c.1 < 10) : ∀ (d i : Nat) (D : List Int) (M : Nat → Int → Int), i + 2 * d = l.length → mCon M → rSeq M q l → rD M r D → D.length + 10 * d + 3 ≤ 129 → ∃ M', x_Int_draw_1 q r i (bM sl π M G e) = rI 0 (bM sl π M' G e) ∧ fr (S_ra r) M M' ∧ rD M' r (D ++ bs_dp (l.drop i)) := by
  intro d
  induction d with
  | zero =>
    intro i D M hi hM hs h hl
    have h16 := hs.2.1
    obtain ⟨A, gA, fA, wA⟩ := bc_dadd (sl := sl) (e := e) (π := π) (G := G) hr h (by omega) 3
    obtain ⟨B, gB, fB, wB⟩ := bc_dadd (sl := sl) (e := e) (π := π) (G := G) hr wA (by rw [List.length_append, List.length_singleton]; omega) 1
    obtain ⟨C, gC, fC, wC⟩ := bc_dadd (sl := sl) (e := e) (π := π) (G := G) hr wB (by rw [List.length_append, List.length_append, List.length_singleton, List.length_singleton]; omega) 1
    rw [x_Int_draw_1_eq, seq_I hq, hs.1, if_neg (by rw [wr_id (by omega)]; omega), gA]
    simp only [cv_r]
    rw [gB]
    simp only [cv_r]
    rw [gC, List.drop_eq_nil_of_le (by omega)]
    rw [List.append_assoc, List.append_assoc] at wC
    exact ⟨C, rfl, fr_trans fA (fr_trans fB fC), wC⟩
  | succ d ih =>
    intro i D M hi hM hs h hl
    have h16 := hs.2.1
    have hi2 : i < l.length := by omega
    have hi3 : i + 1 < l.length := by omega
    have hc := h10 _ (List.getElem_mem hi2)
    have hc2 := h10 _ (List.getElem_mem hi3)
    have e1 : wr ((i : Int) + 1) = ((i + 1 : Nat) : Int) := by rw [wr_id (by omega)]; omega
    have e2 : wr ((i : Int) + 2) = ((i + 2 : Nat) : Int) := by rw [wr_id (by omega)]; omega
    obtain ⟨B, g, f, w⟩ := bc_dp_2 (sl := sl) (e := e) (π := π) (G := G) (q := q) (i := (i : Int)) (p1 := bs_P5 (l[i]).1.toNat) (p2 := bs_P5 (l[i + 1]).1.toNat) hr 5 D M (by decide) h (by omega)
    obtain ⟨M', g2, f2, w2⟩ := ih (i + 2) (D ++ bs_pl (bs_P5 (l[i]).1.toNat) (bs_P5 (l[i + 1]).1.toNat) 5) B (by omega) (mCon_fr hM f fun b j z => S_ra_con hr z) (rSeq_fr hs f fun b j z => S_ra_seq hr hq z) w (by rw [List.length_append, bs_pl_l]; omega)
    rw [x_Int_draw_1_eq, seq_I hq, hs.1, e1, if_pos (by omega), seq_v hq, seq_v_at hq hs hi2, bc_pattern hM hc]
    simp only [ci_r]
    rw [seq_v hq, seq_v_at hq hs hi3, bc_pattern hM hc2]
    simp only [ci_r]
    rw [List.drop_eq_getElem_cons hi2, List.drop_eq_getElem_cons hi3, bs_dp]
    rw [e2] at g
    rw [List.append_assoc] at w2
    exact ⟨M', g.trans g2, fr_trans f f2, w2⟩
theorem bc_dp_0 (hr : aRow r) : ∀ (d : Nat) (i : Int) (D : List Int) (M : Nat → Int → Int), i + d = 4 → 0 ≤ i → rD M r D → D.length + d ≤ 129 → ∃ M', x_Int_draw_0 q r i (bM sl π M G e) = x_Int_draw_1 q r 0 (bM sl π M' G e) ∧ fr (S_ra r) M M' ∧ rD M' r (D ++ bs_on d) := by
  intro d
  induction d with
  | zero =>
    intro i D M hi h0 h hl
    rw [x_Int_draw_0_eq, if_neg (by omega)]
    refine ⟨M, rfl, fr_refl, ?_⟩
    show rD M r (D ++ [])
    rw [List.append_nil]; exact h
  | succ d ih =>
    intro i D M hi h0 h hl
    obtain ⟨A, g, f, w⟩ := bc_dadd (sl := sl) (e := e) (π := π) (G := G) hr h (by omega) 1
    obtain ⟨M', g2, f2, w2⟩ := ih (i + 1) (D ++ [1]) A (by omega) (by omega) w (by rw [List.length_append, List.length_singleton]; omega)
    rw [x_Int_draw_0_eq, if_pos (by omega), g]
    simp only [cv_r]
    rw [wr_id (by omega)]
    refine ⟨M', g2, fr_trans f f2, ?_⟩
    rw [List.append_assoc] at w2
    exact w2
/-! EAN-8 -/
theorem bc_de_1 {i v : Int} (hr : aRow r) (hv : 0 ≤ v ∧ v < 10) : ∀ (s : Nat) (D : List Int) (M : Nat → Int → Int), s ≤ 4 → mCon M → rD M r D → D.length + s ≤ 129 → ∃ M', x_Ean_draw_1 q r i (4 * v) (4 * v + 4 - s) (bM sl π M G e) = x_Ean_draw_0 q r (wr (i + 1)) (bM sl π M' G e) ∧ fr (S_ra r) M M' ∧ rD M' r (D ++ bs_el v s) := by
  intro s
  induction s with
  | zero =>
    intro D M hs hM h hl
    rw [x_Ean_draw_1_eq, wr_id (x := 4 * v + 4) (by omega), if_neg (by omega)]
    exact ⟨M, rfl, fr_refl, by rw [bs_el, List.append_nil]; exact h⟩
  | succ s ih =>
    intro D M hs hM h hl
    have e1 : 4 * v + 4 - ((s + 1 : Nat) : Int) = 4 * v + 3 - s := by omega
    have e2 : wr (4 * v + 3 - (s : Int) + 1) = 4 * v + 4 - s := by rw [wr_id (by omega)]; omega
    obtain ⟨A, g, f, w⟩ := bc_dadd (sl := sl) (e := e) (π := π) (G := G) hr h (by omega) (bs_E (4 * v + 3 - s).toNat)
    obtain ⟨M', g2, f2, w2⟩ := ih (D ++ [bs_E (4 * v + 3 - s).toNat]) A (by omega) (mCon_fr hM f fun b j z => S_ra_con hr z) w (by rw [List.length_append, List.length_singleton]; omega)
    refine ⟨M', ?_, fr_trans f f2, ?_⟩
    · rw [x_Ean_draw_1_eq, e1, wr_id (x := 4 * v + 4) (by omega), if_pos (by omega), if_neg (by omega), bm_al (n := 40) (by decide +kernel) (by decide +kernel) (by decide), if_pos (by omega), t2_r hM (by omega), g]
      simp only [cv_r]
      rw [e2]
      exact g2
    · rw [List.append_assoc] at w2
      exact w2
theorem bc_de_0 {l : List Ch} (hr : aRow r) (hq : aSeq q) (h10 : ∀ c ∈ l, 0 ≤ c.1 ∧ c.1 < 10) (h8 : l.length = 8) : ∀ (d i : Nat) (D : List Int) (M : Nat → Int → Int), i + d = l.length → mCon M → rSeq M q l → rD M r D → (i ≤ 4 → D.length + 4 * d + 8 ≤ 129) ∧ (4 < i → D.length + 4 * d + 3 ≤ 129) → ∃ M', x_Ean_draw_0 q r i (bM sl π M G e) = rI 0 (bM sl π M' G e) ∧ fr (S_ra r) M M' ∧ rD M' r (D ++ bs_de (l.drop i) i) := by
  intro d
  induction d with
  | zero =>
    intro i D M hi hM hs h hl
    obtain ⟨A, g, f, w⟩ := bc_addOnes (sl := sl) (e := e) (π := π) (G := G) (n := 3) hr (by decide) h (by omega)
    rw [x_Ean_draw_0_eq, seq_I hq, hs.1, if_neg (by omega), show x_Ean_addOnes r 3 (bM sl π M G e) = _ from g, List.drop_eq_nil_of_le (by omega), bs_de]
    exact ⟨A, rfl, f, w⟩
  | succ d ih =>
    intro i D M hi hM hs h hl
    have hi2 : i < l.length := by omega
    have hc := h10 _ (List.getElem_mem hi2)
    have e2 : wr ((i : Int) + 1) = ((i + 1 : Nat) : Int) := by rw [wr_id (by omega)]; omega
    have step : ∀ (D : List Int) (A : Nat → Int → Int), fr (S_ra r) M A → rD A r D → (i < 4 → D.length + 4 + 4 * d + 8 ≤ 129) ∧ (4 ≤ i → D.length + 4 + 4 * d + 3 ≤ 129) → ∃ M', (bz_fR (bM sl π A G e) q 7 0 fun v3 => bz_rI (bM sl π A G e) v3 i fun v4 => x_Ean_draw_1 q r i (wr (4 * v4)) (wr (4 * v4)) (bM sl π A G e)) = rI 0 (bM sl π M' G e) ∧ fr (S_ra r) M M' ∧ rD M' r (D ++ (bs_el (l[i]).1 4 ++ bs_de (l.drop (i + 1)) (i + 1))) := by
      intro D A fA hA hl
      have hMA := mCon_fr hM fA fun b j z => S_ra_con hr z
      have hsA := rSeq_fr hs fA fun b j z => S_ra_seq hr hq z
      obtain ⟨B, g, f, w⟩ := bc_de_1 (sl := sl) (e := e) (π := π) (G := G) (q := q) (i := (i : Int)) hr hc 4 D A (by decide) hMA hA (by omega)
      have fB := fr_trans fA f
      obtain ⟨M', g2, f2, w2⟩ := ih (i + 1) (D ++ bs_el (l[i]).1 4) B (by omega) (mCon_fr hM fB fun b j z => S_ra_con hr z) (rSeq_fr hs fB fun b j z => S_ra_seq hr hq z) w (by rw [List.length_append, bs_el_l]; omega)
      rw [seq_v hq, seq_v_at hq hsA hi2, wr_id (x := 4 * (l[i]).1) (by omega)]
      rw [e2, show 4 * (l[i]).1 + 4 - ((4 : Nat) : Int) = 4 * (l[i]).1 by omega] at g
      rw [List.append_assoc] at w2
      exact ⟨M', g.trans g2, fr_trans fB f2, w2⟩
    rw [x_Ean_draw_0_eq, seq_I hq, hs.1, if_pos (by omega), List.drop_eq_getElem_cons hi2, bs_de]
    by_cases z : i = 4
    · obtain ⟨A, g, f, w⟩ := bc_addOnes (sl := sl) (e := e) (π := π) (G := G) (n := 5) hr (by decide) h (by omega)
      obtain ⟨M', g2, f2, w2⟩ := step (D ++ bs_on 5) A f w (by rw [List.length_append, bs_on_l]; omega)
      rw [if_pos (by omega), if_pos z, show x_Ean_addOnes r 5 (bM sl π M G e) = _ from g]
      rw [List.append_assoc] at w2
      exact ⟨M', g2, f2, w2⟩
    · rw [if_neg (by omega), if_neg z]
      exact step D M fr_refl h (by omega)
theorem bc_draw {s : Nat} {l : List Ch} (hs : s < 3) (hr : aRow r) (hq : aSeq q) (hM : mCon M) (hl : rSeq M q l) (hok : okW s l) (h0 : M r 1 = 0) : ∃ M', d_Sym_draw (22 + s) q r (bM sl π M G e) = rI 0 (bM sl π M' G e) ∧ fr (S_ra r) M M' ∧ rD M' r (bs_dr s l) := by
  have hD : rD M r [] := ⟨by decide, h0, fun i hi => absurd hi (by show ¬ (0 ≤ i ∧ i < 0); omega)⟩
  have h16 := hl.2.1
  unfold bs_dr
  match s, hs with
  | 0, _ =>
    have h8 := hok.2.1 rfl
    obtain ⟨A, g, f, w⟩ := bc_addOnes (sl := sl) (e := e) (π := π) (G := G) (n := 3) hr (by decide) hD (by decide)
    obtain ⟨M', g2, f2, w2⟩ := bc_de_0 (sl := sl) (e := e) (π := π) (G := G) hr hq (fun c hc => (hok.1 c hc).1) h8 8 0 _ A (by omega) (mCon_fr hM f fun b j z => S_ra_con hr z) (rSeq_fr hl f fun b j z => S_ra_seq hr hq z) w (by rw [List.nil_append, bs_on_l]; decide)
    rw [show 22 + 0 = 22 from rfl, d_Sym_draw_2 _ _ _ _ k_22, x_Ean_draw_eq, show x_Ean_addOnes r 3 (bM sl π M G e) = _ from g, if_pos rfl]
    exact ⟨M', g2, fr_trans f f2, w2⟩
  | 1, _ =>
    have h1 := hok.2.2.1 rfl
    obtain ⟨A, g, f, w⟩ := bc_dp_0 (sl := sl) (e := e) (π := π) (G := G) (q := q) hr 4 0 [] M (by decide) (by decide) hD (by decide)
    obtain ⟨M', g2, f2, w2⟩ := bc_dp_1 (sl := sl) (e := e) (π := π) (G := G) hr hq (fun c hc => (hok.1 c hc).1) (l.length / 2) 0 _ A (by omega) (mCon_fr hM f fun b j z => S_ra_con hr z) (rSeq_fr hl f fun b j z => S_ra_seq hr hq z) w (by rw [List.nil_append, bs_on_l]; omega)
    rw [show 22 + 1 = 23 from rfl, d_Sym_draw_3 _ _ _ _ k_23, x_Int_draw_eq, if_neg (by decide), if_pos rfl]
    exact ⟨M', g.trans g2, fr_trans f f2, w2⟩
  | 2, _ =>
    have h1 := hok.2.2.2 rfl
    obtain ⟨M', g2, f2, w2⟩ := bc_dc_0 (sl := sl) (e := e) (π := π) (G := G) hr hq (fun c hc => (hok.1 c hc).1) l.length 0 [] M (by omega) hM hl hD (by show 0 + _ ≤ _; omega)
    rw [show 22 + 2 = 24 from rfl, d_Sym_draw_1 _ _ _ _ k_24, x_Cod_draw_eq, if_neg (by decide), if_neg (by decide)]
    exact ⟨M', g2, f2, w2⟩
end
