/-! CODES OUT OF THE TEXT -/
def bs_tc (x : Int → Int) : Nat → List Ch
  | 0 => []
  | n + 1 => bs_tc x n ++ [(vof (x n), 0)]
theorem bs_tc_l {x : Int → Int} : ∀ n : Nat, (bs_tc x n).length = n := by
  intro n
  induction n with
  | zero => rfl
  | succ n ih => rw [bs_tc, List.length_append, ih]; rfl
theorem bs_tc_at {x : Int → Int} : ∀ (n k : Nat) (hk : k < (bs_tc x n).length), (bs_tc x n)[k] = (vof (x k), 0) := by
  intro n
  induction n with
  | zero => intro k hk; exact absurd hk (Nat.not_lt_zero _)
  | succ n ih =>
    intro k hk
    have hl := bs_tc_l (x := x) n
    have hk2 : k < n + 1 := by rw [bs_tc_l] at hk; exact hk
    simp only [bs_tc]
    by_cases z : k < n
    · rw [List.getElem_append_left (by omega)]; exact ih k (by omega)
    · have e : k = n := by omega
      subst e
      rw [List.getElem_append_right (by omega)]
      simp [hl]
/-- may each character stand at its place -/
def bs_ic0 (t : Nat) (n : Int) : List Ch → Nat → Bool
  | [], _ => true
  | c :: l, i => bs_aw t c.1 i n && bs_ic0 t n l (i + 1)
def bs_ic (t : Nat) (l : List Ch) : Bool := bs_ic0 t l.length l 0
theorem bs_aw_dg {t : Nat} {v p n : Int} (h : bs_aw t v p n = true) : 0 ≤ v ∧ v < (if t = 2 then 20 else 10) := by
  unfold bs_aw at h
  by_cases z : t = 2
  · rw [if_pos z] at h ⊢
    have := of_decide_eq_true h
    omega
  · rw [if_neg z] at h ⊢
    have := of_decide_eq_true h
    omega
theorem bs_ic0_ok {t : Nat} {n : Int} {l : List Ch} : ∀ i, bs_ic0 t n l i = true → ∀ c ∈ l, 0 ≤ c.1 ∧ c.1 < (if t = 2 then 20 else 10) := by
  induction l with
  | nil => intro i _ c hc; cases hc
  | cons d l ih =>
    intro i h c hc
    rw [bs_ic0, Bool.and_eq_true] at h
    rcases List.mem_cons.mp hc with z | z
    · rw [z]; exact bs_aw_dg h.1
    · exact ih _ h.2 c z
theorem bs_tc_0 {x : Int → Int} {n : Nat} : ∀ c ∈ bs_tc x n, c.2 = 0 := by
  intro c hc
  obtain ⟨k, hk, e⟩ := List.getElem_of_mem hc
  rw [← e, bs_tc_at]
theorem bs_tc_ok {t n : Nat} {x : Int → Int} (ht : t < 3) (h1 : bs_hl t n = true) (h2 : bs_ic t (bs_tc x n) = true) : okW t (bs_tc x n) := by
  have hl := bs_tc_l (x := x) n
  refine ⟨fun c hc => ⟨bs_ic0_ok 0 h2 c hc, by rw [bs_tc_0 c hc]; decide⟩, fun z => ?_, fun z => ?_, fun z => ?_⟩
  · unfold bs_hl at h1
    rw [if_pos z] at h1
    have := of_decide_eq_true h1
    omega
  · unfold bs_hl at h1
    rw [if_neg (by omega), if_pos z] at h1
    have := of_decide_eq_true h1
    rw [Int.tmod_eq_emod_of_nonneg (by omega)] at this
    omega
  · unfold bs_hl at h1
    rw [if_neg (by omega), if_neg (by omega)] at h1
    have := of_decide_eq_true h1
    omega
theorem bs_hl_16 {t : Nat} {n : Int} (h : bs_hl t n = true) : 2 ≤ n ∧ n ≤ 16 := by
  unfold bs_hl at h
  split at h
  · have := of_decide_eq_true h; omega
  · split at h
    · have := of_decide_eq_true h; omega
    · have := of_decide_eq_true h; omega
section
variable {sl e : Nat} {π : Int → Nat} {M G : Nat → Int → Int} {σ : Sg} {t : Nat} {x : Int → Int}
theorem bc_Seq_full {q : Nat} {l : List Ch} {v c : Int} (hq : aSeq q) (hl : rSeq M q l) (h : l.length = 16) : d_Seq_add q v c (bM sl π M G e) = rI 0 (bM sl π M G e) := by
  rw [d_Seq_add_7 _ _ _ _ (seq_d hq), x_Seq_add_eq, seq_I hq, seq_v hq, seq_lv hq, hl.1, if_neg (by omega)]
theorem bc_take_0 {n : Nat} (hn : n ≤ 60) : ∀ (d i : Nat) (M : Nat → Int → Int), i + d = n → mCon M → (∀ j : Int, 0 ≤ j ∧ j < n → M 17 j = x j) → rSeq M 48 (bs_tc x (min i 16)) →
    ∃ M', x_E_takeText_0 16 n i (bM sl π M G e) = rI 0 (bM sl π M' G e) ∧ fr (S_q 48) M M' ∧ rSeq M' 48 (bs_tc x (min n 16)) := by
  intro d
  induction d with
  | zero =>
    intro i M hi hM hx hl
    have : i = n := by omega
    subst this
    rw [x_E_takeText_0_eq, if_neg (by omega)]
    exact ⟨M, rfl, fr_refl, hl⟩
  | succ d ih =>
    intro i M hi hM hx hl
    have e2 : wr ((i : Int) + 1) = ((i + 1 : Nat) : Int) := by rw [wr_id (by omega)]; omega
    rw [x_E_takeText_0_eq, if_pos (by omega), if_pos (by omega), en_R11, en_R0, en_r17 (by omega), hx i (by omega), qo_value hM, ci_r, e2]
    by_cases z : i < 16
    · rw [show min i 16 = i by omega] at hl
      obtain ⟨A, g, f, w⟩ := bc_Seq_add (sl := sl) (e := e) (π := π) (G := G) a_48 hl (by rw [bs_tc_l]; exact z) (vof (x i)) 0
      have nz : ∀ b j, b < 48 → A b j = M b j := fun b j hb => f b j (by unfold S_q; omega)
      obtain ⟨M', g2, f2, w2⟩ := ih (i + 1) A (by omega) (mCon_fr hM f fun b j y => by unfold S_q at y; omega) (fun j hj => (nz 17 j (by decide)).trans (hx j hj)) (by rw [show min (i + 1) 16 = i + 1 by omega]; exact w)
      rw [g, cv_r]
      exact ⟨M', g2, fr_trans f f2, w2⟩
    · rw [show min i 16 = 16 by omega] at hl
      rw [bc_Seq_full a_48 hl (bs_tc_l 16), cv_r]
      exact ih (i + 1) M (by omega) hM hx (by rw [show min (i + 1) 16 = 16 by omega]; exact hl)
theorem qo_take {n : Nat} (h : CR σ π M) (hn : (n : Int) ≤ gtl σ) : ∃ M', d_E_takeText 16 n (bM sl π M G e) = rI 0 (bM sl π M' G e) ∧ CR σ π M' ∧ fr (S_q 48) M M' ∧ rSeq M' 48 (bs_tc (gtx σ) (min n 16)) := by
  have h0 := h.1.2.2.1
  have f0 : fr (S_q 48) M (up M 48 2 0) := fr_up (by unfold S_q; omega) fr_refl
  have c0 := fr_q48 h f0
  obtain ⟨M', g, f, w⟩ := bc_take_0 (sl := sl) (e := e) (π := π) (G := G) (x := gtx σ) (n := n) (by omega) n 0 (up M 48 2 0) (by omega) c0.2.1 (fun j hj => c0.2.2.2.1 j (by omega)) (show rSeq _ 48 [] from ⟨up_s, by decide, fun k c hk => by cases hk⟩)
  rw [d_E_takeText_9 _ _ _ en_d, x_E_takeText_eq, en_R11, seq_p a_48]
  exact ⟨M', g, fr_q48 c0 f, fr_trans f0 f, w⟩
theorem bc_ic_0 {l : List Ch} (ht : t < 3) (hl : rSeq M 48 l) : ∀ d i : Nat, i + d = l.length → x_E_isCode_0 16 (22 + t) i (bM sl π M G e) = rI (bi (bs_ic0 t l.length (l.drop i) i)) (bM sl π M G e) := by
  have h16 := hl.2.1
  intro d
  induction d with
  | zero =>
    intro i hi
    rw [x_E_isCode_0_eq, en_R11, seq_I a_48, hl.1, if_neg (by omega), List.drop_eq_nil_of_le (by omega), bs_ic0]
    rfl
  | succ d ih =>
    intro i hi
    have hi2 : i < l.length := by omega
    have e2 : wr ((i : Int) + 1) = ((i + 1 : Nat) : Int) := by rw [wr_id (by omega)]; omega
    rw [x_E_isCode_0_eq, en_R11, seq_I a_48, hl.1, if_pos (by omega), en_R11, seq_v a_48, seq_v_at a_48 hl hi2, en_R11, seq_I a_48, hl.1, bc_allows ht (by omega), cn_r, e2, ih (i + 1) (by omega), List.drop_eq_getElem_cons hi2, bs_ic0]
    cases bs_aw t (l[i]).1 i l.length with
    | false => rw [if_pos (show bi false = 0 from rfl), Bool.false_and]; rfl
    | true => rw [if_neg (by decide), Bool.true_and]
theorem bc_isCode {l : List Ch} (ht : t < 3) (hl : rSeq M 48 l) : d_E_isCode 16 (22 + t) (bM sl π M G e) = rI (bi (bs_ic t l)) (bM sl π M G e) := by
  rw [d_E_isCode_9 _ _ _ en_d, x_E_isCode_eq]
  exact bc_ic_0 ht hl l.length 0 (by omega)
/-! the model looks at the bytes -/
theorem aw_out {v p n : Int} (h : p = 0 ∨ p = n - 1) : bs_aw 2 v p n = decide (16 ≤ v ∧ v < 20) := (if_pos rfl).trans (decide_eq_decide.mpr ⟨fun q => by omega, fun q => by omega⟩)
theorem aw_in {v p n : Int} (h : ¬ (p = 0 ∨ p = n - 1)) : bs_aw 2 v p n = decide (0 ≤ v ∧ v < 16) := (if_pos rfl).trans (decide_eq_decide.mpr ⟨fun q => by omega, fun q => by omega⟩)
theorem aw_dig {t : Nat} {v p n : Int} (h : t ≠ 2) : bs_aw t v p n = decide (0 ≤ v ∧ v < 10) := if_neg h
theorem vof_by : ∀ b : Nat, b < 256 → (decide (48 ≤ (b : Int) ∧ (b : Int) ≤ 57) = decide (0 ≤ vof b ∧ vof b < 10)) ∧ (decide (65 ≤ (b : Int) ∧ (b : Int) ≤ 68) = decide (16 ≤ vof b ∧ vof b < 20)) ∧ (decide (vof b ≠ -1 ∧ ¬ (65 ≤ (b : Int) ∧ (b : Int) ≤ 68)) = decide (0 ≤ vof b ∧ vof b < 16)) := by decide +kernel
theorem vof_b1 {b : Int} (hb : 0 ≤ b ∧ b ≤ 255) : (decide (48 ≤ b ∧ b ≤ 57) = decide (0 ≤ vof b ∧ vof b < 10)) ∧ (decide (65 ≤ b ∧ b ≤ 68) = decide (16 ≤ vof b ∧ vof b < 20)) ∧ (decide (vof b ≠ -1 ∧ ¬ (65 ≤ b ∧ b ≤ 68)) = decide (0 ≤ vof b ∧ vof b < 16)) := by
  have h := vof_by b.toNat (by omega)
  rw [show ((b.toNat : Nat) : Int) = b by omega] at h
  exact h
theorem qm_letter {b : Int} {μ : bz_M} : x_M_isLetter b μ = rI (bi (decide (65 ≤ b ∧ b ≤ 68))) μ := by
  rw [x_M_isLetter_eq, bw_isIn, ci_r, bw_zB]
theorem qm_ac_0 {n : Nat} (h16 : n ≤ 16) (hM : mCon M) (hx : ∀ j : Int, 0 ≤ j ∧ j < n → M 871 j = x j ∧ 0 ≤ x j ∧ x j ≤ 255) : ∀ d i : Nat, i + d = n → x_M_areCharacters_0 867 t n i (bM sl π M G e) = rI (bi (bs_ic0 t n ((bs_tc x n).drop i) i)) (bM sl π M G e) := by
  intro d
  induction d with
  | zero =>
    intro i hi
    rw [x_M_areCharacters_0_eq, if_neg (by omega), List.drop_eq_nil_of_le (by rw [bs_tc_l]; omega), bs_ic0]
    rfl
  | succ d ih =>
    intro i hi
    have hin : (i : Int) < n := by omega
    have hi60 : 0 ≤ (i : Int) ∧ (i : Int) < 60 := by omega
    have hi2 : i < (bs_tc x n).length := by rw [bs_tc_l]; omega
    have e2 : wr ((i : Int) + 1) = ((i + 1 : Nat) : Int) := by rw [wr_id (by omega)]; omega
    have e3 : wr ((n : Int) - 1) = (n : Int) - 1 := wr_id (by omega)
    obtain ⟨hxi, hb⟩ := hx i ⟨by omega, hin⟩
    obtain ⟨v1, v2, v3⟩ := vof_b1 hb
    have nx := ih (i + 1) (by omega)
    have NX : ∀ μ : bz_M, μ = bM sl π M G e → x_M_areCharacters_0 867 t n (wr ((i : Int) + 1)) μ = rI (bi (bs_ic0 t n ((bs_tc x n).drop (i + 1)) (i + 1))) (bM sl π M G e) := fun μ h => by rw [h, e2]; exact nx
    rw [x_M_areCharacters_0_eq, if_pos hin, List.drop_eq_getElem_cons hi2, bs_ic0, bs_tc_at, e3]
    generalize bs_ic0 t n ((bs_tc x n).drop (i + 1)) (i + 1) = R at NX ⊢
    have out : (bz_fR (bM sl π M G e) 867 10 3 fun v1 => bz_rI (bM sl π M G e) v1 i fun v2 => bz_ci (x_M_isLetter v2 (bM sl π M G e)) fun v4 μ3 => if v4 = 0 then rI 0 μ3 else x_M_areCharacters_0 867 t n (wr ((i : Int) + 1)) μ3) = rI (bi (decide (16 ≤ vof (x i) ∧ vof (x i) < 20) && R)) (bM sl π M G e) := by
      rw [mo_R3, mo_r871 hi60, hxi, qm_letter, ci_r, v2, NX _ rfl]
      cases decide (16 ≤ vof (x i) ∧ vof (x i) < 20) with
      | false => rw [if_pos (show bi false = 0 from rfl), Bool.false_and]; rfl
      | true => rw [if_neg (by decide), Bool.true_and]
    have dig : (bz_fR (bM sl π M G e) 867 10 3 fun v1 => bz_rI (bM sl π M G e) v1 i fun v2 => bz_ci (x_M_isIn v2 48 57 (bM sl π M G e)) fun v4 μ3 => if v4 = 0 then rI 0 μ3 else x_M_areCharacters_0 867 t n (wr ((i : Int) + 1)) μ3) = rI (bi (decide (0 ≤ vof (x i) ∧ vof (x i) < 10) && R)) (bM sl π M G e) := by
      rw [mo_R3, mo_r871 hi60, hxi, bw_isIn, ci_r, v1, NX _ rfl]
      cases decide (0 ≤ vof (x i) ∧ vof (x i) < 10) with
      | false => rw [if_pos (show bi false = 0 from rfl), Bool.false_and]; rfl
      | true => rw [if_neg (by decide), Bool.true_and]
    have inn : (bz_fR (bM sl π M G e) 867 10 3 fun v1 => bz_rI (bM sl π M G e) v1 i fun v2 => bz_ci (x_M_valueOf v2 (bM sl π M G e)) fun v20 μ19 => if v20 = (-1) then rI 0 μ19 else bz_fR μ19 867 10 3 fun v21 => bz_rI μ19 v21 i fun v22 => bz_ci (x_M_isLetter v22 μ19) fun v24 μ23 => if v24 = 0 then x_M_areCharacters_0 867 t n (wr ((i : Int) + 1)) μ23 else rI 0 μ23) = rI (bi (decide (0 ≤ vof (x i) ∧ vof (x i) < 16) && R)) (bM sl π M G e) := by
      rw [mo_R3, mo_r871 hi60, hxi, qm_valueOf hM, ci_r, ← v3]
      by_cases z : vof (x i) = -1
      · rw [if_pos z, decide_eq_false (fun w => w.1 z), Bool.false_and]; rfl
      · rw [if_neg z, mo_R3, mo_r871 hi60, hxi, qm_letter, ci_r, NX _ rfl]
        by_cases y : 65 ≤ x i ∧ x i ≤ 68
        · rw [decide_eq_true y, if_neg (by decide), decide_eq_false (fun w => w.2 y), Bool.false_and]; rfl
        · rw [decide_eq_false y, if_pos (show bi false = 0 from rfl), decide_eq_true ⟨z, y⟩, Bool.true_and]
    by_cases t2 : t = 2
    · subst t2
      have h2 : ((2 : Nat) : Int) = 2 := rfl
      rw [if_pos h2]
      by_cases o1 : (i : Int) = 0
      · rw [if_pos o1, if_pos h2, aw_out (Or.inl o1)]; exact out
      · rw [if_neg o1]
        by_cases o2 : (i : Int) = (n : Int) - 1
        · rw [if_pos o2, if_pos h2, aw_out (Or.inr o2)]; exact out
        · rw [if_neg o2, if_pos h2, aw_in (fun q => q.elim o1 o2)]; exact inn
    · have h2 : ¬ (t : Int) = 2 := by omega
      rw [if_neg h2, if_neg h2, aw_dig t2]; exact dig
theorem qm_areChars {n : Nat} (h16 : n ≤ 16) (hM : mCon M) (hx : ∀ j : Int, 0 ≤ j ∧ j < n → M 871 j = x j ∧ 0 ≤ x j ∧ x j ≤ 255) : d_M_areCharacters 867 t n (bM sl π M G e) = rI (bi (bs_ic t (bs_tc x n))) (bM sl π M G e) := by
  have h := qm_ac_0 (sl := sl) (e := e) (π := π) (G := G) (t := t) h16 hM hx n 0 (by omega)
  rw [d_M_areCharacters_10 _ _ _ _ mo_d, x_M_areCharacters_eq]
  refine Eq.trans h ?_
  unfold bs_ic
  rw [bs_tc_l]
  rfl
end
