/-! CALLS, WRAP-AROUNDS, ROWS AND SEQUENCES IN THE FIXED MEMORY -/
theorem wr_id {x : Int} (h : -2147483648 ≤ x ∧ x < 2147483648) : wr x = x := by unfold wr; omega
theorem wl_id {x : Int} (h : -9223372036854775808 ≤ x ∧ x < 9223372036854775808) : wl x = x := by unfold wl; omega
def bi (b : Bool) : Int := cond b 1 0
theorem bi_eq0 {b : Bool} : (bi b = 0) = (b = false) := by cases b <;> simp [bi]
theorem bi_eq1 {b : Bool} : (bi b = 1) = (b = true) := by cases b <;> simp [bi]
theorem bi_01 {b : Bool} : bi b = 0 ∨ bi b = 1 := by cases b <;> simp [bi]
section
variable {x : Int} {a c : Nat} {μ : bz_M}
theorem ci_r {k : Int → bz_M → Option bz_R} : bz_ci (rI x μ) k = k x μ := rfl
theorem cj_r {k : Int → bz_M → Option bz_R} : bz_cj (rL x μ) k = k x μ := rfl
theorem cr_r {k : Nat → bz_M → Option bz_R} : bz_cr (rR a μ) k = k a μ := rfl
theorem cv_r {k : bz_M → Option bz_R} : bz_cv (rI x μ) k = k μ := rfl
theorem cn_r {k : Int → bz_M → Option bz_R} : bz_cn (rI x μ) k = k x μ := rfl
theorem cu_r {k : bz_M → Option bz_R} : bz_cu (rI x μ) k = k μ := rfl
theorem ci_x {k : Int → bz_M → Option bz_R} : bz_ci (rX c μ) k = rX c μ := rfl
theorem cj_x {k : Int → bz_M → Option bz_R} : bz_cj (rX c μ) k = rX c μ := rfl
theorem cr_x {k : Nat → bz_M → Option bz_R} : bz_cr (rX c μ) k = rX c μ := rfl
theorem cv_x {k : bz_M → Option bz_R} : bz_cv (rX c μ) k = rX c μ := rfl
theorem hi_r {k : Int → bz_M → Option bz_R} {h : Nat → bz_M → Option bz_R} : bz_hi (rI x μ) k h = k x μ := rfl
theorem hi_x {k : Int → bz_M → Option bz_R} {h : Nat → bz_M → Option bz_R} : bz_hi (rX c μ) k h = h c μ := rfl
theorem hv_r {k : bz_M → Option bz_R} {h : Nat → bz_M → Option bz_R} : bz_hv (rI x μ) k h = k μ := rfl
theorem hv_x {k : bz_M → Option bz_R} {h : Nat → bz_M → Option bz_R} : bz_hv (rX c μ) k h = h c μ := rfl
theorem dv_r {x y : Int} {k : Int → Option bz_R} (h : y ≠ 0) : bz_dv x y k = k (wr (x.tdiv y)) := if_neg h
theorem rm_r {x y : Int} {k : Int → Option bz_R} (h : y ≠ 0) : bz_rm x y k = k (x.tmod y) := if_neg h
theorem ld_r {x y : Int} {k : Int → Option bz_R} (h : y ≠ 0) : bz_ld x y k = k (wl (x.tdiv y)) := if_neg h
end
section
variable {sl e : Nat} {π : Int → Nat} {M G : Nat → Int → Int} {r : Nat} {i j x : Int} {k : Int → Option bz_R} {kr : Nat → Option bz_R} {km : bz_M → Option bz_R}
theorem row_d (h : aRow r) : gT (bM sl π M G e) r = 5 := gT_bM.trans h.1
theorem row_w (h : aRow r) : bz_fR (bM sl π M G e) r 5 0 kr = kr (r + 1) := bm_fR h.1 h.2.2.2.1 h.2.2.2.2.1 (by omega)
theorem row_I (h : aRow r) : bz_fI (bM sl π M G e) r 5 j k = k (M r j) := bm_fI h.1
theorem row_p (h : aRow r) : bz_pI (bM sl π M G e) r 5 j x km = km (bM sl π (up M r j x) G e) := bm_pI h.1
theorem row_r (h : aRow r) (hi : 0 ≤ i ∧ i < 129) : bz_rI (bM sl π M G e) (r + 1) i k = k (M (r + 1) i) := bm_rI (Or.inl h.2.1) h.2.2.1 (by have := h.2.2.2.2.2; omega) hi
theorem row_s (h : aRow r) (hi : 0 ≤ i ∧ i < 129) : bz_wI (bM sl π M G e) (r + 1) i x km = km (bM sl π (up M (r + 1) i x) G e) := bm_wI h.2.1 h.2.2.1 (by have := h.2.2.2.2.2; omega) hi
theorem row_l (h : aRow r) : bz_al (bM sl π M G e) (r + 1) k = k 129 := bm_al (by rw [h.2.1]; decide) h.2.2.1 (by have := h.2.2.2.2.2; omega)
theorem seq_d (h : aSeq r) : gT (bM sl π M G e) r = 7 := gT_bM.trans h.1
theorem seq_v (h : aSeq r) : bz_fR (bM sl π M G e) r 7 0 kr = kr (r + 1) := bm_fR h.1 h.2.2.2.1.1 h.2.2.2.2.1 (by omega)
theorem seq_c (h : aSeq r) : bz_fR (bM sl π M G e) r 7 1 kr = kr (r + 2) := bm_fR h.1 h.2.2.2.1.2 h.2.2.2.2.1 (by omega)
theorem seq_I (h : aSeq r) : bz_fI (bM sl π M G e) r 7 j k = k (M r j) := bm_fI h.1
theorem seq_p (h : aSeq r) : bz_pI (bM sl π M G e) r 7 j x km = km (bM sl π (up M r j x) G e) := bm_pI h.1
theorem seq_rv (h : aSeq r) (hi : 0 ≤ i ∧ i < 16) : bz_rI (bM sl π M G e) (r + 1) i k = k (M (r + 1) i) := bm_rI (Or.inl h.2.1.1) h.2.2.1.1 (by have := h.2.2.2.2.2; omega) hi
theorem seq_rc (h : aSeq r) (hi : 0 ≤ i ∧ i < 16) : bz_rI (bM sl π M G e) (r + 2) i k = k (M (r + 2) i) := bm_rI (Or.inl h.2.1.2) h.2.2.1.2 (by have := h.2.2.2.2.2; omega) hi
theorem seq_sv (h : aSeq r) (hi : 0 ≤ i ∧ i < 16) : bz_wI (bM sl π M G e) (r + 1) i x km = km (bM sl π (up M (r + 1) i x) G e) := bm_wI h.2.1.1 h.2.2.1.1 (by have := h.2.2.2.2.2; omega) hi
theorem seq_sc (h : aSeq r) (hi : 0 ≤ i ∧ i < 16) : bz_wI (bM sl π M G e) (r + 2) i x km = km (bM sl π (up M (r + 2) i x) G e) := bm_wI h.2.1.2 h.2.2.1.2 (by have := h.2.2.2.2.2; omega) hi
theorem seq_lv (h : aSeq r) : bz_al (bM sl π M G e) (r + 1) k = k 16 := bm_al (by rw [h.2.1.1]; decide) h.2.2.1.1 (by have := h.2.2.2.2.2; omega)
theorem seq_lc (h : aSeq r) : bz_al (bM sl π M G e) (r + 2) k = k 16 := bm_al (by rw [h.2.1.2]; decide) h.2.2.1.2 (by have := h.2.2.2.2.2; omega)
theorem rdg_d (h : aRdg r) : gT (bM sl π M G e) r = 4 := gT_bM.trans h.1
theorem rdg_w (h : aRdg r) : bz_fR (bM sl π M G e) r 4 0 kr = kr (r + 1) := bm_fR h.1 h.2.1.1 h.2.2.2.1 (by omega)
theorem rdg_h (h : aRdg r) : bz_fR (bM sl π M G e) r 4 1 kr = kr (r + 4) := bm_fR h.1 h.2.1.2.1 h.2.2.2.1 (by omega)
theorem rdg_t (h : aRdg r) : bz_fR (bM sl π M G e) r 4 2 kr = kr (r + 7) := bm_fR h.1 h.2.1.2.2 h.2.2.2.1 (by omega)
theorem rdg_I (h : aRdg r) : bz_fI (bM sl π M G e) r 4 j k = k (M r j) := bm_fI h.1
theorem rdg_p (h : aRdg r) : bz_pI (bM sl π M G e) r 4 j x km = km (bM sl π (up M r j x) G e) := bm_pI h.1
theorem rdg_b (h : aRdg r) (hx : x = 0 ∨ x = 1) : bz_pB (bM sl π M G e) r 4 j x km = km (bM sl π (up M r j x) G e) := bm_pB h.1 hx
theorem tal_d (h : aTal r) : gT (bM sl π M G e) r = 8 := gT_bM.trans h.1
end
/-! what a row of widths holds, what a sequence holds -/
def rRow (M : Nat → Int → Int) (r : Nat) (n : Int) (w : Int → Int) : Prop := (0 ≤ n ∧ n ≤ 129) ∧ M r 1 = n ∧ ∀ i, 0 ≤ i ∧ i < n → M (r + 1) i = w i
def wOK (n : Int) (w : Int → Int) : Prop := ∀ i, 0 ≤ i ∧ i < n → 1 ≤ w i ∧ w i ≤ 10000
def bs_u (w : Int → Int) (a s : Int) : Nat → Int := fun k => w (a + s * k)
def bs_lo (u : Nat → Int) : Nat → Int
  | 0 => u 0
  | m + 1 => if u m < bs_lo u m then u m else bs_lo u m
def bs_hi (u : Nat → Int) : Nat → Int
  | 0 => u 0
  | m + 1 => if bs_hi u m < u m then u m else bs_hi u m
theorem bs_lo_bd {u : Nat → Int} {p q : Int} {c : Nat} (hc : 0 < c) (hu : ∀ k, k < c → p ≤ u k ∧ u k ≤ q) : ∀ m, m ≤ c → p ≤ bs_lo u m ∧ bs_lo u m ≤ q := by
  intro m
  induction m with
  | zero => intro _; exact hu 0 hc
  | succ m ih =>
    intro h
    have h1 := ih (by omega)
    have h2 := hu m (by omega)
    unfold bs_lo
    split
    · exact h2
    · exact h1
theorem bs_hi_bd {u : Nat → Int} {p q : Int} {c : Nat} (hc : 0 < c) (hu : ∀ k, k < c → p ≤ u k ∧ u k ≤ q) : ∀ m, m ≤ c → p ≤ bs_hi u m ∧ bs_hi u m ≤ q := by
  intro m
  induction m with
  | zero => intro _; exact hu 0 hc
  | succ m ih =>
    intro h
    have h1 := ih (by omega)
    have h2 := hu m (by omega)
    unfold bs_hi
    split
    · exact h2
    · exact h1
