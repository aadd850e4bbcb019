/-! THE MODEL READS ALL SCANS; its overlaps, merges, agreement -/
theorem al_inj0 : ∀ a : Nat, a < 20 → ∀ b : Nat, b < 20 → bs_al a = bs_al b → a = b := by decide
theorem al_inj {a b : Int} (ha : 0 ≤ a ∧ a < 20) (hb : 0 ≤ b ∧ b < 20) : (al a = al b) = (a = b) := by
  refine propext ⟨fun h => ?_, fun h => by rw [h]⟩
  have := al_inj0 a.toNat (by omega) b.toNat (by omega) h
  omega
def S_all (b : Nat) (j : Int) : Prop := (b = 867 ∧ (j = 16 ∨ j = 19 ∨ j = 20 ∨ j = 21)) ∨ (878 ≤ b ∧ b ≤ 885)
section
variable {sl e : Nat} {π : Int → Nat} {M G : Nat → Int → Int} {σ : Sg} {k : Int} {t : Nat}
theorem mRdg_fr {S : Nat → Int → Prop} {M' : Nat → Int → Int} {n : Int} {x : Rd} (h : mRdg M k n x) (f : fr S M M') (hs : ∀ b j, ((b = 881 ∧ 3 * k ≤ j ∧ j < 3 * k + 3) ∨ ((b = 882 ∨ b = 883) ∧ 48 * k ≤ j ∧ j < 48 * k + 48) ∨ ((b = 884 ∨ b = 885) ∧ j = k)) → ¬ S b j) : mRdg M' k n x :=
  ⟨⟨mKept_fr h.1.1 f fun b j z => hs b j (by unfold S_k at z; omega), mKept_fr h.1.2.1 f fun b j z => hs b j (by unfold S_k at z; omega), mKept_fr h.1.2.2 f fun b j z => hs b j (by unfold S_k at z; omega)⟩, (f _ _ (hs _ _ (by omega))).trans h.2.1, fun z => (f _ _ (hs _ _ (by omega))).trans (h.2.2 z)⟩
theorem S_all_MR {b : Nat} {j : Int} (z : S_all b j) : (b = 867 ∧ j ≠ 8 ∧ j ≠ 9 ∧ j ≠ 10) ∨ 876 ≤ b ∨ (b < 867 ∧ 16 ≤ b ∧ ¬ (22 ≤ b ∧ b ≤ 24)) := by unfold S_all at z; omega
theorem S_all_hi {M' : Nat → Int → Int} (f : fr S_all M M') : fr S_hi M M' := fr_mono (fun b j z => by unfold S_all at z; unfold S_hi; omega) f
theorem qm_all_0 (h : MR σ M) (ht : t < 3) : ∀ (m : Nat) (i : Int) (M1 : Nat → Int → Int), i + m = gc σ → 0 ≤ i → MR σ M1 → fr S_all M M1 → (∀ j, 0 ≤ j ∧ j < i → mRdg M1 j (gs σ j) (gR σ t j)) →
    ∃ M', x_M_readsAll_0 867 t i (bM sl π M1 G e) = rI 0 (bM sl π M' G e) ∧ MR σ M' ∧ fr S_all M M' ∧ ∀ j, 0 ≤ j ∧ j < gc σ → mRdg M' j (gs σ j) (gR σ t j) := by
  have hc := h.1.1
  intro m
  induction m with
  | zero =>
    intro i M1 hi h0 mr f hr
    rw [x_M_readsAll_0_eq, mo_I, mr.2.2.1.1, if_neg (by omega)]
    exact ⟨M1, rfl, mr, f, fun j hj => hr j (by omega)⟩
  | succ m ih =>
    intro i M1 hi h0 mr f hr
    obtain ⟨M2, g2, mr2, f2, r2⟩ := qm_readsScan (sl := sl) (e := e) (π := π) (G := G) mr (k := i) (by omega) ht
    rw [x_M_readsAll_0_eq, mo_I, mr.2.2.1.1, if_pos (by omega), g2]
    simp only [cv_r]
    rw [wr_id (by omega)]
    refine ih (i + 1) M2 (by omega) (by omega) mr2 (fr_trans f (fr_mono (fun b j z => by unfold S_sc at z; unfold S_all; omega) f2)) fun j hj => ?_
    by_cases z : j = i
    · rw [z]; exact r2
    · exact mRdg_fr (hr j (by omega)) f2 fun b y hb => by unfold S_sc; omega
theorem qm_all (h : MR σ M) (ht : t < 3) : ∃ M', d_M_readsAll 867 t (bM sl π M G e) = rI 0 (bM sl π M' G e) ∧ MR σ M' ∧ fr S_all M M' ∧ ∀ j, 0 ≤ j ∧ j < gc σ → mRdg M' j (gs σ j) (gR σ t j) := by
  have hc := h.1.1
  rw [d_M_readsAll_10 _ _ _ mo_d, x_M_readsAll_eq]
  exact qm_all_0 h ht (gc σ).toNat 0 M (by omega) (by decide) h fr_refl (fun j hj => by omega)
theorem qm_most {l : Int} {a b : List Ch} (hk : 0 ≤ k ∧ k < 24) (hl : 0 ≤ l ∧ l < 24) (h1 : mKept M k 1 a) (h2 : mKept M l 2 b) : d_M_mostOverlap 867 k l (bM sl π M G e) = rI ((min a.length b.length : Nat) : Int) (bM sl π M G e) := by
  rw [d_M_mostOverlap_10 _ _ _ _ mo_d, x_M_mostOverlap_eq, qm_many hk (by decide) h1]
  simp only [ci_r]
  rw [qm_many hl (by decide) h2]
  simp only [ci_r]
  by_cases z : (a.length : Int) < b.length
  · rw [if_pos z, show min a.length b.length = a.length by omega]
  · rw [if_neg z, show min a.length b.length = b.length by omega]
theorem qm_over_0 {l : Int} {a b : List Ch} {o : Nat} (hk : 0 ≤ k ∧ k < 24) (hl : 0 ≤ l ∧ l < 24) (h1 : mKept M k 1 a) (h2 : mKept M l 2 b) (ha : ∀ c ∈ a, 0 ≤ c.1 ∧ c.1 < 20) (hb : ∀ c ∈ b, 0 ≤ c.1 ∧ c.1 < 20) (ho : o ≤ a.length ∧ o ≤ b.length) : ∀ (d i : Nat) (hid : i + d = o), (∀ j (hj : j < i), (a[a.length - o + j]'(by omega)).1 = (b[j]'(by omega)).1) → x_M_overlaps_0 867 k l o ((a.length - o : Nat) : Int) i (bM sl π M G e) = rI (bi (bs_ov a b o)) (bM sl π M G e) := by
  have h16 := h1.2.1
  intro d
  induction d with
  | zero =>
    intro i hi hj
    rw [x_M_overlaps_0_eq, if_neg (by omega), (bs_ov_at ho).mpr (fun j hj' => hj j (by omega))]
    rfl
  | succ d ih =>
    intro i hi hj
    have e1 : wr (((a.length - o : Nat) : Int) + i) = ((a.length - o + i : Nat) : Int) := by rw [wr_id (by omega)]; omega
    have e2 : wr ((i : Int) + 1) = ((i + 1 : Nat) : Int) := by rw [wr_id (by omega)]; omega
    rw [x_M_overlaps_0_eq, if_pos (by omega), e1, qm_sign hk (by decide) h1 (show a.length - o + i < a.length by omega)]
    simp only [ci_r]
    rw [qm_sign hl (by decide) h2 (show i < b.length by omega)]
    simp only [ci_r]
    rw [e2]
    simp only [al_inj (ha _ (List.getElem_mem (show a.length - o + i < a.length by omega))) (hb _ (List.getElem_mem (show i < b.length by omega)))]
    by_cases z : (a[a.length - o + i]'(by omega)).1 = (b[i]'(by omega)).1
    · rw [if_pos z]
      refine ih (i + 1) (by omega) fun j hj' => ?_
      rcases Nat.lt_or_ge j i with y | y
      · exact hj j y
      · have : j = i := by omega
        subst this
        exact z
    · rw [if_neg z]
      have : bs_ov a b o = false := by
        cases hb : bs_ov a b o with
        | false => rfl
        | true => exact absurd ((bs_ov_at ho).mp hb i (by omega)) z
      rw [this]; rfl
theorem qm_over {l : Int} {a b : List Ch} {o : Nat} (hk : 0 ≤ k ∧ k < 24) (hl : 0 ≤ l ∧ l < 24) (h1 : mKept M k 1 a) (h2 : mKept M l 2 b) (ha : ∀ c ∈ a, 0 ≤ c.1 ∧ c.1 < 20) (hb : ∀ c ∈ b, 0 ≤ c.1 ∧ c.1 < 20) (ho : o ≤ a.length ∧ o ≤ b.length) : d_M_overlaps 867 k l o (bM sl π M G e) = rI (bi (bs_ov a b o)) (bM sl π M G e) := by
  have h16 := h1.2.1
  rw [d_M_overlaps_10 _ _ _ _ _ mo_d, x_M_overlaps_eq, qm_many hk (by decide) h1]
  simp only [ci_r]
  rw [wr_id (by omega), show (a.length : Int) - o = ((a.length - o : Nat) : Int) by omega]
  exact qm_over_0 hk hl h1 h2 ha hb ho o 0 (by omega) (fun j hj => by omega)
theorem qm_ov_0 {l : Int} {a b : List Ch} (hk : 0 ≤ k ∧ k < 24) (hl : 0 ≤ l ∧ l < 24) (h1 : mKept M k 1 a) (h2 : mKept M l 2 b) (ha : ∀ c ∈ a, 0 ≤ c.1 ∧ c.1 < 20) (hb : ∀ c ∈ b, 0 ≤ c.1 ∧ c.1 < 20) : ∀ o : Nat, o ≤ a.length ∧ o ≤ b.length → x_M_overlap_0 867 k l o (bM sl π M G e) = rI (bs_o0 a b o) (bM sl π M G e) := by
  have h16 := h1.2.1
  intro o
  induction o with
  | zero =>
    intro ho
    rw [x_M_overlap_0_eq, qm_over hk hl h1 h2 ha hb ho]
    simp only [ci_r, bi_eq0]
    rw [bs_ov_0, if_neg (by decide)]; rfl
  | succ o ih =>
    intro ho
    rw [x_M_overlap_0_eq, qm_over hk hl h1 h2 ha hb ho]
    simp only [ci_r, bi_eq0]
    rw [bs_o0]
    cases hv : bs_ov a b (o + 1) with
    | true => rw [if_neg (by decide), if_pos rfl]
    | false =>
      rw [if_pos rfl, if_neg (by decide), show wr (((o + 1 : Nat) : Int) + -1) = (o : Int) by rw [wr_id (by omega)]; omega]
      exact ih (by omega)
theorem qm_isLength {n : Int} (ht : t < 3) {μ : bz_M} : x_M_isLength t n μ = rI (bi (bs_hl t n)) μ := by
  match t, ht with
  | 0, _ =>
    rw [x_M_isLength_eq, show ((0 : Nat) : Int) = 0 from rfl, if_pos rfl, show bs_hl 0 n = decide (n = 8) from rfl]
    by_cases z : n = 8
    · rw [if_pos z, decide_eq_true z]; rfl
    · rw [if_neg z, decide_eq_false z]; rfl
  | 1, _ =>
    rw [x_M_isLength_eq, show ((1 : Nat) : Int) = 1 from rfl, if_neg (by decide), if_pos rfl, show bs_hl 1 n = decide ((2 ≤ n ∧ n ≤ 14) ∧ Int.tmod n 2 = 0) from rfl, bw_isIn]
    simp only [ci_r, bi_eq0]
    by_cases z3 : Int.tmod n 2 = 0
    · rw [if_pos z3]
      by_cases z : 2 ≤ n ∧ n ≤ 14
      · rw [if_neg (by rw [decide_eq_true z]; decide), decide_eq_true ⟨z, z3⟩]; rfl
      · rw [if_pos (decide_eq_false z), decide_eq_false (fun y => z y.1)]; rfl
    · rw [if_neg z3, decide_eq_false (fun y => z3 y.2)]; rfl
  | 2, _ =>
    rw [x_M_isLength_eq, show ((2 : Nat) : Int) = 2 from rfl, if_neg (by decide), if_neg (by decide), show bs_hl 2 n = decide (3 ≤ n ∧ n ≤ 16) from rfl, bw_isIn]
    simp only [ci_r, bi_eq0]
    by_cases z : 3 ≤ n ∧ n ≤ 16
    · rw [decide_eq_true z]; rfl
    · rw [decide_eq_false z]; rfl
theorem qm_merges_0 {l : Int} {a b : List Ch} (ht : t < 3) (hk : 0 ≤ k ∧ k < 24) (hl : 0 ≤ l ∧ l < 24) (h1 : mKept M k 1 a) (h2 : mKept M l 2 b) (ha : ∀ c ∈ a, 0 ≤ c.1 ∧ c.1 < 20) (hb : ∀ c ∈ b, 0 ≤ c.1 ∧ c.1 < 20) : ∀ o : Nat, o ≤ a.length ∧ o ≤ b.length → x_M_merges_0 867 k l t o (bM sl π M G e) = rI (if bs_se0 t a b o = -1 then 0 else (a.length : Int) + b.length - bs_se0 t a b o) (bM sl π M G e) := by
  have h16 := h1.2.1
  have h16' := h2.2.1
  intro o
  induction o with
  | zero =>
    intro ho
    rw [x_M_merges_0_eq, if_pos (by omega)]; rfl
  | succ o ih =>
    intro ho
    rw [x_M_merges_0_eq, bs_se0]
    by_cases h2' : 2 ≤ o + 1
    · have e1 : wr (((o + 1 : Nat) : Int) + -1) = (o : Int) := by rw [wr_id (by omega)]; omega
      rw [if_neg (by omega), if_pos h2', qm_many hk (by decide) h1]
      simp only [ci_r]
      rw [qm_many hl (by decide) h2]
      simp only [ci_r]
      rw [wr_id (x := (a.length : Int) + b.length) (by omega), wr_id (x := (a.length : Int) + b.length - ((o + 1 : Nat) : Int)) (by omega), qm_isLength ht]
      simp only [ci_r, bi_eq0]
      rw [e1]
      cases hh : bs_hl t ((a.length : Int) + b.length - ((o + 1 : Nat) : Int)) with
      | false =>
        rw [if_pos rfl, Bool.and_false]
        simp only [Bool.false_eq_true, if_false]
        exact ih (by omega)
      | true =>
        rw [if_neg (by decide), Bool.and_true, qm_over hk hl h1 h2 ha hb ho]
        simp only [ci_r, bi_eq0]
        cases hv : bs_ov a b (o + 1) with
        | false =>
          rw [if_pos rfl]
          simp only [Bool.false_eq_true, if_false]
          exact ih (by omega)
        | true =>
          rw [if_neg (by decide)]
          simp only [if_true]
          rw [if_neg (by omega)]
    · rw [if_pos (by omega), if_neg h2', if_pos rfl]
theorem qm_merges {l : Int} {a b : List Ch} (ht : t < 3) (hk : 0 ≤ k ∧ k < 24) (hl : 0 ≤ l ∧ l < 24) (h1 : mKept M k 1 a) (h2 : mKept M l 2 b) (ha : ∀ c ∈ a, 0 ≤ c.1 ∧ c.1 < 20) (hb : ∀ c ∈ b, 0 ≤ c.1 ∧ c.1 < 20) : d_M_merges 867 k l t (bM sl π M G e) = rI (gMl t a b) (bM sl π M G e) := by
  rw [d_M_merges_10 _ _ _ _ _ mo_d, x_M_merges_eq]
  by_cases z : t = 0
  · have e4 : gMl t a b = if a.length = 4 ∧ b.length = 4 then 8 else 0 := by
      have e5 : bs_se t a b = if a.length = 4 ∧ b.length = 4 then 0 else -1 := if_pos z
      unfold gMl
      rw [e5]
      by_cases y : a.length = 4 ∧ b.length = 4
      · simp only [if_pos y]
        rw [if_neg (by decide)]
        omega
      · simp only [if_neg y, if_true]
    rw [e4, if_pos (by omega), qm_many hk (by decide) h1]
    simp only [ci_r]
    by_cases z1 : a.length = 4
    · rw [if_pos (by omega), qm_many hl (by decide) h2]
      simp only [ci_r]
      by_cases z2 : b.length = 4
      · rw [if_pos (by omega), if_pos ⟨z1, z2⟩]
      · rw [if_neg (by omega), if_neg (fun y => z2 y.2)]
    · rw [if_neg (by omega), if_neg (fun y => z1 y.1)]
  · rw [if_neg (by omega), qm_most hk hl h1 h2]
    simp only [ci_r]
    rw [qm_merges_0 ht hk hl h1 h2 ha hb _ (by omega)]
    unfold gMl bs_se
    rw [if_neg z]
/-- two scans and a symbology -/
def ok2 (σ : Sg) (k l s : Int) : Prop := ((0 ≤ k ∧ k < gc σ) ∧ (0 ≤ l ∧ l < gc σ)) ∧ 0 ≤ s ∧ s < 3
theorem g20 (h : okS σ) (hk : 0 ≤ k ∧ k < gc σ) (ht : t < 3) : (∀ c ∈ (gR σ t k).1.1, 0 ≤ c.1 ∧ c.1 < 20) ∧ (∀ c ∈ (gR σ t k).1.2.1, 0 ≤ c.1 ∧ c.1 < 20) ∧ ∀ c ∈ (gR σ t k).1.2.2, 0 ≤ c.1 ∧ c.1 < 20 := by
  have hok := okRd_g h hk ht
  exact ⟨fun c hc => okC_20 (hok.2.2.2.2.2.2.1 c hc), fun c hc => okC_20 (hok.2.1 c hc), fun c hc => okC_20 (hok.2.2.1 c hc)⟩
theorem qm_mergesNow {l : Int} (h : MR σ M) (hk : 0 ≤ k ∧ k < gc σ) (hl : 0 ≤ l ∧ l < gc σ) (ht : t < 3) : ∃ M', d_M_mergesNow 867 k l t (bM sl π M G e) = rI (gMl t (gR σ t k).1.2.1 (gR σ t l).1.2.2) (bM sl π M' G e) ∧ MR σ M' ∧ fr S_hi M M' ∧ M' 867 11 = 0 ∧ ∀ j, 0 ≤ j ∧ j < gc σ → mRdg M' j (gs σ j) (gR σ t j) := by
  have hc := h.1.1
  obtain ⟨M', g, mr, f, r⟩ := qm_all (sl := sl) (e := e) (π := π) (G := G) (MR_th (t := 0) h) ht
  rw [d_M_mergesNow_10 _ _ _ _ _ mo_d, x_M_mergesNow_eq, bw_isScan h]
  simp only [ci_r, bi_eq0]
  rw [if_neg (by rw [decide_eq_true hk]; decide), bw_isScan h]
  simp only [ci_r, bi_eq0]
  rw [if_neg (by rw [decide_eq_true hl]; decide), bw_isSym]
  simp only [ci_r, bi_eq0]
  rw [if_neg (by rw [decide_eq_true (show 0 ≤ (t : Int) ∧ (t : Int) < 3 by omega)]; decide), mo_p, mo_I, up_s, t_zero, g]
  simp only [cv_r]
  rw [qm_merges ht (by omega) (by omega) (r k hk).1.2.1 (r l hl).1.2.2 (g20 h.1 hk ht).2.1 (g20 h.1 hl ht).2.2]
  simp only [ci_r]
  exact ⟨M', rfl, mr, fr_trans fr_thhi (S_all_hi f), by rw [f _ _ (by unfold S_all; omega), up_s], r⟩
theorem qm_mergesNowX {s l : Int} (h : MR σ M) (hx : ¬ ok2 σ k l s) : d_M_mergesNow 867 k l s (bM sl π M G e) = rI 0 (bM sl π (up M 867 11 1) G e) := by
  rw [d_M_mergesNow_10 _ _ _ _ _ mo_d, x_M_mergesNow_eq, bw_isScan h]
  simp only [ci_r, bi_eq0]
  by_cases q : 0 ≤ k ∧ k < gc σ
  · rw [if_neg (by rw [decide_eq_true q]; decide), bw_isScan h]
    simp only [ci_r, bi_eq0]
    by_cases q2 : 0 ≤ l ∧ l < gc σ
    · rw [if_neg (by rw [decide_eq_true q2]; decide), bw_isSym]
      simp only [ci_r, bi_eq0]
      rw [if_pos (decide_eq_false (fun z => hx ⟨⟨q, q2⟩, z⟩)), mo_p, mo_I, up_s, t_pos]
    · rw [if_pos (decide_eq_false q2), mo_p, mo_I, up_s, t_pos]
  · rw [if_pos (decide_eq_false q), mo_p, mo_I, up_s, t_pos]
theorem qm_mergedLength {l : Int} (h : MR σ M) (hk : 0 ≤ k ∧ k < gc σ) (hl : 0 ≤ l ∧ l < gc σ) (ht : t < 3) : ∃ M', d_M_mergedLength 867 k l t (bM sl π M G e) = rI (gMl t (gR σ t k).1.2.1 (gR σ t l).1.2.2) (bM sl π M' G e) ∧ MR σ M' ∧ fr S_hi M M' ∧ M' 867 11 = 0 := by
  obtain ⟨M', g, mr, f, t0, -⟩ := qm_mergesNow (sl := sl) (e := e) (π := π) (G := G) h hk hl ht
  rw [d_M_mergedLength_10 _ _ _ _ _ mo_d, x_M_mergedLength_eq, g]
  exact ⟨M', rfl, mr, f, t0⟩
theorem qm_mergedLengthX {s l : Int} (h : MR σ M) (hx : ¬ ok2 σ k l s) : d_M_mergedLength 867 k l s (bM sl π M G e) = rI 0 (bM sl π (up M 867 11 1) G e) := by
  rw [d_M_mergedLength_10 _ _ _ _ _ mo_d, x_M_mergedLength_eq, qm_mergesNowX h hx]; rfl
theorem qm_mergedCharacter {l p : Int} (h : MR σ M) (hk : 0 ≤ k ∧ k < gc σ) (hl : 0 ≤ l ∧ l < gc σ) (ht : t < 3) : ∃ M', (MR σ M' ∧ fr S_hi M M') ∧ (0 ≤ p ∧ p < gMl t (gR σ t k).1.2.1 (gR σ t l).1.2.2 → d_M_mergedCharacter 867 k l t p (bM sl π M G e) = rI (al (gMc t (gR σ t k).1.2.1 (gR σ t l).1.2.2 p.toNat)) (bM sl π M' G e) ∧ M' 867 11 = 0) ∧ (¬ (0 ≤ p ∧ p < gMl t (gR σ t k).1.2.1 (gR σ t l).1.2.2) → d_M_mergedCharacter 867 k l t p (bM sl π M G e) = rI 0 (bM sl π (up M' 867 11 1) G e)) := by
  have hc := h.1.1
  obtain ⟨M', g, mr, f, t0, r⟩ := qm_mergesNow (sl := sl) (e := e) (π := π) (G := G) h hk hl ht
  have hb := bs_se_bd (s := t) (l := (gR σ t k).1.2.1) (m := (gR σ t l).1.2.2)
  have l1 := (r k hk).1.2.1.2.1
  have l2 := (r l hl).1.2.2.2.1
  refine ⟨M', ⟨mr, f⟩, ?_⟩
  rw [d_M_mergedCharacter_10 _ _ _ _ _ _ mo_d, x_M_mergedCharacter_eq, g]
  simp only [ci_r]
  have hgb : 0 ≤ gMl t (gR σ t k).1.2.1 (gR σ t l).1.2.2 ∧ gMl t (gR σ t k).1.2.1 (gR σ t l).1.2.2 ≤ 100 := by
    unfold gMl
    split <;> omega
  rw [wr_id (by omega), bw_isIn]
  simp only [ci_r, bi_eq0]
  refine ⟨fun hp => ?_, fun hp => ?_⟩
  · have hz : bs_se t (gR σ t k).1.2.1 (gR σ t l).1.2.2 ≠ -1 := by
      intro z
      unfold gMl at hp
      rw [if_pos z] at hp
      omega
    have hgm : gMl t (gR σ t k).1.2.1 (gR σ t l).1.2.2 = ((gR σ t k).1.2.1.length : Int) + (gR σ t l).1.2.2.length - bs_se t (gR σ t k).1.2.1 (gR σ t l).1.2.2 := if_neg hz
    rw [if_neg (by rw [decide_eq_true (show 0 ≤ p ∧ p ≤ gMl t (gR σ t k).1.2.1 (gR σ t l).1.2.2 - 1 by omega)]; decide), mo_I, t0, t_zero, qm_many (by omega) (by decide) (r k hk).1.2.1]
    simp only [ci_r]
    obtain ⟨i, rfl⟩ : ∃ i : Nat, p = i := ⟨p.toNat, by omega⟩
    rw [show (i : Int).toNat = i from rfl]
    unfold gMc
    by_cases z2 : i < (gR σ t k).1.2.1.length
    · rw [if_pos (by omega), if_pos z2, qm_sign (by omega) (by decide) (r k hk).1.2.1 z2, getD_at z2]
      exact ⟨rfl, trivial⟩
    · have hlt : i - (gR σ t k).1.2.1.length + (bs_se t (gR σ t k).1.2.1 (gR σ t l).1.2.2).toNat < (gR σ t l).1.2.2.length := by omega
      rw [if_neg (by omega), if_neg z2, qm_many (by omega) (by decide) (r l hl).1.2.2]
      simp only [ci_r]
      have e1 : wr (wr ((i : Int) - gMl t (gR σ t k).1.2.1 (gR σ t l).1.2.2) + ((gR σ t l).1.2.2.length : Int)) = ((i - (gR σ t k).1.2.1.length + (bs_se t (gR σ t k).1.2.1 (gR σ t l).1.2.2).toNat : Nat) : Int) := by
        rw [wr_id (x := (i : Int) - gMl t (gR σ t k).1.2.1 (gR σ t l).1.2.2) (by omega), wr_id (by omega)]; omega
      rw [e1, qm_sign (by omega) (by decide) (r l hl).1.2.2 hlt, getD_at hlt]
      exact ⟨rfl, trivial⟩
  · rw [if_pos (decide_eq_false (by omega)), mo_p, mo_I, up_s, t_pos]
theorem qm_mergedCharacterX {s l p : Int} (h : MR σ M) (hx : ¬ ok2 σ k l s) : d_M_mergedCharacter 867 k l s p (bM sl π M G e) = rI 0 (bM sl π (up (up M 867 11 1) 867 11 1) G e) := by
  rw [d_M_mergedCharacter_10 _ _ _ _ _ _ mo_d, x_M_mergedCharacter_eq, qm_mergesNowX h hx]
  simp only [ci_r]
  rw [bw_isIn]
  simp only [ci_r, bi_eq0]
  rw [if_pos (decide_eq_false (by rw [show wr (0 - 1) = -1 from rfl]; omega)), mo_p, mo_I, up_s, t_pos]
theorem qm_overlap {l : Int} (h : MR σ M) (hk : 0 ≤ k ∧ k < gc σ) (hl : 0 ≤ l ∧ l < gc σ) (ht : t < 3) : ∃ M', d_M_overlap 867 k l t (bM sl π M G e) = rI (gOv (gR σ t k).1.2.1 (gR σ t l).1.2.2) (bM sl π M' G e) ∧ MR σ M' ∧ fr S_hi M M' ∧ M' 867 11 = 0 := by
  have hc := h.1.1
  obtain ⟨M', g, mr, f, r⟩ := qm_all (sl := sl) (e := e) (π := π) (G := G) (MR_th (t := 0) h) ht
  rw [d_M_overlap_10 _ _ _ _ _ mo_d, x_M_overlap_eq, bw_isScan h]
  simp only [ci_r, bi_eq0]
  rw [if_neg (by rw [decide_eq_true hk]; decide), bw_isScan h]
  simp only [ci_r, bi_eq0]
  rw [if_neg (by rw [decide_eq_true hl]; decide), bw_isSym]
  simp only [ci_r, bi_eq0]
  rw [if_neg (by rw [decide_eq_true (show 0 ≤ (t : Int) ∧ (t : Int) < 3 by omega)]; decide), mo_p, mo_I, up_s, t_zero, g]
  simp only [cv_r]
  rw [qm_most (by omega) (by omega) (r k hk).1.2.1 (r l hl).1.2.2]
  simp only [ci_r]
  refine ⟨M', ?_, mr, fr_trans fr_thhi (S_all_hi f), by rw [f _ _ (by unfold S_all; omega), up_s]⟩
  unfold gOv
  by_cases z : (gR σ t k).1.2.1.length = 0
  · rw [if_pos (by omega), if_pos z]
  · rw [if_neg z]
    by_cases z2 : (gR σ t l).1.2.2.length = 0
    · rw [if_pos (by omega), if_pos z2]
    · rw [if_neg (by omega), if_neg z2]
      exact qm_ov_0 (by omega) (by omega) (r k hk).1.2.1 (r l hl).1.2.2 (g20 h.1 hk ht).2.1 (g20 h.1 hl ht).2.2 _ (by omega)
theorem qm_overlapX {s l : Int} (h : MR σ M) (hx : ¬ ok2 σ k l s) : d_M_overlap 867 k l s (bM sl π M G e) = rI 0 (bM sl π (up M 867 11 1) G e) := by
  rw [d_M_overlap_10 _ _ _ _ _ mo_d, x_M_overlap_eq, bw_isScan h]
  simp only [ci_r, bi_eq0]
  by_cases q : 0 ≤ k ∧ k < gc σ
  · rw [if_neg (by rw [decide_eq_true q]; decide), bw_isScan h]
    simp only [ci_r, bi_eq0]
    by_cases q2 : 0 ≤ l ∧ l < gc σ
    · rw [if_neg (by rw [decide_eq_true q2]; decide), bw_isSym]
      simp only [ci_r, bi_eq0]
      rw [if_pos (decide_eq_false (fun z => hx ⟨⟨q, q2⟩, z⟩)), mo_p, mo_I, up_s, t_pos]
    · rw [if_pos (decide_eq_false q2), mo_p, mo_I, up_s, t_pos]
  · rw [if_pos (decide_eq_false q), mo_p, mo_I, up_s, t_pos]
theorem qm_ag_0 {l : Int} {a b : List Ch} (hk : 0 ≤ k ∧ k < 24) (hl : 0 ≤ l ∧ l < 24) (h1 : mKept M k 0 a) (h2 : mKept M l 0 b) (ha : ∀ c ∈ a, 0 ≤ c.1 ∧ c.1 < 20) (hb : ∀ c ∈ b, 0 ≤ c.1 ∧ c.1 < 20) (hab : a.length = b.length) : ∀ (d i : Nat) (c : Int), i + d = a.length → 0 ≤ c ∧ c ≤ i → x_M_agreement_0 867 k l a.length c i (bM sl π M G e) = rI (c + bs_ag a b d i) (bM sl π M G e) := by
  have h16 := h1.2.1
  intro d
  induction d with
  | zero =>
    intro i c hi hc
    rw [x_M_agreement_0_eq, if_neg (by omega), show c + bs_ag a b 0 i = c by show c + 0 = c; omega]
  | succ d ih =>
    intro i c hi hc
    have e2 : wr ((i : Int) + 1) = ((i + 1 : Nat) : Int) := by rw [wr_id (by omega)]; omega
    rw [x_M_agreement_0_eq, if_pos (by omega), qm_sign hk (by decide) h1 (show i < a.length by omega)]
    simp only [ci_r]
    rw [qm_sign hl (by decide) h2 (show i < b.length by omega)]
    simp only [ci_r]
    rw [e2, wr_id (x := c + 1) (by omega), wr_id (x := c + 0) (by omega), bs_ag, getD_at (show i < a.length by omega), getD_at (show i < b.length by omega)]
    simp only [al_inj (ha _ (List.getElem_mem (show i < a.length by omega))) (hb _ (List.getElem_mem (show i < b.length by omega)))]
    by_cases z : (a[i]'(by omega)).1 = (b[i]'(by omega)).1
    · rw [if_pos z, if_pos z, ih (i + 1) (c + 1) (by omega) (by omega), show c + 1 + bs_ag a b d (i + 1) = c + (1 + bs_ag a b d (i + 1)) by omega]
    · rw [if_neg z, if_neg z, ih (i + 1) (c + 0) (by omega) (by omega), show c + 0 + bs_ag a b d (i + 1) = c + (0 + bs_ag a b d (i + 1)) by omega]
theorem qm_agreement {l : Int} (h : MR σ M) (hk : 0 ≤ k ∧ k < gc σ) (hl : 0 ≤ l ∧ l < gc σ) (ht : t < 3) : ∃ M', d_M_agreement 867 k l t (bM sl π M G e) = rI (gAg (gR σ t k).1.1 (gR σ t l).1.1) (bM sl π M' G e) ∧ MR σ M' ∧ fr S_hi M M' ∧ M' 867 11 = 0 := by
  have hc := h.1.1
  obtain ⟨M', g, mr, f, r⟩ := qm_all (sl := sl) (e := e) (π := π) (G := G) (MR_th (t := 0) h) ht
  rw [d_M_agreement_10 _ _ _ _ _ mo_d, x_M_agreement_eq, bw_isScan h]
  simp only [ci_r, bi_eq0]
  rw [if_neg (by rw [decide_eq_true hk]; decide), bw_isScan h]
  simp only [ci_r, bi_eq0]
  rw [if_neg (by rw [decide_eq_true hl]; decide), bw_isSym]
  simp only [ci_r, bi_eq0]
  rw [if_neg (by rw [decide_eq_true (show 0 ≤ (t : Int) ∧ (t : Int) < 3 by omega)]; decide), mo_p, mo_I, up_s, t_zero, g]
  simp only [cv_r]
  rw [qm_many (by omega) (by decide) (r k hk).1.1]
  simp only [ci_r]
  refine ⟨M', ?_, mr, fr_trans fr_thhi (S_all_hi f), by rw [f _ _ (by unfold S_all; omega), up_s]⟩
  unfold gAg
  by_cases z : (gR σ t k).1.1.length = 0
  · rw [if_pos (by omega), if_pos z]
  · rw [if_neg (by omega), if_neg z, qm_many (by omega) (by decide) (r l hl).1.1]
    simp only [ci_r]
    by_cases z2 : (gR σ t k).1.1.length = (gR σ t l).1.1.length
    · rw [if_pos (by omega), if_pos z2]
      have := qm_ag_0 (sl := sl) (e := e) (π := π) (G := G) (show 0 ≤ k ∧ k < 24 by omega) (show 0 ≤ l ∧ l < 24 by omega) (r k hk).1.1 (r l hl).1.1 (g20 h.1 hk ht).1 (g20 h.1 hl ht).1 z2 (gR σ t k).1.1.length 0 0 (by omega) (by decide)
      rw [Int.zero_add] at this
      exact this
    · rw [if_neg (by omega), if_neg z2]
theorem qm_agreementX {s l : Int} (h : MR σ M) (hx : ¬ ok2 σ k l s) : d_M_agreement 867 k l s (bM sl π M G e) = rI 0 (bM sl π (up M 867 11 1) G e) := by
  rw [d_M_agreement_10 _ _ _ _ _ mo_d, x_M_agreement_eq, bw_isScan h]
  simp only [ci_r, bi_eq0]
  by_cases q : 0 ≤ k ∧ k < gc σ
  · rw [if_neg (by rw [decide_eq_true q]; decide), bw_isScan h]
    simp only [ci_r, bi_eq0]
    by_cases q2 : 0 ≤ l ∧ l < gc σ
    · rw [if_neg (by rw [decide_eq_true q2]; decide), bw_isSym]
      simp only [ci_r, bi_eq0]
      rw [if_pos (decide_eq_false (fun z => hx ⟨⟨q, q2⟩, z⟩)), mo_p, mo_I, up_s, t_pos]
    · rw [if_pos (decide_eq_false q2), mo_p, mo_I, up_s, t_pos]
  · rw [if_pos (decide_eq_false q), mo_p, mo_I, up_s, t_pos]
end
