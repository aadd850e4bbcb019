/-! THE MODEL'S LENGTHS -/
section
variable {sl e : Nat} {π : Int → Nat} {M G : Nat → Int → Int} {σ : Sg} {k : Int} {t c : Nat} {R : Int → Rd}
/-- the model keeps c scans' readings -/
def mAll (M : Nat → Int → Int) (R : Int → Rd) (c : Nat) : Prop := ∀ j : Int, 0 ≤ j ∧ j < c → mKept M j 0 (R j).1.1 ∧ mKept M j 1 (R j).1.2.1 ∧ mKept M j 2 (R j).1.2.2
theorem mAll_up {b : Nat} {i x : Int} (h : mAll M R c) (hb : 886 ≤ b) : mAll (up M b i x) R c := by
  have one : ∀ (j s : Int) (l : List Ch), mKept M j s l → mKept (up M b i x) j s l := fun j s l q => ⟨(up_a (by omega)).trans q.1, q.2.1, fun i' c' hc => ⟨(up_a (by omega)).trans (q.2.2 i' c' hc).1, (up_a (by omega)).trans (q.2.2 i' c' hc).2⟩⟩
  exact fun j hj => ⟨one _ _ _ (h j hj).1, one _ _ _ (h j hj).2.1, one _ _ _ (h j hj).2.2⟩
theorem qm_least_0 {l : List Ch} (hk : 0 ≤ k ∧ k < 24) (h : mKept M k 0 l) (hc : ∀ c ∈ l, 0 ≤ c.2 ∧ c.2 ≤ 100) : ∀ (d i : Nat) (a : Int), i + d = l.length → x_M_leastWeight_0 867 k (1 + a) i (bM sl π M G e) = rI (1 + (l.drop i).foldl (fun m c => bs_mn m c.2) a) (bM sl π M G e) := by
  have h16 := h.2.1
  intro d
  induction d with
  | zero =>
    intro i a hi
    rw [x_M_leastWeight_0_eq, qm_many hk (by decide) h]
    simp only [ci_r]
    rw [if_neg (by omega), List.drop_eq_nil_of_le (by omega)]
    rfl
  | succ d ih =>
    intro i a hi
    have hi2 : i < l.length := by omega
    have e2 : wr ((i : Int) + 1) = ((i + 1 : Nat) : Int) := by rw [wr_id (by omega)]; omega
    have hb := hc _ (List.getElem_mem hi2)
    rw [x_M_leastWeight_0_eq, qm_many hk (by decide) h]
    simp only [ci_r]
    rw [if_pos (by omega), qm_weight hk (by decide) h hi2 hb, e2, List.drop_eq_getElem_cons hi2, List.foldl_cons]
    simp only [ci_r]
    unfold bs_mn
    by_cases z : (l[i]).2 < a
    · rw [if_pos (by omega), if_pos z, qm_weight hk (by decide) h hi2 hb]
      simp only [ci_r]
      exact ih (i + 1) _ (by omega)
    · rw [if_neg (by omega), if_neg z]; exact ih (i + 1) _ (by omega)
theorem qm_least {l : List Ch} (hk : 0 ≤ k ∧ k < 24) (h : mKept M k 0 l) (hc : ∀ c ∈ l, 0 ≤ c.2 ∧ c.2 ≤ 100) (hl : 0 < l.length) : d_M_leastWeight 867 k (bM sl π M G e) = rI (1 + bs_lc l) (bM sl π M G e) := by
  have hb := hc _ (List.getElem_mem hl)
  have w := qm_weight (sl := sl) (e := e) (π := π) (G := G) (i := 0) hk (by decide) h hl hb
  have k0 := qm_least_0 (sl := sl) (e := e) (π := π) (G := G) hk h hc (l.length - 1) 1 (l[0]).2 (by omega)
  rw [show ((0 : Nat) : Int) = 0 from rfl] at w
  rw [show ((1 : Nat) : Int) = 1 from rfl] at k0
  rw [d_M_leastWeight_10 _ _ _ mo_d, x_M_leastWeight_eq, w]
  simp only [ci_r]
  rw [k0]
  have e1 : bs_mn 100 (l[0]).2 = (l[0]).2 := by unfold bs_mn; split <;> omega
  have e3 : bs_lc l = (l.drop 1).foldl (fun m c => bs_mn m c.2) (l[0]).2 := by
    unfold bs_lc
    conv => lhs; rw [← List.drop_zero (l := l), List.drop_eq_getElem_cons hl, List.foldl_cons]
    rw [e1]
  rw [e3]
theorem qm_wl_0 : ∀ (d i : Nat) (M : Nat → Int → Int), i + d = 17 → (∀ j, 0 ≤ j ∧ j < (i : Int) → M 886 j = 0) →
    ∃ M', x_M_wholeLength_0 867 i (bM sl π M G e) = x_M_wholeLength_1 867 0 (bM sl π M' G e) ∧ fr (fun b _ => b = 886) M M' ∧ ∀ j, 0 ≤ j ∧ j < 17 → M' 886 j = 0 := by
  intro d
  induction d with
  | zero =>
    intro i M hi hz
    rw [x_M_wholeLength_0_eq, if_pos (by omega)]
    exact ⟨M, rfl, fr_refl, fun j hj => hz j (by omega)⟩
  | succ d ih =>
    intro i M hi hz
    have e2 : wr ((i : Int) + 1) = ((i + 1 : Nat) : Int) := by rw [wr_id (by omega)]; omega
    rw [x_M_wholeLength_0_eq, if_neg (by omega), mo_R31, mo_w886 (by omega), e2]
    obtain ⟨M', g, f, h⟩ := ih (i + 1) (up M 886 i 0) (by omega) (fun j hj => by
      by_cases y : j = i
      · rw [y, up_s]
      · rw [up_i y]; exact hz j (by omega))
    exact ⟨M', g, fr_trans (fr_up rfl fr_refl) f, h⟩
theorem qm_wl_1 (hc24 : c ≤ 24) (hx : ∀ k : Int, 0 ≤ k ∧ k < c → okX (R k)) : ∀ (d i : Nat) (M : Nat → Int → Int), i + d = c → M 867 8 = c → mAll M R c → (∀ n : Nat, n < 17 → M 886 n = bs_su R n i) →
    ∃ M', x_M_wholeLength_1 867 i (bM sl π M G e) = x_M_wholeLength_2 867 0 1 (bM sl π M' G e) ∧ fr (fun b _ => b = 886) M M' ∧ ∀ n : Nat, n < 17 → M' 886 n = bs_su R n c := by
  intro d
  induction d with
  | zero =>
    intro i M hi h8 hA hn
    have : i = c := by omega
    subst this
    rw [x_M_wholeLength_1_eq, mo_I, h8, if_neg (by omega)]
    exact ⟨M, rfl, fr_refl, hn⟩
  | succ d ih =>
    intro i M hi h8 hA hn
    have hi24 : 0 ≤ (i : Int) ∧ (i : Int) < 24 := by omega
    have e2 : wr ((i : Int) + 1) = ((i + 1 : Nat) : Int) := by rw [wr_id (by omega)]; omega
    have hw := (hA i (by omega)).1
    have h16 := hw.2.1
    have hok := hx i (by omega)
    have hcf : ∀ c ∈ (R i).1.1, 0 ≤ c.2 ∧ c.2 ≤ 100 := fun c hc => (hok.1 c hc).2
    rw [x_M_wholeLength_1_eq, mo_I, h8, if_pos (by omega), qm_many hi24 (by decide) hw, e2]
    simp only [ci_r]
    by_cases z : 0 < (R i).1.1.length
    · have hsu := bs_su_bd (R := R) (n := (R i).1.1.length) i (fun k hk c hc => ((hx k (by omega)).1 c hc).2)
      have hlc := bs_lc_bd hcf
      rw [if_pos (by omega), mo_R31, qm_many hi24 (by decide) hw]
      simp only [ci_r]
      rw [mo_r886 (by omega), hn _ (by omega), qm_least hi24 hw hcf z]
      simp only [ci_r]
      rw [mo_w886 (by omega), wr_id (by omega)]
      obtain ⟨M', g, f, h⟩ := ih (i + 1) (up M 886 ((R i).1.1.length : Int) (bs_su R (R i).1.1.length i + (1 + bs_lc (R i).1.1))) (by omega) ((up_a (by omega)).trans h8) (mAll_up hA (by omega)) (fun n hn2 => by
        rw [bs_su]
        by_cases y : (R i).1.1.length = n ∧ 0 < n
        · rw [if_pos y, ← y.1, up_s]
        · rw [if_neg y, up_i (by omega)]; exact hn n hn2)
      exact ⟨M', g, fr_trans (fr_up rfl fr_refl) f, h⟩
    · rw [if_neg (by omega)]
      refine ih (i + 1) M (by omega) h8 hA fun n hn2 => ?_
      rw [bs_su, if_neg (by omega)]
      exact hn n hn2
theorem qm_wl_2 (hn : ∀ n : Nat, n < 17 → M 886 n = bs_su R n c) : ∀ (d m : Nat), m + d = 16 → x_M_wholeLength_2 867 ((bs_best R c m : Nat) : Int) ((m + 1 : Nat) : Int) (bM sl π M G e) = rI ((bs_best R c 16 : Nat) : Int) (bM sl π M G e) := by
  intro d
  induction d with
  | zero =>
    intro m hm
    have : m = 16 := by omega
    subst this
    rw [x_M_wholeLength_2_eq, if_pos (by omega)]
  | succ d ih =>
    intro m hm
    have hb := bs_best_le (R := R) (c := c) m
    have e2 : wr (((m + 1 : Nat) : Int) + 1) = ((m + 1 + 1 : Nat) : Int) := by rw [wr_id (by omega)]; omega
    have st := ih (m + 1) (by omega)
    rw [bs_best] at st
    rw [x_M_wholeLength_2_eq, if_neg (by omega), mo_R31, mo_r886 (by omega), mo_R31, mo_r886 (by omega), hn (m + 1) (by omega), hn (bs_best R c m) (by omega), e2]
    by_cases z : bs_su R (bs_best R c m) c < bs_su R (m + 1) c
    · rw [if_pos z] at st; rw [if_pos z]; exact st
    · rw [if_neg z] at st; rw [if_neg z]; exact st
theorem qm_wholeLength (hc24 : c ≤ 24) (hx : ∀ k : Int, 0 ≤ k ∧ k < c → okX (R k)) (h8 : M 867 8 = c) (hA : mAll M R c) :
    ∃ M', d_M_wholeLength 867 (bM sl π M G e) = rI ((bs_best R c 16 : Nat) : Int) (bM sl π M' G e) ∧ fr (fun b _ => b = 886) M M' := by
  obtain ⟨A, g, f, h⟩ := qm_wl_0 (sl := sl) (e := e) (π := π) (G := G) 17 0 M (by omega) (fun j hj => by omega)
  have hA2 : mAll A R c := by
    have one : ∀ (j s : Int) (l : List Ch), mKept M j s l → mKept A j s l := fun j s l q => ⟨(f _ _ (by omega)).trans q.1, q.2.1, fun i' c' hc => ⟨(f _ _ (by omega)).trans (q.2.2 i' c' hc).1, (f _ _ (by omega)).trans (q.2.2 i' c' hc).2⟩⟩
    exact fun j hj => ⟨one _ _ _ (hA j hj).1, one _ _ _ (hA j hj).2.1, one _ _ _ (hA j hj).2.2⟩
  obtain ⟨M', g2, f2, h2⟩ := qm_wl_1 (sl := sl) (e := e) (π := π) (G := G) hc24 hx c 0 A (by omega) ((f _ _ (by omega)).trans h8) hA2 (fun n hn => h n (by omega))
  refine ⟨M', ?_, fr_trans f f2⟩
  rw [d_M_wholeLength_10 _ _ mo_d, x_M_wholeLength_eq]
  exact g.trans (g2.trans (qm_wl_2 h2 16 0 (by omega)))
/-- one of three lists of a reading -/
def rdl (x : Rd) (j : Int) : List Ch := if j = 0 then x.1.1 else if j = 1 then x.1.2.1 else x.1.2.2
theorem qm_hasAny_0 {j : Int} (hj : j = 1 ∨ j = 2) (hc24 : c ≤ 24) (h8 : M 867 8 = c) (hA : mAll M R c) : ∀ (d i : Nat), i + d = c → x_M_hasAny_0 867 j (bi (bs_any (fun k => decide (rdl (R k) j ≠ [])) i)) i (bM sl π M G e) = rI (bi (bs_any (fun k => decide (rdl (R k) j ≠ [])) c)) (bM sl π M G e) := by
  intro d
  induction d with
  | zero =>
    intro i hi
    have : i = c := by omega
    subst this
    rw [x_M_hasAny_0_eq, mo_I, h8, if_neg (by omega)]
    exact if_pos bi_01
  | succ d ih =>
    intro i hi
    have e2 : wr ((i : Int) + 1) = ((i + 1 : Nat) : Int) := by rw [wr_id (by omega)]; omega
    have hK : mKept M i j (rdl (R i) j) := by
      have := hA i (by omega)
      rcases hj with z | z
      · subst z; exact this.2.1
      · subst z; exact this.2.2
    have st := ih (i + 1) (by omega)
    rw [bs_any, ne_nil] at st
    rw [x_M_hasAny_0_eq, mo_I, h8, if_pos (by omega), qm_many (by omega) (by omega) hK, e2]
    simp only [ci_r]
    have o1 : ∀ b : Bool, bz_or (bi b) 1 = bi (b || true) := by decide
    have o0 : ∀ b : Bool, bz_or (bi b) 0 = bi (b || false) := by decide
    by_cases z : 0 < (rdl (R i) j).length
    · rw [decide_eq_true z] at st
      rw [if_pos (by omega), o1]
      exact st
    · rw [decide_eq_false z] at st
      rw [if_neg (by omega), o0]
      exact st
theorem qm_hasAny {j : Int} (hj : j = 1 ∨ j = 2) (hc24 : c ≤ 24) (h8 : M 867 8 = c) (hA : mAll M R c) : d_M_hasAny 867 j (bM sl π M G e) = rI (bi (bs_any (fun k => decide (rdl (R k) j ≠ [])) c)) (bM sl π M G e) := by
  rw [d_M_hasAny_10 _ _ _ mo_d, x_M_hasAny_eq]
  exact qm_hasAny_0 hj hc24 h8 hA c 0 (by omega)
end
