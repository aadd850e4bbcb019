/-! THE MODEL'S LONGEST MERGE, ITS LENGTH, ITS VOTES -/
theorem bs_se0_is {s : Nat} {h t : List Ch} : ∀ m : Nat, bs_se0 s h t m = -1 ∨ ∃ o : Nat, bs_se0 s h t m = o ∧ 2 ≤ o ∧ o ≤ m ∧ bs_ov h t o = true ∧ bs_hl s ((h.length : Int) + t.length - (o : Nat)) = true := by
  intro m
  induction m with
  | zero => exact Or.inl rfl
  | succ m ih =>
    rw [bs_se0]
    by_cases y2 : 2 ≤ m + 1
    · rw [if_pos y2]
      by_cases y : (bs_ov h t (m + 1) && bs_hl s ((h.length : Int) + t.length - (m + 1 : Nat))) = true
      · rw [if_pos y]
        have y' := (Bool.and_eq_true _ _).mp y
        exact Or.inr ⟨m + 1, rfl, y2, Nat.le_refl _, y'.1, y'.2⟩
      · rw [if_neg y]
        rcases ih with w | ⟨o, w1, w2, w3, w4⟩
        · exact Or.inl w
        · exact Or.inr ⟨o, w1, w2, by omega, w4⟩
    · rw [if_neg y2]; exact Or.inl rfl
theorem bs_se0_ge {s : Nat} {h t : List Ch} : ∀ m o : Nat, 2 ≤ o → o ≤ m → bs_ov h t o = true → bs_hl s ((h.length : Int) + t.length - (o : Nat)) = true → (o : Int) ≤ bs_se0 s h t m := by
  intro m
  induction m with
  | zero => intro o h1 h2; omega
  | succ m ih =>
    intro o h1 h2 h3 h4
    rw [bs_se0, if_pos (by omega)]
    by_cases y : (bs_ov h t (m + 1) && bs_hl s ((h.length : Int) + t.length - (m + 1 : Nat))) = true
    · rw [if_pos y]; omega
    · rw [if_neg y]
      by_cases z : o = m + 1
      · subst z
        exact absurd ((Bool.and_eq_true _ _).mpr ⟨h3, h4⟩) y
      · exact ih o h1 (by omega) h3 h4
/-- pairs before a pair -/
def bs_bf (i j a b : Nat) : Prop := a < i ∨ (a = i ∧ b < j)
def bs_P (s : Nat) (R : Int → Rd) (a b : Nat) : Int := bs_se s (R a).1.2.1 (R b).1.2.2
def bs_in (s : Nat) (R : Int → Rd) (c i j : Nat) (p : Int × Int) : Prop :=
  (∀ a b : Nat, b < c → bs_bf i j a b → a ≠ b → bs_P s R a b ≤ p.1) ∧
  ((p.1 = -1 ∧ p.2 = 0) ∨ ∃ a b : Nat, b < c ∧ bs_bf i j a b ∧ a ≠ b ∧ bs_P s R a b = p.1 ∧ 0 ≤ p.1 ∧ p.2 = ((R a).1.2.1.length : Int) + (R b).1.2.2.length - p.1 ∧ ∀ a' b' : Nat, b' < c → bs_bf a b a' b' → a' ≠ b' → bs_P s R a' b' < p.1)
theorem bs_jj_in {s c i : Nat} {R : Int → Rd} {p : Int × Int} (h : bs_in s R c i 0 p) : ∀ j : Nat, j ≤ c → bs_in s R c i j (bs_jj s R i j p) := by
  intro j
  induction j with
  | zero => intro _; exact h
  | succ j ih =>
    intro hj
    have h1 := ih (by omega)
    rw [bs_jj]
    generalize bs_jj s R i j p = q at h1 ⊢
    by_cases z : (i : Int) ≠ (j : Nat) ∧ q.1 < bs_se s (R i).1.2.1 (R (j : Nat)).1.2.2
    · rw [if_pos z]
      have zi : i ≠ j := by omega
      have hq : -1 ≤ q.1 := by
        rcases h1.2 with w | ⟨a, b, w1, w2, w3, w4, w5, w6⟩ <;> omega
      refine ⟨fun a b hb hbf hne => ?_, Or.inr ⟨i, j, by omega, Or.inr ⟨rfl, by omega⟩, zi, rfl, ?_, rfl, fun a' b' hb' hbf' hne' => ?_⟩⟩
      · by_cases y : a = i ∧ b = j
        · rw [y.1, y.2]; exact Int.le_refl _
        · have h2 := h1.1 a b hb (by unfold bs_bf at hbf ⊢; omega) hne
          exact Int.le_trans h2 (Int.le_of_lt z.2)
      · show 0 ≤ bs_se s (R i).1.2.1 (R (j : Nat)).1.2.2
        omega
      · have h2 := h1.1 a' b' hb' hbf' hne'
        exact Int.lt_of_le_of_lt h2 z.2
    · rw [if_neg z]
      refine ⟨fun a b hb hbf hne => ?_, ?_⟩
      · by_cases y : a = i ∧ b = j
        · rw [y.1, y.2]
          unfold bs_P
          omega
        · exact h1.1 a b hb (by unfold bs_bf at hbf ⊢; omega) hne
      · rcases h1.2 with w | ⟨a, b, w1, w2, w3⟩
        · exact Or.inl w
        · exact Or.inr ⟨a, b, w1, by unfold bs_bf at w2 ⊢; omega, w3⟩
theorem bs_ji_in {s c : Nat} {R : Int → Rd} : ∀ i : Nat, bs_in s R c i 0 (bs_ji s R c i) := by
  intro i
  induction i with
  | zero => exact ⟨fun a b _ h _ => by unfold bs_bf at h; omega, Or.inl ⟨rfl, rfl⟩⟩
  | succ i ih =>
    have h1 := bs_jj_in ih c (Nat.le_refl _)
    rw [bs_ji]
    refine ⟨fun a b hb h hne => h1.1 a b hb (by unfold bs_bf at h ⊢; omega) hne, ?_⟩
    rcases h1.2 with w | ⟨a, b, w1, w2, w3⟩
    · exact Or.inl w
    · exact Or.inr ⟨a, b, w1, by unfold bs_bf at w2 ⊢; omega, w3⟩
theorem bs_ji_z {s c : Nat} {R : Int → Rd} (h0 : s ≠ 0) (h : (bs_ji s R c c).1 ≤ 1) : (bs_ji s R c c).2 = 0 := by
  rcases (bs_ji_in (s := s) (R := R) (c := c) c).2 with w | ⟨a, b, w1, w2, w3, w4, w5, w6⟩
  · exact w.2
  · have hse : bs_P s R a b = bs_se0 s (R a).1.2.1 (R b).1.2.2 (min (R a).1.2.1.length (R b).1.2.2.length) := if_neg h0
    rcases bs_se0_is (s := s) (h := (R a).1.2.1) (t := (R b).1.2.2) (min (R a).1.2.1.length (R b).1.2.2.length) with y | ⟨o, y1, y2, y3⟩
    · omega
    · omega
section
variable {sl e : Nat} {π : Int → Nat} {M G : Nat → Int → Int} {σ : Sg} {t c : Nat} {R : Int → Rd}
theorem qm_lm_2 (ht : t < 3) (h0 : t ≠ 0) (hc24 : c ≤ 24) (hx : ∀ k : Int, 0 ≤ k ∧ k < c → okX (R k)) (h8 : M 867 8 = c) (hA : mAll M R c) {o i : Nat} (ho : 2 ≤ o ∧ o ≤ 16) (hi : i < c) (hg : (bs_ji t R c c).1 ≤ o)
    (hnx : (∀ a b : Nat, b < c → bs_bf (i + 1) 0 a b → a ≠ b → bs_P t R a b ≠ o) → x_M_longestMerge_1 867 t o ((i + 1 : Nat) : Int) (bM sl π M G e) = rI (bs_ji t R c c).2 (bM sl π M G e)) :
    ∀ d j : Nat, j + d = c → (∀ a b : Nat, b < c → bs_bf i j a b → a ≠ b → bs_P t R a b ≠ o) → x_M_longestMerge_2 867 t o i j (bM sl π M G e) = rI (bs_ji t R c c).2 (bM sl π M G e) := by
  intro d
  induction d with
  | zero =>
    intro j hj hb
    have : j = c := by omega
    subst this
    rw [x_M_longestMerge_2_eq, mo_I, h8, if_neg (by omega), show wr ((i : Int) + 1) = ((i + 1 : Nat) : Int) by rw [wr_id (by omega)]; omega]
    exact hnx fun a b hb1 hb2 hne => hb a b hb1 (by unfold bs_bf at hb2 ⊢; omega) hne
  | succ d ih =>
    intro j hj hb
    have e2 : wr ((j : Int) + 1) = ((j + 1 : Nat) : Int) := by rw [wr_id (by omega)]; omega
    have hi24 : 0 ≤ (i : Int) ∧ (i : Int) < 24 := by omega
    have hj24 : 0 ≤ (j : Int) ∧ (j : Int) < 24 := by omega
    have h1 := (hA i (by omega)).2.1
    have h2 := (hA j (by omega)).2.2
    have l1 := h1.2.1
    have l2 := h2.2.1
    have nx : (i ≠ j → bs_P t R i j ≠ o) → x_M_longestMerge_2 867 t o i ((j + 1 : Nat) : Int) (bM sl π M G e) = rI (bs_ji t R c c).2 (bM sl π M G e) := fun hp => ih (j + 1) (by omega) fun a b hb1 hb2 hne => by
      by_cases y : a = i ∧ b = j
      · rw [y.1, y.2]; exact hp (by omega)
      · exact hb a b hb1 (by unfold bs_bf at hb2 ⊢; omega) hne
    rw [x_M_longestMerge_2_eq, mo_I, h8, if_pos (by omega), qm_many hi24 (by decide) h1]
    simp only [ci_r]
    rw [qm_many hj24 (by decide) h2]
    simp only [ci_r]
    rw [e2]
    by_cases z : i = j
    · rw [if_pos (by omega)]; exact nx fun w => absurd z w
    have hse : bs_P t R i j = bs_se0 t (R i).1.2.1 (R j).1.2.2 (min (R i).1.2.1.length (R j).1.2.2.length) := if_neg h0
    rw [if_neg (by omega), qm_most hi24 hj24 h1 h2]
    simp only [ci_r]
    have is := bs_se0_is (s := t) (h := (R i).1.2.1) (t := (R j).1.2.2) (min (R i).1.2.1.length (R j).1.2.2.length)
    rw [← hse] at is
    by_cases z2 : min (R i).1.2.1.length (R j).1.2.2.length < o
    · rw [if_pos (by omega)]
      refine nx fun _ w => ?_
      rcases is with y | ⟨o', y1, y2, y3, -⟩
      · omega
      · omega
    rw [if_neg (by omega), wr_id (x := ((R i).1.2.1.length : Int) + (R j).1.2.2.length) (by omega), wr_id (by omega), qm_isLength ht]
    simp only [ci_r, bi_eq0]
    cases hl : bs_hl t (((R i).1.2.1.length : Int) + (R j).1.2.2.length - o) with
    | false =>
      rw [if_pos rfl]
      refine nx fun _ w => ?_
      rcases is with y | ⟨o', y1, y2, y3, y4, y5⟩
      · omega
      · have : o' = o := by omega
        rw [this, hl] at y5
        exact absurd y5 (by decide)
    | true =>
      rw [if_neg (by decide), qm_over hi24 hj24 h1 h2 (fun c' hc' => ((hx i (by omega)).2.1 c' hc').1) (fun c' hc' => ((hx j (by omega)).2.2.1 c' hc').1) ⟨by omega, by omega⟩]
      simp only [ci_r, bi_eq0]
      cases hv : bs_ov (R i).1.2.1 (R j).1.2.2 o with
      | false =>
        rw [if_pos rfl]
        refine nx fun _ w => ?_
        rcases is with y | ⟨o', y1, y2, y3, y4, y5⟩
        · omega
        · have : o' = o := by omega
          rw [this, hv] at y4
          exact absurd y4 (by decide)
      | true =>
        rw [if_neg (by decide)]
        have ge := bs_se0_ge (s := t) (min (R i).1.2.1.length (R j).1.2.2.length) o ho.1 (by omega) hv hl
        rw [← hse] at ge
        have inn := bs_ji_in (s := t) (R := R) (c := c) c
        have le := inn.1 i j (by omega) (Or.inl hi) z
        rcases inn.2 with w | ⟨a, b, w1, w2, w3, w4, w5, w6, w7⟩
        · omega
        · have e : a = i ∧ b = j := by
            by_cases y : bs_bf i j a b
            · exact absurd (show bs_P t R a b = (o : Int) by omega) (hb a b w1 y w3)
            · by_cases y2 : bs_bf a b i j
              · have := w7 i j (by omega) y2 z; omega
              · unfold bs_bf at y y2; omega
          rw [e.1, e.2] at w6
          rw [w6, show (bs_ji t R c c).1 = (o : Int) by omega]
theorem qm_lm_1 (ht : t < 3) (h0 : t ≠ 0) (hc24 : c ≤ 24) (hx : ∀ k : Int, 0 ≤ k ∧ k < c → okX (R k)) (h8 : M 867 8 = c) (hA : mAll M R c) {o : Nat} (ho : 2 ≤ o ∧ o ≤ 16) (hg : (bs_ji t R c c).1 ≤ o)
    (hnx : (bs_ji t R c c).1 ≤ (o - 1 : Nat) → x_M_longestMerge_0 867 t ((o - 1 : Nat) : Int) (bM sl π M G e) = rI (bs_ji t R c c).2 (bM sl π M G e)) :
    ∀ d i : Nat, i + d = c → (∀ a b : Nat, b < c → bs_bf i 0 a b → a ≠ b → bs_P t R a b ≠ o) → x_M_longestMerge_1 867 t o i (bM sl π M G e) = rI (bs_ji t R c c).2 (bM sl π M G e) := by
  intro d
  induction d with
  | zero =>
    intro i hi hb
    have : i = c := by omega
    subst this
    rw [x_M_longestMerge_1_eq, mo_I, h8, if_neg (by omega), show wr ((o : Int) + (-1)) = ((o - 1 : Nat) : Int) by rw [wr_id (by omega)]; omega]
    refine hnx ?_
    rcases (bs_ji_in (s := t) (R := R) (c := i) i).2 with w | ⟨a, b, w1, w2, w3, w4, w5, w6⟩
    · omega
    · have := hb a b w1 w2 w3
      omega
  | succ d ih =>
    intro i hi hb
    rw [x_M_longestMerge_1_eq, mo_I, h8, if_pos (by omega)]
    exact qm_lm_2 ht h0 hc24 hx h8 hA ho (by omega) hg (fun hh => ih (i + 1) (by omega) hh) c 0 (by omega) hb
theorem qm_lm_0 (ht : t < 3) (h0 : t ≠ 0) (hc24 : c ≤ 24) (hx : ∀ k : Int, 0 ≤ k ∧ k < c → okX (R k)) (h8 : M 867 8 = c) (hA : mAll M R c) : ∀ o : Nat, o ≤ 16 → (bs_ji t R c c).1 ≤ o → x_M_longestMerge_0 867 t o (bM sl π M G e) = rI (bs_ji t R c c).2 (bM sl π M G e) := by
  intro o
  induction o with
  | zero =>
    intro _ hg
    rw [x_M_longestMerge_0_eq, if_pos (by omega), bs_ji_z h0 (by omega)]
  | succ o ih =>
    intro ho hg
    by_cases z : o = 0
    · subst z
      rw [x_M_longestMerge_0_eq, if_pos (by omega), bs_ji_z h0 (by omega)]
    · rw [x_M_longestMerge_0_eq, if_neg (by omega)]
      exact qm_lm_1 ht h0 hc24 hx h8 hA (by omega) hg (fun hh => ih (by omega) hh) c 0 (by omega) (fun a b _ h => by unfold bs_bf at h; omega)
theorem qm_longest (ht : t < 3) (h0 : t ≠ 0) (hc24 : c ≤ 24) (hx : ∀ k : Int, 0 ≤ k ∧ k < c → okX (R k)) (h8 : M 867 8 = c) (hA : mAll M R c) : d_M_longestMerge 867 t (bM sl π M G e) = rI (bs_ji t R c c).2 (bM sl π M G e) := by
  have hj := bs_ji_ok (s := t) ht c (Nat.le_refl c) hx
  rw [d_M_longestMerge_10 _ _ _ mo_d, x_M_longestMerge_eq]
  exact qm_lm_0 ht h0 hc24 hx h8 hA 16 (Nat.le_refl _) (by have := hj.1; omega)
theorem mAll_fr {S : Nat → Int → Prop} {M' : Nat → Int → Int} (h : mAll M R c) (f : fr S M M') (hs : ∀ b j, S b j → 886 ≤ b) : mAll M' R c := by
  have nz : ∀ b j, b < 886 → M' b j = M b j := fun b j hb => f b j fun z => by have := hs b j z; omega
  have one : ∀ (j s : Int) (l : List Ch), mKept M j s l → mKept M' j s l := fun j s l q => ⟨(nz _ _ (by omega)).trans q.1, q.2.1, fun i' c' hc => ⟨(nz _ _ (by omega)).trans (q.2.2 i' c' hc).1, (nz _ _ (by omega)).trans (q.2.2 i' c' hc).2⟩⟩
  exact fun j hj => ⟨one _ _ _ (h j hj).1, one _ _ _ (h j hj).2.1, one _ _ _ (h j hj).2.2⟩
def S_vo (b : Nat) (j : Int) : Prop := S_all b j ∨ b = 886 ∨ b = 887
theorem S_vo_MR {b : Nat} {j : Int} (z : S_vo b j) : (b = 867 ∧ j ≠ 8 ∧ j ≠ 9 ∧ j ≠ 10) ∨ 876 ≤ b ∨ (b < 867 ∧ 16 ≤ b ∧ ¬ (22 ≤ b ∧ b ≤ 24)) := by unfold S_vo S_all at z; omega
theorem S_vo_hi {M' : Nat → Int → Int} (f : fr S_vo M M') : fr S_hi M M' := fr_mono (fun b j z => by unfold S_vo S_all at z; unfold S_hi; omega) f
theorem S_vo_t {M' : Nat → Int → Int} (f : fr S_vo M M') : M' 867 11 = M 867 11 := f _ _ (by unfold S_vo S_all; omega)
theorem qm_lengthOf (h : MR σ M) (ht : t < 3) : ∃ M', d_M_lengthOf 867 t (bM sl π M G e) = rI (gL σ t) (bM sl π M' G e) ∧ MR σ M' ∧ fr S_vo M M' ∧ mAll M' (gR σ t) (gc σ).toNat := by
  have hc := h.1.1
  obtain ⟨M1, g1, m1, f1, r1⟩ := qm_all (sl := sl) (e := e) (π := π) (G := G) h ht
  have hA1 : mAll M1 (gR σ t) (gc σ).toNat := fun j hj => (r1 j (by omega)).1
  have hx := okX_all h.1 ht
  have h8 : M1 867 8 = ((gc σ).toNat : Int) := by rw [m1.2.2.1.1]; omega
  have hc24 : (gc σ).toNat ≤ 24 := by omega
  obtain ⟨M2, g2, f2⟩ := qm_wholeLength (sl := sl) (e := e) (π := π) (G := G) hc24 hx h8 hA1
  have hA2 : mAll M2 (gR σ t) (gc σ).toNat := mAll_fr hA1 f2 fun b j z => by omega
  have h8' : M2 867 8 = ((gc σ).toNat : Int) := (f2 _ _ (by omega)).trans h8
  have m2 : MR σ M2 := MR_fr m1 f2 fun b j z => by omega
  refine ⟨M2, ?_, m2, fr_trans (fr_mono (fun b j z => Or.inl z) f1) (fr_mono (fun b j z => Or.inr (Or.inl z)) f2), hA2⟩
  rw [d_M_lengthOf_10 _ _ _ mo_d, x_M_lengthOf_eq, g1]
  simp only [cv_r]
  rw [g2]
  simp only [ci_r]
  unfold gL bs_L
  by_cases z : bs_best (gR σ t) (gc σ).toNat 16 = 0
  · rw [if_neg (by omega), if_pos z]
    unfold bs_jl
    by_cases z0 : t = 0
    · subst z0
      have q1 := qm_hasAny (sl := sl) (e := e) (π := π) (G := G) (j := 1) (Or.inl rfl) hc24 h8' hA2
      have q2 := qm_hasAny (sl := sl) (e := e) (π := π) (G := G) (j := 2) (Or.inr rfl) hc24 h8' hA2
      have r1 : bs_any (fun k => decide (rdl (gR σ 0 k) 1 ≠ [])) (gc σ).toNat = bs_any (fun k => decide ((gR σ 0 k).1.2.1 ≠ [])) (gc σ).toNat := rfl
      have r2 : bs_any (fun k => decide (rdl (gR σ 0 k) 2 ≠ [])) (gc σ).toNat = bs_any (fun k => decide ((gR σ 0 k).1.2.2 ≠ [])) (gc σ).toNat := rfl
      rw [r1] at q1
      rw [r2] at q2
      rw [if_pos (by decide), if_pos rfl, q1]
      simp only [ci_r, bi_eq0]
      cases ha : bs_any (fun k => decide ((gR σ 0 k).1.2.1 ≠ [])) (gc σ).toNat with
      | false => rw [if_pos rfl]; rfl
      | true =>
        rw [if_neg (by decide), q2]
        simp only [ci_r, bi_eq0]
        cases hb : bs_any (fun k => decide ((gR σ 0 k).1.2.2 ≠ [])) (gc σ).toNat with
        | false => rw [if_pos rfl]; rfl
        | true => rw [if_neg (by decide)]; rfl
    · rw [if_neg (by omega), if_neg z0, qm_longest ht z0 hc24 hx h8' hA2]
      rfl
  · rw [if_pos (by omega), if_neg z]
end
