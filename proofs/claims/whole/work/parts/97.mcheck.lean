/-! checkCharacter: the model -/
section
variable {sl e : Nat} {π : Int → Nat} {M G : Nat → Int → Int} {σ : Sg} {t : Nat} {x : Int → Int}
theorem qm_ck_0 {n : Nat} (h16 : n ≤ 16) (hM : mCon M) (hx : ∀ j : Nat, j < n → M 871 j = x j ∧ 0 ≤ vof (x j) ∧ vof (x j) < 20) : ∀ d i : Nat, i + d = n → x_M_checkCharacter_0 867 n (bs_rf 2 (fun k => vof (x k)) i) i (bM sl π M G e) = rI (al (bs_cv 2 (bs_rf 2 (fun k => vof (x k)) n))) (bM sl π M G e) := by
  have bd : ∀ i, i ≤ n → 0 ≤ bs_rf 2 (fun k => vof (x k)) i ∧ bs_rf 2 (fun k => vof (x k)) i ≤ 60 * i := fun i hi => bs_rf_bd i fun k hk => ⟨(hx k (by omega)).2.1, Int.le_of_lt (hx k (by omega)).2.2⟩
  intro d
  induction d with
  | zero =>
    intro i hi
    have : i = n := by omega
    subst this
    have b := bd i (Nat.le_refl _)
    have cb := bs_cv_bd (t := 2) b.1
    have m16 : bs_md 2 = 16 := rfl
    generalize bs_rf 2 (fun k => vof (x k)) i = S at b cb ⊢
    have e1 : Int.tmod (wr (16 - (Int.tmod S 16))) 16 = bs_cv 2 S := by
      unfold bs_cv
      rw [m16, wr_id (by rw [Int.tmod_eq_emod_of_nonneg b.1]; omega)]
    rw [x_M_checkCharacter_0_eq, if_neg (by omega), e1, bc_charAt (Or.inr ⟨rfl, rfl⟩) hM (by omega), ci_r]
  | succ d ih =>
    intro i hi
    have e2 : wr ((i : Int) + 1) = ((i + 1 : Nat) : Int) := by rw [wr_id (by omega)]; omega
    have hin : (i : Int) < n := by omega
    have hi60 : 0 ≤ (i : Int) ∧ (i : Int) < 60 := by omega
    have b := bd (i + 1) (by omega)
    have e3 : bs_rf 2 (fun k => vof (x k)) (i + 1) = bs_rf 2 (fun k => vof (x k)) i + vof (x i) := by
      rw [bs_rf, show bs_wg 2 i = 1 from if_neg (fun q => q.1 rfl), Int.one_mul]
    have e4 : wr (bs_rf 2 (fun k => vof (x k)) i + vof (x i)) = bs_rf 2 (fun k => vof (x k)) (i + 1) := by
      rw [← e3]
      generalize bs_rf 2 (fun k => vof (x k)) (i + 1) = S at b ⊢
      exact wr_id (by omega)
    rw [x_M_checkCharacter_0_eq, if_pos hin, mo_R3, mo_r871 hi60, (hx i (by omega)).1, qm_valueOf hM, ci_r, e4, e2]
    exact ih (i + 1) (by omega)
theorem b_dig {b : Int} (h : 0 ≤ vof b ∧ vof b < 10) : b = 48 + vof b := by
  have h1 := al_dg h
  rw [al_vof (fun z => by rw [z] at h; exact absurd h.1 (by decide))] at h1
  exact h1
theorem qm_ck_1 {n : Nat} (ht : t ≠ 2) (h16 : n ≤ 16) (hx : ∀ j : Nat, j < n → M 871 j = x j ∧ 0 ≤ vof (x j) ∧ vof (x j) < 10) : ∀ d i : Nat, i + d = n → x_M_checkCharacter_1 867 n (bs_rf t (fun k => vof (x k)) i) i (bM sl π M G e) = rI (al (bs_cv t (bs_rf t (fun k => vof (x k)) n))) (bM sl π M G e) := by
  have bd : ∀ i, i ≤ n → 0 ≤ bs_rf t (fun k => vof (x k)) i ∧ bs_rf t (fun k => vof (x k)) i ≤ 60 * i := fun i hi => bs_rf_bd i fun k hk => ⟨(hx k (by omega)).2.1, Int.le_trans (Int.le_of_lt (hx k (by omega)).2.2) (by decide)⟩
  intro d
  induction d with
  | zero =>
    intro i hi
    have : i = n := by omega
    subst this
    have b := bd i (Nat.le_refl _)
    have cb := bs_cv_bd (t := t) b.1
    have m10 : bs_md t = 10 := if_neg ht
    generalize bs_rf t (fun k => vof (x k)) i = S at b cb ⊢
    have e1 : Int.tmod (wr (10 - (Int.tmod S 10))) 10 = bs_cv t S := by
      unfold bs_cv
      rw [m10, wr_id (by rw [Int.tmod_eq_emod_of_nonneg b.1]; omega)]
    rw [x_M_checkCharacter_1_eq, if_neg (by omega), e1, wr_id (by omega), al_dg (by omega)]
  | succ d ih =>
    intro i hi
    have e2 : wr ((i : Int) + 1) = ((i + 1 : Nat) : Int) := by rw [wr_id (by omega)]; omega
    have hin : (i : Int) < n := by omega
    have hi60 : 0 ≤ (i : Int) ∧ (i : Int) < 60 := by omega
    have b := bd (i + 1) (by omega)
    obtain ⟨hxi, hv⟩ := hx i (by omega)
    have e5 : wr (x i - 48) = vof (x i) := by
      have h1 := b_dig hv
      generalize hg : vof (x i) = v at h1 hv
      clear hg
      rw [wr_id (by omega)]
      omega
    have e3 : bs_rf t (fun k => vof (x k)) (i + 1) = bs_rf t (fun k => vof (x k)) i + bs_wg t i * vof (x i) := rfl
    rw [x_M_checkCharacter_1_eq, if_pos hin]
    by_cases tz : Int.tmod (i : Int) 2 = 0
    · have w3 : bs_wg t i = 3 := if_pos ⟨ht, tz⟩
      have e4 : wr (bs_rf t (fun k => vof (x k)) i + wr (3 * vof (x i))) = bs_rf t (fun k => vof (x k)) (i + 1) := by
        rw [w3] at e3
        generalize vof (x i) = v at e3 hv ⊢
        rw [wr_id (x := 3 * v) (by omega), ← e3]
        generalize bs_rf t (fun k => vof (x k)) (i + 1) = S at b ⊢
        exact wr_id (by omega)
      rw [if_pos tz, mo_R3, mo_r871 hi60, hxi, e5, e4, e2]
      exact ih (i + 1) (by omega)
    · have w1 : bs_wg t i = 1 := if_neg (fun q => tz q.2)
      have e4 : wr (bs_rf t (fun k => vof (x k)) i + wr (1 * vof (x i))) = bs_rf t (fun k => vof (x k)) (i + 1) := by
        rw [w1] at e3
        generalize vof (x i) = v at e3 hv ⊢
        rw [wr_id (x := 1 * v) (by omega), ← e3]
        generalize bs_rf t (fun k => vof (x k)) (i + 1) = S at b ⊢
        exact wr_id (by omega)
      rw [if_neg tz, mo_R3, mo_r871 hi60, hxi, e5, e4, e2]
      exact ih (i + 1) (by omega)
theorem qm_checkCharacter {n : Int} (h : MR σ M) (ht : t < 3) : (okCk σ t n → d_M_checkCharacter 867 t n (bM sl π M G e) = rI (gCk σ t n) (bM sl π (up M 867 11 0) G e)) ∧
    (¬ okCk σ t n → d_M_checkCharacter 867 t n (bM sl π M G e) = rI 0 (bM sl π (up M 867 11 2) G e)) := by
  have h0 := h.1.2.2.1
  have mA := MR_th (t := 0) h
  rw [d_M_checkCharacter_10 _ _ _ _ mo_d, x_M_checkCharacter_eq, bw_isSym, sym_t ht, ci_r, if_neg (show ¬ bi true = 0 by decide), mo_I, h.2.2.1.2.2, bw_isIn, ci_r]
  by_cases a1 : 0 ≤ n ∧ n ≤ gtl σ
  · obtain ⟨m, rfl⟩ : ∃ m : Nat, n = m := ⟨n.toNat, by omega⟩
    rw [decide_eq_true a1, if_neg (show ¬ bi true = 0 by decide), wr_id (x := (m : Int) + 1) (by omega), qm_isLength ht, ci_r]
    cases a4 : bs_hl t ((m : Int) + 1) with
    | false =>
      have no : ¬ okCk σ t m := fun q => by have := q.2.1; rw [a4] at this; exact absurd this (by decide)
      rw [if_pos (show bi false = 0 from rfl), mo_p, mo_I, up_s, t_pos2]
      exact ⟨fun q => absurd q no, fun _ => rfl⟩
    | true =>
      have hh := ck_hl ht a4
      rw [if_neg (show ¬ bi true = 0 by decide), qm_areChars (n := m) (x := gtx σ) (by omega) h.2.1.2.2.2 (fun j hj => ⟨h.2.2.2.1 j (by omega), h.1.2.2.2.1 j (by omega)⟩), ci_r]
      cases a5 : bs_ic t (bs_tc (gtx σ) m) with
      | false =>
        have no : ¬ okCk σ t m := fun q => by have := q.2.2; rw [show ((m : Nat) : Int).toNat = m from rfl, a5] at this; exact absurd this (by decide)
        rw [if_pos (show bi false = 0 from rfl), mo_p, mo_I, up_s, t_pos2]
        exact ⟨fun q => absurd q no, fun _ => rfl⟩
      | true =>
        have hb : ∀ j : Nat, j < m → (up M 867 11 0) 871 j = gtx σ j ∧ 0 ≤ vof (gtx σ j) ∧ vof (gtx σ j) < (if t = 2 then 20 else 10) := fun j hj => by
          have hj2 : 0 ≤ (j : Int) ∧ (j : Int) < gtl σ := by omega
          have hk2 : j < (bs_tc (gtx σ) m).length := by rw [bs_tc_l]; exact hj
          have dg := bs_ic0_ok 0 a5 _ (List.getElem_mem hk2)
          rw [bs_tc_at] at dg
          exact ⟨mA.2.2.2.1 j hj2, dg⟩
        rw [if_neg (show ¬ bi true = 0 by decide), mo_p, mo_I, up_s, t_zero]
        refine ⟨fun _ => ?_, fun q => absurd ⟨a1, a4, a5⟩ q⟩
        by_cases t2 : t = 2
        · subst t2
          rw [if_pos (show ((2 : Nat) : Int) = 2 from rfl)]
          exact qm_ck_0 (by omega) mA.2.1.2.2.2 (fun j hj => by have := hb j hj; rw [if_pos rfl] at this; exact this) m 0 (by omega)
        · rw [if_neg (by omega)]
          exact qm_ck_1 t2 (by omega) (fun j hj => by have := hb j hj; rw [if_neg t2] at this; exact this) m 0 (by omega)
  · have no : ¬ okCk σ t n := fun q => a1 q.1
    rw [decide_eq_false a1, if_pos (show bi false = 0 from rfl), mo_p, mo_I, up_s, t_pos2]
    exact ⟨fun q => absurd q no, fun _ => rfl⟩
theorem qm_checkCharacterX {s n : Int} (hs : ¬ (0 ≤ s ∧ s < 3)) : d_M_checkCharacter 867 s n (bM sl π M G e) = rI 0 (bM sl π (up M 867 11 1) G e) := by
  rw [d_M_checkCharacter_10 _ _ _ _ mo_d, x_M_checkCharacter_eq, bw_isSym, decide_eq_false hs, ci_r, if_pos (show bi false = 0 from rfl), mo_p, mo_I, up_s, t_pos]
end
