/-! PRINT: the model -/
section
variable {sl e : Nat} {π : Int → Nat} {M G : Nat → Int → Int} {σ : Sg} {t : Nat} {D : List Int} {mo sp sd : Int}
theorem qm_canPrint {n : Int} (h : MR σ M) (ht : t < 3) : ∃ b : Bool, d_M_canPrint 867 t n mo sp (bM sl π M G e) = rI (bi b) (bM sl π M G e) ∧ (b = true ↔ okPr σ t n mo sp) := by
  have h0 := h.1.2.2.1
  rw [d_M_canPrint_10 _ _ _ _ _ _ mo_d, x_M_canPrint_eq, mo_I, h.2.2.1.2.2, bw_isIn, ci_r]
  by_cases a1 : 0 ≤ n ∧ n ≤ gtl σ
  · obtain ⟨m, rfl⟩ : ∃ m : Nat, n = m := ⟨n.toNat, by omega⟩
    rw [decide_eq_true a1, if_neg (show ¬ bi true = 0 by decide), bw_isIn, ci_r]
    by_cases a2 : 4 ≤ mo ∧ mo ≤ 40
    · rw [decide_eq_true a2, if_neg (show ¬ bi true = 0 by decide), bw_isIn, ci_r]
      by_cases a3 : -3 ≤ sp ∧ sp ≤ 3
      · rw [decide_eq_true a3, if_neg (show ¬ bi true = 0 by decide), qm_isLength ht, ci_r]
        cases a4 : bs_hl t m with
        | false =>
          rw [if_pos (show bi false = 0 from rfl)]
          exact ⟨false, rfl, ⟨fun q => (by cases q), fun q => by have := q.2.2.2.1; rw [a4] at this; exact this⟩⟩
        | true =>
          have h16 := bs_hl_16 a4
          rw [if_neg (show ¬ bi true = 0 by decide), qm_areChars (n := m) (x := gtx σ) (by omega) h.2.1.2.2.2 (fun j hj => ⟨h.2.2.2.1 j (by omega), h.1.2.2.2.1 j (by omega)⟩), ci_r]
          cases a5 : bs_ic t (bs_tc (gtx σ) m) with
          | false =>
            rw [if_pos (show bi false = 0 from rfl)]
            exact ⟨false, rfl, ⟨fun q => (by cases q), fun q => by have := q.2.2.2.2; rw [show ((m : Nat) : Int).toNat = m from rfl, a5] at this; exact this⟩⟩
          | true =>
            rw [if_neg (show ¬ bi true = 0 by decide)]
            exact ⟨true, rfl, ⟨fun _ => ⟨a1, a2, a3, a4, a5⟩, fun _ => rfl⟩⟩
      · rw [decide_eq_false a3, if_pos (show bi false = 0 from rfl)]
        exact ⟨false, rfl, ⟨fun q => (by cases q), fun q => absurd q.2.2.1 a3⟩⟩
    · rw [decide_eq_false a2, if_pos (show bi false = 0 from rfl)]
      exact ⟨false, rfl, ⟨fun q => (by cases q), fun q => absurd q.2.1 a2⟩⟩
  · rw [decide_eq_false a1, if_pos (show bi false = 0 from rfl)]
    exact ⟨false, rfl, ⟨fun q => (by cases q), fun q => absurd q.1 a1⟩⟩
theorem qm_pr_0 {s : Int} {n : Nat} {x : Int → Int} (hn : n ≤ 60) : ∀ (d i : Nat) (M : Nat → Int → Int), i + d = n → (∀ j : Int, 0 ≤ j ∧ j < n → M 871 j = x j) → (∀ j : Nat, j < i → M 876 j = x j) →
    ∃ M', x_M_print_0 867 s n mo sp sd i (bM sl π M G e) = x_M_print_0 867 s n mo sp sd n (bM sl π M' G e) ∧ fr (fun b _ => b = 876) M M' ∧ ∀ j : Nat, j < n → M' 876 j = x j := by
  intro d
  induction d with
  | zero =>
    intro i M hi hx hc
    have : i = n := by omega
    subst this
    exact ⟨M, rfl, fr_refl, hc⟩
  | succ d ih =>
    intro i M hi hx hc
    have e2 : wr ((i : Int) + 1) = ((i + 1 : Nat) : Int) := by rw [wr_id (by omega)]; omega
    obtain ⟨M', g, f, c⟩ := ih (i + 1) (up M 876 i (x i)) (by omega) (fun j hj => (up_a (by decide)).trans (hx j hj)) (fun j hj => by
      by_cases z : j = i
      · rw [z, up_s]
      · rw [up_i (show (j : Int) ≠ i from fun y => z (by omega))]; exact hc j (by omega))
    refine ⟨M', ?_, fr_trans (fr_up rfl fr_refl) f, c⟩
    rw [x_M_print_0_eq, if_pos (by omega), mo_R12, mo_R3, mo_r871 (by omega), hx i (by omega), mo_w876 (by omega), e2]
    exact g
def S_pr (c : Int) (b : Nat) (j : Int) : Prop := b = 868 ∧ 129 * c ≤ j ∧ j < 129 * c + 129
theorem qm_pr_1 {c : Int} (hc : 0 ≤ c ∧ c < 24) (hl : D.length ≤ 127) (hD : ∀ x ∈ D, 1 ≤ x ∧ x ≤ 4) (hmo : 4 ≤ mo ∧ mo ≤ 40) (hsp : -3 ≤ sp ∧ sp ≤ 3) : ∀ (d i : Nat) (M : Nat → Int → Int), i + d = D.length → mD M D → (∀ j, 0 ≤ j ∧ j < (i : Int) + 1 → M 868 (129 * c + j) = bs_pW D mo sp sd j) →
    ∃ M', x_M_print_1 867 mo sp sd (129 * c) (bs_sd sd i) i (bM sl π M G e) = x_M_print_1 867 mo sp sd (129 * c) (bs_sd sd D.length) D.length (bM sl π M' G e) ∧ fr (S_pr c) M M' ∧ mD M' D ∧ ∀ j, 0 ≤ j ∧ j < (D.length : Int) + 1 → M' 868 (129 * c + j) = bs_pW D mo sp sd j := by
  intro d
  induction d with
  | zero =>
    intro i M hi hm hw
    have : i = D.length := by omega
    subst this
    exact ⟨M, rfl, fr_refl, hm, hw⟩
  | succ d ih =>
    intro i M hi hm hw
    have hiD : i < D.length := by omega
    have e2 : wr ((i : Int) + 1) = ((i + 1 : Nat) : Int) := by rw [wr_id (by omega)]; omega
    have e3 : wr ((wr (129 * c + i)) + 1) = 129 * c + (i + 1) := by rw [wr_id (x := 129 * c + i) (by omega), wr_id (by omega)]; omega
    have hb : 0 ≤ 129 * c + ((i : Int) + 1) ∧ 129 * c + ((i : Int) + 1) < 3096 := by omega
    have hS : S_pr c 868 (129 * c + ((i : Int) + 1)) := ⟨rfl, by omega, by omega⟩
    have hx := bs_pW_at (mo := mo) (sp := sp) (sd := sd) hiD
    have pv := (bs_pv_bd (i := i) (dw_bd hD (i := (i : Int)) (by omega)) hmo hsp).2
    obtain ⟨M', g, f, m', w'⟩ := ih (i + 1) (up M 868 (129 * c + ((i : Int) + 1)) (bs_p1 (dw D i) mo sp sd i)) (by omega) ⟨(up_a (by decide)).trans hm.1, hm.2.1, fun k hk => (up_a (by decide)).trans (hm.2.2 k hk)⟩ (fun j hj => by
      by_cases z : j = (i : Int) + 1
      · rw [z, up_s, hx]
      · rw [up_i (by omega)]; exact hw j (by omega))
    refine ⟨M', ?_, fr_trans (fr_up hS fr_refl) f, m', w'⟩
    have fin : ∀ X : Int, bs_mx X 1 = bs_p1 (dw D i) mo sp sd i → (if X < 1 then bz_wI (bM sl π M G e) 868 (129 * c + ((i : Int) + 1)) 1 fun μ5 => x_M_print_1 867 mo sp sd (129 * c) (wr ((wr (1103515245 * bs_sd sd i)) + 12345)) ((i + 1 : Nat) : Int) μ5 else bz_wI (bM sl π M G e) 868 (129 * c + ((i : Int) + 1)) X fun μ6 => x_M_print_1 867 mo sp sd (129 * c) (wr ((wr (1103515245 * bs_sd sd i)) + 12345)) ((i + 1 : Nat) : Int) μ6) = x_M_print_1 867 mo sp sd (129 * c) (bs_sd sd D.length) D.length (bM sl π M' G e) := by
      intro X hX
      rw [← hX] at g
      unfold bs_mx at g
      rw [bs_sd] at g
      by_cases z : X < 1
      · rw [if_pos z] at g
        rw [if_pos z, mo_w868 hb]; exact g
      · rw [if_neg z] at g
        rw [if_neg z, mo_w868 hb]; exact g
    rw [x_M_print_1_eq, mo_I, hm.1, if_pos (by omega), mo_R13, mo_r877 (by omega), hm.2.2 i (by omega), e2, e3]
    unfold bs_p1 bs_pv bs_pn at fin
    rw [bs_sd] at fin
    unfold bs_pv at pv
    by_cases tz : Int.tmod (i : Int) 2 = 0
    · rw [if_pos tz]
      rw [if_pos tz] at pv fin
      by_cases z : sd = 0
      · rw [if_pos z] at fin
        rw [if_pos z, mo_R0, Int.add_zero, wr_id (x := wr ((wr (dw D i * mo)) + sp)) (by omega)]
        exact fin _ rfl
      · rw [if_neg z] at fin
        rw [if_neg z, mo_R0]
        exact fin _ rfl
    · rw [if_neg tz]
      rw [if_neg tz] at pv fin
      by_cases z : sd = 0
      · rw [if_pos z] at fin
        rw [if_pos z, mo_R0, Int.add_zero, wr_id (x := wr ((wr (dw D i * mo)) + (wr (-sp)))) (by omega)]
        exact fin _ rfl
      · rw [if_neg z] at fin
        rw [if_neg z, mo_R0]
        exact fin _ rfl
theorem qm_print {n : Int} (h : MR σ M) (ht : t < 3) : (okPr σ t n mo sp → gc σ < 24 → ∃ M', d_M_print 867 t n mo sp sd (bM sl π M G e) = rI (gc σ) (bM sl π M' G e) ∧ MR (ggRp σ t n mo sp sd) M' ∧ fr S_hi M M' ∧ M' 867 11 = 0) ∧
    (okPr σ t n mo sp → ¬ gc σ < 24 → d_M_print 867 t n mo sp sd (bM sl π M G e) = rI 0 (bM sl π (up M 867 11 3) G e)) ∧
    (¬ okPr σ t n mo sp → d_M_print 867 t n mo sp sd (bM sl π M G e) = rI 0 (bM sl π (up M 867 11 2) G e)) := by
  have h0 := h.1.2.2.1
  have hc := h.1.1
  obtain ⟨b, gb, hb⟩ := qm_canPrint (sl := sl) (e := e) (π := π) (G := G) (n := n) (mo := mo) (sp := sp) h ht
  rw [d_M_print_10 _ _ _ _ _ _ _ mo_d, x_M_print_eq, bw_isSym, sym_t ht, ci_r, if_neg (show ¬ bi true = 0 by decide), gb, ci_r]
  by_cases ok : okPr σ t n mo sp
  · rw [hb.mpr ok, if_neg (show ¬ bi true = 0 by decide), mo_I, h.2.2.1.1]
    by_cases a6 : gc σ < 24
    · obtain ⟨a1, a2, a3, a4, a5⟩ := ok
      obtain ⟨m, rfl⟩ : ∃ m : Nat, n = m := ⟨n.toNat, by omega⟩
      rw [show ((m : Nat) : Int).toNat = m from rfl] at a5
      obtain ⟨okw, hn, hD⟩ := gPD_ok ht (show okPr σ t m mo sp from ⟨a1, a2, a3, a4, a5⟩)
      rw [show ((m : Nat) : Int).toNat = m from rfl] at okw
      have h16 := bs_hl_16 a4
      have hlen := bs_tc_l (x := gtx σ) m
      have mA := MR_th (t := 0) h
      obtain ⟨A, gA, fA, xA⟩ := qm_pr_0 (sl := sl) (e := e) (π := π) (G := G) (s := t) (mo := mo) (sp := sp) (sd := sd) (n := m) (x := gtx σ) (by omega) m 0 (up M 867 11 0) (by omega) (fun j hj => mA.2.2.2.1 j (by omega)) (fun j hj => by omega)
      have mB : MR σ A := MR_fr mA fA fun b j y => by omega
      have cA : mC A (bs_tc (gtx σ) m) := fun k hk => by
        have hk2 : k < m := by rw [hlen] at hk; exact hk
        have dg := bs_ic0_ok 0 a5 _ (List.getElem_mem hk)
        rw [bs_tc_at] at dg ⊢
        rw [xA k hk2]
        exact (al_vof fun z => by rw [show ((vof (gtx σ k), (0 : Int)) : Ch).1 = vof (gtx σ k) from rfl, z] at dg; exact absurd dg.1 (by decide)).symm
      obtain ⟨C, gC, fC, dC⟩ := qm_laysModules (sl := sl) (e := e) (π := π) (G := G) ht mB.2.1 cA okw
      rw [hlen] at gC
      have c8 : C 867 8 = gc σ := by rw [fC _ _ (by unfold S_ly; omega)]; exact mB.2.2.1.1
      have e129 : wr (129 * gc σ) = 129 * gc σ := wr_id (by omega)
      have e10 : wr (10 * mo) = 10 * mo := wr_id (by omega)
      have dU : mD (up C 868 (129 * gc σ) (10 * mo)) (gPD σ t m) := ⟨(up_a (by decide)).trans dC.1, dC.2.1, fun k hk => (up_a (by decide)).trans (dC.2.2 k hk)⟩
      obtain ⟨E, gE, fE, dE, wE⟩ := qm_pr_1 (sl := sl) (e := e) (π := π) (G := G) (sd := sd) (c := gc σ) (by omega) (show (gPD σ t m).length ≤ 127 by omega) hD a2 a3 (gPD σ t m).length 0 (up C 868 (129 * gc σ) (10 * mo)) (by omega) dU (fun j hj => by
        have : j = 0 := by omega
        subst this
        rw [Int.add_zero, up_s]; rfl)
      have ei : wr ((wr (129 * gc σ + ((gPD σ t m).length : Int))) + 1) = 129 * gc σ + (((gPD σ t m).length : Int) + 1) := by rw [wr_id (x := 129 * gc σ + ((gPD σ t m).length : Int)) (by omega), wr_id (by omega)]; omega
      have rE : ∀ b j, b ≠ 868 → E b j = C b j := fun b j hb' => (fE b j (fun y => hb' y.1)).trans (up_a hb')
      have E8 : E 867 8 = gc σ := (rE _ _ (by decide)).trans c8
      have L : ((gPD σ t m).length : Int) + 2 ≤ 129 := hn.2.1
      have fAC : ∀ b j, ¬ (b = 876 ∨ (b = 867 ∧ (j = 11 ∨ j = 14)) ∨ b = 877) → C b j = M b j := fun b j hb' => by
        rw [fC b j (by unfold S_ly; omega), fA b j (by omega), up_ite, if_neg (by omega)]
      have tC : C 867 11 = 0 := by rw [fC _ _ (by unfold S_ly; omega), fA _ _ (by omega), up_s]
      refine ⟨fun _ _ => ?_, fun _ q => absurd a6 q, fun q => absurd ⟨a1, a2, a3, a4, a5⟩ q⟩
      rw [if_neg (by omega), mo_p, mo_I, up_s, t_zero, show x_M_print_0 867 t m mo sp sd 0 (bM sl π (up M 867 11 0) G e) = _ from gA, x_M_print_0_eq, if_neg (by omega), gC, cv_r, mo_I, c8, mo_R0, e129, e10, mo_w868 (by omega), show x_M_print_1 867 mo sp sd (129 * gc σ) sd 0 (bM sl π (up C 868 (129 * gc σ) (10 * mo)) G e) = _ from gE, x_M_print_1_eq, mo_I, dE.1, if_neg (by omega), mo_R0, mo_I, dE.1, ei, e10, mo_w868 (by omega), mo_R1, mo_I, up_a (by decide), E8, mo_I, up_a (by decide), dE.1, wr_id (x := ((gPD σ t m).length : Int) + 2) (by omega), mo_w869 (by omega), mo_p, mo_I, up_i (by decide), up_a (by decide), up_a (by decide), E8, wr_id (x := gc σ + 1) (by omega), mo_p, mo_I, up_s, wr_id (x := gc σ + 1 - 1) (by omega), show gc σ + 1 - 1 = gc σ by omega]
      refine ⟨_, rfl, MR_new h a6 hn (bs_pW_ok hD a2 a3) (by omega) ⟨h.1.2.2.2.2.1.1, Int.le_refl _⟩ ?_ up_s ?_ ?_ ⟨by omega, ?_, fun j hj => ?_⟩, ?_, ?_⟩
      · intro b j hb'
        rw [up_ite, if_neg (by omega), up_ite, if_neg (by omega), up_ite, if_neg (by omega), up_ite, if_neg (by omega), fE b j (fun y => hb' (by unfold S_pr at y; omega)), up_ite, if_neg (by omega)]
        exact fAC b j (by omega)
      · rw [up_i (by decide), up_i (by decide), up_a (by decide), up_a (by decide), rE _ _ (by decide), fAC _ _ (by omega)]; exact h.2.2.1.2.1
      · rw [up_i (by decide), up_s]
      · rw [up_a (by decide), up_a (by decide), up_s]
      · rw [up_a (by decide), up_a (by decide), up_a (by decide)]
        by_cases z : j = ((gPD σ t m).length : Int) + 1
        · rw [z, up_s]
          unfold bs_pW
          rw [if_neg (by omega), if_pos rfl]
        · rw [up_i (by omega)]; exact wE j (by omega)
      · intro b j hb'
        unfold S_hi at hb'
        rw [up_ite, if_neg (by omega), up_ite, if_neg (by omega), up_ite, if_neg (by omega), up_ite, if_neg (by omega), fE b j (fun y => hb' (by unfold S_pr at y; omega)), up_ite, if_neg (by omega)]
        exact fAC b j (by omega)
      · rw [up_i (by decide), up_i (by decide), up_a (by decide), up_a (by decide), rE _ _ (by decide)]; exact tC
    · rw [if_pos (by omega), mo_p, mo_I, up_s, t_pos3]
      exact ⟨fun _ q => absurd q a6, fun _ _ => rfl, fun q => absurd ok q⟩
  · have : b = false := by
      cases b with
      | false => rfl
      | true => exact absurd (hb.mp rfl) ok
    rw [this, if_pos (show bi false = 0 from rfl), mo_p, mo_I, up_s, t_pos2]
    exact ⟨fun q => absurd q ok, fun q => absurd q ok, fun _ => rfl⟩
theorem qm_printX {s n : Int} (hs : ¬ (0 ≤ s ∧ s < 3)) : d_M_print 867 s n mo sp sd (bM sl π M G e) = rI 0 (bM sl π (up M 867 11 1) G e) := by
  rw [d_M_print_10 _ _ _ _ _ _ _ mo_d, x_M_print_eq, bw_isSym, decide_eq_false hs, ci_r, if_pos (show bi false = 0 from rfl), mo_p, mo_I, up_s, t_pos]
end
