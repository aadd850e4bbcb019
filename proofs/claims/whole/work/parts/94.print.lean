/-! PRINT: what it makes; the class -/
def bs_sd (s : Int) : Nat → Int
  | 0 => s
  | i + 1 => wr ((wr (1103515245 * bs_sd s i)) + 12345)
def bs_pv (m mo sp : Int) (i : Nat) : Int := wr ((wr (m * mo)) + (if Int.tmod (i : Int) 2 = 0 then sp else wr (-sp)))
def bs_pn (sd : Int) (i : Nat) : Int := wr ((Int.tmod (bz_ushr (bs_sd sd (i + 1)) 16) 3) - 1)
/-- a printed width -/
def bs_p1 (m mo sp sd : Int) (i : Nat) : Int := bs_mx (if sd = 0 then bs_pv m mo sp i else wr (bs_pv m mo sp i + bs_pn sd i)) 1
/-- the printed row -/
def bs_pW (D : List Int) (mo sp sd : Int) : Int → Int := fun j => if j = 0 then 10 * mo else if j = (D.length : Int) + 1 then 10 * mo else bs_p1 (dw D (j - 1)) mo sp sd (j - 1).toNat
theorem bs_pW_at {D : List Int} {mo sp sd : Int} {i : Nat} (hi : i < D.length) : bs_pW D mo sp sd ((i : Int) + 1) = bs_p1 (dw D i) mo sp sd i := by
  have e : (i : Int) + 1 - 1 = i := by omega
  unfold bs_pW
  rw [if_neg (by omega), if_neg (by omega), e]
  rfl
theorem bs_pv_bd {m mo sp : Int} {i : Nat} (hm : 1 ≤ m ∧ m ≤ 4) (hmo : 4 ≤ mo ∧ mo ≤ 40) (hsp : -3 ≤ sp ∧ sp ≤ 3) : (0 ≤ m * mo ∧ m * mo ≤ 160) ∧ -3 ≤ bs_pv m mo sp i ∧ bs_pv m mo sp i ≤ 163 := by
  have h := mul_bd (a := m) (b := mo) (p := 4) (q := 40) (by omega) (by omega)
  have h2 : (4 : Int) * 40 = 160 := rfl
  refine ⟨by omega, ?_⟩
  unfold bs_pv
  rw [wr_id (x := m * mo) (by omega), wr_id (x := -sp) (by omega)]
  split
  · rw [wr_id (by omega)]; omega
  · rw [wr_id (by omega)]; omega
theorem bs_pn_bd {sd : Int} {i : Nat} : -3 ≤ bs_pn sd i ∧ bs_pn sd i ≤ 1 := by
  have h1 := Int.tmod_lt_of_pos (bz_ushr (bs_sd sd (i + 1)) 16) (show (0 : Int) < 3 by decide)
  have h2 := Int.lt_tmod_of_pos (bz_ushr (bs_sd sd (i + 1)) 16) (show (0 : Int) < 3 by decide)
  unfold bs_pn
  rw [wr_id (by omega)]
  omega
theorem bs_p1_bd {m mo sp sd : Int} {i : Nat} (hm : 1 ≤ m ∧ m ≤ 4) (hmo : 4 ≤ mo ∧ mo ≤ 40) (hsp : -3 ≤ sp ∧ sp ≤ 3) : 1 ≤ bs_p1 m mo sp sd i ∧ bs_p1 m mo sp sd i ≤ 10000 := by
  have h1 := (bs_pv_bd (i := i) hm hmo hsp).2
  have h2 := bs_pn_bd (sd := sd) (i := i)
  unfold bs_p1 bs_mx
  by_cases z : sd = 0
  · rw [if_pos z]
    split <;> omega
  · rw [if_neg z, wr_id (by omega)]
    split <;> omega
theorem bs_pW_ok {D : List Int} {mo sp sd : Int} (hD : ∀ x ∈ D, 1 ≤ x ∧ x ≤ 4) (hmo : 4 ≤ mo ∧ mo ≤ 40) (hsp : -3 ≤ sp ∧ sp ≤ 3) : wOK ((D.length : Int) + 2) (bs_pW D mo sp sd) := by
  intro j hj
  unfold bs_pW
  split
  · omega
  · split
    · omega
    · exact bs_p1_bd (dw_bd hD (by omega)) hmo hsp
def okPr (σ : Sg) (t : Nat) (n mo sp : Int) : Prop := (0 ≤ n ∧ n ≤ gtl σ) ∧ (4 ≤ mo ∧ mo ≤ 40) ∧ (-3 ≤ sp ∧ sp ≤ 3) ∧ bs_hl t n = true ∧ bs_ic t (bs_tc (gtx σ) n.toNat) = true
def gPD (σ : Sg) (t : Nat) (n : Int) : List Int := bs_dr t (bs_tc (gtx σ) n.toNat)
def ggRp (σ : Sg) (t : Nat) (n mo sp sd : Int) : Sg := ggN σ (((gPD σ t n).length : Int) + 2) (bs_pW (gPD σ t n) mo sp sd) 0 (gpl σ)
theorem gPD_ok {σ : Sg} {t : Nat} {n mo sp : Int} (ht : t < 3) (h : okPr σ t n mo sp) : okW t (bs_tc (gtx σ) n.toNat) ∧ (3 ≤ ((gPD σ t n).length : Int) + 2 ∧ ((gPD σ t n).length : Int) + 2 ≤ 129 ∧ (((gPD σ t n).length : Int) + 2) % 2 = 1) ∧ ∀ x ∈ gPD σ t n, 1 ≤ x ∧ x ≤ 4 := by
  obtain ⟨h1, h2, h3, h4, h5⟩ := h
  have ok := bs_tc_ok ht (n := n.toNat) (x := gtx σ) (by rw [show ((n.toNat : Nat) : Int) = n by omega]; exact h4) h5
  have hl := bs_dr_l ht ok
  have ho := nm_odd ht ok
  rw [← hl.1] at ho
  have e : (gPD σ t n).length = (bs_dr t (bs_tc (gtx σ) n.toNat)).length := rfl
  exact ⟨ok, by omega, bs_dr_bd ht ok⟩
section
variable {sl e : Nat} {π : Int → Nat} {M G : Nat → Int → Int} {σ : Sg} {t : Nat} {r : Nat} {D : List Int} {mo sp sd : Int}
def bs_sz (sd : Int) (i : Nat) : Int := if sd = 0 then sd else bs_sd sd i
theorem bc_pr_s {n x : Int} {W : Int → Int} (hr : aRow r) (hw : rRow M r n W) (hn : n < 129) (hx : x = W n) : ∃ M', d_Row_add r x (bM sl π M G e) = rI 0 (bM sl π M' G e) ∧ fr (S_ra r) M M' ∧ rRow M' r (n + 1) W := by
  obtain ⟨A, g, f, w⟩ := bc_radd (sl := sl) (e := e) (π := π) (G := G) hr hw hn x
  refine ⟨A, g, f, rRow_ext w fun i hi => ?_⟩
  by_cases z : i = n
  · rw [if_pos z, z, hx]
  · rw [if_neg z]
theorem bc_pr_0 (hr : aRow r) (h52 : 52 ≤ r) (hl : D.length ≤ 127) : ∀ (d i : Nat) (M : Nat → Int → Int), i + d = D.length → rD M 46 D → rRow M r ((i : Int) + 1) (bs_pW D mo sp sd) →
    ∃ M', x_E_addPrinted_0 16 r mo sp sd (bs_sz sd i) i (bM sl π M G e) = rI 0 (bM sl π M' G e) ∧ fr (S_ra r) M M' ∧ rRow M' r ((D.length : Int) + 1) (bs_pW D mo sp sd) := by
  intro d
  induction d with
  | zero =>
    intro i M hi hD hw
    have : i = D.length := by omega
    subst this
    rw [x_E_addPrinted_0_eq, en_R10, row_I a_46, hD.2.1, if_neg (by omega)]
    exact ⟨M, rfl, fr_refl, hw⟩
  | succ d ih =>
    intro i M hi hD hw
    have hiD : i < D.length := by omega
    have e2 : wr ((i : Int) + 1) = ((i + 1 : Nat) : Int) := by rw [wr_id (by omega)]; omega
    obtain ⟨A, g, f, w⟩ := bc_pr_s (sl := sl) (e := e) (π := π) (G := G) hr hw (by omega) (bs_pW_at (mo := mo) (sp := sp) (sd := sd) hiD).symm
    obtain ⟨M', g2, f2, w2⟩ := ih (i + 1) A (by omega) (rRow_fr hD f (by unfold S_ra; omega) (fun j => by unfold S_ra; omega)) (by rw [show ((i + 1 : Nat) : Int) + 1 = (i : Int) + 1 + 1 by omega]; exact w)
    refine ⟨M', ?_, fr_trans f f2, w2⟩
    rw [x_E_addPrinted_0_eq, en_R10, row_I a_46, hD.2.1, if_pos (by omega), en_R10, row_w a_46, row_r a_46 (by omega), hD.2.2 i (by omega), e2]
    unfold bs_p1 bs_pv at g
    by_cases tz : Int.tmod (i : Int) 2 = 0
    · rw [if_pos tz] at g
      rw [if_pos tz]
      by_cases z : sd = 0
      · rw [if_pos z] at g
        rw [if_pos z, bc_max, ci_r, g, cv_r]
        have : bs_sz sd (i + 1) = bs_sz sd i := by unfold bs_sz; rw [if_pos z, if_pos z]
        rw [this] at g2
        exact g2
      · rw [if_neg z] at g
        have s1 : bs_sz sd i = bs_sd sd i := if_neg z
        have s2 : bs_sz sd (i + 1) = wr ((wr (1103515245 * bs_sd sd i)) + 12345) := if_neg z
        rw [s2] at g2
        rw [if_neg z, s1, bc_max, ci_r]
        unfold bs_pn at g
        rw [bs_sd] at g
        rw [g, cv_r]
        exact g2
    · rw [if_neg tz] at g
      rw [if_neg tz]
      by_cases z : sd = 0
      · rw [if_pos z] at g
        rw [if_pos z, bc_max, ci_r, g, cv_r]
        have : bs_sz sd (i + 1) = bs_sz sd i := by unfold bs_sz; rw [if_pos z, if_pos z]
        rw [this] at g2
        exact g2
      · rw [if_neg z] at g
        have s1 : bs_sz sd i = bs_sd sd i := if_neg z
        have s2 : bs_sz sd (i + 1) = wr ((wr (1103515245 * bs_sd sd i)) + 12345) := if_neg z
        rw [s2] at g2
        rw [if_neg z, s1, bc_max, ci_r]
        unfold bs_pn at g
        rw [bs_sd] at g
        rw [g, cv_r]
        exact g2
theorem qo_text {n : Int} (h : CR σ π M) : d_E_requireTextLength 16 n (bM sl π M G e) = if 0 ≤ n ∧ n ≤ gtl σ then rI 0 (bM sl π M G e) else rX 3 (bM sl π M G (e + 1)) := by
  rw [d_E_requireTextLength_9 _ _ _ en_d, x_E_requireTextLength_eq, sX_bM]
  by_cases a : n < 0
  · rw [if_pos a, if_neg (by omega)]
  · rw [if_neg a, en_I, h.2.2.1.2]
    by_cases b : gtl σ < n
    · rw [if_pos b, if_neg (by omega)]
    · rw [if_neg b, if_pos (by omega)]
theorem qo_print {n : Int} (h : CR σ π M) (ht : t < 3) : (okPr σ t n mo sp → gc σ < 24 → ∃ M', d_E_print 16 t n mo sp sd (bM sl π M G e) = rI (gc σ) (bM sl π M' G e) ∧ CR (ggRp σ t n mo sp sd) π M' ∧ lo867 M M') ∧
    (okPr σ t n mo sp → ¬ gc σ < 24 → ∃ M', d_E_print 16 t n mo sp sd (bM sl π M G e) = rX 1 (bM sl π M' G (e + 1)) ∧ CR σ π M' ∧ lo867 M M') ∧
    (¬ okPr σ t n mo sp → ∃ M', d_E_print 16 t n mo sp sd (bM sl π M G e) = rX 3 (bM sl π M' G (e + 1)) ∧ CR σ π M' ∧ lo867 M M') := by
  have h0 := h.1.2.2.1
  have hc := h.1.1
  rw [d_E_print_9 _ _ _ _ _ _ _ en_d, x_E_print_eq, qo_sym, if_pos (show 0 ≤ (t : Int) ∧ (t : Int) < 3 by omega), cv_r, qo_text h]
  by_cases a1 : 0 ≤ n ∧ n ≤ gtl σ
  · obtain ⟨m, rfl⟩ : ∃ m : Nat, n = m := ⟨n.toNat, by omega⟩
    rw [if_pos a1, cv_r, sX_bM]
    by_cases a2 : 4 ≤ mo ∧ mo ≤ 40
    · rw [if_neg (show ¬ mo < 4 by omega), if_neg (show ¬ 40 < mo by omega)]
      by_cases a3 : -3 ≤ sp ∧ sp ≤ 3
      · obtain ⟨A, gA, cA, fA, wA⟩ := qo_take (sl := sl) (e := e) (G := G) h a1.2
        have loA : lo867 M A := fun b j hb => fA b j (by unfold S_q; omega)
        rw [if_neg (show ¬ sp < -3 by omega), if_neg (show ¬ 3 < sp by omega), en_R5, en_r21 ht, gA, cv_r, bc_hl ht (by omega), cn_r, sX_bM]
        cases a4 : bs_hl t m with
        | false =>
          have no : ¬ okPr σ t m mo sp := fun q => by have := q.2.2.2.1; rw [a4] at this; exact absurd this (by decide)
          rw [if_pos (show bi false = 0 from rfl)]
          exact ⟨fun q => absurd q no, fun q => absurd q no, fun _ => ⟨A, rfl, cA, loA⟩⟩
        | true =>
          have h16 := bs_hl_16 a4
          rw [show min m 16 = m by omega] at wA
          rw [if_neg (show ¬ bi true = 0 by decide), bc_isCode ht wA, ci_r, sX_bM]
          cases a5 : bs_ic t (bs_tc (gtx σ) m) with
          | false =>
            have no : ¬ okPr σ t m mo sp := fun q => by have := q.2.2.2.2; rw [show ((m : Nat) : Int).toNat = m from rfl, a5] at this; exact absurd this (by decide)
            rw [if_pos (show bi false = 0 from rfl)]
            exact ⟨fun q => absurd q no, fun q => absurd q no, fun _ => ⟨A, rfl, cA, loA⟩⟩
          | true =>
            have yes : okPr σ t m mo sp := ⟨a1, a2, a3, a4, a5⟩
            obtain ⟨ok, hn, hD⟩ := gPD_ok ht yes
            rw [if_neg (show ¬ bi true = 0 by decide), d_E_requireRoomForScan_9 _ _ en_d, x_E_requireRoomForScan_eq, en_I, cA.2.2.1.1, sX_bM]
            by_cases a6 : gc σ < 24
            · have hg24 : 0 ≤ gc σ ∧ gc σ < 24 := by omega
              have hπ := h.2.2.2.2.2.2.1
              have hin := PV_in hπ hg24
              have hr := PV_row hπ hg24
              have hs := PV_a hπ hg24
              have f0 : fr (S_ra 46) A (up A 46 1 0) := fr_up (Or.inr ⟨rfl, rfl⟩) fr_refl
              obtain ⟨B, gB, fB, wB⟩ := bc_draw (sl := sl) (e := e) (π := π) (G := G) ht a_46 a_48 (mCon_fr cA.2.1 f0 fun b j z => S_ra_con a_46 z) (rSeq_fr wA f0 fun b j z => S_ra_seq a_46 a_48 z) ok up_s
              have fAB := fr_trans f0 fB
              have cB : CR σ π B := CR_fr cA (fr_mono (fun b j z => S_ra_z z) fAB)
              have f1 : fr (S_ra (π (gc σ) + 1)) B (up B (π (gc σ) + 1) 1 0) := fr_up (Or.inr ⟨rfl, rfl⟩) fr_refl
              have w1 : rRow (up B (π (gc σ) + 1) 1 0) (π (gc σ) + 1) 0 (bs_pW (gPD σ t m) mo sp sd) := ⟨by decide, up_s, fun i hi => by omega⟩
              have e10 : wr (10 * mo) = 10 * mo := wr_id (by omega)
              obtain ⟨C, gC, fC, wC⟩ := bc_pr_s (sl := sl) (e := e) (π := π) (G := G) (x := 10 * mo) hr w1 (by decide) rfl
              have kD : rD C 46 (gPD σ t m) := rRow_fr (rRow_fr wB f1 (by unfold S_ra; omega) (fun j => by unfold S_ra; omega)) fC (by unfold S_ra; omega) (fun j => by unfold S_ra; omega)
              obtain ⟨E, gE, fE, wE⟩ := bc_pr_0 (sl := sl) (e := e) (π := π) (G := G) (mo := mo) (sp := sp) (sd := sd) hr (by omega) (show (gPD σ t m).length ≤ 127 by omega) (gPD σ t m).length 0 C (by omega) kD wC
              obtain ⟨F, gF, fF, wF⟩ := bc_pr_s (sl := sl) (e := e) (π := π) (G := G) (x := 10 * mo) hr wE (by omega) (by
                unfold bs_pW
                rw [if_neg (by omega), if_pos rfl])
              have fBF := fr_trans f1 (fr_trans fC (fr_trans fE fF))
              have f3 : fr (fun b j => b = 16 ∧ j = 1) F (up F 16 1 0) := fr_up ⟨rfl, rfl⟩ fr_refl
              have rd : ∀ b j, ¬ S_ra (π (gc σ) + 1) b j → F b j = B b j := fun b j z => fBF b j z
              obtain ⟨M', gM, cM, fM⟩ := qo_keep (sl := sl) (e := e) (G := G) (M1 := up F 16 1 0) (n := ((gPD σ t m).length : Int) + 2) (w := bs_pW (gPD σ t m) mo sp sd) (tl := 0) (pl := gpl σ) cB a6 hn (bs_pW_ok hD a2 a3) (by omega) ⟨h.1.2.2.2.2.1.1, Int.le_refl _⟩
                (fr_trans (fr_mono (fun b j z => Or.inr (Or.inl (by unfold S_ra at z; omega))) fBF) (fr_mono (fun b j z => Or.inr (Or.inr (Or.inl (by omega)))) f3)) (by rw [up_i (by decide), rd _ _ (by unfold S_ra; omega)]; exact cB.2.2.1.1) up_s (by rw [up_a (by decide), rd _ _ (by unfold S_ra; omega)]; exact cB.2.2.2.2.1.2.1) (rRow_fr (by rw [show ((gPD σ t m).length : Int) + 2 = ((gPD σ t m).length : Int) + 1 + 1 by omega]; exact wF) f3 (by omega) (fun j => by omega))
              rw [if_pos a6, cv_r, en_R10, row_p a_46, en_R11, en_R10, gB, cu_r, en_R3, en_I, cB.2.2.1.1, qo_rSc hπ hg24, scn_w hs, row_p hr, scn_w hs, e10, gC, cv_r, scn_w hs, d_E_addPrinted_9 _ _ _ _ _ _ en_d, x_E_addPrinted_eq]
              rw [show bs_sz sd 0 = sd by unfold bs_sz; split <;> rfl] at gE
              rw [show x_E_addPrinted_0 16 (π (gc σ) + 1) mo sp sd sd 0 (bM sl π C G e) = _ from gE, cv_r, scn_w hs, gF, cv_r, en_p, gM, ci_r]
              refine ⟨fun _ _ => ⟨M', rfl, cM, fun b j hb => ?_⟩, fun _ q => absurd a6 q, fun q => absurd yes q⟩
              rw [fM b j hb, fAB b j (by unfold S_ra; omega)]
              exact loA b j hb
            · rw [if_neg a6]
              exact ⟨fun _ q => absurd q a6, fun _ _ => ⟨A, rfl, cA, loA⟩, fun q => absurd yes q⟩
      · have no : ¬ okPr σ t m mo sp := fun q => a3 q.2.2.1
        refine ⟨fun q => absurd q no, fun q => absurd q no, fun _ => ⟨M, ?_, h, fun _ _ _ => rfl⟩⟩
        by_cases b : sp < -3
        · rw [if_pos b]
        · rw [if_neg b, if_pos (by omega)]
    · have no : ¬ okPr σ t m mo sp := fun q => a2 q.2.1
      refine ⟨fun q => absurd q no, fun q => absurd q no, fun _ => ⟨M, ?_, h, fun _ _ _ => rfl⟩⟩
      by_cases b : mo < 4
      · rw [if_pos b]
      · rw [if_neg b, if_pos (by omega)]
  · have no : ¬ okPr σ t n mo sp := fun q => a1 q.1
    rw [if_neg a1]
    exact ⟨fun q => absurd q no, fun q => absurd q no, fun _ => ⟨M, rfl, h, fun _ _ _ => rfl⟩⟩
theorem qo_printX {s n : Int} (hs : ¬ (0 ≤ s ∧ s < 3)) : d_E_print 16 s n mo sp sd (bM sl π M G e) = rX 2 (bM sl π M G (e + 1)) := by
  rw [d_E_print_9 _ _ _ _ _ _ _ en_d, x_E_print_eq, qo_sym, if_neg hs]; rfl
end
