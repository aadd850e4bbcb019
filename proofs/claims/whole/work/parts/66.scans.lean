/-! setCheck, removeScan, endScan -/
section
variable {sl e : Nat} {π : Int → Nat} {M G : Nat → Int → Int} {σ : Sg}
def ggK (σ : Sg) (s v : Int) : Sg := (σ.1, σ.2.1, σ.2.2.1, σ.2.2.2.1, σ.2.2.2.2.1, σ.2.2.2.2.2.1, σ.2.2.2.2.2.2.1, fun j => if j = s then v else gk σ j)
theorem ggK_ok {s v : Int} (h : okS σ) (hv : v = 0 ∨ v = 1) : okS (ggK σ s v) := by
  refine ⟨h.1, h.2.1, h.2.2.1, h.2.2.2.1, h.2.2.2.2.1, h.2.2.2.2.2.1, fun j hj => ?_⟩
  show (if j = s then v else gk σ j) = 0 ∨ (if j = s then v else gk σ j) = 1
  by_cases z : j = s
  · rw [if_pos z]; exact hv
  · rw [if_neg z]; exact h.2.2.2.2.2.2 j hj
theorem qo_setCheck {s v : Int} (h : CR σ π M) (hv : v = 0 ∨ v = 1) :
    ((0 ≤ s ∧ s < 3) → ∃ M', d_E_setCheck 16 s v (bM sl π M G e) = rI (gk σ s) (bM sl π M' G e) ∧ CR (ggK σ s v) π M' ∧ ∀ b j, 867 ≤ b → M' b j = M b j) ∧
    (¬ (0 ≤ s ∧ s < 3) → d_E_setCheck 16 s v (bM sl π M G e) = rX 2 (bM sl π M G (e + 1))) := by
  rw [d_E_setCheck_9 _ _ _ _ en_d, x_E_setCheck_eq, qo_sym]
  refine ⟨fun q => ?_, fun q => ?_⟩
  · rw [if_pos q]
    simp only [cv_r]
    have hk := h.2.2.2.2.2.1 s q
    have hk01 := h.1.2.2.2.2.2.2 s q
    rw [en_R7, en_r41 q, en_R7, en_w41 q hv, hk]
    have e1 : bz_zB (gk σ s) (bM sl π (up M 41 s v) G e) = rI (gk σ s) (bM sl π (up M 41 s v) G e) := if_pos hk01
    rw [e1]
    obtain ⟨h1, h2, h3, h4, h5, h6, h7, h8, h9, h10⟩ := h
    have f : fr (fun b j => b = 41 ∧ j = s) M (up M 41 s v) := fr_up ⟨rfl, rfl⟩ fr_refl
    refine ⟨_, rfl, ⟨ggK_ok h1 hv, mCon_fr h2 f fun b j z => by omega, ⟨?_, ?_⟩, fun i hi => ?_, ?_, fun j hj => ?_, h7, fun k hk => ?_, fun k s' hk hs hne => ?_, fun s' hs hne => ?_⟩, fun b j hb => up_a (by omega)⟩
    · rw [up_a (by decide)]; exact h3.1
    · rw [up_a (by decide)]; exact h3.2
    · rw [up_a (by decide)]; exact h4 i hi
    · exact rRow_fr h5 f (by omega) (fun j => by omega)
    · show up M 41 s v 41 j = (if j = s then v else gk σ j)
      by_cases z : j = s
      · rw [if_pos z, z, up_s]
      · rw [if_neg z, up_i z]; exact h6 j hj
    · have := PV_in h7 (show 0 ≤ k ∧ k < 24 by have := h1.1; have hk' : 0 ≤ k ∧ k < gc σ := hk; omega)
      exact rRow_fr (h8 k hk) f (by omega) (fun j => by omega)
    · have := PV_in h7 (show 0 ≤ k ∧ k < 24 by have := h1.1; have hk' : 0 ≤ k ∧ k < gc σ := hk; omega)
      rw [up_a (by omega)] at hne
      exact rRdg_fr (h9 k s' hk hs hne) f (fun b j hb => by omega)
    · rw [up_a (by omega)] at hne
      exact rTal_fr (h10 s' hs hne) f (fun b j hb hb2 => by omega)
  · rw [if_neg q]; rfl
theorem qm_setCheck {s v : Int} (h : MR σ M) (hv : v = 0 ∨ v = 1) :
    ((0 ≤ s ∧ s < 3) → ∃ M', d_M_setCheck 867 s v (bM sl π M G e) = rI (gk σ s) (bM sl π M' G e) ∧ MR (ggK σ s v) M' ∧ fr S_hi M M' ∧ M' 867 11 = 0) ∧
    (¬ (0 ≤ s ∧ s < 3) → d_M_setCheck 867 s v (bM sl π M G e) = rI 0 (bM sl π (up M 867 11 1) G e)) := by
  rw [d_M_setCheck_10 _ _ _ _ mo_d, x_M_setCheck_eq, bw_isSym]
  simp only [ci_r, bi_eq0]
  refine ⟨fun q => ?_, fun q => ?_⟩
  · have hk := h.2.2.2.2.2.1 s q
    have hk01 := h.1.2.2.2.2.2.2 s q
    rw [if_neg (by rw [decide_eq_true q]; decide), mo_p, mo_I, up_s, t_zero, mo_R4, mo_r872 q, mo_R4, mo_w872 q hv, up_a (by decide), hk]
    have e1 : ∀ μ, bz_zB (gk σ s) μ = rI (gk σ s) μ := fun μ => if_pos hk01
    rw [e1]
    obtain ⟨h1, h2, ⟨h3, h3', h3''⟩, h4, h5, h6, h7⟩ := h
    have f : fr (fun b j => (b = 867 ∧ j = 11) ∨ (b = 872 ∧ j = s)) M (up (up M 867 11 0) 872 s v) := fr_up (by omega) (fr_up (by omega) fr_refl)
    refine ⟨_, rfl, ⟨ggK_ok h1 hv, mMod_fr h2 f fun b j z => by omega, ⟨?_, ?_, ?_⟩, fun i hi => ?_, fun i hi => ?_, fun j hj => ?_, fun k hk => ?_⟩, fr_mono (fun b j z => by unfold S_hi; omega) f, ?_⟩
    · rw [f _ _ (by omega)]; exact h3
    · rw [f _ _ (by omega)]; exact h3'
    · rw [f _ _ (by omega)]; exact h3''
    · rw [f _ _ (by omega)]; exact h4 i hi
    · rw [f _ _ (by omega)]; exact h5 i hi
    · show up (up M 867 11 0) 872 s v 872 j = (if j = s then v else gk σ j)
      by_cases z : j = s
      · rw [if_pos z, z, up_s]
      · rw [if_neg z, up_i z, up_a (by decide)]; exact h6 j hj
    · exact mScan_fr (h7 k hk) f fun j => by omega
    · rw [up_a (by decide), up_s]
  · rw [if_pos (decide_eq_false q), mo_p, mo_I, up_s, t_pos]
/-! removeScan -/
def ggD (σ : Sg) (k : Int) : Sg := (gc σ - 1, (fun j => if j < k then gs σ j else gs σ (j + 1)), (fun j => if j < k then gw σ j else gw σ (j + 1)), σ.2.2.2)
theorem ggD_ok {k : Int} (h : okS σ) (hk : 0 ≤ k ∧ k < gc σ) : okS (ggD σ k) := by
  refine ⟨?_, fun j hj => ?_, h.2.2⟩
  · show 0 ≤ gc σ - 1 ∧ gc σ - 1 ≤ 24
    have := h.1; omega
  · have hj' : 0 ≤ j ∧ j < gc σ - 1 := hj
    show (3 ≤ (if j < k then gs σ j else gs σ (j + 1)) ∧ (if j < k then gs σ j else gs σ (j + 1)) ≤ 129 ∧ (if j < k then gs σ j else gs σ (j + 1)) % 2 = 1) ∧ wOK (if j < k then gs σ j else gs σ (j + 1)) (if j < k then gw σ j else gw σ (j + 1))
    by_cases z : j < k
    · rw [if_pos z, if_pos z]; exact h.2.1 j (by omega)
    · rw [if_neg z, if_neg z]; exact h.2.1 (j + 1) (by omega)
theorem ggD_gR {k j : Int} {s : Nat} : gR (ggD σ k) s j = gR σ s (if j < k then j else j + 1) := by
  show bs_read s (if j < k then gw σ j else gw σ (j + 1)) (if j < k then gs σ j else gs σ (j + 1)) = _
  by_cases z : j < k
  · rw [if_pos z, if_pos z, if_pos z]; rfl
  · rw [if_neg z, if_neg z, if_neg z]; rfl
theorem bc_remove_0 {k c : Int} (hk : 0 ≤ k ∧ k < c) (hc : c ≤ 24) (h4 : M 16 4 = c) (hπ : PV π) : ∀ (m : Nat) (i : Int) (π1 : Int → Nat), i + 1 + m = c → k ≤ i → (∀ j, 0 ≤ j ∧ j < 24 → π1 j = if j < k then π j else if j < i then π (j + 1) else π j) →
    ∃ (π2 : Int → Nat), x_E_removeScan_0 16 (π k) i (bM sl π1 M G e) = (bz_cv (d_E_forget 16 (π k) (bM sl π2 (up M 16 4 (c - 1)) G e)) fun μ11 => bz_fI μ11 16 9 4 fun v12 => rI v12 μ11) ∧ ∀ j, 0 ≤ j ∧ j < 24 → π2 j = if j < k then π j else if j < c - 1 then π (j + 1) else if j = c - 1 then π k else π j := by
  intro m
  induction m with
  | zero =>
    intro i π1 hi hki h
    rw [x_E_removeScan_0_eq, en_I, h4, wr_id (by omega), if_neg (by omega), en_I, h4, wr_id (by omega), en_p, en_R3, en_I, up_s, bm_wSc (by omega) (PV_a hπ (by omega)).1]
    refine ⟨_, rfl, fun j hj => ?_⟩
    by_cases z1 : j = c - 1
    · rw [if_pos z1, if_neg (by omega), if_neg (by omega), if_pos z1]
    · rw [if_neg z1, h j hj]
      by_cases z2 : j < k
      · rw [if_pos z2, if_pos z2]
      · rw [if_neg z2, if_neg z2]
        by_cases z3 : j < i
        · rw [if_pos z3, if_pos (by omega)]
        · rw [if_neg z3, if_neg (by omega), if_neg z1]
  | succ m ih =>
    intro i π1 hi hki h
    have h1 : π1 (i + 1) = π (i + 1) := by rw [h (i + 1) (by omega), if_neg (by omega), if_neg (by omega)]
    have hin := PV_in hπ (show 0 ≤ i + 1 ∧ i + 1 < 24 by omega)
    rw [x_E_removeScan_0_eq, en_I, h4, wr_id (by omega), if_pos (by omega), en_R3, en_R3, bm_rSc (by omega) (by omega), h1, bm_wSc (by omega) (PV_a hπ (by omega)).1]
    refine ih (i + 1) _ (by omega) (by omega) fun j hj => ?_
    by_cases z1 : j = i
    · rw [if_pos z1, if_neg (by omega), if_pos (by omega), z1]
    · rw [if_neg z1, h j hj]
      by_cases z2 : j < k
      · rw [if_pos z2, if_pos z2]
      · rw [if_neg z2, if_neg z2]
        by_cases z3 : j < i
        · rw [if_pos z3, if_pos (by omega)]
        · rw [if_neg z3, if_neg (by omega)]
theorem qo_removeScan {k : Int} (h : CR σ π M) :
    ((0 ≤ k ∧ k < gc σ) → ∃ π' M', d_E_removeScan 16 k (bM sl π M G e) = rI (gc σ - 1) (bM sl π' M' G e) ∧ CR (ggD σ k) π' M' ∧ ∀ b j, 867 ≤ b → M' b j = M b j) ∧
    (¬ (0 ≤ k ∧ k < gc σ) → d_E_removeScan 16 k (bM sl π M G e) = rX 2 (bM sl π M G (e + 1))) := by
  rw [d_E_removeScan_9 _ _ _ en_d, x_E_removeScan_eq, qo_scan h]
  refine ⟨fun q => ?_, fun q => ?_⟩
  · have hk := CR_k24 h q
    have hπ := CR_pv h
    rw [if_pos q]
    simp only [cv_r]
    rw [en_R3, qo_rSc hπ hk]
    obtain ⟨h1, h2, h3, h4, h5, h6, h7, h8, h9, h10⟩ := h
    obtain ⟨π2, g2, hπ2⟩ := bc_remove_0 (sl := sl) (e := e) (G := G) (M := M) (k := k) (c := gc σ) q h1.1.2 h3.1 hπ (gc σ - k - 1).toNat k π (by omega) (by omega) (fun j hj => by
      by_cases z2 : j < k
      · rw [if_pos z2]
      · rw [if_neg z2, if_neg z2])
    rw [g2]
    have hin := PV_in hπ hk
    obtain ⟨M', g, f, b1, b2⟩ := bc_forget (sl := sl) (e := e) (π := π2) (M := up M 16 4 (gc σ - 1)) (G := G) (PV_a hπ hk) hin.1
    have fa : fr (fun b j => S_fg (π k) b j ∨ (b = 16 ∧ j = 4)) M M' := fr_trans (fr_up (Or.inr ⟨rfl, rfl⟩) fr_refl) (fr_mono (fun b j z => Or.inl z) f)
    rw [g]
    simp only [cv_r]
    rw [en_I, f _ _ (by unfold S_fg; omega), up_s]
    have hP : PV π2 := by
      have fm : ∀ j, 0 ≤ j ∧ j < 24 → ∃ i, (0 ≤ i ∧ i < 24) ∧ π2 j = π i ∧ i = (if j < k then j else if j < gc σ - 1 then j + 1 else if j = gc σ - 1 then k else j) := by
        intro j hj
        refine ⟨_, ?_, ?_, rfl⟩
        · split
          · exact hj
          · split
            · have := h1.1; omega
            · split
              · exact hk
              · exact hj
        · rw [hπ2 j hj]
          split
          · rfl
          · split
            · rfl
            · split <;> rfl
      refine ⟨fun j hj => ?_, fun i j hi hj hij => ?_⟩
      · obtain ⟨i, hi, e1, -⟩ := fm j hj
        rw [e1]; exact hπ.1 i hi
      · obtain ⟨a, ha, e1, ea⟩ := fm i hi
        obtain ⟨b, hb, e2, eb⟩ := fm j hj
        rw [e1, e2] at hij
        have := hπ.2 a b ha hb hij
        subst this
        rw [ea] at eb
        split at eb <;> split at eb <;> (try split at eb) <;> (try split at eb) <;> (try split at eb) <;> (try split at eb) <;> omega
    refine ⟨π2, M', rfl, ⟨ggD_ok h1 q, mCon_fr h2 fa fun b j z => by unfold S_fg at z; omega, ⟨?_, ?_⟩, fun i hi => ?_, ?_, fun s hs => ?_, hP, fun j hj => ?_, fun j s hj hs hne => ?_, fun s hs hne => absurd (b2 s hs) hne⟩, fun b j hb => fa _ _ (by unfold S_fg; omega)⟩
    · rw [f _ _ (by unfold S_fg; omega), up_s]; rfl
    · rw [fa _ _ (by unfold S_fg; omega)]; exact h3.2
    · rw [fa _ _ (by unfold S_fg; omega)]; exact h4 i hi
    · exact rRow_fr h5 fa (by unfold S_fg; omega) (fun j => by unfold S_fg; omega)
    · rw [fa _ _ (by unfold S_fg; omega)]; exact h6 s hs
    · have hj' : 0 ≤ j ∧ j < gc σ - 1 := hj
      show rRow M' (π2 j + 1) (if j < k then gs σ j else gs σ (j + 1)) (if j < k then gw σ j else gw σ (j + 1))
      rw [hπ2 j (by have := h1.1; omega)]
      by_cases z : j < k
      · rw [if_pos z, if_pos z, if_pos z]
        have := PV_ne hπ (show 0 ≤ j ∧ j < 24 by have := h1.1; omega) hk (by omega)
        have := PV_in hπ (show 0 ≤ j ∧ j < 24 by have := h1.1; omega)
        exact rRow_fr (h8 j (by omega)) fa (by unfold S_fg; omega) (fun j => by unfold S_fg; omega)
      · rw [if_neg z, if_neg z, if_neg z, if_pos hj'.2]
        have := PV_ne hπ (show 0 ≤ j + 1 ∧ j + 1 < 24 by have := h1.1; omega) hk (by omega)
        have := PV_in hπ (show 0 ≤ j + 1 ∧ j + 1 < 24 by have := h1.1; omega)
        exact rRow_fr (h8 (j + 1) (by omega)) fa (by unfold S_fg; omega) (fun j => by unfold S_fg; omega)
    · have hj' : 0 ≤ j ∧ j < gc σ - 1 := hj
      rw [ggD_gR]
      rw [hπ2 j (by have := h1.1; omega)] at hne ⊢
      by_cases z : j < k
      · rw [if_pos z] at hne ⊢
        have := PV_ne hπ (show 0 ≤ j ∧ j < 24 by have := h1.1; omega) hk (by omega)
        have := PV_in hπ (show 0 ≤ j ∧ j < 24 by have := h1.1; omega)
        rw [fa _ _ (by unfold S_fg; omega)] at hne
        rw [if_pos z]
        exact rRdg_fr (h9 j s (by omega) hs hne) fa (fun b j hb => by unfold S_fg; omega)
      · rw [if_neg z, if_pos hj'.2] at hne ⊢
        have := PV_ne hπ (show 0 ≤ j + 1 ∧ j + 1 < 24 by have := h1.1; omega) hk (by omega)
        have := PV_in hπ (show 0 ≤ j + 1 ∧ j + 1 < 24 by have := h1.1; omega)
        rw [fa _ _ (by unfold S_fg; omega)] at hne
        rw [if_neg z]
        exact rRdg_fr (h9 (j + 1) s (by omega) hs hne) fa (fun b j hb => by unfold S_fg; omega)
  · rw [if_neg q]; rfl
theorem bw_remove_1 {k c : Int} (hk : 0 ≤ k ∧ k ≤ c) (hc : c < 24) : ∀ (m : Nat) (x : Int) (A : Nat → Int → Int), x + m = 129 * c → 129 * k ≤ x → A 867 8 = c →
    ∃ A', x_M_removeScan_1 867 x (bM sl π A G e) = rI c (bM sl π A' G e) ∧ (∀ b j, b ≠ 868 → A' b j = A b j) ∧ (∀ j, j < x → A' 868 j = A 868 j) ∧ ∀ j, x ≤ j ∧ j < 129 * c → A' 868 j = A 868 (j + 129) := by
  intro m
  induction m with
  | zero =>
    intro x A hx hkx h8
    rw [x_M_removeScan_1_eq, mo_I, h8, wr_id (by omega), if_neg (by omega), mo_I, h8]
    exact ⟨A, rfl, fun b j hb => rfl, fun j hj => rfl, fun j hj => by omega⟩
  | succ m ih =>
    intro x A hx hkx h8
    rw [x_M_removeScan_1_eq, mo_I, h8, wr_id (by omega), if_pos (by omega), mo_R0, mo_R0, wr_id (by omega), mo_r868 (by omega), mo_w868 (by omega), wr_id (by omega)]
    obtain ⟨A', g, u1, u2, u3⟩ := ih (x + 1) (up A 868 x (A 868 (x + 129))) (by omega) (by omega) (by rw [up_a (by decide)]; exact h8)
    refine ⟨A', g, fun b j hb => (u1 b j hb).trans (up_a hb), fun j hj => (u2 j (by omega)).trans (up_i (by omega)), fun j hj => ?_⟩
    by_cases z : j = x
    · rw [z, u2 x (by omega), up_s]
    · rw [u3 j (by omega), up_i (by omega)]
theorem bw_remove_0 {k c : Int} (hk : 0 ≤ k ∧ k ≤ c) (hc : c < 24) : ∀ (m : Nat) (x : Int) (A : Nat → Int → Int), x + m = c → k ≤ x → A 867 8 = c →
    ∃ A', x_M_removeScan_0 867 k x (bM sl π A G e) = rI c (bM sl π A' G e) ∧ (∀ b j, b ≠ 868 → b ≠ 869 → A' b j = A b j) ∧ (∀ j, j < 129 * k → A' 868 j = A 868 j) ∧ (∀ j, 129 * k ≤ j ∧ j < 129 * c → A' 868 j = A 868 (j + 129)) ∧ (∀ j, j < x → A' 869 j = A 869 j) ∧ ∀ j, x ≤ j ∧ j < c → A' 869 j = A 869 (j + 1) := by
  intro m
  induction m with
  | zero =>
    intro x A hx hkx h8
    rw [x_M_removeScan_0_eq, mo_I, h8, if_neg (by omega), wr_id (by omega)]
    obtain ⟨A', g, u1, u2, u3⟩ := bw_remove_1 (sl := sl) (e := e) (π := π) (G := G) hk hc (129 * c - 129 * k).toNat (129 * k) A (by omega) (by omega) h8
    exact ⟨A', g, fun b j hb _ => u1 b j hb, u2, u3, fun j hj => u1 _ _ (by decide), fun j hj => by omega⟩
  | succ m ih =>
    intro x A hx hkx h8
    rw [x_M_removeScan_0_eq, mo_I, h8, if_pos (by omega), mo_R1, mo_R1, wr_id (by omega), mo_r869 (by omega), mo_w869 (by omega)]
    obtain ⟨A', g, u1, u2, u3, u4, u5⟩ := ih (x + 1) (up A 869 x (A 869 (x + 1))) (by omega) (by omega) (by rw [up_a (by decide)]; exact h8)
    refine ⟨A', g, fun b j hb hb2 => (u1 b j hb hb2).trans (up_a hb2), fun j hj => (u2 j hj).trans (up_a (by decide)), fun j hj => (u3 j hj).trans (up_a (by decide)), fun j hj => (u4 j (by omega)).trans (up_i (by omega)), fun j hj => ?_⟩
    by_cases z : j = x
    · rw [z, u4 x (by omega), up_s]
    · rw [u5 j (by omega), up_i (by omega)]
theorem qm_removeScan {k : Int} (h : MR σ M) :
    ((0 ≤ k ∧ k < gc σ) → ∃ M', d_M_removeScan 867 k (bM sl π M G e) = rI (gc σ - 1) (bM sl π M' G e) ∧ MR (ggD σ k) M' ∧ fr S_hi M M' ∧ M' 867 11 = 0) ∧
    (¬ (0 ≤ k ∧ k < gc σ) → d_M_removeScan 867 k (bM sl π M G e) = rI 0 (bM sl π (up M 867 11 1) G e)) := by
  have hc := h.1.1
  rw [d_M_removeScan_10 _ _ _ mo_d, x_M_removeScan_eq, bw_isScan h]
  simp only [ci_r, bi_eq0]
  refine ⟨fun q => ?_, fun q => ?_⟩
  · rw [if_neg (by rw [decide_eq_true q]; decide), mo_p, mo_I, up_s, t_zero, mo_I, up_i (by decide), h.2.2.1.1, wr_id (by omega), mo_p]
    obtain ⟨M', g, u1, u2, u3, u4, u5⟩ := bw_remove_0 (sl := sl) (e := e) (π := π) (G := G) (k := k) (c := gc σ - 1) (by omega) (by omega) (gc σ - 1 - k).toNat k (up (up M 867 11 0) 867 8 (gc σ - 1)) (by omega) (by omega) up_s
    have fa : fr (fun b j => (b = 867 ∧ (j = 11 ∨ j = 8)) ∨ b = 868 ∨ b = 869) M M' := fun b j z => by
      rw [u1 b j (by omega) (by omega), up_ite, if_neg (by omega), up_ite, if_neg (by omega)]
    obtain ⟨h1, h2, ⟨h3, h3', h3''⟩, h4, h5, h6, h7⟩ := h
    refine ⟨M', g, ⟨ggD_ok h1 q, mMod_fr h2 fa fun b j z => by omega, ⟨?_, ?_, ?_⟩, fun i hi => ?_, fun i hi => ?_, fun s hs => ?_, fun j hj => ?_⟩, fr_mono (fun b j z => by unfold S_hi; omega) fa, ?_⟩
    · rw [u1 _ _ (by decide) (by decide), up_s]; rfl
    · rw [fa _ _ (by omega)]; exact h3'
    · rw [fa _ _ (by omega)]; exact h3''
    · rw [fa _ _ (by omega)]; exact h4 i hi
    · rw [fa _ _ (by omega)]; exact h5 i hi
    · rw [fa _ _ (by omega)]; exact h6 s hs
    · have hj' : 0 ≤ j ∧ j < gc σ - 1 := hj
      show mScan M' j (if j < k then gs σ j else gs σ (j + 1)) (if j < k then gw σ j else gw σ (j + 1))
      by_cases z : j < k
      · rw [if_pos z, if_pos z]
        have h8 := h7 j (by omega)
        have h9 := h8.1
        refine ⟨h8.1, ?_, fun i hi => ?_⟩
        · rw [u4 j z, up_a (by decide), up_a (by decide)]; exact h8.2.1
        · rw [u2 _ (by omega), up_a (by decide), up_a (by decide)]; exact h8.2.2 i hi
      · rw [if_neg z, if_neg z]
        have h8 := h7 (j + 1) (by omega)
        have h9 := h8.1
        refine ⟨h8.1, ?_, fun i hi => ?_⟩
        · rw [u5 j (by omega), up_a (by decide), up_a (by decide)]; exact h8.2.1
        · rw [u3 _ (by omega), up_a (by decide), up_a (by decide), show 129 * j + i + 129 = 129 * (j + 1) + i by omega]; exact h8.2.2 i hi
    · rw [u1 _ _ (by decide) (by decide), up_i (by decide), up_s]
  · rw [if_pos (decide_eq_false q), mo_p, mo_I, up_s, t_pos]
/-! a new scan -/
def ggN (σ : Sg) (n : Int) (w : Int → Int) (tl pl : Int) : Sg := (gc σ + 1, (fun j => if j = gc σ then n else gs σ j), (fun j => if j = gc σ then w else gw σ j), tl, gtx σ, pl, gpw σ, gk σ)
theorem ggN_ok {n tl pl : Int} {w : Int → Int} (h : okS σ) (hc : gc σ < 24) (hn : 3 ≤ n ∧ n ≤ 129 ∧ n % 2 = 1) (hw : wOK n w) (ht : 0 ≤ tl ∧ tl ≤ gtl σ) (hp : 0 ≤ pl ∧ pl ≤ gpl σ) : okS (ggN σ n w tl pl) := by
  obtain ⟨h1, h2, h3, h4, h5, h6, h7⟩ := h
  refine ⟨?_, fun j hj => ?_, ?_, fun i hi => h4 i ?_, ?_, fun i hi => h6 i ?_, h7⟩
  · show 0 ≤ gc σ + 1 ∧ gc σ + 1 ≤ 24; omega
  · have hj' : 0 ≤ j ∧ j < gc σ + 1 := hj
    show (3 ≤ (if j = gc σ then n else gs σ j) ∧ (if j = gc σ then n else gs σ j) ≤ 129 ∧ (if j = gc σ then n else gs σ j) % 2 = 1) ∧ wOK (if j = gc σ then n else gs σ j) (if j = gc σ then w else gw σ j)
    by_cases z : j = gc σ
    · rw [if_pos z, if_pos z]; exact ⟨hn, hw⟩
    · rw [if_neg z, if_neg z]; exact h2 j (by omega)
  · show 0 ≤ tl ∧ tl ≤ 60; omega
  · have hi' : 0 ≤ i ∧ i < tl := hi; omega
  · show 0 ≤ pl ∧ pl ≤ 129; omega
  · have hi' : 0 ≤ i ∧ i < pl := hi; omega
theorem CX_new {M1 : Nat → Int → Int} {n tl pl : Int} {w : Int → Int} (h : CR σ π M) (hc : gc σ < 24) (hn : 3 ≤ n ∧ n ≤ 129 ∧ n % 2 = 1) (hw : wOK n w) (ht : 0 ≤ tl ∧ tl ≤ gtl σ) (hp : 0 ≤ pl ∧ pl ≤ gpl σ)
    (f : fr (fun b j => S_z π b j ∨ (π (gc σ) + 1 ≤ b ∧ b ≤ π (gc σ) + 2) ∨ (b = 16 ∧ (j = 4 ∨ j = 1)) ∨ (b = 18 ∧ (j = 1 ∨ j = 2))) M M1) (h4 : M1 16 4 = gc σ + 1) (h1' : M1 16 1 = tl) (h18 : M1 18 1 = pl) (hr : rRow M1 (π (gc σ) + 1) n w) : CX (ggN σ n w tl pl) π M1 (gc σ) := by
  obtain ⟨h1, h2, h3, h4', h5, h6, h7, h8, h9, h10⟩ := h
  have hg24 : 0 ≤ gc σ ∧ gc σ < 24 := by have := h1.1; omega
  have hin := PV_in h7 hg24
  have lo : ∀ b j, (b < 42 ∧ b ≠ 28 ∧ b ≠ 33 ∧ b ≠ 38 ∧ b ≠ 16 ∧ b ≠ 18) → M1 b j = M b j := fun b j hb => f b j (by
    rintro (z | z | z | z)
    · exact S_z_lo h7 (by omega) z
    · omega
    · omega
    · omega)
  have blk : ∀ (k : Int), 0 ≤ k ∧ k < gc σ → ∀ b j, (π k ≤ b ∧ b < π k + 34) → (b = π k + 1 → j ≠ 2) → ¬ (S_z π b j ∨ (π (gc σ) + 1 ≤ b ∧ b ≤ π (gc σ) + 2) ∨ (b = 16 ∧ (j = 4 ∨ j = 1)) ∨ (b = 18 ∧ (j = 1 ∨ j = 2))) := by
    intro k hk b j hb hne z
    have hk24 : 0 ≤ k ∧ k < 24 := by omega
    have := PV_in h7 hk24
    rcases z with z | z | z | z
    · exact S_z_blk h7 hk24 hb hne z
    · have := PV_ne h7 hk24 hg24 (by omega)
      omega
    · omega
    · omega
  refine ⟨ggN_ok h1 hc hn hw ht hp, ?_, ⟨h4, h1'⟩, fun i hi => ?_, ?_, fun s hs => ?_, h7, fun k hk => ?_, fun k s hk hkk hs hne => ?_⟩
  · exact mCon_fr h2 (S := fun b j => 42 ≤ b ∨ b = 28 ∨ b = 33 ∨ b = 38 ∨ b = 16 ∨ b = 18) (fun b j z => lo b j (by omega)) fun b j z => by omega
  · have hi' : 0 ≤ i ∧ i < tl := hi
    rw [lo _ _ (by omega)]; exact h4' i (by omega)
  · exact ⟨by have := h5.1; show 0 ≤ pl ∧ pl ≤ 129; omega, h18, fun i hi => by
      have hi' : 0 ≤ i ∧ i < pl := hi
      rw [lo _ _ (by omega)]; exact h5.2.2 i (by omega)⟩
  · rw [lo _ _ (by omega)]; exact h6 s hs
  · have hk' : 0 ≤ k ∧ k < gc σ + 1 := hk
    show rRow M1 (π k + 1) (if k = gc σ then n else gs σ k) (if k = gc σ then w else gw σ k)
    by_cases z : k = gc σ
    · rw [if_pos z, if_pos z, z]; exact hr
    · rw [if_neg z, if_neg z]
      have hk2 : 0 ≤ k ∧ k < gc σ := by omega
      exact rRow_fr (h8 k hk2) f (blk k hk2 _ _ (by omega) (fun _ => by decide)) (fun j => blk k hk2 _ _ (by omega) (fun y => by omega))
  · have hk' : 0 ≤ k ∧ k < gc σ + 1 := hk
    have hk2 : 0 ≤ k ∧ k < gc σ := by omega
    have nz : ∀ b j, π k + (4 + 10 * s) ≤ b ∧ b ≤ π k + (4 + 10 * s) + 9 → ¬ (S_z π b j ∨ (π (gc σ) + 1 ≤ b ∧ b ≤ π (gc σ) + 2) ∨ (b = 16 ∧ (j = 4 ∨ j = 1)) ∨ (b = 18 ∧ (j = 1 ∨ j = 2))) := fun b j hb => blk k hk2 b j (by omega) (fun z => by omega)
    rw [f _ _ (nz _ _ (by omega))] at hne
    have e1 : gR (ggN σ n w tl pl) s k = gR σ s k := by
      show bs_read s (if k = gc σ then w else gw σ k) (if k = gc σ then n else gs σ k) = _
      rw [if_neg hkk, if_neg hkk]; rfl
    rw [e1]
    exact rRdg_fr (h9 k s hk2 hs hne) f nz
/-- keepScan behind the making of a scan's row -/
theorem qo_keep {M1 : Nat → Int → Int} {n tl pl : Int} {w : Int → Int} (h : CR σ π M) (hc : gc σ < 24) (hn : 3 ≤ n ∧ n ≤ 129 ∧ n % 2 = 1) (hw : wOK n w) (ht : 0 ≤ tl ∧ tl ≤ gtl σ) (hp : 0 ≤ pl ∧ pl ≤ gpl σ)
    (f : fr (fun b j => (S_z π b j ∧ b < 867) ∨ (π (gc σ) + 1 ≤ b ∧ b ≤ π (gc σ) + 2) ∨ (b = 16 ∧ (j = 4 ∨ j = 1)) ∨ (b = 18 ∧ (j = 1 ∨ j = 2))) M M1) (h4 : M1 16 4 = gc σ) (h1' : M1 16 1 = tl) (h18 : M1 18 1 = pl) (hr : rRow M1 (π (gc σ) + 1) n w) :
    ∃ M', d_E_keepScan 16 (π (gc σ)) (bM sl π M1 G e) = rI (gc σ) (bM sl π M' G e) ∧ CR (ggN σ n w tl pl) π M' ∧ ∀ b j, 867 ≤ b → M' b j = M b j := by
  have hg24 : 0 ≤ gc σ ∧ gc σ < 24 := by have := h.1.1; omega
  have hin := PV_in (CR_pv h) hg24
  have f1 : fr (fun b j => b = 16 ∧ j = 4) M1 (up M1 16 4 (gc σ + 1)) := fr_up ⟨rfl, rfl⟩ fr_refl
  obtain ⟨M', g, c, f2⟩ := CX_forget (sl := sl) (e := e) (G := G) hg24 (CX_new (M1 := up M1 16 4 (gc σ + 1)) h hc hn hw ht hp (fr_trans (fr_mono (fun b j z => by rcases z with z | z | z | z; exact Or.inl z.1; exact Or.inr (Or.inl z); exact Or.inr (Or.inr (Or.inl z)); exact Or.inr (Or.inr (Or.inr z))) f) (fr_mono (fun b j z => Or.inr (Or.inr (Or.inl (by omega)))) f1)) up_s (by rw [up_i (by decide)]; exact h1') (by rw [up_a (by decide)]; exact h18) (rRow_fr hr f1 (by omega) (fun j => by omega)))
  rw [d_E_keepScan_9 _ _ _ en_d, x_E_keepScan_eq, en_I, h4, wr_id (by omega), en_p, g]
  simp only [cv_r]
  rw [en_I, c.2.2.1.1, show gc (ggN σ n w tl pl) = gc σ + 1 from rfl, wr_id (by omega), show gc σ + 1 - 1 = gc σ by omega]
  refine ⟨M', rfl, c, fun b j hb => ?_⟩
  rw [f2 b j (by unfold S_fg; omega), up_a (by omega), f b j (fun z => by omega)]
def okE (σ : Sg) : Prop := 3 ≤ gpl σ ∧ gpl σ % 2 = 1 ∧ gc σ < 24
def ggE (σ : Sg) : Sg := ggN σ (gpl σ) (gpw σ) (gtl σ) 0
theorem qo_endScan (h : CR σ π M) :
    (okE σ → ∃ M', d_E_endScan 16 (bM sl π M G e) = rI (gc σ) (bM sl π M' G e) ∧ CR (ggE σ) π M' ∧ ∀ b j, 867 ≤ b → M' b j = M b j) ∧
    (¬ okE σ → d_E_endScan 16 (bM sl π M G e) = rX 1 (bM sl π M G (e + 1))) := by
  have h5 := h.2.2.2.2.1
  have hn := h5.1
  have hc := h.1.1
  have hπ := CR_pv h
  rw [d_E_endScan_9 _ _ en_d, x_E_endScan_eq, en_R2, row_I a_18, h5.2.1, sX_bM, en_R2, row_I a_18, h5.2.1, tm2 hn.1, d_E_requireRoomForScan_9 _ _ en_d, x_E_requireRoomForScan_eq, en_I, h.2.2.1.1, sX_bM]
  refine ⟨fun q => ?_, fun q => ?_⟩
  · obtain ⟨q1, q2, q3⟩ := q
    have hg24 : 0 ≤ gc σ ∧ gc σ < 24 := by omega
    have hin := PV_in hπ hg24
    rw [if_neg (by omega), if_neg (by omega), if_pos q3]
    simp only [cv_r]
    rw [en_R3, en_I, h.2.2.1.1, qo_rSc hπ hg24, scn_w (PV_a hπ hg24), en_R2]
    obtain ⟨M1, g1, f1, r1⟩ := bc_copy (sl := sl) (e := e) (π := π) (G := G) (p := π (gc σ) + 1) (r := 18) a_18 (PV_row hπ hg24) (by omega) h5
    rw [g1]
    simp only [cv_r]
    rw [en_R2, row_p a_18]
    have f2 : fr (fun b j => b = 18 ∧ j = 1) M1 (up M1 18 1 0) := fr_up ⟨rfl, rfl⟩ fr_refl
    obtain ⟨M', g, c, f⟩ := qo_keep (sl := sl) (e := e) (G := G) (M1 := up M1 18 1 0) (n := gpl σ) (w := gpw σ) (tl := gtl σ) (pl := 0) h q3 ⟨q1, hn.2, q2⟩ h.1.2.2.2.2.2.1 ⟨h.1.2.2.1.1, Int.le_refl _⟩ (by omega)
      (fr_trans (fr_mono (fun b j z => Or.inr (Or.inl (by omega))) f1) (fr_mono (fun b j z => Or.inr (Or.inr (Or.inr (by omega)))) f2)) (by rw [up_a (by decide), f1 _ _ (by omega)]; exact h.2.2.1.1) (by rw [up_a (by decide), f1 _ _ (by omega)]; exact h.2.2.1.2) up_s (rRow_fr r1 f2 (by omega) (fun j => by omega))
    rw [g]
    exact ⟨M', rfl, c, f⟩
  · by_cases q1 : gpl σ < 3
    · rw [if_pos q1]
    · rw [if_neg q1]
      by_cases q2 : gpl σ % 2 = 0
      · rw [if_pos q2]
      · rw [if_neg q2, if_neg (fun z => q ⟨by omega, by omega, z⟩)]; rfl
theorem MR_new {M1 : Nat → Int → Int} {n tl pl : Int} {w : Int → Int} (h : MR σ M) (hc : gc σ < 24) (hn : 3 ≤ n ∧ n ≤ 129 ∧ n % 2 = 1) (hw : wOK n w) (ht : 0 ≤ tl ∧ tl ≤ gtl σ) (hp : 0 ≤ pl ∧ pl ≤ gpl σ)
    (f : fr (fun b j => (b = 867 ∧ (j = 8 ∨ j = 9 ∨ j = 10 ∨ j = 11 ∨ j = 14)) ∨ b = 876 ∨ b = 877 ∨ (b = 869 ∧ j = gc σ) ∨ (b = 868 ∧ 129 * gc σ ≤ j ∧ j < 129 * gc σ + 129)) M M1) (h8 : M1 867 8 = gc σ + 1) (h9 : M1 867 9 = pl) (h10 : M1 867 10 = tl) (hr : mScan M1 (gc σ) n w) : MR (ggN σ n w tl pl) M1 := by
  obtain ⟨h1, h2, -, h4, h5, h6, h7⟩ := h
  refine ⟨ggN_ok h1 hc hn hw ht hp, mMod_fr h2 f fun b j z => by omega, ⟨h8, h9, h10⟩, fun i hi => ?_, fun i hi => ?_, fun s hs => ?_, fun j hj => ?_⟩
  · have hi' : 0 ≤ i ∧ i < tl := hi
    rw [f _ _ (by omega)]; exact h4 i (by omega)
  · have hi' : 0 ≤ i ∧ i < pl := hi
    rw [f _ _ (by omega)]; exact h5 i (by omega)
  · rw [f _ _ (by omega)]; exact h6 s hs
  · have hj' : 0 ≤ j ∧ j < gc σ + 1 := hj
    show mScan M1 j (if j = gc σ then n else gs σ j) (if j = gc σ then w else gw σ j)
    by_cases z : j = gc σ
    · rw [if_pos z, if_pos z, z]; exact hr
    · rw [if_neg z, if_neg z]
      have h8 := h7 j (by omega)
      have h9 := h8.1
      exact ⟨h8.1, (f _ _ (by omega)).trans h8.2.1, fun i hi => (f _ _ (by omega)).trans (h8.2.2 i hi)⟩
theorem bw_endScan_0 (h : MR σ M) (hc : gc σ < 24) (hE : okE σ) : ∀ (m : Nat) (i : Int) (M1 : Nat → Int → Int), i + m = gpl σ → 0 ≤ i → fr (fun b j => (b = 867 ∧ j = 11) ∨ (b = 868 ∧ 129 * gc σ ≤ j ∧ j < 129 * gc σ + 129)) M M1 → M1 867 11 = 0 → (∀ j, 0 ≤ j ∧ j < i → M1 868 (129 * gc σ + j) = gpw σ j) →
    ∃ M', x_M_endScan_0 867 i (bM sl π M1 G e) = rI (gc σ) (bM sl π M' G e) ∧ MR (ggE σ) M' ∧ fr S_hi M M' ∧ M' 867 11 = 0 := by
  have hcc := h.1.1
  have hn := h.1.2.2.2.2.1
  intro m
  induction m with
  | zero =>
    intro i M1 hi h0 f ht h1
    rw [x_M_endScan_0_eq, mo_I, f _ _ (by omega), h.2.2.1.2.1, if_neg (by omega), mo_R1, mo_I, f _ _ (by omega), h.2.2.1.1, mo_I, f _ _ (by omega), h.2.2.1.2.1, mo_w869 (by omega), mo_p, mo_I, up_i (by decide), up_a (by decide), f _ _ (by omega), h.2.2.1.1, wr_id (by omega), mo_p, mo_I, up_s, wr_id (by omega), show gc σ + 1 - 1 = gc σ by omega]
    have fa : fr (fun b j => (b = 867 ∧ (j = 8 ∨ j = 9 ∨ j = 10 ∨ j = 11 ∨ j = 14)) ∨ b = 876 ∨ b = 877 ∨ (b = 869 ∧ j = gc σ) ∨ (b = 868 ∧ 129 * gc σ ≤ j ∧ j < 129 * gc σ + 129)) M (up (up (up M1 869 (gc σ) (gpl σ)) 867 9 0) 867 8 (gc σ + 1)) := fr_trans (fr_mono (fun b j z => by omega) f) (fr_up (by omega) (fr_up (by omega) (fr_up (by omega) fr_refl)))
    refine ⟨_, rfl, MR_new h hc ⟨hE.1, hn.2, hE.2.1⟩ h.1.2.2.2.2.2.1 ⟨h.1.2.2.1.1, Int.le_refl _⟩ (by omega) fa up_s (by rw [up_i (by decide), up_s]) ?_ ⟨hn, ?_, fun j hj => ?_⟩, fr_mono (fun b j z => by unfold S_hi; omega) fa, ?_⟩
    · rw [up_i (by decide), up_i (by decide), up_a (by decide), f _ _ (by omega)]; exact h.2.2.1.2.2
    · rw [up_a (by decide), up_a (by decide), up_s]
    · rw [up_a (by decide), up_a (by decide), up_a (by decide)]; exact h1 j (by omega)
    · rw [up_i (by decide), up_i (by decide), up_a (by decide)]; exact ht
  | succ m ih =>
    intro i M1 hi h0 f ht h1
    have e2 : wr (wr (129 * gc σ) + i) = 129 * gc σ + i := by rw [wr_id (x := 129 * gc σ) (by omega), wr_id (by omega)]
    rw [x_M_endScan_0_eq, mo_I, f _ _ (by omega), h.2.2.1.2.1, if_pos (by omega), mo_R0, mo_I, f _ _ (by omega), h.2.2.1.1, mo_R2, mo_r870 (by omega), f _ _ (by omega), h.2.2.2.2.1 i (by omega), e2, mo_w868 (by omega), wr_id (by omega)]
    exact ih (i + 1) _ (by omega) (by omega) (fr_trans f (fr_up (by omega) fr_refl)) (by rw [up_a (by decide)]; exact ht) (fun j hj => by
      by_cases z : j = i
      · subst z; exact up_s
      · rw [up_i (by omega)]; exact h1 j (by omega))
theorem qm_endScan (h : MR σ M) :
    (okE σ → ∃ M', d_M_endScan 867 (bM sl π M G e) = rI (gc σ) (bM sl π M' G e) ∧ MR (ggE σ) M' ∧ fr S_hi M M' ∧ M' 867 11 = 0) ∧
    (¬ okE σ → d_M_endScan 867 (bM sl π M G e) = rI 0 (bM sl π (up M 867 11 1) G e)) := by
  have hc := h.1.1
  have hn := h.1.2.2.2.2.1
  rw [d_M_endScan_10 _ _ mo_d, x_M_endScan_eq, mo_I, h.2.2.1.2.1, mo_I, h.2.2.1.2.1, tm2 hn.1, mo_I, h.2.2.1.1, mo_p, mo_I, up_s, t_pos, mo_p, mo_I, up_s, t_zero]
  refine ⟨fun q => ?_, fun q => ?_⟩
  · obtain ⟨q1, q2, q3⟩ := q
    rw [if_neg (by omega), if_neg (by omega), if_neg (by omega)]
    exact bw_endScan_0 h q3 ⟨q1, q2, q3⟩ (gpl σ).toNat 0 (up M 867 11 0) (by omega) (by decide) (fr_up (Or.inl ⟨rfl, rfl⟩) fr_refl) up_s (fun j hj => by omega)
  · by_cases q1 : gpl σ < 3
    · rw [if_pos q1]
    · rw [if_neg q1]
      by_cases q2 : gpl σ % 2 = 0
      · rw [if_pos q2]
      · rw [if_neg q2, if_pos (by
          rcases Int.lt_or_le (gc σ) 24 with z | z
          · exact absurd ⟨by omega, by omega, z⟩ q
          · omega)]
end
