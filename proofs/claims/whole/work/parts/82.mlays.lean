/-! THE MODEL LAYS THE VOTES -/
section
variable {sl e : Nat} {π : Int → Nat} {M G : Nat → Int → Int} {σ : Sg} {t c : Nat} {R : Int → Rd} {k L : Int}
theorem qm_k3 {l : List Ch} {V : Vt} (hk : 0 ≤ k ∧ k < 24) (hL : 0 ≤ L ∧ L ≤ 16) (hok : okL l) (hl : mKept M k 2 l) (hW : rVt M V) (hV : bdV V 1000000) :
    ∃ M', (∀ NX : bz_M → Option bz_R, (bz_ci (d_M_manyOf 867 k 2 (bM sl π M G e)) fun v8 μ7 => if L < v8 then NX μ7 else bz_ci (d_M_manyOf 867 k 2 μ7) fun v10 μ9 => bz_cv (d_M_adds 867 k 2 (wr (L - v10)) μ9) fun μ11 => NX μ11) = NX (bM sl π M' G e)) ∧ fr (fun b _ => b = 887) M M' ∧ rVt M' (if (l.length : Int) ≤ L then bs_ad V l (L - l.length) else V) := by
  have h16 := hl.2.1
  by_cases z : (l.length : Int) ≤ L
  · obtain ⟨M', g, f, w⟩ := qm_adds (sl := sl) (e := e) (π := π) (G := G) (p0 := L - l.length) hk (by decide) hok (by omega) hl hW hV
    refine ⟨M', fun NX => ?_, f, ?_⟩
    · rw [qm_many hk (by decide) hl]
      simp only [ci_r]
      rw [if_neg (by omega), qm_many hk (by decide) hl]
      simp only [ci_r]
      rw [wr_id (by omega), g]
      rfl
    · rw [if_pos z]; exact w
  · refine ⟨M, fun NX => ?_, fr_refl, ?_⟩
    · rw [qm_many hk (by decide) hl]
      simp only [ci_r]
      rw [if_pos (by omega)]
    · rw [if_neg z]; exact hW
theorem qm_k2 {l : List Ch} {V : Vt} (hk : 0 ≤ k ∧ k < 24) (hL : 0 ≤ L ∧ L ≤ 16) (hok : okL l) (hl : mKept M k 1 l) (hW : rVt M V) (hV : bdV V 1000000) :
    ∃ M', (∀ NX : bz_M → Option bz_R, (bz_ci (d_M_manyOf 867 k 1 (bM sl π M G e)) fun v6 μ5 => if L < v6 then NX μ5 else bz_cv (d_M_adds 867 k 1 0 μ5) fun μ12 => NX μ12) = NX (bM sl π M' G e)) ∧ fr (fun b _ => b = 887) M M' ∧ rVt M' (if (l.length : Int) ≤ L then bs_ad V l 0 else V) := by
  have h16 := hl.2.1
  by_cases z : (l.length : Int) ≤ L
  · obtain ⟨M', g, f, w⟩ := qm_adds (sl := sl) (e := e) (π := π) (G := G) (p0 := 0) hk (by decide) hok (by omega) hl hW hV
    refine ⟨M', fun NX => ?_, f, ?_⟩
    · rw [qm_many hk (by decide) hl]
      simp only [ci_r]
      rw [if_neg (by omega), g]
      rfl
    · rw [if_pos z]; exact w
  · refine ⟨M, fun NX => ?_, fr_refl, ?_⟩
    · rw [qm_many hk (by decide) hl]
      simp only [ci_r]
      rw [if_pos (by omega)]
    · rw [if_neg z]; exact hW
theorem bdV_if {V : Vt} {l : List Ch} {n p : Int} {P : Prop} [Decidable P] (h : bdV V n) (hl : okL l) : bdV (if P then bs_ad V l p else V) (n + 101) := by
  split
  · exact bdV_ad h hl
  · exact bdV_mono h (by omega)
theorem qm_lv_1 (hc24 : c ≤ 24) (hx : ∀ k : Int, 0 ≤ k ∧ k < c → okX (R k)) (hL : 0 < L ∧ L ≤ 16) : ∀ (d i : Nat) (M : Nat → Int → Int), i + d = c → M 867 8 = c → mAll M R c → rVt M (bs_V R L i) →
    ∃ M', x_M_laysVotes_1 867 L i (bM sl π M G e) = rI L (bM sl π M' G e) ∧ fr (fun b _ => b = 887) M M' ∧ rVt M' (bs_V R L c) := by
  intro d
  induction d with
  | zero =>
    intro i M hi h8 hA hW
    have : i = c := by omega
    subst this
    rw [x_M_laysVotes_1_eq, mo_I, h8, if_neg (by omega)]
    exact ⟨M, rfl, fr_refl, hW⟩
  | succ d ih =>
    intro i M hi h8 hA hW
    have hi24 : 0 ≤ (i : Int) ∧ (i : Int) < 24 := by omega
    have e2 : wr ((i : Int) + 1) = ((i + 1 : Nat) : Int) := by rw [wr_id (by omega)]; omega
    have ok := hx i (by omega)
    have hV := bdV_mono (bdV_V (L := L) hx i (by omega)) (show (303 * i : Int) ≤ 900000 by omega)
    have h0 := (hA i (by omega)).1
    have go : ∀ (A : Nat → Int → Int) (V1 : Vt), fr (fun b _ => b = 887) M A → rVt A V1 → bdV V1 900101 → V1 = (if ((R i).1.1.length : Int) = L then bs_ad (bs_V R L i) (R i).1.1 0 else bs_V R L i) →
        ∃ M', (bz_ci (d_M_manyOf 867 i 1 (bM sl π A G e)) fun v6 μ5 => if L < v6 then (bz_ci (d_M_manyOf 867 i 2 μ5) fun v8 μ7 => if L < v8 then x_M_laysVotes_1 867 L ((i + 1 : Nat) : Int) μ7 else bz_ci (d_M_manyOf 867 i 2 μ7) fun v10 μ9 => bz_cv (d_M_adds 867 i 2 (wr (L - v10)) μ9) fun μ11 => x_M_laysVotes_1 867 L ((i + 1 : Nat) : Int) μ11) else bz_cv (d_M_adds 867 i 1 0 μ5) fun μ12 => (bz_ci (d_M_manyOf 867 i 2 μ12) fun v8 μ7 => if L < v8 then x_M_laysVotes_1 867 L ((i + 1 : Nat) : Int) μ7 else bz_ci (d_M_manyOf 867 i 2 μ7) fun v10 μ9 => bz_cv (d_M_adds 867 i 2 (wr (L - v10)) μ9) fun μ11 => x_M_laysVotes_1 867 L ((i + 1 : Nat) : Int) μ11)) = rI L (bM sl π M' G e) ∧ fr (fun b _ => b = 887) M M' ∧ rVt M' (bs_V R L c) := by
      intro A V1 fA wA bA eA
      have kA : mAll A R c := mAll_fr hA fA fun b j z => by omega
      obtain ⟨B, gB, fB, wB⟩ := qm_k2 (sl := sl) (e := e) (π := π) (G := G) (L := L) hi24 (by omega) ok.2.1 (kA i (by omega)).2.1 wA (bdV_mono bA (by omega))
      have kB : mAll B R c := mAll_fr kA fB fun b j z => by omega
      have bB := bdV_if (P := ((R i).1.2.1.length : Int) ≤ L) (p := 0) bA ok.2.1
      obtain ⟨C, gC, fC, wC⟩ := qm_k3 (sl := sl) (e := e) (π := π) (G := G) (L := L) hi24 (by omega) ok.2.2.1 (kB i (by omega)).2.2 wB (bdV_mono bB (by omega))
      have fAC := fr_trans fA (fr_trans fB fC)
      obtain ⟨M', g, f, w⟩ := ih (i + 1) C (by omega) ((fAC _ _ (by omega)).trans h8) (mAll_fr hA fAC fun b j z => by omega) (by rw [eA] at wC; exact wC)
      exact ⟨M', (gB _).trans ((gC _).trans g), fr_trans fAC f, w⟩
    rw [x_M_laysVotes_1_eq, mo_I, h8, if_pos (by omega), if_pos hL.1, qm_many hi24 (by decide) h0]
    simp only [ci_r]
    rw [e2]
    by_cases z : ((R i).1.1.length : Int) = L
    · obtain ⟨A, gA, fA, wA⟩ := qm_adds (sl := sl) (e := e) (π := π) (G := G) (p0 := 0) hi24 (by decide) ok.1 (by omega) h0 hW (bdV_mono hV (by omega))
      rw [if_pos z, gA]
      simp only [cv_r]
      exact go A _ fA wA (bdV_ad hV ok.1) (by rw [if_pos z])
    · rw [if_neg z]
      exact go M _ fr_refl hW (bdV_mono hV (by omega)) (by rw [if_neg z])
theorem qm_lv_0 {n : Int} : ∀ (d i : Nat) (M : Nat → Int → Int), i + d = 2048 → (∀ j, 0 ≤ j ∧ j < (i : Int) → M 887 j = 0) →
    ∃ M', x_M_laysVotes_0 867 n i (bM sl π M G e) = x_M_laysVotes_1 867 n 0 (bM sl π M' G e) ∧ fr (fun b _ => b = 887) M M' ∧ ∀ j, 0 ≤ j ∧ j < 2048 → M' 887 j = 0 := by
  intro d
  induction d with
  | zero =>
    intro i M hi hz
    rw [x_M_laysVotes_0_eq, if_neg (by omega)]
    exact ⟨M, rfl, fr_refl, fun j hj => hz j (by omega)⟩
  | succ d ih =>
    intro i M hi hz
    have e2 : wr ((i : Int) + 1) = ((i + 1 : Nat) : Int) := by rw [wr_id (by omega)]; omega
    rw [x_M_laysVotes_0_eq, if_pos (by omega), mo_R32, mo_w887 (by omega), e2]
    obtain ⟨M', g, f, h⟩ := ih (i + 1) (up M 887 i 0) (by omega) (fun j hj => by
      by_cases y : j = i
      · rw [y, up_s]
      · rw [up_i y]; exact hz j (by omega))
    exact ⟨M', g, fr_trans (fr_up rfl fr_refl) f, h⟩
theorem qm_laysVotes (h : MR σ M) (ht : t < 3) : ∃ M', d_M_laysVotes 867 t (bM sl π M G e) = rI (gL σ t) (bM sl π M' G e) ∧ MR σ M' ∧ fr S_vo M M' ∧ mAll M' (gR σ t) (gc σ).toNat ∧ (gL σ t ≠ 0 → rVt M' (gV σ t)) := by
  have hc := h.1.1
  have hL := gL_bd h.1 ht
  obtain ⟨M1, g1, m1, f1, r1⟩ := qm_lengthOf (sl := sl) (e := e) (π := π) (G := G) h ht
  obtain ⟨M2, g2, f2, z2⟩ := qm_lv_0 (sl := sl) (e := e) (π := π) (G := G) (n := gL σ t) 2048 0 M1 (by omega) (fun j hj => by omega)
  have m2 : MR σ M2 := MR_fr m1 f2 fun b j z => by omega
  have r2 : mAll M2 (gR σ t) (gc σ).toNat := mAll_fr r1 f2 fun b j z => by omega
  have f12 : fr S_vo M M2 := fr_trans f1 (fr_mono (fun b j z => Or.inr (Or.inr z)) f2)
  have h8 : M2 867 8 = ((gc σ).toNat : Int) := by rw [m2.2.2.1.1]; omega
  rw [d_M_laysVotes_10 _ _ _ mo_d, x_M_laysVotes_eq, g1]
  simp only [ci_r]
  by_cases z : gL σ t = 0
  · refine ⟨M2, g2.trans ?_, m2, f12, r2, fun w => absurd z w⟩
    rw [x_M_laysVotes_1_eq, mo_I, if_neg (show ¬ 0 < gL σ t by omega), ite_self]
  · obtain ⟨M3, g3, f3, w3⟩ := qm_lv_1 (sl := sl) (e := e) (π := π) (G := G) (L := gL σ t) (show (gc σ).toNat ≤ 24 by omega) (okX_all h.1 ht) (by omega) (gc σ).toNat 0 M2 (by omega) h8 r2 (fun p ch hp hch => by
      rw [z2 _ (by omega)]
      unfold gVc
      split
      · rfl
      · rfl)
    exact ⟨M3, g2.trans g3, MR_fr m2 f3 fun b j z => by omega, fr_trans f12 (fr_mono (fun b j z => Or.inr (Or.inr z)) f3), mAll_fr r2 f3 fun b j z => by omega, fun _ => w3⟩
end
