/-! BYTES (the first rows began from the kit's BITS.to-paste, with other names); append -/
def bq_b (x : Int32) (i : Nat) : Bool := x.toBitVec.getLsbD i
theorem bq_ext {x y : Int32} (h : ∀ i, i < 32 → bq_b x i = bq_b y i) : x = y := Int32.toBitVec_inj.mp (BitVec.eq_of_getLsbD_eq (fun i hi => h i hi))
theorem bq_and (x y : Int32) (i : Nat) : bq_b (x &&& y) i = (bq_b x i && bq_b y i) := by unfold bq_b; rw [Int32.toBitVec_and, BitVec.getLsbD_and]
theorem bq_255 : ∀ i, i < 32 → bq_b 255 i = decide (i < 8) := by decide +kernel
theorem bq_sl : ∀ n, n < 32 → ((nI n &&& 31).toBitVec.smod 32).toNat = n := by decide +kernel
theorem bq_su : ∀ n, n < 32 → (((nI n).toUInt32 &&& Int32.toUInt32 31).toBitVec % 32).toNat = n := by decide +kernel
theorem bq_ushr (n : Nat) (hn : n < 32) (x : Int32) (i : Nat) : bq_b ((x.toUInt32 >>> ((nI n).toUInt32 &&& Int32.toUInt32 31)).toInt32) i = bq_b x (n + i) := by
  show (x.toUInt32 >>> ((nI n).toUInt32 &&& Int32.toUInt32 31)).toBitVec.getLsbD i = x.toUInt32.toBitVec.getLsbD (n + i)
  rw [UInt32.toBitVec_shiftRight]
  show (x.toUInt32.toBitVec >>> (((nI n).toUInt32 &&& Int32.toUInt32 31).toBitVec % 32).toNat).getLsbD i = _
  rw [bq_su n hn, BitVec.getLsbD_ushiftRight]
theorem bq_sshr (n : Nat) (hn : n < 32) (x : Int32) {i : Nat} (hi : i < 32) : bq_b (x >>> (nI n &&& 31)) i = if n + i < 32 then bq_b x (n + i) else bq_b x 31 := by
  unfold bq_b
  rw [Int32.toBitVec_shiftRight]
  show (x.toBitVec.sshiftRight ((nI n &&& 31).toBitVec.smod 32).toNat).getLsbD i = _
  rw [bq_sl n hn, BitVec.getLsbD_sshiftRight, BitVec.msb_eq_getLsbD_last]
  simp [hi]
def by8 (x s : Int) : Int := bz_and (bz_ushr x s) 255
theorem by8_shr0 (n : Nat) (hn : n < 25) (x : Int) (hs : Int32.ofInt (n : Int) = nI n) : bz_and (bz_shr x n) 255 = by8 x n := by
  unfold by8 bz_and bz_shr bz_ushr
  rw [hs, Int32.ofInt_toInt, Int32.ofInt_toInt]
  refine congrArg Int32.toInt (bq_ext fun i hi => ?_)
  rw [bq_and, bq_and, show Int32.ofInt 255 = 255 from rfl, bq_255 i hi, bq_ushr n (by omega), bq_sshr n (by omega) _ hi]
  by_cases z : i < 8
  · rw [if_pos (by omega)]
  · rw [decide_eq_false z, Bool.and_false, Bool.and_false]
theorem by8_shr {x s : Int} (h : s = 0 ∨ s = 8 ∨ s = 16 ∨ s = 24) : bz_and (bz_shr x s) 255 = by8 x s := by
  rcases h with z | z | z | z
  · subst z; exact by8_shr0 0 (by decide) x rfl
  · subst z; exact by8_shr0 8 (by decide) x rfl
  · subst z; exact by8_shr0 16 (by decide) x rfl
  · subst z; exact by8_shr0 24 (by decide) x rfl
theorem by8_bd {x s : Int} : 0 ≤ by8 x s ∧ by8 x s ≤ 255 := by
  unfold by8 bz_and
  generalize Int32.ofInt (bz_ushr x s) = A
  have h : (A &&& Int32.ofInt 255).toBitVec.toNat ≤ 255 := by
    rw [Int32.toBitVec_and, BitVec.toNat_and]
    exact Nat.and_le_right
  have e : (A &&& Int32.ofInt 255).toInt = ((A &&& Int32.ofInt 255).toBitVec.toNat : Int) := by
    rw [← Int32.toInt_toBitVec]
    exact BitVec.toInt_eq_toNat_of_lt (by omega)
  omega
def wd (a b c d f i : Int) : Int := if i < 4 then a else if i < 8 then b else if i < 12 then c else if i < 16 then d else f
/-- the text with 20 bytes more -/
def bs_tx (σ : Sg) (a b c d f : Int) : Int → Int := fun i => if i < gtl σ then gtx σ i else by8 (wd a b c d f (i - gtl σ)) (24 - 8 * ((i - gtl σ) % 4))
theorem bs_tx_at {σ : Sg} {a b c d f n j : Int} (hn : n = gtl σ + j) (h : 0 ≤ j) : bs_tx σ a b c d f n = by8 (wd a b c d f j) (24 - 8 * (j % 4)) := by
  have e : n - gtl σ = j := by omega
  unfold bs_tx
  rw [if_neg (by omega), e]
def ggT (σ : Sg) (a b c d f : Int) : Sg := (σ.1, σ.2.1, σ.2.2.1, gtl σ + 20, bs_tx σ a b c d f, σ.2.2.2.2.2)
theorem ggT_ok {σ : Sg} {a b c d f : Int} (h : okS σ) (hn : gtl σ + 20 ≤ 60) : okS (ggT σ a b c d f) := by
  obtain ⟨h1, h2, h3, h4, h5⟩ := h
  refine ⟨h1, h2, ?_, fun i hi => ?_, h5⟩
  · show 0 ≤ gtl σ + 20 ∧ gtl σ + 20 ≤ 60
    omega
  · have hi' : 0 ≤ i ∧ i < gtl σ + 20 := hi
    show 0 ≤ bs_tx σ a b c d f i ∧ bs_tx σ a b c d f i ≤ 255
    by_cases z : i < gtl σ
    · unfold bs_tx
      rw [if_pos z]; exact h4 i ⟨hi'.1, z⟩
    · rw [bs_tx_at (j := i - gtl σ) (by omega) (by omega)]; exact by8_bd
section
variable {sl e : Nat} {π : Int → Nat} {M G : Nat → Int → Int} {σ : Sg}
def S_ab (b : Nat) (j : Int) : Prop := b = 17 ∨ (b = 16 ∧ j = 1)
theorem bc_ab_s {a s s' n : Int} {g : Int → Int} (es : s' = s - 8) (hs : 0 ≤ s ∧ s ≤ 24) (hn : 0 ≤ n ∧ n < 60) (h1 : M 16 1 = n) (hg : ∀ i, 0 ≤ i ∧ i < n → M 17 i = g i) (hv : by8 a s = g n) :
    ∃ M', x_E_appendBytes_0 16 a s (bM sl π M G e) = x_E_appendBytes_0 16 a s' (bM sl π M' G e) ∧ fr S_ab M M' ∧ M' 16 1 = n + 1 ∧ ∀ i, 0 ≤ i ∧ i < n + 1 → M' 17 i = g i := by
  refine ⟨up (up M 17 n (by8 a s)) 16 1 (n + 1), ?_, fr_up (Or.inr ⟨rfl, rfl⟩) (fr_up (Or.inl rfl) fr_refl), up_s, fun i hi => ?_⟩
  · rw [x_E_appendBytes_0_eq, if_neg (by omega), en_I, h1, if_pos hn.2, en_R0, en_I, h1, en_w17 hn, en_I, up_a (by decide), h1, en_p, wr_id (x := n + 1) (by omega), wr_id (x := s + (-8)) (by omega), es, Int.sub_eq_add_neg, show bz_and (bz_ushr a s) 255 = by8 a s from rfl]
  · rw [up_a (by decide)]
    by_cases z : i = n
    · rw [z, up_s, hv]
    · rw [up_i z]; exact hg i (by omega)
theorem bc_ab {a n : Int} {g : Int → Int} (hn : 0 ≤ n ∧ n + 4 ≤ 60) (h1 : M 16 1 = n) (hg : ∀ i, 0 ≤ i ∧ i < n → M 17 i = g i) (v0 : by8 a 24 = g n) (v1 : by8 a 16 = g (n + 1)) (v2 : by8 a 8 = g (n + 2)) (v3 : by8 a 0 = g (n + 3)) :
    ∃ M', d_E_appendBytes 16 a (bM sl π M G e) = rI 0 (bM sl π M' G e) ∧ fr S_ab M M' ∧ M' 16 1 = n + 4 ∧ ∀ i, 0 ≤ i ∧ i < n + 4 → M' 17 i = g i := by
  rw [show n + 2 = n + 1 + 1 by omega] at v2
  rw [show n + 3 = n + 1 + 1 + 1 by omega] at v3
  obtain ⟨A, gA, fA, nA, xA⟩ := bc_ab_s (sl := sl) (e := e) (π := π) (G := G) (a := a) (s := 24) (s' := 16) (by decide) (by decide) (by omega) h1 hg v0
  obtain ⟨B, gB, fB, nB, xB⟩ := bc_ab_s (sl := sl) (e := e) (π := π) (G := G) (a := a) (s := 16) (s' := 8) (by decide) (by decide) (by omega) nA xA v1
  obtain ⟨C, gC, fC, nC, xC⟩ := bc_ab_s (sl := sl) (e := e) (π := π) (G := G) (a := a) (s := 8) (s' := 0) (by decide) (by decide) (by omega) nB xB v2
  obtain ⟨D, gD, fD, nD, xD⟩ := bc_ab_s (sl := sl) (e := e) (π := π) (G := G) (a := a) (s := 0) (s' := -8) (by decide) (by decide) (by omega) nC xC v3
  rw [show n + 1 + 1 + 1 + 1 = n + 4 by omega] at nD xD
  refine ⟨D, ?_, fr_trans fA (fr_trans fB (fr_trans fC fD)), nD, xD⟩
  rw [d_E_appendBytes_9 _ _ _ en_d, x_E_appendBytes_eq]
  refine gA.trans (gB.trans (gC.trans (gD.trans ?_)))
  rw [x_E_appendBytes_0_eq, if_pos (by decide)]
theorem S_ab_CR {M' : Nat → Int → Int} {a b c d f : Int} (h : CR σ π M) (hn : gtl σ + 20 ≤ 60) (fr7 : fr S_ab M M') (h1 : M' 16 1 = gtl σ + 20) (hx : ∀ i, 0 ≤ i ∧ i < gtl σ + 20 → M' 17 i = bs_tx σ a b c d f i) : CR (ggT σ a b c d f) π M' := by
  obtain ⟨k1, k2, k3, k4, k5, k6, k7, k8, k9, k10⟩ := h
  have nz : ∀ b j, b ≠ 17 → ¬ (b = 16 ∧ j = 1) → M' b j = M b j := fun b j z y => fr7 b j (by unfold S_ab; omega)
  have pin : ∀ k, 0 ≤ k ∧ k < gc σ → 51 ≤ π k ∧ π k + 34 ≤ 867 := fun k hk => PV_in k7 (by have := k1.1; omega)
  refine ⟨ggT_ok k1 hn, mCon_fr k2 fr7 fun b j z => by unfold S_ab at z; omega, ⟨(nz _ _ (by decide) (by decide)).trans k3.1, h1⟩, hx, rRow_fr k5 fr7 (by unfold S_ab; omega) (fun j => by unfold S_ab; omega), fun s hs => (nz _ _ (by decide) (by omega)).trans (k6 s hs), k7, fun k hk => ?_, fun k s hk hs hne => ?_, fun s hs hne => ?_⟩
  · have := pin k hk
    exact rRow_fr (k8 k hk) fr7 (by unfold S_ab; omega) (fun j => by unfold S_ab; omega)
  · have := pin k hk
    rw [nz _ _ (by omega) (by omega)] at hne
    exact rRdg_fr (k9 k s hk hs hne) fr7 (fun b j hb => by unfold S_ab; omega)
  · rw [nz _ _ (by omega) (by omega)] at hne
    exact rTal_fr (k10 s hs hne) fr7 (fun b j hb hb2 => by unfold S_ab; omega)
theorem qo_append {a b c d f : Int} (h : CR σ π M) : (gtl σ + 20 ≤ 60 → ∃ M', d_E_append 16 a b c d f (bM sl π M G e) = rI (gtl σ + 20) (bM sl π M' G e) ∧ CR (ggT σ a b c d f) π M' ∧ lo867 M M') ∧ (¬ gtl σ + 20 ≤ 60 → d_E_append 16 a b c d f (bM sl π M G e) = rX 1 (bM sl π M G (e + 1))) := by
  have h0 := h.1.2.2.1
  have hM := h.2.2.1.2
  rw [d_E_append_9 _ _ _ _ _ _ _ en_d, x_E_append_eq, en_I, hM, wr_id (by omega)]
  refine ⟨fun q => ?_, fun q => ?_⟩
  · have hx : ∀ i, 0 ≤ i ∧ i < gtl σ → M 17 i = bs_tx σ a b c d f i := fun i hi => by
      unfold bs_tx
      rw [if_pos hi.2]; exact h.2.2.2.1 i hi
    obtain ⟨A, gA, fA, nA, xA⟩ := bc_ab (sl := sl) (e := e) (π := π) (G := G) (a := a) (n := gtl σ) (by omega) hM hx (bs_tx_at (j := 0) (by omega) (by decide)).symm (bs_tx_at (j := 1) (by omega) (by decide)).symm (bs_tx_at (j := 2) (by omega) (by decide)).symm (bs_tx_at (j := 3) (by omega) (by decide)).symm
    obtain ⟨B, gB, fB, nB, xB⟩ := bc_ab (sl := sl) (e := e) (π := π) (G := G) (a := b) (n := gtl σ + 4) (by omega) nA xA (bs_tx_at (j := 4) (by omega) (by decide)).symm (bs_tx_at (j := 5) (by omega) (by decide)).symm (bs_tx_at (j := 6) (by omega) (by decide)).symm (bs_tx_at (j := 7) (by omega) (by decide)).symm
    obtain ⟨C, gC, fC, nC, xC⟩ := bc_ab (sl := sl) (e := e) (π := π) (G := G) (a := c) (n := gtl σ + 4 + 4) (by omega) nB xB (bs_tx_at (j := 8) (by omega) (by decide)).symm (bs_tx_at (j := 9) (by omega) (by decide)).symm (bs_tx_at (j := 10) (by omega) (by decide)).symm (bs_tx_at (j := 11) (by omega) (by decide)).symm
    obtain ⟨D, gD, fD, nD, xD⟩ := bc_ab (sl := sl) (e := e) (π := π) (G := G) (a := d) (n := gtl σ + 4 + 4 + 4) (by omega) nC xC (bs_tx_at (j := 12) (by omega) (by decide)).symm (bs_tx_at (j := 13) (by omega) (by decide)).symm (bs_tx_at (j := 14) (by omega) (by decide)).symm (bs_tx_at (j := 15) (by omega) (by decide)).symm
    obtain ⟨F, gF, fF, nF, xF⟩ := bc_ab (sl := sl) (e := e) (π := π) (G := G) (a := f) (n := gtl σ + 4 + 4 + 4 + 4) (by omega) nD xD (bs_tx_at (j := 16) (by omega) (by decide)).symm (bs_tx_at (j := 17) (by omega) (by decide)).symm (bs_tx_at (j := 18) (by omega) (by decide)).symm (bs_tx_at (j := 19) (by omega) (by decide)).symm
    rw [show gtl σ + 4 + 4 + 4 + 4 + 4 = gtl σ + 20 by omega] at nF xF
    have fa := fr_trans fA (fr_trans fB (fr_trans fC (fr_trans fD fF)))
    refine ⟨F, ?_, S_ab_CR h q fa nF xF, fun b j hb => fa b j (by unfold S_ab; omega)⟩
    rw [if_neg (by omega), gA, cv_r, gB, cv_r, gC, cv_r, gD, cv_r, gF, cv_r, en_I, nF]
  · rw [if_pos (by omega), sX_bM]
/-! the model -/
def S_ma (b : Nat) (j : Int) : Prop := b = 871 ∨ (b = 867 ∧ j = 10)
theorem qm_ap_0 {a b c d f : Int} (hq : 0 ≤ gtl σ ∧ gtl σ + 20 ≤ 60) : ∀ (m i : Nat) (M : Nat → Int → Int), i + m = 20 → M 867 10 = gtl σ + i → (∀ j, 0 ≤ j ∧ j < gtl σ + i → M 871 j = bs_tx σ a b c d f j) →
    ∃ M', x_M_append_0 867 a b c d f i (bM sl π M G e) = rI (gtl σ + 20) (bM sl π M' G e) ∧ fr S_ma M M' ∧ M' 867 10 = gtl σ + 20 ∧ ∀ j, 0 ≤ j ∧ j < gtl σ + 20 → M' 871 j = bs_tx σ a b c d f j := by
  intro m
  induction m with
  | zero =>
    intro i M hi h1 hg
    have : i = 20 := by omega
    subst this
    rw [x_M_append_0_eq, if_neg (by omega), mo_I, h1]
    exact ⟨M, rfl, fr_refl, h1, hg⟩
  | succ m ih =>
    intro i M hi h1 hg
    have e2 : wr ((i : Int) + 1) = ((i + 1 : Nat) : Int) := by rw [wr_id (by omega)]; omega
    have e3 : wr (24 - (wr (8 * (Int.tmod (i : Int) 4)))) = 24 - 8 * ((i : Int) % 4) := by
      rw [Int.tmod_eq_emod_of_nonneg (by omega), wr_id (x := 8 * ((i : Int) % 4)) (by omega), wr_id (by omega)]
    have e4 : 24 - 8 * ((i : Int) % 4) = 0 ∨ 24 - 8 * ((i : Int) % 4) = 8 ∨ 24 - 8 * ((i : Int) % 4) = 16 ∨ 24 - 8 * ((i : Int) % 4) = 24 := by omega
    have e5 : gtl σ + (i : Int) + 1 = gtl σ + ((i + 1 : Nat) : Int) := by omega
    have hi60 : 0 ≤ gtl σ + (i : Int) ∧ gtl σ + (i : Int) < 60 := by omega
    have w1 : wr (gtl σ + (i : Int) + 1) = gtl σ + ((i + 1 : Nat) : Int) := by rw [wr_id (by omega)]; omega
    have st : ∀ x : Int, wd a b c d f i = x → ∃ M', (bz_fR (bM sl π M G e) 867 10 3 fun v1 => bz_fI (bM sl π M G e) 867 10 10 fun v2 => bz_wI (bM sl π M G e) v1 v2 (bz_and (bz_shr x (wr (24 - (wr (8 * (Int.tmod (i : Int) 4)))))) 255) fun μ3 => bz_fI μ3 867 10 10 fun v4 => bz_pI μ3 867 10 10 (wr (v4 + 1)) fun μ5 => x_M_append_0 867 a b c d f (wr ((i : Int) + 1)) μ5) = rI (gtl σ + 20) (bM sl π M' G e) ∧ fr S_ma M M' ∧ M' 867 10 = gtl σ + 20 ∧ ∀ j, 0 ≤ j ∧ j < gtl σ + 20 → M' 871 j = bs_tx σ a b c d f j := by
      intro x hx
      obtain ⟨M', g, f', n', x'⟩ := ih (i + 1) (up (up M 871 (gtl σ + i) (by8 x (24 - 8 * ((i : Int) % 4)))) 867 10 (gtl σ + ((i + 1 : Nat) : Int))) (by omega) up_s (fun j hj => by
        rw [up_a (by decide)]
        by_cases z : j = gtl σ + i
        · rw [z, up_s, bs_tx_at rfl (by omega), hx]
        · rw [up_i z]; exact hg j (by omega))
      refine ⟨M', ?_, fr_trans (fr_up (Or.inr ⟨rfl, rfl⟩) (fr_up (Or.inl rfl) fr_refl)) f', n', x'⟩
      rw [mo_R3, mo_I, h1, e3, by8_shr e4, mo_w871 hi60, mo_I, up_a (by decide), h1, mo_p, w1, e2]
      exact g
    rw [x_M_append_0_eq, if_pos (by omega)]
    unfold wd at st
    by_cases z1 : (i : Int) < 4
    · rw [if_pos z1]
      rw [if_pos z1] at st
      exact st a rfl
    · rw [if_neg z1]
      rw [if_neg z1] at st
      by_cases z2 : (i : Int) < 8
      · rw [if_pos z2]
        rw [if_pos z2] at st
        exact st b rfl
      · rw [if_neg z2]
        rw [if_neg z2] at st
        by_cases z3 : (i : Int) < 12
        · rw [if_pos z3]
          rw [if_pos z3] at st
          exact st c rfl
        · rw [if_neg z3]
          rw [if_neg z3] at st
          by_cases z4 : (i : Int) < 16
          · rw [if_pos z4]
            rw [if_pos z4] at st
            exact st d rfl
          · rw [if_neg z4]
            rw [if_neg z4] at st
            exact st f rfl
theorem MR_app {M' : Nat → Int → Int} {a b c d f : Int} (h : MR σ M) (hn : gtl σ + 20 ≤ 60) (f7 : fr S_ma M M') (h1 : M' 867 10 = gtl σ + 20) (hx : ∀ i, 0 ≤ i ∧ i < gtl σ + 20 → M' 871 i = bs_tx σ a b c d f i) : MR (ggT σ a b c d f) M' := by
  obtain ⟨k1, k2, ⟨k3, k3', -⟩, k4, k5, k6, k7⟩ := h
  refine ⟨ggT_ok k1 hn, mMod_fr k2 f7 fun b j z => by unfold S_ma at z; omega, ⟨(f7 _ _ (by unfold S_ma; omega)).trans k3, (f7 _ _ (by unfold S_ma; omega)).trans k3', h1⟩, hx, fun i hi => (f7 _ _ (by unfold S_ma; omega)).trans (k5 i hi), fun s hs => (f7 _ _ (by unfold S_ma; omega)).trans (k6 s hs), fun k hk => mScan_fr (k7 k hk) f7 fun j => ⟨by unfold S_ma; omega, by unfold S_ma; omega⟩⟩
theorem qm_append {a b c d f : Int} (h : MR σ M) : (gtl σ + 20 ≤ 60 → ∃ M', d_M_append 867 a b c d f (bM sl π M G e) = rI (gtl σ + 20) (bM sl π M' G e) ∧ MR (ggT σ a b c d f) M' ∧ fr S_hi M M' ∧ M' 867 11 = 0) ∧ (¬ gtl σ + 20 ≤ 60 → d_M_append 867 a b c d f (bM sl π M G e) = rI 0 (bM sl π (up M 867 11 1) G e)) := by
  have h0 := h.1.2.2.1
  have hM := h.2.2.1.2.2
  rw [d_M_append_10 _ _ _ _ _ _ _ mo_d, x_M_append_eq, mo_I, hM, wr_id (by omega)]
  refine ⟨fun q => ?_, fun q => ?_⟩
  · have mA := MR_th (t := 0) h
    obtain ⟨M', g, f7, n7, x7⟩ := qm_ap_0 (sl := sl) (e := e) (π := π) (G := G) (σ := σ) (a := a) (b := b) (c := c) (d := d) (f := f) ⟨h0.1, q⟩ 20 0 (up M 867 11 0) (by omega) (by rw [mA.2.2.1.2.2]; omega) (fun j hj => by
      have hj' : 0 ≤ j ∧ j < gtl σ := by omega
      unfold bs_tx
      rw [if_pos hj'.2]; exact mA.2.2.2.1 j hj')
    rw [if_neg (by omega), mo_p, mo_I, up_s, t_zero]
    exact ⟨M', g, MR_app mA q f7 n7 x7, fr_trans fr_thhi (fr_mono (fun b j z => by unfold S_ma at z; unfold S_hi; omega) f7), by rw [f7 _ _ (by unfold S_ma; omega), up_s]⟩
  · rw [if_pos (by omega), mo_p, mo_I, up_s, t_pos]
end
