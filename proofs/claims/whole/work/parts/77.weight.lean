/-! THE CLASS'S VALUES OF CHARACTERS, WEIGHTS, RUNNERS UP -/
section
variable {sl e : Nat} {π : Int → Nat} {M G : Nat → Int → Int} {σ : Sg} {t : Nat}
/-- the value of a character, from a place on -/
def bs_vi (c : Int) : Nat → Nat → Int
  | 0, _ => -1
  | d + 1, i => if bs_al i = c then (i : Int) else bs_vi c d (i + 1)
def vof (c : Int) : Int := bs_vi c 20 0
theorem bs_vi_bd {c : Int} : ∀ d i : Nat, bs_vi c d i = -1 ∨ ((i : Int) ≤ bs_vi c d i ∧ bs_vi c d i < i + d) := by
  intro d
  induction d with
  | zero => intro i; exact Or.inl rfl
  | succ d ih =>
    intro i
    rw [bs_vi]
    split
    · omega
    · have := ih (i + 1); omega
theorem vof_bd {c : Int} : vof c = -1 ∨ (0 ≤ vof c ∧ vof c < 20) := by
  have := bs_vi_bd (c := c) 20 0
  unfold vof
  omega
theorem bs_vi_no {c : Int} (hc : c < 0 ∨ 127 < c) : ∀ d i : Nat, i + d = 20 → bs_vi c d i = -1 := by
  intro d
  induction d with
  | zero => intro i _; rfl
  | succ d ih =>
    intro i hi
    have := al_ok i (by omega)
    rw [bs_vi, if_neg (by omega)]
    exact ih (i + 1) (by omega)
theorem bc_iofc_0 (hM : mCon M) {c : Int} : ∀ d i : Nat, i + d = 20 → x_Lat_indexOfChar_0 7 20 c i (bM sl π M G e) = rI (bs_vi c d i) (bM sl π M G e) := by
  intro d
  induction d with
  | zero =>
    intro i hi
    rw [x_Lat_indexOfChar_0_eq, if_neg (by omega)]; rfl
  | succ d ih =>
    intro i hi
    have e2 : wr ((i : Int) + 1) = ((i + 1 : Nat) : Int) := by rw [wr_id (by omega)]; omega
    rw [x_Lat_indexOfChar_0_eq, if_pos (by omega), bm_rB (n := 20) (Or.inr (by decide +kernel)) (by decide +kernel) (by decide) (by omega), hM.2.2.2.2.2.1 i (by omega), e2, bs_vi]
    by_cases z : bs_al i = c
    · rw [if_pos z, if_pos z]
    · rw [if_neg z, if_neg z]; exact ih (i + 1) (by omega)
theorem qo_value {c : Int} (hM : mCon M) : x_E_valueOf c (bM sl π M G e) = rI (vof c) (bM sl π M G e) := by
  rw [x_E_valueOf_eq]
  by_cases z1 : c < 0
  · rw [if_pos z1]; unfold vof; rw [bs_vi_no (Or.inl z1) 20 0 (by omega)]
  · rw [if_neg z1]
    by_cases z2 : 127 < c
    · rw [if_pos z2]; unfold vof; rw [bs_vi_no (Or.inr z2) 20 0 (by omega)]
    · have t5 : gT (bM sl π M G e) 5 = 28 := gT_bM.trans (by decide +kernel)
      have h0 : M 5 1 = 0 := hM.2.2.2.2.1.1
      have ec : bz_i2c c = c := by unfold bz_i2c; omega
      have eb : bz_i2b c = c := by unfold bz_i2b; omega
      have es : bz_shr 20 0 = 20 := by decide
      have ez : ∀ μ : bz_M, bz_zC 0 μ = rI 0 μ := fun μ => if_pos (by decide)
      have lz : ∀ kk : Int → Option bz_R, bz_al (bM sl π M G e) 7 kk = kk 20 := fun kk => bm_al (n := 20) (by decide +kernel) (by decide +kernel) (by decide)
      have hp : ∀ kr : Nat → Option bz_R, bz_fR (bM sl π M G e) 5 28 0 kr = kr 7 := fun kr => bm_fR (by decide +kernel) (by decide +kernel) (by decide) (by decide)
      have hf : ∀ kk : Int → Option bz_R, bz_fI (bM sl π M G e) 5 28 1 kk = kk 0 := fun kk => (bm_fI (by decide +kernel)).trans (by rw [h0])
      have hlen : d_Str_length 5 (bM sl π M G e) = rI 20 (bM sl π M G e) := by
        rw [d_Str_length_28 _ _ t5, x_Str_length_eq, hp, lz, d_Str_coder_28 _ _ t5, x_Str_coder_eq, hf, ez]
        simp only [ci_r]
        rw [es]
      rw [if_neg z2, ec, d_Str_indexOf_28 _ _ _ t5, x_Str_indexOf_eq, d_Str_indexOf2_28 _ _ _ _ t5, x_Str_indexOf2_eq, d_Str_isLatin1_28 _ _ t5, x_Str_isLatin1_eq, hf, if_pos rfl]
      simp only [ci_r]
      rw [if_neg (by decide), hp, hlen]
      simp only [ci_r]
      rw [x_Lat_indexOf_eq, x_Lat_canEncode_eq, if_neg z1, if_neg (by omega)]
      simp only [ci_r]
      rw [if_neg (by decide), x_Mth_max_eq]
      have k := bc_iofc_0 (sl := sl) (e := e) (π := π) (G := G) hM (c := c) 20 0 (by omega)
      have kk : x_Lat_indexOfChar 7 c 0 20 (bM sl π M G e) = rI (vof c) (bM sl π M G e) := by
        rw [x_Lat_indexOfChar_eq, eb]; exact k
      simp only [ci_r, lz, bc_min, bs_mn, if_neg (show ¬ (0 : Int) < 0 by decide), ite_self, if_neg (show ¬ (20 : Int) < 20 by decide), if_pos (show (0 : Int) < 20 by decide), kk]
/-- the weight asked for -/
def gWt (V : Vt) (p c : Int) : Int := if c = -1 then bs_tt V p else if vof c = -1 then 0 else V p (vof c)
theorem qo_weight {p c : Int} (h : CR σ π M) (ht : t < 3) : ∃ M', CR σ π M' ∧ lo867 M M' ∧ (0 ≤ p ∧ p < gL σ t → d_E_weight 16 t p c (bM sl π M G e) = rI (gWt (gV σ t) p c) (bM sl π M' G e)) ∧ (¬ (0 ≤ p ∧ p < gL σ t) → d_E_weight 16 t p c (bM sl π M G e) = rX 2 (bM sl π M' G (e + 1))) := by
  obtain ⟨M', g, cr, lo, r⟩ := qo_tally (sl := sl) (e := e) (G := G) h ht
  have hL := gL_bd h.1 ht
  refine ⟨M', cr, lo, fun hp => ?_, fun hp => ?_⟩
  · unfold gWt
    rw [d_E_weight_9 _ _ _ _ _ en_d, x_E_weight_eq, g]
    simp only [cr_r]
    rw [tal_I (a_tal ht), r.1, qo_place, if_pos hp]
    simp only [cv_r]
    by_cases z : c = -1
    · rw [if_pos z, if_pos z, tal_t (a_tal ht), tal_rt (a_tal ht) (by omega), r.2.2.1 p (by omega)]
    · rw [if_neg z, if_neg z, qo_value cr.2.1]
      simp only [ci_r]
      by_cases y : vof c = -1
      · rw [if_pos y, if_pos y]
      · have := vof_bd (c := c)
        rw [if_neg y, if_neg y, bc_weightOf (a_tal ht) (rTal_rW r) (by omega) (by omega)]
        rfl
  · rw [d_E_weight_9 _ _ _ _ _ en_d, x_E_weight_eq, g]
    simp only [cr_r]
    rw [tal_I (a_tal ht), r.1, qo_place, if_neg hp]
    rfl
theorem qo_weightX {s p c : Int} (hs : ¬ (0 ≤ s ∧ s < 3)) : d_E_weight 16 s p c (bM sl π M G e) = rX 2 (bM sl π M G (e + 1)) := by
  rw [d_E_weight_9 _ _ _ _ _ en_d, x_E_weight_eq, qo_tallyX hs]; rfl
/-- the strongest of the first values but one, and its weight -/
def bs_sg (V : Vt) (p x : Int) : Nat → Int × Int
  | 0 => (-1, 0)
  | i + 1 => if (i : Int) = x then bs_sg V p x i else if (bs_sg V p x i).2 < V p i ∨ (V p i = (bs_sg V p x i).2 ∧ (bs_sg V p x i).1 ≠ -1 ∧ al1 i < al1 (bs_sg V p x i).1) then ((i : Int), V p i) else bs_sg V p x i
theorem bc_sg_0 {T : Nat} {V : Vt} {p x : Int} (hM : mCon M) (hT : aTal T) (r : rW M T V) (hp : 0 ≤ p ∧ p < 16) : ∀ d i : Nat, i + d = 20 → x_E_strongest_0 T p x (bs_sg V p x i).1 (bs_sg V p x i).2 i (bM sl π M G e) = rI (bs_sg V p x 20).1 (bM sl π M G e) := by
  intro d
  induction d with
  | zero =>
    intro i hi
    have : i = 20 := by omega
    subst this
    rw [x_E_strongest_0_eq, if_neg (by omega)]
  | succ d ih =>
    intro i hi
    have e2 : wr ((i : Int) + 1) = ((i + 1 : Nat) : Int) := by rw [wr_id (by omega)]; omega
    have st := ih (i + 1) (by omega)
    rw [bs_sg] at st
    rw [x_E_strongest_0_eq, if_pos (by omega), bc_weightOf hT r hp (by omega), e2]
    simp only [ci_r, qo_char1 hM]
    revert st
    generalize bs_sg V p x i = q
    intro st
    by_cases a : (i : Int) = x
    · rw [if_pos a] at st
      simp only [if_pos a]
      by_cases b : V p i = q.2
      · rw [if_pos b]
        by_cases c : q.1 = -1
        · rw [if_pos c]; exact st
        · rw [if_neg c]
          by_cases f : al1 i < al1 q.1
          · rw [if_pos f]; exact st
          · rw [if_neg f]; exact st
      · rw [if_neg b]; exact st
    · rw [if_neg a] at st
      simp only [if_neg a]
      by_cases b : V p i = q.2
      · rw [if_pos b]
        by_cases c : q.1 = -1
        · rw [if_neg (fun w => by rcases w with w | w; omega; exact w.2.1 c)] at st
          rw [if_pos c, if_neg (by omega)]; exact st
        · rw [if_neg c]
          by_cases f : al1 i < al1 q.1
          · rw [if_pos (Or.inr ⟨b, c, f⟩)] at st
            rw [if_pos f, if_neg (by omega)]; exact st
          · rw [if_neg (fun w => by rcases w with w | w; omega; exact f w.2.2)] at st
            rw [if_neg f, if_neg (by omega)]; exact st
      · rw [if_neg b]
        by_cases c : q.2 < V p i
        · rw [if_pos (Or.inl c)] at st
          rw [if_pos c]; exact st
        · rw [if_neg (fun w => by rcases w with w | w; exact c w; exact b w.1)] at st
          rw [if_neg c]; exact st
theorem bc_sg {T : Nat} {V : Vt} {p x : Int} (hM : mCon M) (hT : aTal T) (r : rW M T V) (hp : 0 ≤ p ∧ p < 16) : x_E_strongest T p x (bM sl π M G e) = rI (bs_sg V p x 20).1 (bM sl π M G e) := by
  rw [x_E_strongest_eq]
  exact bc_sg_0 hM hT r hp 20 0 (by omega)
/-- the runner up -/
def gRu (V : Vt) (p : Int) : Int := if (bs_sg V p (-1) 20).1 = -1 then -1 else al1 (bs_sg V p (bs_sg V p (-1) 20).1 20).1
theorem qo_runnerUp {p : Int} (h : CR σ π M) (ht : t < 3) : ∃ M', CR σ π M' ∧ lo867 M M' ∧ (0 ≤ p ∧ p < gL σ t → d_E_runnerUp 16 t p (bM sl π M G e) = rI (gRu (gV σ t) p) (bM sl π M' G e)) ∧ (¬ (0 ≤ p ∧ p < gL σ t) → d_E_runnerUp 16 t p (bM sl π M G e) = rX 2 (bM sl π M' G (e + 1))) := by
  obtain ⟨M', g, cr, lo, r⟩ := qo_tally (sl := sl) (e := e) (G := G) h ht
  have hL := gL_bd h.1 ht
  refine ⟨M', cr, lo, fun hp => ?_, fun hp => ?_⟩
  · unfold gRu
    rw [d_E_runnerUp_9 _ _ _ _ en_d, x_E_runnerUp_eq, g]
    simp only [cr_r]
    rw [tal_I (a_tal ht), r.1, qo_place, if_pos hp]
    simp only [cv_r]
    rw [bc_sg cr.2.1 (a_tal ht) (rTal_rW r) (by omega)]
    simp only [ci_r]
    by_cases z : (bs_sg (gV σ t) p (-1) 20).1 = -1
    · rw [if_pos z, if_pos z]
    · rw [if_neg z, if_neg z, bc_sg cr.2.1 (a_tal ht) (rTal_rW r) (by omega)]
      simp only [ci_r]
      rw [qo_char1 cr.2.1]
      rfl
  · rw [d_E_runnerUp_9 _ _ _ _ en_d, x_E_runnerUp_eq, g]
    simp only [cr_r]
    rw [tal_I (a_tal ht), r.1, qo_place, if_neg hp]
    rfl
theorem qo_runnerUpX {s p : Int} (hs : ¬ (0 ≤ s ∧ s < 3)) : d_E_runnerUp 16 s p (bM sl π M G e) = rX 2 (bM sl π M G (e + 1)) := by
  rw [d_E_runnerUp_9 _ _ _ _ en_d, x_E_runnerUp_eq, qo_tallyX hs]; rfl
end
