/-! THE CLASS'S TALLY -/
section
variable {sl e : Nat} {π : Int → Nat} {M G : Nat → Int → Int} {T q : Nat} {l : List Ch}
def bdV (V : Vt) (n : Int) : Prop := (∀ p v, 0 ≤ V p v ∧ V p v ≤ n) ∧ ∀ p, 0 ≤ bs_tt V p ∧ bs_tt V p ≤ n
theorem bdV_ad {V : Vt} {n p : Int} (h : bdV V n) (hl : okL l) : bdV (bs_ad V l p) (n + 101) :=
  ⟨fun a v => by have h1 := bs_ad_bd (l := l) V p a v (fun c hc => (hl c hc).2); have h2 := h.1 a v; omega, fun a => by have h1 := bs_tt_bd (l := l) V p a hl; have h2 := h.2 a; omega⟩
theorem bdV_mono {V : Vt} {n m : Int} (h : bdV V n) (hm : n ≤ m) : bdV V m := ⟨fun p v => by have := h.1 p v; omega, fun p => by have := h.2 p; omega⟩
theorem bc_addVotes (hT : aTal T) (hq : aSeq q) (hok : okL l) {p0 : Int} (hp0 : 0 ≤ p0 ∧ p0 + l.length ≤ 16) {V : Vt} (hl : rSeq M q l) (hW : rW M T V) (hV : bdV V 1000000) :
    ∃ M', d_Tal_addVotes T q p0 (bM sl π M G e) = rI 0 (bM sl π M' G e) ∧ fr (S_v T) M M' ∧ rW M' T (bs_ad V l p0) := by
  rw [d_Tal_addVotes_8 _ _ _ _ (tal_d hT), x_Tal_addVotes_eq]
  obtain ⟨M', g, f, c⟩ := bc_addVotes_0 (sl := sl) (e := e) (π := π) (G := G) hT hq hok hp0 l.length 0 V M (by omega) hl hW (fun p v _ => hV.1 p v) (fun p _ => hV.2 p)
  refine ⟨M', g, f, ?_⟩
  rw [List.drop_zero, show p0 + ((0 : Nat) : Int) = p0 by omega] at c
  exact c
noncomputable def k3v (T d : Nat) (μ : bz_M) : Option bz_R :=
  bz_fR μ d 4 2 fun v9 => bz_fI μ v9 7 2 fun v10 => bz_fI μ T 8 4 fun v11 => if v11 < v10 then rI 0 μ else
  bz_fR μ d 4 2 fun v12 => bz_fI μ T 8 4 fun v13 => bz_fR μ d 4 2 fun v14 => bz_fI μ v14 7 2 fun v15 =>
  bz_cv (d_Tal_addVotes T v12 (wr (v13 - v15)) μ) fun μ16 => rI 0 μ16
noncomputable def k2v (T d : Nat) (μ : bz_M) : Option bz_R :=
  bz_fR μ d 4 1 fun v6 => bz_fI μ v6 7 2 fun v7 => bz_fI μ T 8 4 fun v8 => if v8 < v7 then k3v T d μ else
  bz_fR μ d 4 1 fun v17 => bz_cv (d_Tal_addVotes T v17 0 μ) fun μ18 => k3v T d μ18
theorem x_Tal_countVotes_k {T d : Nat} {μ : bz_M} : x_Tal_countVotes T d μ =
    bz_fR μ d 4 0 fun v1 => bz_fI μ v1 7 2 fun v2 => bz_fI μ T 8 4 fun v3 => if v2 = v3 then
      bz_fR μ d 4 0 fun v4 => bz_cv (d_Tal_addVotes T v4 0 μ) fun μ5 => k2v T d μ5
    else k2v T d μ := x_Tal_countVotes_eq T d μ
theorem bc_k3v {d : Nat} {x : Rd} {L : Int} {V : Vt} (hT : aTal T) (hd : aRdg d) (hx : okX x) (hr : rSeq M (d + 7) x.1.2.2) (hTL : M T 4 = L) (hL : 0 ≤ L ∧ L ≤ 16) (hW : rW M T V) (hV : bdV V 1000000) :
    ∃ M', k3v T d (bM sl π M G e) = rI 0 (bM sl π M' G e) ∧ fr (S_v T) M M' ∧ rW M' T (if (x.1.2.2.length : Int) ≤ L then bs_ad V x.1.2.2 (L - x.1.2.2.length) else V) := by
  have hq : aSeq (d + 7) := hd.2.2.1.2.2
  unfold k3v
  rw [rdg_t hd, seq_I hq, tal_I hT, hTL, hr.1]
  by_cases z : (x.1.2.2.length : Int) ≤ L
  · rw [if_neg (by omega), if_pos z, rdg_t hd, tal_I hT, hTL, rdg_t hd, seq_I hq, hr.1, wr_id (by omega)]
    obtain ⟨M', g, f, c⟩ := bc_addVotes (sl := sl) (e := e) (π := π) (G := G) (p0 := L - x.1.2.2.length) hT hq hx.2.2.1 (by omega) hr hW hV
    rw [g]
    exact ⟨M', rfl, f, c⟩
  · rw [if_pos (by omega), if_neg z]
    exact ⟨M, rfl, fr_refl, hW⟩
theorem S_v_d {d r : Nat} {b : Nat} {j : Int} (hdT : T + 4 < d) (z : r ≤ b) (h : d ≤ r) : ¬ S_v T b j := by unfold S_v; omega
theorem bc_countVotes {d : Nat} {x : Rd} {L : Int} {V : Vt} (hT : aTal T) (hd : aRdg d) (hx : okX x) (hr : rRdg M d x) (hTL : M T 4 = L) (hL : 0 ≤ L ∧ L ≤ 16) (hdT : T + 4 < d) (hW : rW M T V) (hV : bdV V 900000) :
    ∃ M', d_Tal_countVotes T d (bM sl π M G e) = rI 0 (bM sl π M' G e) ∧ fr (S_v T) M M' ∧ rW M' T (bs_v3 V x L) := by
  have k2 : ∀ (A : Nat → Int → Int) (W : Vt), rSeq A (d + 4) x.1.2.1 → rSeq A (d + 7) x.1.2.2 → A T 4 = L → rW A T W → bdV W 900200 →
      ∃ M', k2v T d (bM sl π A G e) = rI 0 (bM sl π M' G e) ∧ fr (S_v T) A M' ∧ rW M' T (if (x.1.2.2.length : Int) ≤ L then bs_ad (if (x.1.2.1.length : Int) ≤ L then bs_ad W x.1.2.1 0 else W) x.1.2.2 (L - x.1.2.2.length) else (if (x.1.2.1.length : Int) ≤ L then bs_ad W x.1.2.1 0 else W)) := by
    intro A W hh ht hAL hAW hAV
    have hq : aSeq (d + 4) := hd.2.2.1.2.1
    have h16 := hh.2.1
    unfold k2v
    rw [rdg_h hd, seq_I hq, tal_I hT, hAL, hh.1]
    by_cases z : (x.1.2.1.length : Int) ≤ L
    · rw [if_neg (show ¬ L < (x.1.2.1.length : Int) by omega), if_pos z, rdg_h hd]
      obtain ⟨B, g, f, c⟩ := bc_addVotes (sl := sl) (e := e) (π := π) (G := G) (p0 := 0) hT hq hx.2.1 (by omega) hh hAW (bdV_mono hAV (by omega))
      rw [g]
      simp only [cv_r]
      obtain ⟨M', g2, f2, c2⟩ := bc_k3v (sl := sl) (e := e) (π := π) (G := G) hT hd hx (rSeq_fr ht f (fun b j hb => by unfold S_v; omega)) ((f _ _ (by unfold S_v; omega)).trans hAL) hL c (bdV_mono (bdV_ad hAV hx.2.1) (by omega))
      exact ⟨M', g2, fr_trans f f2, c2⟩
    · rw [if_pos (show L < (x.1.2.1.length : Int) by omega), if_neg z]
      exact bc_k3v hT hd hx ht hAL hL hAW (bdV_mono hAV (by omega))
  have hq : aSeq (d + 1) := hd.2.2.1.1
  have hw := hr.1.1
  have h16 := hw.2.1
  rw [d_Tal_countVotes_8 _ _ _ (tal_d hT), x_Tal_countVotes_k, rdg_w hd, seq_I hq, tal_I hT, hTL, hw.1]
  unfold bs_v3
  dsimp only
  by_cases z : (x.1.1.length : Int) = L
  · rw [if_pos z, if_pos z, rdg_w hd]
    obtain ⟨B, g, f, c⟩ := bc_addVotes (sl := sl) (e := e) (π := π) (G := G) (p0 := 0) hT hq hx.1 (by omega) hw hW (bdV_mono hV (by omega))
    rw [g]
    simp only [cv_r]
    obtain ⟨M', g2, f2, c2⟩ := k2 B _ (rSeq_fr hr.1.2.1 f (fun b j hb => by unfold S_v; omega)) (rSeq_fr hr.1.2.2 f (fun b j hb => by unfold S_v; omega)) ((f _ _ (by unfold S_v; omega)).trans hTL) c (bdV_mono (bdV_ad hV hx.1) (by omega))
    exact ⟨M', g2, fr_trans f f2, c2⟩
  · rw [if_neg z, if_neg z]
    exact k2 M V hr.1.2.1 hr.1.2.2 hTL hW (bdV_mono hV (by omega))
theorem bc_z0 {s c : Int} {a : Nat} (hT : aTal T) : ∀ (d i : Nat) (M : Nat → Int → Int), i + d = 320 → (∀ j, 0 ≤ j ∧ j < (i : Int) → M (T + 1) j = 0) →
    ∃ M', x_Tal_recount_0 T s a c i (bM sl π M G e) = x_Tal_recount_1 T s a c 0 (bM sl π M' G e) ∧ fr (fun b _ => b = T + 1) M M' ∧ ∀ j, 0 ≤ j ∧ j < 320 → M' (T + 1) j = 0 := by
  intro d
  induction d with
  | zero =>
    intro i M hi hz
    rw [x_Tal_recount_0_eq, tal_w hT, tal_lw hT, if_neg (by omega)]
    exact ⟨M, rfl, fr_refl, fun j hj => hz j (by omega)⟩
  | succ d ih =>
    intro i M hi hz
    have e2 : wr ((i : Int) + 1) = ((i + 1 : Nat) : Int) := by rw [wr_id (by omega)]; omega
    rw [x_Tal_recount_0_eq, tal_w hT, tal_lw hT, if_pos (by omega), tal_w hT, tal_ww hT (by omega), e2]
    obtain ⟨M', g, f, h⟩ := ih (i + 1) (up M (T + 1) i 0) (by omega) (fun j hj => by
      by_cases y : j = i
      · rw [y, up_s]
      · rw [up_i y]; exact hz j (by omega))
    exact ⟨M', g, fr_trans (fr_up rfl fr_refl) f, h⟩
theorem bc_z1 {s c : Int} {a : Nat} (hT : aTal T) : ∀ (d i : Nat) (M : Nat → Int → Int), i + d = 16 → (∀ j, 0 ≤ j ∧ j < (i : Int) → M (T + 3) j = 0) →
    ∃ M', x_Tal_recount_1 T s a c i (bM sl π M G e) = x_Tal_recount_2 T s a c 0 (bM sl π M' G e) ∧ fr (fun b _ => b = T + 3) M M' ∧ ∀ j, 0 ≤ j ∧ j < 16 → M' (T + 3) j = 0 := by
  intro d
  induction d with
  | zero =>
    intro i M hi hz
    rw [x_Tal_recount_1_eq, tal_t hT, tal_lt hT, if_neg (by omega)]
    exact ⟨M, rfl, fr_refl, fun j hj => hz j (by omega)⟩
  | succ d ih =>
    intro i M hi hz
    have e2 : wr ((i : Int) + 1) = ((i + 1 : Nat) : Int) := by rw [wr_id (by omega)]; omega
    rw [x_Tal_recount_1_eq, tal_t hT, tal_lt hT, if_pos (by omega), tal_t hT, tal_wt hT (by omega), e2]
    obtain ⟨M', g, f, h⟩ := ih (i + 1) (up M (T + 3) i 0) (by omega) (fun j hj => by
      by_cases y : j = i
      · rw [y, up_s]
      · rw [up_i y]; exact hz j (by omega))
    exact ⟨M', g, fr_trans (fr_up rfl fr_refl) f, h⟩
theorem bc_z2 {s c : Int} {a : Nat} (hT : aTal T) : ∀ (d i : Nat) (M : Nat → Int → Int), i + d = 17 → (∀ j, 0 ≤ j ∧ j < (i : Int) → M (T + 2) j = 0) →
    ∃ M', x_Tal_supportedLength_0 T s a c i (bM sl π M G e) = x_Tal_supportedLength_1 T s a c 0 (bM sl π M' G e) ∧ fr (fun b _ => b = T + 2) M M' ∧ ∀ j, 0 ≤ j ∧ j < 17 → M' (T + 2) j = 0 := by
  intro d
  induction d with
  | zero =>
    intro i M hi hz
    rw [x_Tal_supportedLength_0_eq, tal_s hT, tal_ls hT, if_neg (by omega)]
    exact ⟨M, rfl, fr_refl, fun j hj => hz j (by omega)⟩
  | succ d ih =>
    intro i M hi hz
    have e2 : wr ((i : Int) + 1) = ((i + 1 : Nat) : Int) := by rw [wr_id (by omega)]; omega
    rw [x_Tal_supportedLength_0_eq, tal_s hT, tal_ls hT, if_pos (by omega), tal_s hT, tal_ws hT (by omega), e2]
    obtain ⟨M', g, f, h⟩ := ih (i + 1) (up M (T + 2) i 0) (by omega) (fun j hj => by
      by_cases y : j = i
      · rw [y, up_s]
      · rw [up_i y]; exact hz j (by omega))
    exact ⟨M', g, fr_trans (fr_up rfl fr_refl) f, h⟩
theorem bc_weightOf {V : Vt} {p v : Int} (hT : aTal T) (hW : rW M T V) (hp : 0 ≤ p ∧ p < 16) (hv : 0 ≤ v ∧ v < 20) : d_Tal_weightOf T p v (bM sl π M G e) = rI (V p v) (bM sl π M G e) := by
  have e1 : wr (wr (p * 20) + v) = 20 * p + v := by rw [wr_id (x := p * 20) (by omega), wr_id (by omega)]; omega
  rw [d_Tal_weightOf_8 _ _ _ _ (tal_d hT), x_Tal_weightOf_eq, if_neg (by omega), if_pos hp.2, if_neg (by omega), if_pos hv.2, tal_w hT, e1, tal_rw hT (by omega), (hW p hp).2 v hv]
theorem bc_majority {V : Vt} {p : Int} (hT : aTal T) (hW : rW M T V) (hV : bdV V 1000000) (hp : 0 ≤ p ∧ p < 16) : ∀ d i : Nat, i + d = 20 → x_Tal_majorityAt_0 T p i (bM sl π M G e) = rI (bs_mj0 V p d i) (bM sl π M G e) := by
  intro d
  induction d with
  | zero =>
    intro i hi
    rw [x_Tal_majorityAt_0_eq, if_neg (by omega)]; rfl
  | succ d ih =>
    intro i hi
    have h1 := hV.1 p i
    have e2 : wr ((i : Int) + 1) = ((i + 1 : Nat) : Int) := by rw [wr_id (by omega)]; omega
    rw [x_Tal_majorityAt_0_eq, if_pos (by omega), bc_weightOf hT hW hp (by omega)]
    simp only [ci_r]
    rw [tal_t hT, tal_rt hT hp, (hW p hp).1, wr_id (x := 2 * V p i) (by omega), e2, bs_mj0]
    by_cases z : bs_tt V p < 2 * V p i
    · rw [if_pos z, if_pos z]
    · rw [if_neg z, if_neg z]; exact ih (i + 1) (by omega)
theorem bc_rec3 {V : Vt} {L : Int} (hT : aTal T) (hV : bdV V 1000000) : ∀ (d i : Nat) (M : Nat → Int → Int), i + d = 16 → rW M T V → M T 4 = L → (∀ p, 0 ≤ p ∧ p < (i : Int) → M (T + 4) p = bs_mj V p) →
    ∃ M', x_Tal_recount_3 T i (bM sl π M G e) = rI 0 (bM sl π M' G e) ∧ fr (fun b j => b = T + 4 ∨ b = T ∧ j = 5) M M' ∧ rTal M' T L V ∧ M' T 5 = 1 := by
  intro d
  induction d with
  | zero =>
    intro i M hi hW hL hm
    rw [x_Tal_recount_3_eq, if_neg (by omega), tal_b hT (Or.inr rfl)]
    refine ⟨_, rfl, fr_up (Or.inr ⟨rfl, rfl⟩) fr_refl, ⟨?_, fun p v hp hv => ?_, fun p hp => ?_, fun p hp => ?_⟩, ?_⟩
    · rw [up_i (by decide)]; exact hL
    · rw [up_a (by omega)]; exact (hW p hp).2 v hv
    · rw [up_a (by omega)]; exact (hW p hp).1
    · rw [up_a (by omega)]; exact hm p (by omega)
    · rw [up_s]
  | succ d ih =>
    intro i M hi hW hL hm
    have e2 : wr ((i : Int) + 1) = ((i + 1 : Nat) : Int) := by rw [wr_id (by omega)]; omega
    rw [x_Tal_recount_3_eq, if_pos (by omega), tal_m hT, d_Tal_majorityAt_8 _ _ _ (tal_d hT), x_Tal_majorityAt_eq, show x_Tal_majorityAt_0 T i 0 (bM sl π M G e) = _ from bc_majority hT hW hV (by omega) 20 0 (by omega)]
    simp only [ci_r]
    rw [tal_wm hT (by omega), e2]
    obtain ⟨M', g, f, h⟩ := ih (i + 1) (up M (T + 4) i (bs_mj0 V i 20 0)) (by omega) (fun p hp => ⟨(up_a (by omega)).trans (hW p hp).1, fun v hv => (up_a (by omega)).trans ((hW p hp).2 v hv)⟩) ((up_a (by omega)).trans hL) (fun p hp => by
      by_cases y : p = i
      · rw [y, up_s]; rfl
      · rw [up_i y]; exact hm p (by omega))
    exact ⟨M', g, fr_trans (fr_up (Or.inl rfl) fr_refl) f, h⟩
end
