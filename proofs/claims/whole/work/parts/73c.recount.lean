/-! THE CLASS'S TALLY, COUNTED ANEW: joined lengths and all -/
section
variable {sl e : Nat} {π : Int → Nat} {M G : Nat → Int → Int} {T s c : Nat} {R : Int → Rd}
theorem bs_hl_bd {n : Int} (hs : s < 3) (h : bs_hl s n = true) : 0 ≤ n ∧ n ≤ 16 := by
  match s, hs with
  | 0, _ => have := of_decide_eq_true (show decide (n = 8) = true from h); omega
  | 1, _ => have := of_decide_eq_true (show decide ((2 ≤ n ∧ n ≤ 14) ∧ Int.tmod n 2 = 0) = true from h); omega
  | 2, _ => have := of_decide_eq_true (show decide (3 ≤ n ∧ n ≤ 16) = true from h); omega
theorem bs_se0_hl {h t : List Ch} : ∀ o : Nat, bs_se0 s h t o = -1 ∨ ∃ o' : Nat, bs_se0 s h t o = (o' : Int) ∧ o' ≤ o ∧ bs_hl s ((h.length : Int) + t.length - (o' : Nat)) = true := by
  intro o
  induction o with
  | zero => exact Or.inl rfl
  | succ o ih =>
    rw [bs_se0]
    by_cases h2 : 2 ≤ o + 1
    · rw [if_pos h2]
      by_cases z : (bs_ov h t (o + 1) && bs_hl s ((h.length : Int) + t.length - (o + 1 : Nat))) = true
      · rw [if_pos z]
        exact Or.inr ⟨o + 1, rfl, Nat.le_refl _, (Bool.and_eq_true _ _ ▸ z).2⟩
      · rw [if_neg z]
        rcases ih with h | ⟨o', h1, h3, h4⟩
        · exact Or.inl h
        · exact Or.inr ⟨o', h1, by omega, h4⟩
    · rw [if_neg h2]; exact Or.inl rfl
/-- a seam is none, or joins to a length -/
theorem bs_se_ok {h t : List Ch} (hs : s < 3) (hh : h.length ≤ 16) (ht : t.length ≤ 16) : bs_se s h t = -1 ∨ ((0 ≤ bs_se s h t ∧ bs_se s h t ≤ 16) ∧ bs_se s h t ≤ h.length ∧ bs_se s h t ≤ t.length ∧ 0 ≤ (h.length : Int) + t.length - bs_se s h t ∧ (h.length : Int) + t.length - bs_se s h t ≤ 16) := by
  unfold bs_se
  by_cases z : s = 0
  · rw [if_pos z]
    by_cases y : h.length = 4 ∧ t.length = 4
    · rw [if_pos y]; omega
    · rw [if_neg y]; exact Or.inl rfl
  · rw [if_neg z]
    rcases bs_se0_hl (s := s) (h := h) (t := t) (min h.length t.length) with y | ⟨o', h1, h3, h4⟩
    · exact Or.inl y
    · have := bs_hl_bd hs h4
      rw [h1]; omega
def okJ (p : Int × Int) : Prop := (-1 ≤ p.1 ∧ p.1 ≤ 16) ∧ 0 ≤ p.2 ∧ p.2 ≤ 16
theorem bs_jj_ok {i : Int} {p : Int × Int} (hs : s < 3) (hp : okJ p) (hi : okX (R i)) : ∀ j : Nat, (∀ k : Int, 0 ≤ k ∧ k < j → okX (R k)) → okJ (bs_jj s R i j p) := by
  intro j
  induction j with
  | zero => intro _; exact hp
  | succ j ih =>
    intro hx
    rw [bs_jj]
    by_cases z : i ≠ j ∧ (bs_jj s R i j p).1 < bs_se s (R i).1.2.1 (R j).1.2.2
    · rw [if_pos z]
      have h1 := ih fun k hk => hx k (by omega)
      have h2 := bs_se_ok (h := (R i).1.2.1) (t := (R j).1.2.2) hs hi.2.2.2.2.1 (hx j (by omega)).2.2.2.2.2
      unfold okJ at h1 ⊢
      dsimp only
      omega
    · rw [if_neg z]; exact ih fun k hk => hx k (by omega)
theorem bs_ji_ok (hs : s < 3) : ∀ i : Nat, i ≤ c → (∀ k : Int, 0 ≤ k ∧ k < c → okX (R k)) → okJ (bs_ji s R c i) := by
  intro i
  induction i with
  | zero => intro _ _; unfold okJ bs_ji; dsimp only; omega
  | succ i ih =>
    intro hi hx
    rw [bs_ji]
    exact bs_jj_ok hs (ih (by omega) hx) (hx i (by omega)) c hx
theorem bs_L_bd (hs : s < 3) (hx : ∀ k : Int, 0 ≤ k ∧ k < c → okX (R k)) : 0 ≤ bs_L s R c ∧ bs_L s R c ≤ 16 := by
  unfold bs_L bs_jl
  have h1 := bs_best_le (R := R) (c := c) 16
  have h2 := (bs_ji_ok (R := R) hs c (Nat.le_refl _) hx).2
  split
  · split
    · split <;> omega
    · exact h2
  · omega
theorem bc_sj_1 (hπ : PV π) (hc : c ≤ 24) (hs : s < 3) (hx : ∀ k : Int, 0 ≤ k ∧ k < c → okX (R k)) (hr : rAll π M s R c) {i : Nat} (hi : i < c) {p : Int × Int} (hp : okJ p) : ∀ (d j : Nat), j + d = c →
    x_Sym_joinedLength_1 (22 + s) s 20 c (bs_jj s R i j p).1 (bs_jj s R i j p).2 i (π i + (4 + 10 * s) + 4) j (bM sl π M G e) = x_Sym_joinedLength_0 (22 + s) s 20 c (bs_jj s R i c p).1 (bs_jj s R i c p).2 ((i + 1 : Nat) : Int) (bM sl π M G e) := by
  intro d
  induction d with
  | zero =>
    intro j hj
    have : j = c := by omega
    subst this
    rw [x_Sym_joinedLength_1_eq, if_neg (by omega), show wr ((i : Int) + 1) = ((i + 1 : Nat) : Int) by rw [wr_id (by omega)]; omega]
  | succ d ih =>
    intro j hj
    have hi24 : 0 ≤ (i : Int) ∧ (i : Int) < 24 := by omega
    have hj24 : 0 ≤ (j : Int) ∧ (j : Int) < 24 := by omega
    have hA := PV_a hπ hj24
    have hdi := PV_rdg hπ hi24 hs
    have hdj := PV_rdg hπ hj24 hs
    have h4 : aSeq (π i + (4 + 10 * s) + 4) := hdi.2.2.1.2.1
    have h7 : aSeq (π j + (4 + 10 * s) + 7) := hdj.2.2.1.2.2
    have hh := (hr i (by omega)).1.2.1
    have ht := (hr j (by omega)).1.2.2
    have e2 : wr ((j : Int) + 1) = ((j + 1 : Nat) : Int) := by rw [wr_id (by omega)]; omega
    have hJ := bs_jj_ok (R := R) (i := (i : Int)) hs hp (hx i (by omega)) j (fun k hk => hx k (by omega))
    have h2 := bs_se_ok (h := (R i).1.2.1) (t := (R j).1.2.2) hs (hx i (by omega)).2.2.2.2.1 (hx j (by omega)).2.2.2.2.2
    have st := ih (j + 1) (by omega)
    rw [bs_jj] at st
    rw [x_Sym_joinedLength_1_eq, if_pos (by omega), qo_rSc hπ hj24, scn_r hA, scn_q hA hs, rdg_t hdj, e2]
    by_cases z : (i : Int) = j
    · rw [if_neg (fun y => y.1 z)] at st
      rw [if_pos z, if_neg (by unfold okJ at hJ; omega)]
      exact st
    · rw [if_neg z, bc_seam hs h4 h7 hh ht]
      simp only [cn_r]
      by_cases y : (bs_jj s R i j p).1 < bs_se s (R i).1.2.1 (R j).1.2.2
      · rw [if_pos ⟨z, y⟩] at st
        have h16 := hh.2.1
        have h16' := ht.2.1
        rw [if_pos y, seq_I h4, hh.1, seq_I h7, ht.1, wr_id (x := ((R i).1.2.1.length : Int) + (R j).1.2.2.length) (by omega), wr_id (by omega)]
        exact st
      · rw [if_neg (fun w => y w.2)] at st
        rw [if_neg y]
        exact st
theorem bc_sj_0 (hπ : PV π) (hc : c ≤ 24) (hs : s < 3) (hx : ∀ k : Int, 0 ≤ k ∧ k < c → okX (R k)) (hr : rAll π M s R c) : ∀ (d i : Nat), i + d = c →
    x_Sym_joinedLength_0 (22 + s) s 20 c (bs_ji s R c i).1 (bs_ji s R c i).2 i (bM sl π M G e) = rI (bs_ji s R c c).2 (bM sl π M G e) := by
  intro d
  induction d with
  | zero =>
    intro i hi
    have : i = c := by omega
    subst this
    rw [x_Sym_joinedLength_0_eq, if_neg (by omega)]
  | succ d ih =>
    intro i hi
    have hi24 : 0 ≤ (i : Int) ∧ (i : Int) < 24 := by omega
    have hA := PV_a hπ hi24
    have hdi := PV_rdg hπ hi24 hs
    have st := ih (i + 1) (by omega)
    rw [bs_ji] at st
    rw [x_Sym_joinedLength_0_eq, if_pos (by omega), qo_rSc hπ hi24, scn_r hA, scn_q hA hs, rdg_h hdi]
    exact (bc_sj_1 hπ hc hs hx hr (by omega) (bs_ji_ok hs i (by omega) hx) c 0 (by omega)).trans st
theorem bc_joined (hπ : PV π) (hc : c ≤ 24) (hs : s < 3) (hx : ∀ k : Int, 0 ≤ k ∧ k < c → okX (R k)) (hr : rAll π M s R c) : d_Sym_joinedLength (22 + s) s 20 c (bM sl π M G e) = rI (bs_jl s R c) (bM sl π M G e) := by
  have gen : s ≠ 0 → x_Sym_joinedLength (22 + s) s 20 c (bM sl π M G e) = rI (bs_jl s R c) (bM sl π M G e) := by
    intro h0
    rw [x_Sym_joinedLength_eq]
    unfold bs_jl
    rw [if_neg h0]
    exact bc_sj_0 hπ hc hs hx hr c 0 (by omega)
  match s, hs with
  | 0, hs =>
    rw [show 22 + 0 = 22 from rfl, d_Sym_joinedLength_2 _ _ _ _ _ k_22, x_Ean_joinedLength_eq]
    unfold bs_jl
    rw [if_pos rfl]
    exact bc_ean_0 hπ hc hs hr c 0 (by omega)
  | 1, _ => rw [show 22 + 1 = 23 from rfl, d_Sym_joinedLength_3 _ _ _ _ _ k_23]; exact gen (by decide)
  | 2, _ => rw [show 22 + 2 = 24 from rfl, d_Sym_joinedLength_1 _ _ _ _ _ k_24]; exact gen (by decide)
theorem bdV_V {L : Int} (hx : ∀ k : Int, 0 ≤ k ∧ k < c → okX (R k)) (i : Nat) (hi : i ≤ c) : bdV (bs_V R L i) (303 * i) :=
  ⟨fun p v => (bs_V_bd (a := p) (u := v) i fun k hk => hx k (by omega)).1, fun p => (bs_V_bd (a := p) (u := 0) i fun k hk => hx k (by omega)).2⟩
theorem bc_rec2 {L : Int} (hL : 0 ≤ L ∧ L ≤ 16) (hT : aTal T) (hT40 : T + 4 < 51) (hπ : PV π) (hc : c ≤ 24) (hs : s < 3) (hx : ∀ k : Int, 0 ≤ k ∧ k < c → okX (R k)) : ∀ (d i : Nat) (M : Nat → Int → Int), i + d = c → rAll π M s R c → M T 4 = L → rW M T (bs_V R L i) →
    ∃ M', x_Tal_recount_2 T s 20 c i (bM sl π M G e) = x_Tal_recount_3 T 0 (bM sl π M' G e) ∧ fr (S_v T) M M' ∧ rW M' T (bs_V R L c) := by
  intro d
  induction d with
  | zero =>
    intro i M hi hr hL4 hW
    have : i = c := by omega
    subst this
    rw [x_Tal_recount_2_eq, if_neg (by omega)]
    exact ⟨M, rfl, fr_refl, hW⟩
  | succ d ih =>
    intro i M hi hr hL4 hW
    have hi24 : 0 ≤ (i : Int) ∧ (i : Int) < 24 := by omega
    have hA := PV_a hπ hi24
    have hd := PV_rdg hπ hi24 hs
    have hin := PV_in hπ hi24
    have e2 : wr ((i : Int) + 1) = ((i + 1 : Nat) : Int) := by rw [wr_id (by omega)]; omega
    obtain ⟨A, g, f, h⟩ := bc_countVotes (sl := sl) (e := e) (π := π) (G := G) hT hd (hx i (by omega)) (hr i (by omega)) hL4 hL (by omega) hW (bdV_mono (bdV_V hx i (by omega)) (by omega))
    rw [x_Tal_recount_2_eq, if_pos (by omega), qo_rSc hπ hi24, scn_r hA, scn_q hA hs, g]
    simp only [cv_r]
    rw [e2]
    obtain ⟨M', g2, f2, h2⟩ := ih (i + 1) A (by omega) (rAll_fr hπ hc hs hr f (fun b j hb => by unfold S_v; omega)) ((f _ _ (by unfold S_v; omega)).trans hL4) h
    exact ⟨M', g2, fr_trans f f2, h2⟩
def S_tl (T : Nat) (b : Nat) (_ : Int) : Prop := T ≤ b ∧ b ≤ T + 4
theorem bc_recount (hT : aTal T) (hT40 : T + 4 < 51) (hπ : PV π) (hc : c ≤ 24) (hs : s < 3) (hx : ∀ k : Int, 0 ≤ k ∧ k < c → okX (R k)) (hr : rAll π M s R c) :
    ∃ M', d_Tal_recount T (22 + s) s 20 c (bM sl π M G e) = rI 0 (bM sl π M' G e) ∧ fr (S_tl T) M M' ∧ rTal M' T (bs_L s R c) (bs_V R (bs_L s R c) c) ∧ M' T 5 = 1 := by
  have hLb := bs_L_bd (R := R) hs hx
  have main : ∀ A : Nat → Int → Int, rAll π A s R c → A T 4 = bs_L s R c → ∃ M', x_Tal_recount_0 T s 20 c 0 (bM sl π A G e) = rI 0 (bM sl π M' G e) ∧ fr (S_tl T) A M' ∧ rTal M' T (bs_L s R c) (bs_V R (bs_L s R c) c) ∧ M' T 5 = 1 := by
    intro A hrA hA4
    obtain ⟨B, g0, f0, h0⟩ := bc_z0 (sl := sl) (e := e) (π := π) (G := G) (s := s) (c := c) (a := 20) hT 320 0 A (by omega) (fun j hj => by omega)
    obtain ⟨C, g1, f1, h1⟩ := bc_z1 (sl := sl) (e := e) (π := π) (G := G) (s := s) (c := c) (a := 20) hT 16 0 B (by omega) (fun j hj => by omega)
    have hW : rW C T (bs_V R (bs_L s R c) 0) := fun p hp => ⟨by
      rw [h1 p hp]; have := (bdV_V (R := R) (c := c) (L := bs_L s R c) hx 0 (by omega)).2 p; omega, fun v hv => by
      rw [f1 _ _ (by omega), h0 _ (by omega)]; rfl⟩
    obtain ⟨D, g2, f2, h2⟩ := bc_rec2 (sl := sl) (e := e) (π := π) (G := G) hLb hT hT40 hπ hc hs hx c 0 C (by omega) (rAll_fr (S := fun b _ => b = T + 3) hπ hc hs (rAll_fr (S := fun b _ => b = T + 1) hπ hc hs hrA f0 (fun b j hb => by omega)) f1 (fun b j hb => by omega)) ((f1 _ _ (by omega)).trans ((f0 _ _ (by omega)).trans hA4)) hW
    have hD4 : D T 4 = bs_L s R c := (f2 _ _ (by unfold S_v; omega)).trans ((f1 _ _ (by omega)).trans ((f0 _ _ (by omega)).trans hA4))
    obtain ⟨M', g3, f3, h3, h5⟩ := bc_rec3 (sl := sl) (e := e) (π := π) (G := G) (L := bs_L s R c) hT (bdV_mono (bdV_V (R := R) (c := c) (L := bs_L s R c) hx c (Nat.le_refl _)) (by omega)) 16 0 D (by omega) h2 hD4 (fun p hp => by omega)
    refine ⟨M', g0.trans (g1.trans (g2.trans g3)), fun b j hb => ?_, h3, h5⟩
    unfold S_tl at hb
    rw [f3 _ _ (by omega), f2 _ _ (by unfold S_v; omega), f1 _ _ (by omega), f0 _ _ (by omega)]
  obtain ⟨A, g, f⟩ := bc_supported (sl := sl) (e := e) (π := π) (G := G) hT hT40 hπ hc hs hx hr
  rw [d_Tal_recount_8 _ _ _ _ _ _ (tal_d hT), x_Tal_recount_eq, g]
  simp only [ci_r]
  rw [tal_p hT, tal_I hT, up_s]
  have hrA := rAll_fr (S := fun b _ => b = T + 2) hπ hc hs hr f (fun b j hb => by omega)
  have hrB : ∀ v, rAll π (up A T 4 v) s R c := fun v => rAll_fr (S := fun b _ => b = T) hπ hc hs hrA (fr_up rfl fr_refl) (fun b j hb => by omega)
  by_cases z : bs_best R c 16 = 0
  · rw [if_pos (by omega), bc_joined hπ hc hs hx (hrB _)]
    simp only [cn_r]
    rw [tal_p hT]
    obtain ⟨M', g2, f2, h⟩ := main (up (up A T 4 (bs_best R c 16 : Nat)) T 4 (bs_jl s R c)) (rAll_fr (S := fun b _ => b = T) hπ hc hs (hrB _) (fr_up rfl fr_refl) (fun b j hb => by omega)) (by rw [up_s]; unfold bs_L; rw [if_pos z])
    refine ⟨M', g2, fun b j hb => ?_, h⟩
    rw [f2 _ _ hb]
    unfold S_tl at hb
    rw [up_a (by omega), up_a (by omega), f _ _ (by omega)]
  · rw [if_neg (by omega)]
    obtain ⟨M', g2, f2, h⟩ := main (up A T 4 (bs_best R c 16 : Nat)) (hrB _) (by rw [up_s]; unfold bs_L; rw [if_neg z])
    refine ⟨M', g2, fun b j hb => ?_, h⟩
    rw [f2 _ _ hb]
    unfold S_tl at hb
    rw [up_a (by omega), f _ _ (by omega)]
end
