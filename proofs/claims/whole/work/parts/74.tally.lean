/-! THE CLASS'S TALLY ASKED FOR, AND THE QUERIES OF IT -/
section
variable {sl e : Nat} {π : Int → Nat} {M G : Nat → Int → Int} {σ : Sg} {t : Nat}
theorem cu_inv {X : Option bz_R} {a : Nat} {μ' : bz_M} (h : bz_cu X (fun μ => rR a μ) = rR a μ') : ∀ kk : bz_M → Option bz_R, bz_cu X kk = kk μ' := by
  intro kk
  unfold bz_cu at h ⊢
  split at h
  all_goals first
    | (cases h; done)
    | (injection h with h; injection h with h1 h2; subst h2; rfl)
    | simp_all [rR]
/-- a scan's reading made, as `reading` and `tally` make it -/
theorem qo_interp (h : CR σ π M) {k : Int} (hk : 0 ≤ k ∧ k < gc σ) (ht : t < 3) : ∃ M', (∀ kk : bz_M → Option bz_R, bz_cu (d_Sym_interpret (22 + t) (π k + 1) 44 (π k + (4 + 10 * t)) (bM sl π M G e)) kk = kk (bM sl π M' G e)) ∧ CR σ π M' ∧ lo867 M M' ∧ rRdg M' (π k + (4 + 10 * t)) (gR σ t k) ∧ fr (fun b j => S_i (π k + 1) (π k + (4 + 10 * t)) b j) M M' := by
  obtain ⟨M', g, c, lo, r, f⟩ := qo_reading (sl := sl) (e := e) (G := G) h hk ht
  refine ⟨M', cu_inv (a := π k + (4 + 10 * t)) ?_, c, lo, r, f⟩
  have hk24 := CR_k24 h hk
  have hπ := CR_pv h
  rw [d_E_reading_9 _ _ _ _ en_d, x_E_reading_eq, qo_scan h, if_pos hk] at g
  simp only [cv_r] at g
  rw [qo_sym, if_pos (by omega)] at g
  simp only [cv_r] at g
  rw [en_R3, qo_rSc hπ hk24, scn_r (PV_a hπ hk24), scn_q (PV_a hπ hk24) ht, en_R5, en_r21 ht, en_R3, qo_rSc hπ hk24, scn_w (PV_a hπ hk24), en_R9] at g
  exact g
theorem okX_all (h : okS σ) (ht : t < 3) : ∀ k : Int, 0 ≤ k ∧ k < ((gc σ).toNat : Int) → okX (gR σ t k) := fun k hk => okX_g h (by omega) ht
theorem gL_bd (h : okS σ) (ht : t < 3) : 0 ≤ gL σ t ∧ gL σ t ≤ 16 := bs_L_bd ht (okX_all h ht)
theorem gV_bd (h : okS σ) (ht : t < 3) : bdV (gV σ t) 7272 := by
  have := h.1
  exact bdV_mono (bdV_V (R := gR σ t) (L := gL σ t) (okX_all h ht) _ (Nat.le_refl _)) (by omega)
theorem CR_tal {M' : Nat → Int → Int} (h : CR σ π M) (ht : t < 3) (f : fr (S_tl (26 + 5 * t)) M M') (r : rTal M' (26 + 5 * t) (gL σ t) (gV σ t)) : CR σ π M' := by
  obtain ⟨h1, h2, h3, h4, h5, h6, h7, h8, h9, h10⟩ := h
  have pin : ∀ k, 0 ≤ k ∧ k < gc σ → 51 ≤ π k ∧ π k + 34 ≤ 867 := fun k hk => PV_in h7 (by have := h1.1; omega)
  refine ⟨h1, mCon_fr h2 f fun b j z => by unfold S_tl at z; omega, ⟨(f _ _ (by unfold S_tl; omega)).trans h3.1, (f _ _ (by unfold S_tl; omega)).trans h3.2⟩, fun i hi => (f _ _ (by unfold S_tl; omega)).trans (h4 i hi), rRow_fr h5 f (by unfold S_tl; omega) (fun j => by unfold S_tl; omega), fun s hs => (f _ _ (by unfold S_tl; omega)).trans (h6 s hs), h7, fun j hj => ?_, fun j s hj hs hne => ?_, fun s hs hne => ?_⟩
  · have hj' := pin j hj
    exact rRow_fr (h8 j hj) f (by unfold S_tl; omega) (fun j => by unfold S_tl; omega)
  · have hj' := pin j hj
    rw [f _ _ (by unfold S_tl; omega)] at hne
    exact rRdg_fr (h9 j s hj hs hne) f (fun b j hb => by unfold S_tl; omega)
  · by_cases z : s = t
    · subst z; exact r
    · rw [f _ _ (by unfold S_tl; omega)] at hne
      exact rTal_fr (h10 s hs hne) f (fun b j hb hb2 => by unfold S_tl; omega)
theorem qo_tally_0 (ht : t < 3) : ∀ (d i : Nat) (M : Nat → Int → Int), CR σ π M → i + d = (gc σ).toNat → rAll π M t (gR σ t) i →
    ∃ M', x_E_tally_0 16 t (26 + 5 * t) (22 + t) i (bM sl π M G e) = rR (26 + 5 * t) (bM sl π M' G e) ∧ CR σ π M' ∧ lo867 M M' ∧ rTal M' (26 + 5 * t) (gL σ t) (gV σ t) := by
  intro d
  induction d with
  | zero =>
    intro i M h hi hr
    have hc := h.1.1
    have hi' : (i : Int) = gc σ := by omega
    rw [x_E_tally_0_eq, en_I, h.2.2.1.1, if_neg (by omega), en_R3, en_I, h.2.2.1.1, ← hi']
    have hin : i = (gc σ).toNat := by omega
    subst hin
    obtain ⟨M', g, f, r, h5⟩ := bc_recount (sl := sl) (e := e) (π := π) (G := G) (a_tal ht) (by omega) (CR_pv h) (by omega) ht (okX_all h.1 ht) hr
    rw [g]
    exact ⟨M', rfl, CR_tal h ht f r, fun b j hb => f b j (by unfold S_tl; omega), r⟩
  | succ d ih =>
    intro i M h hi hr
    have hk : 0 ≤ (i : Int) ∧ (i : Int) < gc σ := by omega
    have hk24 := CR_k24 h hk
    have hπ := CR_pv h
    have hin := PV_in hπ hk24
    have e2 : wr ((i : Int) + 1) = ((i + 1 : Nat) : Int) := by rw [wr_id (by omega)]; omega
    obtain ⟨A, g, c, lo, r, f⟩ := qo_interp (sl := sl) (e := e) (G := G) h hk ht
    rw [x_E_tally_0_eq, en_I, h.2.2.1.1, if_pos hk.2, en_R3, qo_rSc hπ hk24, scn_w (PV_a hπ hk24), en_R9, en_R3, qo_rSc hπ hk24, scn_r (PV_a hπ hk24), scn_q (PV_a hπ hk24) ht, g, e2]
    obtain ⟨M', g2, c2, lo2, r2⟩ := ih (i + 1) A c (by omega) (fun j hj => by
      by_cases z : j = i
      · rw [z]; exact r
      · have hj24 : 0 ≤ j ∧ j < 24 := by omega
        have := PV_in hπ hj24
        have := PV_ne hπ hj24 hk24 z
        exact rRdg_fr (hr j (by omega)) f (fun b j hb => by unfold S_i; omega))
    exact ⟨M', g2, c2, fun b j hb => (lo2 b j hb).trans (lo b j hb), r2⟩
theorem qo_tally (h : CR σ π M) (ht : t < 3) : ∃ M', d_E_tally 16 t (bM sl π M G e) = rR (26 + 5 * t) (bM sl π M' G e) ∧ CR σ π M' ∧ lo867 M M' ∧ rTal M' (26 + 5 * t) (gL σ t) (gV σ t) := by
  have hc := h.1.1
  rw [d_E_tally_9 _ _ _ en_d, x_E_tally_eq, qo_sym, if_pos (by omega)]
  simp only [cv_r]
  rw [en_R6, en_r25 ht, tal_I (a_tal ht)]
  by_cases z : M (26 + 5 * t) 5 = 0
  · rw [if_pos z, en_R5, en_r21 ht]
    exact qo_tally_0 ht (gc σ).toNat 0 M h (by omega) (fun k hk => by omega)
  · rw [if_neg z]
    exact ⟨M, rfl, h, fun _ _ _ => rfl, h.2.2.2.2.2.2.2.2.2 t ht z⟩
theorem qo_tallyX {s : Int} (hs : ¬ (0 ≤ s ∧ s < 3)) : d_E_tally 16 s (bM sl π M G e) = rX 2 (bM sl π M G (e + 1)) := by
  rw [d_E_tally_9 _ _ _ en_d, x_E_tally_eq, qo_sym, if_neg hs]; rfl
theorem rTal_rW {T : Nat} {L : Int} {V : Vt} (r : rTal M T L V) : rW M T V := fun p hp => ⟨r.2.2.1 p hp, fun v hv => r.2.1 p v hp hv⟩
/-! the queries -/
theorem qo_length (h : CR σ π M) (ht : t < 3) : ∃ M', d_E_length 16 t (bM sl π M G e) = rI (gL σ t) (bM sl π M' G e) ∧ CR σ π M' ∧ lo867 M M' := by
  obtain ⟨M', g, c, lo, r⟩ := qo_tally (sl := sl) (e := e) (G := G) h ht
  rw [d_E_length_9 _ _ _ en_d, x_E_length_eq, g]
  simp only [cr_r]
  rw [tal_I (a_tal ht), r.1]
  exact ⟨M', rfl, c, lo⟩
theorem qo_lengthX {s : Int} (hs : ¬ (0 ≤ s ∧ s < 3)) : d_E_length 16 s (bM sl π M G e) = rX 2 (bM sl π M G (e + 1)) := by
  rw [d_E_length_9 _ _ _ en_d, x_E_length_eq, qo_tallyX hs]; rfl
theorem bs_mj0_bd {V : Vt} {p : Int} : ∀ d i : Nat, bs_mj0 V p d i = -1 ∨ ((i : Int) ≤ bs_mj0 V p d i ∧ bs_mj0 V p d i < i + d) := by
  intro d
  induction d with
  | zero => intro i; exact Or.inl rfl
  | succ d ih =>
    intro i
    rw [bs_mj0]
    split
    · omega
    · have := ih (i + 1); omega
theorem bs_mj_bd {V : Vt} {p : Int} : bs_mj V p = -1 ∨ (0 ≤ bs_mj V p ∧ bs_mj V p < 20) := by
  have := bs_mj0_bd (V := V) (p := p) 20 0
  unfold bs_mj
  omega
/-- the character of a value, or none -/
def al1 (v : Int) : Int := if 0 ≤ v ∧ v < 20 then al v else -1
theorem qo_char1 {v : Int} (h : mCon M) : x_E_characterOf v (bM sl π M G e) = rI (al1 v) (bM sl π M G e) := by
  unfold al1
  by_cases z : 0 ≤ v ∧ v < 20
  · rw [if_pos z]; exact qo_char h z
  · rw [if_neg z]; exact qo_charN z
theorem qo_voted {p : Int} (h : CR σ π M) (ht : t < 3) : ∃ M', CR σ π M' ∧ lo867 M M' ∧ (0 ≤ p ∧ p < gL σ t → d_E_voted 16 t p (bM sl π M G e) = rI (al1 (bs_mj (gV σ t) p)) (bM sl π M' G e)) ∧ (¬ (0 ≤ p ∧ p < gL σ t) → d_E_voted 16 t p (bM sl π M G e) = rX 2 (bM sl π M' G (e + 1))) := by
  obtain ⟨M', g, c, lo, r⟩ := qo_tally (sl := sl) (e := e) (G := G) h ht
  have hL := gL_bd h.1 ht
  refine ⟨M', c, lo, fun hp => ?_, fun hp => ?_⟩
  · rw [d_E_voted_9 _ _ _ _ en_d, x_E_voted_eq, g]
    simp only [cr_r]
    rw [tal_I (a_tal ht), r.1, qo_place, if_pos hp]
    simp only [cv_r]
    rw [tal_m (a_tal ht), tal_rm (a_tal ht) (by omega), r.2.2.2 p (by omega), qo_char1 c.2.1]
    rfl
  · rw [d_E_voted_9 _ _ _ _ en_d, x_E_voted_eq, g]
    simp only [cr_r]
    rw [tal_I (a_tal ht), r.1, qo_place, if_neg hp]
    rfl
theorem qo_votedX {s p : Int} (hs : ¬ (0 ≤ s ∧ s < 3)) : d_E_voted 16 s p (bM sl π M G e) = rX 2 (bM sl π M G (e + 1)) := by
  rw [d_E_voted_9 _ _ _ _ en_d, x_E_voted_eq, qo_tallyX hs]; rfl
/-- the first place without a majority -/
def bs_fdt (V : Vt) : Nat → Nat → Int
  | 0, _ => -1
  | d + 1, i => if bs_mj V i = -1 then (i : Int) else bs_fdt V d (i + 1)
def gFd (σ : Sg) (t : Nat) : Int := bs_fdt (gV σ t) (gL σ t).toNat 0
theorem bc_fd_0 {T : Nat} {L : Int} {V : Vt} (hT : aTal T) (r : rTal M T L V) (hL : 0 ≤ L ∧ L ≤ 16) : ∀ d i : Nat, (i : Int) + d = L → x_Tal_firstDoubt_0 T i (bM sl π M G e) = rI (bs_fdt V d i) (bM sl π M G e) := by
  intro d
  induction d with
  | zero =>
    intro i hi
    rw [x_Tal_firstDoubt_0_eq, tal_I hT, r.1, if_neg (by omega)]; rfl
  | succ d ih =>
    intro i hi
    have e2 : wr ((i : Int) + 1) = ((i + 1 : Nat) : Int) := by rw [wr_id (by omega)]; omega
    rw [x_Tal_firstDoubt_0_eq, tal_I hT, r.1, if_pos (by omega), tal_m hT, tal_rm hT (by omega), r.2.2.2 i (by omega), e2, bs_fdt]
    by_cases z : bs_mj V i = -1
    · rw [if_pos z, if_pos z]
    · rw [if_neg z, if_neg z]; exact ih (i + 1) (by omega)
theorem bc_fd {T : Nat} {L : Int} {V : Vt} (hT : aTal T) (r : rTal M T L V) (hL : 0 ≤ L ∧ L ≤ 16) : d_Tal_firstDoubt T (bM sl π M G e) = rI (bs_fdt V L.toNat 0) (bM sl π M G e) := by
  rw [d_Tal_firstDoubt_8 _ _ (tal_d hT), x_Tal_firstDoubt_eq]
  exact bc_fd_0 hT r hL L.toNat 0 (by omega)
theorem qo_doubtful (h : CR σ π M) (ht : t < 3) : ∃ M', d_E_doubtful 16 t (bM sl π M G e) = rI (gFd σ t) (bM sl π M' G e) ∧ CR σ π M' ∧ lo867 M M' := by
  obtain ⟨M', g, c, lo, r⟩ := qo_tally (sl := sl) (e := e) (G := G) h ht
  rw [d_E_doubtful_9 _ _ _ en_d, x_E_doubtful_eq, g]
  simp only [cr_r]
  rw [bc_fd (a_tal ht) r (gL_bd h.1 ht)]
  exact ⟨M', rfl, c, lo⟩
theorem qo_doubtfulX {s : Int} (hs : ¬ (0 ≤ s ∧ s < 3)) : d_E_doubtful 16 s (bM sl π M G e) = rX 2 (bM sl π M G (e + 1)) := by
  rw [d_E_doubtful_9 _ _ _ en_d, x_E_doubtful_eq, qo_tallyX hs]; rfl
/-- how many places have no majority -/
def bs_db (V : Vt) : Nat → Int
  | 0 => 0
  | i + 1 => if bs_mj V i = -1 then bs_db V i + 1 else bs_db V i
theorem bs_db_bd {V : Vt} : ∀ i : Nat, 0 ≤ bs_db V i ∧ bs_db V i ≤ i := by
  intro i
  induction i with
  | zero => exact ⟨Int.le_refl _, Int.le_refl _⟩
  | succ i ih => rw [bs_db]; split <;> omega
theorem bc_db_0 {T : Nat} {L : Int} {V : Vt} (hT : aTal T) (r : rTal M T L V) (hL : 0 ≤ L ∧ L ≤ 16) : ∀ d i : Nat, (i : Int) + d = L → x_Tal_doubts_0 T (bs_db V i) i (bM sl π M G e) = rI (bs_db V L.toNat) (bM sl π M G e) := by
  intro d
  induction d with
  | zero =>
    intro i hi
    have : i = L.toNat := by omega
    rw [x_Tal_doubts_0_eq, tal_I hT, r.1, if_neg (by omega), this]
  | succ d ih =>
    intro i hi
    have e2 : wr ((i : Int) + 1) = ((i + 1 : Nat) : Int) := by rw [wr_id (by omega)]; omega
    have hb := bs_db_bd (V := V) i
    have st := ih (i + 1) (by omega)
    rw [bs_db] at st
    rw [x_Tal_doubts_0_eq, tal_I hT, r.1, if_pos (by omega), tal_m hT, tal_rm hT (by omega), r.2.2.2 i (by omega), e2]
    by_cases z : bs_mj V i = -1
    · rw [if_pos z] at st; rw [if_pos z, wr_id (by omega)]; exact st
    · rw [if_neg z] at st; rw [if_neg z]; exact st
theorem bc_db {T : Nat} {L : Int} {V : Vt} (hT : aTal T) (r : rTal M T L V) (hL : 0 ≤ L ∧ L ≤ 16) : d_Tal_doubts T (bM sl π M G e) = rI (bs_db V L.toNat) (bM sl π M G e) := by
  rw [d_Tal_doubts_8 _ _ (tal_d hT), x_Tal_doubts_eq]
  exact bc_db_0 hT r hL L.toNat 0 (by omega)
end
