/-! THE CLASS'S FIELDS; A SCAN FORGOTTEN; A SCAN CHANGED; AND THE FIRST QUERIES OF BOTH -/
section
variable {sl e : Nat} {π : Int → Nat} {M G : Nat → Int → Int} {i j x : Int} {k : Int → Option bz_R} {kr : Nat → Option bz_R} {km : bz_M → Option bz_R} {r : Nat}
theorem en_t : bm_tg 16 = 9 := by decide +kernel
theorem en_d : gT (bM sl π M G e) 16 = 9 := gT_bM.trans en_t
theorem en_I : bz_fI (bM sl π M G e) 16 9 j k = k (M 16 j) := bm_fI en_t
theorem en_p : bz_pI (bM sl π M G e) 16 9 j x km = km (bM sl π (up M 16 j x) G e) := bm_pI en_t
theorem en_R0 : bz_fR (bM sl π M G e) 16 9 0 kr = kr 17 := bm_fR en_t (by decide +kernel) (by decide) (by decide)
theorem en_R2 : bz_fR (bM sl π M G e) 16 9 2 kr = kr 18 := bm_fR en_t (by decide +kernel) (by decide) (by decide)
theorem en_R3 : bz_fR (bM sl π M G e) 16 9 3 kr = kr 20 := bm_fR en_t (by decide +kernel) (by decide) (by decide)
theorem en_R5 : bz_fR (bM sl π M G e) 16 9 5 kr = kr 21 := bm_fR en_t (by decide +kernel) (by decide) (by decide)
theorem en_R6 : bz_fR (bM sl π M G e) 16 9 6 kr = kr 25 := bm_fR en_t (by decide +kernel) (by decide) (by decide)
theorem en_R7 : bz_fR (bM sl π M G e) 16 9 7 kr = kr 41 := bm_fR en_t (by decide +kernel) (by decide) (by decide)
theorem en_R8 : bz_fR (bM sl π M G e) 16 9 8 kr = kr 42 := bm_fR en_t (by decide +kernel) (by decide) (by decide)
theorem en_R9 : bz_fR (bM sl π M G e) 16 9 9 kr = kr 44 := bm_fR en_t (by decide +kernel) (by decide) (by decide)
theorem en_R10 : bz_fR (bM sl π M G e) 16 9 10 kr = kr 46 := bm_fR en_t (by decide +kernel) (by decide) (by decide)
theorem en_R11 : bz_fR (bM sl π M G e) 16 9 11 kr = kr 48 := bm_fR en_t (by decide +kernel) (by decide) (by decide)
theorem en_r17 (h : 0 ≤ i ∧ i < 60) : bz_rI (bM sl π M G e) 17 i k = k (M 17 i) := bm_rI (n := 60) (Or.inl (by decide +kernel)) (by decide +kernel) (by decide) h
theorem en_w17 (h : 0 ≤ i ∧ i < 60) : bz_wI (bM sl π M G e) 17 i x km = km (bM sl π (up M 17 i x) G e) := bm_wI (n := 60) (by decide +kernel) (by decide +kernel) (by decide) h
theorem en_r41 (h : 0 ≤ i ∧ i < 3) : bz_rB (bM sl π M G e) 41 i k = k (M 41 i) := bm_rB (n := 3) (Or.inl (by decide +kernel)) (by decide +kernel) (by decide) h
theorem en_w41 (h : 0 ≤ i ∧ i < 3) (hx : x = 0 ∨ x = 1) : bz_wB (bM sl π M G e) 41 i x km = km (bM sl π (up M 41 i x) G e) := bm_wB (n := 3) (by decide +kernel) (by decide +kernel) (by decide) h hx
theorem en_r21 {s : Nat} (hs : s < 3) : bz_rR (bM sl π M G e) 21 s kr = kr (22 + s) := by
  match s, hs with
  | 0, _ => exact bm_rR (n := 3) (by decide +kernel) (by decide +kernel) (by decide) (by decide) (by unfold bm_P; rw [if_neg (by decide)]; decide +kernel) (by decide)
  | 1, _ => exact bm_rR (n := 3) (by decide +kernel) (by decide +kernel) (by decide) (by decide) (by unfold bm_P; rw [if_neg (by decide)]; decide +kernel) (by decide)
  | 2, _ => exact bm_rR (n := 3) (by decide +kernel) (by decide +kernel) (by decide) (by decide) (by unfold bm_P; rw [if_neg (by decide)]; decide +kernel) (by decide)
theorem en_r25 {s : Nat} (hs : s < 3) : bz_rR (bM sl π M G e) 25 s kr = kr (26 + 5 * s) := by
  match s, hs with
  | 0, _ => exact bm_rR (n := 3) (by decide +kernel) (by decide +kernel) (by decide) (by decide) (by unfold bm_P; rw [if_neg (by decide)]; decide +kernel) (by decide)
  | 1, _ => exact bm_rR (n := 3) (by decide +kernel) (by decide +kernel) (by decide) (by decide) (by unfold bm_P; rw [if_neg (by decide)]; decide +kernel) (by decide)
  | 2, _ => exact bm_rR (n := 3) (by decide +kernel) (by decide +kernel) (by decide) (by decide) (by unfold bm_P; rw [if_neg (by decide)]; decide +kernel) (by decide)
theorem a_tal {s : Nat} (hs : s < 3) : aTal (26 + 5 * s) := by
  match s, hs with
  | 0, _ => exact a_26
  | 1, _ => exact a_31
  | 2, _ => exact a_36
theorem tal_I (h : aTal r) : bz_fI (bM sl π M G e) r 8 j k = k (M r j) := bm_fI h.1
theorem tal_p (h : aTal r) : bz_pI (bM sl π M G e) r 8 j x km = km (bM sl π (up M r j x) G e) := bm_pI h.1
theorem tal_b (h : aTal r) (hx : x = 0 ∨ x = 1) : bz_pB (bM sl π M G e) r 8 j x km = km (bM sl π (up M r j x) G e) := bm_pB h.1 hx
theorem scn_w (h : aScn r) : bz_fR (bM sl π M G e) r 6 0 kr = kr (r + 1) := bm_fR h.1 h.2.1.1 h.2.2.2.2.2.2.1 (by omega)
theorem scn_r (h : aScn r) : bz_fR (bM sl π M G e) r 6 1 kr = kr (r + 3) := bm_fR h.1 h.2.1.2 h.2.2.2.2.2.2.1 (by omega)
theorem scn_q (h : aScn r) {s : Nat} (hs : s < 3) : bz_rR (bM sl π M G e) (r + 3) s kr = kr (r + (4 + 10 * s)) := by
  have h1 := h.2.2.1
  have h2 := h.2.2.2.1
  have h3 := h.2.2.2.2.1
  have h4 := h.2.2.2.2.2.2.2.2
  have h5 : r ≠ 0 := h.2.2.2.2.2.2.2.1
  have e1 : bm_P π (r + 3) s = bm_pp (r + 3) s := by unfold bm_P; rw [if_neg h4]
  refine bm_rR (n := 3) (by rw [h1]; decide) h2 (by omega) (by omega) (e1.trans ?_) (by omega)
  match s, hs with
  | 0, _ => exact h3.1
  | 1, _ => exact h3.2.1
  | 2, _ => exact h3.2.2
end
section
variable {sl e : Nat} {π : Int → Nat} {M G : Nat → Int → Int} {σ : Sg}
def S_fg (a : Nat) (b : Nat) (j : Int) : Prop := ((b = a + 4 ∨ b = a + 14 ∨ b = a + 24) ∧ j = 3) ∨ ((b = 26 ∨ b = 31 ∨ b = 36) ∧ j = 5)
theorem bc_forget {a : Nat} (ha : aScn a) (h51 : 51 ≤ a) : ∃ M', d_E_forget 16 a (bM sl π M G e) = rI 0 (bM sl π M' G e) ∧ fr (S_fg a) M M' ∧ (∀ s : Nat, s < 3 → M' (a + (4 + 10 * s)) 3 = 0) ∧ ∀ s : Nat, s < 3 → M' (26 + 5 * s) 5 = 0 := by
  have d0 : aRdg (a + (4 + 10 * 0)) := ha.2.2.2.2.2.1.2.1
  have d1 : aRdg (a + (4 + 10 * 1)) := ha.2.2.2.2.2.1.2.2.1
  have d2 : aRdg (a + (4 + 10 * 2)) := ha.2.2.2.2.2.1.2.2.2
  rw [d_E_forget_9 _ _ _ en_d, x_E_forget_eq]
  have step : ∀ (s : Nat) (hs : s < 3) (A : Nat → Int → Int), aRdg (a + (4 + 10 * s)) → x_E_forget_0 16 a s (bM sl π A G e) = x_E_forget_0 16 a ((s + 1 : Nat) : Int) (bM sl π (up (up A (a + (4 + 10 * s)) 3 0) (26 + 5 * s) 5 0) G e) := by
    intro s hs A hd
    rw [x_E_forget_0_eq, if_pos (by omega), scn_r ha, scn_q ha hs, rdg_b hd (Or.inl rfl), en_R6, en_r25 hs, tal_b (a_tal hs) (Or.inl rfl), wr_id (by omega)]
    rfl
  have s0 := step 0 (by decide) M d0
  have s1 := step 1 (by decide) (up (up M (a + (4 + 10 * 0)) 3 0) (26 + 5 * 0) 5 0) d1
  have s2 := step 2 (by decide) (up (up (up (up M (a + (4 + 10 * 0)) 3 0) (26 + 5 * 0) 5 0) (a + (4 + 10 * 1)) 3 0) (26 + 5 * 1) 5 0) d2
  have s0' : x_E_forget_0 16 a 0 (bM sl π M G e) = _ := s0
  rw [s0', s1, s2, x_E_forget_0_eq, if_neg (by decide)]
  refine ⟨_, rfl, ?_, fun s hs => ?_, fun s hs => ?_⟩
  · refine fr_up ?_ (fr_up ?_ (fr_up ?_ (fr_up ?_ (fr_up ?_ (fr_up ?_ fr_refl)))))
    all_goals (unfold S_fg; omega)
  · match s, hs with
    | 0, _ => rw [up_a (by omega), up_a (by omega), up_a (by omega), up_a (by omega), up_a (by omega), up_s]
    | 1, _ => rw [up_a (by omega), up_a (by omega), up_a (by omega), up_s]
    | 2, _ => rw [up_a (by omega), up_s]
  · match s, hs with
    | 0, _ => rw [up_a (by omega), up_a (by omega), up_a (by omega), up_a (by omega), up_s]
    | 1, _ => rw [up_a (by omega), up_a (by omega), up_s]
    | 2, _ => rw [up_s]
/-- all but the readings of one scan, and the votes -/
def CX (σ : Sg) (π : Int → Nat) (M : Nat → Int → Int) (k0 : Int) : Prop :=
  okS σ ∧ mCon M ∧ (M 16 4 = gc σ ∧ M 16 1 = gtl σ) ∧ (∀ i, 0 ≤ i ∧ i < gtl σ → M 17 i = gtx σ i) ∧ rRow M 18 (gpl σ) (gpw σ) ∧ (∀ s, 0 ≤ s ∧ s < 3 → M 41 s = gk σ s) ∧ PV π ∧
  (∀ k, 0 ≤ k ∧ k < gc σ → rRow M (π k + 1) (gs σ k) (gw σ k)) ∧ ∀ (k : Int) (s : Nat), 0 ≤ k ∧ k < gc σ → k ≠ k0 → s < 3 → M (π k + (4 + 10 * s)) 3 ≠ 0 → rRdg M (π k + (4 + 10 * s)) (gR σ s k)
theorem CX_forget {k0 : Int} (hk0 : 0 ≤ k0 ∧ k0 < 24) (h : CX σ π M k0) : ∃ M', d_E_forget 16 (π k0) (bM sl π M G e) = rI 0 (bM sl π M' G e) ∧ CR σ π M' ∧ fr (S_fg (π k0)) M M' := by
  obtain ⟨h1, h2, h3, h4, h5, h6, h7, h8, h9⟩ := h
  have hin := PV_in h7 hk0
  obtain ⟨M', g, f, b1, b2⟩ := bc_forget (sl := sl) (e := e) (π := π) (M := M) (G := G) (PV_a h7 hk0) hin.1
  refine ⟨M', g, ⟨h1, ?_, ⟨?_, ?_⟩, fun i hi => ?_, ?_, fun s hs => ?_, h7, fun k hk => ?_, fun k s hk hs hne => ?_, fun s hs hne => absurd (b2 s hs) hne⟩, f⟩
  · exact mCon_fr h2 f fun b j z => by unfold S_fg at z; omega
  · rw [f _ _ (by unfold S_fg; omega)]; exact h3.1
  · rw [f _ _ (by unfold S_fg; omega)]; exact h3.2
  · rw [f _ _ (by unfold S_fg; omega)]; exact h4 i hi
  · exact rRow_fr h5 f (by unfold S_fg; omega) (fun j => by unfold S_fg; omega)
  · rw [f _ _ (by unfold S_fg; omega)]; exact h6 s hs
  · have hk24 : 0 ≤ k ∧ k < 24 := by have := h1.1; omega
    have hki := PV_in h7 hk24
    by_cases hkk : k = k0
    · subst hkk
      exact rRow_fr (h8 k hk) f (by unfold S_fg; omega) (fun j => by unfold S_fg; omega)
    · have := PV_ne h7 hk24 hk0 hkk
      exact rRow_fr (h8 k hk) f (by unfold S_fg; omega) (fun j => by unfold S_fg; omega)
  · have hk24 : 0 ≤ k ∧ k < 24 := by have := h1.1; omega
    have hki := PV_in h7 hk24
    by_cases hkk : k = k0
    · subst hkk
      exact absurd (b1 s hs) hne
    · have := PV_ne h7 hk24 hk0 hkk
      rw [f _ _ (by unfold S_fg; omega)] at hne
      exact rRdg_fr (h9 k s hk hkk hs hne) f (fun b j hb => by unfold S_fg; omega)
def sg_row (σ : Sg) (k n : Int) (w : Int → Int) : Sg := (σ.1, (fun j => if j = k then n else gs σ j), (fun j => if j = k then w else gw σ j), σ.2.2.2)
theorem sg_row_gR {k n : Int} {w : Int → Int} {s : Nat} {j : Int} (h : j ≠ k) : gR (sg_row σ k n w) s j = gR σ s j := by
  show bs_read s (if j = k then w else gw σ j) (if j = k then n else gs σ j) = _
  rw [if_neg h, if_neg h]; rfl
theorem sg_row_ok {k n : Int} {w : Int → Int} (h : okS σ) (hn : 3 ≤ n ∧ n ≤ 129 ∧ n % 2 = 1) (hw : wOK n w) : okS (sg_row σ k n w) := by
  refine ⟨h.1, fun j hj => ?_, h.2.2⟩
  show (3 ≤ (if j = k then n else gs σ j) ∧ (if j = k then n else gs σ j) ≤ 129 ∧ (if j = k then n else gs σ j) % 2 = 1) ∧ wOK (if j = k then n else gs σ j) (if j = k then w else gw σ j)
  by_cases z : j = k
  · rw [if_pos z, if_pos z]; exact ⟨hn, hw⟩
  · rw [if_neg z, if_neg z]; exact h.2.1 j hj
/-- one scan's row has changed -/
theorem CX_row {M' : Nat → Int → Int} {k0 n : Int} {w : Int → Int} (h : CR σ π M) (hk0 : 0 ≤ k0 ∧ k0 < gc σ) (hn : 3 ≤ n ∧ n ≤ 129 ∧ n % 2 = 1) (hw : wOK n w) (f : fr (fun b j => S_z π b j ∨ (π k0 + 1 ≤ b ∧ b ≤ π k0 + 2)) M M') (hr : rRow M' (π k0 + 1) n w) : CX (sg_row σ k0 n w) π M' k0 := by
  obtain ⟨h1, h2, h3, h4, h5, h6, h7, h8, h9, h10⟩ := h
  have hk024 : 0 ≤ k0 ∧ k0 < 24 := by have := h1.1; omega
  have hin := PV_in h7 hk024
  have lo : ∀ b j, (b < 42 ∧ b ≠ 28 ∧ b ≠ 33 ∧ b ≠ 38) → M' b j = M b j := fun b j hb => f b j (by
    rintro (z | z)
    · exact S_z_lo h7 hb z
    · omega)
  have blk : ∀ (k : Int), 0 ≤ k ∧ k < gc σ → k ≠ k0 → ∀ b j, (π k ≤ b ∧ b < π k + 34) → (b = π k + 1 → j ≠ 2) → ¬ (S_z π b j ∨ (π k0 + 1 ≤ b ∧ b ≤ π k0 + 2)) := by
    intro k hk hkk b j hb hne z
    have hk24 : 0 ≤ k ∧ k < 24 := by have := h1.1; omega
    rcases z with z | z
    · exact S_z_blk h7 hk24 hb hne z
    · have := PV_ne h7 hk24 hk024 hkk
      omega
  refine ⟨sg_row_ok h1 hn hw, ?_, ⟨?_, ?_⟩, fun i hi => ?_, ?_, fun s hs => ?_, h7, fun k hk => ?_, fun k s hk hkk hs hne => ?_⟩
  · refine mCon_fr h2 (S := fun b j => 42 ≤ b ∨ b = 28 ∨ b = 33 ∨ b = 38) (fun b j z => lo b j (by omega)) fun b j z => by omega
  · rw [lo _ _ (by omega)]; exact h3.1
  · rw [lo _ _ (by omega)]; exact h3.2
  · rw [lo _ _ (by omega)]; exact h4 i hi
  · exact rRow_fr h5 (S := fun b j => 42 ≤ b ∨ b = 28 ∨ b = 33 ∨ b = 38) (fun b j z => lo b j (by omega)) (by omega) (fun j => by omega)
  · rw [lo _ _ (by omega)]; exact h6 s hs
  · show rRow M' (π k + 1) (if k = k0 then n else gs σ k) (if k = k0 then w else gw σ k)
    by_cases z : k = k0
    · rw [if_pos z, if_pos z, z]; exact hr
    · rw [if_neg z, if_neg z]
      exact rRow_fr (h8 k hk) f (blk k hk z _ _ (by omega) (fun _ => by decide)) (fun j => blk k hk z _ _ (by omega) (fun y => by omega))
  · have nz : ∀ b j, π k + (4 + 10 * s) ≤ b ∧ b ≤ π k + (4 + 10 * s) + 9 → ¬ (S_z π b j ∨ (π k0 + 1 ≤ b ∧ b ≤ π k0 + 2)) := fun b j hb => blk k hk hkk b j (by omega) (fun z => by omega)
    rw [f _ _ (nz _ _ (by omega))] at hne
    rw [sg_row_gR hkk]
    exact rRdg_fr (h9 k s hk hs hne) f nz
theorem qo_scan {k : Int} (h : CR σ π M) : d_E_requireScan 16 k (bM sl π M G e) = if 0 ≤ k ∧ k < gc σ then rI 0 (bM sl π M G e) else rX 2 (bM sl π M G (e + 1)) := by
  rw [d_E_requireScan_9 _ _ _ en_d, x_E_requireScan_eq, en_I, h.2.2.1.1, sX_bM]
  by_cases q1 : k < 0
  · rw [if_pos q1, if_neg (by omega)]
  · rw [if_neg q1]
    by_cases q2 : k < gc σ
    · rw [if_pos q2, if_pos (by omega)]
    · rw [if_neg q2, if_neg (by omega)]
theorem qo_sym {s : Int} : x_E_requireSymbology s (bM sl π M G e) = if 0 ≤ s ∧ s < 3 then rI 0 (bM sl π M G e) else rX 2 (bM sl π M G (e + 1)) := by
  rw [x_E_requireSymbology_eq, sX_bM]
  by_cases q1 : s < 0
  · rw [if_pos q1, if_neg (by omega)]
  · rw [if_neg q1]
    by_cases q2 : s < 3
    · rw [if_pos q2, if_pos (by omega)]
    · rw [if_neg q2, if_neg (by omega)]
theorem qo_place {p n : Int} : x_E_requirePlace p n (bM sl π M G e) = if 0 ≤ p ∧ p < n then rI 0 (bM sl π M G e) else rX 2 (bM sl π M G (e + 1)) := by
  rw [x_E_requirePlace_eq, sX_bM]
  by_cases q1 : p < 0
  · rw [if_pos q1, if_neg (by omega)]
  · rw [if_neg q1]
    by_cases q2 : p < n
    · rw [if_pos q2, if_pos (by omega)]
    · rw [if_neg q2, if_neg (by omega)]
theorem CR_k24 {k : Int} (h : CR σ π M) (hk : 0 ≤ k ∧ k < gc σ) : 0 ≤ k ∧ k < 24 := by have := h.1.1; omega
/-- a scan by its number -/
theorem qo_rSc {k : Int} {kr : Nat → Option bz_R} (h : PV π) (hk : 0 ≤ k ∧ k < 24) : bz_rR (bM sl π M G e) 20 k kr = kr (π k) := bm_rSc hk (by have := PV_in h hk; omega)
/-! the model -/
theorem bw_cmp_lt {x y : Int} : (bz_cmp x y < 0) = (x < y) := by
  unfold bz_cmp
  by_cases h : x < y
  · rw [if_pos h]; exact propext ⟨fun _ => h, fun _ => by decide⟩
  · rw [if_neg h]
    by_cases h2 : x = y
    · rw [if_pos h2]; exact propext ⟨fun z => by omega, fun z => by omega⟩
    · rw [if_neg h2]; exact propext ⟨fun z => by omega, fun z => by omega⟩
theorem bw_cmp_gt {x y : Int} : (0 < bz_cmp x y) = (y < x) := by
  unfold bz_cmp
  by_cases h : x < y
  · rw [if_pos h]; exact propext ⟨fun z => by omega, fun z => by omega⟩
  · rw [if_neg h]
    by_cases h2 : x = y
    · rw [if_pos h2]; exact propext ⟨fun z => by omega, fun z => by omega⟩
    · rw [if_neg h2]; exact propext ⟨fun z => by omega, fun z => by decide⟩
theorem bw_isIn {v lo hi : Int} {μ : bz_M} : x_M_isIn v lo hi μ = rI (bi (decide (lo ≤ v ∧ v ≤ hi))) μ := by
  rw [x_M_isIn_eq]
  simp only [bw_cmp_lt, bw_cmp_gt]
  by_cases q1 : v < lo
  · rw [if_pos q1, decide_eq_false (by omega)]; rfl
  · rw [if_neg q1]
    by_cases q2 : hi < v
    · rw [if_pos q2, decide_eq_false (by omega)]; rfl
    · rw [if_neg q2, decide_eq_true (by omega)]; rfl
theorem bw_zB {b : Bool} {μ : bz_M} : bz_zB (bi b) μ = rI (bi b) μ := if_pos bi_01
theorem bw_isSym {s : Int} {μ : bz_M} : x_M_isSymbology s μ = rI (bi (decide (0 ≤ s ∧ s < 3))) μ := by
  rw [x_M_isSymbology_eq, bw_isIn]
  simp only [ci_r, bw_zB]
  rw [decide_eq_decide.mpr (show (0 ≤ s ∧ s ≤ 2) ↔ (0 ≤ s ∧ s < 3) by omega)]
theorem bw_isWidth {v a : Int} {μ : bz_M} : x_M_isWidth v a μ = rI (bi (decide (a ≤ v ∧ v ≤ 10000))) μ := by
  rw [x_M_isWidth_eq, bw_isIn]
  simp only [ci_r, bw_zB]
theorem bw_isScan {k : Int} (h : MR σ M) : d_M_isScan 867 k (bM sl π M G e) = rI (bi (decide (0 ≤ k ∧ k < gc σ))) (bM sl π M G e) := by
  have := h.1.1
  rw [d_M_isScan_10 _ _ _ mo_d, x_M_isScan_eq, mo_I, h.2.2.1.1, wr_id (by omega), bw_isIn]
  simp only [ci_r, bw_zB]
  rw [decide_eq_decide.mpr (show (0 ≤ k ∧ k ≤ gc σ - 1) ↔ (0 ≤ k ∧ k < gc σ) by omega)]
def S_th (b : Nat) (j : Int) : Prop := b = 867 ∧ j = 11
theorem fr_th {t : Int} : fr S_th M (up M 867 11 t) := fr_up ⟨rfl, rfl⟩ fr_refl
theorem MR_th {t : Int} (h : MR σ M) : MR σ (up M 867 11 t) := MR_fr h fr_th fun b j z => by unfold S_th at z; omega
/-- the class's part is as it was -/
def S_hi (b : Nat) (_ : Int) : Prop := 867 ≤ b
theorem fr_thhi {t : Int} : fr S_hi M (up M 867 11 t) := fr_up (show 867 ≤ 867 by decide) fr_refl
theorem bw_hasWidth {k i : Int} (h : MR σ M) : d_M_hasWidth 867 k i (bM sl π M G e) = rI (bi (decide ((0 ≤ k ∧ k < gc σ) ∧ 0 ≤ i ∧ i < gs σ k))) (bM sl π M G e) := by
  have h1 := h.1.1
  rw [d_M_hasWidth_10 _ _ _ _ mo_d, x_M_hasWidth_eq, bw_isScan h]
  simp only [ci_r, bi_eq0]
  by_cases q : 0 ≤ k ∧ k < gc σ
  · have h2 := h.2.2.2.2.2.2 k q
    have h3 := h2.1
    rw [if_neg (by rw [decide_eq_true q]; decide), mo_R1, mo_r869 (by omega), h2.2.1, wr_id (by omega), bw_isIn]
    simp only [ci_r, bi_eq0]
    by_cases q2 : 0 ≤ i ∧ i < gs σ k
    · rw [if_neg (by rw [decide_eq_true (show 0 ≤ i ∧ i ≤ gs σ k - 1 by omega)]; decide), decide_eq_true ⟨q, q2⟩]; rfl
    · rw [if_pos (decide_eq_false (by omega)), decide_eq_false (fun z => q2 z.2)]; rfl
  · rw [if_pos (decide_eq_false q), decide_eq_false (fun z => q z.1)]; rfl
theorem t_pos {X Y : Option bz_R} : (if (0 : Int) < 1 then X else Y) = X := if_pos (by decide)
theorem t_pos2 {X Y : Option bz_R} : (if (0 : Int) < 2 then X else Y) = X := if_pos (by decide)
theorem t_pos3 {X Y : Option bz_R} : (if (0 : Int) < 3 then X else Y) = X := if_pos (by decide)
theorem t_zero {X Y : Option bz_R} : (if (0 : Int) < 0 then X else Y) = Y := if_neg (by decide)
/-! scanCount, widthCount, width -/
theorem qo_scanCount (h : CR σ π M) : d_E_scanCount 16 (bM sl π M G e) = rI (gc σ) (bM sl π M G e) := by
  rw [d_E_scanCount_9 _ _ en_d, x_E_scanCount_eq, en_I, h.2.2.1.1]
theorem qm_scanCount (h : MR σ M) : ∃ M', d_M_scanCount 867 (bM sl π M G e) = rI (gc σ) (bM sl π M' G e) ∧ MR σ M' ∧ fr S_hi M M' ∧ M' 867 11 = 0 := by
  refine ⟨up M 867 11 0, ?_, MR_th h, fr_thhi, up_s⟩
  rw [d_M_scanCount_10 _ _ mo_d, x_M_scanCount_eq, mo_p, mo_I, up_i (by decide), h.2.2.1.1]
theorem qo_widthCount {k : Int} (h : CR σ π M) : d_E_widthCount 16 k (bM sl π M G e) = if 0 ≤ k ∧ k < gc σ then rI (gs σ k) (bM sl π M G e) else rX 2 (bM sl π M G (e + 1)) := by
  rw [d_E_widthCount_9 _ _ _ en_d, x_E_widthCount_eq, qo_scan h]
  by_cases q : 0 ≤ k ∧ k < gc σ
  · have hk := CR_k24 h q
    have hπ := h.2.2.2.2.2.2.1
    rw [if_pos q, if_pos q]
    simp only [cv_r]
    rw [en_R3, qo_rSc hπ hk, scn_w (PV_a hπ hk), row_I (PV_row hπ hk), (h.2.2.2.2.2.2.2.1 k q).2.1]
  · rw [if_neg q, if_neg q]; rfl
theorem qm_widthCount {k : Int} (h : MR σ M) : ∃ M', d_M_widthCount 867 k (bM sl π M G e) = rI (if 0 ≤ k ∧ k < gc σ then gs σ k else 0) (bM sl π M' G e) ∧ MR σ M' ∧ fr S_hi M M' ∧ M' 867 11 = if 0 ≤ k ∧ k < gc σ then 0 else 1 := by
  have h1 := h.1.1
  rw [d_M_widthCount_10 _ _ _ mo_d, x_M_widthCount_eq, bw_isScan h]
  simp only [ci_r, bi_eq0]
  by_cases q : 0 ≤ k ∧ k < gc σ
  · rw [if_neg (by rw [decide_eq_true q]; decide), mo_p, mo_I, up_s, t_zero, mo_R1, mo_r869 (by omega), up_a (by decide), (h.2.2.2.2.2.2 k q).2.1, if_pos q, if_pos q]
    exact ⟨_, rfl, MR_th h, fr_thhi, up_s⟩
  · rw [if_pos (decide_eq_false q), mo_p, mo_I, up_s, t_pos, if_neg q, if_neg q]
    exact ⟨_, rfl, MR_th h, fr_thhi, up_s⟩
theorem qo_width {k i : Int} (h : CR σ π M) : d_E_width 16 k i (bM sl π M G e) = if (0 ≤ k ∧ k < gc σ) ∧ 0 ≤ i ∧ i < gs σ k then rI (gw σ k i) (bM sl π M G e) else rX 2 (bM sl π M G (e + 1)) := by
  rw [d_E_width_9 _ _ _ _ en_d, x_E_width_eq, qo_scan h]
  by_cases q : 0 ≤ k ∧ k < gc σ
  · have hk := CR_k24 h q
    have hπ := h.2.2.2.2.2.2.1
    have hr := h.2.2.2.2.2.2.2.1 k q
    have hn := hr.1
    rw [if_pos q]
    simp only [cv_r]
    rw [en_R3, qo_rSc hπ hk, scn_w (PV_a hπ hk), row_I (PV_row hπ hk), hr.2.1, qo_place]
    by_cases q2 : 0 ≤ i ∧ i < gs σ k
    · rw [if_pos q2, if_pos ⟨q, q2⟩]
      simp only [cv_r]
      rw [row_w (PV_row hπ hk), row_r (PV_row hπ hk) (by omega), hr.2.2 i q2]
    · rw [if_neg q2, if_neg (fun z => q2 z.2)]; rfl
  · rw [if_neg q, if_neg (fun z => q z.1)]; rfl
theorem qm_width {k i : Int} (h : MR σ M) : ∃ M', d_M_width 867 k i (bM sl π M G e) = rI (if (0 ≤ k ∧ k < gc σ) ∧ 0 ≤ i ∧ i < gs σ k then gw σ k i else 0) (bM sl π M' G e) ∧ MR σ M' ∧ fr S_hi M M' ∧ M' 867 11 = if (0 ≤ k ∧ k < gc σ) ∧ 0 ≤ i ∧ i < gs σ k then 0 else 1 := by
  have h1 := h.1.1
  rw [d_M_width_10 _ _ _ _ mo_d, x_M_width_eq, bw_hasWidth h]
  simp only [ci_r, bi_eq0]
  by_cases q : (0 ≤ k ∧ k < gc σ) ∧ 0 ≤ i ∧ i < gs σ k
  · have hs := h.2.2.2.2.2.2 k q.1
    have hn := hs.1
    rw [if_neg (by rw [decide_eq_true q]; decide), mo_p, mo_I, up_s, t_zero, mo_R0, wr_id (x := 129 * k) (by omega), wr_id (by omega), mo_r868 (by omega), up_a (by decide), hs.2.2 i q.2, if_pos q, if_pos q]
    exact ⟨_, rfl, MR_th h, fr_thhi, up_s⟩
  · rw [if_pos (decide_eq_false q), mo_p, mo_I, up_s, t_pos, if_neg q, if_neg q]
    exact ⟨_, rfl, MR_th h, fr_thhi, up_s⟩
end
