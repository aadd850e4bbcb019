/-! addWidths, append -/
section
variable {sl e : Nat} {π : Int → Nat} {M G : Nat → Int → Int} {σ : Sg} {r : Nat} {n : Int} {w : Int → Int}
/-- a width added to a row -/
theorem bc_radd (hr : aRow r) (hw : rRow M r n w) (hn : n < 129) (x : Int) : ∃ M', d_Row_add r x (bM sl π M G e) = rI 0 (bM sl π M' G e) ∧ fr (fun b j => b = r + 1 ∨ (b = r ∧ j = 1)) M M' ∧ rRow M' r (n + 1) (fun i => if i = n then x else w i) := by
  have h0 := hw.1
  rw [d_Row_add_5 _ _ _ (row_d hr), x_Row_add_eq, row_I hr, row_w hr, row_l hr, hw.2.1, if_pos (by omega), row_w hr, row_I hr, hw.2.1, row_s hr (by omega), row_I hr, up_a (by omega), hw.2.1, wr_id (by omega), row_p hr]
  refine ⟨_, rfl, fr_up (Or.inr ⟨rfl, rfl⟩) (fr_up (Or.inl rfl) fr_refl), by omega, up_s, fun i hi => ?_⟩
  rw [up_a (by omega), up_ite]
  show _ = (if i = n then x else w i)
  by_cases z : i = n
  · rw [if_pos ⟨rfl, z⟩, if_pos z]
  · rw [if_neg (fun y => z y.2), if_neg z]; exact hw.2.2 i (by omega)
theorem rRow_ext {v : Int → Int} (hw : rRow M r n w) (h : ∀ i, 0 ≤ i ∧ i < n → w i = v i) : rRow M r n v := ⟨hw.1, hw.2.1, fun i hi => (hw.2.2 i hi).trans (h i hi)⟩
def aw (a b c d f g : Int) : Int → Int := fun i => if i = 0 then a else if i = 1 then b else if i = 2 then c else if i = 3 then d else if i = 4 then f else g
/-- the number of widths ahead of the first 0 -/
def aN (a b c d f g : Int) : Int := if a = 0 then 0 else if b = 0 then 1 else if c = 0 then 2 else if d = 0 then 3 else if f = 0 then 4 else if g = 0 then 5 else 6
theorem bc_within (hr : aRow r) {lo hi : Int} : ∀ (m : Nat) (i : Int), rRow M r n w → i + m = n → 0 ≤ i → (∀ j, 0 ≤ j ∧ j < i → lo ≤ w j ∧ w j ≤ hi) → ∃ b : Bool, x_Row_isWithin_0 r lo hi i (bM sl π M G e) = rI (bi b) (bM sl π M G e) ∧ (b = true ↔ ∀ j, 0 ≤ j ∧ j < n → lo ≤ w j ∧ w j ≤ hi) := by
  intro m
  induction m with
  | zero =>
    intro i hw hi0 h0 h
    rw [x_Row_isWithin_0_eq, row_I hr, hw.2.1, if_neg (by omega)]
    exact ⟨true, rfl, fun _ j hj => h j (by omega), fun _ => rfl⟩
  | succ m ih =>
    intro i hw hi0 h0 h
    have hn := hw.1
    rw [x_Row_isWithin_0_eq, row_I hr, hw.2.1, if_pos (by omega), row_w hr, row_r hr (by omega), hw.2.2 i (by omega), row_w hr, row_r hr (by omega), hw.2.2 i (by omega), wr_id (by omega)]
    by_cases z1 : w i < lo
    · rw [if_pos z1]
      exact ⟨false, rfl, fun z => (by cases z), fun z => (by have := z i (by omega); omega)⟩
    · rw [if_neg z1]
      by_cases z2 : hi < w i
      · rw [if_pos z2]
        exact ⟨false, rfl, fun z => (by cases z), fun z => (by have := z i (by omega); omega)⟩
      · rw [if_neg z2]
        refine ih (i + 1) hw (by omega) (by omega) fun j hj => ?_
        by_cases z : j = i
        · rw [z]; omega
        · exact h j (by omega)
def ok6 (a b c d f g : Int) : Prop := (0 ≤ a ∧ a ≤ 10000) ∧ (0 ≤ b ∧ b ≤ 10000) ∧ (0 ≤ c ∧ c ≤ 10000) ∧ (0 ≤ d ∧ d ≤ 10000) ∧ (0 ≤ f ∧ f ≤ 10000) ∧ 0 ≤ g ∧ g ≤ 10000
theorem ok6_iff {a b c d f g : Int} : ok6 a b c d f g ↔ ∀ j, 0 ≤ j ∧ j < 6 → 0 ≤ aw a b c d f g j ∧ aw a b c d f g j ≤ 10000 := by
  unfold aw
  constructor
  · rintro ⟨h0, h1, h2, h3, h4, h5⟩ j hj
    repeat' split
    all_goals omega
  · intro h
    exact ⟨h 0 (by decide), h 1 (by decide), h 2 (by decide), h 3 (by decide), h 4 (by decide), h 5 (by decide)⟩
theorem bc_cbz_step (hr : aRow r) (hw : rRow M r n w) {i : Int} (h0 : 0 ≤ i ∧ i < n) : x_Row_countBeforeZero_0 r i (bM sl π M G e) = if w i = 0 then rI i (bM sl π M G e) else x_Row_countBeforeZero_0 r (i + 1) (bM sl π M G e) := by
  have hn := hw.1
  rw [x_Row_countBeforeZero_0_eq, row_I hr, hw.2.1, if_pos h0.2, row_w hr, row_r hr (by omega), hw.2.2 i h0, wr_id (by omega)]
theorem bc_cbz (hr : aRow r) {a b c d f g : Int} (hw : rRow M r 6 (aw a b c d f g)) : d_Row_countBeforeZero r (bM sl π M G e) = rI (aN a b c d f g) (bM sl π M G e) := by
  rw [d_Row_countBeforeZero_5 _ _ (row_d hr), x_Row_countBeforeZero_eq, bc_cbz_step hr hw (by decide), show (0 : Int) + 1 = 1 from rfl, bc_cbz_step hr hw (i := 1) (by decide), show (1 : Int) + 1 = 2 from rfl, bc_cbz_step hr hw (i := 2) (by decide), show (2 : Int) + 1 = 3 from rfl, bc_cbz_step hr hw (i := 3) (by decide), show (3 : Int) + 1 = 4 from rfl, bc_cbz_step hr hw (i := 4) (by decide), show (4 : Int) + 1 = 5 from rfl, bc_cbz_step hr hw (i := 5) (by decide), show (5 : Int) + 1 = 6 from rfl, x_Row_countBeforeZero_0_eq, row_I hr, hw.2.1, if_neg (show ¬ (6 : Int) < 6 by decide)]
  rw [show aw a b c d f g 0 = a from rfl, show aw a b c d f g 1 = b from rfl, show aw a b c d f g 2 = c from rfl, show aw a b c d f g 3 = d from rfl, show aw a b c d f g 4 = f from rfl, show aw a b c d f g 5 = g from rfl]
  unfold aN
  repeat' split
  all_goals rfl
theorem aN_bd {a b c d f g : Int} : 0 ≤ aN a b c d f g ∧ aN a b c d f g ≤ 6 := by
  unfold aN
  repeat' split
  all_goals omega
theorem aN_pos {a b c d f g i : Int} (h : ok6 a b c d f g) (hi : 0 ≤ i ∧ i < aN a b c d f g) : 1 ≤ aw a b c d f g i ∧ aw a b c d f g i ≤ 10000 := by
  obtain ⟨h0, h1, h2, h3, h4, h5⟩ := h
  unfold aN at hi
  unfold aw
  split at hi
  · omega
  · split at hi
    · split <;> omega
    · split at hi
      · repeat' split
        all_goals omega
      · split at hi
        · repeat' split
          all_goals omega
        · split at hi
          · repeat' split
            all_goals omega
          · split at hi
            · repeat' split
              all_goals omega
            · repeat' split
              all_goals omega
def ggP (σ : Sg) (a b c d f g : Int) : Sg := (σ.1, σ.2.1, σ.2.2.1, σ.2.2.2.1, σ.2.2.2.2.1, gpl σ + aN a b c d f g, (fun i => if i < gpl σ then gpw σ i else aw a b c d f g (i - gpl σ)), gk σ)
theorem ggP_ok {a b c d f g : Int} (h : okS σ) (h6 : ok6 a b c d f g) (hn : gpl σ + aN a b c d f g ≤ 129) : okS (ggP σ a b c d f g) := by
  have hb := aN_bd (a := a) (b := b) (c := c) (d := d) (f := f) (g := g)
  refine ⟨h.1, h.2.1, h.2.2.1, h.2.2.2.1, ?_, fun i hi => ?_, h.2.2.2.2.2.2⟩
  · have := h.2.2.2.2.1
    show 0 ≤ gpl σ + aN a b c d f g ∧ gpl σ + aN a b c d f g ≤ 129
    omega
  · have hi' : 0 ≤ i ∧ i < gpl σ + aN a b c d f g := hi
    show 1 ≤ (if i < gpl σ then gpw σ i else aw a b c d f g (i - gpl σ)) ∧ (if i < gpl σ then gpw σ i else aw a b c d f g (i - gpl σ)) ≤ 10000
    by_cases z : i < gpl σ
    · rw [if_pos z]; exact h.2.2.2.2.2.1 i (by omega)
    · rw [if_neg z]; exact aN_pos h6 (by omega)
theorem bc_aw_0 {a b c d f g : Int} {k : Int} (hk : 0 ≤ k ∧ k ≤ 6) : ∀ (m : Nat) (i : Int) (M : Nat → Int → Int), i + m = k → 0 ≤ i → rRow M 42 6 (aw a b c d f g) → rRow M 18 (gpl σ + i) (fun j => if j < gpl σ then gpw σ j else aw a b c d f g (j - gpl σ)) → gpl σ + k ≤ 129 → 0 ≤ gpl σ →
    ∃ M', x_E_addWidths_0 16 k i (bM sl π M G e) = rI (gpl σ + k) (bM sl π M' G e) ∧ fr (fun b j => b = 19 ∨ (b = 18 ∧ j = 1)) M M' ∧ rRow M' 18 (gpl σ + k) (fun j => if j < gpl σ then gpw σ j else aw a b c d f g (j - gpl σ)) := by
  intro m
  induction m with
  | zero =>
    intro i M hi h0 h42 h18 hk9 hp
    rw [x_E_addWidths_0_eq, if_neg (by omega), en_R2, row_I a_18, h18.2.1, show i = k by omega]
    rw [show i = k by omega] at h18
    exact ⟨M, rfl, fr_refl, h18⟩
  | succ m ih =>
    intro i M hi h0 h42 h18 hk9 hp
    rw [x_E_addWidths_0_eq, if_pos (by omega), en_R2, en_R8, row_w a_42, row_r a_42 (by omega), h42.2.2 i (by omega), wr_id (by omega)]
    obtain ⟨M1, g1, f1, r1⟩ := bc_radd (sl := sl) (e := e) (π := π) (G := G) a_18 h18 (by omega) (aw a b c d f g i)
    rw [g1]
    simp only [cv_r]
    obtain ⟨M2, g2, f2, r2⟩ := ih (i + 1) M1 (by omega) (by omega) (rRow_fr h42 f1 (by omega) (fun j => by omega)) (by
      rw [show gpl σ + (i + 1) = gpl σ + i + 1 by omega]
      refine rRow_ext r1 fun j hj => ?_
      by_cases z : j = gpl σ + i
      · rw [if_pos z, if_neg (by omega), z, show gpl σ + i - gpl σ = i by omega]
      · rw [if_neg z]) hk9 hp
    exact ⟨M2, g2, fr_trans f1 f2, r2⟩
theorem qo_addWidths {a b c d f g : Int} (h : CR σ π M) :
    (ok6 a b c d f g → gpl σ + aN a b c d f g ≤ 129 → ∃ M', d_E_addWidths 16 a b c d f g (bM sl π M G e) = rI (gpl σ + aN a b c d f g) (bM sl π M' G e) ∧ CR (ggP σ a b c d f g) π M' ∧ ∀ b j, 867 ≤ b → M' b j = M b j) ∧
    (ok6 a b c d f g → ¬ gpl σ + aN a b c d f g ≤ 129 → ∃ M', d_E_addWidths 16 a b c d f g (bM sl π M G e) = rX 1 (bM sl π M' G (e + 1)) ∧ CR σ π M' ∧ ∀ b j, 867 ≤ b → M' b j = M b j) ∧
    (¬ ok6 a b c d f g → ∃ M', d_E_addWidths 16 a b c d f g (bM sl π M G e) = rX 3 (bM sl π M' G (e + 1)) ∧ CR σ π M' ∧ ∀ b j, 867 ≤ b → M' b j = M b j) := by
  have hN := aN_bd (a := a) (b := b) (c := c) (d := d) (f := f) (g := g)
  have hp0 := h.1.2.2.2.2.1
  rw [d_E_addWidths_9 _ _ _ _ _ _ _ _ en_d, x_E_addWidths_eq, en_R8, row_p a_42]
  have h0 : rRow (up M 42 1 0) 42 0 (aw a b c d f g) := ⟨by decide, up_s, fun i hi => by omega⟩
  have f0 : fr (fun b j => b = 43 ∨ (b = 42 ∧ j = 1)) M (up M 42 1 0) := fr_up (Or.inr ⟨rfl, rfl⟩) fr_refl
  have step : ∀ (A : Nat → Int → Int) (i x : Int), 0 ≤ i ∧ i < 6 → rRow A 42 i (aw a b c d f g) → x = aw a b c d f g i → ∃ A', d_Row_add 42 x (bM sl π A G e) = rI 0 (bM sl π A' G e) ∧ fr (fun b j => b = 43 ∨ (b = 42 ∧ j = 1)) A A' ∧ rRow A' 42 (i + 1) (aw a b c d f g) := by
    intro A i x hi hA hx
    obtain ⟨A', g1, f1, r1⟩ := bc_radd (sl := sl) (e := e) (π := π) (G := G) a_42 hA (by omega) x
    refine ⟨A', g1, f1, rRow_ext r1 fun j hj => ?_⟩
    by_cases z : j = i
    · rw [if_pos z, z, hx]
    · rw [if_neg z]
  obtain ⟨M1, g1, f1, r1⟩ := step _ 0 a (by decide) h0 rfl
  obtain ⟨M2, g2, f2, r2⟩ := step M1 1 b (by decide) r1 rfl
  obtain ⟨M3, g3, f3, r3⟩ := step M2 2 c (by decide) r2 rfl
  obtain ⟨M4, g4, f4, r4⟩ := step M3 3 d (by decide) r3 rfl
  obtain ⟨M5, g5, f5, r5⟩ := step M4 4 f (by decide) r4 rfl
  obtain ⟨M6, g6, f6, r6⟩ := step M5 5 g (by decide) r5 rfl
  have r6 : rRow M6 42 6 (aw a b c d f g) := r6
  have fa : fr (fun b j => b = 43 ∨ (b = 42 ∧ j = 1)) M M6 := fr_trans f0 (fr_trans f1 (fr_trans f2 (fr_trans f3 (fr_trans f4 (fr_trans f5 f6)))))
  have c6 : CR σ π M6 := CR_fr h (fr_mono (fun b j z => Or.inr (Or.inl (by omega))) fa)
  have h6 : ∀ b j, 867 ≤ b → M6 b j = M b j := fun b j hb => fa b j (by omega)
  obtain ⟨w, gw', hw⟩ := bc_within (sl := sl) (e := e) (π := π) (G := G) (M := M6) (r := 42) (n := 6) (w := aw a b c d f g) (lo := 0) (hi := 10000) a_42 6 0 r6 (by decide) (by decide) (fun j hj => by omega)
  rw [en_R8, g1]
  simp only [cv_r]
  rw [en_R8, g2]
  simp only [cv_r]
  rw [en_R8, g3]
  simp only [cv_r]
  rw [en_R8, g4]
  simp only [cv_r]
  rw [en_R8, g5]
  simp only [cv_r]
  rw [en_R8, g6]
  simp only [cv_r]
  rw [en_R8, d_Row_isWithin_5 _ _ _ _ (row_d a_42), x_Row_isWithin_eq, gw']
  simp only [ci_r, bi_eq0]
  have hw6 := hw.trans ok6_iff.symm
  refine ⟨fun q q2 => ?_, fun q q2 => ?_, fun q => ?_⟩
  · rw [hw6.mpr q, if_neg (by decide), en_R8, bc_cbz a_42 r6]
    simp only [ci_r]
    rw [en_R2, row_I a_18, c6.2.2.2.2.1.2.1, wr_id (by omega), if_neg (by omega)]
    obtain ⟨M7, g7, f7, r7⟩ := bc_aw_0 (sl := sl) (e := e) (π := π) (G := G) (σ := σ) (k := aN a b c d f g) hN (aN a b c d f g).toNat 0 M6 (by omega) (by decide) r6 (by
      rw [Int.add_zero]
      refine rRow_ext c6.2.2.2.2.1 fun j hj => ?_
      rw [if_pos hj.2]) q2 hp0.1
    rw [g7]
    obtain ⟨h1, h2, h3, h4, h5, h6', h7, h8, h9, h10⟩ := c6
    have pin : ∀ k, 0 ≤ k ∧ k < gc σ → 51 ≤ π k ∧ π k + 34 ≤ 867 := fun k hk => PV_in h7 (by have := h1.1; omega)
    refine ⟨M7, rfl, ⟨ggP_ok h1 q q2, mCon_fr h2 f7 fun b j z => by omega, ⟨(f7 _ _ (by omega)).trans h3.1, (f7 _ _ (by omega)).trans h3.2⟩, fun i hi => (f7 _ _ (by omega)).trans (h4 i hi), r7, fun s hs => (f7 _ _ (by omega)).trans (h6' s hs), h7, fun k hk => ?_, fun k s hk hs hne => ?_, fun s hs hne => ?_⟩, fun b j hb => (f7 _ _ (by omega)).trans (h6 b j hb)⟩
    · have := pin k hk
      exact rRow_fr (h8 k hk) f7 (by omega) (fun j => by omega)
    · have := pin k hk
      rw [f7 _ _ (by omega)] at hne
      exact rRdg_fr (h9 k s hk hs hne) f7 (fun b j hb => by omega)
    · rw [f7 _ _ (by omega)] at hne
      exact rTal_fr (h10 s hs hne) f7 (fun b j hb hb2 => by omega)
  · rw [hw6.mpr q, if_neg (by decide), en_R8, bc_cbz a_42 r6]
    simp only [ci_r]
    rw [en_R2, row_I a_18, c6.2.2.2.2.1.2.1, wr_id (by omega), if_pos (by omega), sX_bM]
    exact ⟨M6, rfl, c6, h6⟩
  · have : w = false := by
      cases w with
      | false => rfl
      | true => exact absurd (hw6.mp rfl) q
    rw [this, if_pos rfl, sX_bM]
    exact ⟨M6, rfl, c6, h6⟩
theorem bw_aw_2 {a b c d f g k : Int} (hk : 0 ≤ k ∧ k ≤ 6) : ∀ (m : Nat) (i : Int) (M : Nat → Int → Int), i + m = k → 0 ≤ i → M 867 9 = gpl σ + i → (∀ j, 0 ≤ j ∧ j < gpl σ + i → M 870 j = if j < gpl σ then gpw σ j else aw a b c d f g (j - gpl σ)) → gpl σ + k ≤ 129 → 0 ≤ gpl σ →
    ∃ M', x_M_addWidths_2 867 a b c d f g k i (bM sl π M G e) = rI (gpl σ + k) (bM sl π M' G e) ∧ fr (fun b j => b = 870 ∨ (b = 867 ∧ j = 9)) M M' ∧ M' 867 9 = gpl σ + k ∧ ∀ j, 0 ≤ j ∧ j < gpl σ + k → M' 870 j = if j < gpl σ then gpw σ j else aw a b c d f g (j - gpl σ) := by
  intro m
  induction m with
  | zero =>
    intro i M hi h0 h9 h18 hk9 hp
    have e1 : i = k := by omega
    subst e1
    rw [x_M_addWidths_2_eq, if_neg (by omega), mo_I, h9]
    exact ⟨M, rfl, fr_refl, h9, h18⟩
  | succ m ih =>
    intro i M hi h0 h9 h18 hk9 hp
    have step : ∀ x, x = aw a b c d f g i → ∃ M', (bz_wI (bM sl π M G e) 870 (gpl σ + i) x fun μ3 => bz_fI μ3 867 10 9 fun v4 => bz_pI μ3 867 10 9 (wr (v4 + 1)) fun μ5 => x_M_addWidths_2 867 a b c d f g k (i + 1) μ5) = rI (gpl σ + k) (bM sl π M' G e) ∧ fr (fun b j => b = 870 ∨ (b = 867 ∧ j = 9)) M M' ∧ M' 867 9 = gpl σ + k ∧ ∀ j, 0 ≤ j ∧ j < gpl σ + k → M' 870 j = if j < gpl σ then gpw σ j else aw a b c d f g (j - gpl σ) := by
      intro x hx
      rw [mo_w870 (by omega), mo_I, up_a (by decide), h9, wr_id (by omega), mo_p]
      obtain ⟨M', g1, f1, u1, u2⟩ := ih (i + 1) (up (up M 870 (gpl σ + i) x) 867 9 (gpl σ + i + 1)) (by omega) (by omega) (by rw [up_s]; omega) (fun j hj => by
        rw [up_a (by decide)]
        by_cases z : j = gpl σ + i
        · rw [z, up_s, if_neg (by omega), hx, show gpl σ + i - gpl σ = i by omega]
        · rw [up_i z]; exact h18 j (by omega)) hk9 hp
      exact ⟨M', g1, fr_trans (fr_up (Or.inr ⟨rfl, rfl⟩) (fr_up (Or.inl rfl) fr_refl)) f1, u1, u2⟩
    rw [x_M_addWidths_2_eq, if_pos (by omega), mo_R2, mo_I, h9, wr_id (x := i + 1) (by omega)]
    by_cases z0 : i = 0
    · rw [if_pos z0]; exact step a (by unfold aw; rw [if_pos z0])
    · rw [if_neg z0]
      by_cases z1 : i = 1
      · rw [if_pos z1]; exact step b (by unfold aw; rw [if_neg z0, if_pos z1])
      · rw [if_neg z1]
        by_cases z2 : i = 2
        · rw [if_pos z2]; exact step c (by unfold aw; rw [if_neg z0, if_neg z1, if_pos z2])
        · rw [if_neg z2]
          by_cases z3 : i = 3
          · rw [if_pos z3]; exact step d (by unfold aw; rw [if_neg z0, if_neg z1, if_neg z2, if_pos z3])
          · rw [if_neg z3]
            by_cases z4 : i = 4
            · rw [if_pos z4]; exact step f (by unfold aw; rw [if_neg z0, if_neg z1, if_neg z2, if_neg z3, if_pos z4])
            · rw [if_neg z4]; exact step g (by unfold aw; rw [if_neg z0, if_neg z1, if_neg z2, if_neg z3, if_neg z4])
theorem qm_addWidths {a b c d f g : Int} (h : MR σ M) :
    (ok6 a b c d f g → gpl σ + aN a b c d f g ≤ 129 → ∃ M', d_M_addWidths 867 a b c d f g (bM sl π M G e) = rI (gpl σ + aN a b c d f g) (bM sl π M' G e) ∧ MR (ggP σ a b c d f g) M' ∧ fr S_hi M M' ∧ M' 867 11 = 0) ∧
    (ok6 a b c d f g → ¬ gpl σ + aN a b c d f g ≤ 129 → d_M_addWidths 867 a b c d f g (bM sl π M G e) = rI 0 (bM sl π (up M 867 11 2) G e)) ∧
    (¬ ok6 a b c d f g → d_M_addWidths 867 a b c d f g (bM sl π M G e) = rI 0 (bM sl π (up M 867 11 1) G e)) := by
  have hN := aN_bd (a := a) (b := b) (c := c) (d := d) (f := f) (g := g)
  have hp0 := h.1.2.2.2.2.1
  have e0 : ∀ v : Int, x_M_addWidths_0 867 a b c d f g v (bM sl π M G e) = x_M_addWidths_1 867 a b c d f g v (aN a b c d f g) (bM sl π M G e) := by
    intro v
    rw [x_M_addWidths_0_eq]
    unfold aN
    repeat' split
    all_goals rfl
  have e1 : d_M_addWidths 867 a b c d f g (bM sl π M G e) = x_M_addWidths_1 867 a b c d f g (if (0 ≤ a ∧ a ≤ 10000) ∧ (0 ≤ b ∧ b ≤ 10000) ∧ (0 ≤ c ∧ c ≤ 10000) ∧ (0 ≤ d ∧ d ≤ 10000) ∧ (0 ≤ f ∧ f ≤ 10000) ∧ 0 ≤ g ∧ g ≤ 10000 then 1 else 0) (aN a b c d f g) (bM sl π M G e) := by
    rw [d_M_addWidths_10 _ _ _ _ _ _ _ _ mo_d, x_M_addWidths_eq]
    simp only [bw_isWidth, ci_r, bi_eq0, e0, decide_eq_false_iff_not]
    by_cases z0 : 0 ≤ a ∧ a ≤ 10000
    · rw [if_neg (fun y => y z0)]
      by_cases z1 : 0 ≤ b ∧ b ≤ 10000
      · rw [if_neg (fun y => y z1)]
        by_cases z2 : 0 ≤ c ∧ c ≤ 10000
        · rw [if_neg (fun y => y z2)]
          by_cases z3 : 0 ≤ d ∧ d ≤ 10000
          · rw [if_neg (fun y => y z3)]
            by_cases z4 : 0 ≤ f ∧ f ≤ 10000
            · rw [if_neg (fun y => y z4)]
              by_cases z5 : 0 ≤ g ∧ g ≤ 10000
              · rw [if_neg (fun y => y z5), if_pos ⟨z0, z1, z2, z3, z4, z5⟩]
              · rw [if_pos z5, if_neg (fun y => z5 y.2.2.2.2.2)]
            · rw [if_pos z4, if_neg (fun y => z4 y.2.2.2.2.1)]
          · rw [if_pos z3, if_neg (fun y => z3 y.2.2.2.1)]
        · rw [if_pos z2, if_neg (fun y => z2 y.2.2.1)]
      · rw [if_pos z1, if_neg (fun y => z1 y.2.1)]
    · rw [if_pos z0, if_neg (fun y => z0 y.1)]
  rw [e1, x_M_addWidths_1_eq, mo_p, mo_I, up_s, t_pos, mo_I, h.2.2.1.2.1, wr_id (by omega), mo_p, mo_I, up_s, t_pos2, mo_p, mo_I, up_s, t_zero]
  refine ⟨fun q q2 => ?_, fun q q2 => ?_, fun q => ?_⟩
  · rw [if_neg (show ¬ (if (0 ≤ a ∧ a ≤ 10000) ∧ (0 ≤ b ∧ b ≤ 10000) ∧ (0 ≤ c ∧ c ≤ 10000) ∧ (0 ≤ d ∧ d ≤ 10000) ∧ (0 ≤ f ∧ f ≤ 10000) ∧ 0 ≤ g ∧ g ≤ 10000 then (1 : Int) else 0) = 0 by have q' := q; unfold ok6 at q'; rw [if_pos q']; decide), if_neg (by omega)]
    obtain ⟨M', g1, f1, u1, u2⟩ := bw_aw_2 (sl := sl) (e := e) (π := π) (G := G) (σ := σ) (a := a) (b := b) (c := c) (d := d) (f := f) (g := g) (k := aN a b c d f g) hN (aN a b c d f g).toNat 0 (up M 867 11 0) (by omega) (by decide) (by rw [up_i (by decide), h.2.2.1.2.1]; omega) (fun j hj => by
      rw [up_a (by decide), if_pos (by omega)]; exact h.2.2.2.2.1 j (by omega)) q2 hp0.1
    have fa : fr (fun b j => b = 870 ∨ (b = 867 ∧ (j = 9 ∨ j = 11))) M M' := fr_trans (fr_up (by omega) fr_refl) (fr_mono (fun b j z => by omega) f1)
    obtain ⟨h1, h2, ⟨h3, h3', h3''⟩, h4, h5, h6, h7⟩ := h
    refine ⟨M', g1, ⟨ggP_ok h1 q q2, mMod_fr h2 fa fun b j z => by omega, ⟨(fa _ _ (by omega)).trans h3, u1, (fa _ _ (by omega)).trans h3''⟩, fun i hi => (fa _ _ (by omega)).trans (h4 i hi), u2, fun s hs => (fa _ _ (by omega)).trans (h6 s hs), fun k hk => mScan_fr (h7 k hk) fa fun j => by omega⟩, fr_mono (fun b j z => by unfold S_hi; omega) fa, ?_⟩
    rw [f1 _ _ (by omega), up_s]
  · rw [if_neg (show ¬ (if (0 ≤ a ∧ a ≤ 10000) ∧ (0 ≤ b ∧ b ≤ 10000) ∧ (0 ≤ c ∧ c ≤ 10000) ∧ (0 ≤ d ∧ d ≤ 10000) ∧ (0 ≤ f ∧ f ≤ 10000) ∧ 0 ≤ g ∧ g ≤ 10000 then (1 : Int) else 0) = 0 by have q' := q; unfold ok6 at q'; rw [if_pos q']; decide), if_pos (by omega)]
  · rw [if_pos (show (if (0 ≤ a ∧ a ≤ 10000) ∧ (0 ≤ b ∧ b ≤ 10000) ∧ (0 ≤ c ∧ c ≤ 10000) ∧ (0 ≤ d ∧ d ≤ 10000) ∧ (0 ≤ f ∧ f ≤ 10000) ∧ 0 ≤ g ∧ g ≤ 10000 then (1 : Int) else 0) = 0 from if_neg q)]
end
