/-! THE CONSTRUCTORS, 3 -/
section
variable {sl n r a c v : Nat} {M G : Nat → Int → Int} {U : List (Nat × Int × Nat)} {V : List (Nat × Int × Int)} {i j x : Int}
theorem T_seg : ∀ q, q < 24 → ((bm_T 0).drop (51 + 34 * q)).take 34 = bm_Lscan := by decide +kernel
theorem seg_at {l : List (Nat × Nat)} {a m d : Nat} (hd : d < m) : ((l.drop a).take m).getD d (0, 0) = l.getD (a + d) (0, 0) := by
  rw [List.getD_eq_getElem?_getD, List.getD_eq_getElem?_getD, List.getElem?_take, if_pos hd, List.getElem?_drop]
theorem lyt_q (q : Nat) (hq : q < 24) (d : Nat) (hd : d < 34) : bm_tg (51 + 34 * q + d) = (bm_Lscan.getD d (0, 0)).1 ∧ bm_ln (51 + 34 * q + d) = (bm_Lscan.getD d (0, 0)).2 := by
  have h := seg_at (l := bm_T 0) (a := 51 + 34 * q) hd
  rw [T_seg q hq] at h
  unfold bm_tg bm_ln
  rw [h]
  exact ⟨rfl, rfl⟩
theorem Lscan_len : bm_Lscan.length = 34 := by decide +kernel
def uL (U : List (Nat × Int × Nat)) : Nat → List (Nat × Int × Nat)
  | 0 => U
  | q + 1 => (20, (q : Int), 51 + 34 * q) :: (scU (51 + 34 * q) ++ uL U q)
theorem lk_app {U W : List (Nat × Int × Nat)} {a : Nat} {i : Int} (h : ∀ u ∈ W, u.1 ≠ a) : lkP (W ++ U) a i = lkP U a i := by
  induction W with
  | nil => rfl
  | cons u W ih =>
    rw [List.cons_append, lkP, if_neg (fun z => h u List.mem_cons_self z.1.symm)]
    exact ih fun w hw => h w (List.mem_cons_of_mem _ hw)
theorem scU_16 {b : Nat} (hb : 51 ≤ b) : ∀ u ∈ scU b, u.1 ≠ 16 := by
  intro u hu
  simp only [scU, rgU, List.cons_append, List.nil_append, List.mem_cons, List.not_mem_nil, or_false] at hu
  rcases hu with z | z | z | z | z | z | z | z | z | z | z | z | z | z | z | z | z | z | z | z | z | z | z | z | z | z | z | z | z | z | z | z | z
  all_goals (subst z; show _ ≠ 16; omega)
theorem uL_16 {U : List (Nat × Int × Nat)} {i : Int} : ∀ q, lkP (uL U q) 16 i = lkP U 16 i := by
  intro q
  induction q with
  | zero => rfl
  | succ q ih =>
    rw [uL, lkP, if_neg (fun z => absurd (show 16 = 20 from z.1) (by decide)), lk_app (scU_16 (by omega))]
    exact ih
theorem k_loop (hU : lkP U 16 3 = some 20) : ∀ (d q : Nat), q + d = 24 → x_E_new_0 16 q (kS sl M G (51 + 34 * q) (uL U q) V) = rI 0 (kS sl M G 867 (uL U 24) V) := by
  intro d
  induction d with
  | zero =>
    intro q hq
    have : q = 24 := by omega
    subst this
    rw [x_E_new_0_eq, if_neg (by omega)]
  | succ d ih =>
    intro q hq
    have e2 : wr ((q : Int) + 1) = ((q + 1 : Nat) : Int) := by rw [wr_id (by omega)]; omega
    have hl : lyt (51 + 34 * q) bm_Lscan := fun d hd => lyt_q q (by omega) d (by rw [Lscan_len] at hd; exact hd)
    have h0 := hl 0 (by decide)
    rw [Nat.add_zero] at h0
    have h6 : bm_tg (51 + 34 * q) = 6 ∧ bm_ln (51 + 34 * q) = 0 := h0
    have hv : aP (uL U q) 16 3 = 20 := by
      unfold aP
      rw [uL_16, hU]; rfl
    rw [x_E_new_0_eq, if_pos (by omega), k_fR (by omega) (by decide +kernel) hv (by decide), k_nw (by omega) (by omega), k_scn (by omega) hl, cu_r, k_wR (by omega) (by decide) (Or.inl ⟨by decide +kernel, h6.1⟩) (by rw [show bm_ln 20 = 24 by decide +kernel]; omega), e2]
    exact ih (q + 1) (by omega)
end
