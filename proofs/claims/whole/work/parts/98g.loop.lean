/-! THE LAW'S LOOP (by program) -/
section
variable {sl e n : Nat} {π : Int → Nat} {M G : Nat → Int → Int} {σ : Sg} {i : Int}
theorem sw_all {v : Int} (hi : (0 ≤ i ∧ i + 7 ≤ (sl : Int)) ∧ (sl : Int) ≤ 3584) (F : ∀ σ' π' M' G' e', CR σ' π' M' → MR σ' M' → e' ≤ e + 1 → lG sl n (x_L_law_0 1 16 867 888 (wr (i + 7)) (bM sl π' M' G' e'))) (c : CR σ π M) (m : MR σ M) : lG sl n (x_L_law_sw 1 16 867 888 i v (bM sl π M G e)) := by
  by_cases h : v < 0 ∨ 36 < v
  · rw [x_L_law_swd _ _ _ _ _ _ _ h]
    exact F σ π M G e c m (by omega)
  · obtain ⟨k, hk, rfl⟩ : ∃ k : Nat, k < 37 ∧ v = k := ⟨v.toNat, by omega, by omega⟩
    match k, hk with
    | 0, _ => exact sw_0 hi F c m
    | 1, _ => exact sw_1 hi F c m
    | 2, _ => exact sw_2 hi F c m
    | 3, _ => exact sw_3 hi F c m
    | 4, _ => exact sw_4 hi F c m
    | 5, _ => exact sw_5 hi F c m
    | 6, _ => exact sw_6 hi F c m
    | 7, _ => exact sw_7 hi F c m
    | 8, _ => exact sw_8 hi F c m
    | 9, _ => exact sw_9 hi F c m
    | 10, _ => exact sw_10 hi F c m
    | 11, _ => exact sw_11 hi F c m
    | 12, _ => exact sw_12 hi F c m
    | 13, _ => exact sw_13 hi F c m
    | 14, _ => exact sw_14 hi F c m
    | 15, _ => exact sw_15 hi F c m
    | 16, _ => exact sw_16 hi F c m
    | 17, _ => exact sw_17 hi F c m
    | 18, _ => exact sw_18 hi F c m
    | 19, _ => exact sw_19 hi F c m
    | 20, _ => exact sw_20 hi F c m
    | 21, _ => exact sw_21 hi F c m
    | 22, _ => exact sw_22 hi F c m
    | 23, _ => exact sw_23 hi F c m
    | 24, _ => exact sw_24 hi F c m
    | 25, _ => exact sw_25 hi F c m
    | 26, _ => exact sw_26 hi F c m
    | 27, _ => exact sw_27 hi F c m
    | 28, _ => exact sw_28 hi F c m
    | 29, _ => exact sw_29 hi F c m
    | 30, _ => exact sw_30 hi F c m
    | 31, _ => exact sw_31 hi F c m
    | 32, _ => exact sw_32 hi F c m
    | 33, _ => exact sw_33 hi F c m
    | 34, _ => exact sw_34 hi F c m
    | 35, _ => exact sw_35 hi F c m
    | 36, _ => exact sw_36 hi F c m
    | n + 37, h => exact absurd h (by omega)
theorem law_loop (hsl : (sl : Int) ≤ 3584) : ∀ (d : Nat) (i : Int) (e : Nat) (π : Int → Nat) (M G : Nat → Int → Int) (σ : Sg), 0 ≤ i → (sl : Int) - 7 < i + 7 * d → CR σ π M → MR σ M → lG sl (e + d) (x_L_law_0 1 16 867 888 i (bM sl π M G e)) := by
  intro d
  induction d with
  | zero =>
    intro i e π M G σ h0 hd c m
    rw [x_L_law_0_eq, bm_alS, wr_id (by omega), if_pos (by omega)]
    exact ⟨π, M, G, e, rfl, Nat.le_refl _⟩
  | succ d ih =>
    intro i e π M G σ h0 hd c m
    rw [x_L_law_0_eq, bm_alS, wr_id (by omega)]
    by_cases z : (sl : Int) - 7 < i
    · rw [if_pos z]
      exact ⟨π, M, G, e, rfl, by omega⟩
    · rw [if_neg z, bm_rS (by omega)]
      refine sw_all (by omega) (fun σ' π' M' G' e' c' m' he => ?_) c m
      obtain ⟨π2, M2, G2, e2, g, h2⟩ := ih (i + 7) e' π' M' G' σ' (by omega) (by omega) c' m'
      rw [wr_id (x := i + 7) (by omega)]
      exact ⟨π2, M2, G2, e2, g, by omega⟩
end
