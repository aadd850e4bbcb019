/-! ALL VOTES AT A PLACE -/
section
variable {sl e : Nat} {π : Int → Nat} {M G : Nat → Int → Int} {σ : Sg} {k : Int} {t c : Nat} {R : Int → Rd}
theorem bs_sm_vof (f : Int → Int) : bs_sm (fun ch => if vof (ch : Nat) = -1 then 0 else f (vof (ch : Nat))) 128 = bs_sm (fun v => f (v : Nat)) 20 := by
  have e1 : bs_sm (fun ch => if vof (ch : Nat) = -1 then 0 else f (vof (ch : Nat))) 128 = 0 + f 11 + f 15 + f 10 + f 14 + f 13 + f 0 + f 1 + f 2 + f 3 + f 4 + f 5 + f 6 + f 7 + f 8 + f 9 + f 12 + f 16 + f 17 + f 18 + f 19 := by
    have z : ∀ (a m : Nat) (x : Int), (∀ i, i < m → vof ((a + i : Nat) : Int) = -1) → bs_sm (fun ch => if vof (ch : Nat) = -1 then 0 else f (vof (ch : Nat))) a = x → bs_sm (fun ch => if vof (ch : Nat) = -1 then 0 else f (vof (ch : Nat))) (a + m) = x := by
      intro a m
      induction m with
      | zero => intro x _ h; exact h
      | succ m ih =>
        intro x h hx
        show bs_sm _ (a + m) + (if vof ((a + m : Nat) : Int) = -1 then 0 else f (vof ((a + m : Nat) : Int))) = x
        rw [ih x (fun i hi => h i (by omega)) hx, if_pos (h m (by omega)), Int.add_zero]
    have o : ∀ (a : Nat) (x v : Int), vof (a : Nat) = v → v ≠ -1 → bs_sm (fun ch => if vof (ch : Nat) = -1 then 0 else f (vof (ch : Nat))) a = x → bs_sm (fun ch => if vof (ch : Nat) = -1 then 0 else f (vof (ch : Nat))) (a + 1) = x + f v := by
      intro a x v hv hn hx
      show bs_sm _ a + (if vof (a : Nat) = -1 then 0 else f (vof (a : Nat))) = x + f v
      rw [hx, hv, if_neg hn]
    have h36 := z 0 36 0 (by decide) rfl
    have h37 := o 36 _ 11 (by decide) (by decide) h36
    have h43 := z 37 6 _ (by decide) h37
    have h44 := o 43 _ 15 (by decide) (by decide) h43
    have h45 := z 44 1 _ (by decide) h44
    have h46 := o 45 _ 10 (by decide) (by decide) h45
    have h47 := o 46 _ 14 (by decide) (by decide) h46
    have h48 := o 47 _ 13 (by decide) (by decide) h47
    have h49 := o 48 _ 0 (by decide) (by decide) h48
    have h50 := o 49 _ 1 (by decide) (by decide) h49
    have h51 := o 50 _ 2 (by decide) (by decide) h50
    have h52 := o 51 _ 3 (by decide) (by decide) h51
    have h53 := o 52 _ 4 (by decide) (by decide) h52
    have h54 := o 53 _ 5 (by decide) (by decide) h53
    have h55 := o 54 _ 6 (by decide) (by decide) h54
    have h56 := o 55 _ 7 (by decide) (by decide) h55
    have h57 := o 56 _ 8 (by decide) (by decide) h56
    have h58 := o 57 _ 9 (by decide) (by decide) h57
    have h59 := o 58 _ 12 (by decide) (by decide) h58
    have h65 := z 59 6 _ (by decide) h59
    have h66 := o 65 _ 16 (by decide) (by decide) h65
    have h67 := o 66 _ 17 (by decide) (by decide) h66
    have h68 := o 67 _ 18 (by decide) (by decide) h67
    have h69 := o 68 _ 19 (by decide) (by decide) h68
    exact z 69 59 _ (by decide) h69
  rw [e1]
  show _ = 0 + f 0 + f 1 + f 2 + f 3 + f 4 + f 5 + f 6 + f 7 + f 8 + f 9 + f 10 + f 11 + f 12 + f 13 + f 14 + f 15 + f 16 + f 17 + f 18 + f 19
  omega
theorem gVc_bd {V : Vt} {n p ch : Int} (hV : bdV V n) : 0 ≤ gVc V p ch ∧ gVc V p ch ≤ n := by
  have := hV.1 p (vof ch)
  unfold gVc
  split <;> omega
theorem qm_all_at_0 {V : Vt} {p : Int} (hp : 0 ≤ p ∧ p < 16) (hW : rVt M V) (hV : bdV V 1000000) : ∀ (d i : Nat), i + d = 128 → 0 ≤ bs_sm (fun ch => gVc V p (ch : Nat)) i ∧ bs_sm (fun ch => gVc V p (ch : Nat)) i ≤ 1000000 * i → x_M_allAt_0 867 p (bs_sm (fun ch => gVc V p (ch : Nat)) i) i (bM sl π M G e) = rI (bs_tt V p) (bM sl π M G e) := by
  intro d
  induction d with
  | zero =>
    intro i hi hb
    have : i = 128 := by omega
    subst this
    rw [x_M_allAt_0_eq, if_neg (by omega)]
    rw [show bs_sm (fun ch => gVc V p (ch : Nat)) 128 = bs_tt V p from bs_sm_vof (V p)]
  | succ d ih =>
    intro i hi hb
    have e3 : wr ((i : Int) + 1) = ((i + 1 : Nat) : Int) := by rw [wr_id (by omega)]; omega
    have hg := gVc_bd (p := p) (ch := (i : Int)) hV
    rw [x_M_allAt_0_eq, if_pos (by omega), mo_R32, wr_id (x := 128 * p) (by omega), wr_id (x := 128 * p + i) (by omega), mo_r887 (by omega), hW p i hp (by omega), e3, wr_id (by omega)]
    exact ih (i + 1) (by omega) (by rw [bs_sm]; omega)
theorem qm_allAt {V : Vt} {p : Int} (hp : 0 ≤ p ∧ p < 16) (hW : rVt M V) (hV : bdV V 1000000) : d_M_allAt 867 p (bM sl π M G e) = rI (bs_tt V p) (bM sl π M G e) := by
  rw [d_M_allAt_10 _ _ _ mo_d, x_M_allAt_eq]
  exact qm_all_at_0 hp hW hV 128 0 (by omega) ⟨Int.le_refl _, Int.le_refl _⟩
end
