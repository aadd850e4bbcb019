/-! THE MODEL ADDS VOTES -/
section
variable {sl e : Nat} {π : Int → Nat} {M G : Nat → Int → Int} {σ : Sg} {k : Int} {t c : Nat} {R : Int → Rd}
theorem idx_ne {p ch p' a : Int} (h1 : 0 ≤ ch ∧ ch < 128) (h2 : 0 ≤ a ∧ a < 128) (z : ¬ (p = p' ∧ ch = a)) : 128 * p + ch ≠ 128 * p' + a := by omega
theorem qm_adds_st {s p0 i n a q x : Int} (hm : d_M_manyOf 867 k s (bM sl π M G e) = rI n (bM sl π M G e)) (hs : d_M_signOf 867 k s i (bM sl π M G e) = rI a (bM sl π M G e)) (hw : d_M_weightOf 867 k s i (bM sl π M G e) = rI (1 + q) (bM sl π M G e)) (ha : 0 ≤ a ∧ a < 128) (hq : 0 ≤ q ∧ q ≤ 100) (hp : (0 ≤ p0 ∧ p0 < 16) ∧ 0 ≤ i ∧ p0 + i < 16) (hi : i < n) (hx : M 887 (128 * (p0 + i) + a) = x) (hxb : 0 ≤ x ∧ x ≤ 1000000) :
    x_M_adds_0 867 k s p0 i (bM sl π M G e) = x_M_adds_0 867 k s p0 (i + 1) (bM sl π (up M 887 (128 * (p0 + i) + a) (x + (1 + q))) G e) := by
  rw [x_M_adds_0_eq, hm]
  simp only [ci_r]
  rw [if_pos hi, mo_R32, hs]
  simp only [ci_r]
  rw [wr_id (x := p0 + i) (by omega), wr_id (x := 128 * (p0 + i)) (by omega), wr_id (x := 128 * (p0 + i) + a) (by omega), mo_r887 (by omega), hx, hw]
  simp only [ci_r]
  rw [mo_w887 (by omega), wr_id (x := x + (1 + q)) (by omega), wr_id (x := i + 1) (by omega)]
theorem rVt_a1 {V : Vt} {p v x : Int} (hv : 0 ≤ v ∧ v < 20) (hW : rVt M V) (x0 : Int) (hx0 : V p v + x = x0) : rVt (up M 887 (128 * p + al v) x0) (bs_a1 V p v x) := by
  intro p' ch hp hch
  by_cases z : p' = p ∧ ch = al v
  · rw [z.1, z.2, up_s, gVc_al hv]
    unfold bs_a1
    rw [if_pos ⟨rfl, rfl⟩, hx0]
  · rw [up_i (idx_ne hch (al_bd hv) z), hW p' ch hp hch]
    unfold gVc
    by_cases y : vof ch = -1
    · rw [if_pos y, if_pos y]
    · rw [if_neg y, if_neg y]
      unfold bs_a1
      rw [if_neg (fun w => z ⟨w.1, by rw [← w.2, al_vof y]⟩)]
theorem qm_adds_0 {s p0 : Int} {l : List Ch} (hk : 0 ≤ k ∧ k < 24) (hs : 0 ≤ s ∧ s < 3) (hok : okL l) (hp0 : 0 ≤ p0 ∧ p0 + l.length ≤ 16) : ∀ (d i : Nat) (V : Vt) (M : Nat → Int → Int), i + d = l.length → mKept M k s l → rVt M V → (∀ p v : Int, p0 + i ≤ p → 0 ≤ V p v ∧ V p v ≤ 1000000) →
    ∃ M', x_M_adds_0 867 k s p0 i (bM sl π M G e) = rI 0 (bM sl π M' G e) ∧ fr (fun b _ => b = 887) M M' ∧ rVt M' (bs_ad V (l.drop i) (p0 + i)) := by
  intro d
  induction d with
  | zero =>
    intro i V M hi hl hW hV
    rw [x_M_adds_0_eq, qm_many hk hs hl]
    simp only [ci_r]
    rw [if_neg (by omega), List.drop_eq_nil_of_le (by omega)]
    exact ⟨M, rfl, fr_refl, hW⟩
  | succ d ih =>
    intro i V M hi hl hW hV
    have hi2 : i < l.length := by omega
    have hpp : (0 ≤ p0 ∧ p0 < 16) ∧ 0 ≤ (i : Int) ∧ p0 + i < 16 := by omega
    have hp16 : 0 ≤ p0 + (i : Int) ∧ p0 + (i : Int) < 16 := by omega
    have hin : (i : Int) < l.length := by omega
    have hid : i + 1 + d = l.length := by omega
    have e5 : (i : Int) + 1 = ((i + 1 : Nat) : Int) := by omega
    have e6 : p0 + (i : Int) + 1 = p0 + ((i + 1 : Nat) : Int) := by omega
    have lt1 : ∀ p : Int, p0 + ((i + 1 : Nat) : Int) ≤ p → p0 + (i : Int) ≤ p ∧ ¬ p = p0 + i := fun p hp => by omega
    have hci := hok _ (List.getElem_mem hi2)
    have hx : M 887 (128 * (p0 + i) + al (l[i]).1) = V (p0 + i) (l[i]).1 := (hW (p0 + i) _ hp16 (al_bd hci.1)).trans (gVc_al hci.1)
    obtain ⟨M', g, f, h⟩ := ih (i + 1) (bs_a1 V (p0 + i) (l[i]).1 (1 + (l[i]).2)) (up M 887 (128 * (p0 + i) + al (l[i]).1) (V (p0 + i) (l[i]).1 + (1 + (l[i]).2))) hid (mKept_887 hl (fr_up rfl fr_refl)) (rVt_a1 hci.1 hW _ rfl) (fun p v hp => by unfold bs_a1; rw [if_neg (fun w => (lt1 p hp).2 w.1)]; exact hV p v (lt1 p hp).1)
    refine ⟨M', ?_, fr_trans (fr_up rfl fr_refl) f, ?_⟩
    · rw [qm_adds_st (qm_many hk hs hl) (qm_sign hk hs hl hi2) (qm_weight hk hs hl hi2 hci.2) (al_bd hci.1) hci.2 hpp hin hx (hV _ _ (Int.le_refl _)), e5]
      exact g
    · rw [List.drop_eq_getElem_cons hi2, bs_ad, e6]
      exact h
theorem qm_adds {s p0 : Int} {l : List Ch} {V : Vt} (hk : 0 ≤ k ∧ k < 24) (hs : 0 ≤ s ∧ s < 3) (hok : okL l) (hp0 : 0 ≤ p0 ∧ p0 + l.length ≤ 16) (hl : mKept M k s l) (hW : rVt M V) (hV : bdV V 1000000) :
    ∃ M', d_M_adds 867 k s p0 (bM sl π M G e) = rI 0 (bM sl π M' G e) ∧ fr (fun b _ => b = 887) M M' ∧ rVt M' (bs_ad V l p0) := by
  obtain ⟨M', g, f, h⟩ := qm_adds_0 (sl := sl) (e := e) (π := π) (G := G) hk hs hok hp0 l.length 0 V M (by omega) hl hW (fun p v _ => hV.1 p v)
  rw [d_M_adds_10 _ _ _ _ _ mo_d, x_M_adds_eq]
  rw [List.drop_zero, show p0 + ((0 : Nat) : Int) = p0 by omega] at h
  exact ⟨M', g, f, h⟩
end
