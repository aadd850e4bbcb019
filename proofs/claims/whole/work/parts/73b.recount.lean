/-! THE CLASS'S TALLY, COUNTED ANEW -/
section
variable {sl e : Nat} {π : Int → Nat} {M G : Nat → Int → Int} {T s c : Nat} {R : Int → Rd}
/-- the readings of c scans lie there -/
def rAll (π : Int → Nat) (M : Nat → Int → Int) (s : Nat) (R : Int → Rd) (c : Nat) : Prop := ∀ k : Int, 0 ≤ k ∧ k < c → rRdg M (π k + (4 + 10 * s)) (R k)
theorem rAll_fr {S : Nat → Int → Prop} {M' : Nat → Int → Int} (hπ : PV π) (hc : c ≤ 24) (hs : s < 3) (h : rAll π M s R c) (f : fr S M M') (hS : ∀ b j, 51 ≤ b ∧ b < 867 → ¬ S b j) : rAll π M' s R c := fun k hk => rRdg_fr (h k hk) f fun b j hb => by
  have := PV_in hπ (show 0 ≤ k ∧ k < 24 by omega)
  exact hS b j (by omega)
theorem bc_su_1 (hT : aTal T) (hT40 : T + 4 < 51) (hπ : PV π) (hc : c ≤ 24) (hs : s < 3) (hx : ∀ k : Int, 0 ≤ k ∧ k < c → okX (R k)) : ∀ (d i : Nat) (M : Nat → Int → Int), i + d = c → rAll π M s R c → (∀ n : Nat, n < 17 → M (T + 2) n = bs_su R n i) →
    ∃ M', x_Tal_supportedLength_1 T s 20 c i (bM sl π M G e) = x_Tal_supportedLength_2 T 0 1 (bM sl π M' G e) ∧ fr (fun b _ => b = T + 2) M M' ∧ ∀ n : Nat, n < 17 → M' (T + 2) n = bs_su R n c := by
  intro d
  induction d with
  | zero =>
    intro i M hi hr hn
    have : i = c := by omega
    subst this
    rw [x_Tal_supportedLength_1_eq, if_neg (by omega)]
    exact ⟨M, rfl, fr_refl, hn⟩
  | succ d ih =>
    intro i M hi hr hn
    have hi24 : 0 ≤ (i : Int) ∧ (i : Int) < 24 := by omega
    have hA := PV_a hπ hi24
    have hd := PV_rdg hπ hi24 hs
    have hq : aSeq (π i + (4 + 10 * s) + 1) := hd.2.2.1.1
    have e2 : wr ((i : Int) + 1) = ((i + 1 : Nat) : Int) := by rw [wr_id (by omega)]; omega
    have hw := (hr i (by omega)).1.1
    have h16 := hw.2.1
    have hok := hx i (by omega)
    have hcf : ∀ c ∈ (R i).1.1, 0 ≤ c.2 ∧ c.2 ≤ 100 := fun c hc => (hok.1 c hc).2
    have hin := PV_in hπ hi24
    rw [x_Tal_supportedLength_1_eq, if_pos (by omega), qo_rSc hπ hi24, scn_r hA, scn_q hA hs, rdg_w hd, seq_I hq, hw.1, e2]
    by_cases z : 0 < (R i).1.1.length
    · have hsu := bs_su_bd (R := R) (n := (R i).1.1.length) i (fun k hk c hc => ((hx k (by omega)).1 c hc).2)
      have hlc := bs_lc_bd hcf
      rw [if_pos (by omega), seq_I hq, hw.1, tal_s hT, tal_ls hT, if_pos (by omega), tal_s hT, seq_I hq, hw.1, tal_rs hT (by omega), hn _ (by omega), bc_least hq hw hcf]
      simp only [ci_r]
      rw [tal_ws hT (by omega), wr_id (x := 1 + bs_lc (R i).1.1) (by omega), wr_id (by omega)]
      obtain ⟨M', g, f, h⟩ := ih (i + 1) (up M (T + 2) ((R i).1.1.length : Int) (bs_su R (R i).1.1.length i + (1 + bs_lc (R i).1.1))) (by omega) (rAll_fr (S := fun b _ => b = T + 2) hπ hc hs hr (fr_up rfl fr_refl) (fun b j hb => by omega)) (fun n hn2 => by
        rw [bs_su]
        by_cases y : (R i).1.1.length = n ∧ 0 < n
        · rw [if_pos y, ← y.1, up_s]
        · rw [if_neg y, up_i (by omega)]; exact hn n hn2)
      exact ⟨M', g, fr_trans (fr_up rfl fr_refl) f, h⟩
    · rw [if_neg (by omega)]
      refine ih (i + 1) M (by omega) hr fun n hn2 => ?_
      rw [bs_su, if_neg (by omega)]
      exact hn n hn2
theorem bc_su_2 (hT : aTal T) (hn : ∀ n : Nat, n < 17 → M (T + 2) n = bs_su R n c) : ∀ (d m : Nat), m + d = 16 → x_Tal_supportedLength_2 T ((bs_best R c m : Nat) : Int) ((m + 1 : Nat) : Int) (bM sl π M G e) = rI ((bs_best R c 16 : Nat) : Int) (bM sl π M G e) := by
  intro d
  induction d with
  | zero =>
    intro m hm
    have : m = 16 := by omega
    subst this
    rw [x_Tal_supportedLength_2_eq, tal_s hT, tal_ls hT, if_neg (by omega)]
  | succ d ih =>
    intro m hm
    have hb := bs_best_le (R := R) (c := c) m
    have e2 : wr (((m + 1 : Nat) : Int) + 1) = ((m + 1 + 1 : Nat) : Int) := by rw [wr_id (by omega)]; omega
    have st := ih (m + 1) (by omega)
    rw [bs_best] at st
    rw [x_Tal_supportedLength_2_eq, tal_s hT, tal_ls hT, if_pos (by omega), tal_s hT, tal_rs hT (by omega), tal_s hT, tal_rs hT (by omega), hn (m + 1) (by omega), hn (bs_best R c m) (by omega), e2]
    by_cases z : bs_su R (bs_best R c m) c < bs_su R (m + 1) c
    · rw [if_pos z] at st; rw [if_pos z]; exact st
    · rw [if_neg z] at st; rw [if_neg z]; exact st
theorem bc_supported (hT : aTal T) (hT40 : T + 4 < 51) (hπ : PV π) (hc : c ≤ 24) (hs : s < 3) (hx : ∀ k : Int, 0 ≤ k ∧ k < c → okX (R k)) (hr : rAll π M s R c) :
    ∃ M', d_Tal_supportedLength T s 20 c (bM sl π M G e) = rI ((bs_best R c 16 : Nat) : Int) (bM sl π M' G e) ∧ fr (fun b _ => b = T + 2) M M' := by
  obtain ⟨A, g, f, h⟩ := bc_z2 (sl := sl) (e := e) (π := π) (G := G) (s := s) (c := c) (a := 20) hT 17 0 M (by omega) (fun j hj => by omega)
  obtain ⟨M', g2, f2, h2⟩ := bc_su_1 (sl := sl) (e := e) (π := π) (G := G) hT hT40 hπ hc hs hx c 0 A (by omega) (rAll_fr (S := fun b _ => b = T + 2) hπ hc hs hr f (fun b j hb => by omega)) (fun n hn => h n (by omega))
  refine ⟨M', ?_, fr_trans f f2⟩
  rw [d_Tal_supportedLength_8 _ _ _ _ _ (tal_d hT), x_Tal_supportedLength_eq]
  exact g.trans (g2.trans (bc_su_2 hT h2 16 0 (by omega)))
/-! joined -/
theorem ne_nil {l : List Ch} : decide (l ≠ []) = decide (0 < l.length) := by cases l <;> simp
theorem bc_ean_0 (hπ : PV π) (hc : c ≤ 24) (hs : s < 3) (hr : rAll π M s R c) : ∀ (d i : Nat), i + d = c →
    x_Ean_joinedLength_0 s 20 c (bi (bs_any (fun k => decide ((R k).1.2.1 ≠ [])) i)) (bi (bs_any (fun k => decide ((R k).1.2.2 ≠ [])) i)) i (bM sl π M G e) = rI (if bs_any (fun k => decide ((R k).1.2.1 ≠ [])) c && bs_any (fun k => decide ((R k).1.2.2 ≠ [])) c then 8 else 0) (bM sl π M G e) := by
  intro d
  induction d with
  | zero =>
    intro i hi
    have : i = c := by omega
    subst this
    rw [x_Ean_joinedLength_0_eq, if_neg (by omega)]
    cases bs_any (fun k => decide ((R k).1.2.1 ≠ [])) i <;> cases bs_any (fun k => decide ((R k).1.2.2 ≠ [])) i <;> rfl
  | succ d ih =>
    intro i hi
    have hi24 : 0 ≤ (i : Int) ∧ (i : Int) < 24 := by omega
    have hA := PV_a hπ hi24
    have hd := PV_rdg hπ hi24 hs
    have h4 : aSeq (π i + (4 + 10 * s) + 4) := hd.2.2.1.2.1
    have h7 : aSeq (π i + (4 + 10 * s) + 7) := hd.2.2.1.2.2
    have e2 : wr ((i : Int) + 1) = ((i + 1 : Nat) : Int) := by rw [wr_id (by omega)]; omega
    have hh := (hr i (by omega)).1.2.1
    have ht := (hr i (by omega)).1.2.2
    have st := ih (i + 1) (by omega)
    rw [bs_any, bs_any, ne_nil, ne_nil] at st
    rw [x_Ean_joinedLength_0_eq, if_pos (by omega), e2]
    simp only [qo_rSc hπ hi24, scn_r hA, scn_q hA hs, rdg_h hd, rdg_t hd, seq_I h4, seq_I h7, hh.1, ht.1]
    by_cases z1 : 0 < (R i).1.2.1.length <;> by_cases z2 : 0 < (R i).1.2.2.length
    all_goals
      first
        | rw [decide_eq_true z1] at st
        | rw [decide_eq_false z1] at st
    all_goals
      first
        | rw [decide_eq_true z2] at st
        | rw [decide_eq_false z2] at st
    all_goals
      have k1 : (0 : Int) < ((R i).1.2.1.length : Int) ↔ 0 < (R i).1.2.1.length := by omega
      have k2 : (0 : Int) < ((R i).1.2.2.length : Int) ↔ 0 < (R i).1.2.2.length := by omega
      simp only [k1, k2, z1, z2, if_true, if_false]
    all_goals
      revert st
      generalize bs_any (fun k => decide ((R k).1.2.1 ≠ [])) i = a
      generalize bs_any (fun k => decide ((R k).1.2.2 ≠ [])) i = b
      intro st
      cases a <;> cases b <;> exact st
end
