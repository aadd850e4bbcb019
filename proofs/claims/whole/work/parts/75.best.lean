/-! THE CLASS'S BEST AND WORST SCAN, THE SHARE -/
section
variable {sl e : Nat} {π : Int → Nat} {M G : Nat → Int → Int} {σ : Sg} {t : Nat}
/-- the best of the first scans, and its least confidence -/
def bs_bsn (R : Int → Rd) : Nat → Int × Int
  | 0 => (-1, -1)
  | k + 1 => if 0 < (R k).1.1.length ∧ (bs_bsn R k).2 < bs_lc (R k).1.1 then ((k : Int), bs_lc (R k).1.1) else bs_bsn R k
def gBs (σ : Sg) (t : Nat) : Int := (bs_bsn (gR σ t) (gc σ).toNat).1
theorem qo_best_0 (ht : t < 3) : ∀ (d i : Nat) (M : Nat → Int → Int), CR σ π M → i + d = (gc σ).toNat →
    ∃ M', x_E_bestScan_0 16 t (bs_bsn (gR σ t) i).1 (bs_bsn (gR σ t) i).2 i (bM sl π M G e) = (if gBs σ t = -1 then rX 4 (bM sl π M' G (e + 1)) else rI (gBs σ t) (bM sl π M' G e)) ∧ CR σ π M' ∧ lo867 M M' := by
  intro d
  induction d with
  | zero =>
    intro i M h hi
    have hc := h.1.1
    have : i = (gc σ).toNat := by omega
    rw [x_E_bestScan_0_eq, en_I, h.2.2.1.1, if_neg (by omega), this]
    exact ⟨M, rfl, h, fun _ _ _ => rfl⟩
  | succ d ih =>
    intro i M h hi
    have hk : 0 ≤ (i : Int) ∧ (i : Int) < gc σ := by omega
    have hk24 := CR_k24 h hk
    have hd := PV_rdg (CR_pv h) hk24 ht
    have hq : aSeq (π i + (4 + 10 * t) + 1) := hd.2.2.1.1
    have e2 : wr ((i : Int) + 1) = ((i + 1 : Nat) : Int) := by rw [wr_id (by omega)]; omega
    have hok := okX_g h.1 hk ht
    obtain ⟨A, g, c, lo, r, -⟩ := qo_reading (sl := sl) (e := e) (G := G) h hk ht
    obtain ⟨M', g2, c2, lo2⟩ := ih (i + 1) A c (by omega)
    refine ⟨M', ?_, c2, fun b j hb => (lo2 b j hb).trans (lo b j hb)⟩
    rw [bs_bsn] at g2
    rw [x_E_bestScan_0_eq, en_I, h.2.2.1.1, if_pos hk.2, g]
    simp only [cr_r]
    rw [rdg_w hd, seq_I hq, r.1.1.1, bc_least hq r.1.1 (fun c hc => (hok.1 c hc).2), e2]
    simp only [ci_r]
    by_cases z : 0 < (gR σ t i).1.1.length
    · rw [if_pos (by omega)]
      by_cases y : (bs_bsn (gR σ t) i).2 < bs_lc (gR σ t i).1.1
      · rw [if_pos ⟨z, y⟩] at g2
        rw [if_pos y, bc_least hq r.1.1 (fun c hc => (hok.1 c hc).2)]
        exact g2
      · rw [if_neg (fun w => y w.2)] at g2
        rw [if_neg y]
        exact g2
    · rw [if_neg (fun w => z w.1)] at g2
      rw [if_neg (by omega)]
      exact g2
theorem qo_bestScan (h : CR σ π M) (ht : t < 3) : ∃ M', d_E_bestScan 16 t (bM sl π M G e) = (if gBs σ t = -1 then rX 4 (bM sl π M' G (e + 1)) else rI (gBs σ t) (bM sl π M' G e)) ∧ CR σ π M' ∧ lo867 M M' := by
  have hc := h.1.1
  rw [d_E_bestScan_9 _ _ _ en_d, x_E_bestScan_eq, qo_sym, if_pos (by omega)]
  simp only [cv_r]
  exact qo_best_0 ht (gc σ).toNat 0 M h (by omega)
theorem qo_bestScanX {s : Int} (hs : ¬ (0 ≤ s ∧ s < 3)) : d_E_bestScan 16 s (bM sl π M G e) = rX 2 (bM sl π M G (e + 1)) := by
  rw [d_E_bestScan_9 _ _ _ en_d, x_E_bestScan_eq, qo_sym, if_neg hs]; rfl
/-- how many characters have no majority at their places -/
def bs_dgs (V : Vt) : List Ch → Nat → Int
  | [], _ => 0
  | c :: l, i => (if c.1 = bs_mj V i then 0 else 1) + bs_dgs V l (i + 1)
theorem bc_dg_0 {T q : Nat} {L : Int} {V : Vt} {l : List Ch} (hT : aTal T) (r : rTal M T L V) (hq : aSeq q) (hl : rSeq M q l) : ∀ (d i : Nat) (a : Int), i + d = l.length → 0 ≤ a ∧ a ≤ i → x_Tal_disagreements_0 T q a i (bM sl π M G e) = rI (a + bs_dgs V (l.drop i) i) (bM sl π M G e) := by
  have h16 := hl.2.1
  intro d
  induction d with
  | zero =>
    intro i a hi ha
    rw [x_Tal_disagreements_0_eq, seq_I hq, hl.1, if_neg (by omega), List.drop_eq_nil_of_le (by omega)]
    show rI a _ = rI (a + 0) _
    rw [Int.add_zero]
  | succ d ih =>
    intro i a hi ha
    have hi2 : i < l.length := by omega
    have e2 : wr ((i : Int) + 1) = ((i + 1 : Nat) : Int) := by rw [wr_id (by omega)]; omega
    rw [x_Tal_disagreements_0_eq, seq_I hq, hl.1, if_pos (by omega), seq_v hq, seq_v_at hq hl hi2, tal_m hT, tal_rm hT (by omega), r.2.2.2 i (by omega), e2, List.drop_eq_getElem_cons hi2, bs_dgs]
    by_cases z : (l[i]).1 = bs_mj V i
    · rw [if_pos z, if_pos z, ih (i + 1) a (by omega) (by omega), Int.zero_add]
    · rw [if_neg z, if_neg z, wr_id (x := a + 1) (by omega), ih (i + 1) (a + 1) (by omega) (by omega), Int.add_assoc]
theorem bc_dg {T q : Nat} {L : Int} {V : Vt} {l : List Ch} (hT : aTal T) (r : rTal M T L V) (hq : aSeq q) (hl : rSeq M q l) : d_Tal_disagreements T q (bM sl π M G e) = rI (bs_dgs V l 0) (bM sl π M G e) := by
  rw [d_Tal_disagreements_8 _ _ _ (tal_d hT), x_Tal_disagreements_eq]
  have := bc_dg_0 (sl := sl) (e := e) (π := π) (G := G) hT r hq hl l.length 0 0 (by omega) (by omega)
  rw [List.drop_zero, Int.zero_add] at this
  exact this
def bs_ws (R : Int → Rd) (L : Int) (V : Vt) : Nat → Int × Int
  | 0 => (-1, -1)
  | k + 1 => if (0 < (R k).1.1.length ∧ ((R k).1.1.length : Int) = L) ∧ (bs_ws R L V k).2 < bs_dgs V (R k).1.1 0 then ((k : Int), bs_dgs V (R k).1.1 0) else bs_ws R L V k
def gWs (σ : Sg) (t : Nat) : Int := (bs_ws (gR σ t) (gL σ t) (gV σ t) (gc σ).toNat).1
theorem qo_worst_0 (ht : t < 3) : ∀ (d i : Nat) (M : Nat → Int → Int), CR σ π M → rTal M (26 + 5 * t) (gL σ t) (gV σ t) → i + d = (gc σ).toNat →
    ∃ M', x_E_worstScan_0 16 t (26 + 5 * t) (bs_ws (gR σ t) (gL σ t) (gV σ t) i).1 (bs_ws (gR σ t) (gL σ t) (gV σ t) i).2 i (bM sl π M G e) = (if gWs σ t = -1 then rX 4 (bM sl π M' G (e + 1)) else rI (gWs σ t) (bM sl π M' G e)) ∧ CR σ π M' ∧ lo867 M M' := by
  intro d
  induction d with
  | zero =>
    intro i M h rt hi
    have hc := h.1.1
    have : i = (gc σ).toNat := by omega
    rw [x_E_worstScan_0_eq, en_I, h.2.2.1.1, if_neg (by omega), this]
    exact ⟨M, rfl, h, fun _ _ _ => rfl⟩
  | succ d ih =>
    intro i M h rt hi
    have hk : 0 ≤ (i : Int) ∧ (i : Int) < gc σ := by omega
    have hk24 := CR_k24 h hk
    have hin := PV_in (CR_pv h) hk24
    have hd := PV_rdg (CR_pv h) hk24 ht
    have hq : aSeq (π i + (4 + 10 * t) + 1) := hd.2.2.1.1
    have e2 : wr ((i : Int) + 1) = ((i + 1 : Nat) : Int) := by rw [wr_id (by omega)]; omega
    obtain ⟨A, g, c, lo, r, f⟩ := qo_reading (sl := sl) (e := e) (G := G) h hk ht
    have rA : rTal A (26 + 5 * t) (gL σ t) (gV σ t) := rTal_fr rt f (fun b j hb hb2 => by unfold S_i; omega)
    obtain ⟨M', g2, c2, lo2⟩ := ih (i + 1) A c rA (by omega)
    refine ⟨M', ?_, c2, fun b j hb => (lo2 b j hb).trans (lo b j hb)⟩
    rw [bs_ws] at g2
    rw [x_E_worstScan_0_eq, en_I, h.2.2.1.1, if_pos hk.2, g]
    simp only [cr_r]
    simp only [rdg_w hd, seq_I hq, r.1.1.1, tal_I (a_tal ht), rA.1, bc_dg (a_tal ht) rA hq r.1.1, e2, ci_r]
    by_cases z : 0 < (gR σ t i).1.1.length
    · rw [if_pos (by omega)]
      by_cases x : ((gR σ t i).1.1.length : Int) = gL σ t
      · rw [if_pos x]
        by_cases y : (bs_ws (gR σ t) (gL σ t) (gV σ t) i).2 < bs_dgs (gV σ t) (gR σ t i).1.1 0
        · rw [if_pos ⟨⟨z, x⟩, y⟩] at g2
          rw [if_pos y]
          exact g2
        · rw [if_neg (fun w => y w.2)] at g2
          rw [if_neg y]
          exact g2
      · rw [if_neg (fun w => x w.1.2)] at g2
        rw [if_neg x]
        exact g2
    · rw [if_neg (fun w => z w.1.1)] at g2
      rw [if_neg (by omega)]
      exact g2
theorem qo_worstScan (h : CR σ π M) (ht : t < 3) : ∃ M', d_E_worstScan 16 t (bM sl π M G e) = (if gWs σ t = -1 then rX 4 (bM sl π M' G (e + 1)) else rI (gWs σ t) (bM sl π M' G e)) ∧ CR σ π M' ∧ lo867 M M' := by
  have hc := h.1.1
  obtain ⟨A, g, c, lo, r⟩ := qo_tally (sl := sl) (e := e) (G := G) h ht
  rw [d_E_worstScan_9 _ _ _ en_d, x_E_worstScan_eq, g]
  simp only [cr_r]
  obtain ⟨M', g2, c2, lo2⟩ := qo_worst_0 (sl := sl) (e := e) (G := G) ht (gc σ).toNat 0 A c r (by omega)
  exact ⟨M', g2, c2, fun b j hb => (lo2 b j hb).trans (lo b j hb)⟩
theorem qo_worstScanX {s : Int} (hs : ¬ (0 ≤ s ∧ s < 3)) : d_E_worstScan 16 s (bM sl π M G e) = rX 2 (bM sl π M G (e + 1)) := by
  rw [d_E_worstScan_9 _ _ _ en_d, x_E_worstScan_eq, qo_tallyX hs]; rfl
/-- the weight of a value, none of no value -/
def bs_wt (V : Vt) (p v : Int) : Int := if 0 ≤ v then V p v else 0
theorem bc_weight1 {T : Nat} {L : Int} {V : Vt} {p v : Int} (hT : aTal T) (r : rTal M T L V) (hp : 0 ≤ p ∧ p < 16) (hv : -1 ≤ v ∧ v < 20) : d_Tal_weightOf T p v (bM sl π M G e) = rI (bs_wt V p v) (bM sl π M G e) := by
  unfold bs_wt
  by_cases z : 0 ≤ v
  · rw [if_pos z]; exact bc_weightOf hT (rTal_rW r) hp ⟨z, hv.2⟩
  · rw [if_neg z, d_Tal_weightOf_8 _ _ _ _ (tal_d hT), x_Tal_weightOf_eq, if_neg (by omega), if_pos hp.2, if_pos (by omega)]
def bs_sh (V : Vt) : Nat → Int
  | 0 => 100
  | i + 1 => if 0 < bs_tt V i then bs_mn (bs_sh V i) ((100 * bs_wt V i (bs_mj V i)).tdiv (bs_tt V i)) else bs_sh V i
theorem bc_sh_0 {T : Nat} {L : Int} {V : Vt} (hT : aTal T) (r : rTal M T L V) (hL : 0 ≤ L ∧ L ≤ 16) (hV : bdV V 7272) : ∀ d i : Nat, (i : Int) + d = L → x_Tal_share_0 T (bs_sh V i) i (bM sl π M G e) = rI (bs_sh V L.toNat) (bM sl π M G e) := by
  intro d
  induction d with
  | zero =>
    intro i hi
    have : i = L.toNat := by omega
    rw [x_Tal_share_0_eq, tal_I hT, r.1, if_neg (by omega), this]
  | succ d ih =>
    intro i hi
    have e2 : wr ((i : Int) + 1) = ((i + 1 : Nat) : Int) := by rw [wr_id (by omega)]; omega
    have hm := bs_mj_bd (V := V) (p := i)
    have hw : 0 ≤ bs_wt V i (bs_mj V i) ∧ bs_wt V i (bs_mj V i) ≤ 7272 := by
      unfold bs_wt
      split
      · exact hV.1 _ _
      · omega
    have st := ih (i + 1) (by omega)
    rw [bs_sh] at st
    rw [x_Tal_share_0_eq, tal_I hT, r.1, if_pos (by omega), tal_t hT, tal_rt hT (by omega), r.2.2.1 i (by omega), e2]
    by_cases z : 0 < bs_tt V i
    · have h1 : 0 ≤ (100 * bs_wt V i (bs_mj V i)).tdiv (bs_tt V i) := Int.tdiv_nonneg (by omega) (by omega)
      have h2 : (100 * bs_wt V i (bs_mj V i)).tdiv (bs_tt V i) ≤ 100 * bs_wt V i (bs_mj V i) := Int.tdiv_le_self _ (by omega)
      rw [if_pos z] at st
      rw [if_pos z, tal_m hT, tal_rm hT (by omega), r.2.2.2 i (by omega), bc_weight1 hT r (by omega) (by omega)]
      simp only [ci_r]
      rw [tal_t hT, tal_rt hT (by omega), r.2.2.1 i (by omega), dv_r (by omega), wr_id (x := 100 * bs_wt V i (bs_mj V i)) (by omega), wr_id (by omega), bc_min]
      simp only [ci_r]
      exact st
    · rw [if_neg z] at st
      rw [if_neg z]
      exact st
theorem bc_share {T : Nat} {L : Int} {V : Vt} (hT : aTal T) (r : rTal M T L V) (hL : 0 ≤ L ∧ L ≤ 16) (hV : bdV V 7272) : d_Tal_share T (bM sl π M G e) = rI (bs_sh V L.toNat) (bM sl π M G e) := by
  rw [d_Tal_share_8 _ _ (tal_d hT), x_Tal_share_eq]
  exact bc_sh_0 hT r hL hV L.toNat 0 (by omega)
end
