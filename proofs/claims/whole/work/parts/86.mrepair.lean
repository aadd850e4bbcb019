/-! THE MODEL'S REPAIRED CHARACTER -/
theorem bs_fdt_lt {V : Vt} : ∀ (d i p : Nat), bs_fdt V d i = p → ∀ k : Nat, i ≤ k → k < p → bs_mj V k ≠ -1 := by
  intro d
  induction d with
  | zero =>
    intro i p h
    have : (-1 : Int) = p := h
    omega
  | succ d ih =>
    intro i p h k h1 h2
    rw [bs_fdt] at h
    by_cases z : bs_mj V i = -1
    · rw [if_pos z] at h; omega
    · rw [if_neg z] at h
      by_cases y : k = i
      · rw [y]; exact z
      · exact ih (i + 1) p h k (by omega) h2
theorem bs_one {V : Vt} {n p : Nat} (h1 : bs_fdt V n 0 = p) (h2 : p < n) (h3 : bs_fdt V (n - (p + 1)) (p + 1) = -1) : ∀ k : Nat, k < n → k ≠ p → bs_mj V k ≠ -1 := by
  intro k hk hn
  by_cases z : k < p
  · exact bs_fdt_lt n 0 p h1 k (by omega) z
  · rcases bs_cd_f (V := V) (n - (p + 1)) (p + 1) with ⟨-, y⟩ | ⟨q, y, -⟩
    · exact bs_cd_0 _ _ y k (by omega) (by omega)
    · omega
theorem rgv_nn {s : Nat} {l : List Ch} {p : Nat} : ∀ v : Nat, v ≤ 20 → (bs_rgv s l p v).2 = 0 ∨ (0 ≤ (bs_rgv s l p v).1 ∧ (bs_rgv s l p v).1 < 20) := by
  intro v
  induction v with
  | zero => intro _; exact Or.inl rfl
  | succ v ih =>
    intro hv
    rw [bs_rgv]
    split
    · exact Or.inr (by dsimp only; omega)
    · exact ih (by omega)
theorem rgv_lo {s : Nat} {l : List Ch} {p : Nat} : ∀ v : Nat, (∀ u : Nat, u < v → bs_aw s u p l.length = false) → bs_rgv s l p v = (-1, 0) := by
  intro v
  induction v with
  | zero => intro _; rfl
  | succ v ih =>
    intro h
    rw [bs_rgv, h v (by omega), Bool.false_and, if_neg (by decide)]
    exact ih fun u hu => h u (by omega)
theorem rgv_hi {s : Nat} {l : List Ch} {p hi : Nat} : ∀ d : Nat, (∀ u : Nat, hi ≤ u → u < hi + d → bs_aw s u p l.length = false) → bs_rgv s l p (hi + d) = bs_rgv s l p hi := by
  intro d
  induction d with
  | zero => intro _; rfl
  | succ d ih =>
    intro h
    rw [show hi + (d + 1) = hi + d + 1 by omega, bs_rgv, h (hi + d) (by omega) (by omega), Bool.false_and, if_neg (by decide)]
    exact ih fun u hu1 hu2 => h u hu1 (by omega)
theorem lsv_at {l : List Ch} {p : Nat} {v : Int} (hp : p < l.length) (k : Nat) (hk : k < (lsv l p v).length) : ((lsv l p v)[k]).1 = if k = p then v else (l[k]'(by rw [lsv_l] at hk; exact hk)).1 := by
  revert hk
  unfold lsv
  intro hk
  rw [List.getElem_set]
  by_cases z : p = k
  · rw [if_pos z, if_pos z.symm]
  · rw [if_neg z, if_neg (fun y => z y.symm)]
section
variable {sl e : Nat} {π : Int → Nat} {M G : Nat → Int → Int} {σ : Sg} {t : Nat} {V : Vt} {L : Int}
/-- which values the model tries -/
def rpC (t : Nat) (o : Int) (lo hi : Nat) : Prop := (o = 0 ∧ t = 2 ∧ lo = 0 ∧ hi = 16) ∨ (o = 0 ∧ t ≠ 2 ∧ lo = 0 ∧ hi = 10) ∨ (o = 1 ∧ t = 2 ∧ lo = 16 ∧ hi = 20)
theorem qm_rep_0 {m : Int} {n p lo hi : Nat} {o : Int} (hM : mCon M) (hL : 0 ≤ L ∧ L ≤ 16) (hn : n = L.toNat) (hp : p < n) (hW : rVt M V) (hV : bdV V 7272) (hdg : dgV V (if t = 2 then 20 else 10)) (hmj : ∀ k : Nat, k < n → k ≠ p → bs_mj V k ≠ -1) (hc : rpC t o lo hi) (haw : ∀ u : Nat, lo ≤ u → u < hi → bs_aw t u p (bs_cvt V n).length = true) : ∀ (d v : Nat), v + d = hi → lo ≤ v →
    x_M_repaired_0 867 t L p o (al1 (bs_rgv t (bs_cvt V n) p v).1) (bs_rgv t (bs_cvt V n) p v).2 v (bM sl π M G e) = (if (bs_rgv t (bs_cvt V n) p hi).2 = 1 then rI (al1 (bs_rgv t (bs_cvt V n) p hi).1) (bM sl π (up M 867 11 0) G e) else rI 0 (bM sl π (up M 867 11 3) G e)) := by
  have hV6 := bdV_mono hV (show (7272 : Int) ≤ 1000000 by decide)
  have hlen := bs_cvt_l (V := V) n
  have h20 : hi ≤ 20 := by unfold rpC at hc; omega
  intro d
  induction d with
  | zero =>
    intro v hv hlo
    have : v = hi := by omega
    subst this
    have fin : (if (bs_rgv t (bs_cvt V n) p v).2 = 1 then bz_pI (bM sl π M G e) 867 10 11 0 fun μ7 => bz_fI μ7 867 10 11 fun v8 => if (0 : Int) < v8 then rI 0 μ7 else rI (al1 (bs_rgv t (bs_cvt V n) p v).1) μ7 else bz_pI (bM sl π M G e) 867 10 11 3 fun μ9 => bz_fI μ9 867 10 11 fun v10 => if (0 : Int) < v10 then rI 0 μ9 else rI (al1 (bs_rgv t (bs_cvt V n) p v).1) μ9) = (if (bs_rgv t (bs_cvt V n) p v).2 = 1 then rI (al1 (bs_rgv t (bs_cvt V n) p v).1) (bM sl π (up M 867 11 0) G e) else rI 0 (bM sl π (up M 867 11 3) G e)) := by
      by_cases z : (bs_rgv t (bs_cvt V n) p v).2 = 1
      · rw [if_pos z, if_pos z, mo_p, mo_I, up_s, t_zero]
      · rw [if_neg z, if_neg z, mo_p, mo_I, up_s, t_pos3]
    rw [x_M_repaired_0_eq]
    rcases hc with ⟨q1, q2, q3, q4⟩ | ⟨q1, q2, q3, q4⟩ | ⟨q1, q2, q3, q4⟩
    · rw [if_pos q1, if_pos (by omega), if_neg (by omega)]; exact fin
    · rw [if_pos q1, if_neg (by omega), if_neg (by omega)]; exact fin
    · rw [if_neg (by omega), if_neg (by omega)]; exact fin
  | succ d ih =>
    intro v hv hlo
    have e2 : wr ((v : Int) + 1) = ((v + 1 : Nat) : Int) := by rw [wr_id (by omega)]; omega
    have hb := bs_rgv_bd (s := t) (l := bs_cvt V n) (p := p) v
    have hvd : (v : Int) < (if t = 2 then 20 else 10) := by
      rcases hc with ⟨q1, q2, q3, q4⟩ | ⟨q1, q2, q3, q4⟩ | ⟨q1, q2, q3, q4⟩
      · rw [if_pos q2]; omega
      · rw [if_neg q2]; omega
      · rw [if_pos q2]; omega
    have hrt : rtL t V p (al v) (lsv (bs_cvt V n) p v) := by
      intro k hk
      have hk2 : k < n := by rw [lsv_l, hlen] at hk; exact hk
      rw [lsv_at (by omega) k hk]
      by_cases z : k = p
      · rw [if_pos z]
        exact ⟨⟨by omega, hvd⟩, fun _ => rfl, fun y => absurd (by omega) y⟩
      · rw [if_neg z, bs_cvt_at]
        refine ⟨?_, fun y => absurd (by omega) z, fun _ => rfl⟩
        rcases bs_mj_dg (p := k) hdg hV with y | y
        · exact absurd y (hmj k hk2 z)
        · exact y
    have st := ih (v + 1) (by omega) (by omega)
    rw [bs_rgv, haw v hlo (by omega), Bool.true_and] at st
    have body : (bz_ci (d_Str_charAt 6 v (bM sl π M G e)) fun v2 μ1 => bz_ci (d_M_isRight 867 t L p v2 μ1) fun v4 μ3 => if v4 = 0 then x_M_repaired_0 867 t L p o (al1 (bs_rgv t (bs_cvt V n) p v).1) (bs_rgv t (bs_cvt V n) p v).2 (wr ((v : Int) + 1)) μ3 else bz_ci (d_Str_charAt 6 v μ3) fun v6 μ5 => x_M_repaired_0 867 t L p o v6 (wr ((bs_rgv t (bs_cvt V n) p v).2 + 1)) (wr ((v : Int) + 1)) μ5) = (if (bs_rgv t (bs_cvt V n) p hi).2 = 1 then rI (al1 (bs_rgv t (bs_cvt V n) p hi).1) (bM sl π (up M 867 11 0) G e) else rI 0 (bM sl π (up M 867 11 3) G e)) := by
      rw [bc_charAt (Or.inr ⟨rfl, rfl⟩) hM (by omega)]
      simp only [ci_r]
      rw [qm_isRight hM (l := lsv (bs_cvt V n) p v) (by rw [lsv_l, hlen]; omega) hL.2 hW hV6 hrt]
      simp only [ci_r, bi_eq0]
      rw [e2]
      cases hr : bs_rt t (lsv (bs_cvt V n) p v) with
      | false =>
        rw [hr, if_neg (by decide)] at st
        rw [if_pos rfl]; exact st
      | true =>
        rw [hr, if_pos rfl] at st
        rw [if_neg (by decide), bc_charAt (Or.inr ⟨rfl, rfl⟩) hM (by omega)]
        simp only [ci_r]
        rw [wr_id (by omega)]
        have ea : al1 (v : Int) = al v := if_pos (by omega)
        rw [← ea]; exact st
    rw [x_M_repaired_0_eq]
    rcases hc with ⟨q1, q2, q3, q4⟩ | ⟨q1, q2, q3, q4⟩ | ⟨q1, q2, q3, q4⟩
    · rw [if_pos q1, if_pos (by omega), if_pos (by omega)]; exact body
    · rw [if_pos q1, if_neg (by omega), if_pos (by omega)]; exact body
    · rw [if_neg (by omega), if_pos (by omega)]; exact body
theorem qm_repaired (h : MR σ M) (ht : t < 3) : ∃ M', (MR σ M' ∧ fr S_hi M M') ∧ (bs_db (gV σ t) (gL σ t).toNat ≠ 1 → d_M_repaired 867 t (bM sl π M G e) = rI 0 (bM sl π (up M' 867 11 2) G e)) ∧
    (bs_db (gV σ t) (gL σ t).toNat = 1 → gRp σ t = -1 → d_M_repaired 867 t (bM sl π M G e) = rI 0 (bM sl π (up M' 867 11 3) G e)) ∧ (bs_db (gV σ t) (gL σ t).toNat = 1 → gRp σ t ≠ -1 → d_M_repaired 867 t (bM sl π M G e) = rI (al1 (gRp σ t)) (bM sl π M' G e) ∧ M' 867 11 = 0) := by
  have hL := gL_bd h.1 ht
  obtain ⟨A, g, m, f, hA, w⟩ := qm_laysVotes (sl := sl) (e := e) (π := π) (G := G) (MR_th (t := 0) h) ht
  have df := qm_doubtFrom (sl := sl) (e := e) (π := π) (G := G) (i := 0) hL w (gV_b6 h.1 ht) (by omega)
  rw [Nat.sub_zero] at df
  refine ⟨up A 867 11 0, ⟨MR_th m, fr_trans fr_thhi (fr_trans (S_vo_hi f) fr_thhi)⟩, ?_⟩
  rw [d_M_repaired_10 _ _ _ mo_d, x_M_repaired_eq, bw_isSym, sym_t ht]
  simp only [ci_r, bi_eq0]
  rw [if_neg (by decide), mo_p, mo_I, up_s, t_zero, g]
  simp only [ci_r]
  rw [show d_M_doubtFrom 867 0 (gL σ t) (bM sl π A G e) = _ from df]
  simp only [ci_r]
  rcases bs_cd_f (V := gV σ t) (gL σ t).toNat 0 with ⟨y1, y2⟩ | ⟨p, y1, y2, y3, y4, y5⟩
  · have h0 : bs_db (gV σ t) (gL σ t).toNat = 0 := by rw [← bs_db_f]; exact y1
    rw [if_pos y1, mo_p, mo_I, up_s, t_pos2, up_up]
    exact ⟨fun _ => rfl, fun z => by omega, fun z => by omega⟩
  · have hpn : p < (gL σ t).toNat := by omega
    have df2 := qm_doubtFrom (sl := sl) (e := e) (π := π) (G := G) (i := p + 1) hL w (gV_b6 h.1 ht) (by omega)
    have e3 : wr (bs_fdt (gV σ t) (gL σ t).toNat 0 + 1) = ((p + 1 : Nat) : Int) := by rw [y1, wr_id (by omega)]; omega
    rw [if_neg (by omega), e3, df2]
    simp only [ci_r]
    by_cases q : bs_fdt (gV σ t) ((gL σ t).toNat - (p + 1)) (p + 1) = -1
    · have hdb : bs_db (gV σ t) (gL σ t).toNat = 1 := by rw [bs_db_1]; exact ⟨p, y1, hpn, q⟩
      have hmj := bs_one y1 hpn q
      have hlen := bs_cvt_l (V := gV σ t) (gL σ t).toNat
      have hW : rVt (up A 867 11 0) (gV σ t) := fun p ch hp hch => by rw [up_a (by decide)]; exact w (by omega) p ch hp hch
      have hM : mCon (up A 867 11 0) := (MR_th (t := 0) m).2.1.2.2.2
      rw [if_pos q, mo_p, mo_I, up_s, t_zero, y1]
      have key : ∀ (o : Int) (lo hi : Nat), rpC t o lo hi → (∀ u : Nat, u < 20 → bs_aw t u p (bs_cvt (gV σ t) (gL σ t).toNat).length = decide (lo ≤ u ∧ u < hi)) →
          x_M_repaired_0 867 t (gL σ t) p o (-1) 0 lo (bM sl π (up A 867 11 0) G e) = (if (bs_rgv t (bs_cvt (gV σ t) (gL σ t).toNat) p 20).2 = 1 then rI (al1 (bs_rgv t (bs_cvt (gV σ t) (gL σ t).toNat) p 20).1) (bM sl π (up A 867 11 0) G e) else rI 0 (bM sl π (up A 867 11 3) G e)) := by
        intro o lo hi hc haw
        have hlh : lo ≤ hi ∧ hi ≤ 20 := by unfold rpC at hc; omega
        have r := qm_rep_0 (sl := sl) (e := e) (π := π) (G := G) (m := 0) hM hL rfl hpn hW (gV_bd h.1 ht) (gV_dg h.1 ht) hmj hc (fun u h1 h2 => by rw [haw u (by omega)]; exact decide_eq_true ⟨h1, h2⟩) (hi - lo) lo (by omega) (Nat.le_refl _)
        rw [rgv_lo lo (fun u hu => by rw [haw u (by omega)]; exact decide_eq_false (by omega)), up_up, up_up] at r
        have r2 := rgv_hi (s := t) (l := bs_cvt (gV σ t) (gL σ t).toNat) (p := p) (hi := hi) (20 - hi) (fun u h1 h2 => by rw [haw u (by omega)]; exact decide_eq_false (by omega))
        rw [show hi + (20 - hi) = 20 by omega] at r2
        rw [← r2] at r
        exact r
      have res : (if (t : Int) = 2 then
            if (p : Int) = 0 then x_M_repaired_0 867 t (gL σ t) p 1 (-1) 0 16 (bM sl π (up A 867 11 0) G e) else
            if (p : Int) = wr (gL σ t - 1) then x_M_repaired_0 867 t (gL σ t) p 1 (-1) 0 16 (bM sl π (up A 867 11 0) G e) else
            x_M_repaired_0 867 t (gL σ t) p 0 (-1) 0 0 (bM sl π (up A 867 11 0) G e)
          else
          x_M_repaired_0 867 t (gL σ t) p 0 (-1) 0 0 (bM sl π (up A 867 11 0) G e)) = (if (bs_rgv t (bs_cvt (gV σ t) (gL σ t).toNat) p 20).2 = 1 then rI (al1 (bs_rgv t (bs_cvt (gV σ t) (gL σ t).toNat) p 20).1) (bM sl π (up A 867 11 0) G e) else rI 0 (bM sl π (up A 867 11 3) G e)) := by
        rw [wr_id (by omega)]
        by_cases t2 : t = 2
        · have aw : ∀ u : Nat, bs_aw t u p (bs_cvt (gV σ t) (gL σ t).toNat).length = decide (((p : Int) = 0 ∨ (p : Int) = (bs_cvt (gV σ t) (gL σ t).toNat).length - 1) ∧ 16 ≤ (u : Int) ∧ (u : Int) < 20 ∨ ¬ ((p : Int) = 0 ∨ (p : Int) = (bs_cvt (gV σ t) (gL σ t).toNat).length - 1) ∧ 0 ≤ (u : Int) ∧ (u : Int) < 16) := fun u => if_pos t2
          have hout : ((p : Int) = 0 ∨ (p : Int) = gL σ t - 1) → x_M_repaired_0 867 t (gL σ t) p 1 (-1) 0 16 (bM sl π (up A 867 11 0) G e) = _ := fun ho => key 1 16 20 (Or.inr (Or.inr ⟨rfl, t2, rfl, rfl⟩)) (fun u hu => by rw [aw]; exact decide_eq_decide.mpr (by omega))
          rw [if_pos (by omega)]
          by_cases o1 : (p : Int) = 0
          · rw [if_pos o1]; exact hout (Or.inl o1)
          · rw [if_neg o1]
            by_cases o2 : (p : Int) = gL σ t - 1
            · rw [if_pos o2]; exact hout (Or.inr o2)
            · rw [if_neg o2]
              exact key 0 0 16 (Or.inl ⟨rfl, t2, rfl, rfl⟩) (fun u hu => by rw [aw]; exact decide_eq_decide.mpr (by omega))
        · have aw : ∀ u : Nat, bs_aw t u p (bs_cvt (gV σ t) (gL σ t).toNat).length = decide (0 ≤ (u : Int) ∧ (u : Int) < 10) := fun u => if_neg t2
          rw [if_neg (by omega)]
          exact key 0 0 10 (Or.inr (Or.inl ⟨rfl, t2, rfl, rfl⟩)) (fun u hu => by rw [aw]; exact decide_eq_decide.mpr (by omega))
      have hrp : gRp σ t = if (bs_rgv t (bs_cvt (gV σ t) (gL σ t).toNat) p 20).2 = 1 then (bs_rgv t (bs_cvt (gV σ t) (gL σ t).toNat) p 20).1 else -1 := by
        unfold gRp gRv gFd
        rw [y1, if_pos (by omega)]
        rfl
      rw [hrp]
      refine ⟨fun z => absurd hdb z, fun _ z => ?_, fun _ z => ?_⟩
      · refine Eq.trans res ?_
        by_cases c1 : (bs_rgv t (bs_cvt (gV σ t) (gL σ t).toNat) p 20).2 = 1
        · rw [if_pos c1] at z
          rcases rgv_nn (s := t) (l := bs_cvt (gV σ t) (gL σ t).toNat) (p := p) 20 (Nat.le_refl _) with w | w <;> omega
        · rw [if_neg c1, up_up]
      · by_cases c1 : (bs_rgv t (bs_cvt (gV σ t) (gL σ t).toNat) p 20).2 = 1
        · rw [if_pos c1] at res ⊢
          exact ⟨res, rfl⟩
        · rw [if_neg c1] at z; exact absurd rfl z
    · rw [if_neg q, mo_p, mo_I, up_s, t_pos2, up_up]
      have hdb : bs_db (gV σ t) (gL σ t).toNat ≠ 1 := by
        rw [Ne, bs_db_1]
        rintro ⟨r, r1, r2, r3⟩
        have : r = p := by omega
        subst this
        exact q r3
      exact ⟨fun _ => rfl, fun z => absurd z hdb, fun z => absurd z hdb⟩
theorem qm_repairedX {s : Int} (hs : ¬ (0 ≤ s ∧ s < 3)) : d_M_repaired 867 s (bM sl π M G e) = rI 0 (bM sl π (up M 867 11 1) G e) := by
  rw [d_M_repaired_10 _ _ _ mo_d, x_M_repaired_eq, bw_isSym, decide_eq_false hs]
  simp only [ci_r, bi_eq0]
  rw [if_pos trivial, mo_p, mo_I, up_s, t_pos]
end
