/-! THE CLASS'S PROBLEM AND WINNER -/
section
variable {sl e : Nat} {π : Int → Nat} {M G : Nat → Int → Int} {σ : Sg} {t : Nat}
/-- the sum of a check -/
def bs_rs (s : Nat) : List Ch → Nat → Int
  | [], _ => 0
  | c :: l, i => (if s ≠ 2 ∧ Int.tmod i 2 = 0 then 3 * c.1 else c.1) + bs_rs s l (i + 1)
def bs_rt (s : Nat) (l : List Ch) : Bool := decide (Int.tmod (bs_rs s l 0) (if s = 2 then 16 else 10) = 0)
theorem bc_rt_s {q : Nat} {l : List Ch} {s : Nat} (hs : s ≠ 2) (hq : aSeq q) (hl : rSeq M q l) (hv : ∀ c ∈ l, -1 ≤ c.1 ∧ c.1 < 20) : ∀ (d i : Nat) (a : Int), i + d = l.length → -100 * i ≤ a ∧ a ≤ 100 * i → x_Sym_isRight_0 q a i (bM sl π M G e) = rI (bi (decide (Int.tmod (a + bs_rs s (l.drop i) i) 10 = 0))) (bM sl π M G e) := by
  have h16 := hl.2.1
  intro d
  induction d with
  | zero =>
    intro i a hi ha
    rw [x_Sym_isRight_0_eq, seq_I hq, hl.1, if_neg (by omega), List.drop_eq_nil_of_le (by omega)]
    show _ = rI (bi (decide (Int.tmod (a + 0) 10 = 0))) _
    rw [Int.add_zero]
    by_cases z : Int.tmod a 10 = 0
    · rw [if_pos z, decide_eq_true z]; rfl
    · rw [if_neg z, decide_eq_false z]; rfl
  | succ d ih =>
    intro i a hi ha
    have hi2 : i < l.length := by omega
    have e2 : wr ((i : Int) + 1) = ((i + 1 : Nat) : Int) := by rw [wr_id (by omega)]; omega
    have hb := hv _ (List.getElem_mem hi2)
    rw [x_Sym_isRight_0_eq, seq_I hq, hl.1, if_pos (by omega), e2, List.drop_eq_getElem_cons hi2, bs_rs]
    by_cases z : Int.tmod i 2 = 0
    · rw [if_pos z, if_pos ⟨hs, z⟩, seq_v hq, seq_v_at hq hl hi2, wr_id (x := 3 * (l[i]).1) (by omega), wr_id (by omega), ih (i + 1) _ (by omega) (by omega), Int.add_assoc]
    · rw [if_neg z, if_neg (fun y => z y.2), seq_v hq, seq_v_at hq hl hi2, wr_id (by omega), ih (i + 1) _ (by omega) (by omega), Int.add_assoc]
theorem bc_rt_c {q : Nat} {l : List Ch} (hq : aSeq q) (hl : rSeq M q l) (hv : ∀ c ∈ l, -1 ≤ c.1 ∧ c.1 < 20) : ∀ (d i : Nat) (a : Int), i + d = l.length → -100 * i ≤ a ∧ a ≤ 100 * i → x_Cod_isRight_0 q a i (bM sl π M G e) = rI (bi (decide (Int.tmod (a + bs_rs 2 (l.drop i) i) 16 = 0))) (bM sl π M G e) := by
  have h16 := hl.2.1
  intro d
  induction d with
  | zero =>
    intro i a hi ha
    rw [x_Cod_isRight_0_eq, seq_I hq, hl.1, if_neg (by omega), List.drop_eq_nil_of_le (by omega)]
    show _ = rI (bi (decide (Int.tmod (a + 0) 16 = 0))) _
    rw [Int.add_zero]
    by_cases z : Int.tmod a 16 = 0
    · rw [if_pos z, decide_eq_true z]; rfl
    · rw [if_neg z, decide_eq_false z]; rfl
  | succ d ih =>
    intro i a hi ha
    have hi2 : i < l.length := by omega
    have e2 : wr ((i : Int) + 1) = ((i + 1 : Nat) : Int) := by rw [wr_id (by omega)]; omega
    have hb := hv _ (List.getElem_mem hi2)
    rw [x_Cod_isRight_0_eq, seq_I hq, hl.1, if_pos (by omega), e2, List.drop_eq_getElem_cons hi2, bs_rs, if_neg (fun y => y.1 rfl), seq_v hq, seq_v_at hq hl hi2, wr_id (by omega), ih (i + 1) _ (by omega) (by omega), Int.add_assoc]
theorem bc_isRight {q s : Nat} {l : List Ch} (hs : s < 3) (hq : aSeq q) (hl : rSeq M q l) (hv : ∀ c ∈ l, -1 ≤ c.1 ∧ c.1 < 20) : d_Sym_isRight (22 + s) q (bM sl π M G e) = rI (bi (bs_rt s l)) (bM sl π M G e) := by
  have gen : s ≠ 2 → x_Sym_isRight (22 + s) q (bM sl π M G e) = rI (bi (bs_rt s l)) (bM sl π M G e) := by
    intro h2
    have k := bc_rt_s (sl := sl) (e := e) (π := π) (G := G) h2 hq hl hv l.length 0 0 (by omega) (by omega)
    rw [List.drop_zero, Int.zero_add] at k
    rw [x_Sym_isRight_eq]
    unfold bs_rt
    rw [if_neg h2]
    exact k
  match s, hs with
  | 0, _ => rw [show 22 + 0 = 22 from rfl, d_Sym_isRight_2 _ _ _ k_22]; exact gen (by decide)
  | 1, _ => rw [show 22 + 1 = 23 from rfl, d_Sym_isRight_3 _ _ _ k_23]; exact gen (by decide)
  | 2, _ =>
    have k := bc_rt_c (sl := sl) (e := e) (π := π) (G := G) hq hl hv l.length 0 0 (by omega) (by omega)
    rw [List.drop_zero, Int.zero_add] at k
    rw [show 22 + 2 = 24 from rfl, d_Sym_isRight_1 _ _ _ k_24, x_Cod_isRight_eq]
    exact k
/-- the voted values -/
def bs_cvt (V : Vt) : Nat → List Ch
  | 0 => []
  | i + 1 => bs_cvt V i ++ [(bs_mj V i, 0)]
theorem bs_cvt_l {V : Vt} : ∀ i : Nat, (bs_cvt V i).length = i := by
  intro i
  induction i with
  | zero => rfl
  | succ i ih => rw [bs_cvt, List.length_append, ih]; rfl
theorem bs_cvt_v {V : Vt} : ∀ i : Nat, ∀ c ∈ bs_cvt V i, -1 ≤ c.1 ∧ c.1 < 20 := by
  intro i
  induction i with
  | zero => intro c hc; cases hc
  | succ i ih =>
    intro c hc
    rw [bs_cvt, List.mem_append] at hc
    rcases hc with hc | hc
    · exact ih c hc
    · rw [List.mem_singleton] at hc
      subst hc
      have := bs_mj_bd (V := V) (p := i)
      dsimp only
      omega
theorem tal_lm {T : Nat} {kk : Int → Option bz_R} (h : aTal T) : bz_al (bM sl π M G e) (T + 4) kk = kk 16 := bm_al (n := 16) (by rw [h.2.1.2.2.2]; decide) h.2.2.1.2.2.2 (by have := h.2.2.2.2.2; omega)
theorem bc_cvt_0 {T : Nat} {L : Int} {V : Vt} (hT : aTal T) (hT40 : T + 4 < 48) (hL : 0 ≤ L ∧ L ≤ 16) (hq : aSeq 48) : ∀ (d i : Nat) (M : Nat → Int → Int), (i : Int) + d = L → rTal M T L V → rSeq M 48 (bs_cvt V i) →
    ∃ M', x_Seq_copyValues_0 48 (T + 4) L i (bM sl π M G e) = rI 0 (bM sl π M' G e) ∧ fr (S_q 48) M M' ∧ rSeq M' 48 (bs_cvt V L.toNat) := by
  intro d
  induction d with
  | zero =>
    intro i M hi r hl
    have : i = L.toNat := by omega
    subst this
    rw [x_Seq_copyValues_0_eq, if_neg (by omega)]
    exact ⟨M, rfl, fr_refl, hl⟩
  | succ d ih =>
    intro i M hi r hl
    have e2 : wr ((i : Int) + 1) = ((i + 1 : Nat) : Int) := by rw [wr_id (by omega)]; omega
    obtain ⟨A, g, f, h⟩ := bc_Seq_add (sl := sl) (e := e) (π := π) (G := G) hq hl (by rw [bs_cvt_l]; omega) (bs_mj V i) 0
    rw [x_Seq_copyValues_0_eq, if_pos (by omega), tal_lm hT, if_pos (by omega), tal_rm hT (by omega), r.2.2.2 i (by omega), g]
    simp only [cv_r]
    rw [e2]
    obtain ⟨M', g2, f2, h2⟩ := ih (i + 1) A (by omega) (rTal_fr r f (fun b j hb hb2 => by unfold S_q; omega)) h
    exact ⟨M', g2, fr_trans f f2, h2⟩
theorem bc_cvt {T : Nat} {L : Int} {V : Vt} (hT : aTal T) (hT40 : T + 4 < 48) (hL : 0 ≤ L ∧ L ≤ 16) (hq : aSeq 48) (r : rTal M T L V) :
    ∃ M', d_Seq_copyValues 48 (T + 4) L (bM sl π M G e) = rI 0 (bM sl π M' G e) ∧ fr (S_q 48) M M' ∧ rSeq M' 48 (bs_cvt V L.toNat) := by
  have f0 : fr (S_q 48) M (up M 48 2 0) := fr_up (by unfold S_q; omega) fr_refl
  rw [d_Seq_copyValues_7 _ _ _ _ (seq_d hq), x_Seq_copyValues_eq, seq_p hq]
  obtain ⟨M', g, f, h⟩ := bc_cvt_0 (sl := sl) (e := e) (π := π) (G := G) (V := V) hT hT40 hL hq L.toNat 0 (up M 48 2 0) (by omega) (rTal_fr r f0 (fun b j hb hb2 => by unfold S_q; omega)) ⟨by rw [up_s]; rfl, by show 0 ≤ 16; omega, fun i c hc => by cases hc⟩
  exact ⟨M', g, fr_trans f0 f, h⟩
/-- the problem of a symbology -/
def bs_pr (t : Nat) (k L : Int) (V : Vt) : Int := if L = 0 then 1 else if 0 < bs_db V L.toNat then 2 else if k = 0 then 0 else if bs_rt t (bs_cvt V L.toNat) = true then 0 else 3
def gPr (σ : Sg) (t : Nat) : Int := bs_pr t (gk σ t) (gL σ t) (gV σ t)
theorem fr_q48 {M' : Nat → Int → Int} (h : CR σ π M) (f : fr (S_q 48) M M') : CR σ π M' := CR_fr h (fr_mono (fun b j z => by unfold S_q at z; exact Or.inr (Or.inl (by omega))) f)
theorem bc_problemOf (h : CR σ π M) (ht : t < 3) (r : rTal M (26 + 5 * t) (gL σ t) (gV σ t)) : ∃ M', d_E_problemOf 16 (26 + 5 * t) t (bM sl π M G e) = rI (gPr σ t) (bM sl π M' G e) ∧ CR σ π M' ∧ fr (S_q 48) M M' := by
  have hL := gL_bd h.1 ht
  unfold gPr bs_pr
  rw [d_E_problemOf_9 _ _ _ _ en_d, x_E_problemOf_eq, tal_I (a_tal ht), r.1]
  by_cases z : gL σ t = 0
  · rw [if_pos z, if_pos z]
    exact ⟨M, rfl, h, fr_refl⟩
  · rw [if_neg z, if_neg z, bc_db (a_tal ht) r hL]
    simp only [ci_r]
    by_cases y : 0 < bs_db (gV σ t) (gL σ t).toNat
    · rw [if_pos y, if_pos y]
      exact ⟨M, rfl, h, fr_refl⟩
    · obtain ⟨A, g, f, hl⟩ := bc_cvt (sl := sl) (e := e) (π := π) (G := G) (a_tal ht) (by omega) hL a_48 r
      have hA := fr_q48 h f
      rw [if_neg y, if_neg y, en_R11, tal_m (a_tal ht), tal_I (a_tal ht), r.1, g]
      simp only [cv_r]
      rw [en_R7, en_r41 (by omega), hA.2.2.2.2.2.1 t (by omega)]
      by_cases x : gk σ t = 0
      · rw [if_pos x, if_pos x]
        exact ⟨A, rfl, hA, f⟩
      · rw [if_neg x, if_neg x, en_R5, en_r21 ht, en_R11, bc_isRight ht a_48 hl (bs_cvt_v _)]
        simp only [cn_r, bi_eq0]
        cases hb : bs_rt t (bs_cvt (gV σ t) (gL σ t).toNat) with
        | false => rw [if_pos rfl, if_neg (by decide)]; exact ⟨A, rfl, hA, f⟩
        | true => rw [if_neg (by decide), if_pos rfl]; exact ⟨A, rfl, hA, f⟩
theorem qo_problem (h : CR σ π M) (ht : t < 3) : ∃ M', d_E_problem 16 t (bM sl π M G e) = rI (gPr σ t) (bM sl π M' G e) ∧ CR σ π M' ∧ lo867 M M' := by
  obtain ⟨A, g, c, lo, r⟩ := qo_tally (sl := sl) (e := e) (G := G) h ht
  obtain ⟨M', g2, c2, f⟩ := bc_problemOf (sl := sl) (e := e) (G := G) c ht r
  rw [d_E_problem_9 _ _ _ en_d, x_E_problem_eq, g]
  simp only [cr_r]
  rw [g2]
  exact ⟨M', rfl, c2, fun b j hb => (f b j (by unfold S_q; omega)).trans (lo b j hb)⟩
theorem qo_problemX {s : Int} (hs : ¬ (0 ≤ s ∧ s < 3)) : d_E_problem 16 s (bM sl π M G e) = rX 2 (bM sl π M G (e + 1)) := by
  rw [d_E_problem_9 _ _ _ en_d, x_E_problem_eq, qo_tallyX hs]; rfl
/-- the winner of the first symbologies, and its share -/
def bs_wn (σ : Sg) : Nat → Int × Int
  | 0 => (-1, -1)
  | s + 1 => if gPr σ s = 0 ∧ (bs_wn σ s).2 < bs_sh (gV σ s) (gL σ s).toNat then ((s : Int), bs_sh (gV σ s) (gL σ s).toNat) else bs_wn σ s
theorem qo_winner_0 : ∀ (d i : Nat) (M : Nat → Int → Int), CR σ π M → i + d = 3 →
    ∃ M', x_E_winner_0 16 (bs_wn σ i).1 (bs_wn σ i).2 i (bM sl π M G e) = rI (bs_wn σ 3).1 (bM sl π M' G e) ∧ CR σ π M' ∧ lo867 M M' := by
  intro d
  induction d with
  | zero =>
    intro i M h hi
    have : i = 3 := by omega
    subst this
    rw [x_E_winner_0_eq, if_neg (by omega)]
    exact ⟨M, rfl, h, fun _ _ _ => rfl⟩
  | succ d ih =>
    intro i M h hi
    have ht : i < 3 := by omega
    have e2 : wr ((i : Int) + 1) = ((i + 1 : Nat) : Int) := by rw [wr_id (by omega)]; omega
    obtain ⟨A, g, c, lo, r⟩ := qo_tally (sl := sl) (e := e) (G := G) h ht
    obtain ⟨B, g2, c2, f⟩ := bc_problemOf (sl := sl) (e := e) (G := G) c ht r
    have rB : rTal B (26 + 5 * i) (gL σ i) (gV σ i) := rTal_fr r f (fun b j hb hb2 => by unfold S_q; omega)
    obtain ⟨M', g3, c3, lo3⟩ := ih (i + 1) B c2 (by omega)
    refine ⟨M', ?_, c3, fun b j hb => (lo3 b j hb).trans ((f b j (by unfold S_q; omega)).trans (lo b j hb))⟩
    rw [bs_wn] at g3
    have hsh := bc_share (sl := sl) (e := e) (π := π) (G := G) (a_tal ht) rB (gL_bd h.1 ht) (gV_bd h.1 ht)
    rw [x_E_winner_0_eq, if_pos (by omega), g]
    simp only [cr_r]
    rw [g2]
    simp only [ci_r]
    by_cases z : gPr σ i = 0
    · rw [if_pos z, hsh, e2]
      simp only [ci_r]
      by_cases y : (bs_wn σ i).2 < bs_sh (gV σ i) (gL σ i).toNat
      · rw [if_pos ⟨z, y⟩] at g3
        rw [if_pos y, hsh]
        exact g3
      · rw [if_neg (fun w => y w.2)] at g3
        rw [if_neg y]
        exact g3
    · rw [if_neg (fun w => z w.1)] at g3
      rw [if_neg z, e2]
      exact g3
theorem qo_winner (h : CR σ π M) : ∃ M', d_E_winner 16 (bM sl π M G e) = rI (bs_wn σ 3).1 (bM sl π M' G e) ∧ CR σ π M' ∧ lo867 M M' := by
  rw [d_E_winner_9 _ _ en_d, x_E_winner_eq]
  exact qo_winner_0 3 0 M h (by omega)
end
