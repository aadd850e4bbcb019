/-! THE SYMBOLOGIES' METHODS BY THE KIND'S ADDRESS -/
section
variable {sl e : Nat} {π : Int → Nat} {M G : Nat → Int → Int} {r q : Nat} {n a : Int} {w : Int → Int} {l : List Ch}
theorem k_22 : gT (bM sl π M G e) 22 = 2 := gT_bM.trans (by decide)
theorem k_23 : gT (bM sl π M G e) 23 = 3 := gT_bM.trans (by decide)
theorem k_24 : gT (bM sl π M G e) 24 = 1 := gT_bM.trans (by decide)
theorem bc_unit {s : Nat} (hs : s < 3) (hM : mCon M) (hr : aRow r) (hw : rRow M r n w) (hpw : wOK n w) (hq : aSeq q) (hl : rSeq M q l) (hab : -50000 ≤ a ∧ a ≤ 50000) (hlen : l.length + (if s = 1 then 2 else 1) ≤ 16) :
    ∃ M', d_Sym_addUnit (22 + s) r a q (bM sl π M G e) = rI (bi (bs_un s w n a).isSome) (bM sl π M' G e) ∧ fr (S_u r q) M M' ∧ rSeq M' q (l ++ (bs_un s w n a).getD []) := by
  match s, hs with
  | 0, _ =>
    rw [show 22 + 0 = 22 from rfl, d_Sym_addUnit_2 _ _ _ _ _ k_22]
    exact bc_unE hr hw hpw hq hl hab hlen
  | 1, _ =>
    rw [show 22 + 1 = 23 from rfl, d_Sym_addUnit_3 _ _ _ _ _ k_23]
    exact bc_unI hM hr hw hpw hq hl hab hlen
  | 2, _ =>
    rw [show 22 + 2 = 24 from rfl, d_Sym_addUnit_1 _ _ _ _ _ k_24]
    exact bc_unC hM hr hw hpw hq hl hab hlen
theorem bc_guard {s : Nat} (hs : s < 3) (hM : mCon M) (hr : aRow r) (hw : rRow M r n w) (hpw : wOK n w) (hq : aSeq q) (hl : rSeq M q l) (hab : -50000 ≤ a ∧ a ≤ 50000) (hlen : l.length + 1 ≤ 16) :
    ∃ M', d_Sym_addGuard (22 + s) r a q (bM sl π M G e) = rI 0 (bM sl π M' G e) ∧ fr (S_u r q) M M' ∧ rSeq M' q (l ++ bs_gu s w n a) := by
  match s, hs with
  | 0, _ =>
    rw [show 22 + 0 = 22 from rfl, d_Sym_addGuard_2 _ _ _ _ _ k_22, x_Sym_addGuard_eq]
    exact ⟨M, rfl, fr_refl, by simpa [bs_gu] using hl⟩
  | 1, _ =>
    rw [show 22 + 1 = 23 from rfl, d_Sym_addGuard_3 _ _ _ _ _ k_23, x_Sym_addGuard_eq]
    exact ⟨M, rfl, fr_refl, by simpa [bs_gu] using hl⟩
  | 2, _ =>
    rw [show 22 + 2 = 24 from rfl, d_Sym_addGuard_1 _ _ _ _ _ k_24, x_Cod_addGuard_eq]
    obtain ⟨M1, h1, f1, c1⟩ := bc_match7 (sl := sl) (e := e) (π := π) (G := G) hM hr hw hpw (a := a) (by omega)
    have f1' : fr (S_u r q) M M1 := fr_mono (fun b j z => Or.inl z) f1
    have l1 : rSeq M1 q l := rSeq_fr hl f1 (fun b j z y => (aRS hr hq).1 (by rw [← y.1]; exact z))
    rw [h1]
    simp only [ci_r]
    unfold bs_gu
    rw [show bs_rd w n a 1 7 bs_P7 20 = bs_v7 w n a from rfl] at c1 ⊢
    rw [if_pos rfl]
    by_cases q2 : bs_v7 w n a < 16
    · rw [if_pos q2, if_pos q2]
      exact ⟨M1, rfl, f1', by simpa using l1⟩
    · rw [if_neg q2, if_neg q2, row_I hr, c1 (by omega)]
      obtain ⟨M2, h2, f2, l2⟩ := bc_Seq_add (sl := sl) (e := e) (π := π) (G := G) hq l1 (by omega) (bs_v7 w n a) (bs_cf (bs_u w a 1) 7)
      rw [h2]
      exact ⟨M2, rfl, fr_trans f1' (fr_mono (fun b j z => Or.inr z) f2), l2⟩
theorem bc_ev3 (hr : aRow r) (hw : rRow M r n w) (hp : wOK n w) (hb : -50000 ≤ a ∧ a ≤ 50000) : d_Row_isEven r a 3 (bM sl π M G e) = rI (bi (bs_even w n a 3)) (bM sl π M G e) := bc_isEven (c := 3) hr hw hp (by decide) (by omega)
theorem bc_ev4 (hr : aRow r) (hw : rRow M r n w) (hp : wOK n w) (hb : -50000 ≤ a ∧ a ≤ 50000) : d_Row_isEven r a 4 (bM sl π M G e) = rI (bi (bs_even w n a 4)) (bM sl π M G e) := bc_isEven (c := 4) hr hw hp (by decide) (by omega)
theorem bc_ev5 (hr : aRow r) (hw : rRow M r n w) (hp : wOK n w) (hb : -50000 ≤ a ∧ a ≤ 50000) : d_Row_isEven r a 5 (bM sl π M G e) = rI (bi (bs_even w n a 5)) (bM sl π M G e) := bc_isEven (c := 5) hr hw hp (by decide) (by omega)
theorem bc_qu3 {s : Int} (hr : aRow r) (hw : rRow M r n w) (hp : wOK n w) (hb : -50000 ≤ a ∧ a ≤ 50000) : d_Row_isQuiet r s a 3 (bM sl π M G e) = rI (bi (bs_quiet w n s a 3)) (bM sl π M G e) := bc_isQuiet (c := 3) hr hw hp (by decide) (by omega)
theorem bc_qu4 {s : Int} (hr : aRow r) (hw : rRow M r n w) (hp : wOK n w) (hb : -50000 ≤ a ∧ a ≤ 50000) : d_Row_isQuiet r s a 4 (bM sl π M G e) = rI (bi (bs_quiet w n s a 4)) (bM sl π M G e) := bc_isQuiet (c := 4) hr hw hp (by decide) (by omega)
theorem bc_qu7 {s : Int} (hr : aRow r) (hw : rRow M r n w) (hp : wOK n w) (hb : -50000 ≤ a ∧ a ≤ 50000) : d_Row_isQuiet r s a 7 (bM sl π M G e) = rI (bi (bs_quiet w n s a 7)) (bM sl π M G e) := bc_isQuiet (c := 7) hr hw hp (by decide) (by omega)
theorem bi_and {A B : Bool} {μ : bz_M} : (if A = false then rI 0 μ else if B = false then rI 0 μ else rI 1 μ) = rI (bi (A && B)) μ := by
  cases A <;> cases B <;> rfl
theorem bc_begins {s : Nat} (hs : s < 3) (hM : mCon M) (hr : aRow r) (hw : rRow M r n w) (hpw : wOK n w) (hab : -40000 ≤ a ∧ a ≤ 40000) :
    ∃ M', d_Sym_beginsAt (22 + s) r a (bM sl π M G e) = rI (bi (bs_be s w n a)) (bM sl π M' G e) ∧ fr (S_1 r) M M' := by
  match s, hs with
  | 0, _ =>
    rw [show 22 + 0 = 22 from rfl, d_Sym_beginsAt_2 _ _ _ _ k_22, x_Ean_beginsAt_eq, bc_ev3 hr hw hpw (by omega), wr_id (by omega)]
    simp only [ci_r, bi_eq0]
    rw [bc_qu3 hr hw hpw (by omega)]
    simp only [ci_r, bi_eq0]
    exact ⟨M, bi_and, fr_refl⟩
  | 1, _ =>
    rw [show 22 + 1 = 23 from rfl, d_Sym_beginsAt_3 _ _ _ _ k_23, x_Int_beginsAt_eq, bc_ev4 hr hw hpw (by omega), wr_id (by omega)]
    simp only [ci_r, bi_eq0]
    rw [bc_qu4 hr hw hpw (by omega)]
    simp only [ci_r, bi_eq0]
    exact ⟨M, bi_and, fr_refl⟩
  | 2, _ =>
    obtain ⟨M1, h1, f1, c1⟩ := bc_match7 (sl := sl) (e := e) (π := π) (G := G) hM hr hw hpw (a := a) (by omega)
    have w1 : rRow M1 r n w := rRow_fr hw f1 (fun z => absurd z.2 (by decide)) (fun j z => absurd z.1 (by omega))
    rw [show 22 + 2 = 24 from rfl, d_Sym_beginsAt_1 _ _ _ _ k_24, x_Cod_beginsAt_eq, h1, wr_id (by omega)]
    simp only [ci_r]
    rw [bc_qu7 hr w1 hpw (by omega)]
    simp only [ci_r, bi_eq0]
    refine ⟨M1, ?_, f1⟩
    rw [show bs_be 2 w n a = (decide (16 ≤ bs_v7 w n a) && bs_quiet w n (a - 1) a 7) from rfl, show bs_rd w n a 1 7 bs_P7 20 = bs_v7 w n a from rfl]
    by_cases q2 : bs_v7 w n a < 16
    · rw [if_pos q2, decide_eq_false (by omega)]; rfl
    · rw [if_neg q2, decide_eq_true (by omega)]
      cases bs_quiet w n (a - 1) a 7 <;> rfl
theorem bc_ends {s : Nat} (hs : s < 3) (hM : mCon M) (hr : aRow r) (hw : rRow M r n w) (hpw : wOK n w) (hab : -40000 ≤ a ∧ a ≤ 40000) :
    ∃ M', d_Sym_endsAt (22 + s) r a (bM sl π M G e) = rI (bi (bs_en s w n a)) (bM sl π M' G e) ∧ fr (S_1 r) M M' := by
  match s, hs with
  | 0, _ =>
    rw [show 22 + 0 = 22 from rfl, d_Sym_endsAt_2 _ _ _ _ k_22, x_Ean_endsAt_eq, wr_id (x := a - 2) (by omega), bc_ev3 hr hw hpw (by omega), wr_id (by omega)]
    simp only [ci_r, bi_eq0]
    rw [bc_qu3 hr hw hpw (by omega)]
    simp only [ci_r, bi_eq0]
    exact ⟨M, bi_and, fr_refl⟩
  | 1, _ =>
    rw [show 22 + 1 = 23 from rfl, d_Sym_endsAt_3 _ _ _ _ k_23, x_Int_endsAt_eq, wr_id (x := a - 2) (by omega), wr_id (x := a - 1) (by omega), wr_id (x := a + 1) (by omega), bc_has hr hw.2.1 (by omega)]
    simp only [ci_r, bi_eq0]
    refine ⟨M, ?_, fr_refl⟩
    rw [show bs_en 1 w n a = ((decide (0 ≤ a - 2 ∧ a - 2 + 3 ≤ n) && decide (3 * w (a - 1) ≤ 2 * w (a - 2) ∧ 3 * w a ≤ 2 * w (a - 2))) && bs_quiet w n (a + 1) (a - 2) 3) from rfl]
    have hn := hw.1
    by_cases q1 : 0 ≤ a - 2 ∧ a - 2 + 3 ≤ n
    · have g0 := hw.2.2 (a - 2) (by omega)
      have g1 := hw.2.2 (a - 1) (by omega)
      have g2 := hw.2.2 a (by omega)
      have p0 := hpw (a - 2) (by omega)
      have p1 := hpw (a - 1) (by omega)
      have p2 := hpw a (by omega)
      have i1 : wr (2 * w (a - 2)) = 2 * w (a - 2) := wr_id (by omega)
      have i2 : wr (3 * w (a - 1)) = 3 * w (a - 1) := wr_id (by omega)
      have i3 : wr (3 * w a) = 3 * w a := wr_id (by omega)
      rw [decide_eq_true q1, if_neg (by decide), row_w hr, row_r hr (by omega), g0, row_w hr, row_r hr (by omega), g1, row_w hr, row_r hr (by omega), g2, i1, i2, i3, bc_qu3 hr hw hpw (by omega)]
      simp only [ci_r, bi_eq0]
      by_cases q2 : 2 * w (a - 2) < 3 * w (a - 1)
      · rw [if_pos q2, decide_eq_false (by omega)]; rfl
      · rw [if_neg q2]
        by_cases q3 : 2 * w (a - 2) < 3 * w a
        · rw [if_pos q3, decide_eq_false (by omega)]; rfl
        · rw [if_neg q3, decide_eq_true (by omega)]
          cases bs_quiet w n (a + 1) (a - 2) 3 <;> rfl
    · rw [decide_eq_false q1]; rfl
  | 2, _ =>
    obtain ⟨M1, h1, f1, c1⟩ := bc_match7 (sl := sl) (e := e) (π := π) (G := G) hM hr hw hpw (a := a - 6) (by omega)
    have w1 : rRow M1 r n w := rRow_fr hw f1 (fun z => absurd z.2 (by decide)) (fun j z => absurd z.1 (by omega))
    rw [show 22 + 2 = 24 from rfl, d_Sym_endsAt_1 _ _ _ _ k_24, x_Cod_endsAt_eq, wr_id (x := a - 6) (by omega), h1, wr_id (by omega)]
    simp only [ci_r]
    rw [bc_qu7 hr w1 hpw (by omega)]
    simp only [ci_r, bi_eq0]
    refine ⟨M1, ?_, f1⟩
    rw [show bs_en 2 w n a = (decide (16 ≤ bs_v7 w n (a - 6)) && bs_quiet w n (a + 1) (a - 6) 7) from rfl, show bs_rd w n (a - 6) 1 7 bs_P7 20 = bs_v7 w n (a - 6) from rfl]
    by_cases q2 : bs_v7 w n (a - 6) < 16
    · rw [if_pos q2, decide_eq_false (by omega)]; rfl
    · rw [if_neg q2, decide_eq_true (by omega)]
      cases bs_quiet w n (a + 1) (a - 6) 7 <;> rfl
theorem k_S0 {s : Nat} (hs : s < 3) (hM : mCon M) {k : Int → Option bz_R} : bz_fS (bM sl π M G e) (22 + s) 0 k = k (bs_st s) := by
  rw [bm_fS (by match s, hs with | 0, _ => decide | 1, _ => decide | 2, _ => decide), (hM.2.2.2.1 s hs).1]
theorem k_S1 {s : Nat} (hs : s < 3) (hM : mCon M) {k : Int → Option bz_R} : bz_fS (bM sl π M G e) (22 + s) 1 k = k (bs_sp s) := by
  rw [bm_fS (by match s, hs with | 0, _ => decide | 1, _ => decide | 2, _ => decide), (hM.2.2.2.1 s hs).2.1]
theorem k_S2 {s : Nat} (hs : s < 3) (hM : mCon M) {k : Int → Option bz_R} : bz_fS (bM sl π M G e) (22 + s) 2 k = k (bs_us s) := by
  rw [bm_fS (by match s, hs with | 0, _ => decide | 1, _ => decide | 2, _ => decide), (hM.2.2.2.1 s hs).2.2.1]
theorem k_S3 {s : Nat} (hs : s < 3) (hM : mCon M) {k : Int → Option bz_R} : bz_fS (bM sl π M G e) (22 + s) 3 k = k (bs_mu s) := by
  rw [bm_fS (by match s, hs with | 0, _ => decide | 1, _ => decide | 2, _ => decide), (hM.2.2.2.1 s hs).2.2.2]
end
