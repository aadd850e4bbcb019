/-! THE CLASS READS A SCAN -/
section
variable {sl e : Nat} {π : Int → Nat} {G : Nat → Int → Int} {r q d s : Nat} {n : Int} {w : Int → Int}
theorem x_findWhole_d (hs : s < 3) {M : Nat → Int → Int} : d_Sym_findWhole (22 + s) r d (bM sl π M G e) = x_Sym_findWhole_0 (22 + s) r d 1 (bM sl π M G e) := by
  rw [← x_Sym_findWhole_eq]
  match s, hs with
  | 0, _ => exact d_Sym_findWhole_2 _ _ _ _ k_22
  | 1, _ => exact d_Sym_findWhole_3 _ _ _ _ k_23
  | 2, _ => exact d_Sym_findWhole_1 _ _ _ _ k_24
theorem x_findParts_d (hs : s < 3) {M : Nat → Int → Int} : d_Sym_findParts (22 + s) r d (bM sl π M G e) = x_Sym_findParts (22 + s) r d (bM sl π M G e) := by
  match s, hs with
  | 0, _ => exact d_Sym_findParts_2 _ _ _ _ k_22
  | 1, _ => exact d_Sym_findParts_3 _ _ _ _ k_23
  | 2, _ => exact d_Sym_findParts_1 _ _ _ _ k_24
theorem x_interpret_d (hs : s < 3) {M : Nat → Int → Int} {b : Nat} : d_Sym_interpret (22 + s) r b d (bM sl π M G e) = x_Sym_interpret (22 + s) r b d (bM sl π M G e) := by
  match s, hs with
  | 0, _ => exact d_Sym_interpret_2 _ _ _ _ _ k_22
  | 1, _ => exact d_Sym_interpret_3 _ _ _ _ _ k_23
  | 2, _ => exact d_Sym_interpret_1 _ _ _ _ _ k_24
theorem bc_findParts {M : Nat → Int → Int} (hs : s < 3) (hM : mCon M) (hr : aRow r) (hw : rRow M r n w) (hpw : wOK n w) (hd : aRdg d) :
    ∃ M', d_Sym_findParts (22 + s) r d (bM sl π M G e) = rI (bi (decide (bs_pa s w n ≠ ([], [])))) (bM sl π M' G e) ∧ fr (S_p r d) M M' ∧ rSeq M' (d + 4) (bs_pa s w n).1 ∧ rSeq M' (d + 7) (bs_pa s w n).2 := by
  have hn := hw.1
  have hq := hd.2.2.1.2.1
  have hRD := aRD hr hd
  have f0 : fr (S_u r (d + 4)) M (up M (d + 4) 2 0) := fr_q0
  obtain ⟨hM0, w0⟩ := keep_u hr hq f0 hM hw
  rw [x_findParts_d hs, x_Sym_findParts_eq, rdg_h hd, seq_p hq]
  obtain ⟨M2, g2, f2, a2, b2⟩ := bc_fp0 (sl := sl) (e := e) (π := π) (G := G) hs hr hpw hd 65 1 (up M (d + 4) 2 0) [] hM0 w0 rSeq_0 (by omega) (by omega)
  rw [if_neg (show ¬ 2 ≤ ([] : List Ch).length by decide)] at g2 a2
  rw [g2]
  exact ⟨M2, rfl, fr_trans (fr_up (Or.inr (by omega)) fr_refl) f2, a2, b2⟩
theorem bc_copyRev_0 {p : Nat} (hr : aRow r) (hp : aRow p) (hne : p ≠ r) : ∀ (m : Nat) (i : Int) (M : Nat → Int → Int), rRow M r n w → M p 1 = n → (∀ j, 0 ≤ j ∧ j < i → M (p + 1) j = bs_rv w n j) → i + m = n → 0 ≤ i →
    ∃ M', x_Row_copyReversed_0 p r i (bM sl π M G e) = rI 0 (bM sl π M' G e) ∧ fr (fun b _ => b = p + 1) M M' ∧ rRow M' p n (bs_rv w n) := by
  have hpr := aRR hr hp (Ne.symm hne)
  intro m
  induction m with
  | zero =>
    intro i M hw h1 h2 hi h0
    have hn := hw.1
    rw [x_Row_copyReversed_0_eq, row_I hp, h1, if_neg (by omega)]
    exact ⟨M, rfl, fr_refl, hn, h1, fun j hj => h2 j (by omega)⟩
  | succ m ih =>
    intro i M hw h1 h2 hi h0
    have hn := hw.1
    have e1 : wr (wr (n - 1) - i) = n - 1 - i := by rw [wr_id (x := n - 1) (by omega), wr_id (by omega)]
    have e2 : wr (i + 1) = i + 1 := wr_id (by omega)
    rw [x_Row_copyReversed_0_eq, row_I hp, h1, if_pos (by omega), row_w hp, row_w hr, row_I hp, h1, e1, row_r hr (by omega), row_s hp (by omega), e2, hw.2.2 (n - 1 - i) (by omega)]
    have f0 : fr (fun b _ => b = p + 1) M (up M (p + 1) i (w (n - 1 - i))) := fr_up rfl fr_refl
    obtain ⟨M2, g2, f2, a2⟩ := ih (i + 1) (up M (p + 1) i (w (n - 1 - i))) (rRow_fr hw f0 (by omega) (fun j => by omega)) (by rw [up_a (by omega)]; exact h1) (fun j hj => by
      by_cases z : j = i
      · subst z; exact up_s
      · rw [up_i z]; exact h2 j (by omega)) (by omega) (by omega)
    exact ⟨M2, g2, fr_trans f0 f2, a2⟩
theorem bc_copyRev {M : Nat → Int → Int} {p : Nat} (hr : aRow r) (hp : aRow p) (hne : p ≠ r) (hw : rRow M r n w) :
    ∃ M', d_Row_copyReversed p r (bM sl π M G e) = rI 0 (bM sl π M' G e) ∧ fr (fun b _ => b = p ∨ b = p + 1) M M' ∧ rRow M' p n (bs_rv w n) := by
  have hpr := aRR hr hp (Ne.symm hne)
  have hn := hw.1
  rw [d_Row_copyReversed_5 _ _ _ (row_d hp), x_Row_copyReversed_eq, row_I hr, hw.2.1, row_p hp]
  have f0 : fr (fun b _ => b = p ∨ b = p + 1) M (up M p 1 n) := fr_up (Or.inl rfl) fr_refl
  obtain ⟨M2, g2, f2, a2⟩ := bc_copyRev_0 (sl := sl) (e := e) (π := π) (G := G) hr hp hne n.toNat 0 (up M p 1 n) (rRow_fr hw f0 (by omega) (fun j => by omega)) up_s (fun j hj => by omega) (by omega) (by omega)
  exact ⟨M2, g2, fr_trans f0 (fr_mono (fun b j z => Or.inr z) f2), a2⟩
set_option maxHeartbeats 1600000 in
/-- a reading made anew -/
theorem bc_interpret {M : Nat → Int → Int} (hs : s < 3) (hM : mCon M) (hr : aRow r) (h44 : r ≠ 44) (hw : rRow M r n w) (hpw : wOK n w) (hd : aRdg d) (hf : M d 3 = 0) :
    ∃ M', d_Sym_interpret (22 + s) r 44 d (bM sl π M G e) = rI 0 (bM sl π M' G e) ∧ fr (S_i r d) M M' ∧ M' d 3 = 1 ∧ rRdg M' d (bs_read s w n) := by
  have hn := hw.1
  have hq1 := hd.2.2.1.1
  have hq2 := hd.2.2.1.2.1
  have hq3 := hd.2.2.1.2.2
  have hRD := aRD hr hd
  have hri := aRow_in hr
  have hdi := aRdg_in hd
  have h4r := aRR hr a_44 h44
  have h4d := aRD a_44 hd
  have hrv : wOK n (bs_rv w n) := fun i hi => hpw _ (by omega)
  have t10 : gT (bM sl π M G e) d = 4 := rdg_d hd
  rw [x_interpret_d hs, x_Sym_interpret_eq, rdg_I hd, hf, if_pos rfl, rdg_b hd (Or.inr rfl)]
  -- clear
  have hcl : ∀ A : Nat → Int → Int, d_Rdg_clear d (bM sl π A G e) = rI 0 (bM sl π (up (up (up (up (up (up A (d + 1) 2 0) (d + 4) 2 0) (d + 7) 2 0) d 4 0) d 5 0) d 6 0) G e) := by
    intro A
    rw [d_Rdg_clear_4 _ _ (rdg_d hd), x_Rdg_clear_eq, rdg_w hd, seq_p hq1, rdg_h hd, seq_p hq2, rdg_t hd, seq_p hq3, rdg_b hd (Or.inl rfl), rdg_p hd, rdg_p hd]
  rw [hcl]
  simp only [cv_r]
  generalize hM0 : up (up (up (up (up (up (up M d 3 1) (d + 1) 2 0) (d + 4) 2 0) (d + 7) 2 0) d 4 0) d 5 0) d 6 0 = M0
  have f0 : fr (S_i r d) M M0 := by
    rw [← hM0]
    refine fr_up ?_ (fr_up ?_ (fr_up ?_ (fr_up ?_ (fr_up ?_ (fr_up ?_ (fr_up ?_ fr_refl))))))
    all_goals exact Or.inr (Or.inr (by omega))
  have d3 : M0 d 3 = 1 := by
    rw [← hM0, up_i (by decide), up_i (by decide), up_i (by decide), up_a (by omega), up_a (by omega), up_a (by omega), up_s]
  have d4 : M0 d 4 = 0 := by rw [← hM0, up_i (by decide), up_i (by decide), up_s]
  have d5 : M0 d 5 = 0 := by rw [← hM0, up_i (by decide), up_s]
  have d6 : M0 d 6 = 0 := by rw [← hM0, up_s]
  have s1 : rSeq M0 (d + 1) [] := ⟨by rw [← hM0, up_a (by omega), up_a (by omega), up_a (by omega), up_a (by omega), up_a (by omega), up_s]; rfl, by decide, fun k c h => by cases h⟩
  have s2 : rSeq M0 (d + 4) [] := ⟨by rw [← hM0, up_a (by omega), up_a (by omega), up_a (by omega), up_a (by omega), up_s]; rfl, by decide, fun k c h => by cases h⟩
  have s3 : rSeq M0 (d + 7) [] := ⟨by rw [← hM0, up_a (by omega), up_a (by omega), up_a (by omega), up_s]; rfl, by decide, fun k c h => by cases h⟩
  have keepI : ∀ {A B : Nat → Int → Int}, fr (S_i r d) A B → mCon A → rRow A r n w → mCon B ∧ rRow B r n w := by
    intro A B h hA hwA
    refine ⟨mCon_fr hA h fun b j z => ?_, rRow_fr hwA h ?_ fun j => ?_⟩
    · rcases z with z | z | z <;> omega
    · rintro (z | z | z)
      · exact absurd z.2 (by decide)
      · omega
      · omega
    · rintro (z | z | z) <;> omega
  obtain ⟨hM0c, w0⟩ := keepI f0 hM hw
  clear hM0 hcl
  -- as it is
  have FtoI : ∀ {A B : Nat → Int → Int}, fr (S_f r d) A B → fr (S_i r d) A B := fun h => fr_mono (fun b j z => by rcases z with z | z | z; exact Or.inl z; exact Or.inr (Or.inr (by omega)); exact Or.inr (Or.inr (by omega))) h
  have FtoI4 : ∀ {A B : Nat → Int → Int}, fr (S_f 44 d) A B → fr (S_i r d) A B := fun h => fr_mono (fun b j z => by rcases z with z | z | z; exact Or.inr (Or.inl (Or.inl z.1)); exact Or.inr (Or.inr (by omega)); exact Or.inr (Or.inr (by omega))) h
  have PtoI : ∀ {A B : Nat → Int → Int}, fr (S_p r d) A B → fr (S_i r d) A B := fun h => fr_mono (fun b j z => by rcases z with z | z; exact Or.inl z; exact Or.inr (Or.inr (by omega))) h
  have PtoI4 : ∀ {A B : Nat → Int → Int}, fr (S_p 44 d) A B → fr (S_i r d) A B := fun h => fr_mono (fun b j z => by rcases z with z | z; exact Or.inr (Or.inl (Or.inl z.1)); exact Or.inr (Or.inr (by omega))) h
  have CtoI : ∀ {A B : Nat → Int → Int}, fr (fun b _ => b = 44 ∨ b = 44 + 1) A B → fr (S_i r d) A B := fun h => fr_mono (fun b j z => Or.inr (Or.inl (by omega))) h
  rw [x_findWhole_d hs]
  obtain ⟨M1, g1, f1, a1, b1⟩ := bc_fw (sl := sl) (e := e) (π := π) (G := G) hs hr hpw hd 65 1 M0 hM0c w0 (by omega) (by omega)
  obtain ⟨hM1, w1⟩ := keepI (FtoI f1) hM0c w0
  have kS : ∀ {rr : Nat} {A B : Nat → Int → Int} {p : Nat} {l : List Ch}, aRow rr → fr (S_f rr d) A B → (p = d + 4 ∨ p = d + 7) → rSeq A p l → rSeq B p l := by
    intro rr A B p l hrr h hp hl
    have := aRD hrr hd
    exact rSeq_fr hl h fun b j z y => by rcases y with y | y | y <;> omega
  have k34 : ∀ {rr : Nat} {A B : Nat → Int → Int}, aRow rr → fr (S_f rr d) A B → B d 3 = A d 3 ∧ B d 4 = A d 4 := by
    intro rr A B hrr h
    have := aRD hrr hd
    exact ⟨h _ _ (by rintro (y | y | y) <;> omega), h _ _ (by rintro (y | y | y) <;> omega)⟩
  rw [g1]
  simp only [cn_r, bi_eq0]
  unfold bs_read
  cases hfw : bs_fw s w n 65 1 with
  | some x =>
    rw [if_neg (by simp)]
    obtain ⟨c1, c2, c3⟩ := a1 x hfw
    refine ⟨M1, rfl, fr_trans f0 (FtoI f1), ?_, ⟨⟨c1, kS hr f1 (Or.inl rfl) s2, kS hr f1 (Or.inr rfl) s3⟩, ?_, c2, c3⟩⟩
    · rw [(k34 hr f1).1]; exact d3
    · rw [(k34 hr f1).2]; exact d4
  | none =>
    rw [if_pos (show (none : Option (Int × List Ch × Int)).isSome = false from rfl)]
    obtain ⟨c1, c2⟩ := b1 hfw
    obtain ⟨M2, g2, f2, w2b⟩ := bc_copyRev (sl := sl) (e := e) (π := π) (G := G) hr a_44 (Ne.symm h44) w1
    obtain ⟨hM2, w2⟩ := keepI (CtoI f2) hM1 w1
    have kC : ∀ {p : Nat} {l : List Ch}, (p = d + 1 ∨ p = d + 4 ∨ p = d + 7) → rSeq M1 p l → rSeq M2 p l := fun hp hl => rSeq_fr hl f2 fun b j z y => by omega
    have kCd : ∀ j, M2 d j = M1 d j := fun j => f2 d j (by omega)
    rw [g2]
    simp only [cv_r]
    rw [x_findWhole_d hs]
    obtain ⟨M3, g3, f3, a3, b3⟩ := bc_fw (sl := sl) (e := e) (π := π) (G := G) hs a_44 hrv hd 65 1 M2 hM2 w2b (by omega) (by omega)
    obtain ⟨hM3, w3⟩ := keepI (FtoI4 f3) hM2 w2
    have f03 : fr (S_i r d) M M3 := fr_trans f0 (fr_trans (FtoI f1) (fr_trans (CtoI f2) (FtoI4 f3)))
    have d33 : M3 d 3 = 1 := by rw [(k34 a_44 f3).1, kCd, (k34 hr f1).1]; exact d3
    have d34 : M3 d 4 = 0 := by rw [(k34 a_44 f3).2, kCd, (k34 hr f1).2]; exact d4
    have s23 := kS a_44 f3 (Or.inl rfl) (kC (Or.inr (Or.inl rfl)) (kS hr f1 (Or.inl rfl) s2))
    have s33 := kS a_44 f3 (Or.inr rfl) (kC (Or.inr (Or.inr rfl)) (kS hr f1 (Or.inr rfl) s3))
    rw [g3]
    simp only [cn_r, bi_eq0]
    cases hfw2 : bs_fw s (bs_rv w n) n 65 1 with
    | some x =>
      rw [if_neg (by simp)]
      obtain ⟨c1, c2, c3⟩ := a3 x hfw2
      have hx : -100000 ≤ x.1 ∧ x.1 ≤ 100000 ∧ -100000 ≤ x.2.2 ∧ x.2.2 ≤ 100000 := by
        have := bs_fw_ok hs hrv _ _ _ hfw2
        omega
      have i1 : wr (wr (n - 1) - x.2.2) = n - 1 - x.2.2 := by rw [wr_id (x := n - 1) (by omega), wr_id (by omega)]
      have i2 : wr (wr (n - 1) - x.1) = n - 1 - x.1 := by rw [wr_id (x := n - 1) (by omega), wr_id (by omega)]
      rw [row_I hr, w3.2.1, d_Rdg_turn_4 _ _ _ (rdg_d hd), x_Rdg_turn_eq, rdg_I hd, rdg_I hd, rdg_p hd, rdg_p hd, rdg_b hd (Or.inr rfl), c2, c3, i1, i2]
      have f4 : fr (fun b j => b = d ∧ (j = 4 ∨ j = 5 ∨ j = 6)) M3 (up (up (up M3 d 5 (n - 1 - x.2.2)) d 6 (n - 1 - x.1)) d 4 1) := fr_up (by omega) (fr_up (by omega) (fr_up (by omega) fr_refl))
      have k4 : ∀ {p : Nat} {l : List Ch}, d + 1 ≤ p → rSeq M3 p l → rSeq (up (up (up M3 d 5 (n - 1 - x.2.2)) d 6 (n - 1 - x.1)) d 4 1) p l := fun hp hl => rSeq_fr hl f4 fun b j z y => by omega
      refine ⟨_, rfl, fr_trans f03 (fr_mono (fun b j z => Or.inr (Or.inr (by omega))) f4), ?_, ⟨⟨k4 (by omega) c1, k4 (by omega) s23, k4 (by omega) s33⟩, ?_, ?_, ?_⟩⟩
      · rw [up_i (by decide), up_i (by decide), up_i (by decide)]; exact d33
      · rw [up_s]; rfl
      · rw [up_i (by decide), up_i (by decide), up_s]
      · rw [up_i (by decide), up_s]
    | none =>
      rw [if_pos (show (none : Option (Int × List Ch × Int)).isSome = false from rfl)]
      obtain ⟨c31, c32⟩ := b3 hfw2
      have w3b : rRow M3 44 n (bs_rv w n) := rRow_fr w2b f3 (by rintro (z | z | z) <;> omega) (fun j => by rintro (z | z | z) <;> omega)
      have d35 : M3 d 5 = 0 := by rw [c32, kCd, c2]; exact d5
      have d36 : M3 d 6 = 0 := by rw [c32, kCd, c2]; exact d6
      obtain ⟨M4, g4, f4, a4, b4⟩ := bc_findParts (sl := sl) (e := e) (π := π) (G := G) hs hM3 hr w3 hpw hd
      obtain ⟨hM4, w4⟩ := keepI (PtoI f4) hM3 w3
      have k4 : rSeq M4 (d + 1) [] := rSeq_fr c31 f4 fun b j z y => by rcases y with y | y <;> omega
      have k4d : ∀ j, M4 d j = M3 d j := fun j => f4 d j (by rintro (y | y) <;> omega)
      rw [g4]
      simp only [cn_r, bi_eq0]
      by_cases hpa : bs_pa s w n = ([], [])
      · rw [if_pos hpa, if_pos (decide_eq_false (fun z => z hpa))]
        have w4b : rRow M4 44 n (bs_rv w n) := rRow_fr w3b f4 (by rintro (z | z) <;> omega) (fun j => by rintro (z | z) <;> omega)
        obtain ⟨M5, g5, f5, a5, b5⟩ := bc_findParts (sl := sl) (e := e) (π := π) (G := G) hs hM4 a_44 w4b hrv hd
        have k5 : rSeq M5 (d + 1) [] := rSeq_fr k4 f5 fun b j z y => by rcases y with y | y <;> omega
        have k5d : ∀ j, M5 d j = M4 d j := fun j => f5 d j (by rintro (y | y) <;> omega)
        rw [g5]
        simp only [cn_r]
        rw [rdg_b hd bi_01]
        have f6 : ∀ v, fr (fun b j => b = d ∧ j = 4) M5 (up M5 d 4 v) := fun v => fr_up ⟨rfl, rfl⟩ fr_refl
        have k6 : ∀ {p : Nat} {l : List Ch} {v : Int}, d + 1 ≤ p → rSeq M5 p l → rSeq (up M5 d 4 v) p l := fun hp hl => rSeq_fr hl (f6 _) fun b j z y => by omega
        refine ⟨_, rfl, fr_trans f03 (fr_trans (PtoI f4) (fr_trans (PtoI4 f5) (fr_mono (fun b j z => Or.inr (Or.inr (by omega))) (f6 _)))), ?_, ⟨⟨k6 (by omega) k5, k6 (by omega) a5, k6 (by omega) b5⟩, ?_, ?_, ?_⟩⟩
        · rw [up_i (by decide), k5d, k4d]; exact d33
        · rw [up_s]
        · rw [up_i (by decide), k5d, k4d]; exact d35
        · rw [up_i (by decide), k5d, k4d]; exact d36
      · rw [if_neg hpa, if_neg (by rw [decide_eq_true hpa]; decide)]
        refine ⟨M4, rfl, fr_trans f03 (PtoI f4), ?_, ⟨⟨k4, a4, b4⟩, ?_, ?_, ?_⟩⟩
        · rw [k4d]; exact d33
        · rw [k4d]; exact d34
        · rw [k4d]; exact d35
        · rw [k4d]; exact d36
end
