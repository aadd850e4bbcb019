/-! READINGS ASKED FOR: the class's reading, the model's reads, and the queries of one scan -/
section
variable {sl e : Nat} {π : Int → Nat} {M G : Nat → Int → Int} {σ : Sg} {k : Int} {t : Nat}
def lo867 (M M' : Nat → Int → Int) : Prop := ∀ b j, 867 ≤ b → M' b j = M b j
theorem qo_reading (h : CR σ π M) (hk : 0 ≤ k ∧ k < gc σ) (ht : t < 3) : ∃ M', d_E_reading 16 k t (bM sl π M G e) = rR (π k + (4 + 10 * t)) (bM sl π M' G e) ∧ CR σ π M' ∧ lo867 M M' ∧ rRdg M' (π k + (4 + 10 * t)) (gR σ t k) ∧ fr (fun b j => S_i (π k + 1) (π k + (4 + 10 * t)) b j) M M' := by
  have hk24 := CR_k24 h hk
  have hπ := CR_pv h
  have hin := PV_in hπ hk24
  have hd := PV_rdg hπ hk24 ht
  rw [d_E_reading_9 _ _ _ _ en_d, x_E_reading_eq, qo_scan h, if_pos hk]
  simp only [cv_r]
  rw [qo_sym, if_pos (by omega)]
  simp only [cv_r]
  rw [en_R3, qo_rSc hπ hk24, scn_r (PV_a hπ hk24), scn_q (PV_a hπ hk24) ht, en_R5, en_r21 ht, en_R3, qo_rSc hπ hk24, scn_w (PV_a hπ hk24), en_R9]
  by_cases hf : M (π k + (4 + 10 * t)) 3 = 0
  · obtain ⟨M', g, f, d3, rd⟩ := bc_interpret (sl := sl) (e := e) (π := π) (G := G) ht h.2.1 (PV_row hπ hk24) (by omega) (CR_row h hk) (CR_scan h hk).2 hd hf
    rw [g]
    simp only [cu_r]
    have lo : lo867 M M' := fun b j hb => f b j (by unfold S_i; omega)
    refine ⟨M', rfl, ?_, lo, rd, f⟩
    obtain ⟨h1, h2, h3, h4, h5, h6, h7, h8, h9, h10⟩ := h
    have pin : ∀ k, 0 ≤ k ∧ k < gc σ → (0 ≤ k ∧ k < 24) ∧ 51 ≤ π k ∧ π k + 34 ≤ 867 := fun k hk => ⟨by have := h1.1; omega, PV_in h7 (by have := h1.1; omega)⟩
    refine ⟨h1, mCon_fr h2 f fun b j z => by unfold S_i at z; omega, ⟨(f _ _ (by unfold S_i; omega)).trans h3.1, (f _ _ (by unfold S_i; omega)).trans h3.2⟩, fun i hi => (f _ _ (by unfold S_i; omega)).trans (h4 i hi), rRow_fr h5 f (by unfold S_i; omega) (fun j => by unfold S_i; omega), fun s hs => (f _ _ (by unfold S_i; omega)).trans (h6 s hs), h7, fun j hj => ?_, fun j s hj hs hne => ?_, fun s hs hne => ?_⟩
    · have hj' := pin j hj
      by_cases z : j = k
      · subst z; exact rRow_fr (h8 j hj) f (by unfold S_i; omega) (fun j => by unfold S_i; omega)
      · have := PV_ne h7 hj'.1 hk24 z
        exact rRow_fr (h8 j hj) f (by unfold S_i; omega) (fun j => by unfold S_i; omega)
    · have hj' := pin j hj
      by_cases z : j = k
      · subst z
        by_cases z2 : s = t
        · subst z2; exact rd
        · rw [f _ _ (by unfold S_i; omega)] at hne
          exact rRdg_fr (h9 j s hj hs hne) f (fun b j hb => by unfold S_i; omega)
      · have := PV_ne h7 hj'.1 hk24 z
        rw [f _ _ (by unfold S_i; omega)] at hne
        exact rRdg_fr (h9 j s hj hs hne) f (fun b j hb => by unfold S_i; omega)
    · rw [f _ _ (by unfold S_i; omega)] at hne
      exact rTal_fr (h10 s hs hne) f (fun b j hb hb2 => by unfold S_i; omega)
  · rw [x_interpret_d ht, x_Sym_interpret_eq, rdg_I hd, if_neg hf]
    simp only [cu_r]
    exact ⟨M, rfl, h, fun _ _ _ => rfl, h.2.2.2.2.2.2.2.2.1 k t hk ht hf, fr_refl⟩
theorem qo_readingX {s : Int} (h : CR σ π M) (hx : ¬ ((0 ≤ k ∧ k < gc σ) ∧ 0 ≤ s ∧ s < 3)) : d_E_reading 16 k s (bM sl π M G e) = rX 2 (bM sl π M G (e + 1)) := by
  rw [d_E_reading_9 _ _ _ _ en_d, x_E_reading_eq, qo_scan h]
  by_cases q : 0 ≤ k ∧ k < gc σ
  · rw [if_pos q]
    simp only [cv_r]
    rw [qo_sym, if_neg (fun z => hx ⟨q, z⟩)]; rfl
  · rw [if_neg q]; rfl
theorem qo_char {v : Int} (h : mCon M) (hv : 0 ≤ v ∧ v < 20) : x_E_characterOf v (bM sl π M G e) = rI (al v) (bM sl π M G e) := by
  rw [x_E_characterOf_eq, if_neg (by omega), if_pos hv.2, bc_charAt (Or.inl ⟨rfl, rfl⟩) h hv]
  rfl
theorem qo_charN {v : Int} (hv : ¬ (0 ≤ v ∧ v < 20)) : x_E_characterOf v (bM sl π M G e) = rI (-1) (bM sl π M G e) := by
  rw [x_E_characterOf_eq]
  by_cases z : v < 0
  · rw [if_pos z]
  · rw [if_neg z, if_neg (by omega)]
theorem okRd_g (h : okS σ) (hk : 0 ≤ k ∧ k < gc σ) (ht : t < 3) : okRd t (gs σ k) (gR σ t k) := bs_read_ok ht (h.2.1 k hk).2
theorem okC_20 {c : Ch} (h : okC t c) : 0 ≤ c.1 ∧ c.1 < 20 := by
  have h1 := h.1
  split at h1 <;> omega
/-! the model -/
theorem qm_readsX {s : Int} (h : MR σ M) (hx : ¬ ((0 ≤ k ∧ k < gc σ) ∧ 0 ≤ s ∧ s < 3)) : d_M_reads 867 k s (bM sl π M G e) = rI 0 (bM sl π (up M 867 11 1) G e) := by
  rw [d_M_reads_10 _ _ _ _ mo_d, x_M_reads_eq, bw_isScan h]
  simp only [ci_r, bi_eq0]
  by_cases q : 0 ≤ k ∧ k < gc σ
  · rw [if_neg (by rw [decide_eq_true q]; decide), bw_isSym]
    simp only [ci_r, bi_eq0]
    rw [if_pos (decide_eq_false (fun z => hx ⟨q, z⟩)), mo_p, mo_I, up_s, if_neg (by decide), mo_I, up_s, if_neg (by decide)]
  · rw [if_pos (decide_eq_false q), mo_p, mo_I, up_s, if_neg (by decide), mo_I, up_s, if_neg (by decide)]
theorem S_sc_MR {b : Nat} {j : Int} (z : S_sc k b j) : (b = 867 ∧ j ≠ 8 ∧ j ≠ 9 ∧ j ≠ 10) ∨ 876 ≤ b ∨ (b < 867 ∧ 16 ≤ b ∧ ¬ (22 ≤ b ∧ b ≤ 24)) := by unfold S_sc at z; omega
theorem S_sc_hi {M' : Nat → Int → Int} (f : fr (S_sc k) M M') : fr S_hi M M' := fr_mono (fun b j z => by unfold S_sc at z; unfold S_hi; omega) f
theorem qm_readsScan (h : MR σ M) (hk : 0 ≤ k ∧ k < gc σ) (ht : t < 3) : ∃ M', d_M_readsScan 867 k t (bM sl π M G e) = rI 0 (bM sl π M' G e) ∧ MR σ M' ∧ fr (S_sc k) M M' ∧ mRdg M' k (gs σ k) (gR σ t k) := by
  have hc := h.1.1
  obtain ⟨M', g, f, r⟩ := bw_readsScan (sl := sl) (e := e) (π := π) (G := G) ht (by omega) (h.1.2.1 k hk).2 h.2.1 (h.2.2.2.2.2.2 k hk)
  exact ⟨M', g, MR_fr h f fun b j z => S_sc_MR z, f, r⟩
theorem qm_reads (h : MR σ M) (hk : 0 ≤ k ∧ k < gc σ) (ht : t < 3) : ∃ M', d_M_reads 867 k t (bM sl π M G e) = rI 1 (bM sl π M' G e) ∧ MR σ M' ∧ fr S_hi M M' ∧ M' 867 11 = 0 ∧ mRdg M' k (gs σ k) (gR σ t k) := by
  obtain ⟨M', g, mr, f, r⟩ := qm_readsScan (sl := sl) (e := e) (π := π) (G := G) (MR_th (t := 0) h) hk ht
  rw [d_M_reads_10 _ _ _ _ mo_d, x_M_reads_eq, bw_isScan h]
  simp only [ci_r, bi_eq0]
  rw [if_neg (by rw [decide_eq_true hk]; decide), bw_isSym]
  simp only [ci_r, bi_eq0]
  rw [if_neg (by rw [decide_eq_true (show 0 ≤ (t : Int) ∧ (t : Int) < 3 by omega)]; decide), mo_p, mo_I, up_s, if_pos rfl, g]
  simp only [cv_r]
  have e0 : M' 867 11 = 0 := by rw [f _ _ (by unfold S_sc; omega), up_s]
  rw [mo_I, e0, if_pos rfl]
  exact ⟨M', rfl, mr, fr_trans fr_thhi (S_sc_hi f), e0, r⟩
theorem qm_many {j : Int} {l : List Ch} (hk : 0 ≤ k ∧ k < 24) (hj : 0 ≤ j ∧ j < 3) (h : mKept M k j l) : d_M_manyOf 867 k j (bM sl π M G e) = rI (l.length : Int) (bM sl π M G e) := by
  rw [d_M_manyOf_10 _ _ _ _ mo_d, x_M_manyOf_eq, mo_R22, wr_id (x := 3 * k) (by omega), wr_id (by omega), mo_r881 (by omega), h.1]
theorem qm_sign {j : Int} {l : List Ch} {i : Nat} (hk : 0 ≤ k ∧ k < 24) (hj : 0 ≤ j ∧ j < 3) (h : mKept M k j l) (hi : i < l.length) : d_M_signOf 867 k j i (bM sl π M G e) = rI (al (l[i]).1) (bM sl π M G e) := by
  have h16 := h.2.1
  rw [d_M_signOf_10 _ _ _ _ _ mo_d, x_M_signOf_eq, mo_R23, wr_id (x := 3 * k) (by omega), wr_id (x := 3 * k + j) (by omega), wr_id (x := 16 * (3 * k + j)) (by omega), wr_id (by omega), mo_r882 (by omega), (h.2.2 i _ (List.getElem?_eq_getElem hi)).1]
theorem qm_weight {j : Int} {l : List Ch} {i : Nat} (hk : 0 ≤ k ∧ k < 24) (hj : 0 ≤ j ∧ j < 3) (h : mKept M k j l) (hi : i < l.length) (hc : 0 ≤ (l[i]).2 ∧ (l[i]).2 ≤ 100) : d_M_weightOf 867 k j i (bM sl π M G e) = rI (1 + (l[i]).2) (bM sl π M G e) := by
  have h16 := h.2.1
  rw [d_M_weightOf_10 _ _ _ _ _ mo_d, x_M_weightOf_eq, mo_R24, wr_id (x := 3 * k) (by omega), wr_id (x := 3 * k + j) (by omega), wr_id (x := 16 * (3 * k + j)) (by omega), wr_id (x := 16 * (3 * k + j) + i) (by omega), mo_r883 (by omega), (h.2.2 i _ (List.getElem?_eq_getElem hi)).2, wr_id (by omega)]
/-! read, readPart, isReversed -/
theorem seq_v_at {q : Nat} {l : List Ch} {i : Nat} (hq : aSeq q) (h : rSeq M q l) (hi : i < l.length) {kk : Int → Option bz_R} : bz_rI (bM sl π M G e) (q + 1) i kk = kk (l[i]).1 := by
  have h16 := h.2.1
  rw [seq_rv hq (by omega), (h.2.2 i _ (List.getElem?_eq_getElem hi)).1]
theorem seq_c_at {q : Nat} {l : List Ch} {i : Nat} (hq : aSeq q) (h : rSeq M q l) (hi : i < l.length) {kk : Int → Option bz_R} : bz_rI (bM sl π M G e) (q + 2) i kk = kk (l[i]).2 := by
  have h16 := h.2.1
  rw [seq_rc hq (by omega), (h.2.2 i _ (List.getElem?_eq_getElem hi)).2]
theorem qo_read (h : CR σ π M) (hk : 0 ≤ k ∧ k < gc σ) (ht : t < 3) : ∃ M', d_E_read 16 k t (bM sl π M G e) = rI ((gR σ t k).1.1.length : Int) (bM sl π M' G e) ∧ CR σ π M' ∧ lo867 M M' := by
  obtain ⟨M', g, c, lo, rd, -⟩ := qo_reading (sl := sl) (e := e) (G := G) h hk ht
  have hd := PV_rdg (CR_pv h) (CR_k24 h hk) ht
  rw [d_E_read_9 _ _ _ _ en_d, x_E_read_eq, g]
  simp only [cr_r]
  rw [rdg_w hd, seq_I hd.2.2.1.1, rd.1.1.1]
  exact ⟨M', rfl, c, lo⟩
theorem qo_readX {s : Int} (h : CR σ π M) (hx : ¬ ((0 ≤ k ∧ k < gc σ) ∧ 0 ≤ s ∧ s < 3)) : d_E_read 16 k s (bM sl π M G e) = rX 2 (bM sl π M G (e + 1)) := by
  rw [d_E_read_9 _ _ _ _ en_d, x_E_read_eq, qo_readingX h hx]; rfl
theorem qm_read (h : MR σ M) (hk : 0 ≤ k ∧ k < gc σ) (ht : t < 3) : ∃ M', d_M_read 867 k t (bM sl π M G e) = rI ((gR σ t k).1.1.length : Int) (bM sl π M' G e) ∧ MR σ M' ∧ fr S_hi M M' ∧ M' 867 11 = 0 := by
  have hc := h.1.1
  obtain ⟨M', g, mr, f, t0, r⟩ := qm_reads (sl := sl) (e := e) (π := π) (G := G) h hk ht
  rw [d_M_read_10 _ _ _ _ mo_d, x_M_read_eq, g]
  simp only [ci_r]
  rw [if_neg (by decide), qm_many (by omega) (by decide) r.1.1]
  exact ⟨M', rfl, mr, f, t0⟩
theorem qm_readX {s : Int} (h : MR σ M) (hx : ¬ ((0 ≤ k ∧ k < gc σ) ∧ 0 ≤ s ∧ s < 3)) : d_M_read 867 k s (bM sl π M G e) = rI 0 (bM sl π (up M 867 11 1) G e) := by
  rw [d_M_read_10 _ _ _ _ mo_d, x_M_read_eq, qm_readsX h hx]; rfl
/-- the head or the tail -/
def rpt (x : Rd) (b : Int) : List Ch := if b = 0 then x.1.2.1 else x.1.2.2
theorem qo_part {A : Nat → Int → Int} {d : Nat} {b : Int} {x : Rd} (hd : aRdg d) (rd : rRdg A d x) : ∃ q, d_Rdg_part d b (bM sl π A G e) = rR q (bM sl π A G e) ∧ aSeq q ∧ rSeq A q (rpt x b) := by
  rw [d_Rdg_part_4 _ _ _ (rdg_d hd), x_Rdg_part_eq]
  unfold rpt
  by_cases z : b = 0
  · rw [if_pos z, if_pos z, rdg_h hd]
    exact ⟨_, rfl, hd.2.2.1.2.1, rd.1.2.1⟩
  · rw [if_neg z, if_neg z, rdg_t hd]
    exact ⟨_, rfl, hd.2.2.1.2.2, rd.1.2.2⟩
theorem qo_readPart {b : Int} (h : CR σ π M) (hk : 0 ≤ k ∧ k < gc σ) (ht : t < 3) : ∃ M', d_E_readPart 16 k t b (bM sl π M G e) = rI ((rpt (gR σ t k) b).length : Int) (bM sl π M' G e) ∧ CR σ π M' ∧ lo867 M M' := by
  obtain ⟨M', g, c, lo, rd, -⟩ := qo_reading (sl := sl) (e := e) (G := G) h hk ht
  have hd := PV_rdg (CR_pv h) (CR_k24 h hk) ht
  obtain ⟨q, g2, hq, hl⟩ := qo_part (sl := sl) (e := e) (π := π) (G := G) (b := b) hd rd
  rw [d_E_readPart_9 _ _ _ _ _ en_d, x_E_readPart_eq, g]
  simp only [cr_r]
  rw [g2]
  simp only [cr_r]
  rw [seq_I hq, hl.1]
  exact ⟨M', rfl, c, lo⟩
theorem qo_readPartX {s b : Int} (h : CR σ π M) (hx : ¬ ((0 ≤ k ∧ k < gc σ) ∧ 0 ≤ s ∧ s < 3)) : d_E_readPart 16 k s b (bM sl π M G e) = rX 2 (bM sl π M G (e + 1)) := by
  rw [d_E_readPart_9 _ _ _ _ _ en_d, x_E_readPart_eq, qo_readingX h hx]; rfl
theorem qm_readPart {b : Int} (h : MR σ M) (hk : 0 ≤ k ∧ k < gc σ) (ht : t < 3) : ∃ M', d_M_readPart 867 k t b (bM sl π M G e) = rI ((rpt (gR σ t k) b).length : Int) (bM sl π M' G e) ∧ MR σ M' ∧ fr S_hi M M' ∧ M' 867 11 = 0 := by
  have hc := h.1.1
  obtain ⟨M', g, mr, f, t0, r⟩ := qm_reads (sl := sl) (e := e) (π := π) (G := G) h hk ht
  rw [d_M_readPart_10 _ _ _ _ _ mo_d, x_M_readPart_eq, g]
  simp only [ci_r]
  rw [if_neg (by decide)]
  unfold rpt
  by_cases z : b = 0
  · rw [if_pos z, if_pos z, qm_many (by omega) (by decide) r.1.2.1]
    exact ⟨M', rfl, mr, f, t0⟩
  · rw [if_neg z, if_neg z, qm_many (by omega) (by decide) r.1.2.2]
    exact ⟨M', rfl, mr, f, t0⟩
theorem qm_readPartX {s b : Int} (h : MR σ M) (hx : ¬ ((0 ≤ k ∧ k < gc σ) ∧ 0 ≤ s ∧ s < 3)) : d_M_readPart 867 k s b (bM sl π M G e) = rI 0 (bM sl π (up M 867 11 1) G e) := by
  rw [d_M_readPart_10 _ _ _ _ _ mo_d, x_M_readPart_eq, qm_readsX h hx]; rfl
theorem qo_isReversed (h : CR σ π M) (hk : 0 ≤ k ∧ k < gc σ) (ht : t < 3) : ∃ M', d_E_isReversed 16 k t (bM sl π M G e) = rI (bi (gR σ t k).2.1) (bM sl π M' G e) ∧ CR σ π M' ∧ lo867 M M' := by
  obtain ⟨M', g, c, lo, rd, -⟩ := qo_reading (sl := sl) (e := e) (G := G) h hk ht
  have hd := PV_rdg (CR_pv h) (CR_k24 h hk) ht
  rw [d_E_isReversed_9 _ _ _ _ en_d, x_E_isReversed_eq, g]
  simp only [cr_r]
  rw [rdg_I hd, rd.2.1, bw_zB]
  exact ⟨M', rfl, c, lo⟩
theorem qo_isReversedX {s : Int} (h : CR σ π M) (hx : ¬ ((0 ≤ k ∧ k < gc σ) ∧ 0 ≤ s ∧ s < 3)) : d_E_isReversed 16 k s (bM sl π M G e) = rX 2 (bM sl π M G (e + 1)) := by
  rw [d_E_isReversed_9 _ _ _ _ en_d, x_E_isReversed_eq, qo_readingX h hx]; rfl
theorem qm_isReversed (h : MR σ M) (hk : 0 ≤ k ∧ k < gc σ) (ht : t < 3) : ∃ M', d_M_isReversed 867 k t (bM sl π M G e) = rI (bi (gR σ t k).2.1) (bM sl π M' G e) ∧ MR σ M' ∧ fr S_hi M M' ∧ M' 867 11 = 0 := by
  have hc := h.1.1
  obtain ⟨M', g, mr, f, t0, r⟩ := qm_reads (sl := sl) (e := e) (π := π) (G := G) h hk ht
  rw [d_M_isReversed_10 _ _ _ _ mo_d, x_M_isReversed_eq, g]
  simp only [ci_r]
  rw [if_neg (by decide), mo_R25, mo_r884 (by omega), r.2.1]
  refine ⟨M', ?_, mr, f, t0⟩
  cases (gR σ t k).2.1 <;> rfl
theorem qm_isReversedX {s : Int} (h : MR σ M) (hx : ¬ ((0 ≤ k ∧ k < gc σ) ∧ 0 ≤ s ∧ s < 3)) : d_M_isReversed 867 k s (bM sl π M G e) = rI 0 (bM sl π (up M 867 11 1) G e) := by
  rw [d_M_isReversed_10 _ _ _ _ mo_d, x_M_isReversed_eq, qm_readsX h hx]; rfl
/-! character, confidence, partCharacter -/
theorem qo_character {p : Int} (h : CR σ π M) (hk : 0 ≤ k ∧ k < gc σ) (ht : t < 3) : ∃ M', (CR σ π M' ∧ lo867 M M') ∧ (∀ (i : Nat) (hi : i < (gR σ t k).1.1.length), p = i → d_E_character 16 k t p (bM sl π M G e) = rI (al ((gR σ t k).1.1[i]).1) (bM sl π M' G e)) ∧ (¬ (0 ≤ p ∧ p < (gR σ t k).1.1.length) → d_E_character 16 k t p (bM sl π M G e) = rX 2 (bM sl π M' G (e + 1))) := by
  obtain ⟨M', g, c, lo, rd, -⟩ := qo_reading (sl := sl) (e := e) (G := G) h hk ht
  have hd := PV_rdg (CR_pv h) (CR_k24 h hk) ht
  have hok := okRd_g h.1 hk ht
  refine ⟨M', ⟨c, lo⟩, ?_⟩
  rw [d_E_character_9 _ _ _ _ _ en_d, x_E_character_eq, g]
  simp only [cr_r]
  rw [rdg_w hd, seq_I hd.2.2.1.1, rd.1.1.1, qo_place]
  refine ⟨fun i hi hp => ?_, fun hp => ?_⟩
  · rw [hp, if_pos (by omega)]
    simp only [cv_r]
    rw [seq_v hd.2.2.1.1, seq_v_at hd.2.2.1.1 rd.1.1 hi, qo_char c.2.1 (okC_20 (hok.2.2.2.2.2.2.1 _ (List.getElem_mem hi)))]
    rfl
  · rw [if_neg hp]; rfl
theorem qo_characterX {s p : Int} (h : CR σ π M) (hx : ¬ ((0 ≤ k ∧ k < gc σ) ∧ 0 ≤ s ∧ s < 3)) : d_E_character 16 k s p (bM sl π M G e) = rX 2 (bM sl π M G (e + 1)) := by
  rw [d_E_character_9 _ _ _ _ _ en_d, x_E_character_eq, qo_readingX h hx]; rfl
theorem qo_confidence {p : Int} (h : CR σ π M) (hk : 0 ≤ k ∧ k < gc σ) (ht : t < 3) : ∃ M', (CR σ π M' ∧ lo867 M M') ∧ (∀ (i : Nat) (hi : i < (gR σ t k).1.1.length), p = i → d_E_confidence 16 k t p (bM sl π M G e) = rI ((gR σ t k).1.1[i]).2 (bM sl π M' G e)) ∧ (¬ (0 ≤ p ∧ p < (gR σ t k).1.1.length) → d_E_confidence 16 k t p (bM sl π M G e) = rX 2 (bM sl π M' G (e + 1))) := by
  obtain ⟨M', g, c, lo, rd, -⟩ := qo_reading (sl := sl) (e := e) (G := G) h hk ht
  have hd := PV_rdg (CR_pv h) (CR_k24 h hk) ht
  refine ⟨M', ⟨c, lo⟩, ?_⟩
  rw [d_E_confidence_9 _ _ _ _ _ en_d, x_E_confidence_eq, g]
  simp only [cr_r]
  rw [rdg_w hd, seq_I hd.2.2.1.1, rd.1.1.1, qo_place]
  refine ⟨fun i hi hp => ?_, fun hp => ?_⟩
  · rw [hp, if_pos (by omega)]
    simp only [cv_r]
    rw [seq_c hd.2.2.1.1, seq_c_at hd.2.2.1.1 rd.1.1 hi]
  · rw [if_neg hp]; rfl
theorem qo_confidenceX {s p : Int} (h : CR σ π M) (hx : ¬ ((0 ≤ k ∧ k < gc σ) ∧ 0 ≤ s ∧ s < 3)) : d_E_confidence 16 k s p (bM sl π M G e) = rX 2 (bM sl π M G (e + 1)) := by
  rw [d_E_confidence_9 _ _ _ _ _ en_d, x_E_confidence_eq, qo_readingX h hx]; rfl
theorem qo_partCharacter {b p : Int} (h : CR σ π M) (hk : 0 ≤ k ∧ k < gc σ) (ht : t < 3) : ∃ M', (CR σ π M' ∧ lo867 M M') ∧ (∀ (i : Nat) (hi : i < (rpt (gR σ t k) b).length), p = i → d_E_partCharacter 16 k t b p (bM sl π M G e) = rI (al ((rpt (gR σ t k) b)[i]).1) (bM sl π M' G e)) ∧ (¬ (0 ≤ p ∧ p < (rpt (gR σ t k) b).length) → d_E_partCharacter 16 k t b p (bM sl π M G e) = rX 2 (bM sl π M' G (e + 1))) := by
  obtain ⟨M', g, c, lo, rd, -⟩ := qo_reading (sl := sl) (e := e) (G := G) h hk ht
  have hd := PV_rdg (CR_pv h) (CR_k24 h hk) ht
  have hok := okRd_g h.1 hk ht
  obtain ⟨q, g2, hq, hl⟩ := qo_part (sl := sl) (e := e) (π := π) (G := G) (b := b) hd rd
  have hall : ∀ c ∈ rpt (gR σ t k) b, okC t c := by
    unfold rpt
    split
    · exact hok.2.1
    · exact hok.2.2.1
  refine ⟨M', ⟨c, lo⟩, ?_⟩
  rw [d_E_partCharacter_9 _ _ _ _ _ _ en_d, x_E_partCharacter_eq, g]
  simp only [cr_r]
  rw [g2]
  simp only [cr_r]
  rw [seq_I hq, hl.1, qo_place]
  refine ⟨fun i hi hp => ?_, fun hp => ?_⟩
  · rw [hp, if_pos (by omega)]
    simp only [cv_r]
    rw [seq_v hq, seq_v_at hq hl hi, qo_char c.2.1 (okC_20 (hall _ (List.getElem_mem hi)))]
    rfl
  · rw [if_neg hp]; rfl
theorem qo_partCharacterX {s b p : Int} (h : CR σ π M) (hx : ¬ ((0 ≤ k ∧ k < gc σ) ∧ 0 ≤ s ∧ s < 3)) : d_E_partCharacter 16 k s b p (bM sl π M G e) = rX 2 (bM sl π M G (e + 1)) := by
  rw [d_E_partCharacter_9 _ _ _ _ _ _ en_d, x_E_partCharacter_eq, qo_readingX h hx]; rfl
theorem qm_hasX {s w p : Int} (h : MR σ M) (hx : ¬ ((0 ≤ k ∧ k < gc σ) ∧ 0 ≤ s ∧ s < 3)) : d_M_has 867 k s w p (bM sl π M G e) = rI 0 (bM sl π (up M 867 11 1) G e) := by
  rw [d_M_has_10 _ _ _ _ _ _ mo_d, x_M_has_eq, qm_readsX h hx]
  simp only [ci_r]
  rw [if_pos trivial, mo_I, up_s, if_neg (by decide)]
def rwh (x : Rd) (w : Int) : List Ch := if w = 0 then x.1.1 else if w = 1 then x.1.2.1 else x.1.2.2
theorem qm_has {w p : Int} (h : MR σ M) (hk : 0 ≤ k ∧ k < gc σ) (ht : t < 3) (hw : 0 ≤ w ∧ w < 3) : ∃ M', (MR σ M' ∧ fr S_hi M M' ∧ mRdg M' k (gs σ k) (gR σ t k) ∧ mKept M' k w (rwh (gR σ t k) w)) ∧
    ((0 ≤ p ∧ p < (rwh (gR σ t k) w).length) → d_M_has 867 k t w p (bM sl π M G e) = rI 1 (bM sl π M' G e) ∧ M' 867 11 = 0) ∧ (¬ (0 ≤ p ∧ p < (rwh (gR σ t k) w).length) → d_M_has 867 k t w p (bM sl π M G e) = rI 0 (bM sl π (up M' 867 11 1) G e)) := by
  have hc := h.1.1
  obtain ⟨M', g, mr, f, t0, r⟩ := qm_reads (sl := sl) (e := e) (π := π) (G := G) h hk ht
  have hkk : mKept M' k w (rwh (gR σ t k) w) := by
    unfold rwh
    rcases (show w = 0 ∨ w = 1 ∨ w = 2 by omega) with z | z | z
    · rw [if_pos z, z]; exact r.1.1
    · rw [if_neg (by omega), if_pos z, z]; exact r.1.2.1
    · rw [if_neg (by omega), if_neg (by omega), z]; exact r.1.2.2
  refine ⟨M', ⟨mr, f, r, hkk⟩, ?_⟩
  rw [d_M_has_10 _ _ _ _ _ _ mo_d, x_M_has_eq, g]
  simp only [ci_r]
  have h16 := hkk.2.1
  rw [if_neg (by decide), qm_many (by omega) hw hkk]
  simp only [ci_r]
  rw [wr_id (by omega), bw_isIn]
  simp only [ci_r, bi_eq0]
  refine ⟨fun hp => ?_, fun hp => ?_⟩
  · rw [if_neg (by rw [decide_eq_true (show 0 ≤ p ∧ p ≤ ((rwh (gR σ t k) w).length : Int) - 1 by omega)]; decide), mo_I, t0, if_pos rfl]
    exact ⟨rfl, rfl⟩
  · rw [if_pos (decide_eq_false (by omega)), mo_p, mo_I, up_s, if_neg (by decide)]
theorem qm_character {p : Int} (h : MR σ M) (hk : 0 ≤ k ∧ k < gc σ) (ht : t < 3) : ∃ M', (MR σ M' ∧ fr S_hi M M') ∧ (∀ (i : Nat) (hi : i < (gR σ t k).1.1.length), p = i → d_M_character 867 k t p (bM sl π M G e) = rI (al ((gR σ t k).1.1[i]).1) (bM sl π M' G e) ∧ M' 867 11 = 0) ∧ (¬ (0 ≤ p ∧ p < (gR σ t k).1.1.length) → d_M_character 867 k t p (bM sl π M G e) = rI 0 (bM sl π (up M' 867 11 1) G e)) := by
  have hc := h.1.1
  obtain ⟨M', ⟨mr, f, r, -⟩, a, b⟩ := qm_has (sl := sl) (e := e) (π := π) (G := G) (w := 0) (p := p) h hk ht (by decide)
  rw [show rwh (gR σ t k) 0 = (gR σ t k).1.1 from rfl] at a b
  refine ⟨M', ⟨mr, f⟩, ?_⟩
  rw [d_M_character_10 _ _ _ _ _ mo_d, x_M_character_eq]
  refine ⟨fun i hi hp => ?_, fun hp => ?_⟩
  · obtain ⟨a1, a2⟩ := a (by omega)
    rw [a1]
    simp only [ci_r]
    rw [if_neg (by decide), hp, qm_sign (by omega) (by decide) r.1.1 hi]
    exact ⟨rfl, a2⟩
  · rw [b hp]; rfl
theorem qm_characterX {s p : Int} (h : MR σ M) (hx : ¬ ((0 ≤ k ∧ k < gc σ) ∧ 0 ≤ s ∧ s < 3)) : d_M_character 867 k s p (bM sl π M G e) = rI 0 (bM sl π (up M 867 11 1) G e) := by
  rw [d_M_character_10 _ _ _ _ _ mo_d, x_M_character_eq, qm_hasX h hx]; rfl
theorem qm_confidence {p : Int} (h : MR σ M) (hk : 0 ≤ k ∧ k < gc σ) (ht : t < 3) : ∃ M', (MR σ M' ∧ fr S_hi M M') ∧ (∀ (i : Nat) (hi : i < (gR σ t k).1.1.length), p = i → d_M_confidence 867 k t p (bM sl π M G e) = rI ((gR σ t k).1.1[i]).2 (bM sl π M' G e) ∧ M' 867 11 = 0) ∧ (¬ (0 ≤ p ∧ p < (gR σ t k).1.1.length) → d_M_confidence 867 k t p (bM sl π M G e) = rI 0 (bM sl π (up M' 867 11 1) G e)) := by
  have hc := h.1.1
  have hok := okRd_g h.1 hk ht
  obtain ⟨M', ⟨mr, f, r, -⟩, a, b⟩ := qm_has (sl := sl) (e := e) (π := π) (G := G) (w := 0) (p := p) h hk ht (by decide)
  rw [show rwh (gR σ t k) 0 = (gR σ t k).1.1 from rfl] at a b
  refine ⟨M', ⟨mr, f⟩, ?_⟩
  rw [d_M_confidence_10 _ _ _ _ _ mo_d, x_M_confidence_eq]
  refine ⟨fun i hi hp => ?_, fun hp => ?_⟩
  · obtain ⟨a1, a2⟩ := a (by omega)
    have hc2 := (hok.2.2.2.2.2.2.1 _ (List.getElem_mem hi)).2
    rw [a1]
    simp only [ci_r]
    rw [if_neg (by decide), hp, qm_weight (by omega) (by decide) r.1.1 hi hc2]
    simp only [ci_r]
    rw [wr_id (by omega), show 1 + ((gR σ t k).1.1[i]).2 - 1 = ((gR σ t k).1.1[i]).2 by omega]
    exact ⟨rfl, a2⟩
  · rw [b hp]; rfl
theorem qm_confidenceX {s p : Int} (h : MR σ M) (hx : ¬ ((0 ≤ k ∧ k < gc σ) ∧ 0 ≤ s ∧ s < 3)) : d_M_confidence 867 k s p (bM sl π M G e) = rI 0 (bM sl π (up M 867 11 1) G e) := by
  rw [d_M_confidence_10 _ _ _ _ _ mo_d, x_M_confidence_eq, qm_hasX h hx]; rfl
theorem qm_partCharacter {b p : Int} (h : MR σ M) (hk : 0 ≤ k ∧ k < gc σ) (ht : t < 3) : ∃ M', (MR σ M' ∧ fr S_hi M M') ∧ (∀ (i : Nat) (hi : i < (rpt (gR σ t k) b).length), p = i → d_M_partCharacter 867 k t b p (bM sl π M G e) = rI (al ((rpt (gR σ t k) b)[i]).1) (bM sl π M' G e) ∧ M' 867 11 = 0) ∧ (¬ (0 ≤ p ∧ p < (rpt (gR σ t k) b).length) → d_M_partCharacter 867 k t b p (bM sl π M G e) = rI 0 (bM sl π (up M' 867 11 1) G e)) := by
  have hc := h.1.1
  rw [d_M_partCharacter_10 _ _ _ _ _ _ mo_d, x_M_partCharacter_eq]
  by_cases z : b = 0
  · obtain ⟨M', ⟨mr, f, r, -⟩, a, b'⟩ := qm_has (sl := sl) (e := e) (π := π) (G := G) (w := 1) (p := p) h hk ht (by decide)
    rw [show rwh (gR σ t k) 1 = rpt (gR σ t k) b by unfold rpt; rw [if_pos z]; rfl] at a b'
    have hkk : mKept M' k 1 (rpt (gR σ t k) b) := by unfold rpt; rw [if_pos z]; exact r.1.2.1
    rw [if_pos z]
    refine ⟨M', ⟨mr, f⟩, fun i hi hp => ?_, fun hp => ?_⟩
    · obtain ⟨a1, a2⟩ := a (by omega)
      rw [a1]
      simp only [ci_r]
      rw [if_neg (by decide), hp, qm_sign (by omega) (by decide) hkk hi]
      exact ⟨rfl, a2⟩
    · rw [b' hp]; rfl
  · obtain ⟨M', ⟨mr, f, r, -⟩, a, b'⟩ := qm_has (sl := sl) (e := e) (π := π) (G := G) (w := 2) (p := p) h hk ht (by decide)
    rw [show rwh (gR σ t k) 2 = rpt (gR σ t k) b by unfold rpt; rw [if_neg z]; rfl] at a b'
    have hkk : mKept M' k 2 (rpt (gR σ t k) b) := by unfold rpt; rw [if_neg z]; exact r.1.2.2
    rw [if_neg z]
    refine ⟨M', ⟨mr, f⟩, fun i hi hp => ?_, fun hp => ?_⟩
    · obtain ⟨a1, a2⟩ := a (by omega)
      rw [a1]
      simp only [ci_r]
      rw [if_neg (by decide), hp, qm_sign (by omega) (by decide) hkk hi]
      exact ⟨rfl, a2⟩
    · rw [b' hp]; rfl
theorem qm_partCharacterX {s b p : Int} (h : MR σ M) (hx : ¬ ((0 ≤ k ∧ k < gc σ) ∧ 0 ≤ s ∧ s < 3)) : d_M_partCharacter 867 k s b p (bM sl π M G e) = rI 0 (bM sl π (up M 867 11 1) G e) := by
  rw [d_M_partCharacter_10 _ _ _ _ _ _ mo_d, x_M_partCharacter_eq]
  by_cases z : b = 0
  · rw [if_pos z, qm_hasX h hx]; rfl
  · rw [if_neg z, qm_hasX h hx]; rfl
end
