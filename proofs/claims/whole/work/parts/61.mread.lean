/-! THE MODEL READS A SCAN, ALL IN ALL -/
theorem S_sc_in {k : Int} {b : Nat} {j : Int} (z : S_sc k b j) : 867 ≤ b ∧ ¬ (873 ≤ b ∧ b ≤ 875) := by unfold S_sc at z; omega
section
variable {sl e : Nat} {π : Int → Nat} {G : Nat → Int → Int} {n k : Int} {w : Int → Int} {s : Nat}
theorem bw_hasParts (hs : s < 3) (hk : 0 ≤ k ∧ k < 24) (hpw : wOK n w) {M : Nat → Int → Int} (hM : mMod M) (hw : mRow M n w) (h1 : mKept M k 1 []) (h2 : mKept M k 2 []) :
    ∃ M', d_M_hasParts 867 k s (bM sl π M G e) = rI (bi (decide (bs_pa s w n ≠ ([], [])))) (bM sl π M' G e) ∧ fr (S_p2 k) M M' ∧ mMod M' ∧ mKept M' k 1 (bs_pa s w n).1 ∧ mKept M' k 2 (bs_pa s w n).2 := by
  have hn := hw.1
  rw [d_M_hasParts_10 _ _ _ _ mo_d, x_M_hasParts_eq]
  obtain ⟨M3, g3, f3, hM3, a3, b3⟩ := bw_parts0 (sl := sl) (e := e) (π := π) (G := G) hs hk hpw 65 1 M [] hM hw h1 h2 (Or.inl rfl) (by omega) (by omega)
  rw [if_pos rfl] at g3 a3
  exact ⟨M3, g3, f3, hM3, a3, b3⟩
theorem bw_clear (hk : 0 ≤ k ∧ k < 24) {z : Int} {M : Nat → Int → Int} : ∃ (M' : Nat → Int → Int) (X : Option bz_R), x_M_readsScan_0 867 k z 0 (bM sl π M G e) = X ∧ X = x_M_readsScan_0 867 k z 3 (bM sl π M' G e) ∧ fr (S_sc k) M M' ∧ (∀ b j, b ≠ 881 → M' b j = M b j) ∧ mKept M' k 0 [] ∧ mKept M' k 1 [] ∧ mKept M' k 2 [] := by
  have e0 : wr (wr (3 * k) + 0) = 3 * k + 0 := by rw [wr_id (x := 3 * k) (by omega), wr_id (by omega)]
  have e1 : wr (wr (3 * k) + 1) = 3 * k + 1 := by rw [wr_id (x := 3 * k) (by omega), wr_id (by omega)]
  have e2 : wr (wr (3 * k) + 2) = 3 * k + 2 := by rw [wr_id (x := 3 * k) (by omega), wr_id (by omega)]
  refine ⟨up (up (up M 881 (3 * k + 0) 0) 881 (3 * k + 1) 0) 881 (3 * k + 2) 0, _, rfl, ?_, ?_, ?_, ⟨?_, by decide, fun i c h => by cases h⟩, ⟨?_, by decide, fun i c h => by cases h⟩, ⟨?_, by decide, fun i c h => by cases h⟩⟩
  · rw [x_M_readsScan_0_eq, if_pos (by decide), mo_R22, e0, mo_w881 (by omega), show wr (0 + 1) = 1 from rfl, x_M_readsScan_0_eq, if_pos (by decide), mo_R22, e1, mo_w881 (by omega), show wr (1 + 1) = 2 from rfl, x_M_readsScan_0_eq, if_pos (by decide), mo_R22, e2, mo_w881 (by omega), show wr (2 + 1) = 3 from rfl]
  · refine fr_up ?_ (fr_up ?_ (fr_up ?_ fr_refl))
    all_goals (unfold S_sc; omega)
  · intro b j hb
    rw [up_a hb, up_a hb, up_a hb]
  · rw [up_i (by omega), up_i (by omega), up_s]; rfl
  · rw [up_i (by omega), up_s]; rfl
  · rw [up_s]; rfl
theorem bw_readsScan (hs : s < 3) (hk : 0 ≤ k ∧ k < 24) (hpw : wOK n w) {M : Nat → Int → Int} (hM : mMod M) (hS : mScan M k n w) :
    ∃ M', d_M_readsScan 867 k s (bM sl π M G e) = rI 0 (bM sl π M' G e) ∧ fr (S_sc k) M M' ∧ mRdg M' k n (bs_read s w n) := by
  have hn := hS.1
  have hrv : wOK n (bs_rv w n) := fun i hi => hpw _ (by omega)
  obtain ⟨M0, X, x1, x2, f0, u0, k00, k01, k02⟩ := bw_clear (sl := sl) (e := e) (π := π) (G := G) (z := s) (M := M) hk
  rw [d_M_readsScan_10 _ _ _ _ mo_d, x_M_readsScan_eq, x1, x2, x_M_readsScan_0_eq, if_neg (by decide), mo_R25, mo_w884 (by omega) (Or.inl rfl)]
  -- frames
  have keepS : ∀ {A : Nat → Int → Int}, fr (S_sc k) M A → mMod A ∧ mScan A k n w := fun f => ⟨mMod_fr hM f fun _ _ => S_sc_in, mScan_fr hS f fun j => ⟨by unfold S_sc; omega, by unfold S_sc; omega⟩⟩
  have fb : ∀ {A : Nat → Int → Int} {v : Int}, fr (fun b j => b = 884 ∧ j = k) A (up A 884 k v) := fun {A v} => fr_up ⟨rfl, rfl⟩ fr_refl
  have fbS : ∀ {A : Nat → Int → Int} {v : Int}, fr (S_sc k) A (up A 884 k v) := fun {A v} => fr_up (by unfold S_sc; omega) fr_refl
  have flS : ∀ {A B : Nat → Int → Int}, fr S_l A B → fr (S_sc k) A B := fun h => fr_mono (fun b j z => by unfold S_l at z; unfold S_sc; omega) h
  have fwS : ∀ {A B : Nat → Int → Int}, fr (S_w0 k) A B → fr (S_sc k) A B := fun h => fr_mono (fun b j z => by unfold S_w0 S_m S_k at z; unfold S_sc; omega) h
  have fpS : ∀ {A B : Nat → Int → Int}, fr (S_p2 k) A B → fr (S_sc k) A B := fun h => fr_mono (fun b j z => by unfold S_p2 S_m S_k at z; unfold S_sc; omega) h
  have fmS : ∀ {A B : Nat → Int → Int}, fr S_m A B → fr (S_sc k) A B := fun h => fr_mono (fun b j z => by unfold S_m at z; unfold S_sc; omega) h
  have kb : ∀ {A : Nat → Int → Int} {v t : Int} {l : List Ch}, mKept A k t l → mKept (up A 884 k v) k t l := fun h => mKept_fr h fb fun c j z y => by unfold S_k at z; omega
  have kl : ∀ {A B : Nat → Int → Int} {t : Int} {l : List Ch}, fr S_l A B → mKept A k t l → mKept B k t l := fun f h => mKept_fr h f fun c j z y => by unfold S_k at z; unfold S_l at y; omega
  have km : ∀ {A B : Nat → Int → Int} {t : Int} {l : List Ch}, fr S_m A B → mKept A k t l → mKept B k t l := fun f h => mKept_fr h f fun c j z y => by unfold S_k at z; unfold S_m at y; omega
  have kw : ∀ {A B : Nat → Int → Int} {t : Int} {l : List Ch}, (t = 1 ∨ t = 2) → fr (S_w0 k) A B → mKept A k t l → mKept B k t l := fun ht f h => mKept_fr h f fun c j z y => by unfold S_k at z; unfold S_w0 S_m S_k at y; omega
  have kp : ∀ {A B : Nat → Int → Int} {l : List Ch}, fr (S_p2 k) A B → mKept A k 0 l → mKept B k 0 l := fun f h => mKept_fr h f fun c j z y => by unfold S_k at z; unfold S_p2 S_m S_k at y; omega
  have f1 : fr (S_sc k) M (up M0 884 k 0) := fr_trans f0 fbS
  obtain ⟨hM1, hS1⟩ := keepS f1
  -- as it is
  obtain ⟨M2, g2, f2, w2⟩ := bw_lays (sl := sl) (e := e) (π := π) (G := G) hk false hS1
  have g2' : d_M_laysRow 867 k 0 (bM sl π (up M0 884 k 0) G e) = _ := g2
  have w2 : mRow M2 n w := w2
  have f12 := fr_trans f1 (flS f2)
  obtain ⟨hM2, hS2⟩ := keepS f12
  rw [g2']
  simp only [cv_r]
  obtain ⟨M3, g3, f3, hM3, a3, b3⟩ := bw_isWhole (sl := sl) (e := e) (π := π) (G := G) hs hk hpw hM2 w2
  have f13 := fr_trans f12 (fwS f3)
  have h884 : ∀ {A B : Nat → Int → Int}, fr (S_w0 k) A B → B 884 k = A 884 k := fun f => f _ _ (by unfold S_w0 S_m S_k; omega)
  have h884l : ∀ {A B : Nat → Int → Int}, fr S_l A B → B 884 k = A 884 k := fun f => f _ _ (by unfold S_l; omega)
  have h884p : ∀ {A B : Nat → Int → Int}, fr (S_p2 k) A B → B 884 k = A 884 k := fun f => f _ _ (by unfold S_p2 S_m S_k; omega)
  have h884m : ∀ {A B : Nat → Int → Int}, fr S_m A B → B 884 k = A 884 k := fun f => f _ _ (by unfold S_m; omega)
  rw [g3]
  simp only [ci_r, bi_eq0]
  unfold bs_read
  cases hfw : bs_fw s w n 65 1 with
  | some x =>
    rw [if_neg (by simp)]
    obtain ⟨c1, c2⟩ := a3 x hfw
    refine ⟨M3, rfl, f13, ⟨c1, kw (Or.inl rfl) f3 (kl f2 (kb k01)), kw (Or.inr rfl) f3 (kl f2 (kb k02))⟩, ?_, fun _ => c2⟩
    rw [h884 f3, h884l f2, up_s]; rfl
  | none =>
    rw [if_pos (show (none : Option (Int × List Ch × Int)).isSome = false from rfl)]
    have f3m := b3 hfw
    obtain ⟨-, hS3⟩ := keepS f13
    obtain ⟨M4, g4, f4, w4⟩ := bw_lays (sl := sl) (e := e) (π := π) (G := G) hk true hS3
    have g4' : d_M_laysRow 867 k 1 (bM sl π M3 G e) = _ := g4
    have w4 : mRow M4 n (bs_rv w n) := w4
    have f15 : fr (S_sc k) M (up M4 884 k 1) := fr_trans f13 (fr_trans (flS f4) fbS)
    obtain ⟨hM5, hS5⟩ := keepS f15
    have w5 : mRow (up M4 884 k 1) n (bs_rv w n) := mRow_fr w4 (fb (v := 1)) ⟨by omega, fun j => by omega⟩
    rw [g4']
    simp only [cv_r]
    rw [mo_R25, mo_w884 (by omega) (Or.inr rfl)]
    obtain ⟨M6, g6, f6, hM6, a6, b6⟩ := bw_isWhole (sl := sl) (e := e) (π := π) (G := G) hs hk hrv hM5 w5
    have f16 := fr_trans f15 (fwS f6)
    have kk : ∀ {t : Int}, mKept M0 k t [] → mKept (up M4 884 k 1) k t [] := fun h => kb (kl f4 (km f3m (kl f2 (kb h))))
    rw [g6]
    simp only [ci_r, bi_eq0]
    cases hfw2 : bs_fw s (bs_rv w n) n 65 1 with
    | some x =>
      rw [if_neg (by simp)]
      obtain ⟨c1, c2⟩ := a6 x hfw2
      refine ⟨M6, rfl, f16, ⟨c1, kw (Or.inl rfl) f6 (kk k01), kw (Or.inr rfl) f6 (kk k02)⟩, ?_, fun _ => ?_⟩
      · rw [h884 f6, up_s]; rfl
      · rw [c2, if_pos rfl]; dsimp only; omega
    | none =>
      rw [if_pos (show (none : Option (Int × List Ch × Int)).isSome = false from rfl)]
      have f6m := b6 hfw2
      obtain ⟨-, hS6⟩ := keepS f16
      obtain ⟨M7, g7, f7, w7⟩ := bw_lays (sl := sl) (e := e) (π := π) (G := G) hk false hS6
      have g7' : d_M_laysRow 867 k 0 (bM sl π M6 G e) = _ := g7
      have w7 : mRow M7 n w := w7
      have f18 : fr (S_sc k) M (up M7 884 k 0) := fr_trans f16 (fr_trans (flS f7) fbS)
      obtain ⟨hM8, hS8⟩ := keepS f18
      have w8 : mRow (up M7 884 k 0) n w := mRow_fr w7 (fb (v := 0)) ⟨by omega, fun j => by omega⟩
      have kk8 : ∀ {t : Int}, mKept M0 k t [] → mKept (up M7 884 k 0) k t [] := fun h => kb (kl f7 (km f6m (kk h)))
      rw [g7']
      simp only [cv_r]
      rw [mo_R25, mo_w884 (by omega) (Or.inl rfl)]
      obtain ⟨M9, g9, f9, hM9, a9, b9⟩ := bw_hasParts (sl := sl) (e := e) (π := π) (G := G) hs hk hpw hM8 w8 (kk8 k01) (kk8 k02)
      have f19 := fr_trans f18 (fpS f9)
      rw [g9]
      simp only [ci_r, bi_eq0]
      by_cases hpa : bs_pa s w n = ([], [])
      · rw [if_pos (decide_eq_false (fun z => z hpa)), if_pos hpa]
        rw [hpa] at a9 b9
        obtain ⟨-, hS9⟩ := keepS f19
        obtain ⟨M10, g10, f10, w10⟩ := bw_lays (sl := sl) (e := e) (π := π) (G := G) hk true hS9
        have g10' : d_M_laysRow 867 k 1 (bM sl π M9 G e) = _ := g10
        have w10 : mRow M10 n (bs_rv w n) := w10
        have f110 := fr_trans f19 (flS f10)
        obtain ⟨hM10, -⟩ := keepS f110
        rw [g10']
        simp only [cv_r]
        rw [mo_R25]
        obtain ⟨M11, g11, f11, hM11, a11, b11⟩ := bw_hasParts (sl := sl) (e := e) (π := π) (G := G) hs hk hrv hM10 w10 (kl f10 a9) (kl f10 b9)
        rw [g11]
        simp only [ci_r]
        rw [mo_w884 (by omega) bi_01]
        refine ⟨_, rfl, fr_trans f110 (fr_trans (fpS f11) fbS), ⟨kb (kp f11 (kl f10 (kp f9 (kk8 k00)))), kb a11, kb b11⟩, up_s, fun h => absurd rfl h⟩
      · rw [if_neg (by rw [decide_eq_true hpa]; decide), if_neg hpa]
        refine ⟨M9, rfl, f19, ⟨kp f9 (kk8 k00), a9, b9⟩, ?_, fun h => absurd rfl h⟩
        rw [h884p f9, up_s]; rfl
end
