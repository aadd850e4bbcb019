/-! THE MODEL READS A SCAN -/
def mScan (M : Nat → Int → Int) (k n : Int) (w : Int → Int) : Prop := (0 ≤ n ∧ n ≤ 129) ∧ M 869 k = n ∧ ∀ i, 0 ≤ i ∧ i < n → M 868 (129 * k + i) = w i
def mKept (M : Nat → Int → Int) (k t : Int) (l : List Ch) : Prop := M 881 (3 * k + t) = l.length ∧ l.length ≤ 16 ∧ ∀ (i : Nat) (c : Ch), l[i]? = some c → M 882 (16 * (3 * k + t) + i) = al c.1 ∧ M 883 (16 * (3 * k + t) + i) = c.2
def S_l (b : Nat) (j : Int) : Prop := (b = 867 ∧ j = 16) ∨ b = 878
def S_k (k t : Int) (b : Nat) (j : Int) : Prop := (b = 881 ∧ j = 3 * k + t) ∨ ((b = 882 ∨ b = 883) ∧ 16 * (3 * k + t) ≤ j ∧ j < 16 * (3 * k + t) + 16)
def S_sc (k : Int) (b : Nat) (j : Int) : Prop := (b = 867 ∧ (j = 16 ∨ j = 19 ∨ j = 20 ∨ j = 21)) ∨ (b = 878 ∨ b = 879 ∨ b = 880) ∨ (b = 881 ∧ 3 * k ≤ j ∧ j < 3 * k + 3) ∨ ((b = 882 ∨ b = 883) ∧ 48 * k ≤ j ∧ j < 48 * k + 48) ∨ ((b = 884 ∨ b = 885) ∧ j = k)
def mRdg (M : Nat → Int → Int) (k n : Int) (x : Rd) : Prop := (mKept M k 0 x.1.1 ∧ mKept M k 1 x.1.2.1 ∧ mKept M k 2 x.1.2.2) ∧ M 884 k = bi x.2.1 ∧ (x.1.1 ≠ [] → M 885 k = if x.2.1 then n - 1 - x.2.2.2 else x.2.2.1)
theorem mKept_fr {S : Nat → Int → Prop} {M M' : Nat → Int → Int} {k t : Int} {l : List Ch} (h : mKept M k t l) (f : fr S M M') (hs : ∀ b j, S_k k t b j → ¬ S b j) : mKept M' k t l :=
  ⟨(f _ _ (hs _ _ (Or.inl ⟨rfl, rfl⟩))).trans h.1, h.2.1, fun i c hi => by
    have hi2 : i < l.length := (List.getElem?_eq_some_iff.mp hi).1
    have := h.2.1
    rw [f 882 _ (hs _ _ (Or.inr ⟨Or.inl rfl, by omega⟩)), f 883 _ (hs _ _ (Or.inr ⟨Or.inr rfl, by omega⟩))]
    exact h.2.2 i c hi⟩
theorem mScan_fr {S : Nat → Int → Prop} {M M' : Nat → Int → Int} {k n : Int} {w : Int → Int} (h : mScan M k n w) (f : fr S M M') (hs : ∀ j, ¬ S 868 j ∧ ¬ S 869 j) : mScan M' k n w :=
  ⟨h.1, (f _ _ (hs _).2).trans h.2.1, fun i hi => (f _ _ (hs _).1).trans (h.2.2 i hi)⟩
section
variable {sl e : Nat} {π : Int → Nat} {G : Nat → Int → Int} {n k : Int} {w : Int → Int} {s : Nat}
theorem bw_lays_0 (hk : 0 ≤ k ∧ k < 24) (B : Bool) (hn : 0 ≤ n ∧ n ≤ 129) : ∀ (m : Nat) (i : Int) (M : Nat → Int → Int), (∀ i, 0 ≤ i ∧ i < n → M 868 (129 * k + i) = w i) → M 867 16 = n → (∀ j, 0 ≤ j ∧ j < i → M 878 j = (if B then bs_rv w n else w) j) → i + m = n → 0 ≤ i →
    ∃ M', x_M_laysRow_0 867 k (bi B) i (bM sl π M G e) = rI 0 (bM sl π M' G e) ∧ fr S_l M M' ∧ mRow M' n (if B then bs_rv w n else w) := by
  intro m
  induction m with
  | zero =>
    intro i M hw h1 h2 hi h0
    rw [x_M_laysRow_0_eq, mo_I, h1, if_neg (by omega)]
    exact ⟨M, rfl, fr_refl, hn, h1, fun j hj => h2 j (by omega)⟩
  | succ m ih =>
    intro i M hw h1 h2 hi h0
    have e1 : wr (wr (129 * k) + i) = 129 * k + i := by rw [wr_id (x := 129 * k) (by omega), wr_id (by omega)]
    have e2 : wr (i + 1) = i + 1 := wr_id (by omega)
    have e3 : wr (wr (129 * k) + wr (wr (n - 1) - i)) = 129 * k + (n - 1 - i) := by rw [wr_id (x := 129 * k) (by omega), wr_id (x := n - 1) (by omega), wr_id (x := n - 1 - i) (by omega), wr_id (by omega)]
    rw [x_M_laysRow_0_eq, mo_I, h1, if_pos (by omega), mo_R15, mo_R0, e1, e2, mo_I, h1, e3, mo_r868 (by omega), mo_r868 (by omega), mo_w878 (by omega), mo_w878 (by omega), hw i (by omega), hw (n - 1 - i) (by omega)]
    have step : ∀ X, X = (if B then bs_rv w n else w) i → ∃ M', x_M_laysRow_0 867 k (bi B) (i + 1) (bM sl π (up M 878 i X) G e) = rI 0 (bM sl π M' G e) ∧ fr S_l M M' ∧ mRow M' n (if B then bs_rv w n else w) := by
      intro X hX
      obtain ⟨M2, g2, f2, a2⟩ := ih (i + 1) (up M 878 i X) (fun j hj => by rw [up_a (by decide)]; exact hw j hj) (by rw [up_a (by decide)]; exact h1) (fun j hj => by
        by_cases z : j = i
        · subst z; rw [up_s]; exact hX
        · rw [up_i z]; exact h2 j (by omega)) (by omega) (by omega)
      exact ⟨M2, g2, fr_trans (fr_up (Or.inr rfl) fr_refl) f2, a2⟩
    cases B with
    | false => rw [if_pos (show bi false = 0 from rfl)]; exact step _ rfl
    | true => rw [if_neg (show ¬ bi true = 0 by decide)]; exact step _ rfl
theorem bw_lays (hk : 0 ≤ k ∧ k < 24) (B : Bool) {M : Nat → Int → Int} (hS : mScan M k n w) :
    ∃ M', d_M_laysRow 867 k (bi B) (bM sl π M G e) = rI 0 (bM sl π M' G e) ∧ fr S_l M M' ∧ mRow M' n (if B then bs_rv w n else w) := by
  have hn := hS.1
  rw [d_M_laysRow_10 _ _ _ _ mo_d, x_M_laysRow_eq, mo_R1, mo_r869 (by omega), hS.2.1, mo_p]
  obtain ⟨M2, g2, f2, a2⟩ := bw_lays_0 (sl := sl) (e := e) (π := π) (G := G) (w := w) hk B hn n.toNat 0 (up M 867 16 n) (fun i hi => by rw [up_a (by decide)]; exact hS.2.2 i hi) up_s (fun j hj => by omega) (by omega) (by omega)
  exact ⟨M2, g2, fr_trans (fr_up (Or.inl ⟨rfl, rfl⟩) fr_refl) f2, a2⟩
theorem bw_keeps_0 {l : List Ch} {t : Int} (hk : 0 ≤ k ∧ k < 24) (ht : 0 ≤ t ∧ t < 3) : ∀ (m i : Nat) (M : Nat → Int → Int), mSeq M l → M 881 (3 * k + t) = l.length → (∀ (j : Nat) (c : Ch), j < i → l[j]? = some c → M 882 (16 * (3 * k + t) + j) = al c.1 ∧ M 883 (16 * (3 * k + t) + j) = c.2) → i + m = l.length →
    ∃ M', x_M_keeps_0 867 k t i (bM sl π M G e) = rI 0 (bM sl π M' G e) ∧ fr (S_k k t) M M' ∧ mKept M' k t l := by
  intro m
  induction m with
  | zero =>
    intro i M hl h1 h2 hi
    rw [x_M_keeps_0_eq, mo_I, hl.1, if_neg (by omega)]
    exact ⟨M, rfl, fr_refl, h1, hl.2.1, fun j c hj => h2 j c (by have := (List.getElem?_eq_some_iff.mp hj).1; omega) hj⟩
  | succ m ih =>
    intro i M hl h1 h2 hi
    have hl16 := hl.2.1
    have e1 : wr (wr (16 * wr (wr (3 * k) + t)) + (i : Int)) = 16 * (3 * k + t) + i := by rw [wr_id (x := 3 * k) (by omega), wr_id (x := 3 * k + t) (by omega), wr_id (x := 16 * (3 * k + t)) (by omega), wr_id (by omega)]
    have e2 : wr ((i : Int) + 1) = ((i + 1 : Nat) : Int) := by rw [wr_id (by omega)]; omega
    have hi2 : i < l.length := by omega
    have hli := hl.2.2 i l[i] (List.getElem?_eq_getElem hi2)
    rw [x_M_keeps_0_eq, mo_I, hl.1, if_pos (by omega), mo_R23, mo_R17, e1, e2, mo_r879 (by omega), mo_w882 (by omega), mo_R24, mo_R18, mo_r880 (by omega), up_a (by decide), mo_w883 (by omega), hli.1, hli.2]
    have f1 : fr (S_k k t) M (up (up M 882 (16 * (3 * k + t) + i) (al l[i].1)) 883 (16 * (3 * k + t) + i) l[i].2) := fr_up (Or.inr ⟨Or.inr rfl, by omega⟩) (fr_up (Or.inr ⟨Or.inl rfl, by omega⟩) fr_refl)
    obtain ⟨M2, g2, f2, a2⟩ := ih (i + 1) _ (mSeq_fr hl f1 ⟨by unfold S_k; omega, fun j => ⟨by unfold S_k; omega, by unfold S_k; omega⟩⟩) (by rw [up_a (by decide), up_a (by decide)]; exact h1) (fun j c hj hc => by
      rw [up_a (by decide)]
      by_cases z : j = i
      · subst z
        rw [List.getElem?_eq_getElem hi2] at hc
        cases hc
        exact ⟨up_s, up_s⟩
      · rw [up_i (by omega), up_i (by omega), up_a (by decide)]
        exact h2 j c (by omega) hc) (by omega)
    exact ⟨M2, g2, fr_trans f1 f2, a2⟩
theorem bw_keeps {l : List Ch} {t : Int} (hk : 0 ≤ k ∧ k < 24) (ht : 0 ≤ t ∧ t < 3) {M : Nat → Int → Int} (hl : mSeq M l) :
    ∃ M', d_M_keeps 867 k t (bM sl π M G e) = rI 0 (bM sl π M' G e) ∧ fr (S_k k t) M M' ∧ mKept M' k t l := by
  have e1 : wr (wr (3 * k) + t) = 3 * k + t := by rw [wr_id (x := 3 * k) (by omega), wr_id (by omega)]
  rw [d_M_keeps_10 _ _ _ _ mo_d, x_M_keeps_eq, mo_R22, mo_I, hl.1, e1, mo_w881 (by omega)]
  have f1 : fr (S_k k t) M (up M 881 (3 * k + t) l.length) := fr_up (Or.inl ⟨rfl, rfl⟩) fr_refl
  obtain ⟨M2, g2, f2, a2⟩ := bw_keeps_0 (sl := sl) (e := e) (π := π) (G := G) hk ht l.length 0 _ (mSeq_fr hl f1 ⟨by unfold S_k; omega, fun j => ⟨by unfold S_k; omega, by unfold S_k; omega⟩⟩) up_s (fun j c hj => by omega) (by omega)
  exact ⟨M2, g2, fr_trans f1 f2, a2⟩
def S_w0 (k : Int) (b : Nat) (j : Int) : Prop := S_m b j ∨ S_k k 0 b j ∨ (b = 885 ∧ j = k)
theorem bw_isWhole_0 (hs : s < 3) (hk : 0 ≤ k ∧ k < 24) (hpw : wOK n w) : ∀ (m : Nat) (b : Int) (M : Nat → Int → Int), mMod M → mRow M n w → n ≤ b + 2 * m → 1 ≤ b ∧ b ≤ 200 →
    ∃ M', x_M_isWhole_0 867 k s b (bM sl π M G e) = rI (bi (bs_fw s w n m b).isSome) (bM sl π M' G e) ∧ fr (S_w0 k) M M' ∧ mMod M' ∧ (∀ x, bs_fw s w n m b = some x → mKept M' k 0 x.2.1 ∧ M' 885 k = x.1) ∧ (bs_fw s w n m b = none → fr S_m M M') := by
  intro m
  induction m with
  | zero =>
    intro b M hM hw hm hb
    rw [x_M_isWhole_0_eq, mo_I, hw.2.1, if_neg (by omega)]
    exact ⟨M, rfl, fr_refl, hM, fun x h => (by cases h), fun _ => fr_refl⟩
  | succ m ih =>
    intro b M hM hw hm hb
    have hn := hw.1
    rw [x_M_isWhole_0_eq, mo_I, hw.2.1, bs_fw]
    by_cases hbn : b < n
    · obtain ⟨M1, g1, f1, l1⟩ := bw_wholeFrom (sl := sl) (e := e) (π := π) (G := G) hs hpw (a := b) (by omega) hM hw
      obtain ⟨hM1, w1⟩ := keep_m f1 hM hw
      rw [if_pos hbn, if_pos hbn, g1, wr_id (by omega)]
      simp only [ci_r, bi_eq0]
      cases hz : (if bs_be s w n b then bs_wh s w n b else none) with
      | none =>
        rw [if_pos (show (none : Option (List Ch × Int)).isSome = false from rfl)]
        obtain ⟨M2, g2, f2, hM2, a2, b2⟩ := ih (b + 2) M1 hM1 w1 (by omega) (by omega)
        exact ⟨M2, g2, fr_trans (fr_mono (fun _ _ z => Or.inl z) f1) f2, hM2, a2, fun h => fr_trans f1 (b2 h)⟩
      | some p =>
        rw [if_neg (by simp)]
        obtain ⟨M2, g2, f2, k2⟩ := bw_keeps (sl := sl) (e := e) (π := π) (G := G) (t := 0) hk (by decide) (l1 p hz)
        rw [g2]
        simp only [cv_r]
        rw [mo_R26, mo_w885 (by omega)]
        have f3 : fr (fun b j => b = 885 ∧ j = k) M2 (up M2 885 k b) := fr_up ⟨rfl, rfl⟩ fr_refl
        have fall : fr (S_w0 k) M (up M2 885 k b) := fr_trans (fr_mono (fun _ _ z => Or.inl z) f1) (fr_trans (fr_mono (fun _ _ z => Or.inr (Or.inl z)) f2) (fr_mono (fun _ _ z => Or.inr (Or.inr z)) f3))
        refine ⟨_, rfl, fall, ?_, fun x hx => ?_, fun h => by cases h⟩
        · refine mMod_fr hM fall fun c j z => ?_
          rcases z with z | z | z
          · exact S_m_in z
          · unfold S_k at z; omega
          · omega
        · cases hx
          exact ⟨mKept_fr k2 f3 (fun c j z y => by unfold S_k at z; omega), up_s⟩
    · rw [if_neg hbn, if_neg hbn]
      exact ⟨M, rfl, fr_refl, hM, fun x h => (by cases h), fun _ => fr_refl⟩
theorem bw_isWhole (hs : s < 3) (hk : 0 ≤ k ∧ k < 24) (hpw : wOK n w) {M : Nat → Int → Int} (hM : mMod M) (hw : mRow M n w) :
    ∃ M', d_M_isWhole 867 k s (bM sl π M G e) = rI (bi (bs_fw s w n 65 1).isSome) (bM sl π M' G e) ∧ fr (S_w0 k) M M' ∧ mMod M' ∧ (∀ x, bs_fw s w n 65 1 = some x → mKept M' k 0 x.2.1 ∧ M' 885 k = x.1) ∧ (bs_fw s w n 65 1 = none → fr S_m M M') := by
  have hn := hw.1
  rw [d_M_isWhole_10 _ _ _ _ mo_d, x_M_isWhole_eq]
  exact bw_isWhole_0 hs hk hpw 65 1 M hM hw (by omega) (by omega)
set_option maxRecDepth 20000 in
theorem bw_readsHead {a : Int} (hs : s < 3) (hpw : wOK n w) (ha : 1 ≤ a ∧ a ≤ 200) {M : Nat → Int → Int} (hM : mMod M) (hw : mRow M n w) :
    ∃ M', d_M_readsHead 867 s a (bM sl π M G e) = rI 0 (bM sl π M' G e) ∧ fr S_m M M' ∧ mSeq M' (bs_hd s w n a) := by
  obtain ⟨hM0, w0⟩ := keep_m (fr_m0 (v := 0)) hM hw
  obtain ⟨M1, g1, f1⟩ := bw_begin (sl := sl) (e := e) (π := π) (G := G) hs hM0 w0 hpw (a := a) (by omega)
  obtain ⟨hM1, w1, l1⟩ := keep_w f1 hM0 w0 mSeq_0
  have f01 : fr S_m M M1 := fr_trans fr_m0 (w2m f1)
  rw [d_M_readsHead_10 _ _ _ _ mo_d, x_M_readsHead_eq, mo_p, g1]
  simp only [ci_r, bi_eq0]
  unfold bs_hd
  cases hbe : bs_be s w n a with
  | false =>
    rw [if_pos rfl, if_neg (by decide)]
    exact ⟨M1, rfl, f01, l1⟩
  | true =>
    rw [if_neg (by decide), if_pos rfl]
    match s, hs with
    | 0, _ =>
      rw [show ((0 : Nat) : Int) = 0 from rfl, if_pos rfl]
      obtain ⟨M2, g2, f2, l2⟩ := bw_head_0 (sl := sl) (e := e) (π := π) (G := G) hpw (a := a) (by omega) 4 0 M1 [] (by decide) hM1 w1 l1 (by decide)
      rw [show a + 3 + 4 * ((0 : Nat) : Int) = a + 3 by omega] at l2
      exact ⟨M2, g2, fr_trans f01 f2, l2⟩
    | 1, _ =>
      rw [show ((1 : Nat) : Int) = 1 from rfl, if_neg (by decide), if_pos rfl]
      obtain ⟨M2, g2, f2, l2⟩ := bw_head_1 (sl := sl) (e := e) (π := π) (G := G) hpw (a := a) (by omega) 7 0 M1 [] (by decide) hM1 w1 l1 (by decide)
      rw [show a + 4 + 10 * ((0 : Nat) : Int) = a + 4 by omega] at l2
      exact ⟨M2, g2, fr_trans f01 f2, l2⟩
    | 2, _ =>
      rw [show ((2 : Nat) : Int) = 2 from rfl, if_neg (by decide), if_neg (by decide)]
      obtain ⟨M2, g2, f2, l2⟩ := bw_sevenL (sl := sl) (e := e) (π := π) (G := G) hM1 w1 hpw l1 (a := a) (by omega) (by decide)
      obtain ⟨hM2, w2⟩ := keep_m f2 hM1 w1
      have hv := bs_be_v hbe
      have hgl := (bs_gu_len (s := 2) (w := w) (n := n) (a := a)).1
      rw [g2]
      simp only [ci_r, bi_eq0]
      rw [if_neg (by rw [decide_eq_true hv]; decide)]
      obtain ⟨M3, g3, f3, l3⟩ := bw_head_2 (sl := sl) (e := e) (π := π) (G := G) hpw (a := a) (by omega) 14 0 M2 ([] ++ bs_gu 2 w n a) (by decide) hM2 w2 l2 (by rw [List.nil_append]; omega)
      rw [show a + 8 + 8 * ((0 : Nat) : Int) = a + 8 by omega] at l3
      exact ⟨M3, g3, fr_trans f01 (fr_trans f2 f3), l3⟩
set_option maxRecDepth 20000 in
theorem bw_readsTail {a : Int} (hs : s < 3) (hpw : wOK n w) (ha : 0 ≤ a ∧ a ≤ 200) {M : Nat → Int → Int} (hM : mMod M) (hw : mRow M n w) :
    ∃ M', d_M_readsTail 867 s a (bM sl π M G e) = rI 0 (bM sl π M' G e) ∧ fr S_m M M' ∧ mSeq M' (bs_tl s w n a) := by
  obtain ⟨hM0, w0⟩ := keep_m (fr_m0 (v := 0)) hM hw
  obtain ⟨M1, g1, f1⟩ := bw_end (sl := sl) (e := e) (π := π) (G := G) hs hM0 w0 hpw (a := a) (by omega)
  obtain ⟨hM1, w1, l1⟩ := keep_w f1 hM0 w0 mSeq_0
  have f01 : fr S_m M M1 := fr_trans fr_m0 (w2m f1)
  rw [d_M_readsTail_10 _ _ _ _ mo_d, x_M_readsTail_eq, mo_p, g1]
  simp only [ci_r, bi_eq0]
  unfold bs_tl
  cases hbe : bs_en s w n a with
  | false =>
    rw [if_pos rfl, if_neg (by decide)]
    exact ⟨M1, rfl, f01, l1⟩
  | true =>
    rw [if_neg (by decide), if_pos rfl, d_M_partsTo_10 _ _ _ _ mo_d, x_M_partsTo_eq]
    have hc := bs_cb_le (s := s) (w := w) (n := n) (bs_mu s) (a - bs_sp s)
    have hmu : bs_mu s ≤ 14 := (k_bd s).2.2.2
    match s, hs with
    | 0, _ =>
      obtain ⟨M2, g2, f2⟩ := bw_parts_0 (sl := sl) (e := e) (π := π) (G := G) hpw (a := a) (by omega) 4 0 M1 (by decide) hM1 w1
      obtain ⟨hM2, w2⟩ := keep_m f2 hM1 w1
      obtain ⟨hM3, w3⟩ := keep_m (fr_m0 (v := 0)) hM2 w2
      rw [show a - 2 - 4 * ((0 : Nat) : Int) = a - 2 by omega, Nat.zero_add] at g2
      rw [show bs_mu 0 = 4 from rfl, show bs_sp 0 = 2 from rfl] at hc
      have g2' : x_M_partsTo_0 867 ((0 : Nat) : Int) a 0 1 (bM sl π M1 G e) = _ := g2
      rw [g2']
      simp only [ci_r]
      rw [mo_p, wr_id (by omega)]
      obtain ⟨M4, g4, f4, l4⟩ := bw_tail_0 (sl := sl) (e := e) (π := π) (G := G) hpw (a := a) (by omega) (bs_cb 0 w n 4 (a - 2)) _ [] hc hM3 w3 mSeq_0 (by rw [List.length_nil]; omega)
      exact ⟨M4, g4, fr_trans f01 (fr_trans f2 (fr_trans fr_m0 f4)), l4⟩
    | 1, _ =>
      obtain ⟨M2, g2, f2⟩ := bw_parts_1 (sl := sl) (e := e) (π := π) (G := G) hpw (a := a) (by omega) 7 0 M1 (by decide) hM1 w1
      obtain ⟨hM2, w2⟩ := keep_m f2 hM1 w1
      obtain ⟨hM3, w3⟩ := keep_m (fr_m0 (v := 0)) hM2 w2
      rw [show a - 2 - 10 * ((0 : Nat) : Int) = a - 2 by omega, Nat.zero_add] at g2
      rw [show bs_mu 1 = 7 from rfl, show bs_sp 1 = 2 from rfl] at hc
      have g2' : x_M_partsTo_0 867 ((1 : Nat) : Int) a 0 1 (bM sl π M1 G e) = _ := g2
      rw [g2']
      simp only [ci_r]
      rw [mo_p, wr_id (by omega)]
      obtain ⟨M4, g4, f4, l4⟩ := bw_tail_1 (sl := sl) (e := e) (π := π) (G := G) hpw (a := a) (by omega) (bs_cb 1 w n 7 (a - 2)) _ [] hc hM3 w3 mSeq_0 (by rw [List.length_nil]; omega)
      exact ⟨M4, g4, fr_trans f01 (fr_trans f2 (fr_trans fr_m0 f4)), l4⟩
    | 2, _ =>
      obtain ⟨M2, g2, f2⟩ := bw_parts_2 (sl := sl) (e := e) (π := π) (G := G) hpw (a := a) (by omega) 14 0 M1 (by decide) hM1 w1
      obtain ⟨hM2, w2⟩ := keep_m f2 hM1 w1
      obtain ⟨hM3, w3⟩ := keep_m (fr_m0 (v := 0)) hM2 w2
      rw [show a - 6 - 8 * ((0 : Nat) : Int) = a - 6 by omega, Nat.zero_add] at g2
      rw [show bs_mu 2 = 14 from rfl, show bs_sp 2 = 6 from rfl] at hc
      have g2' : x_M_partsTo_0 867 ((2 : Nat) : Int) a 0 1 (bM sl π M1 G e) = _ := g2
      rw [g2']
      simp only [ci_r]
      rw [mo_p, wr_id (by omega)]
      obtain ⟨M4, g4, f4, l4⟩ := bw_tail_2 (sl := sl) (e := e) (π := π) (G := G) hpw (a := a) (by omega) (bs_cb 2 w n 14 (a - 6)) _ [] hc hM3 w3 mSeq_0 (by rw [List.length_nil]; omega)
      exact ⟨M4, g4, fr_trans f01 (fr_trans f2 (fr_trans fr_m0 f4)), l4⟩
def S_p2 (k : Int) (b : Nat) (j : Int) : Prop := S_m b j ∨ S_k k 1 b j ∨ S_k k 2 b j
theorem S_p2_in {k : Int} {b : Nat} {j : Int} (z : S_p2 k b j) : 867 ≤ b ∧ ¬ (873 ≤ b ∧ b ≤ 875) := by
  rcases z with z | z | z
  · exact S_m_in z
  · unfold S_k at z; omega
  · unfold S_k at z; omega
theorem S_p2_row {k : Int} : ¬ S_p2 k 867 16 ∧ ∀ j, ¬ S_p2 k 878 j := by
  refine ⟨?_, fun j => ?_⟩ <;> unfold S_p2 S_m S_k <;> omega
theorem bw_parts1 (hs : s < 3) (hk : 0 ≤ k ∧ k < 24) (hpw : wOK n w) : ∀ (m : Nat) (b : Int) (M : Nat → Int → Int) (hl tl : List Ch), mMod M → mRow M n w → mKept M k 1 hl → mKept M k 2 tl → (tl = [] ∨ 2 ≤ tl.length) → b ≤ 2 * m → b ≤ 200 →
    ∃ M', x_M_hasParts_1 867 k s b (bM sl π M G e) = rI (bi (decide ((hl, if tl = [] then bs_ft s w n m b else tl) ≠ ([], [])))) (bM sl π M' G e) ∧ fr (S_p2 k) M M' ∧ mMod M' ∧ mKept M' k 1 hl ∧ mKept M' k 2 (if tl = [] then bs_ft s w n m b else tl) := by
  have e1 : wr (wr (3 * k) + 1) = 3 * k + 1 := by rw [wr_id (x := 3 * k) (by omega), wr_id (by omega)]
  have e2 : wr (wr (3 * k) + 2) = 3 * k + 2 := by rw [wr_id (x := 3 * k) (by omega), wr_id (by omega)]
  have stop : ∀ (M : Nat → Int → Int) (hl tl : List Ch), mKept M k 1 hl → mKept M k 2 tl → (bz_fR (bM sl π M G e) 867 10 22 fun v10 => bz_rI (bM sl π M G e) v10 (3 * k + 1) fun v11 => if (0 : Int) < v11 then rI 1 (bM sl π M G e) else bz_fR (bM sl π M G e) 867 10 22 fun v12 => bz_rI (bM sl π M G e) v12 (3 * k + 2) fun v13 => if (0 : Int) < v13 then rI 1 (bM sl π M G e) else rI 0 (bM sl π M G e)) = rI (bi (decide ((hl, tl) ≠ ([], [])))) (bM sl π M G e) := by
    intro M hl tl h1 h2
    rw [mo_R22, mo_r881 (by omega), h1.1, mo_R22, mo_r881 (by omega), h2.1]
    cases hl with
    | cons c hl => rw [if_pos (by rw [List.length_cons]; omega), decide_eq_true (by simp)]; rfl
    | nil =>
      rw [if_neg (by decide)]
      cases tl with
      | cons c tl => rw [if_pos (by rw [List.length_cons]; omega), decide_eq_true (by simp)]; rfl
      | nil => rw [if_neg (by decide), decide_eq_false (by simp)]; rfl
  intro m
  induction m with
  | zero =>
    intro b M hl tl hM hw h1 h2 ht hm hb
    rw [x_M_hasParts_1_eq, if_neg (by omega), e1, e2, stop M hl tl h1 h2, show (if tl = [] then bs_ft s w n 0 b else tl) = tl by split; (· rename_i z; rw [z]; rfl); rfl]
    exact ⟨M, rfl, fr_refl, hM, h1, h2⟩
  | succ m ih =>
    intro b M hl tl hM hw h1 h2 ht hm hb
    by_cases hb0 : 0 < b
    · rw [x_M_hasParts_1_eq, if_pos hb0, e1, e2, mo_R22, mo_r881 (by omega), h2.1, wr_id (by omega)]
      by_cases htl : tl = []
      · subst htl
        rw [if_pos rfl, if_pos (show ((([] : List Ch).length : Nat) : Int) = 0 from rfl)]
        obtain ⟨M1, g1, f1, l1⟩ := bw_readsTail (sl := sl) (e := e) (π := π) (G := G) hs hpw (a := b) (by omega) hM hw
        obtain ⟨hM1, w1⟩ := keep_m f1 hM hw
        have k11 : mKept M1 k 1 hl := mKept_fr h1 f1 (fun c j z y => by unfold S_k at z; unfold S_m at y; omega)
        have k12 : mKept M1 k 2 [] := mKept_fr h2 f1 (fun c j z y => by unfold S_k at z; unfold S_m at y; omega)
        rw [g1]
        simp only [cv_r]
        rw [mo_I, l1.1, bs_ft, if_pos hb0, show b + -2 = b - 2 by omega]
        by_cases h2l : 2 ≤ (bs_tl s w n b).length
        · rw [if_pos (by omega), if_pos h2l]
          obtain ⟨M2, g2, f2, k2⟩ := bw_keeps (sl := sl) (e := e) (π := π) (G := G) (t := 2) hk (by decide) l1
          have f2p : fr (S_p2 k) M1 M2 := fr_mono (fun _ _ z => Or.inr (Or.inr z)) f2
          have f12 : fr (S_p2 k) M M2 := fr_trans (fr_mono (fun _ _ z => Or.inl z) f1) f2p
          rw [g2]
          simp only [cv_r]
          obtain ⟨M3, g3, f3, hM3, a3, b3⟩ := ih (b - 2) M2 hl (bs_tl s w n b) (mMod_fr hM f12 fun _ _ => S_p2_in) (mRow_fr hw f12 S_p2_row) (mKept_fr k11 f2 (fun c j z y => by unfold S_k at z y; omega)) k2 (Or.inr h2l) (by omega) (by omega)
          have hne : ¬ bs_tl s w n b = [] := fun z => by rw [z] at h2l; exact absurd h2l (by decide)
          rw [if_neg hne] at g3 b3
          exact ⟨M3, g3, fr_trans f12 f3, hM3, a3, b3⟩
        · rw [if_neg (by omega), if_neg h2l]
          obtain ⟨M3, g3, f3, hM3, a3, b3⟩ := ih (b - 2) M1 hl [] hM1 w1 k11 k12 (Or.inl rfl) (by omega) (by omega)
          rw [if_pos rfl] at g3 b3
          exact ⟨M3, g3, fr_trans (fr_mono (fun _ _ z => Or.inl z) f1) f3, hM3, a3, b3⟩
      · have h2l : 2 ≤ tl.length := by rcases ht with z | z; exact absurd z htl; exact z
        rw [if_neg (by omega), if_neg htl, stop M hl tl h1 h2]
        exact ⟨M, rfl, fr_refl, hM, h1, h2⟩
    · rw [x_M_hasParts_1_eq, if_neg hb0, e1, e2, stop M hl tl h1 h2, show (if tl = [] then bs_ft s w n (m + 1) b else tl) = tl by split; (· rename_i z; rw [z, bs_ft, if_neg hb0]); rfl]
      exact ⟨M, rfl, fr_refl, hM, h1, h2⟩
theorem bw_parts0 (hs : s < 3) (hk : 0 ≤ k ∧ k < 24) (hpw : wOK n w) : ∀ (m : Nat) (b : Int) (M : Nat → Int → Int) (hl : List Ch), mMod M → mRow M n w → mKept M k 1 hl → mKept M k 2 [] → (hl = [] ∨ 2 ≤ hl.length) → n ≤ b + 2 * m → 1 ≤ b ∧ b ≤ 200 →
    ∃ M', x_M_hasParts_0 867 k s b (bM sl π M G e) = rI (bi (decide ((if hl = [] then bs_fh s w n m b else hl, bs_ft s w n 65 (n - 2)) ≠ ([], [])))) (bM sl π M' G e) ∧ fr (S_p2 k) M M' ∧ mMod M' ∧ mKept M' k 1 (if hl = [] then bs_fh s w n m b else hl) ∧ mKept M' k 2 (bs_ft s w n 65 (n - 2)) := by
  have e1 : wr (wr (3 * k) + 1) = 3 * k + 1 := by rw [wr_id (x := 3 * k) (by omega), wr_id (by omega)]
  have stop : ∀ (M : Nat → Int → Int) (hl : List Ch), mMod M → mRow M n w → mKept M k 1 hl → mKept M k 2 [] → ∃ M', (bz_fI (bM sl π M G e) 867 10 16 fun v8 => x_M_hasParts_1 867 k s (wr (v8 - 2)) (bM sl π M G e)) = rI (bi (decide ((hl, bs_ft s w n 65 (n - 2)) ≠ ([], [])))) (bM sl π M' G e) ∧ fr (S_p2 k) M M' ∧ mMod M' ∧ mKept M' k 1 hl ∧ mKept M' k 2 (bs_ft s w n 65 (n - 2)) := by
    intro M hl hM hw h1 h2
    have hn := hw.1
    rw [mo_I, hw.2.1, wr_id (by omega)]
    obtain ⟨M3, g3, f3, hM3, a3, b3⟩ := bw_parts1 (sl := sl) (e := e) (π := π) (G := G) hs hk hpw 65 (n - 2) M hl [] hM hw h1 h2 (Or.inl rfl) (by omega) (by omega)
    rw [if_pos rfl] at g3 b3
    exact ⟨M3, g3, f3, hM3, a3, b3⟩
  intro m
  induction m with
  | zero =>
    intro b M hl hM hw h1 h2 ht hm hb
    obtain ⟨M', g, f, hM', a', b'⟩ := stop M hl hM hw h1 h2
    rw [x_M_hasParts_0_eq, mo_I, hw.2.1, if_neg (by omega), show (if hl = [] then bs_fh s w n 0 b else hl) = hl by split; (· rename_i z; rw [z]; rfl); rfl]
    rw [mo_I, hw.2.1] at g ⊢
    exact ⟨M', g, f, hM', a', b'⟩
  | succ m ih =>
    intro b M hl hM hw h1 h2 ht hm hb
    have hn := hw.1
    obtain ⟨M', g, f, hM', a', b'⟩ := stop M hl hM hw h1 h2
    by_cases hb0 : b < n
    · rw [x_M_hasParts_0_eq, mo_I, hw.2.1, if_pos hb0, e1, mo_R22, mo_r881 (by omega), h1.1, wr_id (by omega)]
      by_cases hhl : hl = []
      · subst hhl
        rw [if_pos rfl, if_pos (show ((([] : List Ch).length : Nat) : Int) = 0 from rfl)]
        obtain ⟨M1, g1, f1, l1⟩ := bw_readsHead (sl := sl) (e := e) (π := π) (G := G) hs hpw (a := b) (by omega) hM hw
        obtain ⟨hM1, w1⟩ := keep_m f1 hM hw
        have k11 : mKept M1 k 1 [] := mKept_fr h1 f1 (fun c j z y => by unfold S_k at z; unfold S_m at y; omega)
        have k12 : mKept M1 k 2 [] := mKept_fr h2 f1 (fun c j z y => by unfold S_k at z; unfold S_m at y; omega)
        rw [g1]
        simp only [cv_r]
        rw [mo_I, l1.1, bs_fh, if_pos hb0]
        by_cases h2l : 2 ≤ (bs_hd s w n b).length
        · rw [if_pos (by omega), if_pos h2l]
          obtain ⟨M2, g2, f2, k2⟩ := bw_keeps (sl := sl) (e := e) (π := π) (G := G) (t := 1) hk (by decide) l1
          have f2p : fr (S_p2 k) M1 M2 := fr_mono (fun _ _ z => Or.inr (Or.inl z)) f2
          have f12 : fr (S_p2 k) M M2 := fr_trans (fr_mono (fun _ _ z => Or.inl z) f1) f2p
          rw [g2]
          simp only [cv_r]
          obtain ⟨M3, g3, f3, hM3, a3, b3⟩ := ih (b + 2) M2 (bs_hd s w n b) (mMod_fr hM f12 fun _ _ => S_p2_in) (mRow_fr hw f12 S_p2_row) k2 (mKept_fr k12 f2 (fun c j z y => by unfold S_k at z y; omega)) (Or.inr h2l) (by omega) (by omega)
          have hne : ¬ bs_hd s w n b = [] := fun z => by rw [z] at h2l; exact absurd h2l (by decide)
          rw [if_neg hne] at g3 a3
          exact ⟨M3, g3, fr_trans f12 f3, hM3, a3, b3⟩
        · rw [if_neg (by omega), if_neg h2l]
          obtain ⟨M3, g3, f3, hM3, a3, b3⟩ := ih (b + 2) M1 [] hM1 w1 k11 k12 (Or.inl rfl) (by omega) (by omega)
          rw [if_pos rfl] at g3 a3
          exact ⟨M3, g3, fr_trans (fr_mono (fun _ _ z => Or.inl z) f1) f3, hM3, a3, b3⟩
      · have h2l : 2 ≤ hl.length := by rcases ht with z | z; exact absurd z hhl; exact z
        rw [if_neg (by omega), if_neg hhl]
        exact ⟨M', g, f, hM', a', b'⟩
    · rw [x_M_hasParts_0_eq, mo_I, hw.2.1, if_neg hb0, show (if hl = [] then bs_fh s w n (m + 1) b else hl) = hl by split; (· rename_i z; rw [z, bs_fh, if_neg hb0]); rfl]
      exact ⟨M', g, f, hM', a', b'⟩
end
