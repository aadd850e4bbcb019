/-! READING A SCAN -/
/-- what is read: (whole, head, tail), reversed, first and last bar of the whole code in the scan as it is -/
abbrev Rd : Type := (List Ch × List Ch × List Ch) × Bool × Int × Int
def bs_rv (w : Int → Int) (n : Int) : Int → Int := fun i => w (n - 1 - i)
def bs_pa (s : Nat) (w : Int → Int) (n : Int) : List Ch × List Ch := (bs_fh s w n 65 1, bs_ft s w n 65 (n - 2))
def bs_read (s : Nat) (w : Int → Int) (n : Int) : Rd :=
  match bs_fw s w n 65 1 with
  | some x => ((x.2.1, [], []), false, x.1, x.2.2)
  | none => match bs_fw s (bs_rv w n) n 65 1 with
    | some x => ((x.2.1, [], []), true, n - 1 - x.2.2, n - 1 - x.1)
    | none => if bs_pa s w n = ([], []) then (([], bs_pa s (bs_rv w n) n), decide (bs_pa s (bs_rv w n) n ≠ ([], [])), 0, 0) else (([], bs_pa s w n), false, 0, 0)
def rRdg (M : Nat → Int → Int) (d : Nat) (x : Rd) : Prop := (rSeq M (d + 1) x.1.1 ∧ rSeq M (d + 4) x.1.2.1 ∧ rSeq M (d + 7) x.1.2.2) ∧ M d 4 = bi x.2.1 ∧ M d 5 = x.2.2.1 ∧ M d 6 = x.2.2.2
def S_f (r d : Nat) (b : Nat) (j : Int) : Prop := (b = r ∧ j = 2) ∨ (d + 1 ≤ b ∧ b ≤ d + 3) ∨ (b = d ∧ (j = 5 ∨ j = 6))
def S_p (r d : Nat) (b : Nat) (j : Int) : Prop := (b = r ∧ j = 2) ∨ (d + 4 ≤ b ∧ b ≤ d + 9)
def S_i (r d : Nat) (b : Nat) (j : Int) : Prop := (b = r ∧ j = 2) ∨ (b = 44 ∨ b = 45) ∨ (d ≤ b ∧ b ≤ d + 9)
theorem bs_nz_len {l : List Ch} : (bs_nz l = []) = (l.length < 2) := by
  unfold bs_nz
  split
  · rename_i h
    refine propext ⟨fun z => ?_, fun z => by omega⟩
    rw [z] at h; exact absurd h (by decide)
  · rename_i h
    exact propext ⟨fun _ => by omega, fun _ => rfl⟩
theorem aRD {r d : Nat} (hr : aRow r) (hd : aRdg d) : ¬ (d ≤ r ∧ r ≤ d + 9) ∧ ¬ (d ≤ r + 1 ∧ r + 1 ≤ d + 9) := by
  have h1 := a_ne hr.1 hd.1 (by decide)
  have h2 := a_ne hr.2.1 hd.1 (by decide)
  have h3 := aRS hr hd.2.2.1.1
  have h4 := aRS hr hd.2.2.1.2.1
  have h5 := aRS hr hd.2.2.1.2.2
  omega
theorem bs_wu_ge {s : Nat} {w : Int → Int} {n : Int} : ∀ (d : Nat) (a : Int) (p : List Ch × Int), bs_wu s w n d a = some p → a ≤ p.2 := by
  have hk := k_bd s
  intro d
  induction d with
  | zero => intro a p h; cases h
  | succ d ih =>
    intro a p h
    rw [bs_wu] at h
    cases hu : bs_un s w n a with
    | none => rw [hu] at h; cases h
    | some l =>
      rw [hu] at h
      dsimp only at h
      split at h
      · cases h; dsimp only; omega
      · cases hz : bs_wu s w n d (a + bs_us s) with
        | none => rw [hz] at h; cases h
        | some p' =>
          rw [hz] at h
          cases h
          have := ih _ _ hz
          dsimp only
          omega
theorem bs_we_ge {w : Int → Int} {n : Int} : ∀ (d : Nat) (a : Int) (p : List Ch × Int), bs_we w n d a = some p → a ≤ p.2 := by
  intro d
  induction d with
  | zero =>
    intro a p h
    rw [bs_we] at h
    split at h
    · cases h; dsimp only; omega
    · cases h
  | succ d ih =>
    intro a p h
    rw [bs_we] at h
    split at h
    · cases h
    · have ha : a ≤ (if d = 3 then a + 5 else a) := by split <;> omega
      generalize (if d = 3 then a + 5 else a) = a' at h ha
      cases hu : bs_un 0 w n a' with
      | none => rw [hu] at h; cases h
      | some l =>
        rw [hu] at h
        dsimp only at h
        cases hz : bs_we w n d (a' + 4) with
        | none => rw [hz] at h; cases h
        | some p' =>
          rw [hz] at h
          cases h
          have := ih _ _ hz
          dsimp only
          omega
theorem bs_wh_ge {s : Nat} {w : Int → Int} {n b : Int} {p : List Ch × Int} (h : bs_wh s w n b = some p) : b ≤ p.2 := by
  have hk := k_bd s
  unfold bs_wh at h
  split at h
  · have := bs_we_ge _ _ _ h; omega
  · cases hz : bs_wu s w n (bs_mu s) (b + bs_st s) with
    | none => rw [hz] at h; cases h
    | some p' =>
      rw [hz] at h
      cases h
      have := bs_wu_ge _ _ _ hz
      dsimp only
      omega
section
variable {sl e : Nat} {π : Int → Nat} {G : Nat → Int → Int} {r q d s : Nat} {n : Int} {w : Int → Int}
theorem bc_fw (hs : s < 3) (hr : aRow r) (hpw : wOK n w) (hd : aRdg d) : ∀ (m : Nat) (b : Int) (M : Nat → Int → Int), mCon M → rRow M r n w → n ≤ b + 2 * m → 0 ≤ b ∧ b ≤ 200 →
    ∃ M', x_Sym_findWhole_0 (22 + s) r d b (bM sl π M G e) = rI (bi (bs_fw s w n m b).isSome) (bM sl π M' G e) ∧ fr (S_f r d) M M' ∧ (∀ x, bs_fw s w n m b = some x → rSeq M' (d + 1) x.2.1 ∧ M' d 5 = x.1 ∧ M' d 6 = x.2.2) ∧ (bs_fw s w n m b = none → rSeq M' (d + 1) [] ∧ ∀ j, M' d j = M d j) := by
  have hq := hd.2.2.1.1
  have hRD := aRD hr hd
  have stop : ∀ (b : Int) (M : Nat → Int → Int), rRow M r n w → ¬ b < n → ∃ M', x_Sym_findWhole_0 (22 + s) r d b (bM sl π M G e) = rI (bi false) (bM sl π M' G e) ∧ fr (S_f r d) M M' ∧ rSeq M' (d + 1) [] ∧ ∀ j, M' d j = M d j := by
    intro b M hw hb
    rw [x_Sym_findWhole_0_eq, row_I hr, hw.2.1, if_neg hb, rdg_w hd, seq_p hq]
    exact ⟨_, rfl, fr_up (Or.inr (Or.inl (by omega))) fr_refl, rSeq_0, fun j => up_a (by omega)⟩
  intro m
  induction m with
  | zero =>
    intro b M hM hw hm hb
    obtain ⟨M', h1, h2, h3⟩ := stop b M hw (by omega)
    exact ⟨M', h1, h2, fun x h => (by cases h), fun _ => h3⟩
  | succ m ih =>
    intro b M hM hw hm hb
    by_cases hbn : b < n
    · have hn := hw.1
      have e1 : wr (b + 2) = b + 2 := wr_id (by omega)
      obtain ⟨M1, g1, f1⟩ := bc_begins (sl := sl) (e := e) (π := π) (G := G) hs hM hr hw hpw (a := b) (by omega)
      have f1u : fr (S_u r (d + 1)) M M1 := fr_mono (fun b j z => Or.inl z) f1
      obtain ⟨hM1, w1⟩ := keep_u hr hq f1u hM hw
      have toF : ∀ {A B : Nat → Int → Int}, fr (S_u r (d + 1)) A B → fr (S_f r d) A B := fun h => fr_mono (fun b j z => by rcases z with z | z; exact Or.inl z; exact Or.inr (Or.inl (by omega))) h
      have keepd : ∀ {A B : Nat → Int → Int}, fr (S_u r (d + 1)) A B → ∀ j, B d j = A d j := fun h j => h d j (by rintro (z | z) <;> omega)
      rw [x_Sym_findWhole_0_eq, row_I hr, hw.2.1, if_pos hbn, g1]
      simp only [cn_r, bi_eq0]
      rw [bs_fw, if_pos hbn, e1]
      have next : ∀ M2, mCon M2 → rRow M2 r n w → fr (S_u r (d + 1)) M M2 → ∃ M', x_Sym_findWhole_0 (22 + s) r d (b + 2) (bM sl π M2 G e) = rI (bi (bs_fw s w n m (b + 2)).isSome) (bM sl π M' G e) ∧ fr (S_f r d) M M' ∧ (∀ x, bs_fw s w n m (b + 2) = some x → rSeq M' (d + 1) x.2.1 ∧ M' d 5 = x.1 ∧ M' d 6 = x.2.2) ∧ (bs_fw s w n m (b + 2) = none → rSeq M' (d + 1) [] ∧ ∀ j, M' d j = M d j) := by
        intro M2 hM2 w2 f2
        obtain ⟨M3, g3, f3, a3, b3⟩ := ih (b + 2) M2 hM2 w2 (by omega) (by omega)
        exact ⟨M3, g3, fr_trans (toF f2) f3, a3, fun z => ⟨(b3 z).1, fun j => ((b3 z).2 j).trans (keepd f2 j)⟩⟩
      cases hbe : bs_be s w n b with
      | false =>
        rw [if_pos rfl]
        exact next M1 hM1 w1 f1u
      | true =>
        rw [if_neg (by decide), rdg_w hd, if_pos rfl]
        obtain ⟨M2, g2, f2, l2⟩ := bc_addWhole (sl := sl) (e := e) (π := π) (G := G) hs hM1 hr w1 hpw hq (b := b) (by omega)
        obtain ⟨hM2, w2⟩ := keep_u hr hq f2 hM1 w1
        rw [g2]
        simp only [cn_r]
        cases hwh : bs_wh s w n b with
        | none =>
          rw [if_pos (show bs_la none = -1 from rfl)]
          exact next M2 hM2 w2 (fr_trans f1u f2)
        | some p =>
          have hp2 : bs_la (some p) = p.2 := rfl
          rw [hp2]
          have hpn : p.2 ≠ -1 := by have := bs_wh_ge hwh; omega
          rw [if_neg hpn, rdg_p hd, rdg_p hd]
          refine ⟨_, rfl, fr_up (Or.inr (Or.inr ⟨rfl, Or.inr rfl⟩)) (fr_up (Or.inr (Or.inr ⟨rfl, Or.inl rfl⟩)) (fr_trans (toF f1u) (toF f2))), fun x hx => ?_, fun h => by cases h⟩
          cases hx
          refine ⟨?_, ?_, ?_⟩
          · exact rSeq_fr (S := fun b j => b = d) (l2 p hwh) (fr_up rfl (fr_up rfl fr_refl)) (fun b j z y => by omega)
          · dsimp only; rw [up_i (by decide), up_s]
          · exact up_s
    · obtain ⟨M', h1, h2, h3⟩ := stop b M hw hbn
      rw [bs_fw, if_neg hbn]
      exact ⟨M', h1, h2, fun x h => (by cases h), fun _ => h3⟩
theorem bc_fp1 (hs : s < 3) (hr : aRow r) (hpw : wOK n w) (hd : aRdg d) : ∀ (m : Nat) (b : Int) (M : Nat → Int → Int) (hl tl : List Ch), mCon M → rRow M r n w → rSeq M (d + 4) hl → rSeq M (d + 7) tl → b ≤ 2 * m → b ≤ 200 →
    ∃ M', x_Sym_findParts_1 (22 + s) r (d + 4) (d + 7) b (bM sl π M G e) = rI (bi (decide ((bs_nz hl, if 2 ≤ tl.length then tl else bs_ft s w n m b) ≠ ([], [])))) (bM sl π M' G e) ∧ fr (S_p r d) M M' ∧ rSeq M' (d + 4) (bs_nz hl) ∧ rSeq M' (d + 7) (if 2 ≤ tl.length then tl else bs_ft s w n m b) := by
  have hq := hd.2.2.1.2.1
  have ht := hd.2.2.1.2.2
  have hRD := aRD hr hd
  have toP : ∀ {A B : Nat → Int → Int}, fr (S_u r (d + 7)) A B → fr (S_p r d) A B := fun h => fr_mono (fun b j z => by rcases z with z | z; exact Or.inl z; exact Or.inr (by omega)) h
  have keeph : ∀ {A B : Nat → Int → Int} {l : List Ch}, fr (S_u r (d + 7)) A B → rSeq A (d + 4) l → rSeq B (d + 4) l := fun h h' => rSeq_fr h' h (fun b j z y => by rcases y with y | y <;> omega)
  have stop : ∀ (M : Nat → Int → Int) (hl tl : List Ch), rSeq M (d + 4) hl → rSeq M (d + 7) tl → ∀ X, X = (bz_fI (bM sl π M G e) (d + 4) 7 2 fun v26 => if v26 < 2 then bz_pI (bM sl π M G e) (d + 4) 7 2 0 fun μ27 => bz_fI μ27 (d + 7) 7 2 fun v28 => if v28 < 2 then bz_pI μ27 (d + 7) 7 2 0 fun μ29 => bz_fI μ29 (d + 4) 7 2 fun v30 => if (0 : Int) < v30 then rI 1 μ29 else bz_fI μ29 (d + 7) 7 2 fun v31 => if (0 : Int) < v31 then rI 1 μ29 else rI 0 μ29 else bz_fI μ27 (d + 7) 7 2 fun v32 => bz_pI μ27 (d + 7) 7 2 v32 fun μ33 => bz_fI μ33 (d + 4) 7 2 fun v34 => if (0 : Int) < v34 then rI 1 μ33 else bz_fI μ33 (d + 7) 7 2 fun v35 => if (0 : Int) < v35 then rI 1 μ33 else rI 0 μ33 else bz_fI (bM sl π M G e) (d + 4) 7 2 fun v36 => bz_pI (bM sl π M G e) (d + 4) 7 2 v36 fun μ37 => bz_fI μ37 (d + 7) 7 2 fun v38 => if v38 < 2 then bz_pI μ37 (d + 7) 7 2 0 fun μ39 => bz_fI μ39 (d + 4) 7 2 fun v40 => if (0 : Int) < v40 then rI 1 μ39 else bz_fI μ39 (d + 7) 7 2 fun v41 => if (0 : Int) < v41 then rI 1 μ39 else rI 0 μ39 else bz_fI μ37 (d + 7) 7 2 fun v42 => bz_pI μ37 (d + 7) 7 2 v42 fun μ43 => bz_fI μ43 (d + 4) 7 2 fun v44 => if (0 : Int) < v44 then rI 1 μ43 else bz_fI μ43 (d + 7) 7 2 fun v45 => if (0 : Int) < v45 then rI 1 μ43 else rI 0 μ43) →
      ∃ M', X = rI (bi (decide ((bs_nz hl, bs_nz tl) ≠ ([], [])))) (bM sl π M' G e) ∧ fr (S_p r d) M M' ∧ rSeq M' (d + 4) (bs_nz hl) ∧ rSeq M' (d + 7) (bs_nz tl) := by
    intro M hl tl h1 h2 X hX
    have hh := h1.1
    have htt := h2.1
    have n1 : d + 7 ≠ d + 4 := by omega
    have n2 : d + 4 ≠ d + 7 := by omega
    have hdec : ∀ A B : List Ch, decide ((bs_nz A, bs_nz B) ≠ (([] : List Ch), ([] : List Ch))) = decide (¬ (A.length < 2 ∧ B.length < 2)) := by
      intro A B
      simp only [ne_eq, Prod.mk.injEq, bs_nz_len]
    rw [hdec]
    simp only [seq_I hq, seq_I ht, seq_p hq, seq_p ht, up_s, up_a n1, up_a n2, hh, htt] at hX
    have fin : ∀ M', M' = up (up M (d + 4) 2 (bs_nz hl).length) (d + 7) 2 (bs_nz tl).length → fr (S_p r d) M M' ∧ rSeq M' (d + 4) (bs_nz hl) ∧ rSeq M' (d + 7) (bs_nz tl) := by
      intro M' hM'
      subst hM'
      have tk : ∀ (A : List Ch) (k : Nat) (c : Ch), (bs_nz A)[k]? = some c → A[k]? = some c := by
        intro A k c h
        unfold bs_nz at h
        split at h
        · exact h
        · cases h
      have tl' : ∀ (A : List Ch), (bs_nz A).length ≤ A.length := by
        intro A; unfold bs_nz; split
        · exact Nat.le_refl _
        · exact Nat.zero_le _
      refine ⟨fr_up (Or.inr (by omega)) (fr_up (Or.inr (by omega)) fr_refl), ⟨?_, ?_, ?_⟩, ⟨?_, ?_, ?_⟩⟩
      · rw [up_a n2, up_s]
      · have := tl' hl; have := h1.2.1; omega
      · intro k c hk
        rw [up_a (by omega), up_a (by omega), up_a (by omega), up_a (by omega)]
        exact h1.2.2 k c (tk _ _ _ hk)
      · rw [up_s]
      · have := tl' tl; have := h2.2.1; omega
      · intro k c hk
        rw [up_a (by omega), up_a (by omega), up_a (by omega), up_a (by omega)]
        exact h2.2.2 k c (tk _ _ _ hk)
    have zh : hl.length < 2 → ((bs_nz hl).length : Int) = 0 := fun z => by unfold bs_nz; rw [if_neg (by omega)]; rfl
    have zt : tl.length < 2 → ((bs_nz tl).length : Int) = 0 := fun z => by unfold bs_nz; rw [if_neg (by omega)]; rfl
    have nh : ¬ hl.length < 2 → ((bs_nz hl).length : Int) = hl.length := fun z => by unfold bs_nz; rw [if_pos (by omega)]
    have nt : ¬ tl.length < 2 → ((bs_nz tl).length : Int) = tl.length := fun z => by unfold bs_nz; rw [if_pos (by omega)]
    by_cases z1 : hl.length < 2 <;> by_cases z2 : tl.length < 2
    · rw [if_pos (by omega), if_pos (by omega), if_neg (by omega), if_neg (by omega)] at hX
      refine ⟨_, hX.trans ?_, fin _ (by rw [zh z1, zt z2])⟩
      rw [decide_eq_false (by omega)]; rfl
    · rw [if_pos (by omega), if_neg (by omega), if_neg (by omega), if_pos (by omega)] at hX
      refine ⟨_, hX.trans ?_, fin _ (by rw [zh z1, nt z2])⟩
      rw [decide_eq_true (by omega)]; rfl
    · rw [if_neg (by omega), if_pos (by omega), if_pos (by omega)] at hX
      refine ⟨_, hX.trans ?_, fin _ (by rw [nh z1, zt z2])⟩
      rw [decide_eq_true (by omega)]; rfl
    · rw [if_neg (by omega), if_neg (by omega), if_pos (by omega)] at hX
      refine ⟨_, hX.trans ?_, fin _ (by rw [nh z1, nt z2])⟩
      rw [decide_eq_true (by omega)]; rfl
  intro m
  induction m with
  | zero =>
    intro b M hl tl hM hw h1 h2 hm hb
    obtain ⟨M', g1, f1, a1, a2⟩ := stop M hl tl h1 h2 _ rfl
    rw [x_Sym_findParts_1_eq, if_neg (by omega)]
    exact ⟨M', g1, f1, a1, a2⟩
  | succ m ih =>
    intro b M hl tl hM hw h1 h2 hm hb
    by_cases hb0 : 0 < b
    · rw [x_Sym_findParts_1_eq, if_pos hb0, seq_I ht, h2.1]
      by_cases h2t : 2 ≤ tl.length
      · obtain ⟨M', g1, f1, a1, a2⟩ := stop M hl tl h1 h2 _ rfl
        rw [if_neg (by omega)]
        rw [if_pos h2t]
        have e0 : bs_nz tl = tl := if_pos h2t
        rw [e0] at g1 a2
        exact ⟨M', g1, f1, a1, a2⟩
      · have e1 : wr (b + -2) = b - 2 := wr_id (by omega)
        have f0 : fr (S_u r (d + 7)) M (up M (d + 7) 2 0) := fr_q0
        obtain ⟨hM0, w0⟩ := keep_u hr ht f0 hM hw
        have h10 := keeph f0 h1
        rw [if_pos (by omega), seq_p ht, e1]
        obtain ⟨M1, g1, f1⟩ := bc_ends (sl := sl) (e := e) (π := π) (G := G) hs hM0 hr w0 hpw (a := b) (by omega)
        have f1u : fr (S_u r (d + 7)) (up M (d + 7) 2 0) M1 := fr_mono (fun b j z => Or.inl z) f1
        obtain ⟨hM1, w1, l1⟩ := keep_1 hr ht f1 hM0 w0 rSeq_0
        have h11 := keeph f1u h10
        rw [g1]
        simp only [cn_r, bi_eq0]
        rw [if_neg h2t, bs_ft, if_pos hb0]
        cases hbe : bs_en s w n b with
        | false =>
          rw [if_pos rfl]
          have e2 : bs_tl s w n b = [] := by unfold bs_tl; rw [hbe]; rfl
          obtain ⟨M2, g2, f2, a2, b2⟩ := ih (b - 2) M1 hl [] hM1 w1 h11 l1 (by omega) (by omega)
          rw [if_neg (show ¬ 2 ≤ ([] : List Ch).length by decide)] at g2 b2
          rw [g2, e2, if_neg (show ¬ 2 ≤ ([] : List Ch).length by decide)]
          exact ⟨M2, rfl, fr_trans (toP f0) (fr_trans (toP f1u) f2), a2, b2⟩
        | true =>
          rw [if_neg (by decide)]
          obtain ⟨M3, g3, f3, l3⟩ := bc_addTail (sl := sl) (e := e) (π := π) (G := G) hs hM1 hr w1 hpw ht l1 (b := b) (by omega) hbe
          obtain ⟨hM3, w3⟩ := keep_u hr ht f3 hM1 w1
          rw [g3]
          simp only [cu_r]
          obtain ⟨M2, g2, f2, a2, b2⟩ := ih (b - 2) M3 hl (bs_tl s w n b) hM3 w3 (keeph f3 h11) l3 (by omega) (by omega)
          rw [g2]
          exact ⟨M2, rfl, fr_trans (toP f0) (fr_trans (toP f1u) (fr_trans (toP f3) f2)), a2, b2⟩
    · obtain ⟨M', g1, f1, a1, a2⟩ := stop M hl tl h1 h2 _ rfl
      rw [x_Sym_findParts_1_eq, if_neg hb0]
      rw [bs_ft, if_neg hb0]
      exact ⟨M', g1, f1, a1, a2⟩
theorem bc_fp0 (hs : s < 3) (hr : aRow r) (hpw : wOK n w) (hd : aRdg d) : ∀ (m : Nat) (b : Int) (M : Nat → Int → Int) (hl : List Ch), mCon M → rRow M r n w → rSeq M (d + 4) hl → n ≤ b + 2 * m → 0 ≤ b ∧ b ≤ 200 →
    ∃ M', x_Sym_findParts_0 (22 + s) r d (d + 4) b (bM sl π M G e) = rI (bi (decide ((if 2 ≤ hl.length then hl else bs_fh s w n m b, bs_ft s w n 65 (n - 2)) ≠ ([], [])))) (bM sl π M' G e) ∧ fr (S_p r d) M M' ∧ rSeq M' (d + 4) (if 2 ≤ hl.length then hl else bs_fh s w n m b) ∧ rSeq M' (d + 7) (bs_ft s w n 65 (n - 2)) := by
  have hq := hd.2.2.1.2.1
  have ht := hd.2.2.1.2.2
  have hRD := aRD hr hd
  have toP : ∀ {A B : Nat → Int → Int}, fr (S_u r (d + 4)) A B → fr (S_p r d) A B := fun h => fr_mono (fun b j z => by rcases z with z | z; exact Or.inl z; exact Or.inr (by omega)) h
  have stop : ∀ (M : Nat → Int → Int) (hl : List Ch), mCon M → rRow M r n w → rSeq M (d + 4) hl → ∀ X, X = (bz_fR (bM sl π M G e) d 4 2 fun v7 => bz_pI (bM sl π M G e) v7 7 2 0 fun μ8 => bz_fI μ8 r 5 1 fun v9 => x_Sym_findParts_1 (22 + s) r (d + 4) v7 (wr (v9 - 2)) μ8) →
      ∃ M', X = rI (bi (decide ((bs_nz hl, bs_ft s w n 65 (n - 2)) ≠ ([], [])))) (bM sl π M' G e) ∧ fr (S_p r d) M M' ∧ rSeq M' (d + 4) (bs_nz hl) ∧ rSeq M' (d + 7) (bs_ft s w n 65 (n - 2)) := by
    intro M hl hM hw h1 X hX
    have hn := hw.1
    have f0 : fr (S_u r (d + 7)) M (up M (d + 7) 2 0) := fr_q0
    obtain ⟨hM0, w0⟩ := keep_u hr ht f0 hM hw
    have h10 : rSeq (up M (d + 7) 2 0) (d + 4) hl := rSeq_fr h1 f0 (fun b j z y => by rcases y with y | y <;> omega)
    rw [rdg_t hd, seq_p ht, row_I hr, w0.2.1, wr_id (by omega)] at hX
    obtain ⟨M2, g2, f2, a2, b2⟩ := bc_fp1 (sl := sl) (e := e) (π := π) (G := G) hs hr hpw hd 65 (n - 2) (up M (d + 7) 2 0) hl [] hM0 w0 h10 rSeq_0 (by omega) (by omega)
    rw [if_neg (show ¬ 2 ≤ ([] : List Ch).length by decide)] at g2 b2
    exact ⟨M2, hX.trans g2, fr_trans (fr_up (Or.inr (by omega)) fr_refl) f2, a2, b2⟩
  intro m
  induction m with
  | zero =>
    intro b M hl hM hw h1 hm hb
    obtain ⟨M', g1, f1, a1, a2⟩ := stop M hl hM hw h1 _ rfl
    rw [x_Sym_findParts_0_eq, row_I hr, hw.2.1, if_neg (by omega)]
    exact ⟨M', g1, f1, a1, a2⟩
  | succ m ih =>
    intro b M hl hM hw h1 hm hb
    have hn := hw.1
    by_cases hb0 : b < n
    · rw [x_Sym_findParts_0_eq, row_I hr, hw.2.1, if_pos hb0, seq_I hq, h1.1]
      by_cases h2t : 2 ≤ hl.length
      · obtain ⟨M', g1, f1, a1, a2⟩ := stop M hl hM hw h1 _ rfl
        rw [if_neg (by omega), if_pos h2t]
        have e0 : bs_nz hl = hl := if_pos h2t
        rw [e0] at g1 a1
        exact ⟨M', g1, f1, a1, a2⟩
      · have e1 : wr (b + 2) = b + 2 := wr_id (by omega)
        have f0 : fr (S_u r (d + 4)) M (up M (d + 4) 2 0) := fr_q0
        obtain ⟨hM0, w0⟩ := keep_u hr hq f0 hM hw
        rw [if_pos (by omega), seq_p hq, e1]
        obtain ⟨M1, g1, f1⟩ := bc_begins (sl := sl) (e := e) (π := π) (G := G) hs hM0 hr w0 hpw (a := b) (by omega)
        have f1u : fr (S_u r (d + 4)) (up M (d + 4) 2 0) M1 := fr_mono (fun b j z => Or.inl z) f1
        obtain ⟨hM1, w1, l1⟩ := keep_1 hr hq f1 hM0 w0 rSeq_0
        rw [g1]
        simp only [cn_r, bi_eq0]
        rw [if_neg h2t, bs_fh, if_pos hb0]
        cases hbe : bs_be s w n b with
        | false =>
          rw [if_pos rfl]
          have e2 : bs_hd s w n b = [] := by unfold bs_hd; rw [hbe]; rfl
          obtain ⟨M2, g2, f2, a2, b2⟩ := ih (b + 2) M1 [] hM1 w1 l1 (by omega) (by omega)
          rw [if_neg (show ¬ 2 ≤ ([] : List Ch).length by decide)] at g2 a2
          rw [g2, e2, if_neg (show ¬ 2 ≤ ([] : List Ch).length by decide)]
          exact ⟨M2, rfl, fr_trans (toP f0) (fr_trans (toP f1u) f2), a2, b2⟩
        | true =>
          rw [if_neg (by decide)]
          obtain ⟨M3, g3, f3, l3⟩ := bc_addHead (sl := sl) (e := e) (π := π) (G := G) hs hM1 hr w1 hpw hq l1 (b := b) (by omega) hbe
          obtain ⟨hM3, w3⟩ := keep_u hr hq f3 hM1 w1
          rw [g3]
          simp only [cu_r]
          obtain ⟨M2, g2, f2, a2, b2⟩ := ih (b + 2) M3 (bs_hd s w n b) hM3 w3 l3 (by omega) (by omega)
          rw [g2]
          exact ⟨M2, rfl, fr_trans (toP f0) (fr_trans (toP f1u) (fr_trans (toP f3) f2)), a2, b2⟩
    · obtain ⟨M', g1, f1, a1, a2⟩ := stop M hl hM hw h1 _ rfl
      rw [x_Sym_findParts_0_eq, row_I hr, hw.2.1, if_neg hb0]
      rw [bs_fh, if_neg hb0]
      exact ⟨M', g1, f1, a1, a2⟩
end
