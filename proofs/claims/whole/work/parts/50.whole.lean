/-! WHOLE CODES, HEADS AND TAILS: what they are, and the class's loops -/
def bs_up (s : Nat) (w : Int → Int) (n : Int) : Nat → Int → List Ch
  | 0, _ => []
  | m + 1, a => match bs_un s w n a with
    | none => []
    | some l => l ++ bs_up s w n m (a + bs_us s)
def bs_wu (s : Nat) (w : Int → Int) (n : Int) : Nat → Int → Option (List Ch × Int)
  | 0, _ => none
  | m + 1, a => match bs_un s w n a with
    | none => none
    | some l => if bs_en s w n (a + bs_us s + bs_sp s) then some (l ++ bs_gu s w n (a + bs_us s), a + bs_us s + bs_sp s)
      else match bs_wu s w n m (a + bs_us s) with
        | none => none
        | some p => some (l ++ p.1, p.2)
def bs_we (w : Int → Int) (n : Int) : Nat → Int → Option (List Ch × Int)
  | 0, a => if bs_en 0 w n (a + 2) then some ([], a + 2) else none
  | d + 1, a => if d = 3 ∧ bs_even w n a 5 = false then none else
    match bs_un 0 w n (if d = 3 then a + 5 else a) with
    | none => none
    | some l => match bs_we w n d ((if d = 3 then a + 5 else a) + 4) with
      | none => none
      | some p => some (l ++ p.1, p.2)
/-- the whole code from a beginning: its characters, its last bar -/
def bs_wh (s : Nat) (w : Int → Int) (n b : Int) : Option (List Ch × Int) :=
  if s = 0 then bs_we w n 8 (b + 3) else match bs_wu s w n (bs_mu s) (b + bs_st s) with
    | none => none
    | some p => some (bs_gu s w n b ++ p.1, p.2)
def bs_la (o : Option (List Ch × Int)) : Int := match o with
  | none => -1
  | some p => p.2
theorem k_bd (s : Nat) : ((4 ≤ bs_us s ∧ bs_us s ≤ 10) ∧ (2 ≤ bs_sp s ∧ bs_sp s ≤ 6) ∧ (3 ≤ bs_st s ∧ bs_st s ≤ 8)) ∧ ((s = 1 → bs_mu s = 7) ∧ (s ≠ 1 → bs_mu s ≤ 14)) ∧ 4 ≤ bs_mu s ∧ bs_mu s ≤ 14 := by
  unfold bs_us bs_sp bs_st bs_mu
  by_cases h0 : s = 0
  · subst h0; decide
  · by_cases h1 : s = 1
    · subst h1; decide
    · simp only [h0, h1, if_false]
      refine ⟨by decide, ⟨fun h => h.elim, fun _ => by decide⟩, by decide⟩
theorem bs_un_len {s : Nat} {w : Int → Int} {n a : Int} : (s = 1 → ((bs_un s w n a).getD []).length ≤ 2) ∧ (s ≠ 1 → ((bs_un s w n a).getD []).length ≤ 1) := by
  unfold bs_un
  constructor
  · intro h
    rw [if_neg (by omega), if_pos h]
    unfold bs_unI
    repeat' split
    all_goals simp
  · intro h
    by_cases h0 : s = 0
    · rw [if_pos h0]
      unfold bs_unE
      dsimp only
      repeat' split
      all_goals simp
    · rw [if_neg h0, if_neg h]
      unfold bs_unC
      repeat' split
      all_goals simp
theorem bs_gu_len {s : Nat} {w : Int → Int} {n a : Int} : (bs_gu s w n a).length ≤ 1 ∧ (s ≠ 2 → (bs_gu s w n a).length = 0) := by
  unfold bs_gu
  constructor
  · repeat' split
    all_goals simp
  · intro h
    rw [if_neg h]; rfl
theorem S_u_in {r q b : Nat} {j : Int} (hr : aRow r) (hq : aSeq q) (h : S_u r q b j) : 16 ≤ b ∧ ¬ (22 ≤ b ∧ b ≤ 24) := by
  have h1 := aRow_in hr
  have h2 := aSeq_in hq
  rcases h with h | h <;> omega
theorem keep_u {M M' : Nat → Int → Int} {r q : Nat} {n : Int} {w : Int → Int} (hr : aRow r) (hq : aSeq q) (f : fr (S_u r q) M M') (hM : mCon M) (hw : rRow M r n w) : mCon M' ∧ rRow M' r n w := by
  have h := aRS hr hq
  refine ⟨mCon_fr hM f fun b j => S_u_in hr hq, rRow_fr hw f ?_ fun j => ?_⟩
  · rintro (z | z)
    · exact absurd z.2 (by decide)
    · exact h.1 z
  · rintro (z | z)
    · exact absurd z.1 (by omega)
    · exact h.2 z
theorem keep_1 {M M' : Nat → Int → Int} {r q : Nat} {n : Int} {w : Int → Int} {l : List Ch} (hr : aRow r) (hq : aSeq q) (f : fr (S_1 r) M M') (hM : mCon M) (hw : rRow M r n w) (hl : rSeq M q l) : mCon M' ∧ rRow M' r n w ∧ rSeq M' q l := by
  have h := aRS hr hq
  have h2 := keep_u hr hq (fr_mono (fun b j z => Or.inl z) f) hM hw
  exact ⟨h2.1, h2.2, rSeq_fr hl f fun b j z y => h.1 (by rw [← y.1]; exact z)⟩
theorem rSeq_0 {M : Nat → Int → Int} {q : Nat} : rSeq (up M q 2 0) q [] := ⟨up_s, by decide, fun k c h => by cases h⟩
theorem fr_q0 {M : Nat → Int → Int} {r q : Nat} {v : Int} : fr (S_u r q) M (up M q 2 v) := fr_up (Or.inr (by omega)) fr_refl
section
variable {sl e : Nat} {π : Int → Nat} {G : Nat → Int → Int} {r q s : Nat} {n : Int} {w : Int → Int}
theorem bc_wu (hs : s < 3) (hr : aRow r) (hpw : wOK n w) (hq : aSeq q) : ∀ (d : Nat) (i a : Int) (M : Nat → Int → Int) (acc : List Ch), mCon M → rRow M r n w → rSeq M q acc → (s = 1 → acc.length + 2 * d ≤ 14) → (s ≠ 1 → acc.length + d + 1 ≤ 16) → i + d = bs_mu s → -1000 ≤ a ∧ a + 10 * d ≤ 1000 → 0 ≤ i →
    ∃ M', x_Sym_addWhole_0 (22 + s) r q a i (bM sl π M G e) = rI (bs_la (bs_wu s w n d a)) (bM sl π M' G e) ∧ fr (S_u r q) M M' ∧ ∀ p, bs_wu s w n d a = some p → rSeq M' q (acc ++ p.1) := by
  have hk := k_bd s
  intro d
  induction d with
  | zero =>
    intro i a M acc hM hw hl h1 h2 hi ha hi0
    rw [x_Sym_addWhole_0_eq, k_S3 hs hM, if_neg (by omega)]
    exact ⟨M, rfl, fr_refl, fun p h => by cases h⟩
  | succ d ih =>
    intro i a M acc hM hw hl h1 h2 hi ha hi0
    have hul := bs_un_len (s := s) (w := w) (n := n) (a := a)
    obtain ⟨M1, g1, f1, l1⟩ := bc_unit (sl := sl) (e := e) (π := π) (G := G) hs hM hr hw hpw hq hl (a := a) (by omega) (by split <;> omega)
    rw [x_Sym_addWhole_0_eq, k_S3 hs hM, if_pos (by omega), g1]
    simp only [cn_r, bi_eq0]
    cases hu : bs_un s w n a with
    | none =>
      rw [if_pos (show (none : Option (List Ch)).isSome = false from rfl)]
      refine ⟨M1, ?_, f1, fun p h => ?_⟩
      · rw [bs_wu, hu]; rfl
      · rw [bs_wu, hu] at h; cases h
    | some ls =>
      rw [hu] at l1 hul
      have l1 : rSeq M1 q (acc ++ ls) := l1
      have hul : (s = 1 → ls.length ≤ 2) ∧ (s ≠ 1 → ls.length ≤ 1) := hul
      obtain ⟨hM1, w1⟩ := keep_u hr hq f1 hM hw
      have e1 : wr (a + bs_us s) = a + bs_us s := wr_id (by omega)
      have e2 : wr (a + bs_us s + bs_sp s) = a + bs_us s + bs_sp s := wr_id (by omega)
      have e3 : wr (i + 1) = i + 1 := wr_id (by omega)
      rw [if_neg (by simp), k_S2 hs hM1, k_S1 hs hM1, e1, e2, e3]
      obtain ⟨M2, g2, f2⟩ := bc_ends (sl := sl) (e := e) (π := π) (G := G) hs hM1 hr w1 hpw (a := a + bs_us s + bs_sp s) (by omega)
      obtain ⟨hM2, w2, l2⟩ := keep_1 hr hq f2 hM1 w1 l1
      have f12 : fr (S_u r q) M M2 := fr_trans f1 (fr_mono (fun b j z => Or.inl z) f2)
      rw [g2]
      simp only [cn_r, bi_eq0]
      cases he : bs_en s w n (a + bs_us s + bs_sp s) with
      | false =>
        rw [if_pos rfl]
        obtain ⟨M3, g3, f3, l3⟩ := ih (i + 1) (a + bs_us s) M2 (acc ++ ls) hM2 w2 l2 (by rw [List.length_append]; omega) (by rw [List.length_append]; omega) (by omega) (by omega) (by omega)
        rw [g3]
        have hx : bs_wu s w n (d + 1) a = match bs_wu s w n d (a + bs_us s) with
          | none => none
          | some p => some (ls ++ p.1, p.2) := by
          rw [bs_wu, hu]
          simp only [he]
          rfl
        rw [hx]
        cases hz : bs_wu s w n d (a + bs_us s) with
        | none => exact ⟨M3, rfl, fr_trans f12 f3, fun p h => by cases h⟩
        | some p =>
          refine ⟨M3, rfl, fr_trans f12 f3, fun p' h => ?_⟩
          cases h
          have := l3 p hz
          rw [List.append_assoc] at this
          exact this
      | true =>
        rw [if_neg (by decide)]
        obtain ⟨M3, g3, f3, l3⟩ := bc_guard (sl := sl) (e := e) (π := π) (G := G) hs hM2 hr w2 hpw hq l2 (a := a + bs_us s) (by omega) (by rw [List.length_append]; omega)
        obtain ⟨hM3, w3⟩ := keep_u hr hq f3 hM2 w2
        rw [g3]
        simp only [cu_r]
        rw [k_S1 hs hM3, e2]
        have hx : bs_wu s w n (d + 1) a = some (ls ++ bs_gu s w n (a + bs_us s), a + bs_us s + bs_sp s) := by
          rw [bs_wu, hu]
          simp only [he, if_true]
        rw [hx]
        refine ⟨M3, rfl, fr_trans f12 f3, fun p' h => ?_⟩
        cases h
        rw [List.append_assoc] at l3
        exact l3
theorem bc_we {x0 : Nat} (hx0 : x0 = 22) (hr : aRow r) (hpw : wOK n w) (hq : aSeq q) : ∀ (d : Nat) (i a : Int) (M : Nat → Int → Int) (acc : List Ch), mCon M → rRow M r n w → rSeq M q acc → acc.length + d ≤ 16 → i + d = 8 → -1000 ≤ a ∧ a + 10 * d ≤ 1000 → 0 ≤ i →
    ∃ M', x_Ean_addWhole_0 x0 r q a i (bM sl π M G e) = rI (bs_la (bs_we w n d a)) (bM sl π M' G e) ∧ fr (S_u r q) M M' ∧ ∀ p, bs_we w n d a = some p → rSeq M' q (acc ++ p.1) := by
  subst hx0
  intro d
  induction d with
  | zero =>
    intro i a M acc hM hw hl h1 hi ha hi0
    rw [x_Ean_addWhole_0_eq, if_neg (by omega)]
    have e1 : wr (a + 2) = a + 2 := wr_id (by omega)
    rw [show (22 : Nat) = 22 + 0 from rfl, k_S1 (s := 0) (by decide) hM, show bs_sp 0 = 2 from rfl, e1, show (22 + 0 : Nat) = 22 from rfl, d_Ean_endsAt_2 _ _ _ _ k_22]
    obtain ⟨M1, g1, f1⟩ := bc_ends (s := 0) (sl := sl) (e := e) (π := π) (G := G) (by decide) hM hr hw hpw (a := a + 2) (by omega)
    rw [show 22 + 0 = 22 from rfl, d_Sym_endsAt_2 _ _ _ _ k_22] at g1
    rw [g1]
    obtain ⟨hM1, w1, l1⟩ := keep_1 hr hq f1 hM hw hl
    simp only [ci_r, bi_eq0]
    rw [show (22 : Nat) = 22 + 0 from rfl, k_S1 (s := 0) (by decide) hM1, show bs_sp 0 = 2 from rfl, e1]
    unfold bs_we
    cases he : bs_en 0 w n (a + 2) with
    | false => exact ⟨M1, rfl, fr_mono (fun b j z => Or.inl z) f1, fun p h => by cases h⟩
    | true =>
      refine ⟨M1, rfl, fr_mono (fun b j z => Or.inl z) f1, fun p h => ?_⟩
      cases h
      simpa using l1
  | succ d ih =>
    intro i a M acc hM hw hl h1 hi ha hi0
    rw [x_Ean_addWhole_0_eq, if_pos (by omega)]
    have key : ∀ (a' : Int) (hd : a' = if d = 3 then a + 5 else a), ∃ M', (bz_ci (d_Ean_addUnit 22 r a' q (bM sl π M G e)) fun v7 μ6 => if v7 = 0 then rI (-1) μ6 else bz_fS μ6 22 2 fun v8 => x_Ean_addWhole_0 22 r q (wr (a' + v8)) (wr (i + 1)) μ6) = rI (bs_la (match bs_un 0 w n a' with
        | none => none
        | some l => match bs_we w n d (a' + 4) with
          | none => none
          | some p => some (l ++ p.1, p.2))) (bM sl π M' G e) ∧ fr (S_u r q) M M' ∧ ∀ p, (match bs_un 0 w n a' with
        | none => none
        | some l => match bs_we w n d (a' + 4) with
          | none => none
          | some p => some (l ++ p.1, p.2)) = some p → rSeq M' q (acc ++ p.1) := by
      intro a' hd
      have ha' : a ≤ a' ∧ a' ≤ a + 5 := by split at hd <;> omega
      have hul := (bs_un_len (s := 0) (w := w) (n := n) (a := a')).2 (by decide)
      obtain ⟨M1, g1, f1, l1⟩ := bc_unit (s := 0) (sl := sl) (e := e) (π := π) (G := G) (by decide) hM hr hw hpw hq hl (a := a') (by omega) (by rw [if_neg (by decide)]; omega)
      rw [show 22 + 0 = 22 from rfl, d_Sym_addUnit_2 _ _ _ _ _ k_22] at g1
      rw [d_Ean_addUnit_2 _ _ _ _ _ k_22, g1]
      simp only [ci_r, bi_eq0]
      obtain ⟨hM1, w1⟩ := keep_u hr hq f1 hM hw
      cases hu : bs_un 0 w n a' with
      | none => exact ⟨M1, rfl, f1, fun p h => by cases h⟩
      | some ls =>
        rw [hu] at l1 hul
        have l1 : rSeq M1 q (acc ++ ls) := l1
        have hul : ls.length ≤ 1 := hul
        have e1 : wr (a' + 4) = a' + 4 := wr_id (by omega)
        have e3 : wr (i + 1) = i + 1 := wr_id (by omega)
        rw [if_neg (by simp), show (22 : Nat) = 22 + 0 from rfl, k_S2 (s := 0) (by decide) hM1, show bs_us 0 = 4 from rfl, show (22 + 0 : Nat) = 22 from rfl, e1, e3]
        obtain ⟨M3, g3, f3, l3⟩ := ih (i + 1) (a' + 4) M1 (acc ++ ls) hM1 w1 l1 (by rw [List.length_append]; omega) (by omega) (by omega) (by omega)
        rw [g3]
        dsimp only
        cases hz : bs_we w n d (a' + 4) with
        | none => exact ⟨M3, rfl, fr_trans f1 f3, fun p h => by cases h⟩
        | some p =>
          refine ⟨M3, rfl, fr_trans f1 f3, fun p' h => ?_⟩
          cases h
          have := l3 p hz
          rw [List.append_assoc] at this
          exact this
    rw [bs_we]
    by_cases h4 : i = 4
    · have h3 : d = 3 := by omega
      rw [if_pos h4, bc_ev5 hr hw hpw (by omega)]
      simp only [ci_r, bi_eq0]
      cases hev : bs_even w n a 5 with
      | false =>
        rw [if_pos rfl, if_pos ⟨h3, rfl⟩]
        exact ⟨M, rfl, fr_refl, fun p h => by cases h⟩
      | true =>
        rw [if_neg (by decide), if_neg (by simp), if_pos h3, wr_id (x := a + 5) (by omega)]
        exact key (a + 5) (by rw [if_pos h3])
    · have h3 : d ≠ 3 := by omega
      rw [if_neg h4, if_neg (fun z => h3 z.1), if_neg h3]
      exact key a (by rw [if_neg h3])
theorem bc_addWhole {M : Nat → Int → Int} {b : Int} (hs : s < 3) (hM : mCon M) (hr : aRow r) (hw : rRow M r n w) (hpw : wOK n w) (hq : aSeq q) (hb : 0 ≤ b ∧ b ≤ 200) :
    ∃ M', d_Sym_addWhole (22 + s) r b q (bM sl π M G e) = rI (bs_la (bs_wh s w n b)) (bM sl π M' G e) ∧ fr (S_u r q) M M' ∧ ∀ p, bs_wh s w n b = some p → rSeq M' q p.1 := by
  have hk := k_bd s
  have f0 : fr (S_u r q) M (up M q 2 0) := fr_q0
  obtain ⟨hM0, w0⟩ := keep_u hr hq f0 hM hw
  have gen : s ≠ 0 → ∃ M', x_Sym_addWhole (22 + s) r b q (bM sl π M G e) = rI (bs_la (bs_wh s w n b)) (bM sl π M' G e) ∧ fr (S_u r q) M M' ∧ ∀ p, bs_wh s w n b = some p → rSeq M' q p.1 := by
    intro h0
    rw [x_Sym_addWhole_eq, seq_p hq]
    obtain ⟨M1, g1, f1, l1⟩ := bc_guard (sl := sl) (e := e) (π := π) (G := G) hs hM0 hr w0 hpw hq rSeq_0 (a := b) (by omega) (by decide)
    obtain ⟨hM1, w1⟩ := keep_u hr hq f1 hM0 w0
    rw [g1]
    simp only [cu_r]
    rw [k_S0 hs hM1, wr_id (by omega)]
    have hgl := bs_gu_len (s := s) (w := w) (n := n) (a := b)
    obtain ⟨M2, g2, f2, l2⟩ := bc_wu (sl := sl) (e := e) (π := π) (G := G) hs hr hpw hq (bs_mu s) 0 (b + bs_st s) M1 ([] ++ bs_gu s w n b) hM1 w1 l1 (by rw [List.nil_append]; omega) (by rw [List.nil_append]; omega) (by omega) (by omega) (by omega)
    rw [g2]
    unfold bs_wh
    rw [if_neg h0]
    cases hz : bs_wu s w n (bs_mu s) (b + bs_st s) with
    | none => exact ⟨M2, rfl, fr_trans f0 (fr_trans f1 f2), fun p h => by cases h⟩
    | some p =>
      refine ⟨M2, rfl, fr_trans f0 (fr_trans f1 f2), fun p' h => ?_⟩
      cases h
      exact l2 p hz
  match s, hs with
  | 0, _ =>
    rw [show 22 + 0 = 22 from rfl, d_Sym_addWhole_2 _ _ _ _ _ k_22, x_Ean_addWhole_eq, seq_p hq, show (22 : Nat) = 22 + 0 from rfl, k_S0 (s := 0) (by decide) hM0, wr_id (by omega), show (22 + 0 : Nat) = 22 from rfl, show bs_st 0 = 3 from rfl]
    obtain ⟨M2, g2, f2, l2⟩ := bc_we (sl := sl) (e := e) (π := π) (G := G) rfl hr hpw hq 8 0 (b + 3) (up M q 2 0) [] hM0 w0 rSeq_0 (by decide) (by decide) (by omega) (by omega)
    rw [g2]
    exact ⟨M2, rfl, fr_trans f0 f2, fun p h => l2 p h⟩
  | 1, _ =>
    rw [show 22 + 1 = 23 from rfl, d_Sym_addWhole_3 _ _ _ _ _ k_23]
    exact gen (by decide)
  | 2, _ =>
    rw [show 22 + 2 = 24 from rfl, d_Sym_addWhole_1 _ _ _ _ _ k_24]
    exact gen (by decide)
end
