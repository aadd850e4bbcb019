/-! THE MODEL'S WHOLE CODES -/
def bs_dg (w : Int → Int) (n : Int) : Nat → Int → Option (List Ch)
  | 0, _ => some []
  | d + 1, a => match bs_un 0 w n a with
    | none => none
    | some l => match bs_dg w n d (a + 4) with
      | none => none
      | some l' => some (l ++ l')
theorem bs_we3 {w : Int → Int} {n : Int} : ∀ (d : Nat) (a : Int), d ≤ 3 → bs_we w n d a = match bs_dg w n d a with
    | none => none
    | some l => if bs_en 0 w n (a + 4 * d + 2) then some (l, a + 4 * d + 2) else none := by
  intro d
  induction d with
  | zero =>
    intro a _
    rw [bs_we, bs_dg, show a + 4 * ((0 : Nat) : Int) + 2 = a + 2 by omega]
  | succ d ih =>
    intro a hd
    rw [bs_we, bs_dg, if_neg (fun z => by have := z.1; omega), if_neg (by omega), ih (a + 4) (by omega)]
    rw [show a + 4 + 4 * (d : Int) + 2 = a + 4 * ((d + 1 : Nat) : Int) + 2 by omega]
    cases bs_un 0 w n a with
    | none => rfl
    | some l =>
      dsimp only
      cases bs_dg w n d (a + 4) with
      | none => rfl
      | some l' =>
        dsimp only
        cases bs_en 0 w n (a + 4 * ((d + 1 : Nat) : Int) + 2) <;> rfl
theorem bs_weU {w : Int → Int} {n : Int} : ∀ (j : Nat) (a : Int), bs_we w n (4 + j) a = match bs_dg w n j a with
    | none => none
    | some l => match bs_we w n 4 (a + 4 * j) with
      | none => none
      | some p => some (l ++ p.1, p.2) := by
  intro j
  induction j with
  | zero =>
    intro a
    rw [bs_dg, show a + 4 * ((0 : Nat) : Int) = a by omega]
    dsimp only
    cases bs_we w n 4 a with
    | none => rfl
    | some p => rfl
  | succ j ih =>
    intro a
    rw [show 4 + (j + 1) = 4 + j + 1 by omega, bs_we, bs_dg, if_neg (fun z => by have := z.1; omega), if_neg (by omega), ih (a + 4)]
    rw [show a + 4 + 4 * (j : Int) = a + 4 * ((j + 1 : Nat) : Int) by omega]
    cases bs_un 0 w n a with
    | none => rfl
    | some l =>
      dsimp only
      cases bs_dg w n j (a + 4) with
      | none => rfl
      | some l' =>
        dsimp only
        cases bs_we w n 4 (a + 4 * ((j + 1 : Nat) : Int)) with
        | none => rfl
        | some p => simp
theorem bs_we8 {w : Int → Int} {n a : Int} : bs_we w n 8 a = match bs_dg w n 4 a with
    | none => none
    | some l => if bs_even w n (a + 16) 5 = false then none else match bs_dg w n 4 (a + 21) with
      | none => none
      | some l' => if bs_en 0 w n (a + 39) then some (l ++ l', a + 39) else none := by
  rw [show (8 : Nat) = 4 + 4 from rfl, bs_weU 4 a]
  cases bs_dg w n 4 a with
  | none => rfl
  | some l =>
    dsimp only
    rw [show a + 4 * ((4 : Nat) : Int) = a + 16 by omega, bs_we, show bs_dg w n 4 (a + 21) = match bs_un 0 w n (a + 21) with
    | none => none
    | some l => match bs_dg w n 3 (a + 21 + 4) with
      | none => none
      | some l' => some (l ++ l') from rfl]
    cases hev : bs_even w n (a + 16) 5 with
    | false => rw [if_pos ⟨rfl, rfl⟩, if_pos rfl]
    | true =>
      rw [if_neg (fun z => by cases z.2), if_pos (rfl : 3 = 3), if_neg (show ¬ (true = false) by decide), show a + 16 + 5 = a + 21 by omega]
      cases bs_un 0 w n (a + 21) with
      | none => rfl
      | some l' =>
        dsimp only
        rw [bs_we3 3 _ (by decide), show a + 21 + 4 + 4 * ((3 : Nat) : Int) + 2 = a + 39 by omega]
        cases bs_dg w n 3 (a + 21 + 4) with
        | none => rfl
        | some l'' =>
          dsimp only
          cases bs_en 0 w n (a + 39) with
          | false => rfl
          | true => simp
section
variable {sl e : Nat} {π : Int → Nat} {G : Nat → Int → Int} {n a : Int} {w : Int → Int}
theorem bw_digits_0 (hpw : wOK n w) (ha : -1000 ≤ a ∧ a ≤ 1000) : ∀ (d k : Nat) (M : Nat → Int → Int) (acc : List Ch), k + d = 4 → mMod M → mRow M n w → mSeq M acc → acc.length + d ≤ 16 →
    ∃ M', x_M_readsDigits_0 867 a k (bM sl π M G e) = rI (bi (bs_dg w n d (a + 4 * k)).isSome) (bM sl π M' G e) ∧ fr S_m M M' ∧ ∀ l, bs_dg w n d (a + 4 * k) = some l → mSeq M' (acc ++ l) := by
  intro d
  induction d with
  | zero =>
    intro k M acc hk hM hw hl hlen
    rw [x_M_readsDigits_0_eq, if_neg (by omega)]
    exact ⟨M, rfl, fr_refl, fun l h => by cases h; simpa using hl⟩
  | succ d ih =>
    intro k M acc hk hM hw hl hlen
    have e1 : wr (a + wr (4 * (k : Int))) = a + 4 * k := by rw [wr_id (x := 4 * (k : Int)) (by omega), wr_id (by omega)]
    have e2 : wr ((k : Int) + 1) = ((k + 1 : Nat) : Int) := by rw [wr_id (by omega)]; omega
    have hul := (bs_un_len (s := 0) (w := w) (n := n) (a := a + 4 * k)).2 (by decide)
    rw [show bs_un 0 w n (a + 4 * k) = bs_unE w n (a + 4 * k) from rfl] at hul
    obtain ⟨M1, g1, f1, l1⟩ := bw_digit (sl := sl) (e := e) (π := π) (G := G) hM hw hpw hl (a := a + 4 * k) (by omega) (by omega)
    rw [x_M_readsDigits_0_eq, if_pos (by omega), e1, e2, g1]
    simp only [ci_r, bi_eq0]
    rw [bs_dg, show bs_un 0 w n (a + 4 * k) = bs_unE w n (a + 4 * k) from rfl]
    cases hu : bs_unE w n (a + 4 * k) with
    | none =>
      rw [if_pos (show (none : Option (List Ch)).isSome = false from rfl)]
      exact ⟨M1, rfl, f1, fun l h => by cases h⟩
    | some ls =>
      rw [hu] at l1 hul
      have l1 : mSeq M1 (acc ++ ls) := l1
      have hul : ls.length ≤ 1 := hul
      obtain ⟨hM1, w1⟩ := keep_m f1 hM hw
      rw [if_neg (by simp)]
      obtain ⟨M3, g3, f3, l3⟩ := ih (k + 1) M1 (acc ++ ls) (by omega) hM1 w1 l1 (by rw [List.length_append]; omega)
      rw [g3]
      rw [show a + 4 * ((k + 1 : Nat) : Int) = a + 4 * k + 4 by omega] at l3 ⊢
      dsimp only
      cases hz : bs_dg w n d (a + 4 * k + 4) with
      | none => exact ⟨M3, rfl, fr_trans f1 f3, fun l h => by cases h⟩
      | some l' =>
        refine ⟨M3, rfl, fr_trans f1 f3, fun l h => ?_⟩
        cases h
        have := l3 l' hz
        rw [List.append_assoc] at this
        exact this
theorem bw_digits (hpw : wOK n w) (ha : -1000 ≤ a ∧ a ≤ 1000) {M : Nat → Int → Int} {acc : List Ch} (hM : mMod M) (hw : mRow M n w) (hl : mSeq M acc) (hlen : acc.length + 4 ≤ 16) :
    ∃ M', d_M_readsDigits 867 a (bM sl π M G e) = rI (bi (bs_dg w n 4 a).isSome) (bM sl π M' G e) ∧ fr S_m M M' ∧ ∀ l, bs_dg w n 4 a = some l → mSeq M' (acc ++ l) := by
  obtain ⟨M', g, f, l'⟩ := bw_digits_0 (sl := sl) (e := e) (π := π) (G := G) hpw ha 4 0 M acc (by decide) hM hw hl hlen
  rw [show a + 4 * ((0 : Nat) : Int) = a by omega] at g l'
  rw [d_M_readsDigits_10 _ _ _ mo_d, x_M_readsDigits_eq]
  exact ⟨M', g, f, l'⟩
theorem bs_dg_len {w : Int → Int} {n : Int} : ∀ (d : Nat) (a : Int) (l : List Ch), bs_dg w n d a = some l → l.length ≤ d := by
  intro d
  induction d with
  | zero => intro a l h; cases h; exact Nat.le_refl _
  | succ d ih =>
    intro a l h
    rw [bs_dg] at h
    have hul := (bs_un_len (s := 0) (w := w) (n := n) (a := a)).2 (by decide)
    cases hu : bs_un 0 w n a with
    | none => rw [hu] at h; cases h
    | some ls =>
      rw [hu] at h hul
      have hul : ls.length ≤ 1 := hul
      dsimp only at h
      cases hz : bs_dg w n d (a + 4) with
      | none => rw [hz] at h; cases h
      | some l' =>
        rw [hz] at h
        cases h
        have := ih _ _ hz
        rw [List.length_append]
        omega
theorem bw_wholeE (hpw : wOK n w) (ha : 0 ≤ a ∧ a ≤ 200) {M : Nat → Int → Int} (hM : mMod M) (hw : mRow M n w) (hl : mSeq M []) :
    ∃ M', d_M_isWholeEan 867 a (bM sl π M G e) = rI (bi (bs_we w n 8 (a + 3)).isSome) (bM sl π M' G e) ∧ fr S_m M M' ∧ ∀ p, bs_we w n 8 (a + 3) = some p → mSeq M' p.1 := by
  have e1 : wr (a + 3) = a + 3 := wr_id (by omega)
  have e2 : wr (a + 19) = a + 19 := wr_id (by omega)
  have e3 : wr (a + 24) = a + 24 := wr_id (by omega)
  have e4 : wr (a + 42) = a + 42 := wr_id (by omega)
  rw [d_M_isWholeEan_10 _ _ _ mo_d, x_M_isWholeEan_eq, bw_exists hw.2.1 (by omega), e1, e2, e3, e4]
  simp only [ci_r, bi_eq0]
  by_cases q1 : 0 ≤ a ∧ a + 44 ≤ n
  · rw [if_neg (by rw [decide_eq_true q1]; decide)]
    obtain ⟨M1, g1, f1, l1⟩ := bw_digits (sl := sl) (e := e) (π := π) (G := G) hpw (a := a + 3) (by omega) hM hw hl (by decide)
    obtain ⟨hM1, w1⟩ := keep_m f1 hM hw
    rw [g1, bs_we8, show a + 3 + 16 = a + 19 by omega, show a + 3 + 21 = a + 24 by omega, show a + 3 + 39 = a + 42 by omega]
    simp only [ci_r, bi_eq0]
    cases h1 : bs_dg w n 4 (a + 3) with
    | none =>
      rw [if_pos (show (none : Option (List Ch)).isSome = false from rfl)]
      exact ⟨M1, rfl, f1, fun p h => by cases h⟩
    | some ls =>
      have hl1 := l1 ls h1
      have hn1 := bs_dg_len _ _ _ h1
      rw [if_neg (by simp)]
      have g2 := bw_areEven (sl := sl) (e := e) (π := π) (G := G) w1 hpw (c := 5) (a := a + 19) (by decide) (by omega)
      have g2' : d_M_areEven 867 (a + 19) 5 (bM sl π M1 G e) = _ := g2
      rw [g2']
      simp only [ci_r, bi_eq0]
      cases hev : bs_even w n (a + 19) 5 with
      | false =>
        rw [if_pos rfl, if_pos rfl]
        exact ⟨M1, rfl, f1, fun p h => by cases h⟩
      | true =>
        rw [if_neg (by decide), if_neg (by decide)]
        obtain ⟨M2, g3, f2, l2⟩ := bw_digits (sl := sl) (e := e) (π := π) (G := G) hpw (a := a + 24) (by omega) hM1 w1 hl1 (by rw [List.nil_append]; omega)
        obtain ⟨hM2, w2⟩ := keep_m f2 hM1 w1
        rw [g3]
        simp only [ci_r, bi_eq0]
        cases h2 : bs_dg w n 4 (a + 24) with
        | none =>
          rw [if_pos (show (none : Option (List Ch)).isSome = false from rfl)]
          exact ⟨M2, rfl, fr_trans f1 f2, fun p h => by cases h⟩
        | some ls' =>
          have hl2 := l2 ls' h2
          rw [if_neg (by simp)]
          obtain ⟨M3, g4, f3⟩ := bw_end (sl := sl) (e := e) (π := π) (G := G) (s := 0) (by decide) hM2 w2 hpw (a := a + 42) (by omega)
          obtain ⟨hM3, w3, l3⟩ := keep_w f3 hM2 w2 hl2
          have g4' : d_M_isEnd 867 0 (a + 42) (bM sl π M2 G e) = _ := g4
          rw [g4']
          simp only [ci_r, bi_eq0]
          cases hen : bs_en 0 w n (a + 42) with
          | false => exact ⟨M3, rfl, fr_trans f1 (fr_trans f2 (w2m f3)), fun p h => by cases h⟩
          | true =>
            refine ⟨M3, rfl, fr_trans f1 (fr_trans f2 (w2m f3)), fun p h => ?_⟩
            cases h
            exact l3
  · rw [if_pos (decide_eq_false q1)]
    have : bs_we w n 8 (a + 3) = none := by
      cases h : bs_we w n 8 (a + 3) with
      | none => rfl
      | some p =>
        obtain ⟨i1, -, -, i4⟩ := bs_we_ok hpw 8 (a + 3) p (by decide) h
        have := (bs_en_in (by decide) i1).1
        rw [i4, if_pos (by decide)] at this
        omega
    rw [this]
    exact ⟨M, rfl, fr_refl, fun p h => by cases h⟩
theorem bw_wholeP (hpw : wOK n w) (ha : 0 ≤ a ∧ a ≤ 200) : ∀ (d k : Nat) (M : Nat → Int → Int) (acc : List Ch), k + d = 7 → mMod M → mRow M n w → mSeq M acc → acc.length + 2 * d ≤ 14 →
    ∃ M', x_M_isWholePairs_0 867 a k (bM sl π M G e) = rI (bi (bs_wu 1 w n d (a + 4 + 10 * k)).isSome) (bM sl π M' G e) ∧ fr S_m M M' ∧ ∀ p, bs_wu 1 w n d (a + 4 + 10 * k) = some p → mSeq M' (acc ++ p.1) := by
  intro d
  induction d with
  | zero =>
    intro k M acc hk hM hw hl hlen
    rw [x_M_isWholePairs_0_eq, if_neg (by omega)]
    exact ⟨M, rfl, fr_refl, fun p h => by cases h⟩
  | succ d ih =>
    intro k M acc hk hM hw hl hlen
    have e1 : wr (wr (a + 4) + wr (10 * (k : Int))) = a + 4 + 10 * k := by rw [wr_id (x := a + 4) (by omega), wr_id (x := 10 * (k : Int)) (by omega), wr_id (by omega)]
    have e3 : wr (wr (a + 16) + wr (10 * (k : Int))) = a + 4 + 10 * k + 10 + 2 := by rw [wr_id (x := a + 16) (by omega), wr_id (x := 10 * (k : Int)) (by omega), wr_id (by omega)]; omega
    have e2 : wr ((k : Int) + 1) = ((k + 1 : Nat) : Int) := by rw [wr_id (by omega)]; omega
    have hul := (bs_un_len (s := 1) (w := w) (n := n) (a := a + 4 + 10 * k)).1 rfl
    rw [show bs_un 1 w n (a + 4 + 10 * k) = bs_unI w n (a + 4 + 10 * k) from rfl] at hul
    obtain ⟨M1, g1, f1, l1⟩ := bw_pair (sl := sl) (e := e) (π := π) (G := G) hM hw hpw hl (a := a + 4 + 10 * k) (by omega) (by omega)
    rw [x_M_isWholePairs_0_eq, if_pos (by omega), e1, e2, e3, g1]
    simp only [ci_r, bi_eq0]
    rw [bs_wu, show bs_us 1 = 10 from rfl, show bs_sp 1 = 2 from rfl, show bs_un 1 w n (a + 4 + 10 * k) = bs_unI w n (a + 4 + 10 * k) from rfl]
    cases hu : bs_unI w n (a + 4 + 10 * k) with
    | none =>
      rw [if_pos (show (none : Option (List Ch)).isSome = false from rfl)]
      exact ⟨M1, rfl, f1, fun p h => by cases h⟩
    | some ls =>
      rw [hu] at l1 hul
      have l1 : mSeq M1 (acc ++ ls) := l1
      have hul : ls.length ≤ 2 := hul
      obtain ⟨hM1, w1⟩ := keep_m f1 hM hw
      rw [if_neg (by simp)]
      obtain ⟨M2, g2, f2⟩ := bw_end (sl := sl) (e := e) (π := π) (G := G) (s := 1) (by decide) hM1 w1 hpw (a := a + 4 + 10 * k + 10 + 2) (by omega)
      obtain ⟨hM2, w2, l2⟩ := keep_w f2 hM1 w1 l1
      have g2' : d_M_isEnd 867 1 (a + 4 + 10 * k + 10 + 2) (bM sl π M1 G e) = _ := g2
      rw [g2']
      simp only [ci_r, bi_eq0]
      cases hen : bs_en 1 w n (a + 4 + 10 * k + 10 + 2) with
      | true =>
        rw [if_neg (by decide), if_pos rfl]
        refine ⟨M2, rfl, fr_trans f1 (w2m f2), fun p h => ?_⟩
        cases h
        rw [show bs_gu 1 w n (a + 4 + 10 * k + 10) = [] from rfl, List.append_nil]
        exact l2
      | false =>
        rw [if_pos rfl, if_neg (by decide)]
        obtain ⟨M3, g3, f3, l3⟩ := ih (k + 1) M2 (acc ++ ls) (by omega) hM2 w2 l2 (by rw [List.length_append]; omega)
        rw [g3]
        rw [show a + 4 + 10 * ((k + 1 : Nat) : Int) = a + 4 + 10 * k + 10 by omega] at l3 ⊢
        cases hz : bs_wu 1 w n d (a + 4 + 10 * k + 10) with
        | none => exact ⟨M3, rfl, fr_trans f1 (fr_trans (w2m f2) f3), fun p h => by cases h⟩
        | some p' =>
          refine ⟨M3, rfl, fr_trans f1 (fr_trans (w2m f2) f3), fun p h => ?_⟩
          cases h
          have := l3 p' hz
          rw [List.append_assoc] at this
          exact this
/-- Codabar, the greedy way -/
def bs_gr (w : Int → Int) (n : Int) : Nat → Bool → Int → Option (List Ch × Int)
  | 0, b, a => if b && bs_en 2 w n (a + 6) then some (bs_gu 2 w n a, a + 6) else none
  | d + 1, b, a => match bs_unC w n a with
    | some l => match bs_gr w n d true (a + 8) with
      | none => none
      | some p => some (l ++ p.1, p.2)
    | none => if b && bs_en 2 w n (a + 6) then some (bs_gu 2 w n a, a + 6) else none
theorem bs_en_unC {w : Int → Int} {n a : Int} {l : List Ch} (h : bs_unC w n a = some l) : bs_en 2 w n (a + 6) = false := by
  cases he : bs_en 2 w n (a + 6) with
  | false => rfl
  | true =>
    have := (bs_en_in (by decide) he).2 rfl
    rw [show a + 6 - 6 = a by omega] at this
    unfold bs_unC at h
    split at h
    · cases h
    · rw [if_neg (by omega)] at h; cases h
theorem bs_gr_wu {w : Int → Int} {n : Int} : ∀ (d : Nat) (a : Int), bs_gr w n d true a = (if bs_en 2 w n (a + 6) then some (bs_gu 2 w n a, a + 6) else bs_wu 2 w n d a) ∧ bs_gr w n d false a = bs_wu 2 w n d a := by
  intro d
  induction d with
  | zero => intro a; exact ⟨rfl, rfl⟩
  | succ d ih =>
    intro a
    have h8 := (ih (a + 8)).1
    have key : ∀ b, bs_gr w n (d + 1) b a = match bs_unC w n a with
      | some l => bs_wu 2 w n (d + 1) a
      | none => if b && bs_en 2 w n (a + 6) then some (bs_gu 2 w n a, a + 6) else none := by
      intro b
      rw [bs_gr]
      cases hu : bs_unC w n a with
      | none => rfl
      | some l =>
        dsimp only
        rw [h8, bs_wu, show bs_un 2 w n a = bs_unC w n a from rfl, hu, show bs_us 2 = 8 from rfl, show bs_sp 2 = 6 from rfl]
        dsimp only
        cases bs_en 2 w n (a + 8 + 6) with
        | true => rfl
        | false => rfl
    rw [key, key]
    cases hu : bs_unC w n a with
    | some l =>
      dsimp only
      rw [bs_en_unC hu]
      exact ⟨rfl, rfl⟩
    | none =>
      dsimp only
      have : bs_wu 2 w n (d + 1) a = none := by rw [bs_wu, show bs_un 2 w n a = bs_unC w n a from rfl, hu]
      rw [this]
      exact ⟨rfl, rfl⟩
theorem bw_wholeC (hpw : wOK n w) : ∀ (d : Nat) (b : Bool) (a : Int) (M : Nat → Int → Int) (acc : List Ch), 0 ≤ a ∧ a + 8 * d ≤ 1000 → acc.length + d = 15 → mMod M → mRow M n w → mSeq M acc → 1 ≤ acc.length → (b = true ↔ 1 < acc.length) →
    ∃ M', x_M_isWholeCodabar_0 867 a (bM sl π M G e) = rI (bi (bs_gr w n d b a).isSome) (bM sl π M' G e) ∧ fr S_m M M' ∧ ∀ p, bs_gr w n d b a = some p → mSeq M' (acc ++ p.1) := by
  have stop : ∀ (b : Bool) (a : Int) (M : Nat → Int → Int) (acc : List Ch), 0 ≤ a ∧ a ≤ 1000 → acc.length ≤ 15 → mMod M → mRow M n w → mSeq M acc → (b = true ↔ 1 < acc.length) →
      ∃ M', (bz_fI (bM sl π M G e) 867 10 19 fun v9 => if (1 : Int) < v9 then bz_ci (d_M_readsSeven 867 a 1 (bM sl π M G e)) fun v11 μ10 => if v11 = 0 then rI 0 μ10 else bz_ci (d_M_isEnd 867 2 (wr (a + 6)) μ10) fun v13 μ12 => if v13 = 0 then rI 0 μ12 else rI 1 μ12 else rI 0 (bM sl π M G e)) = rI (bi (if b && bs_en 2 w n (a + 6) then some (bs_gu 2 w n a, a + 6) else none : Option (List Ch × Int)).isSome) (bM sl π M' G e) ∧ fr S_m M M' ∧ ∀ p, (if b && bs_en 2 w n (a + 6) then some (bs_gu 2 w n a, a + 6) else none) = some p → mSeq M' (acc ++ p.1) := by
    intro b a M acc ha hlen hM hw hl hb
    rw [mo_I, hl.1]
    cases b with
    | false =>
      have : ¬ 1 < acc.length := fun z => by have := hb.2 z; cases this
      rw [if_neg (by omega)]
      exact ⟨M, rfl, fr_refl, fun p h => by cases h⟩
    | true =>
      have : 1 < acc.length := hb.1 rfl
      rw [if_pos (by omega)]
      obtain ⟨M1, g1, f1, l1⟩ := bw_sevenL (sl := sl) (e := e) (π := π) (G := G) hM hw hpw hl (a := a) (by omega) (by omega)
      obtain ⟨hM1, w1⟩ := keep_m f1 hM hw
      rw [g1, wr_id (by omega)]
      simp only [ci_r, bi_eq0]
      by_cases hv : 16 ≤ bs_v7 w n a
      · rw [if_neg (by rw [decide_eq_true hv]; decide)]
        obtain ⟨M2, g2, f2⟩ := bw_end (sl := sl) (e := e) (π := π) (G := G) (s := 2) (by decide) hM1 w1 hpw (a := a + 6) (by omega)
        obtain ⟨hM2, w2, l2⟩ := keep_w f2 hM1 w1 l1
        have g2' : d_M_isEnd 867 2 (a + 6) (bM sl π M1 G e) = _ := g2
        rw [g2']
        simp only [ci_r, bi_eq0, Bool.true_and]
        cases hen : bs_en 2 w n (a + 6) with
        | false => exact ⟨M2, rfl, fr_trans f1 (w2m f2), fun p h => by cases h⟩
        | true =>
          refine ⟨M2, rfl, fr_trans f1 (w2m f2), fun p h => ?_⟩
          cases h
          exact l2
      · rw [if_pos (decide_eq_false hv)]
        have : bs_en 2 w n (a + 6) = false := by
          cases he : bs_en 2 w n (a + 6) with
          | false => rfl
          | true =>
            have := (bs_en_in (by decide) he).2 rfl
            rw [show a + 6 - 6 = a by omega] at this
            exact absurd this hv
        rw [this]
        exact ⟨M1, rfl, f1, fun p h => by cases h⟩
  intro d
  induction d with
  | zero =>
    intro b a M acc ha hlen hM hw hl h1 hb
    obtain ⟨M', g, f, l'⟩ := stop b a M acc (by omega) (by omega) hM hw hl hb
    rw [x_M_isWholeCodabar_0_eq, mo_I, hl.1, if_neg (by omega)]
    exact ⟨M', g, f, l'⟩
  | succ d ih =>
    intro b a M acc ha hlen hM hw hl h1 hb
    obtain ⟨M1, g1, f1, l1⟩ := bw_sevenC (sl := sl) (e := e) (π := π) (G := G) hM hw hpw hl (a := a) (by omega) (by omega)
    obtain ⟨hM1, w1⟩ := keep_m f1 hM hw
    have hul := (bs_un_len (s := 2) (w := w) (n := n) (a := a)).2 (by decide)
    rw [show bs_un 2 w n a = bs_unC w n a from rfl] at hul
    rw [x_M_isWholeCodabar_0_eq, mo_I, hl.1, if_pos (by omega), g1]
    simp only [ci_r, bi_eq0]
    rw [bs_gr]
    cases hu : bs_unC w n a with
    | none =>
      rw [if_pos (show (none : Option (List Ch)).isSome = false from rfl)]
      rw [hu] at l1
      have l1 : mSeq M1 (acc ++ []) := l1
      rw [List.append_nil] at l1
      obtain ⟨M', g, f, l'⟩ := stop b a M1 acc (by omega) (by omega) hM1 w1 l1 hb
      exact ⟨M', g, fr_trans f1 f, l'⟩
    | some ls =>
      rw [hu] at l1 hul
      have l1 : mSeq M1 (acc ++ ls) := l1
      have hul : ls.length ≤ 1 := hul
      have hul1 : ls.length = 1 := by
        unfold bs_unC at hu
        split at hu
        · cases hu
        · split at hu
          · cases hu; rfl
          · cases hu
      rw [if_neg (by simp), wr_id (by omega)]
      obtain ⟨M3, g3, f3, l3⟩ := ih true (a + 8) M1 (acc ++ ls) (by omega) (by rw [List.length_append]; omega) hM1 w1 l1 (by rw [List.length_append]; omega) (by rw [List.length_append]; exact ⟨fun _ => by omega, fun _ => rfl⟩)
      rw [g3]
      dsimp only
      cases hz : bs_gr w n d true (a + 8) with
      | none => exact ⟨M3, rfl, fr_trans f1 f3, fun p h => by cases h⟩
      | some p' =>
        refine ⟨M3, rfl, fr_trans f1 f3, fun p h => ?_⟩
        cases h
        have := l3 p' hz
        rw [List.append_assoc] at this
        exact this
set_option maxRecDepth 20000 in
theorem bw_wholeFrom {s : Nat} (hs : s < 3) (hpw : wOK n w) (ha : 1 ≤ a ∧ a ≤ 200) {M : Nat → Int → Int} (hM : mMod M) (hw : mRow M n w) :
    ∃ M', d_M_isWholeFrom 867 s a (bM sl π M G e) = rI (bi (if bs_be s w n a then bs_wh s w n a else none).isSome) (bM sl π M' G e) ∧ fr S_m M M' ∧ ∀ p, (if bs_be s w n a then bs_wh s w n a else none) = some p → mSeq M' p.1 := by
  obtain ⟨hM0, w0⟩ := keep_m (fr_m0 (v := 0)) hM hw
  obtain ⟨M1, g1, f1⟩ := bw_begin (sl := sl) (e := e) (π := π) (G := G) hs hM0 w0 hpw (a := a) (by omega)
  obtain ⟨hM1, w1, l1⟩ := keep_w f1 hM0 w0 mSeq_0
  have f01 : fr S_m M M1 := fr_trans fr_m0 (w2m f1)
  rw [d_M_isWholeFrom_10 _ _ _ _ mo_d, x_M_isWholeFrom_eq, mo_p, g1]
  simp only [ci_r, bi_eq0]
  have b01 : ∀ (B : Bool) (μ : bz_M), (if B = false then rI 0 μ else rI 1 μ) = rI (bi B) μ := fun B μ => by cases B <;> rfl
  cases hbe : bs_be s w n a with
  | false =>
    rw [if_pos rfl]
    exact ⟨M1, rfl, f01, fun p h => by cases h⟩
  | true =>
    rw [if_neg (by decide), if_pos rfl]
    match s, hs with
    | 0, _ =>
      rw [show ((0 : Nat) : Int) = 0 from rfl, if_pos rfl]
      obtain ⟨M2, g2, f2, l2⟩ := bw_wholeE (sl := sl) (e := e) (π := π) (G := G) hpw (a := a) (by omega) hM1 w1 l1
      rw [g2]
      simp only [ci_r, bi_eq0]
      rw [b01]
      exact ⟨M2, rfl, fr_trans f01 f2, l2⟩
    | 1, _ =>
      rw [show ((1 : Nat) : Int) = 1 from rfl, if_neg (by decide), if_pos rfl, d_M_isWholePairs_10 _ _ _ mo_d, x_M_isWholePairs_eq]
      obtain ⟨M2, g2, f2, l2⟩ := bw_wholeP (sl := sl) (e := e) (π := π) (G := G) hpw (a := a) (by omega) 7 0 M1 [] (by decide) hM1 w1 l1 (by decide)
      rw [show a + 4 + 10 * ((0 : Nat) : Int) = a + 4 by omega] at g2 l2
      have g2' : x_M_isWholePairs_0 867 a 0 (bM sl π M1 G e) = _ := g2
      rw [g2']
      simp only [ci_r, bi_eq0]
      rw [b01]
      have hx : bs_wh 1 w n a = bs_wu 1 w n 7 (a + 4) := by
        unfold bs_wh
        rw [if_neg (by decide), show bs_mu 1 = 7 from rfl, show bs_st 1 = 4 from rfl]
        cases bs_wu 1 w n 7 (a + 4) with
        | none => rfl
        | some p => rfl
      rw [hx]
      exact ⟨M2, rfl, fr_trans f01 f2, l2⟩
    | 2, _ =>
      rw [show ((2 : Nat) : Int) = 2 from rfl, if_neg (by decide), if_neg (by decide), d_M_isWholeCodabar_10 _ _ _ mo_d, x_M_isWholeCodabar_eq]
      obtain ⟨M2, g2, f2, l2⟩ := bw_sevenL (sl := sl) (e := e) (π := π) (G := G) hM1 w1 hpw l1 (a := a) (by omega) (by decide)
      obtain ⟨hM2, w2⟩ := keep_m f2 hM1 w1
      have hv := bs_be_v hbe
      have hgl : (bs_gu 2 w n a).length = 1 := by
        unfold bs_gu
        rw [if_pos rfl, if_neg (by omega)]; rfl
      rw [g2, wr_id (by omega)]
      simp only [ci_r, bi_eq0]
      rw [if_neg (by rw [decide_eq_true hv]; decide)]
      obtain ⟨M3, g3, f3, l3⟩ := bw_wholeC (sl := sl) (e := e) (π := π) (G := G) hpw 14 false (a + 8) M2 ([] ++ bs_gu 2 w n a) (by omega) (by rw [List.nil_append, hgl]) hM2 w2 l2 (by rw [List.nil_append, hgl]; decide) (by rw [List.nil_append, hgl]; exact ⟨fun z => (by cases z), fun z => absurd z (by decide)⟩)
      rw [(bs_gr_wu 14 (a + 8)).2] at g3 l3
      rw [g3]
      simp only [ci_r, bi_eq0]
      rw [b01]
      unfold bs_wh
      rw [if_neg (by decide), show bs_mu 2 = 14 from rfl, show bs_st 2 = 8 from rfl]
      cases hz : bs_wu 2 w n 14 (a + 8) with
      | none => exact ⟨M3, rfl, fr_trans f01 (fr_trans f2 f3), fun p h => by cases h⟩
      | some p' =>
        refine ⟨M3, rfl, fr_trans f01 (fr_trans f2 f3), fun p h => ?_⟩
        cases h
        exact l3 p' hz
end
