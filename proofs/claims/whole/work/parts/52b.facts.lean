/-! WHAT IS READ: characters in range, ends inside, lengths -/
def okC (s : Nat) (c : Ch) : Prop := (0 ≤ c.1 ∧ c.1 < (if s = 2 then 20 else 10)) ∧ 0 ≤ c.2 ∧ c.2 ≤ 100
theorem rd_ok {w : Int → Int} {n a s : Int} {c : Nat} {P : Nat → Int} {len : Nat} (hpw : wOK n w) (hs : s = 1 ∨ s = 2) (hc : 0 < c) (h : bs_rd w n a s c P len ≠ -1) : (0 ≤ bs_rd w n a s c P len ∧ bs_rd w n a s c P len < len) ∧ 0 ≤ bs_cf (bs_u w a s) c ∧ bs_cf (bs_u w a s) c ≤ 100 := by
  have h1 := bs_rd_bd (w := w) (n := n) (a := a) (s := s) (c := c) (P := P) (len := len)
  refine ⟨by omega, ?_⟩
  have h2 : 0 ≤ a ∧ a + s * (c - 1) < n := by
    unfold bs_rd at h
    by_cases q : 0 ≤ a ∧ a + s * (c - 1) < n
    · exact q
    · rw [if_neg q] at h; exact absurd rfl h
  refine bs_cf_bd hc fun k hk => hpw _ ?_
  rcases hs with rfl | rfl <;> omega
theorem bs_un_ok {s : Nat} (hs : s < 3) {w : Int → Int} {n a : Int} {l : List Ch} (hpw : wOK n w) (h : bs_un s w n a = some l) : (∀ c ∈ l, okC s c) ∧ (s = 1 → l.length = 2) ∧ (s ≠ 1 → l.length = 1) := by
  match s, hs with
  | 0, _ =>
    have h : bs_unE w n a = some l := h
    unfold bs_unE at h
    split at h
    · rename_i hr
      have p0 := hpw a (by omega)
      have p1 := hpw (a + 1) (by omega)
      have p2 := hpw (a + 2) (by omega)
      have p3 := hpw (a + 3) (by omega)
      dsimp only at h
      generalize w a = A at *
      generalize w (a + 1) = B at *
      generalize w (a + 2) = C at *
      generalize w (a + 3) = D at *
      have m1 := bs_ms_bd (x := A + B) (s := A + B + C + D) (by omega) (by omega)
      have m2 := bs_ms_bd (x := B + C) (s := A + B + C + D) (by omega) (by omega)
      have m3 : 0 ≤ bs_mx (bs_ms (A + B) (A + B + C + D)) (bs_ms (B + C) (A + B + C + D)) ∧ 2 * bs_mx (bs_ms (A + B) (A + B + C + D)) (bs_ms (B + C) (A + B + C + D)) ≤ A + B + C + D := by
        unfold bs_mx; split <;> omega
      have m4 := bs_cE_bd (s := A + B + C + D) (by omega) m3
      have hb := bs_dig_bd (k := 10 * bs_e (A + B) (A + B + C + D) + bs_e (B + C) (A + B + C + D)) (b := decide (3 * (A + B + C + D) ≤ 7 * (A + C)))
      generalize bs_dig (10 * bs_e (A + B) (A + B + C + D) + bs_e (B + C) (A + B + C + D)) (decide (3 * (A + B + C + D) ≤ 7 * (A + C))) = g at h hb
      split at h
      · cases h
      · cases h
        refine ⟨fun c hc => ?_, fun h => by omega, fun _ => rfl⟩
        rw [List.mem_singleton] at hc
        subst hc
        refine ⟨⟨?_, ?_⟩, ?_, ?_⟩
        · dsimp only; omega
        · rw [if_neg (by decide)]; dsimp only; omega
        · dsimp only; omega
        · dsimp only; omega
    · cases h
  | 1, _ =>
    have h : bs_unI w n a = some l := h
    unfold bs_unI at h
    split at h
    · cases h
    · rename_i h1
      split at h
      · cases h
      · rename_i h2
        have k1 := rd_ok hpw (Or.inr rfl) (by decide) h1
        have k2 := rd_ok hpw (Or.inr rfl) (by decide) h2
        cases h
        refine ⟨fun c hc => ?_, fun _ => rfl, fun h => absurd rfl h⟩
        rw [List.mem_cons, List.mem_singleton] at hc
        rcases hc with rfl | rfl
        · refine ⟨⟨k1.1.1, ?_⟩, k1.2⟩
          rw [if_neg (by decide)]; exact k1.1.2
        · refine ⟨⟨k2.1.1, ?_⟩, k2.2⟩
          rw [if_neg (by decide)]; exact k2.1.2
  | 2, _ =>
    have h : bs_unC w n a = some l := h
    unfold bs_unC at h
    split at h
    · cases h
    · rename_i h1
      split at h
      · have k1 := rd_ok (w := w) (n := n) (a := a) (c := 7) (P := bs_P7) (len := 20) hpw (Or.inl rfl) (by decide) (by show bs_v7 w n a ≠ -1; omega)
        cases h
        refine ⟨fun c hc => ?_, fun h => by omega, fun _ => rfl⟩
        rw [List.mem_singleton] at hc
        subst hc
        exact ⟨⟨k1.1.1, by rw [if_pos rfl]; exact k1.1.2⟩, k1.2⟩
      · cases h
theorem bs_gu_ok {s : Nat} {w : Int → Int} {n a : Int} (hpw : wOK n w) : ∀ c ∈ bs_gu s w n a, okC s c := by
  intro c hc
  unfold bs_gu at hc
  split at hc
  · rename_i h2
    split at hc
    · cases hc
    · rename_i h1
      have k1 := rd_ok (w := w) (n := n) (a := a) (c := 7) (P := bs_P7) (len := 20) hpw (Or.inl rfl) (by decide) (by show bs_v7 w n a ≠ -1; omega)
      rw [List.mem_singleton] at hc
      subst hc
      exact ⟨⟨k1.1.1, by rw [if_pos h2]; exact k1.1.2⟩, k1.2⟩
  · cases hc
theorem bs_en_in {s : Nat} (hs : s < 3) {w : Int → Int} {n a : Int} (h : bs_en s w n a = true) : (0 ≤ a + 1 ∧ a + 1 < n) ∧ (s = 2 → 16 ≤ bs_v7 w n (a - 6)) := by
  have key : ∀ {x : Int} {c : Nat}, bs_quiet w n (a + 1) x c = true → 0 ≤ a + 1 ∧ a + 1 < n := by
    intro x c h
    unfold bs_quiet at h
    rw [Bool.and_eq_true, decide_eq_true_eq] at h
    exact h.1.1
  match s, hs with
  | 0, _ =>
    have h : (bs_even w n (a - 2) 3 && bs_quiet w n (a + 1) (a - 2) 3) = true := h
    rw [Bool.and_eq_true] at h
    exact ⟨key h.2, fun z => by omega⟩
  | 1, _ =>
    have h : ((decide (0 ≤ a - 2 ∧ a - 2 + 3 ≤ n) && decide (3 * w (a - 1) ≤ 2 * w (a - 2) ∧ 3 * w a ≤ 2 * w (a - 2))) && bs_quiet w n (a + 1) (a - 2) 3) = true := h
    rw [Bool.and_eq_true] at h
    exact ⟨key h.2, fun z => by omega⟩
  | 2, _ =>
    have h : (decide (16 ≤ bs_v7 w n (a - 6)) && bs_quiet w n (a + 1) (a - 6) 7) = true := h
    rw [Bool.and_eq_true, decide_eq_true_eq] at h
    exact ⟨key h.2, fun _ => h.1⟩
/-- how far a whole code reaches -/
theorem bs_wu_ok {s : Nat} (hs : s < 3) (hs0 : s ≠ 0) {w : Int → Int} {n : Int} (hpw : wOK n w) : ∀ (d : Nat) (a : Int) (p : List Ch × Int), bs_wu s w n d a = some p → bs_en s w n p.2 = true ∧ (∀ c ∈ p.1, okC s c) ∧ (s = 1 → p.2 = a + 5 * p.1.length + 2 ∧ 2 ≤ p.1.length ∧ p.1.length ≤ 2 * d ∧ p.1.length % 2 = 0) ∧ (s = 2 → p.2 = a + 8 * p.1.length - 2 ∧ 2 ≤ p.1.length ∧ p.1.length ≤ d + 1) := by
  intro d
  induction d with
  | zero => intro a p h; cases h
  | succ d ih =>
    intro a p h
    rw [bs_wu] at h
    cases hu : bs_un s w n a with
    | none => rw [hu] at h; cases h
    | some l =>
      rw [hu] at h
      dsimp only at h
      obtain ⟨u1, u2, u3⟩ := bs_un_ok hs hpw hu
      have k1 : s = 1 → bs_us s = 10 ∧ bs_sp s = 2 := fun z => by subst z; decide
      have k2 : s = 2 → bs_us s = 8 ∧ bs_sp s = 6 := fun z => by subst z; decide
      split at h
      · rename_i he
        cases h
        refine ⟨he, fun c hc => ?_, fun z => ?_, fun z => ?_⟩
        · rw [List.mem_append] at hc
          rcases hc with hc | hc
          · exact u1 c hc
          · exact bs_gu_ok hpw c hc
        · have g := (bs_gu_len (s := s) (w := w) (n := n) (a := a + bs_us s)).2 (by omega)
          have := u2 z
          have := k1 z
          dsimp only
          rw [List.length_append]
          omega
        · have hv := (bs_en_in hs he).2 z
          have g : (bs_gu s w n (a + bs_us s)).length = 1 := by
            unfold bs_gu
            rw [if_pos z, if_neg]
            · rfl
            · rw [show a + bs_us s + bs_sp s - 6 = a + bs_us s by have := k2 z; omega] at hv
              omega
          have := u3 (by omega)
          have := k2 z
          dsimp only
          rw [List.length_append]
          omega
      · cases hz : bs_wu s w n d (a + bs_us s) with
        | none => rw [hz] at h; cases h
        | some p' =>
          rw [hz] at h
          cases h
          obtain ⟨i1, i2, i3, i4⟩ := ih _ _ hz
          refine ⟨i1, fun c hc => ?_, fun z => ?_, fun z => ?_⟩
          · rw [List.mem_append] at hc
            rcases hc with hc | hc
            · exact u1 c hc
            · exact i2 c hc
          · have := u2 z
            have := k1 z
            have := i3 z
            dsimp only
            rw [List.length_append]
            omega
          · have := u3 (by omega)
            have := k2 z
            have := i4 z
            dsimp only
            rw [List.length_append]
            omega
theorem bs_we_ok {w : Int → Int} {n : Int} (hpw : wOK n w) : ∀ (d : Nat) (a : Int) (p : List Ch × Int), d ≤ 8 → bs_we w n d a = some p → bs_en 0 w n p.2 = true ∧ (∀ c ∈ p.1, okC 0 c) ∧ p.1.length = d ∧ p.2 = a + 4 * d + (if 4 ≤ d then 5 else 0) + 2 := by
  intro d
  induction d with
  | zero =>
    intro a p hd h
    rw [bs_we] at h
    split at h
    · rename_i he
      cases h
      exact ⟨he, fun c hc => by (cases hc), rfl, by dsimp only; rw [if_neg (by decide)]; omega⟩
    · cases h
  | succ d ih =>
    intro a p hd h
    rw [bs_we] at h
    split at h
    · cases h
    · have ha : (d = 3 → (if d = 3 then a + 5 else a) = a + 5) ∧ (d ≠ 3 → (if d = 3 then a + 5 else a) = a) := ⟨fun z => if_pos z, fun z => if_neg z⟩
      generalize (if d = 3 then a + 5 else a) = a' at h ha
      cases hu : bs_un 0 w n a' with
      | none => rw [hu] at h; cases h
      | some l =>
        rw [hu] at h
        dsimp only at h
        obtain ⟨u1, u2, u3⟩ := bs_un_ok (by decide) hpw hu
        cases hz : bs_we w n d (a' + 4) with
        | none => rw [hz] at h; cases h
        | some p' =>
          rw [hz] at h
          cases h
          obtain ⟨i1, i2, i3, i4⟩ := ih _ _ (by omega) hz
          refine ⟨i1, fun c hc => ?_, ?_, ?_⟩
          · rw [List.mem_append] at hc
            rcases hc with hc | hc
            · exact u1 c hc
            · exact i2 c hc
          · have := u3 (by decide)
            dsimp only
            rw [List.length_append]
            omega
          · dsimp only
            rw [i4]
            split <;> split <;> omega
/-- a whole code -/
def okW (s : Nat) (l : List Ch) : Prop := (∀ c ∈ l, okC s c) ∧ (s = 0 → l.length = 8) ∧ (s = 1 → (2 ≤ l.length ∧ l.length ≤ 14) ∧ l.length % 2 = 0) ∧ (s = 2 → 3 ≤ l.length ∧ l.length ≤ 16)
/-- the number of a code's widths -/
def bs_nm (s : Nat) (k : Int) : Int := if s = 0 then 43 else if s = 1 then 5 * k + 7 else 8 * k - 1
theorem bs_be_v {w : Int → Int} {n b : Int} (h : bs_be 2 w n b = true) : 16 ≤ bs_v7 w n b := by
  have h : (decide (16 ≤ bs_v7 w n b) && bs_quiet w n (b - 1) b 7) = true := h
  rw [Bool.and_eq_true, decide_eq_true_eq] at h
  exact h.1
theorem bs_wh_ok {s : Nat} (hs : s < 3) {w : Int → Int} {n b : Int} {p : List Ch × Int} (hpw : wOK n w) (hbe : bs_be s w n b = true) (h : bs_wh s w n b = some p) : okW s p.1 ∧ p.2 + 1 < n ∧ p.2 = b + bs_nm s p.1.length - 1 := by
  match s, hs with
  | 0, _ =>
    obtain ⟨i1, i2, i3, i4⟩ := bs_we_ok hpw 8 (b + 3) p (by decide) h
    refine ⟨⟨i2, fun _ => i3, fun z => by omega, fun z => by omega⟩, (bs_en_in (by decide) i1).1.2, ?_⟩
    rw [i4]
    unfold bs_nm
    rw [if_pos (by decide), if_pos rfl]
    omega
  | 1, _ =>
    unfold bs_wh at h
    rw [if_neg (by decide)] at h
    cases hz : bs_wu 1 w n (bs_mu 1) (b + bs_st 1) with
    | none => rw [hz] at h; cases h
    | some p' =>
      rw [hz] at h
      cases h
      obtain ⟨i1, i2, i3, -⟩ := bs_wu_ok (by decide) (by decide) hpw _ _ _ hz
      have i3 := i3 rfl
      rw [show bs_mu 1 = 7 from rfl, show bs_st 1 = 4 from rfl] at i3
      refine ⟨⟨i2, fun z => by omega, fun _ => ?_, fun z => by omega⟩, (bs_en_in (by decide) i1).1.2, ?_⟩
      · show (2 ≤ p'.1.length ∧ p'.1.length ≤ 14) ∧ p'.1.length % 2 = 0
        omega
      · show p'.2 = b + bs_nm 1 p'.1.length - 1
        unfold bs_nm
        rw [if_neg (by decide), if_pos rfl]
        omega
  | 2, _ =>
    unfold bs_wh at h
    rw [if_neg (by decide)] at h
    have hv := bs_be_v hbe
    have g : (bs_gu 2 w n b).length = 1 := by
      unfold bs_gu
      rw [if_pos rfl, if_neg (by omega)]
      rfl
    cases hz : bs_wu 2 w n (bs_mu 2) (b + bs_st 2) with
    | none => rw [hz] at h; cases h
    | some p' =>
      rw [hz] at h
      cases h
      obtain ⟨i1, i2, -, i3⟩ := bs_wu_ok (by decide) (by decide) hpw _ _ _ hz
      have i3 := i3 rfl
      rw [show bs_mu 2 = 14 from rfl, show bs_st 2 = 8 from rfl] at i3
      refine ⟨⟨fun c hc => ?_, fun z => by omega, fun z => by omega, fun _ => ?_⟩, (bs_en_in (by decide) i1).1.2, ?_⟩
      · rw [List.mem_append] at hc
        rcases hc with hc | hc
        · exact bs_gu_ok hpw c hc
        · exact i2 c hc
      · dsimp only; rw [List.length_append]; omega
      · dsimp only; rw [List.length_append]
        unfold bs_nm
        rw [if_neg (by decide), if_neg (by decide)]
        omega
theorem bs_fw_ok {s : Nat} (hs : s < 3) {w : Int → Int} {n : Int} (hpw : wOK n w) : ∀ (m : Nat) (b : Int) (x : Int × List Ch × Int), bs_fw s w n m b = some x → (b ≤ x.1 ∧ x.1 < n) ∧ okW s x.2.1 ∧ x.2.2 + 1 < n ∧ x.2.2 = x.1 + bs_nm s x.2.1.length - 1 ∧ x.1 ≤ x.2.2 := by
  intro m
  induction m with
  | zero => intro b x h; cases h
  | succ m ih =>
    intro b x h
    rw [bs_fw] at h
    split at h
    · rename_i hb
      by_cases hbe : bs_be s w n b = true
      · rw [if_pos hbe] at h
        cases hz : bs_wh s w n b with
        | none =>
          rw [hz] at h
          have := ih _ _ h
          exact ⟨by omega, this.2⟩
        | some p =>
          rw [hz] at h
          cases h
          have h1 := bs_wh_ok hs hpw hbe hz
          have h2 := bs_wh_ge hz
          exact ⟨⟨Int.le_refl _, hb⟩, h1.1, h1.2.1, h1.2.2, h2⟩
      · rw [if_neg hbe] at h
        have := ih _ _ h
        exact ⟨by omega, this.2⟩
    · cases h
theorem bs_up_ok {s : Nat} (hs : s < 3) {w : Int → Int} {n : Int} (hpw : wOK n w) : ∀ (m : Nat) (a : Int), ∀ c ∈ bs_up s w n m a, okC s c := by
  intro m
  induction m with
  | zero => intro a c h; cases h
  | succ m ih =>
    intro a c h
    rw [bs_up] at h
    cases hu : bs_un s w n a with
    | none => rw [hu] at h; cases h
    | some l =>
      rw [hu] at h
      dsimp only at h
      rw [List.mem_append] at h
      rcases h with h | h
      · exact (bs_un_ok hs hpw hu).1 c h
      · exact ih _ c h
theorem bs_fo_ok {s : Nat} (hs : s < 3) {w : Int → Int} {n : Int} (hpw : wOK n w) : ∀ (m : Nat) (a : Int), ∀ c ∈ bs_fo s w n m a, okC s c := by
  intro m
  induction m with
  | zero => intro a c h; cases h
  | succ m ih =>
    intro a c h
    rw [bs_fo, List.mem_append] at h
    rcases h with h | h
    · cases hu : bs_un s w n a with
      | none => rw [hu] at h; cases h
      | some l =>
        rw [hu] at h
        exact (bs_un_ok hs hpw hu).1 c h
    · exact ih _ c h
theorem bs_fh_ok {s : Nat} (hs : s < 3) {w : Int → Int} {n : Int} (hpw : wOK n w) : ∀ (m : Nat) (b : Int), (∀ c ∈ bs_fh s w n m b, okC s c) ∧ (bs_fh s w n m b).length ≤ 15 ∧ (bs_fh s w n m b ≠ [] → 2 ≤ (bs_fh s w n m b).length) := by
  intro m
  induction m with
  | zero => intro b; exact ⟨fun c h => (by cases h), Nat.zero_le _, fun h => absurd rfl h⟩
  | succ m ih =>
    intro b
    rw [bs_fh]
    split
    · split
      · rename_i h2
        refine ⟨fun c h => ?_, ?_, fun _ => h2⟩
        · unfold bs_hd at h
          split at h
          · rw [List.mem_append] at h
            rcases h with h | h
            · exact bs_gu_ok hpw c h
            · exact bs_up_ok hs hpw _ _ c h
          · cases h
        · have g1 := bs_gu_len (s := s) (w := w) (n := n) (a := b)
          have g2 := bs_up_len (s := s) (w := w) (n := n) (bs_mu s) (b + bs_st s)
          have hk := k_bd s
          unfold bs_hd
          split
          · rw [List.length_append]; omega
          · exact Nat.zero_le _
      · exact ih _
    · exact ⟨fun c h => (by cases h), Nat.zero_le _, fun h => absurd rfl h⟩
theorem bs_ft_ok {s : Nat} (hs : s < 3) {w : Int → Int} {n : Int} (hpw : wOK n w) : ∀ (m : Nat) (b : Int), (∀ c ∈ bs_ft s w n m b, okC s c) ∧ (bs_ft s w n m b).length ≤ 15 ∧ (bs_ft s w n m b ≠ [] → 2 ≤ (bs_ft s w n m b).length) := by
  intro m
  induction m with
  | zero => intro b; exact ⟨fun c h => (by cases h), Nat.zero_le _, fun h => absurd rfl h⟩
  | succ m ih =>
    intro b
    rw [bs_ft]
    split
    · split
      · rename_i h2
        refine ⟨fun c h => ?_, ?_, fun _ => h2⟩
        · unfold bs_tl at h
          split at h
          · rw [List.mem_append] at h
            rcases h with h | h
            · exact bs_fo_ok hs hpw _ _ c h
            · exact bs_gu_ok hpw c h
          · cases h
        · have hk := k_bd s
          have g0 := bs_cb_le (s := s) (w := w) (n := n) (bs_mu s) (b - bs_sp s)
          have g1 := bs_gu_len (s := s) (w := w) (n := n) (a := b - bs_sp s)
          have g2 := bs_fo_len (s := s) (w := w) (n := n) (bs_cb s w n (bs_mu s) (b - bs_sp s)) (b - bs_sp s - bs_us s * (bs_cb s w n (bs_mu s) (b - bs_sp s)))
          unfold bs_tl
          split
          · rw [List.length_append]; omega
          · exact Nat.zero_le _
      · exact ih _
    · exact ⟨fun c h => (by cases h), Nat.zero_le _, fun h => absurd rfl h⟩
/-- what a scan's reading is like -/
def okRd (s : Nat) (n : Int) (x : Rd) : Prop :=
  (x.1.1 ≠ [] → okW s x.1.1 ∧ x.1.2 = ([], []) ∧ 0 < x.2.2.1 ∧ x.2.2.2 + 1 < n ∧ x.2.2.2 = x.2.2.1 + bs_nm s x.1.1.length - 1) ∧
  (∀ c ∈ x.1.2.1, okC s c) ∧ (∀ c ∈ x.1.2.2, okC s c) ∧ x.1.2.1.length ≤ 15 ∧ x.1.2.2.length ≤ 15 ∧ x.1.1.length ≤ 16 ∧ (∀ c ∈ x.1.1, okC s c) ∧ (x.1.2.1 ≠ [] → 2 ≤ x.1.2.1.length) ∧ (x.1.2.2 ≠ [] → 2 ≤ x.1.2.2.length)
theorem okW_len {s : Nat} (hs : s < 3) {l : List Ch} (h : okW s l) : 2 ≤ l.length ∧ l.length ≤ 16 := by
  obtain ⟨-, h0, h1, h2⟩ := h
  rcases (show s = 0 ∨ s = 1 ∨ s = 2 by omega) with z | z | z
  · have := h0 z; omega
  · have := h1 z; omega
  · have := h2 z; omega
theorem bs_read_ok {s : Nat} (hs : s < 3) {w : Int → Int} {n : Int} (hpw : wOK n w) : okRd s n (bs_read s w n) := by
  have hrv : wOK n (bs_rv w n) := fun i hi => hpw _ (by omega)
  unfold bs_read
  cases h1 : bs_fw s w n 65 1 with
  | some x =>
    obtain ⟨k1, k2, k3, k4, k5⟩ := bs_fw_ok hs hpw _ _ _ h1
    have hl := okW_len hs k2
    refine ⟨fun _ => ⟨k2, rfl, ?_, k3, k4⟩, fun c h => (by cases h), fun c h => (by cases h), by simp, by simp, hl.2, k2.1, fun h => absurd rfl h, fun h => absurd rfl h⟩
    show 0 < x.1
    omega
  | none =>
    cases h2 : bs_fw s (bs_rv w n) n 65 1 with
    | some x =>
      obtain ⟨k1, k2, k3, k4, k5⟩ := bs_fw_ok hs hrv _ _ _ h2
      have hl := okW_len hs k2
      refine ⟨fun _ => ⟨k2, rfl, ?_, ?_, ?_⟩, fun c h => (by cases h), fun c h => (by cases h), by simp, by simp, hl.2, k2.1, fun h => absurd rfl h, fun h => absurd rfl h⟩
      · show 0 < n - 1 - x.2.2
        omega
      · show n - 1 - x.1 + 1 < n
        omega
      · show n - 1 - x.1 = n - 1 - x.2.2 + bs_nm s x.2.1.length - 1
        omega
    | none =>
      dsimp only
      have p1 := bs_fh_ok hs hpw 65 1
      have p2 := bs_ft_ok hs hpw 65 (n - 2)
      have p3 := bs_fh_ok hs hrv 65 1
      have p4 := bs_ft_ok hs hrv 65 (n - 2)
      split
      · exact ⟨fun h => absurd rfl h, p3.1, p4.1, p3.2.1, p4.2.1, by simp, fun c h => (by cases h), p3.2.2, p4.2.2⟩
      · exact ⟨fun h => absurd rfl h, p1.1, p2.1, p1.2.1, p2.2.1, by simp, fun c h => (by cases h), p1.2.2, p2.2.2⟩
