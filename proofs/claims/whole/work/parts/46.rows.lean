/-! READING WIDTHS: even, quiet, narrow and wide; the class's rows -/
theorem tdiv_bd {x v B : Int} (hv : 0 < v) (hx : 0 ≤ x ∧ x ≤ B) : 0 ≤ x.tdiv v ∧ x.tdiv v ≤ B := by
  rw [Int.tdiv_eq_ediv_of_nonneg hx.1]
  have h1 : x / v ≤ x := Int.ediv_le_self _ hx.1
  have h2 : 0 ≤ x / v := Int.ediv_nonneg hx.1 (by omega)
  omega
def bs_bits (u : Nat → Int) (t : Int) : Nat → Int
  | 0 => 0
  | m + 1 => if t < 2 * u m then 2 * bs_bits u t m + 1 else 2 * bs_bits u t m
def bs_lw (u : Nat → Int) (t h : Int) : Nat → Int
  | 0 => h
  | m + 1 => if t < 2 * u m then (if u m < bs_lw u t h m then u m else bs_lw u t h m) else bs_lw u t h m
def bs_gn (u : Nat → Int) (t l : Int) : Nat → Int
  | 0 => l
  | m + 1 => if t < 2 * u m then bs_gn u t l m else (if bs_gn u t l m < u m then u m else bs_gn u t l m)
theorem bs_bits_bd {u : Nat → Int} {t : Int} : ∀ m, 0 ≤ bs_bits u t m ∧ bs_bits u t m < ((2 ^ m : Nat) : Int) := by
  intro m
  induction m with
  | zero => exact ⟨Int.le_refl _, (by decide : (0 : Int) < ((2 ^ 0 : Nat) : Int))⟩
  | succ m ih =>
    rw [Nat.pow_succ]
    unfold bs_bits
    split <;> omega
theorem bs_lw_bd {u : Nat → Int} {t h q : Int} {c : Nat} (hu : ∀ k, k < c → 1 ≤ u k ∧ u k ≤ q) (hh : 1 ≤ h ∧ h ≤ q) (ht : t ≤ 2 * h) : ∀ m, m ≤ c → (1 ≤ bs_lw u t h m ∧ bs_lw u t h m ≤ q) ∧ t ≤ 2 * bs_lw u t h m := by
  intro m
  induction m with
  | zero => intro _; exact ⟨hh, ht⟩
  | succ m ih =>
    intro h
    have h1 := ih (by omega)
    have h2 := hu m (by omega)
    unfold bs_lw
    split
    · split <;> omega
    · exact h1
theorem bs_gn_bd {u : Nat → Int} {t l q : Int} {c : Nat} (hu : ∀ k, k < c → 1 ≤ u k ∧ u k ≤ q) (hh : 1 ≤ l ∧ l ≤ q) (ht : 2 * l ≤ t) : ∀ m, m ≤ c → (1 ≤ bs_gn u t l m ∧ bs_gn u t l m ≤ q) ∧ 2 * bs_gn u t l m ≤ t := by
  intro m
  induction m with
  | zero => intro _; exact ⟨hh, ht⟩
  | succ m ih =>
    intro h
    have h1 := ih (by omega)
    have h2 := hu m (by omega)
    unfold bs_gn
    split
    · exact h1
    · split <;> omega
theorem bs_lohi (u : Nat → Int) : ∀ m, bs_lo u m ≤ bs_hi u m := by
  intro m
  induction m with
  | zero => exact Int.le_refl _
  | succ m ih =>
    unfold bs_lo bs_hi
    split <;> split <;> omega
/-- the confidence of widths read together -/
def bs_cf (u : Nat → Int) (c : Nat) : Int :=
  let t := bs_lo u c + bs_hi u c
  let q := Int.tdiv (150 * (bs_lw u t (bs_hi u c) c - bs_gn u t (bs_lo u c) c)) (bs_lw u t (bs_hi u c) c)
  if 100 < q then 100 else q
/-- the index from i on -/
def bs_fd (P : Nat → Int) (b : Int) : Nat → Nat → Int
  | 0, _ => -1
  | d + 1, i => if P i = b then (i : Int) else bs_fd P b d (i + 1)
def bs_mi (u : Nat → Int) (c : Nat) (P : Nat → Int) (len : Nat) : Int :=
  if 2 * bs_hi u c < 3 * bs_lo u c then -1 else bs_fd P (bs_bits u (bs_lo u c + bs_hi u c) c) len 0
theorem bs_fd_bd {P : Nat → Int} {b : Int} : ∀ d i, bs_fd P b d i = -1 ∨ ((i : Int) ≤ bs_fd P b d i ∧ bs_fd P b d i < ((i + d : Nat) : Int)) := by
  intro d
  induction d with
  | zero => intro i; exact Or.inl rfl
  | succ d ih =>
    intro i
    unfold bs_fd
    split
    · right; omega
    · rcases ih (i + 1) with h | h
      · exact Or.inl h
      · right; omega
theorem bs_mi_bd (u : Nat → Int) (c : Nat) (P : Nat → Int) (len : Nat) : -1 ≤ bs_mi u c P len ∧ bs_mi u c P len < len := by
  unfold bs_mi
  split
  · omega
  · rcases bs_fd_bd (P := P) (b := bs_bits u (bs_lo u c + bs_hi u c) c) len 0 with h | h <;> omega
theorem bs_cf_bd {u : Nat → Int} {c : Nat} (hc : 0 < c) (hu : ∀ k, k < c → 1 ≤ u k ∧ u k ≤ 10000) : 0 ≤ bs_cf u c ∧ bs_cf u c ≤ 100 := by
  have h1 := bs_lo_bd hc hu c (Nat.le_refl _)
  have h2 := bs_hi_bd hc hu c (Nat.le_refl _)
  have h3 := bs_lohi u c
  have h4 := bs_lw_bd (t := bs_lo u c + bs_hi u c) hu h2 (by omega) c (Nat.le_refl _)
  have h5 := bs_gn_bd (t := bs_lo u c + bs_hi u c) hu h1 (by omega) c (Nat.le_refl _)
  have h6 := tdiv_bd (B := 1500000) (v := bs_lw u (bs_lo u c + bs_hi u c) (bs_hi u c) c) (x := 150 * (bs_lw u (bs_lo u c + bs_hi u c) (bs_hi u c) c - bs_gn u (bs_lo u c + bs_hi u c) (bs_lo u c) c)) (by omega) (by omega)
  unfold bs_cf
  dsimp only
  split <;> omega
section
variable {sl e : Nat} {π : Int → Nat} {M G : Nat → Int → Int} {r : Nat} {n a : Int} {w : Int → Int}
theorem bc_has (hr : aRow r) (hn : M r 1 = n) {c : Int} (hb : -100000 ≤ a + c ∧ a + c ≤ 100000) : d_Row_has r a c (bM sl π M G e) = rI (bi (decide (0 ≤ a ∧ a + c ≤ n))) (bM sl π M G e) := by
  rw [d_Row_has_5 _ _ _ _ (row_d hr), x_Row_has_eq]
  simp (disch := first | assumption | exact row_d (by assumption) | exact seq_d (by assumption) | exact rdg_d (by assumption) | exact tal_d (by assumption) | omega) only [wr_id, row_w, row_I, row_r, row_s, row_p, row_l, hn]
  by_cases q1 : a < 0
  · rw [if_pos q1, decide_eq_false (by omega)]; rfl
  · rw [if_neg q1]
    by_cases q2 : n < a + c
    · rw [if_pos q2, decide_eq_false (by omega)]; rfl
    · rw [if_neg q2, decide_eq_true (by omega)]; rfl
theorem bc_isEven_0 (hr : aRow r) {u : Nat → Int} {c : Nat} (h0 : 0 < c) (ha : 0 ≤ a ∧ a + c ≤ 129) (hu : ∀ k : Nat, k < c → M (r + 1) (a + k) = u k) (hb : ∀ k, k < c → 1 ≤ u k ∧ u k ≤ 10000) : ∀ d m : Nat, m + d = c → x_Row_isEven_0 r a c (bs_lo u m) (bs_hi u m) (a + m) (bM sl π M G e) = rI (bi (decide (bs_hi u c ≤ 2 * bs_lo u c))) (bM sl π M G e) := by
  intro d
  induction d with
  | zero =>
    intro m hm
    have e1 : m = c := by omega
    subst e1
    have h1 := bs_lo_bd h0 hb m (Nat.le_refl _)
    have h2 := bs_hi_bd h0 hb m (Nat.le_refl _)
    rw [x_Row_isEven_0_eq]
    simp (disch := first | assumption | exact row_d (by assumption) | exact seq_d (by assumption) | exact rdg_d (by assumption) | exact tal_d (by assumption) | omega) only [wr_id]
    rw [if_neg (by omega)]
    by_cases q : bs_hi u m ≤ 2 * bs_lo u m
    · rw [if_neg (by omega), decide_eq_true q]; rfl
    · rw [if_pos (by omega), decide_eq_false q]; rfl
  | succ d ih =>
    intro m hm
    have h1 := bs_lo_bd h0 hb m (by omega)
    have h2 := bs_hi_bd h0 hb m (by omega)
    have h3 := hb m (by omega)
    have h4 := hu m (by omega)
    have ih := ih (m + 1) (by omega)
    rw [show (a + ((m + 1 : Nat) : Int)) = a + m + 1 by omega] at ih
    rw [x_Row_isEven_0_eq]
    simp (disch := first | assumption | exact row_d (by assumption) | exact seq_d (by assumption) | exact rdg_d (by assumption) | exact tal_d (by assumption) | omega) only [wr_id, row_w, row_I, row_r, row_s, row_p, row_l, h4]
    rw [if_pos (by omega)]
    simp only [bs_lo, bs_hi] at ih
    by_cases q1 : u m < bs_lo u m <;> by_cases q2 : bs_hi u m < u m <;> simp only [q1, q2, if_true, if_false] at ih ⊢ <;> exact ih
theorem bc_isQuiet_0 (hr : aRow r) {u : Nat → Int} {c : Nat} {s : Int} (h0 : 0 < c) (ha : 0 ≤ a ∧ a + c ≤ 129) (hs : 0 ≤ s ∧ s < 129) (hu : ∀ k : Nat, k < c → M (r + 1) (a + k) = u k) (hb : ∀ k, k < c → 1 ≤ u k ∧ u k ≤ 10000) : ∀ d m : Nat, m + d = c → x_Row_isQuiet_0 r s a c (bs_lo u m) (a + m) (bM sl π M G e) = rI (bi (decide (5 * bs_lo u c ≤ M (r + 1) s))) (bM sl π M G e) := by
  intro d
  induction d with
  | zero =>
    intro m hm
    have e1 : m = c := by omega
    subst e1
    have h1 := bs_lo_bd h0 hb m (Nat.le_refl _)
    rw [x_Row_isQuiet_0_eq]
    simp (disch := first | assumption | exact row_d (by assumption) | exact seq_d (by assumption) | exact rdg_d (by assumption) | exact tal_d (by assumption) | omega) only [wr_id, row_w, row_I, row_r, row_s, row_p, row_l]
    rw [if_neg (by omega)]
    by_cases q : 5 * bs_lo u m ≤ M (r + 1) s
    · rw [if_neg (by omega), decide_eq_true q]; rfl
    · rw [if_pos (by omega), decide_eq_false q]; rfl
  | succ d ih =>
    intro m hm
    have h1 := bs_lo_bd h0 hb m (by omega)
    have h3 := hb m (by omega)
    have h4 := hu m (by omega)
    have ih := ih (m + 1) (by omega)
    rw [show (a + ((m + 1 : Nat) : Int)) = a + m + 1 by omega] at ih
    rw [x_Row_isQuiet_0_eq]
    simp (disch := first | assumption | exact row_d (by assumption) | exact seq_d (by assumption) | exact rdg_d (by assumption) | exact tal_d (by assumption) | omega) only [wr_id, row_w, row_I, row_r, row_s, row_p, row_l, h4]
    rw [if_pos (by omega)]
    simp only [bs_lo] at ih
    by_cases q1 : u m < bs_lo u m <;> simp only [q1, if_true, if_false] at ih ⊢ <;> exact ih
theorem rRow_u {c : Nat} {s : Int} (hw : rRow M r n w) (hp : wOK n w) (hk : ∀ k : Nat, k < c → 0 ≤ a + s * k ∧ a + s * k < n) : (∀ k : Nat, k < c → M (r + 1) (a + s * k) = bs_u w a s k) ∧ ∀ k : Nat, k < c → 1 ≤ bs_u w a s k ∧ bs_u w a s k ≤ 10000 :=
  ⟨fun k h => hw.2.2 _ (hk k h), fun k h => hp _ (hk k h)⟩
def bs_even (w : Int → Int) (n a : Int) (c : Nat) : Bool := decide (0 ≤ a ∧ a + c ≤ n) && decide (bs_hi (bs_u w a 1) c ≤ 2 * bs_lo (bs_u w a 1) c)
def bs_quiet (w : Int → Int) (n s a : Int) (c : Nat) : Bool := decide ((0 ≤ s ∧ s < n) ∧ 0 ≤ a ∧ a + c ≤ n) && decide (5 * bs_lo (bs_u w a 1) c ≤ w s)
theorem bc_isEven (hr : aRow r) (hw : rRow M r n w) (hp : wOK n w) {c : Nat} (h0 : 0 < c) (hb : -100000 ≤ a ∧ a + c ≤ 100000) : d_Row_isEven r a c (bM sl π M G e) = rI (bi (bs_even w n a c)) (bM sl π M G e) := by
  have hn := hw.2.1
  have hn2 := hw.1
  rw [d_Row_isEven_5 _ _ _ _ (row_d hr), x_Row_isEven_eq]
  unfold bs_even
  by_cases q1 : 0 ≤ a ∧ a + c ≤ n
  · have h1 := rRow_u (c := c) (s := 1) (a := a) hw hp (fun k hk => by omega)
    simp only [Int.one_mul] at h1
    have h2 := bc_isEven_0 (sl := sl) (e := e) (π := π) (G := G) hr h0 (by omega) h1.1 h1.2 c 0 (by omega)
    have h3 : M (r + 1) a = bs_u w a 1 0 := by have := h1.1 0 h0; rw [show a + ((0 : Nat) : Int) = a by omega] at this; exact this
    rw [decide_eq_true q1, Bool.true_and]
    simp (disch := first | assumption | exact row_d (by assumption) | exact seq_d (by assumption) | exact rdg_d (by assumption) | exact tal_d (by assumption) | omega) only [wr_id, row_w, row_I, row_r, row_s, row_p, row_l, hn, h3]
    rw [if_neg (by omega), if_neg (by omega), if_neg (by omega)]
    rw [show a + ((0 : Nat) : Int) = a by omega] at h2
    exact h2
  · rw [decide_eq_false q1, Bool.false_and]
    simp (disch := first | assumption | exact row_d (by assumption) | exact seq_d (by assumption) | exact rdg_d (by assumption) | exact tal_d (by assumption) | omega) only [wr_id, row_w, row_I, row_r, row_s, row_p, row_l, hn]
    by_cases q2 : a < 0
    · rw [if_pos q2]; rfl
    · rw [if_neg q2, if_neg (by omega), if_pos (by omega)]; rfl
theorem bc_isQuiet (hr : aRow r) (hw : rRow M r n w) (hp : wOK n w) {c : Nat} {s : Int} (h0 : 0 < c) (hb : -100000 ≤ a ∧ a + c ≤ 100000) : d_Row_isQuiet r s a c (bM sl π M G e) = rI (bi (bs_quiet w n s a c)) (bM sl π M G e) := by
  have hn := hw.2.1
  have hn2 := hw.1
  rw [d_Row_isQuiet_5 _ _ _ _ _ (row_d hr), x_Row_isQuiet_eq]
  unfold bs_quiet
  by_cases q1 : (0 ≤ s ∧ s < n) ∧ 0 ≤ a ∧ a + c ≤ n
  · have h1 := rRow_u (c := c) (s := 1) (a := a) hw hp (fun k hk => by omega)
    simp only [Int.one_mul] at h1
    have h2 := bc_isQuiet_0 (sl := sl) (e := e) (π := π) (G := G) (s := s) hr h0 (by omega) (by omega) h1.1 h1.2 c 0 (by omega)
    have h3 : M (r + 1) a = bs_u w a 1 0 := by have := h1.1 0 h0; rw [show a + ((0 : Nat) : Int) = a by omega] at this; exact this
    rw [decide_eq_true q1, Bool.true_and]
    simp (disch := first | assumption | exact row_d (by assumption) | exact seq_d (by assumption) | exact rdg_d (by assumption) | exact tal_d (by assumption) | omega) only [wr_id, row_w, row_I, row_r, row_s, row_p, row_l, hn, h3]
    rw [if_neg (by omega), if_pos (by omega), if_neg (by omega), if_neg (by omega), if_neg (by omega)]
    rw [show a + ((0 : Nat) : Int) = a by omega, hw.2.2 s q1.1] at h2
    exact h2
  · rw [decide_eq_false q1, Bool.false_and]
    simp (disch := first | assumption | exact row_d (by assumption) | exact seq_d (by assumption) | exact rdg_d (by assumption) | exact tal_d (by assumption) | omega) only [wr_id, row_w, row_I, row_r, row_s, row_p, row_l, hn]
    by_cases q2 : s < 0
    · rw [if_pos q2]; rfl
    · rw [if_neg q2]
      by_cases q3 : s < n
      · rw [if_pos q3]
        by_cases q4 : a < 0
        · rw [if_pos q4]; rfl
        · rw [if_neg q4, if_neg (by omega), if_pos (by omega)]; rfl
      · rw [if_neg q3]; rfl
end
section
variable {sl e : Nat} {π : Int → Nat} {M G : Nat → Int → Int} {r : Nat} {n a : Int} {w : Int → Int}
theorem bc_match_2 {p len : Nat} {P : Nat → Int} {b : Int} (hp : bm_tg p = 20 ∨ bm_tg p = 21) (hl : bm_ln p = len) (hp1 : p ≠ 1) (hlen : len < 1000) (hP : ∀ k : Nat, k < len → M p k = P k) : ∀ d i : Nat, i + d = len → x_Row_match_2 p b i (bM sl π M G e) = rI (bs_fd P b d i) (bM sl π M G e) := by
  intro d
  induction d with
  | zero =>
    intro i hi
    rw [x_Row_match_2_eq, bm_al (n := len) (by rcases hp with h | h <;> rw [h] <;> decide) hl hp1, if_neg (by omega)]
    rfl
  | succ d ih =>
    intro i hi
    have ih := ih (i + 1) (by omega)
    rw [show (((i + 1 : Nat)) : Int) = i + 1 by omega] at ih
    rw [x_Row_match_2_eq, bm_al (n := len) (by rcases hp with h | h <;> rw [h] <;> decide) hl hp1, if_pos (by omega), bm_rI (n := len) hp hl hp1 (by omega), hP i (by omega), wr_id (by omega), ih, show bs_fd P b (d + 1) i = if P i = b then (i : Int) else bs_fd P b d (i + 1) from rfl]
    by_cases q : P i = b
    · rw [if_pos q, if_pos q]
    · rw [if_neg q, if_neg q]
theorem bc_match_1 (hr : aRow r) {u : Nat → Int} {c p len : Nat} {s lo hi : Int} {P : Nat → Int} (hs : s = 1 ∨ s = 2) (h0 : 0 < c) (hc : c ≤ 7) (ha : 0 ≤ a ∧ a + s * (c - 1) < 129) (hu : ∀ k : Nat, k < c → M (r + 1) (a + s * k) = u k) (hb : ∀ k, k < c → 1 ≤ u k ∧ u k ≤ 10000) (hlo : 1 ≤ lo ∧ lo ≤ hi ∧ hi ≤ 10000)
    (hp : bm_tg p = 20 ∨ bm_tg p = 21) (hl : bm_ln p = len) (hp1 : p ≠ 1) (hpr : p ≠ r) (hlen : len < 1000) (hP : ∀ k : Nat, k < len → M p k = P k) : ∀ d m : Nat, m + d = c →
    ∃ q : Int, (q = Int.tdiv (150 * (bs_lw u (lo + hi) hi c - bs_gn u (lo + hi) lo c)) (bs_lw u (lo + hi) hi c)) ∧ x_Row_match_1 r s p (a + s * (c - 1)) lo hi (bs_bits u (lo + hi) m) (bs_lw u (lo + hi) hi m) (bs_gn u (lo + hi) lo m) (a + s * m) (bM sl π M G e) = rI (bs_fd P (bs_bits u (lo + hi) c) len 0) (bM sl π (up M r 2 (if 100 < q then 100 else q)) G e) := by
  intro d
  induction d with
  | zero =>
    intro m hm
    have e1 : m = c := by omega
    subst e1
    have h4 := bs_lw_bd (t := lo + hi) hb (h := hi) (by omega) (by omega) m (Nat.le_refl _)
    have h5 := bs_gn_bd (t := lo + hi) hb (l := lo) (by omega) (by omega) m (Nat.le_refl _)
    have h6 := tdiv_bd (B := 1500000) (v := bs_lw u (lo + hi) hi m) (x := 150 * (bs_lw u (lo + hi) hi m - bs_gn u (lo + hi) lo m)) (by omega) (by omega)
    refine ⟨_, rfl, ?_⟩
    rw [x_Row_match_1_eq]
    have e2 : a + s * ((m : Int) - 1) < a + s * m := by rcases hs with rfl | rfl <;> omega
    rw [if_pos e2, if_neg (by omega), dv_r (by omega)]
    simp (disch := first | assumption | exact row_d (by assumption) | exact seq_d (by assumption) | exact rdg_d (by assumption) | exact tal_d (by assumption) | omega) only [wr_id, row_w, row_I, row_r, row_s, row_p, row_l]
    have h7 : ∀ (x : Int), x_Row_match_2 p (bs_bits u (lo + hi) m) 0 (bM sl π (up M r 2 x) G e) = rI (bs_fd P (bs_bits u (lo + hi) m) len 0) (bM sl π (up M r 2 x) G e) := fun x =>
      bc_match_2 (M := up M r 2 x) hp hl hp1 hlen (fun k hk => by rw [up_a hpr]; exact hP k hk) len 0 (by omega)
    split
    · exact h7 _
    · exact h7 _
  | succ d ih =>
    intro m hm
    have h1 := bs_bits_bd (u := u) (t := lo + hi) m
    have h1' : ((2 ^ m : Nat) : Int) ≤ ((2 ^ 7 : Nat) : Int) := by exact_mod_cast Nat.pow_le_pow_right (by decide) (by omega)
    have h1'' : ((2 ^ 7 : Nat) : Int) = 128 := by decide
    have h3 := hb m (by omega)
    have h4 := hu m (by omega)
    obtain ⟨q, hq, ih⟩ := ih (m + 1) (by omega)
    refine ⟨q, hq, ?_⟩
    have e2 : ¬ a + s * ((c : Int) - 1) < a + s * m := by rcases hs with rfl | rfl <;> omega
    have e3 : 0 ≤ a + s * m ∧ a + s * m < 129 := by rcases hs with rfl | rfl <;> omega
    have e4 : a + s * ((m + 1 : Nat) : Int) = a + s * m + s := by rcases hs with rfl | rfl <;> omega
    have e5 : wr (a + s * m + s) = a + s * m + s := wr_id (by rcases hs with rfl | rfl <;> omega)
    rw [e4] at ih
    rw [x_Row_match_1_eq]
    rw [if_neg e2, row_w hr, row_r hr e3, h4]
    simp (disch := first | assumption | exact row_d (by assumption) | exact seq_d (by assumption) | exact rdg_d (by assumption) | exact tal_d (by assumption) | omega) only [wr_id, e5]
    simp only [bs_bits, bs_lw, bs_gn] at ih
    by_cases q1 : lo + hi < 2 * u m
    · simp only [if_pos q1] at ih ⊢
      by_cases q2 : u m < bs_lw u (lo + hi) hi m <;> simp only [q2, if_true, if_false] at ih ⊢ <;> exact ih
    · simp only [if_neg q1] at ih ⊢
      by_cases q2 : bs_gn u (lo + hi) lo m < u m <;> simp only [q2, if_true, if_false] at ih ⊢ <;> exact ih
theorem bc_match_0 (hr : aRow r) {u : Nat → Int} {c p : Nat} {s : Int} (hs : s = 1 ∨ s = 2) (h0 : 0 < c) (hc : c ≤ 7) (ha : 0 ≤ a ∧ a + s * (c - 1) < 129) (hu : ∀ k : Nat, k < c → M (r + 1) (a + s * k) = u k) (hb : ∀ k, k < c → 1 ≤ u k ∧ u k ≤ 10000) : ∀ d m : Nat, m + d = c →
    x_Row_match_0 r a s p (a + s * (c - 1)) (bs_lo u m) (bs_hi u m) (a + s * m) (bM sl π M G e) = if 2 * bs_hi u c < 3 * bs_lo u c then rI (-1) (bM sl π M G e) else x_Row_match_1 r s p (a + s * (c - 1)) (bs_lo u c) (bs_hi u c) 0 (bs_hi u c) (bs_lo u c) a (bM sl π M G e) := by
  intro d
  induction d with
  | zero =>
    intro m hm
    have e1 : m = c := by omega
    subst e1
    have h1 := bs_lo_bd h0 hb m (Nat.le_refl _)
    have h2 := bs_hi_bd h0 hb m (Nat.le_refl _)
    rw [x_Row_match_0_eq]
    have e2 : a + s * ((m : Int) - 1) < a + s * m := by rcases hs with rfl | rfl <;> omega
    rw [if_pos e2]
    simp (disch := first | assumption | exact row_d (by assumption) | exact seq_d (by assumption) | exact rdg_d (by assumption) | exact tal_d (by assumption) | omega) only [wr_id]
  | succ d ih =>
    intro m hm
    have h3 := hb m (by omega)
    have h4 := hu m (by omega)
    have ih := ih (m + 1) (by omega)
    have e2 : ¬ a + s * ((c : Int) - 1) < a + s * m := by rcases hs with rfl | rfl <;> omega
    have e3 : 0 ≤ a + s * m ∧ a + s * m < 129 := by rcases hs with rfl | rfl <;> omega
    have e4 : a + s * ((m + 1 : Nat) : Int) = a + s * m + s := by rcases hs with rfl | rfl <;> omega
    have e5 : wr (a + s * m + s) = a + s * m + s := wr_id (by rcases hs with rfl | rfl <;> omega)
    rw [e4] at ih
    rw [x_Row_match_0_eq]
    rw [if_neg e2]
    simp (disch := first | assumption | exact row_d (by assumption) | exact seq_d (by assumption) | exact rdg_d (by assumption) | exact tal_d (by assumption) | omega) only [wr_id, row_w, row_I, row_r, row_s, row_p, row_l, h4, e5]
    simp only [bs_lo, bs_hi] at ih
    by_cases q1 : u m < bs_lo u m <;> by_cases q2 : bs_hi u m < u m <;> simp only [q1, q2, if_true, if_false] at ih ⊢ <;> exact ih
/-- the index in a table of the widths from a on, each s behind the one before; none: -1 -/
def bs_rd (w : Int → Int) (n a s : Int) (c : Nat) (P : Nat → Int) (len : Nat) : Int :=
  if 0 ≤ a ∧ a + s * (c - 1) < n then bs_mi (bs_u w a s) c P len else -1
theorem bs_rd_bd {w : Int → Int} {n a s : Int} {c : Nat} {P : Nat → Int} {len : Nat} : -1 ≤ bs_rd w n a s c P len ∧ bs_rd w n a s c P len < len := by
  unfold bs_rd
  split
  · exact bs_mi_bd _ _ _ _
  · omega
/-- nothing but one place may have changed -/
def fr1 (a : Nat) (i : Int) (M M' : Nat → Int → Int) : Prop := ∀ b j, ¬ (b = a ∧ j = i) → M' b j = M b j
theorem bc_match (hr : aRow r) (hw : rRow M r n w) (hpw : wOK n w) {c p len : Nat} {s : Int} {P : Nat → Int} (hs : s = 1 ∨ s = 2) (h0 : 0 < c) (hc : c ≤ 7) (hab : -100000 ≤ a ∧ a ≤ 100000)
    (hp : bm_tg p = 20 ∨ bm_tg p = 21) (hl : bm_ln p = len) (hp1 : p ≠ 1) (hpr : p ≠ r) (hlen : len < 1000) (hP : ∀ k : Nat, k < len → M p k = P k) :
    ∃ M', d_Row_match r a s c p (bM sl π M G e) = rI (bs_rd w n a s c P len) (bM sl π M' G e) ∧ fr1 r 2 M M' ∧ (bs_rd w n a s c P len ≠ -1 → M' r 2 = bs_cf (bs_u w a s) c) := by
  have hn := hw.2.1
  have hn2 := hw.1
  have e5 : wr (s * (wr ((c : Int) - 1))) = s * ((c : Int) - 1) := by rw [wr_id (x := (c : Int) - 1) (by omega), wr_id (by rcases hs with rfl | rfl <;> omega)]
  have e6 : wr (a + s * ((c : Int) - 1)) = a + s * ((c : Int) - 1) := wr_id (by rcases hs with rfl | rfl <;> omega)
  rw [d_Row_match_5 _ _ _ _ _ _ (row_d hr), x_Row_match_eq, e5, e6]
  unfold bs_rd
  by_cases q1 : 0 ≤ a ∧ a + s * ((c : Int) - 1) < n
  · have h1 := rRow_u (c := c) (s := s) (a := a) hw hpw (fun k hk => by rcases hs with rfl | rfl <;> omega)
    have h3 : M (r + 1) a = bs_u w a s 0 := by have := h1.1 0 h0; rw [show a + s * ((0 : Nat) : Int) = a by omega] at this; exact this
    have h2 := bc_match_0 (sl := sl) (e := e) (π := π) (G := G) (p := p) hr hs h0 hc (by omega) h1.1 h1.2 c 0 (by omega)
    rw [show a + s * ((0 : Nat) : Int) = a by omega] at h2
    simp (disch := first | assumption | exact row_d (by assumption) | exact seq_d (by assumption) | exact rdg_d (by assumption) | exact tal_d (by assumption) | omega) only [wr_id, row_w, row_I, row_r, row_s, row_p, row_l, hn, h3]
    rw [if_neg (by omega), if_neg (by rcases hs with rfl | rfl <;> omega), if_pos q1.2, if_pos q1]
    have h2' : x_Row_match_0 r a s p (a + s * (↑c - 1)) (bs_u w a s 0) (bs_u w a s 0) a (bM sl π M G e) = _ := h2
    rw [h2']
    unfold bs_mi
    by_cases q2 : 2 * bs_hi (bs_u w a s) c < 3 * bs_lo (bs_u w a s) c
    · rw [if_pos q2, if_pos q2]
      exact ⟨M, rfl, fun _ _ _ => rfl, fun h => absurd rfl h⟩
    · rw [if_neg q2, if_neg q2]
      have g1 := bs_lo_bd h0 h1.2 c (Nat.le_refl _)
      have g2 := bs_hi_bd h0 h1.2 c (Nat.le_refl _)
      have g3 := bs_lohi (bs_u w a s) c
      obtain ⟨q, hq, h4⟩ := bc_match_1 (sl := sl) (e := e) (π := π) (G := G) (p := p) (lo := bs_lo (bs_u w a s) c) (hi := bs_hi (bs_u w a s) c) hr hs h0 hc (by omega) h1.1 h1.2 ⟨g1.1, g3, g2.2⟩ hp hl hp1 hpr hlen hP c 0 (by omega)
      rw [show a + s * ((0 : Nat) : Int) = a by omega] at h4
      refine ⟨_, h4, fun b j hbj => up_ite.trans (if_neg hbj), fun _ => ?_⟩
      rw [up_s, hq]
      rfl
  · refine ⟨M, ?_, fun _ _ _ => rfl, fun h => absurd (if_neg q1) h⟩
    · rw [if_neg q1]
      simp (disch := first | assumption | exact row_d (by assumption) | exact seq_d (by assumption) | exact rdg_d (by assumption) | exact tal_d (by assumption) | omega) only [row_w, row_I, row_r, row_s, row_p, row_l, hn]
      by_cases q2 : a < 0
      · rw [if_pos q2]
      · rw [if_neg q2]
        by_cases q3 : a + s * ((c : Int) - 1) < a
        · rw [if_pos q3]
        · rw [if_neg q3, if_neg (by omega)]
end
