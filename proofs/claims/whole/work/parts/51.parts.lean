/-! FINDING WHOLE CODES, HEADS AND TAILS IN A ROW -/
def bs_fw (s : Nat) (w : Int → Int) (n : Int) : Nat → Int → Option (Int × List Ch × Int)
  | 0, _ => none
  | m + 1, b => if b < n then (match (if bs_be s w n b then bs_wh s w n b else none) with
    | some p => some (b, p.1, p.2)
    | none => bs_fw s w n m (b + 2)) else none
def bs_hd (s : Nat) (w : Int → Int) (n b : Int) : List Ch := if bs_be s w n b then bs_gu s w n b ++ bs_up s w n (bs_mu s) (b + bs_st s) else []
def bs_fh (s : Nat) (w : Int → Int) (n : Int) : Nat → Int → List Ch
  | 0, _ => []
  | m + 1, b => if b < n then (if 2 ≤ (bs_hd s w n b).length then bs_hd s w n b else bs_fh s w n m (b + 2)) else []
def bs_cb (s : Nat) (w : Int → Int) (n : Int) : Nat → Int → Nat
  | 0, _ => 0
  | m + 1, a => if (bs_un s w n (a - bs_us s)).isSome then bs_cb s w n m (a - bs_us s) + 1 else 0
def bs_fo (s : Nat) (w : Int → Int) (n : Int) : Nat → Int → List Ch
  | 0, _ => []
  | k + 1, a => (bs_un s w n a).getD [] ++ bs_fo s w n k (a + bs_us s)
def bs_tl (s : Nat) (w : Int → Int) (n b : Int) : List Ch :=
  if bs_en s w n b then bs_fo s w n (bs_cb s w n (bs_mu s) (b - bs_sp s)) (b - bs_sp s - bs_us s * (bs_cb s w n (bs_mu s) (b - bs_sp s))) ++ bs_gu s w n (b - bs_sp s) else []
def bs_ft (s : Nat) (w : Int → Int) (n : Int) : Nat → Int → List Ch
  | 0, _ => []
  | m + 1, b => if 0 < b then (if 2 ≤ (bs_tl s w n b).length then bs_tl s w n b else bs_ft s w n m (b - 2)) else []
def bs_nz (l : List Ch) : List Ch := if 2 ≤ l.length then l else []
theorem bs_up_len {s : Nat} {w : Int → Int} {n : Int} : ∀ (m : Nat) (a : Int), (s = 1 → (bs_up s w n m a).length ≤ 2 * m) ∧ (s ≠ 1 → (bs_up s w n m a).length ≤ m) := by
  intro m
  induction m with
  | zero => intro a; simp [bs_up]
  | succ m ih =>
    intro a
    have h1 := bs_un_len (s := s) (w := w) (n := n) (a := a)
    have h2 := ih (a + bs_us s)
    unfold bs_up
    cases hu : bs_un s w n a with
    | none => simp
    | some l =>
      rw [hu] at h1
      have h1 : (s = 1 → l.length ≤ 2) ∧ (s ≠ 1 → l.length ≤ 1) := h1
      dsimp only
      rw [List.length_append]
      constructor <;> intro h
      · have := h1.1 h; have := h2.1 h; omega
      · have := h1.2 h; have := h2.2 h; omega
theorem bs_fo_len {s : Nat} {w : Int → Int} {n : Int} : ∀ (m : Nat) (a : Int), (s = 1 → (bs_fo s w n m a).length ≤ 2 * m) ∧ (s ≠ 1 → (bs_fo s w n m a).length ≤ m) := by
  intro m
  induction m with
  | zero => intro a; simp [bs_fo]
  | succ m ih =>
    intro a
    have h1 := bs_un_len (s := s) (w := w) (n := n) (a := a)
    have h2 := ih (a + bs_us s)
    unfold bs_fo
    rw [List.length_append]
    constructor <;> intro h
    · have := h1.1 h; have := h2.1 h; omega
    · have := h1.2 h; have := h2.2 h; omega
theorem bs_cb_le {s : Nat} {w : Int → Int} {n : Int} : ∀ (m : Nat) (a : Int), bs_cb s w n m a ≤ m := by
  intro m
  induction m with
  | zero => intro a; exact Nat.le_refl _
  | succ m ih =>
    intro a
    have := ih (a - bs_us s)
    unfold bs_cb
    split <;> omega
section
variable {sl e : Nat} {π : Int → Nat} {G : Nat → Int → Int} {r q s : Nat} {n : Int} {w : Int → Int}
theorem bc_addHead_0 (hs : s < 3) (hr : aRow r) (hpw : wOK n w) (hq : aSeq q) : ∀ (d : Nat) (i a : Int) (M : Nat → Int → Int) (acc : List Ch), mCon M → rRow M r n w → rSeq M q acc → (s = 1 → acc.length + 2 * d ≤ 14) → (s ≠ 1 → acc.length + d + 1 ≤ 16) → i + d = bs_mu s → -1000 ≤ a ∧ a + 10 * d ≤ 1000 → 0 ≤ i →
    ∃ M', x_Sym_addHead_0 (22 + s) r q a i (bM sl π M G e) = rI 0 (bM sl π M' G e) ∧ fr (S_u r q) M M' ∧ rSeq M' q (acc ++ bs_up s w n d a) := by
  have hk := k_bd s
  intro d
  induction d with
  | zero =>
    intro i a M acc hM hw hl h1 h2 hi ha hi0
    rw [x_Sym_addHead_0_eq, k_S3 hs hM, if_neg (by omega)]
    exact ⟨M, rfl, fr_refl, by simpa [bs_up] using hl⟩
  | succ d ih =>
    intro i a M acc hM hw hl h1 h2 hi ha hi0
    have hul := bs_un_len (s := s) (w := w) (n := n) (a := a)
    obtain ⟨M1, g1, f1, l1⟩ := bc_unit (sl := sl) (e := e) (π := π) (G := G) hs hM hr hw hpw hq hl (a := a) (by omega) (by split <;> omega)
    rw [x_Sym_addHead_0_eq, k_S3 hs hM, if_pos (by omega), g1]
    simp only [cn_r, bi_eq0]
    rw [bs_up]
    cases hu : bs_un s w n a with
    | none =>
      rw [if_pos (show (none : Option (List Ch)).isSome = false from rfl)]
      rw [hu] at l1
      exact ⟨M1, rfl, f1, l1⟩
    | some ls =>
      rw [hu] at l1 hul
      have l1 : rSeq M1 q (acc ++ ls) := l1
      have hul : (s = 1 → ls.length ≤ 2) ∧ (s ≠ 1 → ls.length ≤ 1) := hul
      obtain ⟨hM1, w1⟩ := keep_u hr hq f1 hM hw
      have e1 : wr (a + bs_us s) = a + bs_us s := wr_id (by omega)
      have e3 : wr (i + 1) = i + 1 := wr_id (by omega)
      rw [if_neg (by simp), k_S2 hs hM1, e1, e3]
      obtain ⟨M3, g3, f3, l3⟩ := ih (i + 1) (a + bs_us s) M1 (acc ++ ls) hM1 w1 l1 (by rw [List.length_append]; omega) (by rw [List.length_append]; omega) (by omega) (by omega) (by omega)
      rw [g3]
      rw [List.append_assoc] at l3
      exact ⟨M3, rfl, fr_trans f1 f3, l3⟩
theorem x_addHead_d (hs : s < 3) {M : Nat → Int → Int} {b : Int} : d_Sym_addHead (22 + s) r b q (bM sl π M G e) = x_Sym_addHead (22 + s) r b q (bM sl π M G e) := by
  match s, hs with
  | 0, _ => exact d_Sym_addHead_2 _ _ _ _ _ k_22
  | 1, _ => exact d_Sym_addHead_3 _ _ _ _ _ k_23
  | 2, _ => exact d_Sym_addHead_1 _ _ _ _ _ k_24
theorem x_addTail_d (hs : s < 3) {M : Nat → Int → Int} {b : Int} : d_Sym_addTail (22 + s) r b q (bM sl π M G e) = x_Sym_addTail (22 + s) r b q (bM sl π M G e) := by
  match s, hs with
  | 0, _ => exact d_Sym_addTail_2 _ _ _ _ _ k_22
  | 1, _ => exact d_Sym_addTail_3 _ _ _ _ _ k_23
  | 2, _ => exact d_Sym_addTail_1 _ _ _ _ _ k_24
theorem bc_addHead {M : Nat → Int → Int} {b : Int} (hs : s < 3) (hM : mCon M) (hr : aRow r) (hw : rRow M r n w) (hpw : wOK n w) (hq : aSeq q) (hl : rSeq M q []) (hb : 0 ≤ b ∧ b ≤ 200) (hbe : bs_be s w n b = true) :
    ∃ M', d_Sym_addHead (22 + s) r b q (bM sl π M G e) = rI 0 (bM sl π M' G e) ∧ fr (S_u r q) M M' ∧ rSeq M' q (bs_hd s w n b) := by
  have hk := k_bd s
  rw [x_addHead_d hs, x_Sym_addHead_eq]
  obtain ⟨M1, g1, f1, l1⟩ := bc_guard (sl := sl) (e := e) (π := π) (G := G) hs hM hr hw hpw hq hl (a := b) (by omega) (by decide)
  obtain ⟨hM1, w1⟩ := keep_u hr hq f1 hM hw
  rw [g1]
  simp only [cu_r]
  rw [k_S0 hs hM1, wr_id (by omega)]
  have hgl := bs_gu_len (s := s) (w := w) (n := n) (a := b)
  obtain ⟨M2, g2, f2, l2⟩ := bc_addHead_0 (sl := sl) (e := e) (π := π) (G := G) hs hr hpw hq (bs_mu s) 0 (b + bs_st s) M1 ([] ++ bs_gu s w n b) hM1 w1 l1 (by rw [List.nil_append]; omega) (by rw [List.nil_append]; omega) (by omega) (by omega) (by omega)
  rw [g2]
  unfold bs_hd
  rw [hbe, if_pos rfl]
  exact ⟨M2, rfl, fr_trans f1 f2, l2⟩
theorem bc_addTail_1 (hs : s < 3) (hr : aRow r) (hpw : wOK n w) (hq : aSeq q) (k : Int) : ∀ (d : Nat) (i a : Int) (M : Nat → Int → Int) (acc : List Ch), mCon M → rRow M r n w → rSeq M q acc → (s = 1 → acc.length + 2 * d ≤ 14) → (s ≠ 1 → acc.length + d + 1 ≤ 16) → i + d = k → k ≤ 14 → -1000 ≤ a ∧ a + 10 * d ≤ 1000 → 0 ≤ i →
    ∃ M', x_Sym_addTail_1 (22 + s) r q a k i (bM sl π M G e) = rI 0 (bM sl π M' G e) ∧ fr (S_u r q) M M' ∧ rSeq M' q (acc ++ (bs_fo s w n d a ++ bs_gu s w n (a + bs_us s * d))) := by
  have hk := k_bd s
  intro d
  induction d with
  | zero =>
    intro i a M acc hM hw hl h1 h2 hi hk14 ha hi0
    rw [x_Sym_addTail_1_eq, if_neg (by omega)]
    obtain ⟨M1, g1, f1, l1⟩ := bc_guard (sl := sl) (e := e) (π := π) (G := G) hs hM hr hw hpw hq hl (a := a) (by omega) (by omega)
    rw [g1, show a + bs_us s * ((0 : Nat) : Int) = a by simp]
    exact ⟨M1, rfl, f1, l1⟩
  | succ d ih =>
    intro i a M acc hM hw hl h1 h2 hi hk14 ha hi0
    have hul := bs_un_len (s := s) (w := w) (n := n) (a := a)
    obtain ⟨M1, g1, f1, l1⟩ := bc_unit (sl := sl) (e := e) (π := π) (G := G) hs hM hr hw hpw hq hl (a := a) (by omega) (by split <;> omega)
    obtain ⟨hM1, w1⟩ := keep_u hr hq f1 hM hw
    have e1 : wr (a + bs_us s) = a + bs_us s := wr_id (by omega)
    have e3 : wr (i + 1) = i + 1 := wr_id (by omega)
    rw [x_Sym_addTail_1_eq, if_pos (by omega), g1]
    simp only [cn_r]
    rw [k_S2 hs hM1, e1, e3]
    obtain ⟨M3, g3, f3, l3⟩ := ih (i + 1) (a + bs_us s) M1 (acc ++ (bs_un s w n a).getD []) hM1 w1 l1 (by rw [List.length_append]; omega) (by rw [List.length_append]; omega) (by omega) hk14 (by omega) (by omega)
    rw [g3]
    rw [List.append_assoc, show a + bs_us s + bs_us s * (d : Int) = a + bs_us s * ((d + 1 : Nat) : Int) by rw [Int.natCast_add, Int.mul_add]; omega] at l3
    refine ⟨M3, rfl, fr_trans f1 f3, ?_⟩
    rw [bs_fo, List.append_assoc]
    exact l3
theorem bc_addTail_0 (hs : s < 3) (hr : aRow r) (hpw : wOK n w) (hq : aSeq q) : ∀ (d : Nat) (i : Nat) (a : Int) (M : Nat → Int → Int) (acc : List Ch), mCon M → rRow M r n w → rSeq M q acc → (s = 1 → acc.length + 2 * d ≤ 14) → (s ≠ 1 → acc.length + d + 1 ≤ 16) → i + d = bs_mu s → -1000 ≤ a - 10 * d ∧ a ≤ 500 →
    ∃ M', x_Sym_addTail_0 (22 + s) r q a i (bM sl π M G e) = rI 0 (bM sl π M' G e) ∧ fr (S_u r q) M M' ∧ rSeq M' q (bs_fo s w n (i + bs_cb s w n d a) (a - bs_us s * bs_cb s w n d a) ++ bs_gu s w n (a - bs_us s * bs_cb s w n d a + bs_us s * ((i + bs_cb s w n d a : Nat) : Int))) := by
  have hk := k_bd s
  have out : ∀ (i : Nat) (a : Int) (M : Nat → Int → Int), mCon M → rRow M r n w → i ≤ bs_mu s → -1000 ≤ a ∧ a + 10 * i ≤ 1000 → ∃ M', x_Sym_addTail_1 (22 + s) r q a i 0 (bM sl π (up M q 2 0) G e) = rI 0 (bM sl π M' G e) ∧ fr (S_u r q) M M' ∧ rSeq M' q (bs_fo s w n i a ++ bs_gu s w n (a + bs_us s * i)) := by
    intro i a M hM hw hi ha
    have f0 : fr (S_u r q) M (up M q 2 0) := fr_q0
    obtain ⟨hM0, w0⟩ := keep_u hr hq f0 hM hw
    obtain ⟨M1, g1, f1, l1⟩ := bc_addTail_1 (sl := sl) (e := e) (π := π) (G := G) hs hr hpw hq i i 0 a (up M q 2 0) [] hM0 w0 rSeq_0 (by have : ([] : List Ch).length = 0 := rfl; omega) (by have : ([] : List Ch).length = 0 := rfl; omega) (by omega) (by omega) ha (by omega)
    exact ⟨M1, g1, fr_trans f0 f1, l1⟩
  intro d
  induction d with
  | zero =>
    intro i a M acc hM hw hl h1 h2 hi ha
    rw [x_Sym_addTail_0_eq, k_S3 hs hM, if_neg (by omega), seq_p hq]
    obtain ⟨M1, g1, f1, l1⟩ := out i a M hM hw (by omega) (by omega)
    rw [g1]
    refine ⟨M1, rfl, f1, ?_⟩
    rw [show bs_cb s w n 0 a = 0 from rfl, show a - bs_us s * ((0 : Nat) : Int) = a by simp, show i + 0 = i from rfl]
    exact l1
  | succ d ih =>
    intro i a M acc hM hw hl h1 h2 hi ha
    have e1 : wr (a - bs_us s) = a - bs_us s := wr_id (by omega)
    have e3 : wr ((i : Int) + 1) = i + 1 := wr_id (by omega)
    have hul := bs_un_len (s := s) (w := w) (n := n) (a := a - bs_us s)
    obtain ⟨M1, g1, f1, l1⟩ := bc_unit (sl := sl) (e := e) (π := π) (G := G) hs hM hr hw hpw hq hl (a := a - bs_us s) (by omega) (by split <;> omega)
    obtain ⟨hM1, w1⟩ := keep_u hr hq f1 hM hw
    rw [x_Sym_addTail_0_eq, k_S3 hs hM, if_pos (by omega), k_S2 hs hM, e1, g1]
    simp only [cn_r, bi_eq0]
    rw [bs_cb]
    cases hu : (bs_un s w n (a - bs_us s)).isSome with
    | false =>
      rw [if_pos rfl, seq_p hq, if_neg (by decide)]
      obtain ⟨M2, g2, f2, l2⟩ := out i a M1 hM1 w1 (by omega) (by omega)
      rw [g2]
      refine ⟨M2, rfl, fr_trans f1 f2, ?_⟩
      rw [show a - bs_us s * ((0 : Nat) : Int) = a by simp, show i + 0 = i from rfl]
      exact l2
    | true =>
      rw [if_neg (by decide), k_S2 hs hM1, e1, e3, if_pos rfl]
      obtain ⟨M2, g2, f2, l2⟩ := ih (i + 1) (a - bs_us s) M1 _ hM1 w1 l1 (by rw [List.length_append]; omega) (by rw [List.length_append]; omega) (by omega) (by omega)
      rw [show (((i + 1 : Nat)) : Int) = (i : Int) + 1 by omega] at g2
      rw [g2]
      refine ⟨M2, rfl, fr_trans f1 f2, ?_⟩
      rw [show i + 1 + bs_cb s w n d (a - bs_us s) = i + (bs_cb s w n d (a - bs_us s) + 1) by omega, show a - bs_us s - bs_us s * (bs_cb s w n d (a - bs_us s) : Int) = a - bs_us s * ((bs_cb s w n d (a - bs_us s) + 1 : Nat) : Int) by rw [Int.natCast_add, Int.mul_add]; omega] at l2
      exact l2
theorem bc_addTail {M : Nat → Int → Int} {b : Int} (hs : s < 3) (hM : mCon M) (hr : aRow r) (hw : rRow M r n w) (hpw : wOK n w) (hq : aSeq q) (hl : rSeq M q []) (hb : 0 ≤ b ∧ b ≤ 200) (hbe : bs_en s w n b = true) :
    ∃ M', d_Sym_addTail (22 + s) r b q (bM sl π M G e) = rI 0 (bM sl π M' G e) ∧ fr (S_u r q) M M' ∧ rSeq M' q (bs_tl s w n b) := by
  have hk := k_bd s
  rw [x_addTail_d hs, x_Sym_addTail_eq, k_S1 hs hM, wr_id (by omega)]
  obtain ⟨M2, g2, f2, l2⟩ := bc_addTail_0 (sl := sl) (e := e) (π := π) (G := G) hs hr hpw hq (bs_mu s) 0 (b - bs_sp s) M [] hM hw hl (by have : ([] : List Ch).length = 0 := rfl; omega) (by have : ([] : List Ch).length = 0 := rfl; omega) (by omega) (by omega)
  rw [show ((0 : Nat) : Int) = 0 from rfl] at g2
  rw [g2]
  unfold bs_tl
  rw [hbe, if_pos rfl]
  refine ⟨M2, rfl, f2, ?_⟩
  rw [Nat.zero_add, show b - bs_sp s - bs_us s * (bs_cb s w n (bs_mu s) (b - bs_sp s) : Int) + bs_us s * (bs_cb s w n (bs_mu s) (b - bs_sp s) : Int) = b - bs_sp s by omega] at l2
  exact l2
end
