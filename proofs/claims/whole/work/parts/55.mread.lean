/-! THE MODEL READS CHARACTERS -/
def al (v : Int) : Int := bs_al v.toNat
theorem al_dig : ∀ k : Nat, k < 10 → bs_al k = 48 + (k : Int) := by decide
theorem al_d {v : Int} (h : 0 ≤ v ∧ v < 10) : al v = 48 + v := by
  have := al_dig v.toNat (by omega)
  unfold al
  omega
def mRow (M : Nat → Int → Int) (n : Int) (w : Int → Int) : Prop := (0 ≤ n ∧ n ≤ 129) ∧ M 867 16 = n ∧ ∀ i, 0 ≤ i ∧ i < n → M 878 i = w i
def mSeq (M : Nat → Int → Int) (l : List Ch) : Prop := M 867 19 = l.length ∧ l.length ≤ 16 ∧ ∀ (k : Nat) (c : Ch), l[k]? = some c → M 879 k = al c.1 ∧ M 880 k = c.2
def mMod (M : Nat → Int → Int) : Prop :=
  (∀ k : Nat, k < 10 → M 873 k = ([3211, 2221, 2122, 1411, 1132, 1231, 1114, 1312, 1213, 3112] : List Int).getD k 0) ∧ (∀ k : Nat, k < 10 → M 874 k = bs_P5 k) ∧ (∀ k : Nat, k < 20 → M 875 k = bs_P7 k) ∧ mCon M
def S_w (b : Nat) (j : Int) : Prop := b = 867 ∧ (j = 20 ∨ j = 21)
def S_m (b : Nat) (j : Int) : Prop := (b = 867 ∧ (j = 19 ∨ j = 20 ∨ j = 21)) ∨ b = 879 ∨ b = 880
theorem S_wm {b : Nat} {j : Int} (h : S_w b j) : S_m b j := by unfold S_w at h; unfold S_m; omega
theorem mMod_fr {S : Nat → Int → Prop} {M M' : Nat → Int → Int} (h : mMod M) (f : fr S M M') (hs : ∀ b j, S b j → 867 ≤ b ∧ ¬ (873 ≤ b ∧ b ≤ 875)) : mMod M' := by
  obtain ⟨h1, h2, h3, h4⟩ := h
  refine ⟨fun k q => ?_, fun k q => ?_, fun k q => ?_, mCon_fr h4 f fun b j z => by have := hs b j z; omega⟩
  · rw [f 873 _ (fun z => by have := hs _ _ z; omega)]; exact h1 k q
  · rw [f 874 _ (fun z => by have := hs _ _ z; omega)]; exact h2 k q
  · rw [f 875 _ (fun z => by have := hs _ _ z; omega)]; exact h3 k q
theorem mRow_fr {S : Nat → Int → Prop} {M M' : Nat → Int → Int} {n : Int} {w : Int → Int} (h : mRow M n w) (f : fr S M M') (hs : ¬ S 867 16 ∧ ∀ j, ¬ S 878 j) : mRow M' n w :=
  ⟨h.1, (f _ _ hs.1).trans h.2.1, fun i hi => (f _ _ (hs.2 i)).trans (h.2.2 i hi)⟩
theorem mSeq_fr {S : Nat → Int → Prop} {M M' : Nat → Int → Int} {l : List Ch} (h : mSeq M l) (f : fr S M M') (hs : ¬ S 867 19 ∧ ∀ j, ¬ S 879 j ∧ ¬ S 880 j) : mSeq M' l :=
  ⟨(f _ _ hs.1).trans h.1, h.2.1, fun k c hk => ⟨(f _ _ (hs.2 _).1).trans (h.2.2 k c hk).1, (f _ _ (hs.2 _).2).trans (h.2.2 k c hk).2⟩⟩
theorem S_m_in {b : Nat} {j : Int} (h : S_m b j) : 867 ≤ b ∧ ¬ (873 ≤ b ∧ b ≤ 875) := by unfold S_m at h; omega
theorem S_m_row : ¬ S_m 867 16 ∧ ∀ j, ¬ S_m 878 j := ⟨by unfold S_m; omega, fun j => by unfold S_m; omega⟩
theorem S_w_seq : ¬ S_w 867 19 ∧ ∀ j, ¬ S_w 879 j ∧ ¬ S_w 880 j := ⟨by unfold S_w; omega, fun j => ⟨by unfold S_w; omega, by unfold S_w; omega⟩⟩
theorem keep_m {M M' : Nat → Int → Int} {n : Int} {w : Int → Int} (f : fr S_m M M') (h : mMod M) (hw : mRow M n w) : mMod M' ∧ mRow M' n w :=
  ⟨mMod_fr h f fun _ _ => S_m_in, mRow_fr hw f S_m_row⟩
theorem mSeq_0 {M : Nat → Int → Int} : mSeq (up M 867 19 0) [] := ⟨up_s, by decide, fun k c h => by cases h⟩
theorem fr_m0 {M : Nat → Int → Int} {v : Int} : fr S_m M (up M 867 19 v) := fr_up (Or.inl ⟨rfl, Or.inl rfl⟩) fr_refl
section
variable {sl e : Nat} {π : Int → Nat} {M G : Nat → Int → Int} {n a : Int} {w : Int → Int} {l : List Ch}
theorem bw_exists (hn : M 867 16 = n) {c : Int} (hb : -100000 ≤ a + c ∧ a + c ≤ 100000) : d_M_exists 867 a c (bM sl π M G e) = rI (bi (decide (0 ≤ a ∧ a + c ≤ n))) (bM sl π M G e) := by
  rw [d_M_exists_10 _ _ _ _ mo_d, x_M_exists_eq, mo_I, hn, wr_id (by omega)]
  by_cases q1 : a < 0
  · rw [if_pos q1, decide_eq_false (by omega)]; rfl
  · rw [if_neg q1]
    by_cases q2 : n < a + c
    · rw [if_pos q2, decide_eq_false (by omega)]; rfl
    · rw [if_neg q2, decide_eq_true (by omega)]; rfl
theorem bw_leastOf_0 {u : Nat → Int} {c : Nat} (h0 : 0 < c) (ha : 0 ≤ a ∧ a + c ≤ 129) (hu : ∀ k : Nat, k < c → M 878 (a + k) = u k) : ∀ d m : Nat, m + d = c → x_M_leastOf_0 867 a c (bs_lo u m) (a + m) (bM sl π M G e) = rI (bs_lo u c) (bM sl π M G e) := by
  intro d
  induction d with
  | zero =>
    intro m hm
    have e1 : m = c := by omega
    subst e1
    rw [x_M_leastOf_0_eq, wr_id (by omega), if_neg (by omega)]
  | succ d ih =>
    intro m hm
    have ih := ih (m + 1) (by omega)
    have h4 := hu m (by omega)
    rw [show (a + ((m + 1 : Nat) : Int)) = a + m + 1 by omega] at ih
    rw [x_M_leastOf_0_eq]
    simp (disch := first | assumption | exact row_d (by assumption) | exact seq_d (by assumption) | exact rdg_d (by assumption) | exact tal_d (by assumption) | omega) only [wr_id, mo_R15, mo_r878, h4]
    rw [if_pos (by omega)]
    simp only [bs_lo] at ih
    by_cases q1 : u m < bs_lo u m <;> simp only [q1, if_true, if_false] at ih ⊢ <;> exact ih
theorem mRow_u {c : Nat} {s : Int} (hw : mRow M n w) (hp : wOK n w) (hk : ∀ k : Nat, k < c → 0 ≤ a + s * k ∧ a + s * k < n) : (∀ k : Nat, k < c → M 878 (a + s * k) = bs_u w a s k) ∧ ∀ k : Nat, k < c → 1 ≤ bs_u w a s k ∧ bs_u w a s k ≤ 10000 :=
  ⟨fun k h => hw.2.2 _ (hk k h), fun k h => hp _ (hk k h)⟩
theorem bw_leastOf (hw : mRow M n w) (hp : wOK n w) {c : Nat} (h0 : 0 < c) (ha : 0 ≤ a ∧ a + c ≤ n) : d_M_leastOf 867 a c (bM sl π M G e) = rI (bs_lo (bs_u w a 1) c) (bM sl π M G e) := by
  have hn := hw.1
  have h1 := mRow_u (c := c) (s := 1) (a := a) hw hp (fun k hk => by omega)
  simp only [Int.one_mul] at h1
  have h2 := bw_leastOf_0 (sl := sl) (e := e) (π := π) (G := G) h0 (by omega) h1.1 c 0 (by omega)
  have h3 : M 878 a = bs_u w a 1 0 := by have := h1.1 0 h0; rw [show a + ((0 : Nat) : Int) = a by omega] at this; exact this
  rw [show a + ((0 : Nat) : Int) = a by omega] at h2
  rw [d_M_leastOf_10 _ _ _ _ mo_d, x_M_leastOf_eq, mo_R15, mo_r878 (by omega), h3]
  exact h2
theorem bw_areEven_0 (hw : mRow M n w) (hp : wOK n w) {c : Nat} (h0 : 0 < c) (ha : 0 ≤ a ∧ a + c ≤ n) : ∀ d m : Nat, m + d = c → x_M_areEven_0 867 a c (if m = 0 then 0 else bs_hi (bs_u w a 1) m) (a + m) (bM sl π M G e) = rI (bi (bs_even w n a c)) (bM sl π M G e) := by
  have hn := hw.1
  have h1 := mRow_u (c := c) (s := 1) (a := a) hw hp (fun k hk => by omega)
  simp only [Int.one_mul] at h1
  intro d
  induction d with
  | zero =>
    intro m hm
    have e1 : m = c := by omega
    subst e1
    have g1 := bs_lo_bd h0 h1.2 m (Nat.le_refl _)
    rw [x_M_areEven_0_eq, wr_id (by omega), if_neg (by omega), bw_leastOf hw hp h0 ha]
    simp only [ci_r]
    rw [if_neg (show ¬ m = 0 by omega), wr_id (by omega)]
    unfold bs_even
    rw [decide_eq_true ha, Bool.true_and]
    by_cases q : bs_hi (bs_u w a 1) m ≤ 2 * bs_lo (bs_u w a 1) m
    · rw [if_neg (by omega), decide_eq_true q]; rfl
    · rw [if_pos (by omega), decide_eq_false q]; rfl
  | succ d ih =>
    intro m hm
    have ih := ih (m + 1) (by omega)
    have h4 := h1.1 m (by omega)
    have h5 := h1.2 m (by omega)
    rw [show (a + ((m + 1 : Nat) : Int)) = a + m + 1 by omega, if_neg (show ¬ m + 1 = 0 by omega)] at ih
    rw [x_M_areEven_0_eq, wr_id (x := a + ↑c) (by omega), if_pos (by omega), wr_id (x := a + ↑m + 1) (by omega)]
    simp (disch := first | assumption | exact row_d (by assumption) | exact seq_d (by assumption) | exact rdg_d (by assumption) | exact tal_d (by assumption) | omega) only [mo_R15, mo_r878, h4]
    by_cases hm0 : m = 0
    · subst hm0
      rw [if_pos rfl, if_pos (by omega)]
      simp only [bs_hi, Int.lt_irrefl, if_false] at ih
      exact ih
    · rw [if_neg hm0]
      simp only [bs_hi] at ih
      by_cases q1 : bs_hi (bs_u w a 1) m < bs_u w a 1 m <;> simp only [q1, if_true, if_false] at ih ⊢ <;> exact ih
theorem bw_areEven (hw : mRow M n w) (hp : wOK n w) {c : Nat} (h0 : 0 < c) (ha : 0 ≤ a ∧ a + c ≤ n) : d_M_areEven 867 a c (bM sl π M G e) = rI (bi (bs_even w n a c)) (bM sl π M G e) := by
  have h := bw_areEven_0 (sl := sl) (e := e) (π := π) (G := G) hw hp h0 ha c 0 (by omega)
  rw [if_pos rfl, show a + ((0 : Nat) : Int) = a by omega] at h
  rw [d_M_areEven_10 _ _ _ _ mo_d, x_M_areEven_eq]
  exact h
theorem bw_signsOne (hl : mSeq M l) (h : l.length < 16) (v c x : Int) (hx : x = al v) : ∃ M', d_M_signsOne 867 x c (bM sl π M G e) = rI 0 (bM sl π M' G e) ∧ fr S_m M M' ∧ (∀ j, j ≠ 19 → M' 867 j = M 867 j) ∧ mSeq M' (l ++ [(v, c)]) := by
  subst hx
  refine ⟨up (up (up M 879 l.length (al v)) 880 l.length c) 867 19 (l.length + 1), ?_, ?_, ?_, ?_⟩
  · rw [d_M_signsOne_10 _ _ _ _ mo_d, x_M_signsOne_eq]
    have u1 : ∀ A x y z, up A 879 x y 867 z = A 867 z := fun A x y z => up_a (by decide)
    have u2 : ∀ A x y z, up A 880 x y 867 z = A 867 z := fun A x y z => up_a (by decide)
    simp (disch := first | assumption | exact row_d (by assumption) | exact seq_d (by assumption) | exact rdg_d (by assumption) | exact tal_d (by assumption) | omega) only [mo_I, mo_p, mo_R17, mo_R18, mo_w879, mo_w880, u1, u2, wr_id, hl.1]
  · exact fr_up (Or.inl ⟨rfl, Or.inl rfl⟩) (fr_up (Or.inr (Or.inr rfl)) (fr_up (Or.inr (Or.inl rfl)) fr_refl))
  · intro j hj
    rw [up_i hj, up_a (by decide), up_a (by decide)]
  · refine ⟨?_, ?_, fun k d hk => ?_⟩
    · rw [up_s, List.length_append]; simp
    · rw [List.length_append]; simp; omega
    · have ha : ∀ j, (up (up (up M 879 l.length (al v)) 880 l.length c) 867 19 (l.length + 1)) 879 j = if j = l.length then al v else M 879 j := fun j => by
        rw [up_a (by decide), up_a (by decide), up_ite]
        by_cases z : j = l.length
        · rw [if_pos ⟨rfl, z⟩, if_pos z]
        · rw [if_neg fun y => z y.2, if_neg z]
      have hb : ∀ j, (up (up (up M 879 l.length (al v)) 880 l.length c) 867 19 (l.length + 1)) 880 j = if j = l.length then c else M 880 j := fun j => by
        rw [up_a (by decide), up_ite]
        by_cases z : j = l.length
        · rw [if_pos ⟨rfl, z⟩, if_pos z]
        · rw [if_neg fun y => z y.2, if_neg z, up_a (by decide)]
      rw [ha, hb]
      rw [List.getElem?_append] at hk
      split at hk
      · rename_i hk1
        rw [if_neg (by omega), if_neg (by omega)]
        exact hl.2.2 k d hk
      · rename_i hk1
        have hk2 : k = l.length := by
          rcases Nat.lt_or_ge (k - l.length) 1 with z | z
          · omega
          · rw [List.getElem?_eq_none (by simpa using z)] at hk; cases hk
        subst hk2
        simp at hk
        subst hk
        exact ⟨if_pos rfl, if_pos rfl⟩
end
