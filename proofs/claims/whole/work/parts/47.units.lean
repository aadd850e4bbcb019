/-! CONSTANTS, FRAMES, SEQUENCES -/
abbrev Ch : Type := Int × Int
def bs_E : Nat → Int := fun k => ([3, 2, 1, 1, 2, 2, 2, 1, 2, 1, 2, 2, 1, 4, 1, 1, 1, 1, 3, 2, 1, 2, 3, 1, 1, 1, 1, 4, 1, 3, 1, 2, 1, 2, 1, 3, 3, 1, 1, 2] : List Int).getD k 0
def bs_P5 : Nat → Int := fun k => ([6, 17, 9, 24, 5, 20, 12, 3, 18, 10] : List Int).getD k 0
def bs_P7 : Nat → Int := fun k => ([3, 6, 9, 96, 18, 66, 33, 36, 48, 72, 12, 24, 69, 81, 84, 21, 26, 41, 11, 14] : List Int).getD k 0
/-- the characters of the values -/
def bs_al : Nat → Int := fun k => ([48, 49, 50, 51, 52, 53, 54, 55, 56, 57, 45, 36, 58, 47, 46, 43, 65, 66, 67, 68] : List Int).getD k 0
def bs_st (s : Nat) : Int := if s = 0 then 3 else if s = 1 then 4 else 8
def bs_sp (s : Nat) : Int := if s = 0 then 2 else if s = 1 then 2 else 6
def bs_us (s : Nat) : Int := if s = 0 then 4 else if s = 1 then 10 else 8
def bs_mu (s : Nat) : Nat := if s = 0 then 4 else if s = 1 then 7 else 14
def mCon (M : Nat → Int → Int) : Prop :=
  (∀ k : Nat, k < 40 → M 2 k = bs_E k) ∧ (∀ k : Nat, k < 10 → M 3 k = bs_P5 k) ∧ (∀ k : Nat, k < 20 → M 4 k = bs_P7 k) ∧
  (∀ s, s < 3 → M (22 + s) 0 = bs_st s ∧ M (22 + s) 1 = bs_sp s ∧ M (22 + s) 2 = bs_us s ∧ M (22 + s) 3 = bs_mu s) ∧
  (M 5 1 = 0 ∧ M 6 1 = 0) ∧ (∀ k : Nat, k < 20 → M 7 k = bs_al k) ∧ ∀ k : Nat, k < 20 → M 8 k = bs_al k
def fr (S : Nat → Int → Prop) (M M' : Nat → Int → Int) : Prop := ∀ b j, ¬ S b j → M' b j = M b j
theorem fr_refl {S : Nat → Int → Prop} {M : Nat → Int → Int} : fr S M M := fun _ _ _ => rfl
theorem fr_trans {S : Nat → Int → Prop} {M M' M'' : Nat → Int → Int} (h : fr S M M') (h' : fr S M' M'') : fr S M M'' := fun b j q => (h' b j q).trans (h b j q)
theorem fr_mono {S T : Nat → Int → Prop} {M M' : Nat → Int → Int} (hs : ∀ b j, S b j → T b j) (h : fr S M M') : fr T M M' := fun b j q => h b j fun z => q (hs b j z)
theorem fr_up {S : Nat → Int → Prop} {M M' : Nat → Int → Int} {a : Nat} {i v : Int} (hs : S a i) (h : fr S M M') : fr S M (up M' a i v) := fun b j q => by
  rw [up_ite, if_neg (fun z => q (by rw [z.1, z.2]; exact hs))]
  exact h b j q
theorem mCon_fr {S : Nat → Int → Prop} {M M' : Nat → Int → Int} (hc : mCon M) (h : fr S M M') (hs : ∀ b j, S b j → 16 ≤ b ∧ ¬ (22 ≤ b ∧ b ≤ 24)) : mCon M' := by
  have k1 : ∀ b j, (b < 16 ∨ (22 ≤ b ∧ b ≤ 24)) → M' b j = M b j := fun b j q => h b j fun z => by have := hs b j z; omega
  obtain ⟨h1, h2, h3, h4, ⟨h5, h5'⟩, h6, h7⟩ := hc
  refine ⟨fun k q => ?_, fun k q => ?_, fun k q => ?_, fun s q => ?_, ⟨?_, ?_⟩, fun k q => ?_, fun k q => ?_⟩
  · rw [k1 2 _ (by omega)]; exact h1 k q
  · rw [k1 3 _ (by omega)]; exact h2 k q
  · rw [k1 4 _ (by omega)]; exact h3 k q
  · rw [k1 (22 + s) _ (by omega), k1 (22 + s) _ (by omega), k1 (22 + s) _ (by omega), k1 (22 + s) _ (by omega)]; exact h4 s q
  · rw [k1 5 _ (by omega)]; exact h5
  · rw [k1 6 _ (by omega)]; exact h5'
  · rw [k1 7 _ (by omega)]; exact h6 k q
  · rw [k1 8 _ (by omega)]; exact h7 k q
theorem rRow_fr {S : Nat → Int → Prop} {M M' : Nat → Int → Int} {r : Nat} {n : Int} {w : Int → Int} (hw : rRow M r n w) (h : fr S M M') (h1 : ¬ S r 1) (h2 : ∀ j, ¬ S (r + 1) j) : rRow M' r n w :=
  ⟨hw.1, (h r 1 h1).trans hw.2.1, fun i hi => (h _ _ (h2 i)).trans (hw.2.2 i hi)⟩
def rSeq (M : Nat → Int → Int) (q : Nat) (l : List Ch) : Prop := M q 2 = l.length ∧ l.length ≤ 16 ∧ ∀ (k : Nat) (c : Ch), l[k]? = some c → M (q + 1) k = c.1 ∧ M (q + 2) k = c.2
theorem rSeq_fr {S : Nat → Int → Prop} {M M' : Nat → Int → Int} {q : Nat} {l : List Ch} (hl : rSeq M q l) (h : fr S M M') (hs : ∀ b j, q ≤ b ∧ b ≤ q + 2 → ¬ S b j) : rSeq M' q l :=
  ⟨(h _ _ (hs _ _ (by omega))).trans hl.1, hl.2.1, fun k c hk => ⟨(h _ _ (hs _ _ (by omega))).trans (hl.2.2 k c hk).1, (h _ _ (hs _ _ (by omega))).trans (hl.2.2 k c hk).2⟩⟩
theorem aRow_in {r : Nat} (h : aRow r) : r = 18 ∨ (42 ≤ r ∧ r ≤ 834) := tg5 r (tg_hi (by rw [h.1]; decide)) h.1
theorem aSeq_in {r : Nat} (h : aSeq r) : r = 48 ∨ (56 ≤ r ∧ r ≤ 864) := tg7 r (tg_hi (by rw [h.1]; decide)) h.1
theorem aRdg_in {r : Nat} (h : aRdg r) : 55 ≤ r ∧ r ≤ 857 := tg4 r (tg_hi (by rw [h.1]; decide)) h.1
theorem a_ne {a b : Nat} {p q : Nat} (h : bm_tg a = p) (h' : bm_tg b = q) (hn : p ≠ q) : a ≠ b := by rintro rfl; exact hn (h.symm.trans h')
theorem aRS {r q : Nat} (hr : aRow r) (hq : aSeq q) : ¬ (q ≤ r ∧ r ≤ q + 2) ∧ ¬ (q ≤ r + 1 ∧ r + 1 ≤ q + 2) := by
  have h1 := a_ne hr.1 hq.1 (by decide)
  have h2 := a_ne hr.1 hq.2.1.1 (by decide)
  have h3 := a_ne hr.1 hq.2.1.2 (by decide)
  have h4 := a_ne hr.2.1 hq.1 (by decide)
  omega
theorem aSS {p q : Nat} (hp : aSeq p) (hq : aSeq q) (h : p ≠ q) : p + 2 < q ∨ q + 2 < p := by
  have h1 := a_ne hp.1 hq.2.1.1 (by decide)
  have h2 := a_ne hp.1 hq.2.1.2 (by decide)
  have h4 := a_ne hp.2.1.1 hq.1 (by decide)
  have h5 := a_ne hp.2.1.2 hq.1 (by decide)
  omega
theorem aRR {p q : Nat} (hp : aRow p) (hq : aRow q) (h : p ≠ q) : p + 1 < q ∨ q + 1 < p := by
  have h1 := a_ne hp.1 hq.2.1 (by decide)
  have h4 := a_ne hp.2.1 hq.1 (by decide)
  omega
def S_1 (r : Nat) (b : Nat) (j : Int) : Prop := b = r ∧ j = 2
def S_q (q : Nat) (b : Nat) (_ : Int) : Prop := q ≤ b ∧ b ≤ q + 2
def S_u (r q : Nat) (b : Nat) (j : Int) : Prop := (b = r ∧ j = 2) ∨ (q ≤ b ∧ b ≤ q + 2)
section
variable {sl e : Nat} {π : Int → Nat} {M G : Nat → Int → Int} {r q : Nat} {n a : Int} {w : Int → Int} {l : List Ch}
theorem bc_Seq_add (hq : aSeq q) (hl : rSeq M q l) (h : l.length < 16) (v c : Int) : ∃ M', d_Seq_add q v c (bM sl π M G e) = rI 0 (bM sl π M' G e) ∧ fr (S_q q) M M' ∧ rSeq M' q (l ++ [(v, c)]) := by
  refine ⟨up (up (up M (q + 1) l.length v) (q + 2) l.length c) q 2 (l.length + 1), ?_, ?_, ?_⟩
  · rw [d_Seq_add_7 _ _ _ _ (seq_d hq), x_Seq_add_eq]
    simp (disch := first | assumption | exact row_d (by assumption) | exact seq_d (by assumption) | exact rdg_d (by assumption) | exact tal_d (by assumption) | omega) only [seq_v, seq_c, seq_I, seq_rv, seq_rc, seq_sv, seq_sc, seq_p, seq_lv, seq_lc, up_s, up_a, up_i, wr_id, hl.1]
    rw [if_pos (by omega)]
  · exact fr_up (by unfold S_q; omega) (fr_up (by unfold S_q; omega) (fr_up (by unfold S_q; omega) fr_refl))
  · refine ⟨?_, ?_, fun k d hk => ?_⟩
    · rw [up_s, List.length_append]; simp
    · rw [List.length_append]; simp; omega
    · have ha : ∀ j, (up (up (up M (q + 1) l.length v) (q + 2) l.length c) q 2 (l.length + 1)) (q + 1) j = up M (q + 1) l.length v (q + 1) j := fun j => by rw [up_a (by omega), up_a (by omega)]
      have hb : ∀ j, (up (up (up M (q + 1) l.length v) (q + 2) l.length c) q 2 (l.length + 1)) (q + 2) j = if j = l.length then c else M (q + 2) j := fun j => by
        rw [up_a (by omega), up_ite]
        by_cases z : j = l.length
        · rw [if_pos ⟨rfl, z⟩, if_pos z]
        · rw [if_neg fun y => z y.2, if_neg z, up_a (by omega)]
      rw [ha, hb]
      rw [List.getElem?_append] at hk
      split at hk
      · rename_i hk1
        rw [up_i (by omega), if_neg (by omega)]
        exact hl.2.2 k d hk
      · rename_i hk1
        have hk2 : k = l.length := by
          rcases Nat.lt_or_ge (k - l.length) 1 with z | z
          · omega
          · rw [List.getElem?_eq_none (by simpa using z)] at hk; cases hk
        subst hk2
        simp at hk
        subst hk
        exact ⟨up_s, if_pos rfl⟩
theorem bc_match5 (hM : mCon M) (hr : aRow r) (hw : rRow M r n w) (hpw : wOK n w) (hab : -100000 ≤ a ∧ a ≤ 100000) :
    ∃ M', d_Row_match r a 2 5 3 (bM sl π M G e) = rI (bs_rd w n a 2 5 bs_P5 10) (bM sl π M' G e) ∧ fr (S_1 r) M M' ∧ (bs_rd w n a 2 5 bs_P5 10 ≠ -1 → M' r 2 = bs_cf (bs_u w a 2) 5) := by
  obtain ⟨M', h1, h2, h3⟩ := bc_match (sl := sl) (e := e) (π := π) (G := G) (c := 5) (p := 3) (len := 10) (s := 2) (P := bs_P5) hr hw hpw (Or.inr rfl) (by decide) (by decide) hab (Or.inr (by decide)) (by decide) (by decide) (by have := aRow_in hr; omega) (by decide) hM.2.1
  exact ⟨M', h1, h2, h3⟩
theorem bc_match7 (hM : mCon M) (hr : aRow r) (hw : rRow M r n w) (hpw : wOK n w) (hab : -100000 ≤ a ∧ a ≤ 100000) :
    ∃ M', d_Row_match r a 1 7 4 (bM sl π M G e) = rI (bs_rd w n a 1 7 bs_P7 20) (bM sl π M' G e) ∧ fr (S_1 r) M M' ∧ (bs_rd w n a 1 7 bs_P7 20 ≠ -1 → M' r 2 = bs_cf (bs_u w a 1) 7) := by
  obtain ⟨M', h1, h2, h3⟩ := bc_match (sl := sl) (e := e) (π := π) (G := G) (c := 7) (p := 4) (len := 20) (s := 1) (P := bs_P7) hr hw hpw (Or.inl rfl) (by decide) (by decide) hab (Or.inr (by decide)) (by decide) (by decide) (by have := aRow_in hr; omega) (by decide) hM.2.2.1
  exact ⟨M', h1, h2, h3⟩
end
/-! UNITS: a digit, a pair, a character -/
def bs_e (x s : Int) : Int := Int.tdiv (14 * x + s) (2 * s)
def bs_ab (x : Int) : Int := if x < 0 then -x else x
def bs_mx (x y : Int) : Int := if x < y then y else x
def bs_dig (k : Int) (b : Bool) : Int :=
  if k = 22 then 6 else if k = 24 then 4 else if k = 33 then (if b then 2 else 8) else if k = 35 then 5 else if k = 42 then 9 else if k = 44 then (if b then 1 else 7) else if k = 53 then 0 else if k = 55 then 3 else -1
theorem bs_dig_bd {k : Int} {b : Bool} : -1 ≤ bs_dig k b ∧ bs_dig k b < 10 := by
  unfold bs_dig
  repeat' split
  all_goals omega
def bs_ms (x s : Int) : Int := bs_ab (7 * x - bs_e x s * s)
theorem bs_e_bd {x s : Int} (hs : 0 < s) (hx : 0 ≤ x ∧ x ≤ s) : (0 ≤ bs_e x s ∧ bs_e x s ≤ 7) ∧ 2 * (bs_e x s * s) ≤ 14 * x + s ∧ 14 * x + s < 2 * (bs_e x s * s) + 2 * s := by
  have h0 : bs_e x s = (14 * x + s) / (2 * s) := Int.tdiv_eq_ediv_of_nonneg (by omega)
  have h1 := Int.mul_ediv_add_emod (14 * x + s) (2 * s)
  have h2 := Int.emod_nonneg (14 * x + s) (b := 2 * s) (by omega)
  have h3 := Int.emod_lt_of_pos (14 * x + s) (b := 2 * s) (by omega)
  have h4 : 0 ≤ (14 * x + s) / (2 * s) := Int.ediv_nonneg (by omega) (by omega)
  rw [← h0] at h1 h4
  have h5 : 2 * s * bs_e x s = 2 * (bs_e x s * s) := by rw [Int.mul_assoc, Int.mul_comm s]
  rw [h5] at h1
  refine ⟨⟨h4, ?_⟩, by omega, by omega⟩
  rcases Int.lt_or_le (bs_e x s) 8 with q | q
  · omega
  · have := Int.mul_le_mul_of_nonneg_right q (show 0 ≤ s by omega)
    omega
theorem bs_ms_bd {x s : Int} (hs : 0 < s) (hx : 0 ≤ x ∧ x ≤ s) : 0 ≤ bs_ms x s ∧ 2 * bs_ms x s ≤ s := by
  have h := bs_e_bd hs hx
  unfold bs_ms bs_ab
  split <;> omega
theorem bs_cE_bd {m s : Int} (hs : 0 < s) (hm : 0 ≤ m ∧ 2 * m ≤ s) : 0 ≤ Int.tdiv (200 * m) s ∧ Int.tdiv (200 * m) s ≤ 100 := by
  rw [Int.tdiv_eq_ediv_of_nonneg (by omega)]
  exact ⟨Int.ediv_nonneg (by omega) (by omega), Int.ediv_le_of_le_mul (by omega) (by omega)⟩
def bs_unE (w : Int → Int) (n a : Int) : Option (List Ch) :=
  if 0 ≤ a ∧ a + 4 ≤ n then
    let s := w a + w (a + 1) + w (a + 2) + w (a + 3)
    let g := bs_dig (10 * bs_e (w a + w (a + 1)) s + bs_e (w (a + 1) + w (a + 2)) s) (decide (3 * s ≤ 7 * (w a + w (a + 2))))
    if g = -1 then none else some [(g, 100 - Int.tdiv (200 * bs_mx (bs_ms (w a + w (a + 1)) s) (bs_ms (w (a + 1) + w (a + 2)) s)) s)]
  else none
def bs_unI (w : Int → Int) (n a : Int) : Option (List Ch) :=
  if bs_rd w n a 2 5 bs_P5 10 = -1 then none else if bs_rd w n (a + 1) 2 5 bs_P5 10 = -1 then none else
  some [(bs_rd w n a 2 5 bs_P5 10, bs_cf (bs_u w a 2) 5), (bs_rd w n (a + 1) 2 5 bs_P5 10, bs_cf (bs_u w (a + 1) 2) 5)]
/-- the value of a character of Codabar; none: -1 -/
def bs_v7 (w : Int → Int) (n a : Int) : Int := bs_rd w n a 1 7 bs_P7 20
def bs_unC (w : Int → Int) (n a : Int) : Option (List Ch) :=
  if bs_v7 w n a < 0 then none else if bs_v7 w n a < 16 then some [(bs_v7 w n a, bs_cf (bs_u w a 1) 7)] else none
def bs_un (s : Nat) (w : Int → Int) (n a : Int) : Option (List Ch) := if s = 0 then bs_unE w n a else if s = 1 then bs_unI w n a else bs_unC w n a
/-- the letter of a start or a stop -/
def bs_gu (s : Nat) (w : Int → Int) (n a : Int) : List Ch := if s = 2 then (if bs_v7 w n a < 16 then [] else [(bs_v7 w n a, bs_cf (bs_u w a 1) 7)]) else []
def bs_be (s : Nat) (w : Int → Int) (n a : Int) : Bool :=
  if s = 0 then bs_even w n a 3 && bs_quiet w n (a - 1) a 3 else if s = 1 then bs_even w n a 4 && bs_quiet w n (a - 1) a 4 else decide (16 ≤ bs_v7 w n a) && bs_quiet w n (a - 1) a 7
def bs_en (s : Nat) (w : Int → Int) (n a : Int) : Bool :=
  if s = 0 then bs_even w n (a - 2) 3 && bs_quiet w n (a + 1) (a - 2) 3
  else if s = 1 then (decide (0 ≤ a - 2 ∧ a - 2 + 3 ≤ n) && decide (3 * w (a - 1) ≤ 2 * w (a - 2) ∧ 3 * w a ≤ 2 * w (a - 2))) && bs_quiet w n (a + 1) (a - 2) 3
  else decide (16 ≤ bs_v7 w n (a - 6)) && bs_quiet w n (a + 1) (a - 6) 7
