/-! THE CLASS'S RIGHT VALUE AND REPAIRED -/
section
variable {sl e : Nat} {π : Int → Nat} {M G : Nat → Int → Int} {σ : Sg} {t : Nat}
/-- may a value stand at a place of n -/
def bs_aw (s : Nat) (v p n : Int) : Bool := if s = 2 then decide ((p = 0 ∨ p = n - 1) ∧ 16 ≤ v ∧ v < 20 ∨ ¬ (p = 0 ∨ p = n - 1) ∧ 0 ≤ v ∧ v < 16) else decide (0 ≤ v ∧ v < 10)
theorem bc_allows {s : Nat} {v p n : Int} (hs : s < 3) (hn : 0 ≤ n ∧ n ≤ 100) : d_Sym_allows (22 + s) v p n (bM sl π M G e) = rI (bi (bs_aw s v p n)) (bM sl π M G e) := by
  have gen : s ≠ 2 → x_Sym_allows (22 + s) v p n (bM sl π M G e) = rI (bi (bs_aw s v p n)) (bM sl π M G e) := by
    intro h2
    rw [x_Sym_allows_eq]
    unfold bs_aw
    rw [if_neg h2]
    by_cases a : v < 0
    · rw [if_pos a, decide_eq_false (by omega)]; rfl
    · rw [if_neg a]
      by_cases b : v < 10
      · rw [if_pos b, decide_eq_true (by omega)]; rfl
      · rw [if_neg b, decide_eq_false (by omega)]; rfl
  match s, hs with
  | 0, _ => rw [show 22 + 0 = 22 from rfl, d_Sym_allows_2 _ _ _ _ _ k_22]; exact gen (by decide)
  | 1, _ => rw [show 22 + 1 = 23 from rfl, d_Sym_allows_3 _ _ _ _ _ k_23]; exact gen (by decide)
  | 2, _ =>
    rw [show 22 + 2 = 24 from rfl, d_Sym_allows_1 _ _ _ _ _ k_24, x_Cod_allows_eq, wr_id (by omega)]
    unfold bs_aw
    rw [if_pos rfl]
    by_cases a : p = 0
    · simp only [if_pos a]
      by_cases b : v < 16
      · rw [if_pos b, decide_eq_false (by omega)]
        by_cases c : v < 0
        · rw [if_pos c]; rfl
        · rw [if_neg c, if_pos b]; rfl
      · rw [if_neg b]
        by_cases c : v < 20
        · rw [if_pos c, if_neg (by omega), if_neg b, decide_eq_true (by omega)]; rfl
        · rw [if_neg c, if_neg (by omega), if_neg b, decide_eq_false (by omega)]; rfl
    · simp only [if_neg a]
      by_cases a2 : p = n - 1
      · simp only [if_pos a2]
        by_cases b : v < 16
        · rw [if_pos b, decide_eq_false (by omega)]
          by_cases c : v < 0
          · rw [if_pos c]; rfl
          · rw [if_neg c, if_pos b]; rfl
        · rw [if_neg b]
          by_cases c : v < 20
          · rw [if_pos c, if_neg (by omega), if_neg b, decide_eq_true (by omega)]; rfl
          · rw [if_neg c, if_neg (by omega), if_neg b, decide_eq_false (by omega)]; rfl
      · simp only [if_neg a2]
        by_cases b : v < 16
        · rw [if_pos b]
          by_cases c : v < 0
          · rw [if_pos c, decide_eq_false (by omega)]; rfl
          · rw [if_neg c, if_pos b, decide_eq_true (by omega)]; rfl
        · rw [if_neg b, decide_eq_false (by omega)]
          by_cases c : v < 20
          · rw [if_pos c, if_neg (by omega), if_neg b]; rfl
          · rw [if_neg c, if_neg (by omega), if_neg b]; rfl
/-- a list with another value at a place -/
def lsv (l : List Ch) (p : Nat) (v : Int) : List Ch := l.set p (v, (l.getD p (0, 0)).2)
theorem lsv_l {l : List Ch} {p : Nat} {v : Int} : (lsv l p v).length = l.length := List.length_set
theorem lsv_lsv {l : List Ch} {p : Nat} {v w : Int} (hp : p < l.length) : lsv (lsv l p v) p w = lsv l p w := by
  unfold lsv
  rw [List.set_set]
  congr 2
  simp [List.getD, List.getElem?_set, hp]
theorem lsv_v {l : List Ch} {p : Nat} {v : Int} (h : ∀ c ∈ l, -1 ≤ c.1 ∧ c.1 < 20) (hv : -1 ≤ v ∧ v < 20) : ∀ c ∈ lsv l p v, -1 ≤ c.1 ∧ c.1 < 20 := by
  intro c hc
  rcases List.mem_or_eq_of_mem_set hc with hc | hc
  · exact h c hc
  · subst hc; exact hv
theorem rSeq_lsv {q : Nat} {l : List Ch} {p : Nat} {v : Int} (hl : rSeq M q l) (hp : p < l.length) : rSeq (up M (q + 1) p v) q (lsv l p v) := by
  refine ⟨?_, ?_, fun k c hk => ?_⟩
  · rw [up_a (by omega), lsv_l]; exact hl.1
  · rw [lsv_l]; exact hl.2.1
  · unfold lsv at hk
    rw [List.getElem?_set] at hk
    by_cases z : p = k
    · rw [if_pos z, if_pos hp] at hk
      injection hk with hk
      subst hk
      have := (hl.2.2 p _ (List.getElem?_eq_getElem hp)).2
      subst z
      rw [up_s, up_a (by omega), this]
      refine ⟨rfl, ?_⟩
      simp [List.getD, List.getElem?_eq_getElem hp]
    · rw [if_neg z] at hk
      have := hl.2.2 k c hk
      rw [up_i (by omega), up_a (by omega)]
      exact this
/-- the last of the first values that is right at a place, and how many are -/
def bs_rgv (s : Nat) (l : List Ch) (p : Nat) : Nat → Int × Int
  | 0 => (-1, 0)
  | v + 1 => if (bs_aw s v p l.length && bs_rt s (lsv l p v)) = true then ((v : Int), (bs_rgv s l p v).2 + 1) else bs_rgv s l p v
theorem bs_rgv_bd {s : Nat} {l : List Ch} {p : Nat} : ∀ v : Nat, 0 ≤ (bs_rgv s l p v).2 ∧ (bs_rgv s l p v).2 ≤ v := by
  intro v
  induction v with
  | zero => exact ⟨Int.le_refl _, Int.le_refl _⟩
  | succ v ih =>
    rw [bs_rgv]
    split
    · dsimp only; omega
    · omega
theorem bc_rv_0 {s : Nat} {l : List Ch} {p : Nat} (hs : s < 3) (hp : p < l.length) (hv : ∀ c ∈ l, -1 ≤ c.1 ∧ c.1 < 20) : ∀ (d v : Nat) (M : Nat → Int → Int), v + d = 20 → (∃ x, rSeq M 48 (lsv l p x)) →
    ∃ M', x_E_rightValue_0 16 (22 + s) p (bs_rgv s l p v).1 (bs_rgv s l p v).2 v (bM sl π M G e) = rI (if (bs_rgv s l p 20).2 = 1 then (bs_rgv s l p 20).1 else -1) (bM sl π M' G e) ∧ fr (S_q 48) M M' := by
  intro d
  induction d with
  | zero =>
    intro v M hvd hx
    have : v = 20 := by omega
    subst this
    rw [x_E_rightValue_0_eq, if_neg (by omega)]
    refine ⟨M, ?_, fr_refl⟩
    by_cases z : (bs_rgv s l p 20).2 = 1
    · rw [if_pos z, if_pos z]
    · rw [if_neg z, if_neg z]
  | succ d ih =>
    intro v M hvd hx
    obtain ⟨x, hl⟩ := hx
    have h16 := hl.2.1
    rw [lsv_l] at h16
    have e2 : wr ((v : Int) + 1) = ((v + 1 : Nat) : Int) := by rw [wr_id (by omega)]; omega
    have hl2 := rSeq_lsv (v := (v : Int)) hl (by rw [lsv_l]; exact hp)
    rw [lsv_lsv hp] at hl2
    have hb := bs_rgv_bd (s := s) (l := l) (p := p) v
    have f1 : fr (S_q 48) M (up M (48 + 1) p v) := fr_up (by unfold S_q; omega) fr_refl
    obtain ⟨M', g, f⟩ := ih (v + 1) (up M (48 + 1) p v) (by omega) ⟨_, hl2⟩
    refine ⟨M', ?_, fr_trans f1 f⟩
    rw [bs_rgv] at g
    rw [x_E_rightValue_0_eq, if_pos (by omega), en_R11, seq_v a_48, seq_sv a_48 (by omega), en_R11, seq_I a_48, hl2.1, lsv_l, bc_allows hs (by omega)]
    simp only [cn_r, bi_eq0]
    rw [e2]
    cases ha : bs_aw s v p l.length with
    | false =>
      rw [ha, Bool.false_and, if_neg (by decide)] at g
      rw [if_pos rfl]
      exact g
    | true =>
      rw [ha, Bool.true_and] at g
      rw [if_neg (by decide), en_R11, bc_isRight hs a_48 hl2 (lsv_v hv (by omega))]
      simp only [cn_r, bi_eq0]
      cases hr : bs_rt s (lsv l p v) with
      | false =>
        rw [hr, if_neg (by decide)] at g
        rw [if_pos rfl]
        exact g
      | true =>
        rw [hr, if_pos rfl] at g
        rw [if_neg (by decide), wr_id (by omega)]
        exact g
def gRv (s : Nat) (l : List Ch) (p : Int) : Int := if 0 ≤ p ∧ p < l.length then (if (bs_rgv s l p.toNat 20).2 = 1 then (bs_rgv s l p.toNat 20).1 else -1) else -1
theorem lsv_id {l : List Ch} {p : Nat} (hp : p < l.length) : lsv l p (l[p]).1 = l := by
  unfold lsv
  have : ((l[p]).1, (l.getD p (0, 0)).2) = l[p] := by simp [List.getD, List.getElem?_eq_getElem hp]
  rw [this]
  exact List.set_getElem_self hp
theorem bc_rightValue {s : Nat} {l : List Ch} {p : Int} (hs : s < 3) (hl : rSeq M 48 l) (hv : ∀ c ∈ l, -1 ≤ c.1 ∧ c.1 < 20) : ∃ M', d_E_rightValue 16 (22 + s) p (bM sl π M G e) = rI (gRv s l p) (bM sl π M' G e) ∧ fr (S_q 48) M M' := by
  unfold gRv
  rw [d_E_rightValue_9 _ _ _ _ en_d, x_E_rightValue_eq]
  by_cases a : p < 0
  · rw [if_pos a, if_neg (by omega)]; exact ⟨M, rfl, fr_refl⟩
  · rw [if_neg a, en_R11, seq_I a_48, hl.1]
    by_cases b : p < l.length
    · have hp : p.toNat < l.length := by omega
      rw [if_pos b, if_pos ⟨by omega, b⟩]
      obtain ⟨M', g, f⟩ := bc_rv_0 (sl := sl) (e := e) (π := π) (G := G) hs hp hv 20 0 M (by omega) ⟨(l[p.toNat]).1, by rw [lsv_id hp]; exact hl⟩
      rw [show ((p.toNat : Nat) : Int) = p by omega] at g
      exact ⟨M', g, f⟩
    · rw [if_neg b, if_neg (fun z => b z.2)]; exact ⟨M, rfl, fr_refl⟩
/-- the repaired value -/
def gRp (σ : Sg) (t : Nat) : Int := gRv t (bs_cvt (gV σ t) (gL σ t).toNat) (gFd σ t)
theorem qo_repaired (h : CR σ π M) (ht : t < 3) : ∃ M', CR σ π M' ∧ lo867 M M' ∧ (bs_db (gV σ t) (gL σ t).toNat ≠ 1 → d_E_repaired 16 t (bM sl π M G e) = rX 1 (bM sl π M' G (e + 1))) ∧
    (bs_db (gV σ t) (gL σ t).toNat = 1 → gRp σ t = -1 → d_E_repaired 16 t (bM sl π M G e) = rX 4 (bM sl π M' G (e + 1))) ∧ (bs_db (gV σ t) (gL σ t).toNat = 1 → gRp σ t ≠ -1 → d_E_repaired 16 t (bM sl π M G e) = rI (al1 (gRp σ t)) (bM sl π M' G e)) := by
  obtain ⟨A, g, c, lo, r⟩ := qo_tally (sl := sl) (e := e) (G := G) h ht
  have hL := gL_bd h.1 ht
  rw [d_E_repaired_9 _ _ _ en_d, x_E_repaired_eq, g]
  simp only [cr_r]
  rw [bc_db (a_tal ht) r hL]
  simp only [ci_r]
  by_cases z : bs_db (gV σ t) (gL σ t).toNat = 1
  · obtain ⟨B, g2, f2, hl⟩ := bc_cvt (sl := sl) (e := e) (π := π) (G := G) (a_tal ht) (by omega) hL a_48 r
    obtain ⟨C, g3, f3⟩ := bc_rightValue (sl := sl) (e := e) (π := π) (G := G) (p := gFd σ t) ht hl (bs_cvt_v _)
    have rB := rTal_fr r f2 (fun b j hb hb2 => by unfold S_q; omega)
    have cC := fr_q48 c (fr_trans f2 f3)
    rw [if_pos z, en_R11, tal_m (a_tal ht), tal_I (a_tal ht), r.1, g2]
    simp only [cv_r]
    rw [en_R5, en_r21 ht, bc_fd (a_tal ht) rB hL]
    simp only [ci_r]
    rw [show bs_fdt (gV σ t) (gL σ t).toNat 0 = gFd σ t from rfl, g3]
    simp only [ci_r]
    rw [show gRv t (bs_cvt (gV σ t) (gL σ t).toNat) (gFd σ t) = gRp σ t from rfl]
    refine ⟨C, cC, fun b j hb => (f3 b j (by unfold S_q; omega)).trans ((f2 b j (by unfold S_q; omega)).trans (lo b j hb)), fun n => absurd z n, fun _ y => ?_, fun _ y => ?_⟩
    · rw [if_pos y]; rfl
    · rw [if_neg y, qo_char1 cC.2.1]; rfl
  · rw [if_neg z]
    exact ⟨A, c, lo, fun _ => rfl, fun n => absurd n z, fun n => absurd n z⟩
theorem qo_repairedX {s : Int} (hs : ¬ (0 ≤ s ∧ s < 3)) : d_E_repaired 16 s (bM sl π M G e) = rX 2 (bM sl π M G (e + 1)) := by
  rw [d_E_repaired_9 _ _ _ en_d, x_E_repaired_eq, qo_tallyX hs]; rfl
end
