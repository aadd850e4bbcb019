/-! TWO SCANS: overlaps, seams, agreement -/
section
variable {sl e : Nat} {π : Int → Nat} {M G : Nat → Int → Int} {σ : Sg} {k : Int} {t : Nat}
theorem bs_ov_at {h t : List Ch} {o : Nat} (ho : o ≤ h.length ∧ o ≤ t.length) : bs_ov h t o = true ↔ ∀ i (hi : i < o), (h[h.length - o + i]'(by omega)).1 = (t[i]'(by omega)).1 := by
  unfold bs_ov
  rw [decide_eq_true_eq]
  constructor
  · intro e i hi
    have e1 := congrArg (fun l : List Int => l[i]?) e
    simp only [List.getElem?_map, List.getElem?_drop, List.getElem?_take] at e1
    rw [if_pos hi, List.getElem?_eq_getElem (show h.length - o + i < h.length by omega), List.getElem?_eq_getElem (show i < t.length by omega)] at e1
    simpa using e1
  · intro e
    apply List.ext_getElem?
    intro i
    simp only [List.getElem?_map, List.getElem?_drop, List.getElem?_take]
    by_cases hi : i < o
    · rw [if_pos hi, List.getElem?_eq_getElem (show h.length - o + i < h.length by omega), List.getElem?_eq_getElem (show i < t.length by omega)]
      simp [e i hi]
    · rw [if_neg hi, List.getElem?_eq_none (by omega)]
theorem bc_ends_0 {p q : Nat} {l m : List Ch} {o : Nat} (hp : aSeq p) (hq : aSeq q) (hl : rSeq M p l) (hm : rSeq M q m) (ho : o ≤ l.length ∧ o ≤ m.length) : ∀ (d i : Nat) (hid : i + d = o), (∀ j (hj : j < i), (l[l.length - o + j]'(by omega)).1 = (m[j]'(by omega)).1) → x_Seq_endsLike_0 p q o i (bM sl π M G e) = rI (bi (bs_ov l m o)) (bM sl π M G e) := by
  have h16 := hl.2.1
  have h16' := hm.2.1
  intro d
  induction d with
  | zero =>
    intro i hi hj
    rw [x_Seq_endsLike_0_eq, if_neg (by omega), (bs_ov_at ho).mpr (fun j hj' => hj j (by omega))]
    rfl
  | succ d ih =>
    intro i hi hj
    have e1 : wr (wr ((l.length : Int) - o) + i) = ((l.length - o + i : Nat) : Int) := by rw [wr_id (x := (l.length : Int) - o) (by omega), wr_id (by omega)]; omega
    have e2 : wr ((i : Int) + 1) = ((i + 1 : Nat) : Int) := by rw [wr_id (by omega)]; omega
    rw [x_Seq_endsLike_0_eq, if_pos (by omega), seq_v hp, seq_I hp, hl.1, e1, seq_v_at hp hl (show l.length - o + i < l.length by omega), seq_v hq, seq_v_at hq hm (show i < m.length by omega), e2]
    by_cases z : (l[l.length - o + i]'(by omega)).1 = (m[i]'(by omega)).1
    · rw [if_pos z]
      refine ih (i + 1) (by omega) fun j hj' => ?_
      rcases Nat.lt_or_ge j i with y | y
      · exact hj j y
      · have : j = i := by omega
        subst this
        exact z
    · rw [if_neg z]
      have : bs_ov l m o = false := by
        cases hb : bs_ov l m o with
        | false => rfl
        | true => exact absurd ((bs_ov_at ho).mp hb i (by omega)) z
      rw [this]; rfl
theorem bc_ends_like {p q : Nat} {l m : List Ch} {o : Nat} (hp : aSeq p) (hq : aSeq q) (hl : rSeq M p l) (hm : rSeq M q m) (ho : o ≤ l.length ∧ o ≤ m.length) : d_Seq_endsLike p q o (bM sl π M G e) = rI (bi (bs_ov l m o)) (bM sl π M G e) := by
  rw [d_Seq_endsLike_7 _ _ _ _ (seq_d hp), x_Seq_endsLike_eq, if_neg (by omega), seq_I hp, hl.1, if_neg (by omega), seq_I hq, hm.1, if_neg (by omega)]
  exact bc_ends_0 hp hq hl hm ho o 0 (by omega) (fun j hj => by omega)
/-- the greatest overlap, from o on downwards -/
def bs_o0 (h t : List Ch) : Nat → Int
  | 0 => 0
  | o + 1 => if bs_ov h t (o + 1) then ((o + 1 : Nat) : Int) else bs_o0 h t o
theorem bs_ov_0 {h t : List Ch} : bs_ov h t 0 = true := by
  unfold bs_ov
  rw [decide_eq_true_eq]
  simp
theorem bc_over_0 {p q : Nat} {l m : List Ch} (hp : aSeq p) (hq : aSeq q) (hl : rSeq M p l) (hm : rSeq M q m) : ∀ o : Nat, o ≤ l.length ∧ o ≤ m.length → x_E_overlap_0 p q o (bM sl π M G e) = rI (bs_o0 l m o) (bM sl π M G e) := by
  have h16 := hl.2.1
  intro o
  induction o with
  | zero =>
    intro ho
    rw [x_E_overlap_0_eq, if_neg (by omega)]; rfl
  | succ o ih =>
    intro ho
    rw [x_E_overlap_0_eq, if_pos (by omega), bc_ends_like hp hq hl hm ho]
    simp only [ci_r, bi_eq0]
    rw [bs_o0]
    cases hb : bs_ov l m (o + 1) with
    | true => rw [if_neg (by decide), if_pos rfl]
    | false =>
      rw [if_pos rfl, if_neg (by decide), show wr (((o + 1 : Nat) : Int) + -1) = (o : Int) by rw [wr_id (by omega)]; omega]
      exact ih (by omega)
theorem mn_nat {a b : Nat} : bs_mn (a : Int) (b : Int) = ((min a b : Nat) : Int) := by
  unfold bs_mn
  split <;> omega
theorem bc_hl {s : Nat} (hs : s < 3) {n : Int} (hn : -1000 ≤ n ∧ n ≤ 1000) : d_Sym_hasLength (22 + s) n (bM sl π M G e) = rI (bi (bs_hl s n)) (bM sl π M G e) := by
  match s, hs with
  | 0, _ =>
    rw [show 22 + 0 = 22 from rfl, d_Sym_hasLength_2 _ _ _ k_22, x_Ean_hasLength_eq, show bs_hl 0 n = decide (n = 8) from rfl]
    by_cases z : n = 8
    · rw [if_pos z, decide_eq_true z]; rfl
    · rw [if_neg z, decide_eq_false z]; rfl
  | 1, _ =>
    rw [show 22 + 1 = 23 from rfl, d_Sym_hasLength_3 _ _ _ k_23, x_Int_hasLength_eq, show bs_hl 1 n = decide ((2 ≤ n ∧ n ≤ 14) ∧ Int.tmod n 2 = 0) from rfl]
    by_cases z : n < 2
    · rw [if_pos z, decide_eq_false (by omega)]; rfl
    · rw [if_neg z]
      by_cases z2 : 14 < n
      · rw [if_pos z2, decide_eq_false (by omega)]; rfl
      · rw [if_neg z2]
        by_cases z3 : Int.tmod n 2 = 0
        · rw [if_pos z3, decide_eq_true ⟨by omega, z3⟩]; rfl
        · rw [if_neg z3, decide_eq_false (fun y => z3 y.2)]; rfl
  | 2, _ =>
    rw [show 22 + 2 = 24 from rfl, d_Sym_hasLength_1 _ _ _ k_24, x_Cod_hasLength_eq, show bs_hl 2 n = decide (3 ≤ n ∧ n ≤ 16) from rfl]
    by_cases z : n < 3
    · rw [if_pos z, decide_eq_false (by omega)]; rfl
    · rw [if_neg z]
      by_cases z2 : 16 < n
      · rw [if_pos z2, decide_eq_false (by omega)]; rfl
      · rw [if_neg z2, decide_eq_true (by omega)]; rfl
theorem bc_seam_0 {p q s : Nat} {l m : List Ch} (hs : s < 3) (hp : aSeq p) (hq : aSeq q) (hl : rSeq M p l) (hm : rSeq M q m) : ∀ o : Nat, o ≤ l.length ∧ o ≤ m.length → x_Sym_seam_0 (22 + s) p q o (bM sl π M G e) = rI (bs_se0 s l m o) (bM sl π M G e) := by
  have h16 := hl.2.1
  have h16' := hm.2.1
  intro o
  induction o with
  | zero =>
    intro ho
    rw [x_Sym_seam_0_eq, if_pos (by omega)]; rfl
  | succ o ih =>
    intro ho
    rw [x_Sym_seam_0_eq, bs_se0]
    by_cases h2 : 2 ≤ o + 1
    · have e1 : wr (((o + 1 : Nat) : Int) + -1) = (o : Int) := by rw [wr_id (by omega)]; omega
      rw [if_neg (by omega), if_pos h2, bc_ends_like hp hq hl hm ho, e1]
      simp only [ci_r, bi_eq0]
      cases hb : bs_ov l m (o + 1) with
      | false => rw [if_pos rfl, Bool.false_and, if_neg (by decide)]; exact ih (by omega)
      | true =>
        rw [if_neg (by decide), Bool.true_and, seq_I hp, hl.1, seq_I hq, hm.1, wr_id (x := (l.length : Int) + m.length) (by omega), wr_id (by omega), bc_hl hs (by omega)]
        simp only [cn_r, bi_eq0]
        cases hh : bs_hl s ((l.length : Int) + m.length - ((o + 1 : Nat) : Int)) with
        | false => rw [if_pos rfl, if_neg (by decide)]; exact ih (by omega)
        | true => rw [if_neg (by decide), if_pos rfl]
    · rw [if_pos (by omega), if_neg h2]
theorem bc_seam {p q s : Nat} {l m : List Ch} (hs : s < 3) (hp : aSeq p) (hq : aSeq q) (hl : rSeq M p l) (hm : rSeq M q m) : d_Sym_seam (22 + s) p q (bM sl π M G e) = rI (bs_se s l m) (bM sl π M G e) := by
  have gen : s ≠ 0 → x_Sym_seam (22 + s) p q (bM sl π M G e) = rI (bs_se s l m) (bM sl π M G e) := by
    intro h0
    rw [x_Sym_seam_eq, seq_I hp, hl.1, seq_I hq, hm.1, bc_min, mn_nat]
    simp only [ci_r]
    rw [bc_seam_0 hs hp hq hl hm _ (by omega)]
    unfold bs_se
    rw [if_neg h0]
  match s, hs with
  | 0, _ =>
    rw [show 22 + 0 = 22 from rfl, d_Sym_seam_2 _ _ _ _ k_22, x_Ean_seam_eq, seq_I hp, hl.1, seq_I hq, hm.1]
    unfold bs_se
    rw [if_pos rfl]
    by_cases z : l.length = 4
    · rw [if_pos (by omega)]
      by_cases z2 : m.length = 4
      · rw [if_pos (by omega), if_pos ⟨z, z2⟩]
      · rw [if_neg (by omega), if_neg (fun y => z2 y.2)]
    · rw [if_neg (by omega), if_neg (fun y => z y.1)]
  | 1, _ => rw [show 22 + 1 = 23 from rfl, d_Sym_seam_3 _ _ _ _ k_23]; exact gen (by decide)
  | 2, _ => rw [show 22 + 2 = 24 from rfl, d_Sym_seam_1 _ _ _ _ k_24]; exact gen (by decide)
/-- a reading stays when another is made -/
theorem rRdg_keep {k2 : Int} {A B : Nat → Int → Int} (hπ : PV π) (hk : 0 ≤ k ∧ k < 24) (hk2 : 0 ≤ k2 ∧ k2 < 24) (ht : t < 3) {x : Rd} (h : rRdg A (π k + (4 + 10 * t)) x) (hne : k ≠ k2) (f : fr (fun b j => S_i (π k2 + 1) (π k2 + (4 + 10 * t)) b j) A B) : rRdg B (π k + (4 + 10 * t)) x := by
  have h1 := PV_in hπ hk
  have h2 := PV_in hπ hk2
  have h3 := PV_ne hπ hk hk2 hne
  exact rRdg_fr h f (fun b j hb => by unfold S_i; omega)
/-- both readings -/
theorem qo_two {l : Int} (h : CR σ π M) (hk : 0 ≤ k ∧ k < gc σ) (hl : 0 ≤ l ∧ l < gc σ) (ht : t < 3) : ∃ M1 M2, d_E_reading 16 k t (bM sl π M G e) = rR (π k + (4 + 10 * t)) (bM sl π M1 G e) ∧ d_E_reading 16 l t (bM sl π M1 G e) = rR (π l + (4 + 10 * t)) (bM sl π M2 G e) ∧ CR σ π M2 ∧ lo867 M M2 ∧ rRdg M2 (π k + (4 + 10 * t)) (gR σ t k) ∧ rRdg M2 (π l + (4 + 10 * t)) (gR σ t l) := by
  obtain ⟨M1, g1, c1, lo1, r1, f1⟩ := qo_reading (sl := sl) (e := e) (G := G) h hk ht
  obtain ⟨M2, g2, c2, lo2, r2, f2⟩ := qo_reading (sl := sl) (e := e) (G := G) c1 hl ht
  refine ⟨M1, M2, g1, g2, c2, fun b j hb => (lo2 b j hb).trans (lo1 b j hb), ?_, r2⟩
  by_cases z : k = l
  · subst z; exact r2
  · exact rRdg_keep (CR_pv h) (CR_k24 h hk) (CR_k24 h hl) ht r1 z f2
theorem qo_twoX {s l : Int} (h : CR σ π M) (hx : ¬ (((0 ≤ k ∧ k < gc σ) ∧ (0 ≤ l ∧ l < gc σ)) ∧ 0 ≤ s ∧ s < 3)) {kk : Nat → bz_M → Option bz_R} (hkk : ∀ a A, aRdg a → ∃ kq, kk a (bM sl π A G e) = bz_cr (d_E_reading 16 l s (bM sl π A G e)) kq) :
    ∃ M', bz_cr (d_E_reading 16 k s (bM sl π M G e)) kk = rX 2 (bM sl π M' G (e + 1)) ∧ CR σ π M' ∧ lo867 M M' := by
  by_cases q : (0 ≤ k ∧ k < gc σ) ∧ 0 ≤ s ∧ s < 3
  · obtain ⟨t, rfl⟩ : ∃ t : Nat, s = t := ⟨s.toNat, by omega⟩
    obtain ⟨M1, g1, c1, lo1, r1, f1⟩ := qo_reading (sl := sl) (e := e) (G := G) h q.1 (t := t) (by omega)
    rw [g1]
    simp only [cr_r]
    obtain ⟨kq, hq⟩ := hkk _ M1 (PV_rdg (CR_pv h) (CR_k24 h q.1) (show t < 3 by omega))
    rw [hq, qo_readingX c1 (fun z => hx ⟨⟨q.1, z.1⟩, z.2⟩)]
    exact ⟨M1, rfl, c1, lo1⟩
  · rw [qo_readingX h q]
    exact ⟨M, rfl, h, fun _ _ _ => rfl⟩
/-! agreement -/
def bs_ag (l m : List Ch) : Nat → Nat → Int
  | 0, _ => 0
  | d + 1, i => (if (l.getD i (0, 0)).1 = (m.getD i (0, 0)).1 then 1 else 0) + bs_ag l m d (i + 1)
theorem bs_ag_bd {l m : List Ch} : ∀ d i, 0 ≤ bs_ag l m d i ∧ bs_ag l m d i ≤ d := by
  intro d
  induction d with
  | zero => intro i; exact ⟨Int.le_refl _, Int.le_refl _⟩
  | succ d ih => intro i; have := ih (i + 1); unfold bs_ag; split <;> omega
def gAg (l m : List Ch) : Int := if l.length = 0 then -1 else if l.length = m.length then bs_ag l m l.length 0 else -1
theorem getD_at {l : List Ch} {i : Nat} (hi : i < l.length) : l.getD i (0, 0) = l[i] := by
  rw [List.getD_eq_getElem?_getD, List.getElem?_eq_getElem hi]; rfl
theorem bc_ag_0 {p q : Nat} {l m : List Ch} (hp : aSeq p) (hq : aSeq q) (hl : rSeq M p l) (hm : rSeq M q m) (hlm : l.length = m.length) : ∀ (d i : Nat) (c : Int), i + d = l.length → 0 ≤ c ∧ c ≤ i → x_E_agreement_0 p q c i (bM sl π M G e) = rI (c + bs_ag l m d i) (bM sl π M G e) := by
  have h16 := hl.2.1
  intro d
  induction d with
  | zero =>
    intro i c hi hc
    rw [x_E_agreement_0_eq, seq_I hp, hl.1, if_neg (by omega), show c + bs_ag l m 0 i = c by show c + 0 = c; omega]
  | succ d ih =>
    intro i c hi hc
    have e2 : wr ((i : Int) + 1) = ((i + 1 : Nat) : Int) := by rw [wr_id (by omega)]; omega
    rw [x_E_agreement_0_eq, seq_I hp, hl.1, if_pos (by omega), seq_v hp, seq_v_at hp hl (show i < l.length by omega), seq_v hq, seq_v_at hq hm (show i < m.length by omega), e2, wr_id (by omega), bs_ag, getD_at (show i < l.length by omega), getD_at (show i < m.length by omega)]
    by_cases z : (l[i]'(by omega)).1 = (m[i]'(by omega)).1
    · rw [if_pos z, if_pos z, ih (i + 1) (c + 1) (by omega) (by omega), show c + 1 + bs_ag l m d (i + 1) = c + (1 + bs_ag l m d (i + 1)) by omega]
    · rw [if_neg z, if_neg z, ih (i + 1) c (by omega) (by omega), Int.zero_add]
theorem qo_agreement {l : Int} (h : CR σ π M) (hk : 0 ≤ k ∧ k < gc σ) (hl : 0 ≤ l ∧ l < gc σ) (ht : t < 3) : ∃ M', d_E_agreement 16 k l t (bM sl π M G e) = rI (gAg (gR σ t k).1.1 (gR σ t l).1.1) (bM sl π M' G e) ∧ CR σ π M' ∧ lo867 M M' := by
  have hdk := PV_rdg (CR_pv h) (CR_k24 h hk) ht
  have hdl := PV_rdg (CR_pv h) (CR_k24 h hl) ht
  obtain ⟨M1, M2, g1, g2, c2, lo, r1, r2⟩ := qo_two (sl := sl) (e := e) (G := G) h hk hl ht
  rw [d_E_agreement_9 _ _ _ _ _ en_d, x_E_agreement_eq, g1]
  simp only [cr_r]
  rw [rdg_w hdk, g2]
  simp only [cr_r]
  rw [rdg_w hdl, seq_I hdk.2.2.1.1, r1.1.1.1, seq_I hdk.2.2.1.1, r1.1.1.1, seq_I hdl.2.2.1.1, r2.1.1.1]
  refine ⟨M2, ?_, c2, lo⟩
  unfold gAg
  by_cases z : (gR σ t k).1.1.length = 0
  · rw [if_pos (by omega), if_pos z]
  · rw [if_neg (by omega), if_neg z]
    by_cases z2 : (gR σ t k).1.1.length = (gR σ t l).1.1.length
    · rw [if_pos (by omega), if_pos z2]
      have := bc_ag_0 (sl := sl) (e := e) (π := π) (G := G) hdk.2.2.1.1 hdl.2.2.1.1 r1.1.1 r2.1.1 z2 (gR σ t k).1.1.length 0 0 (by omega) (by decide)
      rw [Int.zero_add] at this
      exact this
    · rw [if_neg (by omega), if_neg z2]
theorem qo_agreementX {s l : Int} (h : CR σ π M) (hx : ¬ (((0 ≤ k ∧ k < gc σ) ∧ (0 ≤ l ∧ l < gc σ)) ∧ 0 ≤ s ∧ s < 3)) : ∃ M', d_E_agreement 16 k l s (bM sl π M G e) = rX 2 (bM sl π M' G (e + 1)) ∧ CR σ π M' ∧ lo867 M M' := by
  rw [d_E_agreement_9 _ _ _ _ _ en_d, x_E_agreement_eq]
  exact qo_twoX h hx (fun a A ha => ⟨_, rdg_w ha⟩)
/-! overlap -/
def gOv (l m : List Ch) : Int := if l.length = 0 then -1 else if m.length = 0 then -1 else bs_o0 l m (min l.length m.length)
theorem qo_overlap {l : Int} (h : CR σ π M) (hk : 0 ≤ k ∧ k < gc σ) (hl : 0 ≤ l ∧ l < gc σ) (ht : t < 3) : ∃ M', d_E_overlap 16 k l t (bM sl π M G e) = rI (gOv (gR σ t k).1.2.1 (gR σ t l).1.2.2) (bM sl π M' G e) ∧ CR σ π M' ∧ lo867 M M' := by
  have hdk := PV_rdg (CR_pv h) (CR_k24 h hk) ht
  have hdl := PV_rdg (CR_pv h) (CR_k24 h hl) ht
  obtain ⟨M1, M2, g1, g2, c2, lo, r1, r2⟩ := qo_two (sl := sl) (e := e) (G := G) h hk hl ht
  rw [d_E_overlap_9 _ _ _ _ _ en_d, x_E_overlap_eq, g1]
  simp only [cr_r]
  rw [rdg_h hdk, g2]
  simp only [cr_r]
  rw [rdg_t hdl, seq_I hdk.2.2.1.2.1, r1.1.2.1.1, seq_I hdl.2.2.1.2.2, r2.1.2.2.1, seq_I hdk.2.2.1.2.1, r1.1.2.1.1, seq_I hdl.2.2.1.2.2, r2.1.2.2.1, bc_min, mn_nat]
  simp only [ci_r]
  refine ⟨M2, ?_, c2, lo⟩
  unfold gOv
  by_cases z : (gR σ t k).1.2.1.length = 0
  · rw [if_pos (by omega), if_pos z]
  · rw [if_neg (by omega), if_neg z]
    by_cases z2 : (gR σ t l).1.2.2.length = 0
    · rw [if_pos (by omega), if_pos z2]
    · rw [if_neg (by omega), if_neg z2]
      exact bc_over_0 hdk.2.2.1.2.1 hdl.2.2.1.2.2 r1.1.2.1 r2.1.2.2 _ (by omega)
theorem qo_overlapX {s l : Int} (h : CR σ π M) (hx : ¬ (((0 ≤ k ∧ k < gc σ) ∧ (0 ≤ l ∧ l < gc σ)) ∧ 0 ≤ s ∧ s < 3)) : ∃ M', d_E_overlap 16 k l s (bM sl π M G e) = rX 2 (bM sl π M' G (e + 1)) ∧ CR σ π M' ∧ lo867 M M' := by
  rw [d_E_overlap_9 _ _ _ _ _ en_d, x_E_overlap_eq]
  exact qo_twoX h hx (fun a A ha => ⟨_, rdg_h ha⟩)
/-! mergedLength, mergedCharacter -/
def gMl (s : Nat) (l m : List Ch) : Int := if bs_se s l m = -1 then 0 else (l.length : Int) + m.length - bs_se s l m
theorem bs_se0_bd {s : Nat} {l m : List Ch} : ∀ o : Nat, bs_se0 s l m o = -1 ∨ (2 ≤ bs_se0 s l m o ∧ bs_se0 s l m o ≤ o) := by
  intro o
  induction o with
  | zero => exact Or.inl rfl
  | succ o ih =>
    rw [bs_se0]
    split
    · split
      · right; omega
      · rcases ih with h | h
        · exact Or.inl h
        · right; omega
    · exact Or.inl rfl
theorem bs_se_bd {s : Nat} {l m : List Ch} : bs_se s l m = -1 ∨ (0 ≤ bs_se s l m ∧ bs_se s l m ≤ l.length ∧ bs_se s l m ≤ m.length) := by
  unfold bs_se
  split
  · split
    · right; omega
    · exact Or.inl rfl
  · rcases bs_se0_bd (s := s) (l := l) (m := m) (min l.length m.length) with h | h
    · exact Or.inl h
    · right; omega
theorem qo_mergedLength {l : Int} (h : CR σ π M) (hk : 0 ≤ k ∧ k < gc σ) (hl : 0 ≤ l ∧ l < gc σ) (ht : t < 3) : ∃ M', d_E_mergedLength 16 k l t (bM sl π M G e) = rI (gMl t (gR σ t k).1.2.1 (gR σ t l).1.2.2) (bM sl π M' G e) ∧ CR σ π M' ∧ lo867 M M' := by
  have hdk := PV_rdg (CR_pv h) (CR_k24 h hk) ht
  have hdl := PV_rdg (CR_pv h) (CR_k24 h hl) ht
  obtain ⟨M1, M2, g1, g2, c2, lo, r1, r2⟩ := qo_two (sl := sl) (e := e) (G := G) h hk hl ht
  have hb := bs_se_bd (s := t) (l := (gR σ t k).1.2.1) (m := (gR σ t l).1.2.2)
  have l1 := r1.1.2.1.2.1
  have l2 := r2.1.2.2.2.1
  rw [d_E_mergedLength_9 _ _ _ _ _ en_d, x_E_mergedLength_eq, g1]
  simp only [cr_r]
  rw [rdg_h hdk, g2]
  simp only [cr_r]
  rw [rdg_t hdl, en_R5, en_r21 ht, bc_seam ht hdk.2.2.1.2.1 hdl.2.2.1.2.2 r1.1.2.1 r2.1.2.2]
  simp only [cn_r]
  rw [seq_I hdk.2.2.1.2.1, r1.1.2.1.1, seq_I hdl.2.2.1.2.2, r2.1.2.2.1]
  refine ⟨M2, ?_, c2, lo⟩
  unfold gMl
  by_cases z : bs_se t (gR σ t k).1.2.1 (gR σ t l).1.2.2 = -1
  · rw [if_pos z, if_pos z]
  · rw [if_neg z, if_neg z, wr_id (x := ((gR σ t k).1.2.1.length : Int) + (gR σ t l).1.2.2.length) (by omega), wr_id (by omega)]
theorem qo_mergedLengthX {s l : Int} (h : CR σ π M) (hx : ¬ (((0 ≤ k ∧ k < gc σ) ∧ (0 ≤ l ∧ l < gc σ)) ∧ 0 ≤ s ∧ s < 3)) : ∃ M', d_E_mergedLength 16 k l s (bM sl π M G e) = rX 2 (bM sl π M' G (e + 1)) ∧ CR σ π M' ∧ lo867 M M' := by
  rw [d_E_mergedLength_9 _ _ _ _ _ en_d, x_E_mergedLength_eq]
  exact qo_twoX h hx (fun a A ha => ⟨_, rdg_h ha⟩)
/-- the character of what a head and a tail make together, by its value -/
def gMc (s : Nat) (l m : List Ch) (p : Nat) : Int := if p < l.length then (l.getD p (0, 0)).1 else (m.getD (p - l.length + (bs_se s l m).toNat) (0, 0)).1
theorem qo_mergedCharacter {l p : Int} (h : CR σ π M) (hk : 0 ≤ k ∧ k < gc σ) (hl : 0 ≤ l ∧ l < gc σ) (ht : t < 3) : ∃ M', (CR σ π M' ∧ lo867 M M') ∧ (0 ≤ p ∧ p < gMl t (gR σ t k).1.2.1 (gR σ t l).1.2.2 → d_E_mergedCharacter 16 k l t p (bM sl π M G e) = rI (al (gMc t (gR σ t k).1.2.1 (gR σ t l).1.2.2 p.toNat)) (bM sl π M' G e)) ∧ (¬ (0 ≤ p ∧ p < gMl t (gR σ t k).1.2.1 (gR σ t l).1.2.2) → d_E_mergedCharacter 16 k l t p (bM sl π M G e) = rX 2 (bM sl π M' G (e + 1))) := by
  have hdk := PV_rdg (CR_pv h) (CR_k24 h hk) ht
  have hdl := PV_rdg (CR_pv h) (CR_k24 h hl) ht
  obtain ⟨M1, M2, g1, g2, c2, lo, r1, r2⟩ := qo_two (sl := sl) (e := e) (G := G) h hk hl ht
  have hb := bs_se_bd (s := t) (l := (gR σ t k).1.2.1) (m := (gR σ t l).1.2.2)
  have l1 := r1.1.2.1.2.1
  have l2 := r2.1.2.2.2.1
  have okk := okRd_g h.1 hk ht
  have okl := okRd_g h.1 hl ht
  refine ⟨M2, ⟨c2, lo⟩, ?_⟩
  rw [d_E_mergedCharacter_9 _ _ _ _ _ _ en_d, x_E_mergedCharacter_eq, g1]
  simp only [cr_r]
  rw [rdg_h hdk, g2]
  simp only [cr_r]
  rw [rdg_t hdl, en_R5, en_r21 ht, bc_seam ht hdk.2.2.1.2.1 hdl.2.2.1.2.2 r1.1.2.1 r2.1.2.2]
  simp only [cn_r]
  unfold gMl
  by_cases z : bs_se t (gR σ t k).1.2.1 (gR σ t l).1.2.2 = -1
  · rw [if_pos z, if_pos z, qo_place]
    refine ⟨fun hp => by omega, fun hp => ?_⟩
    rw [if_neg hp]; rfl
  · rw [if_neg z, if_neg z, seq_I hdk.2.2.1.2.1, r1.1.2.1.1, seq_I hdl.2.2.1.2.2, r2.1.2.2.1, wr_id (x := ((gR σ t k).1.2.1.length : Int) + (gR σ t l).1.2.2.length) (by omega), wr_id (by omega), qo_place]
    refine ⟨fun hp => ?_, fun hp => ?_⟩
    · rw [if_pos hp]
      simp only [cv_r]
      rw [seq_I hdk.2.2.1.2.1, r1.1.2.1.1]
      obtain ⟨i, rfl⟩ : ∃ i : Nat, p = i := ⟨p.toNat, by omega⟩
      rw [show (i : Int).toNat = i from rfl]
      unfold gMc
      by_cases z2 : i < (gR σ t k).1.2.1.length
      · rw [if_pos (by omega), if_pos z2, seq_v hdk.2.2.1.2.1, seq_v_at hdk.2.2.1.2.1 r1.1.2.1 z2, getD_at z2, qo_char c2.2.1 (okC_20 (okk.2.1 _ (List.getElem_mem z2)))]
        rfl
      · have e1 : wr (wr ((i : Int) - (gR σ t k).1.2.1.length) + bs_se t (gR σ t k).1.2.1 (gR σ t l).1.2.2) = ((i - (gR σ t k).1.2.1.length + (bs_se t (gR σ t k).1.2.1 (gR σ t l).1.2.2).toNat : Nat) : Int) := by
          rw [wr_id (x := (i : Int) - (gR σ t k).1.2.1.length) (by omega), wr_id (by omega)]; omega
        have hlt : i - (gR σ t k).1.2.1.length + (bs_se t (gR σ t k).1.2.1 (gR σ t l).1.2.2).toNat < (gR σ t l).1.2.2.length := by omega
        rw [if_neg (by omega), if_neg z2, seq_v hdl.2.2.1.2.2, seq_I hdk.2.2.1.2.1, r1.1.2.1.1, e1, seq_v_at hdl.2.2.1.2.2 r2.1.2.2 hlt, getD_at hlt, qo_char c2.2.1 (okC_20 (okl.2.2.1 _ (List.getElem_mem hlt)))]
        rfl
    · rw [if_neg hp]; rfl
theorem qo_mergedCharacterX {s l p : Int} (h : CR σ π M) (hx : ¬ (((0 ≤ k ∧ k < gc σ) ∧ (0 ≤ l ∧ l < gc σ)) ∧ 0 ≤ s ∧ s < 3)) : ∃ M', d_E_mergedCharacter 16 k l s p (bM sl π M G e) = rX 2 (bM sl π M' G (e + 1)) ∧ CR σ π M' ∧ lo867 M M' := by
  rw [d_E_mergedCharacter_9 _ _ _ _ _ _ en_d, x_E_mergedCharacter_eq]
  exact qo_twoX h hx (fun a A ha => ⟨_, rdg_h ha⟩)
end
