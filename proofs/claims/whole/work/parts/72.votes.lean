/-! VOTES: what they come to, and the class's tally -/
theorem foldl_mn_le {l : List Ch} : ∀ (v : Int), (∀ c ∈ l, 0 ≤ c.2 ∧ c.2 ≤ 100) → 0 ≤ v ∧ v ≤ 100 → 0 ≤ l.foldl (fun m c => bs_mn m c.2) v ∧ l.foldl (fun m c => bs_mn m c.2) v ≤ 100 := by
  induction l with
  | nil => intro v _ hv; exact hv
  | cons c l ih =>
    intro v h hv
    rw [List.foldl_cons]
    refine ih _ (fun d hd => h d (List.mem_cons_of_mem _ hd)) ?_
    have := h c List.mem_cons_self
    unfold bs_mn
    split <;> omega
theorem bs_lc_bd {l : List Ch} (h : ∀ c ∈ l, 0 ≤ c.2 ∧ c.2 ≤ 100) : 0 ≤ bs_lc l ∧ bs_lc l ≤ 100 := foldl_mn_le 100 h (by decide)
theorem bs_su_bd {R : Int → Rd} {n : Nat} : ∀ m : Nat, (∀ k : Int, 0 ≤ k ∧ k < m → ∀ c ∈ (R k).1.1, 0 ≤ c.2 ∧ c.2 ≤ 100) → 0 ≤ bs_su R n m ∧ bs_su R n m ≤ 101 * m := by
  intro m
  induction m with
  | zero => intro _; exact ⟨Int.le_refl _, Int.le_refl _⟩
  | succ m ih =>
    intro h
    have h1 := ih fun k hk => h k (by omega)
    have h2 := bs_lc_bd (h m (by omega))
    unfold bs_su
    split <;> omega
theorem bs_best_le {R : Int → Rd} {c : Nat} : ∀ m : Nat, bs_best R c m ≤ m := by
  intro m
  induction m with
  | zero => exact Nat.le_refl _
  | succ m ih =>
    unfold bs_best
    split <;> omega
theorem bs_ad_lt {l : List Ch} : ∀ (V : Vt) (p a u : Int), a < p → bs_ad V l p a u = V a u := by
  induction l with
  | nil => intro V p a u _; rfl
  | cons c l ih =>
    intro V p a u h
    rw [bs_ad, ih _ (p + 1) a u (by omega)]
    unfold bs_a1
    rw [if_neg (by omega)]
theorem bs_ad_bd {l : List Ch} : ∀ (V : Vt) (p a u : Int), (∀ c ∈ l, 0 ≤ c.2 ∧ c.2 ≤ 100) → V a u ≤ bs_ad V l p a u ∧ bs_ad V l p a u ≤ V a u + 101 := by
  induction l with
  | nil => intro V p a u _; exact ⟨Int.le_refl _, by show V a u ≤ V a u + 101; omega⟩
  | cons c l ih =>
    intro V p a u h
    have hc := h c List.mem_cons_self
    rw [bs_ad]
    by_cases z : a = p
    · rw [bs_ad_lt _ (p + 1) a u (by omega)]
      unfold bs_a1
      split <;> omega
    · have h1 := ih (bs_a1 V p c.1 (1 + c.2)) (p + 1) a u (fun d hd => h d (List.mem_cons_of_mem _ hd))
      have h2 : bs_a1 V p c.1 (1 + c.2) a u = V a u := by unfold bs_a1; rw [if_neg (fun y => z y.1)]
      rw [h2] at h1
      exact h1
theorem bs_sm_ext {f g : Nat → Int} : ∀ m : Nat, (∀ i, i < m → f i = g i) → bs_sm f m = bs_sm g m := by
  intro m
  induction m with
  | zero => intro _; rfl
  | succ m ih => intro h; unfold bs_sm; rw [ih (fun i hi => h i (by omega)), h m (by omega)]
theorem bs_sm_a1 {f g : Nat → Int} {v : Nat} {x : Int} : ∀ m : Nat, v < m → (∀ i, i < m → i ≠ v → f i = g i) → f v = g v + x → bs_sm f m = bs_sm g m + x := by
  intro m
  induction m with
  | zero => intro h; omega
  | succ m ih =>
    intro hv h hx
    unfold bs_sm
    by_cases z : v = m
    · subst z
      rw [hx, bs_sm_ext v (fun i hi => h i (by omega) (by omega))]
      omega
    · rw [ih (by omega) (fun i hi => h i (by omega)) hx, h m (by omega) (fun y => z y.symm)]
      omega
theorem bs_tt_a1 {V : Vt} {p v x a : Int} (hv : 0 ≤ v ∧ v < 20) : bs_tt (bs_a1 V p v x) a = if a = p then bs_tt V a + x else bs_tt V a := by
  unfold bs_tt
  by_cases z : a = p
  · rw [if_pos z]
    refine bs_sm_a1 (v := v.toNat) 20 (by omega) (fun i hi hne => ?_) ?_
    · unfold bs_a1; rw [if_neg (by omega)]
    · unfold bs_a1; rw [if_pos (by omega)]
  · rw [if_neg z]
    exact bs_sm_ext 20 fun i hi => by unfold bs_a1; rw [if_neg (fun y => z y.1)]
theorem bs_tt_lt {l : List Ch} {V : Vt} {p a : Int} (h : a < p) : bs_tt (bs_ad V l p) a = bs_tt V a := bs_sm_ext 20 fun i hi => bs_ad_lt V p a i h
theorem bs_tt_bd {l : List Ch} : ∀ (V : Vt) (p a : Int), (∀ c ∈ l, (0 ≤ c.1 ∧ c.1 < 20) ∧ 0 ≤ c.2 ∧ c.2 ≤ 100) → bs_tt V a ≤ bs_tt (bs_ad V l p) a ∧ bs_tt (bs_ad V l p) a ≤ bs_tt V a + 101 := by
  induction l with
  | nil => intro V p a _; exact ⟨Int.le_refl _, by show bs_tt V a ≤ bs_tt V a + 101; omega⟩
  | cons c l ih =>
    intro V p a h
    have hc := h c List.mem_cons_self
    rw [bs_ad]
    by_cases z : a = p
    · rw [bs_tt_lt (show a < p + 1 by omega), bs_tt_a1 hc.1, if_pos z]; omega
    · have h1 := ih (bs_a1 V p c.1 (1 + c.2)) (p + 1) a (fun d hd => h d (List.mem_cons_of_mem _ hd))
      rw [bs_tt_a1 hc.1, if_neg z] at h1
      exact h1
/-- lists whose characters are in range -/
def okL (l : List Ch) : Prop := ∀ c ∈ l, (0 ≤ c.1 ∧ c.1 < 20) ∧ 0 ≤ c.2 ∧ c.2 ≤ 100
def okX (x : Rd) : Prop := okL x.1.1 ∧ okL x.1.2.1 ∧ okL x.1.2.2 ∧ x.1.1.length ≤ 16 ∧ x.1.2.1.length ≤ 16 ∧ x.1.2.2.length ≤ 16
theorem okX_g {σ : Sg} {k : Int} {t : Nat} (h : okS σ) (hk : 0 ≤ k ∧ k < gc σ) (ht : t < 3) : okX (gR σ t k) := by
  have hok := okRd_g h hk ht
  exact ⟨fun c hc => ⟨okC_20 (hok.2.2.2.2.2.2.1 c hc), (hok.2.2.2.2.2.2.1 c hc).2⟩, fun c hc => ⟨okC_20 (hok.2.1 c hc), (hok.2.1 c hc).2⟩, fun c hc => ⟨okC_20 (hok.2.2.1 c hc), (hok.2.2.1 c hc).2⟩, hok.2.2.2.2.2.1, by have := hok.2.2.2.1; omega, by have := hok.2.2.2.2.1; omega⟩
theorem bs_v3_bd {V : Vt} {x : Rd} {L a u : Int} (h : okX x) : (V a u ≤ bs_v3 V x L a u ∧ bs_v3 V x L a u ≤ V a u + 303) ∧ bs_tt V a ≤ bs_tt (bs_v3 V x L) a ∧ bs_tt (bs_v3 V x L) a ≤ bs_tt V a + 303 := by
  have h1 : ∀ {l : List Ch}, okL l → ∀ c ∈ l, 0 ≤ c.2 ∧ c.2 ≤ 100 := fun h c hc => (h c hc).2
  unfold bs_v3
  dsimp only
  generalize hV1 : (if (x.1.1.length : Int) = L then bs_ad V x.1.1 0 else V) = V1
  have k1 : (V a u ≤ V1 a u ∧ V1 a u ≤ V a u + 101) ∧ bs_tt V a ≤ bs_tt V1 a ∧ bs_tt V1 a ≤ bs_tt V a + 101 := by
    rw [← hV1]
    split
    · exact ⟨bs_ad_bd V 0 a u (h1 h.1), bs_tt_bd V 0 a h.1⟩
    · omega
  generalize hV2 : (if (x.1.2.1.length : Int) ≤ L then bs_ad V1 x.1.2.1 0 else V1) = V2
  have k2 : (V1 a u ≤ V2 a u ∧ V2 a u ≤ V1 a u + 101) ∧ bs_tt V1 a ≤ bs_tt V2 a ∧ bs_tt V2 a ≤ bs_tt V1 a + 101 := by
    rw [← hV2]
    split
    · exact ⟨bs_ad_bd V1 0 a u (h1 h.2.1), bs_tt_bd V1 0 a h.2.1⟩
    · omega
  split
  · have k3 := bs_ad_bd V2 (L - x.1.2.2.length) a u (h1 h.2.2.1)
    have k4 := bs_tt_bd V2 (L - x.1.2.2.length) a h.2.2.1
    omega
  · omega
theorem bs_V_bd {R : Int → Rd} {L a u : Int} : ∀ m : Nat, (∀ k : Int, 0 ≤ k ∧ k < m → okX (R k)) → (0 ≤ bs_V R L m a u ∧ bs_V R L m a u ≤ 303 * m) ∧ 0 ≤ bs_tt (bs_V R L m) a ∧ bs_tt (bs_V R L m) a ≤ 303 * m := by
  intro m
  induction m with
  | zero =>
    intro _
    have : bs_tt (bs_V R L 0) a = 0 := by unfold bs_tt; simp [bs_sm, bs_V]
    rw [this]
    exact ⟨⟨Int.le_refl _, Int.le_refl _⟩, by omega, by omega⟩
  | succ m ih =>
    intro h
    have h1 := ih fun k hk => h k (by omega)
    have h2 := bs_v3_bd (V := bs_V R L m) (x := R m) (L := L) (a := a) (u := u) (h m (by omega))
    rw [bs_V]
    omega
section
variable {sl e : Nat} {π : Int → Nat} {M G : Nat → Int → Int} {T q : Nat} {l : List Ch}
theorem bc_least_0 (hq : aSeq q) (hl : rSeq M q l) (hc : ∀ c ∈ l, 0 ≤ c.2 ∧ c.2 ≤ 100) : ∀ (d i : Nat) (v : Int), i + d = l.length → x_Seq_leastConfidence_0 q v i (bM sl π M G e) = rI ((l.drop i).foldl (fun m c => bs_mn m c.2) v) (bM sl π M G e) := by
  have h16 := hl.2.1
  intro d
  induction d with
  | zero =>
    intro i v hi
    rw [x_Seq_leastConfidence_0_eq, seq_I hq, hl.1, if_neg (by omega), List.drop_eq_nil_of_le (by omega)]; rfl
  | succ d ih =>
    intro i v hi
    have e2 : wr ((i : Int) + 1) = ((i + 1 : Nat) : Int) := by rw [wr_id (by omega)]; omega
    have hi2 : i < l.length := by omega
    rw [x_Seq_leastConfidence_0_eq, seq_I hq, hl.1, if_pos (by omega), seq_c hq, seq_c_at hq hl hi2, bc_min]
    simp only [ci_r]
    rw [e2, ih (i + 1) _ (by omega), List.drop_eq_getElem_cons hi2, List.foldl_cons]
theorem bc_least (hq : aSeq q) (hl : rSeq M q l) (hc : ∀ c ∈ l, 0 ≤ c.2 ∧ c.2 ≤ 100) : d_Seq_leastConfidence q (bM sl π M G e) = rI (bs_lc l) (bM sl π M G e) := by
  rw [d_Seq_leastConfidence_7 _ _ (seq_d hq), x_Seq_leastConfidence_eq]
  exact bc_least_0 hq hl hc l.length 0 100 (by omega)
theorem tal_w (h : aTal T) {kr : Nat → Option bz_R} : bz_fR (bM sl π M G e) T 8 0 kr = kr (T + 1) := bm_fR h.1 h.2.2.2.1.1 h.2.2.2.2.1 (by omega)
theorem tal_s (h : aTal T) {kr : Nat → Option bz_R} : bz_fR (bM sl π M G e) T 8 1 kr = kr (T + 2) := bm_fR h.1 h.2.2.2.1.2.1 h.2.2.2.2.1 (by omega)
theorem tal_t (h : aTal T) {kr : Nat → Option bz_R} : bz_fR (bM sl π M G e) T 8 2 kr = kr (T + 3) := bm_fR h.1 h.2.2.2.1.2.2.1 h.2.2.2.2.1 (by omega)
theorem tal_m (h : aTal T) {kr : Nat → Option bz_R} : bz_fR (bM sl π M G e) T 8 3 kr = kr (T + 4) := bm_fR h.1 h.2.2.2.1.2.2.2 h.2.2.2.2.1 (by omega)
variable {i x : Int} {kk : Int → Option bz_R} {km : bz_M → Option bz_R}
theorem tal_rw (h : aTal T) (hi : 0 ≤ i ∧ i < 320) : bz_rI (bM sl π M G e) (T + 1) i kk = kk (M (T + 1) i) := bm_rI (n := 320) (Or.inl h.2.1.1) h.2.2.1.1 (by have := h.2.2.2.2.2; omega) hi
theorem tal_ww (h : aTal T) (hi : 0 ≤ i ∧ i < 320) : bz_wI (bM sl π M G e) (T + 1) i x km = km (bM sl π (up M (T + 1) i x) G e) := bm_wI (n := 320) h.2.1.1 h.2.2.1.1 (by have := h.2.2.2.2.2; omega) hi
theorem tal_lw (h : aTal T) : bz_al (bM sl π M G e) (T + 1) kk = kk 320 := bm_al (n := 320) (by rw [h.2.1.1]; decide) h.2.2.1.1 (by have := h.2.2.2.2.2; omega)
theorem tal_rs (h : aTal T) (hi : 0 ≤ i ∧ i < 17) : bz_rI (bM sl π M G e) (T + 2) i kk = kk (M (T + 2) i) := bm_rI (n := 17) (Or.inl h.2.1.2.1) h.2.2.1.2.1 (by have := h.2.2.2.2.2; omega) hi
theorem tal_ws (h : aTal T) (hi : 0 ≤ i ∧ i < 17) : bz_wI (bM sl π M G e) (T + 2) i x km = km (bM sl π (up M (T + 2) i x) G e) := bm_wI (n := 17) h.2.1.2.1 h.2.2.1.2.1 (by have := h.2.2.2.2.2; omega) hi
theorem tal_ls (h : aTal T) : bz_al (bM sl π M G e) (T + 2) kk = kk 17 := bm_al (n := 17) (by rw [h.2.1.2.1]; decide) h.2.2.1.2.1 (by have := h.2.2.2.2.2; omega)
theorem tal_rt (h : aTal T) (hi : 0 ≤ i ∧ i < 16) : bz_rI (bM sl π M G e) (T + 3) i kk = kk (M (T + 3) i) := bm_rI (n := 16) (Or.inl h.2.1.2.2.1) h.2.2.1.2.2.1 (by have := h.2.2.2.2.2; omega) hi
theorem tal_wt (h : aTal T) (hi : 0 ≤ i ∧ i < 16) : bz_wI (bM sl π M G e) (T + 3) i x km = km (bM sl π (up M (T + 3) i x) G e) := bm_wI (n := 16) h.2.1.2.2.1 h.2.2.1.2.2.1 (by have := h.2.2.2.2.2; omega) hi
theorem tal_lt (h : aTal T) : bz_al (bM sl π M G e) (T + 3) kk = kk 16 := bm_al (n := 16) (by rw [h.2.1.2.2.1]; decide) h.2.2.1.2.2.1 (by have := h.2.2.2.2.2; omega)
theorem tal_rm (h : aTal T) (hi : 0 ≤ i ∧ i < 16) : bz_rI (bM sl π M G e) (T + 4) i kk = kk (M (T + 4) i) := bm_rI (n := 16) (Or.inl h.2.1.2.2.2) h.2.2.1.2.2.2 (by have := h.2.2.2.2.2; omega) hi
theorem tal_wm (h : aTal T) (hi : 0 ≤ i ∧ i < 16) : bz_wI (bM sl π M G e) (T + 4) i x km = km (bM sl π (up M (T + 4) i x) G e) := bm_wI (n := 16) h.2.1.2.2.2 h.2.2.1.2.2.2 (by have := h.2.2.2.2.2; omega) hi
/-- the votes laid -/
def rW (M : Nat → Int → Int) (T : Nat) (V : Vt) : Prop := ∀ p, 0 ≤ p ∧ p < 16 → M (T + 3) p = bs_tt V p ∧ ∀ v, 0 ≤ v ∧ v < 20 → M (T + 1) (20 * p + v) = V p v
def S_v (T : Nat) (b : Nat) (_ : Int) : Prop := b = T + 1 ∨ b = T + 3
theorem aTS (hT : aTal T) (hq : aSeq q) : q + 2 < T ∨ T + 4 < q := by
  have h1 := a_ne hT.1 hq.1 (by decide)
  have h2 := a_ne hT.1 hq.2.1.1 (by decide)
  have h3 := a_ne hT.1 hq.2.1.2 (by decide)
  have h4 := a_ne hT.2.1.1 hq.1 (by decide)
  have h5 := a_ne hT.2.1.2.1 hq.1 (by decide)
  have h6 := a_ne hT.2.1.2.2.1 hq.1 (by decide)
  have h7 := a_ne hT.2.1.2.2.2 hq.1 (by decide)
  omega
theorem bc_addVotes_0 (hT : aTal T) (hq : aSeq q) (hok : okL l) {p0 : Int} (hp0 : 0 ≤ p0 ∧ p0 + l.length ≤ 16) : ∀ (d i : Nat) (V : Vt) (M : Nat → Int → Int), i + d = l.length → rSeq M q l → rW M T V → (∀ p v : Int, p0 + i ≤ p → 0 ≤ V p v ∧ V p v ≤ 1000000) → (∀ p : Int, p0 + i ≤ p → 0 ≤ bs_tt V p ∧ bs_tt V p ≤ 1000000) →
    ∃ M', x_Tal_addVotes_0 T q p0 i (bM sl π M G e) = rI 0 (bM sl π M' G e) ∧ fr (S_v T) M M' ∧ rW M' T (bs_ad V (l.drop i) (p0 + i)) := by
  have hTq := aTS hT hq
  intro d
  induction d with
  | zero =>
    intro i V M hi hl hW hV hB
    rw [x_Tal_addVotes_0_eq, seq_I hq, hl.1, if_neg (by omega), List.drop_eq_nil_of_le (by omega)]
    exact ⟨M, rfl, fr_refl, hW⟩
  | succ d ih =>
    intro i V M hi hl hW hV hB
    have hi2 : i < l.length := by omega
    have hci := hok _ (List.getElem_mem hi2)
    have e1 : wr (p0 + (i : Int)) = p0 + i := wr_id (by omega)
    have e2 : wr (wr ((p0 + i) * 20) + (l[i]).1) = 20 * (p0 + i) + (l[i]).1 := by rw [wr_id (x := (p0 + i) * 20) (by omega), wr_id (by omega)]; omega
    have e3 : wr ((i : Int) + 1) = ((i + 1 : Nat) : Int) := by rw [wr_id (by omega)]; omega
    have hW1 := hW (p0 + i) (by omega)
    have hv1 := hV (p0 + i) (l[i]).1 (Int.le_refl _)
    have hb1 := hB (p0 + i) (Int.le_refl _)
    rw [x_Tal_addVotes_0_eq, seq_I hq, hl.1, if_pos (by omega), seq_v hq, seq_v_at hq hl hi2, e1, e2, e3, if_neg (by omega), if_pos (by omega), if_neg (by omega), tal_w hT, tal_lw hT, if_pos (by omega), tal_w hT, tal_rw hT (by omega), seq_c hq, seq_c_at hq hl hi2, tal_ww hT (by omega), tal_t hT, tal_rt hT (by omega), up_a (by omega), hW1.1, hW1.2 _ hci.1, wr_id (x := 1 + (l[i]).2) (by omega), wr_id (by omega)]
    have hlu : rSeq (up M (T + 1) (20 * (p0 + i) + (l[i]).1) (V (p0 + i) (l[i]).1 + (1 + (l[i]).2))) q l := rSeq_fr (S := fun b _ => b = T + 1) hl (fr_up rfl fr_refl) (fun b j z => by omega)
    rw [seq_c hq, seq_c_at hq hlu hi2, wr_id (x := 1 + (l[i]).2) (by omega), tal_wt hT (by omega), wr_id (by omega)]
    obtain ⟨M', g, f, c⟩ := ih (i + 1) (bs_a1 V (p0 + i) (l[i]).1 (1 + (l[i]).2)) (up (up M (T + 1) (20 * (p0 + i) + (l[i]).1) (V (p0 + i) (l[i]).1 + (1 + (l[i]).2))) (T + 3) (p0 + i) (bs_tt V (p0 + i) + (1 + (l[i]).2))) (by omega) (rSeq_fr (S := fun b _ => b = T + 1 ∨ b = T + 3) hl (fr_up (Or.inr rfl) (fr_up (Or.inl rfl) fr_refl)) (fun b j z => by omega)) (fun p hp => by
        refine ⟨?_, fun v hv => ?_⟩
        · rw [bs_tt_a1 hci.1]
          by_cases z : p = p0 + i
          · rw [if_pos z, z, up_s]
          · rw [if_neg z, up_i z, up_a (by omega)]; exact (hW p hp).1
        · rw [up_a (by omega)]
          unfold bs_a1
          by_cases z : p = p0 + i ∧ v = (l[i]).1
          · rw [if_pos z, z.1, z.2, up_s]
          · rw [if_neg z, up_i (by omega)]; exact (hW p hp).2 v hv) (fun p v hp => by unfold bs_a1; rw [if_neg (by omega)]; exact hV p v (by omega)) (fun p hp => by rw [bs_tt_a1 hci.1, if_neg (by omega)]; exact hB p (by omega))
    refine ⟨M', g, fr_trans (fr_up (Or.inr rfl) (fr_up (Or.inl rfl) fr_refl)) f, ?_⟩
    rw [List.drop_eq_getElem_cons hi2, bs_ad, show p0 + (i : Int) + 1 = p0 + ((i + 1 : Nat) : Int) by omega]
    exact c
end
