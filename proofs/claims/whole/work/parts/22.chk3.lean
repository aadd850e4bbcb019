/-! CHECKS: calls -/
theorem bz_tg_inv {t : Nat} {f : Nat → Option bz_R} {r : bz_R} : ∀ {ts : List (Nat × Nat)}, bz_tg ts t f = some r → ∃ k', (t, k') ∈ ts ∧ f k' = some r
  | [], h => by cases h
  | q :: ts, h => by
    unfold bz_tg at h
    split at h
    · rename_i e
      subst e
      exact ⟨q.2, List.mem_cons_self, h⟩
    · obtain ⟨k', h1, h2⟩ := bz_tg_inv h
      exact ⟨k', List.mem_cons_of_mem _ h1, h2⟩
theorem bz_tr_inv {mls : List Nat} {rec : bz_X0} {ts : List (Nat × Nat)} {As : List bz_V} {μ : bz_M} {r : bz_R} (h : bz_tr mls rec ts As μ = some r) : ∃ t k', (t, k') ∈ ts ∧ rec k' 0 (bz_lo (mls.getD k' 0) As) [] μ = some r ∧ (t = 0 ∨ ∃ a As', As = zR a :: As' ∧ gT μ a = t) := by
  unfold bz_tr at h
  split at h
  · exact ⟨0, _, List.mem_cons_self, h, Or.inl rfl⟩
  · split at h
    · rename_i a As'
      obtain ⟨k', h1, h2⟩ := bz_tg_inv h
      exact ⟨_, k', h1, h2, Or.inr ⟨a, As', rfl, rfl⟩⟩
    · cases h
def bz_lkq (k idx x : Nat) : Bool := bz_lk.any fun e => Nat.beq e.1 (bz_ocs.getD k 0) && Nat.beq e.2.1 idx && Nat.beq e.2.2 x
theorem bz_lkq_eq {k idx x : Nat} (h : bz_lkq k idx x = true) : Cond.methodLink (bz_ow k) idx (bz_x x) ∈ bz_W := by
  obtain ⟨e, he, h2⟩ := List.any_eq_true.mp h
  rw [Bool.and_eq_true, Bool.and_eq_true] at h2
  have hw := bz_lk_in e he
  unfold bz_lkw at hw
  rw [Nat.eq_of_beq_eq_true h2.1.1, Nat.eq_of_beq_eq_true h2.1.2, Nat.eq_of_beq_eq_true h2.2] at hw
  exact hw
theorem bz_x_y {k' : Nat} (h : k' < bz_KN) : bz_x k' = bz_y k' := by
  unfold bz_x
  rw [if_pos (Nat.lt_trans h (by decide))]
/-- what is asked of a callee, whatever the call -/
def bz_ktA (k k' : Nat) (kd : List Nat) : Bool := Nat.blt k' bz_KN && Nat.ble (bz_fr k' + 1) (bz_fr k) && Nat.ble (bz_lo0 k' + bz_ml k' + 19) (bz_lo0 k) && Nat.ble (bz_kw kd) (bz_ml k') && decide (∀ j ∈ bz_lp 0 kd, j ∈ bz_lgs k') && decide ((bz_y k').cls ∈ bz_ini)
theorem bz_ktA_eq {k k' : Nat} {kd : List Nat} (h : bz_ktA k k' kd = true) : bz_fit k k' ∧ bz_kw kd ≤ bz_ml k' ∧ (∀ j ∈ bz_lp 0 kd, j ∈ bz_lgs k') ∧ Cond.initialized (bz_y k').cls ∈ bz_W := by
  unfold bz_ktA at h
  rw [Bool.and_eq_true, Bool.and_eq_true, Bool.and_eq_true, Bool.and_eq_true, Bool.and_eq_true, decide_eq_true_eq, decide_eq_true_eq] at h
  exact ⟨⟨Nat.le_of_ble_eq_true h.1.1.1.1.1, Nat.le_of_ble_eq_true h.1.1.1.1.2, Nat.le_of_ble_eq_true h.1.1.1.2⟩, Nat.le_of_ble_eq_true h.1.1.2, h.1.2, bz_ini_in _ h.2⟩
/-- Symbology's: the method that the entry names -/
def bz_xu (x t k' : Nat) : Bool := decide (x ∈ bz_same) && decide ((t, x, k') ∈ bz_sel) && decide ((bz_x x).cls = "BarcodeEngine$Symbology" ∧ (bz_x x).desc = (bz_y k').desc) && (decide (x ∈ bz_decl) || (Nat.blt x bz_KN && decide (x ∈ bz_inst) && decide (bz_hh0 x = [])))
theorem bz_xu_eq {x t k' : Nat} (h : bz_xu x t k' = true) : ((bz_x x).cls = "BarcodeEngine$Symbology" ∧ (bz_x x).desc = (bz_y k').desc) ∧ Cond.sameMethod (bz_x x).cls (bz_x x).cls (bz_x x).name (bz_x x).desc ∈ bz_W ∧ bz_dcl (bz_x x) ∧ Cond.selects (bz_cn1 t) (bz_x x) (bz_y k') ∈ bz_W := by
  unfold bz_xu at h
  rw [Bool.and_eq_true, Bool.and_eq_true, Bool.and_eq_true, Bool.or_eq_true, Bool.and_eq_true, Bool.and_eq_true, decide_eq_true_eq, decide_eq_true_eq, decide_eq_true_eq, decide_eq_true_eq, decide_eq_true_eq, decide_eq_true_eq] at h
  obtain ⟨⟨⟨h1, h2⟩, h3⟩, h4⟩ := h
  refine ⟨h3, bz_same_in _ h1, ?_, bz_sel_in _ h2⟩
  rcases h4 with h4 | ⟨⟨h4, h5⟩, h6⟩
  · exact Or.inr ⟨x, h4, rfl⟩
  · have h4 : x < bz_KN := Nat.le_of_ble_eq_true h4
    rw [bz_x_y h4]
    refine Or.inl ⟨bz_inst_in _ h5, bz_b x, bz_ml x, bz_rt x, ?_⟩
    rw [← bz_hw0 h6]
    exact bz_hw_W h4
def bz_ktB (k i : Nat) (kd : List Nat) (rv t k' : Nat) : Bool := match bz_cs k i with
  | some (.invokestatic idx, 3) => Nat.beq t 0 && bz_nx k i 3 && bz_lkq k idx k' && decide (k' ∈ bz_stat) && Nat.beq kd.length (bz_pn k')
  | some (.invokevirtual idx, 3) => bz_nx k i 3 && Nat.beq kd.length (bz_pn k' + 1) && decide (bz_hh0 k' = []) && decide (k' ∈ bz_inst) && (decide (bz_cn1 t = (bz_y k').cls) && ((Nat.ble 1 t && Nat.ble t 10) || Nat.beq t 28) && bz_lkq k idx k' && decide ((t, k', k') ∈ bz_sel) || (Nat.ble 4 rv && Nat.ble 1 t && Nat.ble t 3 && bz_lk.any fun e => Nat.beq e.1 (bz_ocs.getD k 0) && Nat.beq e.2.1 idx && bz_xu e.2.2 t k'))
  | some (.invokespecial idx, 3) => Nat.ble 4 rv && bz_nx k i 3 && Nat.beq kd.length (bz_pn k' + 1) && decide (bz_hh0 k' = []) && decide (k' ∈ bz_inst) && (Nat.ble 1 t && Nat.ble t 10) && decide (bz_rt k' = none ∧ (bz_y k').name = "<init>") && (bz_lkq k idx k' || decide ((bz_ocs.getD k 0, idx, k') ∈ bz_lkn))
  | _ => false
theorem bz_ktB_eq {k : Nat} {N : bz_N} {i : Nat} {kd : List Nat} {rv t k' : Nat} {As rest : List bz_V} {μ : bz_M} {res' : bz_R} (hA : bz_ktA k k' kd = true) (hB : bz_ktB k i kd rv t k' = true) (hlen : As.length = kd.length) (ht : t = 0 ∨ ∃ a As', As = zR a :: As' ∧ gT μ a = t) (hsum : bz_sum rest ≤ 8) (hno : 4 ≤ rv → ∃ v, res'.1 = .inl v) : bz_pc k (i + 1) = bz_pc k i + 3 ∧ bz_Run k N i As rest μ k' res' := by
  obtain ⟨hf, -, -, hini⟩ := bz_ktA_eq hA
  have hxy := bz_x_y hf.1
  unfold bz_ktB at hB
  split at hB
  · rename_i idx hd
    rw [Bool.and_eq_true, Bool.and_eq_true, Bool.and_eq_true, Bool.and_eq_true, decide_eq_true_eq] at hB
    obtain ⟨⟨⟨⟨b1, b2⟩, b3⟩, b4⟩, b5⟩ := hB
    have hl := bz_lkq_eq b3
    rw [hxy] at hl
    refine ⟨bz_nx_eq b2, ?_⟩
    cases hh : bz_hh0 k' with
    | nil => exact bz_run_S hf hh hl (bz_stat_in _ b4) hini (bz_cs_eq hd) (hlen.trans (Nat.eq_of_beq_eq_true b5)) hsum
    | cons h0 hs0 => exact bz_run_W hf hh hl (bz_stat_in _ b4) hini (bz_cs_eq hd) (hlen.trans (Nat.eq_of_beq_eq_true b5)) hsum
  · rename_i idx hd
    rw [Bool.and_eq_true, Bool.and_eq_true, Bool.and_eq_true, Bool.and_eq_true, decide_eq_true_eq, decide_eq_true_eq, Bool.or_eq_true] at hB
    obtain ⟨⟨⟨⟨b1, b2⟩, b3⟩, b4⟩, hB⟩ := hB
    refine ⟨bz_nx_eq b1, ?_⟩
    have hn := Nat.eq_of_beq_eq_true b2
    rcases hB with hB | hB
    · rw [Bool.and_eq_true, Bool.and_eq_true, Bool.and_eq_true, Bool.or_eq_true, Bool.and_eq_true, decide_eq_true_eq, decide_eq_true_eq] at hB
      obtain ⟨⟨⟨c1, c2⟩, c3⟩, c4⟩ := hB
      have hl := bz_lkq_eq c3
      rw [hxy] at hl
      have hs := bz_sel_in _ c4
      unfold bz_selw at hs
      dsimp only at hs
      rw [c1, hxy] at hs
      have ht' : (1 ≤ t ∧ t ≤ 10) ∨ t = 28 := c2.imp (fun q => ⟨Nat.le_of_ble_eq_true q.1, Nat.le_of_ble_eq_true q.2⟩) Nat.eq_of_beq_eq_true
      rcases ht with rfl | ⟨a, As', rfl, rfl⟩
      · omega
      · exact bz_run_V hf b3 ht' c1 hl (bz_inst_in _ b4) hs hini (bz_cs_eq hd) (by rw [List.length_cons] at hlen; omega) hsum
    · rw [Bool.and_eq_true, Bool.and_eq_true, Bool.and_eq_true] at hB
      obtain ⟨⟨⟨c1, c2⟩, c3⟩, c4⟩ := hB
      have c1 := Nat.le_of_ble_eq_true c1
      have c2 := Nat.le_of_ble_eq_true c2
      have c3 := Nat.le_of_ble_eq_true c3
      obtain ⟨⟨e1, e2, x⟩, he, h2⟩ := List.any_eq_true.mp c4
      rw [Bool.and_eq_true, Bool.and_eq_true] at h2
      have hl := bz_lk_in _ he
      unfold bz_lkw at hl
      dsimp only at hl h2
      rw [Nat.eq_of_beq_eq_true h2.1.1, Nat.eq_of_beq_eq_true h2.1.2] at hl
      obtain ⟨d1, d2, d3, d4⟩ := bz_xu_eq h2.2
      obtain ⟨v, hv⟩ := hno c1
      rcases ht with rfl | ⟨a, As', rfl, rfl⟩
      · omega
      · exact bz_run_U hv hf b3 ⟨c2, c3⟩ d1 hl d2 d3 (bz_inst_in _ b4) d4 hini (bz_cs_eq hd) (by rw [List.length_cons] at hlen; omega) hsum
  · rename_i idx hd
    rw [Bool.and_eq_true, Bool.and_eq_true, Bool.and_eq_true, Bool.and_eq_true, Bool.and_eq_true, Bool.and_eq_true, Bool.and_eq_true, Bool.and_eq_true, Bool.or_eq_true, decide_eq_true_eq, decide_eq_true_eq, decide_eq_true_eq, decide_eq_true_eq] at hB
    obtain ⟨⟨⟨⟨⟨⟨⟨b0, b1⟩, b2⟩, b3⟩, b4⟩, ⟨b5, b5'⟩⟩, b6, b6'⟩, hB⟩ := hB
    refine ⟨bz_nx_eq b1, ?_⟩
    have hn := Nat.eq_of_beq_eq_true b2
    have b5 := Nat.le_of_ble_eq_true b5
    have b5' := Nat.le_of_ble_eq_true b5'
    obtain ⟨v, hv⟩ := hno (Nat.le_of_ble_eq_true b0)
    rcases ht with rfl | ⟨a, As', rfl, rfl⟩
    · omega
    · intro p l e R s m args below meth c H locs ls vs wr cells slots mc ms C M PS hR hS hvv hvr hls hcs
      have ha : a ≠ 15 := bz_no15 hR C.2.2.2.2 (Or.inl ⟨b5, b5'⟩)
      rcases hB with hB | hB
      · have hl := bz_lkq_eq hB
        rw [hxy] at hl
        exact bz_run_I hv hf b3 b6 b6' ha hl (bz_inst_in _ b4) hini (bz_cs_eq hd) (by rw [List.length_cons] at hlen; omega) hsum p l e R s m args below meth c H locs ls vs wr cells slots mc ms C M PS hR hS hvv hvr hls hcs
      · exact bz_run_IN hv hf b3 b6 b6' ha hB hxy (bz_inst_in _ b4) hini (bz_cs_eq hd) (by rw [List.length_cons] at hlen; omega) hsum p l e R s m args below meth c H locs ls vs wr cells slots mc ms C M PS hR hS hvv hvr hls hcs
  · cases hB
theorem bz_kk_len : ∀ {vs : List bz_V} {ks : List Nat}, bz_kk vs ks = true → vs.length = ks.length
  | [], [], _ => rfl
  | [], _ :: _, h => by cases h
  | .inl _ :: _, [], h => by cases h
  | .inr (.inl _) :: _, [], h => by cases h
  | .inr (.inr _) :: _, [], h => by cases h
  | .inl x :: vs, k :: ks, h => by rw [bz_kk, Bool.and_eq_true] at h; rw [List.length_cons, List.length_cons, bz_kk_len h.2]
  | .inr (.inl x) :: vs, k :: ks, h => by rw [bz_kk, Bool.and_eq_true] at h; rw [List.length_cons, List.length_cons, bz_kk_len h.2]
  | .inr (.inr x) :: vs, k :: ks, h => by rw [bz_kk, Bool.and_eq_true] at h; rw [List.length_cons, List.length_cons, bz_kk_len h.2]
