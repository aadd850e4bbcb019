/-! FIELDS AND ARRAYS WRITTEN, ARRAYS READ -/
theorem bz_ce_congr {N : bz_N} {μ μ' : bz_M} {b : Nat} (h0 : μ'.1 = μ.1) (h1 : ∀ i, gM μ' b i = gM μ b i) (h2 : ∀ i, gP μ' b i = gP μ b i) (h3 : ∀ i, gG μ' b i = gG μ b i) : bz_ce N μ' b = bz_ce N μ b := by
  have e1 : gT μ' b = gT μ b := by unfold gT; rw [h0]
  have e2 : bz_nn μ' b = bz_nn μ b := by unfold bz_nn; rw [h0]
  unfold bz_ce bz_da bz_fv
  simp only [e1, e2, h1, h2, h3]
theorem bz_list_set {f g : Nat → Value} {n j : Nat} {v : Value} (h1 : g j = v) (h2 : ∀ i, i ≠ j → g i = f i) : ((List.range n).map f).set j v = (List.range n).map g := by
  apply List.ext_getElem?
  intro q
  rw [List.getElem?_set]
  by_cases hq : q < n
  · rw [List.getElem?_map, List.getElem?_range hq, List.getElem?_map, List.getElem?_range hq]
    split
    · rename_i e
      subst e
      simp [hq, h1]
    · rename_i e
      simp [h2 q (fun z => e z.symm)]
  · rw [List.getElem?_eq_none (by simp; omega), List.getElem?_eq_none (by simp; omega)]
    split
    · rename_i e
      subst e
      simp; omega
    · rfl
theorem bz_OK_sM {N : bz_N} {μ : bz_M} {a : Nat} {j x : Int} (h : bz_OK N μ) (ha : 16 ≤ a ∧ a < μ.1.length) (hx : r32 x) : bz_OK N (sM μ a j x) := by
  obtain ⟨h1, h2, h3, h4, h5, h6, h7, h8⟩ := h
  refine ⟨h1, fun b i => ?_, h3, fun b i hb => ?_, h5, h6, fun b hb i => ?_, h8⟩
  · show r32 (if b = a ∧ i = j then x else gM μ b i)
    split
    · exact hx
    · exact h2 b i
  · have hb' : μ.1.length ≤ b := hb
    refine ⟨(h4 b i hb).1, ?_, (h4 b i hb).2.2⟩
    show (if b = a ∧ i = j then x else gM μ b i) = 0
    rw [if_neg (by omega)]
    exact (h4 b i hb).2.1
  · refine ⟨?_, (h7 b hb i).2⟩
    show (if b = a ∧ i = j then x else gM μ b i) = _
    rw [if_neg (by omega)]
    exact (h7 b hb i).1
theorem bz_OK_sG {N : bz_N} {μ : bz_M} {a : Nat} {j x : Int} (h : bz_OK N μ) (ha : 16 ≤ a ∧ a < μ.1.length) (hx : r64 x) : bz_OK N (sG μ a j x) := by
  obtain ⟨h1, h2, h3, h4, h5, h6, h7, h8⟩ := h
  refine ⟨h1, h2, fun b i => ?_, fun b i hb => ?_, h5, h6, h7, h8⟩
  · show r64 (if b = a ∧ i = j then x else gG μ b i)
    split
    · exact hx
    · exact h3 b i
  · have hb' : μ.1.length ≤ b := hb
    refine ⟨(h4 b i hb).1, (h4 b i hb).2.1, ?_⟩
    show (if b = a ∧ i = j then x else gG μ b i) = 0
    rw [if_neg (by omega)]
    exact (h4 b i hb).2.2
theorem bz_OK_sP {N : bz_N} {μ : bz_M} {a v : Nat} {j : Int} (h : bz_OK N μ) (ha : 16 ≤ a ∧ a < μ.1.length) : bz_OK N (sP μ a j v) := by
  obtain ⟨h1, h2, h3, h4, h5, h6, h7, h8⟩ := h
  refine ⟨h1, h2, h3, fun b i hb => ?_, h5, h6, fun b hb i => ?_, h8⟩
  · have hb' : μ.1.length ≤ b := hb
    refine ⟨?_, (h4 b i hb).2⟩
    show (if b = a ∧ i = j then v else gP μ b i) = 0
    rw [if_neg (by omega)]
    exact (h4 b i hb).1
  · refine ⟨(h7 b hb i).1, ?_⟩
    show (if b = a ∧ i = j then v else gP μ b i) = _
    rw [if_neg (by omega)]
    exact (h7 b hb i).2
/-- a field is written -/
theorem bz_i_put {k : Nat} {N : bz_N} {i : Nat} {L : List (Option bz_V)} {st : List bz_V} {μ μ' : bz_M} {res : bz_R} {a c j idx : Nat} {ref : String} {v : bz_V} (hT : gT μ a = c) (hc : 1 ≤ c ∧ c ≤ 10) (hj : j < bz_ns c) (hd : decode (bz_b k) (bz_pc k i) = .ok (.putfield idx, 3)) (hp : bz_pc k (i + 1) = bz_pc k i + 3)
    (hw : Cond.fieldLink (bz_ow k) idx ref (bz_fnd (c * 100 + j)).2.1 (bz_fnd (c * 100 + j)).2.2.1 ∈ bz_W) (hsm : bz_same1 ref (bz_fnd (c * 100 + j))) (hfin : (bz_fnd (c * 100 + j)).2.2.2 = false ∨ ((bz_fnd (c * 100 + j)).2.2.2 = true ∧ (bz_y k).name = "<init>" ∧ (bz_fnd (c * 100 + j)).1 = bz_ow k))
    (hC : C1 μ' = C1 μ ∧ C2 μ' = C2 μ) (hl : μ'.1 = μ.1) (ho : ∀ b, b ≠ a → bz_ce N μ' b = bz_ce N μ b) (hs : ∀ q, q ≠ j → bz_fv N μ' a (bz_fk c q) (q : Int) = bz_fv N μ a (bz_fk c q) (q : Int))
    (hval : ∀ w, bz_vr N v w → bz_fv N μ' a (bz_fk c j) (j : Int) = w ∧ narrow (bz_tyf c j) w = w ∧ fits (bz_tyf c j) w = true ∧ (16 ≤ a ∧ a < μ.1.length → bz_OK N μ → bz_OK N μ'))
    (h : bz_H k N (i + 1) L st μ' res) : bz_H k N i L (v :: zR a :: st) μ res := by
  refine ⟨by rw [← hC.1, ← hC.2]; exact h.1, ?_⟩
  intro p l e R s m args below meth c' H locs ls sv c0 s0 mc ms C a1 a2 a3 a4 a5 a6 hz hS hR hL hv
  have hts := C.1.2.2.2.2.2.2.2.2.1
  obtain ⟨F0', F, hq, hty, hnm, -, hin, hfd⟩ := bz_cls hc.1 hc.2
  have hns : bz_ns c ≤ 33 := by
    rcases (show c = 1 ∨ c = 2 ∨ c = 3 ∨ c = 4 ∨ c = 5 ∨ c = 6 ∨ c = 7 ∨ c = 8 ∨ c = 9 ∨ c = 10 by omega) with rfl | rfl | rfl | rfl | rfl | rfl | rfl | rfl | rfl | rfl <;> decide
  have hfd' := hfd j (by omega)
  rw [hfd'] at hw hsm hfin
  have ha := bz_rep_tag hR C.2.2.2.2 (a := a) (by rw [hT]; exact Or.inl hc)
  obtain ⟨w0, w1, ws, rfl, hv0, hv1, t⟩ := bz_vs2 hv
  have e1 := bz_vr_in hv1 (by omega)
  subst e1
  obtain ⟨g1, g2, g3, g4⟩ := hval w0 hv0
  have he := bz_ws_get (N := N) ha
  rw [bz_ce_obj hT hc.2] at he
  have hT' : gT μ' a = c := by rw [← hT]; unfold gT; rw [hl]
  have hset : (bz_ws N μ).set (a - 16) (bz_ad N a, .inr (c - 1, ((List.range (bz_ns c)).map fun j => bz_fv N μ a (bz_fk c j) (j : Int)).set j w0)) = bz_ws N μ' := by
    rw [bz_list_set (g := fun q => bz_fv N μ' a (bz_fk c q) (q : Int)) g1 hs, ← bz_ce_obj hT' hc.2]
    exact bz_ws_set ha hl ho
  have hlen : j < ((List.range (bz_ns c)).map fun j => bz_fv N μ a (bz_fk c j) (j : Int)).length := by simp; exact hj
  have KK : ∀ (H1 : Heap) (locs1 : List Loc), va_P (nD N) vwCl ((bz_ws N μ).set (a - 16) (bz_ad N a, .inr (c - 1, ((List.range (bz_ns c)).map fun j => bz_fv N μ a (bz_fk c j) (j : Int)).set j w0))) H1 → va_D (bz_A N) ((bz_ws N μ).set (a - 16) (bz_ad N a, .inr (c - 1, ((List.range (bz_ns c)).map fun j => bz_fv N μ a (bz_fk c j) (j : Int)).set j w0))) → va_S (bz_A N) s.heap H1 locs1 → W p l e R s m args below meth c' H1 locs1 (C1 μ - c0) (C2 μ - s0) (vx_MQ below (bz_Qc k N res) (bz_XC N res) args s mc ms (bz_A N)) (F0 m (bz_pc k i + 3) ls ws) := by
    intro H1 locs1 hP1 hD1 hS1
    rw [hset] at hP1
    have K := h.2 p l e R s m args below meth c' H1 locs1 ls ws c0 s0 mc ms C (by rw [hC.1]; exact a1) (by rw [hC.2]; exact a2) a3 a4 a5 a6 hz hS1 ⟨g4 ha hR.1, hP1⟩ hL t
    rw [hp, hC.1, hC.2] at K
    exact K
  rcases hfin with hfin | ⟨hfin, hini, hdecl⟩
  · exact va_put (D := nD N) C.1.1 C.1.2.2.1 hts hin (bz_tyf c) hty hnm C.1.2.2.2.2.2.1 C.2.2.2.2.1 hR.2 bz_ws_D hS (a - 16) he hq j hj (hts _ hw) (bz_same_use hts hsm) hfin (hty j hj) g2 g3 hlen hd KK
  · exact va_putF (D := nD N) C.1.1 C.1.2.2.1 hts hin (bz_tyf c) hty hnm C.1.2.2.2.2.2.1 C.2.2.2.2.1 hR.2 bz_ws_D hS (a - 16) he hq j hj (hts _ hw) (bz_same_use hts hsm) hfin (C.1.2.2.2.2.2.2.1.trans hini) hdecl (hty j hj) g2 g3 hlen hd KK
theorem bz_arr {N : bz_N} {μ : bz_M} {a t : Nat} (hT : gT μ a = t) (h : 20 ≤ t) : bz_ce N μ a = .inl (nC N t, bz_nn μ a, bz_da N μ a t) := by
  unfold bz_ce
  rw [hT, if_neg (by omega)]
theorem bz_gN_eq (μ : bz_M) (a : Nat) : gN μ a = (bz_nn μ a : Int) := rfl
/-- an outside cell's tag -/
theorem bz_out {N : bz_N} {μ : bz_M} {U : State} {H0 : Heap} (hO : bz_OK N μ) (hE : bz_E N U H0) {a t : Nat} (hT : gT μ a = t) (ht : t = 21 ∨ t = 28 ∨ t = 29) : a < 16 ∧ a ≠ 15 ∧ (nT N)[a]? = some (t, bz_nn μ a) := by
  have hl : a < μ.1.length := bz_gT_len (by omega)
  have ha : a < 16 := by
    rcases Nat.lt_or_ge a 16 with q | q
    · exact q
    · have := hO.2.2.2.2.1 a q hl
      rw [hT] at this
      rcases this with q | q | q <;> omega
  have e2 : μ.1[a]? = some μ.1[a] := List.getElem?_eq_getElem hl
  have e3 : μ.1[a] = (t, bz_nn μ a) := by
    have f1 : gT μ a = (μ.1[a]).1 := by unfold gT; rw [List.getD_eq_getElem?_getD, e2]; rfl
    have f2 : bz_nn μ a = (μ.1[a]).2 := by unfold bz_nn; rw [List.getD_eq_getElem?_getD, e2]; rfl
    rw [f2, ← hT, f1]
  have e4 : (nT N)[a]? = some (t, bz_nn μ a) := by rw [← hO.2.2.2.2.2.1 a ha, e2, e3]
  refine ⟨ha, ?_, e4⟩
  rintro rfl
  obtain ⟨-, -, -, -, -, -, -, -, -, -, -, -, -, -, -, -, -, h20⟩ := hE
  have := h20 _ e4
  dsimp only at this
  omega
