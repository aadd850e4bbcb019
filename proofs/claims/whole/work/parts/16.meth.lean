/-! A METHOD'S CONTRACT -/
theorem bz_plain_all : (List.range bz_KN).all (fun k => plainFor (bz_y k) && decide ((bz_y k).cls = bz_ow k) && decide (bz_pc k 0 = 0)) = true := by decide +kernel
theorem bz_plain {k : Nat} (hk : k < bz_KN) : plainFor (bz_y k) = true ∧ (bz_y k).cls = bz_ow k ∧ bz_pc k 0 = 0 := by
  have h := List.all_eq_true.mp bz_plain_all k (List.mem_range.mpr hk)
  rw [Bool.and_eq_true, Bool.and_eq_true, decide_eq_true_eq, decide_eq_true_eq] at h
  exact ⟨h.1.1, h.1.2, h.2⟩
theorem bz_hw_W {k : Nat} (hk : k < bz_KN) : bz_hw k ∈ bz_W := by
  refine List.mem_filter.mpr ⟨bz_hw_in hk, ?_⟩
  unfold bz_hw
  split <;> rfl
/-- how wide the values are, and where the longs stand -/
def bz_kw : List Nat → Nat
  | [] => 0
  | 1 :: ks => bz_kw ks + 2
  | _ :: ks => bz_kw ks + 1
def bz_lp : Nat → List Nat → List Nat
  | _, [] => []
  | i, 1 :: ks => i :: bz_lp (i + 2) ks
  | i, _ :: ks => bz_lp (i + 1) ks
theorem bz_fl_len : ∀ {vs : List bz_V} {ks : List Nat}, bz_kk vs ks = true → (bz_fl vs).length = bz_kw ks
  | [], [], _ => rfl
  | [], _ :: _, h => by cases h
  | .inl _ :: _, [], h => by cases h
  | .inr (.inl _) :: _, [], h => by cases h
  | .inr (.inr _) :: _, [], h => by cases h
  | .inl x :: vs, k :: ks, h => by
    rw [bz_kk, Bool.and_eq_true] at h
    have e : k = 0 := Nat.eq_of_beq_eq_true h.1
    subst e
    show (bz_fl vs).length + 1 = bz_kw ks + 1
    rw [bz_fl_len h.2]
  | .inr (.inl x) :: vs, k :: ks, h => by
    rw [bz_kk, Bool.and_eq_true] at h
    have e : k = 1 := Nat.eq_of_beq_eq_true h.1
    subst e
    show (bz_fl vs).length + 1 + 1 = bz_kw ks + 2
    rw [bz_fl_len h.2]
  | .inr (.inr x) :: vs, k :: ks, h => by
    rw [bz_kk, Bool.and_eq_true] at h
    have e : k = 2 := Nat.eq_of_beq_eq_true h.1
    subst e
    show (bz_fl vs).length + 1 = bz_kw ks + 1
    rw [bz_fl_len h.2]
theorem bz_fl_long : ∀ {vs : List bz_V} {ks : List Nat} {o : Nat}, bz_kk vs ks = true → ∀ (i : Nat) (v : bz_V), (bz_fl vs)[i]? = some (some v) → bz_cat v = 2 → o + i ∈ bz_lp o ks
  | [], _, _, _, i, v, h, _ => by simp [bz_fl] at h
  | .inl _ :: _, [], _, h, _, _, _, _ => by cases h
  | .inr (.inl _) :: _, [], _, h, _, _, _, _ => by cases h
  | .inr (.inr _) :: _, [], _, h, _, _, _, _ => by cases h
  | .inl x :: vs, k :: ks, o, h, i, v, hi, hc => by
    rw [bz_kk, Bool.and_eq_true] at h
    have e : k = 0 := Nat.eq_of_beq_eq_true h.1
    subst e
    cases i with
    | zero => simp only [bz_fl, List.getElem?_cons_zero, Option.some.injEq] at hi; subst hi; cases hc
    | succ i =>
      have := bz_fl_long (o := o + 1) h.2 i v (by simpa [bz_fl] using hi) hc
      show o + (i + 1) ∈ bz_lp (o + 1) ks
      rw [show o + (i + 1) = o + 1 + i by omega]
      exact this
  | .inr (.inl x) :: vs, k :: ks, o, h, i, v, hi, hc => by
    rw [bz_kk, Bool.and_eq_true] at h
    have e : k = 1 := Nat.eq_of_beq_eq_true h.1
    subst e
    match i, hi with
    | 0, hi => exact List.mem_cons_self
    | 1, hi => simp [bz_fl] at hi
    | i + 2, hi =>
      have := bz_fl_long (o := o + 2) h.2 i v (by simpa [bz_fl] using hi) hc
      refine List.mem_cons_of_mem _ ?_
      rw [show o + (i + 2) = o + 2 + i by omega]
      exact this
  | .inr (.inr x) :: vs, k :: ks, o, h, i, v, hi, hc => by
    rw [bz_kk, Bool.and_eq_true] at h
    have e : k = 2 := Nat.eq_of_beq_eq_true h.1
    subst e
    cases i with
    | zero => simp only [bz_fl, List.getElem?_cons_zero, Option.some.injEq] at hi; subst hi; cases hc
    | succ i =>
      have := bz_fl_long (o := o + 1) h.2 i v (by simpa [bz_fl] using hi) hc
      show o + (i + 1) ∈ bz_lp (o + 1) ks
      rw [show o + (i + 1) = o + 1 + i by omega]
      exact this
/-- the values in the slots -/
theorem bz_sl {N : bz_N} : ∀ {As : List bz_V} {vs : List Value}, bz_vs N As vs → (lg_sl vs).length = (bz_fl As).length ∧ ∀ (i : Nat) (v : bz_V), (bz_fl As)[i]? = some (some v) → ∃ w, (lg_sl vs)[i]? = some (Slot.val w) ∧ bz_vr N v w
  | [], [], _ => ⟨rfl, fun i v h => by simp [bz_fl] at h⟩
  | .inl x :: As, w :: vs, h => by
    obtain ⟨q1, q2⟩ := bz_sl h.2
    have hc : ¬ w.category = 2 := by rw [bz_vr_cat h.1]; exact (by decide : ¬ (1 : Nat) = 2)
    have e : lg_sl (w :: vs) = Slot.val w :: lg_sl vs := by simp [lg_sl, hc]
    refine ⟨by rw [e]; simp [bz_fl, q1], fun i v hi => ?_⟩
    rw [e]
    cases i with
    | zero => simp only [bz_fl, List.getElem?_cons_zero, Option.some.injEq] at hi; subst hi; exact ⟨w, rfl, h.1⟩
    | succ i => simpa using q2 i v (by simpa [bz_fl] using hi)
  | .inr (.inl x) :: As, w :: vs, h => by
    obtain ⟨q1, q2⟩ := bz_sl h.2
    have hc : w.category = 2 := by rw [bz_vr_cat h.1]; rfl
    have e : lg_sl (w :: vs) = Slot.val w :: Slot.second :: lg_sl vs := by simp [lg_sl, hc]
    refine ⟨by rw [e]; simp [bz_fl, q1], fun i v hi => ?_⟩
    rw [e]
    match i, hi with
    | 0, hi => simp only [bz_fl, List.getElem?_cons_zero, Option.some.injEq] at hi; subst hi; exact ⟨w, rfl, h.1⟩
    | 1, hi => simp [bz_fl] at hi
    | i + 2, hi => simpa using q2 i v (by simpa [bz_fl] using hi)
  | .inr (.inr x) :: As, w :: vs, h => by
    obtain ⟨q1, q2⟩ := bz_sl h.2
    have hc : ¬ w.category = 2 := by rw [bz_vr_cat h.1]; exact (by decide : ¬ (1 : Nat) = 2)
    have e : lg_sl (w :: vs) = Slot.val w :: lg_sl vs := by simp [lg_sl, hc]
    refine ⟨by rw [e]; simp [bz_fl, q1], fun i v hi => ?_⟩
    rw [e]
    cases i with
    | zero => simp only [bz_fl, List.getElem?_cons_zero, Option.some.injEq] at hi; subst hi; exact ⟨w, rfl, h.1⟩
    | succ i => simpa using q2 i v (by simpa [bz_fl] using hi)
theorem bz_ll_entry {k : Nat} {N : bz_N} {As : List bz_V} {vs : List Value} {ks : List Nat} (hv : bz_vs N As vs) (hk : bz_kk As ks = true) (hw : bz_kw ks ≤ bz_ml k) (hlg : ∀ j ∈ bz_lp 0 ks, j ∈ bz_lgs k) : bz_ll k N (bz_lo (bz_ml k) As) ((lg_sl vs ++ List.replicate (bz_ml k - (lg_sl vs).length) Slot.unset).toArray) (bz_ml k) := by
  obtain ⟨q1, q2⟩ := bz_sl hv
  have e1 := bz_fl_len hk
  have hle : (lg_sl vs).length ≤ bz_ml k := by rw [q1, e1]; exact hw
  obtain ⟨h1, h2, -⟩ := lv_entry vs hle
  have key : ∀ (i : Nat) (v : bz_V), (bz_lo (bz_ml k) As)[i]? = some (some v) → (bz_fl As)[i]? = some (some v) := by
    intro i v hi
    unfold bz_lo at hi
    rcases Nat.lt_or_ge i (bz_fl As).length with q | q
    · rw [List.getElem?_append_left q] at hi
      exact hi
    · rw [List.getElem?_append_right q, List.getElem?_replicate] at hi
      split at hi <;> cases hi
  refine ⟨h1, h2, ?_, fun i v hi => ?_, fun i v hi hc => ?_⟩
  · unfold bz_lo
    rw [List.length_append, List.length_replicate]
    omega
  · obtain ⟨w, h3, h4⟩ := q2 i v (key i v hi)
    refine ⟨w, ?_, h4⟩
    rw [List.getElem?_toArray, List.getElem?_append_left (List.getElem?_eq_some_iff.mp h3).1]
    exact h3
  · have := bz_fl_long (o := 0) hk i v (key i v hi) hc
    rw [Nat.zero_add] at this
    exact hlg i this
def bz_Pc (N : bz_N) (μ : bz_M) (As : List bz_V) : Array Value → State → Prop := fun a s => (∃ vs : List Value, a = vs.toArray ∧ bz_vs N As vs) ∧ bz_Rep N μ s.heap ∧ bz_E N s s.heap ∧ nB N ≤ s.heap.size ∧ s.heap.size ≤ nB N + C1 μ
def bz_roo (k mc ms : Nat) : Room := { frames := bz_fr k, locals := bz_lo0 k, cells := mc, slots := ms }
def bz_wsk (k : Nat) : List Cond := bz_hw k :: bz_W
theorem bz_blind {N : bz_N} {μ : bz_M} {As : List bz_V} : FrameBlind (bz_Pc N μ As) := by
  intro a U g mk h
  obtain ⟨h1, h2, h3, h4, h5⟩ := h
  exact ⟨h1, h2, bz_E_moved (s := U) (U := U.calling g mk a) (H := U.heap) (locs := []) (State.WarmedH.refl U) rfl ⟨Nat.le_refl _, fun _ _ _ => rfl, fun _ h => nomatch h⟩ h3, h4, h5⟩
theorem bz_met {k : Nat} {N : bz_N} {μ : bz_M} {As : List bz_V} {res : bz_R} {l : Launch} {mc ms : Nat} {ks : List Nat} (hk : k < bz_KN) (hl : l.stackTraces = false) (hkk : bz_kk As ks = true) (hw : bz_kw ks ≤ bz_ml k) (hlg : ∀ j ∈ bz_lp 0 ks, j ∈ bz_lgs k) (h1 : C1 res.2 ≤ C1 μ + mc) (h2 : C2 res.2 ≤ C2 μ + ms) (h : bz_H k N 0 (bz_lo (bz_ml k) As) [] μ res) :
    vx_Met l (bz_y k) (bz_wsk k) (bz_roo k mc ms) (bz_Pc N μ As) (bz_Qc k N res) (bz_XC N res) mc ms (bz_A N) := by
  obtain ⟨p1, p2, p3⟩ := bz_plain hk
  have body : ∀ (p : Program) (e : Env) (s : State) (m : MethodId) (args : Array Value) (below : List Frame) (meth : Method) (c : Code) (s₁ : State), BodyLoose p l (bz_y k) (headSpec (bz_wsk k) (bz_roo k mc ms)) (bz_b k) (bz_ml k) (bz_rt k) e s m args below meth c s₁ → c.maxLocals = bz_ml k → c.exceptionTable.toList = tableOf (bz_hh0 k) → bz_Pc N μ As args s →
      W p l e (headSpec (bz_wsk k) (bz_roo k mc ms)).room s m args below meth c s.heap [] 0 0 (vx_MQ below (bz_Qc k N res) (bz_XC N res) args s mc ms (bz_A N)) (entryFrame m args (bz_ml k)) := by
    intro p e s m args below meth c s₁ B hml htab hP
    obtain ⟨⟨vs, rfl, hvs⟩, hR, hE, hn, hz⟩ := hP
    rw [lg_entry_eq]
    have own := findClass_of_methodNamed B.named
    rw [p2] at own
    have K := h.2 p l e (bz_roo k mc ms) s m vs.toArray below meth c s.heap [] _ [] (C1 μ) (C2 μ) mc ms ⟨⟨B.exec, hl, B.bytes, hml, B.notSynchronized, own, (name_of_methodNamed B.named B.method).1, B.returns, fun w hw => atoms_spec (ws := bz_wsk k) B.pre w (List.mem_cons_of_mem _ hw), htab⟩, Nat.le_refl _, Nat.le_refl _, hn, hE⟩ (Nat.le_refl _) (Nat.le_refl _) h1 h2 (Nat.le_refl _) (Nat.le_refl _) hz ⟨Nat.le_refl _, fun _ _ _ => rfl, fun _ h => nomatch h⟩ hR (bz_ll_entry hvs hkk hw hlg) trivial
    rw [Nat.sub_self, Nat.sub_self, p3] at K
    exact K
  have tab : ∀ (p : Program) (e : Env) (s : State) (m : MethodId) (args : Array Value) (below : List Frame) (meth : Method) (c : Code) (s₁ : State), BodyLoose p l (bz_y k) (headSpec (bz_wsk k) (bz_roo k mc ms)) (bz_b k) (bz_ml k) (bz_rt k) e s m args below meth c s₁ → c.exceptionTable.toList = tableOf (bz_hh0 k) := by
    intro p e s m args below meth c s₁ B
    cases hq : bz_hh0 k with
    | nil =>
      have e1 : bz_wsk k = Cond.code (bz_y k) (bz_b k) (bz_ml k) (bz_rt k) :: bz_W := by unfold bz_wsk bz_hw; rw [hq]
      obtain ⟨meth9, c9, h1, h2, -, -, -, -, h7, -⟩ := Cond.code_spec B.named (atoms_spec (ws := bz_wsk k) B.pre _ (by rw [e1]; exact List.mem_cons_self))
      cases Option.some.inj (h1.symm.trans B.method)
      cases Option.some.inj (h2.symm.trans (Stand.of_body B).code)
      rw [Array.isEmpty_iff.mp h7]
      rfl
    | cons x xs =>
      have e1 : bz_wsk k = Cond.codeWith (bz_y k) (bz_b k) (bz_ml k) (bz_rt k) (x :: xs) :: bz_W := by unfold bz_wsk bz_hw; rw [hq]
      exact vx_table (x := bz_y k) B (atoms_spec (ws := bz_wsk k) B.pre _ (by rw [e1]; exact List.mem_cons_self))
  refine MetFree.of_bodySF (code := bz_b k) (maxLocals := bz_ml k) (ret := bz_rt k) p1 ?_ ?_
  · intro args s m h hn
    cases hq : bz_hh0 k with
    | nil =>
      have e1 : bz_wsk k = Cond.code (bz_y k) (bz_b k) (bz_ml k) (bz_rt k) :: bz_W := by unfold bz_wsk bz_hw; rw [hq]
      obtain ⟨meth, c, h1, h2, h3, h4, h5, h6, -, -⟩ := Cond.code_spec hn (atoms_spec (ws := bz_wsk k) h _ (by rw [e1]; exact List.mem_cons_self))
      exact ⟨meth, c, h1, h2, h3, h4, h5, h6⟩
    | cons x xs =>
      have e1 : bz_wsk k = Cond.codeWith (bz_y k) (bz_b k) (bz_ml k) (bz_rt k) (x :: xs) :: bz_W := by unfold bz_wsk bz_hw; rw [hq]
      obtain ⟨m9, meth, c, hn9, h1, h2, h3, h4, -, h5, h6, -⟩ := Cond.codeWith_spec (atoms_spec (ws := bz_wsk k) h _ (by rw [e1]; exact List.mem_cons_self))
      cases hn.symm.trans hn9
      exact ⟨meth, c, h1, h2, h3, h4, h5, h6⟩
  · intro p e s m args below meth c s₁ B hml hP _
    have hh0 : s₁.heap = s.heap := by rw [B.state]; rfl
    obtain ⟨t, a1, o, b1, b2, b3⟩ := body p e s m args below meth c s₁ B hml (tab p e s m args below meth c s₁ B) hP s₁ hh0 (Stand.of_body B)
    exact ⟨t, o, a1, b1, b2, b3⟩
