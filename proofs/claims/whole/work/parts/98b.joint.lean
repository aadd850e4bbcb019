/-! ONE CALL OF BOTH -/
def hL (ps : List (Nat × Int)) (c : Nat) (μ : bz_M) : Option bz_R := match ps with
  | [] => none
  | q :: ps => if c = q.1 then rI q.2 μ else hL ps c μ
def cL (ps : List (Nat × Int)) (c : Nat) : Int := match ps with
  | [] => 0
  | q :: ps => if c = q.1 then q.2 else cL ps c
theorem hL_is {c : Nat} {μ : bz_M} : ∀ (ps : List (Nat × Int)), cL ps c ≠ 0 → hL ps c μ = rI (cL ps c) μ
  | [], h => absurd rfl h
  | q :: ps, h => by
    rw [hL]
    rw [cL] at h ⊢
    by_cases z : c = q.1
    · rw [if_pos z, if_pos z]
    · rw [if_neg z] at h ⊢
      rw [if_neg z]
      exact hL_is ps h
/-- the class's call: from a state to a state; t: the catch that takes its exception, 0: none; v: its answer -/
def jC (ps : List (Nat × Int)) (σ : Sg) (X : bz_M → Option bz_R) (σ' : Sg) (t v : Int) : Prop :=
  ∀ (sl e : Nat) (π : Int → Nat) (M G : Nat → Int → Int), CR σ π M → ∃ π' M', CR σ' π' M' ∧ lo867 M M' ∧ ((t = 0 ∧ X (bM sl π M G e) = rI v (bM sl π' M' G e)) ∨ ∃ c, cL ps c = t ∧ t ≠ 0 ∧ X (bM sl π M G e) = rX c (bM sl π' M' G (e + 1)))
def jM (σ : Sg) (Y : bz_M → Option bz_R) (σ' : Sg) (t v : Int) : Prop :=
  ∀ (sl e : Nat) (π : Int → Nat) (M G : Nat → Int → Int), MR σ M → ∃ b M' G', Y (bM sl π M G e) = rI b (bM sl π M' G' e) ∧ MR σ' M' ∧ fr S_hi M M' ∧ frG G G' ∧ M' 867 11 = t ∧ (t = 0 → b = v)
def jB (ps : List (Nat × Int)) (σ : Sg) (X Y : bz_M → Option bz_R) : Prop := ∃ σ' t v, jC ps σ X σ' t v ∧ jM σ Y σ' t v
section
variable {ps : List (Nat × Int)} {σ σ' : Sg} {X Y : bz_M → Option bz_R} {t v : Int}
theorem jC_ok (h : ∀ (sl e : Nat) (π : Int → Nat) (M G : Nat → Int → Int), CR σ π M → ∃ M', X (bM sl π M G e) = rI v (bM sl π M' G e) ∧ CR σ' π M' ∧ ∀ b j, 867 ≤ b → M' b j = M b j) : jC ps σ X σ' 0 v := fun sl e π M G c => by
  obtain ⟨M', g, c', lo⟩ := h sl e π M G c
  exact ⟨π, M', c', lo, Or.inl ⟨rfl, g⟩⟩
theorem jC_xm {c : Nat} (hc : cL ps c = t) (ht : t ≠ 0) (h : ∀ (sl e : Nat) (π : Int → Nat) (M G : Nat → Int → Int), CR σ π M → ∃ M', X (bM sl π M G e) = rX c (bM sl π M' G (e + 1)) ∧ CR σ π M' ∧ ∀ b j, 867 ≤ b → M' b j = M b j) : jC ps σ X σ t v := fun sl e π M G cc => by
  obtain ⟨M', g, c', lo⟩ := h sl e π M G cc
  exact ⟨π, M', c', lo, Or.inr ⟨c, hc, ht, g⟩⟩
theorem jC_x {c : Nat} (hc : cL ps c = t) (ht : t ≠ 0) (h : ∀ (sl e : Nat) (π : Int → Nat) (M G : Nat → Int → Int), CR σ π M → X (bM sl π M G e) = rX c (bM sl π M G (e + 1))) : jC ps σ X σ t v :=
  jC_xm hc ht fun sl e π M G cc => ⟨M, h sl e π M G cc, cc, fun _ _ _ => rfl⟩
theorem jM_ok (h : ∀ (sl e : Nat) (π : Int → Nat) (M G : Nat → Int → Int), MR σ M → ∃ M', Y (bM sl π M G e) = rI v (bM sl π M' G e) ∧ MR σ' M' ∧ fr S_hi M M' ∧ M' 867 11 = 0) : jM σ Y σ' 0 v := fun sl e π M G m => by
  obtain ⟨M', g, m', f, t0⟩ := h sl e π M G m
  exact ⟨v, M', G, g, m', f, fun _ _ _ => rfl, t0, fun _ => rfl⟩
theorem jM_okG (h : ∀ (sl e : Nat) (π : Int → Nat) (M G : Nat → Int → Int), MR σ M → ∃ M' G', Y (bM sl π M G e) = rI v (bM sl π M' G' e) ∧ MR σ' M' ∧ fr S_hi M M' ∧ frG G G' ∧ M' 867 11 = 0) : jM σ Y σ' 0 v := fun sl e π M G m => by
  obtain ⟨M', G', g, m', f, fG, t0⟩ := h sl e π M G m
  exact ⟨v, M', G', g, m', f, fG, t0, fun _ => rfl⟩
theorem jM_xm (ht : t ≠ 0) (h : ∀ (sl e : Nat) (π : Int → Nat) (M G : Nat → Int → Int), MR σ M → ∃ M', Y (bM sl π M G e) = rI 0 (bM sl π (up M' 867 11 t) G e) ∧ MR σ M' ∧ fr S_hi M M') : jM σ Y σ t v := fun sl e π M G m => by
  obtain ⟨M', g, m', f⟩ := h sl e π M G m
  exact ⟨0, up M' 867 11 t, G, g, MR_th m', fr_trans f fr_thhi, fun _ _ _ => rfl, up_s, fun z => absurd z ht⟩
theorem jM_x (ht : t ≠ 0) (h : ∀ (sl e : Nat) (π : Int → Nat) (M G : Nat → Int → Int), MR σ M → Y (bM sl π M G e) = rI 0 (bM sl π (up M 867 11 t) G e)) : jM σ Y σ t v :=
  jM_xm ht fun sl e π M G m => ⟨M, h sl e π M G m, m, fr_refl⟩
theorem MR_lo {π' : Int → Nat} {M M' : Nat → Int → Int} (h : MR σ M) (lo : lo867 M M') (c : CR σ' π' M') : MR σ M' := by
  obtain ⟨h1, ⟨h2, h2', h2'', -⟩, ⟨h3, h3', h3''⟩, h4, h5, h6, h7⟩ := h
  refine ⟨h1, ⟨fun k q => (lo _ _ (by decide)).trans (h2 k q), fun k q => (lo _ _ (by decide)).trans (h2' k q), fun k q => (lo _ _ (by decide)).trans (h2'' k q), c.2.1⟩, ⟨(lo _ _ (by decide)).trans h3, (lo _ _ (by decide)).trans h3', (lo _ _ (by decide)).trans h3''⟩, fun i hi => (lo _ _ (by decide)).trans (h4 i hi), fun i hi => (lo _ _ (by decide)).trans (h5 i hi), fun s hs => (lo _ _ (by decide)).trans (h6 s hs), fun k hk => ?_⟩
  have h8 := h7 k hk
  exact ⟨h8.1, (lo _ _ (by decide)).trans h8.2.1, fun i hi => (lo _ _ (by decide)).trans (h8.2.2 i hi)⟩
end
section
variable {sl e : Nat} {π : Int → Nat} {M G : Nat → Int → Int} {ps : List (Nat × Int)} {σ σ' : Sg} {X Y W : bz_M → Option bz_R} {t v : Int}
theorem ou_w {x : Int} {km : bz_M → Option bz_R} : bz_wL (bM sl π M G e) 888 0 x km = km (bM sl π M (up G 888 0 x) e) := by
  unfold bz_wL
  rw [gT_bM, gN_bM (by decide), show bm_tg 888 = 23 by decide +kernel, show bm_ln 888 = 1 by decide +kernel, if_pos ⟨rfl, by decide, by decide⟩]
  rfl
theorem ou_r {k : Int → Option bz_R} : bz_rL (bM sl π M G e) 888 0 k = k (G 888 0) := by
  unfold bz_rL
  rw [gT_bM, gN_bM (by decide), show bm_tg 888 = 23 by decide +kernel, show bm_ln 888 = 1 by decide +kernel, if_pos ⟨rfl, by decide, by decide⟩]
  rfl
/-- a wrapper's end -/
def jE (sl e : Nat) (M : Nat → Int → Int) (σ' : Sg) (r : Option bz_R) (t v : Int) : Prop := ∃ π' M' G' e', r = rI t (bM sl π' M' G' e') ∧ CR σ' π' M' ∧ lo867 M M' ∧ e' ≤ e + 1 ∧ (t = 0 → G' 888 0 = v)
theorem jW (hW : ∀ μ, W μ = bz_hi (X μ) (fun v μ1 => bz_wL μ1 888 0 v fun μ3 => rI 0 μ3) (fun c μ => hL ps c μ)) (h : jC ps σ X σ' t v) (c : CR σ π M) : jE sl e M σ' (W (bM sl π M G e)) t v := by
  obtain ⟨π', M', c', lo, ⟨t0, g⟩ | ⟨x, hx, ht, g⟩⟩ := h sl e π M G c
  · rw [hW, g, hi_r, ou_w, t0]
    exact ⟨π', M', _, e, rfl, c', lo, by omega, fun _ => up_s⟩
  · rw [hW, g, hi_x, hL_is ps (by rw [hx]; exact ht), hx]
    exact ⟨π', M', G, e + 1, rfl, c', lo, Nat.le_refl _, fun z => absurd z ht⟩
theorem jWv (hW : ∀ μ, W μ = bz_hv (X μ) (fun μ1 => rI 0 μ1) (fun c μ => hL ps c μ)) (h : jC ps σ X σ' t v) (c : CR σ π M) : ∃ π' M' G' e', W (bM sl π M G e) = rI t (bM sl π' M' G' e') ∧ CR σ' π' M' ∧ lo867 M M' ∧ e' ≤ e + 1 := by
  obtain ⟨π', M', c', lo, ⟨t0, g⟩ | ⟨x, hx, ht, g⟩⟩ := h sl e π M G c
  · rw [hW, g, hv_r, t0]
    exact ⟨π', M', _, e, rfl, c', lo, by omega⟩
  · rw [hW, g, hv_x, hL_is ps (by rw [hx]; exact ht), hx]
    exact ⟨π', M', G, e + 1, rfl, c', lo, Nat.le_refl _⟩
theorem jWb (hW : ∀ μ, W μ = bz_hi (X μ) (fun v μ1 => if v = 0 then bz_wL μ1 888 0 0 fun μ3 => rI 0 μ3 else bz_wL μ1 888 0 1 fun μ4 => rI 0 μ4) (fun c μ => hL ps c μ)) (h : jC ps σ X σ' t v) (c : CR σ π M) : jE sl e M σ' (W (bM sl π M G e)) t (if v = 0 then 0 else 1) := by
  obtain ⟨π', M', c', lo, ⟨t0, g⟩ | ⟨x, hx, ht, g⟩⟩ := h sl e π M G c
  · rw [hW, g, hi_r, t0]
    by_cases z : v = 0
    · rw [if_pos z, ou_w, if_pos z]
      exact ⟨π', M', _, e, rfl, c', lo, by omega, fun _ => up_s⟩
    · rw [if_neg z, ou_w, if_neg z]
      exact ⟨π', M', _, e, rfl, c', lo, by omega, fun _ => up_s⟩
  · rw [hW, g, hi_x, hL_is ps (by rw [hx]; exact ht), hx]
    exact ⟨π', M', G, e + 1, rfl, c', lo, Nat.le_refl _, fun z => absurd z ht⟩
theorem th_r : d_M_thrown 867 (bM sl π M G e) = rI (M 867 11) (bM sl π M G e) := by
  rw [d_M_thrown_10 _ _ mo_d, x_M_thrown_eq, mo_I]
theorem CR_hi {M' : Nat → Int → Int} (h : CR σ π M) (f : fr S_hi M M') : CR σ π M' := CR_fr h (fr_mono (fun b j z => Or.inr (Or.inr (Or.inl z))) f)
/-- the law's look at the answers -/
theorem jT (hM : jM σ Y σ' t v) (m : MR σ M) (c : CR σ' π M) (hv : t = 0 → G 888 0 = v) : ∃ M' G', (∀ F : bz_M → Option bz_R, (bz_ci (Y (bM sl π M G e)) fun b μ13 => bz_ci (d_M_thrown 867 μ13) fun v16 μ15 => if v16 = t then (if t = 0 then bz_rL μ15 888 0 fun v17 => if bz_cmp v17 b = 0 then F μ15 else rI 0 μ15 else F μ15) else rI 0 μ15) = F (bM sl π M' G' e)) ∧ CR σ' π M' ∧ MR σ' M' := by
  obtain ⟨b, M', G', g, m', f, fG, ht, hb⟩ := hM sl e π M G m
  refine ⟨M', G', fun F => ?_, CR_hi c f, m'⟩
  rw [g, ci_r, th_r, ci_r, ht, if_pos rfl]
  by_cases z : t = 0
  · rw [if_pos z, ou_r, fG _ _ (by decide), hv z, hb z, if_pos (by rw [bw_cmp_eq])]
  · rw [if_neg z]
theorem jTv (hM : jM σ Y σ' t v) (m : MR σ M) (c : CR σ' π M) : ∃ M' G', (∀ F : bz_M → Option bz_R, (bz_cv (Y (bM sl π M G e)) fun μ13 => bz_ci (d_M_thrown 867 μ13) fun v16 μ15 => if v16 = t then F μ15 else rI 0 μ15) = F (bM sl π M' G' e)) ∧ CR σ' π M' ∧ MR σ' M' := by
  obtain ⟨b, M', G', g, m', f, fG, ht, hb⟩ := hM sl e π M G m
  refine ⟨M', G', fun F => ?_, CR_hi c f, m'⟩
  rw [g, cv_r, th_r, ci_r, ht, if_pos rfl]
theorem jTb (hM : jM σ Y σ' t v) (m : MR σ M) (c : CR σ' π M) (hv : t = 0 → G 888 0 = if v = 0 then 0 else 1) : ∃ M' G', (∀ F : bz_M → Option bz_R, (bz_ci (Y (bM sl π M G e)) fun b μ13 => bz_ci (d_M_thrown 867 μ13) fun v16 μ15 => if v16 = t then (if t = 0 then bz_rL μ15 888 0 fun v17 => if b = 0 then (if bz_cmp v17 0 = 0 then F μ15 else rI 0 μ15) else (if bz_cmp v17 1 = 0 then F μ15 else rI 0 μ15) else F μ15) else rI 0 μ15) = F (bM sl π M' G' e)) ∧ CR σ' π M' ∧ MR σ' M' := by
  obtain ⟨b, M', G', g, m', f, fG, ht, hb⟩ := hM sl e π M G m
  refine ⟨M', G', fun F => ?_, CR_hi c f, m'⟩
  rw [g, ci_r, th_r, ci_r, ht, if_pos rfl]
  by_cases z : t = 0
  · rw [if_pos z, ou_r, fG _ _ (by decide), hv z, hb z]
    by_cases y : v = 0
    · rw [if_pos y, if_pos y, if_pos (by rw [bw_cmp_eq])]
    · rw [if_neg y, if_neg y, if_pos (by rw [bw_cmp_eq])]
  · rw [if_neg z]
end
