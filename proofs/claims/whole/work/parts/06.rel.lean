/-! THE RELATION between the small machine and the Java machine -/
abbrev bz_N : Type := Nat × (Nat → Nat) × va_G × (Nat → ClassId) × List (Nat × Nat) × (Nat → Int → Int) × (Nat → Int → Nat)
def nB (N : bz_N) : Nat := N.1
def nX (N : bz_N) : Nat → Nat := N.2.1
def nD (N : bz_N) : va_G := N.2.2.1
def nC (N : bz_N) : Nat → ClassId := N.2.2.2.1
def nT (N : bz_N) : List (Nat × Nat) := N.2.2.2.2.1
def nM (N : bz_N) : Nat → Int → Int := N.2.2.2.2.2.1
def nP (N : bz_N) : Nat → Int → Nat := N.2.2.2.2.2.2
def bz_ad (N : bz_N) (a : Nat) : Nat := if a < 16 then nX N a else nB N + (a - 16)
def bz_A (N : bz_N) : Nat → Prop := fun q => nB N ≤ q
def C1 (μ : bz_M) : Nat := μ.2.2.2.2.1
def C2 (μ : bz_M) : Nat := μ.2.2.2.2.2
def bz_vr (N : bz_N) (v : bz_V) (w : Value) : Prop := match v with
  | .inl x => ∃ n : Int32, w = .int n ∧ n.toInt = x
  | .inr (.inl x) => ∃ n : Int64, w = .long n ∧ n.toInt = x
  | .inr (.inr a) => if a = 15 then (w = .null ∨ ∃ q, w = .ref q) else w = .ref (bz_ad N a)
/-- a stack -/
def bz_vs (N : bz_N) : List bz_V → List Value → Prop
  | [], [] => True
  | v :: vs, w :: ws => bz_vr N v w ∧ bz_vs N vs ws
  | _, _ => False
theorem bz_vr_cat {N : bz_N} {v : bz_V} {w : Value} (h : bz_vr N v w) : w.category = bz_cat v := by
  match v, h with
  | .inl x, ⟨n, h, _⟩ => rw [h]; rfl
  | .inr (.inl x), ⟨n, h, _⟩ => rw [h]; rfl
  | .inr (.inr a), h =>
    unfold bz_vr at h
    dsimp only at h
    split at h
    · rcases h with h | ⟨q, h⟩ <;> (rw [h]; rfl)
    · rw [h]; rfl
theorem bz_vs_sum {N : bz_N} : ∀ {vs : List bz_V} {ws : List Value}, bz_vs N vs ws → (ws.map fun v => v.category).sum = bz_sum vs
  | [], [], _ => rfl
  | v :: vs, w :: ws, h => by
    show w.category + (ws.map fun v => v.category).sum = bz_cat v + bz_sum vs
    rw [bz_vr_cat h.1, bz_vs_sum h.2]
theorem bz_vs_len {N : bz_N} : ∀ {vs : List bz_V} {ws : List Value}, bz_vs N vs ws → ws.length = vs.length
  | [], [], _ => rfl
  | v :: vs, w :: ws, h => by
    show ws.length + 1 = vs.length + 1
    rw [bz_vs_len h.2]
theorem bz_vs_take {N : bz_N} (n : Nat) : ∀ {vs : List bz_V} {ws : List Value}, bz_vs N vs ws → bz_vs N (vs.take n) (ws.take n) ∧ bz_vs N (vs.drop n) (ws.drop n) := by
  induction n with
  | zero => intro vs ws h; exact ⟨by simp [bz_vs], by simpa using h⟩
  | succ n ih =>
    intro vs ws h
    match vs, ws, h with
    | [], [], _ => exact ⟨by simp [bz_vs], by simp [bz_vs]⟩
    | v :: vs, w :: ws, h =>
      obtain ⟨h1, h2⟩ := ih h.2
      exact ⟨⟨h.1, h1⟩, h2⟩
theorem bz_vs_app {N : bz_N} : ∀ {vs us : List bz_V} {ws zs : List Value}, bz_vs N vs ws → bz_vs N us zs → bz_vs N (vs ++ us) (ws ++ zs)
  | [], us, [], zs, _, h => h
  | v :: vs, us, w :: ws, zs, h, h2 => ⟨h.1, bz_vs_app h.2 h2⟩
theorem bz_vs_rev {N : bz_N} : ∀ {vs : List bz_V} {ws : List Value}, bz_vs N vs ws → bz_vs N vs.reverse ws.reverse
  | [], [], _ => trivial
  | v :: vs, w :: ws, h => by
    rw [List.reverse_cons, List.reverse_cons]
    exact bz_vs_app (bz_vs_rev h.2) ⟨h.1, trivial⟩
/-- locals: what a slot holds is what it's said to hold; a long stands in a slot for longs alone -/
def bz_ll (k : Nat) (N : bz_N) (L : List (Option bz_V)) (ls : Array Slot) (nL : Nat) : Prop :=
  ls.size = nL ∧ lv_wf ls ∧ L.length = nL ∧ (∀ (i : Nat) (v : bz_V), L[i]? = some (some v) → ∃ w, ls[i]? = some (Slot.val w) ∧ bz_vr N v w) ∧ ∀ (i : Nat) (v : bz_V), L[i]? = some (some v) → bz_cat v = 2 → i ∈ bz_lgs k
/-- all that the locals hold -/
def bz_lv (ls : Array Slot) : List (Nat × Value) := (List.range ls.size).filterMap fun i => match ls[i]? with
  | some (Slot.val v) => some (i, v)
  | _ => none
theorem bz_lv_in {ls : Array Slot} {q : Nat × Value} : q ∈ bz_lv ls ↔ ls[q.1]? = some (Slot.val q.2) := by
  unfold bz_lv
  rw [List.mem_filterMap]
  constructor
  · rintro ⟨i, -, h⟩
    split at h
    · rename_i v hv
      cases h
      exact hv
    · cases h
  · intro h
    refine ⟨q.1, List.mem_range.mpr (Array.getElem?_eq_some_iff.mp h).1, ?_⟩
    rw [h]
theorem bz_lv_has {k : Nat} {N : bz_N} {L : List (Option bz_V)} {ls : Array Slot} {nL : Nat} (h : bz_ll k N L ls nL) : lv_has ls nL (bz_lv ls) := ⟨h.1, h.2.1, fun _ hq => bz_lv_in.mp hq⟩
/-- behind a store of one slot -/
theorem bz_ll_set {k : Nat} {N : bz_N} {L : List (Option bz_V)} {ls ls' : Array Slot} {nL i : Nat} {v : bz_V} {w : Value} (h : bz_ll k N L ls nL) (hv : bz_vr N v w) (hc : bz_cat v = 1) (hg : ∀ j, j + 1 = i → j ∉ bz_lgs k)
    (h' : lv_has ls' nL ((i, w) :: (bz_lv ls).filter (fun q => !(q.1 == i) && !(q.1 + 1 == i && q.2.category == 2)))) : bz_ll k N (L.set i (some v)) ls' nL := by
  obtain ⟨h1, h2, h3, h4, h5⟩ := h
  refine ⟨h'.1, h'.2.1, by rw [List.length_set]; exact h3, fun j u hj => ?_, fun j u hj hu => ?_⟩
  · rw [List.getElem?_set] at hj
    split at hj
    · rename_i e
      subst e
      split at hj
      · cases hj
        exact ⟨w, h'.2.2 (i, w) List.mem_cons_self, hv⟩
      · cases hj
    · rename_i e
      obtain ⟨w2, h6, h7⟩ := h4 j u hj
      refine ⟨w2, h'.2.2 (j, w2) (List.mem_cons_of_mem _ (List.mem_filter.mpr ⟨bz_lv_in.mpr h6, ?_⟩)), h7⟩
      have e1 : (j == i) = false := by simpa using fun q : j = i => e q.symm
      simp only [e1, Bool.not_false, Bool.true_and, Bool.not_eq_true', Bool.and_eq_false_iff]
      by_cases e2 : j + 1 = i
      · right
        have h8 : ¬ bz_cat u = 2 := fun q => hg j e2 (h5 j u hj q)
        rw [bz_vr_cat h7]
        simpa using h8
      · left
        simpa using e2
  · rw [List.getElem?_set] at hj
    split at hj
    · split at hj
      · cases hj
        omega
      · cases hj
    · exact h5 j u hj hu
/-- behind a store of a long -/
theorem bz_ll_setl {k : Nat} {N : bz_N} {L : List (Option bz_V)} {ls ls' : Array Slot} {nL i : Nat} {v : bz_V} {w : Value} (h : bz_ll k N L ls nL) (hv : bz_vr N v w) (hi : i ∈ bz_lgs k) (hg : ∀ j, j + 1 = i → j ∉ bz_lgs k)
    (h' : lv_has ls' nL ((i, w) :: (bz_lv ls).filter (fun q => !(q.1 == i) && (!(q.1 == i + 1) && !(q.1 + 1 == i && q.2.category == 2))))) : bz_ll k N ((L.set i (some v)).set (i + 1) none) ls' nL := by
  obtain ⟨h1, h2, h3, h4, h5⟩ := h
  refine ⟨h'.1, h'.2.1, by rw [List.length_set, List.length_set]; exact h3, fun j u hj => ?_, fun j u hj hu => ?_⟩
  · rw [List.getElem?_set] at hj
    split at hj
    · split at hj <;> cases hj
    · rename_i e0
      rw [List.getElem?_set] at hj
      split at hj
      · rename_i e
        subst e
        split at hj
        · cases hj
          exact ⟨w, h'.2.2 (i, w) List.mem_cons_self, hv⟩
        · cases hj
      · rename_i e
        obtain ⟨w2, h6, h7⟩ := h4 j u hj
        refine ⟨w2, h'.2.2 (j, w2) (List.mem_cons_of_mem _ (List.mem_filter.mpr ⟨bz_lv_in.mpr h6, ?_⟩)), h7⟩
        have e1 : (j == i) = false := by simpa using fun q : j = i => e q.symm
        have e3 : (j == i + 1) = false := by simpa using fun q : j = i + 1 => e0 q.symm
        simp only [e1, e3, Bool.not_false, Bool.true_and, Bool.not_eq_true', Bool.and_eq_false_iff]
        by_cases e2 : j + 1 = i
        · right
          have h8 : ¬ bz_cat u = 2 := fun q => hg j e2 (h5 j u hj q)
          rw [bz_vr_cat h7]
          simpa using h8
        · left
          simpa using e2
  · rw [List.getElem?_set] at hj
    split at hj
    · split at hj <;> cases hj
    · rw [List.getElem?_set] at hj
      split at hj
      · rename_i e
        subst e
        exact hi
      · exact h5 j u hj hu
theorem bz_mk_get {m : Nat} {L : List (Option bz_V)} : ∀ {i : Nat} {v : bz_V}, (bz_mk m L)[i]? = some (some v) → L[i]? = some (some v) := by
  induction L generalizing m with
  | nil => intro i v h; simp [bz_mk] at h
  | cons x L ih =>
    intro i v h
    cases i with
    | zero =>
      rw [bz_mk] at h
      cases hb : Nat.beq (m % 2) 1
      · rw [hb] at h; simp at h
      · rw [hb] at h; simpa using h
    | succ i =>
      rw [bz_mk, List.getElem?_cons_succ] at h
      rw [List.getElem?_cons_succ]
      exact ih h
theorem bz_mk_len {m : Nat} {L : List (Option bz_V)} : (bz_mk m L).length = L.length := by
  induction L generalizing m with
  | nil => rfl
  | cons x L ih => rw [bz_mk, List.length_cons, List.length_cons, ih]
theorem bz_ll_mk {k : Nat} {N : bz_N} {L : List (Option bz_V)} {ls : Array Slot} {nL m : Nat} (h : bz_ll k N L ls nL) : bz_ll k N (bz_mk m L) ls nL :=
  ⟨h.1, h.2.1, by rw [bz_mk_len]; exact h.2.2.1, fun i v hv => h.2.2.2.1 i v (bz_mk_get hv), fun i v hv => h.2.2.2.2 i v (bz_mk_get hv)⟩
/-! the cells -/
def bz_fk (t j : Nat) : Nat := (bz_fks.getD t []).getD j 0
def bz_rf (N : bz_N) (p : Nat) : Option Nat := if p = 0 then none else some (bz_ad N p)
def bz_fv (N : bz_N) (μ : bz_M) (a κ : Nat) (j : Int) : Value := match κ with
  | 0 => .int (Int32.ofInt (gM μ a j))
  | 1 => .long (Int64.ofInt (gG μ a j))
  | _ => va_rf (bz_rf N (gP μ a j))
def bz_nn (μ : bz_M) (a : Nat) : Nat := (μ.1.getD a (0, 0)).2
def bz_da (N : bz_N) (μ : bz_M) (a t : Nat) : (Nat → Int32) ⊕ (Nat → Int64) ⊕ (Nat → UInt32) ⊕ (Nat → UInt64) ⊕ (Nat → Option Nat) :=
  if t < 23 then .inl (fun j => Int32.ofInt (gM μ a j)) else if t = 23 then .inr (.inl (fun j => Int64.ofInt (gG μ a j))) else .inr (.inr (.inr (.inr (fun j => bz_rf N (gP μ a j)))))
def bz_ce (N : bz_N) (μ : bz_M) (a : Nat) : va_E :=
  if gT μ a < 20 then .inr (gT μ a - 1, (List.range (bz_ns (gT μ a))).map fun j => bz_fv N μ a (bz_fk (gT μ a) j) (j : Int))
  else .inl (nC N (gT μ a), bz_nn μ a, bz_da N μ a (gT μ a))
def bz_ws (N : bz_N) (μ : bz_M) : va_W := (List.range (μ.1.length - 16)).map fun i => (nB N + i, bz_ce N μ (i + 16))
def bz_tg1 (t : Nat) : Prop := (1 ≤ t ∧ t ≤ 10) ∨ t = 20 ∨ (22 ≤ t ∧ t ≤ 27)
def bz_OK (N : bz_N) (μ : bz_M) : Prop :=
  16 ≤ μ.1.length ∧ (∀ a i, r32 (gM μ a i)) ∧ (∀ a i, r64 (gG μ a i)) ∧ (∀ a i, μ.1.length ≤ a → gP μ a i = 0 ∧ gM μ a i = 0 ∧ gG μ a i = 0) ∧ (∀ a, 16 ≤ a → a < μ.1.length → bz_tg1 (gT μ a)) ∧
  (∀ a, a < 16 → μ.1[a]? = (nT N)[a]?) ∧ (∀ a, a < 16 → ∀ i, gM μ a i = nM N a i ∧ gP μ a i = nP N a i) ∧ (∀ a, bz_nn μ a ≤ 10000)
def bz_Rep (N : bz_N) (μ : bz_M) (H : Heap) : Prop :=
  bz_OK N μ ∧ va_P (nD N) vwCl (bz_ws N μ) H
theorem bz_gT_len {μ : bz_M} {a : Nat} (h : gT μ a ≠ 0) : a < μ.1.length := by
  unfold gT at h
  by_cases hl : a < μ.1.length
  · exact hl
  · rw [List.getD_eq_getElem?_getD, List.getElem?_eq_none (by omega)] at h
    exact absurd rfl h
/-- where the outside cells' tags are as they must be, a tag of a cell that can be written is an inner cell's -/
theorem bz_in {N : bz_N} {μ : bz_M} (hO : bz_OK N μ) (hx : ∀ a t, a < 16 → (nT N)[a]? = some t → t.1 = 0 ∨ t.1 = 21 ∨ t.1 = 28 ∨ t.1 = 29) {a : Nat} (h : bz_tg1 (gT μ a)) : 16 ≤ a ∧ a < μ.1.length := by
  have hl : a < μ.1.length := bz_gT_len (by rcases h with h | h | h <;> omega)
  refine ⟨?_, hl⟩
  rcases Nat.lt_or_ge a 16 with q | q
  · obtain ⟨-, -, -, -, -, h6, -⟩ := hO
    have e := h6 a q
    have e2 : μ.1[a]? = some μ.1[a] := List.getElem?_eq_getElem hl
    have e3 : gT μ a = (μ.1[a]).1 := by unfold gT; rw [List.getD_eq_getElem?_getD, e2]; rfl
    have := hx a _ q (e.symm.trans e2)
    rw [← e3] at this
    rcases h with h | h | h <;> omega
  · exact q
theorem bz_ws_get {N : bz_N} {μ : bz_M} {a : Nat} (h : 16 ≤ a ∧ a < μ.1.length) : (bz_ws N μ)[a - 16]? = some (bz_ad N a, bz_ce N μ a) := by
  unfold bz_ws
  rw [List.getElem?_map, List.getElem?_range (by omega)]
  have e : a - 16 + 16 = a := by omega
  simp only [Option.map_some, e]
  unfold bz_ad
  rw [if_neg (by omega)]
theorem bz_ws_set {N : bz_N} {μ μ' : bz_M} {a : Nat} (h : 16 ≤ a ∧ a < μ.1.length) (hl : μ'.1 = μ.1) (ho : ∀ b, b ≠ a → bz_ce N μ' b = bz_ce N μ b) : (bz_ws N μ).set (a - 16) (bz_ad N a, bz_ce N μ' a) = bz_ws N μ' := by
  apply List.ext_getElem?
  intro j
  rw [List.getElem?_set]
  by_cases hj : j < μ.1.length - 16
  · have g1 : ∀ ν : bz_M, ν.1 = μ.1 → (bz_ws N ν)[j]? = some (nB N + j, bz_ce N ν (j + 16)) := by
      intro ν hν
      unfold bz_ws
      rw [hν, List.getElem?_map, List.getElem?_range hj]
      rfl
    rw [g1 μ' hl]
    split
    · rename_i e
      subst e
      have e : a - 16 + 16 = a := by omega
      rw [if_pos (by unfold bz_ws; simp; omega), e]
      unfold bz_ad
      rw [if_neg (by omega)]
    · rename_i e
      rw [g1 μ rfl, ho (j + 16) (by omega)]
  · have g1 : ∀ ν : bz_M, ν.1 = μ.1 → (bz_ws N ν)[j]? = none := by
      intro ν hν
      unfold bz_ws
      rw [hν, List.getElem?_eq_none (by simp; omega)]
    rw [g1 μ' hl, g1 μ rfl, if_neg (by omega)]
theorem bz_ws_D {N : bz_N} {μ : bz_M} : va_D (bz_A N) (bz_ws N μ) := by
  have key : ∀ (k : Nat) (q : Nat × va_E), (bz_ws N μ)[k]? = some q → q.1 = nB N + k := by
    intro k q h
    unfold bz_ws at h
    rw [List.getElem?_map] at h
    by_cases hk : k < μ.1.length - 16
    · rw [List.getElem?_range hk] at h
      cases h
      rfl
    · rw [List.getElem?_eq_none (by simp; omega)] at h
      cases h
  refine ⟨fun i j p q hi hj e => ?_, fun k q h => ?_⟩
  · have := key i p hi
    have := key j q hj
    omega
  · have := key k q h
    show nB N ≤ q.1
    omega
