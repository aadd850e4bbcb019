/-! A CALL'S STEP -/
def bz_vd (rv : Nat) : Bool := Nat.beq rv 0 || Nat.beq rv 5
def bz_push (b : Bool) (v : bz_V) (rest : List bz_V) : List bz_V := match b with
  | true => rest
  | false => v :: rest
theorem bz_rn_inv {rv : Nat} {res' res : bz_R} {ks : Nat → bz_K} {L : List (Option bz_V)} {rest : List bz_V} (h : bz_rn rv (some res') ks L rest = some res) : (∃ v, res'.1 = .inl v ∧ ks 0 L (bz_push (bz_vd rv) v rest) res'.2 = some res) ∨ (rv < 4 ∧ ∃ x, res'.1 = .inr x ∧ res = (.inr x, res'.2)) := by
  obtain ⟨a, μ'⟩ := res'
  unfold bz_rn at h
  split at h
  · rcases a with v | x
    · exact Or.inl ⟨v, rfl, h⟩
    · exact Or.inr ⟨by omega, x, rfl, (Option.some.inj h).symm⟩
  · rcases a with (v | v) | x
    · exact Or.inl ⟨_, rfl, h⟩
    · cases h
    · exact Or.inr ⟨by omega, x, rfl, (Option.some.inj h).symm⟩
  · rcases a with (v | v | v) | x
    · cases h
    · exact Or.inl ⟨_, rfl, h⟩
    · cases h
    · exact Or.inr ⟨by omega, x, rfl, (Option.some.inj h).symm⟩
  · rcases a with (v | v | v) | x
    · cases h
    · cases h
    · exact Or.inl ⟨_, rfl, h⟩
    · exact Or.inr ⟨by omega, x, rfl, (Option.some.inj h).symm⟩
  · rcases a with (v | v) | x
    · exact Or.inl ⟨_, rfl, h⟩
    · cases h
    · cases h
  · rcases a with v | x
    · exact Or.inl ⟨v, rfl, h⟩
    · cases h
  · cases h
theorem bz_rh_inv {rv : Nat} {hs : List (Nat × Nat)} {res' res : bz_R} {ks : Nat → bz_K} {L : List (Option bz_V)} {rest : List bz_V} (h : bz_rh rv hs (some res') ks L rest = some res) : rv < 4 ∧ ((∃ v, res'.1 = .inl v ∧ ks 0 L (bz_push (bz_vd rv) v rest) res'.2 = some res) ∨ ∃ x, res'.1 = .inr x ∧ bz_hh hs x (fun d => ks d L [zR 15] res'.2) none = some res) := by
  obtain ⟨a, μ'⟩ := res'
  unfold bz_rh at h
  split at h
  · refine ⟨by omega, ?_⟩
    rcases a with v | x
    · exact Or.inl ⟨v, rfl, h⟩
    · exact Or.inr ⟨x, rfl, h⟩
  · refine ⟨by omega, ?_⟩
    rcases a with (v | v) | x
    · exact Or.inl ⟨_, rfl, h⟩
    · cases h
    · exact Or.inr ⟨x, rfl, h⟩
  · cases h
theorem bz_hh_inv {c : Nat} {f : Nat → Option bz_R} {r : bz_R} : ∀ {hs : List (Nat × Nat)}, bz_hh hs c f none = some r → ∃ d, (c, d) ∈ hs ∧ f d = some r
  | [], h => by cases h
  | q :: hs, h => by
    unfold bz_hh at h
    split at h
    · rename_i e
      subst e
      exact ⟨q.2, List.mem_cons_self, h⟩
    · obtain ⟨d, h1, h2⟩ := bz_hh_inv h
      exact ⟨d, List.mem_cons_of_mem _ h1, h2⟩
theorem bz_rn_none {rv : Nat} {ks : Nat → bz_K} {L : List (Option bz_V)} {rest : List bz_V} : bz_rn rv none ks L rest = none := by unfold bz_rn; split <;> rfl
theorem bz_rh_none {rv : Nat} {hs : List (Nat × Nat)} {ks : Nat → bz_K} {L : List (Option bz_V)} {rest : List bz_V} : bz_rh rv hs none ks L rest = none := by unfold bz_rh; split <;> rfl
def bz_kc (k i q : Nat) (h : Bool) : Bool := match bz_ct[q]? with
  | none => false
  | some (kd, rv, ts, hs) => ts.all (fun t => bz_ktA k t.2 kd && bz_ktB k i kd rv t.1 t.2 && decide (bz_vd rv = (bz_rt t.2).isNone)) && cond h (hs.all fun z => decide (bz_cov k (bz_pc k i) z.1 (tableOf (bz_hh0 k)) = some (bz_pc k (i + 1 + z.2)))) (Nat.ble 4 rv || (tableOf (bz_hh0 k)).all (fun z => !(covers z (bz_pc k i))))
theorem bz_q_call {k : Nat} {N : bz_N} {i q : Nat} {h : Bool} {L : List (Option bz_V)} {st : List bz_V} {μ : bz_M} {res : bz_R} {rec : bz_X0} {ks : Nat → bz_K} (hkc : bz_kc k i q h = true) (hr : bz_Rc N rec) (hks : bz_Ks k N i ks) (hx : bz_call bz_ct bz_mls rec q h ks L st μ = some res) : bz_H k N i L st μ res := by
  unfold bz_kc at hkc
  unfold bz_call at hx
  cases hq : bz_ct[q]? with
  | none => rw [hq] at hkc; cases hkc
  | some row =>
    obtain ⟨kd, rv, ts, hs⟩ := row
    rw [hq] at hkc hx
    dsimp only at hkc hx
    rw [Bool.and_eq_true] at hkc
    obtain ⟨c1, c2⟩ := hkc
    cases hkk : (bz_kk (st.take kd.length).reverse kd && Nat.ble (bz_sum (st.drop kd.length)) 8) with
    | false => rw [hkk] at hx; cases hx
    | true =>
      rw [hkk, cond_true] at hx
      rw [Bool.and_eq_true] at hkk
      obtain ⟨k1, k2⟩ := hkk
      have k2 := Nat.le_of_ble_eq_true k2
      cases hr0 : bz_tr bz_mls rec ts (st.take kd.length).reverse μ with
      | none =>
        rw [hr0, bz_rn_none, bz_rh_none] at hx
        cases h <;> cases hx
      | some res' =>
        rw [hr0] at hx
        obtain ⟨t, k', m1, m2, m3⟩ := bz_tr_inv hr0
        have c3 := List.all_eq_true.mp c1 (t, k') m1
        rw [Bool.and_eq_true, Bool.and_eq_true, decide_eq_true_eq] at c3
        obtain ⟨⟨a1, a2⟩, a3⟩ := c3
        have a1 : bz_ktA k k' kd = true := a1
        have a2 : bz_ktB k i kd rv t k' = true := a2
        have a3 : bz_vd rv = (bz_rt k').isNone := a3
        obtain ⟨f1, f2, f3, f4⟩ := bz_ktA_eq a1
        have H' := hr k' 0 _ [] μ res' (Nat.lt_succ_of_lt f1.1) m2
        have push : ∀ v, bz_push (bz_vd rv) v (st.drop kd.length) = (match bz_rt k' with | none => st.drop kd.length | some _ => v :: st.drop kd.length) := by
          intro v
          rw [a3]
          cases bz_rt k' <;> rfl
        have fin : (4 ≤ rv → ∃ v, res'.1 = .inl v) → (∀ v, res'.1 = .inl v → ks 0 L (bz_push (bz_vd rv) v (st.drop kd.length)) res'.2 = some res) → (∀ x, res'.1 = .inr x → bz_Th k N i L x res'.2 res) → bz_H k N i L st μ res := by
          intro g1 g2 g3
          obtain ⟨e1, e2⟩ := bz_ktB_eq a1 a2 (bz_kk_len k1) m3 k2 g1
          refine bz_callX f1.1 k1 e1 f2 f3 H' e2 (fun v hv => ?_) g3
          have e3 := hks 0 L _ res'.2 res (g2 v hv)
          rw [push v] at e3
          exact e3
        cases h with
        | false =>
          rw [cond_false] at hx c2
          rcases bz_rn_inv hx with ⟨v, v1, v2⟩ | ⟨hlt, x, x1, x2⟩
          · exact fin (fun _ => ⟨v, v1⟩) (fun v' hv' => by cases v1.symm.trans hv'; exact v2) (fun x hx' => by rw [v1] at hx'; cases hx')
          · refine fin (fun hh => absurd hh (by omega)) (fun v' hv' => by rw [x1] at hv'; cases hv') (fun x' hx' => ?_)
            cases x1.symm.trans hx'
            subst x2
            rw [Bool.or_eq_true] at c2
            rcases c2 with c2 | c2
            · have := Nat.le_of_ble_eq_true c2
              omega
            · exact bz_t_out c2
        | true =>
          rw [cond_true] at hx c2
          obtain ⟨hlt, hx⟩ := bz_rh_inv hx
          rcases hx with ⟨v, v1, v2⟩ | ⟨x, x1, x2⟩
          · exact fin (fun _ => ⟨v, v1⟩) (fun v' hv' => by cases v1.symm.trans hv'; exact v2) (fun x hx' => by rw [v1] at hx'; cases hx')
          · refine fin (fun hh => absurd hh (by omega)) (fun v' hv' => by rw [x1] at hv'; cases hv') (fun x' hx' => ?_)
            cases x1.symm.trans hx'
            obtain ⟨d, d1, d2⟩ := bz_hh_inv x2
            have c4 := of_decide_eq_true (List.all_eq_true.mp c2 (x, d) d1)
            exact bz_t_in c4 (hks d L [zR 15] res'.2 res d2)
