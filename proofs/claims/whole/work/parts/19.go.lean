/-! THE WALK OF A BLOCK, AND WHAT IS CHECKED OF AN INSTRUCTION -/
theorem bz_go_at {ct : List bz_C} {mls : List Nat} {rec : bz_X0} {k : Nat} {L : List (Option bz_V)} {st : List bz_V} {μ : bz_M} : ∀ (cs : List Instr) (d : Nat), bz_go ct mls rec k cs d L st μ = match cs[d]? with
    | some ins => bz_step ct mls rec k ins (fun j => bz_go ct mls rec k cs (d + 1 + j)) L st μ
    | none => none := by
  intro cs
  induction cs with
  | nil => intro d; rfl
  | cons c cs ih =>
    intro d
    cases d with
    | zero =>
      have e : (fun j => bz_go ct mls rec k (c :: cs) (0 + 1 + j)) = bz_go ct mls rec k cs := by
        funext j
        rw [show 0 + 1 + j = j + 1 by omega]
        rfl
      rw [e]
      rfl
    | succ d =>
      have e : (fun j => bz_go ct mls rec k (c :: cs) (d + 1 + 1 + j)) = fun j => bz_go ct mls rec k cs (d + 1 + j) := by
        funext j
        rw [show d + 1 + 1 + j = (d + 1 + j) + 1 by omega]
        rfl
      rw [e, List.getElem?_cons_succ]
      exact ih d
/-- where a jump goes -/
def bz_tgt (i : Nat) (o : Int) : Nat := match o with
  | .ofNat d => i + 1 + d
  | .negSucc v => v / 16777216
/-- what follows is sound -/
def bz_Ks (k : Nat) (N : bz_N) (i : Nat) (ks : Nat → bz_K) : Prop := ∀ (d : Nat) (L : List (Option bz_V)) (st : List bz_V) (μ : bz_M) (res : bz_R), ks d L st μ = some res → bz_H k N (i + 1 + d) L st μ res
def bz_Rc (N : bz_N) (rec : bz_X0) : Prop := ∀ (k i : Nat) (L : List (Option bz_V)) (st : List bz_V) (μ : bz_M) (res : bz_R), k < bz_KM → rec k i L st μ = some res → bz_H k N i L st μ res
theorem bz_j_ok {k : Nat} {N : bz_N} {i : Nat} {rec : bz_X0} {ks : Nat → bz_K} {o : Int} {L : List (Option bz_V)} {st : List bz_V} {μ : bz_M} {res : bz_R} (hk : k < bz_KM) (hr : bz_Rc N rec) (hks : bz_Ks k N i ks) (h : bz_j rec k ks o L st μ = some res) : bz_H k N (bz_tgt i o) L st μ res := by
  cases o with
  | ofNat d => exact hks d L st μ res h
  | negSucc v => exact bz_i_mask (hr k (v / 16777216) _ st μ res hk h)
def bz_cs (k i : Nat) : Option (Instr × Nat) := match decode (bz_b k) (bz_pc k i) with
  | .ok x => some x
  | .error _ => none
theorem bz_cs_eq {k i n : Nat} {c : Instr} (h : bz_cs k i = some (c, n)) : decode (bz_b k) (bz_pc k i) = .ok (c, n) := by
  unfold bz_cs at h
  split at h
  · rename_i x hx
    rw [hx, Option.some.inj h]
  · cases h
def bz_nx (k i n : Nat) : Bool := Nat.beq (bz_pc k (i + 1)) (bz_pc k i + n)
theorem bz_nx_eq {k i n : Nat} (h : bz_nx k i n = true) : bz_pc k (i + 1) = bz_pc k i + n := Nat.eq_of_beq_eq_true h
/-- an instruction of one byte, the same in both -/
def bz_k1 (k i : Nat) (ins : Instr) : Bool := bz_nx k i 1 && decide (bz_cs k i = some (ins, 1))
theorem bz_k1_inv {k i : Nat} {ins : Instr} (h : bz_k1 k i ins = true) : decode (bz_b k) (bz_pc k i) = .ok (ins, 1) ∧ bz_pc k (i + 1) = bz_pc k i + 1 := by
  unfold bz_k1 at h
  rw [Bool.and_eq_true] at h
  exact ⟨bz_cs_eq (of_decide_eq_true h.2), bz_nx_eq h.1⟩
/-- a jump's offset -/
def bz_to1 (k i : Nat) (off o : Int) : Bool := decide ((bz_pc k i : Int) + off = (bz_pc k (bz_tgt i o) : Int))
/-! switches -/
def bz_lok (k i : Nat) : List (Int × Int) → List (Int × Int) → Bool
  | [], [] => true
  | q :: cs, q' :: as => decide (q.1 = q'.1) && bz_to1 k i q.2 q'.2 && bz_lok k i cs as
  | _, _ => false
theorem bz_lok_sel {k i : Nat} {cd ad x : Int} {f : Int → Option bz_R} (hd : bz_to1 k i cd ad = true) : ∀ {cs as : List (Int × Int)}, bz_lok k i cs as = true → ∃ o', bz_lkp as x f ad = f o' ∧ (bz_pc k i : Int) + Op.lookupswitch.offset cs cd x = (bz_pc k (bz_tgt i o') : Int)
  | [], [], _ => ⟨ad, rfl, of_decide_eq_true hd⟩
  | [], _ :: _, h => by cases h
  | _ :: _, [], h => by cases h
  | (a, o) :: cs, (a', o') :: as, h => by
    rw [bz_lok, Bool.and_eq_true, Bool.and_eq_true] at h
    have e : a = a' := of_decide_eq_true h.1.1
    subst e
    rw [Op.lookupswitch.offset_cons]
    unfold bz_lkp
    dsimp only
    by_cases q : x = a
    · rw [if_pos q, if_pos q.symm]
      exact ⟨o', rfl, of_decide_eq_true h.1.2⟩
    · rw [if_neg q, if_neg (fun z => q z.symm)]
      exact bz_lok_sel hd h.2
theorem bz_i_look {k : Nat} {N : bz_N} {i len : Nat} {L : List (Option bz_V)} {st : List bz_V} {μ : bz_M} {res : bz_R} {x cd ad : Int} {cs : Array (Int × Int)} {as : List (Int × Int)} {rec : bz_X0} {ks : Nat → bz_K} (hk : k < bz_KM) (hr : bz_Rc N rec) (hks : bz_Ks k N i ks) (hdg : decode (bz_b k) (bz_pc k i) = .ok (.lookupswitch cd cs, len)) (hp : (cs.toList.zip (cs.toList.drop 1)).all (fun (a, next) => a.1 < next.1) = true) (hd : bz_to1 k i cd ad = true) (hl : bz_lok k i cs.toList as = true)
    (h : bz_lkp as x (fun o => bz_j rec k ks o L st μ) ad = some res) : bz_H k N i L (zI x :: st) μ res := by
  obtain ⟨o', e1, e2⟩ := bz_lok_sel (x := x) (f := fun o => bz_j rec k ks o L st μ) hd hl
  rw [e1] at h
  refine bz_pure (bz_j_ok hk hr hks h) fun sv hv => ?_
  obtain ⟨w1, ws, rfl, ⟨n0, rfl, e0⟩, t⟩ := bz_vs1 hv
  refine ⟨ws, t, fun p l e R s m args below meth c H locs cells slots Q ls C kk => ?_⟩
  rw [← e0] at e2
  exact lv_lookup C.1.1 C.1.2.2.1 hdg hp rfl e2 kk
def bz_tok (k i : Nat) : List Int → List Int → Bool
  | [], [] => true
  | o :: cs, o' :: as => bz_to1 k i o o' && bz_tok k i cs as
  | _, _ => false
theorem bz_tok_at {k i : Nat} : ∀ {cs as : List Int} {j : Nat} {o' : Int}, bz_tok k i cs as = true → as[j]? = some o' → ∃ o, cs[j]? = some o ∧ (bz_pc k i : Int) + o = (bz_pc k (bz_tgt i o') : Int)
  | [], [], _, _, _, h => by cases h
  | [], _ :: _, _, _, h, _ => by cases h
  | _ :: _, [], _, _, h, _ => by cases h
  | o :: cs, a :: as, j, o', h, hj => by
    rw [bz_tok, Bool.and_eq_true] at h
    cases j with
    | zero => cases hj; exact ⟨o, rfl, of_decide_eq_true h.1⟩
    | succ j =>
      obtain ⟨o2, h1, h2⟩ := bz_tok_at (j := j) h.2 (by simpa using hj)
      exact ⟨o2, by simpa using h1, h2⟩
theorem bz_i_table {k : Nat} {N : bz_N} {i len : Nat} {L : List (Option bz_V)} {st : List bz_V} {μ : bz_M} {res : bz_R} {x cd ad lo hi : Int} {cs as : Array Int} {rec : bz_X0} {ks : Nat → bz_K} (hk : k < bz_KM) (hr : bz_Rc N rec) (hks : bz_Ks k N i ks) (hdg : decode (bz_b k) (bz_pc k i) = .ok (.tableswitch cd lo hi cs, len)) (hd : bz_to1 k i cd ad = true) (hl : bz_tok k i cs.toList as.toList = true)
    (h : (if x < lo ∨ hi < x then bz_j rec k ks ad L st μ else match as.toList[(x - lo).toNat]? with
      | some o => bz_j rec k ks o L st μ
      | none => none) = some res) : bz_H k N i L (zI x :: st) μ res := by
  split at h
  · rename_i q
    refine bz_pure (bz_j_ok hk hr hks h) fun sv hv => ?_
    obtain ⟨w1, ws, rfl, ⟨n0, rfl, e0⟩, t⟩ := bz_vs1 hv
    refine ⟨ws, t, fun p l e R s m args below meth c H locs cells slots Q ls C kk => ?_⟩
    rw [← e0] at q
    exact lv_tableOut C.1.1 C.1.2.2.1 hdg q (of_decide_eq_true hd) kk
  · rename_i q
    split at h
    · rename_i o' ho
      obtain ⟨o, h1, h2⟩ := bz_tok_at hl ho
      refine bz_pure (bz_j_ok hk hr hks h) fun sv hv => ?_
      obtain ⟨w1, ws, rfl, ⟨n0, rfl, e0⟩, t⟩ := bz_vs1 hv
      refine ⟨ws, t, fun p l e R s m args below meth c H locs cells slots Q ls C kk => ?_⟩
      rw [← e0] at q h1
      exact lv_tableIn C.1.1 C.1.2.2.1 hdg (fun z => q (Or.inl z)) (fun z => q (Or.inr z)) (by rw [← Array.getElem?_toList]; exact h1) h2 kk
    · cases h
