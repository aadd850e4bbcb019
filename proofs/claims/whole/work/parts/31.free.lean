/-! THE MACHINE WITHOUT FUEL: bX is the limit of bx n; it keeps the machine's own equation -/
abbrev bq_C (rn : Nat → bz_X0) (X : bz_X0) : Prop := ∀ (k i : Nat) (L : List (Option bz_V)) (st : List bz_V) (μ : bz_M) (v : bz_R), X k i L st μ = some v → ∃ n, rn n k i L st μ = some v
abbrev bq_D (kn : Nat → Nat → bz_K) (kX : Nat → bz_K) : Prop := ∀ (d : Nat) (L : List (Option bz_V)) (st : List bz_V) (μ : bz_M) (v : bz_R), kX d L st μ = some v → ∃ n, kn n d L st μ = some v
abbrev bq_m (r r' : bz_X0) : Prop := ∀ (k i : Nat) (L : List (Option bz_V)) (st : List bz_V) (μ : bz_M) (v : bz_R), r k i L st μ = some v → r' k i L st μ = some v
abbrev bq_mk (r r' : Nat → bz_K) : Prop := ∀ (d : Nat) (L : List (Option bz_V)) (st : List bz_V) (μ : bz_M) (v : bz_R), r d L st μ = some v → r' d L st μ = some v
theorem bq_ite {c : Prop} [Decidable c] {a : Option bz_R} {b : Nat → Option bz_R} {v : bz_R} (hk : a = some v → ∃ n, b n = some v) (h : (if c then a else none) = some v) : ∃ n, (if c then b n else none) = some v := by
  by_cases q : c
  · rw [if_pos q] at h
    obtain ⟨n, hn⟩ := hk h
    exact ⟨n, by rw [if_pos q]; exact hn⟩
  · rw [if_neg q] at h
    cases h
theorem bq_itn {c : Prop} [Decidable c] {a : Option bz_R} {b : Nat → Option bz_R} {v : bz_R} (hk : a = some v → ∃ n, b n = some v) (h : (if c then none else a) = some v) : ∃ n, (if c then none else b n) = some v := by
  by_cases q : c
  · rw [if_pos q] at h
    cases h
  · rw [if_neg q] at h
    obtain ⟨n, hn⟩ := hk h
    exact ⟨n, by rw [if_neg q]; exact hn⟩
theorem bq_it2 {c : Prop} [Decidable c] {a a' : Option bz_R} {b b' : Nat → Option bz_R} {v : bz_R} (hk : a = some v → ∃ n, b n = some v) (hk' : a' = some v → ∃ n, b' n = some v) (h : (if c then a else a') = some v) : ∃ n, (if c then b n else b' n) = some v := by
  by_cases q : c
  · rw [if_pos q] at h
    obtain ⟨n, hn⟩ := hk h
    exact ⟨n, by rw [if_pos q]; exact hn⟩
  · rw [if_neg q] at h
    obtain ⟨n, hn⟩ := hk' h
    exact ⟨n, by rw [if_neg q]; exact hn⟩
theorem bq_cond {c : Bool} {a : Option bz_R} {b : Nat → Option bz_R} {v : bz_R} (hk : a = some v → ∃ n, b n = some v) (h : cond c a none = some v) : ∃ n, cond c (b n) none = some v := by
  cases c
  · cases h
  · exact hk h
theorem bq_j {rn : Nat → bz_X0} {X : bz_X0} {kn : Nat → Nat → bz_K} {kX : Nat → bz_K} (cr : bq_C rn X) (ck : bq_D kn kX) {k : Nat} {o : Int} {L : List (Option bz_V)} {st : List bz_V} {μ : bz_M} {v : bz_R} (h : bz_j X k kX o L st μ = some v) : ∃ n, bz_j (rn n) k (kn n) o L st μ = some v := by
  cases o with
  | ofNat d => exact ck _ _ _ _ _ h
  | negSucc t => exact cr _ _ _ _ _ _ h
theorem bq_if {c : ClassFile.Cond} {x y : Int} {a a' : Option bz_R} {b b' : Nat → Option bz_R} {v : bz_R} (hk : a = some v → ∃ n, b n = some v) (hk' : a' = some v → ∃ n, b' n = some v) (h : bz_if c x y a a' = some v) : ∃ n, bz_if c x y (b n) (b' n) = some v := by
  cases c
  all_goals first
    | exact bq_it2 hk hk' h
    | exact bq_it2 hk' hk h
theorem bq_lkp {f : Int → Option bz_R} {fn : Nat → Int → Option bz_R} {v : bz_R} (hf : ∀ o, f o = some v → ∃ n, fn n o = some v) (x d : Int) : ∀ (ps : List (Int × Int)), bz_lkp ps x f d = some v → ∃ n, bz_lkp ps x (fn n) d = some v
  | [], h => hf _ h
  | q :: ps, h => bq_it2 (c := x = q.1) (hf _) (bq_lkp hf x d ps) h
theorem bq_tgS : ∀ (ts : List (Nat × Nat)) (t : Nat), (∃ k, ∀ f, bz_tg ts t f = f k) ∨ ∀ f, bz_tg ts t f = none
  | [], t => Or.inr fun f => rfl
  | q :: ts, t => by
    by_cases e : t = q.1
    · exact Or.inl ⟨q.2, fun f => by rw [bz_tg, if_pos e]⟩
    · rcases bq_tgS ts t with ⟨k, h⟩ | h
      · exact Or.inl ⟨k, fun f => by rw [bz_tg, if_neg e]; exact h f⟩
      · exact Or.inr fun f => by rw [bz_tg, if_neg e]; exact h f
theorem bq_hhS (g : Option bz_R) : ∀ (ts : List (Nat × Nat)) (t : Nat), (∃ k, ∀ f, bz_hh ts t f g = f k) ∨ ∀ f, bz_hh ts t f g = g
  | [], t => Or.inr fun f => rfl
  | q :: ts, t => by
    by_cases e : t = q.1
    · exact Or.inl ⟨q.2, fun f => by rw [bz_hh, if_pos e]⟩
    · rcases bq_hhS g ts t with ⟨k, h⟩ | h
      · exact Or.inl ⟨k, fun f => by rw [bz_hh, if_neg e]; exact h f⟩
      · exact Or.inr fun f => by rw [bz_hh, if_neg e]; exact h f
theorem bq_trS (mls : List Nat) (ts : List (Nat × Nat)) (As : List bz_V) (μ : bz_M) : (∃ k, ∀ rec : bz_X0, bz_tr mls rec ts As μ = rec k 0 (bz_lo (mls.getD k 0) As) [] μ) ∨ ∀ rec : bz_X0, bz_tr mls rec ts As μ = none := by
  have key : ∀ (a : Nat) (vs : List bz_V), As = .inr (.inr a) :: vs → (∀ rec : bz_X0, bz_tr mls rec ts As μ = bz_tg ts (gT μ a) (fun k => rec k 0 (bz_lo (mls.getD k 0) As) [] μ)) → (∃ k, ∀ rec : bz_X0, bz_tr mls rec ts As μ = rec k 0 (bz_lo (mls.getD k 0) As) [] μ) ∨ ∀ rec : bz_X0, bz_tr mls rec ts As μ = none := by
    intro a vs _ h
    rcases bq_tgS ts (gT μ a) with ⟨k, g⟩ | g
    · exact Or.inl ⟨k, fun rec => by rw [h rec, g]⟩
    · exact Or.inr fun rec => by rw [h rec, g]
  rcases As with _ | ⟨(x | x | a), As⟩ <;> rcases ts with _ | ⟨⟨(_ | t), k⟩, (_ | ⟨q, ts⟩)⟩
  all_goals first
    | exact Or.inl ⟨k, fun rec => rfl⟩
    | exact Or.inr fun rec => rfl
    | exact key _ _ rfl fun rec => rfl
theorem bq_rnN {rv : Nat} {ks : Nat → bz_K} {L : List (Option bz_V)} {rest : List bz_V} : bz_rn rv none ks L rest = none := by
  rcases rv with _ | _ | _ | _ | _ | _ | rv <;> rfl
theorem bq_rhN {rv : Nat} {hs : List (Nat × Nat)} {ks : Nat → bz_K} {L : List (Option bz_V)} {rest : List bz_V} : bz_rh rv hs none ks L rest = none := by
  rcases rv with _ | _ | rv <;> rfl
theorem bq_rn {rv : Nat} {kn : Nat → Nat → bz_K} {kX : Nat → bz_K} (ck : bq_D kn kX) {w : bz_R} {L : List (Option bz_V)} {rest : List bz_V} {v : bz_R} (h : bz_rn rv (some w) kX L rest = some v) : ∃ n, bz_rn rv (some w) (kn n) L rest = some v := by
  rcases w with ⟨(x | x | x) | c, μ⟩ <;> rcases rv with _ | _ | _ | _ | _ | _ | rv
  all_goals first
    | exact ck _ _ _ _ _ h
    | exact ⟨0, h⟩
    | cases h
theorem bq_rh {rv : Nat} {hs : List (Nat × Nat)} {kn : Nat → Nat → bz_K} {kX : Nat → bz_K} (ck : bq_D kn kX) {w : bz_R} {L : List (Option bz_V)} {rest : List bz_V} {v : bz_R} (h : bz_rh rv hs (some w) kX L rest = some v) : ∃ n, bz_rh rv hs (some w) (kn n) L rest = some v := by
  rcases w with ⟨(x | x | x) | c, μ⟩ <;> rcases rv with _ | _ | rv
  all_goals first
    | exact ck _ _ _ _ _ h
    | (cases h; done)
    | skip
  all_goals
    have h' : bz_hh hs c (fun d => kX d L [zR 15] μ) none = some v := h
    rcases bq_hhS none hs c with ⟨d, g⟩ | g
    · rw [g] at h'
      obtain ⟨n, hn⟩ := ck _ _ _ _ _ h'
      exact ⟨n, (g (fun d => kn n d L [zR 15] μ)).trans hn⟩
    · rw [g] at h'
      cases h'
theorem bq_call {ct : List bz_C} {mls : List Nat} {rn : Nat → bz_X0} {X : bz_X0} {kn : Nat → Nat → bz_K} {kX : Nat → bz_K} (mr : ∀ a b, a ≤ b → bq_m (rn a) (rn b)) (mk : ∀ a b, a ≤ b → bq_mk (kn a) (kn b)) (cr : bq_C rn X) (ck : bq_D kn kX) {q : Nat} {b : Bool} {L : List (Option bz_V)} {st : List bz_V} {μ : bz_M} {v : bz_R} (h : bz_call ct mls X q b kX L st μ = some v) : ∃ n, bz_call ct mls (rn n) q b (kn n) L st μ = some v := by
  unfold bz_call at h ⊢
  cases hq : ct[q]? with
  | none => rw [hq] at h; cases h
  | some e =>
    obtain ⟨kd, rv, ts, hs⟩ := e
    rw [hq] at h
    simp only at h ⊢
    refine bq_cond (fun h => ?_) h
    rcases bq_trS mls ts (st.take kd.length).reverse μ with ⟨k, g⟩ | g
    · rw [g] at h
      simp only [g]
      cases hw : X k 0 (bz_lo (mls.getD k 0) (st.take kd.length).reverse) [] μ with
      | none =>
        rw [hw, bq_rnN, bq_rhN] at h
        cases b <;> cases h
      | some w =>
        rw [hw] at h
        obtain ⟨n1, h1⟩ := cr _ _ _ _ _ _ hw
        cases b
        · obtain ⟨n2, h2⟩ := bq_rn ck (show bz_rn rv (some w) kX L (st.drop kd.length) = some v from h)
          refine ⟨max n1 n2, ?_⟩
          rw [mr n1 _ (Nat.le_max_left _ _) _ _ _ _ _ _ h1]
          obtain ⟨_, h3⟩ := bq_rn (kn := fun _ => kn (max n1 n2)) (fun d L st μ v h => ⟨0, mk n2 _ (Nat.le_max_right _ _) _ _ _ _ _ h⟩) h2
          exact h3
        · obtain ⟨n2, h2⟩ := bq_rh ck (show bz_rh rv hs (some w) kX L (st.drop kd.length) = some v from h)
          refine ⟨max n1 n2, ?_⟩
          rw [mr n1 _ (Nat.le_max_left _ _) _ _ _ _ _ _ h1]
          obtain ⟨_, h3⟩ := bq_rh (kn := fun _ => kn (max n1 n2)) (fun d L st μ v h => ⟨0, mk n2 _ (Nat.le_max_right _ _) _ _ _ _ _ h⟩) h2
          exact h3
    · rw [g, bq_rnN, bq_rhN] at h
      cases b <;> cases h
set_option maxHeartbeats 1600000 in
theorem bq_step {ct : List bz_C} {mls : List Nat} {rn : Nat → bz_X0} {X : bz_X0} {kn : Nat → Nat → bz_K} {kX : Nat → bz_K} (mr : ∀ a b, a ≤ b → bq_m (rn a) (rn b)) (mk : ∀ a b, a ≤ b → bq_mk (kn a) (kn b)) (cr : bq_C rn X) (ck : bq_D kn kX) {k : Nat} {ins : Instr} {L : List (Option bz_V)} {st : List bz_V} {μ : bz_M} {v : bz_R} (h : bz_step ct mls X k ins kX L st μ = some v) : ∃ n, bz_step ct mls (rn n) k ins (kn n) L st μ = some v := by
  cases ins
  case iload j =>
    unfold bz_step at h ⊢
    dsimp only at h ⊢
    generalize L[j]? = o at h ⊢
    rcases o with _ | _ | x | x | x
    all_goals first
      | exact ck _ _ _ _ _ h
      | cases h
  case lload j =>
    unfold bz_step at h ⊢
    dsimp only at h ⊢
    generalize L[j]? = o at h ⊢
    rcases o with _ | _ | x | x | x
    all_goals first
      | exact ck _ _ _ _ _ h
      | cases h
  case aload j =>
    unfold bz_step at h ⊢
    dsimp only at h ⊢
    generalize L[j]? = o at h ⊢
    rcases o with _ | _ | x | x | x
    all_goals first
      | exact ck _ _ _ _ _ h
      | cases h
  case iinc j c =>
    unfold bz_step at h ⊢
    dsimp only at h ⊢
    generalize L[j]? = o at h ⊢
    rcases o with _ | _ | x | x | x
    all_goals first
      | exact ck _ _ _ _ _ h
      | cases h
  case invokevirtual q => exact bq_call mr mk cr ck h
  case checkcast q => exact bq_call mr mk cr ck h
  case goto o => exact bq_j cr ck h
  case invokespecial q =>
    rcases st with _ | ⟨x | x | x, st⟩
    all_goals first
      | (cases h; done)
      | exact bq_cond (fun h => bq_ite (fun h => ck _ _ _ _ _ h) h) h
  case tableswitch d lo hi os =>
    rcases st with _ | ⟨x | x | x, st⟩
    all_goals first
      | (cases h; done)
      | skip
    refine bq_it2 (fun h => bq_j cr ck h) (fun h => ?_) h
    generalize os.toList[(x - lo).toNat]? = o at h ⊢
    cases o with
    | none => cases h
    | some o => exact bq_j cr ck h
  case lookupswitch d ps =>
    rcases st with _ | ⟨x | x | x, st⟩
    all_goals first
      | (cases h; done)
      | skip
    exact bq_lkp (fun o h => bq_j cr ck h) x d ps.toList h
  all_goals first
    | exact ck _ _ _ _ _ h
    | (cases h; done)
    | exact ⟨0, h⟩
    | skip
  all_goals rcases st with _ | ⟨x | x | x, _ | ⟨y | y | y, _ | ⟨z | z | z, st⟩⟩⟩
  all_goals first
    | exact ck _ _ _ _ _ h
    | (cases h; done)
    | exact ⟨0, h⟩
    | exact bq_ite (fun h => ck _ _ _ _ _ h) h
    | exact bq_itn (fun h => ck _ _ _ _ _ h) h
    | exact bq_cond (fun h => ck _ _ _ _ _ h) h
    | exact bq_if (fun h => bq_j cr ck h) (fun h => ck _ _ _ _ _ h) h
    | (simp only [bz_step] at h; split at h <;> first | (cases h; done) | exact ck _ _ _ _ _ h)
theorem bq_go {ct : List bz_C} {mls : List Nat} {rn : Nat → bz_X0} {X : bz_X0} (mr : ∀ a b, a ≤ b → bq_m (rn a) (rn b)) (cr : bq_C rn X) {k : Nat} : ∀ (cs : List Instr), bq_D (fun n => bz_go ct mls (rn n) k cs) (bz_go ct mls X k cs)
  | [] => fun d L st μ v h => by cases h
  | c :: cs => by
    intro d L st μ v h
    cases d with
    | zero =>
      refine bq_step mr (fun a b hab d L st μ v h => ?_) cr (bq_go mr cr cs) h
      obtain ⟨_, h2⟩ := bq_go (rn := fun _ => rn b) (X := rn a) (fun _ _ _ k i L st μ v h => h) (fun k i L st μ v h => ⟨0, mr a b hab _ _ _ _ _ _ h⟩) cs d L st μ v h
      exact h2
    | succ d => exact bq_go mr cr cs d L st μ v h
theorem bx_mono1 : ∀ n, bq_m (bx n) (bx (n + 1))
  | 0 => fun k i L st μ v h => by cases h
  | n + 1 => fun k i L st μ v h => by
    obtain ⟨_, h2⟩ := bq_go (ct := bz_ct) (mls := bz_mls) (rn := fun _ => bx (n + 1)) (X := bx n) (fun _ _ _ k i L st μ v h => h) (fun k i L st μ v h => ⟨0, bx_mono1 n _ _ _ _ _ _ h⟩) (bz_cds.getD k []) i L st μ v h
    exact h2
theorem bx_mono {a b : Nat} (h : a ≤ b) : bq_m (bx a) (bx b) := by
  induction h with
  | refl => exact fun k i L st μ v h => h
  | step _ ih => exact fun k i L st μ v h => bx_mono1 _ _ _ _ _ _ _ (ih _ _ _ _ _ _ h)
noncomputable def bX : bz_X0 := fun k i L st μ => @dite _ (∃ v, ∃ n, bx n k i L st μ = some v) (Classical.propDecidable _) (fun h => some (Classical.choose h)) (fun _ => none)
theorem bX_iff {k i : Nat} {L : List (Option bz_V)} {st : List bz_V} {μ : bz_M} {v : bz_R} : bX k i L st μ = some v ↔ ∃ n, bx n k i L st μ = some v := by
  unfold bX
  by_cases q : ∃ v, ∃ n, bx n k i L st μ = some v
  · rw [dif_pos q]
    obtain ⟨n, hn⟩ := Classical.choose_spec q
    constructor
    · intro h
      cases h
      exact ⟨n, hn⟩
    · rintro ⟨m, hm⟩
      have h1 := bx_mono (Nat.le_max_left n m) _ _ _ _ _ _ hn
      have h2 := bx_mono (Nat.le_max_right n m) _ _ _ _ _ _ hm
      exact h1.symm.trans h2
  · rw [dif_neg q]
    exact ⟨fun h => (by cases h), fun h => absurd ⟨v, h⟩ q⟩
theorem bX_eq (k i : Nat) (L : List (Option bz_V)) (st : List bz_V) (μ : bz_M) : bX k i L st μ = bz_go bz_ct bz_mls bX k (bz_cds.getD k []) i L st μ := by
  apply Option.ext
  intro v
  rw [bX_iff]
  constructor
  · rintro ⟨n, hn⟩
    cases n with
    | zero => cases hn
    | succ n =>
      obtain ⟨_, h2⟩ := bq_go (ct := bz_ct) (mls := bz_mls) (rn := fun _ => bX) (X := bx n) (fun _ _ _ k i L st μ v h => h) (fun k i L st μ v h => ⟨0, bX_iff.mpr ⟨n, h⟩⟩) (bz_cds.getD k []) i L st μ v hn
      exact h2
  · intro h
    obtain ⟨n, hn⟩ := bq_go (ct := bz_ct) (mls := bz_mls) (rn := bx) (X := bX) (fun a b hab => bx_mono hab) (fun k i L st μ v h => bX_iff.mp h) (bz_cds.getD k []) i L st μ v h
    exact ⟨n + 1, hn⟩
