/-! THE SCRIPT IS NEVER WRITTEN -/
def pS (s : Int → Int) (μ : bz_M) : Prop := gT μ 1 = 21 ∧ ∀ j, gM μ 1 j = s j
abbrev vsX (s : Int → Int) (r : bz_X0) : Prop := ∀ (k i : Nat) (L : List (Option bz_V)) (st : List bz_V) (μ : bz_M) (v : bz_R), pS s μ → r k i L st μ = some v → pS s v.2
abbrev vsK (s : Int → Int) (ks : Nat → bz_K) : Prop := ∀ (d : Nat) (L : List (Option bz_V)) (st : List bz_V) (μ : bz_M) (v : bz_R), pS s μ → ks d L st μ = some v → pS s v.2
def okI (ins : Instr) : Bool := match ins with
  | .putfield p => !Nat.beq (p / 100) 21
  | .dstore p => !Nat.beq (p / 100) 21
  | _ => true
section
variable {s : Int → Int} {μ : bz_M} {v : bz_R}
theorem pS_M {a : Nat} {i x : Int} (h : pS s μ) (ha : gT μ a ≠ 21) : pS s (sM μ a i x) := by
  refine ⟨h.1, fun j => ?_⟩
  show (if 1 = a ∧ j = i then x else gM μ 1 j) = s j
  rw [if_neg (fun z => ha (by rw [← z.1]; exact h.1))]
  exact h.2 j
theorem pS_A {t n : Nat} (h : pS s μ) : pS s (sA μ t n) := by
  have hl : 1 < μ.1.length := by
    rcases Nat.lt_or_ge 1 μ.1.length with z | z
    · exact z
    · have h1 := h.1
      unfold gT at h1
      rw [List.getD_eq_getElem?_getD, List.getElem?_eq_none z] at h1
      cases h1
  refine ⟨?_, h.2⟩
  have h1 := h.1
  unfold gT at h1 ⊢
  show (((μ.1 ++ [(t, if 20 ≤ t then n else 0)]).getD 1 (0, 0)).1) = 21
  rw [List.getD_eq_getElem?_getD, List.getElem?_append_left hl, ← List.getD_eq_getElem?_getD]
  exact h1
theorem pS_P {a b : Nat} {i : Int} (h : pS s μ) : pS s (sP μ a i b) := ⟨h.1, h.2⟩
theorem pS_G {a : Nat} {i x : Int} (h : pS s μ) : pS s (sG μ a i x) := ⟨h.1, h.2⟩
theorem vs_ite {c : Prop} [Decidable c] {a : Option bz_R} (h : (if c then a else none) = some v) : c ∧ a = some v := by
  by_cases q : c
  · rw [if_pos q] at h; exact ⟨q, h⟩
  · rw [if_neg q] at h; cases h
theorem vs_itn {c : Prop} [Decidable c] {a : Option bz_R} (h : (if c then none else a) = some v) : a = some v := by
  by_cases q : c
  · rw [if_pos q] at h; cases h
  · rw [if_neg q] at h; exact h
theorem vs_it2 {c : Prop} [Decidable c] {a b : Option bz_R} {Q : Prop} (ha : a = some v → Q) (hb : b = some v → Q) (h : (if c then a else b) = some v) : Q := by
  by_cases q : c
  · rw [if_pos q] at h; exact ha h
  · rw [if_neg q] at h; exact hb h
theorem vs_cond {c : Bool} {a : Option bz_R} (h : cond c a none = some v) : a = some v := by
  cases c
  · cases h
  · exact h
theorem vs_j {rec : bz_X0} {ks : Nat → bz_K} (cr : vsX s rec) (ck : vsK s ks) {k : Nat} {o : Int} {L : List (Option bz_V)} {st : List bz_V} (hP : pS s μ) (h : bz_j rec k ks o L st μ = some v) : pS s v.2 := by
  cases o with
  | ofNat d => exact ck _ _ _ _ _ hP h
  | negSucc t => exact cr _ _ _ _ _ _ hP h
theorem vs_if {c : ClassFile.Cond} {x y : Int} {a b : Option bz_R} {Q : Prop} (ha : a = some v → Q) (hb : b = some v → Q) (h : bz_if c x y a b = some v) : Q := by
  cases c
  all_goals first
    | exact vs_it2 ha hb h
    | exact vs_it2 hb ha h
theorem vs_lkp {f : Int → Option bz_R} {Q : Prop} (hf : ∀ o, f o = some v → Q) (x d : Int) : ∀ (ps : List (Int × Int)), bz_lkp ps x f d = some v → Q
  | [], h => hf _ h
  | q :: ps, h => vs_it2 (c := x = q.1) (hf _) (vs_lkp hf x d ps) h
theorem vs_rn {rv : Nat} {ks : Nat → bz_K} (ck : vsK s ks) {w : bz_R} (hw : pS s w.2) {L : List (Option bz_V)} {rest : List bz_V} (h : bz_rn rv (some w) ks L rest = some v) : pS s v.2 := by
  rcases w with ⟨(x | x | x) | c, μ⟩ <;> rcases rv with _ | _ | _ | _ | _ | _ | rv
  all_goals first
    | exact ck _ _ _ _ _ hw h
    | (cases h; exact hw)
    | cases h
theorem vs_rh {rv : Nat} {hs : List (Nat × Nat)} {ks : Nat → bz_K} (ck : vsK s ks) {w : bz_R} (hw : pS s w.2) {L : List (Option bz_V)} {rest : List bz_V} (h : bz_rh rv hs (some w) ks L rest = some v) : pS s v.2 := by
  rcases w with ⟨(x | x | x) | c, μ⟩ <;> rcases rv with _ | _ | rv
  all_goals first
    | exact ck _ _ _ _ _ hw h
    | (cases h; done)
    | skip
  all_goals
    have h' : bz_hh hs c (fun d => ks d L [zR 15] μ) none = some v := h
    rcases bq_hhS none hs c with ⟨d, g⟩ | g
    · rw [g] at h'
      exact ck _ _ _ _ _ hw h'
    · rw [g] at h'
      cases h'
theorem vs_call {ct : List bz_C} {mls : List Nat} {rec : bz_X0} {ks : Nat → bz_K} (cr : vsX s rec) (ck : vsK s ks) {q : Nat} {b : Bool} {L : List (Option bz_V)} {st : List bz_V} (hP : pS s μ) (h : bz_call ct mls rec q b ks L st μ = some v) : pS s v.2 := by
  unfold bz_call at h
  cases hq : ct[q]? with
  | none => rw [hq] at h; cases h
  | some e =>
    obtain ⟨kd, rv, ts, hs⟩ := e
    rw [hq] at h
    simp only at h
    have h := vs_cond h
    rcases bq_trS mls ts (st.take kd.length).reverse μ with ⟨k, g⟩ | g
    · rw [g] at h
      cases hw : rec k 0 (bz_lo (mls.getD k 0) (st.take kd.length).reverse) [] μ with
      | none =>
        rw [hw, bq_rnN, bq_rhN] at h
        cases b <;> cases h
      | some w =>
        rw [hw] at h
        have pw := cr _ _ _ _ _ _ hP hw
        cases b
        · exact vs_rn ck pw (show bz_rn rv (some w) ks L (st.drop kd.length) = some v from h)
        · exact vs_rh ck pw (show bz_rh rv hs (some w) ks L (st.drop kd.length) = some v from h)
    · rw [g, bq_rnN, bq_rhN] at h
      cases b <;> cases h
set_option maxHeartbeats 1600000 in
theorem vs_step {ct : List bz_C} {mls : List Nat} {rec : bz_X0} {ks : Nat → bz_K} (cr : vsX s rec) (ck : vsK s ks) {k : Nat} {ins : Instr} {L : List (Option bz_V)} {st : List bz_V} (ok : okI ins = true) (hP : pS s μ) (h : bz_step ct mls rec k ins ks L st μ = some v) : pS s v.2 := by
  cases ins
  case iload j =>
    unfold bz_step at h
    dsimp only at h
    generalize L[j]? = o at h
    rcases o with _ | _ | x | x | x
    all_goals first
      | exact ck _ _ _ _ _ hP h
      | cases h
  case lload j =>
    unfold bz_step at h
    dsimp only at h
    generalize L[j]? = o at h
    rcases o with _ | _ | x | x | x
    all_goals first
      | exact ck _ _ _ _ _ hP h
      | cases h
  case aload j =>
    unfold bz_step at h
    dsimp only at h
    generalize L[j]? = o at h
    rcases o with _ | _ | x | x | x
    all_goals first
      | exact ck _ _ _ _ _ hP h
      | cases h
  case iinc j c =>
    unfold bz_step at h
    dsimp only at h
    generalize L[j]? = o at h
    rcases o with _ | _ | x | x | x
    all_goals first
      | exact ck _ _ _ _ _ hP h
      | cases h
  case invokevirtual q => exact vs_call cr ck hP h
  case checkcast q => exact vs_call cr ck hP h
  case goto o => exact vs_j cr ck hP h
  case invokespecial q =>
    rcases st with _ | ⟨x | x | x, st⟩
    all_goals first
      | (cases h; done)
      | exact ck _ _ _ _ _ hP (vs_ite (vs_cond h)).2
  case putfield p =>
    rcases st with _ | ⟨x | x | x, _ | ⟨y | y | y, st⟩⟩
    all_goals first
      | (cases h; done)
      | skip
    have h2 := vs_ite h
    refine ck _ _ _ _ _ (pS_M hP fun z => ?_) h2.2
    have e : p / 100 = 21 := h2.1.symm.trans z
    have ok2 : (!Nat.beq (p / 100) 21) = true := ok
    rw [e] at ok2
    exact absurd ok2 (by decide)
  case dstore p =>
    rcases st with _ | ⟨x | x | x, _ | ⟨y | y | y, st⟩⟩
    all_goals first
      | (cases h; done)
      | skip
    have h2 := vs_ite h
    refine ck _ _ _ _ _ (pS_M hP fun z => ?_) h2.2
    have e : p / 100 = 21 := h2.1.1.symm.trans z
    have ok2 : (!Nat.beq (p / 100) 21) = true := ok
    rw [e] at ok2
    exact absurd ok2 (by decide)
  case putstatic p =>
    rcases st with _ | ⟨x | x | x, _ | ⟨y | y | y, st⟩⟩
    all_goals first
      | (cases h; done)
      | skip
    have h2 := vs_ite h
    have h3 := h2.1
    exact ck _ _ _ _ _ (pS_M hP fun z => by omega) h2.2
  case iastore =>
    rcases st with _ | ⟨x | x | x, _ | ⟨y | y | y, _ | ⟨z | z | z, st⟩⟩⟩
    all_goals first
      | (cases h; done)
      | skip
    have h2 := vs_ite h
    have h3 := h2.1
    exact ck _ _ _ _ _ (pS_M hP fun z => by omega) h2.2
  case bastore =>
    rcases st with _ | ⟨x | x | x, _ | ⟨y | y | y, _ | ⟨z | z | z, st⟩⟩⟩
    all_goals first
      | (cases h; done)
      | skip
    have h2 := vs_ite h
    have h3 := h2.1
    exact ck _ _ _ _ _ (pS_M hP fun z => by omega) h2.2
  case new c =>
    have h2 := vs_ite h
    exact ck _ _ _ _ _ (pS_A hP) h2.2
  case anewarray t =>
    rcases st with _ | ⟨x | x | x, st⟩
    all_goals first
      | (cases h; done)
      | skip
    have h2 := vs_ite h
    exact ck _ _ _ _ _ (pS_A hP) h2.2
  case ldc_w c =>
    have h2 := vs_cond h
    cases h2
    exact hP
  case tableswitch d lo hi os =>
    rcases st with _ | ⟨x | x | x, st⟩
    all_goals first
      | (cases h; done)
      | skip
    refine vs_it2 (fun h => vs_j cr ck hP h) (fun h => ?_) h
    generalize os.toList[(x - lo).toNat]? = o at h
    cases o with
    | none => cases h
    | some o => exact vs_j cr ck hP h
  case lookupswitch d ps =>
    rcases st with _ | ⟨x | x | x, st⟩
    all_goals first
      | (cases h; done)
      | skip
    exact vs_lkp (fun o h => vs_j cr ck hP h) x d ps.toList h
  all_goals first
    | exact ck _ _ _ _ _ hP h
    | (cases h; done)
    | skip
  all_goals rcases st with _ | ⟨x | x | x, _ | ⟨y | y | y, _ | ⟨z | z | z, st⟩⟩⟩
  all_goals first
    | exact ck _ _ _ _ _ hP h
    | (cases h; done)
    | (cases h; exact hP)
    | (have h2 := (vs_ite h).2; cases h2; exact hP)
    | exact ck _ _ _ _ _ hP (vs_ite h).2
    | exact ck _ _ _ _ _ (pS_P hP) (vs_ite h).2
    | exact ck _ _ _ _ _ (pS_G hP) (vs_ite h).2
    | exact ck _ _ _ _ _ hP (vs_itn h)
    | exact ck _ _ _ _ _ hP (vs_cond h)
    | exact vs_if (fun h => vs_j cr ck hP h) (fun h => ck _ _ _ _ _ hP h) h
    | (simp only [bz_step] at h; split at h <;> first | (cases h; done) | exact ck _ _ _ _ _ hP h)
theorem vs_go {ct : List bz_C} {mls : List Nat} {rec : bz_X0} (cr : vsX s rec) {k : Nat} : ∀ (cs : List Instr), (∀ ins ∈ cs, okI ins = true) → vsK s (bz_go ct mls rec k cs)
  | [], _ => fun d L st μ v hP h => by cases h
  | c :: cs, ok => by
    intro d L st μ v hP h
    cases d with
    | zero => exact vs_step cr (vs_go cr cs fun i hi => ok i (List.mem_cons_of_mem _ hi)) (ok c List.mem_cons_self) hP h
    | succ d => exact vs_go cr cs (fun i hi => ok i (List.mem_cons_of_mem _ hi)) d L st μ v hP h
end
set_option maxRecDepth 20000 in
theorem ok_cds : bz_cds.all (fun cs => cs.all okI) = true := by decide +kernel
theorem ok_cd (k : Nat) : ∀ ins ∈ bz_cds.getD k [], okI ins = true := by
  intro ins hi
  have h := List.all_eq_true.mp ok_cds
  rw [List.getD_eq_getElem?_getD] at hi
  cases hk : bz_cds[k]? with
  | none => rw [hk] at hi; cases hi
  | some cs =>
    rw [hk] at hi
    exact List.all_eq_true.mp (h cs (List.mem_of_getElem? hk)) ins hi
theorem vs_Z {s : Int → Int} : ∀ n, vsX s (bx n)
  | 0 => fun k i L st μ v _ h => by cases h
  | n + 1 => fun k i L st μ v hP h => vs_go (vs_Z n) _ (ok_cd k) i L st μ v hP h
theorem vs_X {s : Int → Int} : vsX s bX := fun k i L st μ v hP h => by
  obtain ⟨n, hn⟩ := bX_iff.mp h
  exact vs_Z n k i L st μ v hP hn
theorem scr_keep {k i sl e e' : Nat} {L : List (Option bz_V)} {st : List bz_V} {π π' : Int → Nat} {M G M' G' : Nat → Int → Int} {r : bz_V ⊕ Nat} (h : bX k i L st (bM sl π M G e) = some (r, bM sl π' M' G' e')) (j : Int) : M' 1 j = M 1 j :=
  (vs_X (s := M 1) k i L st _ _ ⟨gT_bM.trans (by decide +kernel), fun _ => rfl⟩ h).2 j
