/-! CALLS -/
def bz_Run (k : Nat) (N : bz_N) (i : Nat) (As : List bz_V) (rest : List bz_V) (μ : bz_M) (k' : Nat) (res' : bz_R) : Prop :=
  ∀ (p : Program) (l : Launch) (e : Env) (R : Room) (s : State) (m : MethodId) (args : Array Value) (below : List Frame) (meth : Method) (c : Code) (H : Heap) (locs : List Loc) (ls : Array Slot) (vs wr : List Value) (cells slots mc ms : Nat),
    bz_ctx k N p l R s m args meth c → vx_Met l (bz_y k') (bz_wsk k') (bz_roo k' mc ms) (bz_Pc N μ As) (bz_Qc k' N res') (bz_XC N res') mc ms (bz_A N) → PreS s H (bz_Pc N μ As) vs → bz_Rep N μ H → va_S (bz_A N) s.heap H locs → bz_vs N As vs → bz_vs N rest wr → ls.size = c.maxLocals → cells + mc ≤ R.cells ∧ slots + ms ≤ R.slots →
    vx_Run p l e R s m args below meth c H locs cells slots mc ms (F0 m (bz_pc k i) ls (vs.reverse ++ wr)) wr (bz_Qc k' N res' vs.toArray) (bz_XC N res') (bz_A N)
def bz_Th (k : Nat) (N : bz_N) (i : Nat) (L : List (Option bz_V)) (x : Nat) (μ : bz_M) (res : bz_R) : Prop := (C1 μ ≤ C1 res.2 ∧ C2 μ ≤ C2 res.2) ∧
  ∀ (p : Program) (l : Launch) (e : Env) (R : Room) (s : State) (m : MethodId) (args : Array Value) (below : List Frame) (meth : Method) (c : Code) (H : Heap) (locs : List Loc) (ls : Array Slot) (wr : List Value) (c0 s0 mc ms : Nat) (q : Addr) (ce : Cell),
    bz_ctx k N p l R s m args meth c → c0 ≤ C1 μ → s0 ≤ C2 μ → C1 res.2 ≤ c0 + mc → C2 res.2 ≤ s0 + ms → mc ≤ R.cells → ms ≤ R.slots → s.heap.size ≤ nB N + c0 → va_S (bz_A N) s.heap H locs → bz_Rep N μ H → bz_ll k N L ls (bz_ml k) → 1 ≤ x ∧ x ≤ 4 → H[q]? = some ce → ce.vm = .none → s.vm.findClass (bz_exn x) = some ce.cls →
    vx_W p l e R s m args below meth c H locs (C1 μ - c0) (C2 μ - s0) (vx_MQ below (bz_Qc k N res) (bz_XC N res) args s mc ms (bz_A N)) (F0 m (bz_pc k i) ls wr) q
theorem bz_callX {k k' : Nat} {N : bz_N} {i : Nat} {L : List (Option bz_V)} {st : List bz_V} {μ : bz_M} {res' res : bz_R} {kd : List Nat} (hk' : k' < bz_KN) (hkk : bz_kk (st.take kd.length).reverse kd = true) (hp : bz_pc k (i + 1) = bz_pc k i + 3) (hkw : bz_kw kd ≤ bz_ml k') (hlg : ∀ j ∈ bz_lp 0 kd, j ∈ bz_lgs k')
    (h' : bz_H k' N 0 (bz_lo (bz_ml k') (st.take kd.length).reverse) [] μ res') (run : bz_Run k N i (st.take kd.length).reverse (st.drop kd.length) μ k' res')
    (ret : ∀ v, res'.1 = .inl v → bz_H k N (i + 1) L (match bz_rt k' with | none => st.drop kd.length | some _ => v :: st.drop kd.length) res'.2 res) (thr : ∀ x, res'.1 = .inr x → bz_Th k N i L x res'.2 res) : bz_H k N i L st μ res := by
  have mono : C1 res'.2 ≤ C1 res.2 ∧ C2 res'.2 ≤ C2 res.2 := by
    cases hq : res'.1 with
    | inl v => exact (ret v hq).1
    | inr x => exact (thr x hq).1
  have mono' := h'.1
  refine ⟨⟨Nat.le_trans mono'.1 mono.1, Nat.le_trans mono'.2 mono.2⟩, ?_⟩
  intro p l e R s m args below meth c' H locs ls sv c0 s0 mc ms C a1 a2 a3 a4 a5 a6 hz hS hR hL hv
  intro T hT X
  have hup := X.heapSize
  rw [hT] at hup
  obtain ⟨v1, v2⟩ := bz_vs_take kd.length hv
  have v1' := bz_vs_rev v1
  have esv : sv = ((sv.take kd.length).reverse).reverse ++ sv.drop kd.length := by rw [List.reverse_reverse, List.take_append_drop]
  obtain ⟨n1, hn1⟩ : ∃ z, C1 res'.2 = C1 μ + z := ⟨C1 res'.2 - C1 μ, by have := mono'.1; omega⟩
  obtain ⟨n2, hn2⟩ : ∃ z, C2 res'.2 = C2 μ + z := ⟨C2 res'.2 - C2 μ, by have := mono'.2; omega⟩
  have m1 := mono.1
  have m2 := mono.2
  have M := bz_met (mc := n1) (ms := n2) hk' C.1.2.1 hkk hkw hlg (Nat.le_of_eq hn1) (Nat.le_of_eq hn2) h'
  have PS : PreS s H (bz_Pc N μ (st.take kd.length).reverse) (sv.take kd.length).reverse := ⟨bz_blind, fun U hU hW => ⟨⟨_, rfl, v1'⟩, by rw [hU]; exact hR, bz_E_moved hW hU hS C.2.2.2.2, by rw [hU]; exact Nat.le_trans C.2.2.2.1 hS.1, by rw [hU]; omega⟩⟩
  have RUN := run p l e R s m args below meth c' H locs ls _ _ (C1 μ - c0) (C2 μ - s0) n1 n2 C M PS hR hS v1' v2 (by rw [C.1.2.2.2.1]; exact hL.1) ⟨by omega, by omega⟩
  rw [← esv] at RUN
  have q1 : C1 μ - c0 + n1 = C1 res'.2 - c0 := by omega
  have q2 : C2 μ - s0 + n2 = C2 res'.2 - s0 := by omega
  rcases RUN T hT X with ⟨v, st₀, t, T', L', h0, X', hL', e1, e2, ⟨⟨v', hv', hq⟩, hRep, hF⟩, step⟩ | ⟨q, st₀, t, T', L', E, ce, h0, X', hL', e1, e2, ⟨⟨x, hx, rfl, hx1, hx2⟩, hRep, hF⟩, hce, hcv, hcl, step⟩
  · obtain ⟨k1, k2, k3⟩ := vx_keep (A0 := bz_A N) (A1 := bz_A N) (free := bz_A N) h0 e1 hS (fun _ _ h => h) (fun _ h => h) hL' hF
    have hRep' : bz_Rep N res'.2 T'.heap := by rw [e1]; exact hRep
    rw [q1, q2] at X'
    have r := ret v' hv'
    rcases hq with ⟨hr, ho⟩ | ⟨ty, w, hr, ho, hw⟩
    · cases ho
      rw [hr] at r
      have K := r.2 p l e R s m args below meth c' T'.heap (locs ++ L') ls _ c0 s0 mc ms C (by omega) (by omega) a3 a4 a5 a6 hz k3 hRep' hL v2
      rw [hp] at K
      obtain ⟨t2, b1, b2⟩ := K T' rfl X'
      exact ⟨t2, step t2 b1, b2⟩
    · cases ho
      rw [hr] at r
      have K := r.2 p l e R s m args below meth c' T'.heap (locs ++ L') ls (w :: sv.drop kd.length) c0 s0 mc ms C (by omega) (by omega) a3 a4 a5 a6 hz k3 hRep' hL ⟨hw, v2⟩
      rw [hp] at K
      obtain ⟨t2, b1, b2⟩ := K T' rfl X'
      exact ⟨t2, step t2 b1, b2⟩
  · obtain ⟨k1, k2, k3⟩ := vx_keep (A0 := bz_A N) (A1 := bz_A N) (free := bz_A N) h0 e1 hS (fun _ _ h => h) (fun _ h => h) hL' hF
    have hRep' : bz_Rep N res'.2 T'.heap := by rw [e1]; exact hRep
    rw [q1, q2] at X'
    have K := (thr x hx).2 p l e R s m args below meth c' T'.heap (locs ++ L') ls (sv.drop kd.length) c0 s0 mc ms q ce C (by omega) (by omega) a3 a4 a5 a6 hz k3 hRep' hL ⟨hx1, hx2⟩ (by rw [e1]; exact hce) hcv hcl
    obtain ⟨t2, b1, b2⟩ := K T' rfl X'
    exact ⟨t2, step.trans b1, b2⟩
/-- not caught here -/
theorem bz_t_out {k : Nat} {N : bz_N} {i : Nat} {L : List (Option bz_V)} {x : Nat} {μ : bz_M} (h : (tableOf (bz_hh0 k)).all (fun z => !(covers z (bz_pc k i))) = true) : bz_Th k N i L x μ (.inr x, μ) := by
  refine ⟨⟨Nat.le_refl _, Nat.le_refl _⟩, ?_⟩
  intro p l e R s m args below meth c' H locs ls wr c0 s0 mc ms q ce C a1 a2 a3 a4 a5 a6 hz hS hR hL hx hce hcv hcl
  have a3 : C1 μ ≤ c0 + mc := a3
  have a4 : C2 μ ≤ s0 + ms := a4
  refine vx_out (fun z hz => ?_) C.1.2.2.2.2.1 hce hcv hcl (fun t ht _ => ⟨⟨x, rfl, rfl, hx.1, hx.2⟩, by rw [ht]; exact hR, hS.F ht⟩) hS.2.2 (by omega) (by omega)
  rw [C.1.2.2.2.2.2.2.2.2.2] at hz
  have h9 := List.all_eq_true.mp h z hz
  cases hcv : covers z (bz_pc k i)
  · rfl
  · rw [hcv] at h9; cases h9
/-- caught here -/
def bz_cov (k pc x : Nat) : List ExceptionTableEntry → Option Nat
  | [] => none
  | z :: zs => if covers z pc then
      (if z.catchType = 0 then none else
      match (bz_cl0.find? fun e => Nat.beq e.1 (bz_ocs.getD k 0) && Nat.beq e.2.1 z.catchType) with
      | some e => if e.2.2 = bz_exn x then some z.handlerPc else if (bz_exn x, e.2.2) ∈ bz_ncs then bz_cov k pc x zs else none
      | none => none) else bz_cov k pc x zs
theorem bz_cov_split {k pc x h : Nat} : ∀ {tb : List ExceptionTableEntry}, bz_cov k pc x tb = some h → ∃ pre z suf, tb = pre ++ z :: suf ∧ (∀ y ∈ pre, covers y pc = false ∨ (y.catchType ≠ 0 ∧ ∃ nm : String, Cond.classLink (bz_ow k) y.catchType nm ∈ bz_W ∧ (bz_exn x, nm) ∈ bz_ncs)) ∧ covers z pc = true ∧ z.catchType ≠ 0 ∧ Cond.classLink (bz_ow k) z.catchType (bz_exn x) ∈ bz_W ∧ z.handlerPc = h := by
  intro tb
  induction tb with
  | nil => intro h; cases h
  | cons z zs ih =>
    intro hh
    unfold bz_cov at hh
    split at hh
    · rename_i hc
      split at hh
      · cases hh
      · rename_i h0
        split at hh
        · rename_i e he
          have hm := List.mem_of_find?_eq_some he
          have hb := List.find?_some he
          rw [Bool.and_eq_true] at hb
          have b1 := Nat.eq_of_beq_eq_true hb.1
          have b2 := Nat.eq_of_beq_eq_true hb.2
          have hw := bz_cl0_in e hm
          unfold bz_cl0w at hw
          rw [b1, b2] at hw
          split at hh
          · rename_i e3
            cases hh
            rw [e3] at hw
            exact ⟨[], z, zs, rfl, ⟨fun _ h => (by cases h), hc, h0, hw, rfl⟩⟩
          · split at hh
            · rename_i hn
              obtain ⟨pre, y, suf, q1, q2, q3⟩ := ih hh
              refine ⟨z :: pre, y, suf, by rw [q1]; rfl, fun y' hy' => ?_, q3⟩
              rcases List.mem_cons.mp hy' with rfl | hy'
              · exact Or.inr ⟨h0, _, hw, hn⟩
              · exact q2 y' hy'
            · cases hh
        · cases hh
    · rename_i hc
      obtain ⟨pre, y, suf, q1, q2, q3⟩ := ih hh
      refine ⟨z :: pre, y, suf, by rw [q1]; rfl, fun y' hy' => ?_, q3⟩
      rcases List.mem_cons.mp hy' with rfl | hy'
      · exact Or.inl (by simpa using hc)
      · exact q2 y' hy'
theorem bz_t_in {k : Nat} {N : bz_N} {i j : Nat} {L : List (Option bz_V)} {x : Nat} {μ : bz_M} {res : bz_R} (hcov : bz_cov k (bz_pc k i) x (tableOf (bz_hh0 k)) = some (bz_pc k j)) (h : bz_H k N j L [zR 15] μ res) : bz_Th k N i L x μ res := by
  refine ⟨h.1, ?_⟩
  intro p l e R s m args below meth c' H locs ls wr c0 s0 mc ms q ce C a1 a2 a3 a4 a5 a6 hz hS hR hL hx hce hcv hcl
  have hts := C.1.2.2.2.2.2.2.2.2.1
  have hE := C.2.2.2.2
  obtain ⟨pre, z, suf, q1, q2, q3, q4, q5, q6⟩ := bz_cov_split hcov
  have hcas := bz_tng_ok (args := args) hx hE (.castable (bz_exn x) (bz_exn x)) List.mem_cons_self
  obtain ⟨-, -, -, -, -, -, -, -, -, -, h14, -⟩ := hE
  refine vx_catch C.1.2.2.2.2.2.1 pre z suf (by rw [C.1.2.2.2.2.2.2.2.2.2, q1]) (fun y hy => ?_) q3 q4 (hts _ q5) hcas hce hcv hcl ?_
  · rcases q2 y hy with g | ⟨g1, nm, g2, g3⟩
    · exact Or.inl g
    · exact Or.inr ⟨g1, nm, hts _ g2, h14 _ g3⟩
  · rw [q6]
    exact h.2 p l e R s m args below meth c' H locs ls [.ref q] c0 s0 mc ms C a1 a2 a3 a4 a5 a6 hz hS hR hL ⟨by unfold bz_vr; dsimp only; rw [if_pos rfl]; exact Or.inr ⟨_, rfl⟩, trivial⟩
