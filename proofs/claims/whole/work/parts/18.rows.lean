/-! THE ROWS OF CALLS -/
theorem bz_gw {args : Array Value} {s : State} (hts : ∀ w ∈ bz_W, w.before args s = true) {w : Cond} (hw : w ∈ bz_W) : ∀ (a' : Array Value) (U : State), s.WarmedH U.vm → w.before a' U = true := fun _ _ hW => word_at hW (good_of_word (List.mem_filter.mp hw).2) (hts w hw)
theorem bz_wsk_ok {k' : Nat} (hk' : k' < bz_KN) {args : Array Value} {s : State} (hts : ∀ w ∈ bz_W, w.before args s = true) : ∀ w ∈ bz_wsk k', ∀ (a' : Array Value) (U : State), s.WarmedH U.vm → w.before a' U = true := by
  intro w hw
  rcases List.mem_cons.mp hw with rfl | hw
  · exact bz_gw hts (bz_hw_W hk')
  · exact bz_gw hts hw
theorem bz_hw0 {k' : Nat} (h : bz_hh0 k' = []) : bz_hw k' = .code (bz_y k') (bz_b k') (bz_ml k') (bz_rt k') := by unfold bz_hw; rw [h]
theorem bz_mh_all : (List.range bz_KN).all (fun k => decide ((bz_y k).cls ≠ "java/lang/invoke/MethodHandle" ∧ (bz_y k).cls ≠ "java/lang/invoke/VarHandle")) = true := by decide +kernel
theorem bz_mh {k : Nat} (hk : k < bz_KN) : (bz_y k).cls ≠ "java/lang/invoke/MethodHandle" ∧ (bz_y k).cls ≠ "java/lang/invoke/VarHandle" := of_decide_eq_true (List.all_eq_true.mp bz_mh_all k (List.mem_range.mpr hk))
theorem bz_pnlen {k : Nat} (hk : k < bz_KM) : ∀ sig, parseMethodDescriptor (bz_y k).desc = some sig → bz_pn k = sig.parameters.length := by
  intro sig h
  have h1 := of_decide_eq_true (List.all_eq_true.mp bz_pn_ok k (List.mem_range.mpr hk))
  rw [h] at h1
  exact (Option.some.inj h1).symm
theorem bz_callfix {k : Nat} {N : bz_N} {p : Program} {l : Launch} {R : Room} {s : State} {m : MethodId} {args : Array Value} {meth : Method} {c : Code} (C : bz_ctx k N p l R s m args meth c) : CallFix p m c (bz_b k) c.maxLocals s args bz_W (bz_ow k) := ⟨C.1.1, C.1.2.2.1, rfl, C.1.2.2.2.2.2.1, C.1.2.2.2.2.2.2.2.2.1⟩
/-- what any call asks -/
def bz_fit (k k' : Nat) : Prop := k' < bz_KN ∧ bz_fr k' + 1 ≤ bz_fr k ∧ bz_lo0 k' + bz_ml k' + 19 ≤ bz_lo0 k
theorem bz_callB {k k' : Nat} {N : bz_N} {p : Program} {l : Launch} {R : Room} {s : State} {m : MethodId} {args : Array Value} {meth : Method} {c : Code} {idx mc ms : Nat} (C : bz_ctx k N p l R s m args meth c) (hf : bz_fit k k') (hh : bz_hh0 k' = []) (hi : Cond.initialized (bz_y k').cls ∈ bz_W) (hl : Cond.methodLink (bz_ow k) idx (bz_y k') ∈ bz_W) :
    CallB R s args (bz_ow k) idx (bz_y k') (bz_b k') (bz_ml k') (bz_rt k') (bz_wsk k') (bz_roo k' mc ms) mc ms (bz_pn k') := by
  have hts := C.1.2.2.2.2.2.2.2.2.1
  have hF := C.2.1
  have hL := C.2.2.1
  obtain ⟨h1, h2, h3⟩ := hf
  refine ⟨rfl, rfl, ?_, ?_, bz_wsk_ok h1 hts, ?_, hts _ ?_, hts _ hi, bz_mh h1, bz_pnlen (Nat.lt_succ_of_lt h1), hts _ hl⟩
  · show bz_fr k' + 1 ≤ R.frames
    omega
  · show 8 + (bz_ml k' + 11) + bz_lo0 k' ≤ R.locals
    omega
  · rw [← bz_hw0 hh]; exact List.mem_cons_self
  · rw [← bz_hw0 hh]; exact bz_hw_W h1
theorem bz_wr8 {N : bz_N} {rest : List bz_V} {wr : List Value} (h : bz_vs N rest wr) (hs : bz_sum rest ≤ 8) : 2 * 0 + (wr.map fun v => v.category).sum ≤ 8 := by rw [bz_vs_sum h]; omega
/-- the receiver's cell -/
theorem bz_recv {N : bz_N} {μ : bz_M} {H : Heap} {s : State} {locs : List Loc} {a : Nat} (hR : bz_Rep N μ H) (hE : bz_E N s s.heap) (hS : va_S (bz_A N) s.heap H locs) (ht : (1 ≤ gT μ a ∧ gT μ a ≤ 10) ∨ gT μ a = 28) : ∃ cellB : Cell, H[bz_ad N a]? = some cellB ∧ cellB.vm.isStatics = false ∧ s.vm.findClass (bz_cn1 (gT μ a)) = some cellB.cls := by
  rcases ht with ht | ht
  · have ha := bz_rep_tag hR hE (a := a) (Or.inl ht)
    have he := bz_ws_get (N := N) ha
    rw [bz_ce_obj rfl ht.2] at he
    obtain ⟨Cn, F, hq, -, -, hcn, -, -⟩ := bz_cls ht.1 ht.2
    rw [← hcn]
    exact va_recv hE.1 hR.2 hq he
  · obtain ⟨ha, ha2, hnT⟩ := bz_out hR.1 hE ht (by omega)
    obtain ⟨g1, -, -⟩ := hE.2.2.2.2.2.2.2.2.1 a _ ha hnT
    obtain ⟨cell, h1, h2, h3, h4⟩ := g1
    have e2 : bz_ad N a = nX N a := by unfold bz_ad; rw [if_pos ha]
    rw [e2, ht]
    exact ⟨cell, by rw [hS.2.1 _ (Array.getElem?_eq_some_iff.mp h1).1 h4]; exact h1, h2, h3⟩
theorem bz_no15 {N : bz_N} {μ : bz_M} {H : Heap} {s : State} {a : Nat} (hR : bz_Rep N μ H) (hE : bz_E N s s.heap) (ht : (1 ≤ gT μ a ∧ gT μ a ≤ 10) ∨ gT μ a = 28) : a ≠ 15 := by
  rcases ht with ht | ht
  · have ha := bz_rep_tag hR hE (a := a) (Or.inl ht)
    omega
  · exact (bz_out hR.1 hE ht (by omega)).2.1
theorem bz_run_V {k k' : Nat} {N : bz_N} {i a idx : Nat} {As' rest : List bz_V} {μ : bz_M} {res' : bz_R} (hf : bz_fit k k') (hh : bz_hh0 k' = []) (ht : (1 ≤ gT μ a ∧ gT μ a ≤ 10) ∨ gT μ a = 28) (hcls : bz_cn1 (gT μ a) = (bz_y k').cls) (hl : Cond.methodLink (bz_ow k) idx (bz_y k') ∈ bz_W) (hi : Cond.instanceMethod (bz_y k') ∈ bz_W) (hs : Cond.selects (bz_y k').cls (bz_y k') (bz_y k') ∈ bz_W) (hini : Cond.initialized (bz_y k').cls ∈ bz_W)
    (hd : decode (bz_b k) (bz_pc k i) = .ok (.invokevirtual idx, 3)) (hn : As'.length = bz_pn k') (hsum : bz_sum rest ≤ 8) : bz_Run k N i (zR a :: As') rest μ k' res' := by
  intro p l e R s m args below meth c H locs ls vs wr cells slots mc ms C M PS hR hS hv hvr hls hcs
  have hts := C.1.2.2.2.2.2.2.2.2.1
  have hE := C.2.2.2.2
  obtain ⟨w, ws, rfl, hw, hws⟩ := bz_vs1 hv
  have e1 := bz_vr_in hw (bz_no15 hR hE ht)
  subst e1
  have e2 : (Value.ref (bz_ad N a) :: ws).reverse ++ wr = ws.reverse ++ Value.ref (bz_ad N a) :: wr := by simp
  rw [e2]
  have hrec := bz_recv hR hE hS ht
  rw [hcls] at hrec
  exact vx_runV (bz_callfix C) M ⟨bz_callB C hf hh hini hl, hts _ hi, hts _ hs⟩ ⟨PS.1, hrec, PS.2⟩ rfl ((bz_vs_len hws).trans hn) hls rfl (bz_wr8 hvr hsum) hd hcs
theorem bz_run_S {k k' : Nat} {N : bz_N} {i idx : Nat} {As rest : List bz_V} {μ : bz_M} {res' : bz_R} (hf : bz_fit k k') (hh : bz_hh0 k' = []) (hl : Cond.methodLink (bz_ow k) idx (bz_y k') ∈ bz_W) (hst : Cond.static (bz_y k') ∈ bz_W) (hini : Cond.initialized (bz_y k').cls ∈ bz_W)
    (hd : decode (bz_b k) (bz_pc k i) = .ok (.invokestatic idx, 3)) (hn : As.length = bz_pn k') (hsum : bz_sum rest ≤ 8) : bz_Run k N i As rest μ k' res' := by
  intro p l e R s m args below meth c H locs ls vs wr cells slots mc ms C M PS hR hS hv hvr hls hcs
  have hts := C.1.2.2.2.2.2.2.2.2.1
  exact vx_runS (bz_callfix C) M ⟨bz_callB C hf hh hini hl, hts _ hst⟩ PS rfl ((bz_vs_len hv).trans hn) hls rfl (bz_wr8 hvr hsum) hd hcs
theorem bz_run_W {k k' : Nat} {N : bz_N} {i idx : Nat} {As rest : List bz_V} {μ : bz_M} {res' : bz_R} {h0 : Nat × Nat × Nat × Nat} {hs0 : List (Nat × Nat × Nat × Nat)} (hf : bz_fit k k') (hh : bz_hh0 k' = h0 :: hs0) (hl : Cond.methodLink (bz_ow k) idx (bz_y k') ∈ bz_W) (hst : Cond.static (bz_y k') ∈ bz_W) (hini : Cond.initialized (bz_y k').cls ∈ bz_W)
    (hd : decode (bz_b k) (bz_pc k i) = .ok (.invokestatic idx, 3)) (hn : As.length = bz_pn k') (hsum : bz_sum rest ≤ 8) : bz_Run k N i As rest μ k' res' := by
  intro p l e R s m args below meth c H locs ls vs wr cells slots mc ms C M PS hR hS hv hvr hls hcs
  have hts := C.1.2.2.2.2.2.2.2.2.1
  have hF := C.2.1
  have hL := C.2.2.1
  obtain ⟨h1, h2, h3⟩ := hf
  have e1 : bz_hw k' = .codeWith (bz_y k') (bz_b k') (bz_ml k') (bz_rt k') (h0 :: hs0) := by unfold bz_hw; rw [hh]
  have cw : vx_CSW R s args (bz_ow k) idx (bz_y k') (bz_b k') (bz_ml k') (bz_rt k') (h0 :: hs0) (bz_wsk k') (bz_roo k' mc ms) mc ms (bz_pn k') := by
    refine ⟨⟨rfl, rfl, ?_, ?_, bz_wsk_ok h1 hts, ?_⟩, hts _ ?_, hts _ hini, bz_mh h1, bz_pnlen (Nat.lt_succ_of_lt h1), hts _ hl, hts _ hst⟩
    · show bz_fr k' + 1 ≤ R.frames
      omega
    · show 8 + (bz_ml k' + 11) + bz_lo0 k' ≤ R.locals
      omega
    · rw [← e1]; exact List.mem_cons_self
    · rw [← e1]; exact bz_hw_W h1
  exact vx_runSX (bz_callfix C) M cw PS rfl ((bz_vs_len hv).trans hn) hls rfl (bz_wr8 hvr hsum) hd hcs
/-- a callee that doesn't throw -/
theorem bz_noT {l : Launch} {y : MethodName} {ws : List Cond} {rm : Room} {Pc : Array Value → State → Prop} {k' : Nat} {N : bz_N} {res' : bz_R} {mc ms : Nat} {free : Addr → Prop} {v : bz_V} (hv : res'.1 = .inl v) (M : vx_Met l y ws rm Pc (bz_Qc k' N res') (bz_XC N res') mc ms free) : Met l y ws rm Pc (bz_Qc k' N res') mc ms free := by
  refine MetFree.mono M (fun _ _ h => h) (fun _ _ _ _ _ h => h) (fun a s o t _ h => ?_)
  rcases h with h | ⟨q, ho, E, ce, L, ⟨⟨c, hc, -⟩, -⟩, -⟩
  · exact h
  · rw [hv] at hc
    cases hc
theorem bz_runT {p : Program} {l : Launch} {e : Env} {R : Room} {s : State} {m : MethodId} {args : Array Value} {below : List Frame} {meth : Method} {c : Code} {H : Heap} {locs : List Loc} {cells slots mc ms : Nat} {g : JFrame} {rest : List Value} {Qa : State → Outcome → State → Prop} {XC : String → State → State → Prop} {free : Addr → Prop} (h : va_Run p l e R s m args below meth c H locs cells slots mc ms g rest Qa free) : vx_Run p l e R s m args below meth c H locs cells slots mc ms g rest Qa XC free := fun T hT X => Or.inl (h T hT X)
theorem bz_run_I {k k' : Nat} {N : bz_N} {i a idx : Nat} {As' rest : List bz_V} {μ : bz_M} {res' : bz_R} {v : bz_V} (hv' : res'.1 = .inl v) (hf : bz_fit k k') (hh : bz_hh0 k' = []) (hr : bz_rt k' = none) (hnm : (bz_y k').name = "<init>") (ha : a ≠ 15) (hl : Cond.methodLink (bz_ow k) idx (bz_y k') ∈ bz_W) (hi : Cond.instanceMethod (bz_y k') ∈ bz_W) (hini : Cond.initialized (bz_y k').cls ∈ bz_W)
    (hd : decode (bz_b k) (bz_pc k i) = .ok (.invokespecial idx, 3)) (hn : As'.length = bz_pn k') (hsum : bz_sum rest ≤ 8) : bz_Run k N i (zR a :: As') rest μ k' res' := by
  intro p l e R s m args below meth c H locs ls vs wr cells slots mc ms C M PS hR hS hv hvr hls hcs
  have hts := C.1.2.2.2.2.2.2.2.2.1
  obtain ⟨w, ws, rfl, hw, hws⟩ := bz_vs1 hv
  have e1 := bz_vr_in hw ha
  subst e1
  have e2 : (Value.ref (bz_ad N a) :: ws).reverse ++ wr = ws.reverse ++ Value.ref (bz_ad N a) :: wr := by simp
  rw [e2]
  have cb := bz_callB (mc := mc) (ms := ms) C hf hh hini hl
  rw [hr] at cb
  exact bz_runT (va_runI (bz_callfix C) (bz_noT hv' M) ⟨cb, hnm, hts _ hi⟩ PS rfl ((bz_vs_len hws).trans hn) hls rfl (bz_wr8 hvr hsum) hd hcs)
theorem bz_run_IN {k k' : Nat} {N : bz_N} {i a idx : Nat} {As' rest : List bz_V} {μ : bz_M} {res' : bz_R} {v : bz_V} (hv' : res'.1 = .inl v) (hf : bz_fit k k') (hh : bz_hh0 k' = []) (hr : bz_rt k' = none) (hnm : (bz_y k').name = "<init>") (ha : a ≠ 15) (hl : (bz_ocs.getD k 0, idx, k') ∈ bz_lkn) (hx : bz_x k' = bz_y k') (hi : Cond.instanceMethod (bz_y k') ∈ bz_W) (hini : Cond.initialized (bz_y k').cls ∈ bz_W)
    (hd : decode (bz_b k) (bz_pc k i) = .ok (.invokespecial idx, 3)) (hn : As'.length = bz_pn k') (hsum : bz_sum rest ≤ 8) : bz_Run k N i (zR a :: As') rest μ k' res' := by
  intro p l e R s m args below meth c H locs ls vs wr cells slots mc ms C M PS hR hS hv hvr hls hcs
  have hts := C.1.2.2.2.2.2.2.2.2.1
  have hF := C.2.1
  have hL := C.2.2.1
  obtain ⟨w, ws, rfl, hw, hws⟩ := bz_vs1 hv
  have e1 := bz_vr_in hw ha
  subst e1
  have e2 : (Value.ref (bz_ad N a) :: ws).reverse ++ wr = ws.reverse ++ Value.ref (bz_ad N a) :: wr := by simp
  rw [e2]
  obtain ⟨h1, h2, h3⟩ := hf
  have hE := C.2.2.2.2
  obtain ⟨-, -, -, -, -, -, -, -, -, -, -, h15, -⟩ := hE
  have hlk := h15 _ hl
  unfold bz_lknw at hlk
  dsimp only at hlk
  rw [hx] at hlk
  have cb : va_CN R s args (bz_ow k) idx (bz_y k') "BarcodeEngine" (bz_b k') (bz_ml k') (bz_rt k') (bz_wsk k') (bz_roo k' mc ms) mc ms (bz_pn k') := by
    refine ⟨⟨rfl, rfl, ?_, ?_, bz_wsk_ok h1 hts, ?_⟩, hts _ ?_, hts _ hini, bz_mh h1, bz_pnlen (Nat.lt_succ_of_lt h1), va_Nw.use rfl hlk⟩
    · show bz_fr k' + 1 ≤ R.frames
      omega
    · show 8 + (bz_ml k' + 11) + bz_lo0 k' ≤ R.locals
      omega
    · rw [← bz_hw0 hh]; exact List.mem_cons_self
    · rw [← bz_hw0 hh]; exact bz_hw_W h1
  rw [hr] at cb
  exact bz_runT (va_runIN (bz_callfix C) (bz_noT hv' M) ⟨cb, hnm, hts _ hi⟩ PS rfl ((bz_vs_len hws).trans hn) hls rfl (bz_wr8 hvr hsum) hd hcs)
/-- the declaration that a reference finds -/
def bz_dcl (x : MethodName) : Prop := (Cond.instanceMethod x ∈ bz_W ∧ ∃ b m r, Cond.code x b m r ∈ bz_W) ∨ ∃ e ∈ bz_decl, bz_x e = x
theorem bz_run_U {k k' : Nat} {N : bz_N} {i a idx : Nat} {As' rest : List bz_V} {μ : bz_M} {res' : bz_R} {v : bz_V} {x : MethodName} (hv' : res'.1 = .inl v) (hf : bz_fit k k') (hh : bz_hh0 k' = []) (ht : 1 ≤ gT μ a ∧ gT μ a ≤ 3) (hx : x.cls = "BarcodeEngine$Symbology" ∧ x.desc = (bz_y k').desc) (hl : Cond.methodLink (bz_ow k) idx x ∈ bz_W) (hsm : Cond.sameMethod x.cls x.cls x.name x.desc ∈ bz_W) (hdc : bz_dcl x) (hi : Cond.instanceMethod (bz_y k') ∈ bz_W) (hs : Cond.selects (bz_cn1 (gT μ a)) x (bz_y k') ∈ bz_W) (hini : Cond.initialized (bz_y k').cls ∈ bz_W)
    (hd : decode (bz_b k) (bz_pc k i) = .ok (.invokevirtual idx, 3)) (hn : As'.length = bz_pn k') (hsum : bz_sum rest ≤ 8) : bz_Run k N i (zR a :: As') rest μ k' res' := by
  intro p l e R s m args below meth c H locs ls vs wr cells slots mc ms C M PS hR hS hv hvr hls hcs
  have hts := C.1.2.2.2.2.2.2.2.2.1
  have hE := C.2.2.2.2
  have hF := C.2.1
  have hL := C.2.2.1
  have ht' : (1 ≤ gT μ a ∧ gT μ a ≤ 10) ∨ gT μ a = 28 := Or.inl ⟨ht.1, by omega⟩
  obtain ⟨w, ws, rfl, hw, hws⟩ := bz_vs1 hv
  have e1 := bz_vr_in hw (bz_no15 hR hE ht')
  subst e1
  have e2 : (Value.ref (bz_ad N a) :: ws).reverse ++ wr = ws.reverse ++ Value.ref (bz_ad N a) :: wr := by simp
  rw [e2]
  have hrec := bz_recv hR hE hS ht'
  obtain ⟨h1, h2, h3⟩ := hf
  have hde : va_Decl s x := by
    rcases hdc with ⟨q1, b9, m9, r9, q2⟩ | ⟨e9, q1, rfl⟩
    · exact va_Decl.of (hts _ q1) (hts _ q2)
    · obtain ⟨-, -, -, -, -, -, -, -, -, -, -, -, h16, -⟩ := hE
      exact va_Decl.abs (h16 e9 q1)
  have cw : va_CU R s args (bz_ow k) (bz_cn1 (gT μ a)) x.cls idx x (bz_y k') (bz_b k') (bz_ml k') (bz_rt k') (bz_wsk k') (bz_roo k' mc ms) mc ms (bz_pn k') := by
    refine ⟨⟨rfl, rfl, ?_, ?_, bz_wsk_ok h1 hts, ?_⟩, hts _ ?_, hts _ hini, by rw [hx.1]; decide, by rw [hx.2]; exact bz_pnlen (Nat.lt_succ_of_lt h1), hts _ hl, hts _ hsm, hde, hts _ hs, hts _ hi⟩
    · show bz_fr k' + 1 ≤ R.frames
      omega
    · show 8 + (bz_ml k' + 11) + bz_lo0 k' ≤ R.locals
      omega
    · rw [← bz_hw0 hh]; exact List.mem_cons_self
    · rw [← bz_hw0 hh]; exact bz_hw_W h1
  exact bz_runT (va_runU (bz_callfix C) (bz_noT hv' M) cw ⟨PS.1, hrec, PS.2⟩ rfl ((bz_vs_len hws).trans hn) hls rfl (bz_wr8 hvr hsum) hd hcs)
