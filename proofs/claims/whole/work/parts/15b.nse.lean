/-! NOSUCHELEMENTEXCEPTION: its constructor names RuntimeException's by entry 13 -/
def bz_X4 : String := "java/util/NoSuchElementException"
def bz_n4a : List Cond := Bundle.passSAtoms bz_X4 "java/lang/RuntimeException" 13 prog_29_method_4_code
def bz_n4b : List Cond := [.methodLink "BarcodeEngine" 273 (Bundle.initS bz_X4), .instantiable bz_X4 6, .selects bz_X4 Bundle.tFill0 Bundle.tFill0, .selects bz_X4 Bundle.tFill Bundle.tFill, .lays bz_X4 Bundle.tN "cause" "Ljava/lang/Throwable;", .lays bz_X4 Bundle.tN "stackTrace" Bundle.steD, .lays bz_X4 Bundle.tN "suppressedExceptions" Bundle.listD, .lays bz_X4 Bundle.tN "detailMessage" "Ljava/lang/String;", .lays bz_X4 Bundle.tN "backtrace" "Ljava/lang/Object;"]
theorem bz_n4_good : ∀ w ∈ (bz_n4a ++ bz_n4b).filter goodWord, w ∈ lw_tbl := by decide +kernel
theorem bz_n4_ng : ∀ w ∈ (bz_n4a ++ bz_n4b).filter (fun w => !goodWord w), w ∈ bz_tng "java/util/NoSuchElementException" := by decide +kernel
theorem bz_n4_ot : ∀ w ∈ Cond.classLink "BarcodeEngine" 269 bz_X4 :: Cond.initialized bz_X4 :: (bz_n4a ++ bz_n4b), vx_ot w = true := by decide +kernel
theorem bz_n4_d : decode prog_29_method_4_code 0 = .ok (.aload_n 0, 1) ∧ decode prog_29_method_4_code 1 = .ok (.aload_n 1, 1) ∧ decode prog_29_method_4_code 2 = .ok (.invokespecial 13, 3) ∧ decode prog_29_method_4_code 5 = .ok (.return_, 1) := ⟨by decide +kernel, by decide +kernel, by decide +kernel, by decide +kernel⟩
set_option maxHeartbeats 2000000 in
/-- the constructor and the throw, from the stack message, cell, cell -/
theorem bz_ctor4 {p : Program} {l : Launch} {e : Env} {R : Room} {s : State} {m0 : MethodId} {args : Array Value} {below : List Frame} {meth : Method} {c : Code} {W9 : State} {locs : List Loc} {cells slots : Nat}
    (X : Stand p l e R s m0 args below meth c W9 locs cells slots) (hexec : p.tables.exec = Jvm.exec) (htr : e.platform.stackTraces = false) (hown : s.vm.findClass "BarcodeEngine" = some m0.cls)
    (h1 : ∀ w ∈ Bundle.ownAtoms "BarcodeEngine" 77 "java/lang/IllegalStateException" ["java/lang/RuntimeException", "java/lang/Exception"], w.before args s = true) (h2 : ∀ w ∈ bz_n4a ++ bz_n4b, w.before args s = true)
    (hlocs : ∀ z ∈ locs, ∀ cell, s.heap[z.base]? = some cell → cell.vm.isStatics = false) {a : Addr} {cX : ClassId} {kX : Class} (hfX : s.vm.findClass bz_X4 = some cX) (hkX : s.vm.classes[cX]? = some kX) (hcell : W9.heap[a]? = some (freshCell cX kX)) (hnew : s.heap.size ≤ a)
    {msg : Value} (hmsg : msg.isRef = true) {g : JFrame} (hg : g.method = m0) (hsize : g.locals.size = c.maxLocals) (hlocked : g.locked = none) (hentered : g.entered = []) {rest : List Value} (hstack : g.stack = msg :: .ref a :: .ref a :: rest)
    (hd6 : decode c.code g.pc = .ok (.invokespecial 273, 3)) (hd9 : decode c.code (g.pc + 3) = .ok (.athrow, 1)) (hout : ∀ z ∈ c.exceptionTable.toList, covers z (g.pc + 3) = false)
    (hfr : 5 < R.frames) (hlo : 2 * g.monitorRoom + ((Value.ref a :: rest).map fun v => v.category).sum + 81 ≤ R.locals) (hlocks : meth.locks = false) :
    ∃ U : State, Steps p.tables e below (W9.setTop g) U ∧ U.status = .running ∧ Ended U below (.threw a) ∧ s.WarmedH U.vm ∧ s.sameButNew ({ U with vm := s.vm } : State) locs cells slots ∧ ∃ ce, U.heap[a]? = some ce ∧ ce.cls = cX ∧ ce.vm = .none := by
  have hpl : e.platform.magicAccessors = ({} : Platform).magicAccessors := by rw [X.admits.platform]
  have u : ∀ w, w ∈ Bundle.ownAtoms "BarcodeEngine" 77 "java/lang/IllegalStateException" ["java/lang/RuntimeException", "java/lang/Exception"] → w.holds args s none s [] = true := fun w hw => h1 w hw
  have v : ∀ w, w ∈ bz_n4a ++ bz_n4b → w.holds args s none s [] = true := fun w hw => h2 w hw
  have fR : Bundle.fit "java/lang/RuntimeException" = true := by decide +kernel
  have fE : ∀ n ∈ ["java/lang/Exception"], Bundle.fit n = true := by decide +kernel
  obtain ⟨T, Z0, L, -, Y⟩ := ThrowableC.of_atoms (args := args) (s := s) (by rw [X.admits.platform]) (by rw [X.admits.platform]) hpl (fun w hw => h1 w (by simp [Bundle.ownAtoms, hw]))
  obtain ⟨Z, M, LZ, LM, hZ⟩ := Init0T.ofS_atoms (args := args) hpl L Y (fun w hw => h1 w (by simp [Bundle.ownAtoms, hw]))
  obtain ⟨P2, Ps, hlen, L2, hLs, hP2, hup, hpass⟩ := Bundle.chainS (args := args) hpl hZ ["java/lang/Exception"] "java/lang/RuntimeException" fR fE (fun w hw => h1 w (by simp only [Bundle.ownAtoms, Bundle.chainSAtoms, List.mem_append] at hw ⊢; exact Or.inl (Or.inr (Or.inr hw))))
  obtain ⟨P1, L1, hP1, hP1s⟩ := PassC.ofS_atoms (args := args) (s := s) hpl (X := bz_X4) (Y := "java/lang/RuntimeException") (index := 13) (bytes := prog_29_method_4_code) (by decide +kernel) (Bundle.fit_spec fR).2 bz_n4_d.1 bz_n4_d.2.1 bz_n4_d.2.2.1 bz_n4_d.2.2.2 (fun w hw => h2 w (List.mem_append_left _ hw))
  have hl1 : P1.sup = P2.m := Option.some.inj (hP1s.symm.trans hP2)
  have hf : s.vm.findClass bz_X4 = some P1.m.cls := findClass_of_methodNamed hP1
  cases Option.some.inj (hfX.symm.trans hf)
  obtain ⟨c1, k1, q1, hk, hord, -, -, -⟩ := Cond.instantiable_spec (v (.instantiable bz_X4 6) (by simp [bz_n4b]))
  cases Option.some.inj (q1.symm.trans hf)
  cases Option.some.inj (hkX.symm.trans hk)
  have sel : ∀ (y : MethodName) (t : MethodId), s.methodFound? y.cls y.name y.desc = some t → s.methodNamed? y = some t → (Cond.selects bz_X4 y y).holds args s none s [] = true → selectMethod e.platform s.vm P1.m.cls t = .method t := by
    intro y t g1 g2 g3
    obtain ⟨c2, r2, m2, w1, w2, w3, w4, -⟩ := Cond.selects_spec g3
    cases Option.some.inj (w1.symm.trans hf)
    cases Option.some.inj (w2.symm.trans g1)
    cases Option.some.inj (w3.symm.trans g2)
    rw [Launch.admits_selectMethod X.admits]
    exact w4
  have sel0 := sel Bundle.tFill0 T.fill0 (State.methodFound?_of_named Y.fill0 (by decide)) Y.fill0 (v _ (by simp [bz_n4b]))
  have selF := sel Bundle.tFill T.fill (State.methodFound?_of_named Y.fill (by decide)) Y.fill (v _ (by simp [bz_n4b]))
  obtain ⟨cs0, hcs0, his⟩ := Y.statics
  obtain ⟨u0, hu0⟩ := Cond.staticRefV Y.unassigned L.unassignedStatic L.statics hcs0 his (u (.isRef (.static Bundle.tN "UNASSIGNED_STACK" Bundle.steD)) (by simp [Bundle.ownAtoms]))
  obtain ⟨sen, hsen⟩ := Cond.staticRefV Y.sentinel L.sentinelStatic L.statics hcs0 his (u (.isRef (.static Bundle.tN "SUPPRESSED_SENTINEL" Bundle.listD)) (by simp [Bundle.ownAtoms]))
  obtain ⟨ci, i9, fB, b1, b2, b3, b4, -, b5, b6, b7⟩ := Cond.ownField (t := .object "java/lang/Object") Y.found L.cls (by decide +kernel) (u (.fieldLink Bundle.tN 198 Bundle.tN "backtrace" "Ljava/lang/Object;") (by simp [Bundle.ownAtoms])) (u (.lays Bundle.tN Bundle.tN "backtrace" "Ljava/lang/Object;") (by simp [Bundle.ownAtoms])) e.platform hpl
  obtain ⟨cs, hcs, hse, -, hkeep⟩ := X.same.2.2.2.2.2 T.aS cs0 hcs0
  have hcs : W9.heap[T.aS]? = some cs := hcs
  have hno : ∀ i, (⟨T.aS, i⟩ : Loc) ∉ locs := fun i hm => by
    have := hlocs _ hm cs0 hcs0
    rw [his] at this
    cases this
  have hkn : cs.vm ≠ .unknown := by
    rw [hse]
    intro h
    rw [h] at his
    cases his
  have hne : T.aS ≠ a := fun h => absurd (Array.getElem?_eq_some_iff.mp hcs0).1 (by rw [h]; exact Nat.not_lt.mpr hnew)
  obtain ⟨iM, hfM⟩ := Y.msg
  obtain ⟨tC, dC, eC, nC⟩ := Cond.laysAt hf hk Y.cause (v (.lays bz_X4 Bundle.tN "cause" "Ljava/lang/Throwable;") (by simp [bz_n4b]))
  obtain ⟨tS, dS, eS, nS⟩ := Cond.laysAt hf hk Y.stack (v (.lays bz_X4 Bundle.tN "stackTrace" Bundle.steD) (by simp [bz_n4b]))
  obtain ⟨tP, dP, eP, nP⟩ := Cond.laysAt hf hk Y.supp (v (.lays bz_X4 Bundle.tN "suppressedExceptions" Bundle.listD) (by simp [bz_n4b]))
  obtain ⟨tM, dM, eM, nM⟩ := Cond.laysAt hf hk hfM (v (.lays bz_X4 Bundle.tN "detailMessage" "Ljava/lang/String;") (by simp [bz_n4b]))
  obtain ⟨tB, dB, eB, nB9⟩ := Cond.laysAt hf hk b7 (v (.lays bz_X4 Bundle.tN "backtrace" "Ljava/lang/Object;") (by simp [bz_n4b]))
  have kC := Cond.laysApart eB eC nB9 nC (by rw [b5, Y.causeName]; decide)
  have kS := Cond.laysApart eB eS nB9 nS (by rw [b5, Y.stackName]; decide)
  have kP := Cond.laysApart eB eP nB9 nP (by rw [b5, Y.suppName]; decide)
  have skip : SkipFacts T e.platform s (fun u => u) u0 ((preparedCellV T.toThrowableT (freshCell P1.m.cls kX) a u0 sen).withEntry W9.cur) := by
    refine ⟨{ ci198 := ci, i198 := i9, fBack := fB }, ⟨b1, b2, b3, b4⟩, ?_, fun _ _ => rfl⟩
    have := fresh_default (c := P1.m.cls) tB
    rw [b6] at this
    simpa [preparedCellV, Cell.setSlot, Cell.withEntry, Array.getElem?_setIfInBounds, kC, kS, kP, kC.symm, kS.symm, kP.symm, defaultValue] using this
  obtain ⟨tm, methC, cdC, kC9, vm₁, hnC, -, -, -, -, -, -, -, hW₁, st1⟩ := Steps.initColdS (tb := p.tables) (e := e) (below := below) (s := s) (U := W9) X.here hexec X.warmed hpl hown (t := Bundle.initS bz_X4) rfl rfl ⟨by decide, by decide⟩
    (v (.methodLink "BarcodeEngine" 273 (Bundle.initS bz_X4)) (by simp [bz_n4b])) (h2 (.instanceMethod (Bundle.initS bz_X4)) (by simp [bz_n4a, Bundle.passSAtoms])) (bytes := prog_29_method_4_code) (maxL := 2) (h2 (.code (Bundle.initS bz_X4) prog_29_method_4_code 2 none) (by simp [bz_n4a, Bundle.passSAtoms]))
    (f := g) hg (a := a) (msg := msg) (rest := .ref a :: rest) hstack hd6
  cases Option.some.inj (hnC.symm.trans hP1)
  obtain ⟨vm₂, X₂, st2⟩ := (X.noted hW₁).ctorMessageOffV hexec (g := { g with stack := .ref a :: rest }) hg hsize T L Z LZ M LM (P1 :: P2 :: Ps)
    (fun P hP => by
      rcases List.mem_cons.mp hP with rfl | hP
      · exact L1
      · rcases List.mem_cons.mp hP with rfl | hP
        · exact L2
        · exact hLs P hP) ⟨hl1, hup, hpass⟩ (u0 := u0) (sen := sen) (self := a) hmsg (cell := freshCell P1.m.cls kX) (cellS := cs)
    hcell (fun _ => by simp) (by simp) rfl rfl sel0 selF hcs hne hkn (by rw [hkeep _ (hno _)]; exact hu0) (by rw [hkeep _ (hno _)]; exact hsen)
    (Takes.of_laid hk hord tC (by rw [Y.causeType]; rfl)) (Takes.of_laid hk hord tS (by rw [Y.stackType]; exact fits_refV_array _ u0)) (Takes.of_laid hk hord tP (by rw [Y.suppType]; exact fits_refV_object _ sen))
    (Takes.of_laid hk hord tM (by rw [Y.msgType]; exact fits_refV_object _ ⟨msg, hmsg⟩)) Y.objLocals skip htr [] hd6
    (by simp only [List.length_cons, List.length_nil, hlen]; omega) (by simp only [List.length_cons, List.length_nil, hlen]; exact hlo)
  obtain ⟨w1, w2, w3, w4, w5⟩ := X₂.athrowLeaves hexec (g := { g with stack := .ref a :: rest, pc := g.pc + 3 }) hg hlocked hentered hout (a := a) (rest := rest) rfl hd9
  have hlt : a < ((W9.setVm vm₁).setVm vm₂).heap.size := (Array.getElem?_eq_some_iff.mp hcell).1
  refine ⟨_, st1 _ (fun acts => ?_), w2, w3, w4, w5.weaken (fun y hy hlt' => ?_) (Nat.le_refl _) (Nat.le_refl _), _, heapAt_setCell_self (s := (W9.setVm vm₁).setVm vm₂) (plainBareV T.toThrowableT (freshCell P1.m.cls kX) a u0 sen msg) hlt, rfl, rfl⟩
  · rw [doInvoke_state]
    exact st2 _ w1
  · rcases List.mem_append.mp hy with q | q
    · exact q
    · have hb : y.base = a := by
        simp only [List.mem_cons, List.not_mem_nil, or_false] at q
        rcases q with rfl | rfl | rfl | rfl | rfl <;> rfl
      rw [hb] at hlt'
      exact absurd hlt' (Nat.not_lt.mpr hnew)
theorem bz_i_throw4 {k : Nat} {N : bz_N} {i : Nat} {L : List (Option bz_V)} {st : List bz_V} {μ : bz_M} {is : Nat} {tx : String} (hk : bz_ow k = "BarcodeEngine") (hh : bz_hh0 k = []) (hstr : ("BarcodeEngine", is, tx) ∈ bz_strs) (hfr : 6 ≤ bz_fr k) (hlo : 90 ≤ bz_lo0 k) (hsum : bz_sum st ≤ 8)
    (d0 : decode (bz_b k) (bz_pc k i) = .ok (.new 269, 3)) (d3 : decode (bz_b k) (bz_pc k i + 3) = .ok (.dup, 1)) (d4 : decode (bz_b k) (bz_pc k i + 4) = .ok (.ldc_w is, 3)) (d7 : decode (bz_b k) (bz_pc k i + 7) = .ok (.invokespecial 273, 3)) (d10 : decode (bz_b k) (bz_pc k i + 10) = .ok (.athrow, 1)) : bz_H k N i L st μ (.inr 4, sX μ) := by
  refine ⟨⟨by show C1 μ ≤ C1 μ + 1; omega, by show C2 μ ≤ C2 μ + 6; omega⟩, ?_⟩
  intro p l e R s m args below meth c' H locs ls sv c0 s0 mc ms C a1 a2 a3 a4 a5 a6 hz hS hR hL hv
  have a3 : C1 μ + 1 ≤ c0 + mc := a3
  have a4 : C2 μ + 6 ≤ s0 + ms := a4
  have hts := C.1.2.2.2.2.2.2.2.2.1
  have hE := C.2.2.2.2
  have own := C.1.2.2.2.2.2.1
  rw [hk] at own
  have htb := C.1.2.2.2.2.2.2.2.2.2
  rw [hh] at htb
  obtain ⟨-, -, -, q4, q5, q6⟩ := bz_xall (c := 1) (Or.inl rfl)
  obtain ⟨sa, hsa⟩ := hE.2.1 _ hstr
  have hF := C.2.1
  have hL0 := C.2.2.1
  have hsv := bz_vs_sum hv
  have hout : ∀ (pc : Nat), ∀ x ∈ c'.exceptionTable.toList, covers x pc = false := fun pc x hx => by rw [htb] at hx; cases hx
  have w1 := bz_hatX (args := args) (c := 1) (by decide) hE hts q4 q5
  have w2 : ∀ w ∈ bz_n4a ++ bz_n4b, w.before args s = true := bz_hatX (args := args) (c := 4) (by decide) hE hts (fun w hw => List.mem_append_right _ (bz_n4_good w hw)) bz_n4_ng
  have hxe := bz_xend (c := 4) (by decide) hR hS
  intro T hT X
  have htr : e.platform.stackTraces = false := (show e.platform.stackTraces = l.stackTraces by rw [X.admits.platform]).trans C.1.2.1
  have Y := vx_rebase X (R' := { frames := R.frames, locals := R.locals, cells := 1, slots := 6 }) (Nat.le_refl _) (Nat.le_refl _) (by show C1 μ - c0 + 1 ≤ R.cells; omega) (by show C2 μ - s0 + 6 ≤ R.slots; omega)
  obtain ⟨s', hA⟩ : ∃ z, z = (T.setVm s.vm).setFrames (.invoking m args :: below) := ⟨_, rfl⟩
  rw [← hA] at Y
  have hvm : s'.vm = s.vm := by rw [hA]; rfl
  have hhp : s'.heap = H := by rw [hA]; exact hT
  have hW0 : s.WarmedH s'.vm := by rw [hvm]; exact State.WarmedH.refl s
  have hat' : ∀ w ∈ vx_atS "BarcodeEngine" (bz_ic 1) (bz_exn 1) bz_tn, w.before args s' = true := fun w hw => vx_ot_at hW0 hvm.symm (q6 w (List.mem_cons_of_mem _ (List.mem_cons_of_mem _ hw))) (w1 w hw)
  have n2 : ∀ w ∈ bz_n4a ++ bz_n4b, w.before args s' = true := fun w hw => vx_ot_at hW0 hvm.symm (bz_n4_ot w (List.mem_cons_of_mem _ (List.mem_cons_of_mem _ hw))) (w2 w hw)
  have hk' : (Cond.classLink "BarcodeEngine" 269 bz_X4).before args s' = true := vx_ot_at hW0 hvm.symm (bz_n4_ot _ List.mem_cons_self) (hts _ bz_xk_4)
  have hini' : (Cond.initialized bz_X4).before args s' = true := vx_ot_at hW0 hvm.symm (bz_n4_ot _ (List.mem_cons_of_mem _ List.mem_cons_self)) (hts _ bz_xi_4)
  have hU' : vx_Zq Bundle.tN "UNASSIGNED_STACK" Bundle.steD (bz_A N) s' s'.heap := by rw [hhp]; exact vx_Zq.moved hW0.alike (hE.2.2.2.1.1.kept hS.2.1)
  have hN' : vx_Zq Bundle.tN "SUPPRESSED_SENTINEL" Bundle.listD (bz_A N) s' s'.heap := by rw [hhp]; exact vx_Zq.moved hW0.alike (hE.2.2.2.1.2.kept hS.2.1)
  have n1 : ∀ w ∈ Bundle.ownAtoms "BarcodeEngine" 77 "java/lang/IllegalStateException" ["java/lang/RuntimeException", "java/lang/Exception"], w.before args s' = true := vx_own hat' (vx_isRefq hU'.1) (vx_isRefq hN'.1) hU'.2.word hN'.2.word
  have hown' : s'.vm.findClass "BarcodeEngine" = some m.cls := by rw [hvm]; exact own
  have hins : (Cond.instantiable bz_X4 6).before args s' = true := n2 _ (by simp [bz_n4b])
  obtain ⟨vm₁, cX, kX, hfX, hkX, -, -, X₁, st1⟩ := Y.newCold C.1.1 (own := "BarcodeEngine") (C := bz_X4) (index := 269) (n := 6) hown' hk' hins hini' (g := F0 m (bz_pc k i) ls sv) rfl (by rw [C.1.2.2.1]; exact d0) (Nat.le_refl _) (Nat.le_refl _)
  generalize hT1 : (T.setVm vm₁).pushCell { cls := cX, slots := kX.instanceTypes.map defaultValue, vm := .none } = T1 at X₁ st1
  have hcat : (Value.ref T.heap.size).category = 1 := rfl
  have hcellA : T1.heap[T.heap.size]? = some (freshCell cX kX) := by rw [← hT1]; exact State.heap_pushCell_size _ _
  have d3' : decode c'.code (bz_pc k i + 3) = .ok (.dup, 1) := by rw [C.1.2.2.1]; exact d3
  have d4' : decode c'.code (bz_pc k i + 4) = .ok (.ldc_w is, 3) := by rw [C.1.2.2.1]; exact d4
  have hstr' : vk_R "BarcodeEngine" is tx sa s' := vk_R.warm hW0 hsa
  obtain ⟨U, hsteps, hrun, hend, hW, hsame, ce, hce, hcc, hcv⟩ := bz_ctor4 X₁ C.1.1 htr hown' n1 n2 (fun x hx => nomatch hx) hfX hkX hcellA (by rw [hhp, hT]; exact Nat.le_refl _) (msg := .ref sa) rfl
    (g := { method := m, pc := bz_pc k i + 7, locals := ls, stack := .ref sa :: .ref T.heap.size :: .ref T.heap.size :: sv, locked := none }) rfl (by show ls.size = c'.maxLocals; rw [C.1.2.2.2.1]; exact hL.1) rfl rfl (rest := sv) rfl
    (by rw [C.1.2.2.1]; exact d7) (by rw [C.1.2.2.1]; exact d10) (hout _) (by show 5 < R.frames; omega) (by simp only [List.map_cons, List.sum_cons, hcat, hsv]; show 2 * 0 + (1 + bz_sum st) + 81 ≤ R.locals; omega) C.1.2.2.2.2.1
  obtain ⟨f1, f2⟩ := vx_frame hsame
  rw [hhp] at f1 f2
  have hWs : s.WarmedH U.vm := State.WarmedH.trans hW0 hW
  have hcl : s.vm.findClass bz_X4 = some ce.cls := by
    rw [hcc, ← hvm]
    exact hfX
  have hall : s.sameButNew ({ U with vm := s.vm } : State) locs mc ms := by
    subst hA
    obtain ⟨e1, e2⟩ := hsame
    rw [State.setFrames_setFrames] at e1
    have h2 : (T.setVm s.vm).sameButNew ({ U with vm := s.vm } : State) [] (0 + 1) (0 + 6) := ⟨e1, e2⟩
    have h3 := X.same.trans h2
    rw [List.append_nil] at h3
    exact h3.mono (by omega) (by omega)
  refine ⟨U, ?_, .threw T.heap.size, hrun, hend, Or.inr ⟨T.heap.size, rfl, bz_X4, ce, locs, hxe U hWs.alike f1 (fun q hq => f2 q hq (fun z hz => nomatch hz)), hce, hcv, hcl, hWs, hall, hS.2.2⟩⟩
  refine st1 _ ?_
  show Steps p.tables e below (T1.setTop { method := m, pc := bz_pc k i + 3, locals := ls, stack := .ref T.heap.size :: sv, locked := none }) _
  jvm_step X₁.here [X₁.here.top, C.1.1, d3', Value.category]
  exact X₁.ldcStringW C.1.1 (own := "BarcodeEngine") (text := tx) (index := is) (a := sa) hown' hstr'.1 hstr'.2
    (g := { method := m, pc := bz_pc k i + 4, locals := ls, stack := .ref T.heap.size :: .ref T.heap.size :: sv, locked := none }) rfl d4' _ hsteps
