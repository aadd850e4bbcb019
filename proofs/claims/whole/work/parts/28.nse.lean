/-! NOSUCHELEMENTEXCEPTION: its constructor names RuntimeException's by entry 13 -/
def bz_X4 : String := "java/util/NoSuchElementException"
def bz_n4a : List Cond := Bundle.passSAtoms bz_X4 "java/lang/RuntimeException" 13 prog_29_method_4_code
def bz_n4b : List Cond := [.methodLink "BarcodeEngine" 273 (Bundle.initS bz_X4), .instantiable bz_X4 6, .selects bz_X4 Bundle.tFill0 Bundle.tFill0, .selects bz_X4 Bundle.tFill Bundle.tFill, .lays bz_X4 Bundle.tN "cause" "Ljava/lang/Throwable;", .lays bz_X4 Bundle.tN "stackTrace" Bundle.steD, .lays bz_X4 Bundle.tN "suppressedExceptions" Bundle.listD, .lays bz_X4 Bundle.tN "detailMessage" "Ljava/lang/String;", .lays bz_X4 Bundle.tN "backtrace" "Ljava/lang/Object;"]
theorem bz_n4_good : ∀ w ∈ (bz_n4a ++ bz_n4b).filter goodWord, w ∈ lw_tbl := by decide +kernel
theorem bz_n4_ng : ∀ w ∈ (bz_n4a ++ bz_n4b).filter (fun w => !goodWord w), w ∈ bz_tng "java/util/NoSuchElementException" := by decide +kernel
theorem bz_n4_ot : ∀ w ∈ Cond.classLink "BarcodeEngine" 269 bz_X4 :: Cond.initialized bz_X4 :: (bz_n4a ++ bz_n4b), vx_ot w = true := by decide +kernel
theorem bz_n4_d : decode prog_29_method_4_code 0 = .ok (.aload_n 0, 1) ∧ decode prog_29_method_4_code 1 = .ok (.aload_n 1, 1) ∧ decode prog_29_method_4_code 2 = .ok (.invokespecial 13, 3) ∧ decode prog_29_method_4_code 5 = .ok (.return_, 1) := ⟨by decide +kernel, by decide +kernel, by decide +kernel, by decide +kernel⟩
set_option maxHeartbeats 2000000 in
/-- the constructor and the throw, from the stack message, cell, cell -/
theorem bz_ctor4 {p : Program} {l : Launch} {e : Env} {R : Room} {s : State} {m0 : MethodId} {args : Array Value} {below : List Frame} {meth : Method} {c : Code} {W9 : State} {locs : List Loc} {cells slots : Nat}
    (X : Stand p l e R s m0 args below meth c W9 locs cells slots) (hexec : p.tables.exec = Jvm.exec) (htr : e.platform.stackTraces = false) (hown : s.vm.findClass "BarcodeEngine" = some m0.cls)
    (h1 : ∀ w ∈ Bundle.ownAtoms "BarcodeEngine" 77 "java/lang/IllegalStateException" ["java/lang/RuntimeException", "java/lang/Exception"], w.before args s = true) (h2 : ∀ w ∈ bz_n4a ++ bz_n4b, w.before args s = true)
    (hlocs : ∀ z ∈ locs, ∀ cell, s.heap[z.base]? = some cell → cell.vm.isStatics = false) {a : Addr} {cX : ClassId} {kX : Class} (hfX : s.vm.findClass bz_X4 = some cX) (hkX : s.vm.classes[cX]? = some kX) (hcell : W9.heap[a]? = some (freshCell cX kX)) (hnew : s.heap.size ≤ a)
    {msg : Value} (hmsg : msg.isRef = true) {g : JFrame} (hg : g.method = m0) (hsize : g.locals.size = c.maxLocals) (hlocked : g.locked = none) (hentered : g.entered = []) {rest : List Value} (hstack : g.stack = msg :: .ref a :: .ref a :: rest)
    (hd6 : decode c.code g.pc = .ok (.invokespecial 273, 3)) (hd9 : decode c.code (g.pc + 3) = .ok (.athrow, 1)) (hout : ∀ z ∈ c.exceptionTable.toList, covers z (g.pc + 3) = false)
    (hfr : 5 < R.frames) (hlo : 2 * g.monitorRoom + ((Value.ref a :: rest).map fun v => v.category).sum + 81 ≤ R.locals) (hlocks : meth.locks = false) :
    ∃ U : State, Steps p.tables e below (W9.setTop g) U ∧ U.status = .running ∧ Ended U below (.threw a) ∧ s.WarmedH U.vm ∧ s.sameButNew ({ U with vm := s.vm } : State) locs cells slots ∧ ∃ ce, U.heap[a]? = some ce ∧ ce.cls = cX ∧ ce.vm = .none := by
  have hpl : e.platform.magicAccessors = ({} : Platform).magicAccessors := by rw [X.admits.platform]
  have u : ∀ w, w ∈ Bundle.ownAtoms "BarcodeEngine" 77 "java/lang/IllegalStateException" ["java/lang/RuntimeException", "java/lang/Exception"] → w.holds args s none s [] = true := fun w hw => h1 w hw
  have v : ∀ w, w ∈ bz_n4a ++ bz_n4b → w.holds args s none s [] = true := fun w hw => h2 w hw
  have fR : Bundle.fit "java/lang/RuntimeException" = true := by decide +kernel
  have fE : ∀ n ∈ ["java/lang/Exception"], Bundle.fit n = true := by decide +kernel
  obtain ⟨T, Z0, L, -, Y⟩ := ThrowableC.of_atoms (args := args) (s := s) (by rw [X.admits.platform]) (by rw [X.admits.platform]) hpl (fun w hw => h1 w (by simp [Bundle.ownAtoms, hw]))
  obtain ⟨Z, M, LZ, LM, hZ⟩ := Init0T.ofS_atoms (args := args) hpl L Y (fun w hw => h1 w (by simp [Bundle.ownAtoms, hw]))
  obtain ⟨P2, Ps, hlen, L2, hLs, hP2, hup, hpass⟩ := Bundle.chainS (args := args) hpl hZ ["java/lang/Exception"] "java/lang/RuntimeException" fR fE (fun w hw => h1 w (by simp only [Bundle.ownAtoms, Bundle.chainSAtoms, List.mem_append] at hw ⊢; exact Or.inl (Or.inr (Or.inr hw))))
  obtain ⟨P1, L1, hP1, hP1s⟩ := PassC.ofS_atoms (args := args) (s := s) hpl (X := bz_X4) (Y := "java/lang/RuntimeException") (index := 13) (bytes := prog_29_method_4_code) (by decide +kernel) (Bundle.fit_spec fR).2 bz_n4_d.1 bz_n4_d.2.1 bz_n4_d.2.2.1 bz_n4_d.2.2.2 (fun w hw => h2 w (List.mem_append_left _ hw))
  have hl1 : P1.sup = P2.m := Option.some.inj (hP1s.symm.trans hP2)
  have hf : s.vm.findClass bz_X4 = some P1.m.cls := findClass_of_methodNamed hP1
  cases Option.some.inj (hfX.symm.trans hf)
  obtain ⟨c1, k1, q1, hk, hord, -, -, -⟩ := Cond.instantiable_spec (v (.instantiable bz_X4 6) (by simp [bz_n4b]))
  cases Option.some.inj (q1.symm.trans hf)
  cases Option.some.inj (hkX.symm.trans hk)
  have sel : ∀ (y : MethodName) (t : MethodId), s.methodFound? y.cls y.name y.desc = some t → s.methodNamed? y = some t → (Cond.selects bz_X4 y y).holds args s none s [] = true → selectMethod e.platform s.vm P1.m.cls t = .method t := by
    intro y t g1 g2 g3
    obtain ⟨c2, r2, m2, w1, w2, w3, w4, -⟩ := Cond.selects_spec g3
    cases Option.some.inj (w1.symm.trans hf)
    cases Option.some.inj (w2.symm.trans g1)
    cases Option.some.inj (w3.symm.trans g2)
    rw [Launch.admits_selectMethod X.admits]
    exact w4
  have sel0 := sel Bundle.tFill0 T.fill0 (State.methodFound?_of_named Y.fill0 (by decide)) Y.fill0 (v _ (by simp [bz_n4b]))
  have selF := sel Bundle.tFill T.fill (State.methodFound?_of_named Y.fill (by decide)) Y.fill (v _ (by simp [bz_n4b]))
  obtain ⟨cs0, hcs0, his⟩ := Y.statics
  obtain ⟨u0, hu0⟩ := Cond.staticRefV Y.unassigned L.unassignedStatic L.statics hcs0 his (u (.isRef (.static Bundle.tN "UNASSIGNED_STACK" Bundle.steD)) (by simp [Bundle.ownAtoms]))
  obtain ⟨sen, hsen⟩ := Cond.staticRefV Y.sentinel L.sentinelStatic L.statics hcs0 his (u (.isRef (.static Bundle.tN "SUPPRESSED_SENTINEL" Bundle.listD)) (by simp [Bundle.ownAtoms]))
  obtain ⟨ci, i9, fB, b1, b2, b3, b4, -, b5, b6, b7⟩ := Cond.ownField (t := .object "java/lang/Object") Y.found L.cls (by decide +kernel) (u (.fieldLink Bundle.tN 198 Bundle.tN "backtrace" "Ljava/lang/Object;") (by simp [Bundle.ownAtoms])) (u (.lays Bundle.tN Bundle.tN "backtrace" "Ljava/lang/Object;") (by simp [Bundle.ownAtoms])) e.platform hpl
  obtain ⟨cs, hcs, hse, -, hkeep⟩ := X.same.2.2.2.2.2 T.aS cs0 hcs0
  have hcs : W9.heap[T.aS]? = some cs := hcs
  have hno : ∀ i, (⟨T.aS, i⟩ : Loc) ∉ locs := fun i hm => by
    have := hlocs _ hm cs0 hcs0
    rw [his] at this
    cases this
  have hkn : cs.vm ≠ .unknown := by
    rw [hse]
    intro h
    rw [h] at his
    cases his
  have hne : T.aS ≠ a := fun h => absurd (Array.getElem?_eq_some_iff.mp hcs0).1 (by rw [h]; exact Nat.not_lt.mpr hnew)
  obtain ⟨iM, hfM⟩ := Y.msg
  obtain ⟨tC, dC, eC, nC⟩ := Cond.laysAt hf hk Y.cause (v (.lays bz_X4 Bundle.tN "cause" "Ljava/lang/Throwable;") (by simp [bz_n4b]))
  obtain ⟨tS, dS, eS, nS⟩ := Cond.laysAt hf hk Y.stack (v (.lays bz_X4 Bundle.tN "stackTrace" Bundle.steD) (by simp [bz_n4b]))
  obtain ⟨tP, dP, eP, nP⟩ := Cond.laysAt hf hk Y.supp (v (.lays bz_X4 Bundle.tN "suppressedExceptions" Bundle.listD) (by simp [bz_n4b]))
  obtain ⟨tM, dM, eM, nM⟩ := Cond.laysAt hf hk hfM (v (.lays bz_X4 Bundle.tN "detailMessage" "Ljava/lang/String;") (by simp [bz_n4b]))
  obtain ⟨tB, dB, eB, nB9⟩ := Cond.laysAt hf hk b7 (v (.lays bz_X4 Bundle.tN "backtrace" "Ljava/lang/Object;") (by simp [bz_n4b]))
  have kC := Cond.laysApart eB eC nB9 nC (by rw [b5, Y.causeName]; decide)
  have kS := Cond.laysApart eB eS nB9 nS (by rw [b5, Y.stackName]; decide)
  have kP := Cond.laysApart eB eP nB9 nP (by rw [b5, Y.suppName]; decide)
  have skip : SkipFacts T e.platform s (fun u => u) u0 ((preparedCellV T.toThrowableT (freshCell P1.m.cls kX) a u0 sen).withEntry W9.cur) := by
    refine ⟨{ ci198 := ci, i198 := i9, fBack := fB }, ⟨b1, b2, b3, b4⟩, ?_, fun _ _ => rfl⟩
    have := fresh_default (c := P1.m.cls) tB
    rw [b6] at this
    simpa [preparedCellV, Cell.setSlot, Cell.withEntry, Array.getElem?_setIfInBounds, kC, kS, kP, kC.symm, kS.symm, kP.symm, defaultValue] using this
  obtain ⟨tm, methC, cdC, kC9, vm₁, hnC, -, -, -, -, -, -, -, hW₁, st1⟩ := Steps.initColdS (tb := p.tables) (e := e) (below := below) (s := s) (U := W9) X.here hexec X.warmed hpl hown (t := Bundle.initS bz_X4) rfl rfl ⟨by decide, by decide⟩
    (v (.methodLink "BarcodeEngine" 273 (Bundle.initS bz_X4)) (by simp [bz_n4b])) (h2 (.instanceMethod (Bundle.initS bz_X4)) (by simp [bz_n4a, Bundle.passSAtoms])) (bytes := prog_29_method_4_code) (maxL := 2) (h2 (.code (Bundle.initS bz_X4) prog_29_method_4_code 2 none) (by simp [bz_n4a, Bundle.passSAtoms]))
    (f := g) hg (a := a) (msg := msg) (rest := .ref a :: rest) hstack hd6
  cases Option.some.inj (hnC.symm.trans hP1)
  obtain ⟨vm₂, X₂, st2⟩ := (X.noted hW₁).ctorMessageOffV hexec (g := { g with stack := .ref a :: rest }) hg hsize T L Z LZ M LM (P1 :: P2 :: Ps)
    (fun P hP => by
      rcases List.mem_cons.mp hP with rfl | hP
      · exact L1
      · rcases List.mem_cons.mp hP with rfl | hP
        · exact L2
        · exact hLs P hP) ⟨hl1, hup, hpass⟩ (u0 := u0) (sen := sen) (self := a) hmsg (cell := freshCell P1.m.cls kX) (cellS := cs)
    hcell (fun _ => by simp) (by simp) rfl rfl sel0 selF hcs hne hkn (by rw [hkeep _ (hno _)]; exact hu0) (by rw [hkeep _ (hno _)]; exact hsen)
    (Takes.of_laid hk hord tC (by rw [Y.causeType]; rfl)) (Takes.of_laid hk hord tS (by rw [Y.stackType]; exact fits_refV_array _ u0)) (Takes.of_laid hk hord tP (by rw [Y.suppType]; exact fits_refV_object _ sen))
    (Takes.of_laid hk hord tM (by rw [Y.msgType]; exact fits_refV_object _ ⟨msg, hmsg⟩)) Y.objLocals skip htr [] hd6
    (by simp only [List.length_cons, List.length_nil, hlen]; omega) (by simp only [List.length_cons, List.length_nil, hlen]; exact hlo)
  obtain ⟨w1, w2, w3, w4, w5⟩ := X₂.athrowLeaves hexec (g := { g with stack := .ref a :: rest, pc := g.pc + 3 }) hg hlocked hentered hout (a := a) (rest := rest) rfl hd9
  have hlt : a < ((W9.setVm vm₁).setVm vm₂).heap.size := (Array.getElem?_eq_some_iff.mp hcell).1
  refine ⟨_, st1 _ (fun acts => ?_), w2, w3, w4, w5.weaken (fun y hy hlt' => ?_) (Nat.le_refl _) (Nat.le_refl _), _, heapAt_setCell_self (s := (W9.setVm vm₁).setVm vm₂) (plainBareV T.toThrowableT (freshCell P1.m.cls kX) a u0 sen msg) hlt, rfl, rfl⟩
  · rw [doInvoke_state]
    exact st2 _ w1
  · rcases List.mem_append.mp hy with q | q
    · exact q
    · have hb : y.base = a := by
        simp only [List.mem_cons, List.not_mem_nil, or_false] at q
        rcases q with rfl | rfl | rfl | rfl | rfl <;> rfl
      rw [hb] at hlt'
      exact absurd hlt' (Nat.not_lt.mpr hnew)
