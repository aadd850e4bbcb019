/-! THE TABLE'S WORDS AT THE LAW'S START; Symbology's private methods as its subclasses select them -/
theorem bz_su1 {C : String} {y : MethodName} {n : Nat} {args : Array Value} {s : State} (hins : (Cond.instantiable C n).before args s = true) (hpriv : (Cond.privateMethod y).before args s = true) (hinst : (Cond.instanceMethod y).before args s = true) (hsm : (Cond.sameMethod y.cls y.cls y.name y.desc).before args s = true) : (Cond.selects C y y).before args s = true := by
  obtain ⟨c, k, hc, -, -, -, -, -⟩ := Cond.instantiable_spec hins
  obtain ⟨mk, methM, hnamed, hmethM, -, -⟩ := Cond.instanceMethod_spec hinst
  obtain ⟨c2, ck, r, h1, h2, h3, h4, h5⟩ := Cond.sameMethod_found hsm
  have h5 : s.methodNamed? y = some r := h5
  cases hnamed.symm.trans h5
  have hcls : mk.cls = c2 := Option.some.inj ((findClass_of_methodNamed hnamed).symm.trans h1)
  have hsel : selectMethod {} s.vm c mk = .method mk := selectMethod_private hmethM (Cond.privateMethod_at hpriv mk methM hnamed hmethM)
  simp only [Cond.before, Cond.holds, Cond.value, hc, h4, hnamed, hsel, hcls, h2]
  simp
  exact h3
theorem bz_suC_0 : Cond.instantiable "BarcodeEngine$Codabar" 4 ∈ lw_tbl := List.mem_of_getElem? (i := 180) (by decide +kernel)
theorem bz_suC_1 : Cond.instantiable "BarcodeEngine$Ean8" 4 ∈ lw_tbl := List.mem_of_getElem? (i := 141) (by decide +kernel)
theorem bz_suC_2 : Cond.instantiable "BarcodeEngine$Interleaved" 4 ∈ lw_tbl := List.mem_of_getElem? (i := 169) (by decide +kernel)
theorem bz_suP_0 : Cond.privateMethod ⟨"BarcodeEngine$Symbology", "findWhole", "(LBarcodeEngine$Row;LBarcodeEngine$Reading;)Z"⟩ ∈ lw_tbl := List.mem_of_getElem? (i := 453) (by decide +kernel)
theorem bz_suI_0 : Cond.instanceMethod ⟨"BarcodeEngine$Symbology", "findWhole", "(LBarcodeEngine$Row;LBarcodeEngine$Reading;)Z"⟩ ∈ lw_tbl := List.mem_of_getElem? (i := 454) (by decide +kernel)
theorem bz_suS_0 : Cond.sameMethod "BarcodeEngine$Symbology" "BarcodeEngine$Symbology" "findWhole" "(LBarcodeEngine$Row;LBarcodeEngine$Reading;)Z" ∈ lw_tbl := List.mem_of_getElem? (i := 1799) (by decide +kernel)
theorem bz_suP_1 : Cond.privateMethod ⟨"BarcodeEngine$Symbology", "findParts", "(LBarcodeEngine$Row;LBarcodeEngine$Reading;)Z"⟩ ∈ lw_tbl := List.mem_of_getElem? (i := 563) (by decide +kernel)
theorem bz_suI_1 : Cond.instanceMethod ⟨"BarcodeEngine$Symbology", "findParts", "(LBarcodeEngine$Row;LBarcodeEngine$Reading;)Z"⟩ ∈ lw_tbl := List.mem_of_getElem? (i := 564) (by decide +kernel)
theorem bz_suS_1 : Cond.sameMethod "BarcodeEngine$Symbology" "BarcodeEngine$Symbology" "findParts" "(LBarcodeEngine$Row;LBarcodeEngine$Reading;)Z" ∈ lw_tbl := List.mem_of_getElem? (i := 1800) (by decide +kernel)
theorem bz_suP_2 : Cond.privateMethod ⟨"BarcodeEngine$Symbology", "addHead", "(LBarcodeEngine$Row;ILBarcodeEngine$Sequence;)V"⟩ ∈ lw_tbl := List.mem_of_getElem? (i := 567) (by decide +kernel)
theorem bz_suI_2 : Cond.instanceMethod ⟨"BarcodeEngine$Symbology", "addHead", "(LBarcodeEngine$Row;ILBarcodeEngine$Sequence;)V"⟩ ∈ lw_tbl := List.mem_of_getElem? (i := 568) (by decide +kernel)
theorem bz_suS_2 : Cond.sameMethod "BarcodeEngine$Symbology" "BarcodeEngine$Symbology" "addHead" "(LBarcodeEngine$Row;ILBarcodeEngine$Sequence;)V" ∈ lw_tbl := List.mem_of_getElem? (i := 1801) (by decide +kernel)
theorem bz_suP_3 : Cond.privateMethod ⟨"BarcodeEngine$Symbology", "addTail", "(LBarcodeEngine$Row;ILBarcodeEngine$Sequence;)V"⟩ ∈ lw_tbl := List.mem_of_getElem? (i := 571) (by decide +kernel)
theorem bz_suI_3 : Cond.instanceMethod ⟨"BarcodeEngine$Symbology", "addTail", "(LBarcodeEngine$Row;ILBarcodeEngine$Sequence;)V"⟩ ∈ lw_tbl := List.mem_of_getElem? (i := 572) (by decide +kernel)
theorem bz_suS_3 : Cond.sameMethod "BarcodeEngine$Symbology" "BarcodeEngine$Symbology" "addTail" "(LBarcodeEngine$Row;ILBarcodeEngine$Sequence;)V" ∈ lw_tbl := List.mem_of_getElem? (i := 1802) (by decide +kernel)
theorem bz_T_ok {args : Array Value} {s : State} (h : ∀ w ∈ lw_tbl, w.before args s = true) : ∀ w ∈ bz_T, w.before args s = true := by
  intro w hw
  rcases List.mem_append.mp hw with hw | hw
  · simp only [bz_su, List.mem_cons, List.not_mem_nil, or_false] at hw
    rcases hw with rfl | rfl | rfl | rfl | rfl | rfl | rfl | rfl | rfl | rfl | rfl | rfl
    · exact bz_su1 (h _ bz_suC_0) (h _ bz_suP_0) (h _ bz_suI_0) (h _ bz_suS_0)
    · exact bz_su1 (h _ bz_suC_1) (h _ bz_suP_0) (h _ bz_suI_0) (h _ bz_suS_0)
    · exact bz_su1 (h _ bz_suC_2) (h _ bz_suP_0) (h _ bz_suI_0) (h _ bz_suS_0)
    · exact bz_su1 (h _ bz_suC_0) (h _ bz_suP_1) (h _ bz_suI_1) (h _ bz_suS_1)
    · exact bz_su1 (h _ bz_suC_1) (h _ bz_suP_1) (h _ bz_suI_1) (h _ bz_suS_1)
    · exact bz_su1 (h _ bz_suC_2) (h _ bz_suP_1) (h _ bz_suI_1) (h _ bz_suS_1)
    · exact bz_su1 (h _ bz_suC_0) (h _ bz_suP_2) (h _ bz_suI_2) (h _ bz_suS_2)
    · exact bz_su1 (h _ bz_suC_1) (h _ bz_suP_2) (h _ bz_suI_2) (h _ bz_suS_2)
    · exact bz_su1 (h _ bz_suC_2) (h _ bz_suP_2) (h _ bz_suI_2) (h _ bz_suS_2)
    · exact bz_su1 (h _ bz_suC_0) (h _ bz_suP_3) (h _ bz_suI_3) (h _ bz_suS_3)
    · exact bz_su1 (h _ bz_suC_1) (h _ bz_suP_3) (h _ bz_suI_3) (h _ bz_suS_3)
    · exact bz_su1 (h _ bz_suC_2) (h _ bz_suP_3) (h _ bz_suI_3) (h _ bz_suS_3)
  · exact h w hw
