/-! THE START: the tables' words and what the Statement says of the state, put together for the walk -/
def bz_NL : List Cond := flatC (Jvm.Cond.and given_1 narrow_1)
theorem bz_inN {α : Type} {xs : List α} {f : α → Cond} {gs : List Nat} (h : xs.map f = bz_pick gs bz_NL) : ∀ x ∈ xs, f x ∈ bz_NL := fun x hx => bz_pick_in (f x) (by rw [← h]; exact List.mem_map.mpr ⟨x, hx, rfl⟩)
set_option maxRecDepth 200000 in
theorem sz_str : bz_strs.map (fun q => Cond.stringRef q.1 q.2.1 q.2.2) = bz_pick [426, 269, 32, 6, 7, 97, 4, 61, 38, 4, 7, 15, 10, 7, 7, 19, 13, 94, 44, 57, 0, 11, 159] bz_T := rfl
set_option maxRecDepth 200000 in
theorem sz_exa : bz_strs.map (fun q => Cond.exactly (.string q.1 q.2.1) "java/lang/String") = bz_pick [142, 20, 27, 41, 35, 27, 29, 35, 59, 34, 35, 43, 26, 28, 41, 41, 44, 61, 41, 45, 62, 62, 62] bz_NL := by decide +kernel
set_option maxRecDepth 200000 in
theorem sz_dc3 : bz_dc3.map Cond.declares = bz_pick [388, 1, 1] bz_T := rfl
def sz_ls : List (String × String × String) := [("java/lang/Throwable", "UNASSIGNED_STACK", "[Ljava/lang/StackTraceElement;"), ("java/lang/Throwable", "SUPPRESSED_SENTINEL", "Ljava/util/List;"), ("BarcodeEngine", "CODABAR_PATTERNS", "[I"), ("BarcodeEngine", "INTERLEAVED_PATTERNS", "[I"), ("java/lang/String", "COMPACT_STRINGS", "Z"), ("jdk/internal/util/Preconditions", "SIOOBE_FORMATTER", "Ljava/util/function/BiFunction;"), ("BarcodeEngine", "EAN_WIDTHS", "[I")]
set_option maxRecDepth 200000 in
theorem sz_lay : sz_ls.map (fun q => Cond.laysStatic q.1 q.2.1 q.2.2) = bz_pick [411, 1, 61, 76, 205, 38, 68] bz_T := rfl
def sz_in : List String := ["BarcodeEngine", "java/lang/Throwable", "java/lang/String", "jdk/internal/util/Preconditions"]
set_option maxRecDepth 200000 in
theorem sz_ini : sz_in.map Cond.initialized = bz_pick [92, 10, 5, 3] bz_T := rfl
def sz_rq : List (String × String × String) := [("java/lang/Throwable", "UNASSIGNED_STACK", "[Ljava/lang/StackTraceElement;"), ("java/lang/Throwable", "SUPPRESSED_SENTINEL", "Ljava/util/List;"), ("jdk/internal/util/Preconditions", "SIOOBE_FORMATTER", "Ljava/util/function/BiFunction;")]
set_option maxRecDepth 200000 in
theorem sz_ref : sz_rq.map (fun q => Cond.isRef (.static q.1 q.2.1 q.2.2)) = bz_pick [4, 0, 37] bz_NL := by decide +kernel
def sz_nc : List (String × String) := [("java/lang/IndexOutOfBoundsException", "java/lang/IllegalStateException"), ("java/lang/IllegalArgumentException", "java/lang/IllegalStateException"), ("java/util/NoSuchElementException", "java/lang/IllegalStateException"), ("java/lang/IllegalStateException", "java/lang/IndexOutOfBoundsException"), ("java/lang/IllegalArgumentException", "java/lang/IndexOutOfBoundsException"), ("java/util/NoSuchElementException", "java/lang/IndexOutOfBoundsException"), ("java/lang/IllegalStateException", "java/lang/IllegalArgumentException"), ("java/lang/IndexOutOfBoundsException", "java/lang/IllegalArgumentException"), ("java/util/NoSuchElementException", "java/lang/IllegalArgumentException"), ("java/lang/IllegalStateException", "java/util/NoSuchElementException"), ("java/lang/IndexOutOfBoundsException", "java/util/NoSuchElementException"), ("java/lang/IllegalArgumentException", "java/util/NoSuchElementException")]
set_option maxRecDepth 200000 in
theorem sz_not : sz_nc.map (fun q => Cond.not (.castable q.1 q.2)) = bz_pick [100, 0, 0, 10, 0, 0, 10, 0, 0, 10, 0, 0] bz_NL := by decide +kernel
theorem sz_ncs : ∀ q ∈ bz_ncs, q ∈ sz_nc := by decide +kernel
def sz_rows (tm : Term) (ty : FieldType) (n : Nat) (f : Nat → Int) : List Cond := Cond.arrayOf tm ty :: Cond.eq (.length tm) (.int (Int32.ofNat n)) :: (List.range n).map fun j => Cond.eq (.elem tm (.int (Int32.ofNat j))) (.int (Int32.ofInt (f j)))
def sz_s5 : Term := .field (.string "BarcodeEngine" 337) "java/lang/String" "value" "[B"
def sz_s6 : Term := .field (.string "BarcodeEngineModel" 84) "java/lang/String" "value" "[B"
set_option maxRecDepth 200000 in
theorem sz_rE : sz_rows (.static "BarcodeEngine" "EAN_WIDTHS" "[I") .int 40 bs_E = bz_pick (48 :: List.replicate 41 0) bz_NL := by decide +kernel
set_option maxRecDepth 200000 in
theorem sz_rI : sz_rows (.static "BarcodeEngine" "INTERLEAVED_PATTERNS" "[I") .int 10 bs_P5 = bz_pick (30 :: List.replicate 11 0) bz_NL := by decide +kernel
set_option maxRecDepth 200000 in
theorem sz_rC : sz_rows (.static "BarcodeEngine" "CODABAR_PATTERNS" "[I") .int 20 bs_P7 = bz_pick (7 :: List.replicate 21 0) bz_NL := by decide +kernel
set_option maxRecDepth 200000 in
theorem sz_r5 : sz_rows sz_s5 .byte 20 bs_al = bz_pick (271 :: List.replicate 21 0) bz_NL := by decide +kernel
set_option maxRecDepth 200000 in
theorem sz_r6 : sz_rows sz_s6 .byte 20 bs_al = bz_pick (1064 :: List.replicate 21 0) bz_NL := by decide +kernel
set_option maxRecDepth 200000 in
theorem sz_c5 : Cond.eq (.field (.string "BarcodeEngine" 337) "java/lang/String" "coder" "B") (.int 0) ∈ bz_NL := List.mem_of_getElem? (i := 270) (by decide +kernel)
set_option maxRecDepth 200000 in
theorem sz_c6 : Cond.eq (.field (.string "BarcodeEngineModel" 84) "java/lang/String" "coder" "B") (.int 0) ∈ bz_NL := List.mem_of_getElem? (i := 1063) (by decide +kernel)
set_option maxRecDepth 200000 in
theorem sz_co : Cond.eq (.static "java/lang/String" "COMPACT_STRINGS" "Z") (.int 1) ∈ bz_NL := List.mem_of_getElem? (i := 42) (by decide +kernel)
section
variable {args : Array Value} {s : State} {A : Nat → Prop}
theorem sz_tab {tm : Term} {ty : FieldType} {n : Nat} {f : Nat → Int} (hn : n < 2 ^ 31) (h : ∀ w ∈ sz_rows tm ty n f, w.before args s = true) (hA : ∀ a : Nat, a < s.heap.size → ¬ A a) : ∃ t : Nat, tm.eval args s none [] s = some (.ref t) ∧ va_T ty t n (fun j => .int (Int32.ofInt (f j))) A s s.heap :=
  va_Tof hn (h _ List.mem_cons_self) (va_eqt (h _ (List.mem_cons_of_mem _ List.mem_cons_self))) (fun j hj => va_eqt (h _ (List.mem_cons_of_mem _ (List.mem_cons_of_mem _ (List.mem_map.mpr ⟨j, List.mem_range.mpr hj, rfl⟩))))) hA
theorem sz_vk {own tx : String} {k : Nat} (h1 : (Cond.stringRef own k tx).before args s = true) (h2 : (Cond.exactly (.string own k) "java/lang/String").before args s = true) : ∃ a : Nat, vk_R own k tx a s ∧ (Term.string own k).eval args s none [] s = some (.ref a) := by
  obtain ⟨a, c, cA, kA, q1, -⟩ := Cond.exactly_spec (args := args) (first := s) (o := none) (s := s) (idx := []) (t := .string own k) (cls := "java/lang/String") h2
  exact ⟨a, vk_R.of h1 q1, q1⟩
theorem sz_arr {ty : FieldType} (h : (Cond.arrayClass ty).before args s = true) : ∃ cA : ClassId, ArrOfT s cA ty ∧ s.vm.findClass ("[" ++ ty.toString) = some cA := by
  obtain ⟨c, k, comp, h1, h2, h3⟩ := Cond.arrayClass_spec h
  exact ⟨c, fun n z => ⟨(fun k h => by cases h), k, h2, comp, h3⟩, h1⟩
theorem sz_ao {C : String} (h : (Cond.arrayOver (.object C)).before args s = true) : ∃ cA : ClassId, ArrOfT s cA (.object C) ∧ va_RA s cA (.object C) := by
  obtain ⟨comp, c, k, h1, h2, h3, h4, h5⟩ := Cond.arrayOver_spec h
  exact ⟨c, fun n z => ⟨(fun k h => by cases h), k, h3, comp, h4⟩, k, comp, h3, h4, h1, h5⟩
theorem sz_ia : ∀ c, c < 10 → c + 1 ∈ bz_ia := by decide
theorem sz_K (hW : ∀ w ∈ bz_W, w.before args s = true) : ∃ D : va_G, ∀ (c : Nat) (q : vw_C), vwCl[c]? = some q → u_Kn s q.1 q.2.1 q.2.2 (D.1 c) (D.2 c) := by
  have h0 : ∀ c : Nat, ∃ p : ClassId × (Nat → Nat), ∀ q : vw_C, vwCl[c]? = some q → u_Kn s q.1 q.2.1 q.2.2 p.1 p.2 := by
    intro c
    by_cases hc : c < 10
    · obtain ⟨C, F, h1, -, -, h2, h3, -⟩ := bz_cls (c := c + 1) (by omega) (by omega)
      have hi := hW _ (bz_ia_in _ (sz_ia c hc))
      have e : bz_iaw (c + 1) = .instantiable C (bz_ns0 (c + 1)) := by unfold bz_iaw; rw [h2]
      rw [e] at hi
      obtain ⟨cC, iS, h⟩ := u_known hW h3 hi
      refine ⟨(cC, iS), fun q hq => ?_⟩
      have e2 : some (C, F, bz_ns (c + 1)) = some q := h1.symm.trans hq
      cases e2
      exact h
    · refine ⟨(0, fun _ => 0), fun q hq => ?_⟩
      have h := (List.getElem?_eq_some_iff.mp hq).1
      have h2 : vwCl.length = 10 := rfl
      omega
  obtain ⟨f, hf⟩ := Classical.axiomOfChoice h0
  exact ⟨(fun c => (f c).1, fun c => (f c).2), fun c q hq => hf c q hq⟩
theorem sz_scr {b L : Nat} {xs : Nat → Int32} (hX : va_X b L xs s s.heap) (hb : ¬ A b) : va_T .int b L (fun j => .int (Int32.ofInt (xs j).toInt)) A s s.heap := by
  obtain ⟨scr, h1, h2, h3, h4, h5⟩ := hX
  refine ⟨scr, h1, h2, h3, Nat.le_of_eq h4.symm, by rw [h4], fun j hj => ?_, hb⟩
  show scr.slots[j]? = some (.int (Int32.ofInt (xs j).toInt))
  rw [h5 j hj, Int32.ofInt_toInt]
theorem sz_no {x y z n : Nat} (h : some (x, y) = some (z, n)) (hne : x ≠ z) : False := hne (congrArg Prod.fst (Option.some.inj h))
theorem sz_sn {x y z n : Nat} (h : some (x, y) = some (z, n)) : n = y := (congrArg Prod.snd (Option.some.inj h)).symm
theorem sz_z0 : Int32.ofInt 0 = 0 := by decide
/-- the script's ints, by place -/
def sz_X (xs : Nat → Int32) : Int → Int := fun i => (xs i.toNat).toInt
theorem sz_E {b L : Nat} {xs : Nat → Int32} (hT : ∀ w ∈ bz_T, w.before args s = true) (hN : ∀ w ∈ bz_NL, w.before args s = true) (hX : va_X b L xs s s.heap) (hb : b < s.heap.size) :
    ∃ N : bz_N, nB N = s.heap.size ∧ nX N 1 = b ∧ nT N = (bm_T L).take 16 ∧ nM N = lw_M (sz_X xs) ∧ nP N = bP0 ∧ bz_E N s s.heap := by
  obtain ⟨A, hAe⟩ : ∃ A : Nat → Prop, A = fun q : Nat => s.heap.size ≤ q := ⟨_, rfl⟩
  have hA : ∀ a : Nat, a < s.heap.size → ¬ A a := fun a h h2 => by
    rw [hAe] at h2
    exact Nat.not_lt.mpr h2 h
  obtain ⟨D, hD⟩ := sz_K (args := args) (s := s) (fun w hw => hT w (List.mem_filter.mp hw).1)
  obtain ⟨ci, i1, i2⟩ := sz_arr (hT _ (List.mem_filter.mp (bz_acl_in .int (by decide))).1)
  obtain ⟨cz, z1, z2⟩ := sz_arr (hT _ (List.mem_filter.mp (bz_acl_in .boolean (by decide))).1)
  obtain ⟨cj, j1, j2⟩ := sz_arr (hT _ (List.mem_filter.mp (bz_acl_in .long (by decide))).1)
  obtain ⟨cs, cs1, cs2⟩ := sz_ao (hT _ (bz_ao_in "BarcodeEngine$Scan" (by decide)))
  obtain ⟨cr, cr1, cr2⟩ := sz_ao (hT _ (bz_ao_in "BarcodeEngine$Reading" (by decide)))
  obtain ⟨cy, cy1, cy2⟩ := sz_ao (hT _ (bz_ao_in "BarcodeEngine$Symbology" (by decide)))
  obtain ⟨ct, ct1, ct2⟩ := sz_ao (hT _ (bz_ao_in "BarcodeEngine$Tally" (by decide)))
  obtain ⟨tE, e1, e2⟩ := sz_tab (tm := .static "BarcodeEngine" "EAN_WIDTHS" "[I") (ty := .int) (n := 40) (f := bs_E) (A := A) (by decide) (fun w hw => hN w (bz_pick_in w (by rw [← sz_rE]; exact hw))) hA
  obtain ⟨tI, f1, f2⟩ := sz_tab (tm := .static "BarcodeEngine" "INTERLEAVED_PATTERNS" "[I") (ty := .int) (n := 10) (f := bs_P5) (A := A) (by decide) (fun w hw => hN w (bz_pick_in w (by rw [← sz_rI]; exact hw))) hA
  obtain ⟨tC, g1, g2⟩ := sz_tab (tm := .static "BarcodeEngine" "CODABAR_PATTERNS" "[I") (ty := .int) (n := 20) (f := bs_P7) (A := A) (by decide) (fun w hw => hN w (bz_pick_in w (by rw [← sz_rC]; exact hw))) hA
  have hex : ∀ q ∈ bz_strs, (Cond.exactly (.string q.1 q.2.1) "java/lang/String").before args s = true := fun q hq => hN _ (bz_inN sz_exa q hq)
  have hsr : ∀ q ∈ bz_strs, (Cond.stringRef q.1 q.2.1 q.2.2).before args s = true := fun q hq => hT _ (bz_inT sz_str q hq)
  have m5 : (("BarcodeEngine", 337, "0123456789-$:/.+ABCD") : String × Nat × String) ∈ bz_strs := by decide +kernel
  have m6 : (("BarcodeEngineModel", 84, "0123456789-$:/.+ABCD") : String × Nat × String) ∈ bz_strs := by decide +kernel
  obtain ⟨a5, v5, x5⟩ := sz_vk (hsr _ m5) (hex _ m5)
  obtain ⟨a6, v6, x6⟩ := sz_vk (hsr _ m6) (hex _ m6)
  obtain ⟨t7, y7, w7⟩ := sz_tab (tm := sz_s5) (ty := .byte) (n := 20) (f := bs_al) (A := A) (by decide) (fun w hw => hN w (bz_pick_in w (by rw [← sz_r5]; exact hw))) hA
  obtain ⟨t8, y8, w8⟩ := sz_tab (tm := sz_s6) (ty := .byte) (n := 20) (f := bs_al) (A := A) (by decide) (fun w hw => hN w (bz_pick_in w (by rw [← sz_r6]; exact hw))) hA
  have hl : ∀ q ∈ sz_ls, (Cond.laysStatic q.1 q.2.1 q.2.2).before args s = true := fun q hq => hT _ (bz_inT sz_lay q hq)
  have hi : ∀ q ∈ sz_in, (Cond.initialized q).before args s = true := fun q hq => hT _ (bz_inT sz_ini q hq)
  have hr : ∀ q ∈ sz_rq, (Cond.isRef (.static q.1 q.2.1 q.2.2)).before args s = true := fun q hq => hN _ (bz_inN sz_ref q hq)
  have iB := hi "BarcodeEngine" (by decide +kernel)
  have iT := hi "java/lang/Throwable" (by decide +kernel)
  refine ⟨(s.heap.size, fun a => [0, b, tE, tI, tC, a5, a6, t7, t8].getD a 0, D, fun t => [ci, 0, cz, cj, cs, cr, cy, ct].getD (t - 20) 0, (bm_T L).take 16, lw_M (sz_X xs), bP0), rfl, rfl, rfl, rfl, rfl, ?_⟩
  have hAN : bz_A (s.heap.size, fun a => [0, b, tE, tI, tC, a5, a6, t7, t8].getD a 0, D, fun t => [ci, 0, cz, cj, cs, cr, cy, ct].getD (t - 20) 0, (bm_T L).take 16, lw_M (sz_X xs), bP0) = A := hAe.symm
  unfold bz_E
  rw [hAN]

  have q1 : (("java/lang/Throwable", "UNASSIGNED_STACK", "[Ljava/lang/StackTraceElement;") : String × String × String) ∈ sz_ls := by decide +kernel
  have q2 : (("java/lang/Throwable", "SUPPRESSED_SENTINEL", "Ljava/util/List;") : String × String × String) ∈ sz_ls := by decide +kernel
  have q3 : (("BarcodeEngine", "CODABAR_PATTERNS", "[I") : String × String × String) ∈ sz_ls := by decide +kernel
  have q4 : (("BarcodeEngine", "INTERLEAVED_PATTERNS", "[I") : String × String × String) ∈ sz_ls := by decide +kernel
  have q5 : (("java/lang/String", "COMPACT_STRINGS", "Z") : String × String × String) ∈ sz_ls := by decide +kernel
  have q6 : (("jdk/internal/util/Preconditions", "SIOOBE_FORMATTER", "Ljava/util/function/BiFunction;") : String × String × String) ∈ sz_ls := by decide +kernel
  have q7 : (("BarcodeEngine", "EAN_WIDTHS", "[I") : String × String × String) ∈ sz_ls := by decide +kernel
  have r1 : (("java/lang/Throwable", "UNASSIGNED_STACK", "[Ljava/lang/StackTraceElement;") : String × String × String) ∈ sz_rq := by decide +kernel
  have r2 : (("java/lang/Throwable", "SUPPRESSED_SENTINEL", "Ljava/util/List;") : String × String × String) ∈ sz_rq := by decide +kernel
  have r3 : (("jdk/internal/util/Preconditions", "SIOOBE_FORMATTER", "Ljava/util/function/BiFunction;") : String × String × String) ∈ sz_rq := by decide +kernel
  refine ⟨⟨hD, fun k q hq => ?_⟩, fun q hq => ?_, ⟨v5, v6⟩, ⟨vx_Zqof (hl _ q1) iT (hr _ r1) hA, vx_Zqof (hl _ q2) iT (hr _ r2) hA⟩, ⟨va_Zref (hl _ q7) iB e1 hA, va_Zref (hl _ q4) iB f1 hA, va_Zref (hl _ q3) iB g1 hA⟩, ⟨va_Zof (hl _ q5) (hi "java/lang/String" (by decide +kernel)) (va_eqi (hN _ sz_co)) hA, va_Zqof (hl _ q6) (hi "jdk/internal/util/Preconditions" (by decide +kernel)) (hr _ r3) hA⟩, fun a n ha hn => ?_, fun a n ha hn => ?_, fun a n ha hn => ?_, fun a t ha ht => ?_, fun q hq => va_Nc.of (hN _ (bz_inN sz_not q (sz_ncs q hq))), fun e he => va_Nw.of rfl (hT _ (bz_lkn_in e he)), fun e he => va_Nw.of rfl (hT _ (bz_decl_in e he)), fun e he => va_Nw.of rfl (hT _ (bz_cas_in e he)), fun e he => va_AO.of (hT _ (bz_ao_in e he)), fun e he => ?_, fun x hx => va_Nw.of rfl (hT _ (bz_inT sz_dc3 x hx)), fun t ht => ?_⟩
  · match k, hq with
    | 0, hq =>
      have e : some (ci, FieldType.int) = some q := hq
      cases e
      exact ⟨i1, i2⟩
    | 1, hq =>
      have e : some (cz, FieldType.boolean) = some q := hq
      cases e
      exact ⟨z1, z2⟩
    | 2, hq =>
      have e : some (cj, FieldType.long) = some q := hq
      cases e
      exact ⟨j1, j2⟩
    | 3, hq =>
      have e : some (cs, FieldType.object "BarcodeEngine$Scan") = some q := hq
      cases e
      exact ⟨cs1, cs2⟩
    | 4, hq =>
      have e : some (cr, FieldType.object "BarcodeEngine$Reading") = some q := hq
      cases e
      exact ⟨cr1, cr2⟩
    | 5, hq =>
      have e : some (cy, FieldType.object "BarcodeEngine$Symbology") = some q := hq
      cases e
      exact ⟨cy1, cy2⟩
    | 6, hq =>
      have e : some (ct, FieldType.object "BarcodeEngine$Tally") = some q := hq
      cases e
      exact ⟨ct1, ct2⟩
    | k + 7, hq =>
      have e : none = some q := hq
      cases e
  · obtain ⟨a, h, -⟩ := sz_vk (hsr q hq) (hex q hq)
    exact ⟨a, h⟩
  · match a, ha, hn with
    | 0, _, hn =>
      have e : some (0, 0) = some (21, n) := hn
      exact (sz_no e (by decide)).elim
    | 1, _, hn =>
      have e : some (21, L) = some (21, n) := hn
      rw [sz_sn e]
      exact sz_scr hX (hA b hb)
    | 2, _, hn =>
      have e : some (21, 40) = some (21, n) := hn
      rw [sz_sn e]
      exact e2
    | 3, _, hn =>
      have e : some (21, 10) = some (21, n) := hn
      rw [sz_sn e]
      exact f2
    | 4, _, hn =>
      have e : some (21, 20) = some (21, n) := hn
      rw [sz_sn e]
      exact g2
    | 5, _, hn =>
      have e : some (28, 0) = some (21, n) := hn
      exact (sz_no e (by decide)).elim
    | 6, _, hn =>
      have e : some (28, 0) = some (21, n) := hn
      exact (sz_no e (by decide)).elim
    | 7, _, hn =>
      have e : some (29, 20) = some (21, n) := hn
      exact (sz_no e (by decide)).elim
    | 8, _, hn =>
      have e : some (29, 20) = some (21, n) := hn
      exact (sz_no e (by decide)).elim
    | 9, _, hn =>
      have e : some (0, 0) = some (21, n) := hn
      exact (sz_no e (by decide)).elim
    | 10, _, hn =>
      have e : some (0, 0) = some (21, n) := hn
      exact (sz_no e (by decide)).elim
    | 11, _, hn =>
      have e : some (0, 0) = some (21, n) := hn
      exact (sz_no e (by decide)).elim
    | 12, _, hn =>
      have e : some (0, 0) = some (21, n) := hn
      exact (sz_no e (by decide)).elim
    | 13, _, hn =>
      have e : some (0, 0) = some (21, n) := hn
      exact (sz_no e (by decide)).elim
    | 14, _, hn =>
      have e : some (0, 0) = some (21, n) := hn
      exact (sz_no e (by decide)).elim
    | 15, _, hn =>
      have e : some (0, 0) = some (21, n) := hn
      exact (sz_no e (by decide)).elim
    | a + 16, ha, _ => omega
  · match a, ha, hn with
    | 0, _, hn =>
      have e : some (0, 0) = some (29, n) := hn
      exact (sz_no e (by decide)).elim
    | 1, _, hn =>
      have e : some (21, L) = some (29, n) := hn
      exact (sz_no e (by decide)).elim
    | 2, _, hn =>
      have e : some (21, 40) = some (29, n) := hn
      exact (sz_no e (by decide)).elim
    | 3, _, hn =>
      have e : some (21, 10) = some (29, n) := hn
      exact (sz_no e (by decide)).elim
    | 4, _, hn =>
      have e : some (21, 20) = some (29, n) := hn
      exact (sz_no e (by decide)).elim
    | 5, _, hn =>
      have e : some (28, 0) = some (29, n) := hn
      exact (sz_no e (by decide)).elim
    | 6, _, hn =>
      have e : some (28, 0) = some (29, n) := hn
      exact (sz_no e (by decide)).elim
    | 7, _, hn =>
      have e : some (29, 20) = some (29, n) := hn
      rw [sz_sn e]
      exact w7
    | 8, _, hn =>
      have e : some (29, 20) = some (29, n) := hn
      rw [sz_sn e]
      exact w8
    | 9, _, hn =>
      have e : some (0, 0) = some (29, n) := hn
      exact (sz_no e (by decide)).elim
    | 10, _, hn =>
      have e : some (0, 0) = some (29, n) := hn
      exact (sz_no e (by decide)).elim
    | 11, _, hn =>
      have e : some (0, 0) = some (29, n) := hn
      exact (sz_no e (by decide)).elim
    | 12, _, hn =>
      have e : some (0, 0) = some (29, n) := hn
      exact (sz_no e (by decide)).elim
    | 13, _, hn =>
      have e : some (0, 0) = some (29, n) := hn
      exact (sz_no e (by decide)).elim
    | 14, _, hn =>
      have e : some (0, 0) = some (29, n) := hn
      exact (sz_no e (by decide)).elim
    | 15, _, hn =>
      have e : some (0, 0) = some (29, n) := hn
      exact (sz_no e (by decide)).elim
    | a + 16, ha, _ => omega
  · match a, ha, hn with
    | 0, _, hn =>
      have e : some (0, 0) = some (28, n) := hn
      exact (sz_no e (by decide)).elim
    | 1, _, hn =>
      have e : some (21, L) = some (28, n) := hn
      exact (sz_no e (by decide)).elim
    | 2, _, hn =>
      have e : some (21, 40) = some (28, n) := hn
      exact (sz_no e (by decide)).elim
    | 3, _, hn =>
      have e : some (21, 10) = some (28, n) := hn
      exact (sz_no e (by decide)).elim
    | 4, _, hn =>
      have e : some (21, 20) = some (28, n) := hn
      exact (sz_no e (by decide)).elim
    | 5, _, hn =>
      have e : some (28, 0) = some (28, n) := hn
      refine ⟨va_Oof (hex _ m5) x5 hA, ?_, fun _ => ⟨(show bP0 5 0 < 15 by decide), vk_OFof x5 y7 hA⟩⟩
      show va_OF "java/lang/String" "coder" "B" (.int (Int32.ofInt 0)) a5 A s s.heap
      rw [sz_z0]
      exact vk_OFof x5 (va_eqt (hN _ sz_c5)) hA
    | 6, _, hn =>
      have e : some (28, 0) = some (28, n) := hn
      refine ⟨va_Oof (hex _ m6) x6 hA, ?_, fun _ => ⟨(show bP0 6 0 < 15 by decide), vk_OFof x6 y8 hA⟩⟩
      show va_OF "java/lang/String" "coder" "B" (.int (Int32.ofInt 0)) a6 A s s.heap
      rw [sz_z0]
      exact vk_OFof x6 (va_eqt (hN _ sz_c6)) hA
    | 7, _, hn =>
      have e : some (29, 20) = some (28, n) := hn
      exact (sz_no e (by decide)).elim
    | 8, _, hn =>
      have e : some (29, 20) = some (28, n) := hn
      exact (sz_no e (by decide)).elim
    | 9, _, hn =>
      have e : some (0, 0) = some (28, n) := hn
      exact (sz_no e (by decide)).elim
    | 10, _, hn =>
      have e : some (0, 0) = some (28, n) := hn
      exact (sz_no e (by decide)).elim
    | 11, _, hn =>
      have e : some (0, 0) = some (28, n) := hn
      exact (sz_no e (by decide)).elim
    | 12, _, hn =>
      have e : some (0, 0) = some (28, n) := hn
      exact (sz_no e (by decide)).elim
    | 13, _, hn =>
      have e : some (0, 0) = some (28, n) := hn
      exact (sz_no e (by decide)).elim
    | 14, _, hn =>
      have e : some (0, 0) = some (28, n) := hn
      exact (sz_no e (by decide)).elim
    | 15, _, hn =>
      have e : some (0, 0) = some (28, n) := hn
      exact (sz_no e (by decide)).elim
    | a + 16, ha, _ => omega
  · match a, ha, ht with
    | 0, _, ht =>
      have e : some (0, 0) = some t := ht
      cases e
      exact Or.inl rfl
    | 1, _, ht =>
      have e : some (21, L) = some t := ht
      cases e
      exact Or.inr (Or.inl rfl)
    | 2, _, ht =>
      have e : some (21, 40) = some t := ht
      cases e
      exact Or.inr (Or.inl rfl)
    | 3, _, ht =>
      have e : some (21, 10) = some t := ht
      cases e
      exact Or.inr (Or.inl rfl)
    | 4, _, ht =>
      have e : some (21, 20) = some t := ht
      cases e
      exact Or.inr (Or.inl rfl)
    | 5, _, ht =>
      have e : some (28, 0) = some t := ht
      cases e
      exact Or.inr (Or.inr (Or.inl rfl))
    | 6, _, ht =>
      have e : some (28, 0) = some t := ht
      cases e
      exact Or.inr (Or.inr (Or.inl rfl))
    | 7, _, ht =>
      have e : some (29, 20) = some t := ht
      cases e
      exact Or.inr (Or.inr (Or.inr rfl))
    | 8, _, ht =>
      have e : some (29, 20) = some t := ht
      cases e
      exact Or.inr (Or.inr (Or.inr rfl))
    | 9, _, ht =>
      have e : some (0, 0) = some t := ht
      cases e
      exact Or.inl rfl
    | 10, _, ht =>
      have e : some (0, 0) = some t := ht
      cases e
      exact Or.inl rfl
    | 11, _, ht =>
      have e : some (0, 0) = some t := ht
      cases e
      exact Or.inl rfl
    | 12, _, ht =>
      have e : some (0, 0) = some t := ht
      cases e
      exact Or.inl rfl
    | 13, _, ht =>
      have e : some (0, 0) = some t := ht
      cases e
      exact Or.inl rfl
    | 14, _, ht =>
      have e : some (0, 0) = some t := ht
      cases e
      exact Or.inl rfl
    | 15, _, ht =>
      have e : some (0, 0) = some t := ht
      cases e
      exact Or.inl rfl
    | a + 16, ha, _ => omega
  · have e2 : bz_nstw e ∈ bz_T := by
      simp only [bz_nst, List.mem_cons, List.not_mem_nil, or_false] at he
      rcases he with rfl | rfl | rfl
      · exact bz_sg_5_25
      · exact bz_sg_4_31
      · exact bz_sg_2_25
    exact va_Nw.of rfl (hT _ e2)
  · have e : some (0, 0) = some t := ht
    cases e
    rfl
end
