/-! EXCEPTIONS MADE -/
def bz_tn : List String := ["java/lang/RuntimeException", "java/lang/Exception"]
theorem bz_tn_ok : ∀ n ∈ bz_tn, Bundle.fit n = true := by decide +kernel
def bz_tng (X : String) : List Cond := .castable X X :: bz_dc3.map Cond.declares
def bz_ik (c : Nat) : Nat := [0, 73, 324, 90, 269].getD c 0
def bz_ic (c : Nat) : Nat := [0, 77, 328, 94, 273].getD c 0
theorem bz_xk_1 : Cond.classLink "BarcodeEngine" 73 "java/lang/IllegalStateException" ∈ bz_W := List.mem_filter.mpr ⟨List.mem_of_getElem? (i := 687) (by decide +kernel), rfl⟩
theorem bz_xi_1 : Cond.initialized "java/lang/IllegalStateException" ∈ bz_W := List.mem_filter.mpr ⟨List.mem_of_getElem? (i := 106) (by decide +kernel), rfl⟩
theorem bz_xn_1 : ∀ w ∈ (vx_atS "BarcodeEngine" 77 "java/lang/IllegalStateException" ["java/lang/RuntimeException", "java/lang/Exception"]).filter (fun w => !goodWord w), w ∈ bz_tng "java/lang/IllegalStateException" := by decide +kernel
theorem bz_xo_1 : ∀ w ∈ Cond.classLink "BarcodeEngine" 73 "java/lang/IllegalStateException" :: Cond.initialized "java/lang/IllegalStateException" :: vx_atS "BarcodeEngine" 77 "java/lang/IllegalStateException" ["java/lang/RuntimeException", "java/lang/Exception"], vx_ot w = true := by decide +kernel
theorem bz_xk_2 : Cond.classLink "BarcodeEngine" 324 "java/lang/IndexOutOfBoundsException" ∈ bz_W := List.mem_filter.mpr ⟨List.mem_of_getElem? (i := 384) (by decide +kernel), rfl⟩
theorem bz_xi_2 : Cond.initialized "java/lang/IndexOutOfBoundsException" ∈ bz_W := List.mem_filter.mpr ⟨List.mem_of_getElem? (i := 107) (by decide +kernel), rfl⟩
theorem bz_xn_2 : ∀ w ∈ (vx_atS "BarcodeEngine" 328 "java/lang/IndexOutOfBoundsException" ["java/lang/RuntimeException", "java/lang/Exception"]).filter (fun w => !goodWord w), w ∈ bz_tng "java/lang/IndexOutOfBoundsException" := by decide +kernel
theorem bz_xo_2 : ∀ w ∈ Cond.classLink "BarcodeEngine" 324 "java/lang/IndexOutOfBoundsException" :: Cond.initialized "java/lang/IndexOutOfBoundsException" :: vx_atS "BarcodeEngine" 328 "java/lang/IndexOutOfBoundsException" ["java/lang/RuntimeException", "java/lang/Exception"], vx_ot w = true := by decide +kernel
theorem bz_xk_3 : Cond.classLink "BarcodeEngine" 90 "java/lang/IllegalArgumentException" ∈ bz_W := List.mem_filter.mpr ⟨List.mem_of_getElem? (i := 720) (by decide +kernel), rfl⟩
theorem bz_xi_3 : Cond.initialized "java/lang/IllegalArgumentException" ∈ bz_W := List.mem_filter.mpr ⟨List.mem_of_getElem? (i := 108) (by decide +kernel), rfl⟩
theorem bz_xn_3 : ∀ w ∈ (vx_atS "BarcodeEngine" 94 "java/lang/IllegalArgumentException" ["java/lang/RuntimeException", "java/lang/Exception"]).filter (fun w => !goodWord w), w ∈ bz_tng "java/lang/IllegalArgumentException" := by decide +kernel
theorem bz_xo_3 : ∀ w ∈ Cond.classLink "BarcodeEngine" 90 "java/lang/IllegalArgumentException" :: Cond.initialized "java/lang/IllegalArgumentException" :: vx_atS "BarcodeEngine" 94 "java/lang/IllegalArgumentException" ["java/lang/RuntimeException", "java/lang/Exception"], vx_ot w = true := by decide +kernel
theorem bz_xk_4 : Cond.classLink "BarcodeEngine" 269 "java/util/NoSuchElementException" ∈ bz_W := List.mem_filter.mpr ⟨List.mem_of_getElem? (i := 1124) (by decide +kernel), rfl⟩
theorem bz_xi_4 : Cond.initialized "java/util/NoSuchElementException" ∈ bz_W := List.mem_filter.mpr ⟨List.mem_of_getElem? (i := 115) (by decide +kernel), rfl⟩
theorem bz_xall {c : Nat} (hc : c = 1 ∨ c = 2 ∨ c = 3) : Bundle.fit (bz_exn c) = true ∧ Cond.classLink "BarcodeEngine" (bz_ik c) (bz_exn c) ∈ bz_W ∧ Cond.initialized (bz_exn c) ∈ bz_W ∧ (∀ w ∈ (vx_atS "BarcodeEngine" (bz_ic c) (bz_exn c) bz_tn).filter goodWord, w ∈ bz_T) ∧ (∀ w ∈ (vx_atS "BarcodeEngine" (bz_ic c) (bz_exn c) bz_tn).filter (fun w => !goodWord w), w ∈ bz_tng (bz_exn c)) ∧ (∀ w ∈ Cond.classLink "BarcodeEngine" (bz_ik c) (bz_exn c) :: Cond.initialized (bz_exn c) :: vx_atS "BarcodeEngine" (bz_ic c) (bz_exn c) bz_tn, vx_ot w = true) := by
  rcases hc with rfl | rfl | rfl
  · exact ⟨by decide +kernel, bz_xk_1, bz_xi_1, bz_at_77, bz_xn_1, bz_xo_1⟩
  · exact ⟨by decide +kernel, bz_xk_2, bz_xi_2, bz_at_328, bz_xn_2, bz_xo_2⟩
  · exact ⟨by decide +kernel, bz_xk_3, bz_xi_3, bz_at_94, bz_xn_3, bz_xo_3⟩
theorem bz_tng_ok {N : bz_N} {s : State} {args : Array Value} {c : Nat} (hc : 1 ≤ c ∧ c ≤ 4) (hE : bz_E N s s.heap) : ∀ w ∈ bz_tng (bz_exn c), w.before args s = true := by
  obtain ⟨-, -, -, -, -, -, -, -, -, -, -, -, -, h17, -, -, h20, -⟩ := hE
  intro w hw
  rcases List.mem_cons.mp hw with rfl | hw
  · refine va_Nw.use rfl (h17 (bz_exn c, bz_exn c) ?_)
    rcases (show c = 1 ∨ c = 2 ∨ c = 3 ∨ c = 4 by omega) with rfl | rfl | rfl | rfl <;> decide +kernel
  · obtain ⟨x, hx, rfl⟩ := List.mem_map.mp hw
    exact va_Nw.use rfl (h20 x hx)
theorem bz_hatX {N : bz_N} {s : State} {args : Array Value} {c : Nat} {L : List Cond} (hc : 1 ≤ c ∧ c ≤ 4) (hE : bz_E N s s.heap) (hts : ∀ w ∈ bz_W, w.before args s = true) (h1 : ∀ w ∈ L.filter goodWord, w ∈ bz_T) (h2 : ∀ w ∈ L.filter (fun w => !goodWord w), w ∈ bz_tng (bz_exn c)) : ∀ w ∈ L, w.before args s = true :=
  vx_hat (fun w hw => hts w (List.mem_filter.mpr ⟨h1 w hw, (List.mem_filter.mp hw).2⟩)) h2 (bz_tng_ok hc hE)
theorem bz_xend {N : bz_N} {μ : bz_M} {c : Nat} {s : State} {H : Heap} {locs : List Loc} (hc : 1 ≤ c ∧ c ≤ 4) (hR : bz_Rep N μ H) (hS : va_S (bz_A N) s.heap H locs) : ∀ t : State, s.vm.Alike t.vm → H.size ≤ t.heap.size → (∀ q : Nat, q < H.size → t.heap[q]? = H[q]?) → bz_XC N (.inr c, sX μ) (bz_exn c) s t := by
  intro t _ h1 h2
  have e : bz_ws N (sX μ) = bz_ws N μ := rfl
  refine ⟨⟨c, rfl, rfl, hc.1, hc.2⟩, ⟨hR.1, ?_⟩, Nat.le_trans hS.1 h1, fun q q1 q2 => (h2 q (Nat.lt_of_lt_of_le q1 hS.1)).trans (hS.2.1 q q1 q2)⟩
  show va_P (nD N) vwCl (bz_ws N (sX μ)) t.heap
  rw [e]
  exact fun k x hx => (hR.2 k x hx).kept (h2 x.1 (hR.2 k x hx).lt)
theorem bz_i_throw {k : Nat} {N : bz_N} {i : Nat} {L : List (Option bz_V)} {st : List bz_V} {μ : bz_M} {c is : Nat} {tx : String} (hc : c = 1 ∨ c = 2 ∨ c = 3) (hk : bz_ow k = "BarcodeEngine") (hh : bz_hh0 k = []) (hstr : ("BarcodeEngine", is, tx) ∈ bz_strs) (hfr : 6 ≤ bz_fr k) (hlo : 90 ≤ bz_lo0 k) (hsum : bz_sum st ≤ 8)
    (d0 : decode (bz_b k) (bz_pc k i) = .ok (.new (bz_ik c), 3)) (d3 : decode (bz_b k) (bz_pc k i + 3) = .ok (.dup, 1))
    (hd : (decode (bz_b k) (bz_pc k i + 4) = .ok (.ldc is, 2) ∧ decode (bz_b k) (bz_pc k i + 6) = .ok (.invokespecial (bz_ic c), 3) ∧ decode (bz_b k) (bz_pc k i + 9) = .ok (.athrow, 1)) ∨ (decode (bz_b k) (bz_pc k i + 4) = .ok (.ldc_w is, 3) ∧ decode (bz_b k) (bz_pc k i + 7) = .ok (.invokespecial (bz_ic c), 3) ∧ decode (bz_b k) (bz_pc k i + 10) = .ok (.athrow, 1))) :
    bz_H k N i L st μ (.inr c, sX μ) := by
  have hC1 : C1 (sX μ) = C1 μ + 1 := rfl
  have hC2 : C2 (sX μ) = C2 μ + 6 := rfl
  refine ⟨⟨by show C1 μ ≤ C1 μ + 1; omega, by show C2 μ ≤ C2 μ + 6; omega⟩, ?_⟩
  intro p l e R s m args below meth c' H locs ls sv c0 s0 mc ms C a1 a2 a3 a4 a5 a6 hz hS hR hL hv
  have a3 : C1 μ + 1 ≤ c0 + mc := a3
  have a4 : C2 μ + 6 ≤ s0 + ms := a4
  have hts := C.1.2.2.2.2.2.2.2.2.1
  have hE := C.2.2.2.2
  have own := C.1.2.2.2.2.2.1
  rw [hk] at own
  have htb := C.1.2.2.2.2.2.2.2.2.2
  rw [hh] at htb
  obtain ⟨q1, q2, q3, q4, q5, q6⟩ := bz_xall hc
  have hc4 : 1 ≤ c ∧ c ≤ 4 := by omega
  obtain ⟨sa, hsa⟩ := hE.2.1 _ hstr
  have hF := C.2.1
  have hL0 := C.2.2.1
  have hsv := bz_vs_sum hv
  have hout : ∀ (pc : Nat), ∀ x ∈ c'.exceptionTable.toList, covers x pc = false := fun pc x hx => by rw [htb] at hx; cases hx
  rcases hd with ⟨d4, d6, d9⟩ | ⟨d4, d6, d9⟩
  · exact vx_throwS C.1.1 C.1.2.2.1 C.1.2.1 own q1 bz_tn_ok (hts _ q2) (hts _ q3) hsa (bz_hatX hc4 hE hts q4 q5) q6 hE.2.2.2.1.1 hE.2.2.2.1.2 hS (by rw [C.1.2.2.2.1]; exact hL.1) d0 d3 d4 d6 d9 (hout _) (by show 2 + 3 < R.frames; omega) (by rw [hsv]; show bz_sum st + 82 ≤ R.locals; omega) (by omega) (by omega) C.1.2.2.2.2.1 (bz_xend hc4 hR hS) hS.2.2 (by omega) (by omega)
  · exact vx_throwSW C.1.1 C.1.2.2.1 C.1.2.1 own q1 bz_tn_ok (hts _ q2) (hts _ q3) hsa (bz_hatX hc4 hE hts q4 q5) q6 hE.2.2.2.1.1 hE.2.2.2.1.2 hS (by rw [C.1.2.2.2.1]; exact hL.1) d0 d3 d4 d6 d9 (hout _) (by show 2 + 3 < R.frames; omega) (by rw [hsv]; show bz_sum st + 82 ≤ R.locals; omega) (by omega) (by omega) C.1.2.2.2.2.1 (bz_xend hc4 hR hS) hS.2.2 (by omega) (by omega)
