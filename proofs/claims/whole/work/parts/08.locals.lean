/-! LOCALS, BRANCHES -/
theorem bz_vr_ref {N : bz_N} {a : Nat} {w : Value} (h : bz_vr N (zR a) w) : w = .null ∨ ∃ q, w = .ref q := by
  unfold bz_vr at h
  dsimp only at h
  split at h
  · exact h
  · exact Or.inr ⟨_, h⟩
theorem bz_vr_in {N : bz_N} {a : Nat} {w : Value} (h : bz_vr N (zR a) w) (ha : a ≠ 15) : w = .ref (bz_ad N a) := by
  unfold bz_vr at h
  dsimp only at h
  rw [if_neg ha] at h
  exact h
theorem bz_i_iload {k : Nat} {N : bz_N} {i : Nat} {L : List (Option bz_V)} {st : List bz_V} {μ : bz_M} {res : bz_R} {x : Int} {j : Nat} (hd : decode (bz_b k) (bz_pc k i) = .ok (.iload j, 2)) (hp : bz_pc k (i + 1) = bz_pc k i + 2) (hl : L[j]? = some (some (zI x))) (h : bz_H k N (i + 1) L (zI x :: st) μ res) : bz_H k N i L st μ res := by
  refine ⟨h.1, ?_⟩
  intro p l e R s m args below meth c H locs ls sv c0 s0 mc ms C a1 a2 a3 a4 a5 a6 hz hS hR hL hv
  obtain ⟨w, hw, n, rfl, e1⟩ := hL.2.2.2.1 j _ hl
  have K := h.2 p l e R s m args below meth c H locs ls (_ :: sv) c0 s0 mc ms C a1 a2 a3 a4 a5 a6 hz hS hR hL ⟨⟨n, rfl, e1⟩, hv⟩
  rw [hp] at K
  exact lv_iload C.1.1 C.1.2.2.1 hd hw K
theorem bz_i_iloadn {k : Nat} {N : bz_N} {i : Nat} {L : List (Option bz_V)} {st : List bz_V} {μ : bz_M} {res : bz_R} {x : Int} {j : Nat} {jj : Fin 4} (hj : (jj : Nat) = j) (hd : decode (bz_b k) (bz_pc k i) = .ok (.iload_n jj, 1)) (hp : bz_pc k (i + 1) = bz_pc k i + 1) (hl : L[j]? = some (some (zI x))) (h : bz_H k N (i + 1) L (zI x :: st) μ res) : bz_H k N i L st μ res := by
  refine ⟨h.1, ?_⟩
  intro p l e R s m args below meth c H locs ls sv c0 s0 mc ms C a1 a2 a3 a4 a5 a6 hz hS hR hL hv
  obtain ⟨w, hw, n, rfl, e1⟩ := hL.2.2.2.1 j _ hl
  have K := h.2 p l e R s m args below meth c H locs ls (_ :: sv) c0 s0 mc ms C a1 a2 a3 a4 a5 a6 hz hS hR hL ⟨⟨n, rfl, e1⟩, hv⟩
  rw [hp] at K
  exact lv_iload_n C.1.1 C.1.2.2.1 hd hj hw K
theorem bz_i_lload {k : Nat} {N : bz_N} {i : Nat} {L : List (Option bz_V)} {st : List bz_V} {μ : bz_M} {res : bz_R} {x : Int} {j : Nat} (hd : decode (bz_b k) (bz_pc k i) = .ok (.lload j, 2)) (hp : bz_pc k (i + 1) = bz_pc k i + 2) (hl : L[j]? = some (some (zL x))) (h : bz_H k N (i + 1) L (zL x :: st) μ res) : bz_H k N i L st μ res := by
  refine ⟨h.1, ?_⟩
  intro p l e R s m args below meth c H locs ls sv c0 s0 mc ms C a1 a2 a3 a4 a5 a6 hz hS hR hL hv
  obtain ⟨w, hw, n, rfl, e1⟩ := hL.2.2.2.1 j _ hl
  have K := h.2 p l e R s m args below meth c H locs ls (_ :: sv) c0 s0 mc ms C a1 a2 a3 a4 a5 a6 hz hS hR hL ⟨⟨n, rfl, e1⟩, hv⟩
  rw [hp] at K
  exact lv_lload C.1.1 C.1.2.2.1 hd hw K
theorem bz_i_lloadn {k : Nat} {N : bz_N} {i : Nat} {L : List (Option bz_V)} {st : List bz_V} {μ : bz_M} {res : bz_R} {x : Int} {j : Nat} {jj : Fin 4} (hj : (jj : Nat) = j) (hd : decode (bz_b k) (bz_pc k i) = .ok (.lload_n jj, 1)) (hp : bz_pc k (i + 1) = bz_pc k i + 1) (hl : L[j]? = some (some (zL x))) (h : bz_H k N (i + 1) L (zL x :: st) μ res) : bz_H k N i L st μ res := by
  refine ⟨h.1, ?_⟩
  intro p l e R s m args below meth c H locs ls sv c0 s0 mc ms C a1 a2 a3 a4 a5 a6 hz hS hR hL hv
  obtain ⟨w, hw, n, rfl, e1⟩ := hL.2.2.2.1 j _ hl
  have K := h.2 p l e R s m args below meth c H locs ls (_ :: sv) c0 s0 mc ms C a1 a2 a3 a4 a5 a6 hz hS hR hL ⟨⟨n, rfl, e1⟩, hv⟩
  rw [hp] at K
  exact lv_lload_n C.1.1 C.1.2.2.1 hd hj hw K
theorem bz_i_aload {k : Nat} {N : bz_N} {i : Nat} {L : List (Option bz_V)} {st : List bz_V} {μ : bz_M} {res : bz_R} {a : Nat} {j : Nat} (hd : decode (bz_b k) (bz_pc k i) = .ok (.aload j, 2)) (hp : bz_pc k (i + 1) = bz_pc k i + 2) (hl : L[j]? = some (some (zR a))) (h : bz_H k N (i + 1) L (zR a :: st) μ res) : bz_H k N i L st μ res := by
  refine ⟨h.1, ?_⟩
  intro p l e R s m args below meth c H locs ls sv c0 s0 mc ms C a1 a2 a3 a4 a5 a6 hz hS hR hL hv
  obtain ⟨w, hw, hvr⟩ := hL.2.2.2.1 j _ hl
  have K := h.2 p l e R s m args below meth c H locs ls (w :: sv) c0 s0 mc ms C a1 a2 a3 a4 a5 a6 hz hS hR hL ⟨hvr, hv⟩
  rw [hp] at K
  rcases bz_vr_ref hvr with rfl | ⟨q, rfl⟩
  · exact lv_aloadN C.1.1 C.1.2.2.1 hd hw K
  · exact lv_aload C.1.1 C.1.2.2.1 hd hw K
theorem bz_i_aloadn {k : Nat} {N : bz_N} {i : Nat} {L : List (Option bz_V)} {st : List bz_V} {μ : bz_M} {res : bz_R} {a : Nat} {j : Nat} {jj : Fin 4} (hj : (jj : Nat) = j) (hd : decode (bz_b k) (bz_pc k i) = .ok (.aload_n jj, 1)) (hp : bz_pc k (i + 1) = bz_pc k i + 1) (hl : L[j]? = some (some (zR a))) (h : bz_H k N (i + 1) L (zR a :: st) μ res) : bz_H k N i L st μ res := by
  refine ⟨h.1, ?_⟩
  intro p l e R s m args below meth c H locs ls sv c0 s0 mc ms C a1 a2 a3 a4 a5 a6 hz hS hR hL hv
  obtain ⟨w, hw, hvr⟩ := hL.2.2.2.1 j _ hl
  have K := h.2 p l e R s m args below meth c H locs ls (w :: sv) c0 s0 mc ms C a1 a2 a3 a4 a5 a6 hz hS hR hL ⟨hvr, hv⟩
  rw [hp] at K
  rcases bz_vr_ref hvr with rfl | ⟨q, rfl⟩
  · exact lv_aload_nN C.1.1 C.1.2.2.1 hd hj hw K
  · exact lv_aload_n C.1.1 C.1.2.2.1 hd hj hw K
theorem bz_i_istore {k : Nat} {N : bz_N} {i : Nat} {L : List (Option bz_V)} {st : List bz_V} {μ : bz_M} {res : bz_R} {x : Int} {j : Nat} (hd : decode (bz_b k) (bz_pc k i) = .ok (.istore j, 2)) (hp : bz_pc k (i + 1) = bz_pc k i + 2) (hj2 : j < bz_ml k) (hg : ∀ q, q + 1 = j → q ∉ bz_lgs k) (h : bz_H k N (i + 1) (L.set j (some (zI x))) st μ res) : bz_H k N i L (zI x :: st) μ res := by
  refine ⟨h.1, ?_⟩
  intro p l e R s m args below meth c H locs ls sv c0 s0 mc ms C a1 a2 a3 a4 a5 a6 hz hS hR hL hv
  obtain ⟨w1, ws, rfl, hvr, t⟩ := bz_vs1 hv
  obtain ⟨n1, rfl, e1⟩ := id hvr
  refine lv_istore C.1.1 C.1.2.2.1 hd (bz_lv_has hL) hj2 rfl fun ls' h' => ?_
  rw [← hp]
  exact h.2 p l e R s m args below meth c H locs ls' ws c0 s0 mc ms C a1 a2 a3 a4 a5 a6 hz hS hR (bz_ll_set hL hvr rfl hg h') t
theorem bz_i_istoren {k : Nat} {N : bz_N} {i : Nat} {L : List (Option bz_V)} {st : List bz_V} {μ : bz_M} {res : bz_R} {x : Int} {j : Nat} {jj : Fin 4} (hj : (jj : Nat) = j) (hd : decode (bz_b k) (bz_pc k i) = .ok (.istore_n jj, 1)) (hp : bz_pc k (i + 1) = bz_pc k i + 1) (hj2 : j < bz_ml k) (hg : ∀ q, q + 1 = j → q ∉ bz_lgs k) (h : bz_H k N (i + 1) (L.set j (some (zI x))) st μ res) : bz_H k N i L (zI x :: st) μ res := by
  refine ⟨h.1, ?_⟩
  intro p l e R s m args below meth c H locs ls sv c0 s0 mc ms C a1 a2 a3 a4 a5 a6 hz hS hR hL hv
  obtain ⟨w1, ws, rfl, hvr, t⟩ := bz_vs1 hv
  obtain ⟨n1, rfl, e1⟩ := id hvr
  refine lv_istore_n C.1.1 C.1.2.2.1 hd hj (bz_lv_has hL) hj2 rfl fun ls' h' => ?_
  rw [← hp]
  exact h.2 p l e R s m args below meth c H locs ls' ws c0 s0 mc ms C a1 a2 a3 a4 a5 a6 hz hS hR (bz_ll_set hL hvr rfl hg h') t
theorem bz_i_astore {k : Nat} {N : bz_N} {i : Nat} {L : List (Option bz_V)} {st : List bz_V} {μ : bz_M} {res : bz_R} {a : Nat} {j : Nat} (hd : decode (bz_b k) (bz_pc k i) = .ok (.astore j, 2)) (hp : bz_pc k (i + 1) = bz_pc k i + 2) (hj2 : j < bz_ml k) (hg : ∀ q, q + 1 = j → q ∉ bz_lgs k) (h : bz_H k N (i + 1) (L.set j (some (zR a))) st μ res) : bz_H k N i L (zR a :: st) μ res := by
  refine ⟨h.1, ?_⟩
  intro p l e R s m args below meth c H locs ls sv c0 s0 mc ms C a1 a2 a3 a4 a5 a6 hz hS hR hL hv
  obtain ⟨w1, ws, rfl, hvr, t⟩ := bz_vs1 hv
  rcases bz_vr_ref hvr with rfl | ⟨q, rfl⟩
  · refine lv_astoreN C.1.1 C.1.2.2.1 hd (bz_lv_has hL) hj2 rfl fun ls' h' => ?_
    rw [← hp]
    exact h.2 p l e R s m args below meth c H locs ls' ws c0 s0 mc ms C a1 a2 a3 a4 a5 a6 hz hS hR (bz_ll_set hL hvr rfl hg h') t
  · refine lv_astore C.1.1 C.1.2.2.1 hd (bz_lv_has hL) hj2 rfl fun ls' h' => ?_
    rw [← hp]
    exact h.2 p l e R s m args below meth c H locs ls' ws c0 s0 mc ms C a1 a2 a3 a4 a5 a6 hz hS hR (bz_ll_set hL hvr rfl hg h') t
theorem bz_i_astoren {k : Nat} {N : bz_N} {i : Nat} {L : List (Option bz_V)} {st : List bz_V} {μ : bz_M} {res : bz_R} {a : Nat} {j : Nat} {jj : Fin 4} (hj : (jj : Nat) = j) (hd : decode (bz_b k) (bz_pc k i) = .ok (.astore_n jj, 1)) (hp : bz_pc k (i + 1) = bz_pc k i + 1) (hj2 : j < bz_ml k) (hg : ∀ q, q + 1 = j → q ∉ bz_lgs k) (h : bz_H k N (i + 1) (L.set j (some (zR a))) st μ res) : bz_H k N i L (zR a :: st) μ res := by
  refine ⟨h.1, ?_⟩
  intro p l e R s m args below meth c H locs ls sv c0 s0 mc ms C a1 a2 a3 a4 a5 a6 hz hS hR hL hv
  obtain ⟨w1, ws, rfl, hvr, t⟩ := bz_vs1 hv
  rcases bz_vr_ref hvr with rfl | ⟨q, rfl⟩
  · refine lv_astore_nN C.1.1 C.1.2.2.1 hd hj (bz_lv_has hL) hj2 rfl fun ls' h' => ?_
    rw [← hp]
    exact h.2 p l e R s m args below meth c H locs ls' ws c0 s0 mc ms C a1 a2 a3 a4 a5 a6 hz hS hR (bz_ll_set hL hvr rfl hg h') t
  · refine lv_astore_n C.1.1 C.1.2.2.1 hd hj (bz_lv_has hL) hj2 rfl fun ls' h' => ?_
    rw [← hp]
    exact h.2 p l e R s m args below meth c H locs ls' ws c0 s0 mc ms C a1 a2 a3 a4 a5 a6 hz hS hR (bz_ll_set hL hvr rfl hg h') t
theorem bz_i_lstore {k : Nat} {N : bz_N} {i : Nat} {L : List (Option bz_V)} {st : List bz_V} {μ : bz_M} {res : bz_R} {x : Int} {j : Nat} (hd : decode (bz_b k) (bz_pc k i) = .ok (.lstore j, 2)) (hp : bz_pc k (i + 1) = bz_pc k i + 2) (hj2 : j + 1 < bz_ml k) (hi : j ∈ bz_lgs k) (hg : ∀ q, q + 1 = j → q ∉ bz_lgs k) (h : bz_H k N (i + 1) ((L.set j (some (zL x))).set (j + 1) none) st μ res) : bz_H k N i L (zL x :: st) μ res := by
  refine ⟨h.1, ?_⟩
  intro p l e R s m args below meth c H locs ls sv c0 s0 mc ms C a1 a2 a3 a4 a5 a6 hz hS hR hL hv
  obtain ⟨w1, ws, rfl, hvr, t⟩ := bz_vs1 hv
  obtain ⟨n1, rfl, e1⟩ := id hvr
  refine lv_lstore C.1.1 C.1.2.2.1 hd (bz_lv_has hL) hj2 rfl fun ls' h' => ?_
  rw [← hp]
  exact h.2 p l e R s m args below meth c H locs ls' ws c0 s0 mc ms C a1 a2 a3 a4 a5 a6 hz hS hR (bz_ll_setl hL hvr hi hg h') t
theorem bz_i_lstoren {k : Nat} {N : bz_N} {i : Nat} {L : List (Option bz_V)} {st : List bz_V} {μ : bz_M} {res : bz_R} {x : Int} {j : Nat} {jj : Fin 4} (hj : (jj : Nat) = j) (hd : decode (bz_b k) (bz_pc k i) = .ok (.lstore_n jj, 1)) (hp : bz_pc k (i + 1) = bz_pc k i + 1) (hj2 : j + 1 < bz_ml k) (hi : j ∈ bz_lgs k) (hg : ∀ q, q + 1 = j → q ∉ bz_lgs k) (h : bz_H k N (i + 1) ((L.set j (some (zL x))).set (j + 1) none) st μ res) : bz_H k N i L (zL x :: st) μ res := by
  refine ⟨h.1, ?_⟩
  intro p l e R s m args below meth c H locs ls sv c0 s0 mc ms C a1 a2 a3 a4 a5 a6 hz hS hR hL hv
  obtain ⟨w1, ws, rfl, hvr, t⟩ := bz_vs1 hv
  obtain ⟨n1, rfl, e1⟩ := id hvr
  refine lv_lstore_n C.1.1 C.1.2.2.1 hd hj (bz_lv_has hL) hj2 rfl fun ls' h' => ?_
  rw [← hp]
  exact h.2 p l e R s m args below meth c H locs ls' ws c0 s0 mc ms C a1 a2 a3 a4 a5 a6 hz hS hR (bz_ll_setl hL hvr hi hg h') t
theorem bz_i_iinc {k : Nat} {N : bz_N} {i : Nat} {L : List (Option bz_V)} {st : List bz_V} {μ : bz_M} {res : bz_R} {x c9 : Int} {j : Nat} (hd : decode (bz_b k) (bz_pc k i) = .ok (.iinc j c9, 3)) (hp : bz_pc k (i + 1) = bz_pc k i + 3) (hc9 : (Int32.ofInt c9).toInt = c9) (hl : L[j]? = some (some (zI x))) (hj2 : j < bz_ml k) (hg : ∀ q, q + 1 = j → q ∉ bz_lgs k) (h : bz_H k N (i + 1) (L.set j (some (zI (wr (x + c9))))) st μ res) : bz_H k N i L st μ res := by
  refine ⟨h.1, ?_⟩
  intro p l e R s m args below meth c H locs ls sv c0 s0 mc ms C a1 a2 a3 a4 a5 a6 hz hS hR hL hv
  obtain ⟨w, hw, n, rfl, e1⟩ := hL.2.2.2.1 j _ hl
  obtain ⟨kk, hkk⟩ := List.getElem?_of_mem ((bz_lv_in (q := (j, Value.int n))).mpr hw)
  refine lv_iinc C.1.1 C.1.2.2.1 hd (bz_lv_has hL) hkk rfl hj2 rfl fun ls' h' => ?_
  rw [← hp]
  exact h.2 p l e R s m args below meth c H locs ls' sv c0 s0 mc ms C a1 a2 a3 a4 a5 a6 hz hS hR (bz_ll_set (v := zI (wr (x + c9))) hL ⟨_, rfl, by rw [bz_add, e1, hc9]⟩ rfl hg h') hv
theorem bz_i_mask {k : Nat} {N : bz_N} {i m9 : Nat} {L : List (Option bz_V)} {st : List bz_V} {μ : bz_M} {res : bz_R} (h : bz_H k N i (bz_mk m9 L) st μ res) : bz_H k N i L st μ res := by
  refine ⟨h.1, ?_⟩
  intro p l e R s m args below meth c H locs ls sv c0 s0 mc ms C a1 a2 a3 a4 a5 a6 hz hS hR hL hv
  exact h.2 p l e R s m args below meth c H locs ls sv c0 s0 mc ms C a1 a2 a3 a4 a5 a6 hz hS hR (bz_ll_mk hL) hv
theorem bz_i_cut {k : Nat} {N : bz_N} {i j : Nat} {L : List (Option bz_V)} {st : List bz_V} {μ : bz_M} {res : bz_R} (hp : bz_pc k j = bz_pc k i) (h : bz_H k N j L st μ res) : bz_H k N i L st μ res := by
  refine ⟨h.1, ?_⟩
  intro p l e R s m args below meth c H locs ls sv c0 s0 mc ms C a1 a2 a3 a4 a5 a6 hz hS hR hL hv
  rw [← hp]
  exact h.2 p l e R s m args below meth c H locs ls sv c0 s0 mc ms C a1 a2 a3 a4 a5 a6 hz hS hR hL hv
theorem bz_i_goto {k : Nat} {N : bz_N} {i : Nat} {L : List (Option bz_V)} {st : List bz_V} {μ : bz_M} {res : bz_R} {t : Nat} {off : Int} (hd : decode (bz_b k) (bz_pc k i) = .ok (.goto off, 3)) (ht : (bz_pc k i : Int) + off = (bz_pc k t : Int)) (h : bz_H k N t L st μ res) : bz_H k N i L st μ res :=
  bz_pure h fun sv hv => ⟨sv, hv, fun p l e R s m args below meth c H locs cells slots Q ls C kk => lv_goto C.1.1 C.1.2.2.1 hd ht kk⟩
theorem bz_i_if {k : Nat} {N : bz_N} {i : Nat} {L : List (Option bz_V)} {st : List bz_V} {μ : bz_M} {res : bz_R} {x : Int} {t : Nat} {off : Int} {cc : ClassFile.Cond} {A B : Option bz_R} (hd : decode (bz_b k) (bz_pc k i) = .ok (.ifCond cc off, 3)) (hp : bz_pc k (i + 1) = bz_pc k i + 3) (ht : (bz_pc k i : Int) + off = (bz_pc k t : Int)) (hh : bz_if cc x 0 A B = some res)
    (hA : A = some res → bz_H k N t L st μ res) (hB : B = some res → bz_H k N (i + 1) L st μ res) : bz_H k N i L (zI x :: st) μ res := by
  unfold bz_if at hh
  cases cc <;> dsimp only at hh <;> split at hh
  · rename_i hq
    have G := hA hh
    refine bz_pure G fun sv hv => ?_
    obtain ⟨w1, ws, rfl, ⟨n1, rfl, e1⟩, t⟩ := bz_vs1 hv
    exact ⟨ws, t, fun p l e R s m args below meth c H locs cells slots Q ls C kk => lv_if_eq C.1.1 C.1.2.2.1 hd ht (fun _ => kk) (fun q => absurd q (by simp only [bz_eq0, bz_lt0, bz_le0, e1, bz_z]; omega))⟩
  · rename_i hq
    have G := hB hh
    refine bz_pure G fun sv hv => ?_
    obtain ⟨w1, ws, rfl, ⟨n1, rfl, e1⟩, t⟩ := bz_vs1 hv
    exact ⟨ws, t, fun p l e R s m args below meth c H locs cells slots Q ls C kk => lv_if_eq C.1.1 C.1.2.2.1 hd ht (fun q => absurd q (by simp only [bz_eq0, bz_lt0, bz_le0, e1, bz_z]; omega)) (fun _ => hp ▸ kk)⟩
  · rename_i hq
    have G := hB hh
    refine bz_pure G fun sv hv => ?_
    obtain ⟨w1, ws, rfl, ⟨n1, rfl, e1⟩, t⟩ := bz_vs1 hv
    exact ⟨ws, t, fun p l e R s m args below meth c H locs cells slots Q ls C kk => lv_if_ne C.1.1 C.1.2.2.1 hd ht (fun q => absurd q (by simp only [bz_eq0, bz_lt0, bz_le0, e1, bz_z]; omega)) (fun _ => hp ▸ kk)⟩
  · rename_i hq
    have G := hA hh
    refine bz_pure G fun sv hv => ?_
    obtain ⟨w1, ws, rfl, ⟨n1, rfl, e1⟩, t⟩ := bz_vs1 hv
    exact ⟨ws, t, fun p l e R s m args below meth c H locs cells slots Q ls C kk => lv_if_ne C.1.1 C.1.2.2.1 hd ht (fun _ => kk) (fun q => absurd q (by simp only [bz_eq0, bz_lt0, bz_le0, e1, bz_z]; omega))⟩
  · rename_i hq
    have G := hA hh
    refine bz_pure G fun sv hv => ?_
    obtain ⟨w1, ws, rfl, ⟨n1, rfl, e1⟩, t⟩ := bz_vs1 hv
    exact ⟨ws, t, fun p l e R s m args below meth c H locs cells slots Q ls C kk => lv_if_lt C.1.1 C.1.2.2.1 hd ht (fun _ => kk) (fun q => absurd q (by simp only [bz_eq0, bz_lt0, bz_le0, e1, bz_z]; omega))⟩
  · rename_i hq
    have G := hB hh
    refine bz_pure G fun sv hv => ?_
    obtain ⟨w1, ws, rfl, ⟨n1, rfl, e1⟩, t⟩ := bz_vs1 hv
    exact ⟨ws, t, fun p l e R s m args below meth c H locs cells slots Q ls C kk => lv_if_lt C.1.1 C.1.2.2.1 hd ht (fun q => absurd q (by simp only [bz_eq0, bz_lt0, bz_le0, e1, bz_z]; omega)) (fun _ => hp ▸ kk)⟩
  · rename_i hq
    have G := hB hh
    refine bz_pure G fun sv hv => ?_
    obtain ⟨w1, ws, rfl, ⟨n1, rfl, e1⟩, t⟩ := bz_vs1 hv
    exact ⟨ws, t, fun p l e R s m args below meth c H locs cells slots Q ls C kk => lv_if_ge C.1.1 C.1.2.2.1 hd ht (fun q => absurd q (by simp only [bz_eq0, bz_lt0, bz_le0, e1, bz_z]; omega)) (fun _ => hp ▸ kk)⟩
  · rename_i hq
    have G := hA hh
    refine bz_pure G fun sv hv => ?_
    obtain ⟨w1, ws, rfl, ⟨n1, rfl, e1⟩, t⟩ := bz_vs1 hv
    exact ⟨ws, t, fun p l e R s m args below meth c H locs cells slots Q ls C kk => lv_if_ge C.1.1 C.1.2.2.1 hd ht (fun _ => kk) (fun q => absurd q (by simp only [bz_eq0, bz_lt0, bz_le0, e1, bz_z]; omega))⟩
  · rename_i hq
    have G := hA hh
    refine bz_pure G fun sv hv => ?_
    obtain ⟨w1, ws, rfl, ⟨n1, rfl, e1⟩, t⟩ := bz_vs1 hv
    exact ⟨ws, t, fun p l e R s m args below meth c H locs cells slots Q ls C kk => lv_if_gt C.1.1 C.1.2.2.1 hd ht (fun _ => kk) (fun q => absurd q (by simp only [bz_eq0, bz_lt0, bz_le0, e1, bz_z]; omega))⟩
  · rename_i hq
    have G := hB hh
    refine bz_pure G fun sv hv => ?_
    obtain ⟨w1, ws, rfl, ⟨n1, rfl, e1⟩, t⟩ := bz_vs1 hv
    exact ⟨ws, t, fun p l e R s m args below meth c H locs cells slots Q ls C kk => lv_if_gt C.1.1 C.1.2.2.1 hd ht (fun q => absurd q (by simp only [bz_eq0, bz_lt0, bz_le0, e1, bz_z]; omega)) (fun _ => hp ▸ kk)⟩
  · rename_i hq
    have G := hB hh
    refine bz_pure G fun sv hv => ?_
    obtain ⟨w1, ws, rfl, ⟨n1, rfl, e1⟩, t⟩ := bz_vs1 hv
    exact ⟨ws, t, fun p l e R s m args below meth c H locs cells slots Q ls C kk => lv_if_le C.1.1 C.1.2.2.1 hd ht (fun q => absurd q (by simp only [bz_eq0, bz_lt0, bz_le0, e1, bz_z]; omega)) (fun _ => hp ▸ kk)⟩
  · rename_i hq
    have G := hA hh
    refine bz_pure G fun sv hv => ?_
    obtain ⟨w1, ws, rfl, ⟨n1, rfl, e1⟩, t⟩ := bz_vs1 hv
    exact ⟨ws, t, fun p l e R s m args below meth c H locs cells slots Q ls C kk => lv_if_le C.1.1 C.1.2.2.1 hd ht (fun _ => kk) (fun q => absurd q (by simp only [bz_eq0, bz_lt0, bz_le0, e1, bz_z]; omega))⟩
theorem bz_i_icmp {k : Nat} {N : bz_N} {i : Nat} {L : List (Option bz_V)} {st : List bz_V} {μ : bz_M} {res : bz_R} {x y : Int} {t : Nat} {off : Int} {cc : ClassFile.Cond} {A B : Option bz_R} (hd : decode (bz_b k) (bz_pc k i) = .ok (.if_icmp cc off, 3)) (hp : bz_pc k (i + 1) = bz_pc k i + 3) (ht : (bz_pc k i : Int) + off = (bz_pc k t : Int)) (hh : bz_if cc x y A B = some res)
    (hA : A = some res → bz_H k N t L st μ res) (hB : B = some res → bz_H k N (i + 1) L st μ res) : bz_H k N i L (zI y :: zI x :: st) μ res := by
  unfold bz_if at hh
  cases cc <;> dsimp only at hh <;> split at hh
  · rename_i hq
    have G := hA hh
    refine bz_pure G fun sv hv => ?_
    obtain ⟨w1, w2, ws, rfl, ⟨n1, rfl, e1⟩, ⟨n2, rfl, e2⟩, t⟩ := bz_vs2 hv
    exact ⟨ws, t, fun p l e R s m args below meth c H locs cells slots Q ls C kk => lv_icmp_eq C.1.1 C.1.2.2.1 hd ht (fun _ => kk) (fun q => absurd q (by simp only [bz_eq0, bz_lt0, bz_le0, e2, e1]; omega))⟩
  · rename_i hq
    have G := hB hh
    refine bz_pure G fun sv hv => ?_
    obtain ⟨w1, w2, ws, rfl, ⟨n1, rfl, e1⟩, ⟨n2, rfl, e2⟩, t⟩ := bz_vs2 hv
    exact ⟨ws, t, fun p l e R s m args below meth c H locs cells slots Q ls C kk => lv_icmp_eq C.1.1 C.1.2.2.1 hd ht (fun q => absurd q (by simp only [bz_eq0, bz_lt0, bz_le0, e2, e1]; omega)) (fun _ => hp ▸ kk)⟩
  · rename_i hq
    have G := hB hh
    refine bz_pure G fun sv hv => ?_
    obtain ⟨w1, w2, ws, rfl, ⟨n1, rfl, e1⟩, ⟨n2, rfl, e2⟩, t⟩ := bz_vs2 hv
    exact ⟨ws, t, fun p l e R s m args below meth c H locs cells slots Q ls C kk => lv_icmp_ne C.1.1 C.1.2.2.1 hd ht (fun q => absurd q (by simp only [bz_eq0, bz_lt0, bz_le0, e2, e1]; omega)) (fun _ => hp ▸ kk)⟩
  · rename_i hq
    have G := hA hh
    refine bz_pure G fun sv hv => ?_
    obtain ⟨w1, w2, ws, rfl, ⟨n1, rfl, e1⟩, ⟨n2, rfl, e2⟩, t⟩ := bz_vs2 hv
    exact ⟨ws, t, fun p l e R s m args below meth c H locs cells slots Q ls C kk => lv_icmp_ne C.1.1 C.1.2.2.1 hd ht (fun _ => kk) (fun q => absurd q (by simp only [bz_eq0, bz_lt0, bz_le0, e2, e1]; omega))⟩
  · rename_i hq
    have G := hA hh
    refine bz_pure G fun sv hv => ?_
    obtain ⟨w1, w2, ws, rfl, ⟨n1, rfl, e1⟩, ⟨n2, rfl, e2⟩, t⟩ := bz_vs2 hv
    exact ⟨ws, t, fun p l e R s m args below meth c H locs cells slots Q ls C kk => lv_icmp_lt C.1.1 C.1.2.2.1 hd ht (fun _ => kk) (fun q => absurd q (by simp only [bz_eq0, bz_lt0, bz_le0, e2, e1]; omega))⟩
  · rename_i hq
    have G := hB hh
    refine bz_pure G fun sv hv => ?_
    obtain ⟨w1, w2, ws, rfl, ⟨n1, rfl, e1⟩, ⟨n2, rfl, e2⟩, t⟩ := bz_vs2 hv
    exact ⟨ws, t, fun p l e R s m args below meth c H locs cells slots Q ls C kk => lv_icmp_lt C.1.1 C.1.2.2.1 hd ht (fun q => absurd q (by simp only [bz_eq0, bz_lt0, bz_le0, e2, e1]; omega)) (fun _ => hp ▸ kk)⟩
  · rename_i hq
    have G := hB hh
    refine bz_pure G fun sv hv => ?_
    obtain ⟨w1, w2, ws, rfl, ⟨n1, rfl, e1⟩, ⟨n2, rfl, e2⟩, t⟩ := bz_vs2 hv
    exact ⟨ws, t, fun p l e R s m args below meth c H locs cells slots Q ls C kk => lv_icmp_ge C.1.1 C.1.2.2.1 hd ht (fun q => absurd q (by simp only [bz_eq0, bz_lt0, bz_le0, e2, e1]; omega)) (fun _ => hp ▸ kk)⟩
  · rename_i hq
    have G := hA hh
    refine bz_pure G fun sv hv => ?_
    obtain ⟨w1, w2, ws, rfl, ⟨n1, rfl, e1⟩, ⟨n2, rfl, e2⟩, t⟩ := bz_vs2 hv
    exact ⟨ws, t, fun p l e R s m args below meth c H locs cells slots Q ls C kk => lv_icmp_ge C.1.1 C.1.2.2.1 hd ht (fun _ => kk) (fun q => absurd q (by simp only [bz_eq0, bz_lt0, bz_le0, e2, e1]; omega))⟩
  · rename_i hq
    have G := hA hh
    refine bz_pure G fun sv hv => ?_
    obtain ⟨w1, w2, ws, rfl, ⟨n1, rfl, e1⟩, ⟨n2, rfl, e2⟩, t⟩ := bz_vs2 hv
    exact ⟨ws, t, fun p l e R s m args below meth c H locs cells slots Q ls C kk => lv_icmp_gt C.1.1 C.1.2.2.1 hd ht (fun _ => kk) (fun q => absurd q (by simp only [bz_eq0, bz_lt0, bz_le0, e2, e1]; omega))⟩
  · rename_i hq
    have G := hB hh
    refine bz_pure G fun sv hv => ?_
    obtain ⟨w1, w2, ws, rfl, ⟨n1, rfl, e1⟩, ⟨n2, rfl, e2⟩, t⟩ := bz_vs2 hv
    exact ⟨ws, t, fun p l e R s m args below meth c H locs cells slots Q ls C kk => lv_icmp_gt C.1.1 C.1.2.2.1 hd ht (fun q => absurd q (by simp only [bz_eq0, bz_lt0, bz_le0, e2, e1]; omega)) (fun _ => hp ▸ kk)⟩
  · rename_i hq
    have G := hB hh
    refine bz_pure G fun sv hv => ?_
    obtain ⟨w1, w2, ws, rfl, ⟨n1, rfl, e1⟩, ⟨n2, rfl, e2⟩, t⟩ := bz_vs2 hv
    exact ⟨ws, t, fun p l e R s m args below meth c H locs cells slots Q ls C kk => lv_icmp_le C.1.1 C.1.2.2.1 hd ht (fun q => absurd q (by simp only [bz_eq0, bz_lt0, bz_le0, e2, e1]; omega)) (fun _ => hp ▸ kk)⟩
  · rename_i hq
    have G := hA hh
    refine bz_pure G fun sv hv => ?_
    obtain ⟨w1, w2, ws, rfl, ⟨n1, rfl, e1⟩, ⟨n2, rfl, e2⟩, t⟩ := bz_vs2 hv
    exact ⟨ws, t, fun p l e R s m args below meth c H locs cells slots Q ls C kk => lv_icmp_le C.1.1 C.1.2.2.1 hd ht (fun _ => kk) (fun q => absurd q (by simp only [bz_eq0, bz_lt0, bz_le0, e2, e1]; omega))⟩
