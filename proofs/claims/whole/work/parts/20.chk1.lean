/-! CHECKS: constants, locals, branches -/
def bz_kI (k i : Nat) (v : Int) : Bool := match bz_cs k i with
  | some (.iconst m, 1) => bz_nx k i 1 && decide ((Int32.ofInt m).toInt = v)
  | some (.bipush m, 2) => bz_nx k i 2 && decide (((Int8.ofInt m).toInt32).toInt = v)
  | some (.sipush m, 3) => bz_nx k i 3 && decide (((Int16.ofInt m).toInt32).toInt = v)
  | some (.ldc j, 2) => bz_nx k i 2 && bz_ki.any fun e => Nat.beq e.1 (bz_ocs.getD k 0) && Nat.beq e.2.1 j && decide (e.2.2.toInt = v)
  | some (.ldc_w j, 3) => bz_nx k i 3 && bz_ki.any fun e => Nat.beq e.1 (bz_ocs.getD k 0) && Nat.beq e.2.1 j && decide (e.2.2.toInt = v)
  | some (.getstatic j, 3) => bz_nx k i 3 && Nat.beq j 38 && decide (bz_ow k = "java/lang/String") && decide (v = 1)
  | _ => false
theorem bz_ki_get {k j : Nat} {v : Int} (h : (bz_ki.any fun e => Nat.beq e.1 (bz_ocs.getD k 0) && Nat.beq e.2.1 j && decide (e.2.2.toInt = v)) = true) : ∃ w : Int32, Cond.constant (bz_ow k) j w ∈ bz_W ∧ w.toInt = v := by
  obtain ⟨e, he, h2⟩ := List.any_eq_true.mp h
  rw [Bool.and_eq_true, Bool.and_eq_true] at h2
  have b1 := Nat.eq_of_beq_eq_true h2.1.1
  have b2 := Nat.eq_of_beq_eq_true h2.1.2
  have hw := bz_ki_in e he
  unfold bz_kiw at hw
  rw [b1, b2] at hw
  exact ⟨e.2.2, hw, of_decide_eq_true h2.2⟩
theorem bz_q_iconst {k : Nat} {N : bz_N} {i : Nat} {L : List (Option bz_V)} {st : List bz_V} {μ : bz_M} {res : bz_R} {v : Int} (hc : bz_kI k i v = true) (h : bz_H k N (i + 1) L (zI v :: st) μ res) : bz_H k N i L st μ res := by
  unfold bz_kI at hc
  split at hc
  · rename_i m hd
    rw [Bool.and_eq_true, decide_eq_true_eq] at hc
    rw [← hc.2] at h
    exact bz_i_iconst (len := 0) (bz_cs_eq hd) (bz_nx_eq hc.1) h
  · rename_i m hd
    rw [Bool.and_eq_true, decide_eq_true_eq] at hc
    rw [← hc.2] at h
    exact bz_i_bipush (len := 0) (bz_cs_eq hd) (bz_nx_eq hc.1) h
  · rename_i m hd
    rw [Bool.and_eq_true, decide_eq_true_eq] at hc
    rw [← hc.2] at h
    exact bz_i_sipush (len := 0) (bz_cs_eq hd) (bz_nx_eq hc.1) h
  · rename_i j hd
    rw [Bool.and_eq_true] at hc
    obtain ⟨w, h1, h2⟩ := bz_ki_get hc.2
    rw [← h2] at h
    exact bz_i_ldcI (len := 0) h1 (bz_cs_eq hd) (bz_nx_eq hc.1) h
  · rename_i j hd
    rw [Bool.and_eq_true] at hc
    obtain ⟨w, h1, h2⟩ := bz_ki_get hc.2
    rw [← h2] at h
    exact bz_i_ldcwI (len := 0) h1 (bz_cs_eq hd) (bz_nx_eq hc.1) h
  · rename_i j hd
    rw [Bool.and_eq_true, Bool.and_eq_true, Bool.and_eq_true, decide_eq_true_eq, decide_eq_true_eq] at hc
    have e1 := Nat.eq_of_beq_eq_true hc.1.1.2
    subst e1
    rw [hc.2] at h
    exact bz_i_compact (by rw [hc.1.2]; exact bz_sg_12_38) (bz_cs_eq hd) (bz_nx_eq hc.1.1.1) h
  · cases hc
def bz_kL (k i : Nat) (v : Int) : Bool := match bz_cs k i with
  | some (.lconst m, 1) => bz_nx k i 1 && decide ((Int64.ofNat (m : Nat)).toInt = v)
  | some (.ldc2_w j, 3) => bz_nx k i 3 && bz_kl.any fun e => Nat.beq e.1 (bz_ocs.getD k 0) && Nat.beq e.2.1 j && decide (e.2.2.toInt = v)
  | _ => false
theorem bz_q_bipush {k : Nat} {N : bz_N} {i : Nat} {L : List (Option bz_V)} {st : List bz_V} {μ : bz_M} {res : bz_R} {v : Int} (hc : bz_kL k i v = true) (h : bz_H k N (i + 1) L (zL v :: st) μ res) : bz_H k N i L st μ res := by
  unfold bz_kL at hc
  split at hc
  · rename_i m hd
    rw [Bool.and_eq_true, decide_eq_true_eq] at hc
    rw [← hc.2] at h
    exact bz_i_lconst (len := 0) (bz_cs_eq hd) (bz_nx_eq hc.1) h
  · rename_i j hd
    rw [Bool.and_eq_true] at hc
    obtain ⟨e, he, h2⟩ := List.any_eq_true.mp hc.2
    rw [Bool.and_eq_true, Bool.and_eq_true, decide_eq_true_eq] at h2
    have b1 := Nat.eq_of_beq_eq_true h2.1.1
    have b2 := Nat.eq_of_beq_eq_true h2.1.2
    have hw := bz_kl_in e he
    unfold bz_klw at hw
    rw [b1, b2] at hw
    rw [← h2.2] at h
    exact bz_i_ldc2 (len := 0) hw (bz_cs_eq hd) (bz_nx_eq hc.1) h
  · cases hc
def bz_kA (k i a : Nat) : Bool := match bz_cs k i with
  | some (.getstatic j, 3) => bz_nx k i 3 && (decide (a = 2 ∧ bz_ow k = "BarcodeEngine$Ean8" ∧ j = 25) || decide (a = 3 ∧ bz_ow k = "BarcodeEngine$Interleaved" ∧ j = 31) || decide (a = 4 ∧ bz_ow k = "BarcodeEngine$Codabar" ∧ j = 25) || decide (a = 15 ∧ bz_ow k = "java/lang/String" ∧ j = 1053))
  | some (.ldc_w 337, 3) => bz_nx k i 3 && decide (a = 5 ∧ bz_ow k = "BarcodeEngine")
  | some (.ldc 84, 2) => bz_nx k i 2 && decide (a = 6 ∧ bz_ow k = "BarcodeEngineModel")
  | _ => false
theorem bz_q_ldc {k : Nat} {N : bz_N} {i : Nat} {L : List (Option bz_V)} {st : List bz_V} {μ : bz_M} {res : bz_R} {a : Nat} (hc : bz_kA k i a = true) (h : bz_H k N (i + 1) L (zR a :: st) μ res) : bz_H k N i L st μ res := by
  unfold bz_kA at hc
  split at hc
  · rename_i j hd
    rw [Bool.and_eq_true, Bool.or_eq_true, Bool.or_eq_true, Bool.or_eq_true, decide_eq_true_eq, decide_eq_true_eq, decide_eq_true_eq, decide_eq_true_eq] at hc
    rcases hc.2 with ((q | q) | q) | ⟨q1, q2, q3⟩
    · exact bz_i_getA (Or.inl q) (bz_cs_eq hd) (bz_nx_eq hc.1) h
    · exact bz_i_getA (Or.inr (Or.inl q)) (bz_cs_eq hd) (bz_nx_eq hc.1) h
    · exact bz_i_getA (Or.inr (Or.inr q)) (bz_cs_eq hd) (bz_nx_eq hc.1) h
    · subst q1 q3
      exact bz_i_siobe (by rw [q2]; exact bz_sg_12_1053) (bz_cs_eq hd) (bz_nx_eq hc.1) h
  · rename_i hd
    rw [Bool.and_eq_true, decide_eq_true_eq] at hc
    obtain ⟨h1, rfl, h2⟩ := hc
    exact bz_i_ldc5 h2 (bz_cs_eq hd) (bz_nx_eq h1) h
  · rename_i hd
    rw [Bool.and_eq_true, decide_eq_true_eq] at hc
    obtain ⟨h1, rfl, h2⟩ := hc
    exact bz_i_ldc6 h2 (bz_cs_eq hd) (bz_nx_eq h1) h
  · cases hc
def bz_k_iload (k i j : Nat) : Bool := match bz_cs k i with
  | some (.iload j', 2) => bz_nx k i 2 && Nat.beq j' j
  | some (.iload_n jj, 1) => bz_nx k i 1 && Nat.beq (jj : Nat) j
  | _ => false
theorem bz_q_iload {k : Nat} {N : bz_N} {i : Nat} {L : List (Option bz_V)} {st : List bz_V} {μ : bz_M} {res : bz_R} {x : Int} {j : Nat} (hc : bz_k_iload k i j = true) (hl : L[j]? = some (some (zI x))) (h : bz_H k N (i + 1) L (zI x :: st) μ res) : bz_H k N i L st μ res := by
  unfold bz_k_iload at hc
  split at hc
  · rename_i j' hd
    rw [Bool.and_eq_true] at hc
    have e1 := Nat.eq_of_beq_eq_true hc.2
    subst e1
    exact bz_i_iload (bz_cs_eq hd) (bz_nx_eq hc.1) hl h
  · rename_i jj hd
    rw [Bool.and_eq_true] at hc
    exact bz_i_iloadn (Nat.eq_of_beq_eq_true hc.2) (bz_cs_eq hd) (bz_nx_eq hc.1) hl h
  · cases hc
def bz_k_lload (k i j : Nat) : Bool := match bz_cs k i with
  | some (.lload j', 2) => bz_nx k i 2 && Nat.beq j' j
  | some (.lload_n jj, 1) => bz_nx k i 1 && Nat.beq (jj : Nat) j
  | _ => false
theorem bz_q_lload {k : Nat} {N : bz_N} {i : Nat} {L : List (Option bz_V)} {st : List bz_V} {μ : bz_M} {res : bz_R} {x : Int} {j : Nat} (hc : bz_k_lload k i j = true) (hl : L[j]? = some (some (zL x))) (h : bz_H k N (i + 1) L (zL x :: st) μ res) : bz_H k N i L st μ res := by
  unfold bz_k_lload at hc
  split at hc
  · rename_i j' hd
    rw [Bool.and_eq_true] at hc
    have e1 := Nat.eq_of_beq_eq_true hc.2
    subst e1
    exact bz_i_lload (bz_cs_eq hd) (bz_nx_eq hc.1) hl h
  · rename_i jj hd
    rw [Bool.and_eq_true] at hc
    exact bz_i_lloadn (Nat.eq_of_beq_eq_true hc.2) (bz_cs_eq hd) (bz_nx_eq hc.1) hl h
  · cases hc
def bz_k_aload (k i j : Nat) : Bool := match bz_cs k i with
  | some (.aload j', 2) => bz_nx k i 2 && Nat.beq j' j
  | some (.aload_n jj, 1) => bz_nx k i 1 && Nat.beq (jj : Nat) j
  | _ => false
theorem bz_q_aload {k : Nat} {N : bz_N} {i : Nat} {L : List (Option bz_V)} {st : List bz_V} {μ : bz_M} {res : bz_R} {x : Nat} {j : Nat} (hc : bz_k_aload k i j = true) (hl : L[j]? = some (some (zR x))) (h : bz_H k N (i + 1) L (zR x :: st) μ res) : bz_H k N i L st μ res := by
  unfold bz_k_aload at hc
  split at hc
  · rename_i j' hd
    rw [Bool.and_eq_true] at hc
    have e1 := Nat.eq_of_beq_eq_true hc.2
    subst e1
    exact bz_i_aload (bz_cs_eq hd) (bz_nx_eq hc.1) hl h
  · rename_i jj hd
    rw [Bool.and_eq_true] at hc
    exact bz_i_aloadn (Nat.eq_of_beq_eq_true hc.2) (bz_cs_eq hd) (bz_nx_eq hc.1) hl h
  · cases hc
/-- a slot that may be written: in range, and not a long's second -/
def bz_sl1 (k j : Nat) : Bool := Nat.blt j (bz_ml k) && !((bz_lgs k).any fun q => Nat.beq (q + 1) j)
theorem bz_sl1_eq {k j : Nat} (h : bz_sl1 k j = true) : j < bz_ml k ∧ ∀ q, q + 1 = j → q ∉ bz_lgs k := by
  unfold bz_sl1 at h
  rw [Bool.and_eq_true] at h
  refine ⟨Nat.le_of_ble_eq_true h.1, fun q hq hm => ?_⟩
  have : ((bz_lgs k).any fun q => Nat.beq (q + 1) j) = true := List.any_eq_true.mpr ⟨q, hm, by rw [hq]; exact Nat.beq_refl j⟩
  rw [this] at h
  cases h.2
def bz_k_istore (k i j : Nat) : Bool := bz_sl1 k j && match bz_cs k i with
  | some (.istore j', 2) => bz_nx k i 2 && Nat.beq j' j
  | some (.istore_n jj, 1) => bz_nx k i 1 && Nat.beq (jj : Nat) j
  | _ => false
theorem bz_q_istore {k : Nat} {N : bz_N} {i : Nat} {L : List (Option bz_V)} {st : List bz_V} {μ : bz_M} {res : bz_R} {x : Int} {j : Nat} (hc : bz_k_istore k i j = true) (h : bz_H k N (i + 1) (L.set j (some (zI x))) st μ res) : bz_H k N i L (zI x :: st) μ res := by
  unfold bz_k_istore at hc
  rw [Bool.and_eq_true] at hc
  obtain ⟨g1, g2⟩ := bz_sl1_eq hc.1
  have hc := hc.2
  split at hc
  · rename_i j' hd
    rw [Bool.and_eq_true] at hc
    have e1 := Nat.eq_of_beq_eq_true hc.2
    subst e1
    exact bz_i_istore (bz_cs_eq hd) (bz_nx_eq hc.1) g1 g2 h
  · rename_i jj hd
    rw [Bool.and_eq_true] at hc
    exact bz_i_istoren (Nat.eq_of_beq_eq_true hc.2) (bz_cs_eq hd) (bz_nx_eq hc.1) g1 g2 h
  · cases hc
def bz_k_astore (k i j : Nat) : Bool := bz_sl1 k j && match bz_cs k i with
  | some (.astore j', 2) => bz_nx k i 2 && Nat.beq j' j
  | some (.astore_n jj, 1) => bz_nx k i 1 && Nat.beq (jj : Nat) j
  | _ => false
theorem bz_q_astore {k : Nat} {N : bz_N} {i : Nat} {L : List (Option bz_V)} {st : List bz_V} {μ : bz_M} {res : bz_R} {x : Nat} {j : Nat} (hc : bz_k_astore k i j = true) (h : bz_H k N (i + 1) (L.set j (some (zR x))) st μ res) : bz_H k N i L (zR x :: st) μ res := by
  unfold bz_k_astore at hc
  rw [Bool.and_eq_true] at hc
  obtain ⟨g1, g2⟩ := bz_sl1_eq hc.1
  have hc := hc.2
  split at hc
  · rename_i j' hd
    rw [Bool.and_eq_true] at hc
    have e1 := Nat.eq_of_beq_eq_true hc.2
    subst e1
    exact bz_i_astore (bz_cs_eq hd) (bz_nx_eq hc.1) g1 g2 h
  · rename_i jj hd
    rw [Bool.and_eq_true] at hc
    exact bz_i_astoren (Nat.eq_of_beq_eq_true hc.2) (bz_cs_eq hd) (bz_nx_eq hc.1) g1 g2 h
  · cases hc
def bz_k_lstore (k i j : Nat) : Bool := bz_sl1 k j && Nat.blt (j + 1) (bz_ml k) && (bz_lgs k).any (fun q => Nat.beq q j) && match bz_cs k i with
  | some (.lstore j', 2) => bz_nx k i 2 && Nat.beq j' j
  | some (.lstore_n jj, 1) => bz_nx k i 1 && Nat.beq (jj : Nat) j
  | _ => false
theorem bz_q_lstore {k : Nat} {N : bz_N} {i : Nat} {L : List (Option bz_V)} {st : List bz_V} {μ : bz_M} {res : bz_R} {x : Int} {j : Nat} (hc : bz_k_lstore k i j = true) (h : bz_H k N (i + 1) ((L.set j (some (zL x))).set (j + 1) none) st μ res) : bz_H k N i L (zL x :: st) μ res := by
  unfold bz_k_lstore at hc
  rw [Bool.and_eq_true, Bool.and_eq_true, Bool.and_eq_true] at hc
  obtain ⟨⟨⟨c1, c2⟩, c3⟩, hc⟩ := hc
  obtain ⟨g1, g2⟩ := bz_sl1_eq c1
  have g3 : j + 1 < bz_ml k := Nat.le_of_ble_eq_true c2
  have g4 : j ∈ bz_lgs k := by
    obtain ⟨q, h1, h2⟩ := List.any_eq_true.mp c3
    rw [← Nat.eq_of_beq_eq_true h2]
    exact h1
  split at hc
  · rename_i j' hd
    rw [Bool.and_eq_true] at hc
    have e1 := Nat.eq_of_beq_eq_true hc.2
    subst e1
    exact bz_i_lstore (bz_cs_eq hd) (bz_nx_eq hc.1) g3 g4 g2 h
  · rename_i jj hd
    rw [Bool.and_eq_true] at hc
    exact bz_i_lstoren (Nat.eq_of_beq_eq_true hc.2) (bz_cs_eq hd) (bz_nx_eq hc.1) g3 g4 g2 h
  · cases hc
def bz_k_iinc (k i j : Nat) (c9 : Int) : Bool := bz_sl1 k j && match bz_cs k i with
  | some (.iinc j' c', 3) => bz_nx k i 3 && Nat.beq j' j && decide (c' = c9) && decide ((Int32.ofInt c9).toInt = c9)
  | _ => false
theorem bz_q_iinc {k : Nat} {N : bz_N} {i : Nat} {L : List (Option bz_V)} {st : List bz_V} {μ : bz_M} {res : bz_R} {x c9 : Int} {j : Nat} (hc : bz_k_iinc k i j c9 = true) (hl : L[j]? = some (some (zI x))) (h : bz_H k N (i + 1) (L.set j (some (zI (wr (x + c9))))) st μ res) : bz_H k N i L st μ res := by
  unfold bz_k_iinc at hc
  rw [Bool.and_eq_true] at hc
  obtain ⟨g1, g2⟩ := bz_sl1_eq hc.1
  have hc := hc.2
  split at hc
  · rename_i j' c' hd
    rw [Bool.and_eq_true, Bool.and_eq_true, Bool.and_eq_true, decide_eq_true_eq, decide_eq_true_eq] at hc
    have e1 := Nat.eq_of_beq_eq_true hc.1.1.2
    have e2 := hc.1.2
    subst e1 e2
    exact bz_i_iinc (bz_cs_eq hd) (bz_nx_eq hc.1.1.1) hc.2 hl g1 g2 h
  · cases hc
def bz_kgo (k i : Nat) (o : Int) : Bool := Nat.beq (bz_pc k (bz_tgt i o)) (bz_pc k i) || match bz_cs k i with
  | some (.goto off, 3) => bz_to1 k i off o
  | _ => false
theorem bz_q_goto {k : Nat} {N : bz_N} {i : Nat} {L : List (Option bz_V)} {st : List bz_V} {μ : bz_M} {res : bz_R} {o : Int} (hc : bz_kgo k i o = true) (h : bz_H k N (bz_tgt i o) L st μ res) : bz_H k N i L st μ res := by
  unfold bz_kgo at hc
  rw [Bool.or_eq_true] at hc
  rcases hc with hc | hc
  · exact bz_i_cut (Nat.eq_of_beq_eq_true hc) h
  · split at hc
    · rename_i off hd
      exact bz_i_goto (bz_cs_eq hd) (of_decide_eq_true hc) h
    · cases hc
def bz_kif (k i : Nat) (cc : ClassFile.Cond) (o : Int) : Bool := match bz_cs k i with
  | some (.ifCond cc' off, 3) => bz_nx k i 3 && bz_to1 k i off o && decide (cc' = cc)
  | _ => false
theorem bz_q_if {k : Nat} {N : bz_N} {i : Nat} {L : List (Option bz_V)} {st : List bz_V} {μ : bz_M} {res : bz_R} {x : Int} {cc : ClassFile.Cond} {o : Int} {A B : Option bz_R} (hc : bz_kif k i cc o = true) (hh : bz_if cc x 0 A B = some res) (hA : A = some res → bz_H k N (bz_tgt i o) L st μ res) (hB : B = some res → bz_H k N (i + 1) L st μ res) : bz_H k N i L (zI x :: st) μ res := by
  unfold bz_kif at hc
  split at hc
  · rename_i cc' off hd
    rw [Bool.and_eq_true, Bool.and_eq_true, decide_eq_true_eq] at hc
    obtain ⟨⟨h1, h2⟩, rfl⟩ := hc
    exact bz_i_if (bz_cs_eq hd) (bz_nx_eq h1) (of_decide_eq_true h2) hh hA hB
  · cases hc
def bz_kicmp (k i : Nat) (cc : ClassFile.Cond) (o : Int) : Bool := match bz_cs k i with
  | some (.if_icmp cc' off, 3) => bz_nx k i 3 && bz_to1 k i off o && decide (cc' = cc)
  | _ => false
theorem bz_q_icmp {k : Nat} {N : bz_N} {i : Nat} {L : List (Option bz_V)} {st : List bz_V} {μ : bz_M} {res : bz_R} {x y : Int} {cc : ClassFile.Cond} {o : Int} {A B : Option bz_R} (hc : bz_kicmp k i cc o = true) (hh : bz_if cc x y A B = some res) (hA : A = some res → bz_H k N (bz_tgt i o) L st μ res) (hB : B = some res → bz_H k N (i + 1) L st μ res) : bz_H k N i L (zI y :: zI x :: st) μ res := by
  unfold bz_kicmp at hc
  split at hc
  · rename_i cc' off hd
    rw [Bool.and_eq_true, Bool.and_eq_true, decide_eq_true_eq] at hc
    obtain ⟨⟨h1, h2⟩, rfl⟩ := hc
    exact bz_i_icmp (bz_cs_eq hd) (bz_nx_eq h1) (of_decide_eq_true h2) hh hA hB
  · cases hc
