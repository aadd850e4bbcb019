/-! CHECKS: fields, cells, ends -/
/-- the field that an entry names -/
def bz_fe (k j p : Nat) : Option (Nat × Nat × String × Nat) := bz_flk.find? fun e => Nat.beq e.1 (bz_ocs.getD k 0) && Nat.beq e.2.1 j && Nat.beq e.2.2.2 p
theorem bz_fe_eq {k j p : Nat} {e : Nat × Nat × String × Nat} (h : bz_fe k j p = some e) : Cond.fieldLink (bz_ow k) j e.2.2.1 (bz_fnd p).2.1 (bz_fnd p).2.2.1 ∈ bz_W := by
  have hm := List.mem_of_find?_eq_some h
  have hb := List.find?_some h
  rw [Bool.and_eq_true, Bool.and_eq_true] at hb
  have b1 := Nat.eq_of_beq_eq_true hb.1.1
  have b2 := Nat.eq_of_beq_eq_true hb.1.2
  have b3 := Nat.eq_of_beq_eq_true hb.2
  have hw := bz_fl_in e hm
  unfold bz_flw at hw
  rw [b1, b2, b3] at hw
  exact hw
def bz_sfb (ref : String) (p : Nat) : Bool := decide (ref = (bz_fnd p).1) || (decide (ref = "BarcodeEngine$Ean8" ∧ (bz_fnd p).1 = "BarcodeEngine$Symbology" ∧ (bz_fnd p).2.2.1 = "I") && decide ((bz_fnd p).2.1 ∈ bz_sf))
theorem bz_sfb_eq {ref : String} {p : Nat} (h : bz_sfb ref p = true) : bz_same1 ref (bz_fnd p) := by
  unfold bz_sfb at h
  rw [Bool.or_eq_true, Bool.and_eq_true, decide_eq_true_eq, decide_eq_true_eq, decide_eq_true_eq] at h
  rcases h with h | ⟨⟨h1, h2, h3⟩, h4⟩
  · exact Or.inl h
  · have := bz_sf_in _ h4
    unfold bz_sfw at this
    rw [← h1, ← h2, ← h3] at this
    exact Or.inr this
/-- a field of a class of ours: its slot, its kind -/
def bz_pk (p κ : Nat) : Bool := Nat.ble 1 (p / 100) && Nat.ble (p / 100) 10 && Nat.blt (p % 100) (bz_ns (p / 100)) && Nat.beq (bz_fk (p / 100) (p % 100)) κ
theorem bz_pk_eq {p κ : Nat} (h : bz_pk p κ = true) : (1 ≤ p / 100 ∧ p / 100 ≤ 10) ∧ p % 100 < bz_ns (p / 100) ∧ bz_fk (p / 100) (p % 100) = κ ∧ p / 100 * 100 + p % 100 = p := by
  unfold bz_pk at h
  rw [Bool.and_eq_true, Bool.and_eq_true, Bool.and_eq_true] at h
  exact ⟨⟨Nat.le_of_ble_eq_true h.1.1.1, Nat.le_of_ble_eq_true h.1.1.2⟩, Nat.le_of_ble_eq_true h.1.2, Nat.eq_of_beq_eq_true h.2, by omega⟩
def bz_finb (k p : Nat) : Bool := !((bz_fnd p).2.2.2) || (decide ((bz_y k).name = "<init>") && decide ((bz_fnd p).1 = bz_ow k))
theorem bz_finb_eq {k p : Nat} (h : bz_finb k p = true) : (bz_fnd p).2.2.2 = false ∨ ((bz_fnd p).2.2.2 = true ∧ (bz_y k).name = "<init>" ∧ (bz_fnd p).1 = bz_ow k) := by
  unfold bz_finb at h
  cases hq : (bz_fnd p).2.2.2
  · exact Or.inl rfl
  · rw [hq, Bool.or_eq_true, Bool.and_eq_true, decide_eq_true_eq, decide_eq_true_eq] at h
    rcases h with h | h
    · cases h
    · exact Or.inr ⟨rfl, h⟩
def bz_kget (k i p κ : Nat) : Bool := bz_pk p κ && match bz_cs k i with
  | some (.getfield j, 3) => bz_nx k i 3 && (match bz_fe k j p with
    | some e => bz_sfb e.2.2.1 p
    | none => false)
  | _ => false
theorem bz_kget_eq {k i p κ : Nat} (hc : bz_kget k i p κ = true) : bz_pk p κ = true ∧ ∃ (j : Nat) (e : Nat × Nat × String × Nat), decode (bz_b k) (bz_pc k i) = .ok (.getfield j, 3) ∧ bz_pc k (i + 1) = bz_pc k i + 3 ∧ bz_fe k j p = some e ∧ bz_sfb e.2.2.1 p = true := by
  unfold bz_kget at hc
  rw [Bool.and_eq_true] at hc
  refine ⟨hc.1, ?_⟩
  have hc := hc.2
  split at hc
  · rename_i j hd
    rw [Bool.and_eq_true] at hc
    have h2 := hc.2
    split at h2
    · rename_i e he
      exact ⟨j, e, bz_cs_eq hd, bz_nx_eq hc.1, he, h2⟩
    · cases h2
  · cases hc
def bz_kput (k i p κ : Nat) : Bool := bz_pk p κ && bz_finb k p && match bz_cs k i with
  | some (.putfield j, 3) => bz_nx k i 3 && (match bz_fe k j p with
    | some e => bz_sfb e.2.2.1 p
    | none => false)
  | _ => false
theorem bz_kput_eq {k i p κ : Nat} (hc : bz_kput k i p κ = true) : bz_pk p κ = true ∧ bz_finb k p = true ∧ ∃ (j : Nat) (e : Nat × Nat × String × Nat), decode (bz_b k) (bz_pc k i) = .ok (.putfield j, 3) ∧ bz_pc k (i + 1) = bz_pc k i + 3 ∧ bz_fe k j p = some e ∧ bz_sfb e.2.2.1 p = true := by
  unfold bz_kput at hc
  rw [Bool.and_eq_true, Bool.and_eq_true] at hc
  refine ⟨hc.1.1, hc.1.2, ?_⟩
  have hc := hc.2
  split at hc
  · rename_i j hd
    rw [Bool.and_eq_true] at hc
    have h2 := hc.2
    split at h2
    · rename_i e he
      exact ⟨j, e, bz_cs_eq hd, bz_nx_eq hc.1, he, h2⟩
    · cases h2
  · cases hc
theorem bz_q_getfield {k : Nat} {N : bz_N} {i : Nat} {L : List (Option bz_V)} {st : List bz_V} {μ : bz_M} {res : bz_R} {a p : Nat} (hc : bz_kget k i p 0 = true) (hT : gT μ a = p / 100) (h : bz_H k N (i + 1) L (zI (gM μ a ((p % 100 : Nat) : Int)) :: st) μ res) : bz_H k N i L (zR a :: st) μ res := by
  obtain ⟨c1, j, e, c2, c3, c4, c5⟩ := bz_kget_eq hc
  obtain ⟨d1, d2, d3, d4⟩ := bz_pk_eq c1
  exact bz_i_getI hT d1 d2 c2 c3 (by rw [d4]; exact bz_fe_eq c4) (by rw [d4]; exact bz_sfb_eq c5) d3 h
theorem bz_q_fload {k : Nat} {N : bz_N} {i : Nat} {L : List (Option bz_V)} {st : List bz_V} {μ : bz_M} {res : bz_R} {a p : Nat} (hc : bz_kget k i p 1 = true) (hT : gT μ a = p / 100) (h : bz_H k N (i + 1) L (zL (gG μ a ((p % 100 : Nat) : Int)) :: st) μ res) : bz_H k N i L (zR a :: st) μ res := by
  obtain ⟨c1, j, e, c2, c3, c4, c5⟩ := bz_kget_eq hc
  obtain ⟨d1, d2, d3, d4⟩ := bz_pk_eq c1
  exact bz_i_getL hT d1 d2 c2 c3 (by rw [d4]; exact bz_fe_eq c4) (by rw [d4]; exact bz_sfb_eq c5) d3 h
theorem bz_q_getref {k : Nat} {N : bz_N} {i : Nat} {L : List (Option bz_V)} {st : List bz_V} {μ : bz_M} {res : bz_R} {a p : Nat} (hc : bz_kget k i p 2 = true) (hT : gT μ a = p / 100) (hnz : gP μ a ((p % 100 : Nat) : Int) ≠ 0) (h : bz_H k N (i + 1) L (zR (gP μ a ((p % 100 : Nat) : Int)) :: st) μ res) : bz_H k N i L (zR a :: st) μ res := by
  obtain ⟨c1, j, e, c2, c3, c4, c5⟩ := bz_kget_eq hc
  obtain ⟨d1, d2, d3, d4⟩ := bz_pk_eq c1
  exact bz_i_getR hT d1 d2 c2 c3 (by rw [d4]; exact bz_fe_eq c4) (by rw [d4]; exact bz_sfb_eq c5) d3 hnz h
theorem bz_q_putfield {k : Nat} {N : bz_N} {i : Nat} {L : List (Option bz_V)} {st : List bz_V} {μ : bz_M} {res : bz_R} {a p : Nat} {x : Int} (hc : bz_kput k i p 0 = true) (hT : gT μ a = p / 100) (hty : bz_tyf (p / 100) (p % 100) = .int) (h : bz_H k N (i + 1) L st (sM μ a ((p % 100 : Nat) : Int) x) res) : bz_H k N i L (zI x :: zR a :: st) μ res := by
  obtain ⟨c1, c6, j, e, c2, c3, c4, c5⟩ := bz_kput_eq hc
  obtain ⟨d1, d2, d3, d4⟩ := bz_pk_eq c1
  exact bz_i_putI hT d1 d2 c2 c3 (by rw [d4]; exact bz_fe_eq c4) (by rw [d4]; exact bz_sfb_eq c5) (by rw [d4]; exact bz_finb_eq c6) d3 (Or.inl hty) h
theorem bz_q_dstore {k : Nat} {N : bz_N} {i : Nat} {L : List (Option bz_V)} {st : List bz_V} {μ : bz_M} {res : bz_R} {a p : Nat} {x : Int} (hc : bz_kput k i p 0 = true) (hT : gT μ a = p / 100) (hty : bz_tyf (p / 100) (p % 100) = .boolean) (h01 : x = 0 ∨ x = 1) (h : bz_H k N (i + 1) L st (sM μ a ((p % 100 : Nat) : Int) x) res) : bz_H k N i L (zI x :: zR a :: st) μ res := by
  obtain ⟨c1, c6, j, e, c2, c3, c4, c5⟩ := bz_kput_eq hc
  obtain ⟨d1, d2, d3, d4⟩ := bz_pk_eq c1
  exact bz_i_putI hT d1 d2 c2 c3 (by rw [d4]; exact bz_fe_eq c4) (by rw [d4]; exact bz_sfb_eq c5) (by rw [d4]; exact bz_finb_eq c6) d3 (Or.inr ⟨hty, h01⟩) h
theorem bz_q_fstore {k : Nat} {N : bz_N} {i : Nat} {L : List (Option bz_V)} {st : List bz_V} {μ : bz_M} {res : bz_R} {a p : Nat} {x : Int} (hc : bz_kput k i p 1 = true) (hT : gT μ a = p / 100) (h : bz_H k N (i + 1) L st (sG μ a ((p % 100 : Nat) : Int) x) res) : bz_H k N i L (zL x :: zR a :: st) μ res := by
  obtain ⟨c1, c6, j, e, c2, c3, c4, c5⟩ := bz_kput_eq hc
  obtain ⟨d1, d2, d3, d4⟩ := bz_pk_eq c1
  exact bz_i_putL hT d1 d2 c2 c3 (by rw [d4]; exact bz_fe_eq c4) (by rw [d4]; exact bz_sfb_eq c5) (by rw [d4]; exact bz_finb_eq c6) d3 h
theorem bz_q_putref {k : Nat} {N : bz_N} {i : Nat} {L : List (Option bz_V)} {st : List bz_V} {μ : bz_M} {res : bz_R} {a p : Nat} {x : Nat} (hc : bz_kput k i p 2 = true) (hT : gT μ a = p / 100) (h16 : 16 ≤ x) (h : bz_H k N (i + 1) L st (sP μ a ((p % 100 : Nat) : Int) x) res) : bz_H k N i L (zR x :: zR a :: st) μ res := by
  obtain ⟨c1, c6, j, e, c2, c3, c4, c5⟩ := bz_kput_eq hc
  obtain ⟨d1, d2, d3, d4⟩ := bz_pk_eq c1
  exact bz_i_putR hT d1 d2 c2 c3 (by rw [d4]; exact bz_fe_eq c4) (by rw [d4]; exact bz_sfb_eq c5) (by rw [d4]; exact bz_finb_eq c6) d3 h16 h
def bz_kgS (k i j : Nat) : Bool := Nat.blt j 4 && match bz_cs k i with
  | some (.getfield f, 3) => bz_nx k i 3 && (match bz_fe k f (5000 + j) with
    | some e => bz_sfb e.2.2.1 (5000 + j)
    | none => false)
  | _ => false
theorem bz_q_dload {k : Nat} {N : bz_N} {i : Nat} {L : List (Option bz_V)} {st : List bz_V} {μ : bz_M} {res : bz_R} {a j : Nat} (hc : bz_kgS k i j = true) (hT : gT μ a = 1 ∨ gT μ a = 2 ∨ gT μ a = 3) (h : bz_H k N (i + 1) L (zI (gM μ a (j : Int)) :: st) μ res) : bz_H k N i L (zR a :: st) μ res := by
  unfold bz_kgS at hc
  rw [Bool.and_eq_true] at hc
  have hj : j < 4 := Nat.le_of_ble_eq_true hc.1
  have hc := hc.2
  split at hc
  · rename_i f hd
    rw [Bool.and_eq_true] at hc
    have h2 := hc.2
    split at h2
    · rename_i e he
      exact bz_i_getS hT hj (bz_cs_eq hd) (bz_nx_eq hc.1) (bz_fe_eq he) (bz_sfb_eq h2) h
    · cases h2
  · cases hc
def bz_kpS (k i j : Nat) : Bool := Nat.blt j 4 && bz_finb k (5000 + j) && match bz_cs k i with
  | some (.putfield f, 3) => bz_nx k i 3 && (match bz_fe k f (5000 + j) with
    | some e => bz_sfb e.2.2.1 (5000 + j)
    | none => false)
  | _ => false
theorem bz_q_putS {k : Nat} {N : bz_N} {i : Nat} {L : List (Option bz_V)} {st : List bz_V} {μ : bz_M} {res : bz_R} {a j : Nat} {x : Int} (hc : bz_kpS k i j = true) (hT : gT μ a = 1 ∨ gT μ a = 2 ∨ gT μ a = 3) (h : bz_H k N (i + 1) L st (sM μ a (j : Int) x) res) : bz_H k N i L (zI x :: zR a :: st) μ res := by
  unfold bz_kpS at hc
  rw [Bool.and_eq_true, Bool.and_eq_true] at hc
  have hj : j < 4 := Nat.le_of_ble_eq_true hc.1.1
  have hf := bz_finb_eq hc.1.2
  have hc := hc.2
  split at hc
  · rename_i f hd
    rw [Bool.and_eq_true] at hc
    have h2 := hc.2
    split at h2
    · rename_i e he
      exact bz_i_putS hT hj (bz_cs_eq hd) (bz_nx_eq hc.1) (bz_fe_eq he) (bz_sfb_eq h2) hf h
    · cases h2
  · cases hc
/-- a String's field -/
def bz_kstr (k i p : Nat) : Bool := match bz_cs k i with
  | some (.getfield f, 3) => bz_nx k i 3 && (match bz_fe k f p with
    | some e => decide (e.2.2.1 = "java/lang/String")
    | none => false)
  | _ => false
theorem bz_kstr_eq {k i p : Nat} (hc : bz_kstr k i p = true) : ∃ j, decode (bz_b k) (bz_pc k i) = .ok (.getfield j, 3) ∧ bz_pc k (i + 1) = bz_pc k i + 3 ∧ Cond.fieldLink (bz_ow k) j "java/lang/String" (bz_fnd p).2.1 (bz_fnd p).2.2.1 ∈ bz_W := by
  unfold bz_kstr at hc
  split at hc
  · rename_i f hd
    rw [Bool.and_eq_true] at hc
    have h2 := hc.2
    split at h2
    · rename_i e he
      have := bz_fe_eq he
      rw [of_decide_eq_true h2] at this
      exact ⟨f, bz_cs_eq hd, bz_nx_eq hc.1, this⟩
    · cases h2
  · cases hc
theorem bz_q_strV {k : Nat} {N : bz_N} {i : Nat} {L : List (Option bz_V)} {st : List bz_V} {μ : bz_M} {res : bz_R} {a : Nat} (hc : bz_kstr k i 2800 = true) (hT : gT μ a = 28) (hnz : gP μ a 0 ≠ 0) (h : bz_H k N (i + 1) L (zR (gP μ a 0) :: st) μ res) : bz_H k N i L (zR a :: st) μ res := by
  obtain ⟨j, h1, h2, h3⟩ := bz_kstr_eq hc
  exact bz_i_strV hT hnz h1 h2 h3 h
theorem bz_q_strC {k : Nat} {N : bz_N} {i : Nat} {L : List (Option bz_V)} {st : List bz_V} {μ : bz_M} {res : bz_R} {a : Nat} (hc : bz_kstr k i 2801 = true) (hT : gT μ a = 28) (h : bz_H k N (i + 1) L (zI (gM μ a 1) :: st) μ res) : bz_H k N i L (zR a :: st) μ res := by
  obtain ⟨j, h1, h2, h3⟩ := bz_kstr_eq hc
  exact bz_i_strC hT h1 h2 h3 h
/-- a class by its entry -/
def bz_ce0 (k j : Nat) (nm : String) : Bool := bz_cl0.any fun e => Nat.beq e.1 (bz_ocs.getD k 0) && Nat.beq e.2.1 j && decide (e.2.2 = nm)
theorem bz_ce0_eq {k j : Nat} {nm : String} (h : bz_ce0 k j nm = true) : Cond.classLink (bz_ow k) j nm ∈ bz_W := by
  obtain ⟨e, he, h2⟩ := List.any_eq_true.mp h
  rw [Bool.and_eq_true, Bool.and_eq_true, decide_eq_true_eq] at h2
  have hw := bz_cl0_in e he
  unfold bz_cl0w at hw
  rw [Nat.eq_of_beq_eq_true h2.1.1, Nat.eq_of_beq_eq_true h2.1.2, h2.2] at hw
  exact hw
def bz_knew (k i c : Nat) : Bool := Nat.ble 1 c && Nat.ble c 10 && decide (c ∈ bz_ia) && decide (bz_cn1 c ∈ bz_ini) && match bz_cs k i with
  | some (.new j, 3) => bz_nx k i 3 && bz_ce0 k j (bz_cn1 c)
  | _ => false
theorem bz_q_new {k : Nat} {N : bz_N} {i : Nat} {L : List (Option bz_V)} {st : List bz_V} {μ : bz_M} {res : bz_R} {c : Nat} (hc : bz_knew k i c = true) (hcl : bz_cl μ) (h : bz_H k N (i + 1) L (zR μ.1.length :: st) (sA μ c (bz_ns c)) res) : bz_H k N i L st μ res := by
  unfold bz_knew at hc
  rw [Bool.and_eq_true, Bool.and_eq_true, Bool.and_eq_true, Bool.and_eq_true, decide_eq_true_eq, decide_eq_true_eq] at hc
  obtain ⟨⟨⟨⟨c1, c2⟩, c3⟩, c4⟩, hc⟩ := hc
  split at hc
  · rename_i j hd
    rw [Bool.and_eq_true] at hc
    exact bz_i_new ⟨Nat.le_of_ble_eq_true c1, Nat.le_of_ble_eq_true c2⟩ hcl (bz_cs_eq hd) (bz_nx_eq hc.1) (bz_ce0_eq hc.2) (bz_ia_in c c3) (bz_ini_in _ c4) h
  · cases hc
def bz_kmk (k i t : Nat) : Bool := match bz_cs k i with
  | some (.newarray at9, 2) => bz_nx k i 2 && (decide (t = 20 ∧ newarray.typeOf at9 = .int) || decide (t = 22 ∧ newarray.typeOf at9 = .boolean) || decide (t = 23 ∧ newarray.typeOf at9 = .long))
  | some (.anewarray j, 3) => bz_nx k i 3 && Nat.ble 24 t && Nat.ble t 27 && bz_ce0 k j (bz_ec t)
  | _ => false
theorem bz_q_mk {k : Nat} {N : bz_N} {i : Nat} {L : List (Option bz_V)} {st : List bz_V} {μ : bz_M} {res : bz_R} {x : Int} {t : Nat} (hc : bz_kmk k i t = true) (hcl : bz_cl μ) (h0 : 0 ≤ x) (hx : x ≤ 10000) (h : bz_H k N (i + 1) L (zR μ.1.length :: st) (sA μ t x.toNat) res) : bz_H k N i L (zI x :: st) μ res := by
  unfold bz_kmk at hc
  split at hc
  · rename_i at9 hd
    rw [Bool.and_eq_true, Bool.or_eq_true, Bool.or_eq_true, decide_eq_true_eq, decide_eq_true_eq, decide_eq_true_eq] at hc
    rcases hc.2 with (⟨q1, q2⟩ | ⟨q1, q2⟩) | ⟨q1, q2⟩
    · exact bz_i_newarr rfl (Or.inl ⟨q1, q2⟩) hcl h0 hx (bz_cs_eq hd) (bz_nx_eq hc.1) (by rw [q2]; exact bz_acl_in .int (by simp [bz_acl])) h
    · exact bz_i_newarr rfl (Or.inr (Or.inl ⟨q1, q2⟩)) hcl h0 hx (bz_cs_eq hd) (bz_nx_eq hc.1) (by rw [q2]; exact bz_acl_in .boolean (by simp [bz_acl])) h
    · exact bz_i_newarr rfl (Or.inr (Or.inr ⟨q1, q2⟩)) hcl h0 hx (bz_cs_eq hd) (bz_nx_eq hc.1) (by rw [q2]; exact bz_acl_in .long (by simp [bz_acl])) h
  · rename_i j hd
    rw [Bool.and_eq_true, Bool.and_eq_true, Bool.and_eq_true] at hc
    exact bz_i_anew ⟨Nat.le_of_ble_eq_true hc.1.1.2, Nat.le_of_ble_eq_true hc.1.2⟩ hcl h0 hx (bz_cs_eq hd) (bz_nx_eq hc.1.1.1) (bz_ce0_eq hc.2) h
  · cases hc
def bz_koi (k i : Nat) : Bool := Nat.ble 1 (bz_fr k) && Nat.ble 20 (bz_lo0 k) && match bz_cs k i with
  | some (.invokespecial j, 3) => bz_nx k i 3 && bz_ois.any fun e => decide (e.1 = bz_ow k) && Nat.beq e.2.1 j
  | _ => false
theorem bz_q_oinit {k : Nat} {N : bz_N} {i : Nat} {L : List (Option bz_V)} {st : List bz_V} {μ : bz_M} {res : bz_R} {a : Nat} (hc : bz_koi k i = true) (hsum : bz_sum st ≤ 8) (ha : a ≠ 15) (h : bz_H k N (i + 1) L st μ res) : bz_H k N i L (zR a :: st) μ res := by
  unfold bz_koi at hc
  rw [Bool.and_eq_true, Bool.and_eq_true] at hc
  obtain ⟨⟨c1, c2⟩, hc⟩ := hc
  split at hc
  · rename_i j hd
    rw [Bool.and_eq_true] at hc
    obtain ⟨⟨e1, e2, e3⟩, he, h2⟩ := List.any_eq_true.mp hc.2
    rw [Bool.and_eq_true, decide_eq_true_eq] at h2
    have q1 : e1 = bz_ow k := h2.1
    have q2 : e2 = j := Nat.eq_of_beq_eq_true h2.2
    subst q2
    rw [q1] at he
    exact bz_i_oinit he (Nat.le_of_ble_eq_true c1) (Nat.le_of_ble_eq_true c2) hsum (bz_cs_eq hd) (bz_nx_eq hc.1) ha h
  · cases hc
