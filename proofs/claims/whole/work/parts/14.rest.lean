/-! FIELDS BY KIND; STRINGS, STATICS, ENDS -/
theorem bz_kty_at {c j : Nat} (hc : 1 ≤ c ∧ c ≤ 10) (hj : j < bz_ns c) : bz_kty (bz_fk c j) (bz_tyf c j) = true :=
  List.all_eq_true.mp (List.all_eq_true.mp bz_kty_all c (List.mem_range.mpr (by omega))) j (List.mem_range.mpr hj)
theorem bz_kty1 {ty : FieldType} (h : bz_kty 1 ty = true) : ty = .long := by
  cases ty <;> first | rfl | (simp [bz_kty] at h)
theorem bz_kty2 {ty : FieldType} (h : bz_kty 2 ty = true) : (∃ n, ty = .object n) ∨ ∃ t, ty = .array t := by
  cases ty <;> first | exact Or.inl ⟨_, rfl⟩ | exact Or.inr ⟨_, rfl⟩ | (simp [bz_kty] at h)
theorem bz_i_getI {k : Nat} {N : bz_N} {i : Nat} {L : List (Option bz_V)} {st : List bz_V} {μ : bz_M} {res : bz_R} {a c j idx : Nat} {ref : String} (hT : gT μ a = c) (hc : 1 ≤ c ∧ c ≤ 10) (hj : j < bz_ns c) (hd : decode (bz_b k) (bz_pc k i) = .ok (.getfield idx, 3)) (hp : bz_pc k (i + 1) = bz_pc k i + 3) (hw : Cond.fieldLink (bz_ow k) idx ref (bz_fnd (c * 100 + j)).2.1 (bz_fnd (c * 100 + j)).2.2.1 ∈ bz_W) (hsm : bz_same1 ref (bz_fnd (c * 100 + j))) (hk : bz_fk c j = 0) (h : bz_H k N (i + 1) L (zI (gM μ a (j : Int)) :: st) μ res) : bz_H k N i L (zR a :: st) μ res :=
  bz_i_get hT hc hj hd hp hw hsm (fun h1 h2 => by rw [hk]; exact ⟨_, rfl, bz_to (h1 a _)⟩) h
theorem bz_i_getL {k : Nat} {N : bz_N} {i : Nat} {L : List (Option bz_V)} {st : List bz_V} {μ : bz_M} {res : bz_R} {a c j idx : Nat} {ref : String} (hT : gT μ a = c) (hc : 1 ≤ c ∧ c ≤ 10) (hj : j < bz_ns c) (hd : decode (bz_b k) (bz_pc k i) = .ok (.getfield idx, 3)) (hp : bz_pc k (i + 1) = bz_pc k i + 3) (hw : Cond.fieldLink (bz_ow k) idx ref (bz_fnd (c * 100 + j)).2.1 (bz_fnd (c * 100 + j)).2.2.1 ∈ bz_W) (hsm : bz_same1 ref (bz_fnd (c * 100 + j))) (hk : bz_fk c j = 1) (h : bz_H k N (i + 1) L (zL (gG μ a (j : Int)) :: st) μ res) : bz_H k N i L (zR a :: st) μ res :=
  bz_i_get hT hc hj hd hp hw hsm (fun h1 h2 => by rw [hk]; exact ⟨_, rfl, bz_tol (h2 a _)⟩) h
theorem bz_i_getR {k : Nat} {N : bz_N} {i : Nat} {L : List (Option bz_V)} {st : List bz_V} {μ : bz_M} {res : bz_R} {a c j idx : Nat} {ref : String} (hT : gT μ a = c) (hc : 1 ≤ c ∧ c ≤ 10) (hj : j < bz_ns c) (hd : decode (bz_b k) (bz_pc k i) = .ok (.getfield idx, 3)) (hp : bz_pc k (i + 1) = bz_pc k i + 3) (hw : Cond.fieldLink (bz_ow k) idx ref (bz_fnd (c * 100 + j)).2.1 (bz_fnd (c * 100 + j)).2.2.1 ∈ bz_W) (hsm : bz_same1 ref (bz_fnd (c * 100 + j))) (hk : bz_fk c j = 2) (hnz : gP μ a (j : Int) ≠ 0) (h : bz_H k N (i + 1) L (zR (gP μ a (j : Int)) :: st) μ res) : bz_H k N i L (zR a :: st) μ res :=
  bz_i_get hT hc hj hd hp hw hsm (fun h1 h2 => by
    rw [hk]
    show bz_vr N _ (va_rf (bz_rf N (gP μ a (j : Int))))
    unfold bz_rf
    rw [if_neg hnz]
    exact bz_vr_mk) h
theorem bz_fvM {N : bz_N} {μ : bz_M} {a κ j q : Nat} {x : Int} (h : q ≠ j) : bz_fv N (sM μ a (j : Int) x) a κ (q : Int) = bz_fv N μ a κ (q : Int) := by
  unfold bz_fv
  split
  · show Value.int (Int32.ofInt (if a = a ∧ (q : Int) = (j : Int) then x else gM μ a (q : Int))) = _
    rw [if_neg (by omega)]
  · rfl
  · rfl
theorem bz_fvG {N : bz_N} {μ : bz_M} {a κ j q : Nat} {x : Int} (h : q ≠ j) : bz_fv N (sG μ a (j : Int) x) a κ (q : Int) = bz_fv N μ a κ (q : Int) := by
  unfold bz_fv
  split
  · rfl
  · show Value.long (Int64.ofInt (if a = a ∧ (q : Int) = (j : Int) then x else gG μ a (q : Int))) = _
    rw [if_neg (by omega)]
  · rfl
theorem bz_fvP {N : bz_N} {μ : bz_M} {a κ j q : Nat} {x : Nat} (h : q ≠ j) : bz_fv N (sP μ a (j : Int) x) a κ (q : Int) = bz_fv N μ a κ (q : Int) := by
  unfold bz_fv
  split
  · rfl
  · rfl
  · show va_rf (bz_rf N (if a = a ∧ (q : Int) = (j : Int) then x else gP μ a (q : Int))) = _
    rw [if_neg (by omega)]
theorem bz_01 {n : Int32} (h : n.toInt = 0 ∨ n.toInt = 1) : n = 0 ∨ n = 1 := by
  rcases h with h | h
  · exact Or.inl ((bz_eq0 n 0).mpr h)
  · exact Or.inr ((bz_eq0 n 1).mpr h)
theorem bz_i_putI {k : Nat} {N : bz_N} {i : Nat} {L : List (Option bz_V)} {st : List bz_V} {μ : bz_M} {res : bz_R} {a c j idx : Nat} {ref : String} {x : Int} (hT : gT μ a = c) (hc : 1 ≤ c ∧ c ≤ 10) (hj : j < bz_ns c) (hd : decode (bz_b k) (bz_pc k i) = .ok (.putfield idx, 3)) (hp : bz_pc k (i + 1) = bz_pc k i + 3) (hw : Cond.fieldLink (bz_ow k) idx ref (bz_fnd (c * 100 + j)).2.1 (bz_fnd (c * 100 + j)).2.2.1 ∈ bz_W) (hsm : bz_same1 ref (bz_fnd (c * 100 + j))) (hfin : (bz_fnd (c * 100 + j)).2.2.2 = false ∨ ((bz_fnd (c * 100 + j)).2.2.2 = true ∧ (bz_y k).name = "<init>" ∧ (bz_fnd (c * 100 + j)).1 = bz_ow k)) (hk : bz_fk c j = 0) (hty : bz_tyf c j = .int ∨ (bz_tyf c j = .boolean ∧ (x = 0 ∨ x = 1))) (h : bz_H k N (i + 1) L st (sM μ a (j : Int) x) res) : bz_H k N i L (zI x :: zR a :: st) μ res := by
  refine bz_i_put (μ' := sM μ a (j : Int) x) hT hc hj hd hp hw hsm hfin ⟨rfl, rfl⟩ rfl (fun b hb => bz_ce_congr rfl (fun q => by simp [sM, gM, hb]) (fun q => by simp [sM, gP]) (fun q => by simp [sM, gG])) (fun q hq => bz_fvM hq) (fun w hw => ?_) h
  obtain ⟨n, rfl, e0⟩ := hw
  refine ⟨?_, ?_, ?_, fun ha hO => bz_OK_sM hO ha (by rw [← e0]; exact r32_of n)⟩
  · rw [hk]
    show Value.int (Int32.ofInt (if a = a ∧ (j : Int) = (j : Int) then x else gM μ a (j : Int))) = _
    rw [if_pos ⟨rfl, rfl⟩, ← e0, Int32.ofInt_toInt]
  · rcases hty with q | ⟨q, q2⟩
    · rw [q]; rfl
    · rw [q]
      rcases bz_01 (n := n) (by rw [e0]; exact q2) with rfl | rfl <;> rfl
  · rcases hty with q | ⟨q, q2⟩
    · rw [q]; rfl
    · rw [q]
      rcases bz_01 (n := n) (by rw [e0]; exact q2) with rfl | rfl <;> rfl
theorem bz_i_putL {k : Nat} {N : bz_N} {i : Nat} {L : List (Option bz_V)} {st : List bz_V} {μ : bz_M} {res : bz_R} {a c j idx : Nat} {ref : String} {x : Int} (hT : gT μ a = c) (hc : 1 ≤ c ∧ c ≤ 10) (hj : j < bz_ns c) (hd : decode (bz_b k) (bz_pc k i) = .ok (.putfield idx, 3)) (hp : bz_pc k (i + 1) = bz_pc k i + 3) (hw : Cond.fieldLink (bz_ow k) idx ref (bz_fnd (c * 100 + j)).2.1 (bz_fnd (c * 100 + j)).2.2.1 ∈ bz_W) (hsm : bz_same1 ref (bz_fnd (c * 100 + j))) (hfin : (bz_fnd (c * 100 + j)).2.2.2 = false ∨ ((bz_fnd (c * 100 + j)).2.2.2 = true ∧ (bz_y k).name = "<init>" ∧ (bz_fnd (c * 100 + j)).1 = bz_ow k)) (hk : bz_fk c j = 1) (h : bz_H k N (i + 1) L st (sG μ a (j : Int) x) res) : bz_H k N i L (zL x :: zR a :: st) μ res := by
  refine bz_i_put (μ' := sG μ a (j : Int) x) hT hc hj hd hp hw hsm hfin ⟨rfl, rfl⟩ rfl (fun b hb => bz_ce_congr rfl (fun q => by simp [sG, gM]) (fun q => by simp [sG, gP]) (fun q => by simp [sG, gG, hb])) (fun q hq => bz_fvG hq) (fun w hw => ?_) h
  obtain ⟨n, rfl, e0⟩ := hw
  have hty := bz_kty_at hc hj
  rw [hk] at hty
  refine ⟨?_, ?_, ?_, fun ha hO => bz_OK_sG hO ha (by rw [← e0]; exact r64_of n)⟩
  · rw [hk]
    show Value.long (Int64.ofInt (if a = a ∧ (j : Int) = (j : Int) then x else gG μ a (j : Int))) = _
    rw [if_pos ⟨rfl, rfl⟩, ← e0, Int64.ofInt_toInt]
  · rw [bz_kty1 hty]; rfl
  · rw [bz_kty1 hty]; rfl
theorem bz_i_putR {k : Nat} {N : bz_N} {i : Nat} {L : List (Option bz_V)} {st : List bz_V} {μ : bz_M} {res : bz_R} {a c j idx : Nat} {ref : String} {b : Nat} (hT : gT μ a = c) (hc : 1 ≤ c ∧ c ≤ 10) (hj : j < bz_ns c) (hd : decode (bz_b k) (bz_pc k i) = .ok (.putfield idx, 3)) (hp : bz_pc k (i + 1) = bz_pc k i + 3) (hw : Cond.fieldLink (bz_ow k) idx ref (bz_fnd (c * 100 + j)).2.1 (bz_fnd (c * 100 + j)).2.2.1 ∈ bz_W) (hsm : bz_same1 ref (bz_fnd (c * 100 + j))) (hfin : (bz_fnd (c * 100 + j)).2.2.2 = false ∨ ((bz_fnd (c * 100 + j)).2.2.2 = true ∧ (bz_y k).name = "<init>" ∧ (bz_fnd (c * 100 + j)).1 = bz_ow k)) (hk : bz_fk c j = 2) (hb : 16 ≤ b) (h : bz_H k N (i + 1) L st (sP μ a (j : Int) b) res) : bz_H k N i L (zR b :: zR a :: st) μ res := by
  refine bz_i_put (μ' := sP μ a (j : Int) b) hT hc hj hd hp hw hsm hfin ⟨rfl, rfl⟩ rfl (fun b hb => bz_ce_congr rfl (fun q => by simp [sP, gM]) (fun q => by simp [sP, gP, hb]) (fun q => by simp [sP, gG])) (fun q hq => bz_fvP hq) (fun w hw => ?_) h
  have e0 := bz_vr_in hw (by omega)
  subst e0
  have hty := bz_kty_at hc hj
  rw [hk] at hty
  refine ⟨?_, ?_, ?_, fun ha hO => bz_OK_sP hO ha⟩
  · rw [hk]
    show va_rf (bz_rf N (if a = a ∧ (j : Int) = (j : Int) then b else gP μ a (j : Int))) = _
    rw [if_pos ⟨rfl, rfl⟩]
    unfold bz_rf
    rw [if_neg (by omega)]
    rfl
  · rcases bz_kty2 hty with ⟨n, q⟩ | ⟨t, q⟩ <;> (rw [q]; rfl)
  · rcases bz_kty2 hty with ⟨n, q⟩ | ⟨t, q⟩ <;> (rw [q]; rfl)
theorem bz_sy {c j : Nat} (hc : c = 1 ∨ c = 2 ∨ c = 3) (hj : j < 4) : bz_fnd (c * 100 + j) = bz_fnd (5000 + j) ∧ bz_fk c j = 0 ∧ bz_ns c = 4 ∧ bz_tyf c j = .int := by
  have h : j = 0 ∨ j = 1 ∨ j = 2 ∨ j = 3 := by omega
  rcases hc with rfl | rfl | rfl <;> rcases h with rfl | rfl | rfl | rfl <;> exact ⟨rfl, rfl, rfl, rfl⟩
theorem bz_i_getS {k : Nat} {N : bz_N} {i : Nat} {L : List (Option bz_V)} {st : List bz_V} {μ : bz_M} {res : bz_R} {a j idx : Nat} {ref : String} (hT : gT μ a = 1 ∨ gT μ a = 2 ∨ gT μ a = 3) (hj : j < 4) (hd : decode (bz_b k) (bz_pc k i) = .ok (.getfield idx, 3)) (hp : bz_pc k (i + 1) = bz_pc k i + 3) (hw : Cond.fieldLink (bz_ow k) idx ref (bz_fnd (5000 + j)).2.1 (bz_fnd (5000 + j)).2.2.1 ∈ bz_W) (hsm : bz_same1 ref (bz_fnd (5000 + j))) (h : bz_H k N (i + 1) L (zI (gM μ a (j : Int)) :: st) μ res) : bz_H k N i L (zR a :: st) μ res := by
  obtain ⟨e1, e2, e3, e4⟩ := bz_sy hT hj
  rw [← e1] at hw hsm
  exact bz_i_getI rfl (by omega) (by rw [e3]; exact hj) hd hp hw hsm e2 h
theorem bz_i_putS {k : Nat} {N : bz_N} {i : Nat} {L : List (Option bz_V)} {st : List bz_V} {μ : bz_M} {res : bz_R} {a j idx : Nat} {ref : String} {x : Int} (hT : gT μ a = 1 ∨ gT μ a = 2 ∨ gT μ a = 3) (hj : j < 4) (hd : decode (bz_b k) (bz_pc k i) = .ok (.putfield idx, 3)) (hp : bz_pc k (i + 1) = bz_pc k i + 3) (hw : Cond.fieldLink (bz_ow k) idx ref (bz_fnd (5000 + j)).2.1 (bz_fnd (5000 + j)).2.2.1 ∈ bz_W) (hsm : bz_same1 ref (bz_fnd (5000 + j))) (hfin : (bz_fnd (5000 + j)).2.2.2 = false ∨ ((bz_fnd (5000 + j)).2.2.2 = true ∧ (bz_y k).name = "<init>" ∧ (bz_fnd (5000 + j)).1 = bz_ow k)) (h : bz_H k N (i + 1) L st (sM μ a (j : Int) x) res) : bz_H k N i L (zI x :: zR a :: st) μ res := by
  obtain ⟨e1, e2, e3, e4⟩ := bz_sy hT hj
  rw [← e1] at hw hsm hfin
  exact bz_i_putI rfl (by omega) (by rw [e3]; exact hj) hd hp hw hsm hfin e2 (Or.inl e4) h
theorem bz_i_strV {k : Nat} {N : bz_N} {i : Nat} {L : List (Option bz_V)} {st : List bz_V} {μ : bz_M} {res : bz_R} {a idx : Nat} (hT : gT μ a = 28) (hnz : gP μ a 0 ≠ 0) (hd : decode (bz_b k) (bz_pc k i) = .ok (.getfield idx, 3)) (hp : bz_pc k (i + 1) = bz_pc k i + 3) (hw : Cond.fieldLink (bz_ow k) idx "java/lang/String" "value" "[B" ∈ bz_W) (h : bz_H k N (i + 1) L (zR (gP μ a 0) :: st) μ res) : bz_H k N i L (zR a :: st) μ res := by
  refine ⟨h.1, ?_⟩
  intro p l e R s m args below meth c' H locs ls sv c0 s0 mc ms C a1 a2 a3 a4 a5 a6 hz hS hR hL hv
  have hE := C.2.2.2.2
  have hts := C.1.2.2.2.2.2.2.2.2.1
  obtain ⟨w1, ws, rfl, hv1, t⟩ := bz_vs1 hv
  obtain ⟨ha, ha2, hnT⟩ := bz_out hR.1 hE hT (by omega)
  have e1 := bz_vr_in hv1 ha2
  subst e1
  have e2 : bz_ad N a = nX N a := by unfold bz_ad; rw [if_pos ha]
  rw [e2]
  obtain ⟨g1, g2, g3⟩ := hE.2.2.2.2.2.2.2.2.1 a _ ha hnT
  obtain ⟨hM0, hP0⟩ := hR.1.2.2.2.2.2.2.1 a ha 0
  obtain ⟨q1, q2⟩ := g3 (by rw [← hP0]; exact hnz)
  refine vk_getf C.1.1 C.1.2.2.1 q2 hS C.1.2.2.2.2.2.1 (hts _ hw) (fun _ h => h) hd ?_
  rw [← hp]
  refine h.2 p l e R s m args below meth c' H locs ls (_ :: ws) c0 s0 mc ms C a1 a2 a3 a4 a5 a6 hz hS hR hL ⟨?_, t⟩
  have e3 : nX N (nP N a 0) = bz_ad N (nP N a 0) := by unfold bz_ad; rw [if_pos (by omega)]
  rw [hP0, e3]
  exact bz_vr_mk
theorem bz_i_strC {k : Nat} {N : bz_N} {i : Nat} {L : List (Option bz_V)} {st : List bz_V} {μ : bz_M} {res : bz_R} {a idx : Nat} (hT : gT μ a = 28) (hd : decode (bz_b k) (bz_pc k i) = .ok (.getfield idx, 3)) (hp : bz_pc k (i + 1) = bz_pc k i + 3) (hw : Cond.fieldLink (bz_ow k) idx "java/lang/String" "coder" "B" ∈ bz_W) (h : bz_H k N (i + 1) L (zI (gM μ a 1) :: st) μ res) : bz_H k N i L (zR a :: st) μ res := by
  refine ⟨h.1, ?_⟩
  intro p l e R s m args below meth c' H locs ls sv c0 s0 mc ms C a1 a2 a3 a4 a5 a6 hz hS hR hL hv
  have hE := C.2.2.2.2
  have hts := C.1.2.2.2.2.2.2.2.2.1
  obtain ⟨w1, ws, rfl, hv1, t⟩ := bz_vs1 hv
  obtain ⟨ha, ha2, hnT⟩ := bz_out hR.1 hE hT (by omega)
  have e1 := bz_vr_in hv1 ha2
  subst e1
  have e2 : bz_ad N a = nX N a := by unfold bz_ad; rw [if_pos ha]
  rw [e2]
  obtain ⟨g1, g2, g3⟩ := hE.2.2.2.2.2.2.2.2.1 a _ ha hnT
  obtain ⟨hM0, hP0⟩ := hR.1.2.2.2.2.2.2.1 a ha 1
  refine vk_getf C.1.1 C.1.2.2.1 g2 hS C.1.2.2.2.2.2.1 (hts _ hw) (fun _ h => h) hd ?_
  rw [← hp]
  refine h.2 p l e R s m args below meth c' H locs ls (_ :: ws) c0 s0 mc ms C a1 a2 a3 a4 a5 a6 hz hS hR hL ⟨⟨_, rfl, ?_⟩, t⟩
  rw [← hM0]
  exact bz_to (hR.1.2.1 a 1)
theorem bz_i_getA {k : Nat} {N : bz_N} {i : Nat} {L : List (Option bz_V)} {st : List bz_V} {μ : bz_M} {res : bz_R} {q idx : Nat} (hq : (q = 2 ∧ bz_ow k = "BarcodeEngine$Ean8" ∧ idx = 25) ∨ (q = 3 ∧ bz_ow k = "BarcodeEngine$Interleaved" ∧ idx = 31) ∨ (q = 4 ∧ bz_ow k = "BarcodeEngine$Codabar" ∧ idx = 25)) (hd : decode (bz_b k) (bz_pc k i) = .ok (.getstatic idx, 3)) (hp : bz_pc k (i + 1) = bz_pc k i + 3) (h : bz_H k N (i + 1) L (zR q :: st) μ res) : bz_H k N i L st μ res := by
  refine ⟨h.1, ?_⟩
  intro p l e R s m args below meth c' H locs ls sv c0 s0 mc ms C a1 a2 a3 a4 a5 a6 hz hS hR hL hv
  have hE := C.2.2.2.2
  have K : ∀ q9 : Nat, q9 = q → q9 < 15 → W p l e R s m args below meth c' H locs (C1 μ - c0) (C2 μ - s0) (vx_MQ below (bz_Qc k N res) (bz_XC N res) args s mc ms (bz_A N)) (F0 m (bz_pc k i + 3) ls (.ref (nX N q9) :: sv)) := by
    intro q9 e9 hq9
    subst e9
    rw [← hp]
    refine h.2 p l e R s m args below meth c' H locs ls (_ :: sv) c0 s0 mc ms C a1 a2 a3 a4 a5 a6 hz hS hR hL ⟨?_, hv⟩
    have e3 : nX N q9 = bz_ad N q9 := by unfold bz_ad; rw [if_pos (by omega)]
    rw [e3]
    exact bz_vr_mk
  obtain ⟨-, -, -, -, ⟨z2, z3, z4⟩, -, -, -, -, -, -, -, -, -, -, h19, -⟩ := hE
  have own := C.1.2.2.2.2.2.1
  rcases hq with ⟨rfl, q1, rfl⟩ | ⟨rfl, q1, rfl⟩ | ⟨rfl, q1, rfl⟩
  · rw [q1] at own
    exact va_getsN C.1.1 C.1.2.2.1 z2 hS own (va_Nw.use rfl (h19 ("BarcodeEngine$Ean8", 25, "EAN_WIDTHS") (by simp [bz_nst]))) (fun _ h => h) hd (K 2 rfl (by omega))
  · rw [q1] at own
    exact va_getsN C.1.1 C.1.2.2.1 z3 hS own (va_Nw.use rfl (h19 ("BarcodeEngine$Interleaved", 31, "INTERLEAVED_PATTERNS") (by simp [bz_nst]))) (fun _ h => h) hd (K 3 rfl (by omega))
  · rw [q1] at own
    exact va_getsN C.1.1 C.1.2.2.1 z4 hS own (va_Nw.use rfl (h19 ("BarcodeEngine$Codabar", 25, "CODABAR_PATTERNS") (by simp [bz_nst]))) (fun _ h => h) hd (K 4 rfl (by omega))
theorem bz_i_compact {k : Nat} {N : bz_N} {i : Nat} {L : List (Option bz_V)} {st : List bz_V} {μ : bz_M} {res : bz_R} {idx : Nat} (hw : Cond.fieldLink (bz_ow k) idx "java/lang/String" "COMPACT_STRINGS" "Z" ∈ bz_W) (hd : decode (bz_b k) (bz_pc k i) = .ok (.getstatic idx, 3)) (hp : bz_pc k (i + 1) = bz_pc k i + 3) (h : bz_H k N (i + 1) L (zI 1 :: st) μ res) : bz_H k N i L st μ res := by
  refine ⟨h.1, ?_⟩
  intro p l e R s m args below meth c' H locs ls sv c0 s0 mc ms C a1 a2 a3 a4 a5 a6 hz hS hR hL hv
  have hE := C.2.2.2.2
  have hts := C.1.2.2.2.2.2.2.2.2.1
  refine va_gets C.1.1 C.1.2.2.1 hE.2.2.2.2.2.1.1 hS C.1.2.2.2.2.2.1 (hts _ hw) (fun _ h => h) hd ?_
  rw [← hp]
  exact h.2 p l e R s m args below meth c' H locs ls (_ :: sv) c0 s0 mc ms C a1 a2 a3 a4 a5 a6 hz hS hR hL ⟨⟨_, rfl, rfl⟩, hv⟩
theorem bz_i_siobe {k : Nat} {N : bz_N} {i : Nat} {L : List (Option bz_V)} {st : List bz_V} {μ : bz_M} {res : bz_R} {idx : Nat} (hw : Cond.fieldLink (bz_ow k) idx "jdk/internal/util/Preconditions" "SIOOBE_FORMATTER" "Ljava/util/function/BiFunction;" ∈ bz_W) (hd : decode (bz_b k) (bz_pc k i) = .ok (.getstatic idx, 3)) (hp : bz_pc k (i + 1) = bz_pc k i + 3) (h : bz_H k N (i + 1) L (zR 15 :: st) μ res) : bz_H k N i L st μ res := by
  refine ⟨h.1, ?_⟩
  intro p l e R s m args below meth c' H locs ls sv c0 s0 mc ms C a1 a2 a3 a4 a5 a6 hz hS hR hL hv
  have hE := C.2.2.2.2
  have hts := C.1.2.2.2.2.2.2.2.2.1
  rcases hE.2.2.2.2.2.1.2 with z | ⟨t, z⟩
  · refine va_gets C.1.1 C.1.2.2.1 z hS C.1.2.2.2.2.2.1 (hts _ hw) (fun _ h => h) hd ?_
    rw [← hp]
    exact h.2 p l e R s m args below meth c' H locs ls (_ :: sv) c0 s0 mc ms C a1 a2 a3 a4 a5 a6 hz hS hR hL ⟨by unfold bz_vr; dsimp only; rw [if_pos rfl]; exact Or.inl rfl, hv⟩
  · refine va_gets C.1.1 C.1.2.2.1 z hS C.1.2.2.2.2.2.1 (hts _ hw) (fun _ h => h) hd ?_
    rw [← hp]
    exact h.2 p l e R s m args below meth c' H locs ls (_ :: sv) c0 s0 mc ms C a1 a2 a3 a4 a5 a6 hz hS hR hL ⟨by unfold bz_vr; dsimp only; rw [if_pos rfl]; exact Or.inr ⟨_, rfl⟩, hv⟩
theorem bz_i_ldc5 {k : Nat} {N : bz_N} {i : Nat} {L : List (Option bz_V)} {st : List bz_V} {μ : bz_M} {res : bz_R} (hk : bz_ow k = "BarcodeEngine") (hd : decode (bz_b k) (bz_pc k i) = .ok (.ldc_w 337, 3)) (hp : bz_pc k (i + 1) = bz_pc k i + 3) (h : bz_H k N (i + 1) L (zR 5 :: st) μ res) : bz_H k N i L st μ res := by
  refine ⟨h.1, ?_⟩
  intro p l e R s m args below meth c' H locs ls sv c0 s0 mc ms C a1 a2 a3 a4 a5 a6 hz hS hR hL hv
  have hZ := C.2.2.2.2.2.2.1.1
  have own := C.1.2.2.2.2.2.1
  rw [hk] at own
  have K := h.2 p l e R s m args below meth c' H locs ls (.ref (nX N 5) :: sv) c0 s0 mc ms C a1 a2 a3 a4 a5 a6 hz hS hR hL ⟨(bz_vr_mk : bz_vr N (zR 5) (.ref (bz_ad N 5))), hv⟩
  rw [hp] at K
  intro T hT X
  obtain ⟨t, b1, b2⟩ := K T hT X
  exact ⟨t, X.ldcStringW C.1.1 own (text := "0123456789-$:/.+ABCD") (a := nX N 5) hZ.1 hZ.2 (g := F0 m (bz_pc k i) ls sv) rfl (by rw [C.1.2.2.1]; exact hd) t b1, b2⟩
theorem bz_i_ldc6 {k : Nat} {N : bz_N} {i : Nat} {L : List (Option bz_V)} {st : List bz_V} {μ : bz_M} {res : bz_R} (hk : bz_ow k = "BarcodeEngineModel") (hd : decode (bz_b k) (bz_pc k i) = .ok (.ldc 84, 2)) (hp : bz_pc k (i + 1) = bz_pc k i + 2) (h : bz_H k N (i + 1) L (zR 6 :: st) μ res) : bz_H k N i L st μ res := by
  refine ⟨h.1, ?_⟩
  intro p l e R s m args below meth c' H locs ls sv c0 s0 mc ms C a1 a2 a3 a4 a5 a6 hz hS hR hL hv
  have hZ := C.2.2.2.2.2.2.1.2
  have own := C.1.2.2.2.2.2.1
  rw [hk] at own
  have K := h.2 p l e R s m args below meth c' H locs ls (.ref (nX N 6) :: sv) c0 s0 mc ms C a1 a2 a3 a4 a5 a6 hz hS hR hL ⟨(bz_vr_mk : bz_vr N (zR 6) (.ref (bz_ad N 6))), hv⟩
  rw [hp] at K
  exact va_ldcS C.1.1 C.1.2.2.1 own hZ hd K
theorem bz_oi_i : Cond.instanceMethod Lib.objectInit ∈ bz_W := List.mem_filter.mpr ⟨List.mem_of_getElem? (i := 122) (by decide +kernel), rfl⟩
theorem bz_oi_c : Cond.code Lib.objectInit ⟨#[0xb1]⟩ 1 none ∈ bz_W := List.mem_filter.mpr ⟨List.mem_of_getElem? (i := 123) (by decide +kernel), rfl⟩
def bz_ois : List (String × Nat × Nat) := [("BarcodeEngine", 1, 121), ("BarcodeEngine$Row", 3, 129), ("BarcodeEngine$Symbology", 3, 160), ("BarcodeEngine$Tally", 3, 208), ("BarcodeEngine$Sequence", 3, 237), ("BarcodeEngine$Scan", 1, 268), ("BarcodeEngine$Reading", 1, 277), ("BarcodeEngineModel", 1, 1262)]
theorem bz_ois_all : bz_ois.all (fun e => decide (bz_T[e.2.2]? = some (Cond.methodLink e.1 e.2.1 Lib.objectInit))) = true := by decide +kernel
theorem bz_ois_in : ∀ e ∈ bz_ois, Cond.methodLink e.1 e.2.1 Lib.objectInit ∈ bz_W := fun e he => List.mem_filter.mpr ⟨List.mem_of_getElem? (of_decide_eq_true (List.all_eq_true.mp bz_ois_all e he)), rfl⟩
theorem bz_i_oinit {k : Nat} {N : bz_N} {i : Nat} {L : List (Option bz_V)} {st : List bz_V} {μ : bz_M} {res : bz_R} {a idx n9 : Nat} (he : (bz_ow k, idx, n9) ∈ bz_ois) (hfr : 1 ≤ bz_fr k) (hlo : 20 ≤ bz_lo0 k) (hsum : bz_sum st ≤ 8) (hd : decode (bz_b k) (bz_pc k i) = .ok (.invokespecial idx, 3)) (hp : bz_pc k (i + 1) = bz_pc k i + 3) (ha : a ≠ 15) (h : bz_H k N (i + 1) L st μ res) : bz_H k N i L (zR a :: st) μ res := by
  refine ⟨h.1, ?_⟩
  intro p l e R s m args below meth c' H locs ls sv c0 s0 mc ms C a1 a2 a3 a4 a5 a6 hz hS hR hL hv
  have hts := C.1.2.2.2.2.2.2.2.2.1
  obtain ⟨w1, ws, rfl, hv1, t⟩ := bz_vs1 hv
  have e1 := bz_vr_in hv1 ha
  subst e1
  have K := h.2 p l e R s m args below meth c' H locs ls ws c0 s0 mc ms C a1 a2 a3 a4 a5 a6 hz hS hR hL t
  rw [hp] at K
  refine W.objInit C.1.1 C.1.2.2.1 C.1.2.2.2.2.2.1 (hts _ (bz_ois_in _ he)) (hts _ bz_oi_i) (hts _ bz_oi_c) rfl (by rw [C.1.2.2.2.1]; exact hL.1) rfl hd (by have := C.2.1; omega) ?_ K
  have := C.2.2.1
  rw [bz_vs_sum t]
  show 2 * 0 + bz_sum st + 12 ≤ R.locals
  omega
theorem bz_sm {n : Int32} (h : 0 ≤ n.toInt ∧ n.toInt < 128) : n = Int32.ofNat n.toInt.toNat := by
  apply (bz_eq0 _ _).mpr
  rw [Int32.toInt_ofNat_of_lt (by omega)]
  omega
theorem bz_nars : (List.range 128).all (fun q => decide (narrow .char (.int (Int32.ofNat q)) = .int (Int32.ofNat q) ∧ narrow .byte (.int (Int32.ofNat q)) = .int (Int32.ofNat q))) = true := by decide +kernel
theorem bz_narC {q : Nat} (h : q < 128) : narrow .char (.int (Int32.ofNat q)) = .int (Int32.ofNat q) := (of_decide_eq_true (List.all_eq_true.mp bz_nars q (List.mem_range.mpr h))).1
theorem bz_narB {q : Nat} (h : q < 128) : narrow .byte (.int (Int32.ofNat q)) = .int (Int32.ofNat q) := (of_decide_eq_true (List.all_eq_true.mp bz_nars q (List.mem_range.mpr h))).2
theorem bz_i_iret {k : Nat} {N : bz_N} {i : Nat} {L : List (Option bz_V)} {st : List bz_V} {μ : bz_M} {x : Int} (hr : bz_rt k = some .int) (hd : decode (bz_b k) (bz_pc k i) = .ok (.ireturn, 1)) : bz_H k N i L [zI x] μ (.inl (zI x), μ) := by
  refine ⟨⟨Nat.le_refl _, Nat.le_refl _⟩, ?_⟩
  intro p l e R s m args below meth c' H locs ls sv c0 s0 mc ms C a1 a2 a3 a4 a5 a6 hz hS hR hL hv
  obtain ⟨w1, ws, rfl, ⟨n0, rfl, e0⟩, t⟩ := bz_vs1 hv
  have := bz_vs0 t
  subst this
  refine W.widen (k := mc) (n := ms) (by show C1 μ - c0 ≤ mc; have : C1 μ ≤ c0 + mc := a3; omega) (by have : C2 μ ≤ s0 + ms := a4; omega) (vx_ret (W.iret C.1.1 C.1.2.2.1 (C.1.2.2.2.2.2.2.2.1.trans hr) (fun t ht hW => ⟨⟨_, rfl, Or.inr ⟨_, _, hr, rfl, n0, rfl, e0⟩⟩, by rw [ht]; exact hR, hS.F ht⟩) hS.2.2 hd C.1.2.2.2.2.1))
theorem bz_i_zret {k : Nat} {N : bz_N} {i : Nat} {L : List (Option bz_V)} {st : List bz_V} {μ : bz_M} {x : Int} (hr : bz_rt k = some .boolean) (hx : x = 0 ∨ x = 1) (hd : decode (bz_b k) (bz_pc k i) = .ok (.ireturn, 1)) : bz_H k N i L [zI x] μ (.inl (zI x), μ) := by
  refine ⟨⟨Nat.le_refl _, Nat.le_refl _⟩, ?_⟩
  intro p l e R s m args below meth c' H locs ls sv c0 s0 mc ms C a1 a2 a3 a4 a5 a6 hz hS hR hL hv
  obtain ⟨w1, ws, rfl, ⟨n0, rfl, e0⟩, t⟩ := bz_vs1 hv
  have := bz_vs0 t
  subst this
  refine W.widen (k := mc) (n := ms) (by show C1 μ - c0 ≤ mc; have : C1 μ ≤ c0 + mc := a3; omega) (by have : C2 μ ≤ s0 + ms := a4; omega) (vx_ret (W.zret C.1.1 C.1.2.2.1 (C.1.2.2.2.2.2.2.2.1.trans hr) (by rcases bz_01 (n := n0) (by rw [e0]; exact hx) with rfl | rfl <;> rfl) (fun t ht hW => ⟨⟨_, rfl, Or.inr ⟨_, _, hr, rfl, n0, rfl, e0⟩⟩, by rw [ht]; exact hR, hS.F ht⟩) hS.2.2 hd C.1.2.2.2.2.1))
theorem bz_i_cret {k : Nat} {N : bz_N} {i : Nat} {L : List (Option bz_V)} {st : List bz_V} {μ : bz_M} {x : Int} (hr : bz_rt k = some .char) (hx : 0 ≤ x ∧ x < 128) (hd : decode (bz_b k) (bz_pc k i) = .ok (.ireturn, 1)) : bz_H k N i L [zI x] μ (.inl (zI x), μ) := by
  refine ⟨⟨Nat.le_refl _, Nat.le_refl _⟩, ?_⟩
  intro p l e R s m args below meth c' H locs ls sv c0 s0 mc ms C a1 a2 a3 a4 a5 a6 hz hS hR hL hv
  obtain ⟨w1, ws, rfl, ⟨n0, rfl, e0⟩, t⟩ := bz_vs1 hv
  have := bz_vs0 t
  subst this
  refine W.widen (k := mc) (n := ms) (by show C1 μ - c0 ≤ mc; have : C1 μ ≤ c0 + mc := a3; omega) (by have : C2 μ ≤ s0 + ms := a4; omega) (vx_ret (W.zret C.1.1 C.1.2.2.1 (C.1.2.2.2.2.2.2.2.1.trans hr) (by rw [bz_sm (n := n0) (by rw [e0]; exact hx)]; exact bz_narC (by have := hx; omega)) (fun t ht hW => ⟨⟨_, rfl, Or.inr ⟨_, _, hr, rfl, n0, rfl, e0⟩⟩, by rw [ht]; exact hR, hS.F ht⟩) hS.2.2 hd C.1.2.2.2.2.1))
theorem bz_i_bret {k : Nat} {N : bz_N} {i : Nat} {L : List (Option bz_V)} {st : List bz_V} {μ : bz_M} {x : Int} (hr : bz_rt k = some .byte) (hx : 0 ≤ x ∧ x < 128) (hd : decode (bz_b k) (bz_pc k i) = .ok (.ireturn, 1)) : bz_H k N i L [zI x] μ (.inl (zI x), μ) := by
  refine ⟨⟨Nat.le_refl _, Nat.le_refl _⟩, ?_⟩
  intro p l e R s m args below meth c' H locs ls sv c0 s0 mc ms C a1 a2 a3 a4 a5 a6 hz hS hR hL hv
  obtain ⟨w1, ws, rfl, ⟨n0, rfl, e0⟩, t⟩ := bz_vs1 hv
  have := bz_vs0 t
  subst this
  refine W.widen (k := mc) (n := ms) (by show C1 μ - c0 ≤ mc; have : C1 μ ≤ c0 + mc := a3; omega) (by have : C2 μ ≤ s0 + ms := a4; omega) (vx_ret (W.zret C.1.1 C.1.2.2.1 (C.1.2.2.2.2.2.2.2.1.trans hr) (by rw [bz_sm (n := n0) (by rw [e0]; exact hx)]; exact bz_narB (by have := hx; omega)) (fun t ht hW => ⟨⟨_, rfl, Or.inr ⟨_, _, hr, rfl, n0, rfl, e0⟩⟩, by rw [ht]; exact hR, hS.F ht⟩) hS.2.2 hd C.1.2.2.2.2.1))
theorem bz_i_lret {k : Nat} {N : bz_N} {i : Nat} {L : List (Option bz_V)} {st : List bz_V} {μ : bz_M} {x : Int} (hr : bz_rt k = some .long) (hd : decode (bz_b k) (bz_pc k i) = .ok (.lreturn, 1)) : bz_H k N i L [zL x] μ (.inl (zL x), μ) := by
  refine ⟨⟨Nat.le_refl _, Nat.le_refl _⟩, ?_⟩
  intro p l e R s m args below meth c' H locs ls sv c0 s0 mc ms C a1 a2 a3 a4 a5 a6 hz hS hR hL hv
  obtain ⟨w1, ws, rfl, ⟨n0, rfl, e0⟩, t⟩ := bz_vs1 hv
  have := bz_vs0 t
  subst this
  refine W.widen (k := mc) (n := ms) (by show C1 μ - c0 ≤ mc; have : C1 μ ≤ c0 + mc := a3; omega) (by have : C2 μ ≤ s0 + ms := a4; omega) (vx_ret (W.lret C.1.1 C.1.2.2.1 (C.1.2.2.2.2.2.2.2.1.trans hr) (fun t ht hW => ⟨⟨_, rfl, Or.inr ⟨_, _, hr, rfl, n0, rfl, e0⟩⟩, by rw [ht]; exact hR, hS.F ht⟩) hS.2.2 hd C.1.2.2.2.2.1))
theorem bz_i_aret {k : Nat} {N : bz_N} {i : Nat} {L : List (Option bz_V)} {st : List bz_V} {μ : bz_M} {b : Nat} (hr : bz_kty 2 ((bz_rt k).getD .int) = true) (hd : decode (bz_b k) (bz_pc k i) = .ok (.areturn, 1)) : bz_H k N i L [zR b] μ (.inl (zR b), μ) := by
  refine ⟨⟨Nat.le_refl _, Nat.le_refl _⟩, ?_⟩
  intro p l e R s m args below meth c' H locs ls sv c0 s0 mc ms C a1 a2 a3 a4 a5 a6 hz hS hR hL hv
  obtain ⟨w1, ws, rfl, hv1, t⟩ := bz_vs1 hv
  have := bz_vs0 t
  subst this
  cases hq : bz_rt k with
  | none => rw [hq] at hr; cases hr
  | some rt =>
    rw [hq] at hr
    exact W.widen (k := mc) (n := ms) (by show C1 μ - c0 ≤ mc; have : C1 μ ≤ c0 + mc := a3; omega) (by have : C2 μ ≤ s0 + ms := a4; omega) (vx_ret (W.aret C.1.1 C.1.2.2.1 (C.1.2.2.2.2.2.2.2.1.trans hq) (bz_kty2 hr) (bz_vr_ref hv1) (fun t ht hW => ⟨⟨_, rfl, Or.inr ⟨_, _, hq, rfl, hv1⟩⟩, by rw [ht]; exact hR, hS.F ht⟩) hS.2.2 hd C.1.2.2.2.2.1))
theorem bz_i_vret {k : Nat} {N : bz_N} {i : Nat} {L : List (Option bz_V)} {st : List bz_V} {μ : bz_M} (hr : bz_rt k = none) (hd : decode (bz_b k) (bz_pc k i) = .ok (.return_, 1)) : bz_H k N i L [] μ (.inl (zI 0), μ) := by
  refine ⟨⟨Nat.le_refl _, Nat.le_refl _⟩, ?_⟩
  intro p l e R s m args below meth c' H locs ls sv c0 s0 mc ms C a1 a2 a3 a4 a5 a6 hz hS hR hL hv
  have := bz_vs0 hv
  subst this
  exact W.widen (k := mc) (n := ms) (by show C1 μ - c0 ≤ mc; have : C1 μ ≤ c0 + mc := a3; omega) (by have : C2 μ ≤ s0 + ms := a4; omega) (vx_ret (W.vret C.1.1 C.1.2.2.1 (C.1.2.2.2.2.2.2.2.1.trans hr) (fun t ht hW => ⟨⟨_, rfl, Or.inl ⟨hr, rfl⟩⟩, by rw [ht]; exact hR, hS.F ht⟩) hS.2.2 hd C.1.2.2.2.2.1))
