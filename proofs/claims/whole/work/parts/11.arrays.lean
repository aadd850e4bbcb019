/-! ARRAYS READ AND WRITTEN -/
theorem bz_i_iald {k : Nat} {N : bz_N} {i : Nat} {L : List (Option bz_V)} {st : List bz_V} {μ : bz_M} {res : bz_R} {a : Nat} {x : Int} (hT : gT μ a = 20) (h0 : 0 ≤ x) (h1 : x < gN μ a) (hd : decode (bz_b k) (bz_pc k i) = .ok (.iaload, 1)) (hp : bz_pc k (i + 1) = bz_pc k i + 1) (h : bz_H k N (i + 1) L (zI (gM μ a x) :: st) μ res) : bz_H k N i L (zI x :: zR a :: st) μ res := by
  refine ⟨h.1, ?_⟩
  intro p l e R s m args below meth c' H locs ls sv c0 s0 mc ms C a1 a2 a3 a4 a5 a6 hz hS hR hL hv
  have hE := C.2.2.2.2
  obtain ⟨w0, w1, ws, rfl, ⟨n0, rfl, e0⟩, hv1, t⟩ := bz_vs2 hv
  have ha := bz_rep_tag hR hE (a := a) (by rw [hT]; unfold bz_tg1; omega)
  have e1 := bz_vr_in hv1 (by omega)
  subst e1
  have hin : vp_in n0 (bz_nn μ a) := bz_vpin (by omega) (by rw [e0, ← bz_gN_eq]; exact h1)
  have hcl : ((n0.toNatClampNeg : Nat) : Int) = x := by rw [bz_clamp (by omega), e0]
  have he := bz_ws_get (N := N) ha
  rw [bz_arr hT (by omega)] at he
  refine va_iald (D := nD N) C.1.1 C.1.2.2.1 hE.1 hR.2 (a - 16) 0 he rfl hin hd ?_
  rw [← hp]
  exact h.2 p l e R s m args below meth c' H locs ls (_ :: ws) c0 s0 mc ms C a1 a2 a3 a4 a5 a6 hz hS hR hL ⟨⟨_, rfl, by rw [hcl]; exact bz_to (hR.1.2.1 a x)⟩, t⟩
theorem bz_i_zald {k : Nat} {N : bz_N} {i : Nat} {L : List (Option bz_V)} {st : List bz_V} {μ : bz_M} {res : bz_R} {a : Nat} {x : Int} (hT : gT μ a = 22) (h0 : 0 ≤ x) (h1 : x < gN μ a) (hd : decode (bz_b k) (bz_pc k i) = .ok (.baload, 1)) (hp : bz_pc k (i + 1) = bz_pc k i + 1) (h : bz_H k N (i + 1) L (zI (gM μ a x) :: st) μ res) : bz_H k N i L (zI x :: zR a :: st) μ res := by
  refine ⟨h.1, ?_⟩
  intro p l e R s m args below meth c' H locs ls sv c0 s0 mc ms C a1 a2 a3 a4 a5 a6 hz hS hR hL hv
  have hE := C.2.2.2.2
  obtain ⟨w0, w1, ws, rfl, ⟨n0, rfl, e0⟩, hv1, t⟩ := bz_vs2 hv
  have ha := bz_rep_tag hR hE (a := a) (by rw [hT]; unfold bz_tg1; omega)
  have e1 := bz_vr_in hv1 (by omega)
  subst e1
  have hin : vp_in n0 (bz_nn μ a) := bz_vpin (by omega) (by rw [e0, ← bz_gN_eq]; exact h1)
  have hcl : ((n0.toNatClampNeg : Nat) : Int) = x := by rw [bz_clamp (by omega), e0]
  have he := bz_ws_get (N := N) ha
  rw [bz_arr hT (by omega)] at he
  refine va_zald (D := nD N) C.1.1 C.1.2.2.1 hE.1 hR.2 (a - 16) 1 he rfl hin hd ?_
  rw [← hp]
  exact h.2 p l e R s m args below meth c' H locs ls (_ :: ws) c0 s0 mc ms C a1 a2 a3 a4 a5 a6 hz hS hR hL ⟨⟨_, rfl, by rw [hcl]; exact bz_to (hR.1.2.1 a x)⟩, t⟩
theorem bz_i_lald {k : Nat} {N : bz_N} {i : Nat} {L : List (Option bz_V)} {st : List bz_V} {μ : bz_M} {res : bz_R} {a : Nat} {x : Int} (hT : gT μ a = 23) (h0 : 0 ≤ x) (h1 : x < gN μ a) (hd : decode (bz_b k) (bz_pc k i) = .ok (.laload, 1)) (hp : bz_pc k (i + 1) = bz_pc k i + 1) (h : bz_H k N (i + 1) L (zL (gG μ a x) :: st) μ res) : bz_H k N i L (zI x :: zR a :: st) μ res := by
  refine ⟨h.1, ?_⟩
  intro p l e R s m args below meth c' H locs ls sv c0 s0 mc ms C a1 a2 a3 a4 a5 a6 hz hS hR hL hv
  have hE := C.2.2.2.2
  obtain ⟨w0, w1, ws, rfl, ⟨n0, rfl, e0⟩, hv1, t⟩ := bz_vs2 hv
  have ha := bz_rep_tag hR hE (a := a) (by rw [hT]; unfold bz_tg1; omega)
  have e1 := bz_vr_in hv1 (by omega)
  subst e1
  have hin : vp_in n0 (bz_nn μ a) := bz_vpin (by omega) (by rw [e0, ← bz_gN_eq]; exact h1)
  have hcl : ((n0.toNatClampNeg : Nat) : Int) = x := by rw [bz_clamp (by omega), e0]
  have he := bz_ws_get (N := N) ha
  rw [bz_arr hT (by omega)] at he
  refine va_lald (D := nD N) C.1.1 C.1.2.2.1 hE.1 hR.2 (a - 16) 2 he rfl hin hd ?_
  rw [← hp]
  exact h.2 p l e R s m args below meth c' H locs ls (_ :: ws) c0 s0 mc ms C a1 a2 a3 a4 a5 a6 hz hS hR hL ⟨⟨_, rfl, by rw [hcl]; exact bz_tol (hR.1.2.2.1 a x)⟩, t⟩
theorem bz_i_iald2 {k : Nat} {N : bz_N} {i : Nat} {L : List (Option bz_V)} {st : List bz_V} {μ : bz_M} {res : bz_R} {a : Nat} {x : Int} (hT : gT μ a = 21) (h0 : 0 ≤ x) (h1 : x < gN μ a) (hd : decode (bz_b k) (bz_pc k i) = .ok (.iaload, 1)) (hp : bz_pc k (i + 1) = bz_pc k i + 1) (h : bz_H k N (i + 1) L (zI (gM μ a x) :: st) μ res) : bz_H k N i L (zI x :: zR a :: st) μ res := by
  refine ⟨h.1, ?_⟩
  intro p l e R s m args below meth c' H locs ls sv c0 s0 mc ms C a1 a2 a3 a4 a5 a6 hz hS hR hL hv
  have hE := C.2.2.2.2
  obtain ⟨w0, w1, ws, rfl, ⟨n0, rfl, e0⟩, hv1, t⟩ := bz_vs2 hv
  obtain ⟨ha, ha2, hnT⟩ := bz_out hR.1 hE hT (by omega)
  have e1 := bz_vr_in hv1 ha2
  subst e1
  have hin : vp_in n0 (bz_nn μ a) := bz_vpin (by omega) (by rw [e0, ← bz_gN_eq]; exact h1)
  have hcl : ((n0.toNatClampNeg : Nat) : Int) = x := by rw [bz_clamp (by omega), e0]
  have e2 : bz_ad N a = nX N a := by unfold bz_ad; rw [if_pos ha]
  rw [e2]
  refine va_ti C.1.1 C.1.2.2.1 (hE.2.2.2.2.2.2.1 a _ ha hnT) hS hin rfl hd ?_
  rw [← hp]
  exact h.2 p l e R s m args below meth c' H locs ls (_ :: ws) c0 s0 mc ms C a1 a2 a3 a4 a5 a6 hz hS hR hL ⟨⟨_, rfl, by rw [hcl, ← (hR.1.2.2.2.2.2.2.1 a ha x).1]; exact bz_to (hR.1.2.1 a x)⟩, t⟩
theorem bz_i_bald2 {k : Nat} {N : bz_N} {i : Nat} {L : List (Option bz_V)} {st : List bz_V} {μ : bz_M} {res : bz_R} {a : Nat} {x : Int} (hT : gT μ a = 29) (h0 : 0 ≤ x) (h1 : x < gN μ a) (hd : decode (bz_b k) (bz_pc k i) = .ok (.baload, 1)) (hp : bz_pc k (i + 1) = bz_pc k i + 1) (h : bz_H k N (i + 1) L (zI (gM μ a x) :: st) μ res) : bz_H k N i L (zI x :: zR a :: st) μ res := by
  refine ⟨h.1, ?_⟩
  intro p l e R s m args below meth c' H locs ls sv c0 s0 mc ms C a1 a2 a3 a4 a5 a6 hz hS hR hL hv
  have hE := C.2.2.2.2
  obtain ⟨w0, w1, ws, rfl, ⟨n0, rfl, e0⟩, hv1, t⟩ := bz_vs2 hv
  obtain ⟨ha, ha2, hnT⟩ := bz_out hR.1 hE hT (by omega)
  have e1 := bz_vr_in hv1 ha2
  subst e1
  have hin : vp_in n0 (bz_nn μ a) := bz_vpin (by omega) (by rw [e0, ← bz_gN_eq]; exact h1)
  have hcl : ((n0.toNatClampNeg : Nat) : Int) = x := by rw [bz_clamp (by omega), e0]
  have e2 : bz_ad N a = nX N a := by unfold bz_ad; rw [if_pos ha]
  rw [e2]
  refine va_tb C.1.1 C.1.2.2.1 (hE.2.2.2.2.2.2.2.1 a _ ha hnT) hS hin rfl hd ?_
  rw [← hp]
  exact h.2 p l e R s m args below meth c' H locs ls (_ :: ws) c0 s0 mc ms C a1 a2 a3 a4 a5 a6 hz hS hR hL ⟨⟨_, rfl, by rw [hcl, ← (hR.1.2.2.2.2.2.2.1 a ha x).1]; exact bz_to (hR.1.2.1 a x)⟩, t⟩
theorem bz_i_aald {k : Nat} {N : bz_N} {i : Nat} {L : List (Option bz_V)} {st : List bz_V} {μ : bz_M} {res : bz_R} {a tt : Nat} {x : Int} (hT : gT μ a = tt) (htt : 24 ≤ tt ∧ tt ≤ 27) (h0 : 0 ≤ x) (h1 : x < gN μ a) (hnz : gP μ a x ≠ 0) (hd : decode (bz_b k) (bz_pc k i) = .ok (.aaload, 1)) (hp : bz_pc k (i + 1) = bz_pc k i + 1) (h : bz_H k N (i + 1) L (zR (gP μ a x) :: st) μ res) : bz_H k N i L (zI x :: zR a :: st) μ res := by
  refine ⟨h.1, ?_⟩
  intro p l e R s m args below meth c' H locs ls sv c0 s0 mc ms C a1 a2 a3 a4 a5 a6 hz hS hR hL hv
  have hE := C.2.2.2.2
  obtain ⟨w0, w1, ws, rfl, ⟨n0, rfl, e0⟩, hv1, t⟩ := bz_vs2 hv
  have ha := bz_rep_tag hR hE (a := a) (by rw [hT]; unfold bz_tg1; omega)
  have e1 := bz_vr_in hv1 (by omega)
  subst e1
  have hin : vp_in n0 (bz_nn μ a) := bz_vpin (by omega) (by rw [e0, ← bz_gN_eq]; exact h1)
  have hcl : ((n0.toNatClampNeg : Nat) : Int) = x := by rw [bz_clamp (by omega), e0]
  have he := bz_ws_get (N := N) ha
  rw [bz_arr hT (by omega)] at he
  have hda : bz_da N μ a tt = .inr (.inr (.inr (.inr (fun j => bz_rf N (gP μ a j))))) := by unfold bz_da; rw [if_neg (by omega), if_neg (by omega)]
  rw [hda] at he
  have hval : va_rf (bz_rf N (gP μ a ((n0.toNatClampNeg : Nat) : Int))) = .ref (bz_ad N (gP μ a x)) := by rw [hcl]; unfold bz_rf; rw [if_neg hnz]; rfl
  have K := h.2 p l e R s m args below meth c' H locs ls (_ :: ws) c0 s0 mc ms C a1 a2 a3 a4 a5 a6 hz hS hR hL ⟨bz_vr_mk, t⟩
  rw [hp, ← hval] at K
  rcases (show tt = 24 ∨ tt = 25 ∨ tt = 26 ∨ tt = 27 by omega) with rfl | rfl | rfl | rfl
  · exact va_aldq (D := nD N) C.1.1 C.1.2.2.1 hE.1 hR.2 (a - 16) 3 he rfl hin hd K
  · exact va_aldq (D := nD N) C.1.1 C.1.2.2.1 hE.1 hR.2 (a - 16) 4 he rfl hin hd K
  · exact va_aldq (D := nD N) C.1.1 C.1.2.2.1 hE.1 hR.2 (a - 16) 5 he rfl hin hd K
  · exact va_aldq (D := nD N) C.1.1 C.1.2.2.1 hE.1 hR.2 (a - 16) 6 he rfl hin hd K
theorem bz_i_alen {k : Nat} {N : bz_N} {i : Nat} {L : List (Option bz_V)} {st : List bz_V} {μ : bz_M} {res : bz_R} {a : Nat} (hT : 20 ≤ gT μ a ∧ gT μ a ≠ 28) (hd : decode (bz_b k) (bz_pc k i) = .ok (.arraylength, 1)) (hp : bz_pc k (i + 1) = bz_pc k i + 1) (h : bz_H k N (i + 1) L (zI (gN μ a) :: st) μ res) : bz_H k N i L (zR a :: st) μ res := by
  refine ⟨h.1, ?_⟩
  intro p l e R s m args below meth c' H locs ls sv c0 s0 mc ms C a1 a2 a3 a4 a5 a6 hz hS hR hL hv
  have hE := C.2.2.2.2
  obtain ⟨w1, ws, rfl, hv1, t⟩ := bz_vs1 hv
  have hn := hR.1.2.2.2.2.2.2.2 a
  have hval : (Int32.ofNat (bz_nn μ a)).toInt = gN μ a := by rw [Int32.toInt_ofNat_of_lt (by omega)]; rfl
  have K := h.2 p l e R s m args below meth c' H locs ls (.int (Int32.ofNat (bz_nn μ a)) :: ws) c0 s0 mc ms C a1 a2 a3 a4 a5 a6 hz hS hR hL ⟨⟨_, rfl, hval⟩, t⟩
  rw [hp] at K
  by_cases hx : gT μ a = 21 ∨ gT μ a = 29
  · obtain ⟨ha, ha2, hnT⟩ := bz_out hR.1 hE (a := a) rfl (by omega)
    have e1 := bz_vr_in hv1 ha2
    subst e1
    have e2 : bz_ad N a = nX N a := by unfold bz_ad; rw [if_pos ha]
    rw [e2]
    rcases hx with hx | hx
    · rw [hx] at hnT
      exact va_tlen C.1.1 C.1.2.2.1 (hE.2.2.2.2.2.2.1 a _ ha hnT) hS rfl hd K
    · rw [hx] at hnT
      exact va_tlen C.1.1 C.1.2.2.1 (hE.2.2.2.2.2.2.2.1 a _ ha hnT) hS rfl hd K
  · have hlt : a < μ.1.length := bz_gT_len (by omega)
    have ha : 16 ≤ a ∧ a < μ.1.length := by
      refine ⟨?_, hlt⟩
      rcases Nat.lt_or_ge a 16 with q | q
      · have e2 : μ.1[a]? = some μ.1[a] := List.getElem?_eq_getElem hlt
        have f1 : gT μ a = (μ.1[a]).1 := by unfold gT; rw [List.getD_eq_getElem?_getD, e2]; rfl
        obtain ⟨-, -, -, -, -, -, -, -, -, h13, -⟩ := hE
        have := h13 a _ q ((hR.1.2.2.2.2.2.1 a q).symm.trans e2)
        omega
      · exact q
    have e1 := bz_vr_in hv1 (by omega)
    subst e1
    have he := bz_ws_get (N := N) ha
    rw [bz_arr rfl hT.1] at he
    have ht := hR.1.2.2.2.2.1 a ha.1 ha.2
    have ht2 : gT μ a = 20 ∨ gT μ a = 22 ∨ gT μ a = 23 ∨ gT μ a = 24 ∨ gT μ a = 25 ∨ gT μ a = 26 ∨ gT μ a = 27 := by
      rcases ht with q | q | q <;> omega
    rcases ht2 with q | q | q | q | q | q | q <;> rw [q] at he
    · exact va_alen (D := nD N) C.1.1 C.1.2.2.1 hE.1 hR.2 (a - 16) 0 he rfl rfl hd K
    · exact va_alen (D := nD N) C.1.1 C.1.2.2.1 hE.1 hR.2 (a - 16) 1 he rfl rfl hd K
    · exact va_alen (D := nD N) C.1.1 C.1.2.2.1 hE.1 hR.2 (a - 16) 2 he rfl rfl hd K
    · exact va_alen (D := nD N) C.1.1 C.1.2.2.1 hE.1 hR.2 (a - 16) 3 he rfl rfl hd K
    · exact va_alen (D := nD N) C.1.1 C.1.2.2.1 hE.1 hR.2 (a - 16) 4 he rfl rfl hd K
    · exact va_alen (D := nD N) C.1.1 C.1.2.2.1 hE.1 hR.2 (a - 16) 5 he rfl rfl hd K
    · exact va_alen (D := nD N) C.1.1 C.1.2.2.1 hE.1 hR.2 (a - 16) 6 he rfl rfl hd K
theorem bz_i_iast {k : Nat} {N : bz_N} {i : Nat} {L : List (Option bz_V)} {st : List bz_V} {μ : bz_M} {res : bz_R} {a : Nat} {x v : Int} (hT : gT μ a = 20) (h0 : 0 ≤ x) (h1 : x < gN μ a) (hd : decode (bz_b k) (bz_pc k i) = .ok (.iastore, 1)) (hp : bz_pc k (i + 1) = bz_pc k i + 1) (h : bz_H k N (i + 1) L st (sM μ a x v) res) : bz_H k N i L (zI v :: zI x :: zR a :: st) μ res := by
  refine ⟨h.1, ?_⟩
  intro p l e R s m args below meth c' H locs ls sv c0 s0 mc ms C a1 a2 a3 a4 a5 a6 hz hS hR hL hv
  have hE := C.2.2.2.2
  obtain ⟨wv, w0, w1, ws, rfl, hvv, ⟨n0, rfl, e0⟩, hv1, t⟩ := bz_vs3 hv
  have ha := bz_rep_tag hR hE (a := a) (by rw [hT]; unfold bz_tg1; omega)
  have e1 := bz_vr_in hv1 (by omega)
  subst e1
  obtain ⟨nv, rfl, ev⟩ := hvv
  have hin : vp_in n0 (bz_nn μ a) := bz_vpin (by omega) (by rw [e0, ← bz_gN_eq]; exact h1)
  have hcl : ((n0.toNatClampNeg : Nat) : Int) = x := by rw [bz_clamp (by omega), e0]
  have he := bz_ws_get (N := N) ha
  rw [bz_arr hT (by omega)] at he
  have hT' : gT (sM μ a x v) a = 20 := hT
  have hset : ∀ f9 : Nat → Int32, (∀ j : Nat, f9 j = Int32.ofInt (gM (sM μ a x v) a (j : Int))) → (bz_ws N μ).set (a - 16) (bz_ad N a, .inl (nC N 20, bz_nn μ a, .inl f9)) = bz_ws N (sM μ a x v) := by
    intro f9 hf9
    have hc : bz_ce N (sM μ a x v) a = .inl (nC N 20, bz_nn μ a, .inl f9) := by
      rw [bz_arr hT' (by omega)]
      have : f9 = fun j : Nat => Int32.ofInt (gM (sM μ a x v) a (j : Int)) := funext hf9
      rw [this]
      rfl
    rw [← hc]
    exact bz_ws_set ha rfl fun b hb => bz_ce_congr rfl (fun q => by simp [sM, gM, hb]) (fun q => by simp [sM, gP, hb]) (fun q => by simp [sM, gG, hb])
  refine va_iast (D := nD N) C.1.1 C.1.2.2.1 hE.1 hR.2 bz_ws_D hS (a - 16) 0 he rfl hin hd fun H1 locs1 hP1 hD1 hS1 => ?_
  rw [hset _ fun j => ?_] at hP1
  · rw [← hp]
    exact h.2 p l e R s m args below meth c' H1 locs1 ls ws c0 s0 mc ms C a1 a2 a3 a4 a5 a6 hz hS1 ⟨bz_OK_sM hR.1 ha (by rw [← ev]; exact r32_of nv), hP1⟩ hL t
  · show (if j = n0.toNatClampNeg then nv else Int32.ofInt (gM μ a (j : Int))) = Int32.ofInt (if a = a ∧ (j : Int) = x then v else gM μ a (j : Int))
    by_cases hj : j = n0.toNatClampNeg
    · rw [if_pos hj, if_pos ⟨rfl, by rw [hj]; exact hcl⟩, ← ev, Int32.ofInt_toInt]
    · rw [if_neg hj, if_neg (by omega)]
theorem bz_i_zast {k : Nat} {N : bz_N} {i : Nat} {L : List (Option bz_V)} {st : List bz_V} {μ : bz_M} {res : bz_R} {a : Nat} {x v : Int} (hT : gT μ a = 22) (h0 : 0 ≤ x) (h1 : x < gN μ a) (hv01 : v = 0 ∨ v = 1) (hd : decode (bz_b k) (bz_pc k i) = .ok (.bastore, 1)) (hp : bz_pc k (i + 1) = bz_pc k i + 1) (h : bz_H k N (i + 1) L st (sM μ a x v) res) : bz_H k N i L (zI v :: zI x :: zR a :: st) μ res := by
  refine ⟨h.1, ?_⟩
  intro p l e R s m args below meth c' H locs ls sv c0 s0 mc ms C a1 a2 a3 a4 a5 a6 hz hS hR hL hv
  have hE := C.2.2.2.2
  obtain ⟨wv, w0, w1, ws, rfl, hvv, ⟨n0, rfl, e0⟩, hv1, t⟩ := bz_vs3 hv
  have ha := bz_rep_tag hR hE (a := a) (by rw [hT]; unfold bz_tg1; omega)
  have e1 := bz_vr_in hv1 (by omega)
  subst e1
  obtain ⟨nv, rfl, ev⟩ := hvv
  have hin : vp_in n0 (bz_nn μ a) := bz_vpin (by omega) (by rw [e0, ← bz_gN_eq]; exact h1)
  have hcl : ((n0.toNatClampNeg : Nat) : Int) = x := by rw [bz_clamp (by omega), e0]
  have he := bz_ws_get (N := N) ha
  rw [bz_arr hT (by omega)] at he
  have hT' : gT (sM μ a x v) a = 22 := hT
  have hset : ∀ f9 : Nat → Int32, (∀ j : Nat, f9 j = Int32.ofInt (gM (sM μ a x v) a (j : Int))) → (bz_ws N μ).set (a - 16) (bz_ad N a, .inl (nC N 22, bz_nn μ a, .inl f9)) = bz_ws N (sM μ a x v) := by
    intro f9 hf9
    have hc : bz_ce N (sM μ a x v) a = .inl (nC N 22, bz_nn μ a, .inl f9) := by
      rw [bz_arr hT' (by omega)]
      have : f9 = fun j : Nat => Int32.ofInt (gM (sM μ a x v) a (j : Int)) := funext hf9
      rw [this]
      rfl
    rw [← hc]
    exact bz_ws_set ha rfl fun b hb => bz_ce_congr rfl (fun q => by simp [sM, gM, hb]) (fun q => by simp [sM, gP, hb]) (fun q => by simp [sM, gG, hb])
  refine va_zast (D := nD N) C.1.1 C.1.2.2.1 hE.1 hR.2 bz_ws_D hS (a - 16) 1 he rfl hin hd fun H1 locs1 hP1 hD1 hS1 => ?_
  rw [hset _ fun j => ?_] at hP1
  · rw [← hp]
    exact h.2 p l e R s m args below meth c' H1 locs1 ls ws c0 s0 mc ms C a1 a2 a3 a4 a5 a6 hz hS1 ⟨bz_OK_sM hR.1 ha (by rw [← ev]; exact r32_of nv), hP1⟩ hL t
  · show (if j = n0.toNatClampNeg then vp_nar .boolean nv else Int32.ofInt (gM μ a (j : Int))) = Int32.ofInt (if a = a ∧ (j : Int) = x then v else gM μ a (j : Int))
    by_cases hj : j = n0.toNatClampNeg
    · rw [if_pos hj, if_pos ⟨rfl, by rw [hj]; exact hcl⟩, ← ev, Int32.ofInt_toInt]
      rcases hv01 with q | q
      · rw [(bz_eq0 nv 0).mpr (by rw [ev, q]; rfl)]; rfl
      · rw [(bz_eq0 nv 1).mpr (by rw [ev, q]; rfl)]; rfl
    · rw [if_neg hj, if_neg (by omega)]
theorem bz_i_last {k : Nat} {N : bz_N} {i : Nat} {L : List (Option bz_V)} {st : List bz_V} {μ : bz_M} {res : bz_R} {a : Nat} {x v : Int} (hT : gT μ a = 23) (h0 : 0 ≤ x) (h1 : x < gN μ a) (hd : decode (bz_b k) (bz_pc k i) = .ok (.lastore, 1)) (hp : bz_pc k (i + 1) = bz_pc k i + 1) (h : bz_H k N (i + 1) L st (sG μ a x v) res) : bz_H k N i L (zL v :: zI x :: zR a :: st) μ res := by
  refine ⟨h.1, ?_⟩
  intro p l e R s m args below meth c' H locs ls sv c0 s0 mc ms C a1 a2 a3 a4 a5 a6 hz hS hR hL hv
  have hE := C.2.2.2.2
  obtain ⟨wv, w0, w1, ws, rfl, hvv, ⟨n0, rfl, e0⟩, hv1, t⟩ := bz_vs3 hv
  have ha := bz_rep_tag hR hE (a := a) (by rw [hT]; unfold bz_tg1; omega)
  have e1 := bz_vr_in hv1 (by omega)
  subst e1
  obtain ⟨nv, rfl, ev⟩ := hvv
  have hin : vp_in n0 (bz_nn μ a) := bz_vpin (by omega) (by rw [e0, ← bz_gN_eq]; exact h1)
  have hcl : ((n0.toNatClampNeg : Nat) : Int) = x := by rw [bz_clamp (by omega), e0]
  have he := bz_ws_get (N := N) ha
  rw [bz_arr hT (by omega)] at he
  have hT' : gT (sG μ a x v) a = 23 := hT
  have hset : ∀ f9 : Nat → Int64, (∀ j : Nat, f9 j = Int64.ofInt (gG (sG μ a x v) a (j : Int))) → (bz_ws N μ).set (a - 16) (bz_ad N a, .inl (nC N 23, bz_nn μ a, .inr (.inl f9))) = bz_ws N (sG μ a x v) := by
    intro f9 hf9
    have hc : bz_ce N (sG μ a x v) a = .inl (nC N 23, bz_nn μ a, .inr (.inl f9)) := by
      rw [bz_arr hT' (by omega)]
      have : f9 = fun j : Nat => Int64.ofInt (gG (sG μ a x v) a (j : Int)) := funext hf9
      rw [this]
      rfl
    rw [← hc]
    exact bz_ws_set ha rfl fun b hb => bz_ce_congr rfl (fun q => by simp [sG, gM, hb]) (fun q => by simp [sG, gP, hb]) (fun q => by simp [sG, gG, hb])
  refine va_last (D := nD N) C.1.1 C.1.2.2.1 hE.1 hR.2 bz_ws_D hS (a - 16) 2 he rfl hin hd fun H1 locs1 hP1 hD1 hS1 => ?_
  rw [hset _ fun j => ?_] at hP1
  · rw [← hp]
    exact h.2 p l e R s m args below meth c' H1 locs1 ls ws c0 s0 mc ms C a1 a2 a3 a4 a5 a6 hz hS1 ⟨bz_OK_sG hR.1 ha (by rw [← ev]; exact r64_of nv), hP1⟩ hL t
  · show (if j = n0.toNatClampNeg then nv else Int64.ofInt (gG μ a (j : Int))) = Int64.ofInt (if a = a ∧ (j : Int) = x then v else gG μ a (j : Int))
    by_cases hj : j = n0.toNatClampNeg
    · rw [if_pos hj, if_pos ⟨rfl, by rw [hj]; exact hcl⟩, ← ev, Int64.ofInt_toInt]
    · rw [if_neg hj, if_neg (by omega)]
