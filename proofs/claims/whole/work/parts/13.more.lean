/-! ARRAYS MADE -/
theorem bz_mkarr {N : bz_N} {μ : bz_M} {H H1 : Heap} {t n : Nat} {cA : ClassId} {ty : FieldType} (hR : bz_Rep N μ H) (ht : t = 20 ∨ (22 ≤ t ∧ t ≤ 27)) (hn : n ≤ 10000) (hsz : H.size = nB N + (μ.1.length - 16)) (o1 : ∀ q, q < H.size → H1[q]? = H[q]?) (hcA : cA = nC N t)
    (e1 : H1[H.size]? = some (arrV cA n (fun _ => defaultValue ty))) (hty : (t < 23 ∧ (ty = .int ∨ ty = .boolean)) ∨ (t = 23 ∧ ty = .long) ∨ (24 ≤ t ∧ ∃ C, ty = .object C)) : bz_Rep N (sA μ t n) H1 := by
  refine bz_made hR (by rcases ht with rfl | ht; exact Or.inr (Or.inl rfl); exact Or.inr (Or.inr ht)) hn o1 ?_
  have h0 : ∀ q, gP (sA μ t n) μ.1.length q = 0 ∧ gM (sA μ t n) μ.1.length q = 0 ∧ gG (sA μ t n) μ.1.length q = 0 := fun q => hR.1.2.2.2.1 _ q (Nat.le_refl _)
  have hce : bz_ce N (sA μ t n) μ.1.length = .inl (nC N t, n, bz_da N (sA μ t n) μ.1.length t) := by
    rw [bz_arr (t := t) (by unfold gT; rw [bz_sA_at]) (by omega)]
    have : bz_nn (sA μ t n) μ.1.length = n := by unfold bz_nn; rw [bz_sA_at]; dsimp only; rw [if_pos (by omega)]
    rw [this]
  rw [hce, ← hsz, ← hcA]
  show H1[H.size]? = some (vp_cell cA (n, bz_da N (sA μ t n) μ.1.length t))
  rw [e1]
  congr 1
  rcases hty with ⟨q, hty⟩ | ⟨q, hty⟩ | ⟨q, C, hty⟩
  · have hda : bz_da N (sA μ t n) μ.1.length t = .inl (fun _ => 0) := by
      unfold bz_da
      rw [if_pos q]
      congr 1
      funext j
      rw [(h0 _).2.1]
      rfl
    rw [hda, vp_cell_i]
    rcases hty with rfl | rfl <;> rfl
  · have hda : bz_da N (sA μ t n) μ.1.length t = .inr (.inl (fun _ => 0)) := by
      unfold bz_da
      rw [if_neg (by omega), if_pos q]
      congr 2
      funext j
      rw [(h0 _).2.2]
      rfl
    rw [hda, vp_cell_l, hty]
    rfl
  · have hda : bz_da N (sA μ t n) μ.1.length t = .inr (.inr (.inr (.inr (fun _ => none)))) := by
      unfold bz_da
      rw [if_neg (by omega), if_neg (by omega)]
      congr 4
      funext j
      rw [(h0 _).1]
      rfl
    rw [hda, vp_cell_q, hty]
    rfl
theorem bz_i_newarr {k : Nat} {N : bz_N} {i : Nat} {L : List (Option bz_V)} {st : List bz_V} {μ : bz_M} {res : bz_R} {x : Int} {t : Nat} {atype : ArrayType} {ty : FieldType} (hty : newarray.typeOf atype = ty) (ht : (t = 20 ∧ ty = .int) ∨ (t = 22 ∧ ty = .boolean) ∨ (t = 23 ∧ ty = .long)) (hcl : bz_cl μ) (h0 : 0 ≤ x) (hx : x ≤ 10000)
    (hd : decode (bz_b k) (bz_pc k i) = .ok (.newarray atype, 2)) (hp : bz_pc k (i + 1) = bz_pc k i + 2) (hw : Cond.arrayClass ty ∈ bz_W) (h : bz_H k N (i + 1) L (zR μ.1.length :: st) (sA μ t x.toNat) res) : bz_H k N i L (zI x :: st) μ res := by
  have hC1 : C1 (sA μ t x.toNat) = C1 μ + 1 := rfl
  have hC2 : C2 (sA μ t x.toNat) = C2 μ + x.toNat := rfl
  refine ⟨⟨by have := h.1.1; omega, by have := h.1.2; omega⟩, ?_⟩
  intro p l e R s m args below meth c' H locs ls sv c0 s0 mc ms C a1 a2 a3 a4 a5 a6 hz hS hR hL hv
  intro T hT X
  have hup := X.heapSize
  have hlo := bz_low hR C.2.2.2.1 hS
  have hts := C.1.2.2.2.2.2.2.2.2.1
  have hE := C.2.2.2.2
  have h16 := hR.1.1
  have hcl' : C1 μ + 16 = μ.1.length := hcl
  have hsz : H.size = nB N + (μ.1.length - 16) := by rw [hT] at hup; omega
  obtain ⟨w1, ws, rfl, ⟨n0, rfl, e0⟩, t9⟩ := bz_vs1 hv
  have m1 := h.1.1
  have m2 := h.1.2
  have hnn : n0.toNatClampNeg = x.toNat := by
    have := bz_clamp (a := n0) (by omega)
    omega
  have hneg : ¬ n0 < 0 := fun q => by
    have := (bz_lt0 n0 0).mp q
    rw [e0, bz_z] at this
    omega
  have g : W p l e R s m args below meth c' H locs (C1 μ - c0) (C2 μ - s0) (vx_MQ below (bz_Qc k N res) (bz_XC N res) args s mc ms (bz_A N)) (F0 m (bz_pc k i) ls (.int n0 :: ws)) := by
    have hb4 : ∀ ty' : FieldType, (ty' = .int ∨ ty' = .boolean ∨ ty' = .long) → x.toNat * componentBytes ty' ≤ 536870912 := by
      intro ty' hq
      have hcb : componentBytes ty' ≤ 8 := by rcases hq with rfl | rfl | rfl <;> decide
      have : x.toNat * componentBytes ty' ≤ x.toNat * 8 := Nat.mul_le_mul_left _ hcb
      omega
    refine va_newaK C.1.1 C.1.2.2.1 (atype := atype) (hts _ (by rw [hty]; exact hw)) rfl hd rfl hneg hnn (by rw [hty]; exact hb4 ty (by rcases ht with ⟨-, q⟩ | ⟨-, q⟩ | ⟨-, q⟩ <;> simp [q])) (by omega) (by omega) rfl fun H1 cA e1 z1 o1 hAr hNm => ?_
    rw [hty] at e1 hNm
    have K := h.2 p l e R s m args below meth c' H1 locs ls (.ref H.size :: ws) c0 s0 mc ms C (by omega) (by omega) a3 a4 a5 a6 hz (bz_S_push hS z1 o1) (bz_mkarr hR (by omega) (by omega) hsz o1 ?_ e1 (by rcases ht with ⟨q1, q2⟩ | ⟨q1, q2⟩ | ⟨q1, q2⟩ <;> simp [q1, q2])) hL ⟨?_, t9⟩
    · rw [hp, hC1, hC2, show C1 μ + 1 - c0 = C1 μ - c0 + 1 by omega, show C2 μ + x.toNat - s0 = C2 μ - s0 + x.toNat by omega] at K
      exact K
    · rcases ht with ⟨rfl, rfl⟩ | ⟨rfl, rfl⟩ | ⟨rfl, rfl⟩
      · exact Option.some.inj (hNm.symm.trans (hE.1.2 0 _ rfl).2)
      · exact Option.some.inj (hNm.symm.trans (hE.1.2 1 _ rfl).2)
      · exact Option.some.inj (hNm.symm.trans (hE.1.2 2 _ rfl).2)
    · rw [hsz]
      have : bz_ad N μ.1.length = nB N + (μ.1.length - 16) := by unfold bz_ad; rw [if_neg (by omega)]
      rw [← this]
      exact bz_vr_mk
  exact g T hT X
def bz_ec (t : Nat) : String := ["BarcodeEngine$Scan", "BarcodeEngine$Reading", "BarcodeEngine$Symbology", "BarcodeEngine$Tally"].getD (t - 24) ""
theorem bz_ec_in {N0 : bz_N} {t : Nat} (h : 24 ≤ t ∧ t ≤ 27) : bz_ec t ∈ bz_ao ∧ (bz_tys N0)[t - 21]? = some (nC N0 t, .object (bz_ec t)) := by
  rcases (show t = 24 ∨ t = 25 ∨ t = 26 ∨ t = 27 by omega) with rfl | rfl | rfl | rfl
  · exact ⟨by decide +kernel, rfl⟩
  · exact ⟨by decide +kernel, rfl⟩
  · exact ⟨by decide +kernel, rfl⟩
  · exact ⟨by decide +kernel, rfl⟩
theorem bz_i_anew {k : Nat} {N : bz_N} {i : Nat} {L : List (Option bz_V)} {st : List bz_V} {μ : bz_M} {res : bz_R} {x : Int} {t idx : Nat} (ht : 24 ≤ t ∧ t ≤ 27) (hcl : bz_cl μ) (h0 : 0 ≤ x) (hx : x ≤ 10000)
    (hd : decode (bz_b k) (bz_pc k i) = .ok (.anewarray idx, 3)) (hp : bz_pc k (i + 1) = bz_pc k i + 3) (hw : Cond.classLink (bz_ow k) idx (bz_ec t) ∈ bz_W) (h : bz_H k N (i + 1) L (zR μ.1.length :: st) (sA μ t x.toNat) res) : bz_H k N i L (zI x :: st) μ res := by
  have hC1 : C1 (sA μ t x.toNat) = C1 μ + 1 := rfl
  have hC2 : C2 (sA μ t x.toNat) = C2 μ + x.toNat := rfl
  refine ⟨⟨by have := h.1.1; omega, by have := h.1.2; omega⟩, ?_⟩
  intro p l e R s m args below meth c' H locs ls sv c0 s0 mc ms C a1 a2 a3 a4 a5 a6 hz hS hR hL hv
  intro T hT X
  have hup := X.heapSize
  have hlo := bz_low hR C.2.2.2.1 hS
  have hts := C.1.2.2.2.2.2.2.2.2.1
  have hE := C.2.2.2.2
  have h16 := hR.1.1
  have hcl' : C1 μ + 16 = μ.1.length := hcl
  have hsz : H.size = nB N + (μ.1.length - 16) := by rw [hT] at hup; omega
  obtain ⟨w1, ws, rfl, ⟨n0, rfl, e0⟩, t9⟩ := bz_vs1 hv
  have m1 := h.1.1
  have m2 := h.1.2
  have hnn : n0.toNatClampNeg = x.toNat := by
    have := bz_clamp (a := n0) (by omega)
    omega
  have hneg : ¬ n0 < 0 := fun q => by
    have := (bz_lt0 n0 0).mp q
    rw [e0, bz_z] at this
    omega
  obtain ⟨hec, hty⟩ := bz_ec_in (N0 := N) ht
  have hao : va_AO (bz_ec t) s := by
    obtain ⟨-, -, -, -, -, -, -, -, -, -, -, -, -, -, h18, -⟩ := hE
    exact h18 _ hec
  have g : W p l e R s m args below meth c' H locs (C1 μ - c0) (C2 μ - s0) (vx_MQ below (bz_Qc k N res) (bz_XC N res) args s mc ms (bz_A N)) (F0 m (bz_pc k i) ls (.int n0 :: ws)) := by
    refine W.anew C.1.1 C.1.2.2.1 C.1.2.2.2.2.2.1 (hts _ hw) (va_AO.use hao) rfl hd rfl hneg (by omega) (by omega) (by omega) fun cA kA comp f1 f2 f3 f4 => ?_
    generalize hH1 : H.push ({ cls := cA, slots := Array.replicate n0.toNatClampNeg .null, vm := .none } : Cell) = H1
    have z1 : H1.size = H.size + 1 := by rw [← hH1, Array.size_push]
    have e1 : H1[H.size]? = some (arrV cA n0.toNatClampNeg (fun _ => .null)) := by rw [← hH1, Array.getElem?_push_size, ← arrV_new]
    have o1 : ∀ q : Nat, q < H.size → H1[q]? = H[q]? := fun q hq => by rw [← hH1, Array.getElem?_push, if_neg (Nat.ne_of_lt hq)]
    rw [hnn] at e1 ⊢
    have K := h.2 p l e R s m args below meth c' H1 locs ls (.ref H.size :: ws) c0 s0 mc ms C (by omega) (by omega) a3 a4 a5 a6 hz (bz_S_push hS z1 o1) (bz_mkarr (ty := .object (bz_ec t)) hR (by omega) (by omega) hsz o1 ?_ e1 (Or.inr (Or.inr ⟨ht.1, _, rfl⟩))) hL ⟨?_, t9⟩
    · rw [hp, hC1, hC2, show C1 μ + 1 - c0 = C1 μ - c0 + 1 by omega, show C2 μ + x.toNat - s0 = C2 μ - s0 + x.toNat by omega] at K
      exact K
    · obtain ⟨kA', comp', g1, g2, g3, g4⟩ := (hE.1.2 _ _ hty).2
      exact Option.some.inj (f1.symm.trans g4)
    · rw [hsz]
      have : bz_ad N μ.1.length = nB N + (μ.1.length - 16) := by unfold bz_ad; rw [if_neg (by omega)]
      rw [← this]
      exact bz_vr_mk
  exact g T hT X
/-- a reference is stored -/
theorem bz_i_aast {k : Nat} {N : bz_N} {i : Nat} {L : List (Option bz_V)} {st : List bz_V} {μ : bz_M} {res : bz_R} {a b t : Nat} {x : Int} (hT : gT μ a = t) (ht : (t = 24 ∧ gT μ b = 6) ∨ (t = 25 ∧ gT μ b = 4) ∨ (t = 26 ∧ (gT μ b = 1 ∨ gT μ b = 2 ∨ gT μ b = 3)) ∨ (t = 27 ∧ gT μ b = 8)) (h0 : 0 ≤ x) (h1 : x < gN μ a)
    (hd : decode (bz_b k) (bz_pc k i) = .ok (.aastore, 1)) (hp : bz_pc k (i + 1) = bz_pc k i + 1) (h : bz_H k N (i + 1) L st (sP μ a x b) res) : bz_H k N i L (zR b :: zI x :: zR a :: st) μ res := by
  refine ⟨h.1, ?_⟩
  intro p l e R s m args below meth c' H locs ls sv c0 s0 mc ms C a1 a2 a3 a4 a5 a6 hz hS hR hL hv
  have hE := C.2.2.2.2
  obtain ⟨wv, w0, w1, ws, rfl, hvv, ⟨n0, rfl, e0⟩, hv1, t9⟩ := bz_vs3 hv
  have ha := bz_rep_tag hR hE (a := a) (by rw [hT]; unfold bz_tg1; omega)
  have hb := bz_rep_tag hR hE (a := b) (by unfold bz_tg1; omega)
  have e1 := bz_vr_in hv1 (by omega)
  have e2 := bz_vr_in hvv (by omega)
  subst e1 e2
  have hin : vp_in n0 (bz_nn μ a) := bz_vpin (by omega) (by rw [e0, ← bz_gN_eq]; exact h1)
  have hcl : ((n0.toNatClampNeg : Nat) : Int) = x := by rw [bz_clamp (by omega), e0]
  have he := bz_ws_get (N := N) ha
  rw [bz_arr hT (by omega)] at he
  have hda : ∀ ν : bz_M, bz_da N ν a t = .inr (.inr (.inr (.inr (fun j => bz_rf N (gP ν a j))))) := fun ν => by unfold bz_da; rw [if_neg (by omega), if_neg (by omega)]
  rw [hda] at he
  have hbT : 1 ≤ gT μ b ∧ gT μ b ≤ 10 := by omega
  obtain ⟨Cn, F, hq, -, -, hcn, -⟩ := bz_cls hbT.1 hbT.2
  have heb := bz_ws_get (N := N) hb
  rw [bz_ce_obj rfl hbT.2] at heb
  obtain ⟨hec, hty⟩ := bz_ec_in (N0 := N) (t := t) (by omega)
  have hcls := (hE.1.1 _ _ hq).2
  dsimp only at hcls
  have hany : va_Any (bz_ec t) s H (bz_ad N b) := by
    refine va_rAny (q0 := b - 16) hE.1 hR.2 heb hq fun comp c0 f1 f2 => ?_
    dsimp only at f2
    by_cases hs : Cn = bz_ec t
    · have e4 : c0 = (nD N).1 (gT μ b - 1) := Option.some.inj (f2.symm.trans hcls.1)
      have e3 : comp = (nD N).1 (gT μ b - 1) := (Option.some.inj (f1.symm.trans (by rw [← hs]; exact f2))).trans e4
      rw [e4, e3]
      exact va_assign hcls
    · have hcas : (Cn, bz_ec t) ∈ bz_cas := by
        rw [hcn] at hs ⊢
        rcases ht with ⟨rfl, q⟩ | ⟨rfl, q⟩ | ⟨rfl, q | q | q⟩ | ⟨rfl, q⟩ <;> rw [q] at hs ⊢
        · exact absurd (by decide +kernel) hs
        · exact absurd (by decide +kernel) hs
        · decide +kernel
        · decide +kernel
        · decide +kernel
        · exact absurd (by decide +kernel) hs
      obtain ⟨-, -, -, -, -, -, -, -, -, -, -, -, -, h17, -⟩ := hE
      obtain ⟨c1, t1, g1, g2, g3⟩ := Cond.castable_spec (h17 _ hcas)
      cases g1.symm.trans f2
      cases g2.symm.trans f1
      exact g3
  refine va_astqM (D := nD N) C.1.1 C.1.2.2.1 hE.1 hR.2 bz_ws_D hS (a - 16) (t - 21) he hty hany hin hd fun H1 locs1 hP1 hD1 hS1 => ?_
  have hT' : gT (sP μ a x b) a = t := hT
  have hset : (bz_ws N μ).set (a - 16) (bz_ad N a, .inl (nC N t, bz_nn μ a, .inr (.inr (.inr (.inr (va_up (fun j : Nat => bz_rf N (gP μ a (j : Int))) n0.toNatClampNeg (some (bz_ad N b)))))))) = bz_ws N (sP μ a x b) := by
    have hc : bz_ce N (sP μ a x b) a = .inl (nC N t, bz_nn μ a, .inr (.inr (.inr (.inr (va_up (fun j : Nat => bz_rf N (gP μ a (j : Int))) n0.toNatClampNeg (some (bz_ad N b))))))) := by
      have hfn : (fun j : Nat => bz_rf N (gP (sP μ a x b) a (j : Int))) = va_up (fun j : Nat => bz_rf N (gP μ a (j : Int))) n0.toNatClampNeg (some (bz_ad N b)) := by
        funext j
        unfold va_up
        show bz_rf N (if a = a ∧ (j : Int) = x then b else gP μ a (j : Int)) = _
        by_cases hj : j = n0.toNatClampNeg
        · rw [if_pos hj, if_pos ⟨rfl, by rw [hj]; exact hcl⟩]
          unfold bz_rf
          rw [if_neg (by omega)]
        · rw [if_neg hj, if_neg (by omega)]
      rw [bz_arr hT' (by omega), hda, hfn]
      rfl
    rw [← hc]
    exact bz_ws_set ha rfl fun b' hb' => bz_ce_congr rfl (fun q => by simp [sP, gM]) (fun q => by simp [sP, gP, hb']) (fun q => by simp [sP, gG])
  rw [hset] at hP1
  rw [← hp]
  exact h.2 p l e R s m args below meth c' H1 locs1 ls ws c0 s0 mc ms C a1 a2 a3 a4 a5 a6 hz hS1 ⟨bz_OK_sP hR.1 ha, hP1⟩ hL t9
