/-! CELLS MADE; REFERENCES STORED; ENDS -/
theorem bz_low {N : bz_N} {μ : bz_M} {H : Heap} {H0 : Heap} {locs : List Loc} (hR : bz_Rep N μ H) (hb : nB N ≤ H0.size) (hS : va_S (bz_A N) H0 H locs) : nB N + (μ.1.length - 16) ≤ H.size := by
  have h16 := hR.1.1
  rcases Nat.lt_or_ge 16 μ.1.length with q | q
  · have h := bz_ws_get (N := N) (μ := μ) (a := μ.1.length - 1) (by omega)
    have h2 := (hR.2 _ _ h).lt
    dsimp only at h2
    unfold bz_ad at h2
    rw [if_neg (by omega)] at h2
    omega
  · have := hS.1
    omega
theorem bz_ws_push {N : bz_N} {μ : bz_M} {t n : Nat} (h : 16 ≤ μ.1.length) : bz_ws N (sA μ t n) = bz_ws N μ ++ [(nB N + (μ.1.length - 16), bz_ce N (sA μ t n) μ.1.length)] := by
  have hl : (sA μ t n).1.length = μ.1.length + 1 := by simp [sA]
  unfold bz_ws
  rw [hl, show μ.1.length + 1 - 16 = (μ.1.length - 16) + 1 by omega, List.range_succ, List.map_append]
  congr 1
  · apply List.map_congr_left
    intro i hi
    have hi := List.mem_range.mp hi
    have e : (sA μ t n).1.getD (i + 16) (0, 0) = μ.1.getD (i + 16) (0, 0) := by
      show (μ.1 ++ _).getD _ _ = _
      rw [List.getD_eq_getElem?_getD, List.getD_eq_getElem?_getD, List.getElem?_append_left (by omega)]
    have e1 : gT (sA μ t n) (i + 16) = gT μ (i + 16) := by unfold gT; rw [e]
    have e2 : bz_nn (sA μ t n) (i + 16) = bz_nn μ (i + 16) := by unfold bz_nn; rw [e]
    have e3 : bz_ce N (sA μ t n) (i + 16) = bz_ce N μ (i + 16) := by
      unfold bz_ce bz_da bz_fv
      simp only [e1, e2]
      rfl
    rw [e3]
  · simp only [List.map_cons, List.map_nil]
    rw [show μ.1.length - 16 + 16 = μ.1.length by omega]
theorem bz_sA_at {μ : bz_M} {t n : Nat} : (sA μ t n).1.getD μ.1.length (0, 0) = (t, if 20 ≤ t then n else 0) := by
  show (μ.1 ++ _).getD _ _ = _
  rw [List.getD_eq_getElem?_getD, List.getElem?_append_right (Nat.le_refl _)]
  simp
theorem bz_OK_sA {N : bz_N} {μ : bz_M} {t n : Nat} (h : bz_OK N μ) (ht : bz_tg1 t) (hn : n ≤ 10000) : bz_OK N (sA μ t n) := by
  obtain ⟨h1, h2, h3, h4, h5, h6, h7, h8⟩ := h
  have hl : (sA μ t n).1.length = μ.1.length + 1 := by simp [sA]
  have old : ∀ b, b < μ.1.length → (sA μ t n).1.getD b (0, 0) = μ.1.getD b (0, 0) := fun b hb => by
    show (μ.1 ++ _).getD _ _ = _
    rw [List.getD_eq_getElem?_getD, List.getD_eq_getElem?_getD, List.getElem?_append_left hb]
  refine ⟨by rw [hl]; omega, h2, h3, fun b i hb => h4 b i (by rw [hl] at hb; omega), fun b hb hb2 => ?_, fun b hb => ?_, h7, fun b => ?_⟩
  · rw [hl] at hb2
    by_cases q : b < μ.1.length
    · have := h5 b hb q
      unfold gT at this ⊢
      rw [old b q]
      exact this
    · have e : b = μ.1.length := by omega
      subst e
      unfold gT
      rw [bz_sA_at]
      exact ht
  · show (μ.1 ++ _)[b]? = _
    rw [List.getElem?_append_left (by omega)]
    exact h6 b hb
  · by_cases q : b < μ.1.length
    · have := h8 b
      unfold bz_nn at this ⊢
      rw [old b q]
      exact this
    · by_cases e : b = μ.1.length
      · subst e
        unfold bz_nn
        rw [bz_sA_at]
        dsimp only
        split <;> omega
      · unfold bz_nn
        rw [List.getD_eq_getElem?_getD, List.getElem?_eq_none (by rw [hl]; omega)]
        simp
def bz_kty (κ : Nat) (ty : FieldType) : Bool := match κ, ty with
  | 0, .int => true
  | 0, .boolean => true
  | 1, .long => true
  | 2, .object _ => true
  | 2, .array _ => true
  | _, _ => false
theorem bz_kty_all : (List.range 11).all (fun c => (List.range (bz_ns c)).all fun j => bz_kty (bz_fk c j) (bz_tyf c j)) = true := by decide +kernel
theorem bz_dflt {N : bz_N} {μ : bz_M} {a c j : Nat} (hc : c < 11) (hj : j < bz_ns c) (h0 : ∀ i, gP μ a i = 0 ∧ gM μ a i = 0 ∧ gG μ a i = 0) : defaultValue (bz_tyf c j) = bz_fv N μ a (bz_fk c j) (j : Int) := by
  have h1 := List.all_eq_true.mp (List.all_eq_true.mp bz_kty_all c (List.mem_range.mpr hc)) j (List.mem_range.mpr hj)
  revert h1
  unfold bz_fv
  generalize bz_fk c j = κ
  generalize bz_tyf c j = ty
  intro h1
  unfold bz_kty at h1
  split at h1
  · rw [(h0 _).2.1]; rfl
  · rw [(h0 _).2.1]; rfl
  · rw [(h0 _).2.2]; rfl
  · rw [(h0 _).1]; rfl
  · rw [(h0 _).1]; rfl
  · cases h1
/-- behind a cell made -/
theorem bz_made {N : bz_N} {μ : bz_M} {H H1 : Heap} {t n : Nat} (hR : bz_Rep N μ H) (ht : bz_tg1 t) (hn : n ≤ 10000) (ho : ∀ q, q < H.size → H1[q]? = H[q]?) (hnew : va_at (nD N) vwCl (nB N + (μ.1.length - 16), bz_ce N (sA μ t n) μ.1.length) H1) : bz_Rep N (sA μ t n) H1 := by
  refine ⟨bz_OK_sA hR.1 ht hn, ?_⟩
  rw [bz_ws_push hR.1.1]
  refine va_P.app (fun k x hx => (hR.2 k x hx).kept (ho x.1 ((hR.2 k x hx).lt))) (fun k x hx => ?_)
  have hz : k < 1 := (List.getElem?_eq_some_iff.mp hx).1
  rw [show k = 0 by omega] at hx
  cases hx
  exact hnew
theorem bz_S_push {N : bz_N} {H0 H H1 : Heap} {locs : List Loc} (hS : va_S (bz_A N) H0 H locs) (hz : H1.size = H.size + 1) (ho : ∀ q, q < H.size → H1[q]? = H[q]?) : va_S (bz_A N) H0 H1 locs :=
  ⟨Nat.le_trans hS.1 (by omega), fun x h1 h2 => (ho x (Nat.lt_of_lt_of_le h1 hS.1)).trans (hS.2.1 x h1 h2), hS.2.2⟩
theorem bz_i_new {k : Nat} {N : bz_N} {i : Nat} {L : List (Option bz_V)} {st : List bz_V} {μ : bz_M} {res : bz_R} {c idx : Nat} (hc : 1 ≤ c ∧ c ≤ 10) (hcl : bz_cl μ) (hd : decode (bz_b k) (bz_pc k i) = .ok (.new idx, 3)) (hp : bz_pc k (i + 1) = bz_pc k i + 3)
    (hw1 : Cond.classLink (bz_ow k) idx (bz_cn1 c) ∈ bz_W) (hw2 : Cond.instantiable (bz_cn1 c) (bz_ns c) ∈ bz_W) (hw3 : Cond.initialized (bz_cn1 c) ∈ bz_W) (h : bz_H k N (i + 1) L (zR μ.1.length :: st) (sA μ c (bz_ns c)) res) : bz_H k N i L st μ res := by
  have hC1 : C1 (sA μ c (bz_ns c)) = C1 μ + 1 := rfl
  have hC2 : C2 (sA μ c (bz_ns c)) = C2 μ + bz_ns c := rfl
  refine ⟨⟨by have := h.1.1; omega, by have := h.1.2; omega⟩, ?_⟩
  intro p l e R s m args below meth c' H locs ls sv c0 s0 mc ms C a1 a2 a3 a4 a5 a6 hz hS hR hL hv
  intro T hT X
  have hup := X.heapSize
  have hlo := bz_low hR C.2.2.2.1 hS
  have hts := C.1.2.2.2.2.2.2.2.2.1
  have hE := C.2.2.2.2
  have h16 := hR.1.1
  have hcl' : C1 μ + 16 = μ.1.length := hcl
  have hsz : H.size = nB N + (μ.1.length - 16) := by rw [hT] at hup; omega
  obtain ⟨F0', F, hq, hty, hnm, hcn, hin, hfd⟩ := bz_cls hc.1 hc.2
  have hns : bz_ns c ≤ 33 := by
    rcases (show c = 1 ∨ c = 2 ∨ c = 3 ∨ c = 4 ∨ c = 5 ∨ c = 6 ∨ c = 7 ∨ c = 8 ∨ c = 9 ∨ c = 10 by omega) with rfl | rfl | rfl | rfl | rfl | rfl | rfl | rfl | rfl | rfl <;> decide
  have hKn := hE.1.1 _ _ hq
  dsimp only at hKn
  have m1 := h.1.1
  have m2 := h.1.2
  have g : W p l e R s m args below meth c' H locs (C1 μ - c0) (C2 μ - s0) (vx_MQ below (bz_Qc k N res) (bz_XC N res) args s mc ms (bz_A N)) (F0 m (bz_pc k i) ls sv) := by
    refine W.newcK C.1.1 C.1.2.2.1 C.1.2.2.2.2.2.1 (hts _ hw1) (hts _ hw2) (hts _ hw3) rfl hd (by omega) (by omega) (by rw [← hcn]; exact hKn.2.1) rfl fun H1 kC hkC e1 z1 o1 => ?_
    have K := h.2 p l e R s m args below meth c' H1 locs ls (.ref H.size :: sv) c0 s0 mc ms C (by omega) (by omega) a3 a4 a5 a6 hz (bz_S_push hS z1 o1) (bz_made hR (Or.inl hc) (by omega) o1 ?_) hL ⟨?_, hv⟩
    · rw [hp, hC1, hC2, show C1 μ + 1 - c0 = C1 μ - c0 + 1 by omega, show C2 μ + bz_ns c - s0 = C2 μ - s0 + bz_ns c by omega] at K
      exact K
    · have hce : bz_ce N (sA μ c (bz_ns c)) μ.1.length = .inr (c - 1, (List.range (bz_ns c)).map fun j => bz_fv N (sA μ c (bz_ns c)) μ.1.length (bz_fk c j) (j : Int)) := bz_ce_obj (by unfold gT; rw [bz_sA_at]) hc.2
      rw [hce]
      refine ⟨_, hq, ?_⟩
      dsimp only
      rw [← hsz]
      refine (u_born (bz_tyf c) hts hin hKn hkC e1 hty).to fun j hj => ?_
      rw [bz_dflt (N := N) (μ := sA μ c (bz_ns c)) (a := μ.1.length) (by omega) hj (fun q => hR.1.2.2.2.1 _ q (Nat.le_refl _))]
      unfold vp_V
      rw [List.getD_eq_getElem?_getD, bz_fs_get hj]
      rfl
    · rw [hsz]
      have : bz_ad N μ.1.length = nB N + (μ.1.length - 16) := by unfold bz_ad; rw [if_neg (by omega)]
      rw [← this]
      exact bz_vr_mk
  exact g T hT X
