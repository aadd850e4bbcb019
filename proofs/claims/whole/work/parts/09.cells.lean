/-! FIELDS AND ARRAYS -/
def bz_tyf (c : Nat) : Nat → FieldType := [fun _ => FieldType.int, tyX0, tyX1, tyX2, tyX3, tyX4, tyX5, tyX6, tyX8, tyX9, tyX10].getD c (fun _ => .int)
theorem bz_lay_all : (List.range 11).all (fun c => (List.range (bz_ns c)).all fun j => decide ((c, j) ∈ bz_lay)) = true := by decide +kernel
theorem bz_lay_W {c : Nat} {q : vw_C} (hq : vwCl[c - 1]? = some q) (hn : q.2.2 = bz_ns c) (hc : c < 11) : ∀ w ∈ u_ws q.1 q.2.1 q.2.2, w ∈ bz_W := by
  intro w hw
  obtain ⟨j, hj, rfl⟩ := List.mem_map.mp hw
  have hj2 : j < bz_ns c := by rw [← hn]; exact List.mem_range.mp hj
  have h1 := List.all_eq_true.mp (List.all_eq_true.mp bz_lay_all c (List.mem_range.mpr hc)) j (List.mem_range.mpr hj2)
  have h2 := bz_lay_in (c, j) (by simpa using h1)
  have h3 : bz_layw (c, j) = u_lay q.1 q.2.1 j := by unfold bz_layw; dsimp only; rw [hq]
  rw [h3] at h2
  refine List.mem_filter.mpr ⟨h2, ?_⟩
  unfold u_lay
  split <;> rfl
theorem bz_cls {c : Nat} (h1 : 1 ≤ c) (h2 : c ≤ 10) : ∃ (C : String) (F : u_T), vwCl[c - 1]? = some (C, F, bz_ns c) ∧ (∀ j, j < bz_ns c → parseFieldDescriptor (F j).2.2.1 = some (bz_tyf c j)) ∧ (∀ a, a < bz_ns c → ∀ b, b < bz_ns c → a ≠ b → (F a).2.1 ≠ (F b).2.1) ∧ C = bz_cn1 c ∧ (∀ w ∈ u_ws C F (bz_ns c), w ∈ bz_W) ∧ ∀ j, j < 100 → bz_fnd (c * 100 + j) = F j := by
  have key : ∀ (C : String) (F : u_T), vwCl[c - 1]? = some (C, F, bz_ns c) → (∀ w ∈ u_ws C F (bz_ns c), w ∈ bz_W) ∧ C = bz_cn1 c ∧ ∀ j, j < 100 → bz_fnd (c * 100 + j) = F j := by
    intro C F hq
    refine ⟨bz_lay_W hq rfl (by omega), ?_, fun j hj => ?_⟩
    · unfold bz_cn1
      rw [if_neg (by omega), hq]
    · unfold bz_fnd
      have e1 : (c * 100 + j) / 100 = c := by omega
      have e2 : (c * 100 + j) % 100 = j := by omega
      rw [e1, e2, if_neg (by omega), if_neg (by omega), hq]
  have go : ∀ (C : String) (F : u_T), vwCl[c - 1]? = some (C, F, bz_ns c) → (∀ j, j < bz_ns c → parseFieldDescriptor (F j).2.2.1 = some (bz_tyf c j)) → (∀ a, a < bz_ns c → ∀ b, b < bz_ns c → a ≠ b → (F a).2.1 ≠ (F b).2.1) → ∃ (C : String) (F : u_T), vwCl[c - 1]? = some (C, F, bz_ns c) ∧ (∀ j, j < bz_ns c → parseFieldDescriptor (F j).2.2.1 = some (bz_tyf c j)) ∧ (∀ a, a < bz_ns c → ∀ b, b < bz_ns c → a ≠ b → (F a).2.1 ≠ (F b).2.1) ∧ C = bz_cn1 c ∧ (∀ w ∈ u_ws C F (bz_ns c), w ∈ bz_W) ∧ ∀ j, j < 100 → bz_fnd (c * 100 + j) = F j :=
    fun C F hq ht hn => ⟨C, F, hq, ht, hn, (key C F hq).2.1, (key C F hq).1, (key C F hq).2.2⟩
  rcases (show c = 1 ∨ c = 2 ∨ c = 3 ∨ c = 4 ∨ c = 5 ∨ c = 6 ∨ c = 7 ∨ c = 8 ∨ c = 9 ∨ c = 10 by omega) with rfl | rfl | rfl | rfl | rfl | rfl | rfl | rfl | rfl | rfl
  · exact go RX0 TX0 rfl tyX0_ok nmX0
  · exact go RX1 TX1 rfl tyX1_ok nmX1
  · exact go RX2 TX2 rfl tyX2_ok nmX2
  · exact go RX3 TX3 rfl tyX3_ok nmX3
  · exact go RX4 TX4 rfl tyX4_ok nmX4
  · exact go RX5 TX5 rfl tyX5_ok nmX5
  · exact go RX6 TX6 rfl tyX6_ok nmX6
  · exact go RX8 TX8 rfl tyX8_ok nmX8
  · exact go RX9 TX9 rfl tyX9_ok nmX9
  · exact go RX10 TX10 rfl tyX10_ok nmX10
theorem bz_ce_obj {N : bz_N} {μ : bz_M} {a c : Nat} (hT : gT μ a = c) (h2 : c ≤ 10) : bz_ce N μ a = .inr (c - 1, (List.range (bz_ns c)).map fun j => bz_fv N μ a (bz_fk c j) (j : Int)) := by
  unfold bz_ce
  rw [hT, if_pos (by omega)]
theorem bz_fs_get {N : bz_N} {μ : bz_M} {a c j : Nat} (hj : j < bz_ns c) : ((List.range (bz_ns c)).map fun j => bz_fv N μ a (bz_fk c j) (j : Int))[j]? = some (bz_fv N μ a (bz_fk c j) (j : Int)) := by
  rw [List.getElem?_map, List.getElem?_range hj]
  rfl
theorem bz_vr_mk {N : bz_N} {b : Nat} : bz_vr N (zR b) (.ref (bz_ad N b)) := by
  unfold bz_vr
  dsimp only
  split
  · exact Or.inr ⟨_, rfl⟩
  · rfl
theorem bz_rep_tag {N : bz_N} {μ : bz_M} {H : Heap} {U : State} {H0 : Heap} (hR : bz_Rep N μ H) (hE : bz_E N U H0) {a : Nat} (h : bz_tg1 (gT μ a)) : 16 ≤ a ∧ a < μ.1.length := by
  obtain ⟨-, -, -, -, -, -, -, -, -, hx, -⟩ := hE
  exact bz_in hR.1 (fun a t q1 q2 => hx a t q1 q2) h
def bz_same1 (ref : String) (f : String × String × String × Bool) : Prop := ref = f.1 ∨ Cond.sameField ref f.1 f.2.1 f.2.2.1 ∈ bz_W
theorem bz_same_use {ref : String} {f : String × String × String × Bool} {args : Array Value} {s : State} (hts : ∀ w ∈ bz_W, w.before args s = true) (h : bz_same1 ref f) : ∀ x, s.fieldFound? f.1 f.2.1 f.2.2.1 = some x → s.fieldFound? ref f.2.1 f.2.2.1 = some x := by
  rcases h with rfl | h
  · exact fun _ h => h
  · exact u_same (hts _ h)
/-- a field is read -/
theorem bz_i_get {k : Nat} {N : bz_N} {i : Nat} {L : List (Option bz_V)} {st : List bz_V} {μ : bz_M} {res : bz_R} {a c j idx : Nat} {ref : String} {v : bz_V} (hT : gT μ a = c) (hc : 1 ≤ c ∧ c ≤ 10) (hj : j < bz_ns c) (hd : decode (bz_b k) (bz_pc k i) = .ok (.getfield idx, 3)) (hp : bz_pc k (i + 1) = bz_pc k i + 3)
    (hw : Cond.fieldLink (bz_ow k) idx ref (bz_fnd (c * 100 + j)).2.1 (bz_fnd (c * 100 + j)).2.2.1 ∈ bz_W) (hsm : bz_same1 ref (bz_fnd (c * 100 + j))) (hvr : (∀ a i, r32 (gM μ a i)) → (∀ a i, r64 (gG μ a i)) → bz_vr N v (bz_fv N μ a (bz_fk c j) (j : Int))) (h : bz_H k N (i + 1) L (v :: st) μ res) : bz_H k N i L (zR a :: st) μ res := by
  refine ⟨h.1, ?_⟩
  intro p l e R s m args below meth c' H locs ls sv c0 s0 mc ms C a1 a2 a3 a4 a5 a6 hz hS hR hL hv
  have hts := C.1.2.2.2.2.2.2.2.2.1
  obtain ⟨F0', F, hq, hty, hnm, -, hin, hfd⟩ := bz_cls hc.1 hc.2
  have hns : bz_ns c ≤ 33 := by
    rcases (show c = 1 ∨ c = 2 ∨ c = 3 ∨ c = 4 ∨ c = 5 ∨ c = 6 ∨ c = 7 ∨ c = 8 ∨ c = 9 ∨ c = 10 by omega) with rfl | rfl | rfl | rfl | rfl | rfl | rfl | rfl | rfl | rfl <;> decide
  have hfd' := hfd j (by omega)
  rw [hfd'] at hw hsm
  have ha := bz_rep_tag hR C.2.2.2.2 (a := a) (by rw [hT]; exact Or.inl hc)
  obtain ⟨w1, ws, rfl, hv1, t⟩ := bz_vs1 hv
  have e1 := bz_vr_in hv1 (by omega)
  subst e1
  have he := bz_ws_get (N := N) ha
  rw [bz_ce_obj hT hc.2] at he
  have K := h.2 p l e R s m args below meth c' H locs ls (_ :: ws) c0 s0 mc ms C a1 a2 a3 a4 a5 a6 hz hS hR hL ⟨hvr hR.1.2.1 hR.1.2.2.1, t⟩
  rw [hp] at K
  exact va_get (D := nD N) C.1.1 C.1.2.2.1 hts hin C.1.2.2.2.2.2.1 C.2.2.2.2.1 hR.2 (a - 16) he hq j hj (hts _ hw) (bz_same_use hts hsm) (bz_fs_get hj) hd K
