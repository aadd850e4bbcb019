/-! THE LAW FROM ITS ENTRY (the first rows: the form of the skeleton, with the method's name and its table of handlers said) -/
def R_law : String := "BarcodeEngineLaw"
def lw_P (b : Addr) (xs : List Int32) (args : Array Value) (s : State) : Prop := args = #[.ref b] ∧ s.IntsAt b xs ∧ xs.length ≤ 3584 ∧ (Jvm.Cond.and given_1 narrow_1).before args s = true
def lw_Q (_ : Array Value) (s : State) (o : Outcome) (t : State) : Prop := o = .returned (some (.int 1)) ∧ Framed s o t [] 601024 7293034
def lw_Z (below : List Frame) (a : Array Value) (s : State) : State → Prop := fun t => ∃ o, t.status = .running ∧ Ended t below o ∧ lw_Q a s o t
def lw_At (p : Program) (s : State) (m : MethodId) (meth : Method) (c : Code) (b L : Nat) (xs : Nat → Int32) : Prop :=
  p.tables.exec = Jvm.exec ∧ c.code = code ∧ meth.sig.returnType = ret ∧ c.maxLocals = 7 ∧ s.vm.findClass R_law = some m.cls ∧ (∀ w ∈ lw_tbl, w.before #[Value.ref b] s = true) ∧ va_X b L xs s s.heap ∧ b < s.heap.size ∧ meth.locks = false ∧ (Jvm.Cond.and given_1 narrow_1).before #[Value.ref b] s = true
theorem sz_rl {l : List Int} (h : l.all (fun x => decide (-2147483648 ≤ x ∧ x < 2147483648)) = true) (k : Nat) : r32 (l.getD k 0) := by
  rw [List.getD_eq_getElem?_getD]
  cases hk : l[k]? with
  | none => exact ⟨by decide, by decide⟩
  | some x =>
    have e : -2147483648 ≤ x ∧ x < 2147483648 := of_decide_eq_true (List.all_eq_true.mp h x (List.mem_of_getElem? hk))
    exact e
theorem sz_lM {xs : Nat → Int32} (a : Nat) (i : Int) : r32 (lw_M (sz_X xs) a i) := by
  unfold lw_M
  by_cases h1 : a = 1
  · rw [if_pos h1]; exact r32_of _
  · rw [if_neg h1]
    by_cases h2 : a = 2
    · rw [if_pos h2]; exact sz_rl (by decide) _
    · rw [if_neg h2]
      by_cases h3 : a = 3
      · rw [if_pos h3]; exact sz_rl (by decide) _
      · rw [if_neg h3]
        by_cases h4 : a = 4
        · rw [if_pos h4]; exact sz_rl (by decide) _
        · rw [if_neg h4]
          by_cases h5 : a = 7 ∨ a = 8
          · rw [if_pos h5]; exact sz_rl (by decide) _
          · rw [if_neg h5]; exact ⟨by decide, by decide⟩
theorem sz_hi {X : Int → Int} {a : Nat} {i : Int} (h : 16 ≤ a) : bP0 a i = 0 ∧ lw_M X a i = 0 := by
  unfold bP0 lw_M
  rw [if_neg (by omega), if_neg (by omega), if_neg (by omega), if_neg (by omega), if_neg (by omega), if_neg (by omega), if_neg (by omega)]
  exact ⟨rfl, rfl⟩
theorem sz_len {L : Nat} : ((bm_T L).take 16).length = 16 := tk_l (by rw [T_len]; omega)
theorem sz_nn {l : List (Nat × Nat)} (h : ∀ p ∈ l, p.2 ≤ 10000) (a : Nat) : (l.getD a (0, 0)).2 ≤ 10000 := by
  rw [List.getD_eq_getElem?_getD]
  cases hk : l[a]? with
  | none => exact Nat.zero_le _
  | some x => exact h x (List.mem_of_getElem? hk)
theorem sz_16 {L : Nat} (hL : L ≤ 3584) : ∀ p ∈ (bm_T L).take 16, p.2 ≤ 10000 := by
  intro p hp
  have hp : p ∈ (0, 0) :: (21, L) :: bm_Lout := hp
  rcases List.mem_cons.mp hp with rfl | hp
  · exact Nat.zero_le _
  · rcases List.mem_cons.mp hp with rfl | hp
    · show L ≤ 10000
      omega
    · exact (by decide : ∀ p ∈ bm_Lout, p.2 ≤ 10000) p hp
section
variable {N : bz_N} {s : State} {L : Nat} {xs : Nat → Int32}
theorem sz_OK (hL : L ≤ 3584) (n3 : nT N = (bm_T L).take 16) (n4 : nM N = lw_M (sz_X xs)) (n5 : nP N = bP0) : bz_OK N (kS L (lw_M (sz_X xs)) (fun _ _ => 0) 16 [] []) := by
  have e0 : (kS L (lw_M (sz_X xs)) (fun _ _ => 0) 16 [] []).1 = (bm_T L).take 16 := rfl
  have e1 : ∀ a i, gM (kS L (lw_M (sz_X xs)) (fun _ _ => 0) 16 [] []) a i = lw_M (sz_X xs) a i := fun _ _ => rfl
  have e2 : ∀ a i, gP (kS L (lw_M (sz_X xs)) (fun _ _ => 0) 16 [] []) a i = bP0 a i := fun _ _ => rfl
  refine ⟨by rw [e0, sz_len]; exact Nat.le_refl _, fun a i => by rw [e1]; exact sz_lM a i, fun a i => ⟨by show (-9223372036854775808 : Int) ≤ 0; decide, by show (0 : Int) < 9223372036854775808; decide⟩, fun a i h => ?_, fun a h h2 => ?_, fun a ha => by rw [e0, n3], fun a ha i => ⟨by rw [e1, n4], by rw [e2, n5]⟩, fun a => ?_⟩
  · rw [e0, sz_len] at h
    obtain ⟨h1, h2⟩ := sz_hi (X := sz_X xs) (i := i) h
    exact ⟨by rw [e2]; exact h1, by rw [e1]; exact h2, rfl⟩
  · rw [e0, sz_len] at h2
    omega
  · exact sz_nn (sz_16 hL) a
theorem sz_Rep (hL : L ≤ 3584) (n3 : nT N = (bm_T L).take 16) (n4 : nM N = lw_M (sz_X xs)) (n5 : nP N = bP0) : bz_Rep N (kS L (lw_M (sz_X xs)) (fun _ _ => 0) 16 [] []) s.heap := by
  refine ⟨sz_OK hL n3 n4 n5, fun k q h => ?_⟩
  have e : bz_ws N (kS L (lw_M (sz_X xs)) (fun _ _ => 0) 16 [] []) = [] := by
    unfold bz_ws
    rw [show (kS L (lw_M (sz_X xs)) (fun _ _ => 0) 16 [] []).1 = (bm_T L).take 16 from rfl, sz_len]
    rfl
  rw [e] at h
  cases h
theorem sz_forget {s t : State} {locs : List Loc} {k n : Nat} (h : s.sameButNew t locs k n) (hl : ∀ q ∈ locs, s.heap.size ≤ q.base) : s.sameButNew t [] k n := by
  obtain ⟨h1, h2, h3, h4, h5, h6⟩ := h
  refine ⟨h1, h2, h3, h4, h5, fun a c hc => ?_⟩
  obtain ⟨c', g1, g2, g3, g4⟩ := h6 a c hc
  refine ⟨c', g1, g2, g3, fun i _ => g4 i fun hm => ?_⟩
  have h7 := hl _ hm
  have h8 : a < s.heap.size := (Array.getElem?_eq_some_iff.mp hc).1
  exact Nat.not_lt.mpr h7 h8
end
theorem sz_fr : bz_fr 295 ≤ room_1.frames ∧ bz_lo0 295 ≤ room_1.locals := by decide +kernel
theorem sz_pc : bz_pc 295 0 = 0 := by decide +kernel
theorem sz_nm : (bz_y 295).name = "law" ∧ bz_ow 295 = R_law := by decide +kernel
theorem sz_lo : bz_lo (bz_ml 295) [zR 1] = [some (zR 1), none, none, none, none, none, none] := rfl
theorem whole_start {p : Program} {e : Env} {s : State} {m : MethodId} {below : List Frame} {meth : Method} {c : Code} (l : Launch) (hflags : l.flags = flags0) (hnm : meth.name = "law") (htab : c.exceptionTable.toList = tableOf (bz_hh0 295)) {b L : Nat} {xs : Nat → Int32} (hL : L ≤ 3584) (C0 : lw_At p s m meth c b L xs) : W p l e room_1 s m #[Value.ref b] below meth c s.heap [] 0 0 (lw_Z below #[Value.ref b] s) (entryFrame m ([Value.ref b] : List Value).toArray 7) := by
  obtain ⟨hx, hcode, hret, hml, hown, hts, hX, hbl, hlocks, hgv⟩ := C0
  have hT : ∀ w ∈ bz_T, w.before #[Value.ref b] s = true := bz_T_ok hts
  have hN : ∀ w ∈ bz_NL, w.before #[Value.ref b] s = true := flat_of_before _ hgv
  obtain ⟨N, n1, n2, n3, n4, n5, hE⟩ := sz_E hT hN hX hbl
  obtain ⟨π, M, G, e', hr, he⟩ := lw_all (sl := L) (X := sz_X xs) (G := fun _ _ => 0) (by omega)
  have hr : bX 295 0 [some (zR 1), none, none, none, none, none, none] [] (kS L (lw_M (sz_X xs)) (fun _ _ => 0) 16 [] []) = some (.inl (zI 1), bM L π M G e') := hr
  obtain ⟨n, hn⟩ := bX_iff.mp hr
  have hH : bz_H 295 N 0 [some (zR 1), none, none, none, none, none, none] [] (kS L (lw_M (sz_X xs)) (fun _ _ => 0) 16 [] []) (.inl (zI 1), bM L π M G e') := bz_sound (N := N) (bz_hall bz_c_295) n 295 0 _ _ _ _ (by decide) hn
  have hlt : l.stackTraces = false := by
    unfold Launch.stackTraces
    rw [hflags]
    decide +kernel
  have hvs : bz_vs N [zR 1] [Value.ref b] := by
    refine ⟨?_, trivial⟩
    show Value.ref b = .ref (nX N 1)
    rw [n2]
  have hll := bz_ll_entry (k := 295) (ks := [2]) hvs rfl (by decide +kernel) (fun j hj => nomatch hj)
  rw [sz_lo] at hll
  have hs0 : s.heap.size ≤ nB N + 0 := Nat.le_of_eq n1.symm
  have hc1 : C1 (bM L π M G e') ≤ 0 + 601024 := by
    show 873 + e' ≤ 0 + 601024
    omega
  have hc2 : C2 (bM L π M G e') ≤ 0 + 7293034 := by
    show 21380 + 6 * e' ≤ 0 + 7293034
    omega
  have K := hH.2 p l e room_1 s m #[Value.ref b] below meth c s.heap [] _ [] 0 0 601024 7293034 ⟨⟨hx, hlt, hcode, hml, hlocks, by rw [sz_nm.2]; exact hown, by rw [sz_nm.1]; exact hnm, hret, fun w hw => hT w (List.mem_filter.mp hw).1, htab⟩, sz_fr.1, sz_fr.2, Nat.le_of_eq n1, hE⟩ (Nat.zero_le _) (Nat.zero_le _) hc1 hc2 (Nat.le_refl _) (Nat.le_refl _) hs0 ⟨Nat.le_refl _, fun _ _ _ => rfl, fun _ h => nomatch h⟩ (sz_Rep hL n3 n4 n5) hll trivial
  have z1 : C1 (kS L (lw_M (sz_X xs)) (fun _ _ => 0) 16 [] []) - 0 = 0 := rfl
  have z2 : C2 (kS L (lw_M (sz_X xs)) (fun _ _ => 0) 16 [] []) - 0 = 0 := rfl
  rw [z1, z2, sz_pc] at K
  rw [lg_entry_eq]
  intro T hT2 X2
  obtain ⟨t, a1, o, b1, b2, b3⟩ := K T hT2 X2
  refine ⟨t, a1, o, b1, b2, ?_⟩
  rcases b3 with ⟨⟨⟨v, hv, hv2⟩, -, -⟩, locs, ⟨f1, f2, f3⟩, hf⟩ | ⟨q, -, E, ce, locs, ⟨⟨c9, hc9, -⟩, -⟩, -⟩
  · have e1 : o = .returned (some (.int 1)) := by
      have hv : (Sum.inl (zI 1) : bz_V ⊕ Nat) = .inl v := hv
      cases hv
      rcases hv2 with ⟨h1, -⟩ | ⟨ty, w, -, h2, h3⟩
      · exact absurd h1 (by decide +kernel)
      · obtain ⟨k9, g1, g2⟩ := h3
        have g3 : k9 = 1 := Int32.toInt_inj.mp g2
        rw [h2, g1, g3]
    exact ⟨e1, f1, f2, sz_forget f3 fun q hq => by rw [← n1]; exact hf q hq⟩
  · cases hc9
