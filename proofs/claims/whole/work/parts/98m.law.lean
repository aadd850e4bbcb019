/-! THE LAW ON THE SMALL MACHINE, from its first instruction -/
def lw_π : Int → Nat := fun i => if 0 ≤ i ∧ i < 24 then 51 + 34 * i.toNat else 0
def lw_U : List (Nat × Int × Nat) := mU ++ uL eU 24
def lw_V : List (Nat × Int × Int) := mV ++ eV
theorem tk_a {α : Type} : ∀ {l : List α} {n : Nat}, l.length ≤ n → l.take n = l
  | [], 0, _ => rfl
  | [], _ + 1, _ => rfl
  | a :: l, 0, h => absurd h (Nat.not_succ_le_zero _)
  | a :: l, n + 1, h => by
    have e := tk_a (l := l) (n := n) (Nat.le_of_succ_le_succ h)
    show a :: l.take n = a :: l
    rw [e]
theorem lkP_in {a : Nat} {i : Int} {v : Nat} : ∀ {U : List (Nat × Int × Nat)}, lkP U a i = some v → (a, i, v) ∈ U
  | [], h => nomatch h
  | u :: U, h => by
    rw [lkP] at h
    by_cases z : a = u.1 ∧ i = u.2.1
    · rw [if_pos z] at h
      have e : u.2.2 = v := Option.some.inj h
      obtain ⟨x, y, w⟩ := u
      obtain ⟨z1, z2⟩ := z
      have z1 : a = x := z1
      have z2 : i = y := z2
      have e : w = v := e
      rw [z1, z2, ← e]
      exact List.mem_cons_self
    · rw [if_neg z] at h
      exact List.mem_cons_of_mem _ (lkP_in h)
theorem lkM_lo {a b : Nat} {i : Int} : ∀ {V : List (Nat × Int × Int)}, (∀ v ∈ V, b ≤ v.1) → a < b → lkM V a i = none
  | [], _, _ => rfl
  | u :: V, h, hb => by
    rw [lkM, if_neg (fun z => by have := h u List.mem_cons_self; omega)]
    exact lkM_lo (fun v hv => h v (List.mem_cons_of_mem _ hv)) hb
/-- the references agree, place by place -/
def ckC (U : List (Nat × Int × Nat)) (a : Nat) : Nat → List Nat → Bool
  | _, [] => true
  | j, v :: vs => (Nat.beq v 0 || Nat.beq (aP U a (j : Int)) v) && ckC U a (j + 1) vs
def ckR (U : List (Nat × Int × Nat)) : Nat → List (List Nat) → Bool
  | _, [] => true
  | a, r :: rs => ckC U a 0 r && ckR U (a + 1) rs
theorem ckC_at {U : List (Nat × Int × Nat)} {a : Nat} : ∀ {vs : List Nat} {j0 : Nat}, ckC U a j0 vs = true → ∀ j : Nat, vs.getD j 0 = 0 ∨ aP U a ((j0 + j : Nat) : Int) = vs.getD j 0
  | [], _, _, j => Or.inl (by simp)
  | v :: vs, j0, h, j => by
    rw [ckC, Bool.and_eq_true, Bool.or_eq_true] at h
    cases j with
    | zero =>
      rcases h.1 with q | q
      · exact Or.inl (Nat.eq_of_beq_eq_true q)
      · exact Or.inr (Nat.eq_of_beq_eq_true q)
    | succ j =>
      have e := ckC_at h.2 j
      rw [show j0 + (j + 1) = j0 + 1 + j by omega]
      exact e
theorem ckR_at {U : List (Nat × Int × Nat)} : ∀ {rs : List (List Nat)} {a0 : Nat}, ckR U a0 rs = true → ∀ k j : Nat, (rs.getD k []).getD j 0 = 0 ∨ aP U (a0 + k) (j : Int) = (rs.getD k []).getD j 0
  | [], _, _, k, j => Or.inl (by simp)
  | r :: rs, a0, h, k, j => by
    rw [ckR, Bool.and_eq_true] at h
    cases k with
    | zero =>
      have e := ckC_at h.1 j
      rw [Nat.zero_add] at e
      exact e
    | succ k =>
      have e := ckR_at h.2 k j
      rw [show a0 + (k + 1) = a0 + 1 + k by omega]
      exact e
set_option maxRecDepth 100000 in
theorem lw_c1 : lw_U.all (fun u => Nat.beq (bm_P lw_π u.1 u.2.1) u.2.2) = true := by decide +kernel
set_option maxRecDepth 100000 in
theorem lw_c2 : ckR lw_U 0 bm_PT = true := by decide +kernel
set_option maxRecDepth 100000 in
theorem lw_c3 : (List.range 24).all (fun q => (lkP lw_U 20 (q : Int)).isSome) = true := by decide +kernel
set_option maxRecDepth 100000 in
theorem lw_zS : zS 889 = 21380 := by decide +kernel
theorem lw_P0 : aP lw_U = bm_P lw_π := by
  funext a i
  show (lkP lw_U a i).getD (bP0 a i) = bm_P lw_π a i
  cases h : lkP lw_U a i with
  | some v =>
    have e := List.all_eq_true.mp lw_c1 _ (lkP_in h)
    exact (Nat.eq_of_beq_eq_true e).symm
  | none =>
    show bP0 a i = bm_P lw_π a i
    unfold bm_P
    by_cases ha : a = 20
    · rw [if_pos ha]
      have e0 : bP0 a i = 0 := by unfold bP0; rw [if_neg (by omega), if_neg (by omega)]
      rw [e0]
      unfold lw_π
      by_cases hi : 0 ≤ i ∧ i < 24
      · exfalso
        have e := List.all_eq_true.mp lw_c3 i.toNat (List.mem_range.mpr (by omega))
        rw [Int.toNat_of_nonneg hi.1, ← ha, h] at e
        exact Bool.noConfusion e
      · rw [if_neg hi]
    · rw [if_neg ha]
      unfold bm_pp
      by_cases hi : 0 ≤ i
      · rw [if_pos hi]
        have e := ckR_at lw_c2 a i.toNat
        rw [Nat.zero_add, Int.toNat_of_nonneg hi] at e
        rcases e with q | q
        · rw [q]
          unfold bP0
          by_cases z5 : a = 5 ∧ i = 0
          · obtain ⟨rfl, rfl⟩ := z5
            exact absurd q (by decide +kernel)
          · rw [if_neg z5]
            by_cases z6 : a = 6 ∧ i = 0
            · obtain ⟨rfl, rfl⟩ := z6
              exact absurd q (by decide +kernel)
            · rw [if_neg z6]
        · rw [← q]
          show _ = (lkP lw_U a i).getD (bP0 a i)
          rw [h]
          rfl
      · rw [if_neg hi]
        unfold bP0
        rw [if_neg (by omega), if_neg (by omega)]
section
variable {sl : Nat} {M G : Nat → Int → Int} {X : Int → Int}
theorem lw_mem : kS sl M G 889 lw_U lw_V = bM sl lw_π (aM lw_V M) G 0 := by
  unfold kS bM
  rw [tk_a (Nat.le_of_eq T_len), lw_P0, lw_zS]
theorem lw_run : x_L_law 1 (kS sl M G 16 [] []) = x_L_law_0 1 16 867 888 0 (bM sl lw_π (aM lw_V M) G 0) := by
  rw [x_L_law_eq, k_nw (by decide) (by decide +kernel), k_eng, cu_r, k_nw (by decide) (by decide +kernel), k_mod, cu_r, k_na (by decide) (by decide +kernel)]
  show x_L_law_0 1 16 867 888 0 (kS sl M G 889 lw_U lw_V) = _
  rw [lw_mem]
/-- the ints at the law's start: the script, the tables, the characters -/
def lw_M (X : Int → Int) : Nat → Int → Int := fun a i => if a = 1 then X i else if a = 2 then bs_E i.toNat else if a = 3 then bs_P5 i.toNat else if a = 4 then bs_P7 i.toNat else if a = 7 ∨ a = 8 then bs_al i.toNat else 0
def lw_σ : Sg := (0, fun _ => 0, fun _ _ => 0, 0, fun _ => 0, 0, fun _ => 0, fun s => if s = 0 then 1 else 0)
theorem lw_Vlo : ∀ v ∈ lw_V, 16 ≤ v.1 := by decide +kernel
theorem lw_l {a : Nat} {i : Int} (h : a < 16) : aM lw_V (lw_M X) a i = lw_M X a i := by
  show (lkM lw_V a i).getD (lw_M X a i) = _
  rw [lkM_lo lw_Vlo h]
  rfl
theorem lw_n {a : Nat} {i : Int} (h : lkM lw_V a i = none) (ha : 9 ≤ a) : aM lw_V (lw_M X) a i = 0 := by
  show (lkM lw_V a i).getD (lw_M X a i) = 0
  rw [h]
  show lw_M X a i = 0
  unfold lw_M
  rw [if_neg (by omega), if_neg (by omega), if_neg (by omega), if_neg (by omega), if_neg (by omega)]
theorem lw_s {a : Nat} {i v : Int} (h : lkM lw_V a i = some v) : aM lw_V (lw_M X) a i = v := by
  show (lkM lw_V a i).getD (lw_M X a i) = v
  rw [h]
  rfl
theorem lw_con : mCon (aM lw_V (lw_M X)) := by
  refine ⟨fun k _ => (lw_l (by decide)).trans rfl, fun k _ => (lw_l (by decide)).trans rfl, fun k _ => (lw_l (by decide)).trans rfl, fun s hs => ?_, ⟨(lw_l (by decide)).trans rfl, (lw_l (by decide)).trans rfl⟩, fun k _ => (lw_l (by decide)).trans rfl, fun k _ => (lw_l (by decide)).trans rfl⟩
  match s, hs with
  | 0, _ => exact ⟨lw_s (by decide +kernel), lw_s (by decide +kernel), lw_s (by decide +kernel), lw_s (by decide +kernel)⟩
  | 1, _ => exact ⟨lw_s (by decide +kernel), lw_s (by decide +kernel), lw_s (by decide +kernel), lw_s (by decide +kernel)⟩
  | 2, _ => exact ⟨lw_s (by decide +kernel), lw_s (by decide +kernel), lw_s (by decide +kernel), lw_s (by decide +kernel)⟩
theorem lw_k1 : ∀ k : Nat, k < 10 → lkM lw_V 873 (k : Int) = some (([3211, 2221, 2122, 1411, 1132, 1231, 1114, 1312, 1213, 3112] : List Int).getD k 0) := by decide +kernel
theorem lw_k2 : ∀ k : Nat, k < 10 → lkM lw_V 874 (k : Int) = some (bs_P5 k) := by decide +kernel
theorem lw_k3 : ∀ k : Nat, k < 20 → lkM lw_V 875 (k : Int) = some (bs_P7 k) := by decide +kernel
theorem lw_mod : mMod (aM lw_V (lw_M X)) := ⟨fun k hk => lw_s (lw_k1 k hk), fun k hk => lw_s (lw_k2 k hk), fun k hk => lw_s (lw_k3 k hk), lw_con⟩
theorem lw_okS : okS lw_σ := by
  refine ⟨⟨Int.le_refl _, by decide⟩, fun k hk => ?_, ⟨Int.le_refl _, by decide⟩, fun i hi => ?_, ⟨Int.le_refl _, by decide⟩, fun i hi => ?_, fun s hs => ?_⟩
  · have h2 : k < 0 := hk.2
    omega
  · have h2 : i < 0 := hi.2
    omega
  · have h2 : i < 0 := hi.2
    omega
  · show (if s = 0 then (1 : Int) else 0) = 0 ∨ (if s = 0 then (1 : Int) else 0) = 1
    by_cases z : s = 0
    · rw [if_pos z]; exact Or.inr rfl
    · rw [if_neg z]; exact Or.inl rfl
theorem lw_gk {a : Nat} (h0 : lkM lw_V a 0 = some 1) (h1 : lkM lw_V a 1 = some 0) (h2 : lkM lw_V a 2 = some 0) {s : Int} (hs : 0 ≤ s ∧ s < 3) : aM lw_V (lw_M X) a s = gk lw_σ s := by
  have hc : s = 0 ∨ s = 1 ∨ s = 2 := by omega
  rcases hc with rfl | rfl | rfl
  · exact lw_s h0
  · exact lw_s h1
  · exact lw_s h2
theorem lw_PV : PV lw_π := by
  refine ⟨fun k hk => ⟨k.toNat, by omega, if_pos hk⟩, fun i j hi hj h => ?_⟩
  unfold lw_π at h
  rw [if_pos hi, if_pos hj] at h
  omega
theorem lw_CR : CR lw_σ lw_π (aM lw_V (lw_M X)) := by
  refine ⟨lw_okS, lw_con, ⟨lw_n (by decide +kernel) (by decide), lw_n (by decide +kernel) (by decide)⟩, fun i hi => ?_, ⟨⟨Int.le_refl _, by decide⟩, lw_n (by decide +kernel) (by decide), fun i hi => ?_⟩, fun s hs => lw_gk (by decide +kernel) (by decide +kernel) (by decide +kernel) hs, lw_PV, fun k hk => ?_, fun k s hk => ?_, fun s hs hn => ?_⟩
  · have h2 : i < 0 := hi.2
    omega
  · have h2 : i < 0 := hi.2
    omega
  · have h2 : k < 0 := hk.2
    omega
  · have h2 : k < 0 := hk.2
    exact absurd hk.1 (by omega)
  · refine absurd (?_ : aM lw_V (lw_M X) (26 + 5 * s) 5 = 0) hn
    match s, hs with
    | 0, _ => exact lw_n (by decide +kernel) (by decide)
    | 1, _ => exact lw_n (by decide +kernel) (by decide)
    | 2, _ => exact lw_n (by decide +kernel) (by decide)
theorem lw_MR : MR lw_σ (aM lw_V (lw_M X)) := by
  refine ⟨lw_okS, lw_mod, ⟨lw_n (by decide +kernel) (by decide), lw_n (by decide +kernel) (by decide), lw_n (by decide +kernel) (by decide)⟩, fun i hi => ?_, fun i hi => ?_, fun s hs => lw_gk (by decide +kernel) (by decide +kernel) (by decide +kernel) hs, fun k hk => ?_⟩
  · have h2 : i < 0 := hi.2
    omega
  · have h2 : i < 0 := hi.2
    omega
  · have h2 : k < 0 := hk.2
    omega
theorem lw_all (hsl : (sl : Int) ≤ 3584) : lG sl 512 (x_L_law 1 (kS sl (lw_M X) G 16 [] [])) := by
  rw [lw_run]
  have e := law_loop hsl 512 0 0 lw_π (aM lw_V (lw_M X)) G lw_σ (Int.le_refl _) (by omega) lw_CR lw_MR
  rw [Nat.zero_add] at e
  exact e
end
