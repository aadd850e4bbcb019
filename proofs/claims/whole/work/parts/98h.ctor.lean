/-! THE CONSTRUCTORS (partly by program): cells in the layout's order; references and ints written, kept as lists -/
def lkP (U : List (Nat × Int × Nat)) (a : Nat) (i : Int) : Option Nat := match U with
  | [] => none
  | u :: U => if a = u.1 ∧ i = u.2.1 then some u.2.2 else lkP U a i
def lkM (V : List (Nat × Int × Int)) (a : Nat) (i : Int) : Option Int := match V with
  | [] => none
  | u :: V => if a = u.1 ∧ i = u.2.1 then some u.2.2 else lkM V a i
/-- the references of the constants -/
def bP0 (a : Nat) (i : Int) : Nat := if a = 5 ∧ i = 0 then 7 else if a = 6 ∧ i = 0 then 8 else 0
def aP (U : List (Nat × Int × Nat)) : Nat → Int → Nat := fun a i => (lkP U a i).getD (bP0 a i)
def aM (V : List (Nat × Int × Int)) (M : Nat → Int → Int) : Nat → Int → Int := fun a i => (lkM V a i).getD (M a i)
theorem aP_c {U : List (Nat × Int × Nat)} {a : Nat} {i : Int} {v : Nat} : (fun b j => if b = a ∧ j = i then v else aP U b j) = aP ((a, i, v) :: U) := by
  funext b j
  show _ = (lkP ((a, i, v) :: U) b j).getD (bP0 b j)
  rw [lkP]
  by_cases z : b = a ∧ j = i
  · rw [if_pos z, if_pos z]; rfl
  · rw [if_neg z, if_neg z]; rfl
theorem aM_c {V : List (Nat × Int × Int)} {M : Nat → Int → Int} {a : Nat} {i v : Int} : (fun b j => if b = a ∧ j = i then v else aM V M b j) = aM ((a, i, v) :: V) M := by
  funext b j
  show _ = (lkM ((a, i, v) :: V) b j).getD (M b j)
  rw [lkM]
  by_cases z : b = a ∧ j = i
  · rw [if_pos z, if_pos z]; rfl
  · rw [if_neg z, if_neg z]; rfl
def bm_sz (a : Nat) : Nat := if bm_tg a < 20 then bz_ns (bm_tg a) else bm_ln a
def zS : Nat → Nat
  | 0 => 0
  | n + 1 => zS n + (if n < 16 then 0 else bm_sz n)
/-- the memory with n cells -/
def kS (sl : Nat) (M G : Nat → Int → Int) (n : Nat) (U : List (Nat × Int × Nat)) (V : List (Nat × Int × Int)) : bz_M := ((bm_T sl).take n, aP U, aM V M, G, n - 16, zS n)
def bm_R : List (Nat × Nat) := bm_Lout ++ (bm_Leng ++ (bm_Lscans 24 ++ (bm_Lmod ++ [(23, 1)])))
theorem R_len : bm_R.length = 887 := by decide +kernel
theorem T_len {sl : Nat} : (bm_T sl).length = 889 := by
  have e : bm_T sl = (0, 0) :: (21, sl) :: bm_R := rfl
  rw [e, List.length_cons, List.length_cons, R_len]
theorem tk_1 {α : Type} : ∀ {l : List α} {n : Nat} {x : α}, l[n]? = some x → l.take n ++ [x] = l.take (n + 1)
  | [], _, _, h => nomatch h
  | _ :: _, 0, _, h => by cases h; rfl
  | a :: l, n + 1, x, h => by
    have e := tk_1 (l := l) (n := n) (x := x) h
    show a :: (l.take n ++ [x]) = a :: l.take (n + 1)
    rw [e]
theorem tk_l {α : Type} : ∀ {l : List α} {n : Nat}, n ≤ l.length → (l.take n).length = n
  | _, 0, _ => rfl
  | [], n + 1, h => absurd h (Nat.not_succ_le_zero n)
  | a :: l, n + 1, h => by
    have e := tk_l (l := l) (n := n) (Nat.le_of_succ_le_succ h)
    show (l.take n).length + 1 = n + 1
    rw [e]
theorem T_at {sl n : Nat} (h1 : 1 < n) (h : n < 889) : (bm_T sl)[n]? = some (bm_tg n, bm_ln n) := by
  have hl : n < (bm_T sl).length := by rw [T_len]; exact h
  have e1 := bm_T1 (sl := sl) (a := n)
  have e2 := bm_T2 (sl := sl) (a := n) (by omega)
  rw [List.getD_eq_getElem?_getD, List.getElem?_eq_getElem hl] at e1 e2
  rw [List.getElem?_eq_getElem hl, ← e1, ← e2]
  rfl
section
variable {sl n r a c v : Nat} {M G : Nat → Int → Int} {U : List (Nat × Int × Nat)} {V : List (Nat × Int × Int)} {i j x : Int}
theorem k_T (h : a < n) : gT (kS sl M G n U V) a = bm_tg a := by
  show (((bm_T sl).take n).getD a (0, 0)).1 = bm_tg a
  rw [List.getD_eq_getElem?_getD, List.getElem?_take, if_pos h, ← List.getD_eq_getElem?_getD]
  exact bm_T1
theorem k_N (h : a < n) (h1 : a ≠ 1) : gN (kS sl M G n U V) a = (bm_ln a : Int) := by
  show ((((bm_T sl).take n).getD a (0, 0)).2 : Int) = bm_ln a
  rw [List.getD_eq_getElem?_getD, List.getElem?_take, if_pos h, ← List.getD_eq_getElem?_getD, bm_T2 h1]
theorem k_A (h16 : 16 ≤ n) (h : n < 889) {t k : Nat} (ht : bm_tg n = t) (hk : bm_ln n = if 20 ≤ t then k else 0) (hs : bm_sz n = k) : sA (kS sl M G n U V) t k = kS sl M G (n + 1) U V := by
  have e1 : (bm_T sl).take n ++ [(t, if 20 ≤ t then k else 0)] = (bm_T sl).take (n + 1) := by
    rw [← hk, ← ht]
    exact tk_1 (T_at (by omega) h)
  have e2 : n - 16 + 1 = n + 1 - 16 := by omega
  have e3 : zS n + k = zS (n + 1) := by rw [zS, if_neg (by omega), hs]
  show ((bm_T sl).take n ++ [(t, if 20 ≤ t then k else 0)], aP U, aM V M, G, n - 16 + 1, zS n + k) = _
  rw [e1, e2, e3]
  rfl
theorem k_cl (h16 : 16 ≤ n) (h : n < 889) : bz_cl (kS sl M G n U V) ∧ (kS sl M G n U V).1.length = n := by
  have hl : ((bm_T sl).take n).length = n := tk_l (by rw [T_len]; omega)
  refine ⟨?_, hl⟩
  show n - 16 + 16 = ((bm_T sl).take n).length
  rw [hl]; omega
theorem k_na {t : Nat} {k : Int} {kk : Nat → bz_M → Option bz_R} (h : 16 ≤ n ∧ n < 889) (hf : bm_tg n = t ∧ (bm_ln n : Int) = k ∧ 20 ≤ t ∧ bm_ln n ≤ 10000) : bz_na (kS sl M G n U V) t k kk = kk n (kS sl M G (n + 1) U V) := by
  obtain ⟨h1, h2, h3, h4⟩ := hf
  unfold bz_na
  rw [if_pos ⟨(k_cl h.1 h.2).1, by omega, by omega⟩, (k_cl h.1 h.2).2, k_A h.1 h.2 h1 (by rw [if_pos h3]; omega) (by unfold bm_sz; rw [h1, if_neg (by omega)]; omega)]
theorem k_nw {kk : Nat → bz_M → Option bz_R} (h : 16 ≤ n ∧ n < 889) (hf : bm_tg n = c ∧ bm_ln n = 0 ∧ c < 20) : bz_nw (kS sl M G n U V) c kk = kk n (kS sl M G (n + 1) U V) := by
  obtain ⟨h1, h2, h3⟩ := hf
  unfold bz_nw
  rw [if_pos (k_cl h.1 h.2).1, (k_cl h.1 h.2).2, k_A h.1 h.2 h1 (by rw [if_neg (by omega)]; exact h2) (by unfold bm_sz; rw [h1, if_pos h3])]
theorem k_pR {kk : bz_M → Option bz_R} (h : a < n ∧ 16 ≤ v) (hf : bm_tg a = c) : bz_pR (kS sl M G n U V) a c j v kk = kk (kS sl M G n ((a, j, v) :: U) V) := by
  unfold bz_pR
  rw [k_T h.1, if_pos ⟨hf, h.2⟩]
  show kk ((bm_T sl).take n, (fun b i => if b = a ∧ i = j then v else aP U b i), aM V M, G, n - 16, zS n) = _
  rw [aP_c]
  rfl
theorem k_oi {kk : Nat → Option bz_R} (h : a < n) (hf : 1 ≤ bm_tg a ∧ bm_tg a ≤ 10) : bz_oi (kS sl M G n U V) a kk = kk a := by
  unfold bz_oi
  rw [k_T h, if_pos hf]
theorem k_wR {kk : bz_M → Option bz_R} (h : a < n ∧ v < n) (hn : a ≠ 1) (hf : (bm_tg a = 24 ∧ bm_tg v = 6) ∨ (bm_tg a = 25 ∧ bm_tg v = 4) ∨ (bm_tg a = 26 ∧ (bm_tg v = 1 ∨ bm_tg v = 2 ∨ bm_tg v = 3)) ∨ (bm_tg a = 27 ∧ bm_tg v = 8)) (hi : 0 ≤ i ∧ i < (bm_ln a : Int)) : bz_wR (kS sl M G n U V) a i v kk = kk (kS sl M G n ((a, i, v) :: U) V) := by
  unfold bz_wR
  rw [k_T h.1, k_T h.2, k_N h.1 hn, if_pos ⟨hf, hi⟩]
  show kk ((bm_T sl).take n, (fun b j => if b = a ∧ j = i then v else aP U b j), aM V M, G, n - 16, zS n) = _
  rw [aP_c]
  rfl
theorem k_M : sM (kS sl M G n U V) a i x = kS sl M G n U ((a, i, x) :: V) := by
  show ((bm_T sl).take n, aP U, (fun b j => if b = a ∧ j = i then x else aM V M b j), G, n - 16, zS n) = _
  rw [aM_c]
  rfl
theorem k_pS {kk : bz_M → Option bz_R} (h : a < n) (hf : bm_tg a = 1 ∨ bm_tg a = 2 ∨ bm_tg a = 3) : bz_pS (kS sl M G n U V) a j x kk = kk (kS sl M G n U ((a, j, x) :: V)) := by
  unfold bz_pS
  rw [k_T h, if_pos hf, k_M]
theorem k_wB {kk : bz_M → Option bz_R} (h : a < n) (hn : a ≠ 1) (hf : bm_tg a = 22 ∧ (0 ≤ i ∧ i < (bm_ln a : Int)) ∧ (x = 0 ∨ x = 1)) : bz_wB (kS sl M G n U V) a i x kk = kk (kS sl M G n U ((a, i, x) :: V)) := by
  unfold bz_wB
  rw [k_T h, k_N h hn, if_pos hf, k_M]
theorem k_wI {kk : bz_M → Option bz_R} (h : a < n) (hn : a ≠ 1) (hf : bm_tg a = 20 ∧ 0 ≤ i ∧ i < (bm_ln a : Int)) : bz_wI (kS sl M G n U V) a i x kk = kk (kS sl M G n U ((a, i, x) :: V)) := by
  unfold bz_wI
  rw [k_T h, k_N h hn, if_pos hf, k_M]
theorem k_fR {kk : Nat → Option bz_R} (h : a < n) (hf : bm_tg a = c) (hv : aP U a j = v) (h0 : v ≠ 0) : bz_fR (kS sl M G n U V) a c j kk = kk v := by
  have e : gP (kS sl M G n U V) a j = v := hv
  unfold bz_fR
  rw [k_T h, e, if_pos ⟨hf, h0⟩]
theorem k_row (h : r < n ∧ 16 ≤ n ∧ n < 889) (hr : bm_tg r = 5) (hf : bm_tg n = 20 ∧ bm_ln n = 129) : d_Row_new r (kS sl M G n U V) = rI 0 (kS sl M G (n + 1) ((r, 0, n) :: U) V) := by
  rw [d_Row_new_5 _ _ ((k_T h.1).trans hr), x_Row_new_eq, k_oi h.1 (by omega), k_na h.2 (by omega), k_pR (by omega) hr]
theorem k_seq (h : r < n ∧ 16 ≤ n ∧ n + 1 < 889) (hr : bm_tg r = 7) (hf : bm_tg n = 20 ∧ bm_ln n = 16) (hg : bm_tg (n + 1) = 20 ∧ bm_ln (n + 1) = 16) : d_Seq_new r (kS sl M G n U V) = rI 0 (kS sl M G (n + 2) ((r, 1, n + 1) :: (r, 0, n) :: U) V) := by
  rw [d_Seq_new_7 _ _ ((k_T h.1).trans hr), x_Seq_new_eq, k_oi h.1 (by omega), k_na (by omega) (by omega), k_pR (by omega) hr, k_na (by omega) (by omega), k_pR (by omega) hr]
theorem k_tal (h : r < n ∧ 16 ≤ n ∧ n + 3 < 889) (hr : bm_tg r = 8) (h0 : bm_tg n = 20 ∧ bm_ln n = 320) (h1 : bm_tg (n + 1) = 20 ∧ bm_ln (n + 1) = 17) (h2 : bm_tg (n + 1 + 1) = 20 ∧ bm_ln (n + 1 + 1) = 16) (h3 : bm_tg (n + 1 + 1 + 1) = 20 ∧ bm_ln (n + 1 + 1 + 1) = 16) : d_Tal_new r (kS sl M G n U V) = rI 0 (kS sl M G (n + 1 + 1 + 1 + 1) ((r, 3, n + 1 + 1 + 1) :: (r, 2, n + 1 + 1) :: (r, 1, n + 1) :: (r, 0, n) :: U) V) := by
  rw [d_Tal_new_8 _ _ ((k_T h.1).trans hr), x_Tal_new_eq, k_oi h.1 (by omega), k_na (by omega) (by omega), k_pR (by omega) hr, k_na (by omega) (by omega), k_pR (by omega) hr, k_na (by omega) (by omega), k_pR (by omega) hr, k_na (by omega) (by omega), k_pR (by omega) hr]
theorem k_sym {p q s t : Int} (h : a < n) (hf : bm_tg a = 1 ∨ bm_tg a = 2 ∨ bm_tg a = 3) : x_Sym_new a p q s t (kS sl M G n U V) = rI 0 (kS sl M G n U ((a, 3, t) :: (a, 2, s) :: (a, 1, q) :: (a, 0, p) :: V)) := by
  rw [x_Sym_new_eq, k_oi h (by omega), k_pS h hf, k_pS h hf, k_pS h hf, k_pS h hf]
end
