/-! THE CONSTRUCTORS, 2 -/
section
variable {sl n r a c v : Nat} {M G : Nat → Int → Int} {U : List (Nat × Int × Nat)} {V : List (Nat × Int × Int)} {i j x : Int}
/-- what a block of a layout is -/
def lyt (b : Nat) (L : List (Nat × Nat)) : Prop := ∀ d, d < L.length → bm_tg (b + d) = (L.getD d (0, 0)).1 ∧ bm_ln (b + d) = (L.getD d (0, 0)).2
def rgU (r n : Nat) : List (Nat × Int × Nat) := [(r, 2, n + 6), (n + 6, 1, n + 8), (n + 6, 0, n + 7), (r, 1, n + 3), (n + 3, 1, n + 5), (n + 3, 0, n + 4), (r, 0, n), (n, 1, n + 2), (n, 0, n + 1)]
theorem k_rdg (h : r < n ∧ 16 ≤ n ∧ n + 9 ≤ 889) (hr : bm_tg r = 4) (h0 : bm_tg n = 7 ∧ bm_ln n = 0) (h1 : bm_tg (n + 1) = 20 ∧ bm_ln (n + 1) = 16) (h2 : bm_tg (n + 2) = 20 ∧ bm_ln (n + 2) = 16) (h3 : bm_tg (n + 3) = 7 ∧ bm_ln (n + 3) = 0) (h4 : bm_tg (n + 4) = 20 ∧ bm_ln (n + 4) = 16) (h5 : bm_tg (n + 5) = 20 ∧ bm_ln (n + 5) = 16) (h6 : bm_tg (n + 6) = 7 ∧ bm_ln (n + 6) = 0) (h7 : bm_tg (n + 7) = 20 ∧ bm_ln (n + 7) = 16) (h8 : bm_tg (n + 8) = 20 ∧ bm_ln (n + 8) = 16) : d_Rdg_new r (kS sl M G n U V) = rI 0 (kS sl M G (n + 9) (rgU r n ++ U) V) := by
  rw [d_Rdg_new_4 _ _ ((k_T h.1).trans hr), x_Rdg_new_eq, k_oi h.1 (by omega), k_nw (by omega) (by omega), k_seq (by omega) h0.1 h1 h2, cu_r, k_pR (by omega) hr]
  rw [show n + 1 + 2 = n + 3 from rfl, k_nw (by omega) (by omega), k_seq (by omega) h3.1 h4 h5, cu_r, k_pR (by omega) hr]
  rw [show n + 3 + 1 + 2 = n + 6 from rfl, k_nw (by omega) (by omega), k_seq (by omega) h6.1 h7 h8, cu_r, k_pR (by omega) hr]
  rfl
def scU (b : Nat) : List (Nat × Int × Nat) := (b, 1, b + 3) :: (b + 3, 2, b + 24) :: (rgU (b + 24) (b + 25) ++ (b + 3, 1, b + 14) :: (rgU (b + 14) (b + 15) ++ (b + 3, 0, b + 4) :: (rgU (b + 4) (b + 5) ++ [(b, 0, b + 1), (b + 1, 0, b + 2)])))
theorem k_scn {b : Nat} (hb : 16 ≤ b ∧ b + 34 ≤ 889) (h : lyt b bm_Lscan) : d_Scn_new b (kS sl M G (b + 1) U V) = rI 0 (kS sl M G (b + 34) (scU b ++ U) V) := by
  have H : ∀ d, d < 34 → bm_tg (b + d) = (bm_Lscan.getD d (0, 0)).1 ∧ bm_ln (b + d) = (bm_Lscan.getD d (0, 0)).2 := h
  have h0 : bm_tg b = 6 := (H 0 (by decide)).1
  have h1 : bm_tg (b + 1) = 5 ∧ bm_ln (b + 1) = 0 := H 1 (by decide)
  have h2 : bm_tg (b + 2) = 20 ∧ bm_ln (b + 2) = 129 := H 2 (by decide)
  have h3 : bm_tg (b + 3) = 25 ∧ bm_ln (b + 3) = 3 := H 3 (by decide)
  have h4 : bm_tg (b + 4) = 4 ∧ bm_ln (b + 4) = 0 := H 4 (by decide)
  have h5 : bm_tg (b + 5) = 7 ∧ bm_ln (b + 5) = 0 := H 5 (by decide)
  have h6 : bm_tg (b + 6) = 20 ∧ bm_ln (b + 6) = 16 := H 6 (by decide)
  have h7 : bm_tg (b + 7) = 20 ∧ bm_ln (b + 7) = 16 := H 7 (by decide)
  have h8 : bm_tg (b + 8) = 7 ∧ bm_ln (b + 8) = 0 := H 8 (by decide)
  have h9 : bm_tg (b + 9) = 20 ∧ bm_ln (b + 9) = 16 := H 9 (by decide)
  have h10 : bm_tg (b + 10) = 20 ∧ bm_ln (b + 10) = 16 := H 10 (by decide)
  have h11 : bm_tg (b + 11) = 7 ∧ bm_ln (b + 11) = 0 := H 11 (by decide)
  have h12 : bm_tg (b + 12) = 20 ∧ bm_ln (b + 12) = 16 := H 12 (by decide)
  have h13 : bm_tg (b + 13) = 20 ∧ bm_ln (b + 13) = 16 := H 13 (by decide)
  have h14 : bm_tg (b + 14) = 4 ∧ bm_ln (b + 14) = 0 := H 14 (by decide)
  have h15 : bm_tg (b + 15) = 7 ∧ bm_ln (b + 15) = 0 := H 15 (by decide)
  have h16 : bm_tg (b + 16) = 20 ∧ bm_ln (b + 16) = 16 := H 16 (by decide)
  have h17 : bm_tg (b + 17) = 20 ∧ bm_ln (b + 17) = 16 := H 17 (by decide)
  have h18 : bm_tg (b + 18) = 7 ∧ bm_ln (b + 18) = 0 := H 18 (by decide)
  have h19 : bm_tg (b + 19) = 20 ∧ bm_ln (b + 19) = 16 := H 19 (by decide)
  have h20 : bm_tg (b + 20) = 20 ∧ bm_ln (b + 20) = 16 := H 20 (by decide)
  have h21 : bm_tg (b + 21) = 7 ∧ bm_ln (b + 21) = 0 := H 21 (by decide)
  have h22 : bm_tg (b + 22) = 20 ∧ bm_ln (b + 22) = 16 := H 22 (by decide)
  have h23 : bm_tg (b + 23) = 20 ∧ bm_ln (b + 23) = 16 := H 23 (by decide)
  have h24 : bm_tg (b + 24) = 4 ∧ bm_ln (b + 24) = 0 := H 24 (by decide)
  have h25 : bm_tg (b + 25) = 7 ∧ bm_ln (b + 25) = 0 := H 25 (by decide)
  have h26 : bm_tg (b + 26) = 20 ∧ bm_ln (b + 26) = 16 := H 26 (by decide)
  have h27 : bm_tg (b + 27) = 20 ∧ bm_ln (b + 27) = 16 := H 27 (by decide)
  have h28 : bm_tg (b + 28) = 7 ∧ bm_ln (b + 28) = 0 := H 28 (by decide)
  have h29 : bm_tg (b + 29) = 20 ∧ bm_ln (b + 29) = 16 := H 29 (by decide)
  have h30 : bm_tg (b + 30) = 20 ∧ bm_ln (b + 30) = 16 := H 30 (by decide)
  have h31 : bm_tg (b + 31) = 7 ∧ bm_ln (b + 31) = 0 := H 31 (by decide)
  have h32 : bm_tg (b + 32) = 20 ∧ bm_ln (b + 32) = 16 := H 32 (by decide)
  have h33 : bm_tg (b + 33) = 20 ∧ bm_ln (b + 33) = 16 := H 33 (by decide)
  rw [d_Scn_new_6 _ _ ((k_T (by omega)).trans h0), x_Scn_new_eq, k_oi (by omega) (by omega), k_nw (by omega) (by omega), k_row (by omega) h1.1 h2, cu_r, k_pR (by omega) h0]
  rw [show b + 1 + 1 + 1 = b + 3 from rfl, k_na (by omega) (by omega), show b + 3 + 1 = b + 4 from rfl, k_nw (by omega) (by omega), show b + 4 + 1 = b + 5 from rfl, k_rdg (r := b + 4) (n := b + 5) (by omega) h4.1 h5 h6 h7 h8 h9 h10 h11 h12 h13, cu_r, k_wR (by omega) (by omega) (by omega) (by omega)]
  rw [show b + 5 + 9 = b + 14 from rfl, k_nw (by omega) (by omega), show b + 14 + 1 = b + 15 from rfl, k_rdg (r := b + 14) (n := b + 15) (by omega) h14.1 h15 h16 h17 h18 h19 h20 h21 h22 h23, cu_r, k_wR (by omega) (by omega) (by omega) (by omega)]
  rw [show b + 15 + 9 = b + 24 from rfl, k_nw (by omega) (by omega), show b + 24 + 1 = b + 25 from rfl, k_rdg (r := b + 24) (n := b + 25) (by omega) h24.1 h25 h26 h27 h28 h29 h30 h31 h32 h33, cu_r, k_wR (by omega) (by omega) (by omega) (by omega), k_pR (by omega) h0, show b + 25 + 9 = b + 34 from rfl]
  rfl
end
