/-! THE CHECK OF EVERY METHOD -/
set_option maxRecDepth 100000 in
theorem bz_ck_0 : (List.range 30).all (fun j => bz_ckl (0 + j) 0 (bz_cds.getD (0 + j) [])) = true := by decide +kernel
set_option maxRecDepth 100000 in
theorem bz_ck_1 : (List.range 30).all (fun j => bz_ckl (30 + j) 0 (bz_cds.getD (30 + j) [])) = true := by decide +kernel
set_option maxRecDepth 100000 in
theorem bz_ck_2 : (List.range 30).all (fun j => bz_ckl (60 + j) 0 (bz_cds.getD (60 + j) [])) = true := by decide +kernel
set_option maxRecDepth 100000 in
theorem bz_ck_3 : (List.range 30).all (fun j => bz_ckl (90 + j) 0 (bz_cds.getD (90 + j) [])) = true := by decide +kernel
set_option maxRecDepth 100000 in
theorem bz_ck_4 : (List.range 30).all (fun j => bz_ckl (120 + j) 0 (bz_cds.getD (120 + j) [])) = true := by decide +kernel
set_option maxRecDepth 100000 in
theorem bz_ck_5 : (List.range 30).all (fun j => bz_ckl (150 + j) 0 (bz_cds.getD (150 + j) [])) = true := by decide +kernel
set_option maxRecDepth 100000 in
theorem bz_ck_6 : (List.range 30).all (fun j => bz_ckl (180 + j) 0 (bz_cds.getD (180 + j) [])) = true := by decide +kernel
set_option maxRecDepth 100000 in
theorem bz_ck_7 : (List.range 30).all (fun j => bz_ckl (210 + j) 0 (bz_cds.getD (210 + j) [])) = true := by decide +kernel
set_option maxRecDepth 100000 in
theorem bz_ck_8 : (List.range 30).all (fun j => bz_ckl (240 + j) 0 (bz_cds.getD (240 + j) [])) = true := by decide +kernel
set_option maxRecDepth 100000 in
theorem bz_ck_9 : (List.range 26).all (fun j => bz_ckl (270 + j) 0 (bz_cds.getD (270 + j) [])) = true := by decide +kernel
theorem bz_ck_of {a n k : Nat} (h : (List.range n).all (fun j => bz_ckl (a + j) 0 (bz_cds.getD (a + j) [])) = true) (h1 : a ≤ k) (h2 : k < a + n) : bz_ckl k 0 (bz_cds.getD k []) = true := by
  have := List.all_eq_true.mp h (k - a) (List.mem_range.mpr (by omega))
  rw [show a + (k - a) = k by omega] at this
  exact this
theorem bz_hall : ∀ k, k < bz_KM → bz_ckl k 0 (bz_cds.getD k []) = true := by
  intro k hk
  have hk : k < 296 := hk
  rcases Nat.lt_or_ge k 30 with q0 | q0
  · exact bz_ck_of bz_ck_0 (Nat.zero_le _) q0
  rcases Nat.lt_or_ge k 60 with q1 | q1
  · exact bz_ck_of bz_ck_1 q0 q1
  rcases Nat.lt_or_ge k 90 with q2 | q2
  · exact bz_ck_of bz_ck_2 q1 q2
  rcases Nat.lt_or_ge k 120 with q3 | q3
  · exact bz_ck_of bz_ck_3 q2 q3
  rcases Nat.lt_or_ge k 150 with q4 | q4
  · exact bz_ck_of bz_ck_4 q3 q4
  rcases Nat.lt_or_ge k 180 with q5 | q5
  · exact bz_ck_of bz_ck_5 q4 q5
  rcases Nat.lt_or_ge k 210 with q6 | q6
  · exact bz_ck_of bz_ck_6 q5 q6
  rcases Nat.lt_or_ge k 240 with q7 | q7
  · exact bz_ck_of bz_ck_7 q6 q7
  rcases Nat.lt_or_ge k 270 with q8 | q8
  · exact bz_ck_of bz_ck_8 q7 q8
  exact bz_ck_of bz_ck_9 q8 hk
theorem bz_all {N : bz_N} (n : Nat) : bz_Rc N (bx n) := bz_sound bz_hall n
