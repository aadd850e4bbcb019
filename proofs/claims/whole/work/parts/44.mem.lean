/-! THE MEMORY BEHIND THE CONSTRUCTORS: tags, lengths and references are fixed (but the row of scans); ints, longs and the count of exceptions vary -/
def bm_Lrow : List (Nat × Nat) := [(5, 0), (20, 129)]
def bm_Lseq : List (Nat × Nat) := [(7, 0), (20, 16), (20, 16)]
def bm_Lrdg : List (Nat × Nat) := (4, 0) :: (bm_Lseq ++ (bm_Lseq ++ bm_Lseq))
def bm_Lscan : List (Nat × Nat) := (6, 0) :: (bm_Lrow ++ (25, 3) :: (bm_Lrdg ++ (bm_Lrdg ++ bm_Lrdg)))
def bm_Ltal : List (Nat × Nat) := [(8, 0), (20, 320), (20, 17), (20, 16), (20, 16)]
def bm_Leng : List (Nat × Nat) := [(9, 0), (20, 60)] ++ (bm_Lrow ++ ([(24, 24), (26, 3), (2, 0), (3, 0), (1, 0), (27, 3)] ++ (bm_Ltal ++ (bm_Ltal ++ (bm_Ltal ++ ([(22, 3)] ++ (bm_Lrow ++ (bm_Lrow ++ (bm_Lrow ++ bm_Lseq)))))))))
def bm_Lscans (n : Nat) : List (Nat × Nat) := (List.replicate n bm_Lscan).flatten
def bm_Lmod : List (Nat × Nat) := [(10, 0), (20, 3096), (20, 24), (20, 129), (20, 60), (22, 3), (20, 10), (20, 10), (20, 20), (20, 60), (20, 127), (20, 129), (20, 16), (20, 16), (20, 72), (20, 1152), (20, 1152), (22, 24), (20, 24), (20, 17), (20, 2048)]
def bm_Lout : List (Nat × Nat) := [(21, 40), (21, 10), (21, 20), (28, 0), (28, 0), (29, 20), (29, 20), (0, 0), (0, 0), (0, 0), (0, 0), (0, 0), (0, 0), (0, 0)]
def bm_T (sl : Nat) : List (Nat × Nat) := (0, 0) :: (21, sl) :: (bm_Lout ++ (bm_Leng ++ (bm_Lscans 24 ++ (bm_Lmod ++ [(23, 1)]))))
def bm_tg (a : Nat) : Nat := ((bm_T 0).getD a (0, 0)).1
def bm_ln (a : Nat) : Nat := ((bm_T 0).getD a (0, 0)).2
/-- references, by address and slot -/
def bm_Pseq (b : Nat) : List (List Nat) := [[b + 1, b + 2], [], []]
def bm_Prdg (b : Nat) : List (List Nat) := [b + 1, b + 4, b + 7] :: (bm_Pseq (b + 1) ++ (bm_Pseq (b + 4) ++ bm_Pseq (b + 7)))
def bm_Pscan (b : Nat) : List (List Nat) := [b + 1, b + 3] :: [b + 2] :: [] :: [b + 4, b + 14, b + 24] :: (bm_Prdg (b + 4) ++ (bm_Prdg (b + 14) ++ bm_Prdg (b + 24)))
def bm_Ptal (b : Nat) : List (List Nat) := [[b + 1, b + 2, b + 3, b + 4], [], [], [], []]
def bm_Peng : List (List Nat) := [[17, 0, 18, 20, 0, 21, 25, 41, 42, 44, 46, 48], [], [19], [], [], [22, 23, 24], [], [], [], [26, 31, 36]] ++ (bm_Ptal 26 ++ (bm_Ptal 31 ++ (bm_Ptal 36 ++ ([[], [43], [], [45], [], [47], []] ++ bm_Pseq 48))))
def bm_Pscans (n : Nat) : List (List Nat) := ((List.range n).map fun q => bm_Pscan (51 + 34 * q)).flatten
def bm_Pmod : List (List Nat) := [[868, 869, 870, 871, 872, 873, 874, 875, 0, 0, 0, 0, 876, 877, 0, 878, 0, 879, 880, 0, 0, 0, 881, 882, 883, 884, 885, 0, 0, 0, 0, 886, 887]]
def bm_Pout : List (List Nat) := [[], [], [], [], [], [7], [8], [], [], [], [], [], [], [], [], []]
def bm_PT : List (List Nat) := bm_Pout ++ (bm_Peng ++ (bm_Pscans 24 ++ bm_Pmod))
def bm_pp (a : Nat) (i : Int) : Nat := if 0 ≤ i then (bm_PT.getD a []).getD i.toNat 0 else 0
def bm_P (π : Int → Nat) (a : Nat) (i : Int) : Nat := if a = 20 then π i else bm_pp a i
def bM (sl : Nat) (π : Int → Nat) (M G : Nat → Int → Int) (e : Nat) : bz_M := (bm_T sl, bm_P π, M, G, 873 + e, 21380 + 6 * e)
def up (M : Nat → Int → Int) (a : Nat) (i v : Int) : Nat → Int → Int := fun b j => if b = a ∧ j = i then v else M b j
theorem up_s {M : Nat → Int → Int} {a : Nat} {i v : Int} : up M a i v a i = v := by unfold up; rw [if_pos ⟨rfl, rfl⟩]
theorem up_a {M : Nat → Int → Int} {a b : Nat} {i j v : Int} (h : b ≠ a) : up M a i v b j = M b j := by unfold up; rw [if_neg fun q => h q.1]
theorem up_i {M : Nat → Int → Int} {a b : Nat} {i j v : Int} (h : j ≠ i) : up M a i v b j = M b j := by unfold up; rw [if_neg fun q => h q.2]
theorem up_ite {M : Nat → Int → Int} {a b : Nat} {i j v : Int} : up M a i v b j = if b = a ∧ j = i then v else M b j := rfl
theorem bm_T1 {sl a : Nat} : ((bm_T sl).getD a (0, 0)).1 = bm_tg a := by
  rcases a with _ | _ | a <;> rfl
theorem bm_T2 {sl a : Nat} (h : a ≠ 1) : ((bm_T sl).getD a (0, 0)).2 = bm_ln a := by
  rcases a with _ | _ | a
  · rfl
  · exact absurd rfl h
  · rfl
section
variable {sl e : Nat} {π : Int → Nat} {M G : Nat → Int → Int} {a c v : Nat} {i j x : Int}
theorem gT_bM : gT (bM sl π M G e) a = bm_tg a := bm_T1
theorem gN_bM (h : a ≠ 1) : gN (bM sl π M G e) a = (bm_ln a : Int) := congrArg Int.ofNat (bm_T2 h)
theorem gN_1 : gN (bM sl π M G e) 1 = (sl : Int) := rfl
theorem gP_bM : gP (bM sl π M G e) a j = bm_P π a j := rfl
theorem sX_bM : sX (bM sl π M G e) = bM sl π M G (e + 1) := rfl
theorem bm_fI {k : Int → Option bz_R} (h : bm_tg a = c) : bz_fI (bM sl π M G e) a c j k = k (M a j) := by
  unfold bz_fI; rw [gT_bM, if_pos h]; rfl
theorem bm_fL {k : Int → Option bz_R} (h : bm_tg a = c) : bz_fL (bM sl π M G e) a c j k = k (G a j) := by
  unfold bz_fL; rw [gT_bM, if_pos h]; rfl
theorem bm_fR {k : Nat → Option bz_R} (h : bm_tg a = c) (h2 : bm_pp a j = v) (h3 : a ≠ 20) (h4 : v ≠ 0) : bz_fR (bM sl π M G e) a c j k = k v := by
  have e1 : bm_P π a j = v := by unfold bm_P; rw [if_neg h3, h2]
  unfold bz_fR
  rw [gT_bM, gP_bM, e1, if_pos ⟨h, h4⟩]
theorem bm_fS {k : Int → Option bz_R} (h : bm_tg a = 1 ∨ bm_tg a = 2 ∨ bm_tg a = 3) : bz_fS (bM sl π M G e) a j k = k (M a j) := by
  unfold bz_fS; rw [gT_bM, if_pos h]; rfl
theorem bm_pI {k : bz_M → Option bz_R} (h : bm_tg a = c) : bz_pI (bM sl π M G e) a c j x k = k (bM sl π (up M a j x) G e) := by
  unfold bz_pI; rw [gT_bM, if_pos h]; rfl
theorem bm_pB {k : bz_M → Option bz_R} (h : bm_tg a = c) (h2 : x = 0 ∨ x = 1) : bz_pB (bM sl π M G e) a c j x k = k (bM sl π (up M a j x) G e) := by
  unfold bz_pB; rw [gT_bM, if_pos ⟨h, h2⟩]; rfl
theorem bm_pL {k : bz_M → Option bz_R} (h : bm_tg a = c) : bz_pL (bM sl π M G e) a c j x k = k (bM sl π M (up G a j x) e) := by
  unfold bz_pL; rw [gT_bM, if_pos h]; rfl
theorem bm_rI {n : Nat} {k : Int → Option bz_R} (h : bm_tg a = 20 ∨ bm_tg a = 21) (h2 : bm_ln a = n) (h3 : a ≠ 1) (h4 : 0 ≤ i ∧ i < (n : Int)) : bz_rI (bM sl π M G e) a i k = k (M a i) := by
  unfold bz_rI; rw [gT_bM, gN_bM h3, h2, if_pos ⟨h, h4⟩]; rfl
theorem bm_rS {k : Int → Option bz_R} (h4 : 0 ≤ i ∧ i < (sl : Int)) : bz_rI (bM sl π M G e) 1 i k = k (M 1 i) := by
  unfold bz_rI; rw [gT_bM, gN_1, if_pos ⟨Or.inr rfl, h4⟩]; rfl
theorem bm_rB {n : Nat} {k : Int → Option bz_R} (h : bm_tg a = 22 ∨ bm_tg a = 29) (h2 : bm_ln a = n) (h3 : a ≠ 1) (h4 : 0 ≤ i ∧ i < (n : Int)) : bz_rB (bM sl π M G e) a i k = k (M a i) := by
  unfold bz_rB; rw [gT_bM, gN_bM h3, h2, if_pos ⟨h, h4⟩]; rfl
theorem bm_wI {n : Nat} {k : bz_M → Option bz_R} (h : bm_tg a = 20) (h2 : bm_ln a = n) (h3 : a ≠ 1) (h4 : 0 ≤ i ∧ i < (n : Int)) : bz_wI (bM sl π M G e) a i x k = k (bM sl π (up M a i x) G e) := by
  unfold bz_wI; rw [gT_bM, gN_bM h3, h2, if_pos ⟨h, h4⟩]; rfl
theorem bm_wB {n : Nat} {k : bz_M → Option bz_R} (h : bm_tg a = 22) (h2 : bm_ln a = n) (h3 : a ≠ 1) (h4 : 0 ≤ i ∧ i < (n : Int)) (h5 : x = 0 ∨ x = 1) : bz_wB (bM sl π M G e) a i x k = k (bM sl π (up M a i x) G e) := by
  unfold bz_wB; rw [gT_bM, gN_bM h3, h2, if_pos ⟨h, h4, h5⟩]; rfl
theorem bm_rR {n : Nat} {k : Nat → Option bz_R} (h : 24 ≤ bm_tg a ∧ bm_tg a ≤ 27) (h2 : bm_ln a = n) (h3 : a ≠ 1) (h4 : 0 ≤ i ∧ i < (n : Int)) (h5 : bm_P π a i = v) (h6 : v ≠ 0) : bz_rR (bM sl π M G e) a i k = k v := by
  unfold bz_rR; rw [gT_bM, gN_bM h3, gP_bM, h2, h5, if_pos ⟨h, h4, h6⟩]
theorem bm_al {n : Nat} {k : Int → Option bz_R} (h : 20 ≤ bm_tg a ∧ bm_tg a ≠ 28) (h2 : bm_ln a = n) (h3 : a ≠ 1) : bz_al (bM sl π M G e) a k = k (n : Int) := by
  unfold bz_al; rw [gT_bM, gN_bM h3, h2, if_pos h]
theorem bm_alS {k : Int → Option bz_R} : bz_al (bM sl π M G e) 1 k = k (sl : Int) := by
  unfold bz_al; rw [gT_bM, gN_1, if_pos ⟨by decide, by decide⟩]
/-- the row of scans -/
theorem bm_rSc {k : Nat → Option bz_R} (h4 : 0 ≤ i ∧ i < 24) (h6 : π i ≠ 0) : bz_rR (bM sl π M G e) 20 i k = k (π i) :=
  bm_rR (n := 24) (by decide) (by decide) (by decide) h4 (by unfold bm_P; rw [if_pos rfl]) h6
theorem bm_wSc {k : bz_M → Option bz_R} (h4 : 0 ≤ i ∧ i < 24) (h6 : bm_tg v = 6) : bz_wR (bM sl π M G e) 20 i v k = k (bM sl (fun j => if j = i then v else π j) M G e) := by
  have e1 : sP (bM sl π M G e) 20 i v = bM sl (fun j => if j = i then v else π j) M G e := by
    show (bm_T sl, (fun b j => if b = 20 ∧ j = i then v else bm_P π b j), _) = (bm_T sl, bm_P (fun j => if j = i then v else π j), _)
    have : (fun b j => if b = 20 ∧ j = i then v else bm_P π b j) = bm_P (fun j => if j = i then v else π j) := by
      funext b j
      unfold bm_P
      by_cases h1 : b = 20
      · by_cases h2 : j = i
        · rw [if_pos ⟨h1, h2⟩, if_pos h1]; exact (if_pos h2).symm
        · rw [if_neg fun q => h2 q.2, if_pos h1, if_pos h1]; exact (if_neg h2).symm
      · rw [if_neg fun q => h1 q.1, if_neg h1, if_neg h1]
    rw [this]
    rfl
  unfold bz_wR
  rw [gT_bM, gT_bM, gN_bM (by decide), show bm_ln 20 = 24 by decide, if_pos ⟨Or.inl ⟨by decide, h6⟩, h4⟩, e1]
end
/-! what an address is -/
def aRow (r : Nat) : Prop := bm_tg r = 5 ∧ bm_tg (r + 1) = 20 ∧ bm_ln (r + 1) = 129 ∧ bm_pp r 0 = r + 1 ∧ r ≠ 20 ∧ r ≠ 0
def aSeq (r : Nat) : Prop := bm_tg r = 7 ∧ (bm_tg (r + 1) = 20 ∧ bm_tg (r + 2) = 20) ∧ (bm_ln (r + 1) = 16 ∧ bm_ln (r + 2) = 16) ∧ (bm_pp r 0 = r + 1 ∧ bm_pp r 1 = r + 2) ∧ r ≠ 20 ∧ r ≠ 0
def aRdg (r : Nat) : Prop := bm_tg r = 4 ∧ (bm_pp r 0 = r + 1 ∧ bm_pp r 1 = r + 4 ∧ bm_pp r 2 = r + 7) ∧ (aSeq (r + 1) ∧ aSeq (r + 4) ∧ aSeq (r + 7)) ∧ r ≠ 20 ∧ r ≠ 0
def aScn (r : Nat) : Prop := bm_tg r = 6 ∧ (bm_pp r 0 = r + 1 ∧ bm_pp r 1 = r + 3) ∧ bm_tg (r + 3) = 25 ∧ bm_ln (r + 3) = 3 ∧ (bm_pp (r + 3) 0 = r + 4 ∧ bm_pp (r + 3) 1 = r + 14 ∧ bm_pp (r + 3) 2 = r + 24) ∧ (aRow (r + 1) ∧ aRdg (r + 4) ∧ aRdg (r + 14) ∧ aRdg (r + 24)) ∧ r ≠ 20 ∧ r ≠ 0 ∧ r + 3 ≠ 20
def aTal (r : Nat) : Prop := bm_tg r = 8 ∧ (bm_tg (r + 1) = 20 ∧ bm_tg (r + 2) = 20 ∧ bm_tg (r + 3) = 20 ∧ bm_tg (r + 4) = 20) ∧ (bm_ln (r + 1) = 320 ∧ bm_ln (r + 2) = 17 ∧ bm_ln (r + 3) = 16 ∧ bm_ln (r + 4) = 16) ∧ (bm_pp r 0 = r + 1 ∧ bm_pp r 1 = r + 2 ∧ bm_pp r 2 = r + 3 ∧ bm_pp r 3 = r + 4) ∧ r ≠ 20 ∧ r ≠ 0
theorem a_18 : aRow 18 := by unfold aRow; decide +kernel
theorem a_42 : aRow 42 := by unfold aRow; decide +kernel
theorem a_44 : aRow 44 := by unfold aRow; decide +kernel
theorem a_46 : aRow 46 := by unfold aRow; decide +kernel
theorem a_48 : aSeq 48 := by unfold aSeq; decide +kernel
theorem a_26 : aTal 26 := by unfold aTal; decide +kernel
theorem a_31 : aTal 31 := by unfold aTal; decide +kernel
theorem a_36 : aTal 36 := by unfold aTal; decide +kernel
theorem a_rowq : ∀ q, q < 24 → aRow (51 + 34 * q + 1) := by unfold aRow; decide +kernel
theorem a_seqq1 : ∀ q, q < 24 → ∀ t, t < 3 → ∀ u, u < 3 → bm_tg (51 + 34 * q + (4 + 10 * t) + (1 + 3 * u)) = 7 ∧ (bm_tg (51 + 34 * q + (4 + 10 * t) + (1 + 3 * u) + 1) = 20 ∧ bm_tg (51 + 34 * q + (4 + 10 * t) + (1 + 3 * u) + 2) = 20) := by decide +kernel
theorem a_seqq2 : ∀ q, q < 24 → ∀ t, t < 3 → ∀ u, u < 3 → bm_ln (51 + 34 * q + (4 + 10 * t) + (1 + 3 * u) + 1) = 16 ∧ bm_ln (51 + 34 * q + (4 + 10 * t) + (1 + 3 * u) + 2) = 16 := by decide +kernel
theorem a_seqq3 : ∀ q, q < 24 → ∀ t, t < 3 → ∀ u, u < 3 → bm_pp (51 + 34 * q + (4 + 10 * t) + (1 + 3 * u)) 0 = 51 + 34 * q + (4 + 10 * t) + (1 + 3 * u) + 1 ∧ bm_pp (51 + 34 * q + (4 + 10 * t) + (1 + 3 * u)) 1 = 51 + 34 * q + (4 + 10 * t) + (1 + 3 * u) + 2 := by decide +kernel
theorem a_seqq (q : Nat) (hq : q < 24) (t : Nat) (ht : t < 3) (u : Nat) (hu : u < 3) : aSeq (51 + 34 * q + (4 + 10 * t) + (1 + 3 * u)) :=
  ⟨(a_seqq1 q hq t ht u hu).1, (a_seqq1 q hq t ht u hu).2, a_seqq2 q hq t ht u hu, a_seqq3 q hq t ht u hu, by omega, by omega⟩
theorem a_rdgq1 : ∀ q, q < 24 → ∀ t, t < 3 → bm_tg (51 + 34 * q + (4 + 10 * t)) = 4 ∧ (bm_pp (51 + 34 * q + (4 + 10 * t)) 0 = 51 + 34 * q + (4 + 10 * t) + 1 ∧ bm_pp (51 + 34 * q + (4 + 10 * t)) 1 = 51 + 34 * q + (4 + 10 * t) + 4 ∧ bm_pp (51 + 34 * q + (4 + 10 * t)) 2 = 51 + 34 * q + (4 + 10 * t) + 7) := by decide +kernel
theorem a_rdgq (q : Nat) (hq : q < 24) (t : Nat) (ht : t < 3) : aRdg (51 + 34 * q + (4 + 10 * t)) :=
  ⟨(a_rdgq1 q hq t ht).1, (a_rdgq1 q hq t ht).2, ⟨a_seqq q hq t ht 0 (by decide), a_seqq q hq t ht 1 (by decide), a_seqq q hq t ht 2 (by decide)⟩, by omega, by omega⟩
theorem a_scnq : ∀ q, q < 24 → bm_tg (51 + 34 * q) = 6 ∧ (bm_pp (51 + 34 * q) 0 = 51 + 34 * q + 1 ∧ bm_pp (51 + 34 * q) 1 = 51 + 34 * q + 3) ∧ bm_tg (51 + 34 * q + 3) = 25 ∧ bm_ln (51 + 34 * q + 3) = 3 ∧ (bm_pp (51 + 34 * q + 3) 0 = 51 + 34 * q + 4 ∧ bm_pp (51 + 34 * q + 3) 1 = 51 + 34 * q + 14 ∧ bm_pp (51 + 34 * q + 3) 2 = 51 + 34 * q + 24) := by decide +kernel
theorem a_scn (q : Nat) (hq : q < 24) : aScn (51 + 34 * q) :=
  ⟨(a_scnq q hq).1, (a_scnq q hq).2.1, (a_scnq q hq).2.2.1, (a_scnq q hq).2.2.2.1, (a_scnq q hq).2.2.2.2, ⟨a_rowq q hq, a_rdgq q hq 0 (by decide), a_rdgq q hq 1 (by decide), a_rdgq q hq 2 (by decide)⟩, by omega, by omega, by omega⟩
