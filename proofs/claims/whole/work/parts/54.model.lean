/-! THE MODEL'S FIELDS AND ROWS -/
section
variable {sl e : Nat} {π : Int → Nat} {M G : Nat → Int → Int} {i j x : Int} {k : Int → Option bz_R} {kr : Nat → Option bz_R} {km : bz_M → Option bz_R}
theorem mo_d : gT (bM sl π M G e) 867 = 10 := gT_bM.trans (by decide +kernel)
theorem mo_t : bm_tg 867 = 10 := by decide +kernel
theorem mo_I : bz_fI (bM sl π M G e) 867 10 j k = k (M 867 j) := bm_fI mo_t
theorem mo_L : bz_fL (bM sl π M G e) 867 10 j k = k (G 867 j) := bm_fL mo_t
theorem mo_p : bz_pI (bM sl π M G e) 867 10 j x km = km (bM sl π (up M 867 j x) G e) := bm_pI mo_t
theorem mo_pL : bz_pL (bM sl π M G e) 867 10 j x km = km (bM sl π M (up G 867 j x) e) := bm_pL mo_t
theorem mo_R0 : bz_fR (bM sl π M G e) 867 10 0 kr = kr 868 := bm_fR mo_t (by decide +kernel) (by decide) (by decide)
theorem mo_r868 (h : 0 ≤ i ∧ i < 3096) : bz_rI (bM sl π M G e) 868 i k = k (M 868 i) := bm_rI (n := 3096) (Or.inl (by decide +kernel)) (by decide +kernel) (by decide) h
theorem mo_w868 (h : 0 ≤ i ∧ i < 3096) : bz_wI (bM sl π M G e) 868 i x km = km (bM sl π (up M 868 i x) G e) := bm_wI (n := 3096) (by decide +kernel) (by decide +kernel) (by decide) h
theorem mo_R1 : bz_fR (bM sl π M G e) 867 10 1 kr = kr 869 := bm_fR mo_t (by decide +kernel) (by decide) (by decide)
theorem mo_r869 (h : 0 ≤ i ∧ i < 24) : bz_rI (bM sl π M G e) 869 i k = k (M 869 i) := bm_rI (n := 24) (Or.inl (by decide +kernel)) (by decide +kernel) (by decide) h
theorem mo_w869 (h : 0 ≤ i ∧ i < 24) : bz_wI (bM sl π M G e) 869 i x km = km (bM sl π (up M 869 i x) G e) := bm_wI (n := 24) (by decide +kernel) (by decide +kernel) (by decide) h
theorem mo_R2 : bz_fR (bM sl π M G e) 867 10 2 kr = kr 870 := bm_fR mo_t (by decide +kernel) (by decide) (by decide)
theorem mo_r870 (h : 0 ≤ i ∧ i < 129) : bz_rI (bM sl π M G e) 870 i k = k (M 870 i) := bm_rI (n := 129) (Or.inl (by decide +kernel)) (by decide +kernel) (by decide) h
theorem mo_w870 (h : 0 ≤ i ∧ i < 129) : bz_wI (bM sl π M G e) 870 i x km = km (bM sl π (up M 870 i x) G e) := bm_wI (n := 129) (by decide +kernel) (by decide +kernel) (by decide) h
theorem mo_R3 : bz_fR (bM sl π M G e) 867 10 3 kr = kr 871 := bm_fR mo_t (by decide +kernel) (by decide) (by decide)
theorem mo_r871 (h : 0 ≤ i ∧ i < 60) : bz_rI (bM sl π M G e) 871 i k = k (M 871 i) := bm_rI (n := 60) (Or.inl (by decide +kernel)) (by decide +kernel) (by decide) h
theorem mo_w871 (h : 0 ≤ i ∧ i < 60) : bz_wI (bM sl π M G e) 871 i x km = km (bM sl π (up M 871 i x) G e) := bm_wI (n := 60) (by decide +kernel) (by decide +kernel) (by decide) h
theorem mo_R4 : bz_fR (bM sl π M G e) 867 10 4 kr = kr 872 := bm_fR mo_t (by decide +kernel) (by decide) (by decide)
theorem mo_r872 (h : 0 ≤ i ∧ i < 3) : bz_rB (bM sl π M G e) 872 i k = k (M 872 i) := bm_rB (n := 3) (Or.inl (by decide +kernel)) (by decide +kernel) (by decide) h
theorem mo_w872 (h : 0 ≤ i ∧ i < 3) (hx : x = 0 ∨ x = 1) : bz_wB (bM sl π M G e) 872 i x km = km (bM sl π (up M 872 i x) G e) := bm_wB (n := 3) (by decide +kernel) (by decide +kernel) (by decide) h hx
theorem mo_R5 : bz_fR (bM sl π M G e) 867 10 5 kr = kr 873 := bm_fR mo_t (by decide +kernel) (by decide) (by decide)
theorem mo_r873 (h : 0 ≤ i ∧ i < 10) : bz_rI (bM sl π M G e) 873 i k = k (M 873 i) := bm_rI (n := 10) (Or.inl (by decide +kernel)) (by decide +kernel) (by decide) h
theorem mo_w873 (h : 0 ≤ i ∧ i < 10) : bz_wI (bM sl π M G e) 873 i x km = km (bM sl π (up M 873 i x) G e) := bm_wI (n := 10) (by decide +kernel) (by decide +kernel) (by decide) h
theorem mo_R6 : bz_fR (bM sl π M G e) 867 10 6 kr = kr 874 := bm_fR mo_t (by decide +kernel) (by decide) (by decide)
theorem mo_r874 (h : 0 ≤ i ∧ i < 10) : bz_rI (bM sl π M G e) 874 i k = k (M 874 i) := bm_rI (n := 10) (Or.inl (by decide +kernel)) (by decide +kernel) (by decide) h
theorem mo_w874 (h : 0 ≤ i ∧ i < 10) : bz_wI (bM sl π M G e) 874 i x km = km (bM sl π (up M 874 i x) G e) := bm_wI (n := 10) (by decide +kernel) (by decide +kernel) (by decide) h
theorem mo_R7 : bz_fR (bM sl π M G e) 867 10 7 kr = kr 875 := bm_fR mo_t (by decide +kernel) (by decide) (by decide)
theorem mo_r875 (h : 0 ≤ i ∧ i < 20) : bz_rI (bM sl π M G e) 875 i k = k (M 875 i) := bm_rI (n := 20) (Or.inl (by decide +kernel)) (by decide +kernel) (by decide) h
theorem mo_w875 (h : 0 ≤ i ∧ i < 20) : bz_wI (bM sl π M G e) 875 i x km = km (bM sl π (up M 875 i x) G e) := bm_wI (n := 20) (by decide +kernel) (by decide +kernel) (by decide) h
theorem mo_R12 : bz_fR (bM sl π M G e) 867 10 12 kr = kr 876 := bm_fR mo_t (by decide +kernel) (by decide) (by decide)
theorem mo_r876 (h : 0 ≤ i ∧ i < 60) : bz_rI (bM sl π M G e) 876 i k = k (M 876 i) := bm_rI (n := 60) (Or.inl (by decide +kernel)) (by decide +kernel) (by decide) h
theorem mo_w876 (h : 0 ≤ i ∧ i < 60) : bz_wI (bM sl π M G e) 876 i x km = km (bM sl π (up M 876 i x) G e) := bm_wI (n := 60) (by decide +kernel) (by decide +kernel) (by decide) h
theorem mo_R13 : bz_fR (bM sl π M G e) 867 10 13 kr = kr 877 := bm_fR mo_t (by decide +kernel) (by decide) (by decide)
theorem mo_r877 (h : 0 ≤ i ∧ i < 127) : bz_rI (bM sl π M G e) 877 i k = k (M 877 i) := bm_rI (n := 127) (Or.inl (by decide +kernel)) (by decide +kernel) (by decide) h
theorem mo_w877 (h : 0 ≤ i ∧ i < 127) : bz_wI (bM sl π M G e) 877 i x km = km (bM sl π (up M 877 i x) G e) := bm_wI (n := 127) (by decide +kernel) (by decide +kernel) (by decide) h
theorem mo_R15 : bz_fR (bM sl π M G e) 867 10 15 kr = kr 878 := bm_fR mo_t (by decide +kernel) (by decide) (by decide)
theorem mo_r878 (h : 0 ≤ i ∧ i < 129) : bz_rI (bM sl π M G e) 878 i k = k (M 878 i) := bm_rI (n := 129) (Or.inl (by decide +kernel)) (by decide +kernel) (by decide) h
theorem mo_w878 (h : 0 ≤ i ∧ i < 129) : bz_wI (bM sl π M G e) 878 i x km = km (bM sl π (up M 878 i x) G e) := bm_wI (n := 129) (by decide +kernel) (by decide +kernel) (by decide) h
theorem mo_R17 : bz_fR (bM sl π M G e) 867 10 17 kr = kr 879 := bm_fR mo_t (by decide +kernel) (by decide) (by decide)
theorem mo_r879 (h : 0 ≤ i ∧ i < 16) : bz_rI (bM sl π M G e) 879 i k = k (M 879 i) := bm_rI (n := 16) (Or.inl (by decide +kernel)) (by decide +kernel) (by decide) h
theorem mo_w879 (h : 0 ≤ i ∧ i < 16) : bz_wI (bM sl π M G e) 879 i x km = km (bM sl π (up M 879 i x) G e) := bm_wI (n := 16) (by decide +kernel) (by decide +kernel) (by decide) h
theorem mo_R18 : bz_fR (bM sl π M G e) 867 10 18 kr = kr 880 := bm_fR mo_t (by decide +kernel) (by decide) (by decide)
theorem mo_r880 (h : 0 ≤ i ∧ i < 16) : bz_rI (bM sl π M G e) 880 i k = k (M 880 i) := bm_rI (n := 16) (Or.inl (by decide +kernel)) (by decide +kernel) (by decide) h
theorem mo_w880 (h : 0 ≤ i ∧ i < 16) : bz_wI (bM sl π M G e) 880 i x km = km (bM sl π (up M 880 i x) G e) := bm_wI (n := 16) (by decide +kernel) (by decide +kernel) (by decide) h
theorem mo_R22 : bz_fR (bM sl π M G e) 867 10 22 kr = kr 881 := bm_fR mo_t (by decide +kernel) (by decide) (by decide)
theorem mo_r881 (h : 0 ≤ i ∧ i < 72) : bz_rI (bM sl π M G e) 881 i k = k (M 881 i) := bm_rI (n := 72) (Or.inl (by decide +kernel)) (by decide +kernel) (by decide) h
theorem mo_w881 (h : 0 ≤ i ∧ i < 72) : bz_wI (bM sl π M G e) 881 i x km = km (bM sl π (up M 881 i x) G e) := bm_wI (n := 72) (by decide +kernel) (by decide +kernel) (by decide) h
theorem mo_R23 : bz_fR (bM sl π M G e) 867 10 23 kr = kr 882 := bm_fR mo_t (by decide +kernel) (by decide) (by decide)
theorem mo_r882 (h : 0 ≤ i ∧ i < 1152) : bz_rI (bM sl π M G e) 882 i k = k (M 882 i) := bm_rI (n := 1152) (Or.inl (by decide +kernel)) (by decide +kernel) (by decide) h
theorem mo_w882 (h : 0 ≤ i ∧ i < 1152) : bz_wI (bM sl π M G e) 882 i x km = km (bM sl π (up M 882 i x) G e) := bm_wI (n := 1152) (by decide +kernel) (by decide +kernel) (by decide) h
theorem mo_R24 : bz_fR (bM sl π M G e) 867 10 24 kr = kr 883 := bm_fR mo_t (by decide +kernel) (by decide) (by decide)
theorem mo_r883 (h : 0 ≤ i ∧ i < 1152) : bz_rI (bM sl π M G e) 883 i k = k (M 883 i) := bm_rI (n := 1152) (Or.inl (by decide +kernel)) (by decide +kernel) (by decide) h
theorem mo_w883 (h : 0 ≤ i ∧ i < 1152) : bz_wI (bM sl π M G e) 883 i x km = km (bM sl π (up M 883 i x) G e) := bm_wI (n := 1152) (by decide +kernel) (by decide +kernel) (by decide) h
theorem mo_R25 : bz_fR (bM sl π M G e) 867 10 25 kr = kr 884 := bm_fR mo_t (by decide +kernel) (by decide) (by decide)
theorem mo_r884 (h : 0 ≤ i ∧ i < 24) : bz_rB (bM sl π M G e) 884 i k = k (M 884 i) := bm_rB (n := 24) (Or.inl (by decide +kernel)) (by decide +kernel) (by decide) h
theorem mo_w884 (h : 0 ≤ i ∧ i < 24) (hx : x = 0 ∨ x = 1) : bz_wB (bM sl π M G e) 884 i x km = km (bM sl π (up M 884 i x) G e) := bm_wB (n := 24) (by decide +kernel) (by decide +kernel) (by decide) h hx
theorem mo_R26 : bz_fR (bM sl π M G e) 867 10 26 kr = kr 885 := bm_fR mo_t (by decide +kernel) (by decide) (by decide)
theorem mo_r885 (h : 0 ≤ i ∧ i < 24) : bz_rI (bM sl π M G e) 885 i k = k (M 885 i) := bm_rI (n := 24) (Or.inl (by decide +kernel)) (by decide +kernel) (by decide) h
theorem mo_w885 (h : 0 ≤ i ∧ i < 24) : bz_wI (bM sl π M G e) 885 i x km = km (bM sl π (up M 885 i x) G e) := bm_wI (n := 24) (by decide +kernel) (by decide +kernel) (by decide) h
theorem mo_R31 : bz_fR (bM sl π M G e) 867 10 31 kr = kr 886 := bm_fR mo_t (by decide +kernel) (by decide) (by decide)
theorem mo_r886 (h : 0 ≤ i ∧ i < 17) : bz_rI (bM sl π M G e) 886 i k = k (M 886 i) := bm_rI (n := 17) (Or.inl (by decide +kernel)) (by decide +kernel) (by decide) h
theorem mo_w886 (h : 0 ≤ i ∧ i < 17) : bz_wI (bM sl π M G e) 886 i x km = km (bM sl π (up M 886 i x) G e) := bm_wI (n := 17) (by decide +kernel) (by decide +kernel) (by decide) h
theorem mo_R32 : bz_fR (bM sl π M G e) 867 10 32 kr = kr 887 := bm_fR mo_t (by decide +kernel) (by decide) (by decide)
theorem mo_r887 (h : 0 ≤ i ∧ i < 2048) : bz_rI (bM sl π M G e) 887 i k = k (M 887 i) := bm_rI (n := 2048) (Or.inl (by decide +kernel)) (by decide +kernel) (by decide) h
theorem mo_w887 (h : 0 ≤ i ∧ i < 2048) : bz_wI (bM sl π M G e) 887 i x km = km (bM sl π (up M 887 i x) G e) := bm_wI (n := 2048) (by decide +kernel) (by decide +kernel) (by decide) h
end
