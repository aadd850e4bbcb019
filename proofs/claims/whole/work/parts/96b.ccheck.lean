/-! checkCharacter: the class -/
section
variable {sl e : Nat} {π : Int → Nat} {M G : Nat → Int → Int} {σ : Sg} {t : Nat}
theorem bc_ins_0 {p : Int} (hp : 0 ≤ p) : ∀ (d : Nat) (M : Nat → Int → Int), p + d ≤ 15 → M 48 2 = p + d ∨ True → ∃ M', x_Seq_insert_0 48 p 0 (p + d) (bM sl π M G e) = rI 0 (bM sl π M' G e) ∧ fr (S_q 48) M M' ∧ M' 48 2 = wr (M 48 2 + 1) ∧ (∀ k, M' 49 k = if k = p then 0 else if p < k ∧ k ≤ p + d then M 49 (k - 1) else M 49 k) := by
  intro d
  induction d with
  | zero =>
    intro M hd _
    rw [x_Seq_insert_0_eq, if_neg (by omega), seq_v a_48, seq_sv a_48 (by omega), seq_I a_48, up_a (by decide), seq_p a_48]
    refine ⟨_, rfl, fr_up (by unfold S_q; omega) (fr_up (by unfold S_q; omega) fr_refl), up_s, fun k => ?_⟩
    rw [up_a (by decide)]
    by_cases z : k = p
    · rw [if_pos z, z, up_s]
    · rw [if_neg z, up_i z, if_neg (by omega)]
  | succ d ih =>
    intro M hd _
    have e1 : wr (p + ((d + 1 : Nat) : Int) - 1) = p + d := by rw [wr_id (by omega)]; omega
    have e2 : wr (p + ((d + 1 : Nat) : Int) + (-1)) = p + d := by rw [wr_id (by omega)]; omega
    obtain ⟨M', g, f, h2, h⟩ := ih (up M 49 (p + ((d + 1 : Nat) : Int)) (M 49 (p + d))) (by omega) (Or.inr trivial)
    rw [x_Seq_insert_0_eq, if_pos (by omega), seq_v a_48, seq_v a_48, e1, seq_rv a_48 (by omega), seq_sv a_48 (by omega), e2]
    refine ⟨M', g, fr_trans (fr_up (by unfold S_q; omega) fr_refl) f, by rw [h2, up_a (by decide)], fun k => ?_⟩
    rw [h k]
    by_cases z : k = p
    · rw [if_pos z, if_pos z]
    · rw [if_neg z, if_neg z]
      by_cases y : p < k ∧ k ≤ p + (d : Int)
      · rw [if_pos y, if_pos (by omega), up_i (by omega)]
      · rw [if_neg y]
        by_cases w : k = p + ((d + 1 : Nat) : Int)
        · rw [w, up_s, if_pos (by omega), show p + ((d + 1 : Nat) : Int) - 1 = p + d by omega]
        · rw [up_i w, if_neg (by omega)]
theorem bc_insert {p : Int} {l : List Ch} (hl : rSeq M 48 l) : ∃ M', d_Seq_insert 48 p 0 (bM sl π M G e) = rI 0 (bM sl π M' G e) ∧ fr (S_q 48) M M' ∧ (0 ≤ p ∧ p ≤ l.length → l.length < 16 → M' 48 2 = (l.length : Int) + 1 ∧ ∀ k, M' 49 k = if k = p then 0 else if p < k ∧ k ≤ l.length then M 49 (k - 1) else M 49 k) := by
  have h16 := hl.2.1
  rw [d_Seq_insert_7 _ _ _ _ (seq_d a_48), x_Seq_insert_eq]
  by_cases a : p < 0
  · rw [if_pos a]; exact ⟨M, rfl, fr_refl, fun q => by omega⟩
  · rw [if_neg a, seq_I a_48, hl.1]
    by_cases b : (l.length : Int) < p
    · rw [if_pos b]; exact ⟨M, rfl, fr_refl, fun q => by omega⟩
    · rw [if_neg b, seq_I a_48, seq_v a_48, seq_lv a_48, hl.1]
      by_cases c : (l.length : Int) < 16
      · obtain ⟨M', g, f, h2, h⟩ := bc_ins_0 (sl := sl) (e := e) (π := π) (G := G) (p := p) (by omega) ((l.length : Int) - p).toNat M (by omega) (Or.inr trivial)
        have ed : p + ((((l.length : Int) - p).toNat : Nat) : Int) = l.length := by omega
        rw [ed] at g h
        rw [if_pos c, seq_I a_48, hl.1]
        exact ⟨M', g, f, fun _ _ => ⟨by rw [h2, hl.1, wr_id (by omega)], h⟩⟩
      · rw [if_neg c]; exact ⟨M, rfl, fr_refl, fun _ q => by omega⟩
theorem bc_cplace {n : Int} (ht : t < 3) (hn : 0 ≤ n ∧ n ≤ 100) : d_Sym_checkPlace (22 + t) (wr (n + 1)) (bM sl π M G e) = rI (bs_cp t n) (bM sl π M G e) := by
  rw [wr_id (x := n + 1) (by omega)]
  match t, ht with
  | 0, _ => rw [show 22 + 0 = 22 from rfl, d_Sym_checkPlace_2 _ _ _ k_22, x_Sym_checkPlace_eq, wr_id (by omega), show n + 1 - 1 = n by omega]; rfl
  | 1, _ => rw [show 22 + 1 = 23 from rfl, d_Sym_checkPlace_3 _ _ _ k_23, x_Sym_checkPlace_eq, wr_id (by omega), show n + 1 - 1 = n by omega]; rfl
  | 2, _ => rw [show 22 + 2 = 24 from rfl, d_Sym_checkPlace_1 _ _ _ k_24, x_Cod_checkPlace_eq, wr_id (by omega), show n + 1 - 2 = n - 1 by omega]; rfl
theorem rf_nn {σ : Sg} {t n : Nat} (ht : t < 3) (h : bs_ic t (bs_tc (gtx σ) n) = true) : 0 ≤ bs_rf t (fun k => vof (gtx σ k)) n ∧ bs_rf t (fun k => vof (gtx σ k)) n ≤ 60 * n := by
  have dg := bs_ic0_ok 0 h
  have hl := bs_tc_l (x := gtx σ) n
  have h20 : ∀ v : Int, (0 ≤ v ∧ v < (if t = 2 then 20 else 10)) → 0 ≤ v ∧ v ≤ 20 := fun v hv => by split at hv <;> omega
  exact bs_rf_bd n fun k hk => by
    have hk2 : k < (bs_tc (gtx σ) n).length := by rw [hl]; exact hk
    have := dg _ (List.getElem_mem hk2)
    rw [bs_tc_at] at this
    exact h20 _ this
theorem qo_checkCharacter {n : Int} (h : CR σ π M) (ht : t < 3) : (okCk σ t n → ∃ M', d_E_checkCharacter 16 t n (bM sl π M G e) = rI (gCk σ t n) (bM sl π M' G e) ∧ CR σ π M' ∧ lo867 M M') ∧
    (¬ okCk σ t n → ∃ M', d_E_checkCharacter 16 t n (bM sl π M G e) = rX 3 (bM sl π M' G (e + 1)) ∧ CR σ π M' ∧ lo867 M M') := by
  have h0 := h.1.2.2.1
  have lo48 : ∀ {A B : Nat → Int → Int}, fr (S_q 48) A B → lo867 A B := fun f b j hb => f b j (by unfold S_q; omega)
  rw [d_E_checkCharacter_9 _ _ _ _ en_d, x_E_checkCharacter_eq, qo_sym, if_pos (show 0 ≤ (t : Int) ∧ (t : Int) < 3 by omega), cv_r, qo_text h]
  by_cases a1 : 0 ≤ n ∧ n ≤ gtl σ
  · obtain ⟨m, rfl⟩ : ∃ m : Nat, n = m := ⟨n.toNat, by omega⟩
    obtain ⟨A, gA, cA, fA, wA⟩ := qo_take (sl := sl) (e := e) (G := G) h a1.2
    obtain ⟨B, gB, fB, hB⟩ := bc_insert (sl := sl) (e := e) (π := π) (G := G) (p := bs_cp t m) wA
    have cB := fr_q48 cA fB
    have loB := lo_trans (lo48 fA) (lo48 fB)
    rw [if_pos a1, cv_r, en_R5, en_r21 ht, bc_cplace ht (by omega), cn_r, gA, cv_r, en_R11, gB, cv_r, wr_id (x := (m : Int) + 1) (by omega), bc_hl ht (by omega), cn_r, sX_bM]
    cases a4 : bs_hl t ((m : Int) + 1) with
    | false =>
      have no : ¬ okCk σ t m := fun q => by have := q.2.1; rw [a4] at this; exact absurd this (by decide)
      rw [if_pos (show bi false = 0 from rfl)]
      exact ⟨fun q => absurd q no, fun _ => ⟨B, rfl, cB, loB⟩⟩
    | true =>
      have hh := ck_hl ht a4
      have hmin : min m 16 = m := by omega
      rw [hmin] at wA hB
      have htl := bs_tc_l (x := gtx σ) m
      rw [htl] at hB
      have hcp : 0 ≤ bs_cp t m ∧ bs_cp t m ≤ m := by
        have := hh.2.2.2
        unfold bs_cp
        split <;> omega
      obtain ⟨hB2, hBv⟩ := hB hcp (by omega)
      have hA49 : ∀ k : Int, 0 ≤ k ∧ k < m → A 49 k = vof (gtx σ k) := fun k hk => by
        have hk2 : k.toNat < (bs_tc (gtx σ) m).length := by rw [htl]; omega
        have := (wA.2.2 k.toNat _ (List.getElem?_eq_getElem hk2)).1
        rw [bs_tc_at, show ((k.toNat : Nat) : Int) = k by omega] at this
        exact this
      have rin : rIn (gtx σ) (B 49) m (bs_cp t m) := by
        refine ⟨fun k hk => ?_, ?_, fun k hk => ?_⟩
        · rw [hBv, if_neg (by omega), if_neg (by omega)]; exact hA49 k (by omega)
        · rw [hBv, if_pos rfl]
        · rw [hBv, if_neg (by omega), if_pos (by omega)]; exact hA49 (k - 1) (by omega)
      have sq : rSeq B 48 (bs_il (B 49) (B 50) (m + 1)) := by
        refine ⟨by rw [bs_il_l, hB2]; omega, by rw [bs_il_l]; omega, fun k c hk => ?_⟩
        obtain ⟨hk2, e2⟩ := List.getElem?_eq_some_iff.mp hk
        rw [bs_il_at] at e2
        rw [← e2]
        exact ⟨rfl, rfl⟩
      rw [if_neg (show ¬ bi true = 0 by decide), bc_isCode ht sq, ck_ic hh rin, ci_r, sX_bM]
      cases a5 : bs_ic t (bs_tc (gtx σ) m) with
      | false =>
        have no : ¬ okCk σ t m := fun q => by have := q.2.2; rw [show ((m : Nat) : Int).toNat = m from rfl, a5] at this; exact absurd this (by decide)
        rw [if_pos (show bi false = 0 from rfl)]
        exact ⟨fun q => absurd q no, fun _ => ⟨B, rfl, cB, loB⟩⟩
      | true =>
        have S0 := rf_nn ht a5
        have cb := bs_cv_bd (t := t) S0.1
        have mb := bs_md_b t
        have dg : ∀ c ∈ bs_il (B 49) (B 50) (m + 1), -1 ≤ c.1 ∧ c.1 < 20 := fun c hc => by
          have hic : bs_ic t (bs_il (B 49) (B 50) (m + 1)) = true := by rw [ck_ic hh rin]; exact a5
          have := bs_ic0_ok 0 hic c hc
          split at this <;> omega
        obtain ⟨C, gC, fC⟩ := bc_rightValue (sl := sl) (e := e) (π := π) (G := G) (p := bs_cp t m) ht sq dg
        rw [ck_gRv ht hh rin S0.1] at gC
        have cC := fr_q48 cB fC
        have v20 : 0 ≤ bs_cv t (bs_rf t (fun k => vof (gtx σ k)) m) ∧ bs_cv t (bs_rf t (fun k => vof (gtx σ k)) m) < 20 := by omega
        rw [if_neg (show ¬ bi true = 0 by decide), gC, ci_r, qo_char cC.2.1 v20, ci_r]
        exact ⟨fun _ => ⟨C, rfl, cC, lo_trans loB (lo48 fC)⟩, fun q => absurd ⟨a1, a4, a5⟩ q⟩
  · have no : ¬ okCk σ t n := fun q => a1 q.1
    rw [if_neg a1]
    exact ⟨fun q => absurd q no, fun _ => ⟨M, rfl, h, fun _ _ _ => rfl⟩⟩
theorem qo_checkCharacterX {s n : Int} (hs : ¬ (0 ≤ s ∧ s < 3)) : d_E_checkCharacter 16 s n (bM sl π M G e) = rX 2 (bM sl π M G (e + 1)) := by
  rw [d_E_checkCharacter_9 _ _ _ _ en_d, x_E_checkCharacter_eq, qo_sym, if_neg hs]; rfl
end
