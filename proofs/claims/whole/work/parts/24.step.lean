/-! ONE STEP IS SOUND -/
def bz_kth (k i c : Nat) : Bool := decide (c = 1 ∨ c = 2 ∨ c = 3 ∨ c = 4) && decide (bz_ow k = "BarcodeEngine") && decide (bz_hh0 k = []) && Nat.ble 6 (bz_fr k) && Nat.ble 90 (bz_lo0 k) && decide (bz_cs k i = some (.new (bz_ik c), 3)) && decide (decode (bz_b k) (bz_pc k i + 3) = .ok (.dup, 1)) && bz_strs.any fun e => decide (e.1 = "BarcodeEngine") && (decide (c ≠ 4 ∧ decode (bz_b k) (bz_pc k i + 4) = .ok (.ldc e.2.1, 2) ∧ decode (bz_b k) (bz_pc k i + 6) = .ok (.invokespecial (bz_ic c), 3) ∧ decode (bz_b k) (bz_pc k i + 9) = .ok (.athrow, 1)) || decide (decode (bz_b k) (bz_pc k i + 4) = .ok (.ldc_w e.2.1, 3) ∧ decode (bz_b k) (bz_pc k i + 7) = .ok (.invokespecial (bz_ic c), 3) ∧ decode (bz_b k) (bz_pc k i + 10) = .ok (.athrow, 1)))
theorem bz_q_throw {k : Nat} {N : bz_N} {i : Nat} {L : List (Option bz_V)} {st : List bz_V} {μ : bz_M} {c : Nat} (hc : bz_kth k i c = true) (hsum : bz_sum st ≤ 8) : bz_H k N i L st μ (.inr c, sX μ) := by
  unfold bz_kth at hc
  rw [Bool.and_eq_true, Bool.and_eq_true, Bool.and_eq_true, Bool.and_eq_true, Bool.and_eq_true, Bool.and_eq_true, Bool.and_eq_true, decide_eq_true_eq, decide_eq_true_eq, decide_eq_true_eq, decide_eq_true_eq, decide_eq_true_eq] at hc
  obtain ⟨⟨⟨⟨⟨⟨⟨c1, c2⟩, c3⟩, c4⟩, c5⟩, c6⟩, c7⟩, c8⟩ := hc
  obtain ⟨⟨e1, e2, e3⟩, he, h2⟩ := List.any_eq_true.mp c8
  rw [Bool.and_eq_true, Bool.or_eq_true, decide_eq_true_eq, decide_eq_true_eq, decide_eq_true_eq] at h2
  obtain ⟨h3, h4⟩ := h2
  dsimp only at h3 h4
  subst h3
  rcases (show (c = 1 ∨ c = 2 ∨ c = 3) ∨ c = 4 by omega) with q | q
  · exact bz_i_throw q c2 c3 he (Nat.le_of_ble_eq_true c4) (Nat.le_of_ble_eq_true c5) hsum (bz_cs_eq c6) c7 (h4.imp (fun z => z.2) id)
  · subst q
    rcases h4 with h4 | h4
    · exact absurd rfl h4.1
    · exact bz_i_throw4 c2 c3 he (Nat.le_of_ble_eq_true c4) (Nat.le_of_ble_eq_true c5) hsum (bz_cs_eq c6) c7 h4.1 h4.2.1 h4.2.2
def bz_ok1 (k i : Nat) (ins : Instr) : Bool := match ins with
  | .iconst v => bz_kI k i v
  | .bipush v => bz_kL k i v
  | .ldc a => bz_kA k i a
  | .iload j => bz_k_iload k i j
  | .lload j => bz_k_lload k i j
  | .aload j => bz_k_aload k i j
  | .istore j => cond (Nat.ble j 999) (bz_k_istore k i j) (bz_k_astore k i (j - 1000))
  | .lstore j => bz_k_lstore k i j
  | .iinc j c => bz_k_iinc k i j c
  | .iadd => bz_k1 k i .iadd
  | .isub => bz_k1 k i .isub
  | .imul => bz_k1 k i .imul
  | .idiv => bz_k1 k i .idiv
  | .irem => bz_k1 k i .irem
  | .ineg => bz_k1 k i .ineg
  | .iand => bz_k1 k i .iand
  | .ior => bz_k1 k i .ior
  | .ishl => bz_k1 k i .ishl
  | .ishr => bz_k1 k i .ishr
  | .iushr => bz_k1 k i .iushr
  | .ladd => bz_k1 k i .ladd
  | .lsub => bz_k1 k i .lsub
  | .lmul => bz_k1 k i .lmul
  | .ldiv => bz_k1 k i .ldiv
  | .lxor => bz_k1 k i .lxor
  | .lcmp => bz_k1 k i .lcmp
  | .i2l => bz_k1 k i .i2l
  | .l2i => bz_k1 k i .l2i
  | .i2c => bz_k1 k i .i2c
  | .i2b => bz_k1 k i .i2b
  | .dup => bz_k1 k i .dup
  | .pop => bz_k1 k i .pop
  | .dup2 => bz_k1 k i .dup2
  | .iaload => bz_k1 k i .iaload
  | .baload => bz_k1 k i .baload
  | .laload => bz_k1 k i .laload
  | .aaload => bz_k1 k i .aaload
  | .iastore => bz_k1 k i .iastore
  | .bastore => bz_k1 k i .bastore
  | .lastore => bz_k1 k i .lastore
  | .aastore => bz_k1 k i .aastore
  | .arraylength => bz_k1 k i .arraylength
  | .goto o => bz_kgo k i o
  | .ifCond c o => bz_kif k i c o
  | .if_icmp c o => bz_kicmp k i c o
  | .getfield p => cond (Nat.beq p 2801) (bz_kstr k i 2801) (bz_kget k i p 0)
  | .fload p => bz_kget k i p 1
  | .getstatic p => cond (Nat.beq p 2800) (bz_kstr k i 2800) (bz_kget k i p 2)
  | .dload j => bz_kgS k i j
  | .putfield p => bz_kput k i p 0 && decide (bz_tyf (p / 100) (p % 100) = .int)
  | .dstore p => bz_kput k i p 0 && decide (bz_tyf (p / 100) (p % 100) = .boolean)
  | .fstore p => bz_kput k i p 1
  | .astore p => bz_kput k i p 2
  | .putstatic j => bz_kpS k i j
  | .new c => bz_knew k i c
  | .anewarray t => bz_kmk k i t
  | .invokespecial _ => bz_koi k i
  | .invokevirtual q => bz_kc k i q false
  | .checkcast q => bz_kc k i q true
  | .ldc_w c => bz_kth k i c
  | .ireturn => decide (bz_rt k = some .int) && decide (bz_cs k i = some (.ireturn, 1))
  | .dreturn => decide (bz_rt k = some .boolean) && decide (bz_cs k i = some (.ireturn, 1))
  | .freturn => (decide (bz_rt k = some .char) || decide (bz_rt k = some .byte)) && decide (bz_cs k i = some (.ireturn, 1))
  | .lreturn => decide (bz_rt k = some .long) && decide (bz_cs k i = some (.lreturn, 1))
  | .areturn => bz_kty 2 ((bz_rt k).getD .int) && decide (bz_cs k i = some (.areturn, 1))
  | .return_ => decide (bz_rt k = none) && decide (bz_cs k i = some (.return_, 1))
  | .tableswitch d lo hi os => match bz_cs k i with
    | some (.tableswitch cd lo' hi' cs, _) => decide (lo' = lo) && decide (hi' = hi) && bz_to1 k i cd d && bz_tok k i cs.toList os.toList
    | _ => false
  | .lookupswitch d ps => match bz_cs k i with
    | some (.lookupswitch cd cs, _) => (cs.toList.zip (cs.toList.drop 1)).all (fun (a, next) => a.1 < next.1) && bz_to1 k i cd d && bz_lok k i cs.toList ps.toList
    | _ => false
  | _ => true
theorem bz_s_iconst {k : Nat} {N : bz_N} {i : Nat} {L : List (Option bz_V)} {st : List bz_V} {μ : bz_M} {res : bz_R} {v : Int} {rec : bz_X0} {ks : Nat → bz_K} (hc : bz_ok1 k i (.iconst v) = true) (hk : k < bz_KM) (hr : bz_Rc N rec) (hks : bz_Ks k N i ks) (h : bz_step bz_ct bz_mls rec k (.iconst v) ks L st μ = some res) : bz_H k N i L st μ res := by
  exact bz_q_iconst hc (hks 0 _ _ _ _ h)
theorem bz_s_bipush {k : Nat} {N : bz_N} {i : Nat} {L : List (Option bz_V)} {st : List bz_V} {μ : bz_M} {res : bz_R} {v : Int} {rec : bz_X0} {ks : Nat → bz_K} (hc : bz_ok1 k i (.bipush v) = true) (hk : k < bz_KM) (hr : bz_Rc N rec) (hks : bz_Ks k N i ks) (h : bz_step bz_ct bz_mls rec k (.bipush v) ks L st μ = some res) : bz_H k N i L st μ res := by
  exact bz_q_bipush hc (hks 0 _ _ _ _ h)
theorem bz_s_ldc {k : Nat} {N : bz_N} {i : Nat} {L : List (Option bz_V)} {st : List bz_V} {μ : bz_M} {res : bz_R} {a : Nat} {rec : bz_X0} {ks : Nat → bz_K} (hc : bz_ok1 k i (.ldc a) = true) (hk : k < bz_KM) (hr : bz_Rc N rec) (hks : bz_Ks k N i ks) (h : bz_step bz_ct bz_mls rec k (.ldc a) ks L st μ = some res) : bz_H k N i L st μ res := by
  exact bz_q_ldc hc (hks 0 _ _ _ _ h)
theorem bz_s_iload {k : Nat} {N : bz_N} {i : Nat} {L : List (Option bz_V)} {st : List bz_V} {μ : bz_M} {res : bz_R} {j : Nat} {rec : bz_X0} {ks : Nat → bz_K} (hc : bz_ok1 k i (.iload j) = true) (hk : k < bz_KM) (hr : bz_Rc N rec) (hks : bz_Ks k N i ks) (h : bz_step bz_ct bz_mls rec k (.iload j) ks L st μ = some res) : bz_H k N i L st μ res := by
  unfold bz_step at h
  dsimp only at h
  split at h
  · rename_i x hl
    exact bz_q_iload hc hl (hks 0 _ _ _ _ h)
  · cases h
theorem bz_s_lload {k : Nat} {N : bz_N} {i : Nat} {L : List (Option bz_V)} {st : List bz_V} {μ : bz_M} {res : bz_R} {j : Nat} {rec : bz_X0} {ks : Nat → bz_K} (hc : bz_ok1 k i (.lload j) = true) (hk : k < bz_KM) (hr : bz_Rc N rec) (hks : bz_Ks k N i ks) (h : bz_step bz_ct bz_mls rec k (.lload j) ks L st μ = some res) : bz_H k N i L st μ res := by
  unfold bz_step at h
  dsimp only at h
  split at h
  · rename_i x hl
    exact bz_q_lload hc hl (hks 0 _ _ _ _ h)
  · cases h
theorem bz_s_aload {k : Nat} {N : bz_N} {i : Nat} {L : List (Option bz_V)} {st : List bz_V} {μ : bz_M} {res : bz_R} {j : Nat} {rec : bz_X0} {ks : Nat → bz_K} (hc : bz_ok1 k i (.aload j) = true) (hk : k < bz_KM) (hr : bz_Rc N rec) (hks : bz_Ks k N i ks) (h : bz_step bz_ct bz_mls rec k (.aload j) ks L st μ = some res) : bz_H k N i L st μ res := by
  unfold bz_step at h
  dsimp only at h
  split at h
  · rename_i x hl
    exact bz_q_aload hc hl (hks 0 _ _ _ _ h)
  · cases h
theorem bz_s_istore {k : Nat} {N : bz_N} {i : Nat} {L : List (Option bz_V)} {st : List bz_V} {μ : bz_M} {res : bz_R} {j : Nat} {rec : bz_X0} {ks : Nat → bz_K} (hc : bz_ok1 k i (.istore j) = true) (hk : k < bz_KM) (hr : bz_Rc N rec) (hks : bz_Ks k N i ks) (h : bz_step bz_ct bz_mls rec k (.istore j) ks L st μ = some res) : bz_H k N i L st μ res := by
  have hc : cond (Nat.ble j 999) (bz_k_istore k i j) (bz_k_astore k i (j - 1000)) = true := hc
  unfold bz_step at h
  dsimp only at h
  split at h
  · cases hb : Nat.ble j 999 with
    | true => rw [hb] at h hc; exact bz_q_istore hc (hks 0 _ _ _ _ h)
    | false => rw [hb] at h; cases h
  · cases hb : Nat.ble 1000 j with
    | true =>
      have : Nat.ble j 999 = false := by
        cases hq : Nat.ble j 999
        · rfl
        · have := Nat.le_of_ble_eq_true hq
          have := Nat.le_of_ble_eq_true hb
          omega
      rw [this] at hc
      rw [hb] at h
      exact bz_q_astore hc (hks 0 _ _ _ _ h)
    | false => rw [hb] at h; cases h
  · cases h
theorem bz_s_lstore {k : Nat} {N : bz_N} {i : Nat} {L : List (Option bz_V)} {st : List bz_V} {μ : bz_M} {res : bz_R} {j : Nat} {rec : bz_X0} {ks : Nat → bz_K} (hc : bz_ok1 k i (.lstore j) = true) (hk : k < bz_KM) (hr : bz_Rc N rec) (hks : bz_Ks k N i ks) (h : bz_step bz_ct bz_mls rec k (.lstore j) ks L st μ = some res) : bz_H k N i L st μ res := by
  unfold bz_step at h
  dsimp only at h
  split at h
  · exact bz_q_lstore hc (hks 0 _ _ _ _ h)
  · cases h
theorem bz_s_iinc {k : Nat} {N : bz_N} {i : Nat} {L : List (Option bz_V)} {st : List bz_V} {μ : bz_M} {res : bz_R} {j : Nat} {c : Int} {rec : bz_X0} {ks : Nat → bz_K} (hc : bz_ok1 k i (.iinc j c) = true) (hk : k < bz_KM) (hr : bz_Rc N rec) (hks : bz_Ks k N i ks) (h : bz_step bz_ct bz_mls rec k (.iinc j c) ks L st μ = some res) : bz_H k N i L st μ res := by
  unfold bz_step at h
  dsimp only at h
  split at h
  · rename_i x hl
    exact bz_q_iinc hc hl (hks 0 _ _ _ _ h)
  · cases h
theorem bz_s_iadd {k : Nat} {N : bz_N} {i : Nat} {L : List (Option bz_V)} {st : List bz_V} {μ : bz_M} {res : bz_R} {rec : bz_X0} {ks : Nat → bz_K} (hc : bz_ok1 k i (.iadd) = true) (hk : k < bz_KM) (hr : bz_Rc N rec) (hks : bz_Ks k N i ks) (h : bz_step bz_ct bz_mls rec k (.iadd) ks L st μ = some res) : bz_H k N i L st μ res := by
  obtain ⟨c1, c2⟩ := bz_k1_inv hc
  unfold bz_step at h
  dsimp only at h
  split at h
  · exact bz_i_iadd (len := 0) c1 c2 (hks 0 _ _ _ _ h)
  · cases h
theorem bz_s_isub {k : Nat} {N : bz_N} {i : Nat} {L : List (Option bz_V)} {st : List bz_V} {μ : bz_M} {res : bz_R} {rec : bz_X0} {ks : Nat → bz_K} (hc : bz_ok1 k i (.isub) = true) (hk : k < bz_KM) (hr : bz_Rc N rec) (hks : bz_Ks k N i ks) (h : bz_step bz_ct bz_mls rec k (.isub) ks L st μ = some res) : bz_H k N i L st μ res := by
  obtain ⟨c1, c2⟩ := bz_k1_inv hc
  unfold bz_step at h
  dsimp only at h
  split at h
  · exact bz_i_isub (len := 0) c1 c2 (hks 0 _ _ _ _ h)
  · cases h
theorem bz_s_imul {k : Nat} {N : bz_N} {i : Nat} {L : List (Option bz_V)} {st : List bz_V} {μ : bz_M} {res : bz_R} {rec : bz_X0} {ks : Nat → bz_K} (hc : bz_ok1 k i (.imul) = true) (hk : k < bz_KM) (hr : bz_Rc N rec) (hks : bz_Ks k N i ks) (h : bz_step bz_ct bz_mls rec k (.imul) ks L st μ = some res) : bz_H k N i L st μ res := by
  obtain ⟨c1, c2⟩ := bz_k1_inv hc
  unfold bz_step at h
  dsimp only at h
  split at h
  · exact bz_i_imul (len := 0) c1 c2 (hks 0 _ _ _ _ h)
  · cases h
theorem bz_s_iand {k : Nat} {N : bz_N} {i : Nat} {L : List (Option bz_V)} {st : List bz_V} {μ : bz_M} {res : bz_R} {rec : bz_X0} {ks : Nat → bz_K} (hc : bz_ok1 k i (.iand) = true) (hk : k < bz_KM) (hr : bz_Rc N rec) (hks : bz_Ks k N i ks) (h : bz_step bz_ct bz_mls rec k (.iand) ks L st μ = some res) : bz_H k N i L st μ res := by
  obtain ⟨c1, c2⟩ := bz_k1_inv hc
  unfold bz_step at h
  dsimp only at h
  split at h
  · exact bz_i_iand (len := 0) c1 c2 (hks 0 _ _ _ _ h)
  · cases h
theorem bz_s_ior {k : Nat} {N : bz_N} {i : Nat} {L : List (Option bz_V)} {st : List bz_V} {μ : bz_M} {res : bz_R} {rec : bz_X0} {ks : Nat → bz_K} (hc : bz_ok1 k i (.ior) = true) (hk : k < bz_KM) (hr : bz_Rc N rec) (hks : bz_Ks k N i ks) (h : bz_step bz_ct bz_mls rec k (.ior) ks L st μ = some res) : bz_H k N i L st μ res := by
  obtain ⟨c1, c2⟩ := bz_k1_inv hc
  unfold bz_step at h
  dsimp only at h
  split at h
  · exact bz_i_ior (len := 0) c1 c2 (hks 0 _ _ _ _ h)
  · cases h
theorem bz_s_ishl {k : Nat} {N : bz_N} {i : Nat} {L : List (Option bz_V)} {st : List bz_V} {μ : bz_M} {res : bz_R} {rec : bz_X0} {ks : Nat → bz_K} (hc : bz_ok1 k i (.ishl) = true) (hk : k < bz_KM) (hr : bz_Rc N rec) (hks : bz_Ks k N i ks) (h : bz_step bz_ct bz_mls rec k (.ishl) ks L st μ = some res) : bz_H k N i L st μ res := by
  obtain ⟨c1, c2⟩ := bz_k1_inv hc
  unfold bz_step at h
  dsimp only at h
  split at h
  · exact bz_i_ishl (len := 0) c1 c2 (hks 0 _ _ _ _ h)
  · cases h
theorem bz_s_ishr {k : Nat} {N : bz_N} {i : Nat} {L : List (Option bz_V)} {st : List bz_V} {μ : bz_M} {res : bz_R} {rec : bz_X0} {ks : Nat → bz_K} (hc : bz_ok1 k i (.ishr) = true) (hk : k < bz_KM) (hr : bz_Rc N rec) (hks : bz_Ks k N i ks) (h : bz_step bz_ct bz_mls rec k (.ishr) ks L st μ = some res) : bz_H k N i L st μ res := by
  obtain ⟨c1, c2⟩ := bz_k1_inv hc
  unfold bz_step at h
  dsimp only at h
  split at h
  · exact bz_i_ishr (len := 0) c1 c2 (hks 0 _ _ _ _ h)
  · cases h
theorem bz_s_iushr {k : Nat} {N : bz_N} {i : Nat} {L : List (Option bz_V)} {st : List bz_V} {μ : bz_M} {res : bz_R} {rec : bz_X0} {ks : Nat → bz_K} (hc : bz_ok1 k i (.iushr) = true) (hk : k < bz_KM) (hr : bz_Rc N rec) (hks : bz_Ks k N i ks) (h : bz_step bz_ct bz_mls rec k (.iushr) ks L st μ = some res) : bz_H k N i L st μ res := by
  obtain ⟨c1, c2⟩ := bz_k1_inv hc
  unfold bz_step at h
  dsimp only at h
  split at h
  · exact bz_i_iushr (len := 0) c1 c2 (hks 0 _ _ _ _ h)
  · cases h
theorem bz_s_ladd {k : Nat} {N : bz_N} {i : Nat} {L : List (Option bz_V)} {st : List bz_V} {μ : bz_M} {res : bz_R} {rec : bz_X0} {ks : Nat → bz_K} (hc : bz_ok1 k i (.ladd) = true) (hk : k < bz_KM) (hr : bz_Rc N rec) (hks : bz_Ks k N i ks) (h : bz_step bz_ct bz_mls rec k (.ladd) ks L st μ = some res) : bz_H k N i L st μ res := by
  obtain ⟨c1, c2⟩ := bz_k1_inv hc
  unfold bz_step at h
  dsimp only at h
  split at h
  · exact bz_i_ladd (len := 0) c1 c2 (hks 0 _ _ _ _ h)
  · cases h
theorem bz_s_lsub {k : Nat} {N : bz_N} {i : Nat} {L : List (Option bz_V)} {st : List bz_V} {μ : bz_M} {res : bz_R} {rec : bz_X0} {ks : Nat → bz_K} (hc : bz_ok1 k i (.lsub) = true) (hk : k < bz_KM) (hr : bz_Rc N rec) (hks : bz_Ks k N i ks) (h : bz_step bz_ct bz_mls rec k (.lsub) ks L st μ = some res) : bz_H k N i L st μ res := by
  obtain ⟨c1, c2⟩ := bz_k1_inv hc
  unfold bz_step at h
  dsimp only at h
  split at h
  · exact bz_i_lsub (len := 0) c1 c2 (hks 0 _ _ _ _ h)
  · cases h
theorem bz_s_lmul {k : Nat} {N : bz_N} {i : Nat} {L : List (Option bz_V)} {st : List bz_V} {μ : bz_M} {res : bz_R} {rec : bz_X0} {ks : Nat → bz_K} (hc : bz_ok1 k i (.lmul) = true) (hk : k < bz_KM) (hr : bz_Rc N rec) (hks : bz_Ks k N i ks) (h : bz_step bz_ct bz_mls rec k (.lmul) ks L st μ = some res) : bz_H k N i L st μ res := by
  obtain ⟨c1, c2⟩ := bz_k1_inv hc
  unfold bz_step at h
  dsimp only at h
  split at h
  · exact bz_i_lmul (len := 0) c1 c2 (hks 0 _ _ _ _ h)
  · cases h
theorem bz_s_lxor {k : Nat} {N : bz_N} {i : Nat} {L : List (Option bz_V)} {st : List bz_V} {μ : bz_M} {res : bz_R} {rec : bz_X0} {ks : Nat → bz_K} (hc : bz_ok1 k i (.lxor) = true) (hk : k < bz_KM) (hr : bz_Rc N rec) (hks : bz_Ks k N i ks) (h : bz_step bz_ct bz_mls rec k (.lxor) ks L st μ = some res) : bz_H k N i L st μ res := by
  obtain ⟨c1, c2⟩ := bz_k1_inv hc
  unfold bz_step at h
  dsimp only at h
  split at h
  · exact bz_i_lxor (len := 0) c1 c2 (hks 0 _ _ _ _ h)
  · cases h
theorem bz_s_lcmp {k : Nat} {N : bz_N} {i : Nat} {L : List (Option bz_V)} {st : List bz_V} {μ : bz_M} {res : bz_R} {rec : bz_X0} {ks : Nat → bz_K} (hc : bz_ok1 k i (.lcmp) = true) (hk : k < bz_KM) (hr : bz_Rc N rec) (hks : bz_Ks k N i ks) (h : bz_step bz_ct bz_mls rec k (.lcmp) ks L st μ = some res) : bz_H k N i L st μ res := by
  obtain ⟨c1, c2⟩ := bz_k1_inv hc
  unfold bz_step at h
  dsimp only at h
  split at h
  · exact bz_i_lcmp (len := 0) c1 c2 (hks 0 _ _ _ _ h)
  · cases h
theorem bz_s_ineg {k : Nat} {N : bz_N} {i : Nat} {L : List (Option bz_V)} {st : List bz_V} {μ : bz_M} {res : bz_R} {rec : bz_X0} {ks : Nat → bz_K} (hc : bz_ok1 k i (.ineg) = true) (hk : k < bz_KM) (hr : bz_Rc N rec) (hks : bz_Ks k N i ks) (h : bz_step bz_ct bz_mls rec k (.ineg) ks L st μ = some res) : bz_H k N i L st μ res := by
  obtain ⟨c1, c2⟩ := bz_k1_inv hc
  unfold bz_step at h
  dsimp only at h
  split at h
  · exact bz_i_ineg (len := 0) c1 c2 (hks 0 _ _ _ _ h)
  · cases h
theorem bz_s_i2l {k : Nat} {N : bz_N} {i : Nat} {L : List (Option bz_V)} {st : List bz_V} {μ : bz_M} {res : bz_R} {rec : bz_X0} {ks : Nat → bz_K} (hc : bz_ok1 k i (.i2l) = true) (hk : k < bz_KM) (hr : bz_Rc N rec) (hks : bz_Ks k N i ks) (h : bz_step bz_ct bz_mls rec k (.i2l) ks L st μ = some res) : bz_H k N i L st μ res := by
  obtain ⟨c1, c2⟩ := bz_k1_inv hc
  unfold bz_step at h
  dsimp only at h
  split at h
  · exact bz_i_i2l (len := 0) c1 c2 (hks 0 _ _ _ _ h)
  · cases h
theorem bz_s_l2i {k : Nat} {N : bz_N} {i : Nat} {L : List (Option bz_V)} {st : List bz_V} {μ : bz_M} {res : bz_R} {rec : bz_X0} {ks : Nat → bz_K} (hc : bz_ok1 k i (.l2i) = true) (hk : k < bz_KM) (hr : bz_Rc N rec) (hks : bz_Ks k N i ks) (h : bz_step bz_ct bz_mls rec k (.l2i) ks L st μ = some res) : bz_H k N i L st μ res := by
  obtain ⟨c1, c2⟩ := bz_k1_inv hc
  unfold bz_step at h
  dsimp only at h
  split at h
  · exact bz_i_l2i (len := 0) c1 c2 (hks 0 _ _ _ _ h)
  · cases h
theorem bz_s_i2c {k : Nat} {N : bz_N} {i : Nat} {L : List (Option bz_V)} {st : List bz_V} {μ : bz_M} {res : bz_R} {rec : bz_X0} {ks : Nat → bz_K} (hc : bz_ok1 k i (.i2c) = true) (hk : k < bz_KM) (hr : bz_Rc N rec) (hks : bz_Ks k N i ks) (h : bz_step bz_ct bz_mls rec k (.i2c) ks L st μ = some res) : bz_H k N i L st μ res := by
  obtain ⟨c1, c2⟩ := bz_k1_inv hc
  unfold bz_step at h
  dsimp only at h
  split at h
  · exact bz_i_i2c (len := 0) c1 c2 (hks 0 _ _ _ _ h)
  · cases h
theorem bz_s_i2b {k : Nat} {N : bz_N} {i : Nat} {L : List (Option bz_V)} {st : List bz_V} {μ : bz_M} {res : bz_R} {rec : bz_X0} {ks : Nat → bz_K} (hc : bz_ok1 k i (.i2b) = true) (hk : k < bz_KM) (hr : bz_Rc N rec) (hks : bz_Ks k N i ks) (h : bz_step bz_ct bz_mls rec k (.i2b) ks L st μ = some res) : bz_H k N i L st μ res := by
  obtain ⟨c1, c2⟩ := bz_k1_inv hc
  unfold bz_step at h
  dsimp only at h
  split at h
  · exact bz_i_i2b (len := 0) c1 c2 (hks 0 _ _ _ _ h)
  · cases h
theorem bz_s_idiv {k : Nat} {N : bz_N} {i : Nat} {L : List (Option bz_V)} {st : List bz_V} {μ : bz_M} {res : bz_R} {rec : bz_X0} {ks : Nat → bz_K} (hc : bz_ok1 k i (.idiv) = true) (hk : k < bz_KM) (hr : bz_Rc N rec) (hks : bz_Ks k N i ks) (h : bz_step bz_ct bz_mls rec k (.idiv) ks L st μ = some res) : bz_H k N i L st μ res := by
  obtain ⟨c1, c2⟩ := bz_k1_inv hc
  unfold bz_step at h
  dsimp only at h
  split at h
  · unfold bz_dv at h
    split at h
    · cases h
    · rename_i hy
      exact bz_i_idiv (len := 0) hy c1 c2 (hks 0 _ _ _ _ h)
  · cases h
theorem bz_s_irem {k : Nat} {N : bz_N} {i : Nat} {L : List (Option bz_V)} {st : List bz_V} {μ : bz_M} {res : bz_R} {rec : bz_X0} {ks : Nat → bz_K} (hc : bz_ok1 k i (.irem) = true) (hk : k < bz_KM) (hr : bz_Rc N rec) (hks : bz_Ks k N i ks) (h : bz_step bz_ct bz_mls rec k (.irem) ks L st μ = some res) : bz_H k N i L st μ res := by
  obtain ⟨c1, c2⟩ := bz_k1_inv hc
  unfold bz_step at h
  dsimp only at h
  split at h
  · unfold bz_rm at h
    split at h
    · cases h
    · rename_i hy
      exact bz_i_irem (len := 0) hy c1 c2 (hks 0 _ _ _ _ h)
  · cases h
theorem bz_s_ldiv {k : Nat} {N : bz_N} {i : Nat} {L : List (Option bz_V)} {st : List bz_V} {μ : bz_M} {res : bz_R} {rec : bz_X0} {ks : Nat → bz_K} (hc : bz_ok1 k i (.ldiv) = true) (hk : k < bz_KM) (hr : bz_Rc N rec) (hks : bz_Ks k N i ks) (h : bz_step bz_ct bz_mls rec k (.ldiv) ks L st μ = some res) : bz_H k N i L st μ res := by
  obtain ⟨c1, c2⟩ := bz_k1_inv hc
  unfold bz_step at h
  dsimp only at h
  split at h
  · unfold bz_ld at h
    split at h
    · cases h
    · rename_i hy
      exact bz_i_ldiv (len := 0) hy c1 c2 (hks 0 _ _ _ _ h)
  · cases h
theorem bz_s_dup {k : Nat} {N : bz_N} {i : Nat} {L : List (Option bz_V)} {st : List bz_V} {μ : bz_M} {res : bz_R} {rec : bz_X0} {ks : Nat → bz_K} (hc : bz_ok1 k i (.dup) = true) (hk : k < bz_KM) (hr : bz_Rc N rec) (hks : bz_Ks k N i ks) (h : bz_step bz_ct bz_mls rec k (.dup) ks L st μ = some res) : bz_H k N i L st μ res := by
  obtain ⟨c1, c2⟩ := bz_k1_inv hc
  unfold bz_step at h
  dsimp only at h
  split at h
  · exact bz_i_dup (len := 0) rfl c1 c2 (hks 0 _ _ _ _ h)
  · exact bz_i_dup (len := 0) rfl c1 c2 (hks 0 _ _ _ _ h)
  · cases h
theorem bz_s_pop {k : Nat} {N : bz_N} {i : Nat} {L : List (Option bz_V)} {st : List bz_V} {μ : bz_M} {res : bz_R} {rec : bz_X0} {ks : Nat → bz_K} (hc : bz_ok1 k i (.pop) = true) (hk : k < bz_KM) (hr : bz_Rc N rec) (hks : bz_Ks k N i ks) (h : bz_step bz_ct bz_mls rec k (.pop) ks L st μ = some res) : bz_H k N i L st μ res := by
  obtain ⟨c1, c2⟩ := bz_k1_inv hc
  unfold bz_step at h
  dsimp only at h
  split at h
  · exact bz_i_pop (len := 0) rfl c1 c2 (hks 0 _ _ _ _ h)
  · exact bz_i_pop (len := 0) rfl c1 c2 (hks 0 _ _ _ _ h)
  · cases h
theorem bz_s_dup2 {k : Nat} {N : bz_N} {i : Nat} {L : List (Option bz_V)} {st : List bz_V} {μ : bz_M} {res : bz_R} {rec : bz_X0} {ks : Nat → bz_K} (hc : bz_ok1 k i (.dup2) = true) (hk : k < bz_KM) (hr : bz_Rc N rec) (hks : bz_Ks k N i ks) (h : bz_step bz_ct bz_mls rec k (.dup2) ks L st μ = some res) : bz_H k N i L st μ res := by
  obtain ⟨c1, c2⟩ := bz_k1_inv hc
  unfold bz_step at h
  dsimp only at h
  split at h
  · exact bz_i_dup2 (len := 0) rfl rfl c1 c2 (hks 0 _ _ _ _ h)
  · cases h
theorem bz_s_iaload {k : Nat} {N : bz_N} {i : Nat} {L : List (Option bz_V)} {st : List bz_V} {μ : bz_M} {res : bz_R} {rec : bz_X0} {ks : Nat → bz_K} (hc : bz_ok1 k i (.iaload) = true) (hk : k < bz_KM) (hr : bz_Rc N rec) (hks : bz_Ks k N i ks) (h : bz_step bz_ct bz_mls rec k (.iaload) ks L st μ = some res) : bz_H k N i L st μ res := by
  obtain ⟨c1, c2⟩ := bz_k1_inv hc
  unfold bz_step at h
  dsimp only at h
  split at h
  · unfold bz_rI at h
    split at h
    · rename_i g
      obtain ⟨g1, g2, g3⟩ := g
      rcases g1 with g1 | g1
      · exact bz_i_iald g1 g2 g3 c1 c2 (hks 0 _ _ _ _ h)
      · exact bz_i_iald2 g1 g2 g3 c1 c2 (hks 0 _ _ _ _ h)
    · cases h
  · cases h
theorem bz_s_baload {k : Nat} {N : bz_N} {i : Nat} {L : List (Option bz_V)} {st : List bz_V} {μ : bz_M} {res : bz_R} {rec : bz_X0} {ks : Nat → bz_K} (hc : bz_ok1 k i (.baload) = true) (hk : k < bz_KM) (hr : bz_Rc N rec) (hks : bz_Ks k N i ks) (h : bz_step bz_ct bz_mls rec k (.baload) ks L st μ = some res) : bz_H k N i L st μ res := by
  obtain ⟨c1, c2⟩ := bz_k1_inv hc
  unfold bz_step at h
  dsimp only at h
  split at h
  · unfold bz_rB at h
    split at h
    · rename_i g
      obtain ⟨g1, g2, g3⟩ := g
      rcases g1 with g1 | g1
      · exact bz_i_zald g1 g2 g3 c1 c2 (hks 0 _ _ _ _ h)
      · exact bz_i_bald2 g1 g2 g3 c1 c2 (hks 0 _ _ _ _ h)
    · cases h
  · cases h
theorem bz_s_laload {k : Nat} {N : bz_N} {i : Nat} {L : List (Option bz_V)} {st : List bz_V} {μ : bz_M} {res : bz_R} {rec : bz_X0} {ks : Nat → bz_K} (hc : bz_ok1 k i (.laload) = true) (hk : k < bz_KM) (hr : bz_Rc N rec) (hks : bz_Ks k N i ks) (h : bz_step bz_ct bz_mls rec k (.laload) ks L st μ = some res) : bz_H k N i L st μ res := by
  obtain ⟨c1, c2⟩ := bz_k1_inv hc
  unfold bz_step at h
  dsimp only at h
  split at h
  · unfold bz_rL at h
    split at h
    · rename_i g0
      obtain ⟨g1, g2, g3⟩ := g0
      exact bz_i_lald g1 g2 g3 c1 c2 (hks 0 _ _ _ _ h)
    · cases h
  · cases h
theorem bz_s_aaload {k : Nat} {N : bz_N} {i : Nat} {L : List (Option bz_V)} {st : List bz_V} {μ : bz_M} {res : bz_R} {rec : bz_X0} {ks : Nat → bz_K} (hc : bz_ok1 k i (.aaload) = true) (hk : k < bz_KM) (hr : bz_Rc N rec) (hks : bz_Ks k N i ks) (h : bz_step bz_ct bz_mls rec k (.aaload) ks L st μ = some res) : bz_H k N i L st μ res := by
  obtain ⟨c1, c2⟩ := bz_k1_inv hc
  unfold bz_step at h
  dsimp only at h
  split at h
  · unfold bz_rR at h
    split at h
    · rename_i g0
      obtain ⟨g1, ⟨g2, g3⟩, g4⟩ := g0
      exact bz_i_aald rfl g1 g2 g3 g4 c1 c2 (hks 0 _ _ _ _ h)
    · cases h
  · cases h
theorem bz_s_iastore {k : Nat} {N : bz_N} {i : Nat} {L : List (Option bz_V)} {st : List bz_V} {μ : bz_M} {res : bz_R} {rec : bz_X0} {ks : Nat → bz_K} (hc : bz_ok1 k i (.iastore) = true) (hk : k < bz_KM) (hr : bz_Rc N rec) (hks : bz_Ks k N i ks) (h : bz_step bz_ct bz_mls rec k (.iastore) ks L st μ = some res) : bz_H k N i L st μ res := by
  obtain ⟨c1, c2⟩ := bz_k1_inv hc
  unfold bz_step at h
  dsimp only at h
  split at h
  · unfold bz_wI at h
    split at h
    · rename_i g0
      obtain ⟨g1, g2, g3⟩ := g0
      exact bz_i_iast g1 g2 g3 c1 c2 (hks 0 _ _ _ _ h)
    · cases h
  · cases h
theorem bz_s_bastore {k : Nat} {N : bz_N} {i : Nat} {L : List (Option bz_V)} {st : List bz_V} {μ : bz_M} {res : bz_R} {rec : bz_X0} {ks : Nat → bz_K} (hc : bz_ok1 k i (.bastore) = true) (hk : k < bz_KM) (hr : bz_Rc N rec) (hks : bz_Ks k N i ks) (h : bz_step bz_ct bz_mls rec k (.bastore) ks L st μ = some res) : bz_H k N i L st μ res := by
  obtain ⟨c1, c2⟩ := bz_k1_inv hc
  unfold bz_step at h
  dsimp only at h
  split at h
  · unfold bz_wB at h
    split at h
    · rename_i g0
      obtain ⟨g1, ⟨g2, g3⟩, g4⟩ := g0
      exact bz_i_zast g1 g2 g3 g4 c1 c2 (hks 0 _ _ _ _ h)
    · cases h
  · cases h
theorem bz_s_lastore {k : Nat} {N : bz_N} {i : Nat} {L : List (Option bz_V)} {st : List bz_V} {μ : bz_M} {res : bz_R} {rec : bz_X0} {ks : Nat → bz_K} (hc : bz_ok1 k i (.lastore) = true) (hk : k < bz_KM) (hr : bz_Rc N rec) (hks : bz_Ks k N i ks) (h : bz_step bz_ct bz_mls rec k (.lastore) ks L st μ = some res) : bz_H k N i L st μ res := by
  obtain ⟨c1, c2⟩ := bz_k1_inv hc
  unfold bz_step at h
  dsimp only at h
  split at h
  · unfold bz_wL at h
    split at h
    · rename_i g0
      obtain ⟨g1, g2, g3⟩ := g0
      exact bz_i_last g1 g2 g3 c1 c2 (hks 0 _ _ _ _ h)
    · cases h
  · cases h
theorem bz_s_aastore {k : Nat} {N : bz_N} {i : Nat} {L : List (Option bz_V)} {st : List bz_V} {μ : bz_M} {res : bz_R} {rec : bz_X0} {ks : Nat → bz_K} (hc : bz_ok1 k i (.aastore) = true) (hk : k < bz_KM) (hr : bz_Rc N rec) (hks : bz_Ks k N i ks) (h : bz_step bz_ct bz_mls rec k (.aastore) ks L st μ = some res) : bz_H k N i L st μ res := by
  obtain ⟨c1, c2⟩ := bz_k1_inv hc
  unfold bz_step at h
  dsimp only at h
  split at h
  · unfold bz_wR at h
    split at h
    · rename_i g0
      obtain ⟨g1, g2, g3⟩ := g0
      exact bz_i_aast rfl g1 g2 g3 c1 c2 (hks 0 _ _ _ _ h)
    · cases h
  · cases h
theorem bz_s_arraylength {k : Nat} {N : bz_N} {i : Nat} {L : List (Option bz_V)} {st : List bz_V} {μ : bz_M} {res : bz_R} {rec : bz_X0} {ks : Nat → bz_K} (hc : bz_ok1 k i (.arraylength) = true) (hk : k < bz_KM) (hr : bz_Rc N rec) (hks : bz_Ks k N i ks) (h : bz_step bz_ct bz_mls rec k (.arraylength) ks L st μ = some res) : bz_H k N i L st μ res := by
  obtain ⟨c1, c2⟩ := bz_k1_inv hc
  unfold bz_step at h
  dsimp only at h
  split at h
  · unfold bz_al at h
    split at h
    · rename_i g0
      exact bz_i_alen g0 c1 c2 (hks 0 _ _ _ _ h)
    · cases h
  · cases h
theorem bz_s_goto {k : Nat} {N : bz_N} {i : Nat} {L : List (Option bz_V)} {st : List bz_V} {μ : bz_M} {res : bz_R} {o : Int} {rec : bz_X0} {ks : Nat → bz_K} (hc : bz_ok1 k i (.goto o) = true) (hk : k < bz_KM) (hr : bz_Rc N rec) (hks : bz_Ks k N i ks) (h : bz_step bz_ct bz_mls rec k (.goto o) ks L st μ = some res) : bz_H k N i L st μ res := by
  exact bz_q_goto hc (bz_j_ok hk hr hks h)
theorem bz_s_if {k : Nat} {N : bz_N} {i : Nat} {L : List (Option bz_V)} {st : List bz_V} {μ : bz_M} {res : bz_R} {c : ClassFile.Cond} {o : Int} {rec : bz_X0} {ks : Nat → bz_K} (hc : bz_ok1 k i (.ifCond c o) = true) (hk : k < bz_KM) (hr : bz_Rc N rec) (hks : bz_Ks k N i ks) (h : bz_step bz_ct bz_mls rec k (.ifCond c o) ks L st μ = some res) : bz_H k N i L st μ res := by
  unfold bz_step at h
  dsimp only at h
  split at h
  · exact bz_q_if hc h (fun z => bz_j_ok hk hr hks z) (fun z => hks 0 _ _ _ _ z)
  · cases h
theorem bz_s_icmp {k : Nat} {N : bz_N} {i : Nat} {L : List (Option bz_V)} {st : List bz_V} {μ : bz_M} {res : bz_R} {c : ClassFile.Cond} {o : Int} {rec : bz_X0} {ks : Nat → bz_K} (hc : bz_ok1 k i (.if_icmp c o) = true) (hk : k < bz_KM) (hr : bz_Rc N rec) (hks : bz_Ks k N i ks) (h : bz_step bz_ct bz_mls rec k (.if_icmp c o) ks L st μ = some res) : bz_H k N i L st μ res := by
  unfold bz_step at h
  dsimp only at h
  split at h
  · exact bz_q_icmp hc h (fun z => bz_j_ok hk hr hks z) (fun z => hks 0 _ _ _ _ z)
  · cases h
theorem bz_s_getfield {k : Nat} {N : bz_N} {i : Nat} {L : List (Option bz_V)} {st : List bz_V} {μ : bz_M} {res : bz_R} {p : Nat} {rec : bz_X0} {ks : Nat → bz_K} (hc : bz_ok1 k i (.getfield p) = true) (hk : k < bz_KM) (hr : bz_Rc N rec) (hks : bz_Ks k N i ks) (h : bz_step bz_ct bz_mls rec k (.getfield p) ks L st μ = some res) : bz_H k N i L st μ res := by
  have hc : cond (Nat.beq p 2801) (bz_kstr k i 2801) (bz_kget k i p 0) = true := hc
  unfold bz_step at h
  dsimp only at h
  split at h
  · unfold bz_fI at h
    split at h
    · rename_i g
      cases hb : Nat.beq p 2801 with
      | true =>
        have e := Nat.eq_of_beq_eq_true hb
        subst e
        rw [hb] at hc
        exact bz_q_strC hc g (hks 0 _ _ _ _ h)
      | false =>
        rw [hb] at hc
        exact bz_q_getfield hc g (hks 0 _ _ _ _ h)
    · cases h
  · cases h
theorem bz_s_getref {k : Nat} {N : bz_N} {i : Nat} {L : List (Option bz_V)} {st : List bz_V} {μ : bz_M} {res : bz_R} {p : Nat} {rec : bz_X0} {ks : Nat → bz_K} (hc : bz_ok1 k i (.getstatic p) = true) (hk : k < bz_KM) (hr : bz_Rc N rec) (hks : bz_Ks k N i ks) (h : bz_step bz_ct bz_mls rec k (.getstatic p) ks L st μ = some res) : bz_H k N i L st μ res := by
  have hc : cond (Nat.beq p 2800) (bz_kstr k i 2800) (bz_kget k i p 2) = true := hc
  unfold bz_step at h
  dsimp only at h
  split at h
  · unfold bz_fR at h
    split at h
    · rename_i g
      cases hb : Nat.beq p 2800 with
      | true =>
        have e := Nat.eq_of_beq_eq_true hb
        subst e
        rw [hb] at hc
        exact bz_q_strV hc g.1 g.2 (hks 0 _ _ _ _ h)
      | false =>
        rw [hb] at hc
        exact bz_q_getref hc g.1 g.2 (hks 0 _ _ _ _ h)
    · cases h
  · cases h
theorem bz_s_fload {k : Nat} {N : bz_N} {i : Nat} {L : List (Option bz_V)} {st : List bz_V} {μ : bz_M} {res : bz_R} {p : Nat} {rec : bz_X0} {ks : Nat → bz_K} (hc : bz_ok1 k i (.fload p) = true) (hk : k < bz_KM) (hr : bz_Rc N rec) (hks : bz_Ks k N i ks) (h : bz_step bz_ct bz_mls rec k (.fload p) ks L st μ = some res) : bz_H k N i L st μ res := by
  unfold bz_step at h
  dsimp only at h
  split at h
  · unfold bz_fL at h
    split at h
    · rename_i g
      exact bz_q_fload hc g (hks 0 _ _ _ _ h)
    · cases h
  · cases h
theorem bz_s_dload {k : Nat} {N : bz_N} {i : Nat} {L : List (Option bz_V)} {st : List bz_V} {μ : bz_M} {res : bz_R} {j : Nat} {rec : bz_X0} {ks : Nat → bz_K} (hc : bz_ok1 k i (.dload j) = true) (hk : k < bz_KM) (hr : bz_Rc N rec) (hks : bz_Ks k N i ks) (h : bz_step bz_ct bz_mls rec k (.dload j) ks L st μ = some res) : bz_H k N i L st μ res := by
  unfold bz_step at h
  dsimp only at h
  split at h
  · unfold bz_fS at h
    split at h
    · rename_i g
      exact bz_q_dload hc g (hks 0 _ _ _ _ h)
    · cases h
  · cases h
theorem bz_s_putS {k : Nat} {N : bz_N} {i : Nat} {L : List (Option bz_V)} {st : List bz_V} {μ : bz_M} {res : bz_R} {j : Nat} {rec : bz_X0} {ks : Nat → bz_K} (hc : bz_ok1 k i (.putstatic j) = true) (hk : k < bz_KM) (hr : bz_Rc N rec) (hks : bz_Ks k N i ks) (h : bz_step bz_ct bz_mls rec k (.putstatic j) ks L st μ = some res) : bz_H k N i L st μ res := by
  unfold bz_step at h
  dsimp only at h
  split at h
  · unfold bz_pS at h
    split at h
    · rename_i g
      exact bz_q_putS hc g (hks 0 _ _ _ _ h)
    · cases h
  · cases h
theorem bz_s_putfield {k : Nat} {N : bz_N} {i : Nat} {L : List (Option bz_V)} {st : List bz_V} {μ : bz_M} {res : bz_R} {p : Nat} {rec : bz_X0} {ks : Nat → bz_K} (hc : bz_ok1 k i (.putfield p) = true) (hk : k < bz_KM) (hr : bz_Rc N rec) (hks : bz_Ks k N i ks) (h : bz_step bz_ct bz_mls rec k (.putfield p) ks L st μ = some res) : bz_H k N i L st μ res := by
  have hc : (bz_kput k i p 0 && decide (bz_tyf (p / 100) (p % 100) = .int)) = true := hc
  rw [Bool.and_eq_true, decide_eq_true_eq] at hc
  unfold bz_step at h
  dsimp only at h
  split at h
  · unfold bz_pI at h
    split at h
    · rename_i g
      exact bz_q_putfield hc.1 g hc.2 (hks 0 _ _ _ _ h)
    · cases h
  · cases h
theorem bz_s_dstore {k : Nat} {N : bz_N} {i : Nat} {L : List (Option bz_V)} {st : List bz_V} {μ : bz_M} {res : bz_R} {p : Nat} {rec : bz_X0} {ks : Nat → bz_K} (hc : bz_ok1 k i (.dstore p) = true) (hk : k < bz_KM) (hr : bz_Rc N rec) (hks : bz_Ks k N i ks) (h : bz_step bz_ct bz_mls rec k (.dstore p) ks L st μ = some res) : bz_H k N i L st μ res := by
  have hc : (bz_kput k i p 0 && decide (bz_tyf (p / 100) (p % 100) = .boolean)) = true := hc
  rw [Bool.and_eq_true, decide_eq_true_eq] at hc
  unfold bz_step at h
  dsimp only at h
  split at h
  · unfold bz_pB at h
    split at h
    · rename_i g
      exact bz_q_dstore hc.1 g.1 hc.2 g.2 (hks 0 _ _ _ _ h)
    · cases h
  · cases h
theorem bz_s_fstore {k : Nat} {N : bz_N} {i : Nat} {L : List (Option bz_V)} {st : List bz_V} {μ : bz_M} {res : bz_R} {p : Nat} {rec : bz_X0} {ks : Nat → bz_K} (hc : bz_ok1 k i (.fstore p) = true) (hk : k < bz_KM) (hr : bz_Rc N rec) (hks : bz_Ks k N i ks) (h : bz_step bz_ct bz_mls rec k (.fstore p) ks L st μ = some res) : bz_H k N i L st μ res := by
  unfold bz_step at h
  dsimp only at h
  split at h
  · unfold bz_pL at h
    split at h
    · rename_i g
      exact bz_q_fstore hc g (hks 0 _ _ _ _ h)
    · cases h
  · cases h
theorem bz_s_putref {k : Nat} {N : bz_N} {i : Nat} {L : List (Option bz_V)} {st : List bz_V} {μ : bz_M} {res : bz_R} {p : Nat} {rec : bz_X0} {ks : Nat → bz_K} (hc : bz_ok1 k i (.astore p) = true) (hk : k < bz_KM) (hr : bz_Rc N rec) (hks : bz_Ks k N i ks) (h : bz_step bz_ct bz_mls rec k (.astore p) ks L st μ = some res) : bz_H k N i L st μ res := by
  unfold bz_step at h
  dsimp only at h
  split at h
  · unfold bz_pR at h
    split at h
    · rename_i g
      exact bz_q_putref hc g.1 g.2 (hks 0 _ _ _ _ h)
    · cases h
  · cases h
theorem bz_s_new {k : Nat} {N : bz_N} {i : Nat} {L : List (Option bz_V)} {st : List bz_V} {μ : bz_M} {res : bz_R} {c : Nat} {rec : bz_X0} {ks : Nat → bz_K} (hc : bz_ok1 k i (.new c) = true) (hk : k < bz_KM) (hr : bz_Rc N rec) (hks : bz_Ks k N i ks) (h : bz_step bz_ct bz_mls rec k (.new c) ks L st μ = some res) : bz_H k N i L st μ res := by
  have h : bz_nw μ c (fun a μ => ks 0 L (zR a :: st) μ) = some res := h
  unfold bz_nw at h
  split at h
  · rename_i g
    exact bz_q_new hc g (hks 0 _ _ _ _ h)
  · cases h
theorem bz_s_mk {k : Nat} {N : bz_N} {i : Nat} {L : List (Option bz_V)} {st : List bz_V} {μ : bz_M} {res : bz_R} {t : Nat} {rec : bz_X0} {ks : Nat → bz_K} (hc : bz_ok1 k i (.anewarray t) = true) (hk : k < bz_KM) (hr : bz_Rc N rec) (hks : bz_Ks k N i ks) (h : bz_step bz_ct bz_mls rec k (.anewarray t) ks L st μ = some res) : bz_H k N i L st μ res := by
  unfold bz_step at h
  dsimp only at h
  split at h
  · unfold bz_na at h
    split at h
    · rename_i g
      exact bz_q_mk hc g.1 g.2.1 g.2.2 (hks 0 _ _ _ _ h)
    · cases h
  · cases h
theorem bz_s_oinit {k : Nat} {N : bz_N} {i : Nat} {L : List (Option bz_V)} {st : List bz_V} {μ : bz_M} {res : bz_R} {j : Nat} {rec : bz_X0} {ks : Nat → bz_K} (hc : bz_ok1 k i (.invokespecial j) = true) (hk : k < bz_KM) (hr : bz_Rc N rec) (hks : bz_Ks k N i ks) (h : bz_step bz_ct bz_mls rec k (.invokespecial j) ks L st μ = some res) : bz_H k N i L st μ res := by
  unfold bz_step at h
  dsimp only at h
  split at h
  · rename_i a st'
    cases hb : Nat.ble (bz_sum st') 8 with
    | true =>
      rw [hb, cond_true] at h
      unfold bz_oi at h
      split at h
      · rename_i g
        refine ⟨(hks 0 _ _ _ _ h).1, ?_⟩
        intro p l e R s m args below meth c' H locs ls sv c0 s0 mc ms C a1 a2 a3 a4 a5 a6 hz hS hR hL hv
        exact (bz_q_oinit hc (Nat.le_of_ble_eq_true hb) (bz_no15 hR C.2.2.2.2 (Or.inl g)) (hks 0 _ _ _ _ h)).2 p l e R s m args below meth c' H locs ls sv c0 s0 mc ms C a1 a2 a3 a4 a5 a6 hz hS hR hL hv
      · cases h
    | false => rw [hb] at h; cases h
  · cases h
theorem bz_s_call {k : Nat} {N : bz_N} {i : Nat} {L : List (Option bz_V)} {st : List bz_V} {μ : bz_M} {res : bz_R} {q : Nat} {rec : bz_X0} {ks : Nat → bz_K} (hc : bz_ok1 k i (.invokevirtual q) = true) (hk : k < bz_KM) (hr : bz_Rc N rec) (hks : bz_Ks k N i ks) (h : bz_step bz_ct bz_mls rec k (.invokevirtual q) ks L st μ = some res) : bz_H k N i L st μ res := by
  exact bz_q_call hc hr hks h
theorem bz_s_callh {k : Nat} {N : bz_N} {i : Nat} {L : List (Option bz_V)} {st : List bz_V} {μ : bz_M} {res : bz_R} {q : Nat} {rec : bz_X0} {ks : Nat → bz_K} (hc : bz_ok1 k i (.checkcast q) = true) (hk : k < bz_KM) (hr : bz_Rc N rec) (hks : bz_Ks k N i ks) (h : bz_step bz_ct bz_mls rec k (.checkcast q) ks L st μ = some res) : bz_H k N i L st μ res := by
  exact bz_q_call hc hr hks h
theorem bz_s_throw {k : Nat} {N : bz_N} {i : Nat} {L : List (Option bz_V)} {st : List bz_V} {μ : bz_M} {res : bz_R} {c : Nat} {rec : bz_X0} {ks : Nat → bz_K} (hc : bz_ok1 k i (.ldc_w c) = true) (hk : k < bz_KM) (hr : bz_Rc N rec) (hks : bz_Ks k N i ks) (h : bz_step bz_ct bz_mls rec k (.ldc_w c) ks L st μ = some res) : bz_H k N i L st μ res := by
  have h : cond (Nat.ble (bz_sum st) 8) (some (.inr c, sX μ)) none = some res := h
  cases hb : Nat.ble (bz_sum st) 8 with
  | true =>
    rw [hb, cond_true] at h
    cases h
    exact bz_q_throw hc (Nat.le_of_ble_eq_true hb)
  | false => rw [hb] at h; cases h
theorem bz_s_ireturn {k : Nat} {N : bz_N} {i : Nat} {L : List (Option bz_V)} {st : List bz_V} {μ : bz_M} {res : bz_R} {rec : bz_X0} {ks : Nat → bz_K} (hc : bz_ok1 k i (.ireturn) = true) (hk : k < bz_KM) (hr : bz_Rc N rec) (hks : bz_Ks k N i ks) (h : bz_step bz_ct bz_mls rec k (.ireturn) ks L st μ = some res) : bz_H k N i L st μ res := by
  have hc : (decide (bz_rt k = some .int) && decide (bz_cs k i = some (.ireturn, 1))) = true := hc
  rw [Bool.and_eq_true] at hc
  unfold bz_step at h
  dsimp only at h
  split at h
  · cases h
    exact bz_i_iret (st := []) (of_decide_eq_true hc.1) (bz_cs_eq (of_decide_eq_true hc.2))
  · cases h
theorem bz_s_lreturn {k : Nat} {N : bz_N} {i : Nat} {L : List (Option bz_V)} {st : List bz_V} {μ : bz_M} {res : bz_R} {rec : bz_X0} {ks : Nat → bz_K} (hc : bz_ok1 k i (.lreturn) = true) (hk : k < bz_KM) (hr : bz_Rc N rec) (hks : bz_Ks k N i ks) (h : bz_step bz_ct bz_mls rec k (.lreturn) ks L st μ = some res) : bz_H k N i L st μ res := by
  have hc : (decide (bz_rt k = some .long) && decide (bz_cs k i = some (.lreturn, 1))) = true := hc
  rw [Bool.and_eq_true] at hc
  unfold bz_step at h
  dsimp only at h
  split at h
  · cases h
    exact bz_i_lret (st := []) (of_decide_eq_true hc.1) (bz_cs_eq (of_decide_eq_true hc.2))
  · cases h
theorem bz_s_areturn {k : Nat} {N : bz_N} {i : Nat} {L : List (Option bz_V)} {st : List bz_V} {μ : bz_M} {res : bz_R} {rec : bz_X0} {ks : Nat → bz_K} (hc : bz_ok1 k i (.areturn) = true) (hk : k < bz_KM) (hr : bz_Rc N rec) (hks : bz_Ks k N i ks) (h : bz_step bz_ct bz_mls rec k (.areturn) ks L st μ = some res) : bz_H k N i L st μ res := by
  have hc : (bz_kty 2 ((bz_rt k).getD .int) && decide (bz_cs k i = some (.areturn, 1))) = true := hc
  rw [Bool.and_eq_true] at hc
  unfold bz_step at h
  dsimp only at h
  split at h
  · cases h
    exact bz_i_aret (st := []) hc.1 (bz_cs_eq (of_decide_eq_true hc.2))
  · cases h
theorem bz_s_vreturn {k : Nat} {N : bz_N} {i : Nat} {L : List (Option bz_V)} {st : List bz_V} {μ : bz_M} {res : bz_R} {rec : bz_X0} {ks : Nat → bz_K} (hc : bz_ok1 k i (.return_) = true) (hk : k < bz_KM) (hr : bz_Rc N rec) (hks : bz_Ks k N i ks) (h : bz_step bz_ct bz_mls rec k (.return_) ks L st μ = some res) : bz_H k N i L st μ res := by
  have hc : (decide (bz_rt k = none) && decide (bz_cs k i = some (.return_, 1))) = true := hc
  rw [Bool.and_eq_true] at hc
  unfold bz_step at h
  dsimp only at h
  split at h
  · cases h
    exact bz_i_vret (st := []) (of_decide_eq_true hc.1) (bz_cs_eq (of_decide_eq_true hc.2))
  · cases h
theorem bz_s_dreturn {k : Nat} {N : bz_N} {i : Nat} {L : List (Option bz_V)} {st : List bz_V} {μ : bz_M} {res : bz_R} {rec : bz_X0} {ks : Nat → bz_K} (hc : bz_ok1 k i (.dreturn) = true) (hk : k < bz_KM) (hr : bz_Rc N rec) (hks : bz_Ks k N i ks) (h : bz_step bz_ct bz_mls rec k (.dreturn) ks L st μ = some res) : bz_H k N i L st μ res := by
  have hc : (decide (bz_rt k = some .boolean) && decide (bz_cs k i = some (.ireturn, 1))) = true := hc
  rw [Bool.and_eq_true] at hc
  unfold bz_step at h
  dsimp only at h
  split at h
  · unfold bz_zB at h
    split at h
    · rename_i g
      cases h
      exact bz_i_zret (st := []) (of_decide_eq_true hc.1) g (bz_cs_eq (of_decide_eq_true hc.2))
    · cases h
  · cases h
theorem bz_s_freturn {k : Nat} {N : bz_N} {i : Nat} {L : List (Option bz_V)} {st : List bz_V} {μ : bz_M} {res : bz_R} {rec : bz_X0} {ks : Nat → bz_K} (hc : bz_ok1 k i (.freturn) = true) (hk : k < bz_KM) (hr : bz_Rc N rec) (hks : bz_Ks k N i ks) (h : bz_step bz_ct bz_mls rec k (.freturn) ks L st μ = some res) : bz_H k N i L st μ res := by
  have hc : ((decide (bz_rt k = some .char) || decide (bz_rt k = some .byte)) && decide (bz_cs k i = some (.ireturn, 1))) = true := hc
  rw [Bool.and_eq_true] at hc
  unfold bz_step at h
  dsimp only at h
  split at h
  · unfold bz_zC at h
    split at h
    · rename_i g
      cases h
      rcases Bool.or_eq_true _ _ |>.mp hc.1 with q | q
      · exact bz_i_cret (st := []) (of_decide_eq_true q) g (bz_cs_eq (of_decide_eq_true hc.2))
      · exact bz_i_bret (st := []) (of_decide_eq_true q) g (bz_cs_eq (of_decide_eq_true hc.2))
    · cases h
  · cases h
theorem bz_s_table {k : Nat} {N : bz_N} {i : Nat} {L : List (Option bz_V)} {st : List bz_V} {μ : bz_M} {res : bz_R} {d lo hi : Int} {os : Array Int} {rec : bz_X0} {ks : Nat → bz_K} (hc : bz_ok1 k i (.tableswitch d lo hi os) = true) (hk : k < bz_KM) (hr : bz_Rc N rec) (hks : bz_Ks k N i ks) (h : bz_step bz_ct bz_mls rec k (.tableswitch d lo hi os) ks L st μ = some res) : bz_H k N i L st μ res := by
  unfold bz_ok1 at hc
  dsimp only at hc
  split at hc
  · rename_i cd lo' hi' cs len hd
    rw [Bool.and_eq_true, Bool.and_eq_true, Bool.and_eq_true, decide_eq_true_eq, decide_eq_true_eq] at hc
    obtain ⟨⟨⟨rfl, rfl⟩, h1⟩, h2⟩ := hc
    unfold bz_step at h
    dsimp only at h
    split at h
    · exact bz_i_table hk hr hks (bz_cs_eq hd) h1 h2 h
    · cases h
  · cases hc
theorem bz_s_look {k : Nat} {N : bz_N} {i : Nat} {L : List (Option bz_V)} {st : List bz_V} {μ : bz_M} {res : bz_R} {d : Int} {ps : Array (Int × Int)} {rec : bz_X0} {ks : Nat → bz_K} (hc : bz_ok1 k i (.lookupswitch d ps) = true) (hk : k < bz_KM) (hr : bz_Rc N rec) (hks : bz_Ks k N i ks) (h : bz_step bz_ct bz_mls rec k (.lookupswitch d ps) ks L st μ = some res) : bz_H k N i L st μ res := by
  unfold bz_ok1 at hc
  dsimp only at hc
  split at hc
  · rename_i cd cs len hd
    rw [Bool.and_eq_true, Bool.and_eq_true] at hc
    obtain ⟨⟨h0, h1⟩, h2⟩ := hc
    unfold bz_step at h
    dsimp only at h
    split at h
    · exact bz_i_look hk hr hks (bz_cs_eq hd) h0 h1 h2 h
    · cases h
  · cases hc
