/-! THE MACHINE IS SOUND -/
theorem bz_step_sound {k : Nat} {N : bz_N} {i : Nat} {L : List (Option bz_V)} {st : List bz_V} {μ : bz_M} {res : bz_R} {ins : Instr} {rec : bz_X0} {ks : Nat → bz_K} (hc : bz_ok1 k i ins = true) (hk : k < bz_KM) (hr : bz_Rc N rec) (hks : bz_Ks k N i ks) (h : bz_step bz_ct bz_mls rec k ins ks L st μ = some res) : bz_H k N i L st μ res := by
  cases ins
  case iconst v => exact bz_s_iconst hc hk hr hks h
  case bipush v => exact bz_s_bipush hc hk hr hks h
  case ldc a => exact bz_s_ldc hc hk hr hks h
  case iload j => exact bz_s_iload hc hk hr hks h
  case lload j => exact bz_s_lload hc hk hr hks h
  case aload j => exact bz_s_aload hc hk hr hks h
  case istore j => exact bz_s_istore hc hk hr hks h
  case lstore j => exact bz_s_lstore hc hk hr hks h
  case iinc j c => exact bz_s_iinc hc hk hr hks h
  case iadd => exact bz_s_iadd hc hk hr hks h
  case isub => exact bz_s_isub hc hk hr hks h
  case imul => exact bz_s_imul hc hk hr hks h
  case idiv => exact bz_s_idiv hc hk hr hks h
  case irem => exact bz_s_irem hc hk hr hks h
  case ineg => exact bz_s_ineg hc hk hr hks h
  case iand => exact bz_s_iand hc hk hr hks h
  case ior => exact bz_s_ior hc hk hr hks h
  case ishl => exact bz_s_ishl hc hk hr hks h
  case ishr => exact bz_s_ishr hc hk hr hks h
  case iushr => exact bz_s_iushr hc hk hr hks h
  case ladd => exact bz_s_ladd hc hk hr hks h
  case lsub => exact bz_s_lsub hc hk hr hks h
  case lmul => exact bz_s_lmul hc hk hr hks h
  case ldiv => exact bz_s_ldiv hc hk hr hks h
  case lxor => exact bz_s_lxor hc hk hr hks h
  case lcmp => exact bz_s_lcmp hc hk hr hks h
  case i2l => exact bz_s_i2l hc hk hr hks h
  case l2i => exact bz_s_l2i hc hk hr hks h
  case i2c => exact bz_s_i2c hc hk hr hks h
  case i2b => exact bz_s_i2b hc hk hr hks h
  case dup => exact bz_s_dup hc hk hr hks h
  case pop => exact bz_s_pop hc hk hr hks h
  case dup2 => exact bz_s_dup2 hc hk hr hks h
  case iaload => exact bz_s_iaload hc hk hr hks h
  case baload => exact bz_s_baload hc hk hr hks h
  case laload => exact bz_s_laload hc hk hr hks h
  case aaload => exact bz_s_aaload hc hk hr hks h
  case iastore => exact bz_s_iastore hc hk hr hks h
  case bastore => exact bz_s_bastore hc hk hr hks h
  case lastore => exact bz_s_lastore hc hk hr hks h
  case aastore => exact bz_s_aastore hc hk hr hks h
  case arraylength => exact bz_s_arraylength hc hk hr hks h
  case goto o => exact bz_s_goto hc hk hr hks h
  case ifCond c o => exact bz_s_if hc hk hr hks h
  case if_icmp c o => exact bz_s_icmp hc hk hr hks h
  case getfield p => exact bz_s_getfield hc hk hr hks h
  case fload p => exact bz_s_fload hc hk hr hks h
  case getstatic p => exact bz_s_getref hc hk hr hks h
  case dload j => exact bz_s_dload hc hk hr hks h
  case putfield p => exact bz_s_putfield hc hk hr hks h
  case dstore p => exact bz_s_dstore hc hk hr hks h
  case fstore p => exact bz_s_fstore hc hk hr hks h
  case astore p => exact bz_s_putref hc hk hr hks h
  case putstatic j => exact bz_s_putS hc hk hr hks h
  case new c => exact bz_s_new hc hk hr hks h
  case anewarray t => exact bz_s_mk hc hk hr hks h
  case invokespecial j => exact bz_s_oinit hc hk hr hks h
  case invokevirtual q => exact bz_s_call hc hk hr hks h
  case checkcast q => exact bz_s_callh hc hk hr hks h
  case ldc_w c => exact bz_s_throw hc hk hr hks h
  case ireturn => exact bz_s_ireturn hc hk hr hks h
  case dreturn => exact bz_s_dreturn hc hk hr hks h
  case freturn => exact bz_s_freturn hc hk hr hks h
  case lreturn => exact bz_s_lreturn hc hk hr hks h
  case areturn => exact bz_s_areturn hc hk hr hks h
  case return_ => exact bz_s_vreturn hc hk hr hks h
  case tableswitch d lo hi os => exact bz_s_table hc hk hr hks h
  case lookupswitch d ps => exact bz_s_look hc hk hr hks h
  all_goals (cases h)
def bz_ckl (k : Nat) : Nat → List Instr → Bool
  | _, [] => true
  | i, ins :: cs => bz_ok1 k i ins && bz_ckl k (i + 1) cs
theorem bz_ckl_at {k : Nat} : ∀ {cs : List Instr} {o j : Nat} {ins : Instr}, bz_ckl k o cs = true → cs[j]? = some ins → bz_ok1 k (o + j) ins = true
  | [], _, _, _, _, h => by cases h
  | c :: cs, o, j, ins, hc, h => by
    rw [bz_ckl, Bool.and_eq_true] at hc
    cases j with
    | zero => cases h; exact hc.1
    | succ j =>
      have := bz_ckl_at (o := o + 1) (j := j) hc.2 (by simpa using h)
      rw [show o + (j + 1) = o + 1 + j by omega]
      exact this
theorem bz_go_sound {k : Nat} {N : bz_N} {rec : bz_X0} (hk : k < bz_KM) (hr : bz_Rc N rec) (hok : bz_ckl k 0 (bz_cds.getD k []) = true) : ∀ (m i : Nat), (bz_cds.getD k []).length - i ≤ m → ∀ (L : List (Option bz_V)) (st : List bz_V) (μ : bz_M) (res : bz_R), bz_go bz_ct bz_mls rec k (bz_cds.getD k []) i L st μ = some res → bz_H k N i L st μ res := by
  intro m
  induction m with
  | zero =>
    intro i hm L st μ res h
    rw [bz_go_at, List.getElem?_eq_none (by omega)] at h
    cases h
  | succ m ih =>
    intro i hm L st μ res h
    rw [bz_go_at] at h
    cases hi : (bz_cds.getD k [])[i]? with
    | none => rw [hi] at h; cases h
    | some ins =>
      rw [hi] at h
      have hlt : i < (bz_cds.getD k []).length := (List.getElem?_eq_some_iff.mp hi).1
      have h1 := bz_ckl_at hok hi
      rw [Nat.zero_add] at h1
      exact bz_step_sound h1 hk hr (fun d L st μ res hd => ih (i + 1 + d) (by omega) L st μ res hd) h
theorem bz_sound {N : bz_N} (hall : ∀ k, k < bz_KM → bz_ckl k 0 (bz_cds.getD k []) = true) : ∀ n, bz_Rc N (bz_Z bz_cds bz_ct bz_mls n) := by
  intro n
  induction n with
  | zero => intro k i L st μ res hk h; cases h
  | succ n ih => exact fun k i L st μ res hk h => bz_go_sound hk ih (hall k hk) _ i (Nat.le_refl _) L st μ res h
