/-! VALUES: the machine's int32s and int64s as Ints -/
theorem bz_w32 (x : Int) : x.bmod (2 ^ 32) = wr x := by
  unfold wr
  rw [Int.bmod_def]
  split <;> omega
theorem bz_w64 (x : Int) : x.bmod (2 ^ 64) = wl x := by
  unfold wl
  rw [Int.bmod_def]
  split <;> omega
def r32 (x : Int) : Prop := -2147483648 ≤ x ∧ x < 2147483648
def r64 (x : Int) : Prop := -9223372036854775808 ≤ x ∧ x < 9223372036854775808
theorem r32_of (n : Int32) : r32 n.toInt := ⟨by have := n.le_toInt; exact this, by have := n.toInt_lt; exact this⟩
theorem r64_of (n : Int64) : r64 n.toInt := ⟨by have := n.le_toInt; exact this, by have := n.toInt_lt; exact this⟩
theorem bz_to {x : Int} (h : r32 x) : (Int32.ofInt x).toInt = x := Int32.toInt_ofInt_of_le (by have := h.1; omega) (by have := h.2; omega)
theorem bz_tol {x : Int} (h : r64 x) : (Int64.ofInt x).toInt = x := Int64.toInt_ofInt_of_le (by have := h.1; omega) (by have := h.2; omega)
theorem bz_add (a b : Int32) : (a + b).toInt = wr (a.toInt + b.toInt) := by rw [Int32.toInt_add, bz_w32]
theorem bz_sub (a b : Int32) : (a - b).toInt = wr (a.toInt - b.toInt) := by rw [Int32.toInt_sub, bz_w32]
theorem bz_mul (a b : Int32) : (a * b).toInt = wr (a.toInt * b.toInt) := by rw [Int32.toInt_mul, bz_w32]
theorem bz_neg (a : Int32) : (-a).toInt = wr (-a.toInt) := by rw [Int32.toInt_neg, bz_w32]
theorem bz_div (a b : Int32) : (a / b).toInt = wr (a.toInt.tdiv b.toInt) := by rw [Int32.toInt_div, bz_w32]
theorem bz_rem (a b : Int32) : (a - a / b * b).toInt = a.toInt.tmod b.toInt := by
  rw [Int32.toInt_sub, Int32.toInt_mul, Int32.toInt_div, Int.bmod_mul_bmod, Int.sub_bmod_bmod, Int.mul_comm (a.toInt.tdiv b.toInt), ← Int.tmod_def, ← Int32.toInt_mod]
  exact Int32.toInt_bmod_size _
theorem bz_addl (a b : Int64) : (a + b).toInt = wl (a.toInt + b.toInt) := by rw [Int64.toInt_add, bz_w64]
theorem bz_subl (a b : Int64) : (a - b).toInt = wl (a.toInt - b.toInt) := by rw [Int64.toInt_sub, bz_w64]
theorem bz_mull (a b : Int64) : (a * b).toInt = wl (a.toInt * b.toInt) := by rw [Int64.toInt_mul, bz_w64]
theorem bz_divl (a b : Int64) : (a / b).toInt = wl (a.toInt.tdiv b.toInt) := by rw [Int64.toInt_div, bz_w64]
theorem bz_i2l' (a : Int32) : a.toInt64.toInt = a.toInt := Int32.toInt_toInt64 a
theorem bz_l2i' (a : Int64) : a.toInt32.toInt = wr a.toInt := by rw [Int64.toInt_toInt32, bz_w32]
theorem bz_band (a b : Int32) : (a &&& b).toInt = bz_and a.toInt b.toInt := by simp [bz_and]
theorem bz_bor (a b : Int32) : (a ||| b).toInt = bz_or a.toInt b.toInt := by simp [bz_or]
theorem bz_bshl (a b : Int32) : (a <<< (b &&& 31)).toInt = bz_shl a.toInt b.toInt := by simp [bz_shl]
theorem bz_bshr (a b : Int32) : (a >>> (b &&& 31)).toInt = bz_shr a.toInt b.toInt := by simp [bz_shr]
theorem bz_bushr (a b : Int32) : ((a.toUInt32 >>> (b.toUInt32 &&& Int32.toUInt32 31)).toInt32).toInt = bz_ushr a.toInt b.toInt := by simp only [bz_ushr, Int32.ofInt_toInt]
theorem bz_bxorl (a b : Int64) : (a ^^^ b).toInt = bz_lxor a.toInt b.toInt := by simp [bz_lxor]
theorem bz_eq0 (a b : Int32) : a = b ↔ a.toInt = b.toInt := Int32.toInt_inj.symm
theorem bz_lt0 (a b : Int32) : a < b ↔ a.toInt < b.toInt := Int32.lt_iff_toInt_lt
theorem bz_le0 (a b : Int32) : a ≤ b ↔ a.toInt ≤ b.toInt := Int32.le_iff_toInt_le
theorem bz_eql (a b : Int64) : a = b ↔ a.toInt = b.toInt := Int64.toInt_inj.symm
theorem bz_ltl (a b : Int64) : a < b ↔ a.toInt < b.toInt := Int64.lt_iff_toInt_lt
theorem bz_z : (0 : Int32).toInt = 0 := rfl
theorem bz_cm (a b : Int64) : (lg_cmp a b).toInt = bz_cmp a.toInt b.toInt := by
  unfold lg_cmp bz_cmp
  rcases Int.lt_trichotomy a.toInt b.toInt with h | h | h
  · have h1 : a < b := (bz_ltl a b).mpr h
    have h2 : ¬ b < a := fun q => by have := (bz_ltl b a).mp q; omega
    have h3 : ¬ a = b := fun q => by subst q; omega
    simp [h, h1, h2, h3]
  · have h1 : a = b := (bz_eql a b).mpr h
    subst h1
    simp
  · have h1 : b < a := (bz_ltl b a).mpr h
    have h2 : ¬ a < b := fun q => by have := (bz_ltl a b).mp q; omega
    have h3 : ¬ a.toInt < b.toInt := by omega
    have h4 : ¬ a.toInt = b.toInt := by omega
    have h5 : ¬ a = b := fun q => h4 (by rw [q])
    simp [h1, h2, h3, h4, h5]
theorem bz_c2 (a : Int32) : ((a.toUInt32 % 65536).toInt32).toInt = bz_i2c a.toInt := by
  rw [pk_char, nI_toInt (by omega)]
  show ((a.toBitVec.toNat % 65536 : Nat) : Int) = a.toBitVec.toInt % 65536
  rw [BitVec.toInt_eq_toNat_cond]
  split <;> omega
theorem bz_b2 (a : Int32) : (a.toInt8.toInt32).toInt = bz_i2b a.toInt := by
  rw [Int8.toInt_toInt32, Int32.toInt_toInt8]
  unfold bz_i2b
  rw [Int.bmod_def]
  split <;> omega
theorem bz_clamp {a : Int32} (h : 0 ≤ a.toInt) : ((a.toNatClampNeg : Nat) : Int) = a.toInt := Int32.cast_toNatClampNeg a ((bz_le0 0 a).mpr h)
theorem bz_vpin {a : Int32} {n : Nat} (h0 : 0 ≤ a.toInt) (h1 : a.toInt < n) : vp_in a n := vp_in_iff.mpr ⟨h0, h1⟩
