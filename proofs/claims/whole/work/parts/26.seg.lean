/-! A CHECK IN PIECES -/
theorem bz_ckl_of {k : Nat} : ∀ {cs : List Instr} {o : Nat}, (∀ i ins, cs[i]? = some ins → bz_ok1 k (o + i) ins = true) → bz_ckl k o cs = true
  | [], _, _ => rfl
  | c :: cs, o, h => by
    rw [bz_ckl, Bool.and_eq_true]
    refine ⟨h 0 c rfl, bz_ckl_of fun i ins hi => ?_⟩
    have := h (i + 1) ins (by simpa using hi)
    rw [show o + (i + 1) = o + 1 + i by omega] at this
    exact this
theorem bz_ckl_seg {k n m : Nat} {cs : List Instr} (hn : 0 < n) (h : ∀ j, j < m → bz_ckl k (n * j) ((cs.drop (n * j)).take n) = true) (hm : cs.length ≤ n * m) : bz_ckl k 0 cs = true := by
  refine bz_ckl_of fun i ins hi => ?_
  have hlt : i < cs.length := (List.getElem?_eq_some_iff.mp hi).1
  have h1 : i / n < m := Nat.div_lt_of_lt_mul (by omega)
  have h2 : i % n < n := Nat.mod_lt _ hn
  have h3 := Nat.div_add_mod i n
  have h4 := bz_ckl_at (j := i % n) (ins := ins) (h (i / n) h1) (by
    rw [List.getElem?_take, if_pos h2, List.getElem?_drop, h3]
    exact hi)
  rw [h3] at h4
  rw [Nat.zero_add]
  exact h4
