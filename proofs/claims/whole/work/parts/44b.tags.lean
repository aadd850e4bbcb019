/-! TAGS BY ADDRESS -/
theorem tg_hi {a : Nat} (h : bm_tg a ≠ 0) : a < 889 := by
  rcases Nat.lt_or_ge a 889 with q | q
  · exact q
  · refine absurd ?_ h
    unfold bm_tg
    rw [List.getD_eq_getElem?_getD, List.getElem?_eq_none (by rw [show (bm_T 0).length = 889 by decide +kernel]; exact q)]
    rfl
theorem tg5 : ∀ a, a < 889 → bm_tg a = 5 → a = 18 ∨ (42 ≤ a ∧ a ≤ 834) := by decide +kernel
theorem tg7 : ∀ a, a < 889 → bm_tg a = 7 → a = 48 ∨ (56 ≤ a ∧ a ≤ 864) := by decide +kernel
theorem tg4 : ∀ a, a < 889 → bm_tg a = 4 → 55 ≤ a ∧ a ≤ 857 := by decide +kernel
