/-! THE MODEL'S VOTES -/
section
variable {sl e : Nat} {π : Int → Nat} {M G : Nat → Int → Int} {σ : Sg} {k : Int} {t c : Nat} {R : Int → Rd}
theorem bs_vi_al {c : Int} : ∀ d i : Nat, bs_vi c d i ≠ -1 → bs_al (bs_vi c d i).toNat = c := by
  intro d
  induction d with
  | zero => intro i h; exact absurd rfl h
  | succ d ih =>
    intro i h
    rw [bs_vi] at h ⊢
    by_cases z : bs_al i = c
    · rw [if_pos z]; exact z
    · rw [if_neg z] at h ⊢; exact ih _ h
theorem al_vof {c : Int} (h : vof c ≠ -1) : al (vof c) = c := bs_vi_al 20 0 h
theorem vof_al0 : ∀ k : Nat, k < 20 → vof (bs_al k) = (k : Int) := by decide
theorem vof_al {v : Int} (hv : 0 ≤ v ∧ v < 20) : vof (al v) = v := by
  have := vof_al0 v.toNat (by omega)
  unfold al
  omega
theorem al_bd {v : Int} (hv : 0 ≤ v ∧ v < 20) : 0 ≤ al v ∧ al v < 128 := al_ok v.toNat (by omega)
/-- the votes of a character -/
def gVc (V : Vt) (p ch : Int) : Int := if vof ch = -1 then 0 else V p (vof ch)
theorem gVc_al {V : Vt} {p v : Int} (hv : 0 ≤ v ∧ v < 20) : gVc V p (al v) = V p v := by
  have hne : ¬ v = -1 := by omega
  unfold gVc; rw [vof_al hv, if_neg hne]
theorem gVc_pos {V : Vt} {p ch : Int} (h : gVc V p ch ≠ 0) : ∃ v : Nat, v < 20 ∧ al v = ch ∧ gVc V p ch = V p v := by
  have zv : vof ch ≠ -1 := fun w => h (if_pos w)
  rcases vof_bd (c := ch) with y | y
  · exact absurd y zv
  · obtain ⟨v, hv⟩ : ∃ v : Nat, vof ch = v := ⟨(vof ch).toNat, (Int.toNat_of_nonneg y.1).symm⟩
    have e1 : al (vof ch) = ch := al_vof zv
    have e2 : gVc V p ch = V p (vof ch) := if_neg zv
    rw [hv] at y e1 e2
    exact ⟨v, by omega, e1, e2⟩
def rVt (M : Nat → Int → Int) (V : Vt) : Prop := ∀ p ch, 0 ≤ p ∧ p < 16 → 0 ≤ ch ∧ ch < 128 → M 887 (128 * p + ch) = gVc V p ch
theorem mKept_887 {M' : Nat → Int → Int} {j s : Int} {l : List Ch} (q : mKept M j s l) (f : fr (fun b _ => b = 887) M M') : mKept M' j s l := ⟨(f _ _ (by omega)).trans q.1, q.2.1, fun i' c' hc => ⟨(f _ _ (by omega)).trans (q.2.2 i' c' hc).1, (f _ _ (by omega)).trans (q.2.2 i' c' hc).2⟩⟩
end
