/-! CHECK CHARACTERS -/
def bs_wg (t : Nat) (j : Int) : Int := if t ≠ 2 ∧ Int.tmod j 2 = 0 then 3 else 1
def bs_rf (t : Nat) (v : Int → Int) : Nat → Int
  | 0 => 0
  | m + 1 => bs_rf t v m + bs_wg t m * v m
theorem bs_rs_app {t : Nat} {c : Ch} {l : List Ch} : ∀ i : Nat, bs_rs t (l ++ [c]) i = bs_rs t l i + bs_wg t ((i + l.length : Nat) : Int) * c.1 := by
  induction l with
  | nil =>
    intro i
    show (if t ≠ 2 ∧ Int.tmod i 2 = 0 then 3 * c.1 else c.1) + 0 = 0 + bs_wg t ((i + 0 : Nat) : Int) * c.1
    unfold bs_wg
    rw [Nat.add_zero]
    split <;> omega
  | cons d l ih =>
    intro i
    rw [List.cons_append, bs_rs, ih (i + 1), bs_rs, List.length_cons, show i + 1 + l.length = i + (l.length + 1) by omega, Int.add_assoc]
theorem bs_rs_set {t : Nat} {v c : Int} {l : List Ch} : ∀ (i p : Nat) (hp : p < l.length), bs_rs t (l.set p (v, c)) i = bs_rs t l i + bs_wg t ((i + p : Nat) : Int) * (v - (l[p]).1) := by
  induction l with
  | nil => intro i p hp; exact absurd hp (Nat.not_lt_zero _)
  | cons d l ih =>
    intro i p hp
    match p, hp with
    | 0, _ =>
      show (if t ≠ 2 ∧ Int.tmod i 2 = 0 then 3 * v else v) + bs_rs t l (i + 1) = ((if t ≠ 2 ∧ Int.tmod i 2 = 0 then 3 * d.1 else d.1) + bs_rs t l (i + 1)) + bs_wg t ((i + 0 : Nat) : Int) * (v - d.1)
      unfold bs_wg
      simp only [Nat.add_zero]
      by_cases z : t ≠ 2 ∧ Int.tmod (i : Int) 2 = 0
      · simp only [if_pos z]; omega
      · simp only [if_neg z]; omega
    | p + 1, hp =>
      have hp2 : p < l.length := by rw [List.length_cons] at hp; omega
      rw [List.set_cons_succ, bs_rs, ih (i + 1) p hp2, bs_rs, show i + 1 + p = i + (p + 1) by omega, List.getElem_cons_succ, Int.add_assoc]
theorem bs_rs_tc {t : Nat} {x : Int → Int} : ∀ n : Nat, bs_rs t (bs_tc x n) 0 = bs_rf t (fun k => vof (x k)) n := by
  intro n
  induction n with
  | zero => rfl
  | succ n ih => rw [bs_tc, bs_rs_app, ih, bs_tc_l, Nat.zero_add, bs_rf]
def bs_il (v c : Int → Int) (m : Nat) : List Ch := List.map (fun k : Nat => ((v (k : Int), c (k : Int)) : Ch)) (List.range m)
theorem bs_il_l {v c : Int → Int} {m : Nat} : (bs_il v c m).length = m := by unfold bs_il; rw [List.length_map, List.length_range]
theorem bs_il_at {v c : Int → Int} {m k : Nat} (hk : k < (bs_il v c m).length) : (bs_il v c m)[k] = (v k, c k) := by
  revert hk
  unfold bs_il
  intro hk
  rw [List.getElem_map, List.getElem_range]
theorem bs_rs_il {t : Nat} {v c : Int → Int} : ∀ m : Nat, bs_rs t (bs_il v c m) 0 = bs_rf t v m := by
  intro m
  induction m with
  | zero => rfl
  | succ m ih =>
    have e : bs_il v c (m + 1) = bs_il v c m ++ [(v m, c m)] := by unfold bs_il; rw [List.range_succ, List.map_append]; rfl
    rw [e, bs_rs_app, ih, bs_il_l, Nat.zero_add, bs_rf]
theorem bs_rf_ext {t : Nat} {v w : Int → Int} : ∀ m : Nat, (∀ k : Nat, k < m → v k = w k) → bs_rf t v m = bs_rf t w m := by
  intro m
  induction m with
  | zero => intro _; rfl
  | succ m ih => intro h; rw [bs_rf, bs_rf, ih fun k hk => h k (by omega), h m (by omega)]
theorem bs_rf_bd {t : Nat} {v : Int → Int} : ∀ m : Nat, (∀ k : Nat, k < m → 0 ≤ v k ∧ v k ≤ 20) → 0 ≤ bs_rf t v m ∧ bs_rf t v m ≤ 60 * m := by
  intro m
  induction m with
  | zero => intro _; exact ⟨Int.le_refl _, Int.le_refl _⟩
  | succ m ih =>
    intro h
    have h1 := ih fun k hk => h k (by omega)
    have h2 := h m (by omega)
    rw [bs_rf]
    unfold bs_wg
    split <;> omega
theorem bs_ic0_iff {t : Nat} {n : Int} {l : List Ch} : ∀ i : Nat, bs_ic0 t n l i = true ↔ ∀ (k : Nat) (hk : k < l.length), bs_aw t (l[k]).1 ((i + k : Nat) : Int) n = true := by
  induction l with
  | nil => intro i; exact ⟨fun _ k hk => absurd hk (Nat.not_lt_zero _), fun _ => rfl⟩
  | cons c l ih =>
    intro i
    rw [bs_ic0, Bool.and_eq_true, ih (i + 1)]
    refine ⟨fun h k hk => ?_, fun h => ⟨h 0 (Nat.zero_lt_succ _), fun k hk => ?_⟩⟩
    · match k, hk with
      | 0, _ => exact h.1
      | k + 1, hk =>
        have := h.2 k (by rw [List.length_cons] at hk; omega)
        rw [show i + 1 + k = i + (k + 1) by omega] at this
        exact this
    · have := h (k + 1) (by rw [List.length_cons]; omega)
      rw [show i + (k + 1) = i + 1 + k by omega] at this
      exact this
theorem bs_ic_iff {t : Nat} {l : List Ch} : bs_ic t l = true ↔ ∀ (k : Nat) (hk : k < l.length), bs_aw t (l[k]).1 k l.length = true := by
  have := bs_ic0_iff (t := t) (n := l.length) (l := l) 0
  simp only [Nat.zero_add] at this
  exact this
theorem rgv_uniq {s : Nat} {l : List Ch} {p v0 : Nat} (h : ∀ v : Nat, v < 20 → (bs_aw s v p l.length && bs_rt s (lsv l p v)) = decide (v = v0)) : ∀ u : Nat, u ≤ 20 → bs_rgv s l p u = if v0 < u then ((v0 : Int), 1) else (-1, 0) := by
  intro u
  induction u with
  | zero => intro _; rfl
  | succ u ih =>
    intro hu
    rw [bs_rgv, h u (by omega), ih (by omega)]
    by_cases z : u = v0
    · rw [decide_eq_true z, if_pos rfl, if_neg (by omega), if_pos (by omega), z]; rfl
    · rw [decide_eq_false z, if_neg (by decide)]
      by_cases y : v0 < u
      · rw [if_pos y, if_pos (by omega)]
      · rw [if_neg y, if_neg (by omega)]
/-- the modulus, and the check value of a sum -/
def bs_md (t : Nat) : Int := if t = 2 then 16 else 10
def bs_cv (t : Nat) (S : Int) : Int := Int.tmod (bs_md t - Int.tmod S (bs_md t)) (bs_md t)
theorem bs_md_b (t : Nat) : bs_md t = 10 ∨ bs_md t = 16 := by
  unfold bs_md
  split
  · exact Or.inr rfl
  · exact Or.inl rfl
theorem bs_cv_bd {t : Nat} {S : Int} (hS : 0 ≤ S) : 0 ≤ bs_cv t S ∧ bs_cv t S < bs_md t := by
  unfold bs_cv
  rw [Int.tmod_eq_emod_of_nonneg hS]
  rcases bs_md_b t with z | z
  · rw [z, Int.tmod_eq_emod_of_nonneg (by omega)]; omega
  · rw [z, Int.tmod_eq_emod_of_nonneg (by omega)]; omega
theorem bs_cv_is {t : Nat} {S v : Int} (hS : 0 ≤ S) (hv : 0 ≤ v ∧ v < bs_md t) : (Int.tmod (S + v) (bs_md t) = 0) = (v = bs_cv t S) := by
  unfold bs_cv
  rw [Int.tmod_eq_emod_of_nonneg hS, Int.tmod_eq_emod_of_nonneg (show 0 ≤ S + v by omega)]
  rcases bs_md_b t with z | z
  · rw [z] at hv ⊢
    rw [Int.tmod_eq_emod_of_nonneg (by omega)]
    exact propext ⟨fun q => by omega, fun q => by omega⟩
  · rw [z] at hv ⊢
    rw [Int.tmod_eq_emod_of_nonneg (by omega)]
    exact propext ⟨fun q => by omega, fun q => by omega⟩
/-- where the check character stands in a code of n + 1 -/
def bs_cp (t : Nat) (n : Int) : Int := if t = 2 then n - 1 else n
def okCk (σ : Sg) (t : Nat) (n : Int) : Prop := (0 ≤ n ∧ n ≤ gtl σ) ∧ bs_hl t (n + 1) = true ∧ bs_ic t (bs_tc (gtx σ) n.toNat) = true
def gCk (σ : Sg) (t : Nat) (n : Int) : Int := al (bs_cv t (bs_rf t (fun k => vof (gtx σ k)) n.toNat))
/-- a code with 0 put in -/
def rIn (x v : Int → Int) (n p : Int) : Prop := (∀ k, 0 ≤ k ∧ k < p → v k = vof (x k)) ∧ v p = 0 ∧ ∀ k, p < k ∧ k ≤ n → v k = vof (x (k - 1))
theorem ck_hl {t : Nat} {n : Nat} (ht : t < 3) (h : bs_hl t ((n : Int) + 1) = true) : n ≤ 15 ∧ 1 ≤ n ∧ (t ≠ 2 → n % 2 = 1) ∧ (t = 2 → 2 ≤ n) := by
  unfold bs_hl at h
  by_cases z : t = 0
  · rw [if_pos z] at h
    have := of_decide_eq_true h
    omega
  · rw [if_neg z] at h
    by_cases y : t = 1
    · rw [if_pos y] at h
      have := of_decide_eq_true h
      rw [Int.tmod_eq_emod_of_nonneg (by omega)] at this
      omega
    · rw [if_neg y] at h
      have := of_decide_eq_true h
      omega
theorem ck_ic {t n : Nat} {x v c : Int → Int} (hh : n ≤ 15 ∧ 1 ≤ n ∧ (t ≠ 2 → n % 2 = 1) ∧ (t = 2 → 2 ≤ n)) (hv : rIn x v n (bs_cp t n)) : bs_ic t (bs_il v c (n + 1)) = bs_ic t (bs_tc x n) := by
  have key : bs_ic t (bs_il v c (n + 1)) = true ↔ bs_ic t (bs_tc x n) = true := by
    rw [bs_ic_iff, bs_ic_iff]
    simp only [bs_il_l, bs_tc_l]
    by_cases t2 : t = 2
    · subst t2
      have n2 := hh.2.2.2 rfl
      have ep : bs_cp 2 n = (n : Int) - 1 := if_pos rfl
      rw [ep] at hv
      obtain ⟨v1, v2, v3⟩ := hv
      refine ⟨fun h k hk => ?_, fun h k hk => ?_⟩
      · by_cases z : k = n - 1
        · have h1 := h n (by omega)
          rw [bs_il_at, show ((v n, c n) : Ch).1 = v n from rfl, v3 n (by omega), aw_out (Or.inr (by omega))] at h1
          rw [bs_tc_at, aw_out (Or.inr (by omega))]
          rw [show (n : Int) - 1 = (k : Int) by omega] at h1
          exact h1
        · have h1 := h k (by omega)
          rw [bs_il_at, show ((v k, c k) : Ch).1 = v k from rfl, v1 k (by omega)] at h1
          rw [bs_tc_at]
          show bs_aw 2 (vof (x k)) k n = true
          by_cases y : k = 0
          · rw [aw_out (Or.inl (by omega))] at h1 ⊢; exact h1
          · rw [aw_in (by omega)] at h1 ⊢; exact h1
      · by_cases z : k = n
        · have h1 := h (n - 1) (by omega)
          rw [bs_tc_at, show ((vof (x ((n - 1 : Nat) : Int)), (0 : Int)) : Ch).1 = vof (x ((n - 1 : Nat) : Int)) from rfl, aw_out (Or.inr (by omega))] at h1
          rw [bs_il_at, show ((v k, c k) : Ch).1 = v k from rfl, v3 k (by omega), aw_out (Or.inr (by omega))]
          rw [show ((n - 1 : Nat) : Int) = (k : Int) - 1 by omega] at h1
          exact h1
        · by_cases y : k = n - 1
          · rw [bs_il_at, show ((v k, c k) : Ch).1 = v k from rfl, show (k : Int) = (n : Int) - 1 by omega, v2, aw_in (by omega)]
            decide
          · have h1 := h k (by omega)
            rw [bs_tc_at, show ((vof (x k), (0 : Int)) : Ch).1 = vof (x k) from rfl] at h1
            rw [bs_il_at, show ((v k, c k) : Ch).1 = v k from rfl, v1 k (by omega)]
            by_cases w : k = 0
            · rw [aw_out (Or.inl (by omega))] at h1 ⊢; exact h1
            · rw [aw_in (by omega)] at h1 ⊢; exact h1
    · have ep : bs_cp t n = (n : Int) := if_neg t2
      rw [ep] at hv
      obtain ⟨v1, v2, -⟩ := hv
      refine ⟨fun h k hk => ?_, fun h k hk => ?_⟩
      · have h1 := h k (by omega)
        rw [bs_il_at, show ((v k, c k) : Ch).1 = v k from rfl, v1 k (by omega), aw_dig t2] at h1
        rw [bs_tc_at, aw_dig t2]
        exact h1
      · rw [bs_il_at, aw_dig t2]
        show decide (0 ≤ v k ∧ v k < 10) = true
        by_cases z : k = n
        · rw [z, v2]; decide
        · have h1 := h k (by omega)
          rw [bs_tc_at, aw_dig t2] at h1
          rw [v1 k (by omega)]
          exact h1
  cases h1 : bs_ic t (bs_il v c (n + 1)) with
  | true => exact (key.mp h1).symm
  | false =>
    cases h2 : bs_ic t (bs_tc x n) with
    | false => rfl
    | true => rw [key.mpr h2] at h1; exact absurd h1 (by decide)
theorem ck_rf {t n : Nat} {x v : Int → Int} (hh : n ≤ 15 ∧ 1 ≤ n ∧ (t ≠ 2 → n % 2 = 1) ∧ (t = 2 → 2 ≤ n)) (hv : rIn x v n (bs_cp t n)) : bs_rf t v (n + 1) = bs_rf t (fun k => vof (x k)) n := by
  by_cases t2 : t = 2
  · subst t2
    have ep : bs_cp 2 n = (n : Int) - 1 := if_pos rfl
    rw [ep] at hv
    obtain ⟨v1, v2, v3⟩ := hv
    obtain ⟨m, rfl⟩ : ∃ m, n = m + 1 := ⟨n - 1, by omega⟩
    have w1 : ∀ j : Int, bs_wg 2 j = 1 := fun j => if_neg (fun q => q.1 rfl)
    rw [bs_rf, bs_rf, bs_rf, w1, w1, bs_rf_ext m (w := fun k => vof (x k)) (fun k hk => v1 k (by omega)), v3 ((m + 1 : Nat) : Int) (by omega)]
    rw [show ((m + 1 : Nat) : Int) - 1 = (m : Int) by omega] at v2 ⊢
    rw [v2]
    rw [Int.mul_zero, Int.add_zero]
  · have ep : bs_cp t n = (n : Int) := if_neg t2
    rw [ep] at hv
    obtain ⟨v1, v2, -⟩ := hv
    rw [bs_rf, v2, Int.mul_zero, Int.add_zero]
    exact bs_rf_ext n fun k hk => v1 k (by omega)
theorem ck_gRv {t n : Nat} {x v c : Int → Int} (ht : t < 3) (hh : n ≤ 15 ∧ 1 ≤ n ∧ (t ≠ 2 → n % 2 = 1) ∧ (t = 2 → 2 ≤ n)) (hv : rIn x v n (bs_cp t n)) (hS : 0 ≤ bs_rf t (fun k => vof (x k)) n) : gRv t (bs_il v c (n + 1)) (bs_cp t n) = bs_cv t (bs_rf t (fun k => vof (x k)) n) := by
  obtain ⟨p, hp, hpn, hw, hpo⟩ : ∃ p : Nat, bs_cp t n = p ∧ p < n + 1 ∧ bs_wg t p = 1 ∧ (t = 2 → 1 ≤ p ∧ p < n) := by
    unfold bs_cp bs_wg
    by_cases t2 : t = 2
    · have := hh.2.2.2 t2
      exact ⟨n - 1, by rw [if_pos t2]; omega, by omega, if_neg (fun q => q.1 t2), fun _ => by omega⟩
    · have := hh.2.2.1 t2
      refine ⟨n, if_neg t2, by omega, if_neg (fun q => ?_), fun q => absurd q t2⟩
      have q2 := q.2
      rw [Int.tmod_eq_emod_of_nonneg (by omega)] at q2
      omega
  have cb := bs_cv_bd (t := t) hS
  have mb := bs_md_b t
  obtain ⟨v0, hv0⟩ : ∃ v0 : Nat, bs_cv t (bs_rf t (fun k => vof (x k)) n) = v0 := ⟨(bs_cv t (bs_rf t (fun k => vof (x k)) n)).toNat, by omega⟩
  have hpl : p < (bs_il v c (n + 1)).length := by rw [bs_il_l]; exact hpn
  have vp : v p = 0 := by rw [← hp]; exact hv.2.1
  have rt : ∀ u : Nat, bs_rt t (lsv (bs_il v c (n + 1)) p u) = decide (Int.tmod (bs_rf t (fun k => vof (x k)) n + u) (bs_md t) = 0) := fun u => by
    unfold bs_rt lsv
    rw [bs_rs_set 0 p hpl, bs_rs_il, ck_rf hh hv, Nat.zero_add, hw, bs_il_at, show ((v p, c p) : Ch).1 = v p from rfl, vp, Int.sub_zero, Int.one_mul]
    rfl
  have u := rgv_uniq (s := t) (l := bs_il v c (n + 1)) (p := p) (v0 := v0) (fun u hu => by
    have aw : bs_aw t u p (bs_il v c (n + 1)).length = decide ((u : Int) < bs_md t) := by
      rw [bs_il_l]
      by_cases t2 : t = 2
      · have := hpo t2
        subst t2
        rw [aw_in (by omega)]
        exact decide_eq_decide.mpr ⟨fun q => by have : bs_md 2 = 16 := rfl; omega, fun q => by have : bs_md 2 = 16 := rfl; omega⟩
      · have : bs_md t = 10 := if_neg t2
        rw [aw_dig t2]
        exact decide_eq_decide.mpr ⟨fun q => by omega, fun q => by omega⟩
    rw [aw, rt]
    by_cases z : (u : Int) < bs_md t
    · rw [decide_eq_true z, Bool.true_and]
      have := bs_cv_is (t := t) (v := (u : Int)) hS ⟨by omega, z⟩
      simp only [this, hv0]
      exact decide_eq_decide.mpr ⟨fun q => by omega, fun q => by omega⟩
    · rw [decide_eq_false z, Bool.false_and]
      exact (decide_eq_false (by omega)).symm) 20 (Nat.le_refl _)
  rw [if_pos (show v0 < 20 by omega)] at u
  unfold gRv
  rw [hp, if_pos (by rw [bs_il_l]; omega), show ((p : Nat) : Int).toNat = p from rfl, u, if_pos rfl, hv0]
