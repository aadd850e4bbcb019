/-! MAJORITIES, SEEN BY CHARACTERS -/
theorem bs_sm_nn {f : Nat → Int} : ∀ m : Nat, (∀ i, i < m → 0 ≤ f i) → 0 ≤ bs_sm f m ∧ ∀ v, v < m → f v ≤ bs_sm f m := by
  intro m
  induction m with
  | zero => intro _; exact ⟨Int.le_refl _, fun v hv => by omega⟩
  | succ m ih =>
    intro h
    have h1 := ih fun i hi => h i (by omega)
    have h2 := h m (by omega)
    rw [bs_sm]
    refine ⟨by omega, fun v hv => ?_⟩
    by_cases z : v = m
    · rw [z]; omega
    · have := h1.2 v (by omega); omega
theorem bs_sm_two {f : Nat → Int} {v w : Nat} : ∀ m : Nat, (∀ i, i < m → 0 ≤ f i) → v < w → w < m → f v + f w ≤ bs_sm f m := by
  intro m
  induction m with
  | zero => intro _ _ h; omega
  | succ m ih =>
    intro h hvw hw
    have h2 := h m (by omega)
    rw [bs_sm]
    by_cases z : w = m
    · have := (bs_sm_nn m fun i hi => h i (by omega)).2 v (by omega)
      rw [z]; omega
    · have := ih (fun i hi => h i (by omega)) hvw (by omega); omega
theorem bs_mj0_is {V : Vt} {p : Int} : ∀ d i : Nat, (bs_mj0 V p d i = -1 ∧ ∀ v : Nat, i ≤ v → v < i + d → 2 * V p v ≤ bs_tt V p) ∨ ∃ v : Nat, bs_mj0 V p d i = v ∧ i ≤ v ∧ v < i + d ∧ bs_tt V p < 2 * V p v := by
  intro d
  induction d with
  | zero => intro i; exact Or.inl ⟨rfl, fun v h1 h2 => by omega⟩
  | succ d ih =>
    intro i
    rw [bs_mj0]
    by_cases z : bs_tt V p < 2 * V p i
    · rw [if_pos z]; exact Or.inr ⟨i, rfl, Nat.le_refl _, by omega, z⟩
    · rw [if_neg z]
      rcases ih (i + 1) with ⟨y, h⟩ | ⟨v, y1, y2, y3, y4⟩
      · refine Or.inl ⟨y, fun v h1 h2 => ?_⟩
        by_cases w : v = i
        · rw [w]; omega
        · exact h v (by omega) (by omega)
      · exact Or.inr ⟨v, y1, by omega, by omega, y4⟩
theorem bs_two {V : Vt} {n p : Int} (hV : bdV V n) {v w : Nat} (hv : v < 20) (hw : w < 20) (h1 : bs_tt V p < 2 * V p v) (h2 : bs_tt V p < 2 * V p w) : v = w := by
  have k1 : ¬ v < w := fun z => by
    have : V p v + V p w ≤ bs_tt V p := bs_sm_two (f := fun v => V p v) 20 (fun i _ => (hV.1 p i).1) z hw
    omega
  have k2 : ¬ w < v := fun z => by
    have : V p w + V p v ≤ bs_tt V p := bs_sm_two (f := fun v => V p v) 20 (fun i _ => (hV.1 p i).1) z hv
    omega
  omega
theorem bs_mj_is {V : Vt} {n p : Int} (hV : bdV V n) {v : Nat} (hv : v < 20) (h : bs_tt V p < 2 * V p v) : bs_mj V p = v := by
  rcases bs_mj0_is (V := V) (p := p) 20 0 with ⟨-, y⟩ | ⟨w, y1, y2, y3, y4⟩
  · have := y v (by omega) (by omega); omega
  · have := bs_two hV hv (by omega) h y4
    rw [this]; exact y1
theorem al1_m {v : Int} (h : v = -1 ∨ (0 ≤ v ∧ v < 20)) : (al1 v = -1) = (v = -1) := by
  refine propext ⟨fun q => ?_, fun q => by rw [q]; rfl⟩
  rcases h with z | z
  · exact z
  · unfold al1 at q
    rw [if_pos z] at q
    have := al_bd z
    omega
def bs_cd (V : Vt) : Nat → Nat → Int
  | 0, _ => 0
  | d + 1, i => (if bs_mj V i = -1 then 1 else 0) + bs_cd V d (i + 1)
theorem bs_cd_nn {V : Vt} : ∀ d i, 0 ≤ bs_cd V d i := by
  intro d
  induction d with
  | zero => intro i; exact Int.le_refl _
  | succ d ih => intro i; have := ih (i + 1); rw [bs_cd]; split <;> omega
theorem bs_db_cd {V : Vt} : ∀ d i, bs_db V (i + d) = bs_db V i + bs_cd V d i := by
  intro d
  induction d with
  | zero => intro i; show bs_db V i = bs_db V i + 0; omega
  | succ d ih =>
    intro i
    rw [show i + (d + 1) = i + 1 + d by omega, ih (i + 1), bs_db, bs_cd]
    split <;> omega
theorem bs_cd_f {V : Vt} : ∀ d i, (bs_fdt V d i = -1 ∧ bs_cd V d i = 0) ∨ ∃ p : Nat, bs_fdt V d i = p ∧ i ≤ p ∧ p < i + d ∧ bs_mj V p = -1 ∧ bs_cd V d i = 1 + bs_cd V (i + d - (p + 1)) (p + 1) := by
  intro d
  induction d with
  | zero => intro i; exact Or.inl ⟨rfl, rfl⟩
  | succ d ih =>
    intro i
    rw [bs_fdt, bs_cd]
    by_cases z : bs_mj V i = -1
    · rw [if_pos z, if_pos z]
      refine Or.inr ⟨i, rfl, Nat.le_refl _, by omega, z, ?_⟩
      rw [show i + (d + 1) - (i + 1) = d by omega]
    · rw [if_neg z, if_neg z]
      rcases ih (i + 1) with ⟨y1, y2⟩ | ⟨p, y1, y2, y3, y4, y5⟩
      · exact Or.inl ⟨y1, by omega⟩
      · refine Or.inr ⟨p, y1, by omega, by omega, y4, ?_⟩
        rw [y5, show i + (d + 1) - (p + 1) = i + 1 + d - (p + 1) by omega]; omega
theorem bs_cvt_at {V : Vt} : ∀ (n k : Nat) (hk : k < (bs_cvt V n).length), (bs_cvt V n)[k] = (bs_mj V k, 0) := by
  intro n
  induction n with
  | zero => intro k hk; exact absurd hk (Nat.not_lt_zero _)
  | succ n ih =>
    intro k hk
    have hl := bs_cvt_l (V := V) n
    have hk2 : k < n + 1 := by rw [bs_cvt_l] at hk; exact hk
    simp only [bs_cvt]
    by_cases z : k < n
    · rw [List.getElem_append_left (by omega)]; exact ih k (by omega)
    · have e : k = n := by omega
      subst e
      rw [List.getElem_append_right (by omega)]
      simp [hl]
/-- votes are for the symbology's own characters -/
def dgV (V : Vt) (n : Int) : Prop := ∀ p v, n ≤ v → V p v = 0
theorem dgV_ad {n : Int} {l : List Ch} (hl : ∀ c ∈ l, c.1 < n) : ∀ (V : Vt) (p : Int), dgV V n → dgV (bs_ad V l p) n := by
  induction l with
  | nil => intro V p h; exact h
  | cons c l ih =>
    intro V p h
    rw [bs_ad]
    refine ih (fun d hd => hl d (List.mem_cons_of_mem _ hd)) _ _ fun a v hv => ?_
    have := hl c List.mem_cons_self
    unfold bs_a1
    rw [if_neg (by omega)]; exact h a v hv
theorem dgV_v3 {V : Vt} {x : Rd} {L n : Int} (h : dgV V n) (h1 : ∀ c ∈ x.1.1, c.1 < n) (h2 : ∀ c ∈ x.1.2.1, c.1 < n) (h3 : ∀ c ∈ x.1.2.2, c.1 < n) : dgV (bs_v3 V x L) n := by
  unfold bs_v3
  dsimp only
  have k1 : dgV (if (x.1.1.length : Int) = L then bs_ad V x.1.1 0 else V) n := by
    split
    · exact dgV_ad h1 _ _ h
    · exact h
  generalize (if (x.1.1.length : Int) = L then bs_ad V x.1.1 0 else V) = V1 at k1
  have k2 : dgV (if (x.1.2.1.length : Int) ≤ L then bs_ad V1 x.1.2.1 0 else V1) n := by
    split
    · exact dgV_ad h2 _ _ k1
    · exact k1
  generalize (if (x.1.2.1.length : Int) ≤ L then bs_ad V1 x.1.2.1 0 else V1) = V2 at k2
  split
  · exact dgV_ad h3 _ _ k2
  · exact k2
theorem dgV_V {R : Int → Rd} {L n : Int} : ∀ m : Nat, (∀ k : Int, 0 ≤ k ∧ k < m → (∀ c ∈ (R k).1.1, c.1 < n) ∧ (∀ c ∈ (R k).1.2.1, c.1 < n) ∧ ∀ c ∈ (R k).1.2.2, c.1 < n) → dgV (bs_V R L m) n := by
  intro m
  induction m with
  | zero => intro _ p v _; rfl
  | succ m ih =>
    intro h
    have h1 := h m (by omega)
    rw [bs_V]
    exact dgV_v3 (ih fun k hk => h k (by omega)) h1.1 h1.2.1 h1.2.2
theorem gV_dg {σ : Sg} {t : Nat} (h : okS σ) (ht : t < 3) : dgV (gV σ t) (if t = 2 then 20 else 10) :=
  dgV_V _ fun k hk => by
    have ok := okRd_g h (k := k) (by omega) ht
    exact ⟨fun c hc => (ok.2.2.2.2.2.2.1 c hc).1.2, fun c hc => (ok.2.1 c hc).1.2, fun c hc => (ok.2.2.1 c hc).1.2⟩
theorem bs_mj_dg {V : Vt} {n m p : Int} (h : dgV V n) (hV : bdV V m) : bs_mj V p = -1 ∨ (0 ≤ bs_mj V p ∧ bs_mj V p < n) := by
  have ht := (hV.2 p).1
  rcases bs_mj0_is (V := V) (p := p) 20 0 with ⟨y, -⟩ | ⟨v, y1, y2, y3, y4⟩
  · exact Or.inl y
  · refine Or.inr ?_
    have e : bs_mj V p = v := y1
    rw [e]
    by_cases z : n ≤ v
    · have := h p v z; omega
    · omega
section
variable {sl e : Nat} {π : Int → Nat} {M G : Nat → Int → Int} {σ : Sg} {t : Nat} {V : Vt} {p L : Int}
theorem qm_voted_0 (hp : 0 ≤ p ∧ p < 16) (hW : rVt M V) (hV : bdV V 1000000) : ∀ d i : Nat, i + d = 128 → (∀ ch : Int, 0 ≤ ch ∧ ch < (i : Int) → 2 * gVc V p ch ≤ bs_tt V p) → x_M_votedAt_0 867 p (bs_tt V p) i (bM sl π M G e) = rI (al1 (bs_mj V p)) (bM sl π M G e) := by
  have ht := hV.2 p
  intro d
  induction d with
  | zero =>
    intro i hi hb
    rw [x_M_votedAt_0_eq, if_neg (by omega)]
    rcases bs_mj0_is (V := V) (p := p) 20 0 with ⟨y, -⟩ | ⟨v, y1, y2, y3, y4⟩
    · rw [show bs_mj V p = -1 from y]; rfl
    · have ha := al_bd (v := (v : Int)) (by omega)
      have h1 := hb (al v) (by omega)
      have h2 : 0 ≤ (v : Int) ∧ (v : Int) < 20 := by omega
      rw [gVc_al h2] at h1
      omega
  | succ d ih =>
    intro i hi hb
    have e3 : wr ((i : Int) + 1) = ((i + 1 : Nat) : Int) := by rw [wr_id (by omega)]; omega
    have hg := gVc_bd (p := p) (ch := (i : Int)) hV
    rw [x_M_votedAt_0_eq, if_pos (by omega), mo_R32, wr_id (x := 128 * p) (by omega), wr_id (x := 128 * p + i) (by omega), mo_r887 (by omega), hW p i hp (by omega), e3, wr_id (by omega)]
    by_cases z : bs_tt V p < 2 * gVc V p i
    · rw [if_pos z]
      obtain ⟨v, v20, ev, gv⟩ := gVc_pos (V := V) (p := p) (ch := (i : Int)) (by omega)
      rw [gv] at z
      rw [bs_mj_is hV v20 z]
      have h2 : 0 ≤ (v : Int) ∧ (v : Int) < 20 := by omega
      rw [show al1 (v : Int) = al v from if_pos h2, ev]
    · rw [if_neg z]
      exact ih (i + 1) (by omega) (fun ch hch => by
        by_cases y : ch = i
        · rw [y]; omega
        · exact hb ch (by omega))
theorem qm_votedAt (hp : 0 ≤ p ∧ p < 16) (hW : rVt M V) (hV : bdV V 1000000) : d_M_votedAt 867 p (bM sl π M G e) = rI (al1 (bs_mj V p)) (bM sl π M G e) := by
  rw [d_M_votedAt_10 _ _ _ mo_d, x_M_votedAt_eq, qm_allAt hp hW hV]
  simp only [ci_r]
  exact qm_voted_0 hp hW hV 128 0 (by omega) (fun ch h => by omega)
theorem qm_df_0 (hL : 0 ≤ L ∧ L ≤ 16) (hW : L ≠ 0 → rVt M V) (hV : bdV V 1000000) : ∀ d i : Nat, (i : Int) + d = L → x_M_doubtFrom_0 867 L i (bM sl π M G e) = rI (bs_fdt V d i) (bM sl π M G e) := by
  intro d
  induction d with
  | zero =>
    intro i hi
    rw [x_M_doubtFrom_0_eq, if_neg (by omega)]; rfl
  | succ d ih =>
    intro i hi
    have e3 : wr ((i : Int) + 1) = ((i + 1 : Nat) : Int) := by rw [wr_id (by omega)]; omega
    rw [x_M_doubtFrom_0_eq, if_pos (by omega), qm_votedAt (by omega) (hW (by omega)) hV]
    simp only [ci_r, al1_m bs_mj_bd]
    rw [bs_fdt, e3]
    by_cases z : bs_mj V i = -1
    · rw [if_pos z, if_pos z]
    · rw [if_neg z, if_neg z]; exact ih (i + 1) (by omega)
theorem qm_doubtFrom {i : Nat} (hL : 0 ≤ L ∧ L ≤ 16) (hW : L ≠ 0 → rVt M V) (hV : bdV V 1000000) (hi : (i : Int) ≤ L) : d_M_doubtFrom 867 i L (bM sl π M G e) = rI (bs_fdt V (L.toNat - i) i) (bM sl π M G e) := by
  rw [d_M_doubtFrom_10 _ _ _ _ mo_d, x_M_doubtFrom_eq]
  exact qm_df_0 hL hW hV _ i (by omega)
theorem qm_vo_0 (hM : mCon M) {c : Int} : ∀ d i : Nat, i + d = 20 → x_M_valueOf_0 c i (bM sl π M G e) = rI (bs_vi c d i) (bM sl π M G e) := by
  intro d
  induction d with
  | zero => intro i hi; rw [x_M_valueOf_0_eq, if_neg (by omega)]; rfl
  | succ d ih =>
    intro i hi
    have e3 : wr ((i : Int) + 1) = ((i + 1 : Nat) : Int) := by rw [wr_id (by omega)]; omega
    rw [x_M_valueOf_0_eq, if_pos (by omega), bc_charAt (Or.inr ⟨rfl, rfl⟩) hM (by omega)]
    simp only [ci_r]
    rw [bs_vi, e3]
    by_cases z : bs_al i = c
    · rw [if_pos (show al (i : Int) = c from z), if_pos z]
    · rw [if_neg (show ¬ al (i : Int) = c from z), if_neg z]; exact ih (i + 1) (by omega)
theorem qm_valueOf (hM : mCon M) {c : Int} : x_M_valueOf c (bM sl π M G e) = rI (vof c) (bM sl π M G e) := by
  rw [x_M_valueOf_eq]; exact qm_vo_0 hM 20 0 (by omega)
theorem al_dg0 : ∀ k : Nat, k < 10 → bs_al k = 48 + (k : Int) := by decide
theorem al_dg {v : Int} (h : 0 ≤ v ∧ v < 10) : al v = 48 + v := by
  have := al_dg0 v.toNat (by omega)
  unfold al
  omega
/-- the code that a right check is asked of -/
def rtL (t : Nat) (V : Vt) (place c : Int) (l : List Ch) : Prop := ∀ (k : Nat) (hk : k < l.length), (0 ≤ (l[k]).1 ∧ (l[k]).1 < (if t = 2 then 20 else 10)) ∧ ((k : Int) = place → c = al (l[k]).1) ∧ ((k : Int) ≠ place → bs_mj V k = (l[k]).1)
theorem qm_right_0 {place c : Int} {l : List Ch} (hM : mCon M) (hL : (l.length : Int) = L) (h16 : L ≤ 16) (hW : rVt M V) (hV : bdV V 1000000) (hv : rtL t V place c l) : ∀ (d i : Nat) (a : Int), i + d = l.length → 0 ≤ a ∧ a ≤ 100 * i → x_M_isRight_0 867 t L place c a i (bM sl π M G e) = rI (bi (decide (Int.tmod (a + bs_rs t (l.drop i) i) (if t = 2 then 16 else 10) = 0))) (bM sl π M G e) := by
  intro d
  induction d with
  | zero =>
    intro i a hi ha
    rw [x_M_isRight_0_eq, if_neg (by omega), List.drop_eq_nil_of_le (by omega), bs_rs, Int.add_zero]
    by_cases z : t = 2
    · rw [if_pos (by omega), if_pos z]
      by_cases y : Int.tmod a 16 = 0
      · rw [if_pos y, decide_eq_true y]; rfl
      · rw [if_neg y, decide_eq_false y]; rfl
    · rw [if_neg (by omega), if_neg z]
      by_cases y : Int.tmod a 10 = 0
      · rw [if_pos y, decide_eq_true y]; rfl
      · rw [if_neg y, decide_eq_false y]; rfl
  | succ d ih =>
    intro i a hi ha
    have hi2 : i < l.length := by omega
    have e3 : wr ((i : Int) + 1) = ((i + 1 : Nat) : Int) := by rw [wr_id (by omega)]; omega
    obtain ⟨hb, h1, h2⟩ := hv i hi2
    have h20 : 0 ≤ (l[i]).1 ∧ (l[i]).1 < 20 := by split at hb <;> omega
    have st : ∀ x : Int, x = (if t ≠ 2 ∧ Int.tmod i 2 = 0 then 3 * (l[i]).1 else (l[i]).1) → 0 ≤ x ∧ x ≤ 100 → x_M_isRight_0 867 t L place c (wr (a + x)) ((i + 1 : Nat) : Int) (bM sl π M G e) = rI (bi (decide (Int.tmod (a + bs_rs t (l.drop i) i) (if t = 2 then 16 else 10) = 0))) (bM sl π M G e) := by
      intro x hx hx2
      rw [wr_id (by omega), ih (i + 1) (a + x) (by omega) (by omega), List.drop_eq_getElem_cons hi2, bs_rs, ← hx, Int.add_assoc]
    have fin : ∀ y : Int, t ≠ 2 → y = al (l[i]).1 → (if Int.tmod (i : Int) 2 = 0 then x_M_isRight_0 867 t L place c (wr (a + (wr (3 * (wr (y - 48)))))) ((i + 1 : Nat) : Int) (bM sl π M G e) else x_M_isRight_0 867 t L place c (wr (a + (wr (1 * (wr (y - 48)))))) ((i + 1 : Nat) : Int) (bM sl π M G e)) = rI (bi (decide (Int.tmod (a + bs_rs t (l.drop i) i) (if t = 2 then 16 else 10) = 0))) (bM sl π M G e) := by
      intro y z hy
      rw [if_neg z] at hb
      have e5 : wr (y - 48) = (l[i]).1 := by rw [hy, al_dg hb, wr_id (by omega)]; omega
      rw [e5]
      by_cases w : Int.tmod (i : Int) 2 = 0
      · rw [if_pos w, wr_id (x := 3 * (l[i]).1) (by omega)]
        exact st _ (by rw [if_pos ⟨z, w⟩]) (by omega)
      · rw [if_neg w, Int.one_mul, wr_id (x := (l[i]).1) (by omega)]
        exact st _ (by rw [if_neg (fun q => w q.2)]) (by omega)
    rw [x_M_isRight_0_eq, if_pos (by omega), e3]
    by_cases q : (i : Int) = place
    · rw [if_pos q]
      by_cases z : t = 2
      · rw [if_pos (by omega), qm_valueOf hM]
        simp only [ci_r]
        rw [show vof c = (l[i]).1 by rw [h1 q, vof_al h20]]
        exact st _ (by rw [if_neg (fun w => w.1 z)]) (by omega)
      · rw [if_neg (by omega)]
        exact fin c z (h1 q)
    · rw [if_neg q, qm_votedAt (by omega) hW hV]
      simp only [ci_r]
      have ea : al1 (bs_mj V i) = al (l[i]).1 := by unfold al1; rw [h2 q, if_pos h20]
      rw [ea]
      by_cases z : t = 2
      · rw [if_pos (by omega), qm_valueOf hM]
        simp only [ci_r]
        rw [vof_al h20]
        exact st _ (by rw [if_neg (fun w => w.1 z)]) (by omega)
      · rw [if_neg (by omega)]
        exact fin _ z rfl
theorem qm_isRight {place c : Int} {l : List Ch} (hM : mCon M) (hL : (l.length : Int) = L) (h16 : L ≤ 16) (hW : rVt M V) (hV : bdV V 1000000) (hv : rtL t V place c l) : d_M_isRight 867 t L place c (bM sl π M G e) = rI (bi (bs_rt t l)) (bM sl π M G e) := by
  rw [d_M_isRight_10 _ _ _ _ _ _ mo_d, x_M_isRight_eq]
  have := qm_right_0 (sl := sl) (e := e) (π := π) (G := G) hM hL h16 hW hV hv l.length 0 0 (by omega) (by omega)
  rw [Int.zero_add, List.drop_zero] at this
  exact this
end
