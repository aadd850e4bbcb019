/-! SUMS; the class's module and spread -/
theorem bs_sm_l {f : Nat → Int} : ∀ m : Nat, bs_sm f (m + 1) = f 0 + bs_sm (fun k => f (k + 1)) m := by
  intro m
  induction m with
  | zero => rw [bs_sm, bs_sm, bs_sm]; omega
  | succ m ih => rw [bs_sm, ih, bs_sm]; omega
theorem bs_sm_bd {f : Nat → Int} {a b : Int} : ∀ m : Nat, (∀ i, i < m → a ≤ f i ∧ f i ≤ b) → a * m ≤ bs_sm f m ∧ bs_sm f m ≤ b * m := by
  intro m
  induction m with
  | zero => intro _; rw [bs_sm]; omega
  | succ m ih =>
    intro h
    have h1 := ih fun i hi => h i (by omega)
    have h2 := h m (by omega)
    have e1 : a * ((m + 1 : Nat) : Int) = a * m + a := by rw [show ((m + 1 : Nat) : Int) = (m : Int) + 1 from rfl, Int.mul_add, Int.mul_one]
    have e2 : b * ((m + 1 : Nat) : Int) = b * m + b := by rw [show ((m + 1 : Nat) : Int) = (m : Int) + 1 from rfl, Int.mul_add, Int.mul_one]
    rw [bs_sm]
    omega
theorem bs_sm_rev {f : Nat → Int} : ∀ m : Nat, bs_sm (fun k => f (m - 1 - k)) m = bs_sm f m := by
  intro m
  induction m with
  | zero => rfl
  | succ m ih =>
    rw [bs_sm_l, show bs_sm f (m + 1) = bs_sm f m + f m from rfl, ← ih]
    have : bs_sm (fun k => f (m + 1 - 1 - (k + 1))) m = bs_sm (fun k => f (m - 1 - k)) m := bs_sm_ext m fun i hi => by rw [show m + 1 - 1 - (i + 1) = m - 1 - i by omega]
    rw [this]
    show f (m + 1 - 1 - 0) + _ = _
    rw [show m + 1 - 1 - 0 = m by omega]
    omega
/-- the sum of those at even places -/
def bs_ev (f : Nat → Int) (m : Nat) : Int := bs_sm (fun k => if k % 2 = 0 then f k else 0) m
theorem bs_ev_2 {f : Nat → Int} : ∀ j : Nat, bs_sm (fun k => f (2 * k)) j = bs_ev f (2 * j) := by
  intro j
  induction j with
  | zero => rfl
  | succ j ih =>
    unfold bs_ev at ih ⊢
    rw [bs_sm, ih, show 2 * (j + 1) = 2 * j + 1 + 1 by omega, bs_sm, bs_sm, if_pos (by omega), if_neg (by omega)]
    omega
theorem bs_ev_odd {f : Nat → Int} (j : Nat) : bs_sm (fun k => f (2 * k)) (j + 1) = bs_ev f (2 * j + 1) := by
  have h := bs_ev_2 (f := f) j
  unfold bs_ev at h ⊢
  rw [bs_sm, bs_sm, h, if_pos (by omega)]
theorem bs_ev_rev {f : Nat → Int} {m : Nat} (hm : m % 2 = 1) : bs_ev (fun k => f (m - 1 - k)) m = bs_ev f m := by
  unfold bs_ev
  rw [← bs_sm_rev (f := fun k => if k % 2 = 0 then f k else 0) m]
  refine bs_sm_ext m fun i hi => ?_
  by_cases z : i % 2 = 0
  · rw [if_pos z, if_pos (by omega)]
  · rw [if_neg z, if_neg (by omega)]
theorem bs_bt_bd {p i : Int} : 1 ≤ bs_bt p i ∧ bs_bt p i ≤ 4 := by
  unfold bs_bt
  split <;> omega
theorem bs_bl_bd {p : Int} : ∀ s, ∀ x ∈ bs_bl p s, 1 ≤ x ∧ x ≤ 4 := by
  intro s
  induction s with
  | zero => intro x hx; cases hx
  | succ s ih =>
    intro x hx
    rw [bs_bl] at hx
    rcases List.mem_cons.mp hx with z | z
    · rw [z]; exact bs_bt_bd
    · exact ih x z
theorem bs_pl_bd {a b : Int} : ∀ s, ∀ x ∈ bs_pl a b s, 1 ≤ x ∧ x ≤ 4 := by
  intro s
  induction s with
  | zero => intro x hx; cases hx
  | succ s ih =>
    intro x hx
    rw [bs_pl] at hx
    rcases List.mem_cons.mp hx with z | z
    · rw [z]; exact bs_bt_bd
    · rcases List.mem_cons.mp z with z | z
      · rw [z]; exact bs_bt_bd
      · exact ih x z
theorem bs_E_bd : ∀ k : Nat, k < 40 → 1 ≤ bs_E k ∧ bs_E k ≤ 4 := by decide
theorem bs_el_bd {v : Int} (hv : 0 ≤ v ∧ v < 10) : ∀ s, s ≤ 4 → ∀ x ∈ bs_el v s, 1 ≤ x ∧ x ≤ 4 := by
  intro s
  induction s with
  | zero => intro _ x hx; cases hx
  | succ s ih =>
    intro hs x hx
    rw [bs_el] at hx
    rcases List.mem_cons.mp hx with z | z
    · rw [z]; exact bs_E_bd _ (by omega)
    · exact ih (by omega) x z
theorem bs_on_bd {n : Nat} : ∀ x ∈ bs_on n, 1 ≤ x ∧ x ≤ 4 := fun x hx => by rw [List.eq_of_mem_replicate hx]; decide
theorem bs_dc_bd {l : List Ch} : ∀ i, ∀ x ∈ bs_dc l i, 1 ≤ x ∧ x ≤ 4 := by
  induction l with
  | nil => intro i x hx; cases hx
  | cons c l ih =>
    intro i x hx
    rw [bs_dc] at hx
    rcases List.mem_append.mp hx with z | z
    · split at z
      · rw [List.mem_singleton.mp z]; decide
      · cases z
    · rcases List.mem_append.mp z with z | z
      · exact bs_bl_bd _ x z
      · exact ih _ x z
theorem bs_dp_bd : ∀ (n : Nat) (l : List Ch), l.length ≤ n → ∀ x ∈ bs_dp l, 1 ≤ x ∧ x ≤ 4 := by
  have base : ∀ x ∈ ([3, 1, 1] : List Int), 1 ≤ x ∧ x ≤ 4 := by decide
  intro n
  induction n with
  | zero =>
    intro l h x hx
    match l, h with
    | [], _ => exact base x hx
  | succ n ih =>
    intro l h x hx
    match l, h with
    | [], _ => exact base x hx
    | [_], _ => exact base x hx
    | c :: d :: l, h =>
      rw [bs_dp] at hx
      rcases List.mem_append.mp hx with z | z
      · exact bs_pl_bd _ x z
      · exact ih l (by simp at h; omega) x z
theorem bs_de_bd {l : List Ch} : ∀ i, (∀ c ∈ l, 0 ≤ c.1 ∧ c.1 < 10) → ∀ x ∈ bs_de l i, 1 ≤ x ∧ x ≤ 4 := by
  induction l with
  | nil => intro i _ x hx; exact bs_on_bd x hx
  | cons c l ih =>
    intro i h x hx
    rw [bs_de] at hx
    rcases List.mem_append.mp hx with z | z
    · split at z
      · exact bs_on_bd x z
      · cases z
    · rcases List.mem_append.mp z with z | z
      · exact bs_el_bd (h c List.mem_cons_self) 4 (Nat.le_refl _) x z
      · exact ih _ (fun d hd => h d (List.mem_cons_of_mem _ hd)) x z
theorem bs_dr_bd {s : Nat} {l : List Ch} (hs : s < 3) (h : okW s l) : ∀ x ∈ bs_dr s l, 1 ≤ x ∧ x ≤ 4 := by
  unfold bs_dr
  intro x hx
  match s, hs with
  | 0, _ =>
    rw [if_pos rfl] at hx
    rcases List.mem_append.mp hx with z | z
    · exact bs_on_bd x z
    · exact bs_de_bd _ (fun c hc => (h.1 c hc).1) x z
  | 1, _ =>
    rw [if_neg (by decide), if_pos rfl] at hx
    rcases List.mem_append.mp hx with z | z
    · exact bs_on_bd x z
    · exact bs_dp_bd _ l (Nat.le_refl _) x z
  | 2, _ =>
    rw [if_neg (by decide), if_neg (by decide)] at hx
    exact bs_dc_bd _ x hx
theorem dw_bd {D : List Int} (h : ∀ x ∈ D, 1 ≤ x ∧ x ≤ 4) {i : Int} (hi : 0 ≤ i ∧ i < (D.length : Int)) : 1 ≤ dw D i ∧ dw D i ≤ 4 := by
  unfold dw
  have h2 : i.toNat < D.length := by omega
  rw [List.getD_eq_getElem?_getD, List.getElem?_eq_getElem h2]
  exact h _ (List.getElem_mem h2)
theorem nm_odd {s : Nat} {l : List Ch} (hs : s < 3) (h : okW s l) : bs_nm s l.length % 2 = 1 ∧ 17 ≤ bs_nm s l.length ∧ bs_nm s l.length ≤ 127 := by
  unfold bs_nm
  match s, hs with
  | 0, _ => rw [if_pos rfl]; decide
  | 1, _ => have := h.2.2.1 rfl; rw [if_neg (by decide), if_pos rfl]; omega
  | 2, _ => have := h.2.2.2 rfl; rw [if_neg (by decide), if_neg (by decide)]; omega
/-- W, B, T, U: the sums of a whole code -/
def gMm (σ : Sg) (k : Int) (t : Nat) : Nat := (bs_dr t (gR σ t k).1.1).length
def gSf (σ : Sg) (k : Int) (t : Nat) : Nat → Int := fun i => gw σ k ((gR σ t k).2.2.1 + i)
def gSd (σ : Sg) (k : Int) (t : Nat) : Nat → Int := fun i => dw (bs_dr t (gR σ t k).1.1) i
def gMd (σ : Sg) (k : Int) (t : Nat) : Int := wr (wl (Int.tdiv (wl (100 * bs_sm (gSf σ k t) (gMm σ k t))) (bs_sm (gSd σ k t) (gMm σ k t))))
def gSp (σ : Sg) (k : Int) (t : Nat) : Int := 100 * (bs_ev (gSf σ k t) (gMm σ k t) * bs_sm (gSd σ k t) (gMm σ k t) - bs_sm (gSf σ k t) (gMm σ k t) * bs_ev (gSd σ k t) (gMm σ k t))
def gSq (σ : Sg) (k : Int) (t : Nat) : Int := (((gMm σ k t : Nat) : Int) + 1) / 2 * bs_sm (gSd σ k t) (gMm σ k t)
def bs_fl (x y : Int) : Int := if y * Int.tdiv x y ≤ x then Int.tdiv x y else Int.tdiv x y - 1
section
variable {sl e : Nat} {π : Int → Nat} {M G : Nat → Int → Int} {σ : Sg} {r : Nat} {k : Int} {t : Nat} {n : Int} {w : Int → Int}
theorem bc_sum_0 {st b : Int} (hr : aRow r) (hw : rRow M r n w) (hst : st = 1 ∨ st = 2) (hb : b < n) : ∀ (d : Nat) (i acc : Int), 0 ≤ i → (d : Int) ≤ 200 → i + st * d ≤ b + st ∧ b < i + st * d → (∀ j : Nat, j < d → 0 ≤ w (i + st * j) ∧ w (i + st * j) ≤ 10000) → 0 ≤ acc ∧ acc ≤ 10000 * (1000 - d) →
    x_Row_sum_0 r b st acc i (bM sl π M G e) = rL (acc + bs_sm (fun j => w (i + st * j)) d) (bM sl π M G e) := by
  have hn := hw.1
  intro d
  induction d with
  | zero =>
    intro i acc h0 hd hi hx ha
    rw [x_Row_sum_0_eq, if_pos (by rcases hst with z | z <;> subst z <;> omega), bs_sm, Int.add_zero]
  | succ d ih =>
    intro i acc h0 hd hi hx ha
    have h1 : i ≤ b := by rcases hst with z | z <;> subst z <;> omega
    have hx0 := hx 0 (by omega)
    rw [show i + st * ((0 : Nat) : Int) = i by rcases hst with z | z <;> subst z <;> omega] at hx0
    have e1 : ∀ j : Nat, i + st + st * (j : Int) = i + st * ((j + 1 : Nat) : Int) := fun j => by rcases hst with z | z <;> subst z <;> omega
    have e2 : bs_sm (fun j : Nat => w (i + st * (j : Int))) (d + 1) = w i + bs_sm (fun j : Nat => w (i + st + st * (j : Int))) d := by
      rw [bs_sm_l, bs_sm_ext d (fun j _ => by rw [← e1 j])]
      rw [show i + st * ((0 : Nat) : Int) = i by rcases hst with z | z <;> subst z <;> omega]
    rw [x_Row_sum_0_eq, if_neg (by omega), row_w hr, row_r hr (by omega), hw.2.2 i (by omega), wl_id (by omega), wr_id (by rcases hst with z | z <;> subst z <;> omega)]
    rw [ih (i + st) (acc + w i) (by rcases hst with z | z <;> subst z <;> omega) (by omega) (by rcases hst with z | z <;> subst z <;> omega) (fun j hj => by rw [e1]; exact hx (j + 1) (by omega)) (by omega), e2, Int.add_assoc]
theorem bc_sum {st a b : Int} {d : Nat} (hr : aRow r) (hw : rRow M r n w) (hst : st = 1 ∨ st = 2) (ha : 0 ≤ a) (hb : b < n) (hd : (d : Int) ≤ 200) (hi : a + st * d ≤ b + st ∧ b < a + st * d) (hx : ∀ j : Nat, j < d → 0 ≤ w (a + st * j) ∧ w (a + st * j) ≤ 10000) :
    d_Row_sum r a b st (bM sl π M G e) = rL (bs_sm (fun j => w (a + st * j)) d) (bM sl π M G e) := by
  have hn := hw.1
  rw [d_Row_sum_5 _ _ _ _ _ (row_d hr), x_Row_sum_eq, if_neg (by omega), row_I hr, hw.2.1, if_pos hb, if_neg (by omega), bc_sum_0 hr hw hst hb d a 0 ha hd hi hx (by omega), Int.zero_add]
theorem bc_drawWhole {d : Nat} {x : Rd} (hd : aRdg d) (ht : t < 3) (hM : mCon M) (hr : rRdg M d x) (hok : x.1.1 ≠ [] → okW t x.1.1) : (x.1.1 = [] → d_E_drawWhole 16 (22 + t) d (bM sl π M G e) = rX 4 (bM sl π M G (e + 1))) ∧ (x.1.1 ≠ [] → ∃ M', d_E_drawWhole 16 (22 + t) d (bM sl π M G e) = rI 0 (bM sl π M' G e) ∧ fr (S_ra 46) M M' ∧ rD M' 46 (bs_dr t x.1.1)) := by
  have hq := hd.2.2.1.1
  have hin := aRdg_in hd
  refine ⟨fun z => ?_, fun z => ?_⟩
  · rw [d_E_drawWhole_9 _ _ _ _ en_d, x_E_drawWhole_eq, rdg_w hd, seq_I hq, hr.1.1.1, z, if_pos (show (([] : List Ch).length : Int) = 0 from rfl)]
    rfl
  · have hl : ¬ (x.1.1.length : Int) = 0 := by
      have : x.1.1.length ≠ 0 := fun y => z (List.eq_nil_of_length_eq_zero y)
      omega
    have f0 : fr (S_ra 46) M (up M 46 1 0) := fr_up (Or.inr ⟨rfl, rfl⟩) fr_refl
    obtain ⟨M', g, f, w⟩ := bc_draw (sl := sl) (e := e) (π := π) (G := G) ht a_46 hq (mCon_fr hM f0 fun b j z => S_ra_con a_46 z) (rSeq_fr hr.1.1 f0 fun b j z => S_ra_seq a_46 hq z) (hok z) up_s
    rw [d_E_drawWhole_9 _ _ _ _ en_d, x_E_drawWhole_eq, rdg_w hd, seq_I hq, hr.1.1.1, if_neg hl, en_R10, row_p a_46, rdg_w hd, en_R10, g]
    exact ⟨M', rfl, fr_trans f0 f, w⟩
end
