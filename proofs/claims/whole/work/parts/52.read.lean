/-! READING A SCAN -/
/-- what is read: (whole, head, tail), reversed, first and last bar of the whole code in the scan as it is -/
abbrev Rd : Type := (List Ch × List Ch × List Ch) × Bool × Int × Int
def bs_rv (w : Int → Int) (n : Int) : Int → Int := fun i => w (n - 1 - i)
def bs_pa (s : Nat) (w : Int → Int) (n : Int) : List Ch × List Ch := (bs_fh s w n 65 1, bs_ft s w n 65 (n - 2))
def bs_read (s : Nat) (w : Int → Int) (n : Int) : Rd :=
  match bs_fw s w n 65 1 with
  | some x => ((x.2.1, [], []), false, x.1, x.2.2)
  | none => match bs_fw s (bs_rv w n) n 65 1 with
    | some x => ((x.2.1, [], []), true, n - 1 - x.2.2, n - 1 - x.1)
    | none => if bs_pa s w n = ([], []) then (([], bs_pa s (bs_rv w n) n), decide (bs_pa s (bs_rv w n) n ≠ ([], [])), 0, 0) else (([], bs_pa s w n), false, 0, 0)
def rRdg (M : Nat → Int → Int) (d : Nat) (x : Rd) : Prop := (rSeq M (d + 1) x.1.1 ∧ rSeq M (d + 4) x.1.2.1 ∧ rSeq M (d + 7) x.1.2.2) ∧ M d 4 = bi x.2.1 ∧ M d 5 = x.2.2.1 ∧ M d 6 = x.2.2.2
def S_f (r d : Nat) (b : Nat) (j : Int) : Prop := (b = r ∧ j = 2) ∨ (d + 1 ≤ b ∧ b ≤ d + 3) ∨ (b = d ∧ (j = 5 ∨ j = 6))
def S_p (r d : Nat) (b : Nat) (j : Int) : Prop := (b = r ∧ j = 2) ∨ (d + 4 ≤ b ∧ b ≤ d + 9)
def S_i (r d : Nat) (b : Nat) (j : Int) : Prop := (b = r ∧ j = 2) ∨ (b = 44 ∨ b = 45) ∨ (d ≤ b ∧ b ≤ d + 9)
theorem bs_nz_len {l : List Ch} : (bs_nz l = []) = (l.length < 2) := by
  unfold bs_nz
  split
  · rename_i h
    refine propext ⟨fun z => ?_, fun z => by omega⟩
    rw [z] at h; exact absurd h (by decide)
  · rename_i h
    exact propext ⟨fun _ => by omega, fun _ => rfl⟩
theorem aRD {r d : Nat} (hr : aRow r) (hd : aRdg d) : ¬ (d ≤ r ∧ r ≤ d + 9) ∧ ¬ (d ≤ r + 1 ∧ r + 1 ≤ d + 9) := by
  have h1 := a_ne hr.1 hd.1 (by decide)
  have h2 := a_ne hr.2.1 hd.1 (by decide)
  have h3 := aRS hr hd.2.2.1.1
  have h4 := aRS hr hd.2.2.1.2.1
  have h5 := aRS hr hd.2.2.1.2.2
  omega
section
variable {sl e : Nat} {π : Int → Nat} {G : Nat → Int → Int} {r q d s : Nat} {n : Int} {w : Int → Int}
theorem bc_fw (hs : s < 3) (hr : aRow r) (hpw : wOK n w) (hd : aRdg d) : ∀ (m : Nat) (b : Int) (M : Nat → Int → Int), mCon M → rRow M r n w → n ≤ b + 2 * m → 0 ≤ b ∧ b ≤ 200 →
    ∃ M', x_Sym_findWhole_0 (22 + s) r d b (bM sl π M G e) = rI (bi (bs_fw s w n m b).isSome) (bM sl π M' G e) ∧ fr (S_f r d) M M' ∧ (∀ x, bs_fw s w n m b = some x → rSeq M' (d + 1) x.2.1 ∧ M' d 5 = x.1 ∧ M' d 6 = x.2.2) ∧ (bs_fw s w n m b = none → rSeq M' (d + 1) [] ∧ ∀ j, M' d j = M d j) := by
  have hq := hd.2.2.1.1
  have hRD := aRD hr hd
  have stop : ∀ (b : Int) (M : Nat → Int → Int), rRow M r n w → ¬ b < n → ∃ M', x_Sym_findWhole_0 (22 + s) r d b (bM sl π M G e) = rI (bi false) (bM sl π M' G e) ∧ fr (S_f r d) M M' ∧ rSeq M' (d + 1) [] ∧ ∀ j, M' d j = M d j := by
    intro b M hw hb
    rw [x_Sym_findWhole_0_eq, row_I hr, hw.2.1, if_neg hb, rdg_w hd, seq_p hq]
    exact ⟨_, rfl, fr_up (Or.inr (Or.inl (by omega))) fr_refl, rSeq_0, fun j => up_a (by omega)⟩
  intro m
  induction m with
  | zero =>
    intro b M hM hw hm hb
    obtain ⟨M', h1, h2, h3⟩ := stop b M hw (by omega)
    exact ⟨M', h1, h2, fun x h => (by cases h), fun _ => h3⟩
  | succ m ih =>
    intro b M hM hw hm hb
    by_cases hbn : b < n
    · have hn := hw.1
      have e1 : wr (b + 2) = b + 2 := wr_id (by omega)
      obtain ⟨M1, g1, f1⟩ := bc_begins (sl := sl) (e := e) (π := π) (G := G) hs hM hr hw hpw (a := b) (by omega)
      have f1u : fr (S_u r (d + 1)) M M1 := fr_mono (fun b j z => Or.inl z) f1
      obtain ⟨hM1, w1⟩ := keep_u hr hq f1u hM hw
      have toF : ∀ {A B : Nat → Int → Int}, fr (S_u r (d + 1)) A B → fr (S_f r d) A B := fun h => fr_mono (fun b j z => by rcases z with z | z; exact Or.inl z; exact Or.inr (Or.inl (by omega))) h
      have keepd : ∀ {A B : Nat → Int → Int}, fr (S_u r (d + 1)) A B → ∀ j, B d j = A d j := fun h j => h d j (by rintro (z | z) <;> omega)
      rw [x_Sym_findWhole_0_eq, row_I hr, hw.2.1, if_pos hbn, g1]
      simp only [cn_r, bi_eq0]
      rw [bs_fw, if_pos hbn, e1]
      have next : ∀ M2, mCon M2 → rRow M2 r n w → fr (S_u r (d + 1)) M M2 → ∃ M', x_Sym_findWhole_0 (22 + s) r d (b + 2) (bM sl π M2 G e) = rI (bi (bs_fw s w n m (b + 2)).isSome) (bM sl π M' G e) ∧ fr (S_f r d) M M' ∧ (∀ x, bs_fw s w n m (b + 2) = some x → rSeq M' (d + 1) x.2.1 ∧ M' d 5 = x.1 ∧ M' d 6 = x.2.2) ∧ (bs_fw s w n m (b + 2) = none → rSeq M' (d + 1) [] ∧ ∀ j, M' d j = M d j) := by
        intro M2 hM2 w2 f2
        obtain ⟨M3, g3, f3, a3, b3⟩ := ih (b + 2) M2 hM2 w2 (by omega) (by omega)
        exact ⟨M3, g3, fr_trans (toF f2) f3, a3, fun z => ⟨(b3 z).1, fun j => ((b3 z).2 j).trans (keepd f2 j)⟩⟩
      cases hbe : bs_be s w n b with
      | false =>
        rw [if_pos rfl]
        exact next M1 hM1 w1 f1u
      | true =>
        rw [if_neg (by decide), rdg_w hd, if_pos rfl]
        obtain ⟨M2, g2, f2, l2⟩ := bc_addWhole (sl := sl) (e := e) (π := π) (G := G) hs hM1 hr w1 hpw hq (b := b) (by omega)
        obtain ⟨hM2, w2⟩ := keep_u hr hq f2 hM1 w1
        rw [g2]
        simp only [cn_r]
        cases hwh : bs_wh s w n b with
        | none =>
          rw [if_pos (show bs_la none = -1 from rfl)]
          exact next M2 hM2 w2 (fr_trans f1u f2)
        | some p =>
          have hp2 : bs_la (some p) = p.2 := rfl
          rw [hp2]
          have hpn : p.2 ≠ -1 := sorry
          rw [if_neg hpn, rdg_p hd, rdg_p hd]
          refine ⟨_, rfl, fr_up (Or.inr (Or.inr ⟨rfl, Or.inr rfl⟩)) (fr_up (Or.inr (Or.inr ⟨rfl, Or.inl rfl⟩)) (fr_trans (toF f1u) (toF f2))), fun x hx => ?_, fun h => by cases h⟩
          cases hx
          refine ⟨?_, ?_, ?_⟩
          · exact rSeq_fr (S := fun b j => b = d) (l2 p hwh) (fr_up rfl (fr_up rfl fr_refl)) (fun b j z y => by omega)
          · dsimp only; rw [up_i (by decide), up_s]
          · exact up_s
    · obtain ⟨M', h1, h2, h3⟩ := stop b M hw hbn
      rw [bs_fw, if_neg hbn]
      exact ⟨M', h1, h2, fun x h => (by cases h), fun _ => h3⟩
end
