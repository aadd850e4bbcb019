/-! VOTES (what they are), AND THE STATE -/
def bs_lc (l : List Ch) : Int := l.foldl (fun m c => bs_mn m c.2) 100
def bs_su (R : Int → Rd) (n : Nat) : Nat → Int
  | 0 => 0
  | k + 1 => if (R k).1.1.length = n ∧ 0 < n then bs_su R n k + (1 + bs_lc (R k).1.1) else bs_su R n k
def bs_best (R : Int → Rd) (c : Nat) : Nat → Nat
  | 0 => 0
  | m + 1 => if bs_su R (bs_best R c m) c < bs_su R (m + 1) c then m + 1 else bs_best R c m
def bs_hl (s : Nat) (n : Int) : Bool := if s = 0 then decide (n = 8) else if s = 1 then decide ((2 ≤ n ∧ n ≤ 14) ∧ Int.tmod n 2 = 0) else decide (3 ≤ n ∧ n ≤ 16)
/-- the last o of a head are the first o of a tail -/
def bs_ov (h t : List Ch) (o : Nat) : Bool := decide (((h.drop (h.length - o)).map fun c => c.1) = (t.take o).map fun c => c.1)
def bs_se0 (s : Nat) (h t : List Ch) : Nat → Int
  | 0 => -1
  | o + 1 => if 2 ≤ o + 1 then (if bs_ov h t (o + 1) && bs_hl s ((h.length : Int) + t.length - (o + 1 : Nat)) then ((o + 1 : Nat) : Int) else bs_se0 s h t o) else -1
def bs_se (s : Nat) (h t : List Ch) : Int := if s = 0 then (if h.length = 4 ∧ t.length = 4 then 0 else -1) else bs_se0 s h t (min h.length t.length)
/-- the greatest overlap, and the length that goes with it: over all j, over all i -/
def bs_jj (s : Nat) (R : Int → Rd) (i : Int) : Nat → Int × Int → Int × Int
  | 0, p => p
  | j + 1, p => if i ≠ j ∧ (bs_jj s R i j p).1 < bs_se s (R i).1.2.1 (R j).1.2.2 then (bs_se s (R i).1.2.1 (R j).1.2.2, ((R i).1.2.1.length : Int) + (R j).1.2.2.length - bs_se s (R i).1.2.1 (R j).1.2.2) else bs_jj s R i j p
def bs_ji (s : Nat) (R : Int → Rd) (c : Nat) : Nat → Int × Int
  | 0 => (-1, 0)
  | i + 1 => bs_jj s R i c (bs_ji s R c i)
def bs_any (f : Int → Bool) : Nat → Bool
  | 0 => false
  | k + 1 => bs_any f k || f k
def bs_jl (s : Nat) (R : Int → Rd) (c : Nat) : Int :=
  if s = 0 then (if bs_any (fun k => decide ((R k).1.2.1 ≠ [])) c && bs_any (fun k => decide ((R k).1.2.2 ≠ [])) c then 8 else 0) else (bs_ji s R c c).2
/-- the length of a symbology -/
def bs_L (s : Nat) (R : Int → Rd) (c : Nat) : Int := if bs_best R c 16 = 0 then bs_jl s R c else (bs_best R c 16 : Nat)
abbrev Vt : Type := Int → Int → Int
def bs_a1 (V : Vt) (p v x : Int) : Vt := fun a u => if a = p ∧ u = v then V a u + x else V a u
def bs_ad (V : Vt) : List Ch → Int → Vt
  | [], _ => V
  | c :: l, p => bs_ad (bs_a1 V p c.1 (1 + c.2)) l (p + 1)
def bs_v3 (V : Vt) (x : Rd) (L : Int) : Vt :=
  let V1 := if (x.1.1.length : Int) = L then bs_ad V x.1.1 0 else V
  let V2 := if (x.1.2.1.length : Int) ≤ L then bs_ad V1 x.1.2.1 0 else V1
  if (x.1.2.2.length : Int) ≤ L then bs_ad V2 x.1.2.2 (L - x.1.2.2.length) else V2
def bs_V (R : Int → Rd) (L : Int) : Nat → Vt
  | 0 => fun _ _ => 0
  | k + 1 => bs_v3 (bs_V R L k) (R k) L
def bs_sm (f : Nat → Int) : Nat → Int
  | 0 => 0
  | m + 1 => bs_sm f m + f m
def bs_tt (V : Vt) (p : Int) : Int := bs_sm (fun v => V p v) 20
/-- the value with the majority; none: -1 -/
def bs_mj0 (V : Vt) (p : Int) : Nat → Nat → Int
  | 0, _ => -1
  | d + 1, i => if bs_tt V p < 2 * V p i then (i : Int) else bs_mj0 V p d (i + 1)
def bs_mj (V : Vt) (p : Int) : Int := bs_mj0 V p 20 0
/-! the state: scans, their sizes and widths; text; pending widths; checks -/
abbrev Sg : Type := Int × (Int → Int) × (Int → Int → Int) × Int × (Int → Int) × Int × (Int → Int) × (Int → Int)
def gc (σ : Sg) : Int := σ.1
def gs (σ : Sg) : Int → Int := σ.2.1
def gw (σ : Sg) : Int → Int → Int := σ.2.2.1
def gtl (σ : Sg) : Int := σ.2.2.2.1
def gtx (σ : Sg) : Int → Int := σ.2.2.2.2.1
def gpl (σ : Sg) : Int := σ.2.2.2.2.2.1
def gpw (σ : Sg) : Int → Int := σ.2.2.2.2.2.2.1
def gk (σ : Sg) : Int → Int := σ.2.2.2.2.2.2.2
def okScan (σ : Sg) (k : Int) : Prop := (3 ≤ gs σ k ∧ gs σ k ≤ 129 ∧ gs σ k % 2 = 1) ∧ wOK (gs σ k) (gw σ k)
def okS (σ : Sg) : Prop := (0 ≤ gc σ ∧ gc σ ≤ 24) ∧ (∀ k, 0 ≤ k ∧ k < gc σ → okScan σ k) ∧ (0 ≤ gtl σ ∧ gtl σ ≤ 60) ∧ (∀ i, 0 ≤ i ∧ i < gtl σ → 0 ≤ gtx σ i ∧ gtx σ i ≤ 255) ∧ (0 ≤ gpl σ ∧ gpl σ ≤ 129) ∧ wOK (gpl σ) (gpw σ) ∧ ∀ s, 0 ≤ s ∧ s < 3 → gk σ s = 0 ∨ gk σ s = 1
/-- the reading of a scan -/
def gR (σ : Sg) (s : Nat) (k : Int) : Rd := bs_read s (gw σ k) (gs σ k)
def gL (σ : Sg) (s : Nat) : Int := bs_L s (gR σ s) (gc σ).toNat
def gV (σ : Sg) (s : Nat) : Vt := bs_V (gR σ s) (gL σ s) (gc σ).toNat
def PV (π : Int → Nat) : Prop := (∀ k, 0 ≤ k ∧ k < 24 → ∃ q, q < 24 ∧ π k = 51 + 34 * q) ∧ ∀ i j, 0 ≤ i ∧ i < 24 → 0 ≤ j ∧ j < 24 → π i = π j → i = j
def rTal (M : Nat → Int → Int) (t : Nat) (L : Int) (V : Vt) : Prop := M t 4 = L ∧ (∀ p v, 0 ≤ p ∧ p < 16 → 0 ≤ v ∧ v < 20 → M (t + 1) (20 * p + v) = V p v) ∧ (∀ p, 0 ≤ p ∧ p < 16 → M (t + 3) p = bs_tt V p) ∧ ∀ p, 0 ≤ p ∧ p < 16 → M (t + 4) p = bs_mj V p
def cRd (σ : Sg) (π : Int → Nat) (M : Nat → Int → Int) : Prop := ∀ (k : Int) (s : Nat), 0 ≤ k ∧ k < gc σ → s < 3 → M (π k + (4 + 10 * s)) 3 ≠ 0 → rRdg M (π k + (4 + 10 * s)) (gR σ s k)
def cTl (σ : Sg) (M : Nat → Int → Int) : Prop := ∀ s : Nat, s < 3 → M (26 + 5 * s) 5 ≠ 0 → rTal M (26 + 5 * s) (gL σ s) (gV σ s)
/-- the class's memory holds a state -/
def CR (σ : Sg) (π : Int → Nat) (M : Nat → Int → Int) : Prop :=
  okS σ ∧ mCon M ∧ (M 16 4 = gc σ ∧ M 16 1 = gtl σ) ∧ (∀ i, 0 ≤ i ∧ i < gtl σ → M 17 i = gtx σ i) ∧ rRow M 18 (gpl σ) (gpw σ) ∧ (∀ s, 0 ≤ s ∧ s < 3 → M 41 s = gk σ s) ∧ PV π ∧
  (∀ k, 0 ≤ k ∧ k < gc σ → rRow M (π k + 1) (gs σ k) (gw σ k)) ∧ cRd σ π M ∧ cTl σ M
/-- the model's memory holds a state -/
def MR (σ : Sg) (M : Nat → Int → Int) : Prop :=
  okS σ ∧ mMod M ∧ (M 867 8 = gc σ ∧ M 867 9 = gpl σ ∧ M 867 10 = gtl σ) ∧ (∀ i, 0 ≤ i ∧ i < gtl σ → M 871 i = gtx σ i) ∧ (∀ i, 0 ≤ i ∧ i < gpl σ → M 870 i = gpw σ i) ∧ (∀ s, 0 ≤ s ∧ s < 3 → M 872 s = gk σ s) ∧
  ∀ k, 0 ≤ k ∧ k < gc σ → mScan M k (gs σ k) (gw σ k)
theorem rRdg_fr {S : Nat → Int → Prop} {M M' : Nat → Int → Int} {d : Nat} {x : Rd} (h : rRdg M d x) (f : fr S M M') (hs : ∀ b j, d ≤ b ∧ b ≤ d + 9 → ¬ S b j) : rRdg M' d x :=
  ⟨⟨rSeq_fr h.1.1 f fun b j z => hs b j (by omega), rSeq_fr h.1.2.1 f fun b j z => hs b j (by omega), rSeq_fr h.1.2.2 f fun b j z => hs b j (by omega)⟩,
    (f _ _ (hs _ _ (by omega))).trans h.2.1, (f _ _ (hs _ _ (by omega))).trans h.2.2.1, (f _ _ (hs _ _ (by omega))).trans h.2.2.2⟩
theorem rTal_fr {S : Nat → Int → Prop} {M M' : Nat → Int → Int} {t : Nat} {L : Int} {V : Vt} (h : rTal M t L V) (f : fr S M M') (hs : ∀ b j, t ≤ b ∧ b ≤ t + 4 → b ≠ t + 2 → ¬ S b j) : rTal M' t L V :=
  ⟨(f _ _ (hs _ _ (by omega) (by omega))).trans h.1, fun p v hp hv => (f _ _ (hs _ _ (by omega) (by omega))).trans (h.2.1 p v hp hv), fun p hp => (f _ _ (hs _ _ (by omega) (by omega))).trans (h.2.2.1 p hp), fun p hp => (f _ _ (hs _ _ (by omega) (by omega))).trans (h.2.2.2 p hp)⟩
/-- scratch of the class: nothing that a state needs -/
def S_z (π : Int → Nat) (b : Nat) (j : Int) : Prop := (b = 28 ∨ b = 33 ∨ b = 38) ∨ (42 ≤ b ∧ b ≤ 50) ∨ 867 ≤ b ∨ (j = 2 ∧ ∃ k, 0 ≤ k ∧ k < 24 ∧ b = π k + 1)
theorem PV_in {π : Int → Nat} (h : PV π) {k : Int} (hk : 0 ≤ k ∧ k < 24) : 51 ≤ π k ∧ π k + 34 ≤ 867 := by
  obtain ⟨q, h1, h2⟩ := h.1 k hk
  omega
theorem PV_ne {π : Int → Nat} (h : PV π) {i j : Int} (hi : 0 ≤ i ∧ i < 24) (hj : 0 ≤ j ∧ j < 24) (hne : i ≠ j) : π i + 34 ≤ π j ∨ π j + 34 ≤ π i := by
  obtain ⟨q, h1, h2⟩ := h.1 i hi
  obtain ⟨p, h3, h4⟩ := h.1 j hj
  have : π i ≠ π j := fun z => hne (h.2 i j hi hj z)
  omega
theorem PV_a {π : Int → Nat} (h : PV π) {k : Int} (hk : 0 ≤ k ∧ k < 24) : aScn (π k) := by
  obtain ⟨q, h1, h2⟩ := h.1 k hk
  rw [h2]; exact a_scn q h1
theorem PV_row {π : Int → Nat} (h : PV π) {k : Int} (hk : 0 ≤ k ∧ k < 24) : aRow (π k + 1) := (PV_a h hk).2.2.2.2.2.1.1
theorem PV_rdg {π : Int → Nat} (h : PV π) {k : Int} (hk : 0 ≤ k ∧ k < 24) {s : Nat} (hs : s < 3) : aRdg (π k + (4 + 10 * s)) := by
  match s, hs with
  | 0, _ => exact (PV_a h hk).2.2.2.2.2.1.2.1
  | 1, _ => exact (PV_a h hk).2.2.2.2.2.1.2.2.1
  | 2, _ => exact (PV_a h hk).2.2.2.2.2.1.2.2.2
/-- a place of a scan's block is no row's slot 2, but its own row's -/
theorem S_z_blk {π : Int → Nat} (h : PV π) {k : Int} (hk : 0 ≤ k ∧ k < 24) {b : Nat} {j : Int} (hb : π k ≤ b ∧ b < π k + 34) (hne : b = π k + 1 → j ≠ 2) : ¬ S_z π b j := by
  have h1 := PV_in h hk
  rintro (z | z | z | ⟨hj, i, hi0, hi, z⟩)
  · omega
  · omega
  · omega
  · by_cases hik : i = k
    · subst hik; exact hne z hj
    · have := PV_ne h ⟨hi0, hi⟩ hk hik
      omega
theorem S_z_lo {π : Int → Nat} (h : PV π) {b : Nat} {j : Int} (hb : b < 42 ∧ b ≠ 28 ∧ b ≠ 33 ∧ b ≠ 38) : ¬ S_z π b j := by
  rintro (z | z | z | ⟨hj, i, hi0, hi, z⟩)
  · omega
  · omega
  · omega
  · have := PV_in h ⟨hi0, hi⟩
    omega
theorem CR_fr {σ : Sg} {π : Int → Nat} {M M' : Nat → Int → Int} (h : CR σ π M) (f : fr (S_z π) M M') : CR σ π M' := by
  obtain ⟨h1, h2, h3, h4, h5, h6, h7, h8, h9, h10⟩ := h
  have lo : ∀ b j, (b < 42 ∧ b ≠ 28 ∧ b ≠ 33 ∧ b ≠ 38) → M' b j = M b j := fun b j hb => f b j (S_z_lo h7 hb)
  refine ⟨h1, ?_, ⟨?_, ?_⟩, fun i hi => ?_, ?_, fun s hs => ?_, h7, fun k hk => ?_, fun k s hk hs hne => ?_, fun s hs hne => ?_⟩
  · refine mCon_fr h2 (S := fun b j => 42 ≤ b ∨ b = 28 ∨ b = 33 ∨ b = 38) (fun b j z => lo b j (by omega)) fun b j z => by omega
  · rw [lo _ _ (by omega)]; exact h3.1
  · rw [lo _ _ (by omega)]; exact h3.2
  · rw [lo _ _ (by omega)]; exact h4 i hi
  · exact rRow_fr h5 (S := fun b j => 42 ≤ b ∨ b = 28 ∨ b = 33 ∨ b = 38) (fun b j z => lo b j (by omega)) (by omega) (fun j => by omega)
  · rw [lo _ _ (by omega)]; exact h6 s hs
  · have hk24 : 0 ≤ k ∧ k < 24 := by have := h1.1; omega
    exact rRow_fr (h8 k hk) f (S_z_blk h7 hk24 (by omega) (fun _ => by decide)) (fun j => S_z_blk h7 hk24 (by omega) (fun z => by omega))
  · have hk24 : 0 ≤ k ∧ k < 24 := by have := h1.1; omega
    have nz : ∀ b j, π k + (4 + 10 * s) ≤ b ∧ b ≤ π k + (4 + 10 * s) + 9 → ¬ S_z π b j := fun b j hb => S_z_blk h7 hk24 (by omega) (fun z => by omega)
    rw [f _ _ (nz _ _ (by omega))] at hne
    exact rRdg_fr (h9 k s hk hs hne) f nz
  · rw [lo _ _ (by omega)] at hne
    refine rTal_fr (h10 s hs hne) f fun b j hb hb2 => S_z_lo h7 ?_
    match s, hs with
    | 0, _ => omega
    | 1, _ => omega
    | 2, _ => omega
theorem MR_fr {S : Nat → Int → Prop} {σ : Sg} {M M' : Nat → Int → Int} (h : MR σ M) (f : fr S M M') (hs : ∀ b j, S b j → (b = 867 ∧ j ≠ 8 ∧ j ≠ 9 ∧ j ≠ 10) ∨ 876 ≤ b ∨ (b < 867 ∧ 16 ≤ b ∧ ¬ (22 ≤ b ∧ b ≤ 24))) : MR σ M' := by
  obtain ⟨h1, h2, ⟨h3, h3', h3''⟩, h4, h5, h6, h7⟩ := h
  have lo : ∀ b j, ¬ ((b = 867 ∧ j ≠ 8 ∧ j ≠ 9 ∧ j ≠ 10) ∨ 876 ≤ b ∨ (b < 867 ∧ 16 ≤ b ∧ ¬ (22 ≤ b ∧ b ≤ 24))) → M' b j = M b j := fun b j hb => f b j fun z => hb (hs b j z)
  refine ⟨h1, ⟨fun k q => ?_, fun k q => ?_, fun k q => ?_, mCon_fr h2.2.2.2 f fun b j z => ?_⟩, ⟨?_, ?_, ?_⟩, fun i hi => ?_, fun i hi => ?_, fun s q => ?_, fun k hk => ⟨(h7 k hk).1, ?_, fun i hi => ?_⟩⟩
  · rw [lo _ _ (by omega)]; exact h2.1 k q
  · rw [lo _ _ (by omega)]; exact h2.2.1 k q
  · rw [lo _ _ (by omega)]; exact h2.2.2.1 k q
  · have := hs b j z; omega
  · rw [lo _ _ (by omega)]; exact h3
  · rw [lo _ _ (by omega)]; exact h3'
  · rw [lo _ _ (by omega)]; exact h3''
  · rw [lo _ _ (by omega)]; exact h4 i hi
  · rw [lo _ _ (by omega)]; exact h5 i hi
  · rw [lo _ _ (by omega)]; exact h6 s q
  · rw [lo _ _ (by omega)]; exact (h7 k hk).2.1
  · rw [lo _ _ (by omega)]; exact (h7 k hk).2.2 i hi
