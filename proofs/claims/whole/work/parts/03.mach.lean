/-! THE SMALL MACHINE: values (int, long, reference), memory (tags and lengths; references; ints; longs; cells and slots made), blocks walked by List.rec -/
abbrev bz_V : Type := Int ⊕ (Int ⊕ Nat)
abbrev zI (x : Int) : bz_V := Sum.inl x
abbrev zL (x : Int) : bz_V := Sum.inr (Sum.inl x)
abbrev zR (a : Nat) : bz_V := Sum.inr (Sum.inr a)
abbrev bz_M : Type := List (Nat × Nat) × (Nat → Int → Nat) × (Nat → Int → Int) × (Nat → Int → Int) × Nat × Nat
abbrev bz_R : Type := (bz_V ⊕ Nat) × bz_M
abbrev bz_K : Type := List (Option bz_V) → List bz_V → bz_M → Option bz_R
abbrev bz_X0 : Type := Nat → Nat → List (Option bz_V) → List bz_V → bz_M → Option bz_R
/-- the wrap-arounds -/
def wr (x : Int) : Int := (x + 2147483648) % 4294967296 - 2147483648
def wl (x : Int) : Int := (x + 9223372036854775808) % 18446744073709551616 - 9223372036854775808
def gT (μ : bz_M) (a : Nat) : Nat := (μ.1.getD a (0, 0)).1
def gN (μ : bz_M) (a : Nat) : Int := ((μ.1.getD a (0, 0)).2 : Nat)
def gP (μ : bz_M) (a : Nat) (i : Int) : Nat := μ.2.1 a i
def gM (μ : bz_M) (a : Nat) (i : Int) : Int := μ.2.2.1 a i
def gG (μ : bz_M) (a : Nat) (i : Int) : Int := μ.2.2.2.1 a i
def sP (μ : bz_M) (a : Nat) (i : Int) (v : Nat) : bz_M := (μ.1, (fun b j => if b = a ∧ j = i then v else μ.2.1 b j), μ.2.2)
def sM (μ : bz_M) (a : Nat) (i : Int) (v : Int) : bz_M := (μ.1, μ.2.1, (fun b j => if b = a ∧ j = i then v else μ.2.2.1 b j), μ.2.2.2)
def sG (μ : bz_M) (a : Nat) (i : Int) (v : Int) : bz_M := (μ.1, μ.2.1, μ.2.2.1, (fun b j => if b = a ∧ j = i then v else μ.2.2.2.1 b j), μ.2.2.2.2)
/-- a new cell behind the last one -/
def sA (μ : bz_M) (t n : Nat) : bz_M := (μ.1 ++ [(t, if 20 ≤ t then n else 0)], μ.2.1, μ.2.2.1, μ.2.2.2.1, μ.2.2.2.2.1 + 1, μ.2.2.2.2.2 + n)
/-- an exception made -/
def sX (μ : bz_M) : bz_M := (μ.1, μ.2.1, μ.2.2.1, μ.2.2.2.1, μ.2.2.2.2.1 + 1, μ.2.2.2.2.2 + 6)
/-- no exception has been made yet: the cells are those of the list -/
abbrev bz_cl (μ : bz_M) : Prop := μ.2.2.2.2.1 + 16 = μ.1.length
def bz_and (x y : Int) : Int := (Int32.ofInt x &&& Int32.ofInt y).toInt
def bz_or (x y : Int) : Int := (Int32.ofInt x ||| Int32.ofInt y).toInt
def bz_shl (x y : Int) : Int := (Int32.ofInt x <<< (Int32.ofInt y &&& 31)).toInt
def bz_shr (x y : Int) : Int := (Int32.ofInt x >>> (Int32.ofInt y &&& 31)).toInt
def bz_ushr (x y : Int) : Int := (((Int32.ofInt x).toUInt32 >>> ((Int32.ofInt y).toUInt32 &&& Int32.toUInt32 31)).toInt32).toInt
def bz_lxor (x y : Int) : Int := (Int64.ofInt x ^^^ Int64.ofInt y).toInt
def bz_i2c (x : Int) : Int := x % 65536
def bz_i2b (x : Int) : Int := (x + 128) % 256 - 128
def bz_cmp (x y : Int) : Int := if x < y then -1 else if x = y then 0 else 1
/-- the number of slots of a class's objects -/
def bz_ns (c : Nat) : Nat := [0, 4, 4, 4, 7, 3, 2, 3, 6, 12, 33].getD c 0
/-- reads and writes -/
def bz_fI (μ : bz_M) (a c : Nat) (j : Int) (k : Int → Option bz_R) : Option bz_R := if gT μ a = c then k (gM μ a j) else none
def bz_fL (μ : bz_M) (a c : Nat) (j : Int) (k : Int → Option bz_R) : Option bz_R := if gT μ a = c then k (gG μ a j) else none
def bz_fR (μ : bz_M) (a c : Nat) (j : Int) (k : Nat → Option bz_R) : Option bz_R := if gT μ a = c ∧ gP μ a j ≠ 0 then k (gP μ a j) else none
def bz_fS (μ : bz_M) (a : Nat) (j : Int) (k : Int → Option bz_R) : Option bz_R := if gT μ a = 1 ∨ gT μ a = 2 ∨ gT μ a = 3 then k (gM μ a j) else none
def bz_pI (μ : bz_M) (a c : Nat) (j : Int) (v : Int) (k : bz_M → Option bz_R) : Option bz_R := if gT μ a = c then k (sM μ a j v) else none
def bz_pB (μ : bz_M) (a c : Nat) (j : Int) (v : Int) (k : bz_M → Option bz_R) : Option bz_R := if gT μ a = c ∧ (v = 0 ∨ v = 1) then k (sM μ a j v) else none
def bz_pL (μ : bz_M) (a c : Nat) (j : Int) (v : Int) (k : bz_M → Option bz_R) : Option bz_R := if gT μ a = c then k (sG μ a j v) else none
def bz_pR (μ : bz_M) (a c : Nat) (j : Int) (v : Nat) (k : bz_M → Option bz_R) : Option bz_R := if gT μ a = c ∧ 16 ≤ v then k (sP μ a j v) else none
def bz_pS (μ : bz_M) (a : Nat) (j : Int) (v : Int) (k : bz_M → Option bz_R) : Option bz_R := if gT μ a = 1 ∨ gT μ a = 2 ∨ gT μ a = 3 then k (sM μ a j v) else none
def bz_rI (μ : bz_M) (a : Nat) (i : Int) (k : Int → Option bz_R) : Option bz_R := if (gT μ a = 20 ∨ gT μ a = 21) ∧ 0 ≤ i ∧ i < gN μ a then k (gM μ a i) else none
def bz_rB (μ : bz_M) (a : Nat) (i : Int) (k : Int → Option bz_R) : Option bz_R := if (gT μ a = 22 ∨ gT μ a = 29) ∧ 0 ≤ i ∧ i < gN μ a then k (gM μ a i) else none
def bz_rL (μ : bz_M) (a : Nat) (i : Int) (k : Int → Option bz_R) : Option bz_R := if gT μ a = 23 ∧ 0 ≤ i ∧ i < gN μ a then k (gG μ a i) else none
def bz_rR (μ : bz_M) (a : Nat) (i : Int) (k : Nat → Option bz_R) : Option bz_R := if (24 ≤ gT μ a ∧ gT μ a ≤ 27) ∧ (0 ≤ i ∧ i < gN μ a) ∧ gP μ a i ≠ 0 then k (gP μ a i) else none
def bz_wI (μ : bz_M) (a : Nat) (i v : Int) (k : bz_M → Option bz_R) : Option bz_R := if gT μ a = 20 ∧ 0 ≤ i ∧ i < gN μ a then k (sM μ a i v) else none
def bz_wB (μ : bz_M) (a : Nat) (i v : Int) (k : bz_M → Option bz_R) : Option bz_R := if gT μ a = 22 ∧ (0 ≤ i ∧ i < gN μ a) ∧ (v = 0 ∨ v = 1) then k (sM μ a i v) else none
def bz_wL (μ : bz_M) (a : Nat) (i v : Int) (k : bz_M → Option bz_R) : Option bz_R := if gT μ a = 23 ∧ 0 ≤ i ∧ i < gN μ a then k (sG μ a i v) else none
def bz_wR (μ : bz_M) (a : Nat) (i : Int) (v : Nat) (k : bz_M → Option bz_R) : Option bz_R := if ((gT μ a = 24 ∧ gT μ v = 6) ∨ (gT μ a = 25 ∧ gT μ v = 4) ∨ (gT μ a = 26 ∧ (gT μ v = 1 ∨ gT μ v = 2 ∨ gT μ v = 3)) ∨ (gT μ a = 27 ∧ gT μ v = 8)) ∧ 0 ≤ i ∧ i < gN μ a then k (sP μ a i v) else none
def bz_al (μ : bz_M) (a : Nat) (k : Int → Option bz_R) : Option bz_R := if 20 ≤ gT μ a ∧ gT μ a ≠ 28 then k (gN μ a) else none
def bz_nw (μ : bz_M) (c : Nat) (k : Nat → bz_M → Option bz_R) : Option bz_R := if bz_cl μ then k μ.1.length (sA μ c (bz_ns c)) else none
def bz_na (μ : bz_M) (t : Nat) (n : Int) (k : Nat → bz_M → Option bz_R) : Option bz_R := if bz_cl μ ∧ 0 ≤ n ∧ n ≤ 10000 then k μ.1.length (sA μ t n.toNat) else none
/-- Object's constructor: of an object of the system -/
def bz_oi (μ : bz_M) (a : Nat) (k : Nat → Option bz_R) : Option bz_R := if 1 ≤ gT μ a ∧ gT μ a ≤ 10 then k a else none
def bz_dv (x y : Int) (k : Int → Option bz_R) : Option bz_R := if y = 0 then none else k (wr (x.tdiv y))
def bz_rm (x y : Int) (k : Int → Option bz_R) : Option bz_R := if y = 0 then none else k (x.tmod y)
def bz_ld (x y : Int) (k : Int → Option bz_R) : Option bz_R := if y = 0 then none else k (wl (x.tdiv y))
/-- a boolean's, a char's end -/
def bz_zB (x : Int) (μ : bz_M) : Option bz_R := if x = 0 ∨ x = 1 then some (.inl (zI x), μ) else none
def bz_zC (x : Int) (μ : bz_M) : Option bz_R := if 0 ≤ x ∧ x < 128 then some (.inl (zI x), μ) else none
/-- a call's answer, by its kind -/
def bz_ci (r : Option bz_R) (k : Int → bz_M → Option bz_R) : Option bz_R := match r with
  | some (.inl (.inl x), μ) => k x μ
  | some (.inr c, μ) => some (.inr c, μ)
  | _ => none
def bz_cj (r : Option bz_R) (k : Int → bz_M → Option bz_R) : Option bz_R := match r with
  | some (.inl (.inr (.inl x)), μ) => k x μ
  | some (.inr c, μ) => some (.inr c, μ)
  | _ => none
def bz_cr (r : Option bz_R) (k : Nat → bz_M → Option bz_R) : Option bz_R := match r with
  | some (.inl (.inr (.inr x)), μ) => k x μ
  | some (.inr c, μ) => some (.inr c, μ)
  | _ => none
def bz_cv (r : Option bz_R) (k : bz_M → Option bz_R) : Option bz_R := match r with
  | some (.inl _, μ) => k μ
  | some (.inr c, μ) => some (.inr c, μ)
  | _ => none
/-- a call that must not throw -/
def bz_cn (r : Option bz_R) (k : Int → bz_M → Option bz_R) : Option bz_R := match r with
  | some (.inl (.inl x), μ) => k x μ
  | _ => none
def bz_cu (r : Option bz_R) (k : bz_M → Option bz_R) : Option bz_R := match r with
  | some (.inl _, μ) => k μ
  | _ => none
/-- a call whose exceptions are caught -/
def bz_hi (r : Option bz_R) (k : Int → bz_M → Option bz_R) (h : Nat → bz_M → Option bz_R) : Option bz_R := match r with
  | some (.inl (.inl x), μ) => k x μ
  | some (.inr c, μ) => h c μ
  | _ => none
def bz_hv (r : Option bz_R) (k : bz_M → Option bz_R) (h : Nat → bz_M → Option bz_R) : Option bz_R := match r with
  | some (.inl _, μ) => k μ
  | some (.inr c, μ) => h c μ
  | _ => none
def bz_tg (ts : List (Nat × Nat)) (t : Nat) (f : Nat → Option bz_R) : Option bz_R := match ts with
  | [] => none
  | q :: ts => if t = q.1 then f q.2 else bz_tg ts t f
def bz_hh (hs : List (Nat × Nat)) (c : Nat) (f : Nat → Option bz_R) (g : Option bz_R) : Option bz_R := match hs with
  | [] => g
  | q :: hs => if c = q.1 then f q.2 else bz_hh hs c f g
/-- locals out of arguments -/
def bz_fl (vs : List bz_V) : List (Option bz_V) := match vs with
  | [] => []
  | .inl x :: vs => some (.inl x) :: bz_fl vs
  | .inr (.inl x) :: vs => some (.inr (.inl x)) :: none :: bz_fl vs
  | .inr (.inr x) :: vs => some (.inr (.inr x)) :: bz_fl vs
def bz_lo (ml : Nat) (vs : List bz_V) : List (Option bz_V) := bz_fl vs ++ List.replicate (ml - (bz_fl vs).length) none
def bz_cat (v : bz_V) : Nat := match v with
  | .inl _ => 1
  | .inr (.inl _) => 2
  | .inr (.inr _) => 1
def bz_sum (vs : List bz_V) : Nat := match vs with
  | [] => 0
  | v :: vs => bz_cat v + bz_sum vs
/-- what is kept of the locals at a cut: the live ones -/
def bz_mk (m : Nat) (L : List (Option bz_V)) : List (Option bz_V) := match L with
  | [] => []
  | x :: L => cond (Nat.beq (m % 2) 1) x none :: bz_mk (m / 2) L
/-- a jump: forward over d instructions; or a cut: to place t, with the mask m, as t * 2 ^ 24 + m -/
def bz_j (rec : bz_X0) (k : Nat) (ks : Nat → bz_K) (o : Int) : bz_K := match o with
  | .ofNat d => ks d
  | .negSucc t => fun L st μ => rec k (t / 16777216) (bz_mk (t % 16777216) L) st μ
def bz_if (c : ClassFile.Cond) (x y : Int) (a b : Option bz_R) : Option bz_R := match c with
  | .eq => if x = y then a else b
  | .ne => if x = y then b else a
  | .lt => if x < y then a else b
  | .ge => if x < y then b else a
  | .gt => if y < x then a else b
  | .le => if y < x then b else a
def bz_lkp (ps : List (Int × Int)) (x : Int) (f : Int → Option bz_R) (d : Int) : Option bz_R := match ps with
  | [] => f d
  | q :: ps => if x = q.1 then f q.2 else bz_lkp ps x f d
/-- a call table's row: the kinds of the values that it takes (0 int, 1 long, 2 reference), the kind of its answer, the targets by the receiver's tag (one with tag 0: no receiver is looked at), the handlers -/
abbrev bz_C : Type := List Nat × Nat × List (Nat × Nat) × List (Nat × Nat)
/-- the arguments are of these kinds -/
def bz_kk (vs : List bz_V) (ks : List Nat) : Bool := match vs, ks with
  | [], [] => true
  | .inl _ :: vs, k :: ks => Nat.beq k 0 && bz_kk vs ks
  | .inr (.inl _) :: vs, k :: ks => Nat.beq k 1 && bz_kk vs ks
  | .inr (.inr _) :: vs, k :: ks => Nat.beq k 2 && bz_kk vs ks
  | _, _ => false
/-- the callee's end, by the targets -/
def bz_tr (mls : List Nat) (rec : bz_X0) (ts : List (Nat × Nat)) (As : List bz_V) (μ : bz_M) : Option bz_R := match ts with
  | [(0, k)] => rec k 0 (bz_lo (mls.getD k 0) As) [] μ
  | _ => match As with
    | .inr (.inr a) :: _ => bz_tg ts (gT μ a) (fun k => rec k 0 (bz_lo (mls.getD k 0) As) [] μ)
    | _ => none
/-- what follows a call -/
def bz_rn (rv : Nat) (r : Option bz_R) (ks : Nat → bz_K) (L : List (Option bz_V)) (rest : List bz_V) : Option bz_R := match rv with
  | 0 => bz_cv r (fun μ => ks 0 L rest μ)
  | 1 => bz_ci r (fun x μ => ks 0 L (zI x :: rest) μ)
  | 2 => bz_cj r (fun x μ => ks 0 L (zL x :: rest) μ)
  | 3 => bz_cr r (fun x μ => ks 0 L (zR x :: rest) μ)
  | 4 => bz_cn r (fun x μ => ks 0 L (zI x :: rest) μ)
  | 5 => bz_cu r (fun μ => ks 0 L rest μ)
  | _ => none
def bz_rh (rv : Nat) (hs : List (Nat × Nat)) (r : Option bz_R) (ks : Nat → bz_K) (L : List (Option bz_V)) (rest : List bz_V) : Option bz_R := match rv with
  | 0 => bz_hv r (fun μ => ks 0 L rest μ) (fun c μ => bz_hh hs c (fun d => ks d L [zR 15] μ) none)
  | 1 => bz_hi r (fun x μ => ks 0 L (zI x :: rest) μ) (fun c μ => bz_hh hs c (fun d => ks d L [zR 15] μ) none)
  | _ => none
def bz_call (ct : List bz_C) (mls : List Nat) (rec : bz_X0) (q : Nat) (h : Bool) (ks : Nat → bz_K) : bz_K := fun L st μ =>
  match ct[q]? with
  | none => none
  | some (kd, rv, ts, hs) => cond (bz_kk (st.take kd.length).reverse kd && Nat.ble (bz_sum (st.drop kd.length)) 8)
      (cond h (bz_rh rv hs (bz_tr mls rec ts (st.take kd.length).reverse μ) ks L (st.drop kd.length)) (bz_rn rv (bz_tr mls rec ts (st.take kd.length).reverse μ) ks L (st.drop kd.length))) none
def bz_step (ct : List bz_C) (mls : List Nat) (rec : bz_X0) (k : Nat) (ins : Instr) (ks : Nat → bz_K) : bz_K := fun L st μ => match ins with
  | .iconst v => ks 0 L (zI v :: st) μ
  | .bipush v => ks 0 L (zL v :: st) μ
  | .ldc a => ks 0 L (zR a :: st) μ
  | .iload i => match L[i]? with
    | some (some (.inl x)) => ks 0 L (zI x :: st) μ
    | _ => none
  | .lload i => match L[i]? with
    | some (some (.inr (.inl x))) => ks 0 L (zL x :: st) μ
    | _ => none
  | .aload i => match L[i]? with
    | some (some (.inr (.inr a))) => ks 0 L (zR a :: st) μ
    | _ => none
  | .istore i => match st with
    | .inl x :: st => cond (Nat.ble i 999) (ks 0 (L.set i (some (zI x))) st μ) none
    | .inr (.inr a) :: st => cond (Nat.ble 1000 i) (ks 0 (L.set (i - 1000) (some (zR a))) st μ) none
    | _ => none
  | .lstore i => match st with
    | .inr (.inl x) :: st => ks 0 ((L.set i (some (zL x))).set (i + 1) none) st μ
    | _ => none
  | .iinc i c => match L[i]? with
    | some (some (.inl x)) => ks 0 (L.set i (some (zI (wr (x + c))))) st μ
    | _ => none
  | .iadd => match st with
    | .inl y :: .inl x :: st => ks 0 L (zI (wr (x + y)) :: st) μ
    | _ => none
  | .isub => match st with
    | .inl y :: .inl x :: st => ks 0 L (zI (wr (x - y)) :: st) μ
    | _ => none
  | .imul => match st with
    | .inl y :: .inl x :: st => ks 0 L (zI (wr (x * y)) :: st) μ
    | _ => none
  | .idiv => match st with
    | .inl y :: .inl x :: st => bz_dv x y (fun v => ks 0 L (zI v :: st) μ)
    | _ => none
  | .irem => match st with
    | .inl y :: .inl x :: st => bz_rm x y (fun v => ks 0 L (zI v :: st) μ)
    | _ => none
  | .ineg => match st with
    | .inl x :: st => ks 0 L (zI (wr (-x)) :: st) μ
    | _ => none
  | .iand => match st with
    | .inl y :: .inl x :: st => ks 0 L (zI (bz_and x y) :: st) μ
    | _ => none
  | .ior => match st with
    | .inl y :: .inl x :: st => ks 0 L (zI (bz_or x y) :: st) μ
    | _ => none
  | .ishl => match st with
    | .inl y :: .inl x :: st => ks 0 L (zI (bz_shl x y) :: st) μ
    | _ => none
  | .ishr => match st with
    | .inl y :: .inl x :: st => ks 0 L (zI (bz_shr x y) :: st) μ
    | _ => none
  | .iushr => match st with
    | .inl y :: .inl x :: st => ks 0 L (zI (bz_ushr x y) :: st) μ
    | _ => none
  | .ladd => match st with
    | .inr (.inl y) :: .inr (.inl x) :: st => ks 0 L (zL (wl (x + y)) :: st) μ
    | _ => none
  | .lsub => match st with
    | .inr (.inl y) :: .inr (.inl x) :: st => ks 0 L (zL (wl (x - y)) :: st) μ
    | _ => none
  | .lmul => match st with
    | .inr (.inl y) :: .inr (.inl x) :: st => ks 0 L (zL (wl (x * y)) :: st) μ
    | _ => none
  | .ldiv => match st with
    | .inr (.inl y) :: .inr (.inl x) :: st => bz_ld x y (fun v => ks 0 L (zL v :: st) μ)
    | _ => none
  | .lxor => match st with
    | .inr (.inl y) :: .inr (.inl x) :: st => ks 0 L (zL (bz_lxor x y) :: st) μ
    | _ => none
  | .lcmp => match st with
    | .inr (.inl y) :: .inr (.inl x) :: st => ks 0 L (zI (bz_cmp x y) :: st) μ
    | _ => none
  | .i2l => match st with
    | .inl x :: st => ks 0 L (zL x :: st) μ
    | _ => none
  | .l2i => match st with
    | .inr (.inl x) :: st => ks 0 L (zI (wr x) :: st) μ
    | _ => none
  | .i2c => match st with
    | .inl x :: st => ks 0 L (zI (bz_i2c x) :: st) μ
    | _ => none
  | .i2b => match st with
    | .inl x :: st => ks 0 L (zI (bz_i2b x) :: st) μ
    | _ => none
  | .dup => match st with
    | .inl x :: st => ks 0 L (zI x :: zI x :: st) μ
    | .inr (.inr a) :: st => ks 0 L (zR a :: zR a :: st) μ
    | _ => none
  | .pop => match st with
    | .inl _ :: st => ks 0 L st μ
    | .inr (.inr _) :: st => ks 0 L st μ
    | _ => none
  | .dup2 => match st with
    | .inl y :: .inr (.inr x) :: st => ks 0 L (zI y :: zR x :: zI y :: zR x :: st) μ
    | _ => none
  | .goto o => bz_j rec k ks o L st μ
  | .ifCond c o => match st with
    | .inl x :: st => bz_if c x 0 (bz_j rec k ks o L st μ) (ks 0 L st μ)
    | _ => none
  | .if_icmp c o => match st with
    | .inl y :: .inl x :: st => bz_if c x y (bz_j rec k ks o L st μ) (ks 0 L st μ)
    | _ => none
  | .getfield p => match st with
    | .inr (.inr a) :: st => bz_fI μ a (p / 100) ((p % 100 : Nat) : Int) (fun v => ks 0 L (zI v :: st) μ)
    | _ => none
  | .fload p => match st with
    | .inr (.inr a) :: st => bz_fL μ a (p / 100) ((p % 100 : Nat) : Int) (fun v => ks 0 L (zL v :: st) μ)
    | _ => none
  | .getstatic p => match st with
    | .inr (.inr a) :: st => bz_fR μ a (p / 100) ((p % 100 : Nat) : Int) (fun v => ks 0 L (zR v :: st) μ)
    | _ => none
  | .dload p => match st with
    | .inr (.inr a) :: st => bz_fS μ a (p : Int) (fun v => ks 0 L (zI v :: st) μ)
    | _ => none
  | .putfield p => match st with
    | .inl x :: .inr (.inr a) :: st => bz_pI μ a (p / 100) ((p % 100 : Nat) : Int) x (fun μ => ks 0 L st μ)
    | _ => none
  | .dstore p => match st with
    | .inl x :: .inr (.inr a) :: st => bz_pB μ a (p / 100) ((p % 100 : Nat) : Int) x (fun μ => ks 0 L st μ)
    | _ => none
  | .fstore p => match st with
    | .inr (.inl x) :: .inr (.inr a) :: st => bz_pL μ a (p / 100) ((p % 100 : Nat) : Int) x (fun μ => ks 0 L st μ)
    | _ => none
  | .astore p => match st with
    | .inr (.inr b) :: .inr (.inr a) :: st => bz_pR μ a (p / 100) ((p % 100 : Nat) : Int) b (fun μ => ks 0 L st μ)
    | _ => none
  | .putstatic p => match st with
    | .inl x :: .inr (.inr a) :: st => bz_pS μ a (p : Int) x (fun μ => ks 0 L st μ)
    | _ => none
  | .iaload => match st with
    | .inl i :: .inr (.inr a) :: st => bz_rI μ a i (fun v => ks 0 L (zI v :: st) μ)
    | _ => none
  | .baload => match st with
    | .inl i :: .inr (.inr a) :: st => bz_rB μ a i (fun v => ks 0 L (zI v :: st) μ)
    | _ => none
  | .laload => match st with
    | .inl i :: .inr (.inr a) :: st => bz_rL μ a i (fun v => ks 0 L (zL v :: st) μ)
    | _ => none
  | .aaload => match st with
    | .inl i :: .inr (.inr a) :: st => bz_rR μ a i (fun v => ks 0 L (zR v :: st) μ)
    | _ => none
  | .iastore => match st with
    | .inl x :: .inl i :: .inr (.inr a) :: st => bz_wI μ a i x (fun μ => ks 0 L st μ)
    | _ => none
  | .bastore => match st with
    | .inl x :: .inl i :: .inr (.inr a) :: st => bz_wB μ a i x (fun μ => ks 0 L st μ)
    | _ => none
  | .lastore => match st with
    | .inr (.inl x) :: .inl i :: .inr (.inr a) :: st => bz_wL μ a i x (fun μ => ks 0 L st μ)
    | _ => none
  | .aastore => match st with
    | .inr (.inr b) :: .inl i :: .inr (.inr a) :: st => bz_wR μ a i b (fun μ => ks 0 L st μ)
    | _ => none
  | .arraylength => match st with
    | .inr (.inr a) :: st => bz_al μ a (fun v => ks 0 L (zI v :: st) μ)
    | _ => none
  | .new c => bz_nw μ c (fun a μ => ks 0 L (zR a :: st) μ)
  | .anewarray t => match st with
    | .inl n :: st => bz_na μ t n (fun a μ => ks 0 L (zR a :: st) μ)
    | _ => none
  | .invokespecial _ => match st with
    | .inr (.inr a) :: st => cond (Nat.ble (bz_sum st) 8) (bz_oi μ a (fun _ => ks 0 L st μ)) none
    | _ => none
  | .invokevirtual q => bz_call ct mls rec q false ks L st μ
  | .checkcast q => bz_call ct mls rec q true ks L st μ
  | .ldc_w c => cond (Nat.ble (bz_sum st) 8) (some (.inr c, sX μ)) none
  | .ireturn => match st with
    | [.inl x] => some (.inl (zI x), μ)
    | _ => none
  | .dreturn => match st with
    | [.inl x] => bz_zB x μ
    | _ => none
  | .freturn => match st with
    | [.inl x] => bz_zC x μ
    | _ => none
  | .lreturn => match st with
    | [.inr (.inl x)] => some (.inl (zL x), μ)
    | _ => none
  | .areturn => match st with
    | [.inr (.inr a)] => some (.inl (zR a), μ)
    | _ => none
  | .return_ => match st with
    | [] => some (.inl (zI 0), μ)
    | _ => none
  | .tableswitch d lo hi os => match st with
    | .inl x :: st => if x < lo ∨ hi < x then bz_j rec k ks d L st μ else match os.toList[(x - lo).toNat]? with
      | some o => bz_j rec k ks o L st μ
      | none => none
    | _ => none
  | .lookupswitch d ps => match st with
    | .inl x :: st => bz_lkp ps.toList x (fun o => bz_j rec k ks o L st μ) d
    | _ => none
  | _ => none
/-- a block walked: the continuation at the d-th instruction of cs -/
noncomputable def bz_go (ct : List bz_C) (mls : List Nat) (rec : bz_X0) (k : Nat) (cs : List Instr) : Nat → bz_K :=
  List.rec (motive := fun _ => Nat → bz_K) (fun _ _ _ _ => none) (fun ins _ ih d => Nat.rec (motive := fun _ => bz_K) (bz_step ct mls rec k ins ih) (fun d' _ => ih d') d) cs
/-- the machine: n calls and back jumps deep -/
noncomputable def bz_Z (cds : List (List Instr)) (ct : List bz_C) (mls : List Nat) (n : Nat) : bz_X0 :=
  Nat.rec (motive := fun _ => bz_X0) (fun _ _ _ _ _ => none) (fun _ ih k i => bz_go ct mls ih k (cds.getD k []) i) n
abbrev rI (x : Int) (μ : bz_M) : Option bz_R := some (.inl (zI x), μ)
abbrev rL (x : Int) (μ : bz_M) : Option bz_R := some (.inl (zL x), μ)
abbrev rR (x : Nat) (μ : bz_M) : Option bz_R := some (.inl (zR x), μ)
abbrev rX (c : Nat) (μ : bz_M) : Option bz_R := some (.inr c, μ)
