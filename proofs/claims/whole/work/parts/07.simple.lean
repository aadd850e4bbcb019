/-! ENVIRONMENT: what the walk of a method stands on -/
def bz_strs : List (String × Nat × String) := [("BarcodeEngine", 329, "no such symbology"), ("BarcodeEngine", 75, "the text buffer is full"), ("BarcodeEngine", 333, "the text buffer has no so many bytes"), ("BarcodeEngine", 92, "module or spread out of range"), ("BarcodeEngine", 337, "0123456789-$:/.+ABCD"), ("BarcodeEngine", 106, "the bytes are no code"), ("BarcodeEngine", 335, "there are already 24 scans"), ("BarcodeEngine", 143, "the bytes are no code without its check character"), ("BarcodeEngine", 156, "a width is out of range"), ("BarcodeEngine", 162, "too many pending widths"), ("BarcodeEngine", 167, "the pending widths are no scan"), ("BarcodeEngine", 326, "no such scan"), ("BarcodeEngine", 331, "no such place"), ("BarcodeEngine", 179, "the width is out of range"), ("BarcodeEngine", 185, "these widths are no scan"), ("BarcodeEngine", 193, "the amount is out of range"), ("BarcodeEngine", 198, "the scans have different numbers of widths"), ("BarcodeEngine", 362, "no whole code is read"), ("BarcodeEngine", 271, "no scan has a whole code"), ("BarcodeEngine", 307, "not just one place is without a majority"), ("BarcodeEngine", 313, "not just one character repairs the code"), ("BarcodeEngine", 322, "no scan has a whole code of the length"), ("BarcodeEngineModel", 84, "0123456789-$:/.+ABCD")]
def bz_exs : List String := ["", "java/lang/IllegalStateException", "java/lang/IndexOutOfBoundsException", "java/lang/IllegalArgumentException", "java/util/NoSuchElementException"]
def bz_exn (c : Nat) : String := bz_exs.getD c ""
def bz_ncs : List (String × String) := [("java/lang/IllegalStateException", "java/lang/IndexOutOfBoundsException"), ("java/lang/IllegalStateException", "java/lang/IllegalArgumentException"), ("java/lang/IllegalStateException", "java/util/NoSuchElementException"), ("java/lang/IndexOutOfBoundsException", "java/lang/IllegalStateException"), ("java/lang/IndexOutOfBoundsException", "java/lang/IllegalArgumentException"), ("java/lang/IndexOutOfBoundsException", "java/util/NoSuchElementException"), ("java/lang/IllegalArgumentException", "java/lang/IllegalStateException"), ("java/lang/IllegalArgumentException", "java/lang/IndexOutOfBoundsException"), ("java/lang/IllegalArgumentException", "java/util/NoSuchElementException"), ("java/util/NoSuchElementException", "java/lang/IllegalStateException"), ("java/util/NoSuchElementException", "java/lang/IndexOutOfBoundsException"), ("java/util/NoSuchElementException", "java/lang/IllegalArgumentException")]
def bz_nst : List (String × Nat × String) := [("BarcodeEngine$Codabar", 25, "CODABAR_PATTERNS"), ("BarcodeEngine$Interleaved", 31, "INTERLEAVED_PATTERNS"), ("BarcodeEngine$Ean8", 25, "EAN_WIDTHS")]
def bz_nstw (e : String × Nat × String) : Cond := .fieldLinkNest e.1 e.2.1 "BarcodeEngine" e.2.2 "[I" "BarcodeEngine"
def bz_tys (N : bz_N) : List (ClassId × FieldType) := [(nC N 20, .int), (nC N 22, .boolean), (nC N 23, .long), (nC N 24, .object "BarcodeEngine$Scan"), (nC N 25, .object "BarcodeEngine$Reading"), (nC N 26, .object "BarcodeEngine$Symbology"), (nC N 27, .object "BarcodeEngine$Tally")]
def bz_dc3 : List MethodName := [⟨"java/lang/RuntimeException", "<init>", "(Ljava/lang/String;)V"⟩, ⟨"java/lang/Exception", "<init>", "(Ljava/lang/String;)V"⟩, ⟨"java/lang/Throwable", "<init>", "(Ljava/lang/String;)V"⟩]
def bz_E (N : bz_N) (U : State) (H : Heap) : Prop :=
  va_K (nD N) vwCl (bz_tys N) U ∧
  (∀ q ∈ bz_strs, ∃ a, vk_R q.1 q.2.1 q.2.2 a U) ∧
  (vk_R "BarcodeEngine" 337 "0123456789-$:/.+ABCD" (nX N 5) U ∧ vk_R "BarcodeEngineModel" 84 "0123456789-$:/.+ABCD" (nX N 6) U) ∧
  (vx_Zq Bundle.tN "UNASSIGNED_STACK" Bundle.steD (bz_A N) U H ∧ vx_Zq Bundle.tN "SUPPRESSED_SENTINEL" Bundle.listD (bz_A N) U H) ∧
  (va_Z "BarcodeEngine" "EAN_WIDTHS" "[I" (.ref (nX N 2)) (bz_A N) U H ∧ va_Z "BarcodeEngine" "INTERLEAVED_PATTERNS" "[I" (.ref (nX N 3)) (bz_A N) U H ∧ va_Z "BarcodeEngine" "CODABAR_PATTERNS" "[I" (.ref (nX N 4)) (bz_A N) U H) ∧
  (va_Z "java/lang/String" "COMPACT_STRINGS" "Z" (.int 1) (bz_A N) U H ∧ va_Zq "jdk/internal/util/Preconditions" "SIOOBE_FORMATTER" "Ljava/util/function/BiFunction;" (bz_A N) U H) ∧
  (∀ (a n : Nat), a < 16 → (nT N)[a]? = some (21, n) → va_T .int (nX N a) n (fun j => .int (Int32.ofInt (nM N a (j : Int)))) (bz_A N) U H) ∧
  (∀ (a n : Nat), a < 16 → (nT N)[a]? = some (29, n) → va_T .byte (nX N a) n (fun j => .int (Int32.ofInt (nM N a (j : Int)))) (bz_A N) U H) ∧
  (∀ (a n : Nat), a < 16 → (nT N)[a]? = some (28, n) → va_O "java/lang/String" (nX N a) (bz_A N) U H ∧ va_OF "java/lang/String" "coder" "B" (.int (Int32.ofInt (nM N a 1))) (nX N a) (bz_A N) U H ∧ (nP N a 0 ≠ 0 → nP N a 0 < 15 ∧ va_OF "java/lang/String" "value" "[B" (.ref (nX N (nP N a 0))) (nX N a) (bz_A N) U H)) ∧
  (∀ (a : Nat) (t : Nat × Nat), a < 16 → (nT N)[a]? = some t → t.1 = 0 ∨ t.1 = 21 ∨ t.1 = 28 ∨ t.1 = 29) ∧
  (∀ q ∈ bz_ncs, va_Nc q.1 q.2 U) ∧
  ((∀ e ∈ bz_lkn, va_Nw (bz_lknw e) U) ∧ (∀ e ∈ bz_decl, va_Nw (bz_declw e) U) ∧ (∀ e ∈ bz_cas, va_Nw (bz_casw e) U) ∧ (∀ e ∈ bz_ao, va_AO e U) ∧ (∀ e ∈ bz_nst, va_Nw (bz_nstw e) U) ∧ (∀ x ∈ bz_dc3, va_Nw (.declares x) U) ∧ ∀ t, (nT N)[15]? = some t → t.1 = 0)
theorem bz_E_moved {N : bz_N} {s U : State} {H : Heap} {locs : List Loc} (hW : s.WarmedH U.vm) (hH : U.heap = H) (hS : va_S (bz_A N) s.heap H locs) (h : bz_E N s s.heap) : bz_E N U U.heap := by
  obtain ⟨h1, h2, ⟨h3, h3'⟩, ⟨h4, h4'⟩, ⟨h5, h6, h7⟩, ⟨h8, h9⟩, h10, h11, h12, h13, h14, h15, h16, h17, h18, h19, h20, h21⟩ := h
  have ha := hW.alike
  have hk : ∀ a : Nat, a < s.heap.size → ¬ bz_A N a → U.heap[a]? = s.heap[a]? := by rw [hH]; exact hS.2.1
  refine ⟨h1.moved ha, fun q hq => ?_, ⟨h3.warm hW, h3'.warm hW⟩, ⟨(h4.moved ha).kept hk, (h4'.moved ha).kept hk⟩, ⟨(h5.moved ha).kept hk, (h6.moved ha).kept hk, (h7.moved ha).kept hk⟩, ⟨(h8.moved ha).kept hk, (h9.moved ha).kept hk⟩, fun a n q1 q2 => ((h10 a n q1 q2).moved ha).kept hk, fun a n q1 q2 => ((h11 a n q1 q2).moved ha).kept hk, fun a n q1 q2 => ?_, h13, fun q hq => (h14 q hq).moved ha, fun e he => va_Nw.warmM hW (h15 e he), fun e he => va_Nw.warmD hW (h16 e he), fun e he => va_Nw.warmC hW (h17 e he), fun e he => (h18 e he).moved ha, fun e he => va_Nw.warmF hW (h19 e he), fun e he => va_Nw.warmD hW (h20 e he), h21⟩
  · obtain ⟨a, h⟩ := h2 q hq
    exact ⟨a, h.warm hW⟩
  · obtain ⟨g1, g2, g3⟩ := h12 a n q1 q2
    exact ⟨(g1.moved ha).kept hk, (g2.moved ha).kept hk, fun q => ⟨(g3 q).1, ((g3 q).2.moved ha).kept hk⟩⟩
def bz_ctx (k : Nat) (N : bz_N) (p : Program) (l : Launch) (R : Room) (s : State) (m : MethodId) (args : Array Value) (meth : Method) (c : Code) : Prop :=
  (p.tables.exec = Jvm.exec ∧ l.stackTraces = false ∧ c.code = bz_b k ∧ c.maxLocals = bz_ml k ∧ meth.locks = false ∧ s.vm.findClass (bz_ow k) = some m.cls ∧ meth.name = (bz_y k).name ∧ meth.sig.returnType = bz_rt k ∧ (∀ w ∈ bz_W, w.before args s = true) ∧ c.exceptionTable.toList = tableOf (bz_hh0 k)) ∧
  bz_fr k ≤ R.frames ∧ bz_lo0 k ≤ R.locals ∧ nB N ≤ s.heap.size ∧ bz_E N s s.heap
def bz_Qc (k : Nat) (N : bz_N) (res : bz_R) : Array Value → State → Outcome → State → Prop := fun _ st o t => (∃ v, res.1 = .inl v ∧ ((bz_rt k = none ∧ o = .returned none) ∨ ∃ ty w, bz_rt k = some ty ∧ o = .returned (some w) ∧ bz_vr N v w)) ∧ bz_Rep N res.2 t.heap ∧ va_F (bz_A N) st t
def bz_XC (N : bz_N) (res : bz_R) : String → State → State → Prop := fun E st t => (∃ c, res.1 = .inr c ∧ E = bz_exn c ∧ 1 ≤ c ∧ c ≤ 4) ∧ bz_Rep N res.2 t.heap ∧ va_F (bz_A N) st t
/-- from there the method comes to that end -/
def bz_G (k : Nat) (N : bz_N) (i : Nat) (L : List (Option bz_V)) (st : List bz_V) (μ : bz_M) (res : bz_R) : Prop :=
  ∀ (p : Program) (l : Launch) (e : Env) (R : Room) (s : State) (m : MethodId) (args : Array Value) (below : List Frame) (meth : Method) (c : Code) (H : Heap) (locs : List Loc) (ls : Array Slot) (sv : List Value) (c0 s0 mc ms : Nat),
    bz_ctx k N p l R s m args meth c → c0 ≤ C1 μ → s0 ≤ C2 μ → C1 res.2 ≤ c0 + mc → C2 res.2 ≤ s0 + ms → mc ≤ R.cells → ms ≤ R.slots → s.heap.size ≤ nB N + c0 → va_S (bz_A N) s.heap H locs → bz_Rep N μ H → bz_ll k N L ls (bz_ml k) → bz_vs N st sv →
    W p l e R s m args below meth c H locs (C1 μ - c0) (C2 μ - s0) (vx_MQ below (bz_Qc k N res) (bz_XC N res) args s mc ms (bz_A N)) (F0 m (bz_pc k i) ls sv)
def bz_H (k : Nat) (N : bz_N) (i : Nat) (L : List (Option bz_V)) (st : List bz_V) (μ : bz_M) (res : bz_R) : Prop := (C1 μ ≤ C1 res.2 ∧ C2 μ ≤ C2 res.2) ∧ bz_G k N i L st μ res
/-- a step of the stack alone -/
theorem bz_pure {k : Nat} {N : bz_N} {i j : Nat} {L : List (Option bz_V)} {st st' : List bz_V} {μ : bz_M} {res : bz_R} (h : bz_H k N j L st' μ res)
    (hs : ∀ sv, bz_vs N st sv → ∃ sv', bz_vs N st' sv' ∧ ∀ (p : Program) (l : Launch) (e : Env) (R : Room) (s : State) (m : MethodId) (args : Array Value) (below : List Frame) (meth : Method) (c : Code) (H : Heap) (locs : List Loc) (cells slots : Nat) (Q : State → Prop) (ls : Array Slot),
      bz_ctx k N p l R s m args meth c → W p l e R s m args below meth c H locs cells slots Q (F0 m (bz_pc k j) ls sv') → W p l e R s m args below meth c H locs cells slots Q (F0 m (bz_pc k i) ls sv)) : bz_H k N i L st μ res := by
  refine ⟨h.1, ?_⟩
  intro p l e R s m args below meth c H locs ls sv c0 s0 mc ms C a1 a2 a3 a4 a5 a6 hz hS hR hL hv
  obtain ⟨sv', h1, h2⟩ := hs sv hv
  exact h2 _ _ _ _ _ _ _ _ _ _ _ _ _ _ _ _ C (h.2 p l e R s m args below meth c H locs ls sv' c0 s0 mc ms C a1 a2 a3 a4 a5 a6 hz hS hR hL h1)
theorem bz_vs1 {N : bz_N} {v : bz_V} {st : List bz_V} {sv : List Value} (h : bz_vs N (v :: st) sv) : ∃ w ws, sv = w :: ws ∧ bz_vr N v w ∧ bz_vs N st ws := by
  match sv, h with
  | w :: ws, h => exact ⟨w, ws, rfl, h.1, h.2⟩
theorem bz_vs2 {N : bz_N} {v u : bz_V} {st : List bz_V} {sv : List Value} (h : bz_vs N (v :: u :: st) sv) : ∃ w x ws, sv = w :: x :: ws ∧ bz_vr N v w ∧ bz_vr N u x ∧ bz_vs N st ws := by
  match sv, h with
  | w :: x :: ws, h => exact ⟨w, x, ws, rfl, h.1, h.2.1, h.2.2⟩
theorem bz_vs3 {N : bz_N} {v u z : bz_V} {st : List bz_V} {sv : List Value} (h : bz_vs N (v :: u :: z :: st) sv) : ∃ w x y ws, sv = w :: x :: y :: ws ∧ bz_vr N v w ∧ bz_vr N u x ∧ bz_vr N z y ∧ bz_vs N st ws := by
  match sv, h with
  | w :: x :: y :: ws, h => exact ⟨w, x, y, ws, rfl, h.1, h.2.1, h.2.2.1, h.2.2.2⟩
theorem bz_vs0 {N : bz_N} {sv : List Value} (h : bz_vs N [] sv) : sv = [] := by
  match sv, h with
  | [], _ => rfl
theorem bz_i_iadd {k : Nat} {N : bz_N} {i len : Nat} {L : List (Option bz_V)} {st : List bz_V} {μ : bz_M} {res : bz_R} {x y : Int} (hd : decode (bz_b k) (bz_pc k i) = .ok (.iadd, 1)) (hp : bz_pc k (i + 1) = bz_pc k i + 1) (h : bz_H k N (i + 1) L (zI (wr (x + y)) :: st) μ res) : bz_H k N i L (zI y :: zI x :: st) μ res := by
  refine bz_pure h fun sv hv => ?_
  obtain ⟨w1, w2, ws, rfl, ⟨n1, rfl, e1⟩, ⟨n2, rfl, e2⟩, t⟩ := bz_vs2 hv
  exact ⟨_ :: ws, ⟨⟨_, rfl, by rw [bz_add, e1, e2]⟩, t⟩, fun p l e R s m args below meth c H locs cells slots Q ls C kk => lv_iadd C.1.1 C.1.2.2.1 hd (hp ▸ kk)⟩
theorem bz_i_isub {k : Nat} {N : bz_N} {i len : Nat} {L : List (Option bz_V)} {st : List bz_V} {μ : bz_M} {res : bz_R} {x y : Int} (hd : decode (bz_b k) (bz_pc k i) = .ok (.isub, 1)) (hp : bz_pc k (i + 1) = bz_pc k i + 1) (h : bz_H k N (i + 1) L (zI (wr (x - y)) :: st) μ res) : bz_H k N i L (zI y :: zI x :: st) μ res := by
  refine bz_pure h fun sv hv => ?_
  obtain ⟨w1, w2, ws, rfl, ⟨n1, rfl, e1⟩, ⟨n2, rfl, e2⟩, t⟩ := bz_vs2 hv
  exact ⟨_ :: ws, ⟨⟨_, rfl, by rw [bz_sub, e1, e2]⟩, t⟩, fun p l e R s m args below meth c H locs cells slots Q ls C kk => lv_isub C.1.1 C.1.2.2.1 hd (hp ▸ kk)⟩
theorem bz_i_imul {k : Nat} {N : bz_N} {i len : Nat} {L : List (Option bz_V)} {st : List bz_V} {μ : bz_M} {res : bz_R} {x y : Int} (hd : decode (bz_b k) (bz_pc k i) = .ok (.imul, 1)) (hp : bz_pc k (i + 1) = bz_pc k i + 1) (h : bz_H k N (i + 1) L (zI (wr (x * y)) :: st) μ res) : bz_H k N i L (zI y :: zI x :: st) μ res := by
  refine bz_pure h fun sv hv => ?_
  obtain ⟨w1, w2, ws, rfl, ⟨n1, rfl, e1⟩, ⟨n2, rfl, e2⟩, t⟩ := bz_vs2 hv
  exact ⟨_ :: ws, ⟨⟨_, rfl, by rw [bz_mul, e1, e2]⟩, t⟩, fun p l e R s m args below meth c H locs cells slots Q ls C kk => lv_imul C.1.1 C.1.2.2.1 hd (hp ▸ kk)⟩
theorem bz_i_iand {k : Nat} {N : bz_N} {i len : Nat} {L : List (Option bz_V)} {st : List bz_V} {μ : bz_M} {res : bz_R} {x y : Int} (hd : decode (bz_b k) (bz_pc k i) = .ok (.iand, 1)) (hp : bz_pc k (i + 1) = bz_pc k i + 1) (h : bz_H k N (i + 1) L (zI (bz_and x y) :: st) μ res) : bz_H k N i L (zI y :: zI x :: st) μ res := by
  refine bz_pure h fun sv hv => ?_
  obtain ⟨w1, w2, ws, rfl, ⟨n1, rfl, e1⟩, ⟨n2, rfl, e2⟩, t⟩ := bz_vs2 hv
  exact ⟨_ :: ws, ⟨⟨_, rfl, by rw [bz_band, e1, e2]⟩, t⟩, fun p l e R s m args below meth c H locs cells slots Q ls C kk => lv_iand C.1.1 C.1.2.2.1 hd (hp ▸ kk)⟩
theorem bz_i_ior {k : Nat} {N : bz_N} {i len : Nat} {L : List (Option bz_V)} {st : List bz_V} {μ : bz_M} {res : bz_R} {x y : Int} (hd : decode (bz_b k) (bz_pc k i) = .ok (.ior, 1)) (hp : bz_pc k (i + 1) = bz_pc k i + 1) (h : bz_H k N (i + 1) L (zI (bz_or x y) :: st) μ res) : bz_H k N i L (zI y :: zI x :: st) μ res := by
  refine bz_pure h fun sv hv => ?_
  obtain ⟨w1, w2, ws, rfl, ⟨n1, rfl, e1⟩, ⟨n2, rfl, e2⟩, t⟩ := bz_vs2 hv
  exact ⟨_ :: ws, ⟨⟨_, rfl, by rw [bz_bor, e1, e2]⟩, t⟩, fun p l e R s m args below meth c H locs cells slots Q ls C kk => lv_ior C.1.1 C.1.2.2.1 hd (hp ▸ kk)⟩
theorem bz_i_ishl {k : Nat} {N : bz_N} {i len : Nat} {L : List (Option bz_V)} {st : List bz_V} {μ : bz_M} {res : bz_R} {x y : Int} (hd : decode (bz_b k) (bz_pc k i) = .ok (.ishl, 1)) (hp : bz_pc k (i + 1) = bz_pc k i + 1) (h : bz_H k N (i + 1) L (zI (bz_shl x y) :: st) μ res) : bz_H k N i L (zI y :: zI x :: st) μ res := by
  refine bz_pure h fun sv hv => ?_
  obtain ⟨w1, w2, ws, rfl, ⟨n1, rfl, e1⟩, ⟨n2, rfl, e2⟩, t⟩ := bz_vs2 hv
  exact ⟨_ :: ws, ⟨⟨_, rfl, by rw [bz_bshl, e1, e2]⟩, t⟩, fun p l e R s m args below meth c H locs cells slots Q ls C kk => lv_ishl C.1.1 C.1.2.2.1 hd (hp ▸ kk)⟩
theorem bz_i_ishr {k : Nat} {N : bz_N} {i len : Nat} {L : List (Option bz_V)} {st : List bz_V} {μ : bz_M} {res : bz_R} {x y : Int} (hd : decode (bz_b k) (bz_pc k i) = .ok (.ishr, 1)) (hp : bz_pc k (i + 1) = bz_pc k i + 1) (h : bz_H k N (i + 1) L (zI (bz_shr x y) :: st) μ res) : bz_H k N i L (zI y :: zI x :: st) μ res := by
  refine bz_pure h fun sv hv => ?_
  obtain ⟨w1, w2, ws, rfl, ⟨n1, rfl, e1⟩, ⟨n2, rfl, e2⟩, t⟩ := bz_vs2 hv
  exact ⟨_ :: ws, ⟨⟨_, rfl, by rw [bz_bshr, e1, e2]⟩, t⟩, fun p l e R s m args below meth c H locs cells slots Q ls C kk => lv_ishr C.1.1 C.1.2.2.1 hd (hp ▸ kk)⟩
theorem bz_i_ladd {k : Nat} {N : bz_N} {i len : Nat} {L : List (Option bz_V)} {st : List bz_V} {μ : bz_M} {res : bz_R} {x y : Int} (hd : decode (bz_b k) (bz_pc k i) = .ok (.ladd, 1)) (hp : bz_pc k (i + 1) = bz_pc k i + 1) (h : bz_H k N (i + 1) L (zL (wl (x + y)) :: st) μ res) : bz_H k N i L (zL y :: zL x :: st) μ res := by
  refine bz_pure h fun sv hv => ?_
  obtain ⟨w1, w2, ws, rfl, ⟨n1, rfl, e1⟩, ⟨n2, rfl, e2⟩, t⟩ := bz_vs2 hv
  exact ⟨_ :: ws, ⟨⟨_, rfl, by rw [bz_addl, e1, e2]⟩, t⟩, fun p l e R s m args below meth c H locs cells slots Q ls C kk => lv_ladd C.1.1 C.1.2.2.1 hd (hp ▸ kk)⟩
theorem bz_i_lsub {k : Nat} {N : bz_N} {i len : Nat} {L : List (Option bz_V)} {st : List bz_V} {μ : bz_M} {res : bz_R} {x y : Int} (hd : decode (bz_b k) (bz_pc k i) = .ok (.lsub, 1)) (hp : bz_pc k (i + 1) = bz_pc k i + 1) (h : bz_H k N (i + 1) L (zL (wl (x - y)) :: st) μ res) : bz_H k N i L (zL y :: zL x :: st) μ res := by
  refine bz_pure h fun sv hv => ?_
  obtain ⟨w1, w2, ws, rfl, ⟨n1, rfl, e1⟩, ⟨n2, rfl, e2⟩, t⟩ := bz_vs2 hv
  exact ⟨_ :: ws, ⟨⟨_, rfl, by rw [bz_subl, e1, e2]⟩, t⟩, fun p l e R s m args below meth c H locs cells slots Q ls C kk => lv_lsub C.1.1 C.1.2.2.1 hd (hp ▸ kk)⟩
theorem bz_i_lmul {k : Nat} {N : bz_N} {i len : Nat} {L : List (Option bz_V)} {st : List bz_V} {μ : bz_M} {res : bz_R} {x y : Int} (hd : decode (bz_b k) (bz_pc k i) = .ok (.lmul, 1)) (hp : bz_pc k (i + 1) = bz_pc k i + 1) (h : bz_H k N (i + 1) L (zL (wl (x * y)) :: st) μ res) : bz_H k N i L (zL y :: zL x :: st) μ res := by
  refine bz_pure h fun sv hv => ?_
  obtain ⟨w1, w2, ws, rfl, ⟨n1, rfl, e1⟩, ⟨n2, rfl, e2⟩, t⟩ := bz_vs2 hv
  exact ⟨_ :: ws, ⟨⟨_, rfl, by rw [bz_mull, e1, e2]⟩, t⟩, fun p l e R s m args below meth c H locs cells slots Q ls C kk => lv_lmul C.1.1 C.1.2.2.1 hd (hp ▸ kk)⟩
theorem bz_i_lxor {k : Nat} {N : bz_N} {i len : Nat} {L : List (Option bz_V)} {st : List bz_V} {μ : bz_M} {res : bz_R} {x y : Int} (hd : decode (bz_b k) (bz_pc k i) = .ok (.lxor, 1)) (hp : bz_pc k (i + 1) = bz_pc k i + 1) (h : bz_H k N (i + 1) L (zL (bz_lxor x y) :: st) μ res) : bz_H k N i L (zL y :: zL x :: st) μ res := by
  refine bz_pure h fun sv hv => ?_
  obtain ⟨w1, w2, ws, rfl, ⟨n1, rfl, e1⟩, ⟨n2, rfl, e2⟩, t⟩ := bz_vs2 hv
  exact ⟨_ :: ws, ⟨⟨_, rfl, by rw [bz_bxorl, e1, e2]⟩, t⟩, fun p l e R s m args below meth c H locs cells slots Q ls C kk => lv_lxor C.1.1 C.1.2.2.1 hd (hp ▸ kk)⟩
theorem bz_i_iushr {k : Nat} {N : bz_N} {i len : Nat} {L : List (Option bz_V)} {st : List bz_V} {μ : bz_M} {res : bz_R} {x y : Int} (hd : decode (bz_b k) (bz_pc k i) = .ok (.iushr, 1)) (hp : bz_pc k (i + 1) = bz_pc k i + 1) (h : bz_H k N (i + 1) L (zI (bz_ushr x y) :: st) μ res) : bz_H k N i L (zI y :: zI x :: st) μ res := by
  refine bz_pure h fun sv hv => ?_
  obtain ⟨w1, w2, ws, rfl, ⟨n1, rfl, e1⟩, ⟨n2, rfl, e2⟩, t⟩ := bz_vs2 hv
  exact ⟨_ :: ws, ⟨⟨_, rfl, by rw [bz_bushr, e1, e2]⟩, t⟩, fun p l e R s m args below meth c H locs cells slots Q ls C kk => lv_iushr C.1.1 C.1.2.2.1 hd rfl (hp ▸ kk)⟩
theorem bz_i_lcmp {k : Nat} {N : bz_N} {i len : Nat} {L : List (Option bz_V)} {st : List bz_V} {μ : bz_M} {res : bz_R} {x y : Int} (hd : decode (bz_b k) (bz_pc k i) = .ok (.lcmp, 1)) (hp : bz_pc k (i + 1) = bz_pc k i + 1) (h : bz_H k N (i + 1) L (zI (bz_cmp x y) :: st) μ res) : bz_H k N i L (zL y :: zL x :: st) μ res := by
  refine bz_pure h fun sv hv => ?_
  obtain ⟨w1, w2, ws, rfl, ⟨n1, rfl, e1⟩, ⟨n2, rfl, e2⟩, t⟩ := bz_vs2 hv
  exact ⟨_ :: ws, ⟨⟨_, rfl, by rw [bz_cm, e1, e2]⟩, t⟩, fun p l e R s m args below meth c H locs cells slots Q ls C kk => W.lcmp C.1.1 C.1.2.2.1 hd (hp ▸ kk)⟩
theorem bz_i_idiv {k : Nat} {N : bz_N} {i len : Nat} {L : List (Option bz_V)} {st : List bz_V} {μ : bz_M} {res : bz_R} {x y : Int} (hy : ¬ y = 0) (hd : decode (bz_b k) (bz_pc k i) = .ok (.idiv, 1)) (hp : bz_pc k (i + 1) = bz_pc k i + 1) (h : bz_H k N (i + 1) L (zI (wr (x.tdiv y)) :: st) μ res) : bz_H k N i L (zI y :: zI x :: st) μ res := by
  refine bz_pure h fun sv hv => ?_
  obtain ⟨w1, w2, ws, rfl, ⟨n1, rfl, e1⟩, ⟨n2, rfl, e2⟩, t⟩ := bz_vs2 hv
  exact ⟨_ :: ws, ⟨⟨_, rfl, by rw [bz_div, e1, e2]⟩, t⟩, fun p l e R s m args below meth c H locs cells slots Q ls C kk => lv_idiv C.1.1 C.1.2.2.1 hd (fun q => hy (by rw [← e1, q]; rfl)) (hp ▸ kk)⟩
theorem bz_i_irem {k : Nat} {N : bz_N} {i len : Nat} {L : List (Option bz_V)} {st : List bz_V} {μ : bz_M} {res : bz_R} {x y : Int} (hy : ¬ y = 0) (hd : decode (bz_b k) (bz_pc k i) = .ok (.irem, 1)) (hp : bz_pc k (i + 1) = bz_pc k i + 1) (h : bz_H k N (i + 1) L (zI (x.tmod y) :: st) μ res) : bz_H k N i L (zI y :: zI x :: st) μ res := by
  refine bz_pure h fun sv hv => ?_
  obtain ⟨w1, w2, ws, rfl, ⟨n1, rfl, e1⟩, ⟨n2, rfl, e2⟩, t⟩ := bz_vs2 hv
  exact ⟨_ :: ws, ⟨⟨_, rfl, by rw [bz_rem, e1, e2]⟩, t⟩, fun p l e R s m args below meth c H locs cells slots Q ls C kk => lv_irem C.1.1 C.1.2.2.1 hd (fun q => hy (by rw [← e1, q]; rfl)) (hp ▸ kk)⟩
theorem bz_i_ldiv {k : Nat} {N : bz_N} {i len : Nat} {L : List (Option bz_V)} {st : List bz_V} {μ : bz_M} {res : bz_R} {x y : Int} (hy : ¬ y = 0) (hd : decode (bz_b k) (bz_pc k i) = .ok (.ldiv, 1)) (hp : bz_pc k (i + 1) = bz_pc k i + 1) (h : bz_H k N (i + 1) L (zL (wl (x.tdiv y)) :: st) μ res) : bz_H k N i L (zL y :: zL x :: st) μ res := by
  refine bz_pure h fun sv hv => ?_
  obtain ⟨w1, w2, ws, rfl, ⟨n1, rfl, e1⟩, ⟨n2, rfl, e2⟩, t⟩ := bz_vs2 hv
  exact ⟨_ :: ws, ⟨⟨_, rfl, by rw [bz_divl, e1, e2]⟩, t⟩, fun p l e R s m args below meth c H locs cells slots Q ls C kk => lv_ldiv C.1.1 C.1.2.2.1 hd (fun q => hy (by rw [← e1, q]; rfl)) (hp ▸ kk)⟩
theorem bz_i_ineg {k : Nat} {N : bz_N} {i len : Nat} {L : List (Option bz_V)} {st : List bz_V} {μ : bz_M} {res : bz_R} {x : Int} (hd : decode (bz_b k) (bz_pc k i) = .ok (.ineg, 1)) (hp : bz_pc k (i + 1) = bz_pc k i + 1) (h : bz_H k N (i + 1) L (zI (wr (-x)) :: st) μ res) : bz_H k N i L (zI x :: st) μ res := by
  refine bz_pure h fun sv hv => ?_
  obtain ⟨w1, ws, rfl, ⟨n1, rfl, e1⟩, t⟩ := bz_vs1 hv
  exact ⟨_ :: ws, ⟨⟨_, rfl, by rw [bz_neg, e1]⟩, t⟩, fun p l e R s m args below meth c H locs cells slots Q ls C kk => lv_ineg C.1.1 C.1.2.2.1 hd (hp ▸ kk)⟩
theorem bz_i_i2l {k : Nat} {N : bz_N} {i len : Nat} {L : List (Option bz_V)} {st : List bz_V} {μ : bz_M} {res : bz_R} {x : Int} (hd : decode (bz_b k) (bz_pc k i) = .ok (.i2l, 1)) (hp : bz_pc k (i + 1) = bz_pc k i + 1) (h : bz_H k N (i + 1) L (zL (x) :: st) μ res) : bz_H k N i L (zI x :: st) μ res := by
  refine bz_pure h fun sv hv => ?_
  obtain ⟨w1, ws, rfl, ⟨n1, rfl, e1⟩, t⟩ := bz_vs1 hv
  exact ⟨_ :: ws, ⟨⟨_, rfl, by rw [bz_i2l', e1]⟩, t⟩, fun p l e R s m args below meth c H locs cells slots Q ls C kk => lv_i2l C.1.1 C.1.2.2.1 hd rfl (hp ▸ kk)⟩
theorem bz_i_l2i {k : Nat} {N : bz_N} {i len : Nat} {L : List (Option bz_V)} {st : List bz_V} {μ : bz_M} {res : bz_R} {x : Int} (hd : decode (bz_b k) (bz_pc k i) = .ok (.l2i, 1)) (hp : bz_pc k (i + 1) = bz_pc k i + 1) (h : bz_H k N (i + 1) L (zI (wr x) :: st) μ res) : bz_H k N i L (zL x :: st) μ res := by
  refine bz_pure h fun sv hv => ?_
  obtain ⟨w1, ws, rfl, ⟨n1, rfl, e1⟩, t⟩ := bz_vs1 hv
  exact ⟨_ :: ws, ⟨⟨_, rfl, by rw [bz_l2i', e1]⟩, t⟩, fun p l e R s m args below meth c H locs cells slots Q ls C kk => lv_l2i C.1.1 C.1.2.2.1 hd rfl (hp ▸ kk)⟩
theorem bz_i_i2c {k : Nat} {N : bz_N} {i len : Nat} {L : List (Option bz_V)} {st : List bz_V} {μ : bz_M} {res : bz_R} {x : Int} (hd : decode (bz_b k) (bz_pc k i) = .ok (.i2c, 1)) (hp : bz_pc k (i + 1) = bz_pc k i + 1) (h : bz_H k N (i + 1) L (zI (bz_i2c x) :: st) μ res) : bz_H k N i L (zI x :: st) μ res := by
  refine bz_pure h fun sv hv => ?_
  obtain ⟨w1, ws, rfl, ⟨n1, rfl, e1⟩, t⟩ := bz_vs1 hv
  exact ⟨_ :: ws, ⟨⟨_, rfl, by rw [bz_c2, e1]⟩, t⟩, fun p l e R s m args below meth c H locs cells slots Q ls C kk => lv_i2c C.1.1 C.1.2.2.1 hd rfl (hp ▸ kk)⟩
theorem bz_i_i2b {k : Nat} {N : bz_N} {i len : Nat} {L : List (Option bz_V)} {st : List bz_V} {μ : bz_M} {res : bz_R} {x : Int} (hd : decode (bz_b k) (bz_pc k i) = .ok (.i2b, 1)) (hp : bz_pc k (i + 1) = bz_pc k i + 1) (h : bz_H k N (i + 1) L (zI (bz_i2b x) :: st) μ res) : bz_H k N i L (zI x :: st) μ res := by
  refine bz_pure h fun sv hv => ?_
  obtain ⟨w1, ws, rfl, ⟨n1, rfl, e1⟩, t⟩ := bz_vs1 hv
  exact ⟨_ :: ws, ⟨⟨_, rfl, by rw [bz_b2, e1]⟩, t⟩, fun p l e R s m args below meth c H locs cells slots Q ls C kk => lv_i2b C.1.1 C.1.2.2.1 hd rfl (hp ▸ kk)⟩
theorem bz_i_iconst {k : Nat} {N : bz_N} {i len : Nat} {L : List (Option bz_V)} {st : List bz_V} {μ : bz_M} {res : bz_R} {n : Int} (hd : decode (bz_b k) (bz_pc k i) = .ok (.iconst n, 1)) (hp : bz_pc k (i + 1) = bz_pc k i + 1) (h : bz_H k N (i + 1) L (zI (Int32.ofInt n).toInt :: st) μ res) : bz_H k N i L st μ res := by
  refine bz_pure h fun sv hv => ?_
  exact ⟨_ :: sv, ⟨⟨(Int32.ofInt n), rfl, rfl⟩, hv⟩, fun p l e R s m args below meth c H locs cells slots Q ls C kk => lv_iconst C.1.1 C.1.2.2.1 hd rfl (hp ▸ kk)⟩
theorem bz_i_bipush {k : Nat} {N : bz_N} {i len : Nat} {L : List (Option bz_V)} {st : List bz_V} {μ : bz_M} {res : bz_R} {n : Int} (hd : decode (bz_b k) (bz_pc k i) = .ok (.bipush n, 2)) (hp : bz_pc k (i + 1) = bz_pc k i + 2) (h : bz_H k N (i + 1) L (zI ((Int8.ofInt n).toInt32).toInt :: st) μ res) : bz_H k N i L st μ res := by
  refine bz_pure h fun sv hv => ?_
  exact ⟨_ :: sv, ⟨⟨((Int8.ofInt n).toInt32), rfl, rfl⟩, hv⟩, fun p l e R s m args below meth c H locs cells slots Q ls C kk => lv_bipush C.1.1 C.1.2.2.1 hd rfl (hp ▸ kk)⟩
theorem bz_i_sipush {k : Nat} {N : bz_N} {i len : Nat} {L : List (Option bz_V)} {st : List bz_V} {μ : bz_M} {res : bz_R} {n : Int} (hd : decode (bz_b k) (bz_pc k i) = .ok (.sipush n, 3)) (hp : bz_pc k (i + 1) = bz_pc k i + 3) (h : bz_H k N (i + 1) L (zI ((Int16.ofInt n).toInt32).toInt :: st) μ res) : bz_H k N i L st μ res := by
  refine bz_pure h fun sv hv => ?_
  exact ⟨_ :: sv, ⟨⟨((Int16.ofInt n).toInt32), rfl, rfl⟩, hv⟩, fun p l e R s m args below meth c H locs cells slots Q ls C kk => lv_sipush C.1.1 C.1.2.2.1 hd rfl (hp ▸ kk)⟩
theorem bz_i_lconst {k : Nat} {N : bz_N} {i len : Nat} {L : List (Option bz_V)} {st : List bz_V} {μ : bz_M} {res : bz_R} {n : Fin 2} (hd : decode (bz_b k) (bz_pc k i) = .ok (.lconst n, 1)) (hp : bz_pc k (i + 1) = bz_pc k i + 1) (h : bz_H k N (i + 1) L (zL (Int64.ofNat (n : Nat)).toInt :: st) μ res) : bz_H k N i L st μ res := by
  refine bz_pure h fun sv hv => ?_
  exact ⟨_ :: sv, ⟨⟨Int64.ofNat (n : Nat), rfl, rfl⟩, hv⟩, fun p l e R s m args below meth c H locs cells slots Q ls C kk => lv_lconst C.1.1 C.1.2.2.1 hd rfl (hp ▸ kk)⟩
theorem bz_i_ldcI {k : Nat} {N : bz_N} {i len : Nat} {L : List (Option bz_V)} {st : List bz_V} {μ : bz_M} {res : bz_R} {n : Nat} {v : Int32} (hw : Cond.constant (bz_ow k) n v ∈ bz_W) (hd : decode (bz_b k) (bz_pc k i) = .ok (.ldc n, 2)) (hp : bz_pc k (i + 1) = bz_pc k i + 2) (h : bz_H k N (i + 1) L (zI v.toInt :: st) μ res) : bz_H k N i L st μ res := by
  refine bz_pure h fun sv hv => ?_
  exact ⟨_ :: sv, ⟨⟨v, rfl, rfl⟩, hv⟩, fun p l e R s m args below meth c H locs cells slots Q ls C kk => lv_ldc C.1.1 C.1.2.2.1 C.1.2.2.2.2.2.1 (C.1.2.2.2.2.2.2.2.2.1 _ hw) hd (hp ▸ kk)⟩
theorem bz_i_ldcwI {k : Nat} {N : bz_N} {i len : Nat} {L : List (Option bz_V)} {st : List bz_V} {μ : bz_M} {res : bz_R} {n : Nat} {v : Int32} (hw : Cond.constant (bz_ow k) n v ∈ bz_W) (hd : decode (bz_b k) (bz_pc k i) = .ok (.ldc_w n, 3)) (hp : bz_pc k (i + 1) = bz_pc k i + 3) (h : bz_H k N (i + 1) L (zI v.toInt :: st) μ res) : bz_H k N i L st μ res := by
  refine bz_pure h fun sv hv => ?_
  exact ⟨_ :: sv, ⟨⟨v, rfl, rfl⟩, hv⟩, fun p l e R s m args below meth c H locs cells slots Q ls C kk => lv_ldcw C.1.1 C.1.2.2.1 C.1.2.2.2.2.2.1 (C.1.2.2.2.2.2.2.2.2.1 _ hw) hd (hp ▸ kk)⟩
theorem bz_i_ldc2 {k : Nat} {N : bz_N} {i len : Nat} {L : List (Option bz_V)} {st : List bz_V} {μ : bz_M} {res : bz_R} {n : Nat} {v : Int64} (hw : Cond.constantLong (bz_ow k) n v ∈ bz_W) (hd : decode (bz_b k) (bz_pc k i) = .ok (.ldc2_w n, 3)) (hp : bz_pc k (i + 1) = bz_pc k i + 3) (h : bz_H k N (i + 1) L (zL v.toInt :: st) μ res) : bz_H k N i L st μ res := by
  refine bz_pure h fun sv hv => ?_
  exact ⟨_ :: sv, ⟨⟨v, rfl, rfl⟩, hv⟩, fun p l e R s m args below meth c H locs cells slots Q ls C kk => lv_ldc2 C.1.1 C.1.2.2.1 C.1.2.2.2.2.2.1 (C.1.2.2.2.2.2.2.2.2.1 _ hw) hd (hp ▸ kk)⟩
theorem bz_i_dup {k : Nat} {N : bz_N} {i len : Nat} {L : List (Option bz_V)} {st : List bz_V} {μ : bz_M} {res : bz_R} {v : bz_V} (hc : bz_cat v = 1) (hd : decode (bz_b k) (bz_pc k i) = .ok (.dup, 1)) (hp : bz_pc k (i + 1) = bz_pc k i + 1) (h : bz_H k N (i + 1) L (v :: v :: st) μ res) : bz_H k N i L (v :: st) μ res := by
  refine bz_pure h fun sv hv => ?_
  obtain ⟨w1, ws, rfl, e1, t⟩ := bz_vs1 hv
  exact ⟨w1 :: w1 :: ws, ⟨e1, e1, t⟩, fun p l e R s m args below meth c H locs cells slots Q ls C kk => lv_dup C.1.1 C.1.2.2.1 hd (by rw [bz_vr_cat e1]; exact hc) (hp ▸ kk)⟩
theorem bz_i_pop {k : Nat} {N : bz_N} {i len : Nat} {L : List (Option bz_V)} {st : List bz_V} {μ : bz_M} {res : bz_R} {v : bz_V} (hc : bz_cat v = 1) (hd : decode (bz_b k) (bz_pc k i) = .ok (.pop, 1)) (hp : bz_pc k (i + 1) = bz_pc k i + 1) (h : bz_H k N (i + 1) L st μ res) : bz_H k N i L (v :: st) μ res := by
  refine bz_pure h fun sv hv => ?_
  obtain ⟨w1, ws, rfl, e1, t⟩ := bz_vs1 hv
  exact ⟨ws, t, fun p l e R s m args below meth c H locs cells slots Q ls C kk => lv_pop C.1.1 C.1.2.2.1 hd (by rw [bz_vr_cat e1]; exact hc) (hp ▸ kk)⟩
theorem bz_i_dup2 {k : Nat} {N : bz_N} {i len : Nat} {L : List (Option bz_V)} {st : List bz_V} {μ : bz_M} {res : bz_R} {v u : bz_V} (hc : bz_cat v = 1) (hc2 : bz_cat u = 1) (hd : decode (bz_b k) (bz_pc k i) = .ok (.dup2, 1)) (hp : bz_pc k (i + 1) = bz_pc k i + 1) (h : bz_H k N (i + 1) L (v :: u :: v :: u :: st) μ res) : bz_H k N i L (v :: u :: st) μ res := by
  refine bz_pure h fun sv hv => ?_
  obtain ⟨w1, w2, ws, rfl, e1, e2, t⟩ := bz_vs2 hv
  exact ⟨w1 :: w2 :: w1 :: w2 :: ws, ⟨e1, e2, e1, e2, t⟩, fun p l e R s m args below meth c H locs cells slots Q ls C kk => lv_dup2_11 C.1.1 C.1.2.2.1 hd (by rw [bz_vr_cat e1]; exact hc) (by rw [bz_vr_cat e2]; exact hc2) (hp ▸ kk)⟩
