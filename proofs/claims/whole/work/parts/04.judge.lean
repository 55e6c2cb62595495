/-! the judgement: a frame of one of the methods, over shapes and data, comes to a return that R allows -/
def g_t : List Cond := lw_tbl.filter goodWord
theorem g_mem {w : Cond} (h : w ∈ lw_tbl) (hg : goodWord w = true) : w ∈ g_t := List.mem_filter.mpr ⟨h, hg⟩
theorem g_good {w : Cond} (h : w ∈ g_t) : goodWord w = true := (List.mem_filter.mp h).2
def g_tys (E : g_E) : List (ClassId × FieldType) := [(E.2.2.1 0, .int), (E.2.2.1 1, .boolean), (E.2.2.1 2, .object RX8), (E.2.2.1 3, .object RX2)]
/-- links between nest mates -/
def g_nl : List (String × Nat × MethodName) := [(RX1, 103, yX11_onesFrom), (RX1, 146, yX11_packed), (RX1, 218, yX11_hasBit), (RX4, 37, yX11_hasBit), (RX4, 69, yX11_lowestBit), (RX4, 99, yX11_onesFrom), (RX6, 21, yX11_hasBit), (RX6, 33, yX11_lowestBit)]
def g_env (E : g_E) (U : State) : Prop := va_K (E.1, E.2.1) vwCl (g_tys E) U ∧ (∀ q ∈ g_nl, va_Nw (.methodLinkNest q.1 q.2.1 q.2.2 RX11) U) ∧ va_Nw (.fieldLinkNest RX8 27 RX11 "FIRST_TERM" "[I" RX11) U ∧ va_AO RX8 U ∧ va_AO RX2 U
def g_fl (E : g_E) (k : Nat) : Nat := if k = 0 then E.2.2.2.2.1 else 4
def g_fx (E : g_E) (k j : Nat) : Int := if k = 0 then (E.2.2.2.2.2 j).toInt else if k = 1 then ([3, 0, 0, 8] : List Int).getD j 0 else if k = 2 then ([3, 0, 0, 0] : List Int).getD j 0 else ([8, 2, 2, 20] : List Int).getD j 0
def g_for (E : g_E) (A : Nat → Prop) (U : State) (H : Heap) : Prop := (∀ k, k < 4 → va_T .int (E.2.2.2.1 k) (g_fl E k) (fun j => .int (Int32.ofInt (g_fx E k j))) A U H) ∧
  va_Z RX11 "FIRST_TERM" "[I" (.ref (E.2.2.2.1 1)) A U H ∧ va_Z RX11 "LOWEST_TERM" "[I" (.ref (E.2.2.2.1 2)) A U H ∧ va_Z RX11 "HIGHEST_TERM" "[I" (.ref (E.2.2.2.1 3)) A U H
theorem g_env.warm {E : g_E} {s U : State} (hW : s.WarmedH U.vm) (h : g_env E s) : g_env E U := ⟨va_K.moved hW.alike h.1, fun q hq => va_Nw.warmM hW (h.2.1 q hq), va_Nw.warmF hW h.2.2.1, va_AO.moved hW.alike h.2.2.2.1, va_AO.moved hW.alike h.2.2.2.2⟩
theorem g_for.moved {E : g_E} {A : Nat → Prop} {u U : State} {H : Heap} (hvm : u.vm.Alike U.vm) (h : g_for E A u H) : g_for E A U H := ⟨fun k hk => (h.1 k hk).moved hvm, h.2.1.moved hvm, h.2.2.1.moved hvm, h.2.2.2.moved hvm⟩
theorem g_for.kept {E : g_E} {A : Nat → Prop} {U : State} {H H1 : Heap} (h : g_for E A U H) (hq : ∀ a : Nat, a < H.size → ¬ A a → H1[a]? = H[a]?) : g_for E A U H1 := ⟨fun k hk => (h.1 k hk).kept hq, h.2.1.kept hq, h.2.2.1.kept hq, h.2.2.2.kept hq⟩
theorem va_T.narrow' {ty : FieldType} {t N : Nat} {f : Nat → Value} {A B : Nat → Prop} {U : State} {H : Heap} (h : va_T ty t N f A U H) (hAB : ∀ q, q < H.size → B q → A q) : va_T ty t N f B U H := by
  obtain ⟨cell, h1, h2, h3, h4, h5, h6, h7⟩ := h
  exact ⟨cell, h1, h2, h3, h4, h5, h6, fun z => h7 (hAB t (Array.getElem?_eq_some_iff.mp h1).1 z)⟩
theorem va_Z.narrow' {C n d : String} {v : Value} {A B : Nat → Prop} {U : State} {H : Heap} (h : va_Z C n d v A U H) (hAB : ∀ q, q < H.size → B q → A q) : va_Z C n d v B U H := by
  obtain ⟨cf, kf, fi, f, a, cell, h1, h2, h3, h4, h5, h6, h7, h8⟩ := h
  exact ⟨cf, kf, fi, f, a, cell, h1, h2, h3, h4, h5, h6, h7, fun z => h8 (hAB a (Array.getElem?_eq_some_iff.mp h5).1 z)⟩
theorem g_for.narrow {E : g_E} {A B : Nat → Prop} {U : State} {H : Heap} (h : g_for E A U H) (hAB : ∀ q, q < H.size → B q → A q) : g_for E B U H := ⟨fun k hk => (h.1 k hk).narrow' hAB, h.2.1.narrow' hAB, h.2.2.1.narrow' hAB, h.2.2.2.narrow' hAB⟩
def g_rm (d mc ms : Nat) : Room := { frames := d, cells := mc, slots := ms, locals := 41 * d + 32 }
abbrev g_Ro : Type := Option g_V → List g_Sh → g_D → Prop
def g_w (M : g_Md) : List Cond := .code M.1 M.2.1 M.2.2.1 M.2.2.2 :: g_t
def g_X (E : g_E) (M : g_Md) (p : Program) (s : State) (m : MethodId) (args : Array Value) (meth : Method) (c : Code) (A : Nat → Prop) : Prop :=
  p.tables.exec = Jvm.exec ∧ c.code = M.2.1 ∧ meth.sig.returnType = M.2.2.2 ∧ c.maxLocals = M.2.2.1 ∧ s.vm.findClass M.1.cls = some m.cls ∧ (∀ w ∈ g_t, w.before args s = true) ∧ meth.locks = false ∧ meth.name = M.1.name ∧ (∀ q, s.heap.size ≤ q → A q) ∧ g_env E s ∧ g_for E A s s.heap
/-- how a method ends -/
def g_Qc (E : g_E) (R : g_Ro) (a0 : Nat → Nat) (n0 : Nat) (A : Nat → Prop) : Array Value → State → Outcome → State → Prop := fun _ st oc t =>
  (∃ (r : Option g_V) (a : Nat → Nat) (sh : List g_Sh) (D : g_D), oc = .returned (r.map (g_cv E a)) ∧ R r sh D ∧ g_ok sh D [] r.toList ∧ n0 ≤ sh.length ∧ (∀ k, k < n0 → a k = a0 k) ∧ va_P (E.1, E.2.1) vwCl (g_cw E a sh D) t.heap ∧ va_D A (g_cw E a sh D) ∧ g_env E t ∧ g_for E A t t.heap) ∧ va_F A st t
def g_G (E : g_E) (l : Launch) (M : g_Md) (d mc ms nc ns pc : Nat) (L : List (Option g_V)) (S : List g_V) (sh : List g_Sh) (D : g_D) (R : g_Ro) : Prop :=
  g_ok sh D L S → ∀ (p : Program) (e : Env) (s : State) (m : MethodId) (args : Array Value) (below : List Frame) (meth : Method) (c : Code) (A : Nat → Prop) (a0 : Nat → Nat) (n0 : Nat) (H : Heap) (locs : List Loc) (ls : Array Slot) (a : Nat → Nat),
    g_X E M p s m args meth c A → n0 ≤ sh.length → (∀ k, k < n0 → a k = a0 k) → va_P (E.1, E.2.1) vwCl (g_cw E a sh D) H → va_D A (g_cw E a sh D) → va_S A s.heap H locs → g_lh E ls M.2.2.1 a L →
    W p l e (g_rm d mc ms) s m args below meth c H locs nc ns (MQ below (g_Qc E R a0 n0 A) args s mc ms A) (F0 m pc ls (S.map (g_cv E a)))
def g_Pc (E : g_E) (args : List g_V) (sh : List g_Sh) (D : g_D) (a : Nat → Nat) (sz : Nat) : Array Value → State → Prop := va_Pc (args.map (g_cv E a)) (fun U => U.heap.size = sz ∧ va_P (E.1, E.2.1) vwCl (g_cw E a sh D) U.heap ∧ va_D (fun _ => True) (g_cw E a sh D) ∧ g_env E U ∧ g_for E (va_A (g_cw E a sh D) sz) U U.heap)
/-- a method's contract -/
def g_M (E : g_E) (l : Launch) (M : g_Md) (d mc ms : Nat) (args : List g_V) (sh : List g_Sh) (D : g_D) (R : g_Ro) : Prop :=
  g_ok sh D [] args → ∀ (a : Nat → Nat) (sz : Nat), Met l M.1 (g_w M) (g_rm d mc ms) (g_Pc E args sh D a sz) (g_Qc E R a sh.length (va_A (g_cw E a sh D) sz)) mc ms (va_A (g_cw E a sh D) sz)
/-- arguments as they lie in the locals -/
def g_la : List g_V → List (Option g_V)
  | [] => []
  | .inr (.inl x) :: vs => some (.inr (.inl x)) :: none :: g_la vs
  | v :: vs => some v :: g_la vs
