theorem g_i8 {n : Int} (h : -128 ≤ n ∧ n ≤ 127) : (Int8.ofInt n).toInt32 = Int32.ofInt n := by
  rw [← Int32.toInt_inj, Int8.toInt_toInt32, Int8.toInt_ofInt_of_le (by omega) (by omega), g_rT ⟨by omega, by omega⟩]
theorem g_i16 {n : Int} (h : -32768 ≤ n ∧ n ≤ 32767) : (Int16.ofInt n).toInt32 = Int32.ofInt n := by
  rw [← Int32.toInt_inj, Int16.toInt_toInt32, Int16.toInt_ofInt_of_le (by omega) (by omega), g_rT ⟨by omega, by omega⟩]
theorem g_oadd (x y : Int) : Int32.ofInt x + Int32.ofInt y = Int32.ofInt (x + y) := by
  apply Int32.toBitVec_inj.mp; simp [BitVec.ofInt_add]
theorem g_osub (x y : Int) : Int32.ofInt x - Int32.ofInt y = Int32.ofInt (x - y) := by
  rw [Int.sub_eq_add_neg, ← g_oadd, Int32.sub_eq_add_neg, Int32.neg_ofInt]
theorem g_omul (x y : Int) : Int32.ofInt x * Int32.ofInt y = Int32.ofInt (x * y) := by
  apply Int32.toBitVec_inj.mp; simp [BitVec.ofInt_mul]
theorem g_oadd8 (x y : Int) : Int64.ofInt x + Int64.ofInt y = Int64.ofInt (x + y) := by
  apply Int64.toBitVec_inj.mp; simp [BitVec.ofInt_add]
theorem g_osub8 (x y : Int) : Int64.ofInt x - Int64.ofInt y = Int64.ofInt (x - y) := by
  rw [Int.sub_eq_add_neg, ← g_oadd8, Int64.sub_eq_add_neg, Int64.neg_ofInt]
theorem g_omul8 (x y : Int) : Int64.ofInt x * Int64.ofInt y = Int64.ofInt (x * y) := by
  apply Int64.toBitVec_inj.mp; simp [BitVec.ofInt_mul]
theorem g_odiv {x y : Int} (hx : g_r x) (hy : g_r y) (h0 : 0 ≤ x) (h1 : 0 < y) : Int32.ofInt x / Int32.ofInt y = Int32.ofInt (x / y) := by
  obtain ⟨a, rfl⟩ := Int.eq_ofNat_of_zero_le h0
  obtain ⟨b, rfl⟩ := Int.eq_ofNat_of_zero_le (Int.le_of_lt h1)
  have := pk_div (a := a) (d := b) (by have := hx.2; omega) (by omega) (by have := hy.2; omega)
  rw [Int32.ofInt_eq_ofNat, Int32.ofInt_eq_ofNat, show ((a : Int) / (b : Int)) = ((a / b : Nat) : Int) from rfl, Int32.ofInt_eq_ofNat]
  exact this
theorem g_odiv8 {x y : Int} (hx : g_r8 x) (hy : g_r8 y) (h0 : 0 ≤ x) (h1 : 0 < y) : Int64.ofInt x / Int64.ofInt y = Int64.ofInt (x / y) := by
  obtain ⟨a, rfl⟩ := Int.eq_ofNat_of_zero_le h0
  obtain ⟨b, rfl⟩ := Int.eq_ofNat_of_zero_le (Int.le_of_lt h1)
  have := pk_lDiv (a := a) (b := b) (by have := hx.2; omega) (by omega) (by have := hy.2; omega)
  rw [Int64.ofInt_eq_ofNat, Int64.ofInt_eq_ofNat, show ((a : Int) / (b : Int)) = ((a / b : Nat) : Int) from rfl, Int64.ofInt_eq_ofNat]
  exact this
theorem g_emod (x y : Int) : x - x / y * y = x % y := by
  have := Int.emod_add_mul_ediv x y
  rw [Int.mul_comm] at this
  omega
def g_and (x y : Int) : Int := (Int32.ofInt x &&& Int32.ofInt y).toInt
def g_or (x y : Int) : Int := (Int32.ofInt x ||| Int32.ofInt y).toInt
def g_xor (x y : Int) : Int := (Int32.ofInt x ^^^ Int32.ofInt y).toInt
def g_shl (x y : Int) : Int := (Int32.ofInt x <<< (Int32.ofInt y &&& 31)).toInt
def g_shr (x y : Int) : Int := (Int32.ofInt x >>> (Int32.ofInt y &&& 31)).toInt
def g_ushr (x y : Int) : Int := ((Int32.ofInt x).toUInt32 >>> ((Int32.ofInt y).toUInt32 &&& Int32.toUInt32 31)).toInt32.toInt
def g_and8 (x y : Int) : Int := (Int64.ofInt x &&& Int64.ofInt y).toInt
def g_shl8 (x y : Int) : Int := (Int64.ofInt x <<< ((Int32.ofInt y).toInt64 &&& 63)).toInt
def g_l2i (x : Int) : Int := (Int64.ofInt x).toInt32.toInt
theorem g_rof8 (x : Int64) : g_r8 x.toInt := ⟨by have := x.le_toInt; omega, by have := x.toInt_lt; omega⟩
def g_cmp (x y : Int) : Int := if y < x then 1 else if x = y then 0 else -1
theorem g_ocmp {x y : Int} (hx : g_r8 x) (hy : g_r8 y) : lg_cmp (Int64.ofInt x) (Int64.ofInt y) = Int32.ofInt (g_cmp x y) := by
  unfold lg_cmp g_cmp
  simp only [gt_iff_lt, g_lt8 hy hx, g_eq8 hx hy]
  split
  · rfl
  · split <;> rfl
section GR
variable {E : g_E} {l : Launch} {M : g_Md} {d mc ms nc ns pc : Nat} {L : List (Option g_V)} {S : List g_V} {sh : List g_Sh} {D : g_D} {R : g_Ro} {v w : g_V}
theorem g_ok.push (h : g_ok sh D L S) (hv : g_okV sh.length v) : g_ok sh D L (v :: S) := ⟨h.1, h.2.1, h.2.2.1, fun x hx => (List.mem_cons.mp hx).elim (fun e => e ▸ hv) (h.2.2.2 x)⟩
theorem g_ok.pop (h : g_ok sh D L (v :: S)) : g_ok sh D L S := ⟨h.1, h.2.1, h.2.2.1, fun x hx => h.2.2.2 x (List.mem_cons_of_mem _ hx)⟩
theorem g_ok.top (h : g_ok sh D L (v :: S)) : g_okV sh.length v := h.2.2.2 v List.mem_cons_self
theorem g_ok.loc (h : g_ok sh D L S) {i : Nat} (hi : L[i]? = some (some v)) : g_okV sh.length v := h.2.2.1 i v hi
theorem g_ok.s1 (h : g_ok sh D L S) {i : Nat} (hv : g_okV sh.length v) : g_ok sh D (g_s1 L i v) S := ⟨h.1, h.2.1, h.2.2.1.s1 hv, h.2.2.2⟩
theorem g_ok.s2 (h : g_ok sh D L S) {i : Nat} (hv : g_okV sh.length v) : g_ok sh D (g_s2 L i v) S := ⟨h.1, h.2.1, h.2.2.1.s2 hv, h.2.2.2⟩
theorem g_ok.up (h : g_ok sh D L S) {k j : Nat} {x : Int} (hx : g_r x) : g_ok sh (g_up D k j x) L S := ⟨h.1, fun a b => by unfold g_up; split <;> first | exact hx | exact h.2.1 a b, h.2.2.1, h.2.2.2⟩
/-- what may be said of the state is there to be used -/
theorem g_use (k : g_ok sh D L S → g_G E l M d mc ms nc ns pc L S sh D R) : g_G E l M d mc ms nc ns pc L S sh D R := fun o => k o o
theorem g_mono {R' : g_Ro} (h : ∀ r sh' D', R r sh' D' → R' r sh' D') (k : g_M E l M d mc ms S sh D R) : g_M E l M d mc ms S sh D R' := by
  intro ok a sz
  have := k ok a sz
  intro p e ha hc hk s m args below hf hfit hP hK
  obtain ⟨t, o, h1, h2, h3, ⟨⟨r, a1, sh1, D1, q1, q2, q3⟩, q4⟩, h5⟩ := this p e ha hc hk s m args below hf hfit hP hK
  exact ⟨t, o, h1, h2, h3, ⟨⟨r, a1, sh1, D1, q1, h _ _ _ q2, q3⟩, q4⟩, h5⟩
/-- an instruction that works on the stack alone -/
theorem g_stk {S' : List g_V} {pc' : Nat} (k : g_G E l M d mc ms nc ns pc' L S' sh D R) (hok : g_ok sh D L S → g_ok sh D L S')
    (hW : ∀ (p : Program) (e : Env) (s : State) (m : MethodId) (args : Array Value) (below : List Frame) (meth : Method) (c : Code) (A : Nat → Prop) (H : Heap) (locs : List Loc) (ls : Array Slot) (a : Nat → Nat) (Q : State → Prop), g_ok sh D L S → g_X E M p s m args meth c A → g_lh E ls M.2.2.1 a L → va_P (E.1, E.2.1) vwCl (g_cw E a sh D) H → va_S A s.heap H locs →
      W p l e (g_rm d mc ms) s m args below meth c H locs nc ns Q (F0 m pc' ls (S'.map (g_cv E a))) → W p l e (g_rm d mc ms) s m args below meth c H locs nc ns Q (F0 m pc ls (S.map (g_cv E a)))) : g_G E l M d mc ms nc ns pc L S sh D R :=
  fun ok p e s m args below meth c A a0 n0 H locs ls a X h1 h2 hP hD hS hl => hW p e s m args below meth c A H locs ls a _ ok X hl hP hS (k (hok ok) p e s m args below meth c A a0 n0 H locs ls a X h1 h2 hP hD hS hl)
theorem g_iconst {n : Int} (hd : decode M.2.1 pc = .ok (.iconst n, 1)) (hn : g_r n) (k : g_G E l M d mc ms nc ns (pc + 1) L (g_I n :: S) sh D R) : g_G E l M d mc ms nc ns pc L S sh D R :=
  g_stk k (fun o => o.push hn) fun p e s m args below meth c A H locs ls a Q o X hl hP hS w => lv_iconst X.1 X.2.1 hd rfl w
theorem g_bipush {n : Int} (hd : decode M.2.1 pc = .ok (.bipush n, 2)) (hn : -128 ≤ n ∧ n ≤ 127) (k : g_G E l M d mc ms nc ns (pc + 2) L (g_I n :: S) sh D R) : g_G E l M d mc ms nc ns pc L S sh D R :=
  g_stk k (fun o => o.push ⟨by omega, by omega⟩) fun p e s m args below meth c A H locs ls a Q o X hl hP hS w => lv_bipush X.1 X.2.1 hd (g_i8 hn) w
theorem g_sipush {n : Int} (hd : decode M.2.1 pc = .ok (.sipush n, 3)) (hn : -32768 ≤ n ∧ n ≤ 32767) (k : g_G E l M d mc ms nc ns (pc + 3) L (g_I n :: S) sh D R) : g_G E l M d mc ms nc ns pc L S sh D R :=
  g_stk k (fun o => o.push ⟨by omega, by omega⟩) fun p e s m args below meth c A H locs ls a Q o X hl hP hS w => lv_sipush X.1 X.2.1 hd (g_i16 hn) w
theorem g_ldc {i : Nat} {x : Int} (hd : decode M.2.1 pc = .ok (.ldc i, 2)) (hx : g_r x) (hc : Cond.constant M.1.cls i (Int32.ofInt x) ∈ g_t) (k : g_G E l M d mc ms nc ns (pc + 2) L (g_I x :: S) sh D R) : g_G E l M d mc ms nc ns pc L S sh D R :=
  g_stk k (fun o => o.push hx) fun p e s m args below meth c A H locs ls a Q o X hl hP hS w => lv_ldc X.1 X.2.1 X.2.2.2.2.1 (X.2.2.2.2.2.1 _ hc) hd w
theorem g_ldcw {i : Nat} {x : Int} (hd : decode M.2.1 pc = .ok (.ldc_w i, 3)) (hx : g_r x) (hc : Cond.constant M.1.cls i (Int32.ofInt x) ∈ g_t) (k : g_G E l M d mc ms nc ns (pc + 3) L (g_I x :: S) sh D R) : g_G E l M d mc ms nc ns pc L S sh D R :=
  g_stk k (fun o => o.push hx) fun p e s m args below meth c A H locs ls a Q o X hl hP hS w => lv_ldcw X.1 X.2.1 X.2.2.2.2.1 (X.2.2.2.2.2.1 _ hc) hd w
theorem g_ldc2 {i : Nat} {x : Int} (hd : decode M.2.1 pc = .ok (.ldc2_w i, 3)) (hx : g_r8 x) (hc : Cond.constantLong M.1.cls i (Int64.ofInt x) ∈ g_t) (k : g_G E l M d mc ms nc ns (pc + 3) L (g_J x :: S) sh D R) : g_G E l M d mc ms nc ns pc L S sh D R :=
  g_stk k (fun o => o.push hx) fun p e s m args below meth c A H locs ls a Q o X hl hP hS w => lv_ldc2 X.1 X.2.1 X.2.2.2.2.1 (X.2.2.2.2.2.1 _ hc) hd w
theorem g_lconst {n : Fin 2} (hd : decode M.2.1 pc = .ok (.lconst n, 1)) (k : g_G E l M d mc ms nc ns (pc + 1) L (g_J (n : Nat) :: S) sh D R) : g_G E l M d mc ms nc ns pc L S sh D R :=
  g_stk k (fun o => o.push ⟨by omega, by omega⟩) fun p e s m args below meth c A H locs ls a Q o X hl hP hS w => lv_lconst X.1 X.2.1 hd Int64.ofInt_eq_ofNat.symm w
theorem g_iload_n {i : Fin 4} {x : Int} (hd : decode M.2.1 pc = .ok (.iload_n i, 1)) (hl : L[(i : Nat)]? = some (some (g_I x))) (k : g_G E l M d mc ms nc ns (pc + 1) L (g_I x :: S) sh D R) : g_G E l M d mc ms nc ns pc L S sh D R :=
  g_stk k (fun o => o.push (o.loc hl)) fun p e s m args below meth c A H locs ls a Q o X hh hP hS w => lv_iload_n X.1 X.2.1 hd rfl (hh.2.2 _ _ hl) w
theorem g_iload {i : Nat} {x : Int} (hd : decode M.2.1 pc = .ok (.iload i, 2)) (hl : L[i]? = some (some (g_I x))) (k : g_G E l M d mc ms nc ns (pc + 2) L (g_I x :: S) sh D R) : g_G E l M d mc ms nc ns pc L S sh D R :=
  g_stk k (fun o => o.push (o.loc hl)) fun p e s m args below meth c A H locs ls a Q o X hh hP hS w => lv_iload X.1 X.2.1 hd (hh.2.2 _ _ hl) w
theorem g_lload_n {i : Fin 4} {x : Int} (hd : decode M.2.1 pc = .ok (.lload_n i, 1)) (hl : L[(i : Nat)]? = some (some (g_J x))) (k : g_G E l M d mc ms nc ns (pc + 1) L (g_J x :: S) sh D R) : g_G E l M d mc ms nc ns pc L S sh D R :=
  g_stk k (fun o => o.push (o.loc hl)) fun p e s m args below meth c A H locs ls a Q o X hh hP hS w => lv_lload_n X.1 X.2.1 hd rfl (hh.2.2 _ _ hl) w
theorem g_lload {i : Nat} {x : Int} (hd : decode M.2.1 pc = .ok (.lload i, 2)) (hl : L[i]? = some (some (g_J x))) (k : g_G E l M d mc ms nc ns (pc + 2) L (g_J x :: S) sh D R) : g_G E l M d mc ms nc ns pc L S sh D R :=
  g_stk k (fun o => o.push (o.loc hl)) fun p e s m args below meth c A H locs ls a Q o X hh hP hS w => lv_lload X.1 X.2.1 hd (hh.2.2 _ _ hl) w
theorem g_aload_n {i : Fin 4} {x : Nat} (hd : decode M.2.1 pc = .ok (.aload_n i, 1)) (hl : L[(i : Nat)]? = some (some (g_R x))) (k : g_G E l M d mc ms nc ns (pc + 1) L (g_R x :: S) sh D R) : g_G E l M d mc ms nc ns pc L S sh D R :=
  g_stk k (fun o => o.push (o.loc hl)) fun p e s m args below meth c A H locs ls a Q o X hh hP hS w => lv_aload_n X.1 X.2.1 hd rfl (hh.2.2 _ _ hl) w
theorem g_aload_nF {i : Fin 4} {x : Nat} (hd : decode M.2.1 pc = .ok (.aload_n i, 1)) (hl : L[(i : Nat)]? = some (some (g_F x))) (k : g_G E l M d mc ms nc ns (pc + 1) L (g_F x :: S) sh D R) : g_G E l M d mc ms nc ns pc L S sh D R :=
  g_stk k (fun o => o.push (o.loc hl)) fun p e s m args below meth c A H locs ls a Q o X hh hP hS w => lv_aload_n X.1 X.2.1 hd rfl (hh.2.2 _ _ hl) w
theorem g_iadd {x y : Int} (hd : decode M.2.1 pc = .ok (.iadd, 1)) (hr : g_r (x + y)) (k : g_G E l M d mc ms nc ns (pc + 1) L (g_I (x + y) :: S) sh D R) : g_G E l M d mc ms nc ns pc L (g_I y :: g_I x :: S) sh D R :=
  g_stk k (fun o => o.pop.pop.push hr) fun p e s m args below meth c A H locs ls a Q o X hl hP hS w => lv_iadd X.1 X.2.1 hd (by rw [g_oadd]; exact w)
theorem g_isub {x y : Int} (hd : decode M.2.1 pc = .ok (.isub, 1)) (hr : g_r (x - y)) (k : g_G E l M d mc ms nc ns (pc + 1) L (g_I (x - y) :: S) sh D R) : g_G E l M d mc ms nc ns pc L (g_I y :: g_I x :: S) sh D R :=
  g_stk k (fun o => o.pop.pop.push hr) fun p e s m args below meth c A H locs ls a Q o X hl hP hS w => lv_isub X.1 X.2.1 hd (by rw [g_osub]; exact w)
theorem g_imul {x y : Int} (hd : decode M.2.1 pc = .ok (.imul, 1)) (hr : g_r (x * y)) (k : g_G E l M d mc ms nc ns (pc + 1) L (g_I (x * y) :: S) sh D R) : g_G E l M d mc ms nc ns pc L (g_I y :: g_I x :: S) sh D R :=
  g_stk k (fun o => o.pop.pop.push hr) fun p e s m args below meth c A H locs ls a Q o X hl hP hS w => lv_imul X.1 X.2.1 hd (by rw [g_omul]; exact w)
theorem g_iand {x y : Int} (hd : decode M.2.1 pc = .ok (.iand, 1)) (k : g_G E l M d mc ms nc ns (pc + 1) L (g_I (g_and x y) :: S) sh D R) : g_G E l M d mc ms nc ns pc L (g_I y :: g_I x :: S) sh D R :=
  g_stk k (fun o => o.pop.pop.push (g_rof _)) fun p e s m args below meth c A H locs ls a Q o X hl hP hS w => lv_iand X.1 X.2.1 hd (by rw [← Int32.ofInt_toInt (Int32.ofInt x &&& Int32.ofInt y)]; exact w)
theorem g_ior {x y : Int} (hd : decode M.2.1 pc = .ok (.ior, 1)) (k : g_G E l M d mc ms nc ns (pc + 1) L (g_I (g_or x y) :: S) sh D R) : g_G E l M d mc ms nc ns pc L (g_I y :: g_I x :: S) sh D R :=
  g_stk k (fun o => o.pop.pop.push (g_rof _)) fun p e s m args below meth c A H locs ls a Q o X hl hP hS w => lv_ior X.1 X.2.1 hd (by rw [← Int32.ofInt_toInt (Int32.ofInt x ||| Int32.ofInt y)]; exact w)
theorem g_ixor {x y : Int} (hd : decode M.2.1 pc = .ok (.ixor, 1)) (k : g_G E l M d mc ms nc ns (pc + 1) L (g_I (g_xor x y) :: S) sh D R) : g_G E l M d mc ms nc ns pc L (g_I y :: g_I x :: S) sh D R :=
  g_stk k (fun o => o.pop.pop.push (g_rof _)) fun p e s m args below meth c A H locs ls a Q o X hl hP hS w => lv_ixor X.1 X.2.1 hd (by rw [← Int32.ofInt_toInt (Int32.ofInt x ^^^ Int32.ofInt y)]; exact w)
theorem g_ishl {x y : Int} (hd : decode M.2.1 pc = .ok (.ishl, 1)) (k : g_G E l M d mc ms nc ns (pc + 1) L (g_I (g_shl x y) :: S) sh D R) : g_G E l M d mc ms nc ns pc L (g_I y :: g_I x :: S) sh D R :=
  g_stk k (fun o => o.pop.pop.push (g_rof _)) fun p e s m args below meth c A H locs ls a Q o X hl hP hS w => lv_ishl X.1 X.2.1 hd (by rw [← Int32.ofInt_toInt (Int32.ofInt x <<< (Int32.ofInt y &&& 31))]; exact w)
theorem g_ishr {x y : Int} (hd : decode M.2.1 pc = .ok (.ishr, 1)) (k : g_G E l M d mc ms nc ns (pc + 1) L (g_I (g_shr x y) :: S) sh D R) : g_G E l M d mc ms nc ns pc L (g_I y :: g_I x :: S) sh D R :=
  g_stk k (fun o => o.pop.pop.push (g_rof _)) fun p e s m args below meth c A H locs ls a Q o X hl hP hS w => lv_ishr X.1 X.2.1 hd (by rw [← Int32.ofInt_toInt (Int32.ofInt x >>> (Int32.ofInt y &&& 31))]; exact w)
theorem g_iushr {x y : Int} (hd : decode M.2.1 pc = .ok (.iushr, 1)) (k : g_G E l M d mc ms nc ns (pc + 1) L (g_I (g_ushr x y) :: S) sh D R) : g_G E l M d mc ms nc ns pc L (g_I y :: g_I x :: S) sh D R :=
  g_stk k (fun o => o.pop.pop.push (g_rof _)) fun p e s m args below meth c A H locs ls a Q o X hl hP hS w => lv_iushr X.1 X.2.1 hd (Int32.ofInt_toInt _).symm w
theorem g_idiv {x y : Int} (hd : decode M.2.1 pc = .ok (.idiv, 1)) (h0 : 0 ≤ x) (h1 : 0 < y) (k : g_G E l M d mc ms nc ns (pc + 1) L (g_I (x / y) :: S) sh D R) : g_G E l M d mc ms nc ns pc L (g_I y :: g_I x :: S) sh D R :=
  g_stk k (fun o => o.pop.pop.push (by
    have hx : g_r x := o.pop.top
    have hy : g_r y := o.top
    exact ⟨by have := Int.ediv_nonneg h0 (Int.le_of_lt h1); omega, by have := Int.ediv_le_self y h0; have := hx.2; omega⟩)) fun p e s m args below meth c A H locs ls a Q o X hl hP hS w => lv_idiv X.1 X.2.1 hd (by
      intro q
      have hy : g_r y := o.top
      have := (g_eq (y := 0) hy ⟨by decide, by decide⟩).mp q
      omega) (by rw [g_odiv o.pop.top o.top h0 h1]; exact w)
theorem g_irem {x y : Int} (hd : decode M.2.1 pc = .ok (.irem, 1)) (h0 : 0 ≤ x) (h1 : 0 < y) (k : g_G E l M d mc ms nc ns (pc + 1) L (g_I (x % y) :: S) sh D R) : g_G E l M d mc ms nc ns pc L (g_I y :: g_I x :: S) sh D R :=
  g_stk k (fun o => o.pop.pop.push (by
    have hy : g_r y := o.top
    exact ⟨by have := Int.emod_nonneg x (Int.ne_of_gt h1); omega, by have := Int.emod_lt_of_pos x h1; have := hy.2; omega⟩)) fun p e s m args below meth c A H locs ls a Q o X hl hP hS w => lv_irem X.1 X.2.1 hd (by
      intro q
      have hy : g_r y := o.top
      have := (g_eq (y := 0) hy ⟨by decide, by decide⟩).mp q
      omega) (by rw [g_odiv o.pop.top o.top h0 h1, g_omul, g_osub, g_emod]; exact w)
theorem g_ineg {x : Int} (hd : decode M.2.1 pc = .ok (.ineg, 1)) (hr : g_r (-x)) (k : g_G E l M d mc ms nc ns (pc + 1) L (g_I (-x) :: S) sh D R) : g_G E l M d mc ms nc ns pc L (g_I x :: S) sh D R :=
  g_stk k (fun o => o.pop.push hr) fun p e s m args below meth c A H locs ls a Q o X hl hP hS w => lv_ineg X.1 X.2.1 hd (by rw [Int32.neg_ofInt]; exact w)
theorem g_ladd {x y : Int} (hd : decode M.2.1 pc = .ok (.ladd, 1)) (hr : g_r8 (x + y)) (k : g_G E l M d mc ms nc ns (pc + 1) L (g_J (x + y) :: S) sh D R) : g_G E l M d mc ms nc ns pc L (g_J y :: g_J x :: S) sh D R :=
  g_stk k (fun o => o.pop.pop.push hr) fun p e s m args below meth c A H locs ls a Q o X hl hP hS w => lv_ladd X.1 X.2.1 hd (by rw [g_oadd8]; exact w)
theorem g_lsub {x y : Int} (hd : decode M.2.1 pc = .ok (.lsub, 1)) (hr : g_r8 (x - y)) (k : g_G E l M d mc ms nc ns (pc + 1) L (g_J (x - y) :: S) sh D R) : g_G E l M d mc ms nc ns pc L (g_J y :: g_J x :: S) sh D R :=
  g_stk k (fun o => o.pop.pop.push hr) fun p e s m args below meth c A H locs ls a Q o X hl hP hS w => lv_lsub X.1 X.2.1 hd (by rw [g_osub8]; exact w)
theorem g_lmul {x y : Int} (hd : decode M.2.1 pc = .ok (.lmul, 1)) (hr : g_r8 (x * y)) (k : g_G E l M d mc ms nc ns (pc + 1) L (g_J (x * y) :: S) sh D R) : g_G E l M d mc ms nc ns pc L (g_J y :: g_J x :: S) sh D R :=
  g_stk k (fun o => o.pop.pop.push hr) fun p e s m args below meth c A H locs ls a Q o X hl hP hS w => lv_lmul X.1 X.2.1 hd (by rw [g_omul8]; exact w)
theorem g_land {x y : Int} (hd : decode M.2.1 pc = .ok (.land, 1)) (k : g_G E l M d mc ms nc ns (pc + 1) L (g_J (g_and8 x y) :: S) sh D R) : g_G E l M d mc ms nc ns pc L (g_J y :: g_J x :: S) sh D R :=
  g_stk k (fun o => o.pop.pop.push (g_rof8 _)) fun p e s m args below meth c A H locs ls a Q o X hl hP hS w => lv_land X.1 X.2.1 hd (by rw [← Int64.ofInt_toInt (Int64.ofInt x &&& Int64.ofInt y)]; exact w)
theorem g_lshl {x y : Int} (hd : decode M.2.1 pc = .ok (.lshl, 1)) (k : g_G E l M d mc ms nc ns (pc + 1) L (g_J (g_shl8 x y) :: S) sh D R) : g_G E l M d mc ms nc ns pc L (g_I y :: g_J x :: S) sh D R :=
  g_stk k (fun o => o.pop.pop.push (g_rof8 _)) fun p e s m args below meth c A H locs ls a Q o X hl hP hS w => lv_lshl X.1 X.2.1 hd (Int64.ofInt_toInt _).symm w
theorem g_ldiv {x y : Int} (hd : decode M.2.1 pc = .ok (.ldiv, 1)) (h0 : 0 ≤ x) (h1 : 0 < y) (k : g_G E l M d mc ms nc ns (pc + 1) L (g_J (x / y) :: S) sh D R) : g_G E l M d mc ms nc ns pc L (g_J y :: g_J x :: S) sh D R :=
  g_stk k (fun o => o.pop.pop.push (by
    have hx : g_r8 x := o.pop.top
    have hy : g_r8 y := o.top
    exact ⟨by have := Int.ediv_nonneg h0 (Int.le_of_lt h1); omega, by have := Int.ediv_le_self y h0; have := hx.2; omega⟩)) fun p e s m args below meth c A H locs ls a Q o X hl hP hS w => lv_ldiv X.1 X.2.1 hd (by
      intro q
      have hy : g_r8 y := o.top
      have := (g_eq8 (y := 0) hy ⟨by decide, by decide⟩).mp q
      omega) (by rw [g_odiv8 o.pop.top o.top h0 h1]; exact w)
theorem g_lrem {x y : Int} (hd : decode M.2.1 pc = .ok (.lrem, 1)) (h0 : 0 ≤ x) (h1 : 0 < y) (k : g_G E l M d mc ms nc ns (pc + 1) L (g_J (x % y) :: S) sh D R) : g_G E l M d mc ms nc ns pc L (g_J y :: g_J x :: S) sh D R :=
  g_stk k (fun o => o.pop.pop.push (by
    have hy : g_r8 y := o.top
    exact ⟨by have := Int.emod_nonneg x (Int.ne_of_gt h1); omega, by have := Int.emod_lt_of_pos x h1; have := hy.2; omega⟩)) fun p e s m args below meth c A H locs ls a Q o X hl hP hS w => lv_lrem X.1 X.2.1 hd (by
      intro q
      have hy : g_r8 y := o.top
      have := (g_eq8 (y := 0) hy ⟨by decide, by decide⟩).mp q
      omega) (by rw [g_odiv8 o.pop.top o.top h0 h1, g_omul8, g_osub8, g_emod]; exact w)
theorem g_i2l {x : Int} (hd : decode M.2.1 pc = .ok (.i2l, 1)) (k : g_G E l M d mc ms nc ns (pc + 1) L (g_J x :: S) sh D R) : g_G E l M d mc ms nc ns pc L (g_I x :: S) sh D R :=
  g_stk k (fun o => o.pop.push (by have h : g_r x := o.top; exact ⟨by have := h.1; omega, by have := h.2; omega⟩)) fun p e s m args below meth c A H locs ls a Q o X hl hP hS w => lv_i2l X.1 X.2.1 hd (by
    have h : g_r x := o.top
    rw [← Int64.toInt_inj, Int32.toInt_toInt64, g_rT h, g_rT8 ⟨by have := h.1; omega, by have := h.2; omega⟩]) w
theorem g_l2iR {x : Int} (hd : decode M.2.1 pc = .ok (.l2i, 1)) (k : g_G E l M d mc ms nc ns (pc + 1) L (g_I (g_l2i x) :: S) sh D R) : g_G E l M d mc ms nc ns pc L (g_J x :: S) sh D R :=
  g_stk k (fun o => o.pop.push (g_rof _)) fun p e s m args below meth c A H locs ls a Q o X hl hP hS w => lv_l2i X.1 X.2.1 hd (Int32.ofInt_toInt _).symm w
theorem g_lcmp {x y : Int} (hd : decode M.2.1 pc = .ok (.lcmp, 1)) (k : g_G E l M d mc ms nc ns (pc + 1) L (g_I (g_cmp x y) :: S) sh D R) : g_G E l M d mc ms nc ns pc L (g_J y :: g_J x :: S) sh D R :=
  g_stk k (fun o => o.pop.pop.push (by show g_r (g_cmp x y); unfold g_cmp g_r; split <;> (try split) <;> omega)) fun p e s m args below meth c A H locs ls a Q o X hl hP hS w => W.lcmp X.1 X.2.1 hd (by rw [g_ocmp o.pop.top o.top]; exact w)
theorem g_cat1 {a : Nat → Nat} : ∀ {v : g_V}, g_isJ (some (some v)) = false → (g_cv E a v).category = 1
  | .inl _, _ => rfl
  | .inr (.inl _), h => by simp [g_isJ] at h
  | .inr (.inr (.inl _)), _ => rfl
  | .inr (.inr (.inr (some _))), _ => rfl
  | .inr (.inr (.inr none)), _ => rfl
theorem g_dup (hd : decode M.2.1 pc = .ok (.dup, 1)) (hv : g_isJ (some (some v)) = false) (k : g_G E l M d mc ms nc ns (pc + 1) L (v :: v :: S) sh D R) : g_G E l M d mc ms nc ns pc L (v :: S) sh D R :=
  g_stk k (fun o => o.push o.top) fun p e s m args below meth c A H locs ls a Q o X hl hP hS w => lv_dup X.1 X.2.1 hd (g_cat1 hv) w
theorem g_pop (hd : decode M.2.1 pc = .ok (.pop, 1)) (hv : g_isJ (some (some v)) = false) (k : g_G E l M d mc ms nc ns (pc + 1) L S sh D R) : g_G E l M d mc ms nc ns pc L (v :: S) sh D R :=
  g_stk k (fun o => o.pop) fun p e s m args below meth c A H locs ls a Q o X hl hP hS w => lv_pop X.1 X.2.1 hd (g_cat1 (E := E) (a := a) hv) w
theorem g_dup2 (hd : decode M.2.1 pc = .ok (.dup2, 1)) (hv : g_isJ (some (some v)) = false) (hw : g_isJ (some (some w)) = false) (k : g_G E l M d mc ms nc ns (pc + 1) L (v :: w :: v :: w :: S) sh D R) : g_G E l M d mc ms nc ns pc L (v :: w :: S) sh D R :=
  g_stk k (fun o => (o.push o.pop.top).push o.top) fun p e s m args below meth c A H locs ls a Q o X hl hP hS w => lv_dup2_11 X.1 X.2.1 hd (g_cat1 hv) (g_cat1 hw) w
theorem g_goto {off : Int} {tgt : Nat} (hd : decode M.2.1 pc = .ok (.goto off, 3)) (ht : (pc : Int) + off = (tgt : Int)) (k : g_G E l M d mc ms nc ns tgt L S sh D R) : g_G E l M d mc ms nc ns pc L S sh D R :=
  g_stk k (fun o => o) fun p e s m args below meth c A H locs ls a Q o X hl hP hS w => lv_goto X.1 X.2.1 hd ht w
end GR
