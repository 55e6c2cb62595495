section GR
variable {E : g_E} {l : Launch} {M : g_Md} {d mc ms nc ns pc : Nat} {L : List (Option g_V)} {S : List g_V} {sh : List g_Sh} {D : g_D} {R : g_Ro} {v w : g_V}
/-- a branch -/
theorem g_br {S' : List g_V} {pt pf : Nat} {C : Prop} [Decidable C] (kt : C → g_G E l M d mc ms nc ns pt L S' sh D R) (kf : ¬ C → g_G E l M d mc ms nc ns pf L S' sh D R) (hok : g_ok sh D L S → g_ok sh D L S')
    (hW : ∀ (p : Program) (e : Env) (s : State) (m : MethodId) (args : Array Value) (below : List Frame) (meth : Method) (c : Code) (A : Nat → Prop) (H : Heap) (locs : List Loc) (ls : Array Slot) (a : Nat → Nat) (Q : State → Prop), g_ok sh D L S → g_X E M p s m args meth c A →
      (C → W p l e (g_rm d mc ms) s m args below meth c H locs nc ns Q (F0 m pt ls (S'.map (g_cv E a)))) → (¬ C → W p l e (g_rm d mc ms) s m args below meth c H locs nc ns Q (F0 m pf ls (S'.map (g_cv E a)))) → W p l e (g_rm d mc ms) s m args below meth c H locs nc ns Q (F0 m pc ls (S.map (g_cv E a)))) : g_G E l M d mc ms nc ns pc L S sh D R :=
  fun ok p e s m args below meth c A a0 n0 H locs ls a X h1 h2 hP hD hS hl => hW p e s m args below meth c A H locs ls a _ ok X (fun q => kt q (hok ok) p e s m args below meth c A a0 n0 H locs ls a X h1 h2 hP hD hS hl) (fun q => kf q (hok ok) p e s m args below meth c A a0 n0 H locs ls a X h1 h2 hP hD hS hl)
theorem g_r0 : g_r 0 := ⟨by decide, by decide⟩
theorem g_ifeq {x off : Int} {tgt : Nat} (hd : decode M.2.1 pc = .ok (.ifCond .eq off, 3)) (ht : (pc : Int) + off = (tgt : Int)) (kt : x = 0 → g_G E l M d mc ms nc ns tgt L S sh D R) (kf : ¬ x = 0 → g_G E l M d mc ms nc ns (pc + 3) L S sh D R) : g_G E l M d mc ms nc ns pc L (g_I x :: S) sh D R :=
  g_br kt kf (fun o => o.pop) fun p e s m args below meth c A H locs ls a Q o X k1 k2 => lv_if_eq X.1 X.2.1 hd ht (fun q => k1 ((g_eq (x := x) o.top g_r0).mp q)) (fun q => k2 (fun z => q ((g_eq (x := x) o.top g_r0).mpr z)))
theorem g_ifne {x off : Int} {tgt : Nat} (hd : decode M.2.1 pc = .ok (.ifCond .ne off, 3)) (ht : (pc : Int) + off = (tgt : Int)) (kt : ¬ x = 0 → g_G E l M d mc ms nc ns tgt L S sh D R) (kf : x = 0 → g_G E l M d mc ms nc ns (pc + 3) L S sh D R) : g_G E l M d mc ms nc ns pc L (g_I x :: S) sh D R :=
  g_br kt (fun q => kf (Decidable.not_not.mp q)) (fun o => o.pop) fun p e s m args below meth c A H locs ls a Q o X k1 k2 => lv_if_ne X.1 X.2.1 hd ht (fun q => k1 (fun z => q ((g_eq (x := x) o.top g_r0).mpr z))) (fun q => k2 (fun z => z ((g_eq (x := x) o.top g_r0).mp q)))
theorem g_iflt {x off : Int} {tgt : Nat} (hd : decode M.2.1 pc = .ok (.ifCond .lt off, 3)) (ht : (pc : Int) + off = (tgt : Int)) (kt : x < 0 → g_G E l M d mc ms nc ns tgt L S sh D R) (kf : ¬ x < 0 → g_G E l M d mc ms nc ns (pc + 3) L S sh D R) : g_G E l M d mc ms nc ns pc L (g_I x :: S) sh D R :=
  g_br kt kf (fun o => o.pop) fun p e s m args below meth c A H locs ls a Q o X k1 k2 => lv_if_lt X.1 X.2.1 hd ht (fun q => k1 ((g_lt (x := x) o.top g_r0).mp q)) (fun q => k2 (fun z => q ((g_lt (x := x) o.top g_r0).mpr z)))
theorem g_ifge {x off : Int} {tgt : Nat} (hd : decode M.2.1 pc = .ok (.ifCond .ge off, 3)) (ht : (pc : Int) + off = (tgt : Int)) (kt : 0 ≤ x → g_G E l M d mc ms nc ns tgt L S sh D R) (kf : ¬ 0 ≤ x → g_G E l M d mc ms nc ns (pc + 3) L S sh D R) : g_G E l M d mc ms nc ns pc L (g_I x :: S) sh D R :=
  g_br kt kf (fun o => o.pop) fun p e s m args below meth c A H locs ls a Q o X k1 k2 => lv_if_ge X.1 X.2.1 hd ht (fun q => k1 ((g_le (y := x) g_r0 o.top).mp q)) (fun q => k2 (fun z => q ((g_le (y := x) g_r0 o.top).mpr z)))
theorem g_ifgt {x off : Int} {tgt : Nat} (hd : decode M.2.1 pc = .ok (.ifCond .gt off, 3)) (ht : (pc : Int) + off = (tgt : Int)) (kt : 0 < x → g_G E l M d mc ms nc ns tgt L S sh D R) (kf : ¬ 0 < x → g_G E l M d mc ms nc ns (pc + 3) L S sh D R) : g_G E l M d mc ms nc ns pc L (g_I x :: S) sh D R :=
  g_br kt kf (fun o => o.pop) fun p e s m args below meth c A H locs ls a Q o X k1 k2 => lv_if_gt X.1 X.2.1 hd ht (fun q => k1 ((g_lt (y := x) g_r0 o.top).mp q)) (fun q => k2 (fun z => q ((g_lt (y := x) g_r0 o.top).mpr z)))
theorem g_ifle {x off : Int} {tgt : Nat} (hd : decode M.2.1 pc = .ok (.ifCond .le off, 3)) (ht : (pc : Int) + off = (tgt : Int)) (kt : x ≤ 0 → g_G E l M d mc ms nc ns tgt L S sh D R) (kf : ¬ x ≤ 0 → g_G E l M d mc ms nc ns (pc + 3) L S sh D R) : g_G E l M d mc ms nc ns pc L (g_I x :: S) sh D R :=
  g_br kt kf (fun o => o.pop) fun p e s m args below meth c A H locs ls a Q o X k1 k2 => lv_if_le X.1 X.2.1 hd ht (fun q => k1 ((g_le (x := x) o.top g_r0).mp q)) (fun q => k2 (fun z => q ((g_le (x := x) o.top g_r0).mpr z)))
theorem g_ceq {x y off : Int} {tgt : Nat} (hd : decode M.2.1 pc = .ok (.if_icmp .eq off, 3)) (ht : (pc : Int) + off = (tgt : Int)) (kt : x = y → g_G E l M d mc ms nc ns tgt L S sh D R) (kf : ¬ x = y → g_G E l M d mc ms nc ns (pc + 3) L S sh D R) : g_G E l M d mc ms nc ns pc L (g_I y :: g_I x :: S) sh D R :=
  g_br kt kf (fun o => o.pop.pop) fun p e s m args below meth c A H locs ls a Q o X k1 k2 => lv_icmp_eq X.1 X.2.1 hd ht (fun q => k1 ((g_eq (x := x) (y := y) o.pop.top o.top).mp q)) (fun q => k2 (fun z => q ((g_eq (x := x) (y := y) o.pop.top o.top).mpr z)))
theorem g_cne {x y off : Int} {tgt : Nat} (hd : decode M.2.1 pc = .ok (.if_icmp .ne off, 3)) (ht : (pc : Int) + off = (tgt : Int)) (kt : ¬ x = y → g_G E l M d mc ms nc ns tgt L S sh D R) (kf : x = y → g_G E l M d mc ms nc ns (pc + 3) L S sh D R) : g_G E l M d mc ms nc ns pc L (g_I y :: g_I x :: S) sh D R :=
  g_br kt (fun q => kf (Decidable.not_not.mp q)) (fun o => o.pop.pop) fun p e s m args below meth c A H locs ls a Q o X k1 k2 => lv_icmp_ne X.1 X.2.1 hd ht (fun q => k1 (fun z => q ((g_eq (x := x) (y := y) o.pop.top o.top).mpr z))) (fun q => k2 (fun z => z ((g_eq (x := x) (y := y) o.pop.top o.top).mp q)))
theorem g_clt {x y off : Int} {tgt : Nat} (hd : decode M.2.1 pc = .ok (.if_icmp .lt off, 3)) (ht : (pc : Int) + off = (tgt : Int)) (kt : x < y → g_G E l M d mc ms nc ns tgt L S sh D R) (kf : ¬ x < y → g_G E l M d mc ms nc ns (pc + 3) L S sh D R) : g_G E l M d mc ms nc ns pc L (g_I y :: g_I x :: S) sh D R :=
  g_br kt kf (fun o => o.pop.pop) fun p e s m args below meth c A H locs ls a Q o X k1 k2 => lv_icmp_lt X.1 X.2.1 hd ht (fun q => k1 ((g_lt (x := x) (y := y) o.pop.top o.top).mp q)) (fun q => k2 (fun z => q ((g_lt (x := x) (y := y) o.pop.top o.top).mpr z)))
theorem g_cge {x y off : Int} {tgt : Nat} (hd : decode M.2.1 pc = .ok (.if_icmp .ge off, 3)) (ht : (pc : Int) + off = (tgt : Int)) (kt : y ≤ x → g_G E l M d mc ms nc ns tgt L S sh D R) (kf : ¬ y ≤ x → g_G E l M d mc ms nc ns (pc + 3) L S sh D R) : g_G E l M d mc ms nc ns pc L (g_I y :: g_I x :: S) sh D R :=
  g_br kt kf (fun o => o.pop.pop) fun p e s m args below meth c A H locs ls a Q o X k1 k2 => lv_icmp_ge X.1 X.2.1 hd ht (fun q => k1 ((g_le (x := y) (y := x) o.top o.pop.top).mp q)) (fun q => k2 (fun z => q ((g_le (x := y) (y := x) o.top o.pop.top).mpr z)))
theorem g_cgt {x y off : Int} {tgt : Nat} (hd : decode M.2.1 pc = .ok (.if_icmp .gt off, 3)) (ht : (pc : Int) + off = (tgt : Int)) (kt : y < x → g_G E l M d mc ms nc ns tgt L S sh D R) (kf : ¬ y < x → g_G E l M d mc ms nc ns (pc + 3) L S sh D R) : g_G E l M d mc ms nc ns pc L (g_I y :: g_I x :: S) sh D R :=
  g_br kt kf (fun o => o.pop.pop) fun p e s m args below meth c A H locs ls a Q o X k1 k2 => lv_icmp_gt X.1 X.2.1 hd ht (fun q => k1 ((g_lt (x := y) (y := x) o.top o.pop.top).mp q)) (fun q => k2 (fun z => q ((g_lt (x := y) (y := x) o.top o.pop.top).mpr z)))
theorem g_cle {x y off : Int} {tgt : Nat} (hd : decode M.2.1 pc = .ok (.if_icmp .le off, 3)) (ht : (pc : Int) + off = (tgt : Int)) (kt : x ≤ y → g_G E l M d mc ms nc ns tgt L S sh D R) (kf : ¬ x ≤ y → g_G E l M d mc ms nc ns (pc + 3) L S sh D R) : g_G E l M d mc ms nc ns pc L (g_I y :: g_I x :: S) sh D R :=
  g_br kt kf (fun o => o.pop.pop) fun p e s m args below meth c A H locs ls a Q o X k1 k2 => lv_icmp_le X.1 X.2.1 hd ht (fun q => k1 ((g_le (x := x) (y := y) o.pop.top o.top).mp q)) (fun q => k2 (fun z => q ((g_le (x := x) (y := y) o.pop.top o.top).mpr z)))
theorem g_tsOut {x dflt lo hi : Int} {offs : Array Int} {len tgt : Nat} (hd : decode M.2.1 pc = .ok (.tableswitch dflt lo hi offs, len)) (h : x < lo ∨ hi < x) (ht : (pc : Int) + dflt = (tgt : Int)) (k : g_G E l M d mc ms nc ns tgt L S sh D R) : g_G E l M d mc ms nc ns pc L (g_I x :: S) sh D R :=
  g_stk k (fun o => o.pop) fun p e s m args below meth c A H locs ls a Q o X hl hP hS w => lv_tableOut X.1 X.2.1 hd (by rw [g_rT (x := x) o.top]; exact h) ht w
theorem g_tsIn {x dflt lo hi off : Int} {offs : Array Int} {len tgt : Nat} (hd : decode M.2.1 pc = .ok (.tableswitch dflt lo hi offs, len)) (h1 : lo ≤ x) (h2 : x ≤ hi) (ho : offs[(x - lo).toNat]? = some off) (ht : (pc : Int) + off = (tgt : Int)) (k : g_G E l M d mc ms nc ns tgt L S sh D R) : g_G E l M d mc ms nc ns pc L (g_I x :: S) sh D R :=
  g_stk k (fun o => o.pop) fun p e s m args below meth c A H locs ls a Q o X hl hP hS w => lv_tableIn X.1 X.2.1 hd (by rw [g_rT (x := x) o.top]; omega) (by rw [g_rT (x := x) o.top]; omega) (by rw [g_rT (x := x) o.top]; exact ho) ht w
theorem g_ls {x dflt off : Int} {ps : Array (Int × Int)} {len tgt : Nat} (hd : decode M.2.1 pc = .ok (.lookupswitch dflt ps, len)) (hp : (ps.toList.zip (ps.toList.drop 1)).all (fun (a, next) => a.1 < next.1) = true) (ho : Op.lookupswitch.offset ps.toList dflt x = off) (ht : (pc : Int) + off = (tgt : Int)) (k : g_G E l M d mc ms nc ns tgt L S sh D R) : g_G E l M d mc ms nc ns pc L (g_I x :: S) sh D R :=
  g_stk k (fun o => o.pop) fun p e s m args below meth c A H locs ls a Q o X hl hP hS w => lv_lookup X.1 X.2.1 hd hp (by rw [g_rT (x := x) o.top]; exact ho) ht w
/-- locals are written -/
theorem g_istore_n {i : Fin 4} {x : Int} (hd : decode M.2.1 pc = .ok (.istore_n i, 1)) (hn : (i : Nat) < M.2.2.1) (k : g_G E l M d mc ms nc ns (pc + 1) (g_s1 L i (g_I x)) S sh D R) : g_G E l M d mc ms nc ns pc L (g_I x :: S) sh D R :=
  fun ok p e s m args below meth c A a0 n0 H locs ls a X h1 h2 hP hD hS hl => lv_istore_n X.1 X.2.1 hd rfl hl.has hn rfl (fun ls' hl' => k (ok.pop.s1 ok.top) p e s m args below meth c A a0 n0 H locs ls' a X h1 h2 hP hD hS (g_lh.of1 (v := g_I x) hl'))
theorem g_istore {i : Nat} {x : Int} (hd : decode M.2.1 pc = .ok (.istore i, 2)) (hn : i < M.2.2.1) (k : g_G E l M d mc ms nc ns (pc + 2) (g_s1 L i (g_I x)) S sh D R) : g_G E l M d mc ms nc ns pc L (g_I x :: S) sh D R :=
  fun ok p e s m args below meth c A a0 n0 H locs ls a X h1 h2 hP hD hS hl => lv_istore X.1 X.2.1 hd hl.has hn rfl (fun ls' hl' => k (ok.pop.s1 ok.top) p e s m args below meth c A a0 n0 H locs ls' a X h1 h2 hP hD hS (g_lh.of1 (v := g_I x) hl'))
theorem g_lstore_n {i : Fin 4} {x : Int} (hd : decode M.2.1 pc = .ok (.lstore_n i, 1)) (hn : (i : Nat) + 1 < M.2.2.1) (k : g_G E l M d mc ms nc ns (pc + 1) (g_s2 L i (g_J x)) S sh D R) : g_G E l M d mc ms nc ns pc L (g_J x :: S) sh D R :=
  fun ok p e s m args below meth c A a0 n0 H locs ls a X h1 h2 hP hD hS hl => lv_lstore_n X.1 X.2.1 hd rfl hl.has hn rfl (fun ls' hl' => k (ok.pop.s2 ok.top) p e s m args below meth c A a0 n0 H locs ls' a X h1 h2 hP hD hS (g_lh.of2 (v := g_J x) hl'))
theorem g_lstore {i : Nat} {x : Int} (hd : decode M.2.1 pc = .ok (.lstore i, 2)) (hn : i + 1 < M.2.2.1) (k : g_G E l M d mc ms nc ns (pc + 2) (g_s2 L i (g_J x)) S sh D R) : g_G E l M d mc ms nc ns pc L (g_J x :: S) sh D R :=
  fun ok p e s m args below meth c A a0 n0 H locs ls a X h1 h2 hP hD hS hl => lv_lstore X.1 X.2.1 hd hl.has hn rfl (fun ls' hl' => k (ok.pop.s2 ok.top) p e s m args below meth c A a0 n0 H locs ls' a X h1 h2 hP hD hS (g_lh.of2 (v := g_J x) hl'))
theorem g_astore_n {i : Fin 4} {x : Nat} (hd : decode M.2.1 pc = .ok (.astore_n i, 1)) (hn : (i : Nat) < M.2.2.1) (k : g_G E l M d mc ms nc ns (pc + 1) (g_s1 L i (g_R x)) S sh D R) : g_G E l M d mc ms nc ns pc L (g_R x :: S) sh D R :=
  fun ok p e s m args below meth c A a0 n0 H locs ls a X h1 h2 hP hD hS hl => lv_astore_n X.1 X.2.1 hd rfl hl.has hn rfl (fun ls' hl' => k (ok.pop.s1 ok.top) p e s m args below meth c A a0 n0 H locs ls' a X h1 h2 hP hD hS (g_lh.of1 (v := g_R x) hl'))
theorem g_iinc {i : Nat} {n x : Int} (hd : decode M.2.1 pc = .ok (.iinc i n, 3)) (hl0 : L[i]? = some (some (g_I x))) (hr : g_r (x + n)) (hn : i < M.2.2.1) (k : g_G E l M d mc ms nc ns (pc + 3) (g_s1 L i (g_I (x + n))) S sh D R) : g_G E l M d mc ms nc ns pc L S sh D R :=
  fun ok p e s m args below meth c A a0 n0 H locs ls a X h1 h2 hP hD hS hl => by
    obtain ⟨k0, hk0⟩ := List.getElem?_of_mem (g_lo_mem.mpr ⟨i, g_I x, hl0, rfl⟩ : (i, g_cv E a (g_I x)) ∈ g_lo E a L)
    exact lv_iinc X.1 X.2.1 hd hl.has hk0 (g_oadd x n) hn rfl (fun ls' hl' => k (ok.s1 hr) p e s m args below meth c A a0 n0 H locs ls' a X h1 h2 hP hD hS (g_lh.of1 (v := g_I (x + n)) hl'))
/-- fields -/
def g_fd (own : String) (idx ci j : Nat) : Prop := ∃ (C : String) (T : u_T) (N : Nat) (ty : Nat → FieldType), vwCl[ci]? = some (C, T, N) ∧ (∀ w ∈ u_ws C T N, w ∈ g_t) ∧ j < N ∧ Cond.fieldLink own idx (T j).1 (T j).2.1 (T j).2.2.1 ∈ g_t ∧ (∀ k, k < N → parseFieldDescriptor (T k).2.2.1 = some (ty k)) ∧ (∀ a, a < N → ∀ b, b < N → a ≠ b → (T a).2.1 ≠ (T b).2.1)
theorem g_obj {sh : List g_Sh} {D : g_D} {a : Nat → Nat} {k ci : Nat} {fs : List (Option (Option Nat))} (hs : sh[k]? = some (.inr (.inr (ci, fs)))) : (g_cw E a sh D)[k]? = some (a k, .inr (ci, fs.mapIdx (g_fv a (D k)))) := g_cw_some hs
theorem g_getI {k ci j idx : Nat} {fs : List (Option (Option Nat))} (hd : decode M.2.1 pc = .ok (.getfield idx, 3)) (hf : g_fd M.1.cls idx ci j) (hs : sh[k]? = some (.inr (.inr (ci, fs)))) (hj : fs[j]? = some none) (kk : g_G E l M d mc ms nc ns (pc + 3) L (g_I (D k j) :: S) sh D R) : g_G E l M d mc ms nc ns pc L (g_R k :: S) sh D R := by
  obtain ⟨C, T, N, ty, hc, hin, hjN, hlk, -, -⟩ := hf
  exact g_stk kk (fun o => o.pop.push (o.2.1 k j)) fun p e s m args below meth c A H locs ls a Q o X hl hP hS w => va_get (D := (E.1, E.2.1)) X.1 X.2.1 X.2.2.2.2.2.1 hin X.2.2.2.2.1 X.2.2.2.2.2.2.2.2.2.1.1 hP k (g_obj hs) hc j hjN (X.2.2.2.2.2.1 _ hlk) (fun _ h => h) (by rw [List.getElem?_mapIdx, hj]; rfl) hd w
theorem g_getR {k ci j idx r : Nat} {fs : List (Option (Option Nat))} (hd : decode M.2.1 pc = .ok (.getfield idx, 3)) (hf : g_fd M.1.cls idx ci j) (hs : sh[k]? = some (.inr (.inr (ci, fs)))) (hj : fs[j]? = some (some (some r))) (kk : g_G E l M d mc ms nc ns (pc + 3) L (g_R r :: S) sh D R) : g_G E l M d mc ms nc ns pc L (g_R k :: S) sh D R := by
  obtain ⟨C, T, N, ty, hc, hin, hjN, hlk, -, -⟩ := hf
  exact g_stk kk (fun o => o.pop.push (o.1 k _ hs j r hj)) fun p e s m args below meth c A H locs ls a Q o X hl hP hS w => va_get (D := (E.1, E.2.1)) X.1 X.2.1 X.2.2.2.2.2.1 hin X.2.2.2.2.1 X.2.2.2.2.2.2.2.2.2.1.1 hP k (g_obj hs) hc j hjN (X.2.2.2.2.2.1 _ hlk) (fun _ h => h) (by rw [List.getElem?_mapIdx, hj]; rfl) hd w
theorem g_mapIdx_set {fs : List (Option (Option Nat))} {a : Nat → Nat} {dd : Nat → Int} {j : Nat} {x : Int} (hj : fs[j]? = some none) : (fs.mapIdx (g_fv a dd)).set j (.int (Int32.ofInt x)) = fs.mapIdx (g_fv a (fun j' => if j' = j then x else dd j')) := by
  apply List.ext_getElem?
  intro i
  by_cases hi : i = j
  · subst hi
    rw [List.getElem?_set_self (by rw [List.length_mapIdx]; exact (List.getElem?_eq_some_iff.mp hj).1), List.getElem?_mapIdx, hj]
    simp [g_fv]
  · rw [List.getElem?_set_ne (Ne.symm hi), List.getElem?_mapIdx, List.getElem?_mapIdx]
    cases fs[i]? with
    | none => rfl
    | some o =>
      cases o with
      | none => simp [g_fv, hi]
      | some o => cases o <;> rfl
theorem g_up_row {D : g_D} {k j : Nat} {x : Int} : g_up D k j x k = (fun j' => if j' = j then x else D k j') := by
  funext j'
  simp [g_up]
/-- what a field of whole numbers may hold: an int anything, a boolean 0 and 1 -/
def g_fty (ci j : Nat) (x : Int) : Prop := ∀ (C : String) (T : u_T) (N : Nat), vwCl[ci]? = some (C, T, N) → (T j).2.2.2 = false ∧ (parseFieldDescriptor (T j).2.2.1 = some .int ∨ (parseFieldDescriptor (T j).2.2.1 = some .boolean ∧ (x = 0 ∨ x = 1)))
theorem g_nb {x : Int} (h : x = 0 ∨ x = 1) : narrow .boolean (.int (Int32.ofInt x)) = .int (Int32.ofInt x) ∧ fits .boolean (.int (Int32.ofInt x)) = true := by
  rcases h with rfl | rfl <;> exact ⟨by decide, by decide⟩
theorem g_put {k ci j idx : Nat} {x : Int} {fs : List (Option (Option Nat))} (hd : decode M.2.1 pc = .ok (.putfield idx, 3)) (hf : g_fd M.1.cls idx ci j) (hty : g_fty ci j x) (hs : sh[k]? = some (.inr (.inr (ci, fs)))) (hj : fs[j]? = some none) (kk : g_G E l M d mc ms nc ns (pc + 3) L S sh (g_up D k j x) R) : g_G E l M d mc ms nc ns pc L (g_I x :: g_R k :: S) sh D R := by
  obtain ⟨C, T, N, ty, hc, hin, hjN, hlk, htys, hnm⟩ := hf
  intro ok p e s m args below meth c A a0 n0 H locs ls a X h1 h2 hP hD hS hl
  obtain ⟨hfin, ht⟩ := hty C T N hc
  have hjl : j < (fs.mapIdx (g_fv a (D k))).length := by rw [List.length_mapIdx]; exact (List.getElem?_eq_some_iff.mp hj).1
  have key : ∀ fty : FieldType, parseFieldDescriptor (T j).2.2.1 = some fty → narrow fty (.int (Int32.ofInt x)) = .int (Int32.ofInt x) → fits fty (.int (Int32.ofInt x)) = true →
      W p l e (g_rm d mc ms) s m args below meth c H locs nc ns (MQ below (g_Qc E R a0 n0 A) args s mc ms A) (F0 m pc ls ((g_I x :: g_R k :: S).map (g_cv E a))) := by
    intro fty hdesc hn hfit
    refine va_put (D := (E.1, E.2.1)) (v := .int (Int32.ofInt x)) X.1 X.2.1 X.2.2.2.2.2.1 hin ty htys hnm X.2.2.2.2.1 X.2.2.2.2.2.2.2.2.2.1.1 hP hD hS k (g_obj hs) hc j hjN (X.2.2.2.2.2.1 _ hlk) (fun _ h => h) hfin hdesc hn hfit hjl hd (fun H1 locs1 hP1 hD1 hS1 => ?_)
    have hw : (g_cw E a sh D).set k (a k, .inr (ci, (fs.mapIdx (g_fv a (D k))).set j (.int (Int32.ofInt x)))) = g_cw E a sh (g_up D k j x) := by
      rw [g_mapIdx_set hj, ← g_up_row]
      exact g_cw_set (e := .inr (.inr (ci, fs))) (List.getElem?_eq_some_iff.mp hs).1 (g_set_self hs) (fun k' h => g_up_ne h)
    rw [hw] at hP1 hD1
    exact kk (ok.pop.pop.up ok.top) p e s m args below meth c A a0 n0 H1 locs1 ls a X h1 h2 hP1 hD1 hS1 hl
  rcases ht with ht | ⟨ht, h01⟩
  · exact key _ ht rfl rfl
  · exact key _ ht (g_nb h01).1 (g_nb h01).2
/-- arrays of numbers -/
theorem g_arr {sh : List g_Sh} {D : g_D} {a : Nat → Nat} {k ty n : Nat} (hs : sh[k]? = some (.inl (ty, n))) : (g_cw E a sh D)[k]? = some (a k, .inl (E.2.2.1 ty, n, .inl (fun j => Int32.ofInt (D k j)))) := g_cw_some hs
theorem g_iald {k n : Nat} {i : Int} (hd : decode M.2.1 pc = .ok (.iaload, 1)) (hs : sh[k]? = some (.inl (0, n))) (h0 : 0 ≤ i) (hn : i < n) (kk : g_G E l M d mc ms nc ns (pc + 1) L (g_I (D k i.toNat) :: S) sh D R) : g_G E l M d mc ms nc ns pc L (g_I i :: g_R k :: S) sh D R :=
  g_stk kk (fun o => o.pop.pop.push (o.2.1 _ _)) fun p e s m args below meth c A H locs ls a Q o X hl hP hS w => va_iald X.1 X.2.1 X.2.2.2.2.2.2.2.2.2.1.1 hP k 0 (g_arr hs) rfl (g_in o.top h0 hn) hd (by rw [g_nat (x := i) o.top]; exact w)
theorem g_bald {k n : Nat} {i : Int} (hd : decode M.2.1 pc = .ok (.baload, 1)) (hs : sh[k]? = some (.inl (1, n))) (h0 : 0 ≤ i) (hn : i < n) (kk : g_G E l M d mc ms nc ns (pc + 1) L (g_I (D k i.toNat) :: S) sh D R) : g_G E l M d mc ms nc ns pc L (g_I i :: g_R k :: S) sh D R :=
  g_stk kk (fun o => o.pop.pop.push (o.2.1 _ _)) fun p e s m args below meth c A H locs ls a Q o X hl hP hS w => va_zald X.1 X.2.1 X.2.2.2.2.2.2.2.2.2.1.1 hP k 1 (g_arr hs) rfl (g_in o.top h0 hn) hd (by rw [g_nat (x := i) o.top]; exact w)
theorem g_ialdF {k : Nat} {i : Int} (hd : decode M.2.1 pc = .ok (.iaload, 1)) (hk : k < 4) (h0 : 0 ≤ i) (hn : i < g_fl E k) (hx : g_r (g_fx E k i.toNat)) (kk : g_G E l M d mc ms nc ns (pc + 1) L (g_I (g_fx E k i.toNat) :: S) sh D R) : g_G E l M d mc ms nc ns pc L (g_I i :: g_F k :: S) sh D R :=
  g_stk kk (fun o => o.pop.pop.push hx) fun p e s m args below meth c A H locs ls a Q o X hl hP hS w => va_ti X.1 X.2.1 (X.2.2.2.2.2.2.2.2.2.2.1 k hk) hS (g_in o.top h0 hn) rfl hd (by rw [g_nat (x := i) o.top]; exact w)
theorem g_alen {k ty n : Nat} (hd : decode M.2.1 pc = .ok (.arraylength, 1)) (hs : sh[k]? = some (.inl (ty, n))) (ht : ty < 2) (hn : n ≤ 2147483647) (kk : g_G E l M d mc ms nc ns (pc + 1) L (g_I n :: S) sh D R) : g_G E l M d mc ms nc ns pc L (g_R k :: S) sh D R :=
  g_stk kk (fun o => o.pop.push ⟨by omega, by omega⟩) fun p e s m args below meth c A H locs ls a Q o X hl hP hS w => by
    have hK := X.2.2.2.2.2.2.2.2.2.1.1
    rcases (show ty = 0 ∨ ty = 1 by omega) with rfl | rfl
    · exact va_alen X.1 X.2.1 hK hP k 0 (g_arr hs) rfl Int32.ofInt_eq_ofNat.symm hd w
    · exact va_alen X.1 X.2.1 hK hP k 1 (g_arr hs) rfl Int32.ofInt_eq_ofNat.symm hd w
theorem g_alenF {k : Nat} (hd : decode M.2.1 pc = .ok (.arraylength, 1)) (hk : k < 4) (hn : g_fl E k ≤ 2147483647) (kk : g_G E l M d mc ms nc ns (pc + 1) L (g_I (g_fl E k) :: S) sh D R) : g_G E l M d mc ms nc ns pc L (g_F k :: S) sh D R :=
  g_stk kk (fun o => o.pop.push ⟨by omega, by omega⟩) fun p e s m args below meth c A H locs ls a Q o X hl hP hS w => va_tlen X.1 X.2.1 (X.2.2.2.2.2.2.2.2.2.2.1 k hk) hS Int32.ofInt_eq_ofNat.symm hd w
theorem g_upd_row {D : g_D} {k : Nat} {j : Nat} {x : Int} : upd (fun j => Int32.ofInt (D k j)) j (Int32.ofInt x) = (fun j' => Int32.ofInt (g_up D k j x k j')) := by
  funext j'
  by_cases h : j' = j
  · subst h; simp [upd, g_up]
  · simp [upd, g_up, h]
theorem g_iast {k n : Nat} {i x : Int} (hd : decode M.2.1 pc = .ok (.iastore, 1)) (hs : sh[k]? = some (.inl (0, n))) (h0 : 0 ≤ i) (hn : i < n) (kk : g_G E l M d mc ms nc ns (pc + 1) L S sh (g_up D k i.toNat x) R) : g_G E l M d mc ms nc ns pc L (g_I x :: g_I i :: g_R k :: S) sh D R := by
  intro ok p e s m args below meth c A a0 n0 H locs ls a X h1 h2 hP hD hS hl
  refine va_iast X.1 X.2.1 X.2.2.2.2.2.2.2.2.2.1.1 hP hD hS k 0 (g_arr hs) rfl (g_in ok.pop.top h0 hn) hd (fun H1 locs1 hP1 hD1 hS1 => ?_)
  rw [g_nat (x := i) ok.pop.top, g_upd_row] at hP1 hD1
  have hw : (g_cw E a sh D).set k (a k, .inl (E.2.2.1 0, n, .inl (fun j' => Int32.ofInt (g_up D k i.toNat x k j')))) = g_cw E a sh (g_up D k i.toNat x) :=
    g_cw_set (e := .inl (0, n)) (List.getElem?_eq_some_iff.mp hs).1 (g_set_self hs) (fun k' h => g_up_ne h)
  rw [hw] at hP1 hD1
  exact kk (ok.pop.pop.pop.up ok.top) p e s m args below meth c A a0 n0 H1 locs1 ls a X h1 h2 hP1 hD1 hS1 hl
theorem g_bast {k n : Nat} {i x : Int} (hd : decode M.2.1 pc = .ok (.bastore, 1)) (hs : sh[k]? = some (.inl (1, n))) (h0 : 0 ≤ i) (hn : i < n) (h01 : x = 0 ∨ x = 1) (kk : g_G E l M d mc ms nc ns (pc + 1) L S sh (g_up D k i.toNat x) R) : g_G E l M d mc ms nc ns pc L (g_I x :: g_I i :: g_R k :: S) sh D R := by
  intro ok p e s m args below meth c A a0 n0 H locs ls a X h1 h2 hP hD hS hl
  refine va_zast X.1 X.2.1 X.2.2.2.2.2.2.2.2.2.1.1 hP hD hS k 1 (g_arr hs) rfl (g_in ok.pop.top h0 hn) hd (fun H1 locs1 hP1 hD1 hS1 => ?_)
  have hz : vp_nar .boolean (Int32.ofInt x) = Int32.ofInt x := by rcases h01 with rfl | rfl <;> decide
  rw [hz, g_nat (x := i) ok.pop.top, g_upd_row] at hP1 hD1
  have hw : (g_cw E a sh D).set k (a k, .inl (E.2.2.1 1, n, .inl (fun j' => Int32.ofInt (g_up D k i.toNat x k j')))) = g_cw E a sh (g_up D k i.toNat x) :=
    g_cw_set (e := .inl (1, n)) (List.getElem?_eq_some_iff.mp hs).1 (g_set_self hs) (fun k' h => g_up_ne h)
  rw [hw] at hP1 hD1
  exact kk (ok.pop.pop.pop.up ok.top) p e s m args below meth c A a0 n0 H1 locs1 ls a X h1 h2 hP1 hD1 hS1 hl
end GR
