section GA
variable {E : g_E} {l : Launch} {M : g_Md} {d mc ms nc ns pc : Nat} {L : List (Option g_V)} {S : List g_V} {sh : List g_Sh} {D : g_D} {R : g_Ro} {v w : g_V}
def g_nx (a : Nat → Nat) (n q : Nat) : Nat → Nat := fun k => if k = n then q else a k
theorem g_nx_lt {a : Nat → Nat} {n q k : Nat} (h : k < n) : g_nx a n q k = a k := by simp [g_nx, Nat.ne_of_lt h]
theorem g_nx_eq {a : Nat → Nat} {n q : Nat} : g_nx a n q n = q := by simp [g_nx]
theorem g_okH.push {e : g_Sh} (h : g_okH sh) (he : g_okE (sh.length + 1) e) : g_okH (sh ++ [e]) := by
  intro k x hk
  rw [List.length_append]
  by_cases hl : k < sh.length
  · rw [List.getElem?_append_left hl] at hk
    exact (h k x hk).mono (by simp)
  · rw [List.getElem?_append_right (by omega)] at hk
    have hz : k - sh.length < 1 := (List.getElem?_eq_some_iff.mp hk).1
    rw [show k - sh.length = 0 by omega] at hk
    cases hk
    exact he
theorem g_ok.grow {e : g_Sh} (o : g_ok sh D L S) (he : g_okE (sh.length + 1) e) : g_ok (sh ++ [e]) (g_row D sh.length (fun _ => 0)) L (g_R sh.length :: S) := by
  have hl : (sh ++ [e]).length = sh.length + 1 := by simp
  refine ⟨o.1.push he, fun k j => ?_, fun i v hi => (o.2.2.1 i v hi).mono (by omega), fun v hv => ?_⟩
  · unfold g_row
    split
    · exact g_r0
    · exact o.2.1 k j
  · rcases List.mem_cons.mp hv with rfl | hv
    · show sh.length < _; omega
    · exact (o.2.2.2 v hv).mono (by omega)
/-- the walk goes on over a heap with one cell more -/
theorem g_grow {e : g_Sh} {p : Program} {s : State} {m : MethodId} {args : Array Value} {meth : Method} {c : Code} {A : Nat → Prop} {H1 : Heap} {locs : List Loc} {ls : Array Slot} {a a0 : Nat → Nat} {n0 q : Nat} {e0 : Env} {below : List Frame} {nc' ns' pc' : Nat} (o : g_ok sh D L S) (he : g_okE (sh.length + 1) e)
    (k : g_G E l M d mc ms nc' ns' pc' L (g_R sh.length :: S) (sh ++ [e]) (g_row D sh.length (fun _ => 0)) R) (X : g_X E M p s m args meth c A) (h1 : n0 ≤ sh.length) (h2 : ∀ k, k < n0 → a k = a0 k) (hl : g_lh E ls M.2.2.1 a L) (hS : va_S A s.heap H1 locs)
    (hP : va_P (E.1, E.2.1) vwCl (g_cw E a sh D ++ [(q, g_ce E (g_nx a sh.length q) e (fun _ => 0))]) H1) (hD : va_D A (g_cw E a sh D ++ [(q, g_ce E (g_nx a sh.length q) e (fun _ => 0))])) :
    W p l e0 (g_rm d mc ms) s m args below meth c H1 locs nc' ns' (MQ below (g_Qc E R a0 n0 A) args s mc ms A) (F0 m pc' ls (.ref q :: S.map (g_cv E a))) := by
  have ew : g_cw E a sh D ++ [(q, g_ce E (g_nx a sh.length q) e (fun _ => 0))] = g_cw E (g_nx a sh.length q) (sh ++ [e]) (g_row D sh.length (fun _ => 0)) :=
    g_cw_push (fun k hk => g_nx_lt hk) g_nx_eq (fun k x hx => g_ce_eq (n := sh.length) (fun k hk => g_nx_lt hk) (o.1 k x hx))
  rw [ew] at hP hD
  have kk := k (o.grow he) p e0 s m args below meth c A a0 n0 H1 locs ls (g_nx a sh.length q) X (by simp; omega) (fun i hi => (g_nx_lt (Nat.lt_of_lt_of_le hi h1)).trans (h2 i hi)) hP hD hS (hl.re o.2.2.1 (fun k hk => g_nx_lt hk))
  have es : (g_R sh.length :: S).map (g_cv E (g_nx a sh.length q)) = .ref q :: S.map (g_cv E a) := by
    rw [List.map_cons, g_map_eq (n := sh.length) (fun k hk => g_nx_lt hk) o.2.2.2]
    show Value.ref (g_nx a sh.length q sh.length) :: _ = _
    rw [g_nx_eq]
  rw [es] at kk
  exact kk
/-- the static facts of a class that is made -/
def g_nd (own : String) (idx ci N : Nat) (fs : List (Option (Option Nat))) (vs : List Value) : Prop := ∃ (C : String) (T : u_T) (ty : Nat → FieldType), vwCl[ci]? = some (C, T, N) ∧ (∀ w ∈ u_ws C T N, w ∈ g_t) ∧ (∀ k, k < N → parseFieldDescriptor (T k).2.2.1 = some (ty k)) ∧ Cond.classLink own idx C ∈ g_t ∧ Cond.instantiable C N ∈ g_t ∧ Cond.initialized C ∈ g_t ∧ (∀ j, j < N → defaultValue (ty j) = vp_V vs j) ∧ (∀ a : Nat → Nat, fs.mapIdx (g_fv a (fun _ => 0)) = vs) ∧ (∀ o ∈ fs, o = none ∨ o = some none)
theorem g_new {idx ci N : Nat} {fs : List (Option (Option Nat))} {vs : List Value} (hd : decode M.2.1 pc = .ok (.new idx, 3)) (hn : g_nd M.1.cls idx ci N fs vs) (hc : nc + 1 ≤ mc) (hs : ns + N ≤ ms) (k : g_G E l M d mc ms (nc + 1) (ns + N) (pc + 3) L (g_R sh.length :: S) (sh ++ [.inr (.inr (ci, fs))]) (g_row D sh.length (fun _ => 0)) R) : g_G E l M d mc ms nc ns pc L S sh D R := by
  obtain ⟨C, T, ty, hcl, hin, hty, hlk, hinst, hini, hdf, hvs, hno⟩ := hn
  intro ok p e s m args below meth c A a0 n0 H locs ls a X h1 h2 hP hD hS hl
  refine va_new (ci := ci) (fs := vs) X.1 X.2.1 X.2.2.2.2.2.1 hin ty hty X.2.2.2.2.1 (X.2.2.2.2.2.1 _ hlk) (X.2.2.2.2.2.1 _ hinst) (X.2.2.2.2.2.1 _ hini) X.2.2.2.2.2.2.2.2.2.1.1 hP hD hS X.2.2.2.2.2.2.2.2.1 hcl hdf hc hs hd (fun q H1 hP1 hD1 hS1 => ?_)
  have ee : g_ce E (g_nx a sh.length q) (.inr (.inr (ci, fs))) (fun _ => 0) = .inr (ci, vs) := by
    show Sum.inr (ci, fs.mapIdx (g_fv _ (fun _ => 0))) = _
    rw [hvs]
  refine g_grow (e := .inr (.inr (ci, fs))) ok (fun j r hj => ?_) k X h1 h2 hl hS1 (by rw [ee]; exact hP1) (by rw [ee]; exact hD1)
  rcases hno _ (List.mem_of_getElem? hj) with h | h <;> cases h
theorem g_newa {n : Int} {atype : ArrayType} {ty : Nat} (hat : (atype = .int ∧ ty = 0) ∨ (atype = .boolean ∧ ty = 1)) (hd : decode M.2.1 pc = .ok (.newarray atype, 2)) (harr : Cond.arrayClass (newarray.typeOf atype) ∈ g_t) (h0 : 0 ≤ n) (hb : n ≤ 100000) (hc : nc + 1 ≤ mc) (hs : ns + n.toNat ≤ ms) (k : g_G E l M d mc ms (nc + 1) (ns + n.toNat) (pc + 2) L (g_R sh.length :: S) (sh ++ [.inl (ty, n.toNat)]) (g_row D sh.length (fun _ => 0)) R) : g_G E l M d mc ms nc ns pc L (g_I n :: S) sh D R := by
  intro ok p e s m args below meth c A a0 n0 H locs ls a X h1 h2 hP hD hS hl
  have rn : g_r n := ok.top
  have hK := X.2.2.2.2.2.2.2.2.2.1.1
  rcases hat with ⟨rfl, rfl⟩ | ⟨rfl, rfl⟩
  · refine va_newa (atype := .int) (ty := .int) (a0 := (n.toNat, .inl (fun _ => 0))) X.1 X.2.1 (X.2.2.2.2.2.1 _ harr) rfl hK hP hD hS X.2.2.2.2.2.2.2.2.1 (fun cA => rfl) (g_nn rn h0) (g_nat rn) (by show n.toNat * 4 ≤ 536870912; omega) hc hs hd (fun q cA H1 hK1 hP1 hD1 hS1 => ?_)
    have hA : cA = E.2.2.1 0 := by
      have q1 := (hK1.2 4 (cA, .int) rfl).2
      have q2 := (hK.2 0 (E.2.2.1 0, .int) rfl).2
      exact Option.some.inj (q1.symm.trans q2)
    subst hA
    exact g_grow (e := .inl (0, n.toNat)) ok.pop trivial k X h1 h2 hl hS1 hP1 hD1
  · refine va_newa (atype := .boolean) (ty := .boolean) (a0 := (n.toNat, .inl (fun _ => 0))) X.1 X.2.1 (X.2.2.2.2.2.1 _ harr) rfl hK hP hD hS X.2.2.2.2.2.2.2.2.1 (fun cA => rfl) (g_nn rn h0) (g_nat rn) (by show n.toNat * 1 ≤ 536870912; omega) hc hs hd (fun q cA H1 hK1 hP1 hD1 hS1 => ?_)
    have hA : cA = E.2.2.1 1 := by
      have q1 := (hK1.2 4 (cA, .boolean) rfl).2
      have q2 := (hK.2 1 (E.2.2.1 1, .boolean) rfl).2
      exact Option.some.inj (q1.symm.trans q2)
    subst hA
    exact g_grow (e := .inl (1, n.toNat)) ok.pop trivial k X h1 h2 hl hS1 hP1 hD1
theorem g_anew {n : Int} {idx ty : Nat} {C : String} (hat : (C = RX8 ∧ ty = 2) ∨ (C = RX2 ∧ ty = 3)) (hd : decode M.2.1 pc = .ok (.anewarray idx, 3)) (hlk : Cond.classLink M.1.cls idx C ∈ g_t) (h0 : 0 ≤ n) (hb : n ≤ 100000) (hc : nc + 1 ≤ mc) (hs : ns + n.toNat ≤ ms) (k : g_G E l M d mc ms (nc + 1) (ns + n.toNat) (pc + 3) L (g_R sh.length :: S) (sh ++ [.inr (.inl (ty, n.toNat, fun _ => none))]) (g_row D sh.length (fun _ => 0)) R) : g_G E l M d mc ms nc ns pc L (g_I n :: S) sh D R := by
  intro ok p e s m args below meth c A a0 n0 H locs ls a X h1 h2 hP hD hS hl
  have rn : g_r n := ok.top
  have hE := X.2.2.2.2.2.2.2.2.2.1
  have hK := hE.1
  rcases hat with ⟨rfl, rfl⟩ | ⟨rfl, rfl⟩
  · refine va_newq X.1 X.2.1 X.2.2.2.2.1 (X.2.2.2.2.2.1 _ hlk) hE.2.2.2.1 hK hP hD hS X.2.2.2.2.2.2.2.2.1 (g_nn rn h0) (g_nat rn) (by omega) hc hs hd (fun q cA H1 hK1 hP1 hD1 hS1 => ?_)
    have hA : cA = E.2.2.1 2 := by
      obtain ⟨_, _, _, _, _, q1⟩ := (hK1.2 4 (cA, .object RX8) rfl).2
      obtain ⟨_, _, _, _, _, q2⟩ := (hK.2 2 (E.2.2.1 2, .object RX8) rfl).2
      exact Option.some.inj (q1.symm.trans q2)
    subst hA
    exact g_grow (e := .inr (.inl (2, n.toNat, fun _ => none))) ok.pop (fun j r h => by cases h) k X h1 h2 hl hS1 hP1 hD1
  · refine va_newq X.1 X.2.1 X.2.2.2.2.1 (X.2.2.2.2.2.1 _ hlk) hE.2.2.2.2 hK hP hD hS X.2.2.2.2.2.2.2.2.1 (g_nn rn h0) (g_nat rn) (by omega) hc hs hd (fun q cA H1 hK1 hP1 hD1 hS1 => ?_)
    have hA : cA = E.2.2.1 3 := by
      obtain ⟨_, _, _, _, _, q1⟩ := (hK1.2 4 (cA, .object RX2) rfl).2
      obtain ⟨_, _, _, _, _, q2⟩ := (hK.2 3 (E.2.2.1 3, .object RX2) rfl).2
      exact Option.some.inj (q1.symm.trans q2)
    subst hA
    exact g_grow (e := .inr (.inl (3, n.toNat, fun _ => none))) ok.pop (fun j r h => by cases h) k X h1 h2 hl hS1 hP1 hD1
theorem g_okH.set {k : Nat} {e : g_Sh} (h : g_okH sh) (he : g_okE sh.length e) : g_okH (sh.set k e) := by
  intro i x hi
  rw [List.length_set]
  rw [List.getElem?_set] at hi
  split at hi
  · split at hi
    · cases hi; exact he
    · cases hi
  · exact h i x hi
theorem g_ok.re {e : g_Sh} {k : Nat} (o : g_ok sh D L S) (he : g_okE sh.length e) : g_ok (sh.set k e) D L S := ⟨o.1.set he, o.2.1, by rw [List.length_set]; exact o.2.2.1, by rw [List.length_set]; exact o.2.2.2⟩
def g_fr (own : String) (ci j : Nat) : Prop := ∀ (C : String) (T : u_T) (N : Nat), vwCl[ci]? = some (C, T, N) → (T j).2.2.2 = true ∧ (T j).1 = own ∧ ∃ fty, parseFieldDescriptor (T j).2.2.1 = some fty ∧ ∀ x : Nat, narrow fty (.ref x) = .ref x ∧ fits fty (.ref x) = true
theorem g_mapIdx_setR {fs : List (Option (Option Nat))} {a : Nat → Nat} {dd : Nat → Int} {j r : Nat} : (fs.mapIdx (g_fv a dd)).set j (.ref (a r)) = (fs.set j (some (some r))).mapIdx (g_fv a dd) := by
  apply List.ext_getElem?
  intro i
  rw [List.getElem?_mapIdx]
  by_cases hi : i = j
  · subst hi
    rw [List.getElem?_set, List.getElem?_set]
    simp only [if_true, List.length_mapIdx]
    split <;> rfl
  · rw [List.getElem?_set_ne (Ne.symm hi), List.getElem?_set_ne (Ne.symm hi), List.getElem?_mapIdx]
theorem g_putR {k ci j idx r : Nat} {fs : List (Option (Option Nat))} (hd : decode M.2.1 pc = .ok (.putfield idx, 3)) (hf : g_fd M.1.cls idx ci j) (hty : g_fr M.1.cls ci j) (hin : M.1.name = "<init>") (hs : sh[k]? = some (.inr (.inr (ci, fs)))) (hj : j < fs.length) (kk : g_G E l M d mc ms nc ns (pc + 3) L S (sh.set k (.inr (.inr (ci, fs.set j (some (some r)))))) D R) : g_G E l M d mc ms nc ns pc L (g_R r :: g_R k :: S) sh D R := by
  obtain ⟨C, T, N, ty, hc, hi, hjN, hlk, htys, hnm⟩ := hf
  intro ok p e s m args below meth c A a0 n0 H locs ls a X h1 h2 hP hD hS hl
  obtain ⟨hfin, hdecl, fty, hdesc, hnf⟩ := hty C T N hc
  refine va_putF (D := (E.1, E.2.1)) (v := .ref (a r)) X.1 X.2.1 X.2.2.2.2.2.1 hi ty htys hnm X.2.2.2.2.1 X.2.2.2.2.2.2.2.2.2.1.1 hP hD hS k (g_obj hs) hc j hjN (X.2.2.2.2.2.1 _ hlk) (fun _ h => h) hfin (X.2.2.2.2.2.2.2.1.trans hin) hdecl hdesc (hnf _).1 (hnf _).2 (by rw [List.length_mapIdx]; exact hj) hd (fun H1 locs1 hP1 hD1 hS1 => ?_)
  have hkl := (List.getElem?_eq_some_iff.mp hs).1
  have hw : (g_cw E a sh D).set k (a k, .inr (ci, (fs.mapIdx (g_fv a (D k))).set j (.ref (a r)))) = g_cw E a (sh.set k (.inr (.inr (ci, fs.set j (some (some r)))))) D := by
    rw [g_mapIdx_setR]
    exact g_cw_set (e := .inr (.inr (ci, fs.set j (some (some r))))) hkl rfl (fun k' h => rfl)
  rw [hw] at hP1 hD1
  have rlt : r < sh.length := ok.top
  refine kk (ok.pop.pop.re (fun i x hx => ?_)) p e s m args below meth c A a0 n0 H1 locs1 ls a X (by rw [List.length_set]; exact h1) h2 hP1 hD1 hS1 hl
  rw [List.getElem?_set] at hx
  split at hx
  · cases hx; exact rlt
  · exact ok.1 k _ hs i x hx
theorem g_aast {k r n ty ci : Nat} {fs : List (Option (Option Nat))} {f : Nat → Option Nat} {i : Int} (hat : (ty = 2 ∧ ci = 8) ∨ (ty = 3 ∧ ci = 2)) (hd : decode M.2.1 pc = .ok (.aastore, 1)) (hs : sh[k]? = some (.inr (.inl (ty, n, f)))) (hr : sh[r]? = some (.inr (.inr (ci, fs)))) (h0 : 0 ≤ i) (hn : i < n) (kk : g_G E l M d mc ms nc ns (pc + 1) L S (sh.set k (.inr (.inl (ty, n, fun j => if j = i.toNat then some r else f j)))) D R) : g_G E l M d mc ms nc ns pc L (g_R r :: g_I i :: g_R k :: S) sh D R := by
  intro ok p e s m args below meth c A a0 n0 H locs ls a X h1 h2 hP hD hS hl
  have ri : g_r i := ok.pop.top
  have rlt : r < sh.length := ok.top
  have hK := X.2.2.2.2.2.2.2.2.2.1.1
  have hkl := (List.getElem?_eq_some_iff.mp hs).1
  have hw0 : (g_cw E a sh D)[k]? = some (a k, .inl (E.2.2.1 ty, n, .inr (.inr (.inr (.inr (fun j => (f j).map a)))))) := g_cw_some hs
  have key : ∀ (H1 : Heap) (locs1 : List Loc), va_P (E.1, E.2.1) vwCl ((g_cw E a sh D).set k (a k, .inl (E.2.2.1 ty, n, .inr (.inr (.inr (.inr (va_up (fun j => (f j).map a) (Int32.ofInt i).toNatClampNeg (some (a r))))))))) H1 → va_D A ((g_cw E a sh D).set k (a k, .inl (E.2.2.1 ty, n, .inr (.inr (.inr (.inr (va_up (fun j => (f j).map a) (Int32.ofInt i).toNatClampNeg (some (a r))))))))) → va_S A s.heap H1 locs1 →
      W p l e (g_rm d mc ms) s m args below meth c H1 locs1 nc ns (MQ below (g_Qc E R a0 n0 A) args s mc ms A) (F0 m (pc + 1) ls (S.map (g_cv E a))) := by
    intro H1 locs1 hP1 hD1 hS1
    rw [g_nat ri] at hP1 hD1
    have hw : (g_cw E a sh D).set k (a k, .inl (E.2.2.1 ty, n, .inr (.inr (.inr (.inr (va_up (fun j => (f j).map a) i.toNat (some (a r)))))))) = g_cw E a (sh.set k (.inr (.inl (ty, n, fun j => if j = i.toNat then some r else f j)))) D := by
      have e1 : va_up (fun j => (f j).map a) i.toNat (some (a r)) = fun j => (if j = i.toNat then some r else f j).map a := by
        funext j
        by_cases hj : j = i.toNat
        · simp [va_up, hj]
        · simp [va_up, hj]
      rw [e1]
      exact g_cw_set (e := .inr (.inl (ty, n, fun j => if j = i.toNat then some r else f j))) hkl rfl (fun k' h => rfl)
    rw [hw] at hP1 hD1
    refine kk (ok.pop.pop.pop.re (fun j x hx => ?_)) p e s m args below meth c A a0 n0 H1 locs1 ls a X (by rw [List.length_set]; exact h1) h2 hP1 hD1 hS1 hl
    dsimp only at hx
    split at hx
    · cases hx; exact rlt
    · exact ok.1 k _ hs j x hx
  rcases hat with ⟨rfl, rfl⟩ | ⟨rfl, rfl⟩
  · exact va_astq X.1 X.2.1 hK hP hD hS k 2 r 8 (r := (RX8, TX8, 4)) hw0 rfl (g_obj hr) rfl (g_in ri h0 hn) hd key
  · exact va_astq X.1 X.2.1 hK hP hD hS k 3 r 2 (r := (RX2, TX2, 10)) hw0 rfl (g_obj hr) rfl (g_in ri h0 hn) hd key
theorem g_gets1 (hd : decode M.2.1 pc = .ok (.getstatic 27, 3)) (hown : M.1.cls = RX8) (kk : g_G E l M d mc ms nc ns (pc + 3) L (g_F 1 :: S) sh D R) : g_G E l M d mc ms nc ns pc L S sh D R :=
  g_stk kk (fun o => o.push (show (1 : Nat) < 4 by decide)) fun p e s m args below meth c A H locs ls a Q o X hl hP hS w => va_getsN X.1 X.2.1 X.2.2.2.2.2.2.2.2.2.2.2.1 hS (own := RX8) (by rw [← hown]; exact X.2.2.2.2.1) (va_Nw.use rfl X.2.2.2.2.2.2.2.2.2.1.2.2.1) (fun _ h => h) hd w
end GA
