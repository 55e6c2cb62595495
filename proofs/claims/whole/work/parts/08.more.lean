section GC
variable {E : g_E} {l : Launch} {M : g_Md} {d mc ms nc ns pc : Nat} {L : List (Option g_V)} {S : List g_V} {sh : List g_Sh} {D : g_D} {R : g_Ro} {v w : g_V}
/-- a call of a nest mate's private static method -/
theorem g_callSN {M' : g_Md} {idx n d' mc' ms' : Nat} {R' : g_Ro} {As rest : List g_V} (hd : decode M.2.1 pc = .ok (.invokestatic idx, 3)) (hnl : (M.1.cls, idx, M'.1) ∈ g_nl) (hini : Cond.initialized M'.1.cls ∈ g_t) (hco : Cond.code M'.1 M'.2.1 M'.2.2.1 M'.2.2.2 ∈ g_t) (hpd : M'.1.cls ≠ "java/lang/invoke/MethodHandle" ∧ M'.1.cls ≠ "java/lang/invoke/VarHandle" ∧ (parseMethodDescriptor M'.1.desc).map (fun d => d.parameters.length) = some n) (h45 : M'.2.2.1 ≤ 22) (hi : Cond.static M'.1 ∈ g_t)
    (hn : As.length = n) (hS8 : g_sum rest ≤ 8) (hdd : d' + 1 ≤ d) (hcc : nc + mc' ≤ mc) (hcs : ns + ms' ≤ ms)
    (hM : g_M E l M' d' mc' ms' As sh D R') (k : ∀ (r : Option g_V) (sh' : List g_Sh) (D' : g_D), sh.length ≤ sh'.length → R' r sh' D' → g_G E l M d mc ms (nc + mc') (ns + ms') (pc + 3) L (r.toList ++ rest) sh' D' R) : g_G E l M d mc ms nc ns pc L (As.reverse ++ rest) sh D R := by
  intro ok p e s m args below meth c A a0 n0 H locs ls a X h1 h2 hP hD hS hl
  have okc : g_ok sh D [] As := ⟨ok.1, ok.2.1, fun i v hi => by simp at hi, fun v hv => ok.2.2.2 v (by simp [hv])⟩
  have okr : g_ok sh D L rest := ⟨ok.1, ok.2.1, ok.2.2.1, fun v hv => ok.2.2.2 v (by simp [hv])⟩
  obtain ⟨hbl, hpr⟩ := g_pre (vs := As) X hP hD hS
  have hcn : va_CN (g_rm d mc ms) s args M.1.cls idx M'.1 RX11 M'.2.1 M'.2.2.1 M'.2.2.2 (g_w M') (g_rm d' mc' ms') mc' ms' n := va_cnB n X.2.2.2.2.2.1 (g_goodw hco) rfl rfl rfl (X.2.2.2.2.2.2.2.2.2.1.2.1 _ hnl) (X.2.2.2.2.2.1 _ hini) hpd ⟨hdd, by show 8 + (M'.2.2.1 + 11) + (41 * d' + 32) ≤ 41 * d + 32; omega⟩
  have hrun := va_runSN (p := p) (l := l) (e := e) (R := g_rm d mc ms) (s := s) (m := m) (args := args) (below := below) (meth := meth) (c := c) (H := H) (locs := locs) (cells := nc) (slots := ns) (nL := M.2.2.1) (As := As.map (g_cv E a)) (rest := rest.map (g_cv E a)) (g := F0 m pc ls ((As.reverse ++ rest).map (g_cv E a))) ⟨X.1, X.2.1, X.2.2.2.1, X.2.2.2.2.1, X.2.2.2.2.2.1⟩ (hM okc a H.size)
    ⟨hcn, X.2.2.2.2.2.1 _ hi, trivial⟩ ⟨hbl, hpr⟩ rfl (by rw [List.length_map]; exact hn) hl.1 (by show (As.reverse ++ rest).map (g_cv E a) = _; rw [List.map_append, List.map_reverse]) (by rw [g_sum_eq]; show 2 * 0 + _ ≤ 8; omega) hd ⟨hcc, hcs⟩
  exact g_after okr X h1 h2 hD hS hl hrun k
/-- a call of a constructor -/
theorem g_callI {M' : g_Md} {idx b n d' mc' ms' : Nat} {R' : g_Ro} {As rest : List g_V} (hd : decode M.2.1 pc = .ok (.invokespecial idx, 3)) (hm : g_md M.1.cls idx n M') (hi : Cond.instanceMethod M'.1 ∈ g_t) (hnm : M'.1.name = "<init>") (hrt : M'.2.2.2 = none)
    (hn : As.length = n) (hS8 : g_sum rest ≤ 8) (hdd : d' + 1 ≤ d) (hcc : nc + mc' ≤ mc) (hcs : ns + ms' ≤ ms)
    (hM : g_M E l M' d' mc' ms' (g_R b :: As) sh D R') (k : ∀ (r : Option g_V) (sh' : List g_Sh) (D' : g_D), sh.length ≤ sh'.length → R' r sh' D' → g_G E l M d mc ms (nc + mc') (ns + ms') (pc + 3) L (r.toList ++ rest) sh' D' R) : g_G E l M d mc ms nc ns pc L (As.reverse ++ g_R b :: rest) sh D R := by
  intro ok p e s m args below meth c A a0 n0 H locs ls a X h1 h2 hP hD hS hl
  have okc : g_ok sh D [] (g_R b :: As) := ⟨ok.1, ok.2.1, fun i v hi => by simp at hi, fun v hv => ok.2.2.2 v (by
    rcases List.mem_cons.mp hv with rfl | hv
    · simp
    · simp [hv])⟩
  have okr : g_ok sh D L rest := ⟨ok.1, ok.2.1, ok.2.2.1, fun v hv => ok.2.2.2 v (by simp [hv])⟩
  obtain ⟨hbl, hpr⟩ := g_pre (vs := g_R b :: As) X hP hD hS
  have hcb : CallB (g_rm d mc ms) s args M.1.cls idx M'.1 M'.2.1 M'.2.2.1 none (g_w M') (g_rm d' mc' ms') mc' ms' n := hrt ▸ g_cb X hm hdd
  have hrun := va_runI (p := p) (l := l) (e := e) (R := g_rm d mc ms) (s := s) (m := m) (args := args) (below := below) (meth := meth) (c := c) (H := H) (locs := locs) (cells := nc) (slots := ns) (nL := M.2.2.1) (b := a b) (As := As.map (g_cv E a)) (rest := rest.map (g_cv E a)) (g := F0 m pc ls ((As.reverse ++ g_R b :: rest).map (g_cv E a))) ⟨X.1, X.2.1, X.2.2.2.1, X.2.2.2.2.1, X.2.2.2.2.2.1⟩ (hM okc a H.size)
    ⟨hcb, hnm, X.2.2.2.2.2.1 _ hi⟩ ⟨hbl, hpr⟩ rfl (by rw [List.length_map]; exact hn) hl.1 (by show (As.reverse ++ g_R b :: rest).map (g_cv E a) = _; rw [List.map_append, List.map_reverse]; rfl) (by rw [g_sum_eq]; show 2 * 0 + _ ≤ 8; omega) hd ⟨hcc, hcs⟩
  exact g_after okr X h1 h2 hD hS hl hrun k
theorem g_oinit {idx k : Nat} (hd : decode M.2.1 pc = .ok (.invokespecial idx, 3)) (hlk : Cond.methodLink M.1.cls idx objectInit ∈ g_t) (hin : Cond.instanceMethod objectInit ∈ g_t) (hco : Cond.code objectInit ⟨#[0xb1]⟩ 1 none ∈ g_t) (hd1 : 1 ≤ d) (hS8 : g_sum S ≤ 8) (kk : g_G E l M d mc ms nc ns (pc + 3) L S sh D R) : g_G E l M d mc ms nc ns pc L (g_R k :: S) sh D R :=
  g_stk kk (fun o => o.pop) fun p e s m args below meth c A H locs ls a Q o X hl hP hS w => W.objInit X.1 X.2.1 X.2.2.2.2.1 (X.2.2.2.2.2.1 _ hlk) (X.2.2.2.2.2.1 _ hin) (X.2.2.2.2.2.1 _ hco) (g := F0 m pc ls ((g_R k :: S).map (g_cv E a))) (rest := S.map (g_cv E a)) rfl (hl.1.trans X.2.2.2.1.symm) rfl hd hd1 (by rw [g_sum_eq]; show 2 * 0 + _ + 12 ≤ 41 * d + 32; omega) w
def g_mw (own : String) (idx : Nat) (y : MethodName) (b : ByteArray) (n : Nat) : Prop := Cond.methodLink own idx y ∈ g_t ∧ Cond.static y ∈ g_t ∧ Cond.initialized "java/lang/Math" ∈ g_t ∧ Cond.code y b n (some .int) ∈ g_t
theorem g_max {x y : Int} {idx : Nat} (hd : decode M.2.1 pc = .ok (.invokestatic idx, 3)) (hm : g_mw M.1.cls idx Lib.Math.max.name Lib.Math.max.code 2) (hd1 : 1 ≤ d) (hc : nc ≤ mc) (hs : ns ≤ ms) (hS8 : g_sum S ≤ 8) (kk : g_G E l M d mc ms nc ns (pc + 3) L (g_I (max x y) :: S) sh D R) : g_G E l M d mc ms nc ns pc L (g_I y :: g_I x :: S) sh D R :=
  g_stk kk (fun o => o.pop.pop.push (by show g_r (max x y); have h1 : g_r x := o.pop.top; have h2 : g_r y := o.top; unfold g_r at *; omega)) fun p e s m args below meth c A H locs ls a Q o X hl hP hS w => va_mmax X.1 X.2.1 (X.2.2.2.1.trans hl.1.symm) X.2.2.2.2.1 (X.2.2.2.2.2.1 _ hm.1) (X.2.2.2.2.2.1 _ hm.2.1) (X.2.2.2.2.2.1 _ hm.2.2.1) (X.2.2.2.2.2.1 _ hm.2.2.2) hd1 (by rw [g_sum_eq]; show _ + 13 ≤ 41 * d + 32; omega) hc hs hd (by
    have e1 : (if Int32.ofInt x < Int32.ofInt y then Int32.ofInt y else Int32.ofInt x) = Int32.ofInt (max x y) := by
      simp only [g_lt (x := x) (y := y) o.pop.top o.top]
      split
      · rw [Int.max_eq_right (by omega)]
      · rw [Int.max_eq_left (by omega)]
    rw [e1]
    exact w)
theorem g_min {x y : Int} {idx : Nat} (hd : decode M.2.1 pc = .ok (.invokestatic idx, 3)) (hm : g_mw M.1.cls idx Lib.Math.min.name Lib.Math.min.code 2) (hd1 : 1 ≤ d) (hc : nc ≤ mc) (hs : ns ≤ ms) (hS8 : g_sum S ≤ 8) (kk : g_G E l M d mc ms nc ns (pc + 3) L (g_I (min x y) :: S) sh D R) : g_G E l M d mc ms nc ns pc L (g_I y :: g_I x :: S) sh D R :=
  g_stk kk (fun o => o.pop.pop.push (by show g_r (min x y); have h1 : g_r x := o.pop.top; have h2 : g_r y := o.top; unfold g_r at *; omega)) fun p e s m args below meth c A H locs ls a Q o X hl hP hS w => va_mmin X.1 X.2.1 (X.2.2.2.1.trans hl.1.symm) X.2.2.2.2.1 (X.2.2.2.2.2.1 _ hm.1) (X.2.2.2.2.2.1 _ hm.2.1) (X.2.2.2.2.2.1 _ hm.2.2.1) (X.2.2.2.2.2.1 _ hm.2.2.2) hd1 (by rw [g_sum_eq]; show _ + 13 ≤ 41 * d + 32; omega) hc hs hd (by
    have e1 : (if Int32.ofInt y < Int32.ofInt x then Int32.ofInt y else Int32.ofInt x) = Int32.ofInt (min x y) := by
      simp only [g_lt (x := y) (y := x) o.top o.pop.top]
      split
      · rw [Int.min_eq_right (by omega)]
      · rw [Int.min_eq_left (by omega)]
    rw [e1]
    exact w)
theorem g_aald {k ty n r : Nat} {f : Nat → Option Nat} {i : Int} (hd : decode M.2.1 pc = .ok (.aaload, 1)) (hs : sh[k]? = some (.inr (.inl (ty, n, f)))) (hty : ty = 2 ∨ ty = 3) (h0 : 0 ≤ i) (hn : i < n) (hr : f i.toNat = some r) (kk : g_G E l M d mc ms nc ns (pc + 1) L (g_R r :: S) sh D R) : g_G E l M d mc ms nc ns pc L (g_I i :: g_R k :: S) sh D R :=
  g_stk kk (fun o => o.pop.pop.push (o.1 k _ hs _ _ hr)) fun p e s m args below meth c A H locs ls a Q o X hl hP hS w => by
    have hK := X.2.2.2.2.2.2.2.2.2.1.1
    have hw : (g_cw E a sh D)[k]? = some (a k, .inl (E.2.2.1 ty, n, .inr (.inr (.inr (.inr (fun j => (f j).map a)))))) := g_cw_some hs
    have e1 : va_rf ((f (Int32.ofInt i).toNatClampNeg).map a) = .ref (a r) := by rw [g_nat (x := i) o.top, hr]; rfl
    rcases hty with rfl | rfl
    · exact va_aldq X.1 X.2.1 hK hP k 2 hw rfl (g_in o.top h0 hn) hd (by rw [e1]; exact w)
    · exact va_aldq X.1 X.2.1 hK hP k 3 hw rfl (g_in o.top h0 hn) hd (by rw [e1]; exact w)
def g_cpy (D : g_D) (k0 k1 sp dp n : Nat) : g_D := g_row D k1 (fun j => if dp ≤ j ∧ j < dp + n then D k0 (sp + (j - dp)) else D k1 j)
theorem g_ok.cpy {k0 k1 sp dp n : Nat} (h : g_ok sh D L S) : g_ok sh (g_cpy D k0 k1 sp dp n) L S := ⟨h.1, fun a b => by unfold g_cpy g_row; split <;> (try (show g_r (if _ then _ else _); split)) <;> exact h.2.1 _ _, h.2.2.1, h.2.2.2⟩
theorem g_acopy {k0 k1 n0' n1 idx : Nat} {sp dp n : Int} (hd : decode M.2.1 pc = .ok (.invokestatic idx, 3)) (hlk : Cond.methodLink M.1.cls idx arraycopyName ∈ g_t) (hnat : Cond.native arraycopyName ∈ g_t) (hstat : Cond.static arraycopyName ∈ g_t) (hini : Cond.initialized "java/lang/System" ∈ g_t)
    (hs0 : sh[k0]? = some (.inl (0, n0'))) (hs1 : sh[k1]? = some (.inl (0, n1))) (h1 : 0 ≤ sp) (h2 : 0 ≤ dp) (h3 : 0 ≤ n) (h4 : sp + n ≤ n0') (h5 : dp + n ≤ n1) (hd1 : 1 ≤ d) (hS8 : g_sum S ≤ 8) (kk : g_G E l M d mc ms nc ns (pc + 3) L S sh (g_cpy D k0 k1 sp.toNat dp.toNat n.toNat) R) : g_G E l M d mc ms nc ns pc L (g_I n :: g_I dp :: g_R k1 :: g_I sp :: g_R k0 :: S) sh D R := by
  intro ok p e s m args below meth c A a0 n0 H locs ls a X hh1 hh2 hP hD hS hl
  have rn : g_r n := ok.top
  have rd : g_r dp := ok.pop.top
  have rs : g_r sp := ok.pop.pop.pop.top
  have hloc : ((S.map (g_cv E a)).map fun v => v.category).sum + (nativeFrameWords "java/lang/System" "arraycopy" 5 + 11) ≤ (g_rm d mc ms).locals := by
    rw [g_sum_eq]
    have h40 : nativeFrameWords "java/lang/System" "arraycopy" 5 ≤ 40 := by decide +kernel
    show _ ≤ 41 * d + 32
    omega
  refine va_copyi (rest := S.map (g_cv E a)) (a := a k1) X.1 X.2.1 (X.2.2.2.1.trans hl.1.symm) X.2.2.2.2.1 (X.2.2.2.2.2.1 _ hlk) (X.2.2.2.2.2.1 _ hnat) (X.2.2.2.2.2.1 _ hstat) (X.2.2.2.2.2.1 _ hini) X.2.2.2.2.2.2.2.2.2.1.1 hP hD hS k0 k1 0 0 (g_arr hs0) (g_arr hs1) rfl rfl rfl (g_nn rs h1) (g_nn rd h2) (g_nn rn h3) (by rw [g_nat rs, g_nat rn]; omega) (by rw [g_nat rd, g_nat rn]; omega) (fun i hi => rfl) hd1 hloc hd (fun H1 locs1 hP1 hD1 hS1 => ?_)
  rw [g_nat rs, g_nat rd, g_nat rn] at hP1 hD1
  have hw : (g_cw E a sh D).set k1 (a k1, .inl (E.2.2.1 0, n1, .inl (va_cpy (fun j => Int32.ofInt (D k0 j)) (fun j => Int32.ofInt (D k1 j)) sp.toNat dp.toNat n.toNat))) = g_cw E a sh (g_cpy D k0 k1 sp.toNat dp.toNat n.toNat) := by
    rw [← g_cw_set (D := D) (D' := g_cpy D k0 k1 sp.toNat dp.toNat n.toNat) (e := .inl (0, n1)) (List.getElem?_eq_some_iff.mp hs1).1 (g_set_self hs1) (fun k' h => g_row_ne h)]
    congr 1
    simp only [g_ce, g_cpy, g_row_eq]
    congr 3
    congr 1
    apply congrArg Sum.inl
    funext j
    simp only [va_cpy]
    split <;> rfl
  rw [hw] at hP1 hD1
  exact kk ok.pop.pop.pop.pop.pop.cpy p e s m args below meth c A a0 n0 H1 locs1 ls a X hh1 hh2 hP1 hD1 hS1 hl
theorem g_gets2 {idx : Nat} (hd : decode M.2.1 pc = .ok (.getstatic idx, 3)) (hlk : Cond.fieldLink M.1.cls idx RX11 "LOWEST_TERM" "[I" ∈ g_t) (kk : g_G E l M d mc ms nc ns (pc + 3) L (g_F 2 :: S) sh D R) : g_G E l M d mc ms nc ns pc L S sh D R :=
  g_stk kk (fun o => o.push (show (2 : Nat) < 4 by decide)) fun p e s m args below meth c A H locs ls a Q o X hl hP hS w => va_gets X.1 X.2.1 X.2.2.2.2.2.2.2.2.2.2.2.2.1 hS X.2.2.2.2.1 (X.2.2.2.2.2.1 _ hlk) (fun _ h => h) hd w
theorem g_gets3 {idx : Nat} (hd : decode M.2.1 pc = .ok (.getstatic idx, 3)) (hlk : Cond.fieldLink M.1.cls idx RX11 "HIGHEST_TERM" "[I" ∈ g_t) (kk : g_G E l M d mc ms nc ns (pc + 3) L (g_F 3 :: S) sh D R) : g_G E l M d mc ms nc ns pc L S sh D R :=
  g_stk kk (fun o => o.push (show (3 : Nat) < 4 by decide)) fun p e s m args below meth c A H locs ls a Q o X hl hP hS w => va_gets X.1 X.2.1 X.2.2.2.2.2.2.2.2.2.2.2.2.2 hS X.2.2.2.2.1 (X.2.2.2.2.2.1 _ hlk) (fun _ h => h) hd w
end GC
