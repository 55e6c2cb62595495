def R_law : String := "PlaceMenderLaw"
def lw_P (b : Addr) (xs : List Int32) (args : Array Value) (s : State) : Prop := args = #[.ref b] ∧ s.IntsAt b xs ∧ xs.length ≤ 3072 ∧ (Jvm.Cond.and given_1 narrow_1).before args s = true
def lw_Q (_ : Array Value) (s : State) (o : Outcome) (t : State) : Prop := o = .returned (some (.int 1)) ∧ Framed s o t [] 600000 7302250
def lw_Z (below : List Frame) (a : Array Value) (s : State) : State → Prop := fun t => ∃ o, t.status = .running ∧ Ended t below o ∧ lw_Q a s o t
/-- the law's own end, with 1 on the stack, nothing written that was there before, its room as the claim has it -/
theorem lw_ret {p : Program} {l : Launch} {e : Env} {s : State} {m : MethodId} {below : List Frame} {meth : Method} {c : Code} {b : Nat} (hx : p.tables.exec = Jvm.exec) (hb : c.code = code) (hr : meth.sig.returnType = ret) (hlocks : meth.locks = false) {pc : Nat} {H : Heap} {ls : Array Slot} (hdg : decode code pc = .ok (.ireturn, 1)) : W p l e room_1 s m #[Value.ref b] below meth c H [] 600000 7302250 (lw_Z below #[Value.ref b] s) (F0 m pc ls [.int 1]) := by
  intro T hT X
  obtain ⟨fs, hret, hrun, hended, hW, hframe⟩ := X.leave (v := some (.int 1)) (hlocks := hlocks) (fun h => by rw [hr] at h; cases h)
  have hmeth' : T.vm.method? m = some meth := X.method'
  refine ⟨T.setFrames fs, ?_, .returned (some (.int 1)), hrun, hended, rfl, ⟨_, rfl⟩, hW, hframe⟩
  jvm_step X.here [X.here.top, hx, hb, hdg, hmeth', hr, ret, narrow_b1]
  (try refine ⟨rfl, ?_⟩); (try refine ⟨rfl, ?_⟩)
  first | (intro acts; rw [hret _ acts rfl rfl rfl]) | rw [hret _ _ rfl rfl rfl]
  exact Steps.refl _
/-- what holds at the law's entry: the machine, the code, the tables' words (any of lw_tbl by 'hts w (by decide +kernel)'), the script of L ints xs at the cell b, what the Statement gives of the start (any of its parts by flat_of_before) -/
def lw_At (p : Program) (s : State) (m : MethodId) (meth : Method) (c : Code) (b L : Nat) (xs : Nat → Int32) : Prop :=
  p.tables.exec = Jvm.exec ∧ c.code = code ∧ meth.sig.returnType = ret ∧ c.maxLocals = 4 ∧ s.vm.findClass R_law = some m.cls ∧ (∀ w ∈ lw_tbl, w.before #[Value.ref b] s = true) ∧ va_X b L xs s s.heap ∧ b < s.heap.size ∧ meth.locks = false ∧ meth.name = "law" ∧ (Jvm.Cond.and given_1 narrow_1).before #[Value.ref b] s = true
set_option maxRecDepth 20000 in
theorem wn_0 : Cond.methodLinkNest RX1 103 yX11_onesFrom RX11 ∈ lw_tbl := (List.mem_append_right _ (List.mem_append_right _ (List.mem_append_right _ (List.mem_append_right _ (List.mem_append_left _ (List.mem_of_getElem? (i := 213) rfl))))))
set_option maxRecDepth 20000 in
theorem wn_1 : Cond.methodLinkNest RX1 146 yX11_packed RX11 ∈ lw_tbl := (List.mem_append_right _ (List.mem_append_right _ (List.mem_append_right _ (List.mem_append_right _ (List.mem_append_left _ (List.mem_of_getElem? (i := 230) rfl))))))
set_option maxRecDepth 20000 in
theorem wn_2 : Cond.methodLinkNest RX1 218 yX11_hasBit RX11 ∈ lw_tbl := (List.mem_append_right _ (List.mem_append_right _ (List.mem_append_right _ (List.mem_append_right _ (List.mem_append_right _ (List.mem_append_left _ (List.mem_of_getElem? (i := 97) rfl)))))))
set_option maxRecDepth 20000 in
theorem wn_3 : Cond.methodLinkNest RX4 37 yX11_hasBit RX11 ∈ lw_tbl := (List.mem_append_right _ (List.mem_append_right _ (List.mem_append_right _ (List.mem_append_left _ (List.mem_of_getElem? (i := 191) rfl)))))
set_option maxRecDepth 20000 in
theorem wn_4 : Cond.methodLinkNest RX4 69 yX11_lowestBit RX11 ∈ lw_tbl := (List.mem_append_right _ (List.mem_append_right _ (List.mem_append_right _ (List.mem_append_left _ (List.mem_of_getElem? (i := 194) rfl)))))
set_option maxRecDepth 20000 in
theorem wn_5 : Cond.methodLinkNest RX4 99 yX11_onesFrom RX11 ∈ lw_tbl := (List.mem_append_right _ (List.mem_append_right _ (List.mem_append_right _ (List.mem_append_left _ (List.mem_of_getElem? (i := 209) rfl)))))
set_option maxRecDepth 20000 in
theorem wn_6 : Cond.methodLinkNest RX6 21 yX11_hasBit RX11 ∈ lw_tbl := (List.mem_append_right _ (List.mem_append_right _ (List.mem_append_right _ (List.mem_append_left _ (List.mem_of_getElem? (i := 224) rfl)))))
set_option maxRecDepth 20000 in
theorem wn_7 : Cond.methodLinkNest RX6 33 yX11_lowestBit RX11 ∈ lw_tbl := (List.mem_append_right _ (List.mem_append_right _ (List.mem_append_right _ (List.mem_append_right _ (List.mem_append_left _ (List.mem_of_getElem? (i := 53) rfl))))))
set_option maxRecDepth 20000 in
theorem wn_f : Cond.fieldLinkNest RX8 27 RX11 "FIRST_TERM" "[I" RX11 ∈ lw_tbl := (List.mem_append_right _ (List.mem_append_left _ (List.mem_of_getElem? (i := 61) rfl)))
set_option maxRecDepth 20000 in
theorem wn_X8 : Cond.arrayOver (.object RX8) ∈ lw_tbl := (List.mem_append_right _ (List.mem_append_left _ (List.mem_of_getElem? (i := 149) rfl)))
set_option maxRecDepth 20000 in
theorem wn_X2 : Cond.arrayOver (.object RX2) ∈ lw_tbl := (List.mem_append_right _ (List.mem_append_left _ (List.mem_of_getElem? (i := 202) rfl)))
set_option maxRecDepth 20000 in
theorem ws_FIRST_TERM : Cond.laysStatic RX11 "FIRST_TERM" "[I" ∈ lw_tbl := (List.mem_append_right _ (List.mem_append_left _ (List.mem_of_getElem? (i := 62) rfl)))
set_option maxRecDepth 20000 in
theorem ws_LOWEST_TERM : Cond.laysStatic RX11 "LOWEST_TERM" "[I" ∈ lw_tbl := (List.mem_append_right _ (List.mem_append_right _ (List.mem_append_right _ (List.mem_append_left _ (List.mem_of_getElem? (i := 73) rfl)))))
set_option maxRecDepth 20000 in
theorem ws_HIGHEST_TERM : Cond.laysStatic RX11 "HIGHEST_TERM" "[I" ∈ lw_tbl := (List.mem_append_right _ (List.mem_append_right _ (List.mem_append_right _ (List.mem_append_left _ (List.mem_of_getElem? (i := 75) rfl)))))
set_option maxRecDepth 20000 in
theorem wk_X0 : Cond.instantiable RX0 2 ∈ g_t := (tw1 33 rfl rfl)
set_option maxRecDepth 20000 in
theorem wk_X1 : Cond.instantiable RX1 11 ∈ g_t := (tw2 153 rfl rfl)
set_option maxRecDepth 20000 in
theorem wk_X2 : Cond.instantiable RX2 10 ∈ g_t := (tw1 67 rfl rfl)
set_option maxRecDepth 20000 in
theorem wk_X3 : Cond.instantiable RX3 3 ∈ g_t := (tw1 196 rfl rfl)
set_option maxRecDepth 20000 in
theorem wk_X4 : Cond.instantiable RX4 12 ∈ g_t := (tw2 99 rfl rfl)
set_option maxRecDepth 20000 in
theorem wk_X5 : Cond.instantiable RX5 9 ∈ g_t := (tw1 153 rfl rfl)
set_option maxRecDepth 20000 in
theorem wk_X6 : Cond.instantiable RX6 9 ∈ g_t := (tw2 1 rfl rfl)
set_option maxRecDepth 20000 in
theorem wk_X7 : Cond.instantiable RX7 12 ∈ g_t := (tw1 235 rfl rfl)
set_option maxRecDepth 20000 in
theorem wk_X8 : Cond.instantiable RX8 4 ∈ g_t := (tw1 27 rfl rfl)
set_option maxRecDepth 20000 in
theorem wk_X9 : Cond.instantiable RX9 3 ∈ g_t := (tw1 216 rfl rfl)
set_option maxRecDepth 20000 in
theorem wk_X10 : Cond.instantiable RX10 2 ∈ g_t := (tw2 204 rfl rfl)
set_option maxRecDepth 20000 in
theorem wk_X11 : Cond.instantiable RX11 16 ∈ g_t := (tw1 19 rfl rfl)
set_option maxRecDepth 20000 in
theorem wk_X12 : Cond.instantiable RX12 51 ∈ g_t := (tw5 226 rfl rfl)
theorem g_nl_ok {U : State} {A : Array Value} (hts : ∀ w ∈ lw_tbl, w.before A U = true) : ∀ q ∈ g_nl, va_Nw (.methodLinkNest q.1 q.2.1 q.2.2 RX11) U := by
  intro q hq
  simp only [g_nl, List.mem_cons, List.not_mem_nil, or_false] at hq
  rcases hq with rfl | rfl | rfl | rfl | rfl | rfl | rfl | rfl
  · exact va_Nw.of rfl (hts _ wn_0)
  · exact va_Nw.of rfl (hts _ wn_1)
  · exact va_Nw.of rfl (hts _ wn_2)
  · exact va_Nw.of rfl (hts _ wn_3)
  · exact va_Nw.of rfl (hts _ wn_4)
  · exact va_Nw.of rfl (hts _ wn_5)
  · exact va_Nw.of rfl (hts _ wn_6)
  · exact va_Nw.of rfl (hts _ wn_7)

theorem g_drop {s t : State} {L : List Loc} {k n : Nat} (h : s.sameButNew t L k n) (hL : ∀ q ∈ L, s.heap.size ≤ q.base) : s.sameButNew t [] k n := by
  obtain ⟨h1, h2, h3, h4, h5, h6⟩ := h
  refine ⟨h1, h2, h3, h4, h5, fun a c hc => ?_⟩
  obtain ⟨c', q1, q2, q3, q4⟩ := h6 a c hc
  refine ⟨c', q1, q2, q3, fun i _ => q4 i (fun hm => ?_)⟩
  have := hL _ hm
  have := (Array.getElem?_eq_some_iff.mp hc).1
  dsimp only at *
  omega
theorem g_st1 {s : State} {b : Nat} (hts : ∀ w ∈ lw_tbl, w.before #[Value.ref b] s = true) (hgv : (Jvm.Cond.and given_1 narrow_1).before #[Value.ref b] s = true) : ∃ t : Nat, va_T .int t 4 (fun j => .int (Int32.ofInt (([3, 0, 0, 8] : List Int).getD j 0))) (fun q => s.heap.size ≤ q) s s.heap ∧ va_Z RX11 "FIRST_TERM" "[I" (.ref t) (fun q => s.heap.size ≤ q) s s.heap := by
  have hs := flat_of_before _ hgv
  have hA : ∀ a : Nat, a < s.heap.size → ¬ (fun q : Nat => s.heap.size ≤ q) a := fun a h q => absurd h (Nat.not_lt.mpr q)
  have harr : (Cond.arrayOf (.static "PlaceMender" "FIRST_TERM" "[I") .int).before #[Value.ref b] s = true := hs _ (by decide +kernel)
  have hlen : (Cond.eq (.length (.static "PlaceMender" "FIRST_TERM" "[I")) (.int 4)).before #[Value.ref b] s = true := hs _ (by decide +kernel)
  have e0 : (Cond.eq (.elem (.static "PlaceMender" "FIRST_TERM" "[I") (.int 0)) (.int 3)).before #[Value.ref b] s = true := hs _ (by decide +kernel)
  have e1 : (Cond.eq (.elem (.static "PlaceMender" "FIRST_TERM" "[I") (.int 1)) (.int 0)).before #[Value.ref b] s = true := hs _ (by decide +kernel)
  have e2 : (Cond.eq (.elem (.static "PlaceMender" "FIRST_TERM" "[I") (.int 2)) (.int 0)).before #[Value.ref b] s = true := hs _ (by decide +kernel)
  have e3 : (Cond.eq (.elem (.static "PlaceMender" "FIRST_TERM" "[I") (.int 3)) (.int 8)).before #[Value.ref b] s = true := hs _ (by decide +kernel)
  obtain ⟨t, ht, hT⟩ := va_Tof (N := 4) (f := fun j => .int (Int32.ofInt (([3, 0, 0, 8] : List Int).getD j 0))) (by decide) harr (va_eqt hlen) (fun j hj => by
    match j, hj with
    | 0, _ => exact va_eqt e0
    | 1, _ => exact va_eqt e1
    | 2, _ => exact va_eqt e2
    | 3, _ => exact va_eqt e3
    | j + 4, h => omega) hA
  exact ⟨t, hT, va_Zof (hts _ ws_FIRST_TERM) (hts _ (List.mem_filter.mp wi_X11).1) ht hA⟩
theorem g_st2 {s : State} {b : Nat} (hts : ∀ w ∈ lw_tbl, w.before #[Value.ref b] s = true) (hgv : (Jvm.Cond.and given_1 narrow_1).before #[Value.ref b] s = true) : ∃ t : Nat, va_T .int t 4 (fun j => .int (Int32.ofInt (([3, 0, 0, 0] : List Int).getD j 0))) (fun q => s.heap.size ≤ q) s s.heap ∧ va_Z RX11 "LOWEST_TERM" "[I" (.ref t) (fun q => s.heap.size ≤ q) s s.heap := by
  have hs := flat_of_before _ hgv
  have hA : ∀ a : Nat, a < s.heap.size → ¬ (fun q : Nat => s.heap.size ≤ q) a := fun a h q => absurd h (Nat.not_lt.mpr q)
  have harr : (Cond.arrayOf (.static "PlaceMender" "LOWEST_TERM" "[I") .int).before #[Value.ref b] s = true := hs _ (by decide +kernel)
  have hlen : (Cond.eq (.length (.static "PlaceMender" "LOWEST_TERM" "[I")) (.int 4)).before #[Value.ref b] s = true := hs _ (by decide +kernel)
  have e0 : (Cond.eq (.elem (.static "PlaceMender" "LOWEST_TERM" "[I") (.int 0)) (.int 3)).before #[Value.ref b] s = true := hs _ (by decide +kernel)
  have e1 : (Cond.eq (.elem (.static "PlaceMender" "LOWEST_TERM" "[I") (.int 1)) (.int 0)).before #[Value.ref b] s = true := hs _ (by decide +kernel)
  have e2 : (Cond.eq (.elem (.static "PlaceMender" "LOWEST_TERM" "[I") (.int 2)) (.int 0)).before #[Value.ref b] s = true := hs _ (by decide +kernel)
  have e3 : (Cond.eq (.elem (.static "PlaceMender" "LOWEST_TERM" "[I") (.int 3)) (.int 0)).before #[Value.ref b] s = true := hs _ (by decide +kernel)
  obtain ⟨t, ht, hT⟩ := va_Tof (N := 4) (f := fun j => .int (Int32.ofInt (([3, 0, 0, 0] : List Int).getD j 0))) (by decide) harr (va_eqt hlen) (fun j hj => by
    match j, hj with
    | 0, _ => exact va_eqt e0
    | 1, _ => exact va_eqt e1
    | 2, _ => exact va_eqt e2
    | 3, _ => exact va_eqt e3
    | j + 4, h => omega) hA
  exact ⟨t, hT, va_Zof (hts _ ws_LOWEST_TERM) (hts _ (List.mem_filter.mp wi_X11).1) ht hA⟩
theorem g_st3 {s : State} {b : Nat} (hts : ∀ w ∈ lw_tbl, w.before #[Value.ref b] s = true) (hgv : (Jvm.Cond.and given_1 narrow_1).before #[Value.ref b] s = true) : ∃ t : Nat, va_T .int t 4 (fun j => .int (Int32.ofInt (([8, 2, 2, 20] : List Int).getD j 0))) (fun q => s.heap.size ≤ q) s s.heap ∧ va_Z RX11 "HIGHEST_TERM" "[I" (.ref t) (fun q => s.heap.size ≤ q) s s.heap := by
  have hs := flat_of_before _ hgv
  have hA : ∀ a : Nat, a < s.heap.size → ¬ (fun q : Nat => s.heap.size ≤ q) a := fun a h q => absurd h (Nat.not_lt.mpr q)
  have harr : (Cond.arrayOf (.static "PlaceMender" "HIGHEST_TERM" "[I") .int).before #[Value.ref b] s = true := hs _ (by decide +kernel)
  have hlen : (Cond.eq (.length (.static "PlaceMender" "HIGHEST_TERM" "[I")) (.int 4)).before #[Value.ref b] s = true := hs _ (by decide +kernel)
  have e0 : (Cond.eq (.elem (.static "PlaceMender" "HIGHEST_TERM" "[I") (.int 0)) (.int 8)).before #[Value.ref b] s = true := hs _ (by decide +kernel)
  have e1 : (Cond.eq (.elem (.static "PlaceMender" "HIGHEST_TERM" "[I") (.int 1)) (.int 2)).before #[Value.ref b] s = true := hs _ (by decide +kernel)
  have e2 : (Cond.eq (.elem (.static "PlaceMender" "HIGHEST_TERM" "[I") (.int 2)) (.int 2)).before #[Value.ref b] s = true := hs _ (by decide +kernel)
  have e3 : (Cond.eq (.elem (.static "PlaceMender" "HIGHEST_TERM" "[I") (.int 3)) (.int 20)).before #[Value.ref b] s = true := hs _ (by decide +kernel)
  obtain ⟨t, ht, hT⟩ := va_Tof (N := 4) (f := fun j => .int (Int32.ofInt (([8, 2, 2, 20] : List Int).getD j 0))) (by decide) harr (va_eqt hlen) (fun j hj => by
    match j, hj with
    | 0, _ => exact va_eqt e0
    | 1, _ => exact va_eqt e1
    | 2, _ => exact va_eqt e2
    | 3, _ => exact va_eqt e3
    | j + 4, h => omega) hA
  exact ⟨t, hT, va_Zof (hts _ ws_HIGHEST_TERM) (hts _ (List.mem_filter.mp wi_X11).1) ht hA⟩
theorem g_classes {s : State} {b : Nat} (hts : ∀ w ∈ g_t, w.before #[Value.ref b] s = true) : ∃ (dC : Nat → ClassId) (dI : Nat → Nat → Nat), ∀ (k : Nat) (q : vw_C), vwCl[k]? = some q → u_Kn s q.1 q.2.1 q.2.2 (dC k) (dI k) := by
  obtain ⟨c0, i0, hK0⟩ := u_known (C := RX0) (T := TX0) (N := 2) (n := 2) hts uw_X0 (hts _ wk_X0)
  obtain ⟨c1, i1, hK1⟩ := u_known (C := RX1) (T := TX1) (N := 11) (n := 11) hts uw_X1 (hts _ wk_X1)
  obtain ⟨c2, i2, hK2⟩ := u_known (C := RX2) (T := TX2) (N := 10) (n := 10) hts uw_X2 (hts _ wk_X2)
  obtain ⟨c3, i3, hK3⟩ := u_known (C := RX3) (T := TX3) (N := 3) (n := 3) hts uw_X3 (hts _ wk_X3)
  obtain ⟨c4, i4, hK4⟩ := u_known (C := RX4) (T := TX4) (N := 12) (n := 12) hts uw_X4 (hts _ wk_X4)
  obtain ⟨c5, i5, hK5⟩ := u_known (C := RX5) (T := TX5) (N := 9) (n := 9) hts uw_X5 (hts _ wk_X5)
  obtain ⟨c6, i6, hK6⟩ := u_known (C := RX6) (T := TX6) (N := 9) (n := 9) hts uw_X6 (hts _ wk_X6)
  obtain ⟨c7, i7, hK7⟩ := u_known (C := RX7) (T := TX7) (N := 12) (n := 12) hts uw_X7 (hts _ wk_X7)
  obtain ⟨c8, i8, hK8⟩ := u_known (C := RX8) (T := TX8) (N := 4) (n := 4) hts uw_X8 (hts _ wk_X8)
  obtain ⟨c9, i9, hK9⟩ := u_known (C := RX9) (T := TX9) (N := 3) (n := 3) hts uw_X9 (hts _ wk_X9)
  obtain ⟨c10, i10, hK10⟩ := u_known (C := RX10) (T := TX10) (N := 2) (n := 2) hts uw_X10 (hts _ wk_X10)
  obtain ⟨c11, i11, hK11⟩ := u_known (C := RX11) (T := TX11) (N := 16) (n := 16) hts uw_X11 (hts _ wk_X11)
  obtain ⟨c12, i12, hK12⟩ := u_known (C := RX12) (T := TX12) (N := 51) (n := 51) hts uw_X12 (hts _ wk_X12)
  refine ⟨fun k => if k = 0 then c0 else if k = 1 then c1 else if k = 2 then c2 else if k = 3 then c3 else if k = 4 then c4 else if k = 5 then c5 else if k = 6 then c6 else if k = 7 then c7 else if k = 8 then c8 else if k = 9 then c9 else if k = 10 then c10 else if k = 11 then c11 else c12, fun k => if k = 0 then i0 else if k = 1 then i1 else if k = 2 then i2 else if k = 3 then i3 else if k = 4 then i4 else if k = 5 then i5 else if k = 6 then i6 else if k = 7 then i7 else if k = 8 then i8 else if k = 9 then i9 else if k = 10 then i10 else if k = 11 then i11 else i12, ?_⟩
  intro k q hq
  match k, hq with
    | 0, hq => cases hq; exact hK0
    | 1, hq => cases hq; exact hK1
    | 2, hq => cases hq; exact hK2
    | 3, hq => cases hq; exact hK3
    | 4, hq => cases hq; exact hK4
    | 5, hq => cases hq; exact hK5
    | 6, hq => cases hq; exact hK6
    | 7, hq => cases hq; exact hK7
    | 8, hq => cases hq; exact hK8
    | 9, hq => cases hq; exact hK9
    | 10, hq => cases hq; exact hK10
    | 11, hq => cases hq; exact hK11
    | 12, hq => cases hq; exact hK12
    | k + 13, hq => simp [vwCl] at hq
/-- the law's entry, over the pure layer -/
abbrev g_start (E : g_E) (l : Launch) (D : g_D) : Prop := g_G E l m_L_law 2048 600000 7302250 0 0 0 [some (g_F 0), none, none, none] [] [] D g_RL
set_option maxHeartbeats 4000000 in
theorem whole_of (l : Launch) (hpure : ∀ (E : g_E), E.2.2.2.2.1 ≤ 3072 → g_start E l (fun _ _ => 0)) {p : Program} {e : Env} {s : State} {m : MethodId} {below : List Frame} {meth : Method} {c : Code} {b L : Nat} {xs : Nat → Int32} (hL : L ≤ 3072) (C0 : lw_At p s m meth c b L xs) : W p l e room_1 s m #[Value.ref b] below meth c s.heap [] 0 0 (lw_Z below #[Value.ref b] s) (entryFrame m ([Value.ref b] : List Value).toArray 4) := by
  obtain ⟨hx, hb, hr, hml, hown, htsA, hX, hbl, hlocks, hnm, hgv⟩ := id C0
  have hts : ∀ w ∈ g_t, w.before #[Value.ref b] s = true := fun w hw => htsA w (List.mem_filter.mp hw).1
  obtain ⟨dC, dI, hKc⟩ := g_classes hts
  obtain ⟨cI, kI, compI, i1, i2, i3⟩ := Cond.arrayClass_spec (hts _ wa_0)
  obtain ⟨cZ, kZ, compZ, z1, z2, z3⟩ := Cond.arrayClass_spec (hts _ wa_1)
  obtain ⟨compS, cS, kS, s1, -, s2, s3, s4⟩ := Cond.arrayOver_spec (htsA _ wn_X8)
  obtain ⟨compD, cD, kD, d1, -, d2, d3, d4⟩ := Cond.arrayOver_spec (htsA _ wn_X2)
  obtain ⟨t1, hT1, hZ1⟩ := g_st1 htsA hgv
  obtain ⟨t2, hT2, hZ2⟩ := g_st2 htsA hgv
  obtain ⟨t3, hT3, hZ3⟩ := g_st3 htsA hgv
  let E : g_E := (dC, dI, (fun k => if k = 0 then cI else if k = 1 then cZ else if k = 2 then cS else cD), (fun k => if k = 0 then b else if k = 1 then t1 else if k = 2 then t2 else t3), L, xs)
  have hT0 : va_T .int b L (fun j => .int (Int32.ofInt (xs j).toInt)) (fun q => s.heap.size ≤ q) s s.heap := by
    obtain ⟨scr, q1, q2, q3, q4, q5⟩ := hX
    refine ⟨scr, q1, q2, q3, Nat.le_of_eq q4.symm, by rw [q4] <;> rfl, fun j hj => ?_, Nat.not_le.mpr hbl⟩
    dsimp only
    rw [q5 j hj, Int32.ofInt_toInt]
  have hfor : g_for E (fun q => s.heap.size ≤ q) s s.heap := by
    refine ⟨fun k hk => ?_, hZ1, hZ2, hZ3⟩
    match k, hk with
    | 0, _ => exact hT0
    | 1, _ => exact hT1
    | 2, _ => exact hT2
    | 3, _ => exact hT3
    | k + 4, h => omega
  have hK : va_K (E.1, E.2.1) vwCl (g_tys E) s := by
    refine ⟨hKc, fun k q hq => ?_⟩
    match k, hq with
    | 0, hq => cases hq; exact ⟨fun n z => ⟨fun k h => (by cases h), kI, i2, compI, i3⟩, i1⟩
    | 1, hq => cases hq; exact ⟨fun n z => ⟨fun k h => (by cases h), kZ, z2, compZ, z3⟩, z1⟩
    | 2, hq => cases hq; exact ⟨fun n z => ⟨fun k h => (by cases h), kS, s2, compS, s3⟩, kS, compS, s2, s3, s1, s4⟩
    | 3, hq => cases hq; exact ⟨fun n z => ⟨fun k h => (by cases h), kD, d2, compD, d3⟩, kD, compD, d2, d3, d1, d4⟩
    | k + 4, hq => simp [g_tys] at hq
  have henv : g_env E s := ⟨hK, g_nl_ok htsA, va_Nw.of rfl (htsA _ wn_f), va_AO.of (htsA _ wn_X8), va_AO.of (htsA _ wn_X2)⟩
  have hXX : g_X E m_L_law p s m #[Value.ref b] meth c (fun q => s.heap.size ≤ q) := ⟨hx, hb, hr, hml, hown, hts, hlocks, hnm, fun q h => h, henv, hfor⟩
  have hl := lv_entry ([.ref b]) (n := 4) (Nat.le_of_ble_eq_true rfl)
  rw [lg_entry_eq]
  generalize (lg_sl ([.ref b]) ++ List.replicate (4 - (lg_sl ([.ref b])).length) Slot.unset).toArray = ls at hl ⊢
  have hl' : g_lh E ls 4 (fun _ => 0) [some (g_F 0), none, none, none] := ⟨hl.1, hl.2.1, fun i v hi => by
    match i, hi with
    | 0, hi => cases hi; exact hl.2.2 (0, .ref b) List.mem_cons_self
    | 1, hi => cases hi
    | 2, hi => cases hi
    | 3, hi => cases hi
    | i + 4, hi => simp at hi⟩
  have hok : g_ok [] (fun _ _ => 0) [some (g_F 0), none, none, none] [] := by
    refine ⟨fun k e h => by simp at h, fun _ _ => g_r0, fun i v hi => ?_, fun v hv => by simp at hv⟩
    match i, hi with
    | 0, hi => cases hi; exact (by decide : (0 : Nat) < 4)
    | 1, hi => cases hi
    | 2, hi => cases hi
    | 3, hi => cases hi
    | i + 4, hi => simp at hi
  have key := hpure E hL hok p e s m #[Value.ref b] below meth c (fun q => s.heap.size ≤ q) (fun _ => 0) 0 s.heap [] ls (fun _ => 0) hXX (Nat.le_refl _) (fun k h => absurd h (Nat.not_lt_zero k)) (fun k q h => by simp [g_cw] at h) ⟨fun i j p q h => by simp [g_cw] at h, fun k q h => by simp [g_cw] at h⟩ va_S.rf hl'
  intro T hT X
  obtain ⟨t, a1, o, b1, b2, ⟨⟨r, a', sh', D', hv, hR, -⟩, -⟩, L', ⟨hv2, hW2, hF2⟩, hL'⟩ := key T hT X
  refine ⟨t, a1, o, b1, b2, ?_, hv2, hW2, g_drop hF2 hL'⟩
  rw [hv, show r = some (g_I 1) from hR]
  rfl
set_option maxHeartbeats 4000000 in
set_option maxRecDepth 100000 in
theorem law_begin {E : g_E} {l : Launch} {D : g_D} (hF : ∀ D1, D1 = g_row D 0 (fun _ => 0) → kc_X11 E l [] D1 (fun D2 => ∀ D3, D3 = g_row D2 208 (fun _ => 0) → kc_X12 E l (cl_X11 0) D3 (fun D4 => n_L_law E l 242 46945 D4 18 [some (g_F 0), some (g_R 0), some (g_R 208), some (g_I 0)]))) : g_start E l D := by
  have hF := hF _ rfl
  show g_G E l m_L_law 2048 600000 7302250 0 0 0 [some (g_F 0), none, none, none] [] ([] ++ []) D g_RL
  refine gc_new (k := 0) (c' := [.inr (.inr (11, [some none, some none, some none, some none, some none, some none, some none, some none, some none, some none, some none, some none, some none, none, none, none]))]) dL_law_0 nd_L_7 (Nat.le_of_ble_eq_true rfl) (Nat.le_of_ble_eq_true rfl) rfl rfl ?_
  refine g_dup dL_law_3 rfl ?_
  refine gc_callI (k := 0) (As := []) (rest := [g_R 0]) (c1 := []) (c' := cl_X11 0) (cl := cl_X11) dL_law_4 mi_L_9 rfl rfl rfl (Nat.le_of_ble_eq_true rfl) (by decide) (Nat.le_of_ble_eq_true rfl) (Nat.le_of_ble_eq_true rfl) rfl rfl rfl rfl hF ?_
  intro D2 hF
  have hF := hF _ rfl
  refine g_astore_n dL_law_7 (by decide) ?_
  show g_G E l m_L_law 2048 600000 7302250 _ _ 8 [some (g_F 0), some (g_R 0), none, none] [] (cl_X11 0) D2 g_RL
  rw [show cl_X11 0 = cl_X11 0 ++ [] from (List.append_nil _).symm]
  refine gc_new (k := 0) (c' := [.inr (.inr (12, [none, some none, some none, some none, some none, none, some none, some none, some none, some none, some none, some none, some none, some none, none, some none, some none, some none, some none, some none, some none, some none, some none, some none, some none, some none, none, none, none, none, none, some none, some none, some none, none, none, none, none, none, none, none, none, some none, some none, some none, some none, none, some none, some none, some none, none]))]) dL_law_8 nd_L_10 (Nat.le_of_ble_eq_true rfl) (Nat.le_of_ble_eq_true rfl) rfl rfl ?_
  refine g_dup dL_law_11 rfl ?_
  have e208 : (cl_X11 0).length + 0 = 208 := g_len11
  have hF' : kc_X12 E l (cl_X11 0 ++ []) (g_row D2 ((cl_X11 0).length + 0) (fun _ => 0)) (fun D4 => n_L_law E l 242 46945 D4 18 [some (g_F 0), some (g_R 0), some (g_R 208), some (g_I 0)]) := by
    rw [List.append_nil, e208]; exact hF
  refine gc_callI (k := 0) (As := []) (rest := [g_R ((cl_X11 0).length + 0)]) (c1 := []) (c' := cl_X12 208) (cl := cl_X12) dL_law_12 mi_L_12 rfl rfl rfl (Nat.le_of_ble_eq_true rfl) (by decide) (Nat.le_of_ble_eq_true rfl) (Nat.le_of_ble_eq_true rfl) rfl rfl (by rw [e208]; rfl) rfl hF' ?_
  intro D4 hF
  rw [e208, g_SHeq]
  refine g_astore_n dL_law_15 (by decide) ?_
  refine g_iconst dL_law_16 ⟨by decide, by decide⟩ ?_
  refine g_istore_n dL_law_17 (by decide) ?_
  exact hF
