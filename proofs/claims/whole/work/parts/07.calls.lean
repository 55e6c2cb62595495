section GC
variable {E : g_E} {l : Launch} {M : g_Md} {d mc ms nc ns pc : Nat} {L : List (Option g_V)} {S : List g_V} {sh : List g_Sh} {D : g_D} {R : g_Ro} {v w : g_V}
theorem g_okr (o : g_ok sh D L S) {r : Option g_V} (h : ∀ v ∈ r, g_okV sh.length v) : g_ok sh D [] r.toList := ⟨o.1, o.2.1, fun i v hi => by simp at hi, fun v hv => h v (by simpa using hv)⟩
/-- the end of a method, for every kind of return -/
theorem g_end {p : Program} {s : State} {m : MethodId} {args : Array Value} {meth : Method} {c : Code} {A : Nat → Prop} {a0 a : Nat → Nat} {n0 : Nat} {H : Heap} {locs : List Loc} (X : g_X E M p s m args meth c A) (h1 : n0 ≤ sh.length) (h2 : ∀ k, k < n0 → a k = a0 k) (hP : va_P (E.1, E.2.1) vwCl (g_cw E a sh D) H) (hD : va_D A (g_cw E a sh D)) (hS : va_S A s.heap H locs) (o : g_ok sh D L S) {r : Option g_V} (hr : ∀ v ∈ r, g_okV sh.length v) (hR : R r sh D) :
    ∀ t : State, t.heap = H → s.WarmedH t.vm → g_Qc E R a0 n0 A args s (.returned (r.map (g_cv E a))) t := by
  intro t ht hW
  refine ⟨⟨r, a, sh, D, rfl, hR, g_okr o hr, h1, h2, by rw [ht]; exact hP, hD, X.2.2.2.2.2.2.2.2.2.1.warm hW, ?_⟩, hS.F ht⟩
  rw [ht]
  exact (X.2.2.2.2.2.2.2.2.2.2.kept hS.2.1).moved hW.alike
theorem g_iret {x : Int} (hd : decode M.2.1 pc = .ok (.ireturn, 1)) (hr : M.2.2.2 = some .int) (hc : nc ≤ mc) (hs : ns ≤ ms) (k : R (some (g_I x)) sh D) : g_G E l M d mc ms nc ns pc L [g_I x] sh D R :=
  fun ok p e s m args below meth c A a0 n0 H locs ls a X h1 h2 hP hD hS hl => W.widen hc hs (W.iret X.1 X.2.1 (X.2.2.1.trans hr) (g_end X h1 h2 hP hD hS ok (r := some (g_I x)) (fun v hv => by cases hv; exact ok.top) k) hS.2.2 hd X.2.2.2.2.2.2.1)
theorem g_zret {x : Int} (hd : decode M.2.1 pc = .ok (.ireturn, 1)) (hr : M.2.2.2 = some .boolean) (h01 : x = 0 ∨ x = 1) (hc : nc ≤ mc) (hs : ns ≤ ms) (k : R (some (g_I x)) sh D) : g_G E l M d mc ms nc ns pc L [g_I x] sh D R :=
  fun ok p e s m args below meth c A a0 n0 H locs ls a X h1 h2 hP hD hS hl => W.widen hc hs (W.zret X.1 X.2.1 (X.2.2.1.trans hr) (g_nb h01).1 (g_end X h1 h2 hP hD hS ok (r := some (g_I x)) (fun v hv => by cases hv; exact ok.top) k) hS.2.2 hd X.2.2.2.2.2.2.1)
theorem g_lret {x : Int} (hd : decode M.2.1 pc = .ok (.lreturn, 1)) (hr : M.2.2.2 = some .long) (hc : nc ≤ mc) (hs : ns ≤ ms) (k : R (some (g_J x)) sh D) : g_G E l M d mc ms nc ns pc L [g_J x] sh D R :=
  fun ok p e s m args below meth c A a0 n0 H locs ls a X h1 h2 hP hD hS hl => W.widen hc hs (W.lret X.1 X.2.1 (X.2.2.1.trans hr) (g_end X h1 h2 hP hD hS ok (r := some (g_J x)) (fun v hv => by cases hv; exact ok.top) k) hS.2.2 hd X.2.2.2.2.2.2.1)
theorem g_vret (hd : decode M.2.1 pc = .ok (.return_, 1)) (hr : M.2.2.2 = none) (hc : nc ≤ mc) (hs : ns ≤ ms) (k : R none sh D) : g_G E l M d mc ms nc ns pc L [] sh D R :=
  fun ok p e s m args below meth c A a0 n0 H locs ls a X h1 h2 hP hD hS hl => W.widen hc hs (W.vret X.1 X.2.1 (X.2.2.1.trans hr) (g_end X h1 h2 hP hD hS ok (r := none) (fun v hv => by cases hv) k) hS.2.2 hd X.2.2.2.2.2.2.1)
/-- from the body to the contract -/
def g_ent (n : Nat) (vs : List g_V) : List (Option g_V) := g_la vs ++ List.replicate (n - (g_la vs).length) none
theorem g_la_at {n : Nat} {a : Nat → Nat} : ∀ (vs : List g_V) (i b : Nat) (v : g_V), (g_la vs)[i]? = some (some v) → (b + i, g_cv E a v) ∈ lv_args b (vs.map (g_cv E a)) ∧ (g_okS n vs → g_okV n v) := by
  intro vs
  induction vs with
  | nil => intro i b v h; simp [g_la] at h
  | cons u vs ih =>
    intro i b v h
    have key1 : ∀ (hu : g_la (u :: vs) = some u :: g_la vs) (hcat : ¬ (g_cv E a u).category = 2), (b + i, g_cv E a v) ∈ lv_args b ((u :: vs).map (g_cv E a)) ∧ (g_okS n (u :: vs) → g_okV n v) := by
      intro hu hcat
      rw [hu] at h
      simp only [List.map_cons, lv_args, if_neg hcat]
      cases i with
      | zero => simp at h; subst h; exact ⟨by simp, fun q => q u List.mem_cons_self⟩
      | succ i =>
        simp at h
        obtain ⟨h1, h2⟩ := ih i (b + 1) v h
        exact ⟨List.mem_cons_of_mem _ (by rw [show b + (i + 1) = b + 1 + i by omega]; exact h1), fun q => h2 (fun x hx => q x (List.mem_cons_of_mem _ hx))⟩
    match u, h, key1 with
    | .inl x, h, key1 => exact key1 rfl (by simp [g_cv, Value.category])
    | .inr (.inr (.inl x)), h, key1 => exact key1 rfl (by simp [g_cv, Value.category])
    | .inr (.inr (.inr (some x))), h, key1 => exact key1 rfl (by simp [g_cv, Value.category])
    | .inr (.inr (.inr none)), h, key1 => exact key1 rfl (by simp [g_cv, Value.category])
    | .inr (.inl x), h, key1 =>
      have hcat : (g_cv E a (.inr (.inl x))).category = 2 := rfl
      simp only [g_la] at h
      simp only [List.map_cons, lv_args, if_pos hcat]
      match i, h with
      | 0, h => simp at h; subst h; exact ⟨by simp, fun q => q _ List.mem_cons_self⟩
      | 1, h => simp at h
      | i + 2, h =>
        simp at h
        obtain ⟨h1, h2⟩ := ih i (b + 2) v h
        exact ⟨List.mem_cons_of_mem _ (by rw [show b + (i + 2) = b + 2 + i by omega]; exact h1), fun q => h2 (fun x hx => q x (List.mem_cons_of_mem _ hx))⟩
theorem g_ent_at {n : Nat} {vs : List g_V} {i : Nat} {v : g_V} (h : (g_ent n vs)[i]? = some (some v)) : (g_la vs)[i]? = some (some v) := by
  unfold g_ent at h
  by_cases hi : i < (g_la vs).length
  · rwa [List.getElem?_append_left hi] at h
  · rw [List.getElem?_append_right (by omega), List.getElem?_replicate] at h
    split at h <;> simp at h
theorem g_la_len {a : Nat → Nat} : ∀ vs : List g_V, (lg_sl (vs.map (g_cv E a))).length = (g_la vs).length := by
  intro vs
  induction vs with
  | nil => rfl
  | cons u vs ih =>
    simp only [lg_sl, List.map_cons, List.flatMap_cons, List.length_append] at ih ⊢
    rw [ih]
    match u with
    | .inl x => simp [g_cv, Value.category, g_la]; omega
    | .inr (.inr (.inl x)) => simp [g_cv, Value.category, g_la]; omega
    | .inr (.inr (.inr (some x))) => simp [g_cv, Value.category, g_la]; omega
    | .inr (.inr (.inr none)) => simp [g_cv, Value.category, g_la]; omega
    | .inr (.inl x) => simp [g_cv, Value.category, g_la]; omega
theorem g_enter {args : List g_V} (hy : plainName M.1.cls = true) (hlen : (g_la args).length ≤ M.2.2.1) (k : g_G E l M d mc ms 0 0 0 (g_ent M.2.2.1 args) [] sh D R) : g_M E l M d mc ms args sh D R := by
  intro ok a sz
  refine Met.ofW (cc := M.2.1) (maxL := M.2.2.1) (ret := M.2.2.2) hy rfl ?_
  intro p e s m args' below meth c s₁ B hml hv
  obtain ⟨rfl, hsz, hP, hD0, hE, hF⟩ := hv
  subst hsz
  have hts := atoms_spec (ws := g_w M) B.pre
  have hD := hD0.self (sz := s.heap.size)
  have hl := lv_entry (args.map (g_cv E a)) (n := M.2.2.1) (by rw [g_la_len]; exact hlen)
  rw [lg_entry_eq]
  have ok' : g_ok sh D (g_ent M.2.2.1 args) [] := ⟨ok.1, ok.2.1, fun i v hi => (g_la_at (E := E) (a := a) args i 0 v (g_ent_at hi)).2 ok.2.2.2, fun v hv => by cases hv⟩
  refine k ok' p e s m _ below meth c (va_A (g_cw E a sh D) s.heap.size) a sh.length s.heap [] _ a ⟨B.exec, B.bytes, B.returns, hml, findClass_of_methodNamed B.named, fun w hw => hts w (List.mem_cons_of_mem _ hw), B.notSynchronized, (name_of_methodNamed B.named B.method).1, fun q h => Or.inr h, hE, hF⟩ (Nat.le_refl _) (fun _ _ => rfl) hP hD va_S.rf ⟨hl.1, hl.2.1, fun i v hi => ?_⟩
  have h1 := (g_la_at (E := E) (n := sh.length) (a := a) args i 0 v (g_ent_at hi)).1
  rw [Nat.zero_add] at h1
  exact hl.2.2 _ h1
/-- what a call leaves: the caller goes on -/
theorem g_after {mc' ms' : Nat} {R' : g_Ro} {rest : List g_V} {pre : List Value}
    {p : Program} {e : Env} {s : State} {m : MethodId} {args a2 : Array Value} {below : List Frame} {meth : Method} {c : Code} {A : Nat → Prop} {a0 : Nat → Nat} {n0 : Nat} {H : Heap} {locs : List Loc} {ls : Array Slot} {a : Nat → Nat}
    (ok : g_ok sh D L rest) (X : g_X E M p s m args meth c A) (h1 : n0 ≤ sh.length) (h2 : ∀ k, k < n0 → a k = a0 k) (hD : va_D A (g_cw E a sh D)) (hS : va_S A s.heap H locs) (hl : g_lh E ls M.2.2.1 a L)
    (hr : va_Run p l e (g_rm d mc ms) s m args below meth c H locs nc ns mc' ms' (F0 m pc ls pre) (rest.map (g_cv E a)) (g_Qc E R' a sh.length (va_A (g_cw E a sh D) H.size) a2) (va_A (g_cw E a sh D) H.size))
    (k : ∀ (r : Option g_V) (sh' : List g_Sh) (D' : g_D), sh.length ≤ sh'.length → R' r sh' D' → g_G E l M d mc ms (nc + mc') (ns + ms') (pc + 3) L (r.toList ++ rest) sh' D' R) :
    W p l e (g_rm d mc ms) s m args below meth c H locs nc ns (MQ below (g_Qc E R a0 n0 A) args s mc ms A) (F0 m pc ls pre) := by
  intro T hT XX
  obtain ⟨v, st₀, t, T', L', e0, X', hL, e1, e2, ⟨⟨r, a', sh', D', hv, hR, okr, hn, ha, hP1, hD1, hE1, hF1⟩, hz, hk⟩, st⟩ := hr T hT XX
  rw [e0] at hz hk
  have hAA : ∀ q, va_A (g_cw E a sh D) H.size q → A q := by
    rintro q (⟨i, x, hi⟩ | h)
    · exact hD.2 i _ hi
    · exact X.2.2.2.2.2.2.2.2.1 q (Nat.le_trans hS.1 h)
  have hS' : va_S A s.heap T'.heap (locs ++ L') := ⟨Nat.le_trans hS.1 (by rw [e1]; exact hz), fun q q1 q2 => by rw [e1, hk q (Nat.lt_of_lt_of_le q1 hS.1) (fun z => q2 (hAA q z))]; exact hS.2.1 q q1 q2, fun q hq => by
      rcases List.mem_append.mp hq with h | h
      · exact hS.2.2 q h
      · exact hAA _ (hL q h)⟩
  have okn : g_ok sh' D' L (r.toList ++ rest) := ⟨okr.1, okr.2.1, fun i x hi => (ok.2.2.1 i x hi).mono hn, fun x hx => by
    rcases List.mem_append.mp hx with h | h
    · exact okr.2.2.2 x h
    · exact (ok.2.2.2 x h).mono hn⟩
  have ev : v.toList ++ rest.map (g_cv E a) = (r.toList ++ rest).map (g_cv E a') := by
    have : v = r.map (g_cv E a') := by cases hv; rfl
    subst this
    rw [List.map_append, g_map_eq ha ok.2.2.2]
    cases r <;> rfl
  have kk := k r sh' D' hn hR okn p e s m args below meth c A a0 n0 T'.heap (locs ++ L') ls a' X (Nat.le_trans h1 hn) (fun i hi => (ha i (Nat.lt_of_lt_of_le hi h1)).trans (h2 i hi)) (by rw [e1]; exact hP1) (hD1.weaken (fun _ _ _ q => hAA _ q)) hS' (hl.re ok.2.2.1 ha)
  rw [← ev] at kk
  obtain ⟨t2, a1, b1⟩ := kk T' rfl X'
  exact ⟨t2, st t2 a1, b1⟩
theorem g_goodw {M' : g_Md} (h : Cond.code M'.1 M'.2.1 M'.2.2.1 M'.2.2.2 ∈ g_t) : GoodIn g_t (g_w M') := by
  intro x hx
  rcases List.mem_cons.mp hx with rfl | hx
  · exact ⟨h, good_of_word (g_good h)⟩
  · exact ⟨hx, good_of_word (g_good hx)⟩
/-- what the callee finds -/
theorem g_pre {p : Program} {s : State} {m : MethodId} {args : Array Value} {meth : Method} {c : Code} {A : Nat → Prop} {H : Heap} {locs : List Loc} {a : Nat → Nat} {vs : List g_V} (X : g_X E M p s m args meth c A) (hP : va_P (E.1, E.2.1) vwCl (g_cw E a sh D) H) (hD : va_D A (g_cw E a sh D)) (hS : va_S A s.heap H locs) :
    FrameBlind (g_Pc E vs sh D a H.size) ∧ ∀ U : State, U.heap = H → s.WarmedH U.vm → g_Pc E vs sh D a H.size (vs.map (g_cv E a)).toArray U := by
  refine ⟨?_, ?_⟩
  · intro x U g mk q
    obtain ⟨q0, q1, q2, q3, q4, q5⟩ := q
    refine ⟨q0, q1, q2, q3, ?_, ?_⟩
    · exact ⟨va_K.moved (u := U) (U := U.calling g mk x) (Vm.Alike.refl U.vm) q4.1, fun y hy => va_Nw.same (u := U) (by rfl) rfl (q4.2.1 y hy), va_Nw.same (u := U) (by rfl) rfl q4.2.2.1, va_AO.moved (u := U) (Vm.Alike.refl U.vm) q4.2.2.2.1, va_AO.moved (u := U) (Vm.Alike.refl U.vm) q4.2.2.2.2⟩
    · exact g_for.moved (u := U) (Vm.Alike.refl U.vm) q5
  · intro U hU hW
    refine ⟨rfl, by rw [hU], by rw [hU]; exact hP, hD.weaken (fun _ _ _ _ => trivial), X.2.2.2.2.2.2.2.2.2.1.warm hW, ?_⟩
    rw [hU]
    have h1 := (X.2.2.2.2.2.2.2.2.2.2.kept hS.2.1).moved hW.alike
    refine h1.narrow (fun q hq h => ?_)
    rcases h with ⟨i, x, hi⟩ | h
    · exact hD.2 i _ hi
    · omega
/-- the static facts of a call -/
def g_md (own : String) (idx n : Nat) (M' : g_Md) : Prop := Cond.methodLink own idx M'.1 ∈ g_t ∧ Cond.initialized M'.1.cls ∈ g_t ∧ Cond.code M'.1 M'.2.1 M'.2.2.1 M'.2.2.2 ∈ g_t ∧ (M'.1.cls ≠ "java/lang/invoke/MethodHandle" ∧ M'.1.cls ≠ "java/lang/invoke/VarHandle" ∧ (parseMethodDescriptor M'.1.desc).map (fun d => d.parameters.length) = some n) ∧ M'.2.2.1 ≤ 22
def g_sum (S : List g_V) : Nat := (S.map (fun v => if g_isJ (some (some v)) then 2 else 1)).sum
theorem g_sum_eq {a : Nat → Nat} : ∀ S : List g_V, ((S.map (g_cv E a)).map fun v => v.category).sum = g_sum S := by
  intro S
  unfold g_sum
  rw [List.map_map]
  congr 1
  apply List.map_congr_left
  intro v _
  match v with
  | .inl x => rfl
  | .inr (.inl x) => rfl
  | .inr (.inr (.inl x)) => rfl
  | .inr (.inr (.inr (some x))) => rfl
  | .inr (.inr (.inr none)) => rfl
theorem g_cb {p : Program} {s : State} {m : MethodId} {args : Array Value} {meth : Method} {c : Code} {A : Nat → Prop} {M' : g_Md} {idx n d' mc' ms' : Nat} (X : g_X E M p s m args meth c A) (hm : g_md M.1.cls idx n M') (hdd : d' + 1 ≤ d) : CallB (g_rm d mc ms) s args M.1.cls idx M'.1 M'.2.1 M'.2.2.1 M'.2.2.2 (g_w M') (g_rm d' mc' ms') mc' ms' n :=
  callB_of n X.2.2.2.2.2.1 (g_goodw hm.2.2.1) rfl rfl rfl (X.2.2.2.2.2.1 _ hm.2.1) (X.2.2.2.2.2.1 _ hm.1) hm.2.2.2.1 ⟨hdd, by show 8 + (M'.2.2.1 + 11) + (41 * d' + 32) ≤ 41 * d + 32; have := hm.2.2.2.2; omega⟩
/-- a call of an instance method -/
theorem g_callV {M' : g_Md} {idx ci b n d' mc' ms' : Nat} {fs : List (Option (Option Nat))} {q : vw_C} {R' : g_Ro} {As rest : List g_V} (hd : decode M.2.1 pc = .ok (.invokevirtual idx, 3)) (hm : g_md M.1.cls idx n M') (hi : Cond.instanceMethod M'.1 ∈ g_t) (hse : Cond.selects M'.1.cls M'.1 M'.1 ∈ g_t)
    (hc : vwCl[ci]? = some q) (hq : q.1 = M'.1.cls) (hs : sh[b]? = some (.inr (.inr (ci, fs)))) (hn : As.length = n) (hS8 : g_sum rest ≤ 8) (hdd : d' + 1 ≤ d) (hcc : nc + mc' ≤ mc) (hcs : ns + ms' ≤ ms)
    (hM : g_M E l M' d' mc' ms' (g_R b :: As) sh D R') (k : ∀ (r : Option g_V) (sh' : List g_Sh) (D' : g_D), sh.length ≤ sh'.length → R' r sh' D' → g_G E l M d mc ms (nc + mc') (ns + ms') (pc + 3) L (r.toList ++ rest) sh' D' R) : g_G E l M d mc ms nc ns pc L (As.reverse ++ g_R b :: rest) sh D R := by
  intro ok p e s m args below meth c A a0 n0 H locs ls a X h1 h2 hP hD hS hl
  have okc : g_ok sh D [] (g_R b :: As) := ⟨ok.1, ok.2.1, fun i v hi => by simp at hi, fun v hv => ok.2.2.2 v (by
    rcases List.mem_cons.mp hv with rfl | hv
    · simp
    · simp [hv])⟩
  have okr : g_ok sh D L rest := ⟨ok.1, ok.2.1, ok.2.2.1, fun v hv => ok.2.2.2 v (by simp [hv])⟩
  obtain ⟨hbl, hpr⟩ := g_pre (vs := g_R b :: As) X hP hD hS
  have hrun := va_runV (p := p) (l := l) (e := e) (R := g_rm d mc ms) (s := s) (m := m) (args := args) (below := below) (meth := meth) (c := c) (H := H) (locs := locs) (cells := nc) (slots := ns) (nL := M.2.2.1) (C := M'.1.cls) (b := a b) (As := As.map (g_cv E a)) (rest := rest.map (g_cv E a)) (g := F0 m pc ls ((As.reverse ++ g_R b :: rest).map (g_cv E a))) ⟨X.1, X.2.1, X.2.2.2.1, X.2.2.2.2.1, X.2.2.2.2.2.1⟩ (hM okc a H.size)
    ⟨g_cb X hm hdd, X.2.2.2.2.2.1 _ hi, X.2.2.2.2.2.1 _ hse⟩ ⟨hbl, hq ▸ va_recv X.2.2.2.2.2.2.2.2.2.1.1 hP hc (g_obj hs), hpr⟩ rfl (by rw [List.length_map]; exact hn) hl.1 (by show (As.reverse ++ g_R b :: rest).map (g_cv E a) = _; rw [List.map_append, List.map_reverse]; rfl) (by rw [g_sum_eq]; show 2 * 0 + _ ≤ 8; omega) hd ⟨hcc, hcs⟩
  exact g_after okr X h1 h2 hD hS hl hrun k
/-- a call of a static method -/
theorem g_callS {M' : g_Md} {idx n d' mc' ms' : Nat} {R' : g_Ro} {As rest : List g_V} (hd : decode M.2.1 pc = .ok (.invokestatic idx, 3)) (hm : g_md M.1.cls idx n M') (hi : Cond.static M'.1 ∈ g_t)
    (hn : As.length = n) (hS8 : g_sum rest ≤ 8) (hdd : d' + 1 ≤ d) (hcc : nc + mc' ≤ mc) (hcs : ns + ms' ≤ ms)
    (hM : g_M E l M' d' mc' ms' As sh D R') (k : ∀ (r : Option g_V) (sh' : List g_Sh) (D' : g_D), sh.length ≤ sh'.length → R' r sh' D' → g_G E l M d mc ms (nc + mc') (ns + ms') (pc + 3) L (r.toList ++ rest) sh' D' R) : g_G E l M d mc ms nc ns pc L (As.reverse ++ rest) sh D R := by
  intro ok p e s m args below meth c A a0 n0 H locs ls a X h1 h2 hP hD hS hl
  have okc : g_ok sh D [] As := ⟨ok.1, ok.2.1, fun i v hi => by simp at hi, fun v hv => ok.2.2.2 v (by simp [hv])⟩
  have okr : g_ok sh D L rest := ⟨ok.1, ok.2.1, ok.2.2.1, fun v hv => ok.2.2.2 v (by simp [hv])⟩
  obtain ⟨hbl, hpr⟩ := g_pre (vs := As) X hP hD hS
  have hrun := va_runS (p := p) (l := l) (e := e) (R := g_rm d mc ms) (s := s) (m := m) (args := args) (below := below) (meth := meth) (c := c) (H := H) (locs := locs) (cells := nc) (slots := ns) (nL := M.2.2.1) (As := As.map (g_cv E a)) (rest := rest.map (g_cv E a)) (g := F0 m pc ls ((As.reverse ++ rest).map (g_cv E a))) ⟨X.1, X.2.1, X.2.2.2.1, X.2.2.2.2.1, X.2.2.2.2.2.1⟩ (hM okc a H.size)
    ⟨g_cb X hm hdd, X.2.2.2.2.2.1 _ hi⟩ ⟨hbl, hpr⟩ rfl (by rw [List.length_map]; exact hn) hl.1 (by show (As.reverse ++ rest).map (g_cv E a) = _; rw [List.map_append, List.map_reverse]) (by rw [g_sum_eq]; show 2 * 0 + _ ≤ 8; omega) hd ⟨hcc, hcs⟩
  exact g_after okr X h1 h2 hD hS hl hrun k
end GC
