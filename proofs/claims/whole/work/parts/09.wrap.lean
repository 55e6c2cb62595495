/-! methods that make nothing: contracts by what they answer -/
def g_Rv (sh : List g_Sh) (K : g_D → Prop) : g_Ro := fun r sh' D' => r = none ∧ sh' = sh ∧ K D'
def g_Ri (sh : List g_Sh) (K : Int → g_D → Prop) : g_Ro := fun r sh' D' => ∃ x : Int, r = some (g_I x) ∧ g_r x ∧ sh' = sh ∧ K x D'
def g_Rl (sh : List g_Sh) (K : Int → g_D → Prop) : g_Ro := fun r sh' D' => ∃ x : Int, r = some (g_J x) ∧ g_r8 x ∧ sh' = sh ∧ K x D'
abbrev g_Kv (E : g_E) (l : Launch) (M : g_Md) (d : Nat) (args : List g_V) (sh : List g_Sh) (D : g_D) (K : g_D → Prop) : Prop := g_M E l M d 0 0 args sh D (g_Rv sh K)
abbrev g_Ki (E : g_E) (l : Launch) (M : g_Md) (d : Nat) (args : List g_V) (sh : List g_Sh) (D : g_D) (K : Int → g_D → Prop) : Prop := g_M E l M d 0 0 args sh D (g_Ri sh K)
abbrev g_Kl (E : g_E) (l : Launch) (M : g_Md) (d : Nat) (args : List g_V) (sh : List g_Sh) (D : g_D) (K : Int → g_D → Prop) : Prop := g_M E l M d 0 0 args sh D (g_Rl sh K)
abbrev g_N (E : g_E) (l : Launch) (M : g_Md) (d pc : Nat) (L : List (Option g_V)) (S : List g_V) (sh : List g_Sh) (D : g_D) (R : g_Ro) : Prop := g_G E l M d 0 0 0 0 pc L S sh D R
section GW
variable {E : g_E} {l : Launch} {M : g_Md} {d pc : Nat} {L L' : List (Option g_V)} {S : List g_V} {sh : List g_Sh} {D : g_D} {R : g_Ro} {v w : g_V}
theorem g_Kv.to {args : List g_V} {K K' : g_D → Prop} (h : g_Kv E l M d args sh D K) (k : ∀ D', K D' → K' D') : g_Kv E l M d args sh D K' := g_mono (fun r sh' D' ⟨h1, h2, h3⟩ => ⟨h1, h2, k D' h3⟩) h
theorem g_Ki.to {args : List g_V} {K K' : Int → g_D → Prop} (h : g_Ki E l M d args sh D K) (k : ∀ x D', g_r x → K x D' → K' x D') : g_Ki E l M d args sh D K' := g_mono (fun r sh' D' ⟨x, h1, h2, h3, h4⟩ => ⟨x, h1, h2, h3, k x D' h2 h4⟩) h
theorem g_Kl.to {args : List g_V} {K K' : Int → g_D → Prop} (h : g_Kl E l M d args sh D K) (k : ∀ x D', g_r8 x → K x D' → K' x D') : g_Kl E l M d args sh D K' := g_mono (fun r sh' D' ⟨x, h1, h2, h3, h4⟩ => ⟨x, h1, h2, h3, k x D' h2 h4⟩) h
theorem gw_istore_n {i : Fin 4} {x : Int} (hd : decode M.2.1 pc = .ok (.istore_n i, 1)) (hn : (i : Nat) < M.2.2.1) (hL : g_s1 L i (g_I x) = L') (k : g_N E l M d (pc + 1) L' S sh D R) : g_N E l M d pc L (g_I x :: S) sh D R := g_istore_n hd hn (hL ▸ k)
theorem gw_istore {i : Nat} {x : Int} (hd : decode M.2.1 pc = .ok (.istore i, 2)) (hn : i < M.2.2.1) (hL : g_s1 L i (g_I x) = L') (k : g_N E l M d (pc + 2) L' S sh D R) : g_N E l M d pc L (g_I x :: S) sh D R := g_istore hd hn (hL ▸ k)
theorem gw_lstore_n {i : Fin 4} {x : Int} (hd : decode M.2.1 pc = .ok (.lstore_n i, 1)) (hn : (i : Nat) + 1 < M.2.2.1) (hL : g_s2 L i (g_J x) = L') (k : g_N E l M d (pc + 1) L' S sh D R) : g_N E l M d pc L (g_J x :: S) sh D R := g_lstore_n hd hn (hL ▸ k)
theorem gw_lstore {i : Nat} {x : Int} (hd : decode M.2.1 pc = .ok (.lstore i, 2)) (hn : i + 1 < M.2.2.1) (hL : g_s2 L i (g_J x) = L') (k : g_N E l M d (pc + 2) L' S sh D R) : g_N E l M d pc L (g_J x :: S) sh D R := g_lstore hd hn (hL ▸ k)
theorem gw_astore_n {i : Fin 4} {x : Nat} (hd : decode M.2.1 pc = .ok (.astore_n i, 1)) (hn : (i : Nat) < M.2.2.1) (hL : g_s1 L i (g_R x) = L') (k : g_N E l M d (pc + 1) L' S sh D R) : g_N E l M d pc L (g_R x :: S) sh D R := g_astore_n hd hn (hL ▸ k)
theorem gw_iinc {i : Nat} {n x : Int} (hd : decode M.2.1 pc = .ok (.iinc i n, 3)) (hl0 : L[i]? = some (some (g_I x))) (hr : g_r (x + n)) (hn : i < M.2.2.1) (hL : g_s1 L i (g_I (x + n)) = L') (k : g_N E l M d (pc + 3) L' S sh D R) : g_N E l M d pc L S sh D R := g_iinc hd hl0 hr hn (hL ▸ k)
theorem gw_vret {K : g_D → Prop} (hd : decode M.2.1 pc = .ok (.return_, 1)) (hr : M.2.2.2 = none) (k : K D) : g_N E l M d pc L [] sh D (g_Rv sh K) := g_vret hd hr (Nat.le_refl _) (Nat.le_refl _) ⟨rfl, rfl, k⟩
theorem gw_iret {K : Int → g_D → Prop} {x : Int} (hd : decode M.2.1 pc = .ok (.ireturn, 1)) (hr : M.2.2.2 = some .int) (k : K x D) : g_N E l M d pc L [g_I x] sh D (g_Ri sh K) := g_use fun ok => g_iret hd hr (Nat.le_refl _) (Nat.le_refl _) ⟨x, rfl, ok.top, rfl, k⟩
theorem gw_zret {K : Int → g_D → Prop} {x : Int} (hd : decode M.2.1 pc = .ok (.ireturn, 1)) (hr : M.2.2.2 = some .boolean) (h01 : x = 0 ∨ x = 1) (k : K x D) : g_N E l M d pc L [g_I x] sh D (g_Ri sh K) := g_use fun ok => g_zret hd hr h01 (Nat.le_refl _) (Nat.le_refl _) ⟨x, rfl, ok.top, rfl, k⟩
theorem gw_lret {K : Int → g_D → Prop} {x : Int} (hd : decode M.2.1 pc = .ok (.lreturn, 1)) (hr : M.2.2.2 = some .long) (k : K x D) : g_N E l M d pc L [g_J x] sh D (g_Rl sh K) := g_use fun ok => g_lret hd hr (Nat.le_refl _) (Nat.le_refl _) ⟨x, rfl, ok.top, rfl, k⟩
/-- the static facts of a call of an instance method -/
def g_mv (own : String) (idx n ci : Nat) (M' : g_Md) : Prop := g_md own idx n M' ∧ Cond.instanceMethod M'.1 ∈ g_t ∧ Cond.selects M'.1.cls M'.1 M'.1 ∈ g_t ∧ ∃ q, vwCl[ci]? = some q ∧ q.1 = M'.1.cls
def g_msn (own : String) (idx n : Nat) (M' : g_Md) : Prop := (own, idx, M'.1) ∈ g_nl ∧ Cond.initialized M'.1.cls ∈ g_t ∧ Cond.code M'.1 M'.2.1 M'.2.2.1 M'.2.2.2 ∈ g_t ∧ (M'.1.cls ≠ "java/lang/invoke/MethodHandle" ∧ M'.1.cls ≠ "java/lang/invoke/VarHandle" ∧ (parseMethodDescriptor M'.1.desc).map (fun d => d.parameters.length) = some n) ∧ M'.2.2.1 ≤ 22 ∧ Cond.static M'.1 ∈ g_t
variable {M' : g_Md} {idx n ci b d' : Nat} {fs : List (Option (Option Nat))} {As rest : List g_V} {St : List g_V}
theorem gw_cVv {K : g_D → Prop} (hd : decode M.2.1 pc = .ok (.invokevirtual idx, 3)) (hm : g_mv M.1.cls idx n ci M') (hs : sh[b]? = some (.inr (.inr (ci, fs)))) (hn : As.length = n) (hS8 : g_sum rest ≤ 8) (hdd : d' + 1 ≤ d) (hSt : As.reverse ++ g_R b :: rest = St) (hM : g_Kv E l M' d' (g_R b :: As) sh D K) (k : ∀ D', K D' → g_N E l M d (pc + 3) L rest sh D' R) : g_N E l M d pc L St sh D R := by
  subst hSt
  obtain ⟨h1, h2, h3, q, h4, h5⟩ := hm
  refine g_callV hd h1 h2 h3 h4 h5 hs hn hS8 hdd (Nat.le_refl _) (Nat.le_refl _) hM ?_
  rintro r sh' D' - ⟨rfl, rfl, hK⟩
  exact k D' hK
theorem gw_cVi {K : Int → g_D → Prop} (hd : decode M.2.1 pc = .ok (.invokevirtual idx, 3)) (hm : g_mv M.1.cls idx n ci M') (hs : sh[b]? = some (.inr (.inr (ci, fs)))) (hn : As.length = n) (hS8 : g_sum rest ≤ 8) (hdd : d' + 1 ≤ d) (hSt : As.reverse ++ g_R b :: rest = St) (hM : g_Ki E l M' d' (g_R b :: As) sh D K) (k : ∀ x D', g_r x → K x D' → g_N E l M d (pc + 3) L (g_I x :: rest) sh D' R) : g_N E l M d pc L St sh D R := by
  subst hSt
  obtain ⟨h1, h2, h3, q, h4, h5⟩ := hm
  refine g_callV hd h1 h2 h3 h4 h5 hs hn hS8 hdd (Nat.le_refl _) (Nat.le_refl _) hM ?_
  rintro r sh' D' - ⟨x, rfl, hx, rfl, hK⟩
  exact k x D' hx hK
theorem gw_cVl {K : Int → g_D → Prop} (hd : decode M.2.1 pc = .ok (.invokevirtual idx, 3)) (hm : g_mv M.1.cls idx n ci M') (hs : sh[b]? = some (.inr (.inr (ci, fs)))) (hn : As.length = n) (hS8 : g_sum rest ≤ 8) (hdd : d' + 1 ≤ d) (hSt : As.reverse ++ g_R b :: rest = St) (hM : g_Kl E l M' d' (g_R b :: As) sh D K) (k : ∀ x D', g_r8 x → K x D' → g_N E l M d (pc + 3) L (g_J x :: rest) sh D' R) : g_N E l M d pc L St sh D R := by
  subst hSt
  obtain ⟨h1, h2, h3, q, h4, h5⟩ := hm
  refine g_callV hd h1 h2 h3 h4 h5 hs hn hS8 hdd (Nat.le_refl _) (Nat.le_refl _) hM ?_
  rintro r sh' D' - ⟨x, rfl, hx, rfl, hK⟩
  exact k x D' hx hK
theorem gw_cSv {K : g_D → Prop} (hd : decode M.2.1 pc = .ok (.invokestatic idx, 3)) (hm : g_md M.1.cls idx n M' ∧ Cond.static M'.1 ∈ g_t) (hn : As.length = n) (hS8 : g_sum rest ≤ 8) (hdd : d' + 1 ≤ d) (hSt : As.reverse ++ rest = St) (hM : g_Kv E l M' d' As sh D K) (k : ∀ D', K D' → g_N E l M d (pc + 3) L rest sh D' R) : g_N E l M d pc L St sh D R := by
  subst hSt
  refine g_callS hd hm.1 hm.2 hn hS8 hdd (Nat.le_refl _) (Nat.le_refl _) hM ?_
  rintro r sh' D' - ⟨rfl, rfl, hK⟩
  exact k D' hK
theorem gw_cSi {K : Int → g_D → Prop} (hd : decode M.2.1 pc = .ok (.invokestatic idx, 3)) (hm : g_md M.1.cls idx n M' ∧ Cond.static M'.1 ∈ g_t) (hn : As.length = n) (hS8 : g_sum rest ≤ 8) (hdd : d' + 1 ≤ d) (hSt : As.reverse ++ rest = St) (hM : g_Ki E l M' d' As sh D K) (k : ∀ x D', g_r x → K x D' → g_N E l M d (pc + 3) L (g_I x :: rest) sh D' R) : g_N E l M d pc L St sh D R := by
  subst hSt
  refine g_callS hd hm.1 hm.2 hn hS8 hdd (Nat.le_refl _) (Nat.le_refl _) hM ?_
  rintro r sh' D' - ⟨x, rfl, hx, rfl, hK⟩
  exact k x D' hx hK
theorem gw_cSl {K : Int → g_D → Prop} (hd : decode M.2.1 pc = .ok (.invokestatic idx, 3)) (hm : g_md M.1.cls idx n M' ∧ Cond.static M'.1 ∈ g_t) (hn : As.length = n) (hS8 : g_sum rest ≤ 8) (hdd : d' + 1 ≤ d) (hSt : As.reverse ++ rest = St) (hM : g_Kl E l M' d' As sh D K) (k : ∀ x D', g_r8 x → K x D' → g_N E l M d (pc + 3) L (g_J x :: rest) sh D' R) : g_N E l M d pc L St sh D R := by
  subst hSt
  refine g_callS hd hm.1 hm.2 hn hS8 hdd (Nat.le_refl _) (Nat.le_refl _) hM ?_
  rintro r sh' D' - ⟨x, rfl, hx, rfl, hK⟩
  exact k x D' hx hK
theorem gw_cNi {K : Int → g_D → Prop} (hd : decode M.2.1 pc = .ok (.invokestatic idx, 3)) (hm : g_msn M.1.cls idx n M') (hn : As.length = n) (hS8 : g_sum rest ≤ 8) (hdd : d' + 1 ≤ d) (hSt : As.reverse ++ rest = St) (hM : g_Ki E l M' d' As sh D K) (k : ∀ x D', g_r x → K x D' → g_N E l M d (pc + 3) L (g_I x :: rest) sh D' R) : g_N E l M d pc L St sh D R := by
  subst hSt
  refine g_callSN hd hm.1 hm.2.1 hm.2.2.1 hm.2.2.2.1 hm.2.2.2.2.1 hm.2.2.2.2.2 hn hS8 hdd (Nat.le_refl _) (Nat.le_refl _) hM ?_
  rintro r sh' D' - ⟨x, rfl, hx, rfl, hK⟩
  exact k x D' hx hK
end GW
/-- the static facts of System.arraycopy -/
def g_ac (own : String) (idx : Nat) : Prop := Cond.methodLink own idx arraycopyName ∈ g_t ∧ Cond.native arraycopyName ∈ g_t ∧ Cond.static arraycopyName ∈ g_t ∧ Cond.initialized "java/lang/System" ∈ g_t
theorem g_ftyI {ci j : Nat} {x : Int} {C : String} {T : u_T} {N : Nat} (hc : vwCl[ci]? = some (C, T, N)) (h1 : (T j).2.2.2 = false) (h2 : parseFieldDescriptor (T j).2.2.1 = some .int) : g_fty ci j x := fun C' T' N' h => by
  rw [hc] at h
  cases h
  exact ⟨h1, Or.inl h2⟩
theorem g_ftyZ {ci j : Nat} {x : Int} {C : String} {T : u_T} {N : Nat} (hc : vwCl[ci]? = some (C, T, N)) (h1 : (T j).2.2.2 = false) (h2 : parseFieldDescriptor (T j).2.2.1 = some .boolean) (h01 : x = 0 ∨ x = 1) : g_fty ci j x := fun C' T' N' h => by
  rw [hc] at h
  cases h
  exact ⟨h1, Or.inr ⟨h2, h01⟩⟩
