/-! constructors: the heap is sh0 with a list of cells behind it, of which the first is the object that is made -/
theorem g_apx {sh0 l : List g_Sh} {e : g_Sh} {i : Nat} (h : l[i]? = some e) : (sh0 ++ l)[sh0.length + i]? = some e := by
  rw [List.getElem?_append_right (by omega), show sh0.length + i - sh0.length = i by omega]; exact h
theorem g_aps {sh0 l : List g_Sh} {e : g_Sh} {i : Nat} : (sh0 ++ l).set (sh0.length + i) e = sh0 ++ l.set i e := by
  rw [List.set_append_right _ _ (by omega), show sh0.length + i - sh0.length = i by omega]
/-- a constructor's contract: it is called on the cell behind sh0; it ends with the cells cl behind sh0 -/
def g_Rc (sh0 cl : List g_Sh) (K : g_D → Prop) : g_Ro := fun r sh' D' => r = none ∧ sh' = sh0 ++ cl ∧ K D'
abbrev g_Mc (E : g_E) (l : Launch) (M : g_Md) (d mc ms : Nat) (args : List g_V) (sh0 : List g_Sh) (c0 : g_Sh) (cl : List g_Sh) (D : g_D) (K : g_D → Prop) : Prop := g_M E l M d mc ms args (sh0 ++ [c0]) D (g_Rc sh0 cl K)
theorem g_Mc.to {E : g_E} {l : Launch} {M : g_Md} {d mc ms : Nat} {args : List g_V} {sh0 : List g_Sh} {c0 : g_Sh} {cl : List g_Sh} {D : g_D} {K K' : g_D → Prop} (h : g_Mc E l M d mc ms args sh0 c0 cl D K) (k : ∀ D', K D' → K' D') : g_Mc E l M d mc ms args sh0 c0 cl D K' := g_mono (fun r sh' D' ⟨h1, h2, h3⟩ => ⟨h1, h2, k D' h3⟩) h
section GT
variable {E : g_E} {l : Launch} {M : g_Md} {d mc ms nc ns pc : Nat} {L L' : List (Option g_V)} {S : List g_V} {sh0 c c' : List g_Sh} {D : g_D} {R : g_Ro} {v w : g_V}
theorem gc_new {idx ci N k : Nat} {fs : List (Option (Option Nat))} {vs : List Value} (hd : decode M.2.1 pc = .ok (.new idx, 3)) (hn : g_nd M.1.cls idx ci N fs vs) (hc : nc + 1 ≤ mc) (hs : ns + N ≤ ms) (hk : c.length = k) (hl : c ++ [.inr (.inr (ci, fs))] = c') (kk : g_G E l M d mc ms (nc + 1) (ns + N) (pc + 3) L (g_R (sh0.length + k) :: S) (sh0 ++ c') (g_row D (sh0.length + k) (fun _ => 0)) R) : g_G E l M d mc ms nc ns pc L S (sh0 ++ c) D R := by
  subst hk hl
  refine g_new hd hn hc hs ?_
  rw [List.length_append, List.append_assoc]
  exact kk
theorem gc_newa {n : Int} {atype : ArrayType} {ty k N : Nat} (hat : (atype = .int ∧ ty = 0) ∨ (atype = .boolean ∧ ty = 1)) (hd : decode M.2.1 pc = .ok (.newarray atype, 2)) (harr : Cond.arrayClass (newarray.typeOf atype) ∈ g_t) (h0 : 0 ≤ n) (hb : n ≤ 100000) (hN : n.toNat = N) (hc : nc + 1 ≤ mc) (hs : ns + N ≤ ms) (hk : c.length = k) (hl : c ++ [.inl (ty, N)] = c') (kk : g_G E l M d mc ms (nc + 1) (ns + N) (pc + 2) L (g_R (sh0.length + k) :: S) (sh0 ++ c') (g_row D (sh0.length + k) (fun _ => 0)) R) : g_G E l M d mc ms nc ns pc L (g_I n :: S) (sh0 ++ c) D R := by
  subst hk hl hN
  refine g_newa hat hd harr h0 hb hc hs ?_
  rw [List.length_append, List.append_assoc]
  exact kk
theorem gc_anew {n : Int} {idx ty k N : Nat} {C : String} (hat : (C = RX8 ∧ ty = 2) ∨ (C = RX2 ∧ ty = 3)) (hd : decode M.2.1 pc = .ok (.anewarray idx, 3)) (hlk : Cond.classLink M.1.cls idx C ∈ g_t) (h0 : 0 ≤ n) (hb : n ≤ 100000) (hN : n.toNat = N) (hc : nc + 1 ≤ mc) (hs : ns + N ≤ ms) (hk : c.length = k) (hl : c ++ [.inr (.inl (ty, N, fun _ => none))] = c') (kk : g_G E l M d mc ms (nc + 1) (ns + N) (pc + 3) L (g_R (sh0.length + k) :: S) (sh0 ++ c') (g_row D (sh0.length + k) (fun _ => 0)) R) : g_G E l M d mc ms nc ns pc L (g_I n :: S) (sh0 ++ c) D R := by
  subst hk hl hN
  refine g_anew hat hd hlk h0 hb hc hs ?_
  rw [List.length_append, List.append_assoc]
  exact kk
theorem gc_putR {k ci j idx r : Nat} {fs : List (Option (Option Nat))} (hd : decode M.2.1 pc = .ok (.putfield idx, 3)) (hf : g_fd M.1.cls idx ci j) (hty : g_fr M.1.cls ci j) (hin : M.1.name = "<init>") (hs : c[k]? = some (.inr (.inr (ci, fs)))) (hj : j < fs.length) (hl : c.set k (.inr (.inr (ci, fs.set j (some (some r))))) = c') (kk : g_G E l M d mc ms nc ns (pc + 3) L S (sh0 ++ c') D R) : g_G E l M d mc ms nc ns pc L (g_R r :: g_R (sh0.length + k) :: S) (sh0 ++ c) D R := by
  subst hl
  refine g_putR hd hf hty hin (g_apx hs) hj ?_
  rw [g_aps]
  exact kk
theorem gc_aast {k r n ty ci : Nat} {fs : List (Option (Option Nat))} {f f' : Nat → Option Nat} {i : Int} (hat : (ty = 2 ∧ ci = 8) ∨ (ty = 3 ∧ ci = 2)) (hd : decode M.2.1 pc = .ok (.aastore, 1)) (hs : c[k]? = some (.inr (.inl (ty, n, f)))) (hr : c[r]? = some (.inr (.inr (ci, fs)))) (h0 : 0 ≤ i) (hn : i < n) (hf : (fun j => if j = i.toNat then some (sh0.length + r) else f j) = f') (hl : c.set k (.inr (.inl (ty, n, f'))) = c') (kk : g_G E l M d mc ms nc ns (pc + 1) L S (sh0 ++ c') D R) : g_G E l M d mc ms nc ns pc L (g_R (sh0.length + r) :: g_I i :: g_R (sh0.length + k) :: S) (sh0 ++ c) D R := by
  subst hl hf
  refine g_aast hat hd (g_apx hs) (g_apx hr) h0 hn ?_
  rw [g_aps]
  exact kk
/-- the constructor of a part is called on the cell that was made last -/
theorem gc_callI {M' : g_Md} {idx n d' mc' ms' k : Nat} {As rest : List g_V} {c0 : g_Sh} {cl : Nat → List g_Sh} {c1 : List g_Sh} {K : g_D → Prop} {St : List g_V} (hd : decode M.2.1 pc = .ok (.invokespecial idx, 3)) (hm : g_md M.1.cls idx n M' ∧ Cond.instanceMethod M'.1 ∈ g_t) (hnm : M'.1.name = "<init>") (hrt : M'.2.2.2 = none)
    (hn : As.length = n) (hS8 : g_sum rest ≤ 8) (hdd : d' + 1 ≤ d) (hcc : nc + mc' ≤ mc) (hcs : ns + ms' ≤ ms) (hc1 : c = c1 ++ [c0]) (hk : c1.length = k) (hl : c1 ++ cl (sh0.length + k) = c') (hSt : As.reverse ++ g_R (sh0.length + k) :: rest = St)
    (hM : g_Mc E l M' d' mc' ms' (g_R ((sh0 ++ c1).length + 0) :: As) (sh0 ++ c1) c0 (cl (sh0 ++ c1).length) D K) (kk : ∀ D', K D' → g_G E l M d mc ms (nc + mc') (ns + ms') (pc + 3) L rest (sh0 ++ c') D' R) : g_G E l M d mc ms nc ns pc L St (sh0 ++ c) D R := by
  subst hc1 hk hl hSt
  have e1 : (sh0 ++ c1).length + 0 = sh0.length + c1.length := by simp
  rw [← List.append_assoc]
  rw [e1] at hM
  refine g_callI hd hm.1 hm.2 hnm hrt hn hS8 hdd hcc hcs hM ?_
  rintro r sh' D' - ⟨rfl, rfl, hK⟩
  rw [List.append_assoc, List.length_append]
  exact kk D' hK
theorem gc_cVv {M' : g_Md} {idx n ci k d' : Nat} {fs : List (Option (Option Nat))} {As rest St : List g_V} {K : g_D → Prop} (hd : decode M.2.1 pc = .ok (.invokevirtual idx, 3)) (hm : g_mv M.1.cls idx n ci M') (hs : c[k]? = some (.inr (.inr (ci, fs)))) (hn : As.length = n) (hS8 : g_sum rest ≤ 8) (hdd : d' + 1 ≤ d) (hc : nc ≤ mc) (hn2 : ns ≤ ms) (hSt : As.reverse ++ g_R (sh0.length + k) :: rest = St) (hM : g_Kv E l M' d' (g_R (sh0.length + k) :: As) (sh0 ++ c) D K) (kk : ∀ D', K D' → g_G E l M d mc ms nc ns (pc + 3) L rest (sh0 ++ c) D' R) : g_G E l M d mc ms nc ns pc L St (sh0 ++ c) D R := by
  subst hSt
  obtain ⟨h1, h2, h3, q, h4, h5⟩ := hm
  refine g_callV hd h1 h2 h3 h4 h5 (g_apx hs) hn hS8 hdd hc hn2 hM ?_
  rintro r sh' D' - ⟨rfl, rfl, hK⟩
  exact kk D' hK
theorem gc_cSv {M' : g_Md} {idx n d' : Nat} {As rest St : List g_V} {sh : List g_Sh} {K : g_D → Prop} (hd : decode M.2.1 pc = .ok (.invokestatic idx, 3)) (hm : g_md M.1.cls idx n M' ∧ Cond.static M'.1 ∈ g_t) (hn : As.length = n) (hS8 : g_sum rest ≤ 8) (hdd : d' + 1 ≤ d) (hc : nc ≤ mc) (hn2 : ns ≤ ms) (hSt : As.reverse ++ rest = St) (hM : g_Kv E l M' d' As sh D K) (kk : ∀ D', K D' → g_G E l M d mc ms nc ns (pc + 3) L rest sh D' R) : g_G E l M d mc ms nc ns pc L St sh D R := by
  subst hSt
  refine g_callS hd hm.1 hm.2 hn hS8 hdd hc hn2 hM ?_
  rintro r sh' D' - ⟨rfl, rfl, hK⟩
  exact kk D' hK
theorem gc_ret {cl : List g_Sh} {K : g_D → Prop} (hd : decode M.2.1 pc = .ok (.return_, 1)) (hr : M.2.2.2 = none) (hc : nc ≤ mc) (hs : ns ≤ ms) (hcl : c = cl) (k : K D) : g_G E l M d mc ms nc ns pc L [] (sh0 ++ c) D (g_Rc sh0 cl K) := g_vret hd hr hc hs ⟨rfl, by rw [hcl], k⟩
theorem gc_istore_n {i : Fin 4} {x : Int} {sh : List g_Sh} (hd : decode M.2.1 pc = .ok (.istore_n i, 1)) (hn : (i : Nat) < M.2.2.1) (hL : g_s1 L i (g_I x) = L') (k : g_G E l M d mc ms nc ns (pc + 1) L' S sh D R) : g_G E l M d mc ms nc ns pc L (g_I x :: S) sh D R := g_istore_n hd hn (hL ▸ k)
theorem gc_iinc {i : Nat} {n x : Int} {sh : List g_Sh} (hd : decode M.2.1 pc = .ok (.iinc i n, 3)) (hl0 : L[i]? = some (some (g_I x))) (hr : g_r (x + n)) (hn : i < M.2.2.1) (hL : g_s1 L i (g_I (x + n)) = L') (k : g_G E l M d mc ms nc ns (pc + 3) L' S sh D R) : g_G E l M d mc ms nc ns pc L S sh D R := g_iinc hd hl0 hr hn (hL ▸ k)
end GT
