/-- numbers are copied out of an array that nobody writes -/
theorem g_acopyF {E : g_E} {l : Launch} {M : g_Md} {d mc ms nc ns pc : Nat} {L : List (Option g_V)} {S : List g_V} {sh : List g_Sh} {D : g_D} {R : g_Ro} {k0 k1 n1 idx : Nat} {sp dp n : Int} (hd : decode M.2.1 pc = .ok (.invokestatic idx, 3)) (hac : g_ac M.1.cls idx) (hk0 : k0 < 4) (hs1 : sh[k1]? = some (.inl (0, n1))) (h1 : 0 ≤ sp) (h2 : 0 ≤ dp) (h3 : 0 ≤ n) (h4 : sp + n ≤ g_fl E k0) (h5 : dp + n ≤ n1) (hx : ∀ j, g_r (g_fx E k0 j)) (hd1 : 1 ≤ d) (hS8 : g_sum S ≤ 8)
    (kk : g_G E l M d mc ms nc ns (pc + 3) L S sh (g_row D k1 (fun j => if dp.toNat ≤ j ∧ j < dp.toNat + n.toNat then g_fx E k0 (sp.toNat + (j - dp.toNat)) else D k1 j)) R) : g_G E l M d mc ms nc ns pc L (g_I n :: g_I dp :: g_R k1 :: g_I sp :: g_F k0 :: S) sh D R := by
  intro ok p e s m args below meth c A a0 n0 H locs ls a X hh1 hh2 hP hD hS hl T hT XX
  have rn : g_r n := ok.top
  have rd : g_r dp := ok.pop.top
  have rs : g_r sp := ok.pop.pop.pop.top
  obtain ⟨scr, hs1', hof, hs3, hN, -, hval, hnA⟩ := X.2.2.2.2.2.2.2.2.2.2.1 k0 hk0
  have hbl : E.2.2.2.1 k0 < s.heap.size := (Array.getElem?_eq_some_iff.mp hs1').1
  have hc0 : H[E.2.2.2.1 k0]? = some scr := by rw [hS.2.1 _ hbl hnA]; exact hs1'
  have ha1 := g_arr (E := E) (D := D) (a := a) hs1
  have hc1 : H[a k1]? = some (vp_cell (E.2.2.1 0) (n1, .inl (fun j => Int32.ofInt (D k1 j)))) := hP k1 _ ha1
  obtain ⟨hs6, kA, hkA, cm0, hkk0⟩ := hof
  obtain ⟨-, kB, hkB, cm1, hkk1⟩ := (X.2.2.2.2.2.2.2.2.2.1.1.2 0 (E.2.2.1 0, .int) rfl).1 n1 (fun j => .int (Int32.ofInt (D k1 j)))
  have hloc : 2 * (F0 m pc ls ((g_I n :: g_I dp :: g_R k1 :: g_I sp :: g_F k0 :: S).map (g_cv E a))).monitorRoom + ((S.map (g_cv E a)).map fun v => v.category).sum + (nativeFrameWords "java/lang/System" "arraycopy" 5 + 11) ≤ (g_rm d mc ms).locals := by
    rw [g_sum_eq]
    have h40 : nativeFrameWords "java/lang/System" "arraycopy" 5 ≤ 40 := by decide +kernel
    show 2 * 0 + _ + _ ≤ 41 * d + 32
    omega
  obtain ⟨vm', X', step⟩ := XX.arraycopy X.1 X.2.2.2.2.1 (X.2.2.2.2.2.1 _ hac.1) (X.2.2.2.2.2.1 _ hac.2.1) (X.2.2.2.2.2.1 _ hac.2.2.1) (X.2.2.2.2.2.1 _ hac.2.2.2) (src := E.2.2.2.1 k0) (dst := a k1) (cs := scr) (cd := vp_cell (E.2.2.1 0) (n1, .inl (fun j => Int32.ofInt (D k1 j)))) (srcPos := Int32.ofInt sp) (destPos := Int32.ofInt dp) (n := Int32.ofInt n) (by rw [hT]; exact hc0) (by rw [hT]; exact hc1)
    hs6 (fun _ h => by cases h) hs3 (fun h => by cases h) hkA hkB hkk0 hkk1 (by simp [refKind]) (g_nn rs h1) (g_nn rd h2) (g_nn rn h3)
    (by rw [g_rT rs, g_rT rn]; omega)
    (by rw [g_rT rd, g_rT rn]; show ¬ _ > ((arrV _ n1 _).slots.size : Int); rw [arrV_size]; omega)
    (fun vm₁ _ i hi => by
      rw [g_nat rn] at hi
      have e : scr.slots.getD ((Int32.ofInt sp).toNatClampNeg + i) .null = .int (Int32.ofInt (g_fx E k0 (sp.toNat + i))) := by
        rw [g_nat rs, Array.getD_eq_getD_getElem?, hval _ (by omega)]
        rfl
      refine ⟨?_, ?_⟩
      · rw [e]
        rfl
      · rw [e]
        exact trivial)
    (g := F0 m pc ls ((g_I n :: g_I dp :: g_R k1 :: g_I sp :: g_F k0 :: S).map (g_cv E a))) rfl (hl.1.trans X.2.2.2.1.symm) (rest := S.map (g_cv E a)) rfl (by rw [X.2.1]; exact hd) hd1 hloc
  have hval' : ∀ j, j < g_fl E k0 → scr.slots[j]? = some (.int (Int32.ofInt (g_fx E k0 j))) := hval
  have e1 : copied scr (vp_cell (E.2.2.1 0) (n1, .inl (fun j => Int32.ofInt (D k1 j)))) (Int32.ofInt sp) (Int32.ofInt dp) (Int32.ofInt n) = vp_cell (E.2.2.1 0) (n1, .inl (va_cpy (fun j => Int32.ofInt (g_fx E k0 j)) (fun j => Int32.ofInt (D k1 j)) (Int32.ofInt sp).toNatClampNeg (Int32.ofInt dp).toNatClampNeg (Int32.ofInt n).toNatClampNeg)) :=
    va_copiedX (fun z => Value.int z) scr (E.2.2.1 0) (fun j => Int32.ofInt (g_fx E k0 j)) (fun j => Int32.ofInt (D k1 j)) hval' (by rw [g_nat rs, g_nat rn]; omega)
  rw [e1, g_nat rs, g_nat rd, g_nat rn] at X' step
  have hw : (g_cw E a sh D).set k1 (a k1, .inl (E.2.2.1 0, n1, .inl (va_cpy (fun j => Int32.ofInt (g_fx E k0 j)) (fun j => Int32.ofInt (D k1 j)) sp.toNat dp.toNat n.toNat))) = g_cw E a sh (g_row D k1 (fun j => if dp.toNat ≤ j ∧ j < dp.toNat + n.toNat then g_fx E k0 (sp.toNat + (j - dp.toNat)) else D k1 j)) := by
    rw [← g_cw_set (D := D) (D' := g_row D k1 (fun j => if dp.toNat ≤ j ∧ j < dp.toNat + n.toNat then g_fx E k0 (sp.toNat + (j - dp.toNat)) else D k1 j)) (e := .inl (0, n1)) (List.getElem?_eq_some_iff.mp hs1).1 (g_set_self hs1) (fun k' h => g_row_ne h)]
    congr 1
    simp only [g_ce, g_row_eq]
    congr 3
    congr 1
    apply congrArg Sum.inl
    funext j
    simp only [va_cpy]
    split <;> rfl
  have hl1 : a k1 < H.size := (Array.getElem?_eq_some_iff.mp hc1).1
  generalize hcl : vp_cell (E.2.2.1 0) (n1, .inl (va_cpy (fun j => Int32.ofInt (g_fx E k0 j)) (fun j => Int32.ofInt (D k1 j)) sp.toNat dp.toNat n.toNat)) = cell1 at X' step
  have hheap : ((T.setVm vm').setCell (a k1) cell1).heap = H.setIfInBounds (a k1) cell1 := by rw [← hT]; rfl
  have oq : ∀ q : Nat, q ≠ a k1 → (H.setIfInBounds (a k1) cell1)[q]? = H[q]? := fun q hq => by simp [Array.getElem?_setIfInBounds, Ne.symm hq]
  have hP1 := hP.set hD ha1 (e := .inl (E.2.2.1 0, n1, .inl (va_cpy (fun j => Int32.ofInt (g_fx E k0 j)) (fun j => Int32.ofInt (D k1 j)) sp.toNat dp.toNat n.toNat))) (H1 := H.setIfInBounds (a k1) cell1) (show (H.setIfInBounds (a k1) cell1)[a k1]? = some _ by rw [← hcl]; simp [Array.getElem?_setIfInBounds, hl1]) oq
  have hD1 := hD.set (e := .inl (E.2.2.1 0, n1, .inl (va_cpy (fun j => Int32.ofInt (g_fx E k0 j)) (fun j => Int32.ofInt (D k1 j)) sp.toNat dp.toNat n.toNat))) ha1
  rw [hw] at hP1 hD1
  have okn : g_ok sh (g_row D k1 (fun j => if dp.toNat ≤ j ∧ j < dp.toNat + n.toNat then g_fx E k0 (sp.toNat + (j - dp.toNat)) else D k1 j)) L S := ⟨ok.1, fun x y => by
    unfold g_row
    split
    · dsimp only
      split
      · exact hx _
      · exact ok.2.1 _ _
    · exact ok.2.1 _ _, ok.2.2.1, ok.pop.pop.pop.pop.pop.2.2.2⟩
  generalize hlo : List.map (fun q => ({ base := a k1, slot := dp.toNat + q.snd } : Loc)) (scr.stretch sp.toNat n.toNat).zipIdx = lo at X'
  have hbase : ∀ q ∈ lo, q.base = a k1 := fun q hq => by
    rw [← hlo] at hq
    obtain ⟨z, -, hz⟩ := List.mem_map.mp hq
    rw [← hz]
  have hS1 : va_S A s.heap (H.setIfInBounds (a k1) cell1) (locs ++ lo) := ⟨by simp; exact hS.1, fun q g1 g2 => by
      rw [oq q (fun e => g2 (by rw [e]; exact hD.2 k1 _ ha1))]
      exact hS.2.1 q g1 g2, fun q hq => by
      rcases List.mem_append.mp hq with h | h
      · exact hS.2.2 q h
      · rw [hbase q h]
        exact hD.2 k1 _ ha1⟩
  obtain ⟨t, a1, b1⟩ := kk okn p e s m args below meth c A a0 n0 (H.setIfInBounds (a k1) cell1) (locs ++ lo) ls a X hh1 hh2 hP1 hD1 hS1 hl _ hheap X'
  exact ⟨t, step t a1, b1⟩
