theorem g_cmp_lt {x y : Int} : g_cmp x y < 0 ↔ x < y := by unfold g_cmp; split <;> (try split) <;> omega
theorem g_cmp_ltn {x y : Int} : ¬ g_cmp x y < 0 ↔ ¬ x < y := by unfold g_cmp; split <;> (try split) <;> omega
theorem g_cmp_ge {x y : Int} : 0 ≤ g_cmp x y ↔ y ≤ x := by unfold g_cmp; split <;> (try split) <;> omega
theorem g_cmp_gen {x y : Int} : ¬ 0 ≤ g_cmp x y ↔ ¬ y ≤ x := by unfold g_cmp; split <;> (try split) <;> omega
theorem g_cmp_gt {x y : Int} : 0 < g_cmp x y ↔ y < x := by unfold g_cmp; split <;> (try split) <;> omega
theorem g_cmp_gtn {x y : Int} : ¬ 0 < g_cmp x y ↔ ¬ y < x := by unfold g_cmp; split <;> (try split) <;> omega
theorem g_cmp_le {x y : Int} : g_cmp x y ≤ 0 ↔ x ≤ y := by unfold g_cmp; split <;> (try split) <;> omega
theorem g_cmp_len {x y : Int} : ¬ g_cmp x y ≤ 0 ↔ ¬ x ≤ y := by unfold g_cmp; split <;> (try split) <;> omega
theorem g_cmp_eq {x y : Int} : g_cmp x y = 0 ↔ x = y := by unfold g_cmp; split <;> (try split) <;> omega
theorem g_cmp_eqn {x y : Int} : ¬ g_cmp x y = 0 ↔ ¬ x = y := by unfold g_cmp; split <;> (try split) <;> omega
theorem g_cmp_ne {x y : Int} : ¬ g_cmp x y = 0 ↔ ¬ x = y := g_cmp_eqn
theorem g_cmp_nen {x y : Int} : g_cmp x y = 0 ↔ x = y := g_cmp_eq
section GC
variable {E : g_E} {l : Launch} {M : g_Md} {d mc ms nc ns pc : Nat} {L : List (Option g_V)} {S : List g_V} {sh : List g_Sh} {D : g_D} {R : g_Ro} {v w : g_V}
theorem g_absR {x : Int} {idx : Nat} (hd : decode M.2.1 pc = .ok (.invokestatic idx, 3)) (hm : g_mw M.1.cls idx Lib.Math.abs.name Lib.Math.abs.code 1) (hd1 : 1 ≤ d) (hc : nc ≤ mc) (hs : ns ≤ ms) (hS8 : g_sum S ≤ 8) (hr : g_r (-x)) (kk : g_G E l M d mc ms nc ns (pc + 3) L (g_I (x.natAbs : Int) :: S) sh D R) : g_G E l M d mc ms nc ns pc L (g_I x :: S) sh D R :=
  g_stk kk (fun o => o.pop.push (by show g_r (x.natAbs : Int); have h1 : g_r x := o.top; unfold g_r at *; omega)) fun p e s m args below meth c A H locs ls a Q o X hl hP hS w => va_mabs X.1 X.2.1 (X.2.2.2.1.trans hl.1.symm) X.2.2.2.2.1 (X.2.2.2.2.2.1 _ hm.1) (X.2.2.2.2.2.1 _ hm.2.1) (X.2.2.2.2.2.1 _ hm.2.2.1) (X.2.2.2.2.2.1 _ hm.2.2.2) hd1 (by rw [g_sum_eq]; show _ + 12 ≤ 41 * d + 32; omega) hc hs hd (by
    have e1 : (if 0 ≤ Int32.ofInt x then Int32.ofInt x else 0 - Int32.ofInt x) = Int32.ofInt (x.natAbs : Int) := by
      have h0 := g_le (x := 0) (y := x) g_r0 o.top
      split
      · rename_i h
        have : 0 ≤ x := h0.mp h
        congr 1
        omega
      · rename_i h
        have : ¬ 0 ≤ x := fun q => h (h0.mpr q)
        rw [show (0 : Int32) - Int32.ofInt x = Int32.ofInt (0 - x) from g_osub 0 x]
        congr 1
        omega
    rw [e1]
    exact w)
end GC
def g_sub : List (Option g_V) → List (Option g_V) → Prop
  | [], _ => True
  | none :: a, _ :: b => g_sub a b
  | some v :: a, w :: b => w = some v ∧ g_sub a b
  | _ :: _, [] => False
theorem g_sub.at : ∀ {a b : List (Option g_V)}, g_sub a b → ∀ (i : Nat) (v : g_V), a[i]? = some (some v) → b[i]? = some (some v)
  | [], _, _, i, v, h => by simp at h
  | none :: a, _ :: b, q, i, v, h => by
    cases i with
    | zero => simp at h
    | succ i => simpa using g_sub.at (a := a) (b := b) q i v (by simpa using h)
  | some u :: a, w :: b, q, i, v, h => by
    cases i with
    | zero => simp at h; subst h; simpa using q.1
    | succ i => simpa using g_sub.at (a := a) (b := b) q.2 i v (by simpa using h)
  | none :: _, [], q, _, _, _ => q.elim
  | some _ :: _, [], q, _, _, _ => q.elim
/-- what is known of the locals may be forgotten -/
theorem g_forget {E : g_E} {l : Launch} {M : g_Md} {d mc ms nc ns pc : Nat} {L L' : List (Option g_V)} {S : List g_V} {sh : List g_Sh} {D : g_D} {R : g_Ro} (h : g_sub L' L) (k : g_G E l M d mc ms nc ns pc L' S sh D R) : g_G E l M d mc ms nc ns pc L S sh D R :=
  fun ok p e s m args below meth c A a0 n0 H locs ls a X h1 h2 hP hD hS hl => k ⟨ok.1, ok.2.1, fun i v hi => ok.2.2.1 i v (h.at i v hi), ok.2.2.2⟩ p e s m args below meth c A a0 n0 H locs ls a X h1 h2 hP hD hS ⟨hl.1, hl.2.1, fun i v hi => hl.2.2 i v (h.at i v hi)⟩
