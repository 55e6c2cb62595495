section
/-! what the constructors leave -/
section CTOR
variable {E : g_E} {l : Launch} {sh0 : List g_Sh} {D : g_D} {K : g_D → Prop} {k : Nat}
theorem f_X0 {v1 : Int} {N : Nat} (hk : sh0.length = k) (hN : (max v1 0).toNat = N) (hN1 : N ≤ 100000) (kk : ∀ D', D' = g_row D (k + 1) (fun _ => 0) → K D') : kc_X0 E l sh0 D v1 N K := by
  subst hk
  exact sc_X0 hN hN1 (fun _ _ D1 e1 => kk D1 e1)
/-- what a device's constructor leaves at k -/
def q_nd2 (D D' : g_D) (k : Nat) : Prop := (∀ i, i < 40 → D' (k + 1) i = 255) ∧ (∀ i, i < 20 → D' (k + 2) i = 255) ∧ (∀ i, i < 40 → D' (k + 3) i = 255) ∧ (∀ i, i < 20 → D' (k + 4) i = 255) ∧ D' (k + 5) 1 = 1 ∧ D' (k + 6) 0 = 0 ∧ D' k 6 = -1 ∧ D' k 7 = D k 7 ∧ D' k 8 = 1 ∧ D' k 9 = 1
theorem f_X2 (hk : sh0.length = k) (kk : ∀ D' : g_D, (∀ i, i < k ∨ k + 8 ≤ i → D' i = D i) → q_nd2 D D' k → K D') : kc_X2 E l sh0 D K := by
  subst hk
  refine sc_X2 (fun _ => ?_)
  intro D1 e1
  intro D2 e2
  intro D3 e3
  intro D4 e4
  intro D5 e5
  refine f_X0 (k := sh0.length + 5) (by rw [List.length_append]; rfl) (by decide) (by decide) (fun D6 e6 => ?_)
  intro D7 e7
  refine c_fill (n0 := 40) (by rw [List.getElem?_append_right (by omega), show sh0.length + 1 - sh0.length = 1 by omega]; rfl) (by omega) (fun D8 f8 y8 => ?_)
  refine c_fill (n0 := 20) (by rw [List.getElem?_append_right (by omega), show sh0.length + 2 - sh0.length = 2 by omega]; rfl) (by omega) (fun D9 f9 y9 => ?_)
  refine c_fill (n0 := 40) (by rw [List.getElem?_append_right (by omega), show sh0.length + 3 - sh0.length = 3 by omega]; rfl) (by omega) (fun D10 f10 y10 => ?_)
  refine c_fill (n0 := 20) (by rw [List.getElem?_append_right (by omega), show sh0.length + 4 - sh0.length = 4 by omega]; rfl) (by omega) (fun D11 f11 y11 => ?_)
  intro D12 e12
  intro D13 e13
  intro D14 e14
  have hz : D14 (sh0.length + 5) 1 = ((0 : Nat) : Int) := by rw [e14, g_up_ne (by omega), e13, g_up_ne (by omega), e12, g_up_ne (by omega), f11 (sh0.length + 5) (by omega), f10 (sh0.length + 5) (by omega), f9 (sh0.length + 5) (by omega), f8 (sh0.length + 5) (by omega), e7, g_row_ne (by omega), e6, g_row_ne (by omega), e5, g_row_eq]; rfl
  refine c_X0_push (n := 0) (nk := 160) ⟨(by rw [List.getElem?_append_right (by omega), show sh0.length + 5 - sh0.length = 5 by omega]; rfl), (by rw [List.getElem?_append_right (by omega), show sh0.length + 5 + 1 - sh0.length = 6 by omega]; rfl)⟩ hz (by decide) (by decide) (fun D15 f15 p1 p2 p3 p4 => ?_)
  refine kk D15 (fun i hi => by rw [f15 i (by omega) (by omega), e14, g_up_ne (by omega), e13, g_up_ne (by omega), e12, g_up_ne (by omega), f11 i (by omega), f10 i (by omega), f9 i (by omega), f8 i (by omega), e7, g_row_ne (by omega), e6, g_row_ne (by omega), e5, g_row_ne (by omega), e4, g_row_ne (by omega), e3, g_row_ne (by omega), e2, g_row_ne (by omega), e1, g_row_ne (by omega)]) ⟨fun i hi => by rw [f15 (sh0.length + 1) (by omega) (by omega), e14, g_up_ne (by omega), e13, g_up_ne (by omega), e12, g_up_ne (by omega), f11 (sh0.length + 1) (by omega), f10 (sh0.length + 1) (by omega), f9 (sh0.length + 1) (by omega)]; exact y8 i hi, fun i hi => by rw [f15 (sh0.length + 2) (by omega) (by omega), e14, g_up_ne (by omega), e13, g_up_ne (by omega), e12, g_up_ne (by omega), f11 (sh0.length + 2) (by omega), f10 (sh0.length + 2) (by omega)]; exact y9 i hi, fun i hi => by rw [f15 (sh0.length + 3) (by omega) (by omega), e14, g_up_ne (by omega), e13, g_up_ne (by omega), e12, g_up_ne (by omega), f11 (sh0.length + 3) (by omega)]; exact y10 i hi, fun i hi => by rw [f15 (sh0.length + 4) (by omega) (by omega), e14, g_up_ne (by omega), e13, g_up_ne (by omega), e12, g_up_ne (by omega)]; exact y11 i hi, p1, p3, by rw [f15 sh0.length (by omega) (by omega), e14, Nat.add_zero, g_up_at (by decide), e13, Nat.add_zero, g_up_at (by decide), e12, Nat.add_zero, g_up_eq], by rw [f15 sh0.length (by omega) (by omega), e14, Nat.add_zero, g_up_at (by decide), e13, Nat.add_zero, g_up_at (by decide), e12, Nat.add_zero, g_up_at (by decide), f11 sh0.length (by omega), f10 sh0.length (by omega), f9 sh0.length (by omega), f8 sh0.length (by omega), e7, g_row_ne (by omega), e6, g_row_ne (by omega), e5, g_row_ne (by omega), e4, g_row_ne (by omega), e3, g_row_ne (by omega), e2, g_row_ne (by omega), e1, g_row_ne (by omega)], by rw [f15 sh0.length (by omega) (by omega), e14, Nat.add_zero, g_up_at (by decide), e13, Nat.add_zero, g_up_eq], by rw [f15 sh0.length (by omega) (by omega), e14, Nat.add_zero, g_up_eq]⟩
theorem f_X5 (hk : sh0.length = k) (kk : ∀ D' : g_D, (∀ i, i < k ∨ k + 5 ≤ i → D' i = D i) → D' k 6 = -1 ∧ (∀ j, j ≠ 6 → D' k j = D k j) → K D') : kc_X5 E l sh0 D K := by
  subst hk
  refine sc_X5 (fun _ => ?_)
  intro D1 e1
  intro D2 e2
  intro D3 e3
  intro D4 e4
  intro D5 e5
  refine kk D5 (fun i hi => by rw [e5, g_up_ne (by omega), e4, g_row_ne (by omega), e3, g_row_ne (by omega), e2, g_row_ne (by omega), e1, g_row_ne (by omega)]) ⟨by rw [e5, Nat.add_zero, g_up_eq], fun j hj => by rw [e5, Nat.add_zero, g_up_at hj, e4, g_row_ne (by omega), e3, g_row_ne (by omega), e2, g_row_ne (by omega), e1, g_row_ne (by omega)]⟩
theorem f_X6 (hk : sh0.length = k) (kk : ∀ D' : g_D, (∀ i, i < k ∨ k + 4 ≤ i → D' i = D i) → K D') : kc_X6 E l sh0 D K := by
  subst hk
  refine sc_X6 (fun _ => ?_)
  intro D1 e1
  intro D2 e2
  intro D3 e3
  refine kk D3 (fun i hi => by rw [e3, g_row_ne (by omega), e2, g_row_ne (by omega), e1, g_row_ne (by omega)])
theorem f_X9 (hk : sh0.length = k) (kk : ∀ D' : g_D, (∀ i, i < k ∨ k + 3 ≤ i → D' i = D i) → K D') : kc_X9 E l sh0 D K := by
  subst hk
  refine sc_X9 (fun _ => ?_)
  intro D1 e1
  intro D2 e2
  refine kk D2 (fun i hi => by rw [e2, g_row_ne (by omega), e1, g_row_ne (by omega)])
def q_new (E : g_E) (D' : g_D) (k : Nat) : Prop := D' (k + 1) 1 = 0 ∧ D' (k + 3) 1 = 0 ∧ (∀ j, j < 4 → D' (k + 5) j = g_fx E 1 j) ∧ (∀ i, i < 40 → D' (k + 6 + 1) i = 255) ∧ (∀ i, i < 20 → D' (k + 6 + 2) i = 255) ∧ (∀ i, i < 40 → D' (k + 6 + 3) i = 255) ∧ (∀ i, i < 20 → D' (k + 6 + 4) i = 255) ∧ D' (k + 6 + 5) 1 = 1 ∧ D' (k + 6 + 6) 0 = 0 ∧ D' (k + 6) 6 = -1 ∧ D' (k + 6) 7 = 0 ∧ D' (k + 6) 8 = 1 ∧ D' (k + 6) 9 = 1
theorem f_X8 (hk : sh0.length = k) (kk : ∀ D' : g_D, (∀ i, i < k ∨ k + 14 ≤ i → D' i = D i) → q_new E D' k → K D') : kc_X8 E l sh0 D K := by
  subst hk
  refine sc_X8 (fun _ => ?_)
  intro D1 e1
  refine f_X0 (k := sh0.length + 1) (by rw [List.length_append]; rfl) (by decide) (by decide) (fun D2 e2 => ?_)
  intro D3 e3
  refine f_X0 (k := sh0.length + 3) (by rw [List.length_append]; rfl) (by decide) (by decide) (fun D4 e4 => ?_)
  intro D5 e5
  intro D6 e6
  intro D7 e7
  refine f_X2 (k := sh0.length + 6) (by rw [List.length_append]; rfl) (fun D8 f8 q8 => ?_)
  refine kk D8 (fun i hi => by rw [f8 i (by omega), e7, g_row_ne (by omega), e6, g_row_ne (by omega), e5, g_row_ne (by omega), e4, g_row_ne (by omega), e3, g_row_ne (by omega), e2, g_row_ne (by omega), e1, g_row_ne (by omega)]) ⟨by rw [f8 (sh0.length + 1) (by omega), e7, g_row_ne (by omega), e6, g_row_ne (by omega), e5, g_row_ne (by omega), e4, g_row_ne (by omega), e3, g_row_ne (by omega), e2, g_row_ne (by omega), e1, g_row_eq], by rw [f8 (sh0.length + 3) (by omega), e7, g_row_ne (by omega), e6, g_row_ne (by omega), e5, g_row_ne (by omega), e4, g_row_ne (by omega), e3, g_row_eq], fun j hj => by rw [f8 (sh0.length + 5) (by omega), e7, g_row_ne (by omega), e6, g_row_eq, if_pos ⟨by omega, by omega⟩, Nat.zero_add, Nat.sub_zero], q8.1, q8.2.1, q8.2.2.1, q8.2.2.2.1, q8.2.2.2.2.1, q8.2.2.2.2.2.1, q8.2.2.2.2.2.2.1, by rw [q8.2.2.2.2.2.2.2.1, e7, g_row_eq], q8.2.2.2.2.2.2.2.2.1, q8.2.2.2.2.2.2.2.2.2⟩
theorem f_X7 (hk : sh0.length = k) (kk : ∀ D' : g_D, (∀ i, i < k ∨ k + 12 ≤ i → D' i = D i) → K D') : kc_X7 E l sh0 D K := by
  subst hk
  refine sc_X7 (fun _ => ?_)
  intro D1 e1
  intro D2 e2
  intro D3 e3
  intro D4 e4
  intro D5 e5
  intro D6 e6
  refine f_X6 (k := sh0.length + 6) (by rw [List.length_append]; rfl) (fun D7 f7 => ?_)
  intro D8 e8
  intro D9 e9
  refine kk D9 (fun i hi => by rw [e9, g_row_ne (by omega), e8, g_row_ne (by omega), f7 i (by omega), e6, g_row_ne (by omega), e5, g_row_ne (by omega), e4, g_row_ne (by omega), e3, g_row_ne (by omega), e2, g_row_ne (by omega), e1, g_row_ne (by omega)])
theorem f_X4 (hk : sh0.length = k) (kk : ∀ D' : g_D, (∀ i, i < k ∨ k + 7 ≤ i → D' i = D i) → K D') : kc_X4 E l sh0 D K := by
  subst hk
  refine sc_X4 (fun _ => ?_)
  intro D1 e1
  intro D2 e2
  intro D3 e3
  intro D4 e4
  intro D5 e5
  refine f_X0 (k := sh0.length + 5) (by rw [List.length_append]; rfl) (by decide) (by decide) (fun D6 e6 => ?_)
  refine kk D6 (fun i hi => by rw [e6, g_row_ne (by omega), e5, g_row_ne (by omega), e4, g_row_ne (by omega), e3, g_row_ne (by omega), e2, g_row_ne (by omega), e1, g_row_ne (by omega)])
theorem f_X1 (hk : sh0.length = k) (kk : ∀ D' : g_D, (∀ i, i < k ∨ k + 23 ≤ i → D' i = D i) → K D') : kc_X1 E l sh0 D K := by
  subst hk
  refine sc_X1 (fun _ => ?_)
  intro D1 e1
  refine f_X5 (k := sh0.length + 1) (by rw [List.length_append]; rfl) (fun D2 f2 q2 => ?_)
  intro D3 e3
  refine f_X0 (k := sh0.length + 6) (by rw [List.length_append]; rfl) (by decide) (by decide) (fun D4 e4 => ?_)
  intro D5 e5
  intro D6 e6
  intro D7 e7
  intro D8 e8
  intro D9 e9
  intro D10 e10
  refine f_X2 (k := sh0.length + 13) (by rw [List.length_append]; rfl) (fun D11 f11 q11 => ?_)
  intro D12 e12
  intro D13 e13
  refine kk D13 (fun i hi => by rw [e13, g_row_ne (by omega), e12, g_row_ne (by omega), f11 i (by omega), e10, g_row_ne (by omega), e9, g_row_ne (by omega), e8, g_row_ne (by omega), e7, g_row_ne (by omega), e6, g_row_ne (by omega), e5, g_row_ne (by omega), e4, g_row_ne (by omega), e3, g_row_ne (by omega), f2 i (by omega), e1, g_row_ne (by omega)])
theorem f_X10 (hk : sh0.length = k) (kk : ∀ D' : g_D, (∀ i, i < k ∨ k + 10 ≤ i → D' i = D i) → K D') : kc_X10 E l sh0 D K := by
  subst hk
  refine sc_X10 (fun _ => ?_)
  intro D1 e1
  refine f_X2 (k := sh0.length + 1) (by rw [List.length_append]; rfl) (fun D2 f2 q2 => ?_)
  intro D3 e3
  refine c_fill (n0 := 4) (by rw [List.getElem?_append_right (by omega), show sh0.length + 9 - sh0.length = 9 by omega]; rfl) (by omega) (fun D4 f4 y4 => ?_)
  refine kk D4 (fun i hi => by rw [f4 i (by omega), e3, g_row_ne (by omega), f2 i (by omega), e1, g_row_ne (by omega)])
theorem f_X3 (hk : sh0.length = k) (kk : ∀ D' : g_D, (∀ i, i ≤ k ∨ k + 82 ≤ i → D' i = D i) → K D') : kc_X3 E l sh0 D K := by
  subst hk
  refine sc_X3 (fun _ => ?_)
  intro D1 e1
  intro D2 e2
  refine f_X2 (k := sh0.length + 2) (by rw [List.length_append]; rfl) (fun D3 f3 q3 => ?_)
  intro D4 e4
  refine f_X2 (k := sh0.length + 10) (by rw [List.length_append]; rfl) (fun D5 f5 q5 => ?_)
  intro D6 e6
  refine f_X2 (k := sh0.length + 18) (by rw [List.length_append]; rfl) (fun D7 f7 q7 => ?_)
  intro D8 e8
  refine f_X2 (k := sh0.length + 26) (by rw [List.length_append]; rfl) (fun D9 f9 q9 => ?_)
  intro D10 e10
  refine f_X2 (k := sh0.length + 34) (by rw [List.length_append]; rfl) (fun D11 f11 q11 => ?_)
  intro D12 e12
  refine f_X2 (k := sh0.length + 42) (by rw [List.length_append]; rfl) (fun D13 f13 q13 => ?_)
  intro D14 e14
  refine f_X2 (k := sh0.length + 50) (by rw [List.length_append]; rfl) (fun D15 f15 q15 => ?_)
  intro D16 e16
  refine f_X2 (k := sh0.length + 58) (by rw [List.length_append]; rfl) (fun D17 f17 q17 => ?_)
  intro D18 e18
  refine f_X2 (k := sh0.length + 66) (by rw [List.length_append]; rfl) (fun D19 f19 q19 => ?_)
  intro D20 e20
  refine f_X2 (k := sh0.length + 74) (by rw [List.length_append]; rfl) (fun D21 f21 q21 => ?_)
  refine kk D21 (fun i hi => by rw [f21 i (by omega), e20, g_row_ne (by omega), f19 i (by omega), e18, g_row_ne (by omega), f17 i (by omega), e16, g_row_ne (by omega), f15 i (by omega), e14, g_row_ne (by omega), f13 i (by omega), e12, g_row_ne (by omega), f11 i (by omega), e10, g_row_ne (by omega), f9 i (by omega), e8, g_row_ne (by omega), f7 i (by omega), e6, g_row_ne (by omega), f5 i (by omega), e4, g_row_ne (by omega), f3 i (by omega), e2, g_row_ne (by omega), e1, g_row_ne (by omega)])
def q_n11 (E : g_E) (D' : g_D) : Prop := q_new E D' 1 ∧ (∀ q, D' 44 q = 0) ∧ D' 45 1 = 0 ∧ D' 47 5 = 0 ∧ D' 47 6 = -1 ∧ D' 52 1 = 0 ∧ D' 52 2 = 0 ∧ D' 0 13 = 1 ∧ D' 0 14 = 1 ∧ D' 0 15 = 1
theorem q_new.fr {D D' : g_D} {k : Nat} (h : q_new E D k) (e : ∀ i, k + 1 ≤ i → i ≤ k + 12 → D' i = D i) : q_new E D' k := by
  unfold q_new at *
  rw [e (k + 1) (by omega) (by omega), e (k + 3) (by omega) (by omega), e (k + 5) (by omega) (by omega), e (k + 6 + 1) (by omega) (by omega), e (k + 6 + 2) (by omega) (by omega), e (k + 6 + 3) (by omega) (by omega), e (k + 6 + 4) (by omega) (by omega), e (k + 6 + 5) (by omega) (by omega), e (k + 6 + 6) (by omega) (by omega), e (k + 6) (by omega) (by omega)]
  exact h
set_option maxRecDepth 20000 in
theorem f_X11 (hk : sh0.length = 0) (kk : ∀ D' : g_D, q_n11 E D' → K D') : kc_X11 E l sh0 D K := by
  refine sc_X11 (fun _ => ?_)
  intro D1 e1
  rw [show sh0.length + 1 = 1 by omega] at e1
  refine f_X8 (k := 1) (by rw [List.length_append, hk]; rfl) (fun D2 f2 q2 => ?_)
  intro D3 e3
  rw [show sh0.length + 15 = 15 by omega] at e3
  intro D4 e4
  rw [show sh0.length + 16 = 16 by omega] at e4
  refine f_X8 (k := 16) (by rw [List.length_append, hk]; rfl) (fun D5 f5 q5 => ?_)
  intro D6 e6
  rw [show sh0.length + 30 = 30 by omega] at e6
  refine f_X8 (k := 30) (by rw [List.length_append, hk]; rfl) (fun D7 f7 q7 => ?_)
  intro D8 e8
  rw [show sh0.length + 44 = 44 by omega] at e8
  intro D9 e9
  rw [show sh0.length + 45 = 45 by omega] at e9
  refine f_X0 (k := 45) (by rw [List.length_append, hk]; rfl) (by decide) (by decide) (fun D10 e10 => ?_)
  intro D11 e11
  rw [show sh0.length + 47 = 47 by omega] at e11
  refine f_X5 (k := 47) (by rw [List.length_append, hk]; rfl) (fun D12 f12 q12 => ?_)
  intro D13 e13
  rw [show sh0.length + 52 = 52 by omega] at e13
  refine f_X3 (k := 52) (by rw [List.length_append, hk]; rfl) (fun D14 f14 => ?_)
  intro D15 e15
  rw [show sh0.length + 134 = 134 by omega] at e15
  refine f_X9 (k := 134) (by rw [List.length_append, hk]; rfl) (fun D16 f16 => ?_)
  intro D17 e17
  rw [show sh0.length + 137 = 137 by omega] at e17
  refine f_X7 (k := 137) (by rw [List.length_append, hk]; rfl) (fun D18 f18 => ?_)
  intro D19 e19
  rw [show sh0.length + 149 = 149 by omega] at e19
  refine f_X4 (k := 149) (by rw [List.length_append, hk]; rfl) (fun D20 f20 => ?_)
  intro D21 e21
  rw [show sh0.length + 156 = 156 by omega] at e21
  refine f_X7 (k := 156) (by rw [List.length_append, hk]; rfl) (fun D22 f22 => ?_)
  intro D23 e23
  rw [show sh0.length + 168 = 168 by omega] at e23
  refine f_X4 (k := 168) (by rw [List.length_append, hk]; rfl) (fun D24 f24 => ?_)
  intro D25 e25
  rw [show sh0.length + 175 = 175 by omega] at e25
  refine f_X1 (k := 175) (by rw [List.length_append, hk]; rfl) (fun D26 f26 => ?_)
  intro D27 e27
  rw [show sh0.length + 198 = 198 by omega] at e27
  refine f_X10 (k := 198) (by rw [List.length_append, hk]; rfl) (fun D28 f28 => ?_)
  intro D29 e29
  rw [show sh0.length + 0 = 0 by omega] at e29
  intro D30 e30
  rw [show sh0.length + 0 = 0 by omega] at e30
  intro D31 e31
  rw [show sh0.length + 0 = 0 by omega] at e31
  refine kk D31 ⟨q2.fr (fun i a c => by rw [e31, g_up_ne (by omega), e30, g_up_ne (by omega), e29, g_up_ne (by omega), f28 i (by omega), e27, g_row_ne (by omega), f26 i (by omega), e25, g_row_ne (by omega), f24 i (by omega), e23, g_row_ne (by omega), f22 i (by omega), e21, g_row_ne (by omega), f20 i (by omega), e19, g_row_ne (by omega), f18 i (by omega), e17, g_row_ne (by omega), f16 i (by omega), e15, g_row_ne (by omega), f14 i (by omega), e13, g_row_ne (by omega), f12 i (by omega), e11, g_row_ne (by omega), e10, g_row_ne (by omega), e9, g_row_ne (by omega), e8, g_row_ne (by omega), f7 i (by omega), e6, g_row_ne (by omega), f5 i (by omega), e4, g_row_ne (by omega), e3, g_row_ne (by omega)]), fun q => by rw [e31, g_up_ne (by omega), e30, g_up_ne (by omega), e29, g_up_ne (by omega), f28 44 (by omega), e27, g_row_ne (by omega), f26 44 (by omega), e25, g_row_ne (by omega), f24 44 (by omega), e23, g_row_ne (by omega), f22 44 (by omega), e21, g_row_ne (by omega), f20 44 (by omega), e19, g_row_ne (by omega), f18 44 (by omega), e17, g_row_ne (by omega), f16 44 (by omega), e15, g_row_ne (by omega), f14 44 (by omega), e13, g_row_ne (by omega), f12 44 (by omega), e11, g_row_ne (by omega), e10, g_row_ne (by omega), e9, g_row_ne (by omega), e8, g_row_eq], by rw [e31, g_up_ne (by omega), e30, g_up_ne (by omega), e29, g_up_ne (by omega), f28 45 (by omega), e27, g_row_ne (by omega), f26 45 (by omega), e25, g_row_ne (by omega), f24 45 (by omega), e23, g_row_ne (by omega), f22 45 (by omega), e21, g_row_ne (by omega), f20 45 (by omega), e19, g_row_ne (by omega), f18 45 (by omega), e17, g_row_ne (by omega), f16 45 (by omega), e15, g_row_ne (by omega), f14 45 (by omega), e13, g_row_ne (by omega), f12 45 (by omega), e11, g_row_ne (by omega), e10, g_row_ne (by omega), e9, g_row_eq], ?_, ?_, by rw [e31, g_up_ne (by omega), e30, g_up_ne (by omega), e29, g_up_ne (by omega), f28 52 (by omega), e27, g_row_ne (by omega), f26 52 (by omega), e25, g_row_ne (by omega), f24 52 (by omega), e23, g_row_ne (by omega), f22 52 (by omega), e21, g_row_ne (by omega), f20 52 (by omega), e19, g_row_ne (by omega), f18 52 (by omega), e17, g_row_ne (by omega), f16 52 (by omega), e15, g_row_ne (by omega), f14 52 (by omega), e13, g_row_eq], by rw [e31, g_up_ne (by omega), e30, g_up_ne (by omega), e29, g_up_ne (by omega), f28 52 (by omega), e27, g_row_ne (by omega), f26 52 (by omega), e25, g_row_ne (by omega), f24 52 (by omega), e23, g_row_ne (by omega), f22 52 (by omega), e21, g_row_ne (by omega), f20 52 (by omega), e19, g_row_ne (by omega), f18 52 (by omega), e17, g_row_ne (by omega), f16 52 (by omega), e15, g_row_ne (by omega), f14 52 (by omega), e13, g_row_eq], by rw [e31, g_up_at (by decide), e30, g_up_at (by decide), e29, g_up_eq], by rw [e31, g_up_at (by decide), e30, g_up_eq], by rw [e31, g_up_eq]⟩
  · rw [e31, g_up_ne (by omega), e30, g_up_ne (by omega), e29, g_up_ne (by omega), f28 47 (by omega), e27, g_row_ne (by omega), f26 47 (by omega), e25, g_row_ne (by omega), f24 47 (by omega), e23, g_row_ne (by omega), f22 47 (by omega), e21, g_row_ne (by omega), f20 47 (by omega), e19, g_row_ne (by omega), f18 47 (by omega), e17, g_row_ne (by omega), f16 47 (by omega), e15, g_row_ne (by omega), f14 47 (by omega), e13, g_row_ne (by omega), q12.2 5 (by decide), e11, g_row_eq]
  · rw [e31, g_up_ne (by omega), e30, g_up_ne (by omega), e29, g_up_ne (by omega), f28 47 (by omega), e27, g_row_ne (by omega), f26 47 (by omega), e25, g_row_ne (by omega), f24 47 (by omega), e23, g_row_ne (by omega), f22 47 (by omega), e21, g_row_ne (by omega), f20 47 (by omega), e19, g_row_ne (by omega), f18 47 (by omega), e17, g_row_ne (by omega), f16 47 (by omega), e15, g_row_ne (by omega), f14 47 (by omega), e13, g_row_ne (by omega)]; exact q12.1
theorem f_X12 (hk : sh0.length = 208) (hSH : sh0 ++ cl_X12 sh0.length = g_SH) (kk : ∀ D1 : g_D, (∀ i, i < 208 → D1 i = D i) → D1 208 5 = D 208 5 → D1 208 40 = D 208 40 → D1 208 41 = -1 → (∀ j, D1 209 j = if j = 5 then 8 else if j = 2 then 3 else 0) → (∀ j, D1 211 j = 0) → k_X12_burns E l D1 (fun D2 => K D2)) : kc_X12 E l sh0 D K := by
  refine sc_X12 hk hSH (fun _ => ?_)
  intro D1 e1
  rw [show sh0.length + 1 = 209 by omega] at e1
  intro D2 e2
  rw [show sh0.length + 2 = 210 by omega] at e2
  intro D3 e3
  rw [show sh0.length + 3 = 211 by omega] at e3
  intro D4 e4
  rw [show sh0.length + 4 = 212 by omega] at e4
  intro D5 e5
  rw [show sh0.length + 5 = 213 by omega] at e5
  intro D6 e6
  rw [show sh0.length + 6 = 214 by omega] at e6
  intro D7 e7
  rw [show sh0.length + 7 = 215 by omega] at e7
  intro D8 e8
  rw [show sh0.length + 8 = 216 by omega] at e8
  intro D9 e9
  rw [show sh0.length + 9 = 217 by omega] at e9
  intro D10 e10
  rw [show sh0.length + 10 = 218 by omega] at e10
  intro D11 e11
  rw [show sh0.length + 11 = 219 by omega] at e11
  intro D12 e12
  rw [show sh0.length + 12 = 220 by omega] at e12
  intro D13 e13
  rw [show sh0.length + 13 = 221 by omega] at e13
  intro D14 e14
  rw [show sh0.length + 14 = 222 by omega] at e14
  intro D15 e15
  rw [show sh0.length + 15 = 223 by omega] at e15
  intro D16 e16
  rw [show sh0.length + 16 = 224 by omega] at e16
  intro D17 e17
  rw [show sh0.length + 17 = 225 by omega] at e17
  intro D18 e18
  rw [show sh0.length + 18 = 226 by omega] at e18
  intro D19 e19
  rw [show sh0.length + 19 = 227 by omega] at e19
  intro D20 e20
  rw [show sh0.length + 20 = 228 by omega] at e20
  intro D21 e21
  rw [show sh0.length + 21 = 229 by omega] at e21
  intro D22 e22
  rw [show sh0.length + 22 = 230 by omega] at e22
  intro D23 e23
  rw [show sh0.length + 23 = 231 by omega] at e23
  intro D24 e24
  rw [show sh0.length + 24 = 232 by omega] at e24
  intro D25 e25
  rw [show sh0.length + 25 = 233 by omega] at e25
  intro D26 e26
  rw [show sh0.length + 26 = 234 by omega] at e26
  intro D27 e27
  rw [show sh0.length + 0 = 208 by omega] at e27
  intro D28 e28
  rw [show sh0.length + 27 = 235 by omega] at e28
  intro D29 e29
  rw [show sh0.length + 28 = 236 by omega] at e29
  intro D30 e30
  rw [show sh0.length + 29 = 237 by omega] at e30
  intro D31 e31
  rw [show sh0.length + 30 = 238 by omega] at e31
  intro D32 e32
  rw [show sh0.length + 31 = 239 by omega] at e32
  intro D33 e33
  rw [show sh0.length + 32 = 240 by omega] at e33
  intro D34 e34
  rw [show sh0.length + 33 = 241 by omega] at e34
  intro D35 e35
  rw [show sh0.length + 0 = 208 by omega] at e35
  intro D36 e36
  rw [show sh0.length + 1 = 209 by omega] at e36
  intro D37 e37
  rw [show sh0.length + 1 = 209 by omega] at e37
  refine kk D37 (fun i hi => by rw [e37, g_up_ne (by omega), e36, g_up_ne (by omega), e35, g_up_ne (by omega), e34, g_row_ne (by omega), e33, g_row_ne (by omega), e32, g_row_ne (by omega), e31, g_row_ne (by omega), e30, g_row_ne (by omega), e29, g_row_ne (by omega), e28, g_row_ne (by omega), e27, g_up_ne (by omega), e26, g_row_ne (by omega), e25, g_row_ne (by omega), e24, g_row_ne (by omega), e23, g_row_ne (by omega), e22, g_row_ne (by omega), e21, g_row_ne (by omega), e20, g_row_ne (by omega), e19, g_row_ne (by omega), e18, g_row_ne (by omega), e17, g_row_ne (by omega), e16, g_row_ne (by omega), e15, g_row_ne (by omega), e14, g_row_ne (by omega), e13, g_row_ne (by omega), e12, g_row_ne (by omega), e11, g_row_ne (by omega), e10, g_row_ne (by omega), e9, g_row_ne (by omega), e8, g_row_ne (by omega), e7, g_row_ne (by omega), e6, g_row_ne (by omega), e5, g_row_ne (by omega), e4, g_row_ne (by omega), e3, g_row_ne (by omega), e2, g_row_ne (by omega), e1, g_row_ne (by omega)]) (by rw [e37, g_up_ne (by decide), e36, g_up_ne (by decide), e35, g_up_at (by decide), e34, g_row_ne (by decide), e33, g_row_ne (by decide), e32, g_row_ne (by decide), e31, g_row_ne (by decide), e30, g_row_ne (by decide), e29, g_row_ne (by decide), e28, g_row_ne (by decide), e27, g_up_at (by decide), e26, g_row_ne (by decide), e25, g_row_ne (by decide), e24, g_row_ne (by decide), e23, g_row_ne (by decide), e22, g_row_ne (by decide), e21, g_row_ne (by decide), e20, g_row_ne (by decide), e19, g_row_ne (by decide), e18, g_row_ne (by decide), e17, g_row_ne (by decide), e16, g_row_ne (by decide), e15, g_row_ne (by decide), e14, g_row_ne (by decide), e13, g_row_ne (by decide), e12, g_row_ne (by decide), e11, g_row_ne (by decide), e10, g_row_ne (by decide), e9, g_row_ne (by decide), e8, g_row_ne (by decide), e7, g_row_ne (by decide), e6, g_row_ne (by decide), e5, g_row_ne (by decide), e4, g_row_ne (by decide), e3, g_row_ne (by decide), e2, g_row_ne (by decide), e1, g_row_ne (by decide)]) (by rw [e37, g_up_ne (by decide), e36, g_up_ne (by decide), e35, g_up_at (by decide), e34, g_row_ne (by decide), e33, g_row_ne (by decide), e32, g_row_ne (by decide), e31, g_row_ne (by decide), e30, g_row_ne (by decide), e29, g_row_ne (by decide), e28, g_row_ne (by decide), e27, g_up_at (by decide), e26, g_row_ne (by decide), e25, g_row_ne (by decide), e24, g_row_ne (by decide), e23, g_row_ne (by decide), e22, g_row_ne (by decide), e21, g_row_ne (by decide), e20, g_row_ne (by decide), e19, g_row_ne (by decide), e18, g_row_ne (by decide), e17, g_row_ne (by decide), e16, g_row_ne (by decide), e15, g_row_ne (by decide), e14, g_row_ne (by decide), e13, g_row_ne (by decide), e12, g_row_ne (by decide), e11, g_row_ne (by decide), e10, g_row_ne (by decide), e9, g_row_ne (by decide), e8, g_row_ne (by decide), e7, g_row_ne (by decide), e6, g_row_ne (by decide), e5, g_row_ne (by decide), e4, g_row_ne (by decide), e3, g_row_ne (by decide), e2, g_row_ne (by decide), e1, g_row_ne (by decide)]) (by rw [e37, g_up_ne (by decide), e36, g_up_ne (by decide), e35, g_up_at (by decide), e34, g_row_ne (by decide), e33, g_row_ne (by decide), e32, g_row_ne (by decide), e31, g_row_ne (by decide), e30, g_row_ne (by decide), e29, g_row_ne (by decide), e28, g_row_ne (by decide), e27, g_up_eq]) (fun j => ?_) (fun j => by rw [e37, g_up_ne (by omega), e36, g_up_ne (by omega), e35, g_up_ne (by omega), e34, g_row_ne (by omega), e33, g_row_ne (by omega), e32, g_row_ne (by omega), e31, g_row_ne (by omega), e30, g_row_ne (by omega), e29, g_row_ne (by omega), e28, g_row_ne (by omega), e27, g_up_ne (by omega), e26, g_row_ne (by omega), e25, g_row_ne (by omega), e24, g_row_ne (by omega), e23, g_row_ne (by omega), e22, g_row_ne (by omega), e21, g_row_ne (by omega), e20, g_row_ne (by omega), e19, g_row_ne (by omega), e18, g_row_ne (by omega), e17, g_row_ne (by omega), e16, g_row_ne (by omega), e15, g_row_ne (by omega), e14, g_row_ne (by omega), e13, g_row_ne (by omega), e12, g_row_ne (by omega), e11, g_row_ne (by omega), e10, g_row_ne (by omega), e9, g_row_ne (by omega), e8, g_row_ne (by omega), e7, g_row_ne (by omega), e6, g_row_ne (by omega), e5, g_row_ne (by omega), e4, g_row_ne (by omega), e3, g_row_eq])
  have z9 : D35 209 j = 0 := by rw [e35, g_up_ne (by omega), e34, g_row_ne (by omega), e33, g_row_ne (by omega), e32, g_row_ne (by omega), e31, g_row_ne (by omega), e30, g_row_ne (by omega), e29, g_row_ne (by omega), e28, g_row_ne (by omega), e27, g_up_ne (by omega), e26, g_row_ne (by omega), e25, g_row_ne (by omega), e24, g_row_ne (by omega), e23, g_row_ne (by omega), e22, g_row_ne (by omega), e21, g_row_ne (by omega), e20, g_row_ne (by omega), e19, g_row_ne (by omega), e18, g_row_ne (by omega), e17, g_row_ne (by omega), e16, g_row_ne (by omega), e15, g_row_ne (by omega), e14, g_row_ne (by omega), e13, g_row_ne (by omega), e12, g_row_ne (by omega), e11, g_row_ne (by omega), e10, g_row_ne (by omega), e9, g_row_ne (by omega), e8, g_row_ne (by omega), e7, g_row_ne (by omega), e6, g_row_ne (by omega), e5, g_row_ne (by omega), e4, g_row_ne (by omega), e3, g_row_ne (by omega), e2, g_row_ne (by omega), e1, g_row_eq]
  rw [e37]
  by_cases h5 : j = 5
  · rw [h5, g_up_eq, if_pos rfl]
  · rw [g_up_at h5, if_neg h5, e36]
    by_cases h2 : j = 2
    · rw [h2, g_up_eq, if_pos rfl]
    · rw [g_up_at h2, if_neg h2]; exact z9
end CTOR
end