section
/-! a device of the class beside a row of numbers of the model -/
def q_d1 (D : g_D) (k : Nat) (M : Nat → Int) : Prop := (∀ i, i < 40 → D (k + 1) i = M i) ∧ (∀ i, i < 20 → D (k + 2) i = M (40 + i)) ∧ (∀ i, i < 40 → D (k + 3) i = M (67 + i)) ∧ (∀ i, i < 20 → D (k + 4) i = M (107 + i)) ∧ q_by M 60 ∧ q_by (fun i => M (67 + i)) 60
def q_d2 (D : g_D) (k : Nat) (b : Nat → Int) (N na : Nat) : Prop := D (k + 5) 1 = N ∧ N ≤ 160 ∧ (∀ x, x < N → D (k + 6) x = b x) ∧ q_by b N ∧ r_all b N = (na, 0, -1)
def q_d3 (M b : Nat → Int) (na : Nat) : Prop := M 127 = na ∧ ∀ i, i < na → M (128 + 4 * i) = a_k b i ∧ M (128 + 4 * i + 1) = a_to b i ∧ M (128 + 4 * i + 2) = a_fr b i ∧ M (128 + 4 * i + 3) = a_ln b i ∧ (a_k b i = 4 → r_Q b i + n_ln b i ≤ 160) ∧ (a_k b i = 4 → ∀ t, t < n_ln b i → M (272 + r_Q b i + t) = b (r_P b i + 3 + t))
def q_d4 (D : g_D) (k : Nat) (M : Nat → Int) (c : Nat) : Prop := D k 9 = M 60 ∧ (M 60 = 0 ∨ M 60 = 1) ∧ (∃ s : Nat, D k 7 = s ∧ s ≤ c) ∧ (D k 8 = 0 ∨ D k 8 = 1) ∧ M 61 = (if D k 8 = 0 then -1 else D k 7) ∧ M 62 = D k 6 ∧ (D k 6 = -1 ∨ (0 ≤ D k 6 ∧ D k 6 ≤ 9)) ∧ (∀ t, t < 4 → M (63 + t) = if D k 6 = -1 then 0 else D (k + 7) t) ∧ (¬ D k 6 = -1 → ∀ t, t < 4 → 0 ≤ D (k + 7) t ∧ D (k + 7) t ≤ 255) ∧ (D k 9 = 1 → D k 6 = -1 ∧ D k 8 = 1) ∧ (D k 8 = 1 → ¬ D k 6 = -1 → D k 7 < c)
def q_dv (D : g_D) (k : Nat) (M b : Nat → Int) (N na : Nat) : Prop := q_d1 D k M ∧ q_d2 D k b N na ∧ q_d3 M b na ∧ q_d4 D k M (t_o b na)
theorem q_dv.A {D : g_D} {k N na : Nat} {M b : Nat → Int} (h : q_dv D k M b N na) : q_A b N na := r_all_A h.2.1.2.1 h.2.1.2.2.2.2
theorem q_dv.fr {D D' : g_D} {k N na : Nat} {M b : Nat → Int} (h : q_dv D k M b N na) (e : ∀ i, k ≤ i → i ≤ k + 7 → D' i = D i) : q_dv D' k M b N na := by
  unfold q_dv q_d1 q_d2 q_d4 at *
  rw [e k (by omega) (by omega), e (k + 1) (by omega) (by omega), e (k + 2) (by omega) (by omega), e (k + 3) (by omega) (by omega), e (k + 4) (by omega) (by omega), e (k + 5) (by omega) (by omega), e (k + 6) (by omega) (by omega), e (k + 7) (by omega) (by omega)]
  exact h
theorem q_d3.M {M M' b : Nat → Int} {na : Nat} (h : q_d3 M b na) (hn : na ≤ 36) (e : ∀ i, 127 ≤ i → i < 432 → M' i = M i) : q_d3 M' b na := by
  refine ⟨by rw [e 127 (by omega) (by omega)]; exact h.1, fun i hi => ?_⟩
  obtain ⟨h1, h2, h3, h4, h5, h6⟩ := h.2 i hi
  refine ⟨by rw [e _ (by omega) (by omega)]; exact h1, by rw [e _ (by omega) (by omega)]; exact h2, by rw [e _ (by omega) (by omega)]; exact h3, by rw [e _ (by omega) (by omega)]; exact h4, h5, fun q t ht => ?_⟩
  have h5q := h5 q
  rw [e _ (by omega) (by omega)]; exact h6 q t ht
theorem q_dv.M {D : g_D} {k N na : Nat} {M M' b : Nat → Int} (h : q_dv D k M b N na) (e : ∀ i, i < 432 → M' i = M i) : q_dv D k M' b N na := by
  have hn := h.A.2.1
  obtain ⟨⟨a1, a2, a3, a4, a5, a6⟩, h2, h3, ⟨d1, d2, d3, d4, d5, d6, d7, d8, d9, d10, d11⟩⟩ := h
  refine ⟨⟨fun i hi => ?_, fun i hi => ?_, fun i hi => ?_, fun i hi => ?_, fun i hi => ?_, fun i hi => ?_⟩, h2, h3.M hn (fun i _ hi => e i hi), ⟨?_, ?_, d3, d4, ?_, ?_, d7, fun t ht => ?_, d9, d10, d11⟩⟩
  · rw [e i (by omega)]; exact a1 i hi
  · rw [e _ (by omega)]; exact a2 i hi
  · rw [e _ (by omega)]; exact a3 i hi
  · rw [e _ (by omega)]; exact a4 i hi
  · rw [e i (by omega)]; exact a5 i hi
  · show 0 ≤ M' (67 + i) ∧ M' (67 + i) ≤ 255
    rw [e _ (by omega)]; exact a6 i hi
  · rw [e 60 (by omega)]; exact d1
  · rw [e 60 (by omega)]; exact d2
  · rw [e 61 (by omega)]; exact d5
  · rw [e 62 (by omega)]; exact d6
  · rw [e _ (by omega)]; exact d8 t ht
theorem q_d3.act {D : g_D} {b : Nat → Int} {na : Nat} (h : q_d3 (fun i => D 209 (86 + i)) b na) : m_act D b na := by
  refine ⟨h.1, fun i hi => ?_⟩
  obtain ⟨h1, h2, h3, h4, h5, h6⟩ := h.2 i hi
  dsimp only at h1 h2 h3 h4 h6
  refine ⟨?_, ?_, ?_, ?_, h5, fun q t ht => ?_⟩
  · rw [show 214 + 4 * i = 86 + (128 + 4 * i) by omega]; exact h1
  · rw [show 214 + 4 * i + 1 = 86 + (128 + 4 * i + 1) by omega]; exact h2
  · rw [show 214 + 4 * i + 2 = 86 + (128 + 4 * i + 2) by omega]; exact h3
  · rw [show 214 + 4 * i + 3 = 86 + (128 + 4 * i + 3) by omega]; exact h4
  · rw [show 358 + r_Q b i + t = 86 + (272 + r_Q b i + t) by omega]; exact h6 q t ht
theorem q_d3.of {D : g_D} {b : Nat → Int} {na : Nat} (h : m_act D b na) : q_d3 (fun i => D 209 (86 + i)) b na := by
  refine ⟨h.1, fun i hi => ?_⟩
  obtain ⟨h1, h2, h3, h4, h5, h6⟩ := h.2 i hi
  refine ⟨?_, ?_, ?_, ?_, h5, fun q t ht => ?_⟩
  · show D 209 (86 + (128 + 4 * i)) = _
    rw [show 86 + (128 + 4 * i) = 214 + 4 * i by omega]; exact h1
  · show D 209 (86 + (128 + 4 * i + 1)) = _
    rw [show 86 + (128 + 4 * i + 1) = 214 + 4 * i + 1 by omega]; exact h2
  · show D 209 (86 + (128 + 4 * i + 2)) = _
    rw [show 86 + (128 + 4 * i + 2) = 214 + 4 * i + 2 by omega]; exact h3
  · show D 209 (86 + (128 + 4 * i + 3)) = _
    rw [show 86 + (128 + 4 * i + 3) = 214 + 4 * i + 3 by omega]; exact h4
  · show D 209 (86 + (272 + r_Q b i + t)) = _
    rw [show 86 + (272 + r_Q b i + t) = 358 + r_Q b i + t by omega]; exact h6 q t ht
/-- device k is a copy of device r -/
def q_cp (D D' : g_D) (k r N : Nat) : Prop := (∀ i, i < 40 → D' (k + 1) i = D (r + 1) i) ∧ (∀ i, i < 20 → D' (k + 2) i = D (r + 2) i) ∧ (∀ i, i < 40 → D' (k + 3) i = D (r + 3) i) ∧ (∀ i, i < 20 → D' (k + 4) i = D (r + 4) i) ∧ D' (k + 5) 1 = N ∧ (∀ i, i < N → D' (k + 6) i = D (r + 6) i) ∧ (∀ i, i < 4 → D' (k + 7) i = D (r + 7) i) ∧ D' k 6 = D r 6 ∧ D' k 7 = D r 7 ∧ D' k 8 = D r 8 ∧ D' k 9 = D r 9
theorem q_cp.dv {D D' : g_D} {k r N na : Nat} {M b : Nat → Int} (h : q_cp D D' k r N) (hd : q_dv D r M b N na) : q_dv D' k M b N na := by
  obtain ⟨c1, c2, c3, c4, c5, c6, c7, f6, f7, f8, f9⟩ := h
  obtain ⟨⟨a1, a2, a3, a4, a5, a6⟩, ⟨b1, b2, b3, b4, b5⟩, h3, ⟨d1, d2, d3, d4, d5, d6, d7, d8, d9, d10, d11⟩⟩ := hd
  refine ⟨⟨fun i hi => ?_, fun i hi => ?_, fun i hi => ?_, fun i hi => ?_, a5, a6⟩, ⟨c5, b2, fun i hi => ?_, b4, b5⟩, h3, ?_⟩
  · rw [c1 i hi]; exact a1 i hi
  · rw [c2 i hi]; exact a2 i hi
  · rw [c3 i hi]; exact a3 i hi
  · rw [c4 i hi]; exact a4 i hi
  · rw [c6 i hi]; exact b3 i hi
  · unfold q_d4
    rw [f6, f7, f8, f9]
    refine ⟨d1, d2, d3, d4, d5, d6, d7, fun t ht => ?_, fun q t ht => ?_, d10, d11⟩
    · rw [c7 t ht]; exact d8 t ht
    · rw [c7 t ht]; exact d9 q t ht
section REL
variable {E : g_E} {l : Launch} {sh : List g_Sh} {D : g_D} {M b : Nat → Int} {N na : Nat}
theorem c_X2_copyFrom {K : g_D → Prop} {k r : Nat} (hk : is_Device g_SH k) (hr : is_Device g_SH r) (hkr : k + 8 ≤ r ∨ r + 8 ≤ k) (hN : D (r + 5) 1 = N) (hN2 : N ≤ 160) (h8 : D r 8 = 0 ∨ D r 8 = 1) (h9 : D r 9 = 0 ∨ D r 9 = 1)
    (kk : ∀ D' : g_D, (∀ i, ¬ (k ≤ i ∧ i ≤ k + 7) → D' i = D i) → q_cp D D' k r N → K D') : k_X2_copyFrom E l D k r K := by
  refine s_X2_copyFrom hk hr (fun _ => ⟨by decide, fun D1 e1 => ⟨by decide, fun D2 e2 => ⟨by decide, fun D3 e3 => ⟨by decide, fun D4 e4 => ?_⟩⟩⟩⟩)
  have f4 : ∀ i, ¬ (k + 1 ≤ i ∧ i ≤ k + 4) → D4 i = D i := fun i hi => by rw [e4, g_cpy, g_row_ne (by omega), e3, g_cpy, g_row_ne (by omega), e2, g_cpy, g_row_ne (by omega), e1, g_cpy, g_row_ne (by omega)]
  have hN4 : D4 (r + 5) 1 = N := by rw [f4 (r + 5) (by omega)]; exact hN
  rw [hN4]
  refine c_X0_copyFirst (c := D (r + 6)) (s := N) ⟨hk.2.2.2.2.2.1, hk.2.2.2.2.2.2.1⟩ ⟨hr.2.2.2.2.2.1, hr.2.2.2.2.2.2.1⟩ hN4 hN2 (Nat.le_refl _) hN2 (by decide) (by omega) (fun i hi => by rw [show r + 5 + 1 = r + 6 from rfl, f4 (r + 6) (by omega)]) (fun D5 f5 g1 g2 g3 _ => ⟨by decide, fun D6 e6 D7 e7 D8 e8 => ?_⟩)
  have f6 : ∀ i, i ≠ k + 5 → i ≠ k + 6 → i ≠ k + 7 → D6 i = D4 i := fun i a c d => by rw [e6, g_cpy, g_row_ne d, f5 i a c]
  have fr : ∀ j, D6 r j = D r j := fun j => by rw [f6 r (by omega) (by omega) (by omega), f4 r (by omega)]
  have e7r : ∀ j, D7 r j = D r j := fun j => by rw [e7, g_up_ne (by omega)]; exact fr j
  have e8r : ∀ j, D8 r j = D r j := fun j => by rw [e8, g_up_ne (by omega)]; exact e7r j
  rw [e8r]
  refine ⟨h8, fun D9 e9 => ?_⟩
  have e9r : ∀ j, D9 r j = D r j := fun j => by rw [e9, g_up_ne (by omega)]; exact e8r j
  rw [e9r]
  refine ⟨h9, fun D10 e10 => kk D10 (fun i hi => ?_) ?_⟩
  · rw [e10, g_up_ne (by omega), e9, g_up_ne (by omega), e8, g_up_ne (by omega), e7, g_up_ne (by omega), f6 i (by omega) (by omega) (by omega), f4 i (by omega)]
  · have t : ∀ i, i ≠ k → D10 i = D6 i := fun i hi => by rw [e10, g_up_ne hi, e9, g_up_ne hi, e8, g_up_ne hi, e7, g_up_ne hi]
    refine ⟨fun i hi => ?_, fun i hi => ?_, fun i hi => ?_, fun i hi => ?_, ?_, fun i hi => ?_, fun i hi => ?_, ?_, ?_, ?_, ?_⟩
    · rw [t _ (by omega), f6 _ (by omega) (by omega) (by omega), e4, g_cpy, g_row_ne (by omega), e3, g_cpy, g_row_ne (by omega), e2, g_cpy, g_row_ne (by omega), e1, g_cpy, g_row_eq, if_pos (by omega), Nat.zero_add, Nat.sub_zero]
    · rw [t _ (by omega), f6 _ (by omega) (by omega) (by omega), e4, g_cpy, g_row_ne (by omega), e3, g_cpy, g_row_ne (by omega), e2, g_cpy, g_row_eq, if_pos (by omega), Nat.zero_add, Nat.sub_zero, e1, g_cpy, g_row_ne (by omega)]
    · rw [t _ (by omega), f6 _ (by omega) (by omega) (by omega), e4, g_cpy, g_row_ne (by omega), e3, g_cpy, g_row_eq, if_pos (by omega), Nat.zero_add, Nat.sub_zero, e2, g_cpy, g_row_ne (by omega), e1, g_cpy, g_row_ne (by omega)]
    · rw [t _ (by omega), f6 _ (by omega) (by omega) (by omega), e4, g_cpy, g_row_eq, if_pos (by omega), Nat.zero_add, Nat.sub_zero, e3, g_cpy, g_row_ne (by omega), e2, g_cpy, g_row_ne (by omega), e1, g_cpy, g_row_ne (by omega)]
    · rw [t _ (by omega), e6, g_cpy, g_row_ne (by omega)]; exact g1
    · rw [t _ (by omega), e6, g_cpy, g_row_ne (by omega), show k + 6 = k + 5 + 1 from rfl]; exact g3 i hi
    · rw [t _ (by omega), e6, g_cpy, g_row_eq, if_pos (by omega), Nat.zero_add, Nat.sub_zero, f5 _ (by omega) (by omega), f4 _ (by omega)]
    · rw [e10, g_up_at (by decide), e9, g_up_at (by decide), e8, g_up_at (by decide), e7, g_up_eq]; exact fr 6
    · rw [e10, g_up_at (by decide), e9, g_up_at (by decide), e8, g_up_eq]; exact e7r 7
    · rw [e10, g_up_at (by decide), e9, g_up_eq]
    · rw [e10, g_up_eq]
theorem q_dv.copy {K : g_D → Prop} {k r : Nat} (hd : q_dv D r M b N na) (hk : is_Device g_SH k) (hr : is_Device g_SH r) (hkr : k + 8 ≤ r ∨ r + 8 ≤ k)
    (kk : ∀ D' : g_D, (∀ i, ¬ (k ≤ i ∧ i ≤ k + 7) → D' i = D i) → q_dv D' k M b N na → K D') : k_X2_copyFrom E l D k r K := by
  obtain ⟨⟨a1, a2, a3, a4, a5, a6⟩, ⟨b1, b2, b3, b4, b5⟩, h3, ⟨d1, d2, d3, d4, d5, d6, d7, d8, d9, d10, d11⟩⟩ := id hd
  exact c_X2_copyFrom hk hr hkr b1 b2 d4 (by rw [d1]; exact d2) (fun D' f c => kk D' f (c.dv hd))
/-- what was kept of the device -/
def q_el (el sz : Nat) : Nat := if sz = 10 then (el + 1) % 10 else el
def q_sz (sz : Nat) : Nat := if sz = 10 then 10 else sz + 1
theorem q_sz_rng {sz : Nat} (h : sz ≤ 10) : 1 ≤ q_sz sz ∧ q_sz sz ≤ 10 := by unfold q_sz; split <;> omega
theorem q_el_rng {el sz : Nat} (h : el < 10) : q_el el sz < 10 := by unfold q_el; split <;> omega
def q_hi (D : g_D) (el sz : Nat) : Prop := D 52 1 = el ∧ D 52 2 = sz ∧ el < 10 ∧ sz ≤ 10 ∧ D 209 518 = sz ∧ ∀ j, j < sz → ∃ (b : Nat → Int) (N na : Nat), q_dv D (54 + 8 * ((el + j) % 10)) (fun i => D 210 (432 * j + i)) b N na
/-- the class has kept its device -/
def q_kp (D D' : g_D) (el sz : Nat) (M b : Nat → Int) (N na : Nat) : Prop := D' 52 1 = q_el el sz ∧ D' 52 2 = q_sz sz ∧ q_dv D' (54 + 8 * ((q_el el sz + (q_sz sz - 1)) % 10)) M b N na ∧ ∀ q, q < 10 → q ≠ (q_el el sz + (q_sz sz - 1)) % 10 → ∀ i, 54 + 8 * q ≤ i → i ≤ 54 + 8 * q + 7 → D' i = D i
theorem q_kp.fr {D' D'' : g_D} {el sz : Nat} (h : q_kp D D' el sz M b N na) (e : ∀ i, 52 ≤ i → i ≤ 133 → D'' i = D' i) : q_kp D D'' el sz M b N na := by
  obtain ⟨h1, h2, h3, h4⟩ := h
  refine ⟨by rw [e 52 (by omega) (by omega)]; exact h1, by rw [e 52 (by omega) (by omega)]; exact h2, h3.fr (fun i a c => e i (by omega) (by omega)), fun q hq hne i a c => ?_⟩
  rw [e i (by omega) (by omega)]; exact h4 q hq hne i a c
theorem ip_hist {q : Nat} (h : q < 10) : is_Device g_SH (54 + 8 * q) := by
  match q, h with
  | 0, _ => exact ip_Device_54
  | 1, _ => exact ip_Device_62
  | 2, _ => exact ip_Device_70
  | 3, _ => exact ip_Device_78
  | 4, _ => exact ip_Device_86
  | 5, _ => exact ip_Device_94
  | 6, _ => exact ip_Device_102
  | 7, _ => exact ip_Device_110
  | 8, _ => exact ip_Device_118
  | 9, _ => exact ip_Device_126
  | q + 10, h => omega
theorem c_X3_keep {K : g_D → Prop} {el sz : Nat} (h1 : D 52 1 = el) (h2 : D 52 2 = sz) (hel : el < 10) (hsz : sz ≤ 10) (hd : q_dv D 7 M b N na)
    (kk : ∀ D' : g_D, (∀ i, ¬ (52 ≤ i ∧ i ≤ 133) → D' i = D i) → q_kp D D' el sz M b N na → K D') : k_X3_keep E l D 7 K := by
  refine s_X3_keep ip_Device_7 (fun _ => ?_)
  rw [h1, h2]
  refine ⟨fun q => ?_, fun q => ?_⟩
  · have e1 : q_el el sz = el := by unfold q_el; rw [if_neg (by omega)]
    have e2 : q_sz sz = sz + 1 := by unfold q_sz; rw [if_neg (by omega)]
    refine ⟨⟨by omega, by omega⟩, by omega, by omega, ?_⟩
    rw [show (((el : Int) + sz) % 10).toNat = (el + sz) % 10 by omega]
    refine hd.copy (ip_hist (by omega)) ip_Device_7 (by omega) (fun D2 f2 d2 => ?_)
    have g2 : D2 52 2 = sz := by rw [f2 52 (by omega)]; exact h2
    rw [g2]
    refine ⟨⟨by omega, by omega⟩, fun D3 e3 => kk D3 (fun i hi => ?_) ⟨?_, ?_, ?_, fun q' hq' hne i a c => ?_⟩⟩
    · rw [e3, g_up_ne (by omega)]; exact f2 i (by omega)
    · rw [e3, g_up_at (by decide), f2 52 (by omega), e1]; exact h1
    · rw [e3, g_up_eq, e2, g_cast1]
    · rw [e1, e2, Nat.add_sub_cancel]
      exact d2.fr (fun i a c => by rw [e3, g_up_ne (by omega)])
    · rw [e1, e2, Nat.add_sub_cancel] at hne
      rw [e3, g_up_ne (by omega)]; exact f2 i (by omega)
  · have e0 : sz = 10 := by omega
    subst e0
    have e1 : q_el el 10 = (el + 1) % 10 := by unfold q_el; rw [if_pos rfl]
    have e2 : q_sz 10 = 10 := by unfold q_sz; rw [if_pos rfl]
    refine ⟨⟨by omega, by omega⟩, by omega, fun D4 e4 => ⟨⟨by omega, by omega⟩, fun D5 e5 => ⟨⟨by omega, by omega⟩, by omega, by omega, ?_⟩⟩⟩
    rw [show ((((el : Int) + 1) % 10 + (((10 : Nat) : Int) - 1)) % 10).toNat = ((el + 1) % 10 + 9) % 10 by omega]
    have f5 : ∀ i, i ≠ 52 → D5 i = D i := fun i hi => by rw [e5, g_up_ne hi, e4, g_up_ne hi]
    have d5 : q_dv D5 7 M b N na := hd.fr (fun i _ _ => f5 i (by omega))
    refine d5.copy (ip_hist (by omega)) ip_Device_7 (by omega) (fun D7 f7 d7 => ?_)
    have g2 : D7 52 2 = 9 := by rw [f7 52 (by omega), e5, g_up_eq]; rfl
    rw [g2]
    refine ⟨⟨by omega, by omega⟩, fun D8 e8 => kk D8 (fun i hi => ?_) ⟨?_, ?_, ?_, fun q' hq' hne i a c => ?_⟩⟩
    · rw [e8, g_up_ne (by omega), f7 i (by omega)]; exact f5 i (by omega)
    · rw [e8, g_up_at (by decide), f7 52 (by omega), e5, g_up_at (by decide), e4, g_up_eq, e1]; omega
    · rw [e8, g_up_eq, e2]; rfl
    · rw [e1, e2]
      exact d7.fr (fun i a c => by rw [e8, g_up_ne (by omega)])
    · rw [e1, e2] at hne
      rw [e8, g_up_ne (by omega), f7 i (by omega)]; exact f5 i (by omega)
/-- the model has noted its device -/
def q_nt (D D' : g_D) (sz : Nat) : Prop := (∀ k, k ≠ 209 → k ≠ 210 → D' k = D k) ∧ (∀ j, j ≠ 518 → D' 209 j = D 209 j) ∧ D' 209 518 = q_sz sz ∧ (∀ i, i < 432 → D' 210 (432 * (q_sz sz - 1) + i) = D 209 (86 + i)) ∧ ∀ j, j < q_sz sz - 1 → ∀ i, i < 432 → D' 210 (432 * j + i) = D 210 (432 * (if sz = 10 then j + 1 else j) + i)
theorem c_X12_notes {K : g_D → Prop} {sz : Nat} (h : D 209 518 = sz) (hsz : sz ≤ 10) (kk : ∀ D' : g_D, q_nt D D' sz → K D') : k_X12_notes E l D K := by
  have put : ∀ (z : Nat) (D0 : g_D), z ≤ 9 → D0 209 518 = z → (∀ j, j ≠ 518 → D0 209 j = D 209 j) → (∀ k, k ≠ 209 → k ≠ 210 → D0 k = D k) → (∀ D' : g_D, (∀ k, k ≠ 209 → k ≠ 210 → D' k = D k) → (∀ j, j ≠ 518 → D' 209 j = D 209 j) → D' 209 518 = ((z + 1 : Nat) : Int) → (∀ i, i < 432 → D' 210 (432 * z + i) = D 209 (86 + i)) → (∀ j, ¬ (432 * z ≤ j ∧ j < 432 * z + 432) → D' 210 j = D0 210 j) → K D') → ∀ (q i : Nat) (D1 : g_D), 432 - i = q → i ≤ 432 → (∀ k, k ≠ 210 → D1 k = D0 k) → (∀ j, j < i → D1 210 (432 * z + j) = D 209 (86 + j)) → (∀ j, ¬ (432 * z ≤ j ∧ j < 432 * z + 432) → D1 210 j = D0 210 j) → n_X12_notes E l D1 58 [some (g_R 208), some (g_I i)] K := by
    intro z D0 hz h0 f0 f00 kz q
    induction q with
    | zero =>
      intro i D1 hq hi f hy hx
      obtain rfl : i = 432 := by omega
      have e18 : D1 209 518 = z := by rw [f 209 (by decide)]; exact h0
      refine s_X12_notes_58 (fun _ _ => ⟨fun _ => ?_, fun w => (by omega : False).elim⟩)
      rw [e18]
      refine ⟨⟨by omega, by omega⟩, fun D2 e2 => kz D2 (fun k a c => ?_) (fun j hj => ?_) ?_ (fun j hj => ?_) (fun j hj => ?_)⟩
      · rw [e2, g_up_ne a, f k c]; exact f00 k a c
      · rw [e2, g_up_at hj, f 209 (by decide)]; exact f0 j hj
      · rw [e2, g_up_eq, g_cast1]
      · rw [e2, g_up_ne (by decide)]; exact hy j hj
      · rw [e2, g_up_ne (by decide)]; exact hx j hj
    | succ q ih =>
      intro i D1 hq hi f hy hx
      have e18 : D1 209 518 = z := by rw [f 209 (by decide)]; exact h0
      refine s_X12_notes_58 (fun _ _ => ⟨fun w => (by omega : False).elim, fun _ => ?_⟩)
      rw [e18, show (432 * ((z : Nat) : Int) + i).toNat = 432 * z + i by omega, show (86 + (i : Int)).toNat = 86 + i by omega, f 209 (by decide), f0 _ (by omega)]
      refine ⟨⟨by omega, by omega⟩, ⟨by omega, by omega⟩, ⟨by omega, by omega⟩, by omega, by omega, fun D2 e2 => ⟨⟨by omega, by omega⟩, ?_⟩⟩
      rw [g_cast1]
      refine ih (i + 1) D2 (by omega) (by omega) (fun k hk => by rw [e2, g_up_ne hk]; exact f k hk) (fun j hj => ?_) (fun j hj => ?_)
      · rw [e2]
        by_cases e : j = i
        · subst e; rw [g_up_eq]
        · rw [g_up_at (by omega)]; exact hy j (by omega)
      · rw [e2, g_up_at (by omega)]; exact hx j hj
  refine s_X12_notes (fun _ => ⟨fun q => ?_, fun q => ?_⟩)
  · have e2 : q_sz sz = sz + 1 := by unfold q_sz; rw [if_neg (by omega)]
    refine put sz D (by omega) h (fun _ _ => rfl) (fun _ _ _ => rfl) (fun D' a1 a2 a3 a4 a5 => kk D' ⟨a1, a2, by rw [e2]; exact a3, by rw [e2, Nat.add_sub_cancel]; exact a4, fun j hj i hi => ?_⟩) _ 0 D rfl (by omega) (fun _ _ => rfl) (fun j hj => absurd hj (Nat.not_lt_zero j)) (fun _ _ => rfl)
    rw [e2] at hj
    rw [if_neg (by omega), a5 _ (by omega)]
  · have e0 : sz = 10 := by omega
    subst e0
    have e2 : q_sz 10 = 10 := by unfold q_sz; rw [if_pos rfl]
    have shift : ∀ (q i : Nat) (D1 : g_D), 3888 - i = q → i ≤ 3888 → (∀ k, k ≠ 210 → D1 k = D k) → (∀ j, D1 210 j = if j < i then D 210 (432 + j) else D 210 j) → n_X12_notes E l D1 15 [some (g_R 208), some (g_I i)] K := by
      intro q'
      induction q' with
      | zero =>
        intro i D1 hq hi f hy
        obtain rfl : i = 3888 := by omega
        refine s_X12_notes_15 (fun _ _ => ⟨fun _ => ?_, fun w => (by omega : False).elim⟩)
        rw [f 209 (by decide), h]
        refine ⟨⟨by omega, by omega⟩, fun D2 e2' => ?_⟩
        refine put 9 D2 (by omega) (by rw [e2', g_up_eq]; rfl) (fun j hj => by rw [e2', g_up_at hj, f 209 (by decide)]) (fun k a c => by rw [e2', g_up_ne a, f k c]) (fun D' a1 a2 a3 a4 a5 => kk D' ⟨a1, a2, by rw [e2]; exact a3, by rw [e2]; exact a4, fun j hj i hi => ?_⟩) _ 0 D2 rfl (by omega) (fun _ _ => rfl) (fun j hj => absurd hj (Nat.not_lt_zero j)) (fun _ _ => rfl)
        rw [e2] at hj
        rw [if_pos rfl, a5 _ (by omega), e2', g_up_ne (by decide), hy, if_pos (by omega), show 432 + (432 * j + i) = 432 * (j + 1) + i by omega]
      | succ q' ih =>
        intro i D1 hq hi f hy
        refine s_X12_notes_15 (fun _ _ => ⟨fun w => (by omega : False).elim, fun _ => ⟨⟨by omega, by omega⟩, by omega, by omega, fun D2 e2' => ⟨⟨by omega, by omega⟩, ?_⟩⟩⟩)
        rw [Int.toNat_natCast, show (432 + (i : Int)).toNat = 432 + i by omega, hy (432 + i), if_neg (by omega)] at e2'
        rw [g_cast1]
        refine ih (i + 1) D2 (by omega) (by omega) (fun k hk => by rw [e2', g_up_ne hk]; exact f k hk) (fun j => ?_)
        rw [e2']
        by_cases e : j = i
        · subst e; rw [g_up_eq, if_pos (by omega)]
        · rw [g_up_at e, hy j]
          by_cases e3 : j < i
          · rw [if_pos e3, if_pos (by omega)]
          · rw [if_neg e3, if_neg (by omega)]
    exact shift _ 0 D rfl (by omega) (fun _ _ => rfl) (fun j => by rw [if_neg (by omega)])
/-- both have kept it -/
theorem q_hi.keep {D1 D2 D3 : g_D} {el sz : Nat} (h : q_hi D el sz) (k : q_kp D D1 el sz (fun i => D 209 (86 + i)) b N na) (e9 : D1 209 = D 209) (e10 : D1 210 = D 210) (nt : q_nt D1 D2 sz) (e3 : ∀ i, 52 ≤ i → i ≤ 133 → D3 i = D2 i) (e310 : D3 210 = D2 210) (e39 : D3 209 518 = D2 209 518) : q_hi D3 (q_el el sz) (q_sz sz) := by
  obtain ⟨h1, h2, h3, h4, h5, h6⟩ := h
  obtain ⟨k1, k2, k3, k4⟩ := k
  obtain ⟨n1, n2, n3, n4, n5⟩ := nt
  have hsz := q_sz_rng h4
  have hel := q_el_rng (sz := sz) h3
  have e31 : ∀ i, 52 ≤ i → i ≤ 133 → D3 i = D1 i := fun i a c => by rw [e3 i a c, n1 i (by omega) (by omega)]
  refine ⟨by rw [e31 52 (by omega) (by omega)]; exact k1, by rw [e31 52 (by omega) (by omega)]; exact k2, hel, hsz.2, by rw [e39]; exact n3, fun j hj => ?_⟩
  rw [e310]
  by_cases e : j = q_sz sz - 1
  · refine ⟨b, N, na, ?_⟩
    rw [e]
    refine (k3.fr (fun i a c => e31 i (by omega) (by omega))).M (fun i hi => ?_)
    rw [n4 i hi, e9]
  · have hjlt : j < q_sz sz - 1 := by omega
    have n5 := n5 j hjlt
    rw [e10] at n5
    have src : ∃ j', j' < sz ∧ (el + j') % 10 = (q_el el sz + j) % 10 ∧ (if sz = 10 then j + 1 else j) = j' := by
      unfold q_el
      unfold q_sz at hjlt
      by_cases z : sz = 10
      · rw [if_pos z] at hjlt ⊢
        rw [if_pos z]
        exact ⟨j + 1, by omega, by omega, rfl⟩
      · rw [if_neg z] at hjlt ⊢
        rw [if_neg z]
        exact ⟨j, by omega, rfl, rfl⟩
    obtain ⟨j', j1, j2, j3⟩ := src
    rw [j3] at n5
    obtain ⟨b', N', na', d⟩ := h6 j' j1
    refine ⟨b', N', na', ?_⟩
    rw [j2] at d
    refine (d.fr (fun i a c => ?_)).M (fun i hi => ?_)
    · rw [e31 i (by omega) (by omega)]
      exact k4 ((q_el el sz + j) % 10) (by omega) (by omega) i a c
    · rw [n5 i hi]
end REL
end
