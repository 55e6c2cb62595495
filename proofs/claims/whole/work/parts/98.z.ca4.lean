section
/-! the cases that change something, without steps -/
section CA4
variable {E : g_E} {l : Launch} {sh : List g_Sh} {D D1 D2 D' : g_D} {o w b b' W0 : Nat → Int} {n m le B N na N' na' : Nat} {ch ru : Int}
theorem q_d1.fr {k : Nat} {M M' : Nat → Int} (h : q_d1 D k M) (e1 : D' (k + 1) = D (k + 1)) (e2 : D' (k + 2) = D (k + 2)) (e3 : D' (k + 3) = D (k + 3)) (e4 : D' (k + 4) = D (k + 4)) (e : ∀ i, i < 60 ∨ (67 ≤ i ∧ i < 127) → M' i = M i) : q_d1 D' k M' := by
  obtain ⟨a1, a2, a3, a4, a5, a6⟩ := h
  refine ⟨fun i hi => ?_, fun i hi => ?_, fun i hi => ?_, fun i hi => ?_, fun i hi => ?_, fun i hi => ?_⟩
  · rw [e1, e _ (by omega)]; exact a1 i hi
  · rw [e2, e _ (by omega)]; exact a2 i hi
  · rw [e3, e _ (by omega)]; exact a3 i hi
  · rw [e4, e _ (by omega)]; exact a4 i hi
  · rw [e _ (by omega)]; exact a5 i hi
  · show 0 ≤ M' (67 + i) ∧ M' (67 + i) ≤ 255
    rw [e _ (by omega)]; exact a6 i hi
theorem q_d2.fr {k : Nat} (h : q_d2 D k b N na) (e5 : D' (k + 5) = D (k + 5)) (e6 : D' (k + 6) = D (k + 6)) : q_d2 D' k b N na := by unfold q_d2 at *; rw [e5, e6]; exact h
theorem q_ca.fr2 (h : q_ca D o n w m le ch ru B b N na) (e0 : ∀ j, 13 ≤ j → j ≤ 15 → D2 0 j = D 0 j) (e : ∀ i, 134 ≤ i → i ≤ 207 → D2 i = D i) (e9 : ∀ i, i < 60 → D2 209 (153 + i) = D 209 (153 + i)) : q_ca D2 o n w m le ch ru B b N na :=
  ⟨h.1.fr (e0 13 (by decide) (by decide)) (fun i a c => e i (by omega) (by omega)), h.2.1.fr (e0 14 (by decide) (by decide)) (fun i a c => e i (by omega) (by omega)), h.2.2.fr2 (e0 15 (by decide) (by decide)) (fun i a c => e i (by omega) (by omega)) (e 207 (by decide) (by decide)) e9⟩
theorem q_mkd (hc : q_co D o n w m le ch ru B b N na) (ha : q_ca D o n w m le ch ru B b N na) (e1 : ∀ i, (1 ≤ i ∧ i ≤ 6) ∨ (15 ≤ i ∧ i ≤ 44) ∨ (134 ≤ i ∧ i ≤ 155) → D2 i = D i) (e13 : D2 0 13 = D 0 13) (e14 : D2 0 14 = D 0 14) (e9 : ∀ j, j < 86 ∨ 519 ≤ j → D2 209 j = D 209 j) (e11 : D2 211 = D 211) (t : q_tp D2) (f : q_fa D2) (hs : q_hs D2) (d : q_dv D2 7 (fun i => D2 209 (86 + i)) b' N' na') (c : q_cc D2 b' N' na') : q_R D2 := by
  obtain ⟨⟨x1, x2, x3⟩, ⟨a0, a1, a2, a3, a4, a5, a6, a7⟩, h3, h4, h5⟩ := hc.1
  have hn := x1.2.1
  have hm := x2.2.1
  refine ⟨o, n, w, m, le, ch, ru, B, b', N', na', ⟨⟨⟨?_, ?_, ?_⟩, ⟨?_, ?_, fun i hi => ?_, fun i hi => ?_, ?_, ?_, ?_, ?_⟩, h3, h4, d⟩, t, hs, hc.2.2.2.1.fr (fun i a c => e1 i (by omega)) e11 (fun j a _ => e9 j (by omega)), f⟩, ha.1.fr e13 (fun i a c => e1 i (by omega)), ha.2.1.fr e14 (fun i a c => e1 i (by omega)), c⟩
  · unfold x_cl at *; rw [e1 (1 + 1) (by omega), e1 (1 + 1 + 1) (by omega)]; exact x1
  · unfold x_cl at *; rw [e1 (1 + 3) (by omega), e1 (1 + 3 + 1) (by omega)]; exact x2
  · unfold x_trm at *; rw [e1 (1 + 5) (by omega)]; exact x3
  · rw [e9 0 (by omega)]; exact a0
  · rw [e9 1 (by omega)]; exact a1
  · rw [e9 _ (by omega)]; exact a2 i hi
  · rw [e9 _ (by omega)]; exact a3 i hi
  · rw [e9 2 (by omega)]; exact a4
  · rw [e9 3 (by omega)]; exact a5
  · rw [e9 4 (by omega)]; exact a6
  · rw [e9 5 (by omega)]; exact a7
theorem q_fa.fr (h : q_fa D) (e : D2 47 = D 47) (e0 : D2 208 40 = D 208 40) (e1 : D2 208 41 = D 208 41) : q_fa D2 := by unfold q_fa at *; rw [e, e0, e1]; exact h
theorem q_by_le {W : Nat → Int} {k j : Nat} (h : q_by W k) (hj : j ≤ k) : q_by W j := fun i hi => h i (by omega)
theorem q_fed_by {T : Nat → Int} {t : Nat} {a1 a2 a3 a4 a5 : Int} (h : q_by T t) : q_by (m_fed T t a1 a2 a3 a4 a5) (t + 20) := fun i hi => by
  unfold m_fed
  by_cases e : i < t
  · rw [if_pos e]; exact h i e
  · rw [if_neg e]; exact g_byte_rng _
theorem y_feed {P : g_D → Prop} {Q : Int → g_D → Prop} {v1 v2 v3 v4 v5 : Int} (h : q_R D) (hP : ∀ D', q_R D' → P D') (hQ : ∀ (x1 : Int) (D1 : g_D), k_X12_feed E l D1 v1 v2 v3 v4 v5 (fun x2 D2 => g_r x2 → (x1 = x2 → P D2) ∧ (¬ x1 = x2 → False)) → Q x1 D1) : k_X11_feed E l D v1 v2 v3 v4 v5 Q := by
  obtain ⟨o, n, w, m, le, ch, ru, B, b, N, na, hc, ha⟩ := h
  obtain ⟨T, t, t1, t2, t3⟩ := hc.2.1
  refine c_X11_feed t1 (fun z => hQ _ D (c_X12_feed t2 (fun _ _ => y_fin hP (y_pa hc ha (fun _ _ => rfl) m_fr.up0)) (fun y => absurd y z))) (fun z D1 f1 x1 => hQ _ D1 ?_)
  have t2' : m_tape D1 T t := by unfold m_tape at *; rw [f1 208 (by decide) (by decide), f1 212 (by decide) (by decide)]; exact t2
  refine c_X12_feed t2' (fun y => absurd z y) (fun _ D2 f2 x2 _ => y_fin hP ?_)
  have e : ∀ i, i ≠ 45 → i ≠ 46 → i ≠ 208 → i ≠ 212 → D2 i = D i := fun i a c d g => by rw [f2.1 i d g]; exact f1 i a c
  have e8 : ∀ j, j ≠ 0 → j ≠ 5 → D2 208 j = D 208 j := fun j a c => by rw [f2.2 j a c, f1 208 (by decide) (by decide)]
  obtain ⟨h1, _, ⟨el, sz, h3⟩, h4, h5⟩ := hc
  have e9 := e 209 (by decide) (by decide) (by decide) (by decide)
  refine ⟨o, n, w, m, le, ch, ru, B, b, N, na, ⟨?_, ⟨_, t + 20, ?_, x2, q_fed_by t3⟩, ⟨el, sz, h3.fr (fun i a c => e i (by omega) (by omega) (by omega) (by omega)) (e 210 (by decide) (by decide) (by decide) (by decide)) (by rw [e9])⟩, h4.fr (fun i a c => e i (by omega) (by omega) (by omega) (by omega)) (e 211 (by decide) (by decide) (by decide) (by decide)) (fun j _ _ => by rw [e9]), h5.fr (e 47 (by decide) (by decide) (by decide) (by decide)) (e8 40 (by decide) (by decide)) (e8 41 (by decide) (by decide))⟩, ha.fr2 (fun j _ _ => by rw [e 0 (by decide) (by decide) (by decide) (by decide)]) (fun i a c => e i (by omega) (by omega) (by omega) (by omega)) (fun i _ => by rw [e9])⟩
  · rw [e9]; exact h1.fr (fun i a c => e i (by omega) (by omega) (by omega) (by omega))
  · unfold x_tape at *; rw [f2.1 45 (by decide) (by decide), f2.1 46 (by decide) (by decide)]; exact x1
theorem y_old {P : g_D → Prop} {Q : Int → g_D → Prop} {v : Int} (h : q_R D) (hP : ∀ D', q_R D' → P D') (hQ : ∀ (x1 : Int) (D1 : g_D), k_X12_old E l D1 v (fun x2 D2 => g_r x2 → (x1 = x2 → P D2) ∧ (¬ x1 = x2 → False)) → Q x1 D1) : k_X11_old E l D v Q := by
  obtain ⟨o, n, w, m, le, ch, ru, B, b, N, na, hc, ha⟩ := h
  obtain ⟨T, t, t1, t2, t3⟩ := hc.2.1
  have t0 : ∀ {D1 : g_D}, D1 208 = D 208 → D1 212 = D 212 → m_tape (g_up D1 208 0 0) T t := fun {D1} u1 u2 => by unfold m_tape at *; rw [g_up_at (by decide), g_up_ne (by decide), u1, u2]; exact t2
  refine s_X11_old (fun _ _ => c_X11_takeCells t1 ip_Cells_2 (by decide) (by decide) (fun z _ => hQ _ D (s_X12_old (fun _ _ D1 e1 => ?_))) (fun n' z z1 hnt D1 f1 g1 u13 u14 u45 cl _ => hQ _ D1 (s_X12_old (fun _ _ D1' e1 => ?_))))
  · subst e1
    exact c_X12_takesCells (many := 0) (at0 := 6) (t0 rfl rfl) (by decide) (by decide) (fun _ _ _ => y_fin hP (y_pa hc ha (fun _ _ => rfl) m_fr.up0)) (fun n' y y1 y2 => absurd ⟨by omega, by omega, by omega⟩ z)
  · subst e1
    refine c_X12_takesCells (many := 0) (at0 := 6) (t0 (f1 208 (by decide) (by decide) (by decide) (by decide)) (f1 212 (by decide) (by decide) (by decide) (by decide))) (by decide) (by decide) (fun y => absurd ⟨by omega, by omega, by omega⟩ y) (fun n2 y y1 y2 D2 f2 f28 u5 g9 _ _ => ?_)
    obtain rfl : n2 = n' := by omega
    refine y_fin hP ?_
    have f2 : ∀ i, i ≠ 208 → i ≠ 209 → D2 i = D1 i := fun i a c => by rw [f2 i a c, g_up_ne a]
    have e : ∀ i, i ≠ 0 → i ≠ 2 → i ≠ 3 → i ≠ 45 → i ≠ 208 → i ≠ 209 → D2 i = D i := fun i a c d g p q => by rw [f2 i p q]; exact f1 i a c d g
    have d9 : (g_up D1 208 0 0) 209 = D 209 := by rw [g_up_ne (by decide)]; exact f1 209 (by decide) (by decide) (by decide) (by decide)
    rw [d9] at g9
    have e9 : ∀ j, j ≠ 0 → ¬ (6 ≤ j ∧ j < 6 + 40) → D2 209 j = D 209 j := fun j a c => by rw [g9 j, if_neg a, if_neg c]
    have e8 : ∀ j, j ≠ 0 → j ≠ 5 → D2 208 j = D 208 j := fun j a c => by rw [f28 j c, g_up_at a, f1 208 (by decide) (by decide) (by decide) (by decide)]
    obtain ⟨⟨⟨x1, x2, x3⟩, ⟨a0, a1, a2, a3, a4, a5, a6, a7⟩, h3, h4, h5⟩, _, ⟨el, sz, hh⟩, him, hfa⟩ := hc
    have hn := x1.2.1
    have hm := x2.2.1
    refine ⟨T, n2, w, m, le, ch, ru, B, b, N, na, ⟨⟨⟨(by unfold x_cl at *; rw [f2 2 (by decide) (by decide), f2 3 (by decide) (by decide)]; exact cl), (by unfold x_cl at *; rw [e (1 + 3) (by decide) (by decide) (by decide) (by decide) (by decide) (by decide), e (1 + 3 + 1) (by decide) (by decide) (by decide) (by decide) (by decide) (by decide)]; exact x2), ?_⟩, ⟨?_, ?_, fun i hi => ?_, fun i hi => ?_, ?_, ?_, ?_, ?_⟩, q_by_le t3 hnt, h4, ?_⟩, ⟨T, 0, ⟨?_, by omega, fun i hi => absurd hi (Nat.not_lt_zero i)⟩, ⟨u5, by omega, fun i hi => absurd hi (Nat.not_lt_zero i)⟩, fun i hi => absurd hi (Nat.not_lt_zero i)⟩, ⟨el, sz, hh.fr (fun i p q => e i (by omega) (by omega) (by omega) (by omega) (by omega) (by omega)) (e 210 (by decide) (by decide) (by decide) (by decide) (by decide) (by decide)) (e9 518 (by decide) (by decide))⟩, him.fr (fun i p q => e i (by omega) (by omega) (by omega) (by omega) (by omega) (by omega)) (e 211 (by decide) (by decide) (by decide) (by decide) (by decide) (by decide)) (fun j p _ => e9 j (by omega) (by omega)), hfa.fr (e 47 (by decide) (by decide) (by decide) (by decide) (by decide) (by decide)) (e8 40 (by decide) (by decide)) (e8 41 (by decide) (by decide))⟩, fun y => ?_, fun y => ?_, ha.2.2.fr2 (by rw [f2 0 (by decide) (by decide)]; exact g1 15 (by decide) (by decide)) (fun i p q => e i (by omega) (by omega) (by omega) (by omega) (by omega) (by omega)) (e 207 (by decide) (by decide) (by decide) (by decide) (by decide) (by decide)) (fun i hi => e9 _ (by omega) (by omega))⟩
    · unfold x_trm at *; rw [e (1 + 5) (by decide) (by decide) (by decide) (by decide) (by decide) (by decide)]; exact x3
    · rw [g9 0, if_pos rfl]
    · rw [e9 1 (by omega) (by omega)]; exact a1
    · rw [g9 _, if_neg (by omega), if_pos (by omega), show 6 + i - 6 = i by omega, if_pos hi]
    · rw [e9 _ (by omega) (by omega)]; exact a3 i hi
    · rw [e9 2 (by omega) (by omega)]; exact a4
    · rw [e9 3 (by omega) (by omega)]; exact a5
    · rw [e9 4 (by omega) (by omega)]; exact a6
    · rw [e9 5 (by omega) (by omega)]; exact a7
    · exact (h5.fr (fun i p q => e i (by omega) (by omega) (by omega) (by omega) (by omega) (by omega))).M (fun i hi => e9 _ (by omega) (by omega))
    · rw [f2 45 (by decide) (by decide)]; exact u45
    · rw [f2 0 (by decide) (by decide), u13] at y; exact absurd y (by decide)
    · rw [f2 0 (by decide) (by decide), u14] at y; exact absurd y (by decide)
theorem y_fresh {P : g_D → Prop} {Q : Int → g_D → Prop} {v : Int} (h : q_R D) (hP : ∀ D', q_R D' → P D') (hQ : ∀ (x1 : Int) (D1 : g_D), k_X12_fresh E l D1 v (fun x2 D2 => g_r x2 → (x1 = x2 → P D2) ∧ (¬ x1 = x2 → False)) → Q x1 D1) : k_X11_fresh E l D v Q := by
  obtain ⟨o, n, w, m, le, ch, ru, B, b, N, na, hc, ha⟩ := h
  obtain ⟨T, t, t1, t2, t3⟩ := hc.2.1
  have t0 : ∀ {D1 : g_D}, D1 208 = D 208 → D1 212 = D 212 → m_tape (g_up D1 208 0 0) T t := fun {D1} u1 u2 => by unfold m_tape at *; rw [g_up_at (by decide), g_up_ne (by decide), u1, u2]; exact t2
  refine s_X11_fresh (fun _ _ => c_X11_takeCells t1 ip_Cells_4 (by decide) (by decide) (fun z _ => hQ _ D (s_X12_fresh (fun _ _ D1 e1 => ?_))) (fun n' z z1 hnt D1 f1 g1 u13 u14 u45 cl _ => hQ _ D1 (s_X12_fresh (fun _ _ D1' e1 => ?_))))
  · subst e1
    exact c_X12_takesCells (many := 1) (at0 := 46) (t0 rfl rfl) (by decide) (by decide) (fun _ _ _ => y_fin hP (y_pa hc ha (fun _ _ => rfl) m_fr.up0)) (fun n' y y1 y2 => absurd ⟨by omega, by omega, by omega⟩ z)
  · subst e1
    refine c_X12_takesCells (many := 1) (at0 := 46) (t0 (f1 208 (by decide) (by decide) (by decide) (by decide)) (f1 212 (by decide) (by decide) (by decide) (by decide))) (by decide) (by decide) (fun y => absurd ⟨by omega, by omega, by omega⟩ y) (fun n2 y y1 y2 D2 f2 f28 u5 g9 _ _ => ?_)
    obtain rfl : n2 = n' := by omega
    refine y_fin hP ?_
    have f2 : ∀ i, i ≠ 208 → i ≠ 209 → D2 i = D1 i := fun i a c => by rw [f2 i a c, g_up_ne a]
    have e : ∀ i, i ≠ 0 → i ≠ 4 → i ≠ 5 → i ≠ 45 → i ≠ 208 → i ≠ 209 → D2 i = D i := fun i a c d g p q => by rw [f2 i p q]; exact f1 i a c d g
    have d9 : (g_up D1 208 0 0) 209 = D 209 := by rw [g_up_ne (by decide)]; exact f1 209 (by decide) (by decide) (by decide) (by decide)
    rw [d9] at g9
    have e9 : ∀ j, j ≠ 1 → ¬ (46 ≤ j ∧ j < 46 + 40) → D2 209 j = D 209 j := fun j a c => by rw [g9 j, if_neg a, if_neg c]
    have e8 : ∀ j, j ≠ 0 → j ≠ 5 → D2 208 j = D 208 j := fun j a c => by rw [f28 j c, g_up_at a, f1 208 (by decide) (by decide) (by decide) (by decide)]
    obtain ⟨⟨⟨x1, x2, x3⟩, ⟨a0, a1, a2, a3, a4, a5, a6, a7⟩, h3, h4, h5⟩, _, ⟨el, sz, hh⟩, him, hfa⟩ := hc
    have hn := x1.2.1
    have hm := x2.2.1
    refine ⟨o, n, T, n2, le, ch, ru, B, b, N, na, ⟨⟨⟨(by unfold x_cl at *; rw [e (1 + 1) (by decide) (by decide) (by decide) (by decide) (by decide) (by decide), e (1 + 1 + 1) (by decide) (by decide) (by decide) (by decide) (by decide) (by decide)]; exact x1), (by unfold x_cl at *; rw [f2 4 (by decide) (by decide), f2 5 (by decide) (by decide)]; exact cl), ?_⟩, ⟨?_, ?_, fun i hi => ?_, fun i hi => ?_, ?_, ?_, ?_, ?_⟩, h3, q_by_le t3 hnt, ?_⟩, ⟨T, 0, ⟨?_, by omega, fun i hi => absurd hi (Nat.not_lt_zero i)⟩, ⟨u5, by omega, fun i hi => absurd hi (Nat.not_lt_zero i)⟩, fun i hi => absurd hi (Nat.not_lt_zero i)⟩, ⟨el, sz, hh.fr (fun i p q => e i (by omega) (by omega) (by omega) (by omega) (by omega) (by omega)) (e 210 (by decide) (by decide) (by decide) (by decide) (by decide) (by decide)) (e9 518 (by decide) (by decide))⟩, him.fr (fun i p q => e i (by omega) (by omega) (by omega) (by omega) (by omega) (by omega)) (e 211 (by decide) (by decide) (by decide) (by decide) (by decide) (by decide)) (fun j p _ => e9 j (by omega) (by omega)), hfa.fr (e 47 (by decide) (by decide) (by decide) (by decide) (by decide) (by decide)) (e8 40 (by decide) (by decide)) (e8 41 (by decide) (by decide))⟩, fun y => ?_, fun y => ?_, ha.2.2.fr2 (by rw [f2 0 (by decide) (by decide)]; exact g1 15 (by decide) (by decide)) (fun i p q => e i (by omega) (by omega) (by omega) (by omega) (by omega) (by omega)) (e 207 (by decide) (by decide) (by decide) (by decide) (by decide) (by decide)) (fun i hi => e9 _ (by omega) (by omega))⟩
    · unfold x_trm at *; rw [e (1 + 5) (by decide) (by decide) (by decide) (by decide) (by decide) (by decide)]; exact x3
    · rw [e9 0 (by omega) (by omega)]; exact a0
    · rw [g9 1, if_pos rfl]
    · rw [e9 _ (by omega) (by omega)]; exact a2 i hi
    · rw [g9 _, if_neg (by omega), if_pos (by omega), show 46 + i - 46 = i by omega, if_pos hi]
    · rw [e9 2 (by omega) (by omega)]; exact a4
    · rw [e9 3 (by omega) (by omega)]; exact a5
    · rw [e9 4 (by omega) (by omega)]; exact a6
    · rw [e9 5 (by omega) (by omega)]; exact a7
    · exact (h5.fr (fun i p q => e i (by omega) (by omega) (by omega) (by omega) (by omega) (by omega))).M (fun i hi => e9 _ (by omega) (by omega))
    · rw [f2 45 (by decide) (by decide)]; exact u45
    · rw [f2 0 (by decide) (by decide), u13] at y; exact absurd y (by decide)
    · rw [f2 0 (by decide) (by decide), u14] at y; exact absurd y (by decide)
def q_lo (s : Nat) : Int := if s = 0 then 3 else 0
def q_up (s : Nat) : Int := if s = 0 then 8 else if s = 3 then 20 else 2
theorem q_loE {s : Nat} (h : s < 4) : g_fx E 2 s = q_lo s ∧ g_fx E 3 s = q_up s := by
  match s, h with
  | 0, _ => exact ⟨rfl, rfl⟩
  | 1, _ => exact ⟨rfl, rfl⟩
  | 2, _ => exact ⟨rfl, rfl⟩
  | 3, _ => exact ⟨rfl, rfl⟩
  | s + 4, h => omega
theorem q_lo_rng {s : Nat} : 0 ≤ q_lo s ∧ q_lo s ≤ 3 ∧ 0 ≤ q_up s ∧ q_up s ≤ 20 := by unfold q_lo q_up; split <;> (try split) <;> omega
theorem c_isT {K : Int → g_D → Prop} {s : Nat} {v : Int} (hs : s < 4) (k1 : q_lo s ≤ v ∧ v ≤ q_up s → K 1 D) (k0 : ¬ (q_lo s ≤ v ∧ v ≤ q_up s) → K 0 D) : k_X12_isTerm E l sh D s v K := by
  unfold q_lo q_up at *
  refine s_X12_isTerm (fun _ _ _ => ⟨fun z => ?_, fun z => ?_, fun z => ?_⟩)
  · obtain rfl : s = 0 := by omega
    exact c_X12_within ⟨fun y _ => ⟨Or.inr rfl, k1 y⟩, fun y _ => ⟨Or.inl rfl, k0 y⟩⟩
  · obtain rfl : s = 3 := by omega
    exact c_X12_within ⟨fun y _ => ⟨Or.inr rfl, k1 y⟩, fun y _ => ⟨Or.inl rfl, k0 y⟩⟩
  · rw [if_neg (by omega), if_neg (by omega), if_neg (by omega)] at k1 k0
    exact c_X12_within ⟨fun y _ => ⟨Or.inr rfl, k1 y⟩, fun y _ => ⟨Or.inl rfl, k0 y⟩⟩
/-- a term has been set on both sides -/
theorem q_trm {s : Nat} {v : Int} (hc : q_co D o n w m le ch ru B b N na) (ha : q_ca D o n w m le ch ru B b N na) (hs : s < 4) (hv : q_lo s ≤ v ∧ v ≤ q_up s) (e6 : ∀ j, D2 6 j = if j = s then v else D 6 j) (e9 : ∀ j, D2 209 j = if j = 2 + s then v else D 209 j) (e14 : D2 0 14 = 1) (e0 : ∀ j, j ≠ 14 → D2 0 j = D 0 j) (e : ∀ i, i ≠ 0 → i ≠ 6 → i ≠ 208 → i ≠ 209 → D2 i = D i) (e8 : ∀ j, j ≠ 0 → D2 208 j = D 208 j) : q_R D2 := by
  obtain ⟨⟨⟨x1, x2, x3⟩, ⟨a0, a1, a2, a3, a4, a5, a6, a7⟩, h3, h4, h5⟩, ⟨T, t, t1, t2, t3⟩, ⟨el, sz, hh⟩, him, hfa⟩ := hc
  have hn := x1.2.1
  have hm := x2.2.1
  obtain ⟨r0, r1, r2, r3, r4, r5, r6, r7, r8, r9, r10⟩ := x3
  have g9 : ∀ j, ¬ (2 ≤ j ∧ j ≤ 5) → D2 209 j = D 209 j := fun j hj => by rw [e9 j, if_neg (by omega)]
  have rest : ∀ (le' : Nat) (ch' ru' : Int) (B' : Nat), x_trm D2 6 le' ch' ru' B' → D2 209 2 = le' → D2 209 3 = ch' → D2 209 4 = ru' → D2 209 5 = B' → q_R D2 := fun le' ch' ru' B' xt b4 b5 b6 b7 => by
    refine ⟨o, n, w, m, le', ch', ru', B', b, N, na, ⟨⟨⟨?_, ?_, xt⟩, ⟨?_, ?_, fun i hi => ?_, fun i hi => ?_, b4, b5, b6, b7⟩, h3, h4, ?_⟩, ⟨T, t, ?_, ?_, t3⟩, ⟨el, sz, hh.fr (fun i p q => e i (by omega) (by omega) (by omega) (by omega)) (e 210 (by decide) (by decide) (by decide) (by decide)) (g9 518 (by decide))⟩, him.fr (fun i p q => e i (by omega) (by omega) (by omega) (by omega)) (e 211 (by decide) (by decide) (by decide) (by decide)) (fun j p _ => g9 j (by omega)), hfa.fr (e 47 (by decide) (by decide) (by decide) (by decide)) (e8 40 (by decide)) (e8 41 (by decide))⟩, ha.1.fr (e0 13 (by decide)) (fun i p q => e i (by omega) (by omega) (by omega) (by omega)), fun y => ?_, ha.2.2.fr2 (e0 15 (by decide)) (fun i p q => e i (by omega) (by omega) (by omega) (by omega)) (e 207 (by decide) (by decide) (by decide) (by decide)) (fun i hi => g9 _ (by omega))⟩
    · unfold x_cl at *; rw [e (1 + 1) (by decide) (by decide) (by decide) (by decide), e (1 + 1 + 1) (by decide) (by decide) (by decide) (by decide)]; exact x1
    · unfold x_cl at *; rw [e (1 + 3) (by decide) (by decide) (by decide) (by decide), e (1 + 3 + 1) (by decide) (by decide) (by decide) (by decide)]; exact x2
    · rw [g9 0 (by omega)]; exact a0
    · rw [g9 1 (by omega)]; exact a1
    · rw [g9 _ (by omega)]; exact a2 i hi
    · rw [g9 _ (by omega)]; exact a3 i hi
    · exact (h5.fr (fun i p q => e i (by omega) (by omega) (by omega) (by omega))).M (fun i hi => g9 _ (by omega))
    · unfold x_tape at *; rw [e 45 (by decide) (by decide) (by decide) (by decide), e 46 (by decide) (by decide) (by decide) (by decide)]; exact t1
    · unfold m_tape at *; rw [e 212 (by decide) (by decide) (by decide) (by decide), e8 5 (by decide)]; exact t2
    · rw [e14] at y; exact absurd y (by decide)
  unfold q_lo q_up at hv
  match s, hs with
  | 0, _ =>
    rw [if_pos rfl, if_pos rfl] at hv
    refine rest v.toNat ch ru B ⟨?_, ?_, ?_, ?_, by omega, by omega, r6, r7, r8, r9, r10⟩ ?_ ?_ ?_ ?_
    · rw [e6 0, if_pos rfl]; omega
    · rw [e6 1, if_neg (by decide)]; exact r1
    · rw [e6 2, if_neg (by decide)]; exact r2
    · rw [e6 3, if_neg (by decide)]; exact r3
    · rw [e9 2, if_pos rfl]; omega
    · rw [e9 3, if_neg (by decide)]; exact a5
    · rw [e9 4, if_neg (by decide)]; exact a6
    · rw [e9 5, if_neg (by decide)]; exact a7
  | 1, _ =>
    rw [if_neg (by decide), if_neg (by decide), if_neg (by decide)] at hv
    refine rest le v ru B ⟨?_, ?_, ?_, ?_, r4, r5, r6, hv.1, hv.2, r9, r10⟩ ?_ ?_ ?_ ?_
    · rw [e6 0, if_neg (by decide)]; exact r0
    · rw [e6 1, if_pos rfl]
    · rw [e6 2, if_neg (by decide)]; exact r2
    · rw [e6 3, if_neg (by decide)]; exact r3
    · rw [e9 2, if_neg (by decide)]; exact a4
    · rw [e9 3, if_pos rfl]
    · rw [e9 4, if_neg (by decide)]; exact a6
    · rw [e9 5, if_neg (by decide)]; exact a7
  | 2, _ =>
    rw [if_neg (by decide), if_neg (by decide), if_neg (by decide)] at hv
    refine rest le ch v B ⟨?_, ?_, ?_, ?_, r4, r5, r6, r7, r8, hv.1, hv.2⟩ ?_ ?_ ?_ ?_
    · rw [e6 0, if_neg (by decide)]; exact r0
    · rw [e6 1, if_neg (by decide)]; exact r1
    · rw [e6 2, if_pos rfl]
    · rw [e6 3, if_neg (by decide)]; exact r3
    · rw [e9 2, if_neg (by decide)]; exact a4
    · rw [e9 3, if_neg (by decide)]; exact a5
    · rw [e9 4, if_pos rfl]
    · rw [e9 5, if_neg (by decide)]; exact a7
  | 3, _ =>
    rw [if_neg (by decide), if_neg (by decide), if_pos rfl] at hv
    refine rest le ch ru v.toNat ⟨?_, ?_, ?_, ?_, r4, r5, by omega, r7, r8, r9, r10⟩ ?_ ?_ ?_ ?_
    · rw [e6 0, if_neg (by decide)]; exact r0
    · rw [e6 1, if_neg (by decide)]; exact r1
    · rw [e6 2, if_neg (by decide)]; exact r2
    · rw [e6 3, if_pos rfl]; omega
    · rw [e9 2, if_neg (by decide)]; exact a4
    · rw [e9 3, if_neg (by decide)]; exact a5
    · rw [e9 4, if_neg (by decide)]; exact a6
    · rw [e9 5, if_pos rfl]; omega
  | s + 4, h => omega
theorem q_trm_old {s : Nat} (hc : q_co D o n w m le ch ru B b N na) (hs : s < 4) : D 6 s = D 209 (2 + s) := by
  obtain ⟨⟨⟨x1, x2, x3⟩, ⟨a0, a1, a2, a3, a4, a5, a6, a7⟩, _⟩, _⟩ := hc
  match s, hs with
  | 0, _ => exact x3.1.trans a4.symm
  | 1, _ => exact x3.2.1.trans a5.symm
  | 2, _ => exact x3.2.2.1.trans a6.symm
  | 3, _ => exact x3.2.2.2.1.trans a7.symm
  | s + 4, h => omega
theorem c_X12_terms0 {K : Int → g_D → Prop} {k v : Int} (k2 : ¬ (0 ≤ k ∧ k < 4) → K (-2) (g_up D 208 0 0)) (k3 : ∀ s : Nat, k = s → s < 4 → ¬ (q_lo s ≤ v ∧ v ≤ q_up s) → K (-3) (g_up D 208 0 0)) (k1 : ∀ s : Nat, k = s → s < 4 → (q_lo s ≤ v ∧ v ≤ q_up s) → K (D 209 (2 + s)) (g_up (g_up D 208 0 0) 209 (2 + s) v)) : k_X12_terms E l D k v K := by
  refine s_X12_terms (fun _ _ _ D1 e1 => ?_)
  subst e1
  refine c_X12_within ⟨fun z _ => ⟨fun _ => ?_, fun q => absurd q (by decide)⟩, fun z _ => ⟨fun q => absurd rfl q, fun _ => k2 (by omega)⟩⟩
  obtain ⟨s, rfl⟩ : ∃ s : Nat, k = s := ⟨k.toNat, by omega⟩
  refine c_isT (by omega) (fun y _ => ⟨fun _ => ⟨⟨by omega, by omega⟩, by omega, ⟨by omega, by omega⟩, by omega, fun D4 e4 => ?_⟩, fun q => absurd q (by decide)⟩) (fun y _ => ⟨fun q => absurd rfl q, fun _ => k3 s rfl (by omega) y⟩)
  rw [show (2 + (s : Int)).toNat = 2 + s by omega] at e4 ⊢
  rw [e4, g_up_ne (show (209 : Nat) ≠ 208 by decide)]
  exact k1 s rfl (by omega) y
theorem y_terms {P : g_D → Prop} {Q : Int → g_D → Prop} {k v : Int} (h : q_R D) (hP : ∀ D', q_R D' → P D') (hQ : ∀ (x1 : Int) (D1 : g_D), k_X12_terms E l D1 k v (fun x2 D2 => g_r x2 → (x1 = x2 → P D2) ∧ (¬ x1 = x2 → False)) → Q x1 D1) : k_X11_terms E l D k v Q := by
  obtain ⟨o, n, w, m, le, ch, ru, B, b, N, na, hc, ha⟩ := h
  have r0 : ∀ D2, m_fr D D2 → q_R D2 := fun D2 f2 => y_pa hc ha (fun _ _ => rfl) f2
  refine s_X11_terms (fun _ _ _ => ⟨fun z => hQ _ D ?_, fun z => ⟨fun z1 => ?_, fun z1 => hQ _ D ?_⟩⟩)
  · exact c_X12_terms0 (fun _ _ => y_fin hP (r0 _ m_fr.up0)) (fun s y1 y2 => (by omega : False).elim) (fun s y1 y2 => (by omega : False).elim)
  · obtain ⟨s, rfl⟩ : ∃ s : Nat, k = s := ⟨k.toNat, by omega⟩
    have hs : s < 4 := by omega
    obtain ⟨g2, g3⟩ := q_loE (E := E) hs
    have hr := q_lo_rng (s := s)
    rw [Int.toNat_natCast, g2, g3]
    have l2 : ((s : Int)) < (g_fl E 2 : Nat) := by show (s : Int) < ((4 : Nat) : Int); omega
    have l3 : ((s : Int)) < (g_fl E 3 : Nat) := by show (s : Int) < ((4 : Nat) : Int); omega
    refine ⟨⟨by omega, l2, ⟨by omega, by omega⟩⟩, fun y => hQ _ D ?_, fun y => ⟨⟨by omega, l3, ⟨by omega, by omega⟩⟩, fun y1 => ⟨by omega, by omega, fun D1 e1 D2 e2 => hQ _ D2 ?_⟩, fun y1 => hQ _ D ?_⟩⟩
    · refine c_X12_terms0 (fun q => absurd ⟨by omega, by omega⟩ q) (fun _ _ _ _ _ => y_fin hP (r0 _ m_fr.up0)) (fun s' y1 y2 y3 => ?_)
      obtain rfl : s' = s := by omega
      exact absurd y3.1 (by omega)
    · refine c_X12_terms0 (fun q => absurd ⟨by omega, by omega⟩ q) (fun s' q1 q2 q3 => ?_) (fun s' q1 q2 q3 => ?_)
      · obtain rfl : s' = s := by omega
        exact absurd ⟨by omega, y1⟩ q3
      · obtain rfl : s' = s := by omega
        have e29 : D2 209 = D 209 := by rw [e2, g_up_ne (by decide), e1, g_up_ne (by decide)]
        rw [e29, ← q_trm_old hc hs]
        refine fun _ => y_fin hP (q_trm hc ha hs ⟨by omega, y1⟩ (fun j => ?_) (fun j => ?_) ?_ (fun j hj => ?_) (fun i a1 a2 a3 a4 => ?_) (fun j hj => ?_))
        · rw [g_up_ne (by decide), g_up_ne (by decide), e2, g_up_ne (by decide), e1]
          by_cases e : j = s'
          · rw [e, g_up_eq, if_pos rfl]
          · rw [g_up_at e, if_neg e]
        · by_cases e : j = 2 + s'
          · rw [e, g_up_eq, if_pos rfl]
          · rw [g_up_at e, if_neg e, g_up_ne (by decide), e29]
        · rw [g_up_ne (by decide), g_up_ne (by decide), e2, g_up_eq]
        · rw [g_up_ne (by decide), g_up_ne (by decide), e2, g_up_at hj, e1, g_up_ne (by decide)]
        · rw [g_up_ne a4, g_up_ne a3, e2, g_up_ne a1, e1, g_up_ne a2]
        · rw [g_up_ne (by decide), g_up_at hj, e2, g_up_ne (by decide), e1, g_up_ne (by decide)]
    · refine c_X12_terms0 (fun q => absurd ⟨by omega, by omega⟩ q) (fun _ _ _ _ _ => y_fin hP (r0 _ m_fr.up0)) (fun s' y1 y2 y3 => ?_)
      obtain rfl : s' = s := by omega
      exact absurd y3.2 (by omega)
  · exact c_X12_terms0 (fun _ _ => y_fin hP (r0 _ m_fr.up0)) (fun s y1 y2 => (by omega : False).elim) (fun s y1 y2 => (by omega : False).elim)
end CA4
end