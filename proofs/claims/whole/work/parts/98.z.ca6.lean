section
/-! images and burning -/
section CA6
variable {E : g_E} {l : Launch} {sh : List g_Sh} {D D1 D2 D3 D' Dm Dn : g_D} {o w b b' W W0 M : Nat → Int} {n m le B N na N' na' el sz : Nat} {ch ru : Int}
theorem q_st.copy {K : g_D → Prop} {k r : Nat} (h : q_st D r M o n w m le ch ru B b N na) (hk : is_State g_SH k) (hr : is_State g_SH r) (hkr : k + 14 ≤ r ∨ r + 14 ≤ k) (kk : ∀ D' : g_D, (∀ i, ¬ (k + 1 ≤ i ∧ i ≤ k + 13) → D' i = D i) → q_st D' k M o n w m le ch ru B b N na → K D') : k_X8_copyFrom E l D k r K := by
  obtain ⟨⟨x1, x2, x3⟩, h2, h3, h4, h5⟩ := h
  refine s_X8_copyFrom hk hr (fun _ => ?_)
  rw [x1.1]
  refine c_X0_copyFirst (c := o) (s := n) ⟨hk.2.1, hk.2.2.1⟩ ⟨hr.2.1, hr.2.2.1⟩ x1.1 x1.2.1 (Nat.le_refl _) x1.2.1 (by decide) (by omega) x1.2.2 (fun D1 f1 g1 g2 g3 _ => ?_)
  have e1 : D1 (r + 3) 1 = m := by rw [f1 _ (by omega) (by omega)]; exact x2.1
  rw [e1]
  refine c_X0_copyFirst (c := w) (s := m) ⟨hk.2.2.2.1, hk.2.2.2.2.1⟩ ⟨hr.2.2.2.1, hr.2.2.2.2.1⟩ e1 x2.2.1 (Nat.le_refl _) x2.2.1 (by decide) (by omega) (fun i hi => by rw [f1 _ (by omega) (by omega)]; exact x2.2.2 i hi) (fun D2 f2 p1 p2 p3 _ => ⟨by decide, fun D3 e3 => ?_⟩)
  have f3 : ∀ i, ¬ (k + 1 ≤ i ∧ i ≤ k + 5) → D3 i = D i := fun i hi => by rw [e3, g_cpy, g_row_ne (by omega), f2 i (by omega) (by omega), f1 i (by omega) (by omega)]
  have d3 : q_dv D3 (r + 6) (fun i => M (86 + i)) b N na := h5.fr (fun i a c => f3 i (by omega))
  have e5 : ∀ j, j < 4 → D3 (k + 5) j = D (r + 5) j := fun j hj => by rw [e3, g_cpy, g_row_eq, if_pos (by omega), Nat.zero_add, Nat.sub_zero, f2 _ (by omega) (by omega), f1 _ (by omega) (by omega)]
  refine d3.copy hk.2.2.2.2.2.2 hr.2.2.2.2.2.2 (by omega) (fun D4 f4 d4 => kk D4 (fun i hi => ?_) ⟨⟨⟨?_, x1.2.1, fun i hi => ?_⟩, ⟨?_, x2.2.1, fun i hi => ?_⟩, ?_⟩, h2, h3, h4, d4⟩)
  · rw [f4 i (by omega)]; exact f3 i (by omega)
  · rw [f4 _ (by omega), e3, g_cpy, g_row_ne (by omega), f2 _ (by omega) (by omega)]; exact g1
  · rw [f4 _ (by omega), e3, g_cpy, g_row_ne (by omega), f2 _ (by omega) (by omega)]; exact g3 i hi
  · rw [f4 _ (by omega), e3, g_cpy, g_row_ne (by omega)]; exact p1
  · rw [f4 _ (by omega), e3, g_cpy, g_row_ne (by omega)]; exact p3 i hi
  · unfold x_trm at *
    rw [f4 (k + 5) (by omega), e5 0 (by decide), e5 1 (by decide), e5 2 (by decide), e5 3 (by decide)]; exact x3
theorem ip_img {q : Nat} (h : q < 2) : is_State g_SH (16 + 14 * q) := by
  match q, h with
  | 0, _ => exact ip_State_16
  | 1, _ => exact ip_State_30
  | q + 2, h => omega
theorem l_X12_image {K : Int → g_D → Prop} {q : Nat} (hq : q < 2) (kk : ∀ D' : g_D, (∀ k, k ≠ 209 → k ≠ 211 → D' k = D k) → (∀ j, ¬ (519 * (q + 1) ≤ j ∧ j < 519 * (q + 1) + 519) → D' 209 j = D 209 j) → (∀ i, i < 519 → D' 209 (519 * (q + 1) + i) = D 209 i) → (∀ j, j ≠ q → D' 211 j = D 211 j) → D' 211 q = 1 → K 0 D') :
    ∀ (p i : Nat) (D1 : g_D), 519 - i = p → i ≤ 519 → (∀ k, k ≠ 209 → D1 k = D k) → (∀ j, ¬ (519 * (q + 1) ≤ j ∧ j < 519 * (q + 1) + 519) → D1 209 j = D 209 j) → (∀ t, t < i → D1 209 (519 * (q + 1) + t) = D 209 t) → n_X12_image E l D1 20 [some (g_R 208), some (g_I q), some (g_I i)] K := by
  intro p
  induction p with
  | zero =>
    intro i D1 hp hi f g hy
    obtain rfl : i = 519 := by omega
    refine s_X12_image_20 (fun _ _ _ => ⟨fun _ => ⟨by omega, fun D2 e2 => ?_⟩, fun w => (by omega : False).elim⟩)
    rw [Int.toNat_natCast] at e2
    exact kk D2 (fun k a c => by rw [e2, g_up_ne c]; exact f k a) (fun j hj => by rw [e2, g_up_ne (by decide)]; exact g j hj) (fun t ht => by rw [e2, g_up_ne (by decide)]; exact hy t ht) (fun j hj => by rw [e2, g_up_at hj, f 211 (by decide)]) (by rw [e2, g_up_eq])
  | succ p ih =>
    intro i D1 hp hi f g hy
    refine s_X12_image_20 (fun _ _ _ => ⟨fun w => (by omega : False).elim, fun _ => ⟨⟨by omega, by omega⟩, ⟨by omega, by omega⟩, ⟨by omega, by omega⟩, by omega, by omega, fun D2 e2 => ⟨⟨by omega, by omega⟩, ?_⟩⟩⟩)
    rw [show (519 * ((q : Int) + 1) + i).toNat = 519 * (q + 1) + i by omega, Int.toNat_natCast] at e2
    rw [g_cast1]
    refine ih (i + 1) D2 (by omega) (by omega) (fun k hk => by rw [e2, g_up_ne hk]; exact f k hk) (fun j hj => by rw [e2, g_up_at (by omega)]; exact g j hj) (fun t ht => ?_)
    rw [e2]
    by_cases e : t = i
    · subst e; rw [g_up_eq]; exact g t (by omega)
    · rw [g_up_at (by omega)]; exact hy t (by omega)
theorem l_X12_restore {K : Int → g_D → Prop} {q : Nat} (hq : q < 2) (kk : ∀ D' : g_D, (∀ k, k ≠ 209 → D' k = D k) → (∀ j, 519 ≤ j → D' 209 j = D 209 j) → (∀ i, i < 518 → D' 209 i = D 209 (519 * (q + 1) + i)) → D' 209 518 = 0 → K 0 D') :
    ∀ (p i : Nat) (D1 : g_D), 519 - i = p → i ≤ 519 → (∀ k, k ≠ 209 → D1 k = D k) → (∀ j, 519 ≤ j → D1 209 j = D 209 j) → (∀ t, t < i → D1 209 t = D 209 (519 * (q + 1) + t)) → n_X12_restore E l D1 32 [some (g_R 208), some (g_I q), some (g_I i)] K := by
  intro p
  induction p with
  | zero =>
    intro i D1 hp hi f g hy
    obtain rfl : i = 519 := by omega
    refine s_X12_restore_32 (fun _ _ _ => ⟨fun _ D2 e2 => ?_, fun w => (by omega : False).elim⟩)
    exact kk D2 (fun k a => by rw [e2, g_up_ne a]; exact f k a) (fun j hj => by rw [e2, g_up_at (by omega)]; exact g j hj) (fun t ht => by rw [e2, g_up_at (by omega)]; exact hy t (by omega)) (by rw [e2, g_up_eq])
  | succ p ih =>
    intro i D1 hp hi f g hy
    refine s_X12_restore_32 (fun _ _ _ => ⟨fun w => (by omega : False).elim, fun _ => ⟨⟨by omega, by omega⟩, ⟨by omega, by omega⟩, ⟨by omega, by omega⟩, by omega, by omega, fun D2 e2 => ⟨⟨by omega, by omega⟩, ?_⟩⟩⟩)
    rw [show (519 * ((q : Int) + 1) + i).toNat = 519 * (q + 1) + i by omega, Int.toNat_natCast, g _ (by omega)] at e2
    rw [g_cast1]
    refine ih (i + 1) D2 (by omega) (by omega) (fun k hk => by rw [e2, g_up_ne hk]; exact f k hk) (fun j hj => by rw [e2, g_up_at (by omega)]; exact g j hj) (fun t ht => ?_)
    rw [e2]
    by_cases e : t = i
    · subst e; rw [g_up_eq]
    · rw [g_up_at (by omega)]; exact hy t (by omega)
theorem y_image {P : g_D → Prop} {Q : Int → g_D → Prop} {v : Int} (h : q_R D) (hP : ∀ D', q_R D' → P D') (hQ : ∀ (x1 : Int) (D1 : g_D), k_X12_image E l D1 v (fun x2 D2 => g_r x2 → (x1 = x2 → P D2) ∧ (¬ x1 = x2 → False)) → Q x1 D1) : k_X11_image E l D v Q := by
  obtain ⟨o, n, w, m, le, ch, ru, B, b, N, na, hc, ha⟩ := h
  have r0 : ∀ D2, m_fr D D2 → q_R D2 := fun D2 f2 => y_pa hc ha (fun _ _ => rfl) f2
  refine s_X11_image (fun _ _ => ⟨fun z => hQ _ D (s_X12_image (fun _ _ D1 e1 => ?_)), fun z => ⟨fun z1 => ⟨by omega, ?_⟩, fun z1 => hQ _ D (s_X12_image (fun _ _ D1 e1 => ?_))⟩⟩)
  · subst e1
    exact c_X12_within ⟨fun y => (by omega : False).elim, fun _ _ => ⟨fun q => absurd rfl q, fun _ _ => y_fin hP (r0 _ m_fr.up0)⟩⟩
  · obtain ⟨q, rfl⟩ : ∃ q : Nat, v = q := ⟨v.toNat, by omega⟩
    rw [Int.toNat_natCast]
    have hq : q < 2 := by omega
    refine hc.1.copy (ip_img hq) ip_State_1 (by omega) (fun D1 f1 s1 => ⟨by omega, fun D2 e2 => hQ _ D2 (s_X12_image (fun _ _ Dm em => ?_))⟩)
    subst em
    refine c_X12_within ⟨fun _ _ => ⟨fun _ => ?_, fun q => absurd q (by decide)⟩, fun y => (by omega : False).elim⟩
    refine l_X12_image hq (fun D3 g1 g2 g3 g4 g5 _ => y_fin hP ?_) _ 0 _ rfl (by omega) (fun _ _ => rfl) (fun _ _ => rfl) (fun t ht => absurd ht (Nat.not_lt_zero t))
    have f2 : ∀ i, i ≠ 44 → ¬ (16 + 14 * q + 1 ≤ i ∧ i ≤ 16 + 14 * q + 13) → D2 i = D i := fun i a c => by rw [e2, g_up_ne a]; exact f1 i c
    have e29 : D2 209 = D 209 := f2 209 (by decide) (by omega)
    rw [g_up_ne (show (209 : Nat) ≠ 208 by decide), e29] at g2 g3
    rw [g_up_ne (show (211 : Nat) ≠ 208 by decide), f2 211 (by decide) (by omega)] at g4
    have e : ∀ i, i < 208 → D3 i = D2 i := fun i hi => by rw [g1 i (by omega) (by omega), g_up_ne (by omega)]
    have e0 : ∀ i, i < 208 → i ≠ 44 → ¬ (16 + 14 * q + 1 ≤ i ∧ i ≤ 16 + 14 * q + 13) → D3 i = D i := fun i hi a c => by rw [e i hi]; exact f2 i a c
    have e8 : ∀ j, j ≠ 0 → D3 208 j = D 208 j := fun j hj => by rw [g1 208 (by decide) (by decide), g_up_at hj, f2 208 (by decide) (by omega)]
    have e9 : ∀ j, j < 519 → D3 209 j = D 209 j := fun j hj => g2 j (by omega)
    obtain ⟨h1, h2, ⟨el, sz, h3⟩, h4, h5⟩ := hc
    refine ⟨o, n, w, m, le, ch, ru, B, b, N, na, ⟨?_, h2.fr (e0 45 (by decide) (by decide) (by omega)) (e0 46 (by decide) (by decide) (by omega)) (e8 5 (by decide)) (by rw [g1 212 (by decide) (by decide), g_up_ne (by decide)]; exact f2 212 (by decide) (by omega)), ⟨el, sz, h3.fr (fun i a c => e0 i (by omega) (by omega) (by omega)) (by rw [g1 210 (by decide) (by decide), g_up_ne (by decide)]; exact f2 210 (by decide) (by omega)) (e9 518 (by decide))⟩, ?_, h5.fr (e0 47 (by decide) (by decide) (by omega)) (e8 40 (by decide)) (e8 41 (by decide))⟩, ha.fr2 (fun j _ _ => by rw [e0 0 (by decide) (by decide) (by omega)]) (fun i a c => e0 i (by omega) (by omega) (by omega)) (fun i hi => e9 _ (by omega))⟩
    · exact (h1.fr (fun i a c => e0 i (by omega) (by omega) (by omega))).M (fun i hi => e9 i (by omega))
    · intro q' hq'
      by_cases eq : q' = q
      · subst eq
        refine Or.inr ⟨?_, g5, o, n, w, m, le, ch, ru, B, b, N, na, ?_⟩
        · rw [e 44 (by decide), e2, g_up_eq]
        · refine (s1.fr (D' := D3) (fun i a c => ?_)).M (fun i hi => g3 i (by omega))
          rw [e i (by omega), e2, g_up_ne (by omega)]
      · have e44 : D3 44 q' = D 44 q' := by rw [e 44 (by decide), e2, g_up_at eq, f1 44 (by omega)]
        rw [e44, g4 q' eq]
        rcases h4 q' hq' with z | ⟨z1, z2, o', n', w', m', le', ch', ru', B', b', N', na', z3⟩
        · exact Or.inl z
        · exact Or.inr ⟨z1, z2, o', n', w', m', le', ch', ru', B', b', N', na', (z3.fr (fun i a c => e0 i (by omega) (by omega) (by omega))).M (fun i hi => g2 _ (by omega))⟩
  · subst e1
    exact c_X12_within ⟨fun y => (by omega : False).elim, fun _ _ => ⟨fun q => absurd rfl q, fun _ _ => y_fin hP (r0 _ m_fr.up0)⟩⟩
theorem y_restore {P : g_D → Prop} {Q : Int → g_D → Prop} {v : Int} (h : q_R D) (hP : ∀ D', q_R D' → P D') (hQ : ∀ (x1 : Int) (D1 : g_D), k_X12_restore E l D1 v (fun x2 D2 => g_r x2 → (x1 = x2 → P D2) ∧ (¬ x1 = x2 → False)) → Q x1 D1) : k_X11_restore E l D v Q := by
  obtain ⟨o, n, w, m, le, ch, ru, B, b, N, na, hc, ha⟩ := h
  have r0 : ∀ D2, m_fr D D2 → q_R D2 := fun D2 f2 => y_pa hc ha (fun _ _ => rfl) f2
  refine s_X11_restore (fun _ _ => ⟨fun z => hQ _ D (s_X12_restore (fun _ _ D1 e1 => ?_)), fun z => ⟨fun z1 => ⟨by omega, ?_⟩, fun z1 => hQ _ D (s_X12_restore (fun _ _ D1 e1 => ?_))⟩⟩)
  · subst e1
    exact c_X12_within ⟨fun y => (by omega : False).elim, fun _ _ => ⟨fun q => absurd rfl q, fun _ _ => y_fin hP (r0 _ m_fr.up0)⟩⟩
  · obtain ⟨q, rfl⟩ : ∃ q : Nat, v = q := ⟨v.toNat, by omega⟩
    rw [Int.toNat_natCast]
    have hq : q < 2 := by omega
    rcases hc.2.2.2.1 q hq with ⟨i1, i2⟩ | ⟨i1, i2, o', n', w', m', le', ch', ru', B', b', N', na', i3⟩
    · refine ⟨fun y => absurd i1 y, fun _ => hQ _ D (s_X12_restore (fun _ _ D1 e1 => ?_))⟩
      subst e1
      refine c_X12_within ⟨fun _ _ => ⟨fun _ => ⟨by omega, ?_⟩, fun q => absurd q (by decide)⟩, fun y => (by omega : False).elim⟩
      rw [Int.toNat_natCast, g_up_ne (show (211 : Nat) ≠ 208 by decide), i2]
      exact ⟨fun y => absurd rfl y, fun _ _ => y_fin hP (r0 _ m_fr.up0)⟩
    · refine ⟨fun _ => ⟨by omega, i3.copy ip_State_1 (ip_img hq) (by omega) (fun D1 f1 s1 => s_X3_clear (fun _ D2 e2 D3 e3 D4 e4 D5 e5 => hQ _ D5 (s_X12_restore (fun _ _ Dm em => ?_))))⟩, fun y => by rw [i1] at y; exact absurd y (by decide)⟩
      have f5 : ∀ i, i ≠ 0 → i ≠ 52 → ¬ (2 ≤ i ∧ i ≤ 14) → D5 i = D i := fun i a c d => by rw [e5, g_up_ne a, e4, g_up_ne a, e3, g_up_ne a, e2, g_up_ne c]; exact f1 i (by omega)
      have f51 : ∀ i, i ≠ 0 → i ≠ 52 → D5 i = D1 i := fun i a c => by rw [e5, g_up_ne a, e4, g_up_ne a, e3, g_up_ne a, e2, g_up_ne c]
      subst em
      refine c_X12_within ⟨fun _ _ => ⟨fun _ => ⟨by omega, ?_⟩, fun q => absurd q (by decide)⟩, fun y => (by omega : False).elim⟩
      rw [Int.toNat_natCast, g_up_ne (show (211 : Nat) ≠ 208 by decide), f5 211 (by decide) (by decide) (by decide), i2]
      refine ⟨fun _ => l_X12_restore hq (fun D6 g1 g2 g3 g4 _ => y_fin hP ?_) _ 0 _ rfl (by omega) (fun _ _ => rfl) (fun _ _ => rfl) (fun t ht => absurd ht (Nat.not_lt_zero t)), fun y => absurd y (by decide)⟩
      rw [g_up_ne (show (209 : Nat) ≠ 208 by decide), f5 209 (by decide) (by decide) (by decide)] at g2 g3
      have e : ∀ i, i ≠ 208 → i ≠ 209 → D6 i = D5 i := fun i a c => by rw [g1 i c, g_up_ne a]
      have e0 : ∀ i, i ≠ 0 → i ≠ 52 → ¬ (2 ≤ i ∧ i ≤ 14) → i ≠ 208 → i ≠ 209 → D6 i = D i := fun i a c d p q => by rw [e i p q]; exact f5 i a c d
      have e8 : ∀ j, j ≠ 0 → D6 208 j = D 208 j := fun j hj => by rw [g1 208 (by decide), g_up_at hj, f5 208 (by decide) (by decide) (by decide)]
      obtain ⟨h1, h2, ⟨el, sz, h3⟩, h4, h5⟩ := hc
      have e52 : D6 52 = D2 52 := by rw [e 52 (by decide) (by decide), e5, g_up_ne (by decide), e4, g_up_ne (by decide), e3, g_up_ne (by decide)]
      refine ⟨o', n', w', m', le', ch', ru', B', b', N', na', ⟨?_, h2.fr (e0 45 (by decide) (by decide) (by decide) (by decide) (by decide)) (e0 46 (by decide) (by decide) (by decide) (by decide) (by decide)) (e8 5 (by decide)) (e0 212 (by decide) (by decide) (by decide) (by decide) (by decide)), ⟨el, 0, ?_, ?_, h3.2.2.1, by omega, g4, fun j hj => absurd hj (Nat.not_lt_zero j)⟩, h4.fr (fun i a c => e0 i (by omega) (by omega) (by omega) (by omega) (by omega)) (e0 211 (by decide) (by decide) (by decide) (by decide) (by decide)) (fun j a _ => g2 j a), h5.fr (e0 47 (by decide) (by decide) (by decide) (by decide) (by decide)) (e8 40 (by decide)) (e8 41 (by decide))⟩, fun y => ?_, fun y => ?_, fun y => ?_⟩
      · refine (s1.fr (D' := D6) (fun i a c => ?_)).M (fun i hi => g3 i hi)
        rw [e i (by omega) (by omega)]; exact f51 i (by omega) (by omega)
      · rw [e52, e2, g_up_at (by decide), f1 52 (by decide)]; exact h3.1
      · rw [e52, e2, g_up_eq]; rfl
      · rw [e 0 (by decide) (by decide), e5, g_up_at (by decide), e4, g_up_at (by decide), e3, g_up_eq] at y; exact absurd y (by decide)
      · rw [e 0 (by decide) (by decide), e5, g_up_at (by decide), e4, g_up_eq] at y; exact absurd y (by decide)
      · rw [e 0 (by decide) (by decide), e5, g_up_eq] at y; exact absurd y (by decide)
  · subst e1
    exact c_X12_within ⟨fun y => (by omega : False).elim, fun _ _ => ⟨fun q => absurd rfl q, fun _ _ => y_fin hP (r0 _ m_fr.up0)⟩⟩
def q_bw (o : Nat → Int) (n i : Nat) : Int := if i < n then o i else 255
theorem q_bw_by (h : q_by o n) (k : Nat) : q_by (q_bw o n) k := fun i _ => by
  unfold q_bw
  by_cases e : i < n
  · rw [if_pos e]; exact h i e
  · rw [if_neg e]; exact ⟨by decide, by decide⟩
/-- a device that has just begun -/
def q_bgD (D : g_D) : Prop := (∀ i, i < 40 → D 10 i = D 8 i) ∧ (∀ i, i < 20 → D 11 i = D 9 i) ∧ D 7 6 = -1 ∧ D 7 7 = 0 ∧ D 7 8 = 1 ∧ D 7 9 = 1
theorem c_startHere {K : g_D → Prop} (kk : ∀ D' : g_D, (∀ i, i ≠ 7 → i ≠ 10 → i ≠ 11 → D' i = D i) → q_bgD D' → K D') : k_X2_startHere E l D 7 K := by
  refine s_X2_startHere ip_Device_7 (fun _ => ⟨by decide, fun D1 e1 => ⟨by decide, fun D2 e2 => c_X2_standAt ip_Device_7 (fun D3 f3 g6 g7 g8 g9 => kk D3 (fun i a c d => ?_) ⟨fun i hi => ?_, fun i hi => ?_, g6, g7, g8, g9⟩)⟩⟩)
  · rw [f3 i a, e2, g_cpy, g_row_ne (by omega), e1, g_cpy, g_row_ne (by omega)]
  · rw [f3 10 (by decide), f3 8 (by decide), e2, g_cpy, g_row_ne (by decide), g_row_ne (by decide), e1, g_cpy, g_row_eq, g_row_ne (by decide), if_pos (by omega), Nat.zero_add, Nat.sub_zero]
  · rw [f3 11 (by decide), f3 9 (by decide), e2, g_cpy, g_row_eq, g_row_ne (by decide), if_pos (by omega), Nat.zero_add, Nat.sub_zero]
theorem c_burnCells {K : g_D → Prop} (hx : x_cl D 2 o n) (kk : ∀ D' : g_D, (∀ i, ¬ (7 ≤ i ∧ i ≤ 13) → D' i = D i) → x_W D' 7 (q_bw o n) → q_bgD D' → D' 12 1 = 1 → D' 13 0 = 0 → K D') : k_X2_burnCells E l D 7 2 K := by
  have key : ∀ (q i : Nat) (D1 : g_D), 40 - i = q → i ≤ 40 → (∀ k, k ≠ 8 → D1 k = D k) → (∀ j, j < i → D1 8 j = q_bw o n j) → n_X2_burnCells E l D1 2 [some (g_R 7), some (g_R 2), some (g_I i)] K := by
    intro q
    induction q with
    | zero =>
      intro i D1 hq hi f hy
      obtain rfl : i = 40 := by omega
      refine s_X2_burnCells_2 ip_Device_7 ip_Cells_2 (fun _ _ => ⟨fun _ => c_fill (n0 := 20) sh_9 (by omega) (fun D2 f2 y2 D3 e3 => c_X0_push (n := 0) ip_Cells_12 ?_ (by omega) (by omega) (fun D4 f4 p1 p2 p3 p4 => c_startHere (fun D5 f5 g5 => kk D5 (fun i hi => ?_) ⟨fun i hi => ?_, fun i hi => ?_⟩ g5 ?_ ?_))), fun w => (by omega : False).elim⟩)
      · rw [e3, g_up_eq]; rfl
      · rw [f5 i (by omega) (by omega) (by omega), f4 i (by omega) (by omega), e3, g_up_ne (by omega), f2 i (by omega)]; exact f i (by omega)
      · rw [f5 _ (by decide) (by decide) (by decide), f4 _ (by decide) (by decide), e3, g_up_ne (by decide), f2 _ (by decide)]; exact hy i hi
      · rw [f5 _ (by decide) (by decide) (by decide), f4 _ (by decide) (by decide), e3, g_up_ne (by decide)]
        unfold q_bw
        rw [if_neg (by have := hx.2.1; omega)]; exact y2 i hi
      · rw [f5 12 (by decide) (by decide) (by decide)]; exact p1
      · rw [f5 13 (by decide) (by decide) (by decide)]; exact p3
    | succ q ih =>
      intro i D1 hq hi f hy
      have h2 : D1 2 1 = n := by rw [f 2 (by decide)]; exact hx.1
      refine s_X2_burnCells_2 ip_Device_7 ip_Cells_2 (fun _ _ => ⟨fun w => (by omega : False).elim, fun _ => ⟨fun z => ⟨by omega, fun D2 e2 => ⟨⟨by omega, by omega⟩, ?_⟩⟩, fun z => ⟨by omega, by omega, fun D2 e2 => ⟨⟨by omega, by omega⟩, ?_⟩⟩⟩⟩)
      · rw [Int.toNat_natCast] at e2
        rw [g_cast1]
        refine ih (i + 1) D2 (by omega) (by omega) (fun k hk => by rw [e2, g_up_ne hk]; exact f k hk) (fun j hj => ?_)
        rw [e2]
        by_cases e : j = i
        · subst e; rw [g_up_eq]; unfold q_bw; rw [if_neg (by omega)]
        · rw [g_up_at e]; exact hy j (by omega)
      · rw [Int.toNat_natCast] at e2
        rw [g_cast1]
        refine ih (i + 1) D2 (by omega) (by omega) (fun k hk => by rw [e2, g_up_ne hk]; exact f k hk) (fun j hj => ?_)
        rw [e2]
        by_cases e : j = i
        · subst e; rw [g_up_eq]; unfold q_bw; rw [if_pos (by omega), f (2 + 1) (by decide)]; exact hx.2.2 j (by omega)
        · rw [g_up_at e]; exact hy j (by omega)
  exact s_X2_burnCells ip_Device_7 ip_Cells_2 (fun _ => key 40 0 D rfl (by omega) (fun _ _ => rfl) (fun j hj => absurd hj (Nat.not_lt_zero j)))
/-- the model begins -/
def q_bgM (D : g_D) : Prop := (∀ i, i < 60 → D 209 (153 + i) = D 209 (86 + i)) ∧ D 209 147 = 0 ∧ D 209 148 = -1 ∧ ∀ t, t < 4 → D 209 (149 + t) = 0
theorem c_begins {K : g_D → Prop} (kk : ∀ D' : g_D, (∀ k, k ≠ 209 → D' k = D k) → (∀ j, ¬ (147 ≤ j ∧ j < 213) → D' 209 j = D 209 j) → q_bgM D' → K D') : k_X12_begins E l D K := by
  have zer : ∀ (D0 : g_D), (∀ k, k ≠ 209 → D0 k = D k) → (∀ j, ¬ (147 ≤ j ∧ j < 213) → D0 209 j = D 209 j) → (∀ i, i < 60 → D0 209 (153 + i) = D 209 (86 + i)) → D0 209 147 = 0 → D0 209 148 = -1 → ∀ (q i : Nat) (D1 : g_D), 4 - i = q → i ≤ 4 → (∀ k, k ≠ 209 → D1 k = D0 k) → (∀ j, ¬ (149 ≤ j ∧ j < 153) → D1 209 j = D0 209 j) → (∀ t, t < i → D1 209 (149 + t) = 0) → n_X12_begins E l D1 53 [some (g_R 208), some (g_I i)] K := by
    intro D0 a1 a2 a3 a4 a5 q
    induction q with
    | zero =>
      intro i D1 hq hi f g hy
      obtain rfl : i = 4 := by omega
      refine s_X12_begins_53 (fun _ _ => ⟨fun _ => kk D1 (fun k hk => (f k hk).trans (a1 k hk)) (fun j hj => (g j (by omega)).trans (a2 j hj)) ⟨fun i hi => ?_, (g 147 (by omega)).trans a4, (g 148 (by omega)).trans a5, hy⟩, fun w => (by omega : False).elim⟩)
      rw [g _ (by omega), g _ (by omega), a3 i hi, a2 _ (by omega)]
    | succ q ih =>
      intro i D1 hq hi f g hy
      refine s_X12_begins_53 (fun _ _ => ⟨fun w => (by omega : False).elim, fun _ => ⟨⟨by omega, by omega⟩, by omega, fun D2 e2 => ⟨⟨by omega, by omega⟩, ?_⟩⟩⟩)
      rw [show (149 + (i : Int)).toNat = 149 + i by omega] at e2
      rw [g_cast1]
      refine ih (i + 1) D2 (by omega) (by omega) (fun k hk => by rw [e2, g_up_ne hk]; exact f k hk) (fun j hj => by rw [e2, g_up_at (by omega)]; exact g j hj) (fun j hj => ?_)
      rw [e2]
      by_cases e : j = i
      · subst e; rw [g_up_eq]
      · rw [g_up_at (by omega)]; exact hy j (by omega)
  have cop : ∀ (q i : Nat) (D1 : g_D), 60 - i = q → i ≤ 60 → (∀ k, k ≠ 209 → D1 k = D k) → (∀ j, ¬ (153 ≤ j ∧ j < 213) → D1 209 j = D 209 j) → (∀ t, t < i → D1 209 (153 + t) = D 209 (86 + t)) → n_X12_begins E l D1 2 [some (g_R 208), some (g_I i)] K := by
    intro q
    induction q with
    | zero =>
      intro i D1 hq hi f g hy
      obtain rfl : i = 60 := by omega
      refine s_X12_begins_2 (fun _ _ => ⟨fun _ D2 e2 D3 e3 => zer D3 (fun k hk => ?_) (fun j hj => ?_) (fun i hi => ?_) ?_ ?_ 4 0 D3 rfl (by omega) (fun _ _ => rfl) (fun _ _ => rfl) (fun t ht => absurd ht (Nat.not_lt_zero t)), fun w => (by omega : False).elim⟩)
      · rw [e3, g_up_ne hk, e2, g_up_ne hk]; exact f k hk
      · rw [e3, g_up_at (by omega), e2, g_up_at (by omega)]; exact g j (by omega)
      · rw [e3, g_up_at (by omega), e2, g_up_at (by omega)]; exact hy i hi
      · rw [e3, g_up_at (by decide), e2, g_up_eq]
      · rw [e3, g_up_eq]
    | succ q ih =>
      intro i D1 hq hi f g hy
      refine s_X12_begins_2 (fun _ _ => ⟨fun w => (by omega : False).elim, fun _ => ⟨⟨by omega, by omega⟩, ⟨by omega, by omega⟩, by omega, by omega, fun D2 e2 => ⟨⟨by omega, by omega⟩, ?_⟩⟩⟩)
      rw [show (153 + (i : Int)).toNat = 153 + i by omega, show (86 + (i : Int)).toNat = 86 + i by omega, g _ (by omega)] at e2
      rw [g_cast1]
      refine ih (i + 1) D2 (by omega) (by omega) (fun k hk => by rw [e2, g_up_ne hk]; exact f k hk) (fun j hj => by rw [e2, g_up_at (by omega)]; exact g j hj) (fun j hj => ?_)
      rw [e2]
      by_cases e : j = i
      · subst e; rw [g_up_eq]
      · rw [g_up_at (by omega)]; exact hy j (by omega)
  exact s_X12_begins (fun _ => cop 60 0 D rfl (by omega) (fun _ _ => rfl) (fun _ _ => rfl) (fun t ht => absurd ht (Nat.not_lt_zero t)))
theorem c_burns {K : g_D → Prop} (h0 : D 209 0 = n) (hn : n ≤ 40) (ho : ∀ i, i < n → D 209 (6 + i) = o i) (kk : ∀ D' : g_D, (∀ k, k ≠ 209 → D' k = D k) → (∀ j, ¬ (86 ≤ j ∧ j ≤ 213) → D' 209 j = D 209 j) → (∀ i, i < 60 → D' 209 (86 + i) = q_bw o n i) → D' 209 146 = 1 → D' 209 213 = 0 → q_bgM D' → K D') : k_X12_burns E l D K := by
  have two : ∀ (q i : Nat) (D1 : g_D), 20 - i = q → i ≤ 20 → (∀ k, k ≠ 209 → D1 k = D k) → (∀ j, ¬ (86 ≤ j ∧ j ≤ 213) → D1 209 j = D 209 j) → (∀ t, t < 40 + i → D1 209 (86 + t) = q_bw o n t) → n_X12_burns E l D1 50 [some (g_R 208), some (g_I i)] K := by
    intro q
    induction q with
    | zero =>
      intro i D1 hq hi f g hy
      obtain rfl : i = 20 := by omega
      refine s_X12_burns_50 (fun _ _ => ⟨fun _ D2 e2 D3 e3 => c_begins (fun D4 f4 g4 b4 => kk D4 (fun k hk => ?_) (fun j hj => ?_) (fun i hi => ?_) ?_ ?_ b4), fun w => (by omega : False).elim⟩)
      · rw [f4 k hk, e3, g_up_ne hk, e2, g_up_ne hk]; exact f k hk
      · rw [g4 j (by omega), e3, g_up_at (by omega), e2, g_up_at (by omega)]; exact g j hj
      · rw [g4 _ (by omega), e3, g_up_at (by omega), e2, g_up_at (by omega)]; exact hy i (by omega)
      · rw [g4 146 (by omega), e3, g_up_at (by decide), e2, g_up_eq]
      · rw [g4 213 (by omega), e3, g_up_eq]
    | succ q ih =>
      intro i D1 hq hi f g hy
      refine s_X12_burns_50 (fun _ _ => ⟨fun w => (by omega : False).elim, fun _ => ⟨⟨by omega, by omega⟩, by omega, fun D2 e2 => ⟨⟨by omega, by omega⟩, ?_⟩⟩⟩)
      rw [show (126 + (i : Int)).toNat = 86 + (40 + i) by omega] at e2
      rw [g_cast1]
      refine ih (i + 1) D2 (by omega) (by omega) (fun k hk => by rw [e2, g_up_ne hk]; exact f k hk) (fun j hj => by rw [e2, g_up_at (by omega)]; exact g j hj) (fun j hj => ?_)
      rw [e2]
      by_cases e : j = 40 + i
      · subst e; rw [g_up_eq]; unfold q_bw; rw [if_neg (by omega)]
      · rw [g_up_at (by omega)]; exact hy j (by omega)
  have one : ∀ (q i : Nat) (D1 : g_D), 40 - i = q → i ≤ 40 → (∀ k, k ≠ 209 → D1 k = D k) → (∀ j, ¬ (86 ≤ j ∧ j ≤ 213) → D1 209 j = D 209 j) → (∀ t, t < i → D1 209 (86 + t) = q_bw o n t) → n_X12_burns E l D1 2 [some (g_R 208), some (g_I i)] K := by
    intro q
    induction q with
    | zero =>
      intro i D1 hq hi f g hy
      obtain rfl : i = 40 := by omega
      exact s_X12_burns_2 (fun _ _ => ⟨fun _ => two 20 0 D1 rfl (by omega) f g hy, fun w => (by omega : False).elim⟩)
    | succ q ih =>
      intro i D1 hq hi f g hy
      have h2 : D1 209 0 = n := by rw [g 0 (by omega)]; exact h0
      refine s_X12_burns_2 (fun _ _ => ⟨fun w => (by omega : False).elim, fun _ => ⟨⟨by omega, by omega⟩, fun z => ⟨by omega, fun D2 e2 => ⟨⟨by omega, by omega⟩, ?_⟩⟩, fun z => ⟨⟨by omega, by omega⟩, by omega, by omega, fun D2 e2 => ⟨⟨by omega, by omega⟩, ?_⟩⟩⟩⟩)
      · rw [show (86 + (i : Int)).toNat = 86 + i by omega] at e2
        rw [g_cast1]
        refine ih (i + 1) D2 (by omega) (by omega) (fun k hk => by rw [e2, g_up_ne hk]; exact f k hk) (fun j hj => by rw [e2, g_up_at (by omega)]; exact g j hj) (fun j hj => ?_)
        rw [e2]
        by_cases e : j = i
        · subst e; rw [g_up_eq]; unfold q_bw; rw [if_neg (by omega)]
        · rw [g_up_at (by omega)]; exact hy j (by omega)
      · rw [show (86 + (i : Int)).toNat = 86 + i by omega, show (6 + (i : Int)).toNat = 6 + i by omega, g _ (by omega), ho i (by omega)] at e2
        rw [g_cast1]
        refine ih (i + 1) D2 (by omega) (by omega) (fun k hk => by rw [e2, g_up_ne hk]; exact f k hk) (fun j hj => by rw [e2, g_up_at (by omega)]; exact g j hj) (fun j hj => ?_)
        rw [e2]
        by_cases e : j = i
        · subst e; rw [g_up_eq]; unfold q_bw; rw [if_pos (by omega)]
        · rw [g_up_at (by omega)]; exact hy j (by omega)
  exact s_X12_burns (fun _ => one 40 0 D rfl (by omega) (fun _ _ => rfl) (fun _ _ => rfl) (fun t ht => absurd ht (Nat.not_lt_zero t)))
theorem q_dv.new (hx : x_W D 7 W) (g : q_bgD D) (hb : q_by W 60) (hM : ∀ i, i < 60 → M i = W i) (hM2 : ∀ i, i < 60 → M (67 + i) = W i) (h60 : M 60 = 1) (h61 : M 61 = 0) (h62 : M 62 = -1) (h63 : ∀ t, t < 4 → M (63 + t) = 0) (d2 : q_d2 D 7 b' N' na') (d3 : q_d3 M b' na') : q_dv D 7 M b' N' na' := by
  obtain ⟨g1, g2, g6, g7, g8, g9⟩ := g
  refine ⟨⟨fun i hi => ?_, fun i hi => ?_, fun i hi => ?_, fun i hi => ?_, fun i hi => ?_, fun i hi => ?_⟩, d2, d3, q_d4.mk (s := 0) (p := 1) (u := 1) (J := -1) g9 h60 (Or.inr rfl) g7 (Nat.zero_le _) g8 (Or.inr rfl) (by rw [h61, if_neg (by decide)]; rfl) g6 h62 (Or.inl rfl) (fun t ht => by rw [if_pos rfl]; exact h63 t ht) (fun y => absurd rfl y) (fun _ => ⟨rfl, rfl⟩) (fun _ y => absurd rfl y)⟩
  · rw [hM i (by omega)]; exact hx.1 i hi
  · rw [hM _ (by omega)]; exact hx.2 i hi
  · show D 10 i = _
    rw [g1 i hi, hM2 i (by omega)]; exact hx.1 i hi
  · show D 11 i = _
    rw [g2 i hi, show 107 + i = 67 + (40 + i) by omega, hM2 _ (by omega)]; exact hx.2 i hi
  · rw [hM i hi]; exact hb i hi
  · show 0 ≤ M (67 + i) ∧ M (67 + i) ≤ 255
    rw [hM2 i hi]; exact hb i hi
theorem q_none : r_all (fun _ => 0) 1 = (0, 0, -1) := by decide
theorem y_burn {P : g_D → Prop} {Q : Int → g_D → Prop} (h : q_R D) (hP : ∀ D', q_R D' → P D') (hQ : ∀ (x1 : Int) (D1 : g_D), k_X12_burn E l D1 (fun x2 D2 => g_r x2 → (x1 = x2 → P D2) ∧ (¬ x1 = x2 → False)) → Q x1 D1) : k_X11_burn E l D Q := by
  obtain ⟨o, n, w, m, le, ch, ru, B, b, N, na, hc, ha⟩ := h
  obtain ⟨⟨x1, x2, x3⟩, ⟨a0, a1, a2, a3, a4, a5, a6, a7⟩, h3, h4, h5⟩ := id hc.1
  refine s_X11_burn (fun _ => y_keep hc (fun el sz Da hh fa kp => c_burnCells (o := o) (n := n) ?_ (fun Db fb xb gb b12 b13 D1 e1 => hQ _ D1 (s_X12_burn (fun _ Dm em => ?_)))))
  · unfold x_cl at *; rw [fa 2 (by decide), fa (2 + 1) (by decide)]; exact x1
  · have f1 : ∀ i, i ≠ 0 → ¬ (7 ≤ i ∧ i ≤ 14) → ¬ (52 ≤ i ∧ i ≤ 133) → D1 i = D i := fun i a c d => by rw [e1, g_up_ne a, fb i (by omega)]; exact fa i d
    have f1b : ∀ i, i ≠ 0 → D1 i = Db i := fun i a => by rw [e1, g_up_ne a]
    have em9 : Dm 209 = D 209 := by rw [em, g_up_ne (by decide)]; exact f1 209 (by decide) (by decide) (by decide)
    refine c_X12_notes (sz := sz) (by rw [em9]; exact hh.2.2.2.2.1) hh.2.2.2.1 (fun Dn nt => ?_)
    refine c_burns (o := o) (n := n) (by rw [nt.2.1 0 (by decide), em9]; exact a0) x1.2.1 (fun i hi => by have := x1.2.1; rw [nt.2.1 _ (by omega), em9]; exact a2 i hi) (fun D3 f3 g3 w3 p3 q3 b3 _ => y_fin hP ?_)
    have g9 : ∀ j, j < 86 ∨ 518 ≤ j → D3 209 j = Dn 209 j := fun j hj => g3 j (by omega)
    have gg : q_bgD D1 := by unfold q_bgD at *; rw [f1b 7 (by decide), f1b 8 (by decide), f1b 9 (by decide), f1b 10 (by decide), f1b 11 (by decide)]; exact gb
    have xx : x_W D1 7 (q_bw o n) := by unfold x_W at *; rw [f1b _ (by decide), f1b _ (by decide)]; exact xb
    refine q_dch (Dn := Dn) hc ha hh (fun i a c d _ => f1 i a c d) (fun j hj => by rw [e1, g_up_at hj, fb 0 (by decide), fa 0 (by decide)]) (kp.fr (fun i a c => by rw [f1b i (by omega), fb i (by omega)])) (by rw [em]; exact m_fr.up0) nt (fun k hk => f3 k (by omega)) (fun j _ => by rw [f3 208 (by decide)]) g9 (b' := fun _ => 0) (N' := 1) (na' := 0) (q_dv.new xx gg (q_bw_by h3 60) w3 (fun i hi => ?_) p3 b3.2.1 b3.2.2.1 (fun t ht => by rw [show 86 + (63 + t) = 149 + t by omega]; exact b3.2.2.2 t ht) ⟨by rw [f1b _ (by decide)]; exact b12, by decide, fun i hi => ?_, fun i hi => ⟨Int.le_refl 0, (by decide : (0 : Int) ≤ 255)⟩, q_none⟩ ⟨q3, fun i hi => absurd hi (Nat.not_lt_zero i)⟩) (fun y => ?_)
    · rw [show 86 + (67 + i) = 153 + i by omega, b3.1 i hi]; exact w3 i hi
    · obtain rfl : i = 0 := by omega
      rw [f1b _ (by decide)]; exact b13
    · rw [f3 0 (by decide), nt.1 0 (by decide) (by decide), em, g_up_ne (by decide), e1, g_up_eq] at y; exact absurd y (by decide)
end CA6
end