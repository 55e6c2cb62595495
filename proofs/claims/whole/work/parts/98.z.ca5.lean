section
/-! the cases that change the device without steps -/
section CA5
variable {E : g_E} {l : Launch} {sh : List g_Sh} {D D1 D2 D3 D' Dm Dn : g_D} {o w b b' W W0 M : Nat → Int} {n m le B N na N' na' el sz : Nat} {ch ru : Int}
theorem q_dch (hc : q_co D o n w m le ch ru B b N na) (ha : q_ca D o n w m le ch ru B b N na) (hh : q_hi D el sz) (f1 : ∀ i, i ≠ 0 → ¬ (7 ≤ i ∧ i ≤ 14) → ¬ (52 ≤ i ∧ i ≤ 133) → ¬ (175 ≤ i ∧ i ≤ 207) → D1 i = D i) (f10 : ∀ j, j ≠ 15 → D1 0 j = D 0 j) (kp : q_kp D D1 el sz (fun i => D 209 (86 + i)) b N na) (m1 : m_fr D1 Dm) (nt : q_nt Dm Dn sz) (m3 : ∀ k, k < 208 ∨ (210 ≤ k ∧ k ≤ 212) → D3 k = Dn k) (m38 : ∀ j, (j = 5 ∨ j = 40 ∨ j = 41) → D3 208 j = Dn 208 j) (m39 : ∀ j, j < 86 ∨ 518 ≤ j → D3 209 j = Dn 209 j) (d : q_dv D1 7 (fun i => D3 209 (86 + i)) b' N' na') (c : q_cc D3 b' N' na') : q_R D3 := by
  have e : ∀ k, k < 208 → D3 k = D1 k := fun k hk => by rw [m3 k (Or.inl hk), nt.1 k (by omega) (by omega), m1.1 k (Or.inl hk)]
  have eb : ∀ k, (k = 211 ∨ k = 212) → D3 k = D k := fun k hk => by rw [m3 k (by omega), nt.1 k (by omega) (by omega), m1.1 k (by omega), f1 k (by omega) (by omega) (by omega) (by omega)]
  have e8 : ∀ j, (j = 5 ∨ j = 40 ∨ j = 41) → D3 208 j = D 208 j := fun j hj => by rw [m38 j hj, nt.1 208 (by decide) (by decide), m1.2 j hj, f1 208 (by decide) (by decide) (by decide) (by decide)]
  refine q_mkd hc ha (fun i hi => by rw [e i (by omega)]; exact f1 i (by omega) (by omega) (by omega) (by omega)) (by rw [e 0 (by decide)]; exact f10 13 (by decide)) (by rw [e 0 (by decide)]; exact f10 14 (by decide)) (fun j hj => ?_) (eb 211 (by decide)) (hc.2.1.fr ?_ ?_ (e8 5 (by decide)) (eb 212 (by decide))) (hc.2.2.2.2.fr ?_ (e8 40 (by decide)) (e8 41 (by decide))) ⟨_, _, hh.keep (D1 := Dm) (D2 := Dn) (kp.fr (fun i a c => m1.1 i (by omega))) ?_ ?_ nt (fun i a c => m3 i (by omega)) (m3 210 (by decide)) (m39 518 (by decide))⟩ (d.fr (fun i a c => e i (by omega))) c
  · rw [m39 j (by omega), nt.2.1 j (by omega), m1.1 209 (by decide), f1 209 (by decide) (by decide) (by decide) (by decide)]
  · rw [e 45 (by decide)]; exact f1 45 (by decide) (by decide) (by decide) (by decide)
  · rw [e 46 (by decide)]; exact f1 46 (by decide) (by decide) (by decide) (by decide)
  · rw [e 47 (by decide)]; exact f1 47 (by decide) (by decide) (by decide) (by decide)
  · rw [m1.1 209 (by decide)]; exact f1 209 (by decide) (by decide) (by decide) (by decide)
  · rw [m1.1 210 (by decide)]; exact f1 210 (by decide) (by decide) (by decide) (by decide)
theorem q_d4.mk {k c s : Nat} {p u J : Int} (h9 : D k 9 = p) (h60 : M 60 = p) (hp : p = 0 ∨ p = 1) (h7 : D k 7 = s) (hs : s ≤ c) (h8 : D k 8 = u) (hu : u = 0 ∨ u = 1) (h61 : M 61 = if u = 0 then -1 else (s : Int)) (h6 : D k 6 = J) (h62 : M 62 = J) (hJ : J = -1 ∨ (0 ≤ J ∧ J ≤ 9)) (h63 : ∀ t, t < 4 → M (63 + t) = if J = -1 then 0 else D (k + 7) t) (hC : ¬ J = -1 → ∀ t, t < 4 → 0 ≤ D (k + 7) t ∧ D (k + 7) t ≤ 255) (i1 : p = 1 → J = -1 ∧ u = 1) (i2 : u = 1 → ¬ J = -1 → (s : Int) < c) : q_d4 D k M c := by
  unfold q_d4
  rw [h9, h60, h7, h8, h61, h6, h62]
  exact ⟨rfl, hp, ⟨s, rfl, hs⟩, hu, rfl, rfl, hJ, h63, hC, i1, i2⟩
theorem y_keep {K : g_D → Prop} (hc : q_co D o n w m le ch ru B b N na) (kk : ∀ (el sz : Nat) (D' : g_D), q_hi D el sz → (∀ i, ¬ (52 ≤ i ∧ i ≤ 133) → D' i = D i) → q_kp D D' el sz (fun i => D 209 (86 + i)) b N na → K D') : k_X3_keep E l D 7 K := by
  obtain ⟨el, sz, hh⟩ := hc.2.2.1
  exact c_X3_keep hh.1 hh.2.1 hh.2.2.1 hh.2.2.2.1 hc.dev (fun D' f kp => kk el sz D' hh f kp)
theorem q_co.d4 (hc : q_co D o n w m le ch ru B b N na) : q_d4 D 7 (fun i => D 209 (86 + i)) (t_o b na) := hc.dev.2.2.2
theorem q_co.pow (hc : q_co D o n w m le ch ru B b N na) : D 7 9 = D 209 146 ∧ (D 209 146 = 0 ∨ D 209 146 = 1) := ⟨hc.d4.1, hc.d4.2.1⟩
theorem q_co.stp (hc : q_co D o n w m le ch ru B b N na) : D 209 147 = if D 7 8 = 0 then -1 else D 7 7 := hc.d4.2.2.2.2.1
theorem y_forget {P : g_D → Prop} {Q : Int → g_D → Prop} (h : q_R D) (hP : ∀ D', q_R D' → P D') (hQ : ∀ (x1 : Int) (D1 : g_D), k_X12_forget E l D1 (fun x2 D2 => g_r x2 → (x1 = x2 → P D2) ∧ (¬ x1 = x2 → False)) → Q x1 D1) : k_X11_forget E l D Q := by
  obtain ⟨o, n, w, m, le, ch, ru, B, b, N, na, hc, ha⟩ := h
  have r0 : ∀ D2, m_fr D D2 → q_R D2 := fun D2 f2 => y_pa hc ha (fun _ _ => rfl) f2
  obtain ⟨p1, p2⟩ := hc.pow
  have st := hc.stp
  obtain ⟨⟨s, s1, s2⟩, s8⟩ := And.intro hc.d4.2.2.1 hc.d4.2.2.2.1
  refine s_X11_forget (fun _ => ⟨fun z => hQ _ D (s_X12_forget (fun _ D1 e1 => ?_)), fun z => ⟨fun z1 => y_keep hc (fun el sz Da hh fa kp D1 e1 => hQ _ D1 (s_X12_forget (fun _ Dm em => ?_))), fun z1 => hQ _ D (s_X12_forget (fun _ D1 e1 => ?_))⟩⟩)
  · subst e1
    exact ⟨fun _ _ => y_fin hP (r0 _ m_fr.up0), fun y => (by omega : False).elim⟩
  · have e19 : D1 209 = D 209 := by rw [e1, g_up_ne (by decide)]; exact fa 209 (by decide)
    have em9 : Dm 209 = D 209 := by rw [em, g_up_ne (by decide)]; exact e19
    rw [if_neg z1] at st
    rw [e19]
    refine ⟨fun y => (by omega : False).elim, fun _ => ⟨fun _ => c_X12_notes (sz := sz) (by rw [em9]; exact hh.2.2.2.2.1) hh.2.2.2.1 (fun Dn nt D3 e3 _ => y_fin hP ?_), fun y => (by omega : False).elim⟩⟩
    have f1 : ∀ i, i ≠ 7 → ¬ (52 ≤ i ∧ i ≤ 133) → D1 i = D i := fun i a c => by rw [e1, g_up_ne a]; exact fa i c
    have eM : ∀ i, i < 432 → i ≠ 61 → D3 209 (86 + i) = D 209 (86 + i) := fun i a c => by rw [e3, g_up_at (by omega), nt.2.1 _ (by omega), em9]
    have e30 : ∀ k, k < 208 → D3 k = D1 k := fun k hk => by rw [e3, g_up_ne (by omega), nt.1 k (by omega) (by omega), em, g_up_ne (by omega)]
    refine q_dch hc ha hh (fun i a c d _ => f1 i (by omega) d) (fun j _ => by rw [f1 0 (by decide) (by decide)]) (kp.fr (fun i a c => by rw [e1, g_up_ne (by omega)])) (by rw [em]; exact m_fr.up0) nt (fun k hk => by rw [e3, g_up_ne (by omega)]) (fun j _ => by rw [e3, g_up_ne (by decide)]) (fun j hj => by rw [e3, g_up_at (by omega)]) (b' := b) (N' := N) (na' := na) ?_ (ha.2.2.fr2 (by rw [e30 0 (by decide), f1 0 (by decide) (by decide)]) (fun i a c => by rw [e30 i (by omega)]; exact f1 i (by omega) (by omega)) (by rw [e30 207 (by decide)]; exact f1 207 (by decide) (by decide)) (fun i hi => by rw [show 153 + i = 86 + (67 + i) by omega]; exact eM _ (by omega) (by omega)))
    obtain ⟨c1, c2, c3, d1, d2, d3, d4, d5, d6, d7, d8, d9, d10, d11⟩ := hc.dev
    have hna := hc.A.2.1
    have g7 : ∀ j, j ≠ 8 → D1 7 j = D 7 j := fun j hj => by rw [e1, g_up_at hj, fa 7 (by decide)]
    have g8 : D1 7 8 = 0 := by rw [e1, g_up_eq]
    have e14 : D1 (7 + 7) = D (7 + 7) := f1 14 (by decide) (by decide)
    refine ⟨c1.fr (f1 8 (by decide) (by decide)) (f1 9 (by decide) (by decide)) (f1 10 (by decide) (by decide)) (f1 11 (by decide) (by decide)) (fun i hi => eM i (by omega) (by omega)), c2.fr (f1 12 (by decide) (by decide)) (f1 13 (by decide) (by decide)), c3.M hna (fun i a c => eM i (by omega) (by omega)), ?_⟩
    exact q_d4.mk (s := s) (p := 0) (u := 0) (J := D 7 6) ((g7 9 (by decide)).trans z) ((eM 60 (by decide) (by decide)).trans (p1.symm.trans z)) (Or.inl rfl) ((g7 7 (by decide)).trans s1) s2 g8 (Or.inl rfl) (by rw [if_pos rfl, e3]; exact g_up_eq) (g7 6 (by decide)) ((eM 62 (by decide) (by decide)).trans d6) d7 (fun t ht => by rw [e14]; exact (eM _ (by omega) (by omega)).trans (d8 t ht)) (by rw [e14]; exact d9) (fun y => absurd y (by decide)) (fun y => absurd y (by decide))
  · subst e1
    rw [if_pos z1] at st
    exact ⟨fun _ _ => y_fin hP (r0 _ m_fr.up0), fun _ => ⟨fun y => absurd st y, fun _ _ => y_fin hP (r0 _ m_fr.up0)⟩⟩
theorem c_X12_spoil0 {K : Int → g_D → Prop} {k v : Int} (k2 : ¬ (0 ≤ k ∧ k < 40) → K (-2) (g_up D 208 0 0)) (k3 : (0 ≤ k ∧ k < 40) → ¬ (0 ≤ v ∧ v ≤ 255) → K (-3) (g_up D 208 0 0)) (h : D 209 518 = sz) (hsz : sz ≤ 10) (k1 : ∀ s : Nat, k = s → s < 40 → (0 ≤ v ∧ v ≤ 255) → ∀ Dn : g_D, q_nt (g_up D 208 0 0) Dn sz → K (D 209 (86 + s)) (g_up Dn 209 (86 + s) v)) : k_X12_spoil E l D k v K := by
  refine s_X12_spoil (fun _ _ _ D1 e1 => ?_)
  subst e1
  refine c_X12_within ⟨fun z _ => ⟨fun _ => c_X12_within ⟨fun y _ => ⟨fun _ => ?_, fun q => absurd q (by decide)⟩, fun y _ => ⟨fun q => absurd rfl q, fun _ => k3 (by omega) y⟩⟩, fun q => absurd q (by decide)⟩, fun z _ => ⟨fun q => absurd rfl q, fun _ => k2 (by omega)⟩⟩
  obtain ⟨s, rfl⟩ : ∃ s : Nat, k = s := ⟨k.toNat, by omega⟩
  refine c_X12_notes (sz := sz) (by rw [g_up_ne (by decide)]; exact h) hsz (fun Dn nt => ⟨⟨by omega, by omega⟩, by omega, ⟨by omega, by omega⟩, by omega, fun D5 e5 => ?_⟩)
  rw [show (86 + (s : Int)).toNat = 86 + s by omega] at e5 ⊢
  rw [e5, nt.2.1 _ (by omega), g_up_ne (show (209 : Nat) ≠ 208 by decide)]
  exact k1 s rfl (by omega) y Dn nt
theorem y_spoil {P : g_D → Prop} {Q : Int → g_D → Prop} {k v : Int} (h : q_R D) (hP : ∀ D', q_R D' → P D') (hQ : ∀ (x1 : Int) (D1 : g_D), k_X12_spoil E l D1 k v (fun x2 D2 => g_r x2 → (x1 = x2 → P D2) ∧ (¬ x1 = x2 → False)) → Q x1 D1) : k_X11_spoil E l D k v Q := by
  obtain ⟨o, n, w, m, le, ch, ru, B, b, N, na, hc, ha⟩ := h
  have r0 : ∀ D2, m_fr D D2 → q_R D2 := fun D2 f2 => y_pa hc ha (fun _ _ => rfl) f2
  obtain ⟨el0, sz0, hh0⟩ := id hc.2.2.1
  have z5 := hh0.2.2.2.2.1
  have z4 := hh0.2.2.2.1
  refine s_X11_spoil (fun _ _ _ => ⟨fun z => hQ _ D ?_, fun z => ⟨fun z1 => ⟨fun z2 => hQ _ D ?_, fun z2 => ⟨fun z3 => y_keep hc (fun el sz Da hh fa kp => ⟨by omega, by omega, fun D1 e1 => hQ _ D1 ?_⟩), fun z3 => hQ _ D ?_⟩⟩, fun z1 => hQ _ D ?_⟩⟩)
  · exact c_X12_spoil0 (fun _ _ => y_fin hP (r0 _ m_fr.up0)) (fun q => (by omega : False).elim) z5 z4 (fun s q => (by omega : False).elim)
  · exact c_X12_spoil0 (fun _ => (by omega : False).elim) (fun _ _ _ => y_fin hP (r0 _ m_fr.up0)) z5 z4 (fun s _ _ q => (by omega : False).elim)
  · obtain ⟨s, rfl⟩ : ∃ s : Nat, k = s := ⟨k.toNat, by omega⟩
    rw [Int.toNat_natCast] at e1
    have f1 : ∀ i, i ≠ 8 → ¬ (52 ≤ i ∧ i ≤ 133) → D1 i = D i := fun i a c => by rw [e1, g_up_ne a]; exact fa i c
    have e19 : D1 209 = D 209 := f1 209 (by decide) (by decide)
    refine c_X12_spoil0 (sz := sz) (fun _ => (by omega : False).elim) (fun _ q => (by omega : False).elim) (by rw [e19]; exact hh.2.2.2.2.1) hh.2.2.2.1 (fun s' q1 q2 q3 Dn nt => ?_)
    obtain rfl : s' = s := by omega
    have a8 : Da 8 s' = D1 209 (86 + s') := by rw [fa 8 (by decide), e19]; exact hc.xW.1 s' (by omega)
    rw [Int.toNat_natCast, a8]
    refine fun _ => y_fin hP ?_
    have eM : ∀ i, i < 432 → i ≠ s' → (g_up Dn 209 (86 + s') v) 209 (86 + i) = D 209 (86 + i) := fun i a c => by rw [g_up_at (by omega), nt.2.1 _ (by omega), g_up_ne (by decide), e19]
    have e30 : ∀ k, k < 208 → (g_up Dn 209 (86 + s') v) k = D1 k := fun k hk => by rw [g_up_ne (by omega), nt.1 k (by omega) (by omega), g_up_ne (by omega)]
    refine q_dch hc ha hh (fun i a c d _ => f1 i (by omega) d) (fun j _ => by rw [f1 0 (by decide) (by decide)]) (kp.fr (fun i a c => by rw [e1, g_up_ne (by omega)])) m_fr.up0 nt (fun k hk => by rw [g_up_ne (by omega)]) (fun j _ => by rw [g_up_ne (by decide)]) (fun j hj => by rw [g_up_at (by omega)]) (b' := b) (N' := N) (na' := na) ?_ (ha.2.2.fr2 (by rw [e30 0 (by decide), f1 0 (by decide) (by decide)]) (fun i a c => by rw [e30 i (by omega)]; exact f1 i (by omega) (by omega)) (by rw [e30 207 (by decide)]; exact f1 207 (by decide) (by decide)) (fun i hi => by rw [show 153 + i = 86 + (67 + i) by omega]; exact eM _ (by omega) (by omega)))
    obtain ⟨⟨a1, a2, a3, a4, a5, a6⟩, c2, c3, d1, d2, d3, d4, d5, d6, d7, d8, d9, d10, d11⟩ := hc.dev
    have hna := hc.A.2.1
    have eMs : (g_up Dn 209 (86 + s') v) 209 (86 + s') = v := g_up_eq
    refine ⟨⟨fun i hi => ?_, fun i hi => ?_, fun i hi => ?_, fun i hi => ?_, fun i hi => ?_, fun i hi => ?_⟩, c2.fr (f1 12 (by decide) (by decide)) (f1 13 (by decide) (by decide)), c3.M hna (fun i a c => eM i (by omega) (by omega)), ?_⟩
    · show D1 8 i = _
      by_cases e : i = s'
      · rw [e, e1, g_up_eq]; exact eMs.symm
      · show D1 8 i = (g_up Dn 209 (86 + s') v) 209 (86 + i)
        rw [eM i (by omega) e, e1, g_up_at e, fa 8 (by decide)]; exact a1 i hi
    · show D1 9 i = (g_up Dn 209 (86 + s') v) 209 (86 + (40 + i))
      rw [eM _ (by omega) (by omega), f1 9 (by decide) (by decide)]; exact a2 i hi
    · show D1 10 i = (g_up Dn 209 (86 + s') v) 209 (86 + (67 + i))
      rw [eM _ (by omega) (by omega), f1 10 (by decide) (by decide)]; exact a3 i hi
    · show D1 11 i = (g_up Dn 209 (86 + s') v) 209 (86 + (107 + i))
      rw [eM _ (by omega) (by omega), f1 11 (by decide) (by decide)]; exact a4 i hi
    · show 0 ≤ (g_up Dn 209 (86 + s') v) 209 (86 + i) ∧ (g_up Dn 209 (86 + s') v) 209 (86 + i) ≤ 255
      by_cases e : i = s'
      · rw [e, eMs]; exact ⟨by omega, z3⟩
      · rw [eM i (by omega) e]; exact a5 i hi
    · show 0 ≤ (g_up Dn 209 (86 + s') v) 209 (86 + (67 + i)) ∧ (g_up Dn 209 (86 + s') v) 209 (86 + (67 + i)) ≤ 255
      rw [eM _ (by omega) (by omega)]; exact a6 i hi
    · obtain ⟨st, s1, s2⟩ := d3
      have e7 := f1 7 (by decide) (by decide)
      have e14 : D1 (7 + 7) = D (7 + 7) := f1 14 (by decide) (by decide)
      rw [s1] at d5 d11
      exact q_d4.mk (s := st) (p := D 7 9) (u := D 7 8) (J := D 7 6) (by rw [e7]) ((eM 60 (by decide) (by omega)).trans d1.symm) (by rw [d1]; exact d2) (by rw [e7]; exact s1) s2 (by rw [e7]) d4 ((eM 61 (by decide) (by omega)).trans d5) (by rw [e7]) ((eM 62 (by decide) (by omega)).trans d6) d7 (fun t ht => by rw [e14]; exact (eM _ (by omega) (by omega)).trans (d8 t ht)) (by rw [e14]; exact d9) d10 d11
  · exact c_X12_spoil0 (fun _ => (by omega : False).elim) (fun _ _ _ => y_fin hP (r0 _ m_fr.up0)) z5 z4 (fun s _ _ q => (by omega : False).elim)
  · exact c_X12_spoil0 (fun _ _ => y_fin hP (r0 _ m_fr.up0)) (fun q => (by omega : False).elim) z5 z4 (fun s q q2 => (by omega : False).elim)
theorem l_X12_undo {K : Int → g_D → Prop} {j : Nat} (hj : D 209 518 = j) (hj9 : j ≤ 9) (kk : ∀ D' : g_D, (∀ k, k ≠ 209 → D' k = D k) → (∀ i, ¬ (86 ≤ i ∧ i < 518) → D' 209 i = D 209 i) → (∀ i, i < 432 → D' 209 (86 + i) = D 210 (432 * j + i)) → K j D') :
    ∀ (q i : Nat) (D1 : g_D), 432 - i = q → i ≤ 432 → (∀ k, k ≠ 209 → D1 k = D k) → (∀ t, ¬ (86 ≤ t ∧ t < 518) → D1 209 t = D 209 t) → (∀ t, t < i → D1 209 (86 + t) = D 210 (432 * j + t)) → n_X12_undo E l D1 46 [some (g_R 208), none, some (g_I i)] K := by
  intro q
  induction q with
  | zero =>
    intro i D1 hq hi f g hy
    obtain rfl : i = 432 := by omega
    have e18 : D1 209 518 = j := by rw [g 518 (by omega)]; exact hj
    refine s_X12_undo_46 (fun _ _ => ⟨fun _ => ?_, fun w => (by omega : False).elim⟩)
    rw [e18]; exact kk D1 f g hy
  | succ q ih =>
    intro i D1 hq hi f g hy
    have e18 : D1 209 518 = j := by rw [g 518 (by omega)]; exact hj
    refine s_X12_undo_46 (fun _ _ => ⟨fun w => (by omega : False).elim, fun _ => ?_⟩)
    rw [e18, show (432 * ((j : Nat) : Int) + i).toNat = 432 * j + i by omega, show (86 + (i : Int)).toNat = 86 + i by omega, f 210 (by decide)]
    refine ⟨⟨by omega, by omega⟩, ⟨by omega, by omega⟩, ⟨by omega, by omega⟩, by omega, by omega, fun D2 e2 => ⟨⟨by omega, by omega⟩, ?_⟩⟩
    rw [g_cast1]
    refine ih (i + 1) D2 (by omega) (by omega) (fun k hk => by rw [e2, g_up_ne hk]; exact f k hk) (fun t ht => by rw [e2, g_up_at (by omega)]; exact g t ht) (fun t ht => ?_)
    rw [e2]
    by_cases e : t = i
    · subst e; rw [g_up_eq]
    · rw [g_up_at (by omega)]; exact hy t (by omega)
theorem c_X12_undo0 {K : Int → g_D → Prop} {v : Int} (h : D 209 518 = sz) (hsz : sz ≤ 10) (k0 : ¬ (1 ≤ v ∧ v ≤ sz) → K (-3) (g_up D 208 0 0)) (k1 : ∀ j : Nat, 1 ≤ v → v ≤ sz → (j : Int) = sz - v → ∀ D' : g_D, (∀ k, k ≠ 208 → k ≠ 209 → D' k = D k) → (∀ j, j ≠ 0 → D' 208 j = D 208 j) → (∀ i, ¬ (86 ≤ i ∧ i ≤ 518) → D' 209 i = D 209 i) → D' 209 518 = j → (∀ i, i < 432 → D' 209 (86 + i) = D 210 (432 * j + i)) → K j D') : k_X12_undo E l D v K := by
  refine s_X12_undo (fun _ _ D1 e1 => ?_)
  subst e1
  refine c_X12_within ⟨fun z _ => ⟨fun q => absurd q (by decide), fun _ => ?_⟩, fun z _ => ⟨fun _ => k0 (by omega), fun q => absurd rfl q⟩⟩
  rw [g_up_ne (show (209 : Nat) ≠ 208 by decide), h]
  refine ⟨fun y => ⟨⟨by omega, by omega⟩, fun D3 e3 => ?_⟩, fun y => k0 (by omega)⟩
  obtain ⟨j, hj⟩ : ∃ j : Nat, (j : Int) = sz - v := ⟨(sz - v).toNat, by omega⟩
  have h3 : D3 209 518 = j := by rw [e3, g_up_eq, hj]
  refine l_X12_undo h3 (by omega) (fun D' f g hy => k1 j z.1 y hj D' (fun k a c => ?_) (fun t ht => ?_) (fun i hi => ?_) ?_ (fun i hi => ?_)) _ 0 D3 rfl (by omega) (fun _ _ => rfl) (fun _ _ => rfl) (fun t ht => absurd ht (Nat.not_lt_zero t))
  · rw [f k c, e3, g_up_ne c, g_up_ne a]
  · rw [f 208 (by decide), e3, g_up_ne (by decide), g_up_at ht]
  · rw [g i (by omega), e3, g_up_at (by omega), g_up_ne (by decide)]
  · rw [g 518 (by omega)]; exact h3
  · rw [hy i hi, e3, g_up_ne (by decide), g_up_ne (by decide)]
theorem y_undo {P : g_D → Prop} {Q : Int → g_D → Prop} {v : Int} (h : q_R D) (hP : ∀ D', q_R D' → P D') (hQ : ∀ (x1 : Int) (D1 : g_D), k_X12_undo E l D1 v (fun x2 D2 => g_r x2 → (x1 = x2 → P D2) ∧ (¬ x1 = x2 → False)) → Q x1 D1) : k_X11_undo E l D v Q := by
  obtain ⟨o, n, w, m, le, ch, ru, B, b, N, na, hc, ha⟩ := h
  have r0 : ∀ D2, m_fr D D2 → q_R D2 := fun D2 f2 => y_pa hc ha (fun _ _ => rfl) f2
  obtain ⟨el, sz, hh⟩ := id hc.2.2.1
  obtain ⟨u1, u2, u3, u4, u5, u6⟩ := id hh
  refine s_X11_undo (fun _ _ => ?_)
  rw [u2]
  refine ⟨fun z => hQ _ D ?_, fun z => ⟨fun z1 => hQ _ D ?_, fun z1 => ⟨fun z2 => ?_, fun z2 => hQ _ D ?_⟩⟩⟩
  · exact c_X12_undo0 u5 u4 (fun _ _ => y_fin hP (r0 _ m_fr.up0)) (fun j q => (by omega : False).elim)
  · exact c_X12_undo0 u5 u4 (fun _ _ => y_fin hP (r0 _ m_fr.up0)) (fun j q1 q2 => (by omega : False).elim)
  · obtain ⟨j, hj⟩ : ∃ j : Nat, (j : Int) = sz - v := ⟨(sz - v).toNat, by omega⟩
    obtain ⟨b', N', na', hd⟩ := u6 j (by omega)
    refine s_X3_goBack ip_Device_7 (fun _ _ => ⟨fun q => (by omega : False).elim, fun _ => ?_⟩)
    rw [u1, u2]
    refine ⟨fun _ => ⟨⟨by omega, by omega⟩, fun D1 e1 => ⟨⟨by omega, by omega⟩, by omega, by omega, ?_⟩⟩, fun q => (by omega : False).elim⟩
    rw [show (((el : Int) + (sz - v)) % 10).toNat = (el + j) % 10 by omega]
    have hd1 : q_dv D1 (54 + 8 * ((el + j) % 10)) (fun i => D 210 (432 * j + i)) b' N' na' := hd.fr (fun i a c => by rw [e1, g_up_ne (by omega)])
    refine hd1.copy ip_Device_7 (ip_hist (by omega)) (by omega) (fun D2 f2 d2 D3 e3 => ?_)
    have g2 : D2 52 2 = j := by rw [f2 52 (by decide), e1, g_up_eq, hj]
    rw [g2]
    refine hQ _ D3 ?_
    have f3 : ∀ i, i ≠ 0 → ¬ (7 ≤ i ∧ i ≤ 14) → i ≠ 52 → D3 i = D i := fun i a c d => by rw [e3, g_up_ne a, f2 i (by omega), e1, g_up_ne d]
    have f30 : ∀ j, j ≠ 15 → D3 0 j = D 0 j := fun j a => by rw [e3, g_up_at a, f2 0 (by decide), e1, g_up_ne (by decide)]
    refine c_X12_undo0 (sz := sz) (by rw [f3 209 (by decide) (by decide) (by decide)]; exact u5) u4 (fun q => absurd ⟨by omega, by omega⟩ q) (fun j' q1 q2 q3 D4 f4 g48 g49 g5 g6 => ?_)
    obtain rfl : j' = j := by omega
    refine fun _ => y_fin hP ?_
    have e : ∀ i, i ≠ 0 → ¬ (7 ≤ i ∧ i ≤ 14) → i ≠ 52 → i ≠ 208 → i ≠ 209 → D4 i = D i := fun i a c d p q => by rw [f4 i p q]; exact f3 i a c d
    have e8 : ∀ t, t ≠ 0 → D4 208 t = D 208 t := fun t ht => by rw [g48 t ht, f3 208 (by decide) (by decide) (by decide)]
    have e40 : D4 0 = D3 0 := f4 0 (by decide) (by decide)
    rw [f3 210 (by decide) (by decide) (by decide)] at g6
    refine q_mkd hc ha (fun i hi => e i (by omega) (by omega) (by omega) (by omega) (by omega)) (by rw [e40]; exact f30 13 (by decide)) (by rw [e40]; exact f30 14 (by decide)) (fun t ht => by rw [g49 t (by omega), f3 209 (by decide) (by decide) (by decide)]) (e 211 (by decide) (by decide) (by decide) (by decide) (by decide)) (hc.2.1.fr (e 45 (by decide) (by decide) (by decide) (by decide) (by decide)) (e 46 (by decide) (by decide) (by decide) (by decide) (by decide)) (e8 5 (by decide)) (e 212 (by decide) (by decide) (by decide) (by decide) (by decide))) (hc.2.2.2.2.fr (e 47 (by decide) (by decide) (by decide) (by decide) (by decide)) (e8 40 (by decide)) (e8 41 (by decide))) ⟨el, j', ?_, ?_, u3, by omega, g5, fun t ht => ?_⟩ (b' := b') (N' := N') (na' := na') ?_ (fun y => ?_)
    · rw [f4 52 (by decide) (by decide), e3, g_up_ne (by decide), f2 52 (by decide), e1, g_up_at (by decide)]; exact u1
    · rw [f4 52 (by decide) (by decide), e3, g_up_ne (by decide)]; exact g2
    · obtain ⟨b2, N2, na2, hd2⟩ := u6 t (by omega)
      refine ⟨b2, N2, na2, ?_⟩
      rw [e 210 (by decide) (by decide) (by decide) (by decide) (by decide)]
      exact hd2.fr (fun i a c => e i (by omega) (by omega) (by omega) (by omega) (by omega))
    · refine (d2.fr (D' := D4) (fun i a c => ?_)).M (fun i hi => g6 i hi)
      rw [f4 i (by omega) (by omega), e3, g_up_ne (by omega)]
    · rw [e40, e3, g_up_eq] at y; exact absurd y (by decide)
  · exact c_X12_undo0 u5 u4 (fun _ _ => y_fin hP (r0 _ m_fr.up0)) (fun j q1 q2 => (by omega : False).elim)
end CA5
end