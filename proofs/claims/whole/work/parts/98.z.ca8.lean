section
/-! cuts and boots -/
section CA8
variable {E : g_E} {l : Launch} {sh : List g_Sh} {D D1 D2 D3 D' Dm Dn : g_D} {o w b b' W W' W0 M M' C : Nat → Int} {n m le B N na N' na' el sz s : Nat} {ch ru : Int}
theorem m_act.of (h : m_act D b na) (hn : na ≤ 36) (t : ∀ j, 213 ≤ j → j < 518 → D2 209 j = D 209 j) : m_act D2 b na := by
  refine ⟨by rw [t 213 (by omega) (by omega)]; exact h.1, fun i hi => ?_⟩
  obtain ⟨p1, p2, p3, p4, p5, p6⟩ := h.2 i hi
  exact ⟨by rw [t _ (by omega) (by omega)]; exact p1, by rw [t _ (by omega) (by omega)]; exact p2, by rw [t _ (by omega) (by omega)]; exact p3, by rw [t _ (by omega) (by omega)]; exact p4, p5, fun a tt ht => by have p5a := p5 a; rw [t _ (by omega) (by omega)]; exact p6 a tt ht⟩
theorem l_X12_cut {K : Int → g_D → Prop} {J : Int} (h50 : D 208 50 = J) (hC : ¬ J = -1 → ∀ t, t < 4 → D 241 t = C t) (kk : ∀ D' : g_D, (∀ k, k ≠ 209 → D' k = D k) → (∀ j, j ≠ 146 → ¬ (149 ≤ j ∧ j < 153) → D' 209 j = D 209 j) → D' 209 146 = 0 → (∀ t, t < 4 → D' 209 (149 + t) = if J = -1 then 0 else C t) → K (D 209 147) D') :
    ∀ (q i : Nat) (D1 : g_D), 4 - i = q → i ≤ 4 → (∀ k, k ≠ 209 → D1 k = D k) → (∀ j, ¬ (149 ≤ j ∧ j < 153) → D1 209 j = D 209 j) → (∀ t, t < i → D1 209 (149 + t) = if J = -1 then 0 else C t) → n_X12_cut E l D1 106 [some (g_R 208), none, none, some (g_I i)] K := by
  intro q
  induction q with
  | zero =>
    intro i D1 hq hi f g hy
    obtain rfl : i = 4 := by omega
    refine s_X12_cut_106 (fun _ _ => ⟨fun _ D2 e2 => ?_, fun w => (by omega : False).elim⟩)
    rw [g 147 (by omega)]
    exact kk D2 (fun k hk => by rw [e2, g_up_ne hk]; exact f k hk) (fun j a c => by rw [e2, g_up_at a]; exact g j c) (by rw [e2, g_up_eq]) (fun t ht => by rw [e2, g_up_at (by omega)]; exact hy t ht)
  | succ q ih =>
    intro i D1 hq hi f g hy
    have e50 : D1 208 50 = J := by rw [f 208 (by decide)]; exact h50
    refine s_X12_cut_106 (fun _ _ => ⟨fun w => (by omega : False).elim, fun _ => ?_⟩)
    rw [e50]
    refine ⟨⟨by omega, by omega⟩, fun z => ⟨by omega, by omega, fun D2 e2 => ⟨⟨by omega, by omega⟩, ?_⟩⟩, fun z => ⟨by omega, fun D2 e2 => ⟨⟨by omega, by omega⟩, ?_⟩⟩⟩
    · rw [show (149 + (i : Int)).toNat = 149 + i by omega, Int.toNat_natCast, f 241 (by decide), hC z i (by omega)] at e2
      rw [g_cast1]
      refine ih (i + 1) D2 (by omega) (by omega) (fun k hk => by rw [e2, g_up_ne hk]; exact f k hk) (fun j hj => by rw [e2, g_up_at (by omega)]; exact g j hj) (fun t ht => ?_)
      rw [e2]
      by_cases e : t = i
      · subst e; rw [g_up_eq, if_neg z]
      · rw [g_up_at (by omega)]; exact hy t (by omega)
    · rw [show (149 + (i : Int)).toNat = 149 + i by omega] at e2
      rw [g_cast1]
      refine ih (i + 1) D2 (by omega) (by omega) (fun k hk => by rw [e2, g_up_ne hk]; exact f k hk) (fun j hj => by rw [e2, g_up_at (by omega)]; exact g j hj) (fun t ht => ?_)
      rw [e2]
      by_cases e : t = i
      · subst e; rw [g_up_eq, if_pos z]
      · rw [g_up_at (by omega)]; exact hy t (by omega)
theorem c_X12_cut0 {K : Int → g_D → Prop} {k v : Int} (hA : q_A b N na) (h : m_act D b na) (hW : ∀ i, i < 60 → D 209 (86 + i) = W i) (hs : ¬ D 209 146 = 0 → D 209 147 = s) (hst : s ≤ t_o b na) (h518 : D 209 518 = sz) (hsz : sz ≤ 10)
    (k3 : ¬ (0 ≤ k ∧ k ≤ 3 ∧ 0 ≤ v ∧ v ≤ 3) → K (-3) (g_up D 208 0 0)) (k5 : (0 ≤ k ∧ k ≤ 3 ∧ 0 ≤ v ∧ v ≤ 3) → (D 209 146 = 0 ∨ s = t_o b na) → ∀ D', m_fr D D' → K (-5) D')
    (k1 : ∀ ph c : Nat, k = ph → v = c → ph ≤ 3 → c ≤ 3 → ¬ D 209 146 = 0 → s < t_o b na → ∀ Dm Dn D3 : g_D, m_fr D Dm → q_nt Dm Dn sz → (∀ k, k < 208 ∨ (210 ≤ k ∧ k ≤ 212) → D3 k = Dn k) → (∀ j, (j = 5 ∨ j = 40 ∨ j = 41) → D3 208 j = Dn 208 j) → (∀ j, ¬ (86 ≤ j ∧ j < 153) → D3 209 j = Dn 209 j) → (∀ i, i < 60 → D3 209 (86 + i) = q_cW b na W s ph c i) → D3 209 146 = 0 → D3 209 147 = s → D3 209 148 = q_cJ b na s ph → (∀ t, t < 4 → D3 209 (149 + t) = if q_cJ b na s ph = -1 then 0 else q_cm b na W s t) → K s D3) : k_X12_cut E l D k v K := by
  have hcnt := hA.cnt
  refine s_X12_cut (fun _ _ _ D1 e1 => ?_)
  subst e1
  refine c_X12_within ⟨fun z _ => ⟨fun q => absurd q (by decide), fun _ => c_X12_within ⟨fun z2 _ => ⟨fun _ => ?_, fun q => absurd q (by decide)⟩, fun z2 _ => ⟨fun q => absurd rfl q, fun _ => k3 (by omega)⟩⟩⟩, fun z _ => ⟨fun _ => k3 (by omega), fun q => absurd rfl q⟩⟩
  have zz : 0 ≤ k ∧ k ≤ 3 ∧ 0 ≤ v ∧ v ≤ 3 := ⟨z.1, z.2, z2.1, z2.2⟩
  refine c_X12_laysSteps hA.1 hA.2.1 h.up0 (fun Dm fm xm _ => ?_)
  have fq := ((m_fq.refl D).up0).trans fm.fq
  have em9 : Dm 209 = D 209 := fq.1 209 (by decide) (by decide)
  rw [em9, xm.1]
  refine ⟨fun y => k5 zz (Or.inl y) Dm fq.fr, fun y => ?_⟩
  have hs := hs y
  rw [hs]
  refine ⟨fun q => ?_, fun q => k5 zz (Or.inr (by omega)) Dm fq.fr⟩
  obtain ⟨ph, rfl⟩ : ∃ ph : Nat, k = ph := ⟨k.toNat, by omega⟩
  obtain ⟨c, rfl⟩ : ∃ c : Nat, v = c := ⟨v.toNat, by omega⟩
  refine c_X12_notes (sz := sz) (by rw [em9]; exact h518) hsz (fun D5 nt => c_X12_worksNow (W := W) (fun i hi => by rw [nt.2.1 _ (by omega), em9]; exact hW i hi) (fun D6 f6 w6 => ?_))
  have t : ∀ j, j ≠ 518 → D6 209 j = D 209 j := fun j hj => by rw [f6 209 (by decide), nt.2.1 j hj, em9]
  rw [show D6 209 147 = s from (t 147 (by decide)).trans hs]
  have act6 : m_act D6 b na := h.of hA.2.1 (fun j _ hj => t j (by omega))
  have st6 : m_st D6 b na (t_o b na) := by unfold m_st at *; rw [f6 208 (by decide), f6 235 (by decide), f6 236 (by decide), nt.1 208 (by decide) (by decide), nt.1 235 (by decide) (by decide), nt.1 236 (by decide) (by decide)]; exact xm
  refine c_X12_cuts1 hA act6 st6 (by omega) w6 (by omega) (by omega) (fun D7 f7 j7 c7 w7 => c_X12_keepsWork w7 (fun D8 f8 g8 y8 D9 e9 => ?_))
  have e950 : D9 208 50 = q_cJ b na s ph := by rw [e9, g_up_ne (by decide), f8 208 (by decide)]; exact j7
  have e9241 : ¬ q_cJ b na s ph = -1 → ∀ t, t < 4 → D9 241 t = q_cm b na W s t := fun a tt ht => by rw [e9, g_up_ne (by decide), f8 241 (by decide)]; exact c7 a tt ht
  have g9 : ∀ j, ¬ (86 ≤ j ∧ j < 146) → j ≠ 148 → D9 209 j = D5 209 j := fun j a c => by rw [e9, g_up_at c, g8 j a, f7.1 209 (by decide) (by decide), f6 209 (by decide)]
  have e97 : D9 209 147 = s := by rw [g9 147 (by decide) (by decide), nt.2.1 147 (by decide), em9]; exact hs
  refine l_X12_cut (C := q_cm b na W s) e950 e9241 (fun D10 f10 g10 p10 q10 => ?_) _ 0 D9 rfl (by omega) (fun _ _ => rfl) (fun _ _ => rfl) (fun t ht => absurd ht (Nat.not_lt_zero t))
  rw [e97]
  have ff : ∀ k, k ≠ 208 → k ≠ 209 → ¬ (239 ≤ k ∧ k ≤ 241) → D10 k = D5 k := fun k a c d => by rw [f10 k c, e9, g_up_ne c, f8 k c, f7.1 k a d, f6 k (by omega)]
  refine k1 ph c rfl rfl (by omega) (by omega) y (by omega) Dm D5 D10 fq.fr nt (fun k hk => ff k (by omega) (by omega) (by omega)) (fun j hj => ?_) (fun j hj => ?_) (fun i hi => ?_) p10 ?_ ?_ q10
  · rw [f10 208 (by decide), e9, g_up_ne (by decide), f8 208 (by decide), f7.2 j (by omega), f6 208 (by decide)]
  · rw [g10 j (by omega) (by omega)]; exact g9 j (by omega) (by omega)
  · rw [g10 _ (by omega) (by omega), e9, g_up_at (by omega)]; exact y8 i hi
  · rw [g10 147 (by decide) (by decide)]; exact e97
  · rw [g10 148 (by decide) (by decide), e9, g_up_eq, f8 208 (by decide)]; exact j7
theorem y_cut {P : g_D → Prop} {Q : Int → g_D → Prop} {k v : Int} (h : q_R D) (hP : ∀ D', q_R D' → P D') (hQ : ∀ (x1 : Int) (D1 : g_D), k_X12_cut E l D1 k v (fun x2 D2 => g_r x2 → (x1 = x2 → P D2) ∧ (¬ x1 = x2 → False)) → Q x1 D1) : k_X11_cut E l D k v Q := by
  obtain ⟨o, n, w, m, le, ch, ru, B, b, N, na, hc, ha⟩ := h
  have r0 : ∀ D2, m_fr D D2 → q_R D2 := fun D2 f2 => y_pa hc ha (fun _ _ => rfl) f2
  have hcnt := hc.A.cnt
  obtain ⟨p1, p2⟩ := hc.pow
  obtain ⟨s, s1, s2⟩ := hc.d4.2.2.1
  have i10 := hc.d4.2.2.2.2.2.2.2.2.2.1
  have st := hc.stp
  have hs : ¬ D 209 146 = 0 → D 209 147 = s := fun y => by
    rw [if_neg (by have := (i10 (by rw [p1]; omega)).2; omega), s1] at st; exact st
  obtain ⟨el0, sz0, hh0⟩ := id hc.2.2.1
  have mcut : ∀ (x : Int) (D1 : g_D), D1 209 = D 209 → (∀ D2, m_fr D1 D2 → q_R D2) → (¬ (0 ≤ k ∧ k ≤ 3 ∧ 0 ≤ v ∧ v ≤ 3) → x = -3) → ((0 ≤ k ∧ k ≤ 3 ∧ 0 ≤ v ∧ v ≤ 3) → (D 209 146 = 0 ∨ s = t_o b na) ∧ x = -5) → k_X12_cut E l D1 k v (fun x2 D2 => g_r x2 → (x = x2 → P D2) ∧ (¬ x = x2 → False)) := by
    intro x D1 e9 rr a1 a2
    have act1 : m_act D1 b na := by have := hc.act; unfold m_act at *; rw [e9]; exact this
    refine c_X12_cut0 (W := fun i => D 209 (86 + i)) (s := s) (sz := sz0) hc.A act1 (fun i _ => by rw [e9]) (by rw [e9]; exact hs) s2 (by rw [e9]; exact hh0.2.2.2.2.1) hh0.2.2.2.1 (fun z => ?_) (fun z y D2 f2 => ?_) (fun ph c z1 z2 z3 z4 y q => ?_)
    · rw [a1 z]; exact fun _ => y_fin hP (rr _ m_fr.up0)
    · rw [(a2 z).2]; exact fun _ => y_fin hP (rr _ f2)
    · rw [e9] at y
      have := (a2 ⟨by omega, by omega, by omega, by omega⟩).1
      omega
  refine s_X11_cut (fun _ _ _ => ⟨fun z => hQ _ D (mcut _ D rfl r0 (fun _ => rfl) (fun y => (by omega : False).elim)), fun z => ⟨fun z1 => hQ _ D (mcut _ D rfl r0 (fun _ => rfl) (fun y => (by omega : False).elim)), fun z1 => ⟨fun z2 => hQ _ D (mcut _ D rfl r0 (fun _ => rfl) (fun y => (by omega : False).elim)), fun z2 => ⟨fun z3 => y_mc hc ha (fun D1 cs => ?_), fun z3 => hQ _ D (mcut _ D rfl r0 (fun _ => rfl) (fun y => (by omega : False).elim))⟩⟩⟩⟩)
  have zz : 0 ≤ k ∧ k ≤ 3 ∧ 0 ≤ v ∧ v ≤ 3 := ⟨by omega, by omega, by omega, by omega⟩
  obtain ⟨hc1, ha1⟩ := cs.re hc ha
  have e17 : D1 7 = D 7 := cs.1 7 (by decide) (by decide)
  rw [cs.2.2.1.1.1.1, e17, s1]
  refine ⟨fun y => hQ _ D1 (mcut _ D1 cs.e9 (cs.ok hc ha).2.2 (fun q => absurd zz q) (fun _ => ⟨Or.inl (p1.symm.trans y), rfl⟩)), fun y => ⟨fun y1 => ?_, fun y1 => hQ _ D1 (mcut _ D1 cs.e9 (cs.ok hc ha).2.2 (fun q => absurd zz q) (fun _ => ⟨Or.inr (by omega), rfl⟩))⟩⟩
  have pw : ¬ D 209 146 = 0 := fun q => y (p1.trans q)
  have i10 := (hc1.d4.2.2.2.2.2.2.2.2.2.1) (by rw [e17, p1]; omega)
  obtain ⟨ph, rfl⟩ : ∃ ph : Nat, k = ph := ⟨k.toNat, by omega⟩
  obtain ⟨c, rfl⟩ : ∃ c : Nat, v = c := ⟨v.toNat, by omega⟩
  refine y_keep hc1 (fun el sz Da hh fa kp => ?_)
  have xa : x_W Da 7 (fun i => D1 209 (86 + i)) := by have := hc1.xW; unfold x_W at *; rw [fa _ (by decide), fa _ (by decide)]; exact this
  have sa : Da 7 7 = s := by rw [fa 7 (by decide), e17]; exact s1
  refine c_X1_cutPower (W := fun i => D1 209 (86 + i)) (s := s) ip_Device_7 (by omega) hc1.A (cs.2.2.1.1.fr (fun i a c => fa i (by omega))) sa (by omega) xa (by omega) (by omega) (fun D2 f2 g9 g7 g8 g6 gj gc x2 => ?_)
  rw [g7, sa]
  refine hQ _ D2 ?_
  have f21 : ∀ i, ¬ (7 ≤ i ∧ i ≤ 9) → i ≠ 14 → ¬ (52 ≤ i ∧ i ≤ 133) → i ≠ 196 → D2 i = D1 i := fun i a c d e => by rw [f2 i (by omega) (by omega) (by omega) (by omega) e]; exact fa i d
  have e29 : D2 209 = D1 209 := f21 209 (by decide) (by decide) (by decide) (by decide)
  have act2 : m_act D2 b na := by have := hc1.act; unfold m_act at *; rw [e29]; exact this
  refine c_X12_cut0 (W := fun i => D1 209 (86 + i)) (s := s) (sz := sz) hc1.A act2 (fun i _ => by rw [e29]) (by rw [e29, cs.e9]; exact hs) s2 (by rw [e29]; exact hh.2.2.2.2.1) hh.2.2.2.1 (fun q => absurd zz q) (fun _ q => ?_) (fun ph' c' q1 q2 q3 q4 q5 q6 Dm Dn D3 m1 nt m3 m38 m39 w3 u6 u7 u8 u9 => ?_)
  · rw [e29, cs.e9] at q; exact absurd q (by omega)
  obtain rfl : ph' = ph := by omega
  obtain rfl : c' = c := by omega
  refine fun _ => y_fin hP ?_
  have em9 : Dm 209 = D1 209 := by rw [m1.1 209 (by decide)]; exact e29
  have eM : ∀ j, j < 518 → ¬ (86 ≤ j ∧ j < 153) → D3 209 j = D1 209 j := fun j a c => by rw [m39 j c, nt.2.1 j (by omega), em9]
  have e3 : ∀ k, k < 208 → D3 k = D2 k := fun k hk => by rw [m3 k (Or.inl hk), nt.1 k (by omega) (by omega), m1.1 k (Or.inl hk)]
  have g6' : D2 7 6 = q_cJ b na s ph' := by
    rw [g6]
    split
    · rename_i q; rw [q, fa 7 (by decide)]; exact i10.1
    · rfl
  have hJ : q_cJ b na s ph' = -1 ∨ (0 ≤ q_cJ b na s ph' ∧ q_cJ b na s ph' ≤ 9) := by rcases q_cJ_rng (ph := ph') hc1.A (show s < t_o b na by omega) with q | ⟨q1, q2, _⟩; exact Or.inl q; exact Or.inr ⟨q1, q2⟩
  refine q_dch (Dn := Dn) (Dm := Dm) hc1 ha1 hh (fun i a c d e => f21 i (by omega) (by omega) d (by omega)) (fun j _ => by rw [f21 0 (by decide) (by decide) (by decide) (by decide)]) (kp.fr (fun i a c => f2 i (by omega) (by omega) (by omega) (by omega) (by omega))) m1 nt m3 m38 (fun j hj => m39 j (by omega)) (b' := b) (N' := N) (na' := na) (hc1.dev.chg x2 (q_cW_by hc1.A hc1.byb hc1.byW (by omega)) (f21 10 (by decide) (by decide) (by decide) (by decide)) (f21 11 (by decide) (by decide) (by decide) (by decide)) (f21 12 (by decide) (by decide) (by decide) (by decide)) (f21 13 (by decide) (by decide) (by decide) (by decide)) w3 (fun i a d => eM _ (by omega) (by omega)) (q_d4.mk (s := s) (p := 0) (u := 1) (J := q_cJ b na s ph') g9 u6 (Or.inl rfl) (g7.trans sa) s2 ?_ (Or.inr rfl) ?_ g6' u8 hJ (fun t ht => ?_) (fun q t ht => ?_) (fun q => absurd q (by decide)) (fun _ _ => by omega))) (ha1.2.2.fr2 (by rw [e3 0 (by decide), f21 0 (by decide) (by decide) (by decide) (by decide)]) (fun i a c => by rw [e3 i (by omega)]; exact f21 i (by omega) (by omega) (by omega) (by omega)) (by rw [e3 207 (by decide)]; exact f21 207 (by decide) (by decide) (by decide) (by decide)) (fun i hi => eM _ (by omega) (by omega)))
  · rw [g8, fa 7 (by decide)]; exact i10.2
  · rw [if_neg (by decide)]; exact u7
  · show D3 209 (86 + (63 + t)) = _
    rw [show 86 + (63 + t) = 149 + t by omega, u9 t ht]
    by_cases q : q_cJ b na s ph' = -1
    · rw [if_pos q, if_pos q]
    · rw [if_neg q, if_neg q, gc q t ht]
  · have hb1 : ¬ t_sb b na s = -1 := by
      rcases q_cJ_rng (ph := ph') hc1.A (show s < t_o b na by omega) with q' | ⟨_, _, q3⟩
      · exact absurd q' q
      · exact q3
    rw [gc q t ht]
    exact q_cm_by hc1.A hc1.byb hc1.byW (by omega) hb1 t ht
theorem c_bootF {K : Int → g_D → Prop} {x : Nat} (hx : x ≤ 1000) (hW : m_Wk D W) (h518 : D 209 518 = sz) (hsz : sz ≤ 10) (kk : ∀ Dn D3 : g_D, q_nt D Dn sz → (∀ k, k ≠ 209 → D3 k = Dn k) → (∀ j, ¬ (86 ≤ j ∧ j < 153) → D3 209 j = Dn 209 j) → (∀ i, i < 60 → D3 209 (86 + i) = W i) → D3 209 146 = 1 → D3 209 147 = x → D3 209 148 = -1 → (∀ t, t < 4 → D3 209 (149 + t) = 0) → K x D3) :
    k_X12_notes E l D (fun D2 => k_X12_keepsWork E l D2 (fun D3 => ∀ D4, D4 = g_up D3 209 147 x → (∀ D5, D5 = g_up D4 209 148 (-1) → (n_X12_boot E l D5 151 [some (g_R 208), some (g_I x), some (g_I 0)] K)))) := by
  refine c_X12_notes h518 hsz (fun Dn nt => c_X12_keepsWork (W := W) (by unfold m_Wk at *; rw [nt.1 239 (by decide) (by decide)]; exact hW) (fun D3 f3 g3 w3 D4 e4 D5 e5 => ?_))
  have f5 : ∀ k, k ≠ 209 → D5 k = Dn k := fun k hk => by rw [e5, g_up_ne hk, e4, g_up_ne hk]; exact f3 k hk
  have g5 : ∀ j, j ≠ 147 → j ≠ 148 → D5 209 j = D3 209 j := fun j a c => by rw [e5, g_up_at c, e4, g_up_at a]
  have key : ∀ (q i : Nat) (D1 : g_D), 4 - i = q → i ≤ 4 → (∀ k, k ≠ 209 → D1 k = D5 k) → (∀ j, ¬ (149 ≤ j ∧ j < 153) → D1 209 j = D5 209 j) → (∀ t, t < i → D1 209 (149 + t) = 0) → n_X12_boot E l D1 151 [some (g_R 208), some (g_I x), some (g_I i)] K := by
    intro q
    induction q with
    | zero =>
      intro i D1 hq hi f g hy
      obtain rfl : i = 4 := by omega
      refine s_X12_boot_151 (fun _ _ _ => ⟨fun _ D2 e2 => ?_, fun w => (by omega : False).elim⟩)
      have g2 : ∀ j, j ≠ 146 → ¬ (149 ≤ j ∧ j < 153) → D2 209 j = D5 209 j := fun j a c => by rw [e2, g_up_at a]; exact g j c
      refine kk Dn D2 nt (fun k hk => by rw [e2, g_up_ne hk, f k hk]; exact f5 k hk) (fun j hj => ?_) (fun t ht => ?_) (by rw [e2, g_up_eq]) ?_ ?_ (fun t ht => ?_)
      · rw [g2 j (by omega) (by omega), g5 j (by omega) (by omega)]; exact g3 j (by omega)
      · rw [g2 _ (by omega) (by omega), g5 _ (by omega) (by omega)]; exact w3 t ht
      · rw [g2 147 (by decide) (by decide), e5, g_up_at (by decide), e4, g_up_eq]
      · rw [g2 148 (by decide) (by decide), e5, g_up_eq]
      · rw [e2, g_up_at (by omega)]; exact hy t ht
    | succ q ih =>
      intro i D1 hq hi f g hy
      refine s_X12_boot_151 (fun _ _ _ => ⟨fun w => (by omega : False).elim, fun _ => ⟨⟨by omega, by omega⟩, by omega, fun D2 e2 => ⟨⟨by omega, by omega⟩, ?_⟩⟩⟩)
      rw [show (149 + (i : Int)).toNat = 149 + i by omega] at e2
      rw [g_cast1]
      refine ih (i + 1) D2 (by omega) (by omega) (fun k hk => by rw [e2, g_up_ne hk]; exact f k hk) (fun j hj => by rw [e2, g_up_at (by omega)]; exact g j hj) (fun t ht => ?_)
      rw [e2]
      by_cases e : t = i
      · subst e; rw [g_up_eq]
      · rw [g_up_at (by omega)]; exact hy t (by omega)
  exact key 4 0 D5 rfl (by omega) (fun _ _ => rfl) (fun _ _ => rfl) (fun t ht => absurd ht (Nat.not_lt_zero t))
theorem l_boot42 {K : Int → g_D → Prop} (kk : ∀ D' : g_D, (∀ k, k ≠ 241 → D' k = D k) → (∀ t, t < 4 → D' 241 t = D 209 (149 + t)) → n_X12_boot E l D' 42 [some (g_R 208), some (g_I ((4 : Nat) : Int)), none] K) :
    ∀ (q i : Nat) (D1 : g_D), 4 - i = q → i ≤ 4 → (∀ k, k ≠ 241 → D1 k = D k) → (∀ t, t < i → D1 241 t = D 209 (149 + t)) → n_X12_boot E l D1 42 [some (g_R 208), some (g_I i), none] K := by
  intro q
  induction q with
  | zero =>
    intro i D1 hq hi f hy
    obtain rfl : i = 4 := by omega
    exact kk D1 f hy
  | succ q ih =>
    intro i D1 hq hi f hy
    refine s_X12_boot_42 (fun _ _ => ⟨fun w => (by omega : False).elim, fun _ => ⟨⟨by omega, by omega⟩, by omega, by omega, fun D2 e2 => ⟨⟨by omega, by omega⟩, ?_⟩⟩⟩)
    rw [show (149 + (i : Int)).toNat = 149 + i by omega, Int.toNat_natCast, f 209 (by decide)] at e2
    rw [g_cast1]
    refine ih (i + 1) D2 (by omega) (by omega) (fun k hk => by rw [e2, g_up_ne hk]; exact f k hk) (fun t ht => ?_)
    rw [e2]
    by_cases e : t = i
    · subst e; rw [g_up_eq]
    · rw [g_up_at e]; exact hy t (by omega)
/-- where a boot would stand, in the model -/
noncomputable def q_bt (b : Nat → Int) (na : Nat) (W0 C W : Nat → Int) (st J : Int) : Int := if st = -1 then q_ff b na W0 (q_jr C W J) else if J = -1 then st else st + 1
theorem c_X12_boot0 {K : Int → g_D → Prop} {st J : Int} (hA : q_A b N na) (h : m_act D b na) (h0 : ∀ i, i < 60 → D 209 (153 + i) = W0 i) (hW : ∀ i, i < 60 → D 209 (86 + i) = W i) (hst : D 209 147 = st) (hst2 : -1 ≤ st ∧ st ≤ 360) (hJ0 : D 209 148 = J) (hJ : J = -1 ∨ (0 ≤ J ∧ J ≤ 9)) (hC : ¬ J = -1 → ∀ t, t < 4 → D 209 (149 + t) = C t) (h518 : D 209 518 = sz) (hsz : sz ≤ 10)
    (k5 : D 209 146 = 1 → K (-5) (g_up D 208 0 0)) (k0 : ¬ D 209 146 = 1 → q_bt b na W0 C W st J = -1 → ∀ D', m_fr D D' → K (-5) D')
    (k1 : ∀ x : Nat, ¬ D 209 146 = 1 → q_bt b na W0 C W st J = x → ∀ Dm Dn D3 : g_D, m_fr D Dm → q_nt Dm Dn sz → (∀ k, k ≠ 209 → D3 k = Dn k) → (∀ j, ¬ (86 ≤ j ∧ j < 153) → D3 209 j = Dn 209 j) → (∀ i, i < 60 → D3 209 (86 + i) = q_jr C W J i) → D3 209 146 = 1 → D3 209 147 = x → D3 209 148 = -1 → (∀ t, t < 4 → D3 209 (149 + t) = 0) → K x D3) : k_X12_boot E l D K := by
  have hcnt := hA.cnt
  refine s_X12_boot (fun _ D1 e1 => ⟨fun y => ?_, fun y => by rw [e1]; exact k5 y⟩)
  subst e1
  refine c_X12_laysDue hA h.up0 (m_w0.up0 h0) (fun D2 f2 x2 => ?_)
  have fq2 := ((m_fq.refl D).up0).trans f2.fq
  have e29 : D2 209 = D 209 := fq2.1 209 (by decide) (by decide)
  refine c_X12_worksNow (W := W) (fun i hi => by rw [e29]; exact hW i hi) (fun D3 f3 w3 D4 e4 => ?_)
  have fq4 : m_fq D D4 := fq2.trans ⟨fun k a c => by rw [e4, g_up_ne a, f3 k (by omega)], fun j a c d => by rw [e4, g_up_at d, f3 208 (by decide)]⟩
  have e49 : D4 209 = D 209 := fq4.1 209 (by decide) (by decide)
  have e450 : D4 208 50 = J := by rw [e4, g_up_eq, f3 209 (by decide), e29]; exact hJ0
  refine l_boot42 (fun D5 f5 y5 => ?_) _ 0 D4 rfl (by omega) (fun _ _ => rfl) (fun t ht => absurd ht (Nat.not_lt_zero t))
  have w5 : m_Wk D5 W := by unfold m_Wk at *; rw [f5 239 (by decide), e4, g_up_ne (by decide)]; exact w3
  refine s_X12_boot_42 (fun _ _ => ⟨fun _ => ?_, fun w => absurd (Int.le_refl _) w⟩)
  refine c_X12_writesJournal (C := C) (J := J) w5 (by rw [f5 208 (by decide)]; exact e450) hJ (fun q t ht => by rw [y5 t ht, e49]; exact hC q t ht) (fun D6 f6 w6 => ?_)
  have fq6 : m_fq D D6 := fq4.trans ⟨fun k a c => by rw [f6 k (by omega), f5 k (by omega)], fun j _ _ _ => by rw [f6 208 (by decide), f5 208 (by decide)]⟩
  have e69 : D6 209 = D 209 := fq6.1 209 (by decide) (by decide)
  have x6 : m_crs D6 b na W0 := x2.fr (fun i a c => by rw [f6 i (by omega), f5 i (by omega), e4, g_up_ne (by omega), f3 i (by omega)]) (by rw [f6 208 (by decide), f5 208 (by decide), e4, g_up_at (by decide), f3 208 (by decide)])
  rw [e69, hst, show D6 208 50 = J by rw [f6 208 (by decide), f5 208 (by decide)]; exact e450]
  have h518' : D6 209 518 = sz := by rw [e69]; exact h518
  unfold q_bt at k0 k1
  refine ⟨fun q => ⟨fun q1 => ⟨⟨by omega, by omega⟩, fun q2 => ?_, fun q2 => (by omega : False).elim⟩, fun q1 => ⟨⟨by omega, by omega⟩, fun q2 => ?_, fun q2 => (by omega : False).elim⟩⟩, fun q => ?_⟩
  · obtain ⟨x, hx⟩ : ∃ x : Nat, st + 1 = x := ⟨(st + 1).toNat, by omega⟩
    rw [if_neg q, if_neg q1] at k1
    rw [hx]
    exact c_bootF (by omega) w6 h518' hsz (fun Dn D3 nt a1 a2 a3 a4 a5 a6 a7 => k1 x y hx D6 Dn D3 fq6.fr nt a1 a2 a3 a4 a5 a6 a7)
  · obtain ⟨x, hx⟩ : ∃ x : Nat, st = x := ⟨st.toNat, by omega⟩
    rw [if_neg q, if_pos q1] at k1
    rw [show st + 0 = x by omega]
    exact c_bootF (by omega) w6 h518' hsz (fun Dn D3 nt a1 a2 a3 a4 a5 a6 a7 => k1 x y hx D6 Dn D3 fq6.fr nt a1 a2 a3 a4 a5 a6 a7)
  · rw [if_pos q] at k0 k1
    have hff := q_ff_rng (b := b) (n := na) (W0 := W0) (W := q_jr C W J)
    refine c_X12_leastFit hA x6 w6 (fun _ => ⟨fun q1 => ?_, fun q1 => k0 y q1 D6 fq6.fr⟩)
    obtain ⟨x, hx⟩ : ∃ x : Nat, q_ff b na W0 (q_jr C W J) = x := ⟨(q_ff b na W0 (q_jr C W J)).toNat, by omega⟩
    rw [hx]
    exact c_bootF (by omega) w6 h518' hsz (fun Dn D3 nt a1 a2 a3 a4 a5 a6 a7 => k1 x y hx D6 Dn D3 fq6.fr nt a1 a2 a3 a4 a5 a6 a7)
theorem y_boot {P : g_D → Prop} {Q : Int → g_D → Prop} (h : q_R D) (hP : ∀ D', q_R D' → P D') (hQ : ∀ (x1 : Int) (D1 : g_D), k_X12_boot E l D1 (fun x2 D2 => g_r x2 → (x1 = x2 → P D2) ∧ (¬ x1 = x2 → False)) → Q x1 D1) : k_X11_boot E l D Q := by
  obtain ⟨o, n, w, m, le, ch, ru, B, b, N, na, hc, ha⟩ := h
  have hcnt := hc.A.cnt
  obtain ⟨d1, d2, ⟨s, s1, s2⟩, d4, d5, d6, d7, d8, d9, d10, d11⟩ := hc.d4
  obtain ⟨p1, p2⟩ := hc.pow
  have st := hc.stp
  have d6 : D 209 148 = D 7 6 := d6
  obtain ⟨el0, sz0, hh0⟩ := id hc.2.2.1
  have h518 := hh0.2.2.2.2.1
  have hC0 : ¬ D 7 6 = -1 → ∀ t, t < 4 → D 209 (149 + t) = D 14 t := fun q t ht => by
    have := d8 t ht
    rw [if_neg q] at this
    rw [show 149 + t = 86 + (63 + t) by omega]; exact this
  have stb : -1 ≤ D 209 147 ∧ D 209 147 ≤ 360 := by rw [st]; split <;> omega
  have hff := fun (W : Nat → Int) => q_ff_rng (b := b) (n := na) (W0 := q_w0 D) (W := W)
  -- where the class would stand
  have bt : q_bt b na (q_w0 D) (D 14) (fun i => D 209 (86 + i)) (D 209 147) (D 7 6) = if D 7 8 = 0 then q_ff b na (q_w0 D) (q_jr (D 14) (fun i => D 209 (86 + i)) (D 7 6)) else if D 7 6 = -1 then (s : Int) else ((s + 1 : Nat) : Int) := by
    unfold q_bt
    rw [st]
    by_cases q : D 7 8 = 0
    · rw [if_pos q, if_pos rfl, if_pos q]
    · rw [if_neg q, s1, if_neg (by omega), if_neg q]
      by_cases q1 : D 7 6 = -1
      · rw [if_pos q1, if_pos q1]
      · rw [if_neg q1, if_neg q1]; omega
  have mboot : ∀ (D1 : g_D), D1 209 = D 209 → (∀ D2, m_fr D1 D2 → q_R D2) → (D 209 146 = 1 ∨ q_bt b na (q_w0 D) (D 14) (fun i => D 209 (86 + i)) (D 209 147) (D 7 6) = -1) → k_X12_boot E l D1 (fun x2 D2 => g_r x2 → (-5 = x2 → P D2) ∧ (¬ -5 = x2 → False)) := by
    intro D1 e9 rr a
    have act1 : m_act D1 b na := by have := hc.act; unfold m_act at *; rw [e9]; exact this
    refine c_X12_boot0 (C := D 14) (W := fun i => D 209 (86 + i)) (W0 := q_w0 D) (st := D 209 147) (J := D 7 6) (sz := sz0) hc.A act1 (fun i hi => by rw [e9]; exact q_w0_at hi) (fun i _ => by rw [e9]) (by rw [e9]) stb (by rw [e9]; exact d6) d7 (by rw [e9]; exact hC0) (by rw [e9]; exact h518) hh0.2.2.2.1 (fun _ _ => y_fin hP (rr _ m_fr.up0)) (fun _ _ D2 f2 _ => y_fin hP (rr _ f2)) (fun x y q => ?_)
    rw [e9] at y
    have := a.resolve_left y
    omega
  refine s_X11_boot (fun _ => y_mc hc ha (fun D1 cs => ?_))
  obtain ⟨hc1, ha1⟩ := cs.re hc ha
  have e17 : D1 7 = D 7 := cs.1 7 (by decide) (by decide)
  have e114 : D1 14 = D 14 := cs.1 14 (by decide) (by decide)
  have e9 := cs.e9
  have w0e : q_w0 D1 = q_w0 D := q_w0_fr (fun i _ => by rw [e9])
  rw [e17]
  refine ⟨fun y => hQ _ D1 (mboot D1 e9 (cs.ok hc ha).2.2 (Or.inl (by omega))), fun y => ?_⟩
  have np : ¬ D 209 146 = 1 := fun q => by omega
  have xW1 : x_W D1 7 (fun i => D 209 (86 + i)) := by have := hc1.xW; rw [e9] at this; exact this
  have bb0 := hc.by0
  have bW := hc.byW
  -- after the decision to boot
  have boots : ∀ D2 : g_D, (∀ i, i ≠ 197 → D2 i = D1 i) → ¬ q_bt b na (q_w0 D) (D 14) (fun i => D 209 (86 + i)) (D 209 147) (D 7 6) = -1 → k_X3_keep E l D2 7 (fun D3 => k_X1_bootUp E l D3 7 (fun D4 => Q (D4 7 7) D4)) := by
    intro D2 f2 nb
    have cs2 : q_cs D D2 b N na := cs.more (fun j _ a _ => f2 j a) (by have := cs.2.2.2; unfold x_tr at *; rw [f2 207 (by decide)]; exact this)
    obtain ⟨hc2, ha2⟩ := cs2.re hc ha
    have e29 := cs2.e9
    refine y_keep hc2 (fun el sz Da hh fa kp => ?_)
    have fa1 : ∀ i, i ≠ 197 → ¬ (52 ≤ i ∧ i ≤ 133) → Da i = D1 i := fun i a c => by rw [fa i c]; exact f2 i a
    have a7 : Da 7 = D 7 := by rw [fa1 7 (by decide) (by decide)]; exact e17
    refine c_X1_bootUp (W := fun i => D 209 (86 + i)) (W0 := q_w0 D) (C := D 14) (J := D 7 6) (s := s) ip_Device_7 (by omega) hc.A hc.byb bb0 (cs2.2.2.1.fr (fun i a c => fa i (by omega))) (by unfold x_W at *; rw [fa1 _ (by decide) (by decide), fa1 _ (by decide) (by decide)]; exact xW1) bW (by rw [a7]) d7 (fun q c hc' => by rw [fa1 _ (by decide) (by decide), cs.1 (7 + 7) (by decide) (by decide)]) d9 (by rw [a7]; exact s1) (by omega) (fun D4 f4 x4 g6 g7 g8 g9 => ?_)
    have e7 : D4 7 7 = q_bt b na (q_w0 D) (D 14) (fun i => D 209 (86 + i)) (D 209 147) (D 7 6) := by
      rw [g7, bt, a7]
      by_cases q : D 7 8 = 0
      · rw [if_pos q, if_pos q]
        rw [bt, if_pos q] at nb
        have := hff (q_jr (D 14) (fun i => D 209 (86 + i)) (D 7 6))
        omega
      · rw [if_neg q, if_neg q]
    rw [e7]
    refine hQ _ D4 ?_
    have f41 : ∀ i, i ≠ 7 → i ≠ 8 → i ≠ 197 → ¬ (52 ≤ i ∧ i ≤ 133) → D4 i = D1 i := fun i a c d e => by rw [f4 i a c d]; exact fa1 i d e
    have f42 : ∀ i, i ≠ 7 → i ≠ 8 → i ≠ 197 → ¬ (52 ≤ i ∧ i ≤ 133) → D4 i = D2 i := fun i a c d e => by rw [f4 i a c d]; exact fa i e
    have e49 : D4 209 = D 209 := by rw [f41 209 (by decide) (by decide) (by decide) (by decide)]; exact e9
    have act4 : m_act D4 b na := by have := hc.act; unfold m_act at *; rw [e49]; exact this
    refine c_X12_boot0 (C := D 14) (W := fun i => D 209 (86 + i)) (W0 := q_w0 D) (st := D 209 147) (J := D 7 6) (sz := sz) hc.A act4 (fun i hi => by rw [e49]; exact q_w0_at hi) (fun i _ => by rw [e49]) (by rw [e49]) stb (by rw [e49]; exact d6) d7 (by rw [e49]; exact hC0) (by rw [e49, ← e29]; exact hh.2.2.2.2.1) hh.2.2.2.1 (fun q => by rw [e49] at q; exact absurd q np) (fun _ q => absurd q nb) (fun x _ q Dm Dn D3 m1 nt m3 m39 w3 u6 u7 u8 u9 => ?_)
    rw [q]
    refine fun _ => y_fin hP ?_
    have em9 : Dm 209 = D2 209 := by rw [m1.1 209 (by decide), e49, e29]
    have eM : ∀ j, j < 518 → ¬ (86 ≤ j ∧ j < 153) → D3 209 j = D2 209 j := fun j a c => by rw [m39 j c, nt.2.1 j (by omega), em9]
    have e3 : ∀ k, k < 208 → D3 k = D4 k := fun k hk => by rw [m3 k (by omega), nt.1 k (by omega) (by omega), m1.1 k (Or.inl hk)]
    have hx : x ≤ t_o b na := by
      rw [bt] at q
      by_cases q8 : D 7 8 = 0
      · rw [if_pos q8] at q
        have := hff (q_jr (D 14) (fun i => D 209 (86 + i)) (D 7 6))
        omega
      · rw [if_neg q8] at q
        by_cases q6 : D 7 6 = -1
        · rw [if_pos q6] at q; omega
        · rw [if_neg q6] at q
          have := d11 (by omega) q6
          omega
    have bj : q_by (q_jr (D 14) (fun i => D 209 (86 + i)) (D 7 6)) 60 := by
      by_cases q6 : D 7 6 = -1
      · unfold q_jr; rw [if_pos q6]; exact bW
      · exact q_jr_by (d9 q6) bW
    refine q_dch (Dn := Dn) (Dm := Dm) hc2 ha2 hh (fun i a c d e => f42 i (by omega) (by omega) (by omega) d) (fun j _ => by rw [f42 0 (by decide) (by decide) (by decide) (by decide)]) (kp.fr (fun i a c => f4 i (by omega) (by omega) (by omega))) m1 nt (fun k hk => m3 k (by omega)) (fun j _ => by rw [m3 208 (by decide)]) (fun j hj => m39 j (by omega)) (b' := b) (N' := N) (na' := na) (hc2.dev.chg x4 bj (f42 10 (by decide) (by decide) (by decide) (by decide)) (f42 11 (by decide) (by decide) (by decide) (by decide)) (f42 12 (by decide) (by decide) (by decide) (by decide)) (f42 13 (by decide) (by decide) (by decide) (by decide)) w3 (fun i a d => eM _ (by omega) (by omega)) (q_d4.mk (s := x) (p := 1) (u := 1) (J := -1) g9 u6 (Or.inr rfl) (e7.trans q) hx g8 (Or.inr rfl) (by rw [if_neg (by decide)]; exact u7) g6 u8 (Or.inl rfl) (fun t ht => ?_) (fun q => absurd rfl q) (fun _ => ⟨rfl, rfl⟩) (fun _ q => absurd rfl q))) (ha2.2.2.fr2 (by rw [e3 0 (by decide), f42 0 (by decide) (by decide) (by decide) (by decide)]) (fun i a c => by rw [e3 i (by omega)]; exact f42 i (by omega) (by omega) (by omega) (by omega)) (by rw [e3 207 (by decide)]; exact f42 207 (by decide) (by decide) (by decide) (by decide)) (fun i hi => eM _ (by omega) (by omega)))
    show D3 209 (86 + (63 + t)) = _
    rw [if_pos rfl, show 86 + (63 + t) = 149 + t by omega]; exact u9 t ht
  by_cases q8 : D 7 8 = 0
  · refine c_canBoot0 (W := fun i => D 209 (86 + i)) (W0 := q_w0 D) (C := D 14) (J := D 7 6) ip_Device_7 (by decide) hc.A hc.byb bb0 cs.2.2.1 xW1 bW (by rw [e17]) d7 (fun q c hc' => by rw [cs.1 (7 + 7) (by decide) (by decide)]) d9 (by rw [e17]; exact q8) (fun q D2 f2 _ => ⟨fun _ => boots D2 f2 (by rw [bt, if_pos q8]; exact q), fun w => absurd w (by decide)⟩) (fun q D2 f2 _ => ⟨fun w => absurd rfl w, fun _ => hQ _ D2 (mboot D2 ?_ ?_ (Or.inr (by rw [bt, if_pos q8]; exact q)))⟩)
    · rw [f2 209 (by decide)]; exact e9
    · exact ((cs.more (fun j _ a _ => f2 j a) (by have := cs.2.2.2; unfold x_tr at *; rw [f2 207 (by decide)]; exact this)).ok hc ha).2.2
  · refine c_canBoot1 ip_Device_7 (by rw [e17]; exact q8) (fun _ => ⟨fun _ => boots D1 (fun _ _ => rfl) ?_, fun w => absurd w (by decide)⟩)
    rw [bt, if_neg q8]
    split <;> omega
end CA8
end