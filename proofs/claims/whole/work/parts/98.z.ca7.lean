section
/-! steps, cuts, boots -/
section CA7
variable {E : g_E} {l : Launch} {sh : List g_Sh} {D D1 D2 D3 D' Dm Dn : g_D} {o w b b' W W' W0 M M' C : Nat → Int} {n m le B N na N' na' el sz s : Nat} {ch ru : Int}
theorem q_cs.re (h : q_cs D D1 b N na) (hc : q_co D o n w m le ch ru B b N na) (ha : q_ca D o n w m le ch ru B b N na) : q_co D1 o n w m le ch ru B b N na ∧ q_ca D1 o n w m le ch ru B b N na :=
  ⟨hc.fr (fun i a c => h.1 i (by omega) (by omega)) (fun i a c => h.1 i (by omega) (by omega)) (fun j _ => by rw [h.1 208 (by decide) (by decide)]), ha.crs h.1 h.2.1 h.2.2.1 h.2.2.2⟩
theorem q_dv.chg (h : q_dv D 7 M b N na) (x : x_W D2 7 W') (hb : q_by W' 60) (e10 : D2 10 = D 10) (e11 : D2 11 = D 11) (e12 : D2 12 = D 12) (e13 : D2 13 = D 13) (hM : ∀ i, i < 60 → M' i = W' i) (eM : ∀ i, 67 ≤ i → i < 432 → M' i = M i) (d4 : q_d4 D2 7 M' (t_o b na)) : q_dv D2 7 M' b N na := by
  have hn := h.A.2.1
  obtain ⟨⟨a1, a2, a3, a4, a5, a6⟩, c2, c3, _⟩ := h
  refine ⟨⟨fun i hi => ?_, fun i hi => ?_, fun i hi => ?_, fun i hi => ?_, fun i hi => ?_, fun i hi => ?_⟩, c2.fr e12 e13, c3.M hn (fun i a c => eM i (by omega) c), d4⟩
  · rw [hM i (by omega)]; exact x.1 i hi
  · rw [hM _ (by omega)]; exact x.2 i hi
  · show D2 10 i = _
    rw [e10, eM _ (by omega) (by omega)]; exact a3 i hi
  · show D2 11 i = _
    rw [e11, eM _ (by omega) (by omega)]; exact a4 i hi
  · rw [hM i hi]; exact hb i hi
  · show 0 ≤ M' (67 + i) ∧ M' (67 + i) ≤ 255
    rw [eM _ (by omega) (by omega)]; exact a6 i hi
theorem l_X11_go {K : Int → g_D → Prop} {c : Nat} (hA : q_A b N na) (hx : x_cx D b N na) (h7 : D 7 7 = s) (hs : s + c ≤ t_o b na) (hW : x_W D 7 W) (kk : ∀ D' : g_D, (∀ i, i ≠ 7 → i ≠ 8 → i ≠ 9 → i ≠ 196 → D' i = D i) → (∀ j, j ≠ 7 → D' 7 j = D 7 j) → D' 7 7 = ((s + c : Nat) : Int) → x_W D' 7 (q_run b na W s c) → K c D') :
    ∀ (q j : Nat) (D1 : g_D), c - j = q → j ≤ c → (∀ i, i ≠ 7 → i ≠ 8 → i ≠ 9 → i ≠ 196 → D1 i = D i) → (∀ j, j ≠ 7 → D1 7 j = D 7 j) → D1 7 7 = ((s + j : Nat) : Int) → x_W D1 7 (q_run b na W s j) → n_X11_go E l D1 81 [some (g_R 0), none, some (g_I c), some (g_I j)] K := by
  have hcnt := hA.cnt
  intro q
  induction q with
  | zero =>
    intro j D1 hq hj f g g7 x
    obtain rfl : j = c := by omega
    exact s_X11_go_81 (fun _ _ _ => ⟨fun _ => kk D1 f g g7 x, fun w => (by omega : False).elim⟩)
  | succ q ih =>
    intro j D1 hq hj f g g7 x
    refine s_X11_go_81 (fun _ _ _ => ⟨fun w => (by omega : False).elim, fun _ => c_X1_doStep ip_Device_7 (by omega) hA (hx.fr (fun i a c => f i (by omega) (by omega) (by omega) (by omega))) g7 (by omega) x (fun D2 f2 g2 g27 x2 => ⟨⟨by omega, by omega⟩, ?_⟩)⟩)
    rw [g_cast1]
    exact ih (j + 1) D2 (by omega) (by omega) (fun i a c d e => by rw [f2 i a c d e]; exact f i a c d e) (fun j hj => by rw [g2 j hj]; exact g j hj) g27 x2
theorem c_X12_go0 {K : Int → g_D → Prop} {v : Int} (hA : q_A b N na) (h : m_act D b na) (hW : ∀ i, i < 60 → D 209 (86 + i) = W i) (hs : ¬ D 209 146 = 0 → D 209 147 = s) (hst : s ≤ t_o b na) (h518 : D 209 518 = sz) (hsz : sz ≤ 10)
    (k3 : ¬ (1 ≤ v ∧ v ≤ 400) → K (-3) (g_up D 208 0 0)) (k5 : (1 ≤ v ∧ v ≤ 400) → D 209 146 = 0 → K (-5) (g_up D 208 0 0)) (k0 : (1 ≤ v ∧ v ≤ 400) → ¬ D 209 146 = 0 → s = t_o b na → ∀ D', m_fr D D' → K 0 D')
    (k1 : ∀ c : Nat, (1 ≤ v ∧ v ≤ 400) → ¬ D 209 146 = 0 → 1 ≤ c → (c : Int) = min v ((t_o b na : Int) - s) → ∀ Dm Dn D3, m_fr D Dm → q_nt Dm Dn sz → (∀ k, k < 208 ∨ (210 ≤ k ∧ k ≤ 212) → D3 k = Dn k) → (∀ j, (j = 5 ∨ j = 40 ∨ j = 41) → D3 208 j = Dn 208 j) → (∀ j, ¬ (86 ≤ j ∧ j < 146) → j ≠ 147 → D3 209 j = Dn 209 j) → (∀ i, i < 60 → D3 209 (86 + i) = q_run b na W s c i) → D3 209 147 = ((s + c : Nat) : Int) → K c D3) : k_X12_go E l D v K := by
  have hcnt := hA.cnt
  refine s_X12_go (fun _ _ D1 e1 => ?_)
  subst e1
  refine c_X12_within ⟨fun z _ => ⟨fun _ => ?_, fun q => absurd q (by decide)⟩, fun z _ => ⟨fun q => absurd rfl q, fun _ => k3 z⟩⟩
  rw [g_up_ne (show (209 : Nat) ≠ 208 by decide)]
  refine ⟨fun y => c_X12_laysSteps hA.1 hA.2.1 h.up0 (fun Dm fm xm _ => ?_), fun y => k5 z y⟩
  have hs := hs y
  have fq := ((m_fq.refl D).up0).trans fm.fq
  have em9 : Dm 209 = D 209 := fq.1 209 (by decide) (by decide)
  rw [em9, hs, xm.1]
  have go : ∀ e : Nat, s ≤ e → e ≤ t_o b na → ((e - s : Nat) : Int) = min v ((t_o b na : Int) - s) → g_r ((e : Int) - s) ∧ ((¬ ((e : Int) - s) = 0 → k_X12_notes E l Dm (fun D5 => k_X12_worksNow E l D5 (fun D6 => k_X12_doesSteps E l D6 (D6 209 147) e (fun D7 => k_X12_keepsWork E l D7 (fun D8 => ∀ D9, D9 = g_up D8 209 147 e → (K ((e : Int) - s) D9)))))) ∧ (((e : Int) - s) = 0 → K 0 Dm)) := by
    intro e he1 he2 hmin
    refine ⟨⟨by omega, by omega⟩, fun q => ?_, fun q => k0 z y (by omega) Dm fq.fr⟩
    refine c_X12_notes (sz := sz) (by rw [em9]; exact h518) hsz (fun D5 nt => c_X12_worksNow (W := W) (fun i hi => by rw [nt.2.1 _ (by omega), em9]; exact hW i hi) (fun D6 f6 w6 => ?_))
    have e67 : D6 209 147 = s := by rw [f6 209 (by decide), nt.2.1 147 (by decide), em9]; exact hs
    rw [e67]
    have act6 : m_act D6 b na := by
      have hh := h
      unfold m_act at *
      refine ⟨by rw [f6 209 (by decide), nt.2.1 213 (by decide), em9]; exact hh.1, fun i hi => ?_⟩
      have hi' := hi
      have hn36 := hA.2.1
      obtain ⟨p1, p2, p3, p4, p5, p6⟩ := hh.2 i hi
      have t : ∀ j, j < 518 → D6 209 j = D 209 j := fun j hj => by rw [f6 209 (by decide), nt.2.1 j (by omega), em9]
      exact ⟨by rw [t _ (by omega)]; exact p1, by rw [t _ (by omega)]; exact p2, by rw [t _ (by omega)]; exact p3, by rw [t _ (by omega)]; exact p4, p5, fun a tt ht => by have p5a := p5 a; rw [t _ (by omega)]; exact p6 a tt ht⟩
    have st6 : m_st D6 b na (t_o b na) := by unfold m_st at *; rw [f6 208 (by decide), f6 235 (by decide), f6 236 (by decide), nt.1 208 (by decide) (by decide), nt.1 235 (by decide) (by decide), nt.1 236 (by decide) (by decide)]; exact xm
    refine c_X12_doesSteps hA act6 st6 he1 he2 w6 (fun D7 f7 w7 => c_X12_keepsWork w7 (fun D8 f8 g8 y8 D9 e9 => ?_))
    rw [show (e : Int) - s = ((e - s : Nat) : Int) by omega]
    have f9 : ∀ k, k ≠ 209 → k ≠ 239 → k ≠ 240 → D9 k = D5 k := fun k a c d => by rw [e9, g_up_ne a, f8 k a, f7 k c d, f6 k c]
    refine k1 (e - s) z y (by omega) hmin Dm D5 D9 fq.fr nt (fun k hk => f9 k (by omega) (by omega) (by omega)) (fun j _ => by rw [f9 208 (by decide) (by decide) (by decide)]) (fun j a c => ?_) (fun i hi => ?_) ?_
    · rw [e9, g_up_at c, g8 j a, f7 209 (by decide) (by decide), f6 209 (by decide)]
    · rw [e9, g_up_at (by omega)]; exact y8 i hi
    · rw [e9, g_up_eq]; omega
  refine ⟨⟨by omega, by omega⟩, s_X12_lesser (fun _ _ _ => ⟨fun q _ => ?_, fun q _ => ?_⟩)⟩
  · obtain ⟨e, he⟩ : ∃ e : Nat, (s : Int) + v = e := ⟨(s + v).toNat, by omega⟩
    rw [he, em9, hs]
    exact go e (by omega) (by omega) (by omega)
  · rw [em9, hs]
    exact go (t_o b na) hst (Nat.le_refl _) (by omega)
theorem y_go {P : g_D → Prop} {Q : Int → g_D → Prop} {v : Int} (h : q_R D) (hP : ∀ D', q_R D' → P D') (hQ : ∀ (x1 : Int) (D1 : g_D), k_X12_go E l D1 v (fun x2 D2 => g_r x2 → (x1 = x2 → P D2) ∧ (¬ x1 = x2 → False)) → Q x1 D1) : k_X11_go E l D v Q := by
  obtain ⟨o, n, w, m, le, ch, ru, B, b, N, na, hc, ha⟩ := h
  have r0 : ∀ D2, m_fr D D2 → q_R D2 := fun D2 f2 => y_pa hc ha (fun _ _ => rfl) f2
  have hcnt := hc.A.cnt
  obtain ⟨p1, p2⟩ := hc.pow
  obtain ⟨s, s1, s2⟩ := hc.d4.2.2.1
  have i10 := hc.d4.2.2.2.2.2.2.2.2.2.1
  have st := hc.stp
  have hs : ¬ D 209 146 = 0 → D 209 147 = s := fun y => by
    rw [if_neg (by have := (i10 (by rw [p1]; omega)).2; omega), s1] at st; exact st
  obtain ⟨el0, sz0, hh0⟩ := id hc.2.2.1
  have mgo : ∀ (x : Int) (D1 : g_D), D1 209 = D 209 → (∀ D2, m_fr D1 D2 → q_R D2) → (¬ (1 ≤ v ∧ v ≤ 400) → x = -3) → ((1 ≤ v ∧ v ≤ 400) → D 209 146 = 0 → x = -5) → ((1 ≤ v ∧ v ≤ 400) → ¬ D 209 146 = 0 → s = t_o b na ∧ x = 0) → k_X12_go E l D1 v (fun x2 D2 => g_r x2 → (x = x2 → P D2) ∧ (¬ x = x2 → False)) := by
    intro x D1 e9 rr a1 a2 a3
    have act1 : m_act D1 b na := by have := hc.act; unfold m_act at *; rw [e9]; exact this
    refine c_X12_go0 (W := fun i => D 209 (86 + i)) (s := s) (sz := sz0) hc.A act1 (fun i _ => by rw [e9]) (by rw [e9]; exact hs) s2 (by rw [e9]; exact hh0.2.2.2.2.1) hh0.2.2.2.1 (fun z => ?_) (fun z y => ?_) (fun z y q D2 f2 => ?_) (fun c z y c1 c2 => ?_)
    · rw [a1 z]; exact fun _ => y_fin hP (rr _ m_fr.up0)
    · rw [e9] at y; rw [a2 z y]; exact fun _ => y_fin hP (rr _ m_fr.up0)
    · rw [e9] at y; rw [(a3 z y).2]; exact fun _ => y_fin hP (rr _ f2)
    · rw [e9] at y; have := (a3 z y).1; omega
  refine s_X11_go (fun _ _ => ⟨fun z => hQ _ D (mgo _ D rfl r0 (fun _ => rfl) (fun y => (by omega : False).elim) (fun y => (by omega : False).elim)), fun z => ⟨fun z1 => ⟨fun z2 => y_mc hc ha (fun D1 cs => ?_), fun z2 => hQ _ D (mgo _ D rfl r0 (fun y => absurd ⟨by omega, z1⟩ y) (fun _ _ => rfl) (fun _ y => absurd (p1.symm.trans z2) y))⟩, fun z1 => hQ _ D (mgo _ D rfl r0 (fun _ => rfl) (fun y => (by omega : False).elim) (fun y => (by omega : False).elim))⟩⟩)
  have pw : ¬ D 209 146 = 0 := fun y => z2 (p1.trans y)
  obtain ⟨hc1, ha1⟩ := cs.re hc ha
  have e17 : D1 7 = D 7 := cs.1 7 (by decide) (by decide)
  rw [cs.2.2.1.1.1.1, e17, s1]
  refine ⟨⟨by omega, by omega⟩, fun y => ?_, fun y => hQ _ D1 (mgo _ D1 cs.e9 (cs.ok hc ha).2.2 (fun q => absurd ⟨by omega, z1⟩ q) (fun _ q => absurd q pw) (fun _ _ => ⟨by omega, rfl⟩))⟩
  obtain ⟨c, hcm⟩ : ∃ c : Nat, (c : Int) = min v ((t_o b na : Int) - s) := ⟨(min v ((t_o b na : Int) - s)).toNat, by omega⟩
  rw [← hcm] at y ⊢
  refine y_keep hc1 (fun el sz Da hh fa kp => ?_)
  have xa : x_W Da 7 (fun i => D1 209 (86 + i)) := by have := hc1.xW; unfold x_W at *; rw [fa _ (by decide), fa _ (by decide)]; exact this
  refine l_X11_go (W := fun i => D1 209 (86 + i)) (s := s) (c := c) hc1.A (cs.2.2.1.1.fr (fun i a c => fa i (by omega))) (by rw [fa 7 (by decide), e17]; exact s1) (by omega) xa (fun D2 f2 g2 g27 x2 => hQ _ D2 ?_) _ 0 Da rfl (by omega) (fun _ _ _ _ _ => rfl) (fun _ _ => rfl) (by rw [fa 7 (by decide), e17]; exact s1) xa
  have f21 : ∀ i, ¬ (7 ≤ i ∧ i ≤ 9) → ¬ (52 ≤ i ∧ i ≤ 133) → i ≠ 196 → D2 i = D1 i := fun i a c d => by rw [f2 i (by omega) (by omega) (by omega) d]; exact fa i c
  have e29 : D2 209 = D1 209 := f21 209 (by decide) (by decide) (by decide)
  have act2 : m_act D2 b na := by have := hc1.act; unfold m_act at *; rw [e29]; exact this
  refine c_X12_go0 (W := fun i => D1 209 (86 + i)) (s := s) (sz := sz) hc1.A act2 (fun i _ => by rw [e29]) (by rw [e29, cs.e9]; exact hs) s2 (by rw [e29]; exact hh.2.2.2.2.1) hh.2.2.2.1 (fun q => absurd ⟨by omega, z1⟩ q) (fun _ q => by rw [e29, cs.e9] at q; exact absurd q pw) (fun _ _ q => (by omega : False).elim) (fun c' q1 q2 q3 q4 Dm Dn D3 m1 nt m3 m38 m39 w3 p3 => ?_)
  obtain rfl : c' = c := by omega
  refine fun _ => y_fin hP ?_
  have i10 := (hc1.d4.2.2.2.2.2.2.2.2.2.1) (by rw [e17, p1]; omega)
  have em9 : Dm 209 = D1 209 := by rw [m1.1 209 (by decide)]; exact e29
  have eM : ∀ j, 86 ≤ j → j < 518 → ¬ (86 ≤ j ∧ j < 146) → j ≠ 147 → D3 209 j = D1 209 j := fun j a c d e => by rw [m39 j d e, nt.2.1 j (by omega), em9]
  have e3 : ∀ k, k < 208 → D3 k = D2 k := fun k hk => by rw [m3 k (Or.inl hk), nt.1 k (by omega) (by omega), m1.1 k (Or.inl hk)]
  have d6 := hc1.d4.2.2.2.2.2.1
  have d8 := hc1.d4.2.2.2.2.2.2.2.1
  rw [i10.1] at d6 d8
  refine q_dch (Dn := Dn) (Dm := Dm) hc1 ha1 hh (fun i a c d e => f21 i (by omega) d (by omega)) (fun j _ => by rw [f21 0 (by decide) (by decide) (by decide)]) (kp.fr (fun i a c => f2 i (by omega) (by omega) (by omega) (by omega))) m1 nt m3 m38 (fun j hj => m39 j (by omega) (by omega)) (b' := b) (N' := N) (na' := na) (hc1.dev.chg x2 (q_run_by hc1.A hc1.byb hc1.byW (by omega)) (f21 10 (by decide) (by decide) (by decide)) (f21 11 (by decide) (by decide) (by decide)) (f21 12 (by decide) (by decide) (by decide)) (f21 13 (by decide) (by decide) (by decide)) w3 (fun i a d => eM _ (by omega) (by omega) (by omega) (by omega)) (q_d4.mk (s := s + c') (p := 1) (u := 1) (J := -1) ?_ ?_ (Or.inr rfl) g27 (by omega) ?_ (Or.inr rfl) ?_ ?_ ?_ (Or.inl rfl) (fun t ht => ?_) (fun q => absurd rfl q) (fun _ => ⟨rfl, rfl⟩) (fun _ q => absurd rfl q))) (ha1.2.2.fr2 (by rw [e3 0 (by decide), f21 0 (by decide) (by decide) (by decide)]) (fun i a c => by rw [e3 i (by omega)]; exact f21 i (by omega) (by omega) (by omega)) (by rw [e3 207 (by decide)]; exact f21 207 (by decide) (by decide) (by decide)) (fun i hi => eM _ (by omega) (by omega) (by omega) (by omega)))
  · rw [g2 9 (by decide), fa 7 (by decide), e17, p1]; omega
  · exact (eM 146 (by decide) (by decide) (by decide) (by decide)).trans (by rw [cs.e9]; omega)
  · rw [g2 8 (by decide), fa 7 (by decide)]; exact i10.2
  · rw [if_neg (by decide)]; exact p3
  · rw [g2 6 (by decide), fa 7 (by decide)]; exact i10.1
  · exact (eM 148 (by decide) (by decide) (by decide) (by decide)).trans d6
  · rw [if_pos rfl]
    have := d8 t ht
    rw [if_pos rfl] at this
    exact (eM _ (by omega) (by omega) (by omega) (by omega)).trans this
end CA7
end