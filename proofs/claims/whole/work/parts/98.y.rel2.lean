section
/-! THE RELATION between class and model at the head of the law's loop -/
def q_st (D : g_D) (k : Nat) (M : Nat → Int) (o : Nat → Int) (n : Nat) (w : Nat → Int) (m le : Nat) (ch ru : Int) (B : Nat) (b : Nat → Int) (N na : Nat) : Prop :=
  (x_cl D (k + 1) o n ∧ x_cl D (k + 3) w m ∧ x_trm D (k + 5) le ch ru B) ∧ (M 0 = n ∧ M 1 = m ∧ (∀ i, i < n → M (6 + i) = o i) ∧ (∀ i, i < m → M (46 + i) = w i) ∧ M 2 = le ∧ M 3 = ch ∧ M 4 = ru ∧ M 5 = B) ∧ q_by o n ∧ q_by w m ∧ q_dv D (k + 6) (fun i => M (86 + i)) b N na
def q_im (D : g_D) : Prop := ∀ q, q < 2 → (D 44 q = 0 ∧ D 211 q = 0) ∨ (D 44 q = 1 ∧ D 211 q = 1 ∧ ∃ (o : Nat → Int) (n : Nat) (w : Nat → Int) (m le : Nat) (ch ru : Int) (B : Nat) (b : Nat → Int) (N na : Nat), q_st D (16 + 14 * q) (fun i => D 209 (519 * (q + 1) + i)) o n w m le ch ru B b N na)
def q_tp (D : g_D) : Prop := ∃ (T : Nat → Int) (t : Nat), x_tape D T t ∧ m_tape D T t ∧ q_by T t
def q_hs (D : g_D) : Prop := ∃ el sz : Nat, q_hi D el sz
def q_fa (D : g_D) : Prop := D 47 5 = D 208 40 ∧ D 47 6 = D 208 41
def q_co (D : g_D) (o : Nat → Int) (n : Nat) (w : Nat → Int) (m le : Nat) (ch ru : Int) (B : Nat) (b : Nat → Int) (N na : Nat) : Prop := q_st D 1 (D 209) o n w m le ch ru B b N na ∧ q_tp D ∧ q_hs D ∧ q_im D ∧ q_fa D
def q_w0 (D : g_D) (i : Nat) : Int := if i < 60 then D 209 (153 + i) else 0
theorem q_w0_at {D : g_D} {i : Nat} (h : i < 60) : D 209 (153 + i) = q_w0 D i := by unfold q_w0; rw [if_pos h]
theorem q_w0_fr {D D' : g_D} (e : ∀ i, i < 60 → D' 209 (153 + i) = D 209 (153 + i)) : q_w0 D' = q_w0 D := by
  funext i
  unfold q_w0
  by_cases h : i < 60
  · rw [if_pos h, if_pos h]; exact e i h
  · rw [if_neg h, if_neg h]
def q_cc (D : g_D) (b : Nat → Int) (N na : Nat) : Prop := D 0 15 = 0 → x_crs D b N na (q_w0 D) ∧ x_tr D b na (q_w0 D)
def q_ca (D : g_D) (o : Nat → Int) (n : Nat) (w : Nat → Int) (m le : Nat) (ch ru : Int) (B : Nat) (b : Nat → Int) (N na : Nat) : Prop := x_sufR D o n ∧ x_plnR D ch le ru B o w n m ∧ q_cc D b N na
def q_R (D : g_D) : Prop := ∃ (o : Nat → Int) (n : Nat) (w : Nat → Int) (m le : Nat) (ch ru : Int) (B : Nat) (b : Nat → Int) (N na : Nat), q_co D o n w m le ch ru B b N na ∧ q_ca D o n w m le ch ru B b N na
section REL2
variable {E : g_E} {l : Launch} {sh : List g_Sh} {D D' : g_D} {o w b : Nat → Int} {n m le B N na : Nat} {ch ru : Int}
theorem q_st.fr {k : Nat} {M : Nat → Int} (h : q_st D k M o n w m le ch ru B b N na) (e : ∀ i, k + 1 ≤ i → i ≤ k + 13 → D' i = D i) : q_st D' k M o n w m le ch ru B b N na := by
  obtain ⟨h1, h2, h3, h4, h5⟩ := h
  refine ⟨?_, h2, h3, h4, h5.fr (fun i a c => e i (by omega) (by omega))⟩
  unfold x_cl x_trm at *
  rw [e (k + 1) (by omega) (by omega), e (k + 1 + 1) (by omega) (by omega), e (k + 3) (by omega) (by omega), e (k + 3 + 1) (by omega) (by omega), e (k + 5) (by omega) (by omega)]
  exact h1
theorem q_st.M {k : Nat} {M M' : Nat → Int} (h : q_st D k M o n w m le ch ru B b N na) (e : ∀ i, i < 518 → M' i = M i) : q_st D k M' o n w m le ch ru B b N na := by
  obtain ⟨h1, ⟨a0, a1, a2, a3, a4, a5, a6, a7⟩, h3, h4, h5⟩ := h
  have hn := h1.1.2.1
  have hm := h1.2.1.2.1
  refine ⟨h1, ⟨?_, ?_, fun i hi => ?_, fun i hi => ?_, ?_, ?_, ?_, ?_⟩, h3, h4, h5.M (fun i hi => e _ (by omega))⟩
  · rw [e 0 (by omega)]; exact a0
  · rw [e 1 (by omega)]; exact a1
  · rw [e _ (by omega)]; exact a2 i hi
  · rw [e _ (by omega)]; exact a3 i hi
  · rw [e 2 (by omega)]; exact a4
  · rw [e 3 (by omega)]; exact a5
  · rw [e 4 (by omega)]; exact a6
  · rw [e 5 (by omega)]; exact a7
theorem q_im.fr (h : q_im D) (e : ∀ i, 16 ≤ i → i ≤ 44 → D' i = D i) (e11 : D' 211 = D 211) (e9 : ∀ j, 519 ≤ j → j < 1557 → D' 209 j = D 209 j) : q_im D' := by
  intro q hq
  rw [e 44 (by omega) (by omega), e11]
  rcases h q hq with z | ⟨z1, z2, o, n, w, m, le, ch, ru, B, b, N, na, z3⟩
  · exact Or.inl z
  · exact Or.inr ⟨z1, z2, o, n, w, m, le, ch, ru, B, b, N, na, (z3.fr (fun i a c => e i (by omega) (by omega))).M (fun i hi => e9 _ (by omega) (by omega))⟩
theorem q_hi.fr {el sz : Nat} (h : q_hi D el sz) (e : ∀ i, 52 ≤ i → i ≤ 133 → D' i = D i) (e10 : D' 210 = D 210) (e9 : D' 209 518 = D 209 518) : q_hi D' el sz := by
  obtain ⟨h1, h2, h3, h4, h5, h6⟩ := h
  refine ⟨by rw [e 52 (by omega) (by omega)]; exact h1, by rw [e 52 (by omega) (by omega)]; exact h2, h3, h4, by rw [e9]; exact h5, fun j hj => ?_⟩
  obtain ⟨b', N', na', d⟩ := h6 j hj
  rw [e10]
  exact ⟨b', N', na', d.fr (fun i a c => e i (by omega) (by omega))⟩
theorem q_tp.fr (h : q_tp D) (e1 : D' 45 = D 45) (e2 : D' 46 = D 46) (e3 : D' 208 5 = D 208 5) (e4 : D' 212 = D 212) : q_tp D' := by
  obtain ⟨T, t, h1, h2, h3⟩ := h
  refine ⟨T, t, ?_, ?_, h3⟩
  · unfold x_tape at *; rw [e1, e2]; exact h1
  · unfold m_tape at *; rw [e3, e4]; exact h2
theorem q_co.fr (h : q_co D o n w m le ch ru B b N na) (e1 : ∀ i, 1 ≤ i → i ≤ 133 → D' i = D i) (e2 : ∀ i, 209 ≤ i → i ≤ 212 → D' i = D i) (e3 : ∀ j, (j = 5 ∨ j = 40 ∨ j = 41) → D' 208 j = D 208 j) : q_co D' o n w m le ch ru B b N na := by
  obtain ⟨h1, h2, ⟨el, sz, h3⟩, h4, h5⟩ := h
  refine ⟨?_, h2.fr (e1 45 (by omega) (by omega)) (e1 46 (by omega) (by omega)) (e3 5 (by omega)) (e2 212 (by omega) (by omega)), ⟨el, sz, h3.fr (fun i a c => e1 i (by omega) (by omega)) (e2 210 (by omega) (by omega)) (by rw [e2 209 (by omega) (by omega)])⟩, h4.fr (fun i a c => e1 i (by omega) (by omega)) (e2 211 (by omega) (by omega)) (fun j _ _ => by rw [e2 209 (by omega) (by omega)]), ?_⟩
  · rw [e2 209 (by omega) (by omega)]
    exact h1.fr (fun i a c => e1 i (by omega) (by omega))
  · unfold q_fa at *; rw [e1 47 (by omega) (by omega), e3 40 (by omega), e3 41 (by omega)]; exact h5
/-- each cache by itself -/
theorem x_sufR.fr (h : x_sufR D o n) (e0 : D' 0 13 = D 0 13) (e : ∀ i, 134 ≤ i → i ≤ 136 → D' i = D i) : x_sufR D' o n := by
  unfold x_sufR x_suf at *; rw [e0, e 134 (by omega) (by omega), e 135 (by omega) (by omega), e 136 (by omega) (by omega)]; exact h
theorem x_plnR.fr (h : x_plnR D ch le ru B o w n m) (e0 : D' 0 14 = D 0 14) (e : ∀ i, 137 ≤ i → i ≤ 155 → D' i = D i) : x_plnR D' ch le ru B o w n m := by
  intro z
  rw [e0] at z
  have h := (x_pS_iff (S := (m_cs ch le o w n m).1) (c := (m_cs ch le o w n m).2) rfl).mp (h z)
  exact (x_pS_iff rfl).mpr (h.fr (fun i a c _ => e i a c) (fun j _ _ => by rw [e 143 (by omega) (by omega)]))
theorem q_cc.fr2 (h : q_cc D b N na) (e0 : D' 0 15 = D 0 15) (e : ∀ i, 175 ≤ i → i ≤ 187 → D' i = D i) (e7 : D' 207 = D 207) (e9 : ∀ i, i < 60 → D' 209 (153 + i) = D 209 (153 + i)) : q_cc D' b N na := by
  intro z
  rw [e0] at z
  obtain ⟨h1, h2⟩ := h z
  rw [q_w0_fr e9]
  refine ⟨h1.fr e, ?_⟩
  unfold x_tr at *; rw [e7]; exact h2
theorem q_cc.fr' (h : q_cc D b N na) (e0 : D' 0 15 = D 0 15) (e : ∀ i, 175 ≤ i → i ≤ 187 → D' i = D i) (e7 : D' 207 = D 207) (e9 : D' 209 = D 209) : q_cc D' b N na := h.fr2 e0 e e7 (fun i _ => by rw [e9])
theorem q_ca.mf (h : q_ca D o n w m le ch ru B b N na) (f : m_fr D D') : q_ca D' o n w m le ch ru B b N na :=
  ⟨h.1.fr (by rw [f.1 0 (by omega)]) (fun i _ c => f.1 i (by omega)), h.2.1.fr (by rw [f.1 0 (by omega)]) (fun i _ c => f.1 i (by omega)), h.2.2.fr' (by rw [f.1 0 (by omega)]) (fun i _ c => f.1 i (by omega)) (f.1 207 (by omega)) (f.1 209 (by omega))⟩
/-- a call that only reads -/
theorem q_ro {D1 D2 : g_D} (h : q_co D o n w m le ch ru B b N na) (f1 : ∀ i, 1 ≤ i → i ≤ 133 → D1 i = D i) (f1' : ∀ i, 208 ≤ i → D1 i = D i) (c1 : q_ca D1 o n w m le ch ru B b N na) (f2 : m_fr D1 D2) : q_R D2 :=
  ⟨o, n, w, m, le, ch, ru, B, b, N, na, h.fr (fun i a c => by rw [f2.1 i (by omega)]; exact f1 i a c) (fun i a c => by rw [f2.1 i (by omega)]; exact f1' i (by omega)) (fun j hj => by rw [f2.2 j hj, f1' 208 (by omega)]), c1.mf f2⟩
theorem q_co.mtx (h : q_co D o n w m le ch ru B b N na) : m_tx D o n w m le ch ru B := by
  obtain ⟨⟨h1, ⟨a0, a1, a2, a3, a4, a5, a6, a7⟩, _⟩, _⟩ := h
  exact ⟨⟨a0, h1.1.2.1, a1, h1.2.1.2.1, a2, a3⟩, a4, a5, a6, a7, h1.2.2.2.2.2.2.1, h1.2.2.2.2.2.2.2.1, h1.2.2.2.2.2.2.2.2.1⟩
theorem q_co.xtx (h : q_co D o n w m le ch ru B b N na) : x_tx D o n w m le ch ru B := ⟨h.1.1.1, h.1.1.2.1, h.1.1.2.2⟩
theorem q_co.dev (h : q_co D o n w m le ch ru B b N na) : q_dv D 7 (fun i => D 209 (86 + i)) b N na := h.1.2.2.2.2
theorem q_co.act (h : q_co D o n w m le ch ru B b N na) : m_act D b na := h.dev.2.2.1.act
theorem q_co.A (h : q_co D o n w m le ch ru B b N na) : q_A b N na := h.dev.A
theorem q_co.by0 (h : q_co D o n w m le ch ru B b N na) : q_by (q_w0 D) 60 := fun i hi => by
  have := h.dev.1.2.2.2.2.2 i hi
  dsimp only at this
  rw [← q_w0_at hi, show 153 + i = 86 + (67 + i) by omega]; exact this
theorem c_mc {K : g_D → Prop} (h : q_co D o n w m le ch ru B b N na) (hc : q_cc D b N na)
    (kk : ∀ D' : g_D, (∀ k, k ≠ 0 → ¬ (175 ≤ k ∧ k ≤ 207) → D' k = D k) → (∀ j, j ≠ 15 → D' 0 j = D 0 j) → D' 0 15 = 0 → x_crs D' b N na (q_w0 D) → x_tr D' b na (q_w0 D) → K D') : k_X11_makeCourse E l D K := by
  obtain ⟨⟨a1, a2, a3, a4, a5, a6⟩, ⟨b1, b2, b3, b4, b5⟩, _⟩ := h.dev
  refine s_X11_makeCourse (fun _ => ⟨fun z => kk D (fun _ _ _ => rfl) (fun _ _ => rfl) z (hc z).1 (hc z).2, fun _ => ?_⟩)
  refine c_X1_build (W0 := q_w0 D) b2 b5 b4 b1 b3 h.by0 (fun i hi => ?_) (fun i hi => ?_) (fun D1 f1 x1 => ?_)
  · have := a3 i hi
    dsimp only at this
    rw [← q_w0_at (by omega), show 153 + i = 86 + (67 + i) by omega]; exact this
  · have := a4 i hi
    dsimp only at this
    rw [← q_w0_at (by omega), show 153 + (40 + i) = 86 + (107 + i) by omega]; exact this
  · refine s_X10_clear (fun _ => c_fill (n0 := 4) sh_207 (by omega) (fun D2 f2 y2 D3 e3 => kk D3 (fun k a c => ?_) (fun j a => ?_) (by rw [e3, g_up_eq]) (x1.fr (fun i a c => ?_)) (fun wh w1 w2 => Or.inl ?_)))
    · rw [e3, g_up_ne a, f2 k (by omega)]; exact f1 k (by omega)
    · rw [e3, g_up_at a, f2 0 (by decide), f1 0 (by omega)]
    · rw [e3, g_up_ne (by omega)]; exact f2 i (by omega)
    · rw [e3, g_up_ne (by decide)]; exact y2 wh (by omega)
/-- the three kinds of caches renewed -/
theorem q_ca.suf {D1 : g_D} (h : q_ca D o n w m le ch ru B b N na) (f : x_f9s D D1) (s : x_suf D1 o n) : q_ca D1 o n w m le ch ru B b N na :=
  ⟨fun _ => s, h.2.1.fr (f.2 14 (by decide)) (fun i _ _ => f.1 i (by omega) (by omega) (by omega) (by omega)), h.2.2.fr' (f.2 15 (by decide)) (fun i _ _ => f.1 i (by omega) (by omega) (by omega) (by omega)) (f.1 207 (by decide) (by decide) (by decide) (by decide)) (f.1 209 (by decide) (by decide) (by decide) (by decide))⟩
theorem q_ca.pln {D1 : g_D} {S : Nat} {c : Nat → Nat → Int} (h : q_ca D o n w m le ch ru B b N na) (eC : m_cs ch le o w n m = (S, c)) (f : x_fpq D D1) (p : x_pS D1 ru B n m S w c) : q_ca D1 o n w m le ch ru B b N na :=
  ⟨h.1.fr (f.2 13 (by decide)) (fun i _ _ => f.1 i (by omega) (by omega)), fun _ => (x_pS_iff eC).mpr p, h.2.2.fr' (f.2 15 (by decide)) (fun i _ _ => f.1 i (by omega) (by omega)) (f.1 207 (by decide) (by decide)) (f.1 209 (by decide) (by decide))⟩
theorem q_ca.pap {D1 : g_D} (h : q_ca D o n w m le ch ru B b N na) (f : ∀ i, ¬ (156 ≤ i ∧ i ≤ 174) → D1 i = D i) : q_ca D1 o n w m le ch ru B b N na :=
  ⟨h.1.fr (by rw [f 0 (by decide)]) (fun i _ _ => f i (by omega)), h.2.1.fr (by rw [f 0 (by decide)]) (fun i _ _ => f i (by omega)), h.2.2.fr' (by rw [f 0 (by decide)]) (fun i _ _ => f i (by omega)) (f 207 (by decide)) (f 209 (by decide))⟩
theorem q_ca.crs {D1 : g_D} (h : q_ca D o n w m le ch ru B b N na) (f : ∀ k, k ≠ 0 → ¬ (175 ≤ k ∧ k ≤ 207) → D1 k = D k) (f0 : ∀ j, j ≠ 15 → D1 0 j = D 0 j) (x : x_crs D1 b N na (q_w0 D)) (t : x_tr D1 b na (q_w0 D)) : q_ca D1 o n w m le ch ru B b N na :=
  ⟨h.1.fr (f0 13 (by decide)) (fun i _ _ => f i (by omega) (by omega)), h.2.1.fr (f0 14 (by decide)) (fun i _ _ => f i (by omega) (by omega)), fun _ => by rw [q_w0_fr (D := D) (D' := D1) (fun i _ => by rw [f 209 (by decide) (by decide)])]; exact ⟨x, t⟩⟩
end REL2
end
