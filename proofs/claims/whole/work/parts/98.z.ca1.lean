section
/-! the cases that only read, ahead of the device -/
section CA1
variable {E : g_E} {l : Launch} {sh : List g_Sh} {D D1 D2 : g_D} {o w b : Nat → Int} {n m le B N na : Nat} {ch ru : Int}
theorem m_tx.of9 (h : m_tx D o n w m le ch ru B) (e : D1 209 = D 209) : m_tx D1 o n w m le ch ru B := by unfold m_tx m_img at *; rw [e]; exact h
theorem y_fin {P : g_D → Prop} {a : Int} (hP : ∀ D', q_R D' → P D') (h : q_R D2) : (a = a → P D2) ∧ (¬ a = a → False) := ⟨fun _ => hP D2 h, fun q => q rfl⟩
theorem y_pl {S : Nat} {c : Nat → Nat → Int} (hc : q_co D o n w m le ch ru B b N na) (ha : q_ca D o n w m le ch ru B b N na) (eC : m_cs ch le o w n m = (S, c)) (f : x_fpq D D1) (p : x_pS D1 ru B n m S w c) (f2 : m_fr D1 D2) : q_R D2 := q_ro hc (fun i a c => f.1 i (by omega) (by omega)) (fun i a => f.1 i (by omega) (by omega)) (ha.pln eC f p) f2
theorem y_pa (hc : q_co D o n w m le ch ru B b N na) (ha : q_ca D o n w m le ch ru B b N na) (f : ∀ i, ¬ (156 ≤ i ∧ i ≤ 174) → D1 i = D i) (f2 : m_fr D1 D2) : q_R D2 := q_ro hc (fun i a c => f i (by omega)) (fun i a => f i (by omega)) (ha.pap f) f2
theorem y_su (hc : q_co D o n w m le ch ru B b N na) (ha : q_ca D o n w m le ch ru B b N na) (f : x_f9s D D1) (s : x_suf D1 o n) (f2 : m_fr D1 D2) : q_R D2 := q_ro hc (fun i a c => f.1 i (by omega) (by omega) (by omega) (by omega)) (fun i a => f.1 i (by omega) (by omega) (by omega) (by omega)) (ha.suf f s) f2
theorem m_fr.up0 : m_fr D (g_up D 208 0 0) := m_fpp.up0.fr
theorem q_by.nn {W : Nat → Int} {k : Nat} (h : q_by W k) : ∀ i, i < k → 0 ≤ W i := fun i hi => (h i hi).1
theorem y_commands {P : g_D → Prop} {Q : Int → g_D → Prop} (h : q_R D) (hP : ∀ D', q_R D' → P D') (hQ : ∀ (x1 : Int) (D1 : g_D), k_X12_commands E l D1 (fun x2 D2 => g_r x2 → (x1 = x2 → P D2) ∧ (¬ x1 = x2 → False)) → Q x1 D1) : k_X11_commands E l D Q := by
  obtain ⟨o, n, w, m, le, ch, ru, B, b, N, na, hc, ha⟩ := h
  exact c_X11_commands hc.xtx rfl ha.2.1 (fun D1 f1 p1 => hQ _ D1 (c_X12_commands (hc.mtx.of9 (f1.1 209 (by decide) (by decide))) rfl (fun D2 f2 _ => y_fin hP (y_pl hc ha rfl f1 p1 f2))))
theorem y_command {P : g_D → Prop} {Q : Int → g_D → Prop} {k v : Int} (h : q_R D) (hP : ∀ D', q_R D' → P D') (hQ : ∀ (x1 : Int) (D1 : g_D), k_X12_command E l D1 k v (fun x2 D2 => g_r x2 → (x1 = x2 → P D2) ∧ (¬ x1 = x2 → False)) → Q x1 D1) : k_X11_command E l D k v Q := by
  obtain ⟨o, n, w, m, le, ch, ru, B, b, N, na, hc, ha⟩ := h
  exact c_X11_command hc.xtx rfl ha.2.1 (fun D1 f1 p1 => hQ _ D1 (c_X12_command (hc.mtx.of9 (f1.1 209 (by decide) (by decide))) rfl (fun D2 f2 _ => y_fin hP (y_pl hc ha rfl f1 p1 f2))))
theorem y_ahead {P : g_D → Prop} {Q : Int → g_D → Prop} {k v : Int} (h : q_R D) (hP : ∀ D', q_R D' → P D') (hQ : ∀ (x1 : Int) (D1 : g_D), k_X12_ahead E l D1 k v (fun x2 D2 => g_r x2 → (x1 = x2 → P D2) ∧ (¬ x1 = x2 → False)) → Q x1 D1) : k_X11_ahead E l D k v Q := by
  obtain ⟨o, n, w, m, le, ch, ru, B, b, N, na, hc, ha⟩ := h
  exact c_X11_ahead hc.xtx rfl ha.2.1 (fun D1 f1 p1 => hQ _ D1 (c_X12_ahead (hc.mtx.of9 (f1.1 209 (by decide) (by decide))) rfl (fun D2 f2 _ => y_fin hP (y_pl hc ha rfl f1 p1 f2))))
theorem y_ringed {P : g_D → Prop} {Q : Int → g_D → Prop} (h : q_R D) (hP : ∀ D', q_R D' → P D') (hQ : ∀ (x1 : Int) (D1 : g_D), k_X12_ringed E l D1 (fun x2 D2 => g_r x2 → (x1 = x2 → P D2) ∧ (¬ x1 = x2 → False)) → Q x1 D1) : k_X11_ringed E l D Q := by
  obtain ⟨o, n, w, m, le, ch, ru, B, b, N, na, hc, ha⟩ := h
  exact c_X11_ringed hc.xtx rfl ha.2.1 (fun D1 f1 p1 => hQ _ D1 (c_X12_ringed (hc.mtx.of9 (f1.1 209 (by decide) (by decide))) rfl (fun D2 f2 _ => y_fin hP (y_pl hc ha rfl f1 p1 f2))))
theorem y_acts {P : g_D → Prop} {Q : Int → g_D → Prop} (h : q_R D) (hP : ∀ D', q_R D' → P D') (hQ : ∀ (x1 : Int) (D1 : g_D), k_X12_acts E l D1 (fun x2 D2 => g_r x2 → (x1 = x2 → P D2) ∧ (¬ x1 = x2 → False)) → Q x1 D1) : k_X11_acts E l D Q := by
  obtain ⟨o, n, w, m, le, ch, ru, B, b, N, na, hc, ha⟩ := h
  exact c_X11_acts hc.xtx rfl ha.2.1 (fun D1 f1 p1 => hQ _ D1 (c_X12_acts (hc.mtx.of9 (f1.1 209 (by decide) (by decide))) rfl (fun D2 f2 _ => y_fin hP (y_pl hc ha rfl f1 p1 f2))))
theorem y_act {P : g_D → Prop} {Q : Int → g_D → Prop} {k v : Int} (h : q_R D) (hP : ∀ D', q_R D' → P D') (hQ : ∀ (x1 : Int) (D1 : g_D), k_X12_act E l D1 k v (fun x2 D2 => g_r x2 → (x1 = x2 → P D2) ∧ (¬ x1 = x2 → False)) → Q x1 D1) : k_X11_act E l D k v Q := by
  obtain ⟨o, n, w, m, le, ch, ru, B, b, N, na, hc, ha⟩ := h
  exact c_X11_act hc.xtx rfl ha.2.1 (fun D1 f1 p1 => hQ _ D1 (c_X12_act (hc.mtx.of9 (f1.1 209 (by decide) (by decide))) rfl (fun D2 f2 _ => y_fin hP (y_pl hc ha rfl f1 p1 f2))))
theorem y_plan {P : g_D → Prop} {Q : Int → g_D → Prop} {v : Int} (h : q_R D) (hP : ∀ D', q_R D' → P D') (hQ : ∀ (x1 : Int) (D1 : g_D), k_X12_plan E l D1 v (fun x2 D2 => g_r x2 → (x1 = x2 → P D2) ∧ (¬ x1 = x2 → False)) → Q x1 D1) : k_X11_plan E l D v Q := by
  obtain ⟨o, n, w, m, le, ch, ru, B, b, N, na, hc, ha⟩ := h
  exact c_X11_plan hc.xtx rfl ha.2.1 (fun D1 f1 p1 => hQ _ D1 (c_X12_plan (hc.mtx.of9 (f1.1 209 (by decide) (by decide))) rfl (fun D2 f2 _ => y_fin hP (y_pl hc ha rfl f1 p1 f2))))
theorem y_patch {P : g_D → Prop} {Q : Int → g_D → Prop} {v : Int} (h : q_R D) (hP : ∀ D', q_R D' → P D') (hQ : ∀ (x1 : Int) (D1 : g_D), k_X12_patch E l D1 v (fun x2 D2 => g_r x2 → (x1 = x2 → P D2) ∧ (¬ x1 = x2 → False)) → Q x1 D1) : k_X11_patch E l D v Q := by
  obtain ⟨o, n, w, m, le, ch, ru, B, b, N, na, hc, ha⟩ := h
  exact c_X11_patch hc.xtx rfl ha.2.1 (fun D1 f1 p1 => hQ _ D1 (c_X12_patch (hc.mtx.of9 (f1.1 209 (by decide) (by decide))) rfl (fun D2 f2 _ => y_fin hP (y_pl hc ha rfl f1 p1 f2))))
theorem y_needs {P : g_D → Prop} {Q : Int → g_D → Prop} (h : q_R D) (hP : ∀ D', q_R D' → P D') (hQ : ∀ (x1 : Int) (D1 : g_D), k_X12_needs E l D1 (fun x2 D2 => g_r x2 → (x1 = x2 → P D2) ∧ (¬ x1 = x2 → False)) → Q x1 D1) : k_X11_needs E l D Q := by
  obtain ⟨o, n, w, m, le, ch, ru, B, b, N, na, hc, ha⟩ := h
  exact c_X11_needs hc.xtx rfl ha.2.1 (fun D1 f1 _ p1 => hQ _ D1 (c_X12_needs (hc.mtx.of9 (f1.1 209 (by decide) (by decide))) rfl (fun D2 f2 _ => y_fin hP (y_pl hc ha rfl f1 p1 f2))))
theorem y_ring {P : g_D → Prop} {Q : Int → g_D → Prop} {k v : Int} (h : q_R D) (hP : ∀ D', q_R D' → P D') (hQ : ∀ (x1 : Int) (D1 : g_D), k_X12_ring E l D1 k v (fun x2 D2 => g_r x2 → (x1 = x2 → P D2) ∧ (¬ x1 = x2 → False)) → Q x1 D1) : k_X11_ring E l D k v Q := by
  obtain ⟨o, n, w, m, le, ch, ru, B, b, N, na, hc, ha⟩ := h
  have t9 : ∀ {D1 : g_D}, x_fpq D D1 → m_tx D1 o n w m le ch ru B := fun f1 => hc.mtx.of9 (f1.1 209 (by decide) (by decide))
  refine c_X11_ring hc.xtx rfl ha.2.1 (fun z D1 f1 p1 => hQ _ D1 ?_) (fun z z2 D1 f1 p1 => hQ _ D1 ?_) (fun D1 a z z2 f1 p1 r1 => hQ _ D1 ?_)
  · exact c_X12_ring (t9 f1) rfl (fun _ D2 f2 _ => y_fin hP (y_pl hc ha rfl f1 p1 f2)) (fun y => absurd y z) (fun D2 a' y => absurd y z)
  · exact c_X12_ring (t9 f1) rfl (fun y => absurd z y) (fun _ _ D2 f2 _ => y_fin hP (y_pl hc ha rfl f1 p1 f2)) (fun D2 a' _ y => absurd y z2)
  · refine c_X12_ring (t9 f1) rfl (fun y => absurd z y) (fun _ y => absurd z2 y) (fun D2 a' _ _ f2 r2 _ => ?_)
    rw [r1.uniq r2]
    exact y_fin hP (y_pl hc ha rfl f1 p1 f2)
theorem y_fewest {P : g_D → Prop} {Q : Int → g_D → Prop} {v : Int} (h : q_R D) (hP : ∀ D', q_R D' → P D') (hQ : ∀ (x1 : Int) (D1 : g_D), k_X12_fewest E l D1 v (fun x2 D2 => g_r x2 → (x1 = x2 → P D2) ∧ (¬ x1 = x2 → False)) → Q x1 D1) : k_X11_fewest E l D v Q := by
  obtain ⟨o, n, w, m, le, ch, ru, B, b, N, na, hc, ha⟩ := h
  refine c_X11_fewest hc.xtx rfl ha.2.1 (fun z => hQ _ D ?_) (fun D1 z f1 p1 => hQ _ D1 ?_)
  · refine c_X12_fewest hc.mtx rfl (fun D2 f2 => ?_)
    rw [if_neg z]
    exact fun _ => y_fin hP (y_pa hc ha (fun _ _ => rfl) f2)
  · refine c_X12_fewest (hc.mtx.of9 (f1.1 209 (by decide) (by decide))) rfl (fun D2 f2 => ?_)
    rw [if_pos z]
    exact fun _ => y_fin hP (y_pl hc ha rfl f1 p1 f2)
theorem y_sized {P : g_D → Prop} {Q : Int → g_D → Prop} {v : Int} (h : q_R D) (hP : ∀ D', q_R D' → P D') (hQ : ∀ (x1 : Int) (D1 : g_D), k_X12_sized E l D1 v (fun x2 D2 => g_r x2 → (x1 = x2 → P D2) ∧ (¬ x1 = x2 → False)) → Q x1 D1) : k_X11_sized E l D v Q := by
  obtain ⟨o, n, w, m, le, ch, ru, B, b, N, na, hc, ha⟩ := h
  refine c_X11_sized hc.xtx rfl ha.2.1 (fun z => hQ _ D ?_) (fun D1 z f1 p1 => hQ _ D1 ?_)
  · exact c_X12_sized hc.mtx rfl (fun _ D2 f2 _ => y_fin hP (y_pa hc ha (fun _ _ => rfl) f2)) (fun D2 y => absurd y z)
  · exact c_X12_sized (hc.mtx.of9 (f1.1 209 (by decide) (by decide))) rfl (fun y => absurd z y) (fun D2 _ f2 _ => y_fin hP (y_pl hc ha rfl f1 p1 f2))
theorem y_best {P : g_D → Prop} {Q : Int → g_D → Prop} {v : Int} (h : q_R D) (hP : ∀ D', q_R D' → P D') (hQ : ∀ (x1 : Int) (D1 : g_D), k_X12_best E l D1 v (fun x2 D2 => g_r x2 → (x1 = x2 → P D2) ∧ (¬ x1 = x2 → False)) → Q x1 D1) : k_X11_best E l D v Q := by
  obtain ⟨o, n, w, m, le, ch, ru, B, b, N, na, hc, ha⟩ := h
  refine c_X11_best hc.xtx ha.2.1 (fun z => hQ _ D ?_) (fun D1 z f1 p1 => hQ _ D1 ?_)
  · exact c_X12_best hc.mtx (fun _ D2 f2 _ => y_fin hP (y_pa hc ha (fun _ _ => rfl) f2)) (fun D2 y => absurd y z)
  · exact c_X12_best (hc.mtx.of9 (f1.1 209 (by decide) (by decide))) (fun y => absurd z y) (fun D2 _ f2 _ => y_fin hP (y_pl hc ha rfl f1 p1 f2))
theorem y_share {P : g_D → Prop} {Q : Int → g_D → Prop} {v : Int} (h : q_R D) (hP : ∀ D', q_R D' → P D') (hQ : ∀ (x1 : Int) (D1 : g_D), k_X12_share E l D1 v (fun x2 D2 => g_r x2 → (x1 = x2 → P D2) ∧ (¬ x1 = x2 → False)) → Q x1 D1) : k_X11_share E l D v Q := by
  obtain ⟨o, n, w, m, le, ch, ru, B, b, N, na, hc, ha⟩ := h
  refine c_X11_share hc.xtx rfl ha.2.1 (fun z => hQ _ D ?_) (fun D1 z f1 p1 => hQ _ D1 ?_)
  · refine s_X12_share (fun _ _ D1 e1 => c_X12_within ⟨fun y => absurd y z, fun y _ => ⟨fun q => absurd rfl q, fun _ _ => y_fin hP (y_pa hc ha (fun _ _ => rfl) ?_)⟩⟩)
    rw [e1]; exact m_fr.up0
  · exact c_X12_share (hc.mtx.of9 (f1.1 209 (by decide) (by decide))) rfl (fun y => absurd z y) (fun D2 _ f2 _ => y_fin hP (y_pl hc ha rfl f1 p1 f2)) p1.2.1
theorem y_turned {P : g_D → Prop} {Q : Int → g_D → Prop} (h : q_R D) (hP : ∀ D', q_R D' → P D') (hQ : ∀ (x1 : Int) (D1 : g_D), k_X12_turned E l D1 (fun x2 D2 => g_r x2 → (x1 = x2 → P D2) ∧ (¬ x1 = x2 → False)) → Q x1 D1) : k_X11_turned E l D Q := by
  obtain ⟨o, n, w, m, le, ch, ru, B, b, N, na, hc, ha⟩ := h
  exact c_X11_turned hc.xtx rfl (fun D1 f1 _ => hQ _ D1 (c_X12_turned (hc.mtx.of9 (f1 209 (by decide))) rfl (fun D2 f2 _ => y_fin hP (y_pa hc ha f1 f2))))
theorem x_fr.pa (h : x_fr D D1) : ∀ i, ¬ (156 ≤ i ∧ i ≤ 174) → D1 i = D i := fun i hi => h i (by omega)
theorem y_run {P : g_D → Prop} {Q : Int → g_D → Prop} {k v : Int} (h : q_R D) (hP : ∀ D', q_R D' → P D') (hQ : ∀ (x1 : Int) (D1 : g_D), k_X12_run E l D1 k v (fun x2 D2 => g_r x2 → (x1 = x2 → P D2) ∧ (¬ x1 = x2 → False)) → Q x1 D1) : k_X11_run E l D k v Q := by
  obtain ⟨o, n, w, m, le, ch, ru, B, b, N, na, hc, ha⟩ := h
  refine c_X11_run hc.xtx.1 hc.xtx.2.1 hc.xtx.2.2.2.1 (fun D1 f1 => hQ _ D1 ?_)
  have t1 := hc.mtx.of9 (f1.pa 209 (by decide))
  refine c_X12_run t1.1 ?_
  rw [t1.2.2.1]
  exact fun _ => y_fin hP (y_pa hc ha f1.pa m_fr.up0)
theorem y_widest {P : g_D → Prop} {Q : Int → g_D → Prop} {v : Int} (h : q_R D) (hP : ∀ D', q_R D' → P D') (hQ : ∀ (x1 : Int) (D1 : g_D), k_X12_widest E l D1 v (fun x2 D2 => g_r x2 → (x1 = x2 → P D2) ∧ (¬ x1 = x2 → False)) → Q x1 D1) : k_X11_widest E l D v Q := by
  obtain ⟨o, n, w, m, le, ch, ru, B, b, N, na, hc, ha⟩ := h
  refine c_X11_widest hc.xtx.1 hc.xtx.2.1 hc.xtx.2.2.2.1 (fun D1 f1 => hQ _ D1 ?_)
  have t1 := hc.mtx.of9 (f1.pa 209 (by decide))
  refine c_X12_widest t1.1 ?_
  rw [t1.2.2.1]
  exact fun _ => y_fin hP (y_pa hc ha f1.pa m_fr.up0)
theorem y_least {P : g_D → Prop} {Q : Int → g_D → Prop} (h : q_R D) (hP : ∀ D', q_R D' → P D') (hQ : ∀ (x1 : Int) (D1 : g_D), k_X12_least E l D1 (fun x2 D2 => g_r x2 → (x1 = x2 → P D2) ∧ (¬ x1 = x2 → False)) → Q x1 D1) : k_X11_least E l D Q := by
  obtain ⟨o, n, w, m, le, ch, ru, B, b, N, na, hc, ha⟩ := h
  have t := hc.xtx
  have hle := t.2.2.2.2.2.2.1
  refine c_X11_least t.1 t.2.1 t.2.2.1 (by omega) t.2.2.2.2.2.2.2.1 (fun D1 C A f1 hf => hQ _ D1 ?_)
  have t1 := hc.mtx.of9 (f1.pa 209 (by decide))
  refine c_X12_least t1.1 t1.2.1 (by omega) t1.2.2.2.2.2.2.1 (fun D2 O S f2 hO hS hbk _ => ?_)
  rw [m_least_eq (by omega) t.2.1.2.1 (fun j => m_lg_le n) hO hS hbk hf]
  exact y_fin hP (y_pa hc ha f1.pa f2)
theorem y_suffix {P : g_D → Prop} {Q : Int → g_D → Prop} {v : Int} (h : q_R D) (hP : ∀ D', q_R D' → P D') (hQ : ∀ (x1 : Int) (D1 : g_D), k_X12_suffix E l D1 v (fun x2 D2 => g_r x2 → (x1 = x2 → P D2) ∧ (¬ x1 = x2 → False)) → Q x1 D1) : k_X11_suffix E l D v Q := by
  obtain ⟨o, n, w, m, le, ch, ru, B, b, N, na, hc, ha⟩ := h
  have hb := q_by.nn hc.1.2.2.1
  have old9 : ∀ {D1 : g_D}, x_f9s D D1 → m_old D1 o n := fun f1 => (hc.mtx.of9 (f1.1 209 (by decide) (by decide) (by decide) (by decide))).1.old
  refine c_X11_suffix hc.xtx.1 hb ha.1 (fun z D1 f1 s1 => hQ _ D1 ?_) (fun z a a1 a2 D1 f1 s1 => hQ _ D1 ?_)
  · refine c_X12_suffix (old9 f1) hb (fun _ D2 f2 _ => y_fin hP (y_su hc ha f1 s1 f2)) (fun y a' a1 a2 => ?_)
    have := m_rk_in (o := o) a1
    omega
  · refine c_X12_suffix (old9 f1) hb (fun y => ?_) (fun y a' b1 b2 D2 f2 _ => ?_)
    · have := m_rk_in (o := o) a1
      omega
    · rw [m_rk_inj hb a1 b1 (a2.trans b2.symm)]
      exact y_fin hP (y_su hc ha f1 s1 f2)
theorem y_shared {P : g_D → Prop} {Q : Int → g_D → Prop} {v : Int} (h : q_R D) (hP : ∀ D', q_R D' → P D') (hQ : ∀ (x1 : Int) (D1 : g_D), k_X12_shared E l D1 v (fun x2 D2 => g_r x2 → (x1 = x2 → P D2) ∧ (¬ x1 = x2 → False)) → Q x1 D1) : k_X11_shared E l D v Q := by
  obtain ⟨o, n, w, m, le, ch, ru, B, b, N, na, hc, ha⟩ := h
  have hb := q_by.nn hc.1.2.2.1
  have old9 : ∀ {D1 : g_D}, x_f9s D D1 → m_old D1 o n := fun f1 => (hc.mtx.of9 (f1.1 209 (by decide) (by decide) (by decide) (by decide))).1.old
  refine c_X11_shared hc.xtx.1 hb ha.1 (fun z D1 f1 s1 => hQ _ D1 ?_) (fun z a a' a1 a1' a2 a2' D1 f1 s1 => hQ _ D1 ?_)
  · refine c_X12_shared (old9 f1) hb (fun _ D2 f2 _ => y_fin hP (y_su hc ha f1 s1 f2)) (fun y a a' a1 a1' a2 a2' => ?_)
    have := m_rk_in (o := o) a1'
    omega
  · refine c_X12_shared (old9 f1) hb (fun y => ?_) (fun y c c' c1 c1' c2 c2' D2 f2 _ => ?_)
    · have := m_rk_in (o := o) a1'
      omega
    · rw [m_rk_inj hb a1 c1 (a2.trans c2.symm), m_rk_inj hb a1' c1' (a2'.trans c2'.symm)]
      exact y_fin hP (y_su hc ha f1 s1 f2)
theorem y_unlike {P : g_D → Prop} {Q : Int → g_D → Prop} {v : Int} (h : q_R D) (hP : ∀ D', q_R D' → P D') (hQ : ∀ (x1 : Int) (D1 : g_D), k_X12_unlike E l D1 v (fun x2 D2 => g_r x2 → (x1 = x2 → P D2) ∧ (¬ x1 = x2 → False)) → Q x1 D1) : k_X11_unlike E l D v Q := by
  obtain ⟨o, n, w, m, le, ch, ru, B, b, N, na, hc, ha⟩ := h
  have hb := q_by.nn hc.1.2.2.1
  refine c_X11_unlike hc.xtx.1 hb ha.1 (fun D1 f1 s1 => hQ _ D1 ?_)
  refine c_X12_unlike (hc.mtx.of9 (f1.1 209 (by decide) (by decide) (by decide) (by decide))).1.old (fun _ => y_fin hP (q_ro hc (fun i a c => f1.1 i (by omega) (by omega) (by omega) (by omega)) (fun i a => f1.1 i (by omega) (by omega) (by omega) (by omega)) ?_ m_fr.up0))
  exact ⟨s1, ha.2.1.fr (f1.2 14 (by decide)) (fun i _ _ => f1.1 i (by omega) (by omega) (by omega) (by omega)), ha.2.2.fr' (f1.2 15 (by decide)) (fun i _ _ => f1.1 i (by omega) (by omega) (by omega) (by omega)) (f1.1 207 (by decide) (by decide) (by decide) (by decide)) (f1.1 209 (by decide) (by decide) (by decide) (by decide))⟩
end CA1
end
