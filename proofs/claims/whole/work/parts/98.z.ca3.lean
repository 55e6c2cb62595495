section
/-! the cases that only read the device -/
/-- what the class may do while it only reads -/
def q_cs (D D1 : g_D) (b : Nat → Int) (N na : Nat) : Prop := (∀ k, k ≠ 0 → ¬ (175 ≤ k ∧ k ≤ 207) → D1 k = D k) ∧ (∀ j, j ≠ 15 → D1 0 j = D 0 j) ∧ x_crs D1 b N na (q_w0 D) ∧ x_tr D1 b na (q_w0 D)
def q_ok (D D1 : g_D) : Prop := D1 208 = D 208 ∧ D1 209 = D 209 ∧ ∀ D2, m_fr D1 D2 → q_R D2
noncomputable def A_step (b : Nat → Int) (na : Nat) (W0 : Nat → Int) (v1 v2 : Int) : Int := if 0 ≤ v1 ∧ v1 < t_o b na ∧ 0 ≤ v2 ∧ v2 ≤ 2 then (if v2 = 0 then ((t_sa b na v1.toNat : Nat) : Int) else if v2 = 1 then t_sb b na v1.toNat else if t_sb b na v1.toNat = -1 then -1 else g_b (m_any (q_ot (q_due b na W0 v1.toNat) (q_due b na W0 (v1.toNat + 1)) (t_sb b na v1.toNat).toNat) 4)) else -2
def A_digest (W : Nat → Int) (v : Int) : Int := if 0 ≤ v ∧ v < 10 then q_dg W v.toNat else -2
def A_due (b : Nat → Int) (na : Nat) (W0 : Nat → Int) (v1 v2 : Int) : Int := if 0 ≤ v1 ∧ v1 ≤ t_o b na ∧ 0 ≤ v2 ∧ v2 < 10 then q_dg (q_due b na W0 v1.toNat) v2.toNat else -2
noncomputable def A_fits (b : Nat → Int) (na : Nat) (W0 W : Nat → Int) (v : Int) : Int := if 0 ≤ v ∧ v ≤ 2 then (if v = 0 then q_ff b na W0 W else if v = 1 then m_hi (q_fb b na W0 W) (t_o b na + 1) else (m_cnt (q_fb b na W0 W) (t_o b na + 1) : Nat)) else -2
def A_hzd (b : Nat → Int) (na : Nat) (v : Int) : Int := if 0 ≤ v ∧ v ≤ 1 then A_hazard b na v else -2
def A_wear (b : Nat → Int) (na : Nat) (v : Int) : Int := if 0 ≤ v ∧ v < 10 then (m_cnt (q_wr b na v) (t_o b na) : Nat) else -2
noncomputable def q_hh (b : Nat → Int) (na : Nat) (W0 : Nat → Int) (wh : Nat) : Nat := if wh = 0 then 4 * t_o b na else q_ht b na W0 wh (t_o b na)
noncomputable def A_cuts (b : Nat → Int) (na : Nat) (W0 : Nat → Int) (v : Int) : Int := if 0 ≤ v ∧ v < 4 then (q_hh b na W0 v.toNat : Nat) else -2
noncomputable def A_twice (b : Nat → Int) (na : Nat) (W0 : Nat → Int) (v1 v2 : Int) : Int := if 0 ≤ v1 ∧ v1 < 4 ∧ 0 ≤ v2 ∧ v2 < 4 then (m_cnt (q_h2 b na W0 v1.toNat v2.toNat) (t_o b na) : Nat) else -3
noncomputable def A_odds (b : Nat → Int) (na : Nat) (W0 : Nat → Int) (v1 v2 : Int) : Int := if 1 ≤ v1 ∧ v1 < 4 ∧ 0 ≤ v2 ∧ v2 ≤ 1 then (if t_o b na = 0 then -1 else if v2 = 0 then ((q_hh b na W0 v1.toNat : Nat) : Int) / ((Nat.gcd (q_hh b na W0 v1.toNat) (4 * t_o b na) : Nat) : Int) else ((4 * t_o b na : Nat) : Int) / ((Nat.gcd (q_hh b na W0 v1.toNat) (4 * t_o b na) : Nat) : Int)) else -2
def A_count (D : g_D) (v : Int) : Int := if v = 0 then D 209 0 else if v = 1 then D 209 1 else if v = 2 then D 209 2 else if v = 3 then D 209 3 else if v = 4 then D 209 4 else if v = 5 then D 209 5 else if v = 6 then D 209 213 else if v = 7 then D 209 147 else if v = 8 then D 209 146 else if v = 9 then D 209 148 else if v = 10 then D 209 518 else if v = 11 then D 208 5 else -1
def A_el (W : Nat → Int) (n : Nat) (v : Int) : Int := if 0 ≤ v ∧ v < n then W v.toNat else -1
section CA3
variable {E : g_E} {l : Launch} {sh : List g_Sh} {D D1 D2 : g_D} {o w b W0 : Nat → Int} {n m le B N na : Nat} {ch ru : Int}
theorem m_fq.fr (h : m_fq D D1) : m_fr D D1 := ⟨fun k hk => h.1 k (by omega) (by omega), fun j hj => h.2 j (by omega) (by omega) (by omega)⟩
theorem m_fr.of (h : ∀ k, k ≤ 212 → D1 k = D k) : m_fr D D1 := ⟨fun k hk => h k (by omega), fun j hj => by rw [h 208 (by omega)]⟩
theorem q_cs.e9 (h : q_cs D D1 b N na) : D1 209 = D 209 := h.1 209 (by decide) (by decide)
theorem q_cs.ok (h : q_cs D D1 b N na) (hc : q_co D o n w m le ch ru B b N na) (ha : q_ca D o n w m le ch ru B b N na) : q_ok D D1 :=
  ⟨h.1 208 (by decide) (by decide), h.e9, fun _ f2 => q_ro hc (fun i a c => h.1 i (by omega) (by omega)) (fun i a => h.1 i (by omega) (by omega)) (ha.crs h.1 h.2.1 h.2.2.1 h.2.2.2) f2⟩
theorem q_cs.more (h : q_cs D D1 b N na) (e : ∀ j, j ≠ 196 → j ≠ 197 → ¬ (199 ≤ j ∧ j ≤ 207) → D2 j = D1 j) (t : x_tr D2 b na (q_w0 D)) : q_cs D D2 b N na :=
  ⟨fun k a c => by rw [e k (by omega) (by omega) (by omega)]; exact h.1 k a c, fun j a => by rw [e 0 (by decide) (by decide) (by decide)]; exact h.2.1 j a, h.2.2.1.fr (fun i a c => e i (by omega) (by omega) (by omega)), t⟩
theorem q_ok.self (hc : q_co D o n w m le ch ru B b N na) (ha : q_ca D o n w m le ch ru B b N na) : q_ok D D := ⟨rfl, rfl, fun _ f2 => y_pa hc ha (fun _ _ => rfl) f2⟩
theorem q_ok.act (h : q_ok D D1) (hc : q_co D o n w m le ch ru B b N na) : m_act D1 b na := by
  have := hc.act
  unfold m_act at *
  rw [h.2.1]; exact this
theorem q_ok.w0 (h : q_ok D D1) (_hc : q_co D o n w m le ch ru B b N na) : ∀ i, i < 60 → D1 209 (153 + i) = q_w0 D i := fun i hi => by rw [h.2.1]; exact q_w0_at hi
theorem y_mc {K : g_D → Prop} (hc : q_co D o n w m le ch ru B b N na) (ha : q_ca D o n w m le ch ru B b N na) (kk : ∀ D' : g_D, q_cs D D' b N na → K D') : k_X11_makeCourse E l D K := c_mc hc ha.2.2 (fun D' f f0 _ x t => kk D' ⟨f, f0, x, t⟩)
theorem m_act.up0 (h : m_act D b na) : m_act (g_up D 208 0 0) b na := by unfold m_act at *; rw [g_up_ne (by decide)]; exact h
theorem m_w0.up0 (h : ∀ i, i < 60 → D 209 (153 + i) = W0 i) : ∀ i, i < 60 → (g_up D 208 0 0) 209 (153 + i) = W0 i := by rw [g_up_ne (by decide)]; exact h
theorem q_co.xW (hc : q_co D o n w m le ch ru B b N na) : x_W D 7 (fun i => D 209 (86 + i)) := ⟨hc.dev.1.1, hc.dev.1.2.1⟩
theorem q_co.byW (hc : q_co D o n w m le ch ru B b N na) : q_by (fun i => D 209 (86 + i)) 60 := hc.dev.1.2.2.2.2.1
theorem q_co.byb (hc : q_co D o n w m le ch ru B b N na) : q_by b N := hc.dev.2.1.2.2.2.1
theorem y_fault {P : g_D → Prop} {Q : Int → g_D → Prop} {v : Int} (h : q_R D) (hP : ∀ D', q_R D' → P D') (hQ : ∀ (x1 : Int) (D1 : g_D), k_X12_fault E l D1 v (fun x2 D2 => g_r x2 → (x1 = x2 → P D2) ∧ (¬ x1 = x2 → False)) → Q x1 D1) : k_X11_fault E l D v Q := by
  obtain ⟨o, n, w, m, le, ch, ru, B, b, N, na, hc, ha⟩ := h
  have hf := hc.2.2.2.2
  have ok := q_ok.self hc ha
  have f0 : m_fr D (g_up D 208 0 0) := m_fr.up0
  refine s_X11_fault (fun _ _ => ⟨fun z => ⟨fun z1 => hQ _ D (s_X12_fault (fun _ _ D1 e1 => ?_)), fun z1 => hQ _ D (s_X12_fault (fun _ _ D1 e1 => ?_))⟩, fun z => hQ _ D (s_X12_fault (fun _ _ D1 e1 => ?_))⟩)
  · subst e1
    exact ⟨fun _ => ⟨fun _ _ => y_fin hP (ok.2.2 _ f0), fun y => absurd y z1⟩, fun y => absurd y z⟩
  · subst e1
    rw [hf.2]
    exact ⟨fun _ => ⟨fun y => absurd z1 y, fun _ _ => y_fin hP (ok.2.2 _ f0)⟩, fun y => absurd y z⟩
  · subst e1
    rw [hf.1]
    exact ⟨fun y => absurd z y, fun _ _ => y_fin hP (ok.2.2 _ f0)⟩
theorem c_X11_steps {K : Int → g_D → Prop} (hc : q_co D o n w m le ch ru B b N na) (ha : q_ca D o n w m le ch ru B b N na) (kk : ∀ D' : g_D, q_ok D D' → K (t_o b na : Nat) D') : k_X11_steps E l D K := by
  refine s_X11_steps (fun _ => y_mc hc ha (fun D1 cs => ?_))
  rw [cs.2.2.1.1.1.1]
  exact kk D1 (cs.ok hc ha)
theorem c_X12_steps {K : Int → g_D → Prop} (hA : q_A b N na) (h : m_act D b na) (_h0 : ∀ i, i < 60 → D 209 (153 + i) = W0 i) (kk : ∀ D' : g_D, m_fr D D' → K (t_o b na : Nat) D') : k_X12_steps E l D K := by
  refine s_X12_steps (fun _ D1 e1 => ?_)
  subst e1
  exact c_X12_laysSteps hA.1 hA.2.1 h.up0 (fun D2 f2 _ _ => kk D2 (m_fq.fr (((m_fq.refl D).up0).trans f2.fq)))
theorem y_steps {P : g_D → Prop} {Q : Int → g_D → Prop} (h : q_R D) (hP : ∀ D', q_R D' → P D') (hQ : ∀ (x1 : Int) (D1 : g_D), k_X12_steps E l D1 (fun x2 D2 => g_r x2 → (x1 = x2 → P D2) ∧ (¬ x1 = x2 → False)) → Q x1 D1) : k_X11_steps E l D Q := by
  obtain ⟨o, n, w, m, le, ch, ru, B, b, N, na, hc, ha⟩ := h
  exact c_X11_steps hc ha (fun D1 k1 => hQ _ D1 (c_X12_steps hc.A (k1.act hc) (k1.w0 hc) (fun D2 f2 _ => y_fin hP (k1.2.2 D2 f2))))
theorem c_X11_step {K : Int → g_D → Prop} {v1 v2 : Int} (hc : q_co D o n w m le ch ru B b N na) (ha : q_ca D o n w m le ch ru B b N na) (kk : ∀ D' : g_D, q_ok D D' → K (A_step b na (q_w0 D) v1 v2) D') : k_X11_step E l D v1 v2 K := by
  have hcnt := hc.A.cnt
  refine s_X11_step (fun _ _ _ => y_mc hc ha (fun D1 cs => ?_))
  have kk := kk D1 (cs.ok hc ha)
  unfold A_step at kk
  rw [cs.2.2.1.1.1.1]
  refine ⟨fun z => ?_, fun z => ⟨fun z1 => ?_, fun z1 => ⟨fun z2 => ?_, fun z2 => ⟨fun z3 => ?_, fun z3 => ?_⟩⟩⟩⟩
  · rw [if_neg (by omega)] at kk; exact kk
  · rw [if_neg (by omega)] at kk; exact kk
  · rw [if_neg (by omega)] at kk; exact kk
  · rw [if_pos ⟨by omega, by omega, by omega, z3⟩] at kk
    obtain ⟨s, rfl⟩ : ∃ s : Nat, v1 = s := ⟨v1.toNat, by omega⟩
    rw [Int.toNat_natCast] at kk ⊢
    have hs : s < t_o b na := by omega
    have st := cs.2.2.1.1.1.2 s hs
    rw [st.1, st.2]
    refine ⟨fun y => ⟨by omega, fun y1 => ?_, fun y1 => ⟨fun y2 => ?_, fun y2 => ?_⟩⟩, fun y => ⟨by omega, ?_⟩⟩
    · rw [if_neg y, if_pos y1] at kk; exact kk
    · rw [if_neg y, if_neg y1, if_neg y2] at kk
      have h1 : ¬ a_k b (t_sa b na s) = 1 := fun q => y2 ((t_sb_rng hc.A.1 hs).2.1 q)
      obtain ⟨k, k1, k2, _, _⟩ := q_blk hc.A hs h1
      rw [k1, Int.toNat_natCast] at kk
      rw [k1, show (s : Int) + 1 = ((s + 1 : Nat) : Int) by omega]
      refine c_X1_dueBlock hc.A cs.2.2.1 (by omega) (by omega) (fun _ => ⟨⟨by omega, by omega⟩, c_X1_dueBlock hc.A cs.2.2.1 (by omega) (by omega) (fun _ => ?_)⟩)
      have i := q_pk_iff (k := k) (q_due_by (s := s) hc.A hc.byb hc.by0 (by omega)) (q_due_by (s := s + 1) hc.A hc.byb hc.by0 (by omega)) (by omega)
      refine ⟨fun q => ?_, fun q => ?_⟩
      · rw [show m_any (q_ot (q_due b na (q_w0 D) s) (q_due b na (q_w0 D) (s + 1)) k) 4 = true from ?_] at kk
        · exact kk
        · cases e : m_any (q_ot (q_due b na (q_w0 D) s) (q_due b na (q_w0 D) (s + 1)) k) 4
          · refine absurd (i.mpr (fun t ht => ?_)) q
            refine Classical.byContradiction (fun y => ?_)
            have : m_any (q_ot (q_due b na (q_w0 D) s) (q_due b na (q_w0 D) (s + 1)) k) 4 = true := m_any_iff.mpr ⟨t, ht, decide_eq_true y⟩
            rw [e] at this
            exact absurd this Bool.false_ne_true
          · rfl
      · rw [show m_any (q_ot (q_due b na (q_w0 D) s) (q_due b na (q_w0 D) (s + 1)) k) 4 = false from ?_] at kk
        · exact kk
        · cases e : m_any (q_ot (q_due b na (q_w0 D) s) (q_due b na (q_w0 D) (s + 1)) k) 4
          · rfl
          · obtain ⟨t, ht, y⟩ := m_any_iff.mp e
            exact absurd (i.mp q t ht) (of_decide_eq_true y)
    · rw [if_neg y, if_neg y1, if_pos y2] at kk; rw [y2]; exact kk
    · rw [if_pos y] at kk; exact kk
  · rw [if_neg (by omega)] at kk; exact kk
theorem c_X12_step {K : Int → g_D → Prop} {v1 v2 : Int} (hA : q_A b N na) (h : m_act D b na) (h0 : ∀ i, i < 60 → D 209 (153 + i) = W0 i) (kk : ∀ D' : g_D, m_fr D D' → K (A_step b na W0 v1 v2) D') : k_X12_step E l D v1 v2 K := by
  have hcnt := hA.cnt
  refine s_X12_step (fun _ _ _ D1 e1 => ?_)
  subst e1
  refine c_X12_laysDue hA h.up0 (m_w0.up0 h0) (fun D2 f2 x2 => ?_)
  have kk := kk D2 (m_fq.fr (((m_fq.refl D).up0).trans f2.fq))
  unfold A_step at kk
  rw [x2.1.1]
  refine ⟨⟨by omega, by omega⟩, c_X12_within ⟨fun z _ => ⟨fun q => absurd q (by decide), fun _ => c_X12_within ⟨fun z2 _ => ⟨fun _ => ?_, fun q => absurd q (by decide)⟩, fun z2 _ => ⟨fun q => absurd rfl q, fun _ => ?_⟩⟩⟩, fun z _ => ⟨fun _ => ?_, fun q => absurd rfl q⟩⟩⟩
  · rw [if_pos ⟨z.1, by omega, z2.1, z2.2⟩] at kk
    obtain ⟨s, rfl⟩ : ∃ s : Nat, v1 = s := ⟨v1.toNat, by omega⟩
    rw [Int.toNat_natCast] at kk ⊢
    have hs : s < t_o b na := by omega
    have st := x2.1.2 s hs
    rw [st.1, st.2]
    refine ⟨fun y => ⟨fun y1 => ⟨by omega, ?_⟩, fun y1 => ⟨by omega, fun y2 => ⟨by omega, ?_⟩, fun y2 => ⟨by omega, ?_⟩⟩⟩, fun y => ⟨by omega, ?_⟩⟩
    · rw [if_neg y, if_pos y1] at kk; exact kk
    · rw [if_neg y, if_neg y1, if_neg y2] at kk
      have h1 : ¬ a_k b (t_sa b na s) = 1 := fun q => y2 ((t_sb_rng hA.1 hs).2.1 q)
      obtain ⟨k, k1, k2, _, _⟩ := q_blk hA hs h1
      rw [k1, Int.toNat_natCast] at kk
      rw [k1]
      refine ⟨⟨by omega, by omega⟩, ?_⟩
      exact l_X12_step hA x2 hs k1 k2 kk 4 0 rfl (by omega)
    · rw [if_neg y, if_neg y1, if_pos y2] at kk; rw [y2]; exact kk
    · rw [if_pos y] at kk; exact kk
  · rw [if_neg (by omega)] at kk; exact kk
  · rw [if_neg (by omega)] at kk; exact kk
theorem y_step {P : g_D → Prop} {Q : Int → g_D → Prop} {k v : Int} (h : q_R D) (hP : ∀ D', q_R D' → P D') (hQ : ∀ (x1 : Int) (D1 : g_D), k_X12_step E l D1 k v (fun x2 D2 => g_r x2 → (x1 = x2 → P D2) ∧ (¬ x1 = x2 → False)) → Q x1 D1) : k_X11_step E l D k v Q := by
  obtain ⟨o, n, w, m, le, ch, ru, B, b, N, na, hc, ha⟩ := h
  exact c_X11_step hc ha (fun D1 k1 => hQ _ D1 (c_X12_step hc.A (k1.act hc) (k1.w0 hc) (fun D2 f2 _ => y_fin hP (k1.2.2 D2 f2))))
theorem c_X11_digest {K : Int → g_D → Prop} {v : Int} (hc : q_co D o n w m le ch ru B b N na) (ha : q_ca D o n w m le ch ru B b N na) (kk : ∀ D' : g_D, q_ok D D' → K (A_digest (fun i => D 209 (86 + i)) v) D') : k_X11_digest E l D v K := by
  have kk := kk D (q_ok.self hc ha)
  unfold A_digest at kk
  refine s_X11_digest (fun _ _ => ⟨fun z => ?_, fun z => ⟨fun z1 => ?_, fun z1 => ?_⟩⟩)
  · rw [if_neg (by omega)] at kk; exact kk
  · rw [if_pos ⟨by omega, z1⟩] at kk
    obtain ⟨s, rfl⟩ : ∃ s : Nat, v = s := ⟨v.toNat, by omega⟩
    rw [Int.toNat_natCast] at kk
    exact ⟨⟨by omega, by omega⟩, c_packed (W := fun i => D 209 (86 + i)) (k := s) (m := 60) sh_8 (by omega) (by omega) (by omega) hc.byW (by omega) (fun t ht => hc.xW.1 _ (by omega)) (fun _ => c_dgX hc.byW (by omega) (fun _ => kk))⟩
  · rw [if_neg (by omega)] at kk; exact kk
theorem c_X12_digest {K : Int → g_D → Prop} {v : Int} (hb : q_by (fun i => D 209 (86 + i)) 60) (kk : ∀ D' : g_D, m_fr D D' → K (A_digest (fun i => D 209 (86 + i)) v) D') : k_X12_digest E l D v K := by
  have kk := kk _ m_fr.up0
  unfold A_digest at kk
  refine s_X12_digest (fun _ _ D1 e1 => ?_)
  subst e1
  refine c_X12_within ⟨fun z _ => ⟨fun _ => ?_, fun q => absurd q (by decide)⟩, fun z _ => ⟨fun q => absurd rfl q, fun _ => ?_⟩⟩
  · rw [if_pos ⟨z.1, by omega⟩] at kk
    obtain ⟨s, rfl⟩ : ∃ s : Nat, v = s := ⟨v.toNat, by omega⟩
    rw [Int.toNat_natCast] at kk
    rw [show (86 + 4 * (s : Int)).toNat = 86 + (4 * s) by omega, show (86 + 4 * (s : Int) + 1).toNat = 86 + (4 * s + 1) by omega, show (86 + 4 * (s : Int) + 2).toNat = 86 + (4 * s + 2) by omega, show (86 + 4 * (s : Int) + 3).toNat = 86 + (4 * s + 3) by omega, g_up_ne (show (209 : Nat) ≠ 208 by decide)]
    exact ⟨⟨by omega, by omega⟩, ⟨by omega, by omega⟩, by omega, ⟨by omega, by omega⟩, by omega, ⟨by omega, by omega⟩, by omega, ⟨by omega, by omega⟩, by omega, c_dgM (W := fun i => D 209 (86 + i)) (k := s) (m := 60) hb (by omega) (fun _ => kk)⟩
  · rw [if_neg (by omega)] at kk; exact kk
theorem y_digest {P : g_D → Prop} {Q : Int → g_D → Prop} {v : Int} (h : q_R D) (hP : ∀ D', q_R D' → P D') (hQ : ∀ (x1 : Int) (D1 : g_D), k_X12_digest E l D1 v (fun x2 D2 => g_r8 x2 → (x1 = x2 → P D2) ∧ (¬ x1 = x2 → False)) → Q x1 D1) : k_X11_digest E l D v Q := by
  obtain ⟨o, n, w, m, le, ch, ru, B, b, N, na, hc, ha⟩ := h
  refine c_X11_digest hc ha (fun D1 k1 => hQ _ D1 ?_)
  rw [← k1.2.1]
  exact c_X12_digest (by rw [k1.2.1]; exact hc.byW) (fun D2 f2 _ => y_fin hP (k1.2.2 D2 f2))
theorem c_X11_due {K : Int → g_D → Prop} {v1 v2 : Int} (hc : q_co D o n w m le ch ru B b N na) (ha : q_ca D o n w m le ch ru B b N na) (kk : ∀ D' : g_D, q_ok D D' → K (A_due b na (q_w0 D) v1 v2) D') : k_X11_due E l D v1 v2 K := by
  have hcnt := hc.A.cnt
  refine s_X11_due (fun _ _ _ => y_mc hc ha (fun D1 cs => ?_))
  have kk := kk D1 (cs.ok hc ha)
  unfold A_due at kk
  rw [cs.2.2.1.1.1.1]
  refine ⟨fun z => ?_, fun z => ⟨fun z1 => ?_, fun z1 => ⟨fun z2 => ?_, fun z2 => ⟨fun z3 => ?_, fun z3 => ?_⟩⟩⟩⟩
  · rw [if_neg (by omega)] at kk; exact kk
  · rw [if_neg (by omega)] at kk; exact kk
  · rw [if_neg (by omega)] at kk; exact kk
  · rw [if_pos ⟨by omega, by omega, by omega, z3⟩] at kk
    obtain ⟨s, rfl⟩ : ∃ s : Nat, v1 = s := ⟨v1.toNat, by omega⟩
    obtain ⟨k, rfl⟩ : ∃ s : Nat, v2 = s := ⟨v2.toNat, by omega⟩
    rw [Int.toNat_natCast, Int.toNat_natCast] at kk
    exact c_X1_dueBlock hc.A cs.2.2.1 (by omega) (by omega) (fun _ => c_dgX (q_due_by hc.A hc.byb hc.by0 (by omega)) (by omega) (fun _ => kk))
  · rw [if_neg (by omega)] at kk; exact kk
theorem c_X12_due {K : Int → g_D → Prop} {v1 v2 : Int} (hA : q_A b N na) (hbb : q_by b N) (hb0 : q_by W0 60) (h : m_act D b na) (h0 : ∀ i, i < 60 → D 209 (153 + i) = W0 i) (kk : ∀ D' : g_D, m_fr D D' → K (A_due b na W0 v1 v2) D') : k_X12_due E l D v1 v2 K := by
  have hcnt := hA.cnt
  refine s_X12_due (fun _ _ _ D1 e1 => ?_)
  subst e1
  refine c_X12_laysDue hA h.up0 (m_w0.up0 h0) (fun D2 f2 x2 => ?_)
  have kk := kk D2 (m_fq.fr (((m_fq.refl D).up0).trans f2.fq))
  unfold A_due at kk
  rw [x2.1.1]
  refine c_X12_within ⟨fun z _ => ⟨fun q => absurd q (by decide), fun _ => c_X12_within ⟨fun z2 _ => ⟨fun _ => ?_, fun q => absurd q (by decide)⟩, fun z2 _ => ⟨fun q => absurd rfl q, fun _ => ?_⟩⟩⟩, fun z _ => ⟨fun _ => ?_, fun q => absurd rfl q⟩⟩
  · rw [if_pos ⟨z.1, z.2, z2.1, by omega⟩] at kk
    obtain ⟨s, rfl⟩ : ∃ s : Nat, v1 = s := ⟨v1.toNat, by omega⟩
    obtain ⟨k, rfl⟩ : ∃ s : Nat, v2 = s := ⟨v2.toNat, by omega⟩
    rw [Int.toNat_natCast, Int.toNat_natCast] at kk
    have du := x2.2.1 s (by omega)
    rw [show (60 * (s : Int) + 4 * (k : Int)).toNat = 60 * s + (4 * k) by omega, show (60 * (s : Int) + 4 * (k : Int) + 1).toNat = 60 * s + (4 * k + 1) by omega, show (60 * (s : Int) + 4 * (k : Int) + 2).toNat = 60 * s + (4 * k + 2) by omega, show (60 * (s : Int) + 4 * (k : Int) + 3).toNat = 60 * s + (4 * k + 3) by omega, du _ (by omega), du _ (by omega), du _ (by omega), du _ (by omega)]
    exact ⟨⟨by omega, by omega⟩, ⟨by omega, by omega⟩, ⟨by omega, by omega⟩, by omega, ⟨by omega, by omega⟩, by omega, ⟨by omega, by omega⟩, by omega, ⟨by omega, by omega⟩, by omega, c_dgM (q_due_by hA hbb hb0 (by omega)) (by omega) (fun _ => kk)⟩
  · rw [if_neg (by omega)] at kk; exact kk
  · rw [if_neg (by omega)] at kk; exact kk
theorem y_due {P : g_D → Prop} {Q : Int → g_D → Prop} {k v : Int} (h : q_R D) (hP : ∀ D', q_R D' → P D') (hQ : ∀ (x1 : Int) (D1 : g_D), k_X12_due E l D1 k v (fun x2 D2 => g_r8 x2 → (x1 = x2 → P D2) ∧ (¬ x1 = x2 → False)) → Q x1 D1) : k_X11_due E l D k v Q := by
  obtain ⟨o, n, w, m, le, ch, ru, B, b, N, na, hc, ha⟩ := h
  exact c_X11_due hc ha (fun D1 k1 => hQ _ D1 (c_X12_due hc.A hc.byb hc.by0 (k1.act hc) (k1.w0 hc) (fun D2 f2 _ => y_fin hP (k1.2.2 D2 f2))))
theorem c_X11_fits {K : Int → g_D → Prop} {v : Int} (hc : q_co D o n w m le ch ru B b N na) (ha : q_ca D o n w m le ch ru B b N na) (kk : ∀ D' : g_D, q_ok D D' → K (A_fits b na (q_w0 D) (fun i => D 209 (86 + i)) v) D') : k_X11_fits E l D v K := by
  have k0 := kk D (q_ok.self hc ha)
  unfold A_fits at k0 kk
  refine s_X11_fits (fun _ _ => ⟨fun z => ?_, fun z => ⟨fun z1 => y_mc hc ha (fun D1 cs => ?_), fun z1 => ?_⟩⟩)
  · rw [if_neg (by omega)] at k0; exact k0
  · rw [if_pos ⟨by omega, z1⟩] at kk
    have xw := hc.xW
    have xw1 : x_W D1 7 (fun i => D 209 (86 + i)) := by unfold x_W at *; rw [cs.1 8 (by decide) (by decide), cs.1 9 (by decide) (by decide)]; exact xw
    refine c_look0 ip_Device_7 (by decide) xw1 hc.byW (fun D2 f2 s2 => ?_)
    have cs2 : q_cs D D2 b N na := cs.more (fun j _ a _ => f2 j a) (by unfold x_tr at *; rw [f2 207 (by decide)]; exact cs.2.2.2)
    have kk := kk D2 (cs2.ok hc ha)
    have hst : ∀ i, i < 20 → D2 9 i = (fun i => D 209 (86 + i)) (40 + i) := fun i hi => by rw [f2 9 (by decide)]; exact xw1.2 i hi
    refine ⟨fun y => ⟨fun y1 => ?_, fun y1 => ?_⟩, fun y => ?_⟩
    · rw [if_neg y, if_neg y1] at kk
      exact c_X1_countFits sh_9 hc.A hc.byb hc.by0 cs2.2.2.1 s2 hc.byW hst (fun _ => kk)
    · rw [if_neg y, if_pos y1] at kk
      exact c_X1_lastFit sh_9 hc.A hc.byb hc.by0 cs2.2.2.1 s2 hc.byW hst (fun _ => kk)
    · rw [if_pos y] at kk
      exact c_X1_firstFit sh_9 hc.A hc.byb hc.by0 cs2.2.2.1 s2 hc.byW hst (fun _ => kk)
  · rw [if_neg (by omega)] at k0; exact k0
theorem c_X12_fits {K : Int → g_D → Prop} {W : Nat → Int} {v : Int} (hA : q_A b N na) (h : m_act D b na) (h0 : ∀ i, i < 60 → D 209 (153 + i) = W0 i) (hW : ∀ i, i < 60 → D 209 (86 + i) = W i) (kk : ∀ D' : g_D, m_fr D D' → K (A_fits b na W0 W v) D') : k_X12_fits E l D v K := by
  have k0 := kk _ m_fr.up0
  unfold A_fits at k0 kk
  refine s_X12_fits (fun _ _ D1 e1 => ?_)
  subst e1
  refine c_X12_within ⟨fun z _ => ⟨fun _ => c_X12_laysDue hA h.up0 (m_w0.up0 h0) (fun D2 f2 x2 => c_X12_worksNow (W := W) (fun i hi => ?_) (fun D3 f3 w3 => ?_)), fun q => absurd q (by decide)⟩, fun z _ => ⟨fun q => absurd rfl q, fun _ => ?_⟩⟩
  · rw [f2.1 209 (by decide) (by decide), g_up_ne (by decide)]; exact hW i hi
  · have fq3 : m_fq D D3 := ((m_fq.refl D).up0).trans (f2.fq.trans ⟨fun k _ c => f3 k (by omega), fun j _ _ _ => by rw [f3 208 (by decide)]⟩)
    have kk := kk D3 fq3.fr
    rw [if_pos z] at kk
    refine l_X12_fits hA (x2.fr (fun i _ _ => f3 i (by omega)) (by rw [f3 208 (by decide)])) w3 (fun y => ?_) (fun y => ?_) (fun y y1 => ?_) _ 0 rfl (by omega)
    · rw [if_pos y] at kk; exact kk
    · rw [if_neg (by omega), if_pos y] at kk; exact kk
    · rw [if_neg y, if_neg y1] at kk; exact kk
  · rw [if_neg z] at k0; exact k0
theorem y_fits {P : g_D → Prop} {Q : Int → g_D → Prop} {v : Int} (h : q_R D) (hP : ∀ D', q_R D' → P D') (hQ : ∀ (x1 : Int) (D1 : g_D), k_X12_fits E l D1 v (fun x2 D2 => g_r x2 → (x1 = x2 → P D2) ∧ (¬ x1 = x2 → False)) → Q x1 D1) : k_X11_fits E l D v Q := by
  obtain ⟨o, n, w, m, le, ch, ru, B, b, N, na, hc, ha⟩ := h
  exact c_X11_fits hc ha (fun D1 k1 => hQ _ D1 (c_X12_fits hc.A (k1.act hc) (k1.w0 hc) (W := fun i => D 209 (86 + i)) (fun i _ => by rw [k1.2.1]) (fun D2 f2 _ => y_fin hP (k1.2.2 D2 f2))))
theorem y_right {P : g_D → Prop} {Q : Int → g_D → Prop} (h : q_R D) (hP : ∀ D', q_R D' → P D') (hQ : ∀ (x1 : Int) (D1 : g_D), k_X12_right E l D1 (fun x2 D2 => g_r x2 → (x1 = x2 → P D2) ∧ (¬ x1 = x2 → False)) → Q x1 D1) : k_X11_right E l D Q := by
  obtain ⟨o, n, w, m, le, ch, ru, B, b, N, na, hc, ha⟩ := h
  have ok := q_ok.self hc ha
  have hm := hc.1.1.2.1
  refine s_X11_right (fun _ => l_X11_right (m := m) (w := w) (M := fun i => D 209 (86 + i)) hm.2.1 hm.1 hm.2.2 hc.xW.1 (hQ _ D (s_X12_right (fun _ D1 e1 => ?_))) _ 0 rfl (by omega))
  subst e1
  refine l_X12_right (m := m) (w := w) hm.2.1 ?_ (fun i hi => ?_) ?_ _ 0 rfl (by omega)
  · rw [g_up_ne (by decide)]; exact hc.1.2.1.2.1
  · rw [g_up_ne (by decide)]; exact hc.1.2.1.2.2.2.1 i hi
  · rw [g_up_ne (show (209 : Nat) ≠ 208 by decide)]
    exact fun _ => y_fin hP (ok.2.2 _ m_fr.up0)
theorem c_X11_hazard {K : Int → g_D → Prop} {v : Int} (hc : q_co D o n w m le ch ru B b N na) (ha : q_ca D o n w m le ch ru B b N na) (kk : ∀ D' : g_D, q_ok D D' → K (A_hzd b na v) D') : k_X11_hazard E l D v K := by
  have k0 := kk D (q_ok.self hc ha)
  unfold A_hzd at k0 kk
  refine s_X11_hazard (fun _ _ => ⟨fun z => ?_, fun z => ⟨fun z1 => y_mc hc ha (fun D1 cs => ?_), fun z1 => ?_⟩⟩)
  · rw [if_neg (by omega)] at k0; exact k0
  · rw [if_pos ⟨by omega, z1⟩] at kk
    exact l_X11_hazard hc.A cs.2.2.1.1.2.1 cs.2.2.1.1.2.2.1 (kk D1 (cs.ok hc ha)) _ 0 rfl (by omega) (fun j hj => absurd hj (Nat.not_lt_zero j))
  · rw [if_neg (by omega)] at k0; exact k0
theorem c_X12_hazard {K : Int → g_D → Prop} {v : Int} (hA : q_A b N na) (h : m_act D b na) (_h0 : ∀ i, i < 60 → D 209 (153 + i) = W0 i) (kk : ∀ D' : g_D, m_fr D D' → K (A_hzd b na v) D') : k_X12_hazard E l D v K := by
  have kk := kk _ m_fr.up0
  unfold A_hzd at kk
  refine s_X12_hazard (fun _ _ D1 e1 => ?_)
  subst e1
  refine c_X12_within ⟨fun z _ => ⟨fun _ => ?_, fun q => absurd q (by decide)⟩, fun z _ => ⟨fun q => absurd rfl q, fun _ => ?_⟩⟩
  · rw [if_pos z] at kk
    exact l_X12_hazard hA h.up0 kk _ 0 rfl (by omega) (fun j hj => absurd hj (Nat.not_lt_zero j))
  · rw [if_neg z] at kk; exact kk
theorem y_hazard {P : g_D → Prop} {Q : Int → g_D → Prop} {v : Int} (h : q_R D) (hP : ∀ D', q_R D' → P D') (hQ : ∀ (x1 : Int) (D1 : g_D), k_X12_hazard E l D1 v (fun x2 D2 => g_r x2 → (x1 = x2 → P D2) ∧ (¬ x1 = x2 → False)) → Q x1 D1) : k_X11_hazard E l D v Q := by
  obtain ⟨o, n, w, m, le, ch, ru, B, b, N, na, hc, ha⟩ := h
  exact c_X11_hazard hc ha (fun D1 k1 => hQ _ D1 (c_X12_hazard hc.A (k1.act hc) (k1.w0 hc) (fun D2 f2 _ => y_fin hP (k1.2.2 D2 f2))))
theorem c_X11_wear {K : Int → g_D → Prop} {v : Int} (hc : q_co D o n w m le ch ru B b N na) (ha : q_ca D o n w m le ch ru B b N na) (kk : ∀ D' : g_D, q_ok D D' → K (A_wear b na v) D') : k_X11_wear E l D v K := by
  have k0 := kk D (q_ok.self hc ha)
  unfold A_wear at k0 kk
  refine s_X11_wear (fun _ _ => ⟨fun z => ?_, fun z => ⟨fun z1 => y_mc hc ha (fun D1 cs => ?_), fun z1 => ?_⟩⟩)
  · rw [if_neg (by omega)] at k0; exact k0
  · rw [if_pos ⟨by omega, z1⟩] at kk
    exact l_X11_wear hc.A cs.2.2.1.1.1 (kk D1 (cs.ok hc ha)) _ 0 rfl (by omega)
  · rw [if_neg (by omega)] at k0; exact k0
theorem c_X12_wear {K : Int → g_D → Prop} {v : Int} (hA : q_A b N na) (h : m_act D b na) (_h0 : ∀ i, i < 60 → D 209 (153 + i) = W0 i) (kk : ∀ D' : g_D, m_fr D D' → K (A_wear b na v) D') : k_X12_wear E l D v K := by
  have k0 := kk _ m_fr.up0
  unfold A_wear at k0 kk
  refine s_X12_wear (fun _ _ D1 e1 => ?_)
  subst e1
  refine c_X12_within ⟨fun z _ => ⟨fun _ => c_X12_laysSteps hA.1 hA.2.1 h.up0 (fun D2 f2 x2 _ => ?_), fun q => absurd q (by decide)⟩, fun z _ => ⟨fun q => absurd rfl q, fun _ => ?_⟩⟩
  · rw [if_pos ⟨z.1, by omega⟩] at kk
    exact l_X12_wear hA x2 (kk D2 (m_fq.fr (((m_fq.refl D).up0).trans f2.fq))) _ 0 rfl (by omega)
  · rw [if_neg (by omega)] at k0; exact k0
theorem y_wear {P : g_D → Prop} {Q : Int → g_D → Prop} {v : Int} (h : q_R D) (hP : ∀ D', q_R D' → P D') (hQ : ∀ (x1 : Int) (D1 : g_D), k_X12_wear E l D1 v (fun x2 D2 => g_r x2 → (x1 = x2 → P D2) ∧ (¬ x1 = x2 → False)) → Q x1 D1) : k_X11_wear E l D v Q := by
  obtain ⟨o, n, w, m, le, ch, ru, B, b, N, na, hc, ha⟩ := h
  exact c_X11_wear hc ha (fun D1 k1 => hQ _ D1 (c_X12_wear hc.A (k1.act hc) (k1.w0 hc) (fun D2 f2 _ => y_fin hP (k1.2.2 D2 f2))))
theorem c_surv {K : Int → g_D → Prop} {wh : Nat} (hc : q_co D o n w m le ch ru B b N na) (cs : q_cs D D1 b N na) (h : wh ≤ 3) (kk : ∀ D' : g_D, q_cs D D' b N na → K (q_hh b na (q_w0 D) wh : Nat) D') : k_X10_survived E l D1 wh K := by
  unfold q_hh at kk
  by_cases e : wh = 0
  · subst e
    rw [if_pos rfl] at kk
    exact c_survived0 hc.A cs.2.2.1 (kk D1 cs)
  · rw [if_neg e] at kk
    exact c_X10_survived hc.A hc.byb hc.by0 cs.2.2.1 cs.2.2.2 (by omega) h (fun D2 f2 t2 => kk D2 (cs.more f2 t2))
theorem c_X11_cuts {K : Int → g_D → Prop} {v : Int} (hc : q_co D o n w m le ch ru B b N na) (ha : q_ca D o n w m le ch ru B b N na) (kk : ∀ D' : g_D, q_ok D D' → K (A_cuts b na (q_w0 D) v) D') : k_X11_cuts E l D v K := by
  have k0 := kk D (q_ok.self hc ha)
  unfold A_cuts at k0 kk
  refine s_X11_cuts (fun _ _ => ⟨fun z => ?_, fun z => ⟨fun z1 => y_mc hc ha (fun D1 cs => ?_), fun z1 => ?_⟩⟩)
  · rw [if_neg (by omega)] at k0; exact k0
  · rw [if_pos ⟨by omega, z1⟩] at kk
    obtain ⟨s, rfl⟩ : ∃ s : Nat, v = s := ⟨v.toNat, by omega⟩
    rw [Int.toNat_natCast] at kk
    exact c_surv hc cs (by omega) (fun D2 cs2 _ => kk D2 (cs2.ok hc ha))
  · rw [if_neg (by omega)] at k0; exact k0
theorem c_X12_cuts {K : Int → g_D → Prop} {v : Int} (hA : q_A b N na) (h : m_act D b na) (h0 : ∀ i, i < 60 → D 209 (153 + i) = W0 i) (kk : ∀ D' : g_D, m_fr D D' → K (A_cuts b na W0 v) D') : k_X12_cuts E l D v K := by
  have k0 := kk _ m_fr.up0
  unfold A_cuts q_hh at k0 kk
  refine s_X12_cuts (fun _ _ D1 e1 => ?_)
  subst e1
  refine c_X12_within ⟨fun z _ => ⟨fun q => absurd q (by decide), fun _ => ?_⟩, fun z _ => ⟨fun _ => ?_, fun q => absurd rfl q⟩⟩
  · rw [if_pos ⟨z.1, by omega⟩] at kk
    obtain ⟨s, rfl⟩ : ∃ s : Nat, v = s := ⟨v.toNat, by omega⟩
    rw [Int.toNat_natCast] at kk
    exact c_X12_healed hA h.up0 (m_w0.up0 h0) (by omega) (fun D2 f2 _ => kk D2 (((m_fq.refl D).up0).trans f2).fr)
  · rw [if_neg (by omega)] at k0; exact k0
theorem y_cuts {P : g_D → Prop} {Q : Int → g_D → Prop} {v : Int} (h : q_R D) (hP : ∀ D', q_R D' → P D') (hQ : ∀ (x1 : Int) (D1 : g_D), k_X12_cuts E l D1 v (fun x2 D2 => g_r x2 → (x1 = x2 → P D2) ∧ (¬ x1 = x2 → False)) → Q x1 D1) : k_X11_cuts E l D v Q := by
  obtain ⟨o, n, w, m, le, ch, ru, B, b, N, na, hc, ha⟩ := h
  exact c_X11_cuts hc ha (fun D1 k1 => hQ _ D1 (c_X12_cuts hc.A (k1.act hc) (k1.w0 hc) (fun D2 f2 _ => y_fin hP (k1.2.2 D2 f2))))
theorem l_X12_twice {K : Int → g_D → Prop} {p1 p2 : Nat} (hA : q_A b N na) (h : m_act D b na) (hx : m_crs D b na W0) (h1 : p1 ≤ 3) (h2 : p2 ≤ 3) (kk : ∀ D' : g_D, m_fcu D D' → K (m_cnt (q_h2 b na W0 p1 p2) (t_o b na) : Nat) D') :
    ∀ (q s : Nat) (D1 : g_D), t_o b na - s = q → s ≤ t_o b na → m_fcu D D1 → n_X12_twice E l D1 41 [some (g_R 208), some (g_I p1), some (g_I p2), some (g_I (m_cnt (q_h2 b na W0 p1 p2) s : Nat)), some (g_I s)] K := by
  have hcnt := hA.cnt
  intro q
  induction q with
  | zero =>
    intro s D1 hq hs f
    obtain rfl : s = t_o b na := by omega
    have h46 := (f.crs hx).1.1
    exact s_X12_twice_41 (fun _ _ _ _ _ => ⟨fun _ => kk D1 f, fun w => (by omega : False).elim⟩)
  | succ q ih =>
    intro s D1 hq hs f
    have h46 := (f.crs hx).1.1
    have hle := m_cnt_le (P := q_h2 b na W0 p1 p2) s
    refine s_X12_twice_41 (fun _ _ _ _ _ => ⟨fun w => (by omega : False).elim, fun _ => c_X12_isHealedTwice hA (f.act h) (f.crs hx) (by omega) h1 h2 (fun D2 f2 _ => ?_)⟩)
    have ih' := ih (s + 1) D2 (by omega) (by omega) (f.trans f2)
    rw [m_cnt, ← g_cast1] at ih'
    rw [Int.add_zero]
    refine ⟨fun z => ⟨⟨by omega, by omega⟩, ⟨by omega, by omega⟩, ?_⟩, fun z => ⟨⟨by omega, by omega⟩, ⟨by omega, by omega⟩, ?_⟩⟩
    · rw [g_b_0.mp z, if_neg Bool.false_ne_true] at ih'; exact ih'
    · rw [g_b_n0.mp z, if_pos rfl, ← g_cast1] at ih'; exact ih'
theorem c_X11_twice {K : Int → g_D → Prop} {v1 v2 : Int} (hc : q_co D o n w m le ch ru B b N na) (ha : q_ca D o n w m le ch ru B b N na) (kk : ∀ D' : g_D, q_ok D D' → K (A_twice b na (q_w0 D) v1 v2) D') : k_X11_twice E l D v1 v2 K := by
  have k0 := kk D (q_ok.self hc ha)
  unfold A_twice at k0 kk
  refine s_X11_twice (fun _ _ _ => ⟨fun z => ?_, fun z => ⟨fun z1 => ?_, fun z1 => ⟨fun z2 => ?_, fun z2 => ⟨fun z3 => y_mc hc ha (fun D1 cs => ?_), fun z3 => ?_⟩⟩⟩⟩)
  · rw [if_neg (by omega)] at k0; exact k0
  · rw [if_neg (by omega)] at k0; exact k0
  · rw [if_neg (by omega)] at k0; exact k0
  · rw [if_pos ⟨by omega, by omega, by omega, z3⟩] at kk
    obtain ⟨s, rfl⟩ : ∃ s : Nat, v1 = s := ⟨v1.toNat, by omega⟩
    obtain ⟨k, rfl⟩ : ∃ s : Nat, v2 = s := ⟨v2.toNat, by omega⟩
    rw [Int.toNat_natCast, Int.toNat_natCast] at kk
    exact c_X10_survivedTwice hc.A hc.byb hc.by0 cs.2.2.1 (by omega) (by omega) (fun D2 f2 _ => kk D2 ((cs.more (fun j a c d => f2 j a c (by omega)) (by have := cs.2.2.2; unfold x_tr at *; rw [f2 207 (by decide) (by decide) (by decide)]; exact this)).ok hc ha))
  · rw [if_neg (by omega)] at k0; exact k0
theorem c_X12_twice {K : Int → g_D → Prop} {v1 v2 : Int} (hA : q_A b N na) (h : m_act D b na) (h0 : ∀ i, i < 60 → D 209 (153 + i) = W0 i) (kk : ∀ D' : g_D, m_fr D D' → K (A_twice b na W0 v1 v2) D') : k_X12_twice E l D v1 v2 K := by
  have k0 := kk _ m_fr.up0
  unfold A_twice at k0 kk
  refine s_X12_twice (fun _ _ _ D1 e1 => ?_)
  subst e1
  refine c_X12_within ⟨fun z _ => ⟨fun q => absurd q (by decide), fun _ => c_X12_within ⟨fun z2 _ => ⟨fun _ => ?_, fun q => absurd q (by decide)⟩, fun z2 _ => ⟨fun q => absurd rfl q, fun _ => ?_⟩⟩⟩, fun z _ => ⟨fun _ => ?_, fun q => absurd rfl q⟩⟩
  · rw [if_pos ⟨z.1, by omega, z2.1, by omega⟩] at kk
    obtain ⟨s, rfl⟩ : ∃ s : Nat, v1 = s := ⟨v1.toNat, by omega⟩
    obtain ⟨k, rfl⟩ : ∃ s : Nat, v2 = s := ⟨v2.toNat, by omega⟩
    rw [Int.toNat_natCast, Int.toNat_natCast] at kk
    exact c_X12_laysDue hA h.up0 (m_w0.up0 h0) (fun D2 f2 x2 => l_X12_twice hA (f2.act h.up0) x2 (by omega) (by omega) (fun D3 f3 => kk D3 (((m_fq.refl D).up0).trans (f2.fq.trans f3.fq)).fr) _ 0 D2 rfl (by omega) (m_fcu.refl D2))
  · rw [if_neg (by omega)] at k0; exact k0
  · rw [if_neg (by omega)] at k0; exact k0
theorem y_twice {P : g_D → Prop} {Q : Int → g_D → Prop} {k v : Int} (h : q_R D) (hP : ∀ D', q_R D' → P D') (hQ : ∀ (x1 : Int) (D1 : g_D), k_X12_twice E l D1 k v (fun x2 D2 => g_r x2 → (x1 = x2 → P D2) ∧ (¬ x1 = x2 → False)) → Q x1 D1) : k_X11_twice E l D k v Q := by
  obtain ⟨o, n, w, m, le, ch, ru, B, b, N, na, hc, ha⟩ := h
  exact c_X11_twice hc ha (fun D1 k1 => hQ _ D1 (c_X12_twice hc.A (k1.act hc) (k1.w0 hc) (fun D2 f2 _ => y_fin hP (k1.2.2 D2 f2))))
theorem c_X11_odds {K : Int → g_D → Prop} {v1 v2 : Int} (hc : q_co D o n w m le ch ru B b N na) (ha : q_ca D o n w m le ch ru B b N na) (kk : ∀ D' : g_D, q_ok D D' → K (A_odds b na (q_w0 D) v1 v2) D') : k_X11_odds E l D v1 v2 K := by
  have k0 := kk D (q_ok.self hc ha)
  have hcnt := hc.A.cnt
  unfold A_odds at k0 kk
  refine s_X11_odds (fun _ _ _ => ⟨fun z => ?_, fun z => ⟨fun z1 => ?_, fun z1 => ⟨fun z2 => ?_, fun z2 => ⟨fun z3 => y_mc hc ha (fun D1 cs => ?_), fun z3 => ?_⟩⟩⟩⟩)
  · rw [if_neg (by omega)] at k0; exact k0
  · rw [if_neg (by omega)] at k0; exact k0
  · rw [if_neg (by omega)] at k0; exact k0
  · rw [if_pos ⟨by omega, by omega, by omega, z3⟩] at kk
    obtain ⟨s, rfl⟩ : ∃ s : Nat, v1 = s := ⟨v1.toNat, by omega⟩
    rw [Int.toNat_natCast] at kk
    refine c_surv hc cs (by omega) (fun D2 cs2 _ => c_survived0 hc.A cs2.2.2.1 (fun _ => ⟨fun y => ?_, fun y => ?_⟩))
    · have kk := kk D2 (cs2.ok hc ha)
      rw [if_neg (by omega)] at kk
      refine s_X11_commonDivisor (fun _ _ _ => l_commonDivisor 11 (j := 0) (by omega) (by omega) (fun _ => ?_))
      have hg : 0 < Nat.gcd (q_hh b na (q_w0 D) s) (4 * t_o b na) := Nat.gcd_pos_of_pos_right _ (by omega)
      refine ⟨fun _ => ⟨fun x => ⟨by omega, ?_⟩, fun x => ⟨by omega, ?_⟩⟩, fun x => (by omega : False).elim⟩
      · rw [if_neg x] at kk; exact kk
      · rw [if_pos x] at kk; exact kk
    · have kk := kk D2 (cs2.ok hc ha)
      rw [if_pos (by omega)] at kk
      exact kk
  · rw [if_neg (by omega)] at k0; exact k0
theorem c_X12_odds {K : Int → g_D → Prop} {v1 v2 : Int} (hA : q_A b N na) (h : m_act D b na) (h0 : ∀ i, i < 60 → D 209 (153 + i) = W0 i) (kk : ∀ D' : g_D, m_fr D D' → K (A_odds b na W0 v1 v2) D') : k_X12_odds E l D v1 v2 K := by
  have k0 := kk _ m_fr.up0
  have hcnt := hA.cnt
  unfold A_odds at k0 kk
  refine s_X12_odds (fun _ _ _ D1 e1 => ?_)
  subst e1
  refine c_X12_within ⟨fun z _ => ⟨fun q => absurd q (by decide), fun _ => c_X12_within ⟨fun z2 _ => ⟨fun _ => ?_, fun q => absurd q (by decide)⟩, fun z2 _ => ⟨fun q => absurd rfl q, fun _ => ?_⟩⟩⟩, fun z _ => ⟨fun _ => ?_, fun q => absurd rfl q⟩⟩
  · rw [if_pos ⟨z.1, by omega, z2.1, z2.2⟩] at kk
    obtain ⟨s, rfl⟩ : ∃ s : Nat, v1 = s := ⟨v1.toNat, by omega⟩
    rw [Int.toNat_natCast] at kk
    refine c_X12_healed (wh := 0) hA h.up0 (m_w0.up0 h0) (by omega) (fun D2 f2 _ => ?_)
    rw [if_pos rfl]
    have fq2 := ((m_fq.refl D).up0).trans f2
    refine ⟨fun y => ?_, fun y => ?_⟩
    · refine c_X12_healed (W0 := W0) hA (fq2.act h) (fun i hi => by rw [fq2.1 209 (by decide) (by decide)]; exact h0 i hi) (by omega) (fun D3 f3 _ => ?_)
      rw [show (if s = 0 then 4 * t_o b na else q_ht b na W0 s (t_o b na)) = q_hh b na W0 s from rfl]
      have kk := kk D3 (fq2.trans f3).fr
      rw [if_neg (by omega)] at kk
      have hg : 0 < Nat.gcd (q_hh b na W0 s) (4 * t_o b na) := Nat.gcd_pos_of_pos_right _ (by omega)
      refine ⟨fun x => c_common1 11 (by omega) (by omega) (fun _ => ⟨by omega, ?_⟩), fun x => c_common1 11 (by omega) (by omega) (fun _ => ⟨by omega, ?_⟩)⟩
      · rw [if_neg x] at kk; exact kk
      · rw [if_pos x] at kk; exact kk
    · have kk := kk D2 fq2.fr
      rw [if_pos (by omega)] at kk
      exact kk
  · rw [if_neg (by omega)] at k0; exact k0
  · rw [if_neg (by omega)] at k0; exact k0
theorem y_odds {P : g_D → Prop} {Q : Int → g_D → Prop} {k v : Int} (h : q_R D) (hP : ∀ D', q_R D' → P D') (hQ : ∀ (x1 : Int) (D1 : g_D), k_X12_odds E l D1 k v (fun x2 D2 => g_r x2 → (x1 = x2 → P D2) ∧ (¬ x1 = x2 → False)) → Q x1 D1) : k_X11_odds E l D k v Q := by
  obtain ⟨o, n, w, m, le, ch, ru, B, b, N, na, hc, ha⟩ := h
  exact c_X11_odds hc ha (fun D1 k1 => hQ _ D1 (c_X12_odds hc.A (k1.act hc) (k1.w0 hc) (fun D2 f2 _ => y_fin hP (k1.2.2 D2 f2))))
theorem c_X12_count {K : Int → g_D → Prop} {v : Int} (kk : ∀ D' : g_D, m_fr D D' → K (A_count D v) D') : k_X12_count E l D v K := by
  have kk := kk _ m_fr.up0
  unfold A_count at kk
  refine s_X12_count (fun _ _ D1 e1 => ?_)
  subst e1
  refine ⟨fun z => by subst z; exact kk, fun z => by subst z; exact kk, fun z => by subst z; exact kk, fun z => by subst z; exact kk, fun z => by subst z; exact kk, fun z => by subst z; exact kk, fun z => by subst z; exact kk, fun z => by subst z; exact kk, fun z => by subst z; exact kk, fun z => by subst z; exact kk, fun z => by subst z; exact kk, fun z => by subst z; exact kk, fun z => ?_⟩
  rw [if_neg (by omega), if_neg (by omega), if_neg (by omega), if_neg (by omega), if_neg (by omega), if_neg (by omega), if_neg (by omega), if_neg (by omega), if_neg (by omega), if_neg (by omega), if_neg (by omega), if_neg (by omega)] at kk
  exact kk
theorem c_X11_count {K : Int → g_D → Prop} {v : Int} (hc : q_co D o n w m le ch ru B b N na) (ha : q_ca D o n w m le ch ru B b N na) (kk : ∀ D' : g_D, q_ok D D' → K (A_count D v) D') : k_X11_count E l D v K := by
  have k0 := kk D (q_ok.self hc ha)
  obtain ⟨⟨x1, x2, x3⟩, ⟨a0, a1, a2, a3, a4, a5, a6, a7⟩, _⟩ := hc.1
  obtain ⟨d1, d2, d3, d4, d5, d6, d7, d8, d9, d10, d11⟩ := hc.dev.2.2.2
  obtain ⟨T, t, t1, t2, _⟩ := hc.2.1
  obtain ⟨el, sz, h1, h2, h3, h4, h5, _⟩ := hc.2.2.1
  dsimp only at d1 d2 d5 d6
  refine s_X11_count (fun _ _ => ⟨fun z => ?_, fun z => ?_, fun z => ?_, fun z => ?_, fun z => ?_, fun z => ?_, fun z => ?_, fun z => ?_, fun z => ?_, fun z => ?_, fun z => ?_, fun z => ?_, fun z => ?_⟩)
  · subst z; rw [x1.1, ← a0]; exact k0
  · subst z; rw [x2.1, ← a1]; exact k0
  · subst z; refine ⟨⟨by omega, by omega⟩, by omega, ?_⟩; rw [show ((2 : Int) - 2).toNat = 0 from rfl, x3.1, ← a4]; exact k0
  · subst z; refine ⟨⟨by omega, by omega⟩, by omega, ?_⟩; rw [show ((3 : Int) - 2).toNat = 1 from rfl, x3.2.1, ← a5]; exact k0
  · subst z; refine ⟨⟨by omega, by omega⟩, by omega, ?_⟩; rw [show ((4 : Int) - 2).toNat = 2 from rfl, x3.2.2.1, ← a6]; exact k0
  · subst z; refine ⟨⟨by omega, by omega⟩, by omega, ?_⟩; rw [show ((5 : Int) - 2).toNat = 3 from rfl, x3.2.2.2.1, ← a7]; exact k0
  · subst z
    refine y_mc hc ha (fun D1 cs => ?_)
    rw [cs.2.2.1.1.2.1, ← hc.act.1]
    exact kk D1 (cs.ok hc ha)
  · subst z
    refine ⟨fun y => ?_, fun y => ?_⟩
    · rw [if_pos y] at d5; rw [← d5]; exact k0
    · rw [if_neg y] at d5; rw [← d5]; exact k0
  · subst z
    have k0 : K (D 209 146) D := k0
    refine ⟨fun y => ?_, fun y => ?_⟩
    · rw [show D 209 146 = 0 from d1.symm.trans y] at k0; exact k0
    · rw [show D 209 146 = 1 from d2.resolve_left (fun q => y (d1.trans q))] at k0; exact k0
  · subst z; rw [← d6]; exact k0
  · subst z; rw [h2, ← h5]; exact k0
  · subst z; rw [t1.1, ← t2.1]; exact k0
  · unfold A_count at k0
    rw [if_neg (by omega), if_neg (by omega), if_neg (by omega), if_neg (by omega), if_neg (by omega), if_neg (by omega), if_neg (by omega), if_neg (by omega), if_neg (by omega), if_neg (by omega), if_neg (by omega), if_neg (by omega)] at k0
    exact k0
theorem y_count {P : g_D → Prop} {Q : Int → g_D → Prop} {v : Int} (h : q_R D) (hP : ∀ D', q_R D' → P D') (hQ : ∀ (x1 : Int) (D1 : g_D), k_X12_count E l D1 v (fun x2 D2 => g_r x2 → (x1 = x2 → P D2) ∧ (¬ x1 = x2 → False)) → Q x1 D1) : k_X11_count E l D v Q := by
  obtain ⟨o, n, w, m, le, ch, ru, B, b, N, na, hc, ha⟩ := h
  refine c_X11_count hc ha (fun D1 k1 => hQ _ D1 ?_)
  have e : A_count D v = A_count D1 v := by unfold A_count; rw [k1.1, k1.2.1]
  rw [e]
  exact c_X12_count (fun D2 f2 _ => y_fin hP (k1.2.2 D2 f2))
theorem c_el {K : Int → g_D → Prop} {W : Nat → Int} {k n0 : Nat} {v : Int} (hk : g_SH[k]? = some (.inl (0, n0))) (hn : n0 ≤ 1000) (hW : ∀ i, i < n0 → D k i = W i) (kk : K (A_el W n0 v) D) : k_X11_elementOf E l g_SH D k v K := by
  unfold A_el at kk
  refine s_X11_elementOf hk (fun _ _ => ⟨fun z => ?_, fun z => ⟨by omega, fun z1 => ?_, fun z1 => ⟨by omega, ?_⟩⟩⟩)
  · rw [if_neg (by omega)] at kk; exact kk
  · rw [if_neg (by omega)] at kk; exact kk
  · rw [if_pos ⟨by omega, by omega⟩] at kk; rw [hW _ (by omega)]; exact kk
theorem c_me {K : Int → g_D → Prop} {W : Nat → Int} {c n0 : Nat} {v hi : Int} (hh : hi = (n0 : Int) - 1) (hn : c + n0 ≤ 1000) (hW : ∀ i, i < n0 → D 209 (c + i) = W i) (kk : K (A_el W n0 v) D) : k_X12_within E l g_SH D v 0 hi (fun x2 D2 => g_r x2 → (x2 = 0 → K (-1) D2) ∧ (¬ x2 = 0 → (g_r ((c : Int) + v)) ∧ ((0 ≤ ((c : Int) + v) ∧ ((c : Int) + v) < 1557) ∧ (K (D2 209 ((c : Int) + v).toNat) D2)))) := by
  unfold A_el at kk
  refine c_X12_within ⟨fun z _ => ⟨fun q => absurd q (by decide), fun _ => ⟨⟨by omega, by omega⟩, by omega, ?_⟩⟩, fun z _ => ⟨fun _ => ?_, fun q => absurd rfl q⟩⟩
  · rw [if_pos ⟨z.1, by omega⟩] at kk
    rw [show ((c : Int) + v).toNat = c + v.toNat by omega, hW _ (by omega)]; exact kk
  · rw [if_neg (by omega)] at kk; exact kk
theorem y_cell {P : g_D → Prop} {Q : Int → g_D → Prop} {k v : Int} (h : q_R D) (hP : ∀ D', q_R D' → P D') (hQ : ∀ (x1 : Int) (D1 : g_D), k_X12_cell E l D1 k v (fun x2 D2 => g_r x2 → (x1 = x2 → P D2) ∧ (¬ x1 = x2 → False)) → Q x1 D1) : k_X11_cell E l D k v Q := by
  obtain ⟨o, n, w, m, le, ch, ru, B, b, N, na, hc, ha⟩ := h
  have ok := q_ok.self hc ha
  have k0 := fun (a : Int) => @y_fin (g_up D 208 0 0) P a hP (ok.2.2 _ m_fr.up0)
  obtain ⟨⟨x1, x2, x3⟩, ⟨a0, a1, a2, a3, a4, a5, a6, a7⟩, _⟩ := hc.1
  have e9 : (g_up D 208 0 0) 209 = D 209 := g_up_ne (by decide)
  have hn := x1.2.1
  have hm := x2.2.1
  refine s_X11_cell (fun _ _ _ => ⟨fun z => ?_, fun z => ?_, fun z => ?_, fun z => ?_, fun z => ?_⟩)
  · refine c_X0_at (n := n) (c := o) ip_Cells_2 x1.1 x1.2.1 x1.2.2 (fun _ => hQ _ D (s_X12_cell (fun _ _ _ D1 e1 => ?_)))
    subst e1; subst z
    refine ⟨fun _ => ?_, fun y => absurd y (by decide), fun y => absurd y (by decide), fun y => absurd y (by decide), fun y => absurd y (by decide)⟩
    rw [a0]
    exact ⟨⟨by omega, by omega⟩, c_me (K := fun x D2 => g_r x → (A_el o n v = x → P D2) ∧ (¬ A_el o n v = x → False)) (D := g_up D 208 0 0) (W := o) (c := 6) (n0 := n) rfl (by omega) (fun i hi => by rw [e9]; exact a2 i hi) (fun _ => k0 _)⟩
  · refine c_X0_at (n := m) (c := w) ip_Cells_4 x2.1 x2.2.1 x2.2.2 (fun _ => hQ _ D (s_X12_cell (fun _ _ _ D1 e1 => ?_)))
    subst e1; subst z
    refine ⟨fun y => absurd y (by decide), fun _ => ?_, fun y => absurd y (by decide), fun y => absurd y (by decide), fun y => absurd y (by decide)⟩
    rw [a1]
    exact ⟨⟨by omega, by omega⟩, c_me (K := fun x D2 => g_r x → (A_el w m v = x → P D2) ∧ (¬ A_el w m v = x → False)) (D := g_up D 208 0 0) (W := w) (c := 46) (n0 := m) rfl (by omega) (fun i hi => by rw [e9]; exact a3 i hi) (fun _ => k0 _)⟩
  · refine c_el (W := fun i => D 209 (86 + i)) sh_8 (by omega) hc.xW.1 (fun _ => hQ _ D (s_X12_cell (fun _ _ _ D1 e1 => ?_)))
    subst e1; subst z
    refine ⟨fun y => absurd y (by decide), fun y => absurd y (by decide), fun _ => ?_, fun y => absurd y (by decide), fun y => absurd y (by decide)⟩
    exact c_me (K := fun x D2 => g_r x → (A_el (fun i => D 209 (86 + i)) 40 v = x → P D2) ∧ (¬ A_el (fun i => D 209 (86 + i)) 40 v = x → False)) (D := g_up D 208 0 0) (W := fun i => D 209 (86 + i)) (c := 86) (n0 := 40) rfl (by omega) (fun i hi => by rw [e9]) (fun _ => k0 _)
  · refine c_el (W := fun i => D 209 (126 + i)) sh_9 (by omega) (fun i hi => by have := hc.xW.2 i hi; dsimp only at this; rw [show 86 + (40 + i) = 126 + i by omega] at this; exact this) (fun _ => hQ _ D (s_X12_cell (fun _ _ _ D1 e1 => ?_)))
    subst e1; subst z
    refine ⟨fun y => absurd y (by decide), fun y => absurd y (by decide), fun y => absurd y (by decide), fun _ => ?_, fun y => absurd y (by decide)⟩
    exact c_me (K := fun x D2 => g_r x → (A_el (fun i => D 209 (126 + i)) 20 v = x → P D2) ∧ (¬ A_el (fun i => D 209 (126 + i)) 20 v = x → False)) (D := g_up D 208 0 0) (W := fun i => D 209 (126 + i)) (c := 126) (n0 := 20) rfl (by omega) (fun i hi => by rw [e9]) (fun _ => k0 _)
  · refine hQ _ D (s_X12_cell (fun _ _ _ D1 e1 => ?_))
    subst e1
    exact ⟨fun y => (by omega : False).elim, fun y => (by omega : False).elim, fun y => (by omega : False).elim, fun y => (by omega : False).elim, fun _ _ => k0 _⟩
end CA3
end