section
/-! the plan's own patch can be read, and is taken -/
theorem r_f_mk {b : Nat → Int} {N p : Nat} {lo hi : Int} (hp : p < N) (h : lo ≤ b p ∧ b p ≤ hi) : r_f b N p lo hi = 0 := by unfold r_f; rw [if_pos hp, if_pos h]
section CB1
variable {E : g_E} {l : Launch} {sh : List g_Sh} {D D1 D2 D3 D' Dm Dn : g_D} {o w b b' T W W' W0 M M' C : Nat → Int} {n m le B N na N' na' el sz s t S : Nat} {ch ru : Int} {c : Nat → Nat → Int} {p : m_P}
theorem pl_aL {i : Nat} (hi : m_inv n m S c) (hI : m_pI S c p) (h : i < p_n p) : 4 ≤ m_aL c p i := by
  obtain ⟨k1, k2, k3⟩ := hI.2.2.2.2.2.2.2.1 i h
  have := (hi.2.2.1 _ k1).2.2.2.1
  unfold m_aL
  split <;> omega
theorem pl_b {i j : Nat} (hi : m_inv n m S c) (hI : m_pI S c p) (h : i < p_n p) (hj : j < 4) : m_pBy c w m p (m_of c p i + j) = m_av c w p i j := m_pb_at (by have := pl_aL hi hI h; omega) h
theorem pl_b0 {i : Nat} (hi : m_inv n m S c) (hI : m_pI S c p) (h : i < p_n p) : m_pBy c w m p (m_of c p i) = (p_a p i : Nat) := by
  have := pl_b (w := w) (j := 0) hi hI h (by omega)
  rw [Nat.add_zero] at this
  rw [this]; unfold m_av; rw [if_pos rfl]
theorem pl_P (hi : m_inv n m S c) (hI : m_pI S c p) : ∀ i, i ≤ p_n p → r_P (m_pBy c w m p) i = m_of c p i
  | 0, _ => by rw [r_P, m_of]
  | i + 1, h => by
    have ih := pl_P hi hI i (by omega)
    have b0 := pl_b0 (w := w) hi hI (show i < p_n p by omega)
    have b2 := pl_b (w := w) (j := 2) hi hI (show i < p_n p by omega) (by omega)
    rw [r_P_S, ih, b0, b2, m_of]
    unfold m_aL
    by_cases e : p_a p i = 4
    · rw [if_pos e, if_pos (by omega)]
      unfold m_av
      rw [if_neg (by decide), if_neg (by omega), if_neg (by omega), if_neg (by omega), if_neg (by decide), if_pos rfl]
    · rw [if_neg e, if_neg (by omega)]
theorem pl_bd {i : Nat} (hi : m_inv n m S c) (hn : n ≤ 40) (hm : m ≤ 40) (hI : m_pI S c p) (h : i < p_n p) : r_bd (m_pBy c w m p) (m_pN c p) i = 0 := by
  have hP := pl_P (w := w) hi hI i (by omega)
  have b0 := pl_b0 (w := w) hi hI h
  have b1 := pl_b (w := w) (j := 1) hi hI h (by omega)
  have b2 := pl_b (w := w) (j := 2) hi hI h (by omega)
  have b3 := pl_b (w := w) (j := 3) hi hI h (by omega)
  have haL := pl_aL hi hI h
  have hlen : m_of c p i + m_aL c p i ≤ m_pN c p := by
    have : m_of c p (i + 1) ≤ m_of c p (p_n p) := m_of_mono (by omega)
    rw [m_of] at this
    exact this
  have hp30 := hI.2.2.2.2.2.2.1
  have hI2 := hI.2.1
  obtain ⟨k1, k2, k3⟩ := hI.2.2.2.2.2.2.2.1 i h
  obtain ⟨a1, a2, a3, a4, a5, a6, a7⟩ := hi.2.2.1 _ k1
  have hpa : 1 ≤ p_a p i ∧ p_a p i ≤ 4 := by omega
  unfold r_bd a_k
  rw [hP, b0, if_pos ⟨by omega, by omega⟩, if_neg (by omega)]
  have fin : r_f1 (m_pBy c w m p) (m_pN c p) (m_of c p i + 1) = 0 → r_f2 (m_pBy c w m p) (m_pN c p) (m_of c p i + 1) (p_a p i : Nat) = 0 → r_f3 (m_pBy c w m p) (m_pN c p) (m_of c p i + 1) (p_a p i : Nat) = 0 → r_fc (m_pBy c w m p) (m_pN c p) (m_of c p i + 1) (p_a p i : Nat) = 0 := fun h1 h2 h3 => by
    unfold r_fc
    rw [if_neg (fun q => q h1), if_neg (fun q => q h2)]; exact h3
  have e2 : m_of c p i + 1 + 1 = m_of c p i + 2 := rfl
  have e3 : m_of c p i + 1 + 2 = m_of c p i + 3 := rfl
  unfold m_av at b1 b2 b3
  rw [if_neg (by decide)] at b1 b2 b3
  have kind : p_a p i = 1 ∨ p_a p i = 2 ∨ p_a p i = 3 ∨ p_a p i = 4 := by omega
  rcases kind with e | e | e | e
  · have hv : p_v p (p_o p i) = true := by
      rcases k3 with ⟨_, q⟩ | ⟨q, _⟩ | q
      · exact q
      · omega
      · omega
    obtain ⟨v1, v2, v3⟩ := hI2 _ hv
    have a7' := a7 (by omega)
    rw [if_pos e] at b1 b2 b3
    rw [if_pos rfl] at b1
    rw [if_neg (by decide), if_pos rfl] at b2
    rw [if_neg (by decide), if_neg (by decide)] at b3
    refine fin (r_f_mk (by omega) (by rw [b1]; omega)) ?_ ?_
    · unfold r_f2; rw [e2]
      refine r_f_mk (by omega) ?_
      rw [b1, b2, e]; unfold r_lo2 r_hi2
      rw [if_pos (by decide), if_pos (by decide)]; omega
    · unfold r_f3; rw [e2, e3, e, if_neg (by decide)]
      refine r_f_mk (by omega) ?_
      rw [b1, b2, b3]; unfold r_lo3 r_hi3
      rw [if_pos (by decide), if_pos (by decide)]; omega
  · have hk : c (p_o p i) 0 = 1 := by
      rcases k3 with ⟨q, _⟩ | ⟨_, q⟩ | q
      · omega
      · exact q
      · omega
    have a7' := a7 (by omega)
    rw [if_neg (by omega), if_pos e] at b1 b2 b3
    rw [if_pos rfl] at b1
    rw [if_neg (by decide), if_pos rfl] at b2
    rw [if_neg (by decide), if_neg (by decide)] at b3
    refine fin (r_f_mk (by omega) (by rw [b1]; omega)) ?_ ?_
    · unfold r_f2; rw [e2]
      refine r_f_mk (by omega) ?_
      rw [b1, b2, e]; unfold r_lo2 r_hi2
      rw [if_neg (by decide), if_neg (by decide), if_pos (by decide)]; omega
    · unfold r_f3; rw [e2, e3, e, if_neg (by decide)]
      refine r_f_mk (by omega) ?_
      rw [b1, b2, b3]; unfold r_lo3 r_hi3
      rw [if_neg (by decide), if_neg (by decide), if_pos (by decide)]; omega
  · have hv : p_v p (p_o p i) = true := by
      rcases k3 with ⟨_, q⟩ | ⟨q, _⟩ | q
      · exact q
      · omega
      · omega
    obtain ⟨v1, v2, v3⟩ := hI2 _ hv
    have a7' := a7 (by omega)
    rw [if_neg (by omega), if_neg (by omega), if_pos e] at b1 b2 b3
    rw [if_pos rfl] at b1
    rw [if_neg (by decide), if_pos rfl] at b2
    rw [if_neg (by decide), if_neg (by decide)] at b3
    refine fin (r_f_mk (by omega) (by rw [b1]; omega)) ?_ ?_
    · unfold r_f2; rw [e2]
      refine r_f_mk (by omega) ?_
      rw [b1, b2, e]; unfold r_lo2 r_hi2
      rw [if_neg (by decide), if_neg (by decide), if_neg (by decide), if_pos (by decide)]; omega
    · unfold r_f3; rw [e2, e3, e, if_neg (by decide)]
      refine r_f_mk (by omega) ?_
      rw [b1, b2, b3]; unfold r_lo3 r_hi3
      rw [if_neg (by decide), if_neg (by decide), if_neg (by decide)]; omega
  · rw [if_neg (by omega), if_neg (by omega), if_neg (by omega)] at b1 b2
    rw [if_pos rfl] at b1
    rw [if_neg (by decide), if_pos rfl] at b2
    refine fin (r_f_mk (by omega) (by rw [b1]; omega)) ?_ ?_
    · unfold r_f2; rw [e2]
      refine r_f_mk (by omega) ?_
      rw [b1, b2, e]; unfold r_lo2 r_hi2
      rw [if_pos (by decide), if_neg (by decide), if_neg (by decide), if_neg (by decide)]; omega
    · unfold r_f3; rw [e2, e, if_pos (by decide), b2]
      unfold m_aL at hlen
      rw [if_pos e] at hlen
      rw [if_pos (by omega)]
theorem pl_go (hi : m_inv n m S c) (hn : n ≤ 40) (hm : m ≤ 40) (hI : m_pI S c p) : ∀ f i, i + f = 37 → i ≤ p_n p → r_go (m_pBy c w m p) (m_pN c p) f i = (p_n p, 0, -1)
  | 0, i, hf, h => by
    have hp30 := hI.2.2.2.2.2.2.1
    omega
  | f + 1, i, hf, h => by
    rw [r_go, pl_P hi hI i h]
    by_cases e : i = p_n p
    · have : m_pN c p ≤ m_of c p i := by rw [e]; exact Nat.le_refl _
      rw [if_pos this, e]
    · have haL := pl_aL hi hI (show i < p_n p by omega)
      have h1 : m_of c p (i + 1) ≤ m_of c p (p_n p) := m_of_mono (by omega)
      rw [m_of] at h1
      have h2 : ¬ m_pN c p ≤ m_of c p i := fun q => by
        have q : m_of c p (p_n p) ≤ m_of c p i := q
        omega
      rw [if_neg h2, if_neg (fun q => q (pl_bd hi hn hm hI (by omega)))]
      exact pl_go hi hn hm hI f (i + 1) (by omega) (by omega)
theorem pl_all (hi : m_inv n m S c) (hn : n ≤ 40) (hm : m ≤ 40) (hI : m_pI S c p) : r_all (m_pBy c w m p) (m_pN c p) = (p_n p, 0, -1) := by
  unfold r_all
  have h0 : r_f (m_pBy c w m p) (m_pN c p) 0 0 40 = 0 := by
    refine r_f_mk (Nat.lt_of_lt_of_le Nat.zero_lt_one (m_of_pos _)) ?_
    have : m_pBy c w m p 0 = m := m_pb_0 _
    rw [this]; omega
  rw [if_neg (fun q => q h0)]
  exact pl_go hi hn hm hI 37 0 rfl (Nat.zero_le _)
theorem pl_by (hi : m_inv n m S c) (hn : n ≤ 40) (hm : m ≤ 40) (hI : m_pI S c p) (hw : q_by w m) : ∀ i, i ≤ p_n p → ∀ x, x < m_of c p i → 0 ≤ m_pb c w (m : Nat) p i x ∧ m_pb c w (m : Nat) p i x ≤ 255
  | 0, _, x, hx => by rw [m_pb]; omega
  | i + 1, h, x, hx => by
    rw [m_pb]
    by_cases e : x < m_of c p i
    · rw [if_pos e]; exact pl_by hi hn hm hI hw i (by omega) x e
    · rw [if_neg e]
      obtain ⟨j, rfl⟩ : ∃ j, x = m_of c p i + j := ⟨x - m_of c p i, by omega⟩
      rw [m_of] at hx
      rw [Nat.add_sub_cancel_left]
      have hj : j < m_aL c p i := by omega
      have hI2 := hI.2.1
      obtain ⟨k1, k2, k3⟩ := hI.2.2.2.2.2.2.2.1 i (by omega)
      obtain ⟨a1, a2, a3, a4, a5, a6, a7⟩ := hi.2.2.1 _ k1
      have hph : (p_a p i = 1 ∨ p_a p i = 3) → p_h p (p_o p i) ≤ 20 ∧ ¬ c (p_o p i) 0 = 0 := fun q => by
        rcases k3 with ⟨_, z⟩ | ⟨z, _⟩ | z
        · obtain ⟨v1, v2, v3⟩ := hI2 _ z; exact ⟨by omega, by omega⟩
        · omega
        · omega
      have hp2 : p_a p i = 2 → ¬ c (p_o p i) 0 = 0 := fun q => by
        rcases k3 with ⟨z, _⟩ | ⟨_, z⟩ | z
        · omega
        · omega
        · omega
      unfold m_aL at hj
      unfold m_av
      by_cases j0 : j = 0
      · rw [if_pos j0]; omega
      · rw [if_neg j0]
        by_cases p1 : p_a p i = 1
        · rw [if_pos p1]
          have := hph (Or.inl p1)
          have := a7 this.2
          split
          · omega
          · split <;> omega
        · rw [if_neg p1]
          by_cases p2 : p_a p i = 2
          · rw [if_pos p2]
            have := a7 (hp2 p2)
            split
            · omega
            · split <;> omega
          · rw [if_neg p2]
            by_cases p3 : p_a p i = 3
            · rw [if_pos p3]
              have := hph (Or.inr p3)
              split
              · omega
              · split <;> omega
            · rw [if_neg p3]
              rw [if_pos (by omega)] at hj
              split
              · omega
              · split
                · omega
                · exact hw _ (by omega)
theorem l_X12_take {K : Int → g_D → Prop} (h27 : D 208 27 = N') (hN : N' ≤ 160) (hb : ∀ x, x < N' → D 231 x = b' x) (kk : ∀ D' : g_D, (∀ k, k ≠ 234 → D' k = D k) → (∀ x, x < N' → D' 234 x = b' x) → k_X12_readsPatch E l D' N' (fun D1 => k_X12_takesPatch E l D1 (fun x2 D2 => g_r x2 → K x2 D2))) :
    ∀ (q i : Nat) (D1 : g_D), N' - i = q → i ≤ N' → (∀ k, k ≠ 234 → D1 k = D k) → (∀ x, x < i → D1 234 x = b' x) → n_X12_take E l D1 25 [some (g_R 208), some (g_I i)] K := by
  intro q
  induction q with
  | zero =>
    intro i D1 hq hi f hy
    obtain rfl : i = N' := by omega
    have e27 : D1 208 27 = i := by rw [f 208 (by decide)]; exact h27
    refine s_X12_take_25 (fun _ _ => ⟨fun _ => ?_, fun w => (by omega : False).elim⟩)
    rw [e27]; exact kk D1 f hy
  | succ q ih =>
    intro i D1 hq hi f hy
    have e27 : D1 208 27 = N' := by rw [f 208 (by decide)]; exact h27
    refine s_X12_take_25 (fun _ _ => ⟨fun w => (by omega : False).elim, fun _ => ⟨by omega, by omega, fun D2 e2 => ⟨⟨by omega, by omega⟩, ?_⟩⟩⟩)
    rw [Int.toNat_natCast, f 231 (by decide), hb i (by omega)] at e2
    rw [g_cast1]
    refine ih (i + 1) D2 (by omega) (by omega) (fun k hk => by rw [e2, g_up_ne hk]; exact f k hk) (fun x hx => ?_)
    rw [e2]
    by_cases e : x = i
    · subst e; rw [g_up_eq]
    · rw [g_up_at e]; exact hy x (by omega)
theorem y_take {P : g_D → Prop} {Q : Int → g_D → Prop} (h : q_R D) (hP : ∀ D', q_R D' → P D') (hQ : ∀ (x1 : Int) (D1 : g_D), k_X12_take E l D1 (fun x2 D2 => g_r x2 → (x1 = x2 → P D2) ∧ (¬ x1 = x2 → False)) → Q x1 D1) : k_X11_take E l D Q := by
  obtain ⟨o, n, w, m, le, ch, ru, B, b, N, na, hc, ha⟩ := h
  have r0 : ∀ D2, m_fr D D2 → q_R D2 := fun D2 f2 => y_pa hc ha (fun _ _ => rfl) f2
  obtain ⟨p1, p2⟩ := hc.pow
  have tx := hc.xtx
  have hn := tx.1.2.1
  have hm := tx.2.1.2.1
  have hB : B ≤ 20 := tx.2.2.2.2.2.2.2.2.1
  have hw := hc.1.2.2.2.1
  refine s_X11_take (fun _ => ⟨fun z => ?_, fun z => hQ _ D (s_X12_take (fun _ D1 e1 => ?_))⟩)
  · obtain ⟨S, hS⟩ : ∃ S, (m_cs ch le o w n m).1 = S := ⟨_, rfl⟩
    obtain ⟨c, hC⟩ : ∃ c, (m_cs ch le o w n m).2 = c := ⟨_, rfl⟩
    have eC : m_cs ch le o w n m = (S, c) := by rw [← hS, ← hC]
    refine c_mp tx eC ha.2.1 (fun D1 f1 z1 ps => ?_)
    have hc1 : q_co D1 o n w m le ch ru B b N na := hc.fr (fun i a c => f1.1 i (by omega) (by omega)) (fun i a c => f1.1 i (by omega) (by omega)) (fun j _ => by rw [f1.1 208 (by decide) (by decide)])
    have ha1 : q_ca D1 o n w m le ch ru B b N na := ha.pln eC f1 ps
    have hi := ps.2.1
    have hI := (m_pl_ok (ru := ru) (hi.cok hm) hB).1
    obtain ⟨q1, q2⟩ := ps.2.2.2.2.2
    obtain ⟨p, hp⟩ : ∃ p, m_pl S c ru B = p := ⟨_, rfl⟩
    rw [hp] at hI q1 q2
    have hN : m_pN c p ≤ 160 := by have := (m_of_le (hi.cok hm) hI).1; unfold m_pN; omega
    have hR := pl_all (w := w) hi hn hm hI
    have hby : q_by (m_pBy c w m p) (m_pN c p) := fun x hx => pl_by hi hn hm hI hw (p_n p) (Nat.le_refl _) x hx
    obtain ⟨N', hN'⟩ : ∃ N', m_pN c p = N' := ⟨_, rfl⟩
    obtain ⟨b', hb'⟩ : ∃ b', m_pBy c w m p = b' := ⟨_, rfl⟩
    obtain ⟨na', hna'⟩ : ∃ na', p_n p = na' := ⟨_, rfl⟩
    have mb : ∀ {D' : g_D}, m_byD D' (m_pN c (m_pl S c ru B)) (m_pBy c w m (m_pl S c ru B)) → m_byD D' N' b' := fun h => by rw [hp, hN', hb'] at h; exact h
    rw [hN', hb'] at hR hby
    rw [hN'] at hN q1 q2
    rw [hb'] at q2
    rw [hna'] at hR
    obtain ⟨el, sz, hh⟩ := id hc1.2.2.1
    have q1 : D1 154 1 = N' := q1
    rw [q1]
    refine c_takePatch (b' := b') ip_Cells_154 (Or.inr rfl) hh hc1.dev ⟨⟨N', q1, Nat.le_refl _, hN⟩, q2⟩ hN (fun D2 f2 g20 g215 kp2 x2 b2 h12 h13 => ?_)
    have bW := hc1.byW
    refine c_mk1 (W0 := q_wc D1) (b' := b') (N' := N') (na' := na') g215 hN hR hby h12 h13 (fun i hi => by rw [← q_wc_at hi]; exact bW i hi) (fun i hi => by rw [b2.1 i hi, ← q_wc_at (by omega)]; exact x2.1 i hi) (fun i hi => by rw [b2.2.1 i hi, ← q_wc_at (by omega)]; exact x2.2 i hi) (fun D3 f3 g30 cr tr => ?_)
    rw [cr.1.1.1]
    refine hQ _ D3 (s_X12_take (fun _ D4 e4 => ?_))
    have f31 : ∀ i, i ≠ 0 → ¬ (7 ≤ i ∧ i ≤ 13) → ¬ (52 ≤ i ∧ i ≤ 133) → ¬ (175 ≤ i ∧ i ≤ 207) → D3 i = D1 i := fun i a c d e => by rw [f3 i a e]; exact f2 i a c d
    have e39 : D3 209 = D1 209 := f31 209 (by decide) (by decide) (by decide) (by decide)
    have e19 : D1 209 = D 209 := f1.1 209 (by decide) (by decide)
    have pw : D3 209 146 = 1 := by rw [e39, e19]; omega
    subst e4
    refine ⟨fun _ => ?_, fun y => by rw [pw] at y; exact absurd y (by decide)⟩
    have tx4 : m_tx (g_up D3 208 0 0) o n w m le ch ru B := hc.mtx.of9 (by rw [g_up_ne (by decide), e39, e19])
    refine c_la tx4 eC (fun D5 f5 _ _ _ _ by5 => ?_)
    have by5 := mb by5
    have f5' : ∀ k, k < 208 ∨ (209 ≤ k ∧ k ≤ 212) → D5 k = D3 k := fun k hk => by rw [f5.1 k (by omega) (by omega), g_up_ne (by omega)]
    have f58 : ∀ j, (j = 5 ∨ j = 40 ∨ j = 41) → D5 208 j = D3 208 j := fun j hj => by rw [f5.2 j (by omega) (by omega) (by omega), g_up_at (by omega)]
    refine l_X12_take by5.1 hN by5.2 (fun D6 f6 y6 => ?_) _ 0 D5 rfl (by omega) (fun _ _ => rfl) (fun x hx => absurd hx (Nat.not_lt_zero x))
    refine c_X12_readsPatch (b := b') hN y6 hby (fun D7 f7 g38 _ gok => ?_)
    have hR1 : (r_all b' N').1 = na' := by rw [hR]
    have hR2 : (r_all b' N').2.1 = 0 := by rw [hR]
    obtain ⟨g34, g35, grd⟩ := gok hR2
    rw [hR1] at g34 g35 grd
    have hA := r_all_A hN hR
    have f7' : ∀ k, k < 208 ∨ (209 ≤ k ∧ k ≤ 212) → D7 k = D3 k := fun k hk => by rw [f7.1 k (by omega) (by omega) (by omega), g_up_ne (by omega), f6 k (by omega)]; exact f5' k hk
    have f78 : ∀ j, (j = 5 ∨ j = 40 ∨ j = 41) → D7 208 j = D1 208 j := fun j hj => by rw [f7.2 j (by omega), g_up_at (by omega), f6 208 (by decide), f58 j hj, f31 208 (by decide) (by decide) (by decide) (by decide)]
    refine c_takesPatch (sz := sz) hA g34 g35 grd (by rw [f7' 209 (by decide), e39]; exact hh.2.2.2.2.1) hh.2.2.2.1 (fun Dn D8 nt m3 m38 m39 bm d3 _ _ => y_fin hP ?_)
    have e8 : ∀ k, k < 208 ∨ (210 ≤ k ∧ k ≤ 212) → k ≠ 210 → D8 k = D3 k := fun k hk a => by rw [m3 k hk, nt.1 k (by omega) a, f7' k (by omega)]
    have e88 : ∀ j, (j = 5 ∨ j = 40 ∨ j = 41) → D8 208 j = D1 208 j := fun j hj => by rw [m38 j (by omega), nt.1 208 (by decide) (by decide)]; exact f78 j hj
    refine q_tk (Dm := D7) (Dn := Dn) (D1 := D3) hc1 ha1 hh hN hR hby (by rw [← e39]; exact pw) (fun i a c d e g => f31 i a c e g) (fun j hj => by rw [g30 j hj]; exact g20 j hj) (kp2.fr (fun i a c => f3 i (by omega) (by omega))) (by unfold x_W at *; rw [f3 _ (by decide) (by decide), f3 _ (by decide) (by decide)]; exact x2) (by unfold q_bgD at *; rw [f3 7 (by decide) (by decide), f3 8 (by decide) (by decide), f3 9 (by decide) (by decide), f3 10 (by decide) (by decide), f3 11 (by decide) (by decide)]; exact b2) (by rw [f3 12 (by decide) (by decide)]; exact h12) (fun x hx => by rw [f3 13 (by decide) (by decide)]; exact h13 x hx) cr tr f7' nt m3 m39 bm d3 (hc1.2.1.fr ?_ ?_ (e88 5 (by decide)) ?_) (hc1.2.2.2.2.fr ?_ (e88 40 (by decide)) (e88 41 (by decide)))
    · rw [e8 45 (by decide) (by decide)]; exact f31 45 (by decide) (by decide) (by decide) (by decide)
    · rw [e8 46 (by decide) (by decide)]; exact f31 46 (by decide) (by decide) (by decide) (by decide)
    · rw [e8 212 (by decide) (by decide)]; exact f31 212 (by decide) (by decide) (by decide) (by decide)
    · rw [e8 47 (by decide) (by decide)]; exact f31 47 (by decide) (by decide) (by decide) (by decide)
  · subst e1
    exact ⟨fun y => absurd (p1.symm.trans z) y, fun _ _ => y_fin hP (r0 _ m_fr.up0)⟩
end CB1
end