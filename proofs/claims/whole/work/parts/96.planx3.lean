section
theorem m_any_congr {P Q : Nat → Bool} : ∀ {n : Nat}, (∀ i, i < n → P i = Q i) → m_any P n = m_any Q n
  | 0, _ => rfl
  | n + 1, h => by rw [m_any, m_any, m_any_congr (fun i hi => h i (by omega)), h n (by omega)]
theorem m_pk_S {s k B : Nat} {c : Nat → Nat → Int} {ru : Int} {p : m_P} : m_pk s c ru B p (k + 1) = if m_pR s c p k then (if m_rm p B (c k 3).toNat ≤ B ∧ ((m_pk s c ru B p k).1 = -1 ∨ m_sn s c ru p k (m_pk s c ru B p k).1.toNat = true) then (k : Int) else (m_pk s c ru B p k).1, if (m_pk s c ru B p k).2 = -1 ∨ c k 3 < c (m_pk s c ru B p k).2.toNat 3 then (k : Int) else (m_pk s c ru B p k).2) else m_pk s c ru B p k := rfl
section PLANX3
variable {E : g_E} {l : Launch} {sh : List g_Sh} {D : g_D} {s : Nat} {c : Nat → Nat → Int} {p : m_P}
theorem l_X4_break27 {K : g_D → Prop} {k r B x : Nat} {ru : Int} (hk : is_Plan g_SH k) (hr : is_Script g_SH r) (hkr : r + 11 < k) (hok : m_cok s c) (hB : B ≤ 20) (hc : x_cmd D r s c) (hn : x_nx D r s c) (h : x_plD D k s c p) (hI : m_pI s c p) (hR : ∃ k, k < s ∧ m_pR s c p k = true)
    (hx : x < 2 ^ 20) (hx2 : ∀ i, i < s → x.testBit i = m_pR s c p i)
    (kk : ∀ D' : g_D, x_fP k r D D' → x_plD D' k s c (m_brk s c ru B p) → K D') :
    ∀ (q b : Nat), s - b = q → b ≤ s → n_X4_breakRing E l D 27 [some (g_R k), some (g_R r), some (g_I ru), some (g_I B), some (g_I x), some (g_I (m_pk s c ru B p b).1), some (g_I (m_pk s c ru B p b).2), some (g_I b), none] K := by
  have hs := hok.1
  have h8 := hc.1
  intro q
  induction q with
  | zero =>
    intro b hq hb
    obtain rfl : b = s := by omega
    unfold m_brk at kk
    refine s_X4_breakRing_27 hk hr (fun _ _ _ _ _ _ _ => ⟨fun _ => ⟨fun e => ⟨fun e2 => ?_, fun e2 D1 e1 => ?_⟩, fun e => ?_⟩, fun q => (by omega : False).elim⟩)
    · rcases m_pk_2 (s := b) (c := c) (ru := ru) (B := B) (p := p) b with ⟨_, q⟩ | ⟨y, y1, y2, y3⟩
      · obtain ⟨y, y1, y2⟩ := hR
        rw [q y y1] at y2; cases y2
      · omega
    · rw [if_pos e] at kk
      rcases m_pk_2 (s := b) (c := c) (ru := ru) (B := B) (p := p) b with ⟨q, _⟩ | ⟨y, y1, y2, y3⟩
      · exact absurd q e2
      · rw [y2, Int.toNat_natCast] at kk
        obtain ⟨h5, h6, h7, h8, h9, h10, h11, hA, hH⟩ := h
        have hpt : m_bits (p_t p) 20 < 2 ^ 20 := m_b20 (Nat.le_refl _)
        have h2y : 2 ^ y < 2 ^ 20 := Nat.pow_lt_pow_right (by decide) (by omega)
        rw [y2, h9, g_shl1_n (by omega), g_or_n (m_lt20 hpt) (m_lt20 h2y), m_bits_set (by omega)] at e1
        refine kk D1 (by rw [e1]; exact (x_fP.refl k r D).up (by omega)) ⟨?_, ?_, ?_, ?_, ?_, ?_, ?_, fun i hi => ?_, fun i hi hv => ?_⟩
        · rw [e1, g_up_at (by decide)]; exact h5
        · rw [e1, g_up_at (by decide)]; exact h6
        · rw [e1, g_up_at (by decide)]; exact h7
        · rw [e1, g_up_at (by decide)]; exact h8
        · rw [e1, g_up_eq]; rfl
        · rw [e1, g_up_at (by decide)]; exact h10
        · rw [e1, g_up_at (by decide)]; exact h11
        · rw [e1]; simp (disch := omega) only [g_up_ne, ne_eq, not_false_eq_true]; exact hA i hi
        · rw [e1]; simp (disch := omega) only [g_up_ne, ne_eq, not_false_eq_true]; exact hH i hi hv
    · rw [if_neg e] at kk
      rcases m_pk_1 (s := b) (c := c) (ru := ru) (B := B) (p := p) b with q | ⟨y, y1, y2, y3, y4⟩
      · exact absurd q e
      · rw [y2, Int.toNat_natCast] at kk
        rw [y2]
        exact c_X4_saveCopy hk hr hkr hok hB hc h hI y1 (m_pR_oc y3).2.2.2.1 y4 kk
  | succ q ih =>
    intro b hq hb
    have ih' := ih (b + 1) (by omega) (by omega)
    rw [← g_cast1, m_pk_S] at ih'
    have hbs : b < s := by omega
    have hl1 := (hok.2.1 b hbs).2.2.1
    have hl2 := hok.len.le hbs
    have r4 : D (r + 4) b = (((c b 3).toNat : Nat) : Int) := by rw [(hc.2 b hbs).2.2.2]; omega
    have hlA : 1 ≤ (c b 3).toNat := by omega
    have hlB : (c b 3).toNat ≤ 40 := by omega
    clear hR
    have f1 := m_pk_1 (s := s) (c := c) (ru := ru) (B := B) (p := p) b
    have f2 := m_pk_2 (s := s) (c := c) (ru := ru) (B := B) (p := p) b
    have hd7 := h.2.2.1
    have hd10 := h.2.2.2.2.2.1
    revert ih' f1 f2
    generalize (m_pk s c ru B p b) = P
    obtain ⟨v5, v6⟩ := P
    dsimp only
    intro ih' f1 f2
    refine s_X4_breakRing_27 hk hr (fun _ _ _ _ _ _ _ => ⟨fun q => (by omega : False).elim, fun _ => c_hasBit (m_lt20 hx) (by omega) (fun _ => ?_)⟩)
    rw [hx2 b hbs]
    refine ⟨fun e => ?_, fun e => ?_⟩
    · rw [g_b_n0.mp e, if_pos rfl] at ih'
      dsimp only at ih'
      rw [Int.toNat_natCast, r4]
      have rest : ∀ v6' : Int, v6' = (if v6 = -1 ∨ c b 3 < c v6.toNat 3 then (b : Int) else v6) → k_X4_freePlace E l D k (((c b 3).toNat : Nat) : Int) B (fun x4 D4 => g_r x4 → (x4 = (-1) → (g_r ((b : Int) + 1)) ∧ (n_X4_breakRing E l D4 27 [some (g_R k), some (g_R r), some (g_I ru), some (g_I B), some (g_I x), some (g_I v5), some (g_I v6'), some (g_I ((b : Int) + 1)), none] K)) ∧ (¬ x4 = (-1) → (v5 = (-1) → (g_r ((b : Int) + 1)) ∧ (n_X4_breakRing E l D4 27 [some (g_R k), some (g_R r), some (g_I ru), some (g_I B), some (g_I x), some (g_I b), some (g_I v6'), some (g_I ((b : Int) + 1)), none] K)) ∧ (¬ v5 = (-1) → k_X4_isPreferred E l D4 k r ru b v5 (fun x5 D5 => g_r x5 → (x5 = 0 → (g_r ((b : Int) + 1)) ∧ (n_X4_breakRing E l D5 27 [some (g_R k), some (g_R r), some (g_I ru), some (g_I B), some (g_I x), some (g_I v5), some (g_I v6'), some (g_I ((b : Int) + 1)), none] K)) ∧ (¬ x5 = 0 → (g_r ((b : Int) + 1)) ∧ (n_X4_breakRing E l D5 27 [some (g_R k), some (g_R r), some (g_I ru), some (g_I B), some (g_I x), some (g_I b), some (g_I v6'), some (g_I ((b : Int) + 1)), none] K)))))) := by
        intro v6' e6
        rw [← e6] at ih'
        refine c_X4_freePlace (p := p) hk hB hlA hlB hd10 (fun q _ => ⟨fun _ => ⟨⟨by omega, by omega⟩, ?_⟩, fun w => absurd rfl w⟩) (fun q _ => ⟨fun w => (by omega : False).elim, fun _ => ⟨fun w => ⟨⟨by omega, by omega⟩, ?_⟩, fun w => ?_⟩⟩)
        · rw [if_neg (fun w => q w.1)] at ih'; exact ih'
        · rw [if_pos ⟨q, Or.inl w⟩] at ih'; exact ih'
        · rcases f1 with f | ⟨y, y1, y2, _⟩
          · exact absurd f w
          · subst y2
            rw [Int.toNat_natCast] at ih'
            refine c_X4_isPreferred (ru := ru) hk hr hs hbs (by omega) hc hn hd7 (fun _ => ⟨fun z => ⟨⟨by omega, by omega⟩, ?_⟩, fun z => ⟨⟨by omega, by omega⟩, ?_⟩⟩)
            · rw [if_neg (fun t => by
                rcases t.2 with t | t
                · exact w t
                · rw [g_b_0.mp z] at t; cases t)] at ih'
              exact ih'
            · rw [if_pos ⟨q, Or.inr (g_b_n0.mp z)⟩] at ih'
              exact ih'
      refine ⟨fun e6 => ⟨by omega, rest b (by rw [if_pos (Or.inl e6)])⟩, fun e6 => ?_⟩
      rcases f2 with f | ⟨y, y1, y2, _⟩
      · exact absurd f.1 e6
      · subst y2
        rw [Int.toNat_natCast] at rest ⊢
        clear f1
        rw [(hc.2 y (by omega)).2.2.2]
        exact ⟨by omega, by omega, fun w => ⟨by omega, rest y (by rw [if_neg (by omega)])⟩, fun w => ⟨by omega, rest b (by rw [if_pos (Or.inr (by omega))])⟩⟩
    · rw [g_b_0.mp e, if_neg Bool.false_ne_true] at ih'
      exact ⟨⟨by omega, by omega⟩, ih'⟩
theorem c_X4_breakRing {K : g_D → Prop} {k r B : Nat} {ru : Int} (hk : is_Plan g_SH k) (hr : is_Script g_SH r) (hkr : r + 11 < k) (hok : m_cok s c) (hB : B ≤ 20) (hc : x_cmd D r s c) (hn : x_nx D r s c) (h : x_plD D k s c p) (hI : m_pI s c p) (hR : ∃ k, k < s ∧ m_pR s c p k = true)
    (kk : ∀ D' : g_D, x_fP k r D D' → x_plD D' k s c (m_brk s c ru B p) → K D') : k_X4_breakRing E l D k r ru B K := by
  have hs := hok.1
  refine s_X4_breakRing hk hr (fun _ _ _ => c_X4_readers hk hr hs hc h (fun x hx hb _ => ?_))
  refine c_X6_members (s := s) (c := c) hr.rings hr.next (by omega) hs hx hn (fun D2 f2 _ => ?_)
  have f2' : x_fP k r D D2 := fun i _ a => f2 i (by omega)
  have h2 : x_plD D2 k s c p := by
    unfold x_plD x_plA x_plH at *
    rw [f2 k (by omega), f2 (k + 1) (by omega), f2 (k + 2) (by omega), f2 (k + 3) (by omega), f2 (k + 4) (by omega)]
    exact h
  refine l_X4_break27 hk hr hkr hok hB (f2'.cmd (by omega) hc) (f2'.nx (by omega) hn) h2 hI hR (m_b20 (Nat.le_refl _)) (fun i hi => ?_) (fun D' a b => kk D' (f2'.trans a) b) s 0 rfl (Nat.zero_le _)
  rw [m_bits_bit, decide_eq_true (show i < 20 by omega), Bool.true_and]
  unfold m_pR
  exact m_rgb_congr (fun j hj => by rw [hb j, decide_eq_true hj, Bool.true_and]) i
theorem m_und_bits (hs : s ≤ 20) (hI : m_pI s c p) : m_bits (p_d p) 20 = m_bits (fun i => decide (¬ c i 0 = 2)) s ↔ m_und s c p = false := by
  constructor
  · intro e
    cases h : m_und s c p
    · rfl
    · obtain ⟨i, i1, i2⟩ := m_any_iff.mp h
      unfold m_U at i2
      have e2 : (m_bits (p_d p) 20).testBit i = (m_bits (fun i => decide (¬ c i 0 = 2)) s).testBit i := by rw [e]
      rw [m_bits_bit, m_bits_bit, decide_eq_true (show i < 20 by omega), decide_eq_true i1] at e2
      rw [Bool.and_eq_true, Bool.not_eq_true', Bool.not_eq_true', decide_eq_false_iff_not] at i2
      rw [i2.2, decide_eq_true i2.1] at e2
      cases e2
  · intro h
    refine Nat.eq_of_testBit_eq (fun i => ?_)
    rw [m_bits_bit, m_bits_bit]
    by_cases q : i < s
    · rw [decide_eq_true q, decide_eq_true (show i < 20 by omega), Bool.true_and, Bool.true_and]
      have := m_any_no h i q
      unfold m_U at this
      by_cases q2 : c i 0 = 2
      · rw [decide_eq_false (show ¬ ¬ c i 0 = 2 from fun w => w q2)]
        cases e : p_d p i
        · rfl
        · exact absurd q2 (hI.1 i e).2
      · rw [decide_eq_true q2]
        rw [decide_eq_false q2] at this
        cases e : p_d p i
        · rw [e] at this; cases this
        · rfl
    · rw [decide_eq_false q, Bool.false_and]
      cases e : p_d p i
      · rw [Bool.and_false]
      · exact absurd (hI.1 i e).1 q
theorem c_X4_build {K : g_D → Prop} {k r B : Nat} {ru : Int} (hk : is_Plan g_SH k) (hr : is_Script g_SH r) (hkr : r + 11 < k) (hok : m_cok s c) (hB : B ≤ 20) (hc : x_cmd D r s c) (hn : x_nx D r s c)
    (kk : ∀ D' : g_D, x_fP k r D D' → x_plD D' k s c (m_pl s c ru B) → K D') : k_X4_build E l D k r ru B K := by
  have hs := hok.1
  have key : ∀ (f : Nat) (p : m_P) (D1 : g_D), f ≤ 40 → m_it s c ru B f p = m_pl s c ru B → m_pI s c p → x_plD D1 k s c p → x_fP k r D D1 → n_X4_build E l D1 44 [some (g_R k), some (g_R r), some (g_I ru), some (g_I B), some (g_I ((m_bits (fun i => decide (¬ c i 0 = 2)) s : Nat) : Int)), some (g_I ((40 - f : Nat) : Int)), none] K := by
    intro f
    induction f with
    | zero =>
      intro p D1 hf he hI hp hF
      rw [m_it] at he
      exact s_X4_build_44 hk hr (fun _ _ _ _ _ => ⟨fun _ => kk D1 hF (he ▸ hp), fun q => (by omega : False).elim⟩)
    | succ f ih =>
      intro p D1 hf he hI hp hF
      rw [m_it] at he
      have hc1 := hF.cmd (by omega) hc
      have hn1 := hF.nx (by omega) hn
      have hd7 := hp.2.2.1
      refine s_X4_build_44 hk hr (fun _ _ _ _ _ => ⟨fun q => (by omega : False).elim, fun _ => ⟨fun e => ?_, fun e => ?_⟩⟩)
      · rw [hd7] at e
        rw [(m_und_bits hs hI).mp (by omega), if_neg Bool.false_ne_true] at he
        exact kk D1 hF (he ▸ hp)
      · have hu : m_und s c p = true := by
          cases h : m_und s c p
          · rw [hd7, (m_und_bits hs hI).mpr h] at e; exact absurd rfl e
          · rfl
        rw [hu, if_pos rfl] at he
        obtain ⟨s1, s2⟩ := m_pI_stp (ru := ru) hok hB hI hu
        have hw : m_bits (fun i => decide (¬ c i 0 = 2)) s < 2 ^ 20 := m_b20 hs
        refine c_X4_blockedBits hk hr hs hc1 hn1 hp (fun x hx hb _ => ?_)
        rw [hd7, g_an (m_lt20 hw), g_an (m_lt20 (m_an_le hw))]
        have hbit : ∀ b, (m_an (m_an (m_bits (fun i => decide (¬ c i 0 = 2)) s) (m_bits (p_d p) 20)) x).testBit b = (decide (b < s) && m_fre s c p b) := by
          intro b
          rw [m_an_bit, m_an_bit, m_bits_bit, m_bits_bit, hb b]
          by_cases q : b < s
          · rw [decide_eq_true q, decide_eq_true (show b < 20 by omega)]
            unfold m_fre
            have e3 : m_any (fun a => m_oc c p a && m_ah c a b) s = m_any (fun a => m_ah c a b && m_op p a) s := m_any_congr (fun a ha => by
              unfold m_oc
              cases e4 : m_ah c a b
              · rw [Bool.and_false, Bool.false_and]
              · have : m_cp c a = true := by unfold m_ah at e4; rw [decide_eq_true_iff] at e4; unfold m_cp; exact decide_eq_true e4.2.1
                rw [this, Bool.and_true, Bool.true_and])
            rw [e3]
            by_cases q2 : c b 0 = 2
            · rw [decide_eq_false (show ¬ ¬ c b 0 = 2 from fun w => w q2), decide_eq_true q2]; rfl
            · rw [decide_eq_true q2, decide_eq_false q2]
              cases p_d p b <;> cases m_any (fun a => m_ah c a b && m_op p a) s <;> rfl
          · rw [decide_eq_false q]; simp
        have hcast : ((40 - (f + 1) : Nat) : Int) + 1 = ((40 - f : Nat) : Int) := by omega
        have hy : m_an (m_an (m_bits (fun i => decide (¬ c i 0 = 2)) s) (m_bits (p_d p) 20)) x < 2 ^ 20 := m_an_le (m_an_le hw)
        generalize m_an (m_an (m_bits (fun i => decide (¬ c i 0 = 2)) s) (m_bits (p_d p) 20)) x = y at hbit hy
        refine ⟨fun e0 => ?_, fun e0 => ?_⟩
        · have e0' : y = 0 := by omega
          subst e0'
          have hno : ∀ b, b < s → m_fre s c p b = false := fun b hb' => by
            have := hbit b
            rw [Nat.zero_testBit, decide_eq_true hb', Bool.true_and] at this
            exact this.symm
          have e1 : m_stp s c ru B p = m_brk s c ru B p := by unfold m_stp; rw [if_neg (by rw [m_lo_none hno]; exact Nat.lt_irrefl _)]
          rw [e1] at s1 he
          refine c_X4_breakRing (ru := ru) hk hr hkr hok hB hc1 hn1 hp hI (m_ring_ex hu hno) (fun D2 f2 p2 => ⟨⟨by omega, by omega⟩, ?_⟩)
          rw [hcast]
          exact ih _ D2 (by omega) he s1 p2 (hF.trans f2)
        · refine c_lowestBit hy (fun q => (by omega : False).elim) (fun t t1 t2 t3 _ => ?_)
          rw [hbit, Bool.and_eq_true, decide_eq_true_iff] at t1
          have e1 : m_lo (m_fre s c p) s = t := m_lo_eq t1.1 t1.2 (fun j hj => by
            have := t2 j hj
            rw [hbit, decide_eq_true (show j < s by omega), Bool.true_and] at this
            exact this)
          have e2 : m_stp s c ru B p = m_doe c p t := by unfold m_stp; rw [if_pos (by omega), e1]
          rw [e2] at s1 he
          refine c_X4_finish hk hr hkr hok hc1 hp hI t1.1 (m_fre_iff t1.2).1 (fun D2 f2 p2 => ⟨⟨by omega, by omega⟩, ?_⟩)
          rw [hcast]
          exact ih _ D2 (by omega) he s1 p2 (hF.trans f2)
  refine s_X4_build hk hr (fun _ _ _ D1 e1 D2 e2 D3 e3 D4 e4 D5 e5 D6 e6 D7 e7 => ?_)
  have f7 : x_fP k r D D7 := by rw [e7, e6, e5, e4, e3, e2, e1]; exact (((((((x_fP.refl k r D).up (by omega)).up (by omega)).up (by omega)).up (by omega)).up (by omega)).up (by omega)).up (by omega)
  refine c_X7_writers hr hs (f7.cmd (by omega) hc) (fun _ => ?_)
  have b0 : m_bits (fun _ : Nat => false) 20 = 0 := by decide
  refine key 40 m_p0 D7 (Nat.le_refl _) rfl (m_pI_0 hok) ⟨?_, ?_, ?_, ?_, ?_, ?_, ?_, fun i hi => absurd hi (Nat.not_lt_zero i), fun i hi hv => (by cases hv)⟩ f7
  · rw [e7, e6, e5, e4, e3, e2, e1]; simp (disch := omega) only [g_up_at, g_up_eq, ne_eq, not_false_eq_true]; rfl
  · rw [e7, e6, e5, e4, e3, e2]; simp (disch := omega) only [g_up_at, g_up_eq, ne_eq, not_false_eq_true]; rfl
  · rw [e7, e6, e5, e4, e3]; simp (disch := omega) only [g_up_at, g_up_eq, ne_eq, not_false_eq_true]; rw [show m_bits (p_d m_p0) 20 = 0 from b0]; rfl
  · rw [e7, e6, e5, e4]; simp (disch := omega) only [g_up_at, g_up_eq, ne_eq, not_false_eq_true]; rw [show m_bits (p_v m_p0) 20 = 0 from b0]; rfl
  · rw [e7, e6, e5]; simp (disch := omega) only [g_up_at, g_up_eq, ne_eq, not_false_eq_true]; rw [show m_bits (p_t m_p0) 20 = 0 from b0]; rfl
  · rw [e7, e6]; simp (disch := omega) only [g_up_at, g_up_eq, ne_eq, not_false_eq_true]; rw [show m_bits (p_k m_p0) 20 = 0 from b0]; rfl
  · rw [e7, g_up_eq]; rfl
end PLANX3
end
