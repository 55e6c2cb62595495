section
theorem m_cnt_set {f : Nat → Bool} {k n : Nat} (hk : k < n) (hf : f k = false) : m_cnt (b_set f k true) n = m_cnt f n + 1 := by
  rw [m_cnt_out (P := b_set f k true) hk b_set_eq]
  congr 1
  refine m_cnt_congr (fun i _ => ?_)
  by_cases e : i = k
  · subst e; rw [hf]; simp
  · rw [b_set_ne e, decide_eq_true e, Bool.and_true]
section PLANM2
variable {E : g_E} {l : Launch} {sh : List g_Sh} {D : g_D} {s : Nat} {c : Nat → Nat → Int} {p : m_P}
theorem c_X12_does {K : g_D → Prop} {k : Nat} (hc : m_cmd D s c) (hok : m_cok s c) (h : m_plD D s p) (hI : m_pI s c p) (hk : k < s) (h2 : ¬ c k 0 = 2)
    (kk : ∀ D' : g_D, m_fp D D' → m_plD D' s (m_doe c p k) → K D') : k_X12_does E l D k K := by
  obtain ⟨hB, hK, hH, hA, h28, h29, h30⟩ := h
  obtain ⟨b1, b2, b3⟩ := hB k hk
  have hs := hok.1
  have hn : p_n p ≤ 30 := by have := hI.2.2.2.2.2.2.1; omega
  have hlen := hok.len.le hk
  have hlen1 := (hok.2.1 k hk).2.2.1
  have main : ∀ (kd : Nat) (D1 : g_D), m_dk c p k = kd → D1 = g_up D 224 k 1 → k_X12_laysAct E l D1 kd k (fun D2 => (0 ≤ (k : Int) ∧ (k : Int) < 40) ∧ ((D2 225 k = 0 → K D2) ∧ (¬ D2 225 k = 0 → k_X12_marksStash E l D2 k 0 (fun D3 => K D3)))) := by
    intro kd D1 hkd e1
    refine c_X12_laysAct (n := p_n p) (by rw [e1, g_up_ne (by decide)]; exact hA.1) (by omega) (fun D2 e2 => ⟨by omega, fun q => ?_, fun q => ?_⟩)
    · have hv : p_v p k = false := by
        rw [e2, e1] at q
        simp (disch := omega) only [g_up_ne, ne_eq, not_false_eq_true] at q
        rw [b2] at q
        exact g_b_0.mp q
      refine kk D2 ?_ ⟨fun b hb => ?_, fun i hi => ?_, fun b hb hvb => ?_, ⟨?_, fun i hi => ?_⟩, ?_, ?_, ?_⟩
      · rw [e2, e1]
        exact ((((m_fp.refl D).up (by omega)).up (by omega)).up (by omega)).up (by omega)
      · obtain ⟨c1, c2, c3⟩ := hB b hb
        rw [e2, e1]
        simp (disch := omega) only [g_up_ne, ne_eq, not_false_eq_true]
        refine ⟨?_, c2, c3⟩
        show g_up D 224 k 1 224 b = g_b (b_set (p_d p) k true b)
        by_cases e : b = k
        · subst e; rw [g_up_eq, b_set_eq]; rfl
        · rw [g_up_at e, b_set_ne e]; exact c1
      · rw [e2, e1]
        simp (disch := omega) only [g_up_ne, ne_eq, not_false_eq_true]
        show D 227 i = g_b ((if p_v p k then b_reg (p_k p) (p_h p k) (c k 3).toNat false else p_k p) i)
        rw [hv, if_neg Bool.false_ne_true]
        exact hK i hi
      · rw [e2, e1]
        simp (disch := omega) only [g_up_ne, ne_eq, not_false_eq_true]
        exact hH b hb hvb
      · rw [e2, g_up_eq]; rfl
      · have hi : i < p_n p + 1 := hi
        rw [e2, e1]
        show _ = ((n_set (p_a p) (p_n p) (m_dk c p k) i : Nat) : Int) ∧ _ = ((n_set (p_o p) (p_n p) k i : Nat) : Int)
        by_cases e : i = p_n p
        · subst e
          rw [n_set_eq, n_set_eq, hkd]
          simp (disch := omega) only [g_up_ne, g_up_eq, ne_eq, not_false_eq_true, and_self]
        · rw [n_set_ne e, n_set_ne e]
          simp (disch := omega) only [g_up_ne, g_up_at, ne_eq, not_false_eq_true]
          exact hA.2 i (by omega)
      · rw [e2, e1]; simp (disch := omega) only [g_up_ne, g_up_at, ne_eq, not_false_eq_true]; exact h28
      · rw [e2, e1]; simp (disch := omega) only [g_up_ne, g_up_at, ne_eq, not_false_eq_true]; exact h29
      · rw [e2, e1]; simp (disch := omega) only [g_up_ne, g_up_at, ne_eq, not_false_eq_true]; exact h30
    · have hv : p_v p k = true := by
        rw [e2, e1] at q
        simp (disch := omega) only [g_up_ne, ne_eq, not_false_eq_true] at q
        rw [b2] at q
        exact g_b_n0.mp q
      obtain ⟨_, _, hh⟩ := hI.2.1 k hv
      refine c_X12_marksStash (v := false) (tk := p_k p) (a := p_h p k) (len := (c k 3).toNat) (mt := p_m p) (by omega) ?_ ?_ hh (fun i hi => ?_) ?_ hI.2.2.2.2.2.1 (fun D3 f1 f2 f3 f4 => kk D3 ?_ ⟨fun b hb => ?_, fun i hi => ?_, fun b hb hvb => ?_, ⟨?_, fun i hi => ?_⟩, ?_, ?_, ?_⟩)
      · rw [e2, e1]; simp (disch := omega) only [g_up_ne, ne_eq, not_false_eq_true]; rw [(hc.2 k hk).2.2.2]; omega
      · rw [e2, e1]; simp (disch := omega) only [g_up_ne, ne_eq, not_false_eq_true]; exact hH k hk hv
      · rw [e2, e1]; simp (disch := omega) only [g_up_ne, ne_eq, not_false_eq_true]; exact hK i hi
      · rw [e2, e1]; simp (disch := omega) only [g_up_ne, g_up_at, ne_eq, not_false_eq_true]; exact h30
      · have g : m_fp D D2 := by rw [e2, e1]; exact ((((m_fp.refl D).up (by omega)).up (by omega)).up (by omega)).up (by omega)
        exact g.trans ⟨fun i a b d => f1 i (by omega) a, fun j a b d e => f2 j e⟩
      · obtain ⟨c1, c2, c3⟩ := hB b hb
        rw [f1 224 (by decide) (by decide), f1 225 (by decide) (by decide), f1 226 (by decide) (by decide), e2, e1]
        simp (disch := omega) only [g_up_ne, ne_eq, not_false_eq_true]
        refine ⟨?_, c2, c3⟩
        show g_up D 224 k 1 224 b = g_b (b_set (p_d p) k true b)
        by_cases e : b = k
        · subst e; rw [g_up_eq, b_set_eq]; rfl
        · rw [g_up_at e, b_set_ne e]; exact c1
      · rw [f3 i hi]
        show _ = g_b ((if p_v p k then b_reg (p_k p) (p_h p k) (c k 3).toNat false else p_k p) i)
        rw [hv, if_pos rfl]
      · rw [f1 228 (by decide) (by decide), e2, e1]
        simp (disch := omega) only [g_up_ne, ne_eq, not_false_eq_true]
        exact hH b hb hvb
      · rw [f2 26 (by decide), e2, g_up_eq]; rfl
      · have hi : i < p_n p + 1 := hi
        rw [f1 229 (by decide) (by decide), f1 230 (by decide) (by decide), e2, e1]
        show _ = ((n_set (p_a p) (p_n p) (m_dk c p k) i : Nat) : Int) ∧ _ = ((n_set (p_o p) (p_n p) k i : Nat) : Int)
        by_cases e : i = p_n p
        · subst e
          rw [n_set_eq, n_set_eq, hkd]
          simp (disch := omega) only [g_up_ne, g_up_eq, ne_eq, not_false_eq_true, and_self]
        · rw [n_set_ne e, n_set_ne e]
          simp (disch := omega) only [g_up_ne, g_up_at, ne_eq, not_false_eq_true]
          exact hA.2 i (by omega)
      · rw [f2 28 (by decide), e2, e1]; simp (disch := omega) only [g_up_ne, g_up_at, ne_eq, not_false_eq_true]; exact h28
      · rw [f2 29 (by decide), e2, e1]; simp (disch := omega) only [g_up_ne, g_up_at, ne_eq, not_false_eq_true]; exact h29
      · rw [f4]
        show _ = ((p_m p : Nat) : Int)
        have : m_cnt (b_reg (p_k p) (p_h p k) (c k 3).toNat false) 20 ≤ m_cnt (p_k p) 20 := m_cnt_mono (fun i hi q => by
          unfold b_reg at q
          split at q
          · cases q
          · exact q)
        have := hI.2.2.2.2.1
        rw [Nat.max_eq_left (by omega)]
  refine s_X12_does (fun _ _ => ⟨by omega, fun D1 e1 => ⟨by omega, ?_⟩⟩)
  rw [Int.toNat_natCast] at e1 ⊢
  rw [b2, b3, (hc.2 k hk).1]
  refine ⟨fun q => ⟨by omega, fun q2 => ?_, fun q2 => ⟨by omega, fun q3 => ?_, fun q3 => ?_⟩⟩, fun q => ?_⟩
  · exact main 4 D1 (by unfold m_dk; rw [g_b_0.mp q, if_neg Bool.false_ne_true, if_neg (by omega)]) e1
  · exact main 4 D1 (by unfold m_dk; rw [g_b_0.mp q, if_neg Bool.false_ne_true, if_neg (by rw [g_b_n0.mp q3]; exact fun q => by cases q.2)]) e1
  · exact main 2 D1 (by unfold m_dk; rw [g_b_0.mp q, if_neg Bool.false_ne_true, if_pos ⟨q2, g_b_0.mp q3⟩]) e1
  · exact main 3 D1 (by unfold m_dk; rw [g_b_n0.mp q, if_pos rfl]) e1
theorem l_X12_break2 {K : g_D → Prop} {D0 : g_D} (hs : s ≤ 20) (hc : m_cmd D0 s c) (hB : m_plB D0 s p)
    (kk : ∀ D' : g_D, (∀ i, i ≠ 222 → D' i = D0 i) → m_alD D' s (m_oc c p) → n_X12_breaksRing E l D' 51 [some (g_R 208), some (g_I (-1)), some (g_I (-1)), some (g_I 0)] K) :
    ∀ (q a : Nat) (D : g_D), s - a = q → a ≤ s → (∀ i, i ≠ 222 → D i = D0 i) → (∀ i, i < a → D 222 i = g_b (m_oc c p i)) → n_X12_breaksRing E l D 2 [some (g_R 208), some (g_I a), none, none] K := by
  intro q
  induction q with
  | zero =>
    intro a D hq ha hf hv
    obtain rfl : a = s := by omega
    have h1 : D 208 14 = a := by rw [hf 208 (by decide)]; exact hc.1
    exact s_X12_breaksRing_2 (fun _ _ => ⟨fun _ => kk D hf hv, fun h => (by omega : False).elim⟩)
  | succ q ih =>
    intro a D hq ha hf hv
    have h1 : D 208 14 = s := by rw [hf 208 (by decide)]; exact hc.1
    have hB1 : m_plB D s p := by unfold m_plB at *; rw [hf 224 (by decide), hf 225 (by decide), hf 226 (by decide)]; exact hB
    have put : ∀ (b : Bool) (v : Int) (D1 : g_D), m_oc c p a = b → v = g_b b → D1 = g_up D 222 a v → n_X12_breaksRing E l D1 2 [some (g_R 208), some (g_I ((a : Int) + 1)), none, none] K := by
      intro b v D1 hb hvb hD1
      rw [g_cast1]
      refine ih (a + 1) D1 (by omega) (by omega) (fun i hi => by rw [hD1, g_up_ne hi]; exact hf i hi) (fun i hi => ?_)
      rw [hD1]
      by_cases e : i = a
      · rw [e, g_up_eq, hb, hvb]
      · rw [g_up_at e]; exact hv i (by omega)
    refine s_X12_breaksRing_2 (fun _ _ => ⟨fun h => (by omega : False).elim, fun _ => ⟨by omega, ?_⟩⟩)
    rw [Int.toNat_natCast, hf 216 (by decide), (hc.2 a (by omega)).1]
    refine ⟨fun h => ⟨by omega, fun D1 hD1 => ⟨⟨by omega, by omega⟩, put false 0 D1 ?_ rfl hD1⟩⟩, fun h => c_X12_isOpen hs (by omega) hB1 (fun _ => ⟨fun h2 => ⟨by omega, fun D1 hD1 => ⟨⟨by omega, by omega⟩, put false 0 D1 ?_ rfl hD1⟩⟩, fun h2 => ⟨by omega, fun D1 hD1 => ⟨⟨by omega, by omega⟩, put true 1 D1 ?_ rfl hD1⟩⟩⟩)⟩
    · unfold m_oc m_cp; rw [decide_eq_false h]; rfl
    · unfold m_oc; rw [g_b_0.mp h2, Bool.and_false]
    · unfold m_oc m_cp; rw [g_b_n0.mp h2, decide_eq_true h]; rfl
theorem l_X12_break51 {K : g_D → Prop} {D0 : g_D} {B : Nat} {ru : Int} (hok : m_cok s c) (hB : B ≤ 20) (h5 : D0 209 5 = B) (h4 : D0 209 4 = ru) (hc : m_cmd D0 s c) (hA : m_ahd D0 s c) (h : m_plD D0 s p) (hI : m_pI s c p) (hal : m_alD D0 s (m_oc c p)) (hR : ∃ k, k < s ∧ m_pR s c p k = true)
    (kk : ∀ D' : g_D, m_fp D0 D' → m_plD D' s (m_brk s c ru B p) → K D') :
    ∀ (q k : Nat) (D : g_D), s - k = q → k ≤ s → (∀ i, i ≠ 221 → D i = D0 i) → n_X12_breaksRing E l D 51 [some (g_R 208), some (g_I (m_pk s c ru B p k).1), some (g_I (m_pk s c ru B p k).2), some (g_I k)] K := by
  have hs := hok.1
  intro q
  induction q with
  | zero =>
    intro k D hq hk hf
    obtain rfl : k = s := by omega
    have hc1 : m_cmd D k c := by unfold m_cmd at *; rw [hf 208 (by decide), hf 216 (by decide), hf 217 (by decide), hf 218 (by decide), hf 219 (by decide)]; exact hc
    have hp1 : m_plD D k p := h.same (fun i hi => hf i (by omega)) (hf 208 (by decide))
    have fp1 : m_fp D0 D := ⟨fun i a b d => hf i (by omega), fun j _ _ _ _ => by rw [hf 208 (by decide)]⟩
    have h51 : D 209 5 = B := by rw [hf 209 (by decide)]; exact h5
    obtain ⟨pB, pK, pH, pA, p28, p29, p30⟩ := hp1
    unfold m_brk at kk
    have hn : p_n p ≤ 30 := by have := hI.2.2.2.2.2.2.1; omega
    refine s_X12_breaksRing_51 (fun _ _ _ _ => ⟨fun _ => ⟨fun e => ?_, fun e => ?_⟩, fun q => by have := hc1.1; omega⟩)
    · rw [if_neg e] at kk
      rcases m_pk_1 (s := k) (c := c) (ru := ru) (B := B) (p := p) k with q | ⟨y, y1, y2, y3, y4⟩
      · exact absurd q e
      · rw [y2, Int.toNat_natCast] at kk
        rw [y2]
        obtain ⟨a1, a2, a3, a4, a5⟩ := m_pR_oc y3
        have hl1 := (hok.2.1 y y1).2.2.1
        have hl2 := hok.len.le y1
        have hrm := (m_rm_le y4).1
        refine ⟨by omega, ?_⟩
        rw [Int.toNat_natCast, (hc1.2 y y1).2.2.2, show c y 3 = (((c y 3).toNat : Nat) : Int) by omega]
        have hcnt := m_cnt_le (P := p_v p) k
        refine c_X12_roomFor hB (by omega) (by omega) h51 pK (fun q => absurd y4 q) (fun _ _ => ⟨by omega, fun D2 e2 => ⟨by omega, fun D3 e3 => ⟨by rw [p28]; exact ⟨by omega, by omega⟩, fun D4 e4 => ?_⟩⟩⟩)
        rw [p28] at e4
        have f4 : m_fp D0 D4 := by rw [e4, e3, e2]; exact ((fp1.up (by omega)).up (by omega)).up (by omega)
        refine c_X12_marksStash (v := true) (tk := p_k p) (a := m_rm p B (c y 3).toNat) (len := (c y 3).toNat) (mt := p_m p) (by omega) ?_ ?_ (by omega) (fun i hi => ?_) ?_ hI.2.2.2.2.2.1 (fun D5 g1 g2 g3 g4 => c_X12_laysAct (n := p_n p) ?_ (by omega) (fun D6 e6 => kk D6 ?_ ⟨fun b hb => ?_, fun i hi => ?_, fun b hb hvb => ?_, ⟨?_, fun i hi => ?_⟩, ?_, ?_, ?_⟩))
        · rw [e4, e3, e2]; simp (disch := omega) only [g_up_ne, ne_eq, not_false_eq_true]; rw [(hc1.2 y y1).2.2.2]; omega
        · rw [e4, e3, e2]; simp (disch := omega) only [g_up_ne, g_up_eq, ne_eq, not_false_eq_true]
        · rw [e4, e3, e2]; simp (disch := omega) only [g_up_ne, ne_eq, not_false_eq_true]; exact pK i hi
        · rw [e4, e3, e2]; simp (disch := omega) only [g_up_ne, g_up_at, ne_eq, not_false_eq_true]; exact p30
        · rw [g2 26 (by decide), e4, e3, e2]; simp (disch := omega) only [g_up_ne, g_up_at, ne_eq, not_false_eq_true]; exact pA.1
        · have f5 : m_fp D0 D5 := f4.trans ⟨fun i a b d => g1 i (by omega) a, fun j a b d e => g2 j e⟩
          rw [e6]; exact ((f5.up (by omega)).up (by omega)).up (by omega)
        · obtain ⟨c1, c2, c3⟩ := pB b hb
          rw [e6]
          simp (disch := omega) only [g_up_ne, ne_eq, not_false_eq_true]
          rw [g1 224 (by decide) (by decide), g1 225 (by decide) (by decide), g1 226 (by decide) (by decide), e4, e3, e2]
          simp (disch := omega) only [g_up_ne, ne_eq, not_false_eq_true]
          refine ⟨c1, ?_, c3⟩
          show _ = g_b (b_set (p_v p) y true b)
          by_cases e : b = y
          · subst e; rw [g_up_eq, b_set_eq]; rfl
          · rw [g_up_at e, b_set_ne e, g_up_ne (by decide)]; exact c2
        · rw [e6]
          simp (disch := omega) only [g_up_ne, ne_eq, not_false_eq_true]
          exact g3 i hi
        · have hvb : b_set (p_v p) y true b = true := hvb
          rw [e6]
          simp (disch := omega) only [g_up_ne, ne_eq, not_false_eq_true]
          rw [g1 228 (by decide) (by decide), e4, e3, e2]
          simp (disch := omega) only [g_up_ne, ne_eq, not_false_eq_true]
          show _ = ((n_set (p_h p) y (m_rm p B (c y 3).toNat) b : Nat) : Int)
          by_cases e : b = y
          · subst e; rw [g_up_eq, n_set_eq]
          · rw [g_up_at e, n_set_ne e]; rw [b_set_ne e] at hvb; exact pH b hb hvb
        · rw [e6, g_up_eq]; rfl
        · have hi : i < p_n p + 1 := hi
          rw [e6]
          show _ = ((n_set (p_a p) (p_n p) 1 i : Nat) : Int) ∧ _ = ((n_set (p_o p) (p_n p) y i : Nat) : Int)
          by_cases e : i = p_n p
          · subst e
            rw [n_set_eq, n_set_eq]
            simp (disch := omega) only [g_up_ne, g_up_eq, ne_eq, not_false_eq_true, and_true]
            rfl
          · rw [n_set_ne e, n_set_ne e]
            simp (disch := omega) only [g_up_ne, g_up_at, ne_eq, not_false_eq_true]
            rw [g1 229 (by decide) (by decide), g1 230 (by decide) (by decide), e4, e3, e2]
            simp (disch := omega) only [g_up_ne, g_up_at, ne_eq, not_false_eq_true]
            exact pA.2 i (by omega)
        · rw [e6, g_up_at (by decide)]
          simp (disch := omega) only [g_up_ne, ne_eq, not_false_eq_true]
          rw [g2 28 (by decide), e4, g_up_eq]
          show _ = ((m_cnt (b_set (p_v p) y true) k : Nat) : Int)
          rw [m_cnt_set y1 a4]; rfl
        · rw [e6, g_up_at (by decide)]
          simp (disch := omega) only [g_up_ne, ne_eq, not_false_eq_true]
          rw [g2 29 (by decide), e4, e3, e2]
          simp (disch := omega) only [g_up_ne, g_up_at, ne_eq, not_false_eq_true]
          exact p29
        · rw [e6, g_up_at (by decide)]
          simp (disch := omega) only [g_up_ne, ne_eq, not_false_eq_true]
          exact g4
    · rw [if_pos e] at kk
      rcases m_pk_2 (s := k) (c := c) (ru := ru) (B := B) (p := p) k with q | ⟨y, y1, y2, y3⟩
      · obtain ⟨z, z1, z2⟩ := hR
        rw [q.2 z z1] at z2; cases z2
      · rw [y2, Int.toNat_natCast] at kk
        rw [y2]
        obtain ⟨a1, a2, a3, a4, a5⟩ := m_pR_oc y3
        have hcnt := m_cnt_le (P := p_t p) k
        refine ⟨by omega, fun D7 e7 => ⟨by rw [p29]; exact ⟨by omega, by omega⟩, fun D8 e8 => kk D8 ?_ ⟨fun b hb => ?_, fun i hi => ?_, fun b hb hvb => ?_, ⟨?_, fun i hi => ?_⟩, ?_, ?_, ?_⟩⟩⟩
        all_goals rw [Int.toNat_natCast] at e7
        all_goals rw [p29] at e8
        · rw [e8, e7]; exact (fp1.up (by omega)).up (by omega)
        · obtain ⟨c1, c2, c3⟩ := pB b hb
          rw [e8, e7]
          simp (disch := omega) only [g_up_ne, ne_eq, not_false_eq_true]
          refine ⟨c1, c2, ?_⟩
          show _ = g_b (b_set (p_t p) y true b)
          by_cases e : b = y
          · subst e; rw [g_up_eq, b_set_eq]; rfl
          · rw [g_up_at e, b_set_ne e]; exact c3
        · rw [e8, e7]; simp (disch := omega) only [g_up_ne, ne_eq, not_false_eq_true]; exact pK i hi
        · rw [e8, e7]; simp (disch := omega) only [g_up_ne, ne_eq, not_false_eq_true]; exact pH b hb hvb
        · rw [e8, e7]; simp (disch := omega) only [g_up_ne, g_up_at, ne_eq, not_false_eq_true]; exact pA.1
        · rw [e8, e7]; simp (disch := omega) only [g_up_ne, ne_eq, not_false_eq_true]; exact pA.2 i hi
        · rw [e8, e7]; simp (disch := omega) only [g_up_ne, g_up_at, ne_eq, not_false_eq_true]; exact p28
        · rw [e8, g_up_eq]
          show _ = ((m_cnt (b_set (p_t p) y true) k : Nat) : Int)
          rw [m_cnt_set y1 a5]; rfl
        · rw [e8, e7]; simp (disch := omega) only [g_up_ne, g_up_at, ne_eq, not_false_eq_true]; exact p30
  | succ q ih =>
    intro k D hq hk hf
    have hk' : k < s := by omega
    have hq' : s - (k + 1) = q := by omega
    have hc1 : m_cmd D s c := by unfold m_cmd at *; rw [hf 208 (by decide), hf 216 (by decide), hf 217 (by decide), hf 218 (by decide), hf 219 (by decide)]; exact hc
    have hA1 : m_ahd D s c := by unfold m_ahd; rw [hf 220 (by decide)]; exact hA
    have hal1 : m_alD D s (m_oc c p) := by unfold m_alD; rw [hf 222 (by decide)]; exact hal
    have p1 := m_pk_1 (s := s) (c := c) (ru := ru) (B := B) (p := p) k
    have p2 := m_pk_2 (s := s) (c := c) (ru := ru) (B := B) (p := p) k
    have eS : m_pk s c ru B p (k + 1) = if m_pR s c p k then (if m_rm p B (c k 3).toNat ≤ B ∧ ((m_pk s c ru B p k).1 = -1 ∨ m_sn s c ru p k (m_pk s c ru B p k).1.toNat = true) then (k : Int) else (m_pk s c ru B p k).1, if (m_pk s c ru B p k).2 = -1 ∨ c k 3 < c (m_pk s c ru B p k).2.toNat 3 then (k : Int) else (m_pk s c ru B p k).2) else m_pk s c ru B p k := rfl
    have h14 := hc1.1
    refine s_X12_breaksRing_51 (fun _ _ _ _ => ⟨fun q => by omega, fun _ => c_X12_isRinged hs hk' hc1.1 hA1 hal1 (fun D9 f9 _ => ?_)⟩)
    have hf9 : ∀ i, i ≠ 221 → D9 i = D0 i := fun i hi => by rw [f9 i hi]; exact hf i hi
    have ih' := ih (k + 1) D9 hq' hk' hf9
    rw [eS, ← g_cast1] at ih'
    show _ → (¬ g_b (m_pR s c p k) = 0 → _) ∧ (g_b (m_pR s c p k) = 0 → _)
    have hl1 := (hok.2.1 k hk').2.2.1
    have hl2 := hok.len.le hk'
    have hc9 : m_cmd D9 s c := by unfold m_cmd at *; rw [hf9 208 (by decide), hf9 216 (by decide), hf9 217 (by decide), hf9 218 (by decide), hf9 219 (by decide)]; exact hc
    have hA9 : m_ahd D9 s c := by unfold m_ahd; rw [hf9 220 (by decide)]; exact hA
    have hp9 : m_plD D9 s p := h.same (fun i hi => hf9 i (by omega)) (hf9 208 (by decide))
    have h59 : D9 209 5 = B := by rw [hf9 209 (by decide)]; exact h5
    have h49 : D9 209 4 = ru := by rw [hf9 209 (by decide)]; exact h4
    generalize hq1 : (m_pk s c ru B p k).1 = q1 at *
    generalize hq2 : (m_pk s c ru B p k).2 = q2 at *
    refine fun _ => ⟨fun hr => ?_, fun hr => ⟨⟨by omega, by omega⟩, ?_⟩⟩
    · rw [if_pos (g_b_n0.mp hr)] at ih'
      have room : ∀ w2 : Int, w2 = (if q2 = -1 ∨ c k 3 < c q2.toNat 3 then (k : Int) else q2) → k_X12_roomFor E l D9 (D9 219 k) (fun x10 D10 => g_r x10 → (x10 = (-1) → (g_r ((k : Int) + 1)) ∧ (n_X12_breaksRing E l D10 51 [some (g_R 208), some (g_I q1), some (g_I w2), some (g_I ((k : Int) + 1))] K)) ∧ (¬ x10 = (-1) → (q1 = (-1) → (g_r ((k : Int) + 1)) ∧ (n_X12_breaksRing E l D10 51 [some (g_R 208), some (g_I k), some (g_I w2), some (g_I ((k : Int) + 1))] K)) ∧ (¬ q1 = (-1) → k_X12_isSooner E l D10 k q1 (fun x11 D11 => g_r x11 → (x11 = 0 → (g_r ((k : Int) + 1)) ∧ (n_X12_breaksRing E l D11 51 [some (g_R 208), some (g_I q1), some (g_I w2), some (g_I ((k : Int) + 1))] K)) ∧ (¬ x11 = 0 → (g_r ((k : Int) + 1)) ∧ (n_X12_breaksRing E l D11 51 [some (g_R 208), some (g_I k), some (g_I w2), some (g_I ((k : Int) + 1))] K)))))) := by
        intro w2 hw2
        rw [hw2, (hc9.2 k hk').2.2.2, show c k 3 = (((c k 3).toNat : Nat) : Int) by omega]
        dsimp only at ih'
        refine c_X12_roomFor hB (by omega) (by omega) h59 hp9.2.1 (fun q _ => ⟨fun _ => ⟨⟨by omega, by omega⟩, ?_⟩, fun q2 => absurd rfl q2⟩) (fun q _ => ⟨fun q2 => by omega, fun _ => ⟨fun q3 => ⟨⟨by omega, by omega⟩, ?_⟩, fun q3 => ?_⟩⟩)
        · rw [if_neg (fun x => q x.1)] at ih'
          rw [show (((c k 3).toNat : Nat) : Int) = c k 3 by omega]; exact ih'
        · rw [if_pos ⟨q, Or.inl q3⟩] at ih'
          rw [show (((c k 3).toNat : Nat) : Int) = c k 3 by omega]; exact ih'
        · rcases p1 with e | ⟨y, y1, y2, _⟩
          · exact absurd e q3
          · rw [y2] at ih' ⊢
            rw [Int.toNat_natCast] at ih'
            refine c_X12_isSooner hs hk' (by omega) h49 hc9 hA9 hp9.1 (fun _ => ⟨fun q4 => ⟨⟨by omega, by omega⟩, ?_⟩, fun q4 => ⟨⟨by omega, by omega⟩, ?_⟩⟩)
            · rw [if_neg (fun x => x.2.elim (by omega) (fun x => by rw [g_b_0.mp q4] at x; cases x))] at ih'
              rw [show (((c k 3).toNat : Nat) : Int) = c k 3 by omega]; exact ih'
            · rw [if_pos ⟨q, Or.inr (g_b_n0.mp q4)⟩] at ih'
              rw [show (((c k 3).toNat : Nat) : Int) = c k 3 by omega]; exact ih'
      rw [Int.toNat_natCast]
      refine ⟨fun e => ⟨by omega, room k (by rw [if_pos (Or.inl e)])⟩, fun e => ?_⟩
      rcases p2 with e2 | ⟨y, y1, y2, _⟩
      · exact absurd e2.1 e
      · rw [y2] at room ⊢
        rw [Int.toNat_natCast] at room ⊢
        refine ⟨by omega, by omega, fun e3 => ⟨by omega, room _ ?_⟩, fun e3 => ⟨by omega, room _ ?_⟩⟩
        · rw [(hc9.2 k hk').2.2.2, (hc9.2 y (by omega)).2.2.2] at e3
          rw [if_neg (by omega)]
        · rw [(hc9.2 k hk').2.2.2, (hc9.2 y (by omega)).2.2.2] at e3
          rw [if_pos (by omega)]
    · rw [g_b_0.mp hr, if_neg Bool.false_ne_true, hq1, hq2] at ih'
      exact ih'
theorem c_X12_breaksRing {K : g_D → Prop} {B : Nat} {ru : Int} (hok : m_cok s c) (hB : B ≤ 20) (h5 : D 209 5 = B) (h4 : D 209 4 = ru) (hc : m_cmd D s c) (hA : m_ahd D s c) (h : m_plD D s p) (hI : m_pI s c p) (hR : ∃ k, k < s ∧ m_pR s c p k = true)
    (kk : ∀ D' : g_D, m_fp D D' → m_plD D' s (m_brk s c ru B p) → K D') : k_X12_breaksRing E l D K := by
  refine s_X12_breaksRing (fun _ => l_X12_break2 hok.1 hc h.1 (fun D1 f1 h1 => ?_) s 0 D rfl (Nat.zero_le _) (fun _ _ => rfl) (fun i hi => absurd hi (Nat.not_lt_zero i)))
  have fp1 : m_fp D D1 := ⟨fun i a b d => f1 i (by omega), fun j _ _ _ _ => by rw [f1 208 (by decide)]⟩
  exact l_X12_break51 hok hB (by rw [fp1.r209]; exact h5) (by rw [fp1.r209]; exact h4) (fp1.cmd hc) (fp1.ahd hA) (h.same (fun i hi => f1 i (by omega)) (f1 208 (by decide))) hI h1 hR (fun D' a b => kk D' (fp1.trans a) b) s 0 D1 rfl (Nat.zero_le _) (fun _ _ => rfl)
theorem l_X12_plan80 {K : g_D → Prop} {D0 : g_D} {B : Nat} {ru : Int} (hok : m_cok s c) (hB : B ≤ 20) (h5 : D0 209 5 = B) (h4 : D0 209 4 = ru) (hc : m_cmd D0 s c) (hA : m_ahd D0 s c)
    (kk : ∀ D' : g_D, m_fp D0 D' → m_plD D' s (m_pl s c ru B) → k_X12_laysBytes E l D' K) :
    ∀ (f : Nat) (p : m_P) (D : g_D), m_mu s c p ≤ f → m_it s c ru B f p = m_pl s c ru B → m_pI s c p → m_plD D s p → m_fp D0 D → n_X12_laysPlan E l D 80 [some (g_R 208), some (g_I 1), none, none] K := by
  have hs := hok.1
  intro f
  induction f with
  | zero =>
    intro p D hm he hI hp hf
    have hu := (m_it_ok (f := 0) (ru := ru) hok hB hI hm).2
    rw [m_it] at hu he
    have hc1 := hf.cmd hc
    have h14 := hc1.1
    have hno : ∀ k, k < s → m_U c p k = false := m_any_no hu
    refine s_X12_laysPlan_80 (fun _ _ => ⟨fun q => absurd q (by decide), fun _ => ?_⟩)
    have key : ∀ q b : Nat, s - b = q → b ≤ s → n_X12_laysPlan E l D 88 [some (g_R 208), none, some (g_I 0), some (g_I b)] K := by
      intro q
      induction q with
      | zero =>
        intro b hq hb
        obtain rfl : b = s := by omega
        refine s_X12_laysPlan_88 (fun _ _ _ => ⟨fun _ => ⟨fun _ => c_X12_lowestFree hs hc1 (hf.ahd hA) hp.1 (fun e _ => ⟨fun _ => ?_, fun q => absurd rfl q⟩) (fun e => ?_), fun q => (by omega : False).elim⟩, fun q => (by omega : False).elim⟩)
        · exact s_X12_laysPlan_80 (fun _ _ => ⟨fun _ => kk D hf (he ▸ hp), fun q => absurd rfl q⟩)
        · have e2 := m_fre_iff ((m_lo_spec (P := m_fre b c p) b).2.2 e)
          have := hno _ e
          unfold m_U at this
          rw [decide_eq_false e2.1, e2.2] at this
          cases this
      | succ q ih =>
        intro b hq hb
        have ih' := ih (b + 1) (by omega) (by omega)
        rw [← g_cast1] at ih'
        have hU := hno b (by omega)
        unfold m_U at hU
        refine s_X12_laysPlan_88 (fun _ _ _ => ⟨fun q => (by omega : False).elim, fun _ => ⟨by omega, ?_⟩⟩)
        rw [Int.toNat_natCast, (hc1.2 b (by omega)).1, (hp.1 b (by omega)).1]
        refine ⟨fun q => ⟨⟨by omega, by omega⟩, ⟨by omega, by omega⟩, ih'⟩, fun q => ⟨by omega, fun q2 => ⟨⟨by omega, by omega⟩, ⟨by omega, by omega⟩, ih'⟩, fun q2 => ?_⟩⟩
        rw [decide_eq_false q, g_b_0.mp q2] at hU
        cases hU
    exact key s 0 rfl (Nat.zero_le _)
  | succ f ihf =>
    intro p D hm he hI hp hf
    have hc1 := hf.cmd hc
    have hA1 := hf.ahd hA
    have h14 := hc1.1
    refine s_X12_laysPlan_80 (fun _ _ => ⟨fun q => absurd q (by decide), fun _ => ?_⟩)
    have fin : n_X12_laysPlan E l D 88 [some (g_R 208), none, some (g_I ((m_cnt (m_U c p) s : Nat) : Int)), some (g_I s)] K := by
      rw [m_it] at he
      cases hu : m_und s c p with
      | false =>
        rw [hu, if_neg Bool.false_ne_true] at he
        have hz : m_cnt (m_U c p) s = 0 := by
          refine Classical.byContradiction (fun q => ?_)
          obtain ⟨i, i1, i2⟩ := m_cnt_pos q
          rw [m_any_no hu i i1] at i2; cases i2
        refine s_X12_laysPlan_88 (fun _ _ _ => ⟨fun _ => ⟨fun _ => c_X12_lowestFree hs hc1 hA1 hp.1 (fun e _ => ⟨fun _ => ?_, fun q => absurd rfl q⟩) (fun e => ?_), fun q => by omega⟩, fun q => (by omega : False).elim⟩)
        · exact s_X12_laysPlan_80 (fun _ _ => ⟨fun _ => kk D hf (he ▸ hp), fun q => absurd rfl q⟩)
        · have e2 := m_fre_iff ((m_lo_spec (P := m_fre s c p) s).2.2 e)
          have := m_any_no hu _ e
          unfold m_U at this
          rw [decide_eq_false e2.1, e2.2] at this
          cases this
      | true =>
        rw [hu, if_pos rfl] at he
        obtain ⟨x, x1, x2⟩ := m_any_iff.mp hu
        have hz : m_cnt (m_U c p) s ≠ 0 := fun q => by have := m_cnt_zero q x x1; rw [x2] at this; cases this
        obtain ⟨s1, s2⟩ := m_pI_stp (ru := ru) hok hB hI hu
        refine s_X12_laysPlan_88 (fun _ _ _ => ⟨fun _ => ⟨fun q => by omega, fun _ => c_X12_lowestFree hs hc1 hA1 hp.1 (fun e _ => ⟨fun _ => ?_, fun q => absurd rfl q⟩) (fun e _ => ⟨fun q => by omega, fun _ => ?_⟩)⟩, fun q => (by omega : False).elim⟩)
        · have hno : ∀ b, b < s → m_fre s c p b = false := fun b hb => (m_lo_spec (P := m_fre s c p) s).2.1 b (by omega)
          have e0 : m_stp s c ru B p = m_brk s c ru B p := by unfold m_stp; rw [if_neg (by omega)]
          rw [e0] at s1 s2 he
          exact c_X12_breaksRing hok hB (by rw [hf.r209]; exact h5) (by rw [hf.r209]; exact h4) hc1 hA1 hp hI (m_ring_ex hu hno) (fun D2 f2 p2 => ihf _ D2 (by omega) he s1 p2 (hf.trans f2))
        · have e0 : m_stp s c ru B p = m_doe c p (m_lo (m_fre s c p) s) := by unfold m_stp; rw [if_pos e]
          rw [e0] at s1 s2 he
          have e2 := m_fre_iff ((m_lo_spec (P := m_fre s c p) s).2.2 e)
          exact c_X12_does hc1 hok hp hI e e2.1 (fun D2 f2 p2 => ihf _ D2 (by omega) he s1 p2 (hf.trans f2))
    have key : ∀ q b : Nat, s - b = q → b ≤ s → n_X12_laysPlan E l D 88 [some (g_R 208), none, some (g_I ((m_cnt (m_U c p) b : Nat) : Int)), some (g_I b)] K := by
      intro q
      induction q with
      | zero =>
        intro b hq hb
        obtain rfl : b = s := by omega
        exact fin
      | succ q ih =>
        intro b hq hb
        have ih' := ih (b + 1) (by omega) (by omega)
        have hle := m_cnt_le (P := m_U c p) b
        rw [← g_cast1, m_cnt] at ih'
        unfold m_U at ih'
        have hle := m_cnt_le (P := m_U c p) b
        unfold m_U at hle
        refine s_X12_laysPlan_88 (fun _ _ _ => ⟨fun q => (by omega : False).elim, fun _ => ⟨by omega, ?_⟩⟩)
        unfold m_U
        rw [Int.toNat_natCast, (hc1.2 b (by omega)).1, (hp.1 b (by omega)).1, Int.add_zero]
        refine ⟨fun q => ⟨⟨by omega, by omega⟩, ⟨by omega, by omega⟩, ?_⟩, fun q => ⟨by omega, fun q2 => ⟨⟨by omega, by omega⟩, ⟨by omega, by omega⟩, ?_⟩, fun q2 => ⟨⟨by omega, by omega⟩, ⟨by omega, by omega⟩, ?_⟩⟩⟩
        · rw [decide_eq_true q, Bool.not_true, Bool.false_and, if_neg Bool.false_ne_true] at ih'; exact ih'
        · rw [g_b_n0.mp q2, Bool.not_true, Bool.and_false, if_neg Bool.false_ne_true] at ih'; exact ih'
        · rw [decide_eq_false q, g_b_0.mp q2, Bool.not_false, Bool.true_and, if_pos rfl, ← g_cast1] at ih'; exact ih'
    exact key s 0 rfl (Nat.zero_le _)
theorem c_X12_laysPlanA {K : g_D → Prop} {B : Nat} {ru : Int} (hok : m_cok s c) (hB : B ≤ 20) (h5 : D 209 5 = B) (h4 : D 209 4 = ru) (hc : m_cmd D s c) (hA : m_ahd D s c)
    (kk : ∀ D' : g_D, m_fp D D' → m_plD D' s (m_pl s c ru B) → k_X12_laysBytes E l D' K) : k_X12_laysPlan E l D K := by
  have hs := hok.1
  have second : ∀ (q i : Nat) (D1 : g_D), 20 - i = q → i ≤ 20 → m_fp D D1 → m_plB D1 s m_p0 → (∀ j, j < i → D1 227 j = 0) → n_X12_laysPlan E l D1 39 [some (g_R 208), some (g_I i), none, none] K := by
    intro q
    induction q with
    | zero =>
      intro i D1 hq hi hf hb hk
      obtain rfl : i = 20 := by omega
      refine s_X12_laysPlan_39 (fun _ _ => ⟨fun _ D2 e2 D3 e3 D4 e4 D5 e5 => ?_, fun q => (by omega : False).elim⟩)
      have hcz : ∀ n, m_cnt (fun _ : Nat => false) n = 0 := by
        intro n
        induction n with
        | zero => rfl
        | succ n ih => rw [m_cnt, if_neg Bool.false_ne_true, ih]
      refine l_X12_plan80 hok hB h5 h4 hc hA kk 40 m_p0 D5 (by have := m_mu_le (m_pI_0 hok); omega) rfl (m_pI_0 hok) ⟨fun b hb' => ?_, fun j hj => ?_, fun b hb hv => (by cases hv), ⟨?_, fun j hj => absurd hj (Nat.not_lt_zero j)⟩, ?_, ?_, ?_⟩ (by rw [e5, e4, e3, e2]; exact (((hf.up (by omega)).up (by omega)).up (by omega)).up (by omega))
      · rw [e5, e4, e3, e2]; simp (disch := omega) only [g_up_ne, ne_eq, not_false_eq_true]; exact hb b hb'
      · rw [e5, e4, e3, e2]; simp (disch := omega) only [g_up_ne, ne_eq, not_false_eq_true]; exact hk j hj
      · rw [e5, e4, e3, e2]; simp (disch := omega) only [g_up_at, g_up_eq, ne_eq, not_false_eq_true]; rfl
      · rw [e5, e4, e3]; simp (disch := omega) only [g_up_at, g_up_eq, ne_eq, not_false_eq_true]; rw [show m_cnt (p_v m_p0) s = 0 from hcz s]; rfl
      · rw [e5, e4]; simp (disch := omega) only [g_up_at, g_up_eq, ne_eq, not_false_eq_true]; rw [show m_cnt (p_t m_p0) s = 0 from hcz s]; rfl
      · rw [e5, g_up_eq]; rfl
    | succ q ih =>
      intro i D1 hq hi hf hb hk
      refine s_X12_laysPlan_39 (fun _ _ => ⟨fun q => (by omega : False).elim, fun _ => ⟨by omega, fun D2 e2 => ⟨⟨by omega, by omega⟩, ?_⟩⟩⟩)
      rw [Int.toNat_natCast] at e2
      rw [g_cast1]
      refine ih (i + 1) D2 (by omega) (by omega) (by rw [e2]; exact hf.up (by omega)) (fun b hb' => by rw [e2]; simp (disch := omega) only [g_up_ne, ne_eq, not_false_eq_true]; exact hb b hb') (fun j hj => ?_)
      rw [e2]
      by_cases e : j = i
      · rw [e, g_up_eq]
      · rw [g_up_at e]; exact hk j (by omega)
  have first : ∀ (q b : Nat) (D1 : g_D), s - b = q → b ≤ s → m_fp D D1 → (∀ j, j < b → D1 224 j = 0 ∧ D1 225 j = 0 ∧ D1 226 j = 0) → n_X12_laysPlan E l D1 2 [some (g_R 208), some (g_I b), none, none] K := by
    intro q
    induction q with
    | zero =>
      intro b D1 hq hb hf hk
      obtain rfl : b = s := by omega
      have h14 := (hf.cmd hc).1
      exact s_X12_laysPlan_2 (fun _ _ => ⟨fun _ => second 20 0 D1 rfl (Nat.zero_le _) hf hk (fun j hj => absurd hj (Nat.not_lt_zero j)), fun q => (by omega : False).elim⟩)
    | succ q ih =>
      intro b D1 hq hb hf hk
      have h14 := (hf.cmd hc).1
      refine s_X12_laysPlan_2 (fun _ _ => ⟨fun q => (by omega : False).elim, fun _ => ⟨by omega, fun D2 e2 => ⟨by omega, fun D3 e3 => ⟨by omega, fun D4 e4 => ⟨⟨by omega, by omega⟩, ?_⟩⟩⟩⟩⟩)
      rw [Int.toNat_natCast] at e2 e3 e4
      rw [g_cast1]
      refine ih (b + 1) D4 (by omega) (by omega) (by rw [e4, e3, e2]; exact ((hf.up (by omega)).up (by omega)).up (by omega)) (fun j hj => ?_)
      rw [e4, e3, e2]
      simp (disch := omega) only [g_up_ne, ne_eq, not_false_eq_true]
      by_cases e : j = b
      · subst e; simp only [g_up_eq, and_self]
      · simp (disch := omega) only [g_up_at, ne_eq, not_false_eq_true]; exact hk j (by omega)
  exact s_X12_laysPlan (fun _ => first s 0 D rfl (Nat.zero_le _) (m_fp.refl D) (fun j hj => absurd hj (Nat.not_lt_zero j)))
end PLANM2
end
