section
/-! the plan in the class: rings broken, built -/
theorem m_on_and {f : Nat → Bool} {a len : Nat} (h : a + len ≤ 20) : m_bits f 20 &&& m_on a len = 0 ↔ m_any (fun i => f (a + i)) len = false := by
  have e1 : m_bits f 20 &&& m_on a len ≠ 0 ↔ m_any (fun i => f (a + i)) len = true := by
    rw [m_and_ne, m_any_iff]
    constructor
    · rintro ⟨w, w1, w2⟩
      rw [m_bits_bit, Bool.and_eq_true] at w1
      rw [m_on_bit, Bool.and_eq_true, decide_eq_true_iff, decide_eq_true_iff] at w2
      refine ⟨w - a, by omega, ?_⟩
      rw [show a + (w - a) = w by omega]
      exact w1.2
    · rintro ⟨i, i1, i2⟩
      refine ⟨a + i, ?_, ?_⟩
      · rw [m_bits_bit, decide_eq_true (show a + i < 20 by omega), i2]; rfl
      · rw [m_on_bit, decide_eq_true (show a ≤ a + i by omega), decide_eq_true (show a + i < a + len by omega)]; rfl
  constructor
  · intro q
    rw [← Bool.not_eq_true, ← e1]
    exact fun r => r q
  · intro q
    rw [← Bool.not_eq_true, ← e1] at q
    exact Classical.not_not.mp q
theorem m_cnt_b20 {f : Nat → Bool} : m_cnt (m_bits f 20).testBit 32 = m_cnt f 20 := by
  rw [m_cnt_ext (s := 20) (by decide) (fun i hi => by rw [m_bits_bit, decide_eq_false (by omega)]; rfl)]
  exact m_cnt_congr (fun i hi => by rw [m_bits_bit, decide_eq_true hi]; rfl)
theorem is_Script.rings {sh : List g_Sh} {k : Nat} (h : is_Script sh k) : is_Rings sh (k + 6) := ⟨h.2.2.2.2.2.2.1, h.2.2.2.2.2.2.2.1, h.2.2.2.2.2.2.2.2.1, h.2.2.2.2.2.2.2.2.2.1⟩
theorem is_Script.next {sh : List g_Sh} {k : Nat} (h : is_Script sh k) : sh[k + 5]? = some (.inl (0, 20)) := h.2.2.2.2.2.1
section PLANX2
variable {E : g_E} {l : Launch} {sh : List g_Sh} {D : g_D} {s : Nat} {c : Nat → Nat → Int} {p : m_P}
theorem c_X4_waiting {K : Int → g_D → Prop} {k r b : Nat} (hk : is_Plan g_SH k) (hr : is_Script g_SH r) (hs : s ≤ 20) (hb : b < s) (hn : x_nx D r s c) (h7 : D k 7 = (m_bits (p_d p) 20 : Nat)) (kk : K (m_wt s c p b : Nat) D) : k_X4_waiting E l D k r b K := by
  refine s_X4_waiting hk hr (fun _ _ => ⟨by omega, ?_⟩)
  have hlt : m_nx c s b < 2 ^ 20 := m_nx_lt hs
  rw [Int.toNat_natCast, hn b (by omega), h7, g_an (m_lt20 hlt)]
  refine c_bitCount (m_lt20 (m_an_le hlt)) (fun _ => ?_)
  have e : m_cnt (m_an (m_nx c s b) (m_bits (p_d p) 20)).testBit 32 = m_wt s c p b := by
    rw [m_cnt_ext (s := s) (by omega) (fun i hi => by rw [m_an_bit, m_nx_bit, decide_eq_false (show ¬ i < s by omega)]; simp)]
    refine m_cnt_congr (fun i hi => ?_)
    rw [m_an_bit, m_nx_bit, m_bits_bit, decide_eq_true hb, decide_eq_true hi, decide_eq_true (show i < 20 by omega)]
    simp
  rw [e]; exact kk
theorem c_X4_isPreferred {K : Int → g_D → Prop} {k r a b : Nat} {ru : Int} (hk : is_Plan g_SH k) (hr : is_Script g_SH r) (hs : s ≤ 20) (ha : a < s) (hb : b < s) (hc : x_cmd D r s c) (hn : x_nx D r s c) (h7 : D k 7 = (m_bits (p_d p) 20 : Nat)) (kk : K (g_b (m_sn s c ru p a b)) D) : k_X4_isPreferred E l D k r ru a b K := by
  unfold m_sn at kk
  refine s_X4_isPreferred hk hr (fun _ _ _ _ => ?_)
  rw [Int.toNat_natCast, Int.toNat_natCast, (hc.2 a ha).2.2.2, (hc.2 b hb).2.2.2]
  refine ⟨fun q => ?_, fun q => ?_⟩
  · rw [if_neg q] at kk
    refine ⟨fun q2 => ?_, fun q2 => ?_⟩
    · rw [decide_eq_false q2] at kk; exact kk
    · rw [decide_eq_true q2, Bool.true_and] at kk
      refine c_X4_waiting hk hr hs ha hn h7 (fun _ => c_X4_waiting hk hr hs hb hn h7 (fun _ => ⟨fun q3 => ?_, fun q3 => ?_⟩))
      · rw [decide_eq_false (by omega)] at kk; exact kk
      · rw [decide_eq_true (by omega)] at kk; exact kk
  · rw [if_pos q] at kk
    refine ⟨by omega, by omega, fun q2 => ?_, fun q2 => ?_⟩
    · rw [decide_eq_false (by omega)] at kk; exact kk
    · rw [decide_eq_true (by omega)] at kk; exact kk
theorem c_X4_freePlace {K : Int → g_D → Prop} {k B len : Nat} (hk : is_Plan g_SH k) (hB : B ≤ 20) (hl : 1 ≤ len) (hl2 : len ≤ 40) (h10 : D k 10 = (m_bits (p_k p) 20 : Nat))
    (k0 : ¬ m_rm p B len ≤ B → K (-1) D) (k1 : m_rm p B len ≤ B → K (m_rm p B len : Nat) D) : k_X4_freePlace E l D k len B K := by
  have none1 : ∀ a : Nat, B < a + len → (∀ j, j < a → m_rmP p B len j = false) → K (-1) D := by
    intro a ha hj
    refine k0 ?_
    have : m_rm p B len = B + 1 := m_lo_none (fun j _ => by
      by_cases q : j < a
      · exact hj j q
      · unfold m_rmP; rw [decide_eq_false (by omega)]; rfl)
    omega
  have hpk : m_bits (p_k p) 20 < 2 ^ 20 := m_b20 (Nat.le_refl _)
  have key : ∀ q a : Nat, B + 1 - a = q → a ≤ B → (∀ j, j < a → m_rmP p B len j = false) → n_X4_freePlace E l D 2 [some (g_R k), some (g_I len), some (g_I B), some (g_I a)] K := by
    intro q
    induction q with
    | zero => intro a hq ha; omega
    | succ q ih =>
      intro a hq ha hj
      refine s_X4_freePlace_2 hk (fun _ _ _ _ => ⟨⟨by omega, by omega⟩, fun q => none1 a (by omega) hj, fun q => ?_⟩)
      refine c_X11_onesFrom (by omega) (fun _ => ?_)
      rw [h10, g_and_n (m_lt20 hpk)]
      refine ⟨fun e => ⟨⟨by omega, by omega⟩, ?_⟩, fun e => ?_⟩
      · have e' : m_any (fun i => p_k p (a + i)) len = true := by
          cases h : m_any (fun i => p_k p (a + i)) len
          · rw [(m_on_and (f := p_k p) (a := a) (len := len) (by omega)).mpr h] at e; exact absurd rfl e
          · rfl
        have ih' := ih (a + 1) (by omega) (by omega) (fun j hj' => (Nat.lt_succ_iff_lt_or_eq.mp hj').elim (hj j) (fun e2 => by rw [e2]; unfold m_rmP; rw [e']; simp))
        rw [← g_cast1] at ih'
        exact ih'
      · have e' := (m_on_and (f := p_k p) (a := a) (len := len) (by omega)).mp (by omega)
        have ef : m_rmP p B len a = true := by unfold m_rmP; rw [decide_eq_true (by omega), e']; rfl
        have e2 : m_rm p B len = a := m_lo_eq (by omega) ef hj
        rw [e2] at k1
        exact k1 (by omega)
  exact s_X4_freePlace hk (fun _ _ _ => key _ 0 rfl (Nat.zero_le _) (fun j hj => absurd hj (Nat.not_lt_zero j)))
theorem c_X4_saveCopy {K : g_D → Prop} {k r y B : Nat} (hk : is_Plan g_SH k) (hr : is_Script g_SH r) (hkr : r + 11 < k) (hok : m_cok s c) (hB : B ≤ 20) (hc : x_cmd D r s c) (h : x_plD D k s c p) (hI : m_pI s c p) (hy : y < s) (hyv : p_v p y = false) (hrm : m_rm p B (c y 3).toNat ≤ B)
    (kk : ∀ D' : g_D, x_fP k r D D' → x_plD D' k s c (m_sav c p y (m_rm p B (c y 3).toNat)) → K D') : k_X4_saveCopy E l D k r y B K := by
  obtain ⟨h5, h6, h7, h8, h9, h10, h11, hA, hH⟩ := h
  have hs := hok.1
  have hn : p_n p ≤ 30 := by have := hI.2.2.2.2.2.2.1; omega
  have hby := m_by_rng hok hI
  have hlen := hok.len.le hy
  have hlen1 := (hok.2.1 y hy).2.2.1
  have hpv : m_bits (p_v p) 20 < 2 ^ 20 := m_b20 (Nat.le_refl _)
  have hpk : m_bits (p_k p) 20 < 2 ^ 20 := m_b20 (Nat.le_refl _)
  have h2y : 2 ^ y < 2 ^ 20 := Nat.pow_lt_pow_right (by decide) (by omega)
  have hin := (m_rm_le hrm).1
  have r4 : D (r + 4) y = (((c y 3).toNat : Nat) : Int) := by rw [(hc.2 y hy).2.2.2]; omega
  have ea : ∃ a, m_rm p B (c y 3).toNat = a := ⟨_, rfl⟩
  obtain ⟨a, ea⟩ := ea
  rw [ea] at hrm hin kk
  refine s_X4_saveCopy hk hr (fun _ _ _ => ⟨by omega, ?_⟩)
  rw [Int.toNat_natCast, r4]
  refine c_X4_freePlace (p := p) hk hB (by omega) (by omega) h10 (fun q => absurd hrm (by rw [ea] at q; exact q)) (fun _ _ => ⟨fun _ => ⟨by omega, fun D2 e2 D3 e3 => ⟨by omega, ?_⟩⟩, fun q => (by omega : False).elim⟩)
  rw [ea] at e2
  have q8 : D2 k 8 = (m_bits (p_v p) 20 : Nat) := by rw [e2, g_up_ne (by omega)]; exact h8
  rw [q8, g_shl1_n (by omega), g_or_n (m_lt20 hpv) (m_lt20 h2y), m_bits_set (by omega)] at e3
  have q4 : D3 (r + 4) y = (((c y 3).toNat : Nat) : Int) := by rw [e3, g_up_ne (by omega), e2, g_up_ne (by omega)]; exact r4
  have q10 : D3 k 10 = (m_bits (p_k p) 20 : Nat) := by rw [e3, g_up_at (by decide), e2, g_up_ne (by omega)]; exact h10
  have q11 : D3 k 11 = (p_m p : Nat) := by rw [e3, g_up_at (by decide), e2, g_up_ne (by omega)]; exact h11
  rw [q4, ea]
  refine c_X11_onesFrom (by omega) (fun _ D5 e5 => ?_)
  have hon : m_on a (c y 3).toNat < 2 ^ 20 := m_on_lt (by omega)
  rw [q10, g_or_n (m_lt20 hpk) (m_lt20 hon), m_bits_in (by omega)] at e5
  have t10 : D5 k 10 = (m_bits (b_reg (p_k p) a (c y 3).toNat true) 20 : Nat) := by rw [e5, g_up_eq]
  have t11 : D5 k 11 = (p_m p : Nat) := by rw [e5, g_up_at (by decide)]; exact q11
  rw [t10, t11]
  refine c_bitCount (m_lt20 (m_b20 (Nat.le_refl _))) (fun _ D7 e7 => ?_)
  rw [m_cnt_b20] at e7
  have z5 : D7 k 5 = (p_n p : Nat) := by rw [e7, g_up_at (by decide), e5, g_up_at (by decide), e3, g_up_at (by decide), e2, g_up_ne (by omega)]; exact h5
  have z6 : D7 k 6 = m_by c p := by rw [e7, g_up_at (by decide), e5, g_up_at (by decide), e3, g_up_at (by decide), e2, g_up_ne (by omega)]; exact h6
  refine c_X4_append (n := p_n p) (y := m_by c p) hk z5 (by omega) z6 (by omega) (by omega) (fun D8 e8 => kk D8 (fun i x1 x2 => ?_) ⟨?_, ?_, ?_, ?_, ?_, ?_, ?_, fun i hi => ?_, fun i hi hv => ?_⟩)
  · rw [e8, e7, e5, e3, e2]; simp (disch := omega) only [g_up_ne, ne_eq, not_false_eq_true]
  · rw [e8, g_up_at (by decide), g_up_eq]; rfl
  · rw [e8, g_up_eq]
    show _ = 1 + m_sum (m_ab c (m_sav c p y a)) (p_n p + 1)
    have e1 : m_sum (m_ab c (m_sav c p y a)) (p_n p) = m_sum (m_ab c p) (p_n p) := m_ab_congr (fun i hi => n_set_ne (by omega)) (fun i hi => n_set_ne (by omega))
    have e9 : m_ab c (m_sav c p y a) (p_n p) = 4 := by
      unfold m_ab
      rw [show p_a (m_sav c p y a) (p_n p) = 1 from n_set_eq, if_neg (by decide)]
    rw [m_sum, e1, e9]
    unfold m_by
    omega
  · rw [e8, e7, e5, e3, e2]; simp (disch := omega) only [g_up_ne, g_up_at, ne_eq, not_false_eq_true]; exact h7
  · rw [e8, e7, e5, e3]; simp (disch := omega) only [g_up_ne, g_up_at, g_up_eq, ne_eq, not_false_eq_true]; rfl
  · rw [e8, e7, e5, e3, e2]; simp (disch := omega) only [g_up_ne, g_up_at, ne_eq, not_false_eq_true]; exact h9
  · rw [e8, e7, e5]; simp (disch := omega) only [g_up_ne, g_up_at, g_up_eq, ne_eq, not_false_eq_true]; rfl
  · rw [e8, e7]; simp (disch := omega) only [g_up_ne, g_up_at, g_up_eq, ne_eq, not_false_eq_true]
    show _ = ((max (p_m p) (m_cnt (b_reg (p_k p) a (c y 3).toNat true) 20) : Nat) : Int)
    omega
  · have hi : i < p_n p + 1 := hi
    unfold m_pa
    rw [e8]
    show _ = ((n_set (p_a p) (p_n p) 1 i : Nat) : Int) ∧ _ = ((n_set (p_o p) (p_n p) y i : Nat) : Int) ∧ _ = (if n_set (p_a p) (p_n p) 1 i = 1 ∨ n_set (p_a p) (p_n p) 1 i = 3 then ((n_set (p_h p) y a (n_set (p_o p) (p_n p) y i) : Nat) : Int) else -1)
    by_cases e : i = p_n p
    · subst e
      rw [n_set_eq, n_set_eq, n_set_eq]
      simp (disch := omega) only [g_up_ne, g_up_eq, ne_eq, not_false_eq_true, true_or, if_true, true_and, and_true]
      rfl
    · rw [n_set_ne e, n_set_ne e]
      have hi2 : i < p_n p := by omega
      obtain ⟨a1, a2, a3⟩ := hA i hi2
      unfold m_pa at a3
      rw [e7, e5, e3, e2]
      simp (disch := omega) only [g_up_ne, g_up_at, ne_eq, not_false_eq_true]
      refine ⟨a1, a2, ?_⟩
      rw [a3]
      by_cases q : p_a p i = 1 ∨ p_a p i = 3
      · rw [if_pos q, if_pos q]
        by_cases e' : p_o p i = y
        · rcases (hI.2.2.2.2.2.2.2.1 i hi2).2.2 with ⟨_, w⟩ | ⟨w, _⟩ | w
          · rw [e', hyv] at w; cases w
          · omega
          · omega
        · rw [n_set_ne e']
      · rw [if_neg q, if_neg q]
  · have hv : b_set (p_v p) y true i = true := hv
    rw [e8, e7, e5, e3, e2]
    simp (disch := omega) only [g_up_ne, ne_eq, not_false_eq_true]
    show _ = ((n_set (p_h p) y a i : Nat) : Int)
    by_cases e : i = y
    · subst e; rw [g_up_eq, n_set_eq]
    · rw [g_up_at e, n_set_ne e]
      rw [b_set_ne e] at hv
      exact hH i hi hv
end PLANX2
end
