/-! rings: the class -/
def m_wr (s : Nat) (c : Nat → Nat → Int) (al : Nat → Bool) (V : Nat) (R : Nat → Nat) : Prop := (∀ u, u < 20 → R u < 2 ^ 20) ∧ (∀ u w, u < 20 → (R u).testBit w = true → ∃ d, m_wk (m_ed s c al) (d + 1) u w) ∧ (∀ u w, m_ed s c al u w → (R u).testBit w = true) ∧ (∀ x u w, x < V → u < 20 → (R u).testBit x = true → (R x).testBit w = true → (R u).testBit w = true)
def m_wr1 (R : Nat → Nat) (V u : Nat) : Nat := R u ||| (if (R u).testBit V then R V else 0)
theorem m_wr1_bit {R : Nat → Nat} {V u w : Nat} : (m_wr1 R V u).testBit w = true ↔ (R u).testBit w = true ∨ ((R u).testBit V = true ∧ (R V).testBit w = true) := by
  unfold m_wr1
  rw [Nat.testBit_or, Bool.or_eq_true]
  split
  · rename_i h; simp [h]
  · rename_i h; simp [h, Nat.zero_testBit]
theorem m_wr.step {s V : Nat} {c : Nat → Nat → Int} {al : Nat → Bool} {R : Nat → Nat} (h : m_wr s c al V R) (hV : V < 20) : m_wr s c al (V + 1) (m_wr1 R V) := by
  obtain ⟨h1, h2, h3, h4⟩ := h
  refine ⟨fun u hu => ?_, fun u w hu hb => ?_, fun u w he => m_wr1_bit.mpr (Or.inl (h3 u w he)), fun x u w hx hu p q => ?_⟩
  · unfold m_wr1
    refine Nat.or_lt_two_pow (h1 u hu) ?_
    split
    · exact h1 V hV
    · decide
  · rcases m_wr1_bit.mp hb with q | ⟨q1, q2⟩
    · exact h2 u w hu q
    · obtain ⟨d, d1⟩ := h2 u V hu q1
      obtain ⟨d', d2⟩ := h2 V w hV q2
      exact ⟨d + 1 + d', by rw [show d + 1 + d' + 1 = (d + 1) + (d' + 1) by omega]; exact d1.trans d2⟩
  · rw [m_wr1_bit] at p q ⊢
    have c1 : ∀ u w, u < 20 → x < V → (R u).testBit x = true → (R x).testBit w = true → (R u).testBit w = true := fun u w hu hx => h4 x u w hx hu
    by_cases hxV : x = V
    · subst hxV
      rcases p with p | ⟨p1, p2⟩ <;> rcases q with q | ⟨q1, q2⟩
      · exact Or.inr ⟨p, q⟩
      · exact Or.inr ⟨p, q2⟩
      · exact Or.inr ⟨p1, q⟩
      · exact Or.inr ⟨p1, q2⟩
    · have hx' : x < V := by omega
      rcases p with p | ⟨p1, p2⟩ <;> rcases q with q | ⟨q1, q2⟩
      · exact Or.inl (c1 u w hu hx' p q)
      · exact Or.inr ⟨c1 u V hu hx' p q1, q2⟩
      · exact Or.inr ⟨p1, c1 V w hV hx' p2 q⟩
      · exact Or.inr ⟨p1, q2⟩
theorem m_wr.rg {s : Nat} {c : Nat → Nat → Int} {al : Nat → Bool} {R : Nat → Nat} (h : m_wr s c al 20 R) (hs : s ≤ 20) {u : Nat} (hu : u < 20) : (R u).testBit u = m_rgb s c al u := by
  rw [Bool.eq_iff_iff, m_rgb_iff]
  constructor
  · exact fun q => h.2.1 u u hu q
  · rintro ⟨d, hd⟩
    have key : ∀ d a, a < 20 → m_wk (m_ed s c al) (d + 1) a u → (R a).testBit u = true := by
      intro d
      induction d with
      | zero =>
        rintro a _ ⟨x, h1, h2⟩
        have h2 : x = u := h2
        subst h2
        exact h.2.2.1 a x h1
      | succ d ih =>
        rintro a ha ⟨x, h1, h2⟩
        have hx := h1.2.1
        exact h.2.2.2 x a u (by omega) ha (h.2.2.1 a x h1) (ih x (by omega) h2)
    exact key d u hu hd
theorem m_and_pow (x i : Nat) : x &&& 2 ^ i = if x.testBit i then 2 ^ i else 0 := by
  apply Nat.eq_of_testBit_eq
  intro j
  rw [Nat.testBit_and, Nat.testBit_two_pow]
  by_cases h : i = j
  · subst h
    cases hx : x.testBit i <;> simp [Nat.testBit_two_pow_self, Nat.zero_testBit]
  · cases hx : x.testBit i <;> simp [h, Nat.testBit_two_pow, Nat.zero_testBit]
section RINGX
variable {E : g_E} {l : Launch} {sh : List g_Sh} {D : g_D} {s : Nat} {c : Nat → Nat → Int} {al : Nat → Bool}
theorem l_X6_members111 {K : Int → g_D → Prop} {k : Nat} {R : Nat → Nat} (hk : is_Rings g_SH k) (hR : ∀ u, u < 20 → D (k + 1) u = (R u : Nat)) (hlt : ∀ u, u < 20 → R u < 2 ^ 20)
    (kk : K ((m_bits (fun u => (R u).testBit u) 20 : Nat) : Int) D) : ∀ q u : Nat, 20 - u = q → u ≤ 20 → n_X6_members E l D 111 [some (g_R k), none, none, some (g_I ((m_bits (fun u => (R u).testBit u) u : Nat) : Int)), some (g_I u)] K := by
  intro q
  induction q with
  | zero =>
    intro u hq hu
    obtain rfl : u = 20 := by omega
    exact s_X6_members_111 hk hk.2.1 (fun _ _ _ => ⟨fun _ => kk, fun h => (by omega : False).elim⟩)
  | succ q ih =>
    intro u hq hu
    have ih' := ih (u + 1) (by omega) (by omega)
    rw [← g_cast1] at ih'
    refine s_X6_members_111 hk hk.2.1 (fun _ _ _ => ⟨fun h => (by omega : False).elim, fun _ => ⟨by omega, ⟨by omega, by omega⟩, ?_⟩⟩)
    have hlu := hlt u (by omega)
    have hb : m_bits (fun u => (R u).testBit u) u < 2 ^ 31 := Nat.lt_of_lt_of_le (m_bits_lt u) (Nat.pow_le_pow_right (by decide) (by omega))
    rw [Int.toNat_natCast, hR u (by omega), g_shl1_n (by omega), g_and_n (by omega), m_and_pow, g_or_n hb (by split; exact Nat.pow_lt_pow_right (by decide) (by omega); decide)]
    rw [m_bits] at ih'
    exact ih'
theorem l_X6_members48 {K : Int → g_D → Prop} {k V : Nat} {R : Nat → Nat} {D0 : g_D} (hk : is_Rings g_SH k) (hV : V < 20) (hlt : ∀ u, u < 20 → R u < 2 ^ 20)
    (kk : ∀ D' : g_D, (∀ i, i ≠ k + 1 → D' i = D0 i) → (∀ u, u < 20 → D' (k + 1) u = (m_wr1 R V u : Nat)) → n_X6_members E l D' 39 [some (g_R k), none, none, some (g_I ((V + 1 : Nat) : Int)), none] K) :
    ∀ (q u : Nat) (D : g_D), 20 - u = q → u ≤ 20 → (∀ i, i ≠ k + 1 → D i = D0 i) → (∀ i, i < 20 → D (k + 1) i = ((if i < u then m_wr1 R V i else R i : Nat) : Int)) → n_X6_members E l D 48 [some (g_R k), none, none, some (g_I V), some (g_I u)] K := by
  intro q
  induction q with
  | zero =>
    intro u D hq hu hf hv
    obtain rfl : u = 20 := by omega
    refine s_X6_members_48 hk hk.2.1 (fun _ _ _ => ⟨fun _ => ⟨⟨by omega, by omega⟩, ?_⟩, fun h => (by omega : False).elim⟩)
    rw [g_cast1]
    exact kk D hf (fun i hi => by rw [hv i hi, if_pos hi])
  | succ q ih =>
    intro u D hq hu hf hv
    have eV : D (k + 1) V = (R V : Nat) := by
      rw [hv V hV]
      split
      · unfold m_wr1
        split
        · rw [Nat.or_self]
        · rw [Nat.or_zero]
      · rfl
    have eu : D (k + 1) u = (R u : Nat) := by rw [hv u (by omega), if_neg (by omega)]
    have lu := hlt u (by omega)
    have lV := hlt V hV
    refine s_X6_members_48 hk hk.2.1 (fun _ _ _ => ⟨fun h => (by omega : False).elim, fun _ => ⟨by omega, ?_⟩⟩)
    rw [Int.toNat_natCast, Int.toNat_natCast, eV, eu]
    refine ⟨fun h => ⟨⟨by omega, by omega⟩, ?_⟩, fun h => ⟨by omega, c_hasBit (by omega) (by omega) (fun _ => ⟨fun h2 => ⟨⟨by omega, by omega⟩, ?_⟩, fun h2 => ⟨by omega, by omega, by omega, fun D2 hD2 => ⟨⟨by omega, by omega⟩, ?_⟩⟩⟩)⟩⟩
    · rw [g_cast1]
      have hz : R V = 0 := by omega
      refine kk D hf (fun i hi => ?_)
      have e : m_wr1 R V i = R i := by unfold m_wr1; rw [hz]; split <;> rw [Nat.or_zero]
      rw [hv i hi, e]
      split <;> rfl
    · rw [g_cast1]
      refine ih (u + 1) D (by omega) (by omega) hf (fun i hi => ?_)
      rw [hv i hi]
      by_cases e : i = u
      · subst e
        rw [if_neg (by omega), if_pos (by omega), m_wr1, g_b_0.mp h2, if_neg Bool.false_ne_true, Nat.or_zero]
      · by_cases e2 : i < u
        · rw [if_pos e2, if_pos (by omega)]
        · rw [if_neg e2, if_neg (by omega)]
    · rw [eu, eV, g_or_n (by omega) (by omega)] at hD2
      rw [g_cast1]
      refine ih (u + 1) D2 (by omega) (by omega) (fun i hi => by rw [hD2, g_up_ne hi]; exact hf i hi) (fun i hi => ?_)
      rw [hD2]
      by_cases e : i = u
      · subst e
        rw [g_up_eq, if_pos (by omega), m_wr1, g_b_n0.mp h2, if_pos rfl]
      · rw [g_up_at e, hv i hi]
        by_cases e2 : i < u
        · rw [if_pos e2, if_pos (by omega)]
        · rw [if_neg e2, if_neg (by omega)]
theorem l_X6_members39 {K : Int → g_D → Prop} {k : Nat} {D0 : g_D} (hk : is_Rings g_SH k) (hs : s ≤ 20)
    (kk : ∀ D' : g_D, (∀ i, i ≠ k + 1 → D' i = D0 i) → K ((m_bits (m_rgb s c al) 20 : Nat) : Int) D') :
    ∀ (q V : Nat) (D : g_D) (R : Nat → Nat), 20 - V = q → V ≤ 20 → (∀ i, i ≠ k + 1 → D i = D0 i) → (∀ i, i < 20 → D (k + 1) i = (R i : Nat)) → m_wr s c al V R → n_X6_members E l D 39 [some (g_R k), none, none, some (g_I V), none] K := by
  intro q
  induction q with
  | zero =>
    intro V D R hq hV hf hv hw
    obtain rfl : V = 20 := by omega
    refine s_X6_members_39 hk hk.2.1 (fun _ _ => ⟨fun _ => ?_, fun h => (by omega : False).elim⟩)
    refine l_X6_members111 hk hv hw.1 ?_ 20 0 rfl (Nat.zero_le _)
    rw [m_bits_congr (Q := m_rgb s c al) (fun u hu => hw.rg hs hu)]
    exact kk D hf
  | succ q ih =>
    intro V D R hq hV hf hv hw
    refine s_X6_members_39 hk hk.2.1 (fun _ _ => ⟨fun h => (by omega : False).elim, fun _ => ?_⟩)
    exact l_X6_members48 hk (by omega) hw.1 (fun D' hf' hv' => ih (V + 1) D' (m_wr1 R V) (by omega) (by omega) hf' hv' (hw.step (by omega))) 20 0 D rfl (Nat.zero_le _) hf (fun i hi => by rw [if_neg (by omega)]; exact hv i hi)
theorem l_X6_members2 {K : Int → g_D → Prop} {k r x : Nat} {D0 : g_D} (hk : is_Rings g_SH k) (hr : g_SH[r]? = some (.inl (0, 20))) (hrk : r ≠ k + 1) (hs : s ≤ 20) (hx : x < 2 ^ 20) (hn : ∀ a, a < 20 → D0 r a = (m_nx c s a : Nat))
    (kk : ∀ D' : g_D, (∀ i, i ≠ k + 1 → D' i = D0 i) → K ((m_bits (m_rgb s c x.testBit) 20 : Nat) : Int) D') :
    ∀ (q u : Nat) (D : g_D), 20 - u = q → u ≤ 20 → (∀ i, i ≠ k + 1 → D i = D0 i) → (∀ i, i < u → D (k + 1) i = ((if x.testBit i then m_nx c s i &&& x else 0 : Nat) : Int)) → n_X6_members E l D 2 [some (g_R k), some (g_R r), some (g_I x), some (g_I u), none] K := by
  intro q
  induction q with
  | zero =>
    intro u D hq hu hf hv
    obtain rfl : u = 20 := by omega
    refine s_X6_members_2 hk hr (fun _ _ _ => ⟨fun _ => ?_, fun h => (by omega : False).elim⟩)
    have hbit : ∀ u w, (if x.testBit u then m_nx c s u &&& x else 0 : Nat).testBit w = true ↔ m_ed s c x.testBit u w := by
      intro u w
      unfold m_ed
      split
      · rename_i h
        rw [Nat.testBit_and, m_nx_bit]
        simp only [Bool.and_eq_true, decide_eq_true_eq]
        exact ⟨fun q => ⟨q.1.1, q.1.2.1, h, q.2, q.1.2.2⟩, fun q => ⟨⟨q.1, q.2.1, q.2.2.2.2⟩, q.2.2.2.1⟩⟩
      · rename_i h
        rw [Nat.zero_testBit]
        exact ⟨fun q => (by cases q), fun q => absurd q.2.2.1 h⟩
    refine l_X6_members39 hk hs kk 20 0 D (fun u => if x.testBit u then m_nx c s u &&& x else 0) rfl (Nat.zero_le _) hf hv ⟨fun u hu => ?_, fun u w hu h => ⟨0, m_wk.one ((hbit u w).mp h)⟩, fun u w h => (hbit u w).mpr h, fun y u w hy => absurd hy (Nat.not_lt_zero y)⟩
    dsimp only
    split
    · exact Nat.lt_of_le_of_lt Nat.and_le_right hx
    · decide
  | succ q ih =>
    intro u D hq hu hf hv
    have put : ∀ (v : Int) (D1 : g_D), v = ((if x.testBit u then m_nx c s u &&& x else 0 : Nat) : Int) → D1 = g_up D (k + 1) u v → n_X6_members E l D1 2 [some (g_R k), some (g_R r), some (g_I x), some (g_I ((u : Int) + 1)), none] K := by
      intro v D1 hv1 hD1
      rw [g_cast1]
      refine ih (u + 1) D1 (by omega) (by omega) (fun i hi => by rw [hD1, g_up_ne hi]; exact hf i hi) (fun i hi => ?_)
      rw [hD1]
      by_cases e : i = u
      · rw [e, g_up_eq]; exact hv1
      · rw [g_up_at e]; exact hv i (by omega)
    refine s_X6_members_2 hk hr (fun _ _ _ => ⟨fun h => (by omega : False).elim, fun _ => c_hasBit (by omega) (by omega) (fun _ => ⟨fun h2 => ⟨by omega, fun D2 hD2 => ⟨⟨by omega, by omega⟩, ?_⟩⟩, fun h2 => ⟨by omega, by omega, fun D2 hD2 => ⟨⟨by omega, by omega⟩, ?_⟩⟩⟩)⟩)
    · rw [Int.toNat_natCast] at hD2
      exact put 0 D2 (by rw [g_b_0.mp h2, if_neg Bool.false_ne_true]; rfl) hD2
    · have hl : m_nx c s u < 2 ^ 20 := m_nx_lt hs
      rw [Int.toNat_natCast, hf r hrk, hn u (by omega), g_and_n (by omega)] at hD2
      exact put _ D2 (by rw [g_b_n0.mp h2, if_pos rfl]) hD2
theorem c_X6_members {K : Int → g_D → Prop} {k r x : Nat} (hk : is_Rings g_SH k) (hr : g_SH[r]? = some (.inl (0, 20))) (hrk : r ≠ k + 1) (hs : s ≤ 20) (hx : x < 2 ^ 20) (hn : ∀ a, a < 20 → D r a = (m_nx c s a : Nat))
    (kk : ∀ D' : g_D, (∀ i, i ≠ k + 1 → D' i = D i) → K ((m_bits (m_rgb s c x.testBit) 20 : Nat) : Int) D') : k_X6_members E l D k r x K :=
  s_X6_members hk hr (fun _ _ => l_X6_members2 hk hr hrk hs hx hn kk 20 0 D rfl (Nat.zero_le _) (fun _ _ => rfl) (fun i h => absurd h (Nat.not_lt_zero i)))
end RINGX
