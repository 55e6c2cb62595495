def m_alD (D : g_D) (s : Nat) (al : Nat → Bool) : Prop := ∀ a, a < s → D 222 a = g_b (al a)
def m_snd (s : Nat) (c : Nat → Nat → Int) (al : Nat → Bool) (k : Nat) (F : Nat → Int) : Prop := (∀ a, a < s → 1 ≤ F a ∧ F a ≤ 268435456) ∧ (∀ a, a < s → F a < 268435456 → ∃ d : Nat, F a = ((d + 1 : Nat) : Int) ∧ m_wk (m_ed s c al) (d + 1) a k)
def m_ps (s : Nat) (c : Nat → Nat → Int) (al : Nat → Bool) (k : Nat) (F0 F : Nat → Int) (a b : Nat) (v : Int) : Prop := (v = 0 ∧ (∀ i, i < s → F i = F0 i) ∧ ∀ a' b', (a' < a ∨ (a' = a ∧ b' < b)) → m_ed s c al a' b' → F a' ≤ (if b' = k then 1 else F b' + 1)) ∨ (v = 1 ∧ m_sum F s < m_sum F0 s)
theorem m_ps.r {s k a b : Nat} {c : Nat → Nat → Int} {al : Nat → Bool} {F0 F : Nat → Int} {v : Int} (h : m_ps s c al k F0 F a b v) : 0 ≤ v ∧ v ≤ 1 := by
  rcases h with h | h <;> omega
theorem m_ps.skip {s k a b : Nat} {c : Nat → Nat → Int} {al : Nat → Bool} {F0 F : Nat → Int} {v : Int} (h : m_ps s c al k F0 F a b v) (hn : m_ed s c al a b → F a ≤ (if b = k then 1 else F b + 1)) : m_ps s c al k F0 F a (b + 1) v := by
  rcases h with ⟨h1, h2, h3⟩ | h
  · refine Or.inl ⟨h1, h2, fun a' b' hl he => ?_⟩
    by_cases q : a' = a ∧ b' = b
    · obtain ⟨rfl, rfl⟩ := q; exact hn he
    · exact h3 a' b' (by omega) he
  · exact Or.inr h
theorem m_ps.row {s k a : Nat} {c : Nat → Nat → Int} {al : Nat → Bool} {F0 F : Nat → Int} {v : Int} (h : m_ps s c al k F0 F a s v) : m_ps s c al k F0 F (a + 1) 0 v := by
  rcases h with ⟨h1, h2, h3⟩ | h
  · refine Or.inl ⟨h1, h2, fun a' b' hl he => h3 a' b' ?_ he⟩
    have := he.2.1
    omega
  · exact Or.inr h
theorem m_ps.sum {s k a b : Nat} {c : Nat → Nat → Int} {al : Nat → Bool} {F0 F : Nat → Int} {v : Int} (h : m_ps s c al k F0 F a b v) : m_sum F s ≤ m_sum F0 s := by
  rcases h with ⟨_, h2, _⟩ | h
  · rw [m_sum_congr h2]; exact Int.le_refl _
  · omega
theorem m_snd.set {s k a b : Nat} {c : Nat → Nat → Int} {al : Nat → Bool} {F F' : Nat → Int} {v : Int} (h : m_snd s c al k F) (he : m_ed s c al a b) (hv : v = (if b = k then 1 else F b + 1)) (hlt : v < F a) (e : F' a = v) (e2 : ∀ i, i ≠ a → F' i = F i) : m_snd s c al k F' := by
  have hb := h.1 b he.2.1
  have ha := h.1 a he.1
  constructor
  · intro i hi
    by_cases q : i = a
    · subst q; rw [e, hv]; rw [hv] at hlt; split at hlt <;> split <;> omega
    · rw [e2 i q]; exact h.1 i hi
  · intro i hi hF
    by_cases q : i = a
    · subst q
      rw [e] at hF ⊢
      by_cases hbk : b = k
      · subst hbk
        rw [if_pos rfl] at hv
        exact ⟨0, by omega, b, he, rfl⟩
      · rw [if_neg hbk] at hv
        obtain ⟨d, d1, d2⟩ := h.2 b he.2.1 (by omega)
        exact ⟨d + 1, by omega, b, he, d2⟩
    · rw [e2 i q] at hF ⊢; exact h.2 i hi hF
theorem m_sum_nn {f : Nat → Int} : ∀ {k : Nat}, (∀ i, i < k → 0 ≤ f i) → 0 ≤ m_sum f k
  | 0, _ => Int.le_refl _
  | k + 1, h => by have := m_sum_nn (k := k) (fun i hi => h i (by omega)); have := h k (by omega); rw [m_sum]; omega
section RINGM
variable {E : g_E} {l : Launch} {sh : List g_Sh} {D : g_D} {s : Nat} {c : Nat → Nat → Int} {al : Nat → Bool}
theorem l_X12_far45 {K : g_D → Prop} {k a : Nat} {F0 : Nat → Int} {D0 : g_D} (hs : s ≤ 20) (ha : a < s) (h14 : D0 208 14 = s) (hA : m_ahd D0 s c) (hal : m_alD D0 s al)
    (kk : ∀ (D' : g_D) (v : Int), (∀ i, i ≠ 221 → D' i = D0 i) → m_snd s c al k (D' 221) → m_ps s c al k F0 (D' 221) (a + 1) 0 v → n_X12_laysFarTo E l D' 34 [some (g_R 208), some (g_I k), some (g_I v), some (g_I ((a + 1 : Nat) : Int)), none, none] K) :
    ∀ (q b : Nat) (D : g_D) (v : Int), s - b = q → b ≤ s → (∀ i, i ≠ 221 → D i = D0 i) → m_snd s c al k (D 221) → m_ps s c al k F0 (D 221) a b v → n_X12_laysFarTo E l D 45 [some (g_R 208), some (g_I k), some (g_I v), some (g_I a), some (g_I b), none] K := by
  intro q
  induction q with
  | zero =>
    intro b D v hq hb hf hS hP
    obtain rfl : b = s := by omega
    have h1 : D 208 14 = b := by rw [hf 208 (by decide)]; exact h14
    refine s_X12_laysFarTo_45 (fun _ _ _ _ _ => ⟨fun _ => ⟨⟨by omega, by omega⟩, ?_⟩, fun h => (by omega : False).elim⟩)
    rw [g_cast1]
    exact kk D v hf hS hP.row
  | succ q ih =>
    intro b D v hq hb hf hS hP
    have h1 : D 208 14 = s := by rw [hf 208 (by decide)]; exact h14
    have e1 : (40 * (a : Int) + b).toNat = 40 * a + b := by omega
    have ea : D 222 a = g_b (al a) := by rw [hf 222 (by decide)]; exact hal a ha
    have eb : D 222 b = g_b (al b) := by rw [hf 222 (by decide)]; exact hal b (by omega)
    have eh : D 220 (40 * a + b) = g_b (m_ah c a b) := by rw [hf 220 (by decide)]; exact hA a b ha (by omega)
    have ra := hS.1 a ha
    have rb := hS.1 b (by omega)
    have skip : (m_ed s c al a b → D 221 a ≤ (if b = k then 1 else D 221 b + 1)) → n_X12_laysFarTo E l D 45 [some (g_R 208), some (g_I k), some (g_I v), some (g_I a), some (g_I ((b : Int) + 1)), none] K := by
      intro hn
      rw [g_cast1]
      exact ih (b + 1) D v (by omega) (by omega) hf hS (hP.skip hn)
    have put : ∀ (x : Int) (D1 : g_D), m_ed s c al a b → x = (if b = k then 1 else D 221 b + 1) → x < D 221 a → D1 = g_up D 221 a x → n_X12_laysFarTo E l D1 45 [some (g_R 208), some (g_I k), some (g_I 1), some (g_I a), some (g_I ((b : Int) + 1)), none] K := by
      intro x D1 he hx hlt hD1
      rw [g_cast1]
      have p1 : D1 221 a = x := by rw [hD1, g_up_eq]
      have p2 : ∀ i, i ≠ a → D1 221 i = D 221 i := fun i hi => by rw [hD1, g_up_at hi]
      refine ih (b + 1) D1 1 (by omega) (by omega) (fun i hi => by rw [hD1, g_up_ne hi]; exact hf i hi) (hS.set he hx hlt p1 p2) (Or.inr ⟨rfl, ?_⟩)
      have := hP.sum
      have := m_sum_at (f := D1 221) (g := D 221) (d := a) (k := s) ha (fun i _ hi => p2 i hi)
      rw [p1] at this
      omega
    refine s_X12_laysFarTo_45 (fun _ _ _ _ _ => ⟨fun h => (by omega : False).elim, fun _ => ⟨by omega, ?_⟩⟩)
    rw [Int.toNat_natCast, Int.toNat_natCast, e1, ea, eb, eh]
    refine ⟨fun h => ⟨⟨by omega, by omega⟩, skip (fun he => ?_)⟩, fun h => ⟨by omega, fun h2 => ⟨⟨by omega, by omega⟩, skip (fun he => ?_)⟩, fun h2 => ⟨⟨by omega, by omega⟩, ⟨by omega, by omega⟩, by omega, fun h3 => ⟨fun h4 => ⟨by omega, ⟨by omega, by omega⟩, by omega, fun h5 => ⟨by omega, fun D1 hD1 => ⟨⟨by omega, by omega⟩, put _ D1 ⟨ha, by omega, g_b_n0.mp h, g_b_n0.mp h2, g_b_n0.mp h3⟩ ?_ h5 hD1⟩⟩, fun h5 => ⟨⟨by omega, by omega⟩, skip (fun _ => ?_)⟩⟩, fun h4 => ⟨by omega, fun h5 => ⟨by omega, fun D1 hD1 => ⟨⟨by omega, by omega⟩, put _ D1 ⟨ha, by omega, g_b_n0.mp h, g_b_n0.mp h2, g_b_n0.mp h3⟩ ?_ h5 hD1⟩⟩, fun h5 => ⟨⟨by omega, by omega⟩, skip (fun _ => ?_)⟩⟩⟩, fun h3 => ⟨⟨by omega, by omega⟩, skip (fun he => ?_)⟩⟩⟩⟩
    · have := he.2.2.1; rw [g_b_0.mp h] at this; cases this
    · have := he.2.2.2.1; rw [g_b_0.mp h2] at this; cases this
    · rw [if_neg (by omega)]
    · rw [if_neg (by omega)]; omega
    · rw [if_pos (by omega)]
    · rw [if_pos (by omega)]; omega
    · rw [g_b_0] at h3; have := he.2.2.2.2; rw [h3] at this; exact absurd this (by decide)
theorem l_X12_far34 {K : g_D → Prop} {k : Nat} {F0 : Nat → Int} {D0 : g_D} (hs : s ≤ 20) (h14 : D0 208 14 = s) (hA : m_ahd D0 s c) (hal : m_alD D0 s al)
    (kk : ∀ (D' : g_D) (v : Int), (∀ i, i ≠ 221 → D' i = D0 i) → m_snd s c al k (D' 221) → m_ps s c al k F0 (D' 221) s 0 v → n_X12_laysFarTo E l D' 26 [some (g_R 208), some (g_I k), some (g_I v), none, none, none] K) :
    ∀ (q a : Nat) (D : g_D) (v : Int), s - a = q → a ≤ s → (∀ i, i ≠ 221 → D i = D0 i) → m_snd s c al k (D 221) → m_ps s c al k F0 (D 221) a 0 v → n_X12_laysFarTo E l D 34 [some (g_R 208), some (g_I k), some (g_I v), some (g_I a), none, none] K := by
  intro q
  induction q with
  | zero =>
    intro a D v hq ha hf hS hP
    obtain rfl : a = s := by omega
    have h1 : D 208 14 = a := by rw [hf 208 (by decide)]; exact h14
    exact s_X12_laysFarTo_34 (fun _ _ _ _ => ⟨fun _ => kk D v hf hS hP, fun h => (by omega : False).elim⟩)
  | succ q ih =>
    intro a D v hq ha hf hS hP
    have h1 : D 208 14 = s := by rw [hf 208 (by decide)]; exact h14
    refine s_X12_laysFarTo_34 (fun _ _ _ _ => ⟨fun h => (by omega : False).elim, fun _ => ?_⟩)
    exact l_X12_far45 hs (by omega) h14 hA hal (fun D' v' hf' hS' hP' => ih (a + 1) D' v' (by omega) (by omega) hf' hS' hP') s 0 D v rfl (Nat.zero_le _) hf hS hP
theorem l_X12_far26 {K : g_D → Prop} {k : Nat} {D0 : g_D} (hs : s ≤ 20) (h14 : D0 208 14 = s) (hA : m_ahd D0 s c) (hal : m_alD D0 s al)
    (kk : ∀ D' : g_D, (∀ i, i ≠ 221 → D' i = D0 i) → m_farP s c al k (D' 221) → K D') :
    ∀ (N : Nat) (D : g_D), (m_sum (D 221) s).toNat ≤ N → (∀ i, i ≠ 221 → D i = D0 i) → m_snd s c al k (D 221) → n_X12_laysFarTo E l D 26 [some (g_R 208), some (g_I k), some (g_I 1), none, none, none] K := by
  intro N
  induction N with
  | zero =>
    intro D hN hf hS
    refine s_X12_laysFarTo_26 (fun _ _ _ => ⟨fun h => (by omega : False).elim, fun _ => ?_⟩)
    refine l_X12_far34 (F0 := D 221) hs h14 hA hal (fun D' v hf' hS' hP' => ?_) s 0 D 0 rfl (Nat.zero_le _) hf hS (Or.inl ⟨rfl, fun _ _ => rfl, fun a' b' h => by omega⟩)
    have := m_sum_nn (f := D' 221) (k := s) (fun i hi => by have := hS'.1 i hi; omega)
    rcases hP' with ⟨h1, _, h3⟩ | h
    · exact s_X12_laysFarTo_26 (fun _ _ _ => ⟨fun _ => kk D' hf' ⟨hS'.1, hS'.2, fun a b he => h3 a b (Or.inl he.1) he⟩, fun h => (by omega : False).elim⟩)
    · omega
  | succ N ih =>
    intro D hN hf hS
    refine s_X12_laysFarTo_26 (fun _ _ _ => ⟨fun h => (by omega : False).elim, fun _ => ?_⟩)
    refine l_X12_far34 (F0 := D 221) hs h14 hA hal (fun D' v hf' hS' hP' => ?_) s 0 D 0 rfl (Nat.zero_le _) hf hS (Or.inl ⟨rfl, fun _ _ => rfl, fun a' b' h => by omega⟩)
    have := m_sum_nn (f := D' 221) (k := s) (fun i hi => by have := hS'.1 i hi; omega)
    rcases hP' with ⟨h1, _, h3⟩ | ⟨h1, h2⟩
    · exact s_X12_laysFarTo_26 (fun _ _ _ => ⟨fun _ => kk D' hf' ⟨hS'.1, hS'.2, fun a b he => h3 a b (Or.inl he.1) he⟩, fun h => (by omega : False).elim⟩)
    · rw [h1]
      exact ih D' (by omega) hf' hS'
theorem l_X12_far2 {K : g_D → Prop} {k : Nat} {D0 : g_D} (hs : s ≤ 20) (h14 : D0 208 14 = s) (hA : m_ahd D0 s c) (hal : m_alD D0 s al)
    (kk : ∀ D' : g_D, (∀ i, i ≠ 221 → D' i = D0 i) → m_farP s c al k (D' 221) → K D') :
    ∀ (q a : Nat) (D : g_D), s - a = q → a ≤ s → (∀ i, i ≠ 221 → D i = D0 i) → (∀ i, i < a → D 221 i = 268435456) → n_X12_laysFarTo E l D 2 [some (g_R 208), some (g_I k), some (g_I a), none, none, none] K := by
  intro q
  induction q with
  | zero =>
    intro a D hq ha hf hv
    obtain rfl : a = s := by omega
    have h1 : D 208 14 = a := by rw [hf 208 (by decide)]; exact h14
    exact s_X12_laysFarTo_2 (fun _ _ _ => ⟨fun _ => l_X12_far26 hs h14 hA hal kk _ D (Nat.le_refl _) hf ⟨fun i hi => by rw [hv i hi]; omega, fun i hi h => by rw [hv i hi] at h; omega⟩, fun h => (by omega : False).elim⟩)
  | succ q ih =>
    intro a D hq ha hf hv
    have h1 : D 208 14 = s := by rw [hf 208 (by decide)]; exact h14
    refine s_X12_laysFarTo_2 (fun _ _ _ => ⟨fun h => (by omega : False).elim, fun _ => ⟨by omega, fun D1 hD1 => ⟨⟨by omega, by omega⟩, ?_⟩⟩⟩)
    rw [Int.toNat_natCast] at hD1
    rw [g_cast1]
    refine ih (a + 1) D1 (by omega) (by omega) (fun i hi => by rw [hD1, g_up_ne hi]; exact hf i hi) (fun i hi => ?_)
    rw [hD1]
    by_cases e : i = a
    · rw [e, g_up_eq]
    · rw [g_up_at e]; exact hv i (by omega)
theorem c_X12_laysFarTo {K : g_D → Prop} {k : Nat} (hs : s ≤ 20) (h14 : D 208 14 = s) (hA : m_ahd D s c) (hal : m_alD D s al)
    (kk : ∀ D' : g_D, (∀ i, i ≠ 221 → D' i = D i) → m_farP s c al k (D' 221) → K D') : k_X12_laysFarTo E l D k K :=
  s_X12_laysFarTo (fun _ _ => l_X12_far2 hs h14 hA hal kk s 0 D rfl (Nat.zero_le _) (fun _ _ => rfl) (fun i h => absurd h (Nat.not_lt_zero i)))
theorem c_X12_isRinged {K : Int → g_D → Prop} {k : Nat} (hs : s ≤ 20) (hk : k < s) (h14 : D 208 14 = s) (hA : m_ahd D s c) (hal : m_alD D s al)
    (kk : ∀ D' : g_D, (∀ i, i ≠ 221 → D' i = D i) → m_farP s c al k (D' 221) → K (g_b (m_rgb s c al k)) D') : k_X12_isRinged E l D k K := by
  refine s_X12_isRinged (fun _ _ => c_X12_laysFarTo hs h14 hA hal (fun D' hf hF => ?_))
  have k1 := kk D' hf hF
  have hrg := hF.rg (by omega) hk
  refine ⟨by omega, ?_⟩
  rw [Int.toNat_natCast, hf 222 (by decide), hal k hk]
  refine ⟨fun h => ?_, fun h => ⟨by omega, fun h2 => ?_, fun h2 => ?_⟩⟩
  · rw [g_b_0] at h
    rw [show m_rgb s c al k = false from by rw [← Bool.not_eq_true, m_rgb_iff]; exact fun q => by have := q.al.2.1; rw [h] at this; cases this] at k1
    exact k1
  · rw [show m_rgb s c al k = false from by rw [← Bool.not_eq_true, m_rgb_iff, ← hrg]; omega] at k1
    exact k1
  · rw [m_rgb_iff.mpr (hrg.mp (by omega))] at k1
    exact k1
theorem l_X12_isAmongCopies {K : g_D → Prop} {x : Nat} {D0 : g_D} (hs : s ≤ 20) (hc : m_cmd D0 s c) (hx : x < 2 ^ 31)
    (kk : ∀ D' : g_D, (∀ i, i ≠ 222 → D' i = D0 i) → m_alD D' s (fun i => decide (c i 0 = 1) && !x.testBit i) → K D') :
    ∀ (q a : Nat) (D : g_D), s - a = q → a ≤ s → (∀ i, i ≠ 222 → D i = D0 i) → (∀ i, i < a → D 222 i = g_b (decide (c i 0 = 1) && !x.testBit i)) → n_X12_isAmongCopies E l D 2 [some (g_R 208), some (g_I x), some (g_I a)] K := by
  intro q
  induction q with
  | zero =>
    intro a D hq ha hf hv
    obtain rfl : a = s := by omega
    have h1 : D 208 14 = a := by rw [hf 208 (by decide)]; exact hc.1
    exact s_X12_isAmongCopies_2 (fun _ _ _ => ⟨fun _ => kk D hf hv, fun h => (by omega : False).elim⟩)
  | succ q ih =>
    intro a D hq ha hf hv
    have h1 : D 208 14 = s := by rw [hf 208 (by decide)]; exact hc.1
    have put : ∀ (b : Bool) (v : Int) (D1 : g_D), (decide (c a 0 = 1) && !x.testBit a) = b → v = g_b b → D1 = g_up D 222 a v → n_X12_isAmongCopies E l D1 2 [some (g_R 208), some (g_I x), some (g_I ((a : Int) + 1))] K := by
      intro b v D1 hb hvb hD1
      rw [g_cast1]
      refine ih (a + 1) D1 (by omega) (by omega) (fun i hi => by rw [hD1, g_up_ne hi]; exact hf i hi) (fun i hi => ?_)
      rw [hD1]
      by_cases e : i = a
      · rw [e, g_up_eq, hb, hvb]
      · rw [g_up_at e]; exact hv i (by omega)
    have eb : g_and (g_shr (x : Int) (a : Int)) 1 = if x.testBit a then 1 else 0 := by
      rw [show g_and (g_shr (x : Int) (a : Int)) 1 = g_and (g_ushr (x : Int) (a : Int)) 1 from ?_, g_bit_n hx (by omega)]
      unfold g_and g_shr g_ushr
      congr 1
      have hz : Int32.ofInt (x : Int) = nI x := g_ofN x
      have ha' : Int32.ofInt (a : Int) = nI a := g_ofN a
      rw [hz, ha', Int32.ofInt_toInt, Int32.ofInt_toInt]
      refine b_ext (fun i hi => ?_)
      rw [b_and, b_and, b_sshr a (by omega) _ hi, b_ushr a (by omega)]
      by_cases q : a + i < 32
      · rw [if_pos q]
      · rw [if_neg q, b_big (i := a + i) (by omega), bt_nI x (by decide), Nat.testBit_lt_two_pow hx]
    refine s_X12_isAmongCopies_2 (fun _ _ _ => ⟨fun h => (by omega : False).elim, fun _ => ⟨by omega, ?_⟩⟩)
    rw [Int.toNat_natCast, eb, hf 216 (by decide), (hc.2 a (by omega)).1]
    refine ⟨fun h => ⟨by omega, fun D1 hD1 => ⟨⟨by omega, by omega⟩, put false 0 D1 ?_ rfl hD1⟩⟩, fun h => ⟨fun h2 => ⟨by omega, fun D1 hD1 => ⟨⟨by omega, by omega⟩, put false 0 D1 ?_ rfl hD1⟩⟩, fun h2 => ⟨by omega, fun D1 hD1 => ⟨⟨by omega, by omega⟩, put true 1 D1 ?_ rfl hD1⟩⟩⟩⟩
    · rw [decide_eq_false h, Bool.false_and]
    · cases hb : x.testBit a
      · rw [hb] at h2; exact absurd rfl h2
      · rw [Bool.not_true, Bool.and_false]
    · cases hb : x.testBit a
      · rw [decide_eq_true h]; rfl
      · rw [hb] at h2; exact absurd h2 (by decide)
theorem c_X12_isAmongCopies {K : g_D → Prop} {x : Nat} (hs : s ≤ 20) (hc : m_cmd D s c) (hx : x < 2 ^ 31)
    (kk : ∀ D' : g_D, (∀ i, i ≠ 222 → D' i = D i) → m_alD D' s (fun i => decide (c i 0 = 1) && !x.testBit i) → K D') : k_X12_isAmongCopies E l D x K :=
  s_X12_isAmongCopies (fun _ _ => l_X12_isAmongCopies hs hc hx kk s 0 D rfl (Nat.zero_le _) (fun _ _ => rfl) (fun i h => absurd h (Nat.not_lt_zero i)))
end RINGM
