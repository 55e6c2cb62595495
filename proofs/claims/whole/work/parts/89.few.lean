section
theorem m_sum_mono {W : Nat → Int} : ∀ {a s : Nat}, a ≤ s → (∀ b, b < s → 0 ≤ W b) → m_sum W a ≤ m_sum W s
  | a, 0, h, _ => by rw [show a = 0 by omega]; exact Int.le_refl _
  | a, s + 1, h, hW => by
    by_cases e : a = s + 1
    · rw [e]; exact Int.le_refl _
    · have := m_sum_mono (a := a) (s := s) (by omega) (fun b hb => hW b (by omega))
      have := hW s (by omega)
      rw [m_sum]; omega
theorem m_cnt_ex {P : Nat → Bool} {k : Nat} : ∀ {n : Nat}, k < m_cnt P n → ∃ a, a < n ∧ P a = true ∧ m_cnt P a = k
  | 0, h => absurd h (Nat.not_lt_zero k)
  | n + 1, h => by
    rw [m_cnt] at h
    by_cases hk : k < m_cnt P n
    · obtain ⟨a, a1, a2, a3⟩ := m_cnt_ex hk
      exact ⟨a, by omega, a2, a3⟩
    · split at h
      · rename_i hp
        exact ⟨n, by omega, hp, by omega⟩
      · omega
theorem g_bit_s {x a : Nat} (hx : x < 2 ^ 31) (ha : a < 31) : g_and (g_shr (x : Int) (a : Int)) 1 = if x.testBit a then 1 else 0 := by
  rw [show g_and (g_shr (x : Int) (a : Int)) 1 = g_and (g_ushr (x : Int) (a : Int)) 1 from ?_, g_bit_n hx (by omega)]
  unfold g_and g_shr g_ushr
  congr 1
  have hz : Int32.ofInt (x : Int) = nI x := g_ofN x
  have ha' : Int32.ofInt (a : Int) = nI a := g_ofN a
  rw [hz, ha', Int32.ofInt_toInt, Int32.ofInt_toInt]
  refine b_ext (fun i hi => ?_)
  rw [b_and, b_and, b_sshr a (by omega) _ hi, b_ushr a (by omega)]
  by_cases q : a + i < 32
  · rw [if_pos q]
  · rw [if_neg q, b_big (i := a + i) (by omega), bt_nI x (by decide), Nat.testBit_lt_two_pow hx]
def m_W (c : Nat → Nat → Int) (v : Int) (b : Nat) : Int := if 2 ≤ v then c b 3 else 1
/-- promise 18: what fewest answers -/
noncomputable def m_fA (s : Nat) (c : Nat → Nat → Int) (v : Int) : Int × Nat := m_few s c (m_W c v) 268435456 (2 ^ m_cnt (m_R s c) s)
noncomputable def a_few (s : Nat) (c : Nat → Nat → Int) (v : Int) : Int := if v % 2 = 0 then (m_fA s c v).1 else ((m_fA s c v).2 : Nat)
/-- commands as they may be: of how many cells -/
def m_len (s : Nat) (c : Nat → Nat → Int) : Prop := (∀ b, b < s → 1 ≤ c b 3) ∧ m_sum (fun b => c b 3) s ≤ 40
theorem m_inv.len {n m s : Nat} {c : Nat → Nat → Int} (h : m_inv n m s c) (hm : m ≤ 40) : m_len s c := ⟨fun b hb => (h.2.2.1 b hb).2.2.2.1, by rw [h.2.2.2.1]; omega⟩
theorem m_len.le {s b : Nat} {c : Nat → Nat → Int} (h : m_len s c) (hb : b < s) : c b 3 ≤ 40 := by
  have h1 := m_sum_mono (W := fun b => c b 3) (a := b + 1) (s := s) (by omega) (fun b hb => by have := h.1 b hb; omega)
  have h2 := m_sum_nn (f := fun b => c b 3) (k := b) (fun i hi => by have := h.1 i (by omega); omega)
  have h3 := h.2
  rw [m_sum] at h1

  omega
theorem m_cost_1 {s x : Nat} (hs : s ≤ 20) : 0 ≤ m_cost (fun _ => 1) s x ∧ m_cost (fun _ => 1) s x ≤ 20 := by
  have e : ∀ k : Nat, m_sum (fun _ => 1) k = k := by
    intro k
    induction k with
    | zero => rfl
    | succ k ih => rw [m_sum, ih]; omega
  exact m_cost_rng (fun _ _ => by decide) (by rw [e]; omega)
theorem m_cost_3 {s x : Nat} {c : Nat → Nat → Int} (h : m_len s c) : 0 ≤ m_cost (fun b => c b 3) s x ∧ m_cost (fun b => c b 3) s x ≤ 40 := m_cost_rng (fun b hb => by have := h.1 b hb; omega) h.2
section FEW
variable {E : g_E} {l : Launch} {sh : List g_Sh} {D : g_D} {s : Nat} {c : Nat → Nat → Int}
theorem l_X6_ws {K : g_D → Prop} {k r1 x : Nat} {v2 v4 : Int} (hk : is_Rings g_SH k) (hr1 : is_Script g_SH r1) (hs : s ≤ 20) (hc : x_cmd D r1 s c) (hL : m_len s c) (hx : x < 2 ^ 20)
    (kk : n_X6_weighSet E l D 12 [some (g_R k), some (g_R r1), some (g_I v2), some (g_I x), some (g_I v4), some (g_I (m_cost (fun b => c b 3) s x)), some (g_I s)] K) :
    ∀ q a : Nat, s - a = q → a ≤ s → n_X6_weighSet E l D 12 [some (g_R k), some (g_R r1), some (g_I v2), some (g_I x), some (g_I v4), some (g_I (m_cost (fun b => c b 3) a x)), some (g_I a)] K := by
  intro q
  induction q with
  | zero =>
    intro a hq ha
    obtain rfl : a = s := by omega
    exact kk
  | succ q ih =>
    intro a hq ha
    have ih' := ih (a + 1) (by omega) (by omega)
    have e : m_cost (fun b => c b 3) (a + 1) x = m_cost (fun b => c b 3) a x + (if x.testBit a = true then c a 3 else 0) := rfl
    have h1 := hc.1
    have h2 := (hc.2 a (by omega)).2.2.2
    have h3 := hL.le (b := a) (by omega)
    have h4 := hL.1 a (by omega)
    have h5 := m_cost_rng (x := x) (W := fun b => c b 3) (s := a) (B := 40) (fun b hb => by have := hL.1 b (by omega); omega) (Int.le_trans (m_sum_mono (by omega) (fun b hb => by have := hL.1 b hb; omega)) hL.2)
    rw [← g_cast1, e] at ih'
    refine s_X6_weighSet_12 hk hr1 (fun _ _ _ _ _ _ => ⟨fun h => (by omega : False).elim, fun _ => c_hasBit (by omega) (by omega) (fun _ => ⟨fun h => ⟨⟨by omega, by omega⟩, ⟨by omega, by omega⟩, ?_⟩, fun h => ⟨by omega, ?_⟩⟩)⟩)
    · rw [g_b_0.mp h, if_neg Bool.false_ne_true] at ih'
      exact ih'
    · rw [Int.toNat_natCast, h2]
      rw [g_b_n0.mp h, if_pos rfl] at ih'
      exact ⟨⟨by omega, by omega⟩, ⟨by omega, by omega⟩, ih'⟩
theorem m_cnt32 {x : Nat} (hs : s ≤ 20) (hx : x < 2 ^ s) : ((m_cnt x.testBit 32 : Nat) : Int) = m_cost (fun _ => 1) s x := by
  rw [m_cnt_ext (s := s) (by omega) (fun i hi => Nat.testBit_lt_two_pow (Nat.lt_of_lt_of_le hx (Nat.pow_le_pow_right (by decide) hi))), m_cnt_sum]
  rfl
theorem c_X6_weighSet {K : g_D → Prop} {k r1 x : Nat} (hk : is_Rings g_SH k) (hr1 : is_Script g_SH r1) (hs : s ≤ 20) (hc : x_cmd D r1 s c) (hL : m_len s c) (hn : x_nx D r1 s c) (hx : x < 2 ^ s)
    (kk : ∀ D' : g_D, (∀ i, i ≠ k → D' i = D i) → (∀ j, j < 5 → D' k j = D k j) →
      D' k 5 = (if m_cost (fun _ => 1) s x < D k 5 ∧ m_acyb s c (fun b => m_cp c b && !x.testBit b) = true then m_cost (fun _ => 1) s x else D k 5) →
      D' k 6 = (if m_cost (fun _ => 1) s x < D k 5 ∧ m_acyb s c (fun b => m_cp c b && !x.testBit b) = true then (x : Int) else D k 6) →
      D' k 7 = (if m_cost (fun b => c b 3) s x < D k 7 ∧ m_acyb s c (fun b => m_cp c b && !x.testBit b) = true then m_cost (fun b => c b 3) s x else D k 7) →
      D' k 8 = (if m_cost (fun b => c b 3) s x < D k 7 ∧ m_acyb s c (fun b => m_cp c b && !x.testBit b) = true then (x : Int) else D k 8) → K D') : k_X6_weighSet E l D k r1 ((m_bits (m_R s c) s : Nat) : Int) x K := by
  have h20 : x < 2 ^ 20 := Nat.lt_of_lt_of_le hx (Nat.pow_le_pow_right (by decide) hs)
  refine s_X6_weighSet hk hr1 (fun _ _ _ => c_bitCount (by omega) (fun _ => ?_))
  rw [m_cnt32 hs hx]
  have hM : m_bits (m_R s c) s < 2 ^ 20 := Nat.lt_of_lt_of_le (m_bits_lt s) (Nat.pow_le_pow_right (by decide) hs)
  have ey : m_acyb s c (m_bits (m_R s c) s ^^^ (m_bits (m_R s c) s &&& x)).testBit = m_acyb s c (fun b => m_cp c b && !x.testBit b) := by
    rw [← m_acyb_ring]
    congr 1
    funext b
    rw [Nat.testBit_xor, Nat.testBit_and, m_bits_bit]
    cases hR : m_R s c b
    · simp
    · rw [decide_eq_true (m_R_lt hR)]; cases x.testBit b <;> rfl
  have hy : m_bits (m_R s c) s ^^^ (m_bits (m_R s c) s &&& x) < 2 ^ 20 := Nat.xor_lt_two_pow hM (Nat.lt_of_le_of_lt Nat.and_le_left hM)
  refine l_X6_ws hk hr1 hs hc hL h20 ?_ s 0 rfl (Nat.zero_le _)
  have h1 := hc.1
  have k0 : ∀ D' : g_D, D' = D → (¬ (m_cost (fun _ => 1) s x < D k 5 ∧ m_acyb s c (fun b => m_cp c b && !x.testBit b) = true)) → (¬ (m_cost (fun b => c b 3) s x < D k 7 ∧ m_acyb s c (fun b => m_cp c b && !x.testBit b) = true)) → K D' := by
    intro D' e a b
    subst e
    rw [if_neg a, if_neg a, if_neg b, if_neg b] at kk
    exact kk D' (fun _ _ => rfl) (fun _ _ => rfl) rfl rfl rfl rfl
  have fin : (¬ g_b (m_acyb s c (fun b => m_cp c b && !x.testBit b)) = 0 → (D k 5 ≤ m_cost (fun _ => 1) s x → (D k 7 ≤ m_cost (fun b => c b 3) s x → K D) ∧ (¬ D k 7 ≤ m_cost (fun b => c b 3) s x → ∀ D2, D2 = g_up D k 7 (m_cost (fun b => c b 3) s x) → ∀ D3, D3 = g_up D2 k 8 (x : Int) → K D3)) ∧ (¬ D k 5 ≤ m_cost (fun _ => 1) s x → ∀ D4, D4 = g_up D k 5 (m_cost (fun _ => 1) s x) → ∀ D5, D5 = g_up D4 k 6 (x : Int) → (D5 k 7 ≤ m_cost (fun b => c b 3) s x → K D5) ∧ (¬ D5 k 7 ≤ m_cost (fun b => c b 3) s x → ∀ D6, D6 = g_up D5 k 7 (m_cost (fun b => c b 3) s x) → ∀ D7, D7 = g_up D6 k 8 (x : Int) → K D7))) ∧ (g_b (m_acyb s c (fun b => m_cp c b && !x.testBit b)) = 0 → K D) := by
    refine ⟨fun h => ?_, fun h => k0 D rfl (fun q => by rw [g_b_0.mp h] at q; exact absurd q.2 Bool.false_ne_true) (fun q => by rw [g_b_0.mp h] at q; exact absurd q.2 Bool.false_ne_true)⟩
    have ho := g_b_n0.mp h
    refine ⟨fun a => ⟨fun b => k0 D rfl (fun q => by omega) (fun q => by omega), fun b D2 e2 D3 e3 => ?_⟩, fun a D4 e4 D5 e5 => ?_⟩
    · subst e2 e3
      rw [if_neg (by omega), if_neg (by omega), if_pos ⟨by omega, ho⟩, if_pos ⟨by omega, ho⟩] at kk
      refine kk _ (fun i hi => ?_) (fun j hj => ?_) ?_ ?_ ?_ ?_ <;> simp (disch := omega) only [g_up_ne, g_up_at, g_up_eq, ne_eq, not_false_eq_true]
    · have e7 : D5 k 7 = D k 7 := by subst e4 e5; simp (disch := omega) only [g_up_ne, g_up_at, g_up_eq, ne_eq, not_false_eq_true]
      rw [e7]
      refine ⟨fun b => ?_, fun b D6 e6 D7 e7 => ?_⟩
      · subst e4 e5
        rw [if_pos ⟨by omega, ho⟩, if_pos ⟨by omega, ho⟩, if_neg (by omega), if_neg (by omega)] at kk
        refine kk _ (fun i hi => ?_) (fun j hj => ?_) ?_ ?_ ?_ ?_ <;> simp (disch := omega) only [g_up_ne, g_up_at, g_up_eq, ne_eq, not_false_eq_true]
      · subst e4 e5 e6 e7
        rw [if_pos ⟨by omega, ho⟩, if_pos ⟨by omega, ho⟩, if_pos ⟨by omega, ho⟩, if_pos ⟨by omega, ho⟩] at kk
        refine kk _ (fun i hi => ?_) (fun j hj => ?_) ?_ ?_ ?_ ?_ <;> simp (disch := omega) only [g_up_ne, g_up_at, g_up_eq, ne_eq, not_false_eq_true]
  refine s_X6_weighSet_12 hk hr1 (fun _ _ _ _ _ _ => ⟨fun _ => ⟨fun h => ?_, fun h => ⟨fun h2 => k0 D rfl (fun q => by omega) (fun q => by omega), fun h2 => ?_⟩⟩, fun h => (by omega : False).elim⟩)
  · rw [g_andn_n (by omega)]
    exact c_X6_isWithoutRing hr1.2.2.2.2.2.1 hs hy hn (fun _ => by rw [ey]; exact fin)
  · rw [g_andn_n (by omega)]
    exact c_X6_isWithoutRing hr1.2.2.2.2.2.1 hs hy hn (fun _ => by rw [ey]; exact fin)
/-- what is weighed, in the class's fields -/
def x_wg (D : g_D) (k : Nat) (p q : Int × Nat) (F : Int) : Prop := D k 5 = p.1 ∧ (p.1 < F → D k 6 = (p.2 : Nat)) ∧ D k 7 = q.1 ∧ (q.1 < F → D k 8 = (q.2 : Nat))
noncomputable def x_wgd (D : g_D) (k : Nat) (s : Nat) (c : Nat → Nat → Int) : Prop := D k 5 = (m_fA s c 0).1 ∧ D k 6 = ((m_fA s c 0).2 : Nat) ∧ D k 7 = (m_fA s c 2).1 ∧ D k 8 = ((m_fA s c 2).2 : Nat)
theorem m_W0 {c : Nat → Nat → Int} : m_W c 0 = fun _ => 1 := by funext b; unfold m_W; rw [if_neg (by decide)]
theorem m_W2 {c : Nat → Nat → Int} : m_W c 2 = fun b => c b 3 := by funext b; unfold m_W; rw [if_pos (by decide)]
theorem l_X6_weigh {K : g_D → Prop} {k r1 : Nat} {D0 : g_D} (hk : is_Rings g_SH k) (hr1 : is_Script g_SH r1) (hkr : k = r1 + 6) (hs : s ≤ 20) (hc : x_cmd D0 r1 s c) (hL : m_len s c) (hn : x_nx D0 r1 s c)
    (kk : ∀ D' : g_D, (∀ i, i ≠ k → D' i = D0 i) → (∀ j, j < 5 → D' k j = D0 k j) → x_wgd D' k s c → K D') :
    ∀ (q i : Nat) (D : g_D), 2 ^ m_cnt (m_R s c) s - i = q → i ≤ 2 ^ m_cnt (m_R s c) s → (∀ i, i ≠ k → D i = D0 i) → (∀ j, j < 5 → D k j = D0 k j) → x_wg D k (m_few s c (fun _ => 1) 1048576 i) (m_few s c (fun b => c b 3) 1048576 i) 1048576 → n_X6_weigh E l D 51 [some (g_R k), some (g_R r1), some (g_I ((m_bits (m_R s c) s : Nat) : Int)), some (g_I ((2 ^ m_cnt (m_R s c) s : Nat) : Int)), some (g_I ((m_S (m_R s c) s i : Nat) : Int)), some (g_I i)] K := by
  have hmany : m_cnt (m_R s c) s ≤ 20 := Nat.le_trans (m_cnt_le s) hs
  have hpow : 2 ^ m_cnt (m_R s c) s ≤ 2 ^ 20 := Nat.pow_le_pow_right (by decide) hmany
  have hpos : 0 < 2 ^ m_cnt (m_R s c) s := Nat.two_pow_pos _
  have hM : m_bits (m_R s c) s < 2 ^ 20 := Nat.lt_of_lt_of_le (m_bits_lt s) (Nat.pow_le_pow_right (by decide) hs)
  have hS : ∀ i, m_S (m_R s c) s i < 2 ^ 20 := fun i => Nat.lt_of_lt_of_le m_S_lt (Nat.pow_le_pow_right (by decide) hs)
  intro q
  induction q with
  | zero =>
    intro i D hq hi hf hf2 hw
    obtain rfl : i = 2 ^ m_cnt (m_R s c) s := by omega
    refine s_X6_weigh_51 hk hr1 (fun _ _ _ _ _ => ⟨fun _ => kk D hf hf2 ?_, fun h => (by omega : False).elim⟩)
    obtain ⟨w1, w2, w3, w4⟩ := hw
    have e1 := m_fwm_eq (S := m_S (m_R s c) s) (ok := m_wok s c) (co := m_wco s c (fun _ => 1)) (F := 1048576) (F' := 268435456) (fun i => by have := m_cost_1 (x := m_S (m_R s c) s i) hs; unfold m_wco; omega) (fun i => by have := m_cost_1 (x := m_S (m_R s c) s i) hs; unfold m_wco; omega) (Nat.sub_lt hpos Nat.zero_lt_one) (m_wok_full (s := s) (c := c))
    have e2 := m_fwm_eq (S := m_S (m_R s c) s) (ok := m_wok s c) (co := m_wco s c (fun b => c b 3)) (F := 1048576) (F' := 268435456) (fun i => by have := m_cost_3 (x := m_S (m_R s c) s i) hL; unfold m_wco; omega) (fun i => by have := m_cost_3 (x := m_S (m_R s c) s i) hL; unfold m_wco; omega) (Nat.sub_lt hpos Nat.zero_lt_one) (m_wok_full (s := s) (c := c))
    have f1 : m_few s c (fun _ => 1) 1048576 (2 ^ m_cnt (m_R s c) s) = m_fA s c 0 := by unfold m_fA; rw [m_W0]; exact e1.1
    have f2 : m_few s c (fun b => c b 3) 1048576 (2 ^ m_cnt (m_R s c) s) = m_fA s c 2 := by unfold m_fA; rw [m_W2]; exact e2.1
    have g1 : (m_few s c (fun _ => 1) 1048576 (2 ^ m_cnt (m_R s c) s)).1 < 1048576 := e1.2
    have g2 : (m_few s c (fun b => c b 3) 1048576 (2 ^ m_cnt (m_R s c) s)).1 < 1048576 := e2.2
    have w2' := w2 g1
    have w4' := w4 g2
    rw [f1] at w1 w2'
    rw [f2] at w3 w4'
    exact ⟨w1, w2', w3, w4'⟩
  | succ q ih =>
    intro i D hq hi hf hf2 hw
    have hc1 : x_cmd D r1 s c := by unfold x_cmd at *; rw [hf r1 (by omega), hf (r1 + 1) (by omega), hf (r1 + 2) (by omega), hf (r1 + 3) (by omega), hf (r1 + 4) (by omega)]; exact hc
    have hn1 : x_nx D r1 s c := by unfold x_nx at *; rw [hf (r1 + 5) (by omega)]; exact hn
    have hSi := hS i
    refine s_X6_weigh_51 hk hr1 (fun _ _ _ _ _ => ⟨fun h => (by omega : False).elim, fun _ => c_X6_weighSet hk hr1 hs hc1 hL hn1 m_S_lt (fun D1 a1 a2 b5 b6 b7 b8 => ⟨⟨by omega, by omega⟩, ⟨by omega, by omega⟩, ?_⟩)⟩)
    rw [g_next hs, g_cast1]
    refine ih (i + 1) D1 (by omega) (by omega) (fun j hj => by rw [a1 j hj]; exact hf j hj) (fun j hj => by rw [a2 j hj]; exact hf2 j hj) ?_
    obtain ⟨w1, w2, w3, w4⟩ := hw
    have s1 : m_few s c (fun _ => 1) 1048576 (i + 1) = if m_cost (fun _ => 1) s (m_S (m_R s c) s i) < (m_few s c (fun _ => 1) 1048576 i).1 ∧ m_acyb s c (fun b => m_cp c b && !(m_S (m_R s c) s i).testBit b) = true then (m_cost (fun _ => 1) s (m_S (m_R s c) s i), m_S (m_R s c) s i) else m_few s c (fun _ => 1) 1048576 i := rfl
    have s3 : m_few s c (fun b => c b 3) 1048576 (i + 1) = if m_cost (fun b => c b 3) s (m_S (m_R s c) s i) < (m_few s c (fun b => c b 3) 1048576 i).1 ∧ m_acyb s c (fun b => m_cp c b && !(m_S (m_R s c) s i).testBit b) = true then (m_cost (fun b => c b 3) s (m_S (m_R s c) s i), m_S (m_R s c) s i) else m_few s c (fun b => c b 3) 1048576 i := rfl
    rw [w1] at b5 b6
    rw [w3] at b7 b8
    rw [s1, s3]
    refine ⟨?_, ?_, ?_, ?_⟩
    · rw [b5]; split <;> rfl
    · rw [b6]
      split
      · exact fun _ => rfl
      · exact w2
    · rw [b7]; split <;> rfl
    · rw [b8]
      split
      · exact fun _ => rfl
      · exact w4
theorem c_X6_weigh {K : g_D → Prop} {k r1 : Nat} (hk : is_Rings g_SH k) (hr1 : is_Script g_SH r1) (hkr : k = r1 + 6) (hs : s ≤ 20) (hc : x_cmd D r1 s c) (hL : m_len s c) (hn : x_nx D r1 s c) (hw : ¬ D k 4 = 0 → x_wgd D k s c)
    (kk : ∀ D' : g_D, (∀ i, i ≠ k → i ≠ k + 1 → D' i = D i) → (¬ D' k 4 = 0) → x_wgd D' k s c → K D') : k_X6_weigh E l D k r1 K := by
  refine s_X6_weigh hk hr1 (fun _ => ⟨fun h D1 hD1 => ?_, fun h => kk D (fun _ _ _ => rfl) h (hw h)⟩)
  have f1 : ∀ i, i ≠ k → D1 i = D i := fun i hi => by rw [hD1, g_up_ne hi]
  have hc1 : x_cmd D1 r1 s c := by unfold x_cmd at *; rw [f1 r1 (by omega), f1 (r1 + 1) (by omega), f1 (r1 + 2) (by omega), f1 (r1 + 3) (by omega), f1 (r1 + 4) (by omega)]; exact hc
  have hn1 : x_nx D1 r1 s c := by unfold x_nx at *; rw [f1 (r1 + 5) (by omega)]; exact hn
  have hb : m_bits (fun i => decide (c i 0 = 1)) s < 2 ^ 20 := Nat.lt_of_lt_of_le (m_bits_lt s) (Nat.pow_le_pow_right (by decide) hs)
  refine c_X7_movers hr1 hs hc1 (fun _ => c_X6_members hk hr1.2.2.2.2.2.1 (by omega) hs hb hn1 (fun D2 f2 => ?_))
  have eR : m_bits (m_rgb s c (m_bits (fun i => decide (c i 0 = 1)) s).testBit) 20 = m_bits (m_R s c) s := by
    have e0 : m_rgb s c (m_bits (fun i => decide (c i 0 = 1)) s).testBit = m_R s c := by
      funext b
      unfold m_R
      exact m_rgb_congr (fun x hx => by rw [m_bits_bit, decide_eq_true hx, Bool.true_and]; rfl) b
    rw [e0]
    refine Nat.eq_of_testBit_eq (fun b => ?_)
    rw [m_bits_bit, m_bits_bit]
    cases hR : m_R s c b
    · rw [Bool.and_false, Bool.and_false]
    · rw [decide_eq_true (m_R_lt hR), decide_eq_true (by have := m_R_lt hR; omega)]
  rw [eR]
  intro _ D4 hD4 D5 hD5
  have hM : m_bits (m_R s c) s < 2 ^ 20 := Nat.lt_of_lt_of_le (m_bits_lt s) (Nat.pow_le_pow_right (by decide) hs)
  refine c_bitCount (by omega) (fun _ => ?_)
  have hmany : m_cnt (m_R s c) s ≤ 20 := Nat.le_trans (m_cnt_le s) hs
  have ec : m_cnt (m_bits (m_R s c) s).testBit 32 = m_cnt (m_R s c) s := by
    rw [m_cnt_ext (s := s) (by omega) (fun i hi => by rw [m_bits_bit, decide_eq_false (by omega), Bool.false_and])]
    exact m_cnt_congr (fun i hi => by rw [m_bits_bit, decide_eq_true hi, Bool.true_and])
  rw [ec, g_shl1_n (by omega)]
  have f5 : ∀ i, i ≠ k → i ≠ k + 1 → D5 i = D i := fun i h1 h2 => by rw [hD5, g_up_ne h1, hD4, g_up_ne h1, f2 i h2, f1 i h1]
  have hc5 : x_cmd D5 r1 s c := by unfold x_cmd at *; rw [f5 r1 (by omega) (by omega), f5 (r1 + 1) (by omega) (by omega), f5 (r1 + 2) (by omega) (by omega), f5 (r1 + 3) (by omega) (by omega), f5 (r1 + 4) (by omega) (by omega)]; exact hc
  have hn5 : x_nx D5 r1 s c := by unfold x_nx at *; rw [f5 (r1 + 5) (by omega) (by omega)]; exact hn
  have e0 : m_S (m_R s c) s 0 = 0 := Nat.eq_of_testBit_eq (fun b => by rw [m_S_bit, Nat.zero_testBit, Nat.zero_testBit, Bool.and_false, Bool.and_false])
  have h54 : D5 k 4 = 1 := by rw [hD5, g_up_at (by decide), hD4, g_up_at (by decide), f2 k (by omega), hD1, g_up_eq]
  have main := l_X6_weigh (E := E) (l := l) hk hr1 hkr hs hc5 hL hn5 (K := K) (fun D' a1 a2 a3 => kk D' (fun i h1 h2 => by rw [a1 i h1]; exact f5 i h1 h2) (by rw [a2 4 (by decide), h54]; decide) a3) _ 0 D5 rfl (Nat.zero_le _) (fun _ _ => rfl) (fun _ _ => rfl) ⟨by rw [hD5, g_up_at (by decide), hD4, g_up_eq]; rfl, fun q => absurd (show (1048576 : Int) < 1048576 from q) (by decide), by rw [hD5, g_up_eq]; rfl, fun q => absurd (show (1048576 : Int) < 1048576 from q) (by decide)⟩
  rw [e0] at main
  exact main
/-- the model -/
theorem l_X12_laysRinged {K : Int → g_D → Prop} {D0 : g_D} (hs : s ≤ 20) (h14 : D0 208 14 = s) (hA : m_ahd D0 s c) (hal : m_alD D0 s (m_cp c))
    (kk : ∀ D' : g_D, (∀ i, i ≠ 221 → i ≠ 223 → D' i = D0 i) → (∀ b, b < s → m_R s c b = true → D' 223 (m_cnt (m_R s c) b) = b) → K ((m_cnt (m_R s c) s : Nat) : Int) D') :
    ∀ (q a : Nat) (D : g_D), s - a = q → a ≤ s → (∀ i, i ≠ 221 → i ≠ 223 → D i = D0 i) → (∀ b, b < a → m_R s c b = true → D 223 (m_cnt (m_R s c) b) = b) → n_X12_laysRinged E l D 9 [some (g_R 208), some (g_I ((m_cnt (m_R s c) a : Nat) : Int)), some (g_I a)] K := by
  intro q
  induction q with
  | zero =>
    intro a D hq ha hf hv
    obtain rfl : a = s := by omega
    have h1 : D 208 14 = a := by rw [hf 208 (by decide) (by decide)]; exact h14
    exact s_X12_laysRinged_9 (fun _ _ _ => ⟨fun _ => kk D hf hv, fun h => (by omega : False).elim⟩)
  | succ q ih =>
    intro a D hq ha hf hv
    have h1 : D 208 14 = s := by rw [hf 208 (by decide) (by decide)]; exact h14
    have h2 : m_ahd D s c := by unfold m_ahd; rw [hf 220 (by decide) (by decide)]; exact hA
    have h3 : m_alD D s (m_cp c) := by unfold m_alD; rw [hf 222 (by decide) (by decide)]; exact hal
    have hle := m_cnt_le (P := m_R s c) a
    refine s_X12_laysRinged_9 (fun _ _ _ => ⟨fun h => (by omega : False).elim, fun _ => c_X12_isRinged hs (by omega) h1 h2 h3 (fun D1 f1 _ => ?_)⟩)
    show _ → (¬ g_b (m_R s c a) = 0 → _) ∧ (g_b (m_R s c a) = 0 → _)
    have eS : m_cnt (m_R s c) (a + 1) = if m_R s c a = true then m_cnt (m_R s c) a + 1 else m_cnt (m_R s c) a := rfl
    refine fun _ => ⟨fun h => ⟨by omega, fun D2 hD2 => ⟨⟨by omega, by omega⟩, ⟨by omega, by omega⟩, ?_⟩⟩, fun h => ⟨⟨by omega, by omega⟩, ?_⟩⟩
    · have hR := g_b_n0.mp h
      rw [Int.toNat_natCast] at hD2
      have ih' := ih (a + 1) D2 (by omega) (by omega) (fun i h1 h2 => by rw [hD2, g_up_ne h2, f1 i h1]; exact hf i h1 h2) (fun b hb hRb => ?_)
      · rw [eS, if_pos hR, ← g_cast1, ← g_cast1] at ih'
        exact ih'
      · rw [hD2]
        by_cases e : b = a
        · subst e; rw [g_up_eq]
        · rw [g_up_at (by have := m_cnt_below (P := m_R s c) (b := b) (n := a) (by omega) hRb; omega), f1 223 (by decide)]
          exact hv b (by omega) hRb
    · have hR := g_b_0.mp h
      have ih' := ih (a + 1) D1 (by omega) (by omega) (fun i h1 h2 => by rw [f1 i h1]; exact hf i h1 h2) (fun b hb hRb => ?_)
      · rw [eS, hR, if_neg Bool.false_ne_true, ← g_cast1] at ih'
        exact ih'
      · rw [f1 223 (by decide)]
        rcases Nat.lt_succ_iff_lt_or_eq.mp hb with q | rfl
        · exact hv b q hRb
        · rw [hR] at hRb; cases hRb
theorem c_X12_laysRinged {K : Int → g_D → Prop} (hs : s ≤ 20) (hc : m_cmd D s c) (hA : m_ahd D s c)
    (kk : ∀ D' : g_D, m_fg D D' → (∀ b, b < s → m_R s c b = true → D' 223 (m_cnt (m_R s c) b) = b) → K ((m_cnt (m_R s c) s : Nat) : Int) D') : k_X12_laysRinged E l D K := by
  refine s_X12_laysRinged (fun _ => c_amongAll hs hc (fun D1 f1 h1 => ?_))
  have h14 : D1 208 14 = s := by rw [f1 208 (by decide)]; exact hc.1
  have hA1 : m_ahd D1 s c := by unfold m_ahd; rw [f1 220 (by decide)]; exact hA
  exact l_X12_laysRinged hs h14 hA1 h1 (fun D' a1 a2 => kk D' (fun i hi => by rw [a1 i (by omega) (by omega), f1 i (by omega)]) a2) s 0 D1 rfl (Nat.zero_le _) (fun _ _ _ => rfl) (fun b hb => absurd hb (Nat.not_lt_zero b))
noncomputable def m_T (s : Nat) (c : Nat → Nat → Int) (i k : Nat) : Nat := m_bits (fun b => m_R s c b && (decide (m_cnt (m_R s c) b < k) && i.testBit (m_cnt (m_R s c) b))) s
theorem m_T_0 {i : Nat} : m_T s c i 0 = 0 := Nat.eq_of_testBit_eq (fun b => by unfold m_T; rw [m_bits_bit, Nat.zero_testBit]; simp)
theorem m_T_end {i : Nat} : m_T s c i (m_cnt (m_R s c) s) = m_S (m_R s c) s i := Nat.eq_of_testBit_eq (fun b => by
  unfold m_T
  rw [m_bits_bit, m_S_bit]
  cases hR : m_R s c b
  · simp
  · rw [decide_eq_true (m_cnt_below (m_R_lt hR) hR), Bool.true_and, Bool.true_and])
theorem m_T_lt {i k : Nat} : m_T s c i k < 2 ^ s := m_bits_lt s
theorem m_T_no {i k : Nat} (h : i.testBit k = false) : m_T s c i (k + 1) = m_T s c i k := Nat.eq_of_testBit_eq (fun b => by
  unfold m_T
  rw [m_bits_bit, m_bits_bit]
  by_cases e : m_cnt (m_R s c) b = k
  · rw [e, h]; simp
  · rw [show decide (m_cnt (m_R s c) b < k + 1) = decide (m_cnt (m_R s c) b < k) by rw [decide_eq_decide]; omega])
theorem m_T_yes {i k a : Nat} (h : i.testBit k = true) (ha : a < s) (hR : m_R s c a = true) (hk : m_cnt (m_R s c) a = k) : m_T s c i (k + 1) = m_T s c i k ||| 2 ^ a := Nat.eq_of_testBit_eq (fun b => by
  unfold m_T
  rw [Nat.testBit_or, m_bits_bit, m_bits_bit, Nat.testBit_two_pow]
  by_cases e : a = b
  · subst e
    rw [hR, hk, h]
    simp [ha]
  · rw [decide_eq_false e, Bool.or_false]
    by_cases e2 : m_cnt (m_R s c) b = k
    · cases hRb : m_R s c b
      · rfl
      · exact absurd (m_cnt_uniq hR hRb (by omega)) e
    · rw [show decide (m_cnt (m_R s c) b < k + 1) = decide (m_cnt (m_R s c) b < k) by rw [decide_eq_decide]; omega])
theorem l_X12_fewest55 {K : Int → g_D → Prop} {v v3 v4 : Int} {i : Nat} (hs : s ≤ 20) (hv : 0 ≤ v ∧ v ≤ 3) (hc : m_cmd D s c) (hL : m_len s c) (hi : i < 2 ^ m_cnt (m_R s c) s)
    (hR : ∀ b, b < s → m_R s c b = true → D 223 (m_cnt (m_R s c) b) = b)
    (kk : n_X12_fewest E l D 55 [some (g_R 208), some (g_I v), some (g_I ((m_cnt (m_R s c) s : Nat) : Int)), some (g_I v3), some (g_I v4), some (g_I i), some (g_I ((m_S (m_R s c) s i : Nat) : Int)), some (g_I (m_wco s c (m_W c v) i)), some (g_I ((m_cnt (m_R s c) s : Nat) : Int))] K) :
    ∀ q k : Nat, m_cnt (m_R s c) s - k = q → k ≤ m_cnt (m_R s c) s → n_X12_fewest E l D 55 [some (g_R 208), some (g_I v), some (g_I ((m_cnt (m_R s c) s : Nat) : Int)), some (g_I v3), some (g_I v4), some (g_I i), some (g_I ((m_T s c i k : Nat) : Int)), some (g_I (m_sum (fun t => if i.testBit t = true then m_W c v (D 223 t).toNat else 0) k)), some (g_I k)] K := by
  have hmany : m_cnt (m_R s c) s ≤ 20 := Nat.le_trans (m_cnt_le s) hs
  have hpow : 2 ^ m_cnt (m_R s c) s ≤ 2 ^ 20 := Nat.pow_le_pow_right (by decide) hmany
  have hW : ∀ a, a < s → 1 ≤ m_W c v a ∧ m_W c v a ≤ 40 := fun a ha => by
    have h1 := hL.1 a ha
    have h2 := hL.le ha
    unfold m_W
    split <;> omega
  have hb : ∀ k, k ≤ m_cnt (m_R s c) s → 0 ≤ m_sum (fun t => if i.testBit t = true then m_W c v (D 223 t).toNat else 0) k ∧ m_sum (fun t => if i.testBit t = true then m_W c v (D 223 t).toNat else 0) k ≤ 40 * k := by
    intro k
    induction k with
    | zero => intro _; exact ⟨Int.le_refl _, Int.le_refl _⟩
    | succ k ih =>
      intro hk
      have ih' := ih (by omega)
      obtain ⟨a, a1, a2, a3⟩ := m_cnt_ex (P := m_R s c) (k := k) (n := s) (by omega)
      have hw := hW a a1
      have e := hR a a1 a2
      rw [a3] at e
      rw [m_sum]
      rw [e, Int.toNat_natCast]
      split <;> omega
  intro q
  induction q with
  | zero =>
    intro k hq hk
    obtain rfl : k = m_cnt (m_R s c) s := by omega
    rw [m_T_end]
    have e : m_sum (fun t => if i.testBit t = true then m_W c v (D 223 t).toNat else 0) (m_cnt (m_R s c) s) = m_wco s c (m_W c v) i := by
      rw [← m_sum_S (P := m_R s c) (n := s) (i := i) (W := m_W c v) (r := fun t => (D 223 t).toNat) (fun b hb hRb => by rw [hR b hb hRb, Int.toNat_natCast])]
      unfold m_wco m_cost
      exact m_sum_congr (fun b hb => by rw [m_S_bit, decide_eq_true hb, Bool.true_and])
    rw [e]
    exact kk
  | succ q ih =>
    intro k hq hk
    have ih' := ih (k + 1) (by omega) (by omega)
    have hbk := hb k (by omega)
    obtain ⟨a, a1, a2, a3⟩ := m_cnt_ex (P := m_R s c) (k := k) (n := s) (by omega)
    have hw := hW a a1
    have e := hR a a1 a2
    rw [a3] at e
    have eS : m_sum (fun t => if i.testBit t = true then m_W c v (D 223 t).toNat else 0) (k + 1) = m_sum (fun t => if i.testBit t = true then m_W c v (D 223 t).toNat else 0) k + (if i.testBit k = true then m_W c v (D 223 k).toNat else 0) := rfl
    rw [← g_cast1, eS] at ih'
    have hTl : m_T s c i k < 2 ^ 20 := Nat.lt_of_lt_of_le m_T_lt (Nat.pow_le_pow_right (by decide) hs)
    have h2a : 2 ^ a < 2 ^ 20 := Nat.pow_lt_pow_right (by decide) (by omega)
    refine s_X12_fewest_55 (fun _ _ _ _ _ _ _ _ _ => ⟨fun h => (by omega : False).elim, fun _ => ?_⟩)
    rw [g_bit_s (by omega) (by omega), Int.toNat_natCast, e, Int.toNat_natCast, (hc.2 a a1).2.2.2, g_shl1_n (by omega), g_or_n (by omega) (by omega)]
    refine ⟨fun h => ⟨by omega, ?_⟩, fun h => ⟨⟨by omega, by omega⟩, ?_⟩⟩
    · have hbit : i.testBit k = true := by
        cases hb : i.testBit k
        · rw [hb] at h; exact absurd rfl h
        · rfl
      rw [if_pos hbit, m_T_yes hbit a1 a2 a3, e, Int.toNat_natCast] at ih'
      unfold m_W at ih' hw
      refine ⟨fun h2 => ?_, fun h2 => ?_⟩
      · rw [if_pos h2] at ih' hw
        exact ⟨by omega, by omega, ⟨by omega, by omega⟩, ⟨by omega, by omega⟩, ih'⟩
      · rw [if_neg h2] at ih' hw
        exact ⟨⟨by omega, by omega⟩, ⟨by omega, by omega⟩, ih'⟩
    · have hbit : i.testBit k = false := by
        cases hb : i.testBit k
        · rfl
        · rw [hb] at h; exact absurd h (by decide)
      rw [hbit, if_neg Bool.false_ne_true, Int.add_zero, m_T_no hbit] at ih'
      exact ih'
theorem l_X12_fewest38 {K : Int → g_D → Prop} {v : Int} {D0 : g_D} (hs : s ≤ 20) (hv : 0 ≤ v ∧ v ≤ 3) (hc : m_cmd D0 s c) (hL : m_len s c) (hA : m_ahd D0 s c)
    (hR : ∀ b, b < s → m_R s c b = true → D0 223 (m_cnt (m_R s c) b) = b)
    (kk : ∀ D' : g_D, (∀ i, i ≠ 222 → D' i = D0 i) → K (a_few s c v) D') :
    ∀ (q i : Nat) (D : g_D), 2 ^ m_cnt (m_R s c) s - i = q → i ≤ 2 ^ m_cnt (m_R s c) s → (∀ i, i ≠ 222 → D i = D0 i) → n_X12_fewest E l D 38 [some (g_R 208), some (g_I v), some (g_I ((m_cnt (m_R s c) s : Nat) : Int)), some (g_I (((m_few s c (m_W c v) 268435456 i).2 : Nat) : Int)), some (g_I (m_few s c (m_W c v) 268435456 i).1), some (g_I i), none, none, none] K := by
  have hmany : m_cnt (m_R s c) s ≤ 20 := Nat.le_trans (m_cnt_le s) hs
  have hpow : 2 ^ m_cnt (m_R s c) s ≤ 2 ^ 20 := Nat.pow_le_pow_right (by decide) hmany
  intro q
  induction q with
  | zero =>
    intro i D hq hi hf
    obtain rfl : i = 2 ^ m_cnt (m_R s c) s := by omega
    have k0 := kk D hf
    unfold a_few m_fA at k0
    refine s_X12_fewest_38 (fun _ _ _ _ _ _ => ?_)
    rw [g_shl1_n (by omega)]
    refine ⟨fun _ => ⟨hv.1, fun h => ?_, fun h => ?_⟩, fun h => (by omega : False).elim⟩
    · rw [if_neg h] at k0; exact k0
    · rw [if_pos h] at k0; exact k0
  | succ q ih =>
    intro i D hq hi hf
    have hc1 : m_cmd D s c := by unfold m_cmd at *; rw [hf 208 (by decide), hf 216 (by decide), hf 217 (by decide), hf 218 (by decide), hf 219 (by decide)]; exact hc
    have hA1 : m_ahd D s c := by unfold m_ahd; rw [hf 220 (by decide)]; exact hA
    have hR1 : ∀ b, b < s → m_R s c b = true → D 223 (m_cnt (m_R s c) b) = b := by rw [hf 223 (by decide)]; exact hR
    have hSi : m_S (m_R s c) s i < 2 ^ 20 := Nat.lt_of_lt_of_le m_S_lt (Nat.pow_le_pow_right (by decide) hs)
    have eS : m_few s c (m_W c v) 268435456 (i + 1) = if m_wco s c (m_W c v) i < (m_few s c (m_W c v) 268435456 i).1 ∧ m_wok s c i = true then (m_wco s c (m_W c v) i, m_S (m_R s c) s i) else m_few s c (m_W c v) 268435456 i := rfl
    refine s_X12_fewest_38 (fun _ _ _ _ _ _ => ?_)
    rw [g_shl1_n (by omega)]
    refine ⟨fun h => (by omega : False).elim, fun _ => ?_⟩
    have main := l_X12_fewest55 (E := E) (l := l) (K := K) (v3 := (((m_few s c (m_W c v) 268435456 i).2 : Nat) : Int)) (v4 := (m_few s c (m_W c v) 268435456 i).1) (i := i) hs hv hc1 hL (by omega) hR1 ?_ _ 0 rfl (Nat.zero_le _)
    · rw [m_T_0] at main; exact main
    · refine s_X12_fewest_55 (fun _ _ _ _ _ _ _ _ _ => ⟨fun _ => ⟨fun h => ⟨⟨by omega, by omega⟩, ?_⟩, fun h => ?_⟩, fun h => (by omega : False).elim⟩)
      · have ih' := ih (i + 1) D (by omega) (by omega) hf
        rw [eS, if_neg (by omega), ← g_cast1] at ih'
        exact ih'
      · refine c_X12_isWithoutRing hs hc1 hA1 (by omega) (fun D1 f1 => ?_)
        have ih' := ih (i + 1) D1 (by omega) (by omega) (fun j hj => by rw [f1 j hj]; exact hf j hj)
        have ew : m_acyb s c (fun b => m_cp c b && !(m_S (m_R s c) s i).testBit b) = m_wok s c i := rfl
        rw [ew]
        refine fun _ => ⟨fun h2 => ⟨⟨by omega, by omega⟩, ?_⟩, fun h2 => ⟨⟨by omega, by omega⟩, ?_⟩⟩
        · rw [eS, if_pos ⟨by omega, g_b_n0.mp h2⟩, ← g_cast1] at ih'
          exact ih'
        · rw [eS, if_neg (by rw [g_b_0.mp h2]; exact fun q => Bool.false_ne_true q.2), ← g_cast1] at ih'
          exact ih'
end FEW
end
