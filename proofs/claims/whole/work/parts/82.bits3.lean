/-! Integer.numberOfTrailingZeros -/
theorem g_and_comm (x y : Int) : g_and x y = g_and y x := by unfold g_and; rw [Int32.and_comm]
theorem m_low_eq {x t : Nat} (ht : x.testBit t = true) (hl : ∀ j, j < t → x.testBit j = false) : (x - 1) ^^^ ((x - 1) &&& x) = 2 ^ t - 1 := by
  obtain ⟨r, hr⟩ : ∃ r, x = 2 ^ t * (2 * r + 1) := by
    have h0 : x % 2 ^ t = 0 := by
      apply Nat.eq_of_testBit_eq
      intro j
      rw [Nat.testBit_mod_two_pow, Nat.zero_testBit]
      by_cases hj : j < t
      · rw [hl j hj, Bool.and_false]
      · simp [hj]
    have h1 : x / 2 ^ t % 2 = 1 := by
      rw [Nat.testBit_eq_decide_div_mod_eq, decide_eq_true_eq] at ht; exact ht
    have h2 := Nat.mod_add_div x (2 ^ t)
    refine ⟨x / 2 ^ t / 2, ?_⟩
    have h3 : 2 * (x / 2 ^ t / 2) + 1 = x / 2 ^ t := by omega
    rw [h3]; omega
  have hp : 0 < 2 ^ t := Nat.two_pow_pos t
  have e1 : x - 1 = 2 ^ t * (2 * r) + (2 ^ t - 1) := by rw [hr, Nat.mul_add, Nat.mul_one]; omega
  apply Nat.eq_of_testBit_eq
  intro j
  rw [Nat.testBit_xor, Nat.testBit_and, e1, Nat.testBit_two_pow_mul_add _ (by omega), hr, Nat.testBit_two_pow_mul, Nat.testBit_two_pow_sub_one]
  by_cases hj : j < t
  · simp [hj, Nat.not_le.mpr hj]
  · rw [if_neg hj]
    have hb : (2 * r).testBit (j - t) = ((2 * r).testBit (j - t) && (2 * r + 1).testBit (j - t)) := by
      cases q : j - t with
      | zero => simp [Nat.testBit_zero]
      | succ i => rw [Nat.testBit_succ, Nat.testBit_succ, show 2 * r / 2 = r by omega, show (2 * r + 1) / 2 = r by omega, Bool.and_self]
    rw [show decide (j ≥ t) = true by rw [decide_eq_true_eq]; omega, Bool.true_and, ← hb, Bool.xor_self]
    simp [hj]
section BITS
variable {E : g_E} {l : Launch} {sh : List g_Sh} {D : g_D}
theorem c_ntz {K : Int → g_D → Prop} {x t : Nat} (hx : x < 2 ^ 31) (ht : x.testBit t = true) (hl : ∀ j, j < t → x.testBit j = false) (h20 : t < 20) (k : K t D) : k_J6_numberOfTrailingZeros_0f7a4 E l sh D x K := by
  have hx0 : x ≠ 0 := fun q => by rw [q, Nat.zero_testBit] at ht; cases ht
  have hi : g_and (g_xor (x : Int) (-1)) ((x : Int) - 1) = ((2 ^ t - 1 : Nat) : Int) := by
    rw [g_and_comm, show (x : Int) - 1 = ((x - 1 : Nat) : Int) by omega, g_andn_n (by omega), m_low_eq ht hl]
  refine s_J6_numberOfTrailingZeros_0f7a4 (fun _ _ => ⟨⟨by omega, by omega⟩, ?_⟩)
  rw [hi]
  clear hi hl ht
  match t, h20, k with
  | 0, _, k =>
    have e : ((2 ^ 0 - 1 : Nat) : Int) = 0 := by decide
    rw [e]
    have z : g_and 0 32 = 0 := by decide +kernel
    refine ⟨fun h => (by omega : False).elim, fun _ => ?_⟩
    rw [z]; exact k
  | 1, _, k =>
    have e : ((2 ^ 1 - 1 : Nat) : Int) = 1 := by decide
    rw [e]
    have u0 : g_ushr 1 1 = 0 := by decide +kernel
    simp only [u0]
    refine ⟨fun _ => ⟨fun _ => ⟨fun _ => ⟨fun _ => ⟨fun _ => ⟨⟨by omega, by omega⟩, ?_⟩, fun h => (by omega : False).elim⟩, fun h => (by omega : False).elim⟩, fun h => (by omega : False).elim⟩, fun h => (by omega : False).elim⟩, fun h => (by omega : False).elim⟩
    exact k
  | 2, _, k =>
    have e : ((2 ^ 2 - 1 : Nat) : Int) = 3 := by decide
    rw [e]
    have u0 : g_ushr 3 1 = 1 := by decide +kernel
    simp only [u0]
    refine ⟨fun _ => ⟨fun _ => ⟨fun _ => ⟨fun _ => ⟨fun _ => ⟨⟨by omega, by omega⟩, ?_⟩, fun h => (by omega : False).elim⟩, fun h => (by omega : False).elim⟩, fun h => (by omega : False).elim⟩, fun h => (by omega : False).elim⟩, fun h => (by omega : False).elim⟩
    exact k
  | 3, _, k =>
    have e : ((2 ^ 3 - 1 : Nat) : Int) = 7 := by decide
    rw [e]
    have u0 : g_ushr 7 2 = 1 := by decide +kernel
    have u1 : g_ushr 1 1 = 0 := by decide +kernel
    simp only [u0, u1]
    refine ⟨fun _ => ⟨fun _ => ⟨fun _ => ⟨fun _ => ⟨fun h => (by omega : False).elim, fun _ => ⟨⟨by omega, by omega⟩, ?_⟩⟩, fun h => (by omega : False).elim⟩, fun h => (by omega : False).elim⟩, fun h => (by omega : False).elim⟩, fun h => (by omega : False).elim⟩
    exact k
  | 4, _, k =>
    have e : ((2 ^ 4 - 1 : Nat) : Int) = 15 := by decide
    rw [e]
    have u0 : g_ushr 15 2 = 3 := by decide +kernel
    have u1 : g_ushr 3 1 = 1 := by decide +kernel
    simp only [u0, u1]
    refine ⟨fun _ => ⟨fun _ => ⟨fun _ => ⟨fun _ => ⟨fun h => (by omega : False).elim, fun _ => ⟨⟨by omega, by omega⟩, ?_⟩⟩, fun h => (by omega : False).elim⟩, fun h => (by omega : False).elim⟩, fun h => (by omega : False).elim⟩, fun h => (by omega : False).elim⟩
    exact k
  | 5, _, k =>
    have e : ((2 ^ 5 - 1 : Nat) : Int) = 31 := by decide
    rw [e]
    have u0 : g_ushr 31 4 = 1 := by decide +kernel
    have u1 : g_ushr 1 1 = 0 := by decide +kernel
    simp only [u0, u1]
    refine ⟨fun _ => ⟨fun _ => ⟨fun _ => ⟨fun h => (by omega : False).elim, fun _ => ⟨fun _ => ⟨⟨by omega, by omega⟩, ?_⟩, fun h => (by omega : False).elim⟩⟩, fun h => (by omega : False).elim⟩, fun h => (by omega : False).elim⟩, fun h => (by omega : False).elim⟩
    exact k
  | 6, _, k =>
    have e : ((2 ^ 6 - 1 : Nat) : Int) = 63 := by decide
    rw [e]
    have u0 : g_ushr 63 4 = 3 := by decide +kernel
    have u1 : g_ushr 3 1 = 1 := by decide +kernel
    simp only [u0, u1]
    refine ⟨fun _ => ⟨fun _ => ⟨fun _ => ⟨fun h => (by omega : False).elim, fun _ => ⟨fun _ => ⟨⟨by omega, by omega⟩, ?_⟩, fun h => (by omega : False).elim⟩⟩, fun h => (by omega : False).elim⟩, fun h => (by omega : False).elim⟩, fun h => (by omega : False).elim⟩
    exact k
  | 7, _, k =>
    have e : ((2 ^ 7 - 1 : Nat) : Int) = 127 := by decide
    rw [e]
    have u0 : g_ushr 127 4 = 7 := by decide +kernel
    have u1 : g_ushr 7 2 = 1 := by decide +kernel
    have u2 : g_ushr 1 1 = 0 := by decide +kernel
    simp only [u0, u1, u2]
    refine ⟨fun _ => ⟨fun _ => ⟨fun _ => ⟨fun h => (by omega : False).elim, fun _ => ⟨fun h => (by omega : False).elim, fun _ => ⟨⟨by omega, by omega⟩, ?_⟩⟩⟩, fun h => (by omega : False).elim⟩, fun h => (by omega : False).elim⟩, fun h => (by omega : False).elim⟩
    exact k
  | 8, _, k =>
    have e : ((2 ^ 8 - 1 : Nat) : Int) = 255 := by decide
    rw [e]
    have u0 : g_ushr 255 4 = 15 := by decide +kernel
    have u1 : g_ushr 15 2 = 3 := by decide +kernel
    have u2 : g_ushr 3 1 = 1 := by decide +kernel
    simp only [u0, u1, u2]
    refine ⟨fun _ => ⟨fun _ => ⟨fun _ => ⟨fun h => (by omega : False).elim, fun _ => ⟨fun h => (by omega : False).elim, fun _ => ⟨⟨by omega, by omega⟩, ?_⟩⟩⟩, fun h => (by omega : False).elim⟩, fun h => (by omega : False).elim⟩, fun h => (by omega : False).elim⟩
    exact k
  | 9, _, k =>
    have e : ((2 ^ 9 - 1 : Nat) : Int) = 511 := by decide
    rw [e]
    have u0 : g_ushr 511 8 = 1 := by decide +kernel
    have u1 : g_ushr 1 1 = 0 := by decide +kernel
    simp only [u0, u1]
    refine ⟨fun _ => ⟨fun _ => ⟨fun h => (by omega : False).elim, fun _ => ⟨fun _ => ⟨fun _ => ⟨⟨by omega, by omega⟩, ?_⟩, fun h => (by omega : False).elim⟩, fun h => (by omega : False).elim⟩⟩, fun h => (by omega : False).elim⟩, fun h => (by omega : False).elim⟩
    exact k
  | 10, _, k =>
    have e : ((2 ^ 10 - 1 : Nat) : Int) = 1023 := by decide
    rw [e]
    have u0 : g_ushr 1023 8 = 3 := by decide +kernel
    have u1 : g_ushr 3 1 = 1 := by decide +kernel
    simp only [u0, u1]
    refine ⟨fun _ => ⟨fun _ => ⟨fun h => (by omega : False).elim, fun _ => ⟨fun _ => ⟨fun _ => ⟨⟨by omega, by omega⟩, ?_⟩, fun h => (by omega : False).elim⟩, fun h => (by omega : False).elim⟩⟩, fun h => (by omega : False).elim⟩, fun h => (by omega : False).elim⟩
    exact k
  | 11, _, k =>
    have e : ((2 ^ 11 - 1 : Nat) : Int) = 2047 := by decide
    rw [e]
    have u0 : g_ushr 2047 8 = 7 := by decide +kernel
    have u1 : g_ushr 7 2 = 1 := by decide +kernel
    have u2 : g_ushr 1 1 = 0 := by decide +kernel
    simp only [u0, u1, u2]
    refine ⟨fun _ => ⟨fun _ => ⟨fun h => (by omega : False).elim, fun _ => ⟨fun _ => ⟨fun h => (by omega : False).elim, fun _ => ⟨⟨by omega, by omega⟩, ?_⟩⟩, fun h => (by omega : False).elim⟩⟩, fun h => (by omega : False).elim⟩, fun h => (by omega : False).elim⟩
    exact k
  | 12, _, k =>
    have e : ((2 ^ 12 - 1 : Nat) : Int) = 4095 := by decide
    rw [e]
    have u0 : g_ushr 4095 8 = 15 := by decide +kernel
    have u1 : g_ushr 15 2 = 3 := by decide +kernel
    have u2 : g_ushr 3 1 = 1 := by decide +kernel
    simp only [u0, u1, u2]
    refine ⟨fun _ => ⟨fun _ => ⟨fun h => (by omega : False).elim, fun _ => ⟨fun _ => ⟨fun h => (by omega : False).elim, fun _ => ⟨⟨by omega, by omega⟩, ?_⟩⟩, fun h => (by omega : False).elim⟩⟩, fun h => (by omega : False).elim⟩, fun h => (by omega : False).elim⟩
    exact k
  | 13, _, k =>
    have e : ((2 ^ 13 - 1 : Nat) : Int) = 8191 := by decide
    rw [e]
    have u0 : g_ushr 8191 8 = 31 := by decide +kernel
    have u1 : g_ushr 31 4 = 1 := by decide +kernel
    have u2 : g_ushr 1 1 = 0 := by decide +kernel
    simp only [u0, u1, u2]
    refine ⟨fun _ => ⟨fun _ => ⟨fun h => (by omega : False).elim, fun _ => ⟨fun h => (by omega : False).elim, fun _ => ⟨fun _ => ⟨⟨by omega, by omega⟩, ?_⟩, fun h => (by omega : False).elim⟩⟩⟩, fun h => (by omega : False).elim⟩, fun h => (by omega : False).elim⟩
    exact k
  | 14, _, k =>
    have e : ((2 ^ 14 - 1 : Nat) : Int) = 16383 := by decide
    rw [e]
    have u0 : g_ushr 16383 8 = 63 := by decide +kernel
    have u1 : g_ushr 63 4 = 3 := by decide +kernel
    have u2 : g_ushr 3 1 = 1 := by decide +kernel
    simp only [u0, u1, u2]
    refine ⟨fun _ => ⟨fun _ => ⟨fun h => (by omega : False).elim, fun _ => ⟨fun h => (by omega : False).elim, fun _ => ⟨fun _ => ⟨⟨by omega, by omega⟩, ?_⟩, fun h => (by omega : False).elim⟩⟩⟩, fun h => (by omega : False).elim⟩, fun h => (by omega : False).elim⟩
    exact k
  | 15, _, k =>
    have e : ((2 ^ 15 - 1 : Nat) : Int) = 32767 := by decide
    rw [e]
    have u0 : g_ushr 32767 8 = 127 := by decide +kernel
    have u1 : g_ushr 127 4 = 7 := by decide +kernel
    have u2 : g_ushr 7 2 = 1 := by decide +kernel
    have u3 : g_ushr 1 1 = 0 := by decide +kernel
    simp only [u0, u1, u2, u3]
    refine ⟨fun _ => ⟨fun _ => ⟨fun h => (by omega : False).elim, fun _ => ⟨fun h => (by omega : False).elim, fun _ => ⟨fun h => (by omega : False).elim, fun _ => ⟨⟨by omega, by omega⟩, ?_⟩⟩⟩⟩, fun h => (by omega : False).elim⟩, fun h => (by omega : False).elim⟩
    exact k
  | 16, _, k =>
    have e : ((2 ^ 16 - 1 : Nat) : Int) = 65535 := by decide
    rw [e]
    have u0 : g_ushr 65535 8 = 255 := by decide +kernel
    have u1 : g_ushr 255 4 = 15 := by decide +kernel
    have u2 : g_ushr 15 2 = 3 := by decide +kernel
    have u3 : g_ushr 3 1 = 1 := by decide +kernel
    simp only [u0, u1, u2, u3]
    refine ⟨fun _ => ⟨fun _ => ⟨fun h => (by omega : False).elim, fun _ => ⟨fun h => (by omega : False).elim, fun _ => ⟨fun h => (by omega : False).elim, fun _ => ⟨⟨by omega, by omega⟩, ?_⟩⟩⟩⟩, fun h => (by omega : False).elim⟩, fun h => (by omega : False).elim⟩
    exact k
  | 17, _, k =>
    have e : ((2 ^ 17 - 1 : Nat) : Int) = 131071 := by decide
    rw [e]
    have u0 : g_ushr 131071 16 = 1 := by decide +kernel
    have u1 : g_ushr 1 1 = 0 := by decide +kernel
    simp only [u0, u1]
    refine ⟨fun _ => ⟨fun h => (by omega : False).elim, fun _ => ⟨fun _ => ⟨fun _ => ⟨fun _ => ⟨⟨by omega, by omega⟩, ?_⟩, fun h => (by omega : False).elim⟩, fun h => (by omega : False).elim⟩, fun h => (by omega : False).elim⟩⟩, fun h => (by omega : False).elim⟩
    exact k
  | 18, _, k =>
    have e : ((2 ^ 18 - 1 : Nat) : Int) = 262143 := by decide
    rw [e]
    have u0 : g_ushr 262143 16 = 3 := by decide +kernel
    have u1 : g_ushr 3 1 = 1 := by decide +kernel
    simp only [u0, u1]
    refine ⟨fun _ => ⟨fun h => (by omega : False).elim, fun _ => ⟨fun _ => ⟨fun _ => ⟨fun _ => ⟨⟨by omega, by omega⟩, ?_⟩, fun h => (by omega : False).elim⟩, fun h => (by omega : False).elim⟩, fun h => (by omega : False).elim⟩⟩, fun h => (by omega : False).elim⟩
    exact k
  | 19, _, k =>
    have e : ((2 ^ 19 - 1 : Nat) : Int) = 524287 := by decide
    rw [e]
    have u0 : g_ushr 524287 16 = 7 := by decide +kernel
    have u1 : g_ushr 7 2 = 1 := by decide +kernel
    have u2 : g_ushr 1 1 = 0 := by decide +kernel
    simp only [u0, u1, u2]
    refine ⟨fun _ => ⟨fun h => (by omega : False).elim, fun _ => ⟨fun _ => ⟨fun _ => ⟨fun h => (by omega : False).elim, fun _ => ⟨⟨by omega, by omega⟩, ?_⟩⟩, fun h => (by omega : False).elim⟩, fun h => (by omega : False).elim⟩⟩, fun h => (by omega : False).elim⟩
    exact k
  | t + 20, h, _ => exact absurd h (by omega)
theorem c_ntz0 {K : Int → g_D → Prop} (k : K 32 D) : k_J6_numberOfTrailingZeros_0f7a4 E l sh D 0 K := by
  have hi : g_and (g_xor 0 (-1)) (0 - 1) = -1 := by decide +kernel
  have z : g_and (-1) 32 = 32 := by decide +kernel
  refine s_J6_numberOfTrailingZeros_0f7a4 (fun _ _ => ⟨⟨by omega, by omega⟩, ?_⟩)
  rw [hi, z]
  exact ⟨fun h => (by omega : False).elim, fun _ => k⟩
theorem c_lowestBit {K : Int → g_D → Prop} {x : Nat} (hx : x < 2 ^ 20) (k0 : x = 0 → K 0 D) (k1 : ∀ t : Nat, x.testBit t = true → (∀ j, j < t → x.testBit j = false) → t < 20 → K t D) : k_X11_lowestBit E l sh D x K := by
  refine s_X11_lowestBit (fun _ _ => ?_)
  by_cases h0 : x = 0
  · subst h0
    exact c_ntz0 (fun _ => ⟨fun _ => k0 rfl, fun h => (by omega : False).elim⟩)
  · obtain ⟨i, hi⟩ := Nat.exists_testBit_of_ne_zero h0
    obtain ⟨t, h1, h2, h3⟩ := m_first (P := fun i => x.testBit i = true) i hi
    have h20 : t < 20 := by
      refine Nat.lt_of_not_le (fun q => ?_)
      have : x < 2 ^ t := Nat.lt_of_lt_of_le hx (Nat.pow_le_pow_right (by decide) q)
      rw [Nat.testBit_lt_two_pow this] at h2; cases h2
    have h4 : ∀ j, j < t → x.testBit j = false := fun j hj => by have := h3 j hj; rwa [Bool.not_eq_true] at this
    exact c_ntz (by omega) h2 h4 h20 (fun _ => ⟨fun h => (by omega : False).elim, fun _ => k1 t h2 h4 h20⟩)
theorem c_hasBit {K : Int → g_D → Prop} {x k : Nat} (hx : x < 2 ^ 31) (hk : k < 32) (kk : K (g_b (x.testBit k)) D) : k_X11_hasBit E l sh D x k K := by
  refine s_X11_hasBit (fun _ _ _ => ?_)
  rw [g_bit_n hx hk]
  cases h : x.testBit k with
  | false => rw [h] at kk; exact ⟨fun _ => kk, fun q => absurd q (by decide)⟩
  | true => rw [h] at kk; exact ⟨fun q => absurd rfl q, fun _ => kk⟩
theorem g_or1 {P : Nat → Bool} {b : Nat} (hb : b < 31) (h : P b = true) : g_or ((m_bits P b : Nat) : Int) (g_shl 1 (b : Int)) = ((m_bits P (b + 1) : Nat) : Int) := by
  have h1 : m_bits P b < 2 ^ 31 := Nat.lt_of_lt_of_le (m_bits_lt b) (Nat.pow_le_pow_right (by decide) (by omega))
  rw [g_shl1_n hb, g_or_n h1 (Nat.pow_lt_pow_right (by decide) (by omega)), m_bits, if_pos h]
theorem g_or0 {P : Nat → Bool} {b : Nat} (h : P b = false) : m_bits P (b + 1) = m_bits P b := by
  rw [m_bits, h, if_neg Bool.false_ne_true, Nat.or_zero]
theorem l_X7_movers {K : Int → g_D → Prop} {k s : Nat} {c : Nat → Nat → Int} (hk : is_Script g_SH k) (hs : s ≤ 20) (hc : x_cmd D k s c) (kk : K ((m_bits (fun i => decide (c i 0 = 1)) s : Nat) : Int) D) : ∀ q i : Nat, s - i = q → i ≤ s → n_X7_movers E l D 4 [some (g_R k), some (g_I ((m_bits (fun i => decide (c i 0 = 1)) i : Nat) : Int)), some (g_I i)] K := by
  have h0 := hc.1
  intro q
  induction q with
  | zero =>
    intro i hq hi
    obtain rfl : i = s := by omega
    exact s_X7_movers_4 hk (fun _ _ _ => ⟨fun _ => kk, fun h => (by omega : False).elim⟩)
  | succ q ih =>
    intro i hq hi
    have ih' := ih (i + 1) (by omega) (by omega)
    rw [← g_cast1] at ih'
    refine s_X7_movers_4 hk (fun _ _ _ => ⟨fun h => (by omega : False).elim, fun _ => ⟨by omega, ?_⟩⟩)
    rw [Int.toNat_natCast, (hc.2 i (by omega)).1]
    refine ⟨fun h => ⟨⟨by omega, by omega⟩, ?_⟩, fun h => ⟨⟨by omega, by omega⟩, ?_⟩⟩
    · rw [g_or0 (decide_eq_false h)] at ih'; exact ih'
    · rw [g_or1 (by omega) (decide_eq_true h)]; exact ih'
theorem c_X7_movers {K : Int → g_D → Prop} {k s : Nat} {c : Nat → Nat → Int} (hk : is_Script g_SH k) (hs : s ≤ 20) (hc : x_cmd D k s c) (kk : K ((m_bits (fun i => decide (c i 0 = 1)) s : Nat) : Int) D) : k_X7_movers E l D k K :=
  s_X7_movers hk (fun _ => l_X7_movers hk hs hc kk s 0 rfl (Nat.zero_le _))
theorem l_X7_writers {K : Int → g_D → Prop} {k s : Nat} {c : Nat → Nat → Int} (hk : is_Script g_SH k) (hs : s ≤ 20) (hc : x_cmd D k s c) (kk : K ((m_bits (fun i => decide (¬ c i 0 = 2)) s : Nat) : Int) D) : ∀ q i : Nat, s - i = q → i ≤ s → n_X7_writers E l D 4 [some (g_R k), some (g_I ((m_bits (fun i => decide (¬ c i 0 = 2)) i : Nat) : Int)), some (g_I i)] K := by
  have h0 := hc.1
  intro q
  induction q with
  | zero =>
    intro i hq hi
    obtain rfl : i = s := by omega
    exact s_X7_writers_4 hk (fun _ _ _ => ⟨fun _ => kk, fun h => (by omega : False).elim⟩)
  | succ q ih =>
    intro i hq hi
    have ih' := ih (i + 1) (by omega) (by omega)
    rw [← g_cast1] at ih'
    refine s_X7_writers_4 hk (fun _ _ _ => ⟨fun h => (by omega : False).elim, fun _ => ⟨by omega, ?_⟩⟩)
    rw [Int.toNat_natCast, (hc.2 i (by omega)).1]
    refine ⟨fun h => ⟨⟨by omega, by omega⟩, ?_⟩, fun h => ⟨⟨by omega, by omega⟩, ?_⟩⟩
    · rw [g_or0 (decide_eq_false (fun q => q h))] at ih'; exact ih'
    · rw [g_or1 (by omega) (decide_eq_true h)]; exact ih'
theorem c_X7_writers {K : Int → g_D → Prop} {k s : Nat} {c : Nat → Nat → Int} (hk : is_Script g_SH k) (hs : s ≤ 20) (hc : x_cmd D k s c) (kk : K ((m_bits (fun i => decide (¬ c i 0 = 2)) s : Nat) : Int) D) : k_X7_writers E l D k K :=
  s_X7_writers hk (fun _ => l_X7_writers hk hs hc kk s 0 rfl (Nat.zero_le _))
end BITS
