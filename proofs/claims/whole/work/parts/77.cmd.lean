/-! promise 13: the commands -/
def m_app (c : Nat → Nat → Int) (s : Nat) (t p q r : Int) : Nat → Nat → Int := fun i a => if i = s then (if a = 0 then t else if a = 1 then p else if a = 2 then q else r) else c i a
def m_inc (c : Nat → Nat → Int) (s : Nat) : Nat → Nat → Int := fun i a => if i = s ∧ a = 3 then c i a + 1 else c i a
def m_go (ch : Int) (le : Nat) (o w : Nat → Int) (n m : Nat) : Nat → Nat → Nat → (Nat → Nat → Int) → Nat × (Nat → Nat → Int)
  | 0, _, s, c => (s, c)
  | f + 1, j, s, c => if j < m then (if le ≤ m_lg o w n m j n then m_go ch le o w n m f (j + m_lg o w n m j n) (s + 1) (m_app c s (if m_cn ch o w n m j n = j then 2 else 1) j (m_cn ch o w n m j n) (m_lg o w n m j n)) else if 0 < s ∧ c (s - 1) 0 = 0 then m_go ch le o w n m f (j + 1) s (m_inc c (s - 1)) else m_go ch le o w n m f (j + 1) (s + 1) (m_app c s 0 j (-1) 1)) else (s, c)
theorem m_app_ne {c : Nat → Nat → Int} {s i : Nat} {t p q r : Int} (h : i ≠ s) (a : Nat) : m_app c s t p q r i a = c i a := by unfold m_app; rw [if_neg h]
theorem m_app_0 {c : Nat → Nat → Int} {s : Nat} {t p q r : Int} : m_app c s t p q r s 0 = t := by unfold m_app; rw [if_pos rfl, if_pos rfl]
theorem m_app_1 {c : Nat → Nat → Int} {s : Nat} {t p q r : Int} : m_app c s t p q r s 1 = p := by unfold m_app; rw [if_pos rfl, if_neg (by decide), if_pos rfl]
theorem m_app_2 {c : Nat → Nat → Int} {s : Nat} {t p q r : Int} : m_app c s t p q r s 2 = q := by unfold m_app; rw [if_pos rfl, if_neg (by decide), if_neg (by decide), if_pos rfl]
theorem m_app_3 {c : Nat → Nat → Int} {s : Nat} {t p q r : Int} : m_app c s t p q r s 3 = r := by unfold m_app; rw [if_pos rfl, if_neg (by decide), if_neg (by decide), if_neg (by decide)]
theorem m_inc_ne {c : Nat → Nat → Int} {s i a : Nat} (h : i ≠ s ∨ a ≠ 3) : m_inc c s i a = c i a := by unfold m_inc; rw [if_neg (by omega)]
theorem m_inc_3 {c : Nat → Nat → Int} {s : Nat} : m_inc c s s 3 = c s 3 + 1 := by unfold m_inc; rw [if_pos ⟨rfl, rfl⟩]
/-- a sum -/
def m_sum (f : Nat → Int) : Nat → Int
  | 0 => 0
  | k + 1 => m_sum f k + f k
theorem m_sum_congr {f g : Nat → Int} : ∀ {k : Nat}, (∀ i, i < k → f i = g i) → m_sum f k = m_sum g k
  | 0, _ => rfl
  | k + 1, h => by rw [m_sum, m_sum, m_sum_congr (k := k) (fun i hi => h i (by omega)), h k (by omega)]
theorem m_sum_le {f g : Nat → Int} : ∀ {k : Nat}, (∀ i, i < k → f i ≤ g i) → m_sum f k ≤ m_sum g k
  | 0, _ => Int.le_refl _
  | k + 1, h => by
    have := m_sum_le (k := k) (fun i hi => h i (by omega))
    have := h k (by omega)
    rw [m_sum, m_sum]; omega
/-- one place of a sum is other -/
theorem m_sum_at {f g : Nat → Int} {d : Nat} : ∀ {k : Nat}, d < k → (∀ i, i < k → i ≠ d → f i = g i) → m_sum f k = m_sum g k + f d - g d
  | 0, h, _ => absurd h (Nat.not_lt_zero d)
  | k + 1, h, e => by
    rw [m_sum, m_sum]
    by_cases hd : d = k
    · subst hd
      have := m_sum_congr (f := f) (g := g) (k := d) (fun i hi => e i (by omega) (by omega))
      omega
    · have := m_sum_at (f := f) (g := g) (d := d) (k := k) (by omega) (fun i hi => e i (by omega))
      have := e k (by omega) (Ne.symm hd)
      omega
/-- what holds of one command -/
def m_ok1 (n : Nat) (j : Nat) (c : Nat → Int) : Prop := 0 ≤ c 0 ∧ c 0 ≤ 2 ∧ 0 ≤ c 1 ∧ 1 ≤ c 3 ∧ c 1 + c 3 ≤ j ∧ (c 0 = 0 → c 2 = -1) ∧ (¬ c 0 = 0 → 0 ≤ c 2 ∧ c 2 + c 3 ≤ n ∧ 3 ≤ c 3)
/-- what holds of the commands for the cells ahead of j -/
def m_inv (n j s : Nat) (c : Nat → Nat → Int) : Prop := 2 * s ≤ j + 1 ∧ (0 < s → ¬ c (s - 1) 0 = 0 → 2 * s ≤ j) ∧ (∀ i, i < s → m_ok1 n j (c i)) ∧ m_sum (fun i => c i 3) s = j ∧ (s = 0 → j = 0)
theorem m_ch_att {ch : Int} {o w : Nat → Int} {n m j most : Nat} : ∀ {F : Nat}, m_ch ch o w n m j most F ≠ -1 → ∃ f : Nat, f < F ∧ m_ch ch o w n m j most F = f ∧ ¬ m_run o w n m f j < most
  | 0, h => absurd rfl h
  | F + 1, h => by
    rw [m_ch] at h ⊢
    split at h
    · rename_i h1
      rw [if_pos h1]
      obtain ⟨f, a, b, d⟩ := m_ch_att h
      exact ⟨f, by omega, b, d⟩
    · rename_i h1
      rw [if_neg h1]
      split at h
      · rename_i h2
        rw [if_pos h2]
        exact ⟨F, by omega, rfl, h1⟩
      · rename_i h2
        rw [if_neg h2]
        obtain ⟨f, a, b, d⟩ := m_ch_att h
        exact ⟨f, by omega, b, d⟩
/-- the chosen run lies in the old image -/
theorem m_cn_in {ch : Int} {o w : Nat → Int} {n m j : Nat} (h : m_lg o w n m j n ≠ 0) : 0 ≤ m_cn ch o w n m j n ∧ m_cn ch o w n m j n + m_lg o w n m j n ≤ n := by
  obtain ⟨f, q1, q2⟩ := m_lg_att h
  have hne : m_ch ch o w n m j (m_lg o w n m j n) n ≠ -1 := m_ch_some q1 (by omega)
  obtain ⟨g, g1, g2, g3⟩ := m_ch_att hne
  have := m_run_le (o := o) (w := w) (n := n) (m := m) (f := g) (j := j)
  unfold m_cn
  rw [if_neg h, g2]
  omega
theorem m_inv.app {n j s L : Nat} {c : Nat → Nat → Int} {t p q r : Int} (h : m_inv n j s c) (ht : t = 1 ∨ t = 2) (hp : p = j) (hq : 0 ≤ q) (hqn : q + r ≤ n) (hr : r = L) (hL : 3 ≤ L) : m_inv n (j + L) (s + 1) (m_app c s t p q r) := by
  obtain ⟨h1, h2, h3, h4, h5⟩ := h
  refine ⟨by omega, fun _ _ => by omega, fun i hi => ?_, ?_, fun q => by omega⟩
  · by_cases e : i = s
    · subst e
      unfold m_ok1
      rw [m_app_0, m_app_1, m_app_2, m_app_3]
      omega
    · obtain ⟨a1, a2, a3, a4, a5, a6, a7⟩ := h3 i (by omega)
      unfold m_ok1
      rw [m_app_ne e, m_app_ne e, m_app_ne e, m_app_ne e]
      exact ⟨a1, a2, a3, a4, by omega, a6, a7⟩
  · rw [m_sum, m_app_3, m_sum_congr (g := fun i => c i 3) (fun i hi => m_app_ne (by omega) _), h4, hr]; omega
theorem m_inv.new {n j s : Nat} {c : Nat → Nat → Int} {p : Int} (h : m_inv n j s c) (hp : p = j) (hs : ¬ (0 < s ∧ c (s - 1) 0 = 0)) : m_inv n (j + 1) (s + 1) (m_app c s 0 p (-1) 1) := by
  obtain ⟨h1, h2, h3, h4, h5⟩ := h
  refine ⟨?_, fun _ q => ?_, fun i hi => ?_, ?_, fun q => by omega⟩
  · by_cases h0 : s = 0
    · omega
    · have := h2 (by omega) (fun q => hs ⟨by omega, q⟩); omega
  · rw [Nat.add_sub_cancel, m_app_0] at q; omega
  · by_cases e : i = s
    · subst e
      unfold m_ok1
      rw [m_app_0, m_app_1, m_app_2, m_app_3]
      omega
    · obtain ⟨a1, a2, a3, a4, a5, a6, a7⟩ := h3 i (by omega)
      unfold m_ok1
      rw [m_app_ne e, m_app_ne e, m_app_ne e, m_app_ne e]
      exact ⟨a1, a2, a3, a4, by omega, a6, a7⟩
  · rw [m_sum, m_app_3, m_sum_congr (g := fun i => c i 3) (fun i hi => m_app_ne (by omega) _), h4]; omega
theorem m_inv.inc {n j s : Nat} {c : Nat → Nat → Int} (h : m_inv n j s c) (hs : 0 < s ∧ c (s - 1) 0 = 0) : m_inv n (j + 1) s (m_inc c (s - 1)) := by
  obtain ⟨h1, h2, h3, h4, h5⟩ := h
  refine ⟨by omega, fun _ q => ?_, fun i hi => ?_, ?_, fun q => by omega⟩
  · rw [m_inc_ne (Or.inr (by decide))] at q; exact absurd hs.2 q
  · obtain ⟨a1, a2, a3, a4, a5, a6, a7⟩ := h3 i hi
    unfold m_ok1
    rw [m_inc_ne (a := 0) (Or.inr (by decide)), m_inc_ne (a := 1) (Or.inr (by decide)), m_inc_ne (a := 2) (Or.inr (by decide))]
    by_cases e : i = s - 1
    · subst e
      rw [m_inc_3]
      exact ⟨a1, a2, a3, by omega, by omega, a6, fun q => absurd hs.2 q⟩
    · rw [m_inc_ne (Or.inl e)]
      exact ⟨a1, a2, a3, a4, by omega, a6, a7⟩
  · rw [m_sum_at (g := fun i => c i 3) (d := s - 1) (by omega) (fun i hi hne => m_inc_ne (Or.inl hne)), h4, m_inc_3]; omega
theorem m_inv.zero {n : Nat} {c : Nat → Nat → Int} : m_inv n 0 0 c := ⟨by omega, fun h => by omega, fun i hi => absurd hi (Nat.not_lt_zero i), rfl, fun _ => rfl⟩
/-- which must be ahead of which -/
def m_ah (c : Nat → Nat → Int) (a b : Nat) : Bool := decide (a ≠ b ∧ c a 0 = 1 ∧ ¬ c b 0 = 2 ∧ c a 2 < c b 1 + c b 3 ∧ c b 1 < c a 2 + c a 3)
/-- bits of a set -/
def m_bits (P : Nat → Bool) : Nat → Nat
  | 0 => 0
  | b + 1 => m_bits P b ||| (if P b then 2 ^ b else 0)
theorem m_bits_lt {P : Nat → Bool} : ∀ n, m_bits P n < 2 ^ n
  | 0 => Nat.zero_lt_one
  | n + 1 => by
    have := m_bits_lt (P := P) n
    rw [m_bits]
    refine Nat.or_lt_two_pow (Nat.lt_of_lt_of_le this (Nat.pow_le_pow_right (by decide) (by omega))) ?_
    split
    · exact Nat.pow_lt_pow_right (by decide) (by omega)
    · exact Nat.two_pow_pos _
theorem m_bits_bit {P : Nat → Bool} {i : Nat} : ∀ n, (m_bits P n).testBit i = (decide (i < n) && P i)
  | 0 => by rw [m_bits, Nat.zero_testBit]; simp
  | n + 1 => by
    rw [m_bits, Nat.testBit_or, m_bits_bit n]
    by_cases h : i = n
    · subst h
      cases hP : P i <;> simp [Nat.testBit_two_pow_self]
    · have e : decide (i < n + 1) = decide (i < n) := by rw [decide_eq_decide]; omega
      rw [e]
      have : (if P n = true then 2 ^ n else 0 : Nat).testBit i = false := by
        split
        · rw [Nat.testBit_two_pow]; simp; omega
        · exact Nat.zero_testBit i
      rw [this, Bool.or_false]
theorem m_bits_congr {P Q : Nat → Bool} : ∀ {n : Nat}, (∀ i, i < n → P i = Q i) → m_bits P n = m_bits Q n
  | 0, _ => rfl
  | n + 1, h => by rw [m_bits, m_bits, m_bits_congr (n := n) (fun i hi => h i (by omega)), h n (by omega)]
/-- a number below 2^n is the bits that it has -/
theorem m_bits_eq {x n : Nat} (h : x < 2 ^ n) : x = m_bits (fun i => x.testBit i) n := by
  apply Nat.eq_of_testBit_eq
  intro i
  rw [m_bits_bit]
  by_cases hi : i < n
  · simp [hi]
  · have : x < 2 ^ i := Nat.lt_of_lt_of_le h (Nat.pow_le_pow_right (by decide) (by omega))
    rw [Nat.testBit_lt_two_pow this]; simp [hi]
def m_nx (c : Nat → Nat → Int) (s a : Nat) : Nat := if a < s then m_bits (m_ah c a) s else 0
theorem m_nx_bit {c : Nat → Nat → Int} {s a b : Nat} : (m_nx c s a).testBit b = (decide (a < s) && (decide (b < s) && m_ah c a b)) := by
  unfold m_nx
  split
  · rename_i h
    rw [m_bits_bit]; simp [h]
  · rename_i h
    rw [Nat.zero_testBit]; simp [h]
theorem m_nx_lt {c : Nat → Nat → Int} {s a : Nat} (hs : s ≤ 20) : m_nx c s a < 2 ^ 20 := by
  unfold m_nx
  split
  · exact Nat.lt_of_lt_of_le (m_bits_lt s) (Nat.pow_le_pow_right (by decide) hs)
  · decide
