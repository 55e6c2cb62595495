section
/-! sets in their order -/
def m_S (P : Nat → Bool) (n i : Nat) : Nat := m_bits (fun b => P b && i.testBit (m_cnt P b)) n
def m_sq : Nat → (Nat → Bool) → Nat → Nat
  | 0, _, _ => 0
  | n + 1, P, i => if P 0 then i % 2 + 2 * m_sq n (fun b => P (b + 1)) (i / 2) else 2 * m_sq n (fun b => P (b + 1)) i
def m_mk : Nat → (Nat → Bool) → Nat
  | 0, _ => 0
  | n + 1, P => (if P 0 then 1 else 0) + 2 * m_mk n (fun b => P (b + 1))
theorem m_cnt_low {P : Nat → Bool} : ∀ n, m_cnt P (n + 1) = (if P 0 then 1 else 0) + m_cnt (fun b => P (b + 1)) n
  | 0 => by
    show (if P 0 = true then 0 + 1 else 0) = (if P 0 = true then 1 else 0) + 0
    split <;> rfl
  | n + 1 => by
    have ih := m_cnt_low (P := P) n
    show (if P (n + 1) = true then m_cnt P (n + 1) + 1 else m_cnt P (n + 1)) = (if P 0 = true then 1 else 0) + (if P (n + 1) = true then m_cnt (fun b => P (b + 1)) n + 1 else m_cnt (fun b => P (b + 1)) n)
    rw [ih]
    split <;> omega
theorem m_sq_bit : ∀ (n : Nat) (P : Nat → Bool) (i b : Nat), (m_sq n P i).testBit b = (decide (b < n) && (P b && i.testBit (m_cnt P b)))
  | 0, P, i, b => by rw [m_sq, Nat.zero_testBit]; simp
  | n + 1, P, i, 0 => by
    rw [m_sq, Nat.testBit_zero, m_cnt, Nat.testBit_zero]
    cases h : P 0
    · rw [if_neg Bool.false_ne_true]; simp
    · rw [if_pos rfl, decide_eq_true (by omega : 0 < n + 1), Bool.true_and, Bool.true_and, decide_eq_decide]; omega
  | n + 1, P, i, b + 1 => by
    rw [m_sq, Nat.testBit_succ, m_cnt_low]
    cases h : P 0
    · rw [if_neg Bool.false_ne_true, if_neg Bool.false_ne_true, Nat.mul_div_cancel_left _ (by decide), m_sq_bit n, Nat.zero_add]
      congr 1
      rw [decide_eq_decide]; omega
    · rw [if_pos rfl, if_pos rfl, show (i % 2 + 2 * m_sq n (fun b => P (b + 1)) (i / 2)) / 2 = m_sq n (fun b => P (b + 1)) (i / 2) by omega, m_sq_bit n, Nat.add_comm 1, Nat.testBit_succ]
      congr 1
      rw [decide_eq_decide]; omega
theorem m_mk_bit : ∀ (n : Nat) (P : Nat → Bool) (b : Nat), (m_mk n P).testBit b = (decide (b < n) && P b)
  | 0, P, b => by rw [m_mk, Nat.zero_testBit]; simp
  | n + 1, P, 0 => by
    rw [m_mk, Nat.testBit_zero]
    cases h : P 0
    · simp
    · rw [if_pos rfl, decide_eq_true (by omega : 0 < n + 1), Bool.true_and, decide_eq_true_eq]; omega
  | n + 1, P, b + 1 => by
    rw [m_mk, Nat.testBit_succ, show ((if P 0 = true then 1 else 0) + 2 * m_mk n (fun b => P (b + 1))) / 2 = m_mk n (fun b => P (b + 1)) by split <;> omega, m_mk_bit n]
    congr 1
    rw [decide_eq_decide]; omega
theorem m_mk_lt : ∀ (n : Nat) (P : Nat → Bool), m_mk n P < 2 ^ n
  | 0, P => Nat.zero_lt_one
  | n + 1, P => by
    have := m_mk_lt n (fun b => P (b + 1))
    rw [m_mk, Nat.pow_succ]
    split <;> omega
theorem m_sq_le : ∀ (n : Nat) (P : Nat → Bool) (i : Nat), m_sq n P i ≤ m_mk n P
  | 0, P, i => Nat.le_refl _
  | n + 1, P, i => by
    have h1 := m_sq_le n (fun b => P (b + 1)) i
    have h2 := m_sq_le n (fun b => P (b + 1)) (i / 2)
    rw [m_sq, m_mk]
    split <;> omega
theorem m_and2 {a b x y : Nat} (hx : x < 2) (hy : y < 2) : (x + 2 * a) &&& (y + 2 * b) = (x &&& y) + 2 * (a &&& b) := by
  have h := m_and_split (x := x + 2 * a) (y := y + 2 * b) (k := 1)
  rw [Nat.pow_one, show (x + 2 * a) % 2 = x by omega, show (y + 2 * b) % 2 = y by omega, show (x + 2 * a) / 2 = a by omega, show (y + 2 * b) / 2 = b by omega] at h
  exact h
theorem m_incB : ∀ (n : Nat) (P : Nat → Bool) (i K : Nat), n ≤ K → (m_sq n P i + 2 ^ K - m_mk n P - 1) &&& m_mk n P = m_sq n P i
  | 0, P, i, K, _ => by rw [m_sq, m_mk, Nat.and_zero]
  | n + 1, P, i, K, h => by
    obtain ⟨K, rfl⟩ : ∃ k, K = k + 1 := ⟨K - 1, by omega⟩
    have hp : 2 ^ n ≤ 2 ^ K := Nat.pow_le_pow_right (by decide) (by omega)
    have hm := m_mk_lt n (fun b => P (b + 1))
    rw [m_sq, m_mk, Nat.pow_succ]
    cases hP : P 0
    · rw [if_neg Bool.false_ne_true, if_neg Bool.false_ne_true]
      have ih := m_incB n (fun b => P (b + 1)) i K (by omega)
      have hl := m_sq_le n (fun b => P (b + 1)) i
      rw [show 2 * m_sq n (fun b => P (b + 1)) i + 2 ^ K * 2 - (0 + 2 * m_mk n (fun b => P (b + 1))) - 1 = 1 + 2 * (m_sq n (fun b => P (b + 1)) i + 2 ^ K - m_mk n (fun b => P (b + 1)) - 1) by omega, m_and2 (by decide) (by decide), ih]
      exact Nat.zero_add _
    · rw [if_pos rfl, if_pos rfl]
      have ih := m_incB n (fun b => P (b + 1)) (i / 2) K (by omega)
      have hl := m_sq_le n (fun b => P (b + 1)) (i / 2)
      rcases Nat.mod_two_eq_zero_or_one i with e | e
      · rw [e, show 0 + 2 * m_sq n (fun b => P (b + 1)) (i / 2) + 2 ^ K * 2 - (1 + 2 * m_mk n (fun b => P (b + 1))) - 1 = 0 + 2 * (m_sq n (fun b => P (b + 1)) (i / 2) + 2 ^ K - m_mk n (fun b => P (b + 1)) - 1) by omega, m_and2 (by decide) (by decide), ih]
        rfl
      · rw [e, show 1 + 2 * m_sq n (fun b => P (b + 1)) (i / 2) + 2 ^ K * 2 - (1 + 2 * m_mk n (fun b => P (b + 1))) - 1 = 1 + 2 * (m_sq n (fun b => P (b + 1)) (i / 2) + 2 ^ K - m_mk n (fun b => P (b + 1)) - 1) by omega, m_and2 (by decide) (by decide), ih]
        rfl
theorem m_incA : ∀ (n : Nat) (P : Nat → Bool) (i K : Nat), n ≤ K → (m_sq n P i + 2 ^ K - m_mk n P) &&& m_mk n P = m_sq n P (i + 1)
  | 0, P, i, K, _ => by rw [m_sq, m_mk, Nat.and_zero]; rfl
  | n + 1, P, i, K, h => by
    obtain ⟨K, rfl⟩ : ∃ k, K = k + 1 := ⟨K - 1, by omega⟩
    have hp : 2 ^ n ≤ 2 ^ K := Nat.pow_le_pow_right (by decide) (by omega)
    have hm := m_mk_lt n (fun b => P (b + 1))
    rw [m_sq, m_sq, m_mk, Nat.pow_succ]
    cases hP : P 0
    · rw [if_neg Bool.false_ne_true, if_neg Bool.false_ne_true, if_neg Bool.false_ne_true]
      have ih := m_incA n (fun b => P (b + 1)) i K (by omega)
      have hl := m_sq_le n (fun b => P (b + 1)) i
      rw [show 2 * m_sq n (fun b => P (b + 1)) i + 2 ^ K * 2 - (0 + 2 * m_mk n (fun b => P (b + 1))) = 0 + 2 * (m_sq n (fun b => P (b + 1)) i + 2 ^ K - m_mk n (fun b => P (b + 1))) by omega, m_and2 (by decide) (by decide), ih]
      exact Nat.zero_add _
    · rw [if_pos rfl, if_pos rfl, if_pos rfl]
      have hl := m_sq_le n (fun b => P (b + 1)) (i / 2)
      rcases Nat.mod_two_eq_zero_or_one i with e | e
      · have ih := m_incB n (fun b => P (b + 1)) (i / 2) K (by omega)
        rw [e, show (i + 1) / 2 = i / 2 by omega, show (i + 1) % 2 = 1 by omega, show 0 + 2 * m_sq n (fun b => P (b + 1)) (i / 2) + 2 ^ K * 2 - (1 + 2 * m_mk n (fun b => P (b + 1))) = 1 + 2 * (m_sq n (fun b => P (b + 1)) (i / 2) + 2 ^ K - m_mk n (fun b => P (b + 1)) - 1) by omega, m_and2 (by decide) (by decide), ih]
        rfl
      · have ih := m_incA n (fun b => P (b + 1)) (i / 2) K (by omega)
        rw [e, show (i + 1) / 2 = i / 2 + 1 by omega, show (i + 1) % 2 = 0 by omega, show 1 + 2 * m_sq n (fun b => P (b + 1)) (i / 2) + 2 ^ K * 2 - (1 + 2 * m_mk n (fun b => P (b + 1))) = 0 + 2 * (m_sq n (fun b => P (b + 1)) (i / 2) + 2 ^ K - m_mk n (fun b => P (b + 1))) by omega, m_and2 (by decide) (by decide), ih]
        rfl
theorem m_S_sq {P : Nat → Bool} {n i : Nat} : m_S P n i = m_sq n P i := Nat.eq_of_testBit_eq (fun b => by rw [m_S, m_bits_bit, m_sq_bit])
theorem m_mk_eq {P : Nat → Bool} {n : Nat} : m_bits P n = m_mk n P := Nat.eq_of_testBit_eq (fun b => by rw [m_bits_bit, m_mk_bit])
theorem m_S_lt {P : Nat → Bool} {n i : Nat} : m_S P n i < 2 ^ n := m_bits_lt n
theorem m_S_bit {P : Nat → Bool} {n i b : Nat} : (m_S P n i).testBit b = (decide (b < n) && (P b && i.testBit (m_cnt P b))) := m_bits_bit n
/-- the next greater set -/
theorem g_next {P : Nat → Bool} {n i : Nat} (hn : n ≤ 20) : g_and (((m_S P n i : Nat) : Int) - ((m_bits P n : Nat) : Int)) ((m_bits P n : Nat) : Int) = ((m_S P n (i + 1) : Nat) : Int) := by
  rw [m_S_sq, m_S_sq, m_mk_eq]
  have h1 := m_sq_le n P i
  have h2 := m_mk_lt n P
  have h3 : 2 ^ n ≤ 2 ^ 20 := Nat.pow_le_pow_right (by decide) hn
  have ha := m_incA n P i 32 (by omega)
  generalize m_sq n P i = x at *
  generalize m_mk n P = y at *
  have e : Int32.ofInt ((x : Int) - (y : Int)) = Int32.ofInt ((x + 2 ^ 32 - y : Nat) : Int) := by
    apply Int32.toBitVec_inj.mp
    apply BitVec.eq_of_toNat_eq
    show (BitVec.ofInt 32 ((x : Int) - (y : Int))).toNat = (BitVec.ofInt 32 ((x + 2 ^ 32 - y : Nat) : Int)).toNat
    rw [BitVec.toNat_ofInt, BitVec.toNat_ofInt]
    omega
  have e2 : g_and ((x : Int) - (y : Int)) (y : Int) = g_and ((x + 2 ^ 32 - y : Nat) : Int) (y : Int) := by unfold g_and; rw [e]
  rw [e2, g_and_comm, g_and_n (by omega), Nat.and_comm, ha]
/-- counts and sums over a set -/
theorem m_cnt_S {P : Nat → Bool} {i : Nat} : ∀ n, m_cnt (fun b => P b && i.testBit (m_cnt P b)) n = m_cnt i.testBit (m_cnt P n)
  | 0 => rfl
  | n + 1 => by
    have ih := m_cnt_S (P := P) (i := i) n
    rw [m_cnt, ih, show m_cnt P (n + 1) = if P n = true then m_cnt P n + 1 else m_cnt P n from rfl]
    cases h : P n
    · rw [if_neg Bool.false_ne_true, Bool.false_and, if_neg Bool.false_ne_true]
    · rw [if_pos rfl, m_cnt, Bool.true_and]
theorem m_sum_S {P : Nat → Bool} {i : Nat} {W : Nat → Int} {r : Nat → Nat} : ∀ {n : Nat}, (∀ b, b < n → P b = true → r (m_cnt P b) = b) → m_sum (fun b => if (P b && i.testBit (m_cnt P b)) = true then W b else 0) n = m_sum (fun k => if i.testBit k = true then W (r k) else 0) (m_cnt P n)
  | 0, _ => rfl
  | n + 1, h => by
    have ih := m_sum_S (i := i) (W := W) (n := n) (fun b hb => h b (by omega))
    rw [m_sum, ih, show m_cnt P (n + 1) = if P n = true then m_cnt P n + 1 else m_cnt P n from rfl]
    cases hP : P n
    · rw [if_neg Bool.false_ne_true, Bool.false_and, if_neg Bool.false_ne_true, Int.add_zero]
    · rw [if_pos rfl, m_sum, h n (by omega) hP, Bool.true_and]
theorem m_cnt_sum {P : Nat → Bool} : ∀ n, ((m_cnt P n : Nat) : Int) = m_sum (fun b => if P b = true then 1 else 0) n
  | 0 => rfl
  | n + 1 => by
    rw [m_cnt, m_sum, ← m_cnt_sum n]
    split <;> omega
theorem m_cnt_ext {P : Nat → Bool} {s : Nat} : ∀ {n : Nat}, s ≤ n → (∀ i, s ≤ i → P i = false) → m_cnt P n = m_cnt P s
  | 0, h, _ => by rw [show s = 0 by omega]
  | n + 1, h, hp => by
    by_cases e : s = n + 1
    · rw [e]
    · rw [m_cnt, hp n (by omega), if_neg Bool.false_ne_true, m_cnt_ext (by omega) hp]
theorem m_cnt_uniq {P : Nat → Bool} {a b : Nat} (ha : P a = true) (hb : P b = true) (h : m_cnt P a = m_cnt P b) : a = b := by
  have mono : ∀ a b, a < b → P a = true → m_cnt P a < m_cnt P b := by
    intro a b
    induction b with
    | zero => intro h; exact absurd h (Nat.not_lt_zero a)
    | succ b ih =>
      intro h ha
      rw [m_cnt]
      by_cases e : a = b
      · subst e; rw [if_pos ha]; omega
      · have := ih (by omega) ha
        split <;> omega
  rcases Nat.lt_trichotomy a b with q | q | q
  · have := mono a b q ha; omega
  · exact q
  · have := mono b a q hb; omega
theorem m_cnt_below {P : Nat → Bool} {b n : Nat} (hb : b < n) (h : P b = true) : m_cnt P b < m_cnt P n := by
  induction n with
  | zero => exact absurd hb (Nat.not_lt_zero b)
  | succ n ih =>
    rw [m_cnt]
    by_cases e : b = n
    · subst e; rw [if_pos h]; omega
    · have := ih (by omega)
      split <;> omega
/-- the first of the least: value and set -/
def m_fwm (ok : Nat → Bool) (co : Nat → Int) (S : Nat → Nat) (F : Int) : Nat → Int × Nat
  | 0 => (F, 0)
  | i + 1 => if co i < (m_fwm ok co S F i).1 ∧ ok i = true then (co i, S i) else m_fwm ok co S F i
theorem m_fwm_two {ok : Nat → Bool} {co : Nat → Int} {S : Nat → Nat} {F F' : Int} (h : ∀ i, co i < F) (h' : ∀ i, co i < F') : ∀ N, ((∀ i, i < N → ok i = false) ∧ m_fwm ok co S F N = (F, 0) ∧ m_fwm ok co S F' N = (F', 0)) ∨ (m_fwm ok co S F N = m_fwm ok co S F' N ∧ (m_fwm ok co S F N).1 < F ∧ (m_fwm ok co S F' N).1 < F')
  | 0 => Or.inl ⟨fun i hi => absurd hi (Nat.not_lt_zero i), rfl, rfl⟩
  | N + 1 => by
    rw [m_fwm, m_fwm]
    rcases m_fwm_two h h' N with ⟨a, b, d⟩ | ⟨a, b, d⟩
    · rw [b, d]
      cases q : ok N
      · left
        rw [if_neg (by simp), if_neg (by simp)]
        refine ⟨fun i hi => ?_, rfl, rfl⟩
        rcases Nat.lt_succ_iff_lt_or_eq.mp hi with e | rfl
        · exact a i e
        · exact q
      · right
        rw [if_pos ⟨h N, rfl⟩, if_pos ⟨h' N, rfl⟩]
        exact ⟨rfl, h N, h' N⟩
    · right
      rw [← a]
      rw [← a] at d
      split
      · exact ⟨rfl, h N, h' N⟩
      · exact ⟨rfl, b, d⟩
theorem m_fwm_eq {ok : Nat → Bool} {co : Nat → Int} {S : Nat → Nat} {F F' : Int} {N i : Nat} (h : ∀ i, co i < F) (h' : ∀ i, co i < F') (hi : i < N) (ho : ok i = true) : m_fwm ok co S F N = m_fwm ok co S F' N ∧ (m_fwm ok co S F N).1 < F := by
  rcases m_fwm_two (ok := ok) (S := S) h h' N with ⟨a, _⟩ | q
  · rw [a i hi] at ho; cases ho
  · exact ⟨q.1, q.2.1⟩
/-- what is weighed of a set of commands -/
noncomputable def m_R (s : Nat) (c : Nat → Nat → Int) : Nat → Bool := m_rgb s c (m_cp c)
noncomputable def m_wok (s : Nat) (c : Nat → Nat → Int) (i : Nat) : Bool := m_acyb s c (fun b => m_cp c b && !(m_S (m_R s c) s i).testBit b)
def m_cost (W : Nat → Int) (s x : Nat) : Int := m_sum (fun b => if x.testBit b = true then W b else 0) s
noncomputable def m_wco (s : Nat) (c : Nat → Nat → Int) (W : Nat → Int) (i : Nat) : Int := m_cost W s (m_S (m_R s c) s i)
noncomputable def m_few (s : Nat) (c : Nat → Nat → Int) (W : Nat → Int) (F : Int) (N : Nat) : Int × Nat := m_fwm (m_wok s c) (m_wco s c W) (m_S (m_R s c) s) F N
theorem m_R_lt {s b : Nat} {c : Nat → Nat → Int} (h : m_R s c b = true) : b < s := (m_rgb_iff.mp h).al.1
theorem m_acyb_ring {s x : Nat} {c : Nat → Nat → Int} : m_acyb s c (fun b => m_R s c b && !x.testBit b) = m_acyb s c (fun b => m_cp c b && !x.testBit b) := by
  rw [Bool.eq_iff_iff, m_acyb_iff, m_acyb_iff]
  constructor
  · intro h k hk
    refine h k (hk.mono (fun y hy => ?_))
    have hy2 := hy.al.2.1
    rw [Bool.and_eq_true] at hy2 ⊢
    exact ⟨m_rgb_iff.mpr (hy.mono (fun z hz => by have := hz.al.2.1; rw [Bool.and_eq_true] at this; exact this.1)), hy2.2⟩
  · intro h k hk
    refine h k (hk.mono (fun y hy => ?_))
    have hy2 := hy.al.2.1
    rw [Bool.and_eq_true] at hy2 ⊢
    exact ⟨(m_rgb_iff.mp hy2.1).al.2.1, hy2.2⟩
theorem m_wok_full {s : Nat} {c : Nat → Nat → Int} : m_wok s c (2 ^ m_cnt (m_R s c) s - 1) = true := m_acyb_iff.mpr (fun k hk => by
  have h1 : m_R s c k = true := m_rgb_iff.mpr (hk.mono (fun z hz => by have := hz.al.2.1; rw [Bool.and_eq_true] at this; exact this.1))
  have h2 := hk.al.2.1
  have h3 := hk.al.1
  rw [m_S_bit, h1, Nat.testBit_two_pow_sub_one, decide_eq_true h3, decide_eq_true (m_cnt_below h3 h1)] at h2
  simp at h2)
theorem m_cost_rng {W : Nat → Int} {x s : Nat} {B : Int} (hW : ∀ b, b < s → 0 ≤ W b) (hB : m_sum W s ≤ B) : 0 ≤ m_cost W s x ∧ m_cost W s x ≤ B := by
  constructor
  · refine m_sum_nn (fun i hi => ?_)
    have := hW i hi
    split <;> omega
  · refine Int.le_trans (m_sum_le (fun i hi => ?_)) hB
    have := hW i hi
    split <;> omega
end
