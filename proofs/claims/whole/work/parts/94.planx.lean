section
/-! the plan in the class -/
def m_on (a len : Nat) : Nat := (2 ^ len - 1) <<< a
theorem m_on_bit {a len i : Nat} : (m_on a len).testBit i = (decide (a ≤ i) && decide (i < a + len)) := by
  unfold m_on
  rw [Nat.testBit_shiftLeft, Nat.testBit_two_pow_sub_one]
  by_cases h : a ≤ i
  · rw [decide_eq_true h, Bool.true_and, Bool.true_and, decide_eq_decide]; omega
  · rw [decide_eq_false h]; rfl
theorem m_on_lt {a len : Nat} (h : a + len ≤ 20) : m_on a len < 2 ^ 20 := by
  unfold m_on
  rw [Nat.shiftLeft_eq]
  have h1 : 2 ^ len * 2 ^ a ≤ 2 ^ 20 := by rw [← Nat.pow_add]; exact Nat.pow_le_pow_right (by decide) (by omega)
  have h2 : 1 ≤ 2 ^ a := Nat.two_pow_pos a
  have h3 : 1 ≤ 2 ^ len := Nat.two_pow_pos len
  calc (2 ^ len - 1) * 2 ^ a < 2 ^ len * 2 ^ a := Nat.mul_lt_mul_of_pos_right (by omega) (by omega)
    _ ≤ 2 ^ 20 := h1
theorem g_shl_n {x k : Nat} (h : x <<< k < 2 ^ 31) (hk : k < 32) : g_shl (x : Int) (k : Int) = ((x <<< k : Nat) : Int) := by
  unfold g_shl
  rw [g_ofN, g_ofN]
  have e : nI x <<< (nI k &&& 31) = nI (x <<< k) := b_ext (fun i hi => by
    rw [b_shl k hk _ hi, bt_nI _ hi, Nat.testBit_shiftLeft]
    by_cases q : k ≤ i
    · rw [bt_nI x (by omega)]
    · rw [decide_eq_false q]; rfl)
  rw [e, nI_toInt h]
def m_an (x y : Nat) : Nat := x ^^^ (x &&& y)
theorem m_an_bit {x y i : Nat} : (m_an x y).testBit i = (x.testBit i && !y.testBit i) := by
  unfold m_an
  rw [Nat.testBit_xor, Nat.testBit_and]
  cases x.testBit i <;> cases y.testBit i <;> rfl
theorem m_an_le {x y n : Nat} (h : x < 2 ^ n) : m_an x y < 2 ^ n := Nat.xor_lt_two_pow h (Nat.lt_of_le_of_lt Nat.and_le_left h)
theorem g_an {x y : Nat} (h : x < 2 ^ 31) : g_and (x : Int) (g_xor (y : Int) (-1)) = ((m_an x y : Nat) : Int) := g_andn_n h
theorem m_lt20 {x : Nat} (h : x < 2 ^ 20) : x < 2 ^ 31 := Nat.lt_of_lt_of_le h (by decide)
theorem m_b20 {P : Nat → Bool} {n : Nat} (h : n ≤ 20) : m_bits P n < 2 ^ 20 := Nat.lt_of_lt_of_le (m_bits_lt n) (Nat.pow_le_pow_right (by decide) h)
def m_or (P : Nat → Bool) (f : Nat → Nat) : Nat → Nat
  | 0 => 0
  | k + 1 => m_or P f k ||| (if P k then f k else 0)
theorem m_or_bit {P : Nat → Bool} {f : Nat → Nat} {b : Nat} : ∀ n, (m_or P f n).testBit b = m_any (fun a => P a && (f a).testBit b) n
  | 0 => Nat.zero_testBit b
  | n + 1 => by
    rw [m_or, Nat.testBit_or, m_or_bit n, m_any]
    congr 1
    cases P n
    · rw [if_neg Bool.false_ne_true, Nat.zero_testBit]; rfl
    · rw [if_pos rfl]; rfl
theorem m_or_lt {P : Nat → Bool} {f : Nat → Nat} {N : Nat} (hf : ∀ a, f a < 2 ^ N) : ∀ n, m_or P f n < 2 ^ N
  | 0 => Nat.two_pow_pos N
  | n + 1 => by
    rw [m_or]
    refine Nat.or_lt_two_pow (m_or_lt hf n) ?_
    split
    · exact hf n
    · exact Nat.two_pow_pos N
/-- an act's place in the stash -/
def m_pa (p : m_P) (i : Nat) : Int := if p_a p i = 1 ∨ p_a p i = 3 then (p_h p (p_o p i) : Nat) else -1
def x_plA (D : g_D) (k : Nat) (p : m_P) : Prop := ∀ i, i < p_n p → D (k + 1) i = (p_a p i : Nat) ∧ D (k + 2) i = (p_o p i : Nat) ∧ D (k + 3) i = m_pa p i
def x_plH (D : g_D) (k s : Nat) (p : m_P) : Prop := ∀ b, b < s → p_v p b = true → D (k + 4) b = (p_h p b : Nat)
def x_plD (D : g_D) (k s : Nat) (c : Nat → Nat → Int) (p : m_P) : Prop := D k 5 = (p_n p : Nat) ∧ D k 6 = m_by c p ∧ D k 7 = (m_bits (p_d p) 20 : Nat) ∧ D k 8 = (m_bits (p_v p) 20 : Nat) ∧ D k 9 = (m_bits (p_t p) 20 : Nat) ∧ D k 10 = (m_bits (p_k p) 20 : Nat) ∧ D k 11 = (p_m p : Nat) ∧ x_plA D k p ∧ x_plH D k s p
/-- nothing but a plan and the paper of rings -/
def x_fP (k r : Nat) (D D' : g_D) : Prop := ∀ i, ¬ (k ≤ i ∧ i ≤ k + 4) → i ≠ r + 7 → D' i = D i
theorem x_fP.refl (k r : Nat) (D : g_D) : x_fP k r D D := fun _ _ _ => rfl
theorem x_fP.trans {k r : Nat} {D D' D'' : g_D} (h : x_fP k r D D') (h2 : x_fP k r D' D'') : x_fP k r D D'' := fun i a b => (h2 i a b).trans (h i a b)
theorem x_fP.up {k r : Nat} {D D' : g_D} {i j : Nat} {v : Int} (h : x_fP k r D D') (hi : k ≤ i ∧ i ≤ k + 4) : x_fP k r D (g_up D' i j v) := fun a h1 h2 => by rw [g_up_ne (by omega)]; exact h a h1 h2
theorem x_fP.cmd {k r s : Nat} {D D' : g_D} {c : Nat → Nat → Int} (h : x_fP k r D D') (hk : r + 7 < k) (hc : x_cmd D r s c) : x_cmd D' r s c := by
  unfold x_cmd at *
  rw [h r (by omega) (by omega), h (r + 1) (by omega) (by omega), h (r + 2) (by omega) (by omega), h (r + 3) (by omega) (by omega), h (r + 4) (by omega) (by omega)]
  exact hc
theorem x_fP.nx {k r s : Nat} {D D' : g_D} {c : Nat → Nat → Int} (h : x_fP k r D D') (hk : r + 7 < k) (hc : x_nx D r s c) : x_nx D' r s c := by unfold x_nx at *; rw [h (r + 5) (by omega) (by omega)]; exact hc
section PLANX
variable {E : g_E} {l : Launch} {sh : List g_Sh} {D : g_D} {s : Nat} {c : Nat → Nat → Int} {p : m_P}
theorem c_X11_onesFrom {K : Int → g_D → Prop} {a len : Nat} (h : a + len ≤ 20) (kk : K ((m_on a len : Nat) : Int) D) : k_X11_onesFrom E l sh D a len K := by
  refine s_X11_onesFrom (fun _ _ _ => ?_)
  have h1 : 1 ≤ 2 ^ len := Nat.two_pow_pos len
  have h2 : 2 ^ len ≤ 2 ^ 20 := Nat.pow_le_pow_right (by decide) (by omega)
  have h3 := m_on_lt h
  rw [g_shl1_n (by omega), show (((2 ^ len : Nat) : Int) - 1) = ((2 ^ len - 1 : Nat) : Int) by omega, g_shl_n (m_lt20 h3) (by omega)]
  exact ⟨⟨by omega, by omega⟩, kk⟩
theorem c_X4_fateOf {K : Int → g_D → Prop} {k b : Nat} (hk : is_Plan g_SH k) (hb : b < 20) (h8 : D k 8 = (m_bits (p_v p) 20 : Nat)) (h9 : D k 9 = (m_bits (p_t p) 20 : Nat)) (kk : K (if p_v p b = true then 1 else if p_t p b = true then 2 else 0) D) : k_X4_fateOf E l D k b K := by
  refine s_X4_fateOf hk (fun _ _ => ?_)
  rw [h8]
  refine c_hasBit (m_lt20 (m_b20 (Nat.le_refl _))) (by omega) (fun _ => ⟨fun q => ?_, fun q => ?_⟩)
  · rw [h9]
    refine c_hasBit (m_lt20 (m_b20 (Nat.le_refl _))) (by omega) (fun _ => ⟨fun q2 => ?_, fun q2 => ?_⟩)
    · rw [m_bits_bit, decide_eq_true hb, Bool.true_and] at q q2
      rw [g_b_0.mp q, g_b_0.mp q2] at kk; exact kk
    · rw [m_bits_bit, decide_eq_true hb, Bool.true_and] at q q2
      rw [g_b_0.mp q, g_b_n0.mp q2] at kk; exact kk
  · rw [m_bits_bit, decide_eq_true hb, Bool.true_and] at q
    rw [g_b_n0.mp q] at kk; exact kk
theorem c_X4_readers {K : Int → g_D → Prop} {k r : Nat} (hk : is_Plan g_SH k) (hr : is_Script g_SH r) (hs : s ≤ 20) (hc : x_cmd D r s c) (h : x_plD D k s c p) (kk : ∀ x : Nat, x < 2 ^ 20 → (∀ i, x.testBit i = (decide (i < s) && m_oc c p i)) → K x D) : k_X4_readers E l D k r K := by
  refine s_X4_readers hk hr (fun _ => c_X7_movers hr hs hc (fun _ => ?_))
  obtain ⟨h5, h6, h7, h8, h9, h10, h11, hA, hH⟩ := h
  have hm : m_bits (fun i => decide (c i 0 = 1)) s < 2 ^ 20 := m_b20 hs
  rw [h7, h8, h9, g_an (m_lt20 hm), g_an (m_lt20 (m_an_le hm)), g_an (m_lt20 (m_an_le (m_an_le hm)))]
  refine kk _ (m_an_le (m_an_le (m_an_le hm))) (fun i => ?_)
  rw [m_an_bit, m_an_bit, m_an_bit, m_bits_bit, m_bits_bit, m_bits_bit, m_bits_bit]
  unfold m_oc m_cp m_op
  by_cases q : i < s
  · rw [decide_eq_true q, decide_eq_true (show i < 20 by omega)]
    cases decide (c i 0 = 1) <;> cases p_d p i <;> cases p_v p i <;> cases p_t p i <;> rfl
  · rw [decide_eq_false q]; simp
theorem c_X4_blockedBits {K : Int → g_D → Prop} {k r : Nat} (hk : is_Plan g_SH k) (hr : is_Script g_SH r) (hs : s ≤ 20) (hc : x_cmd D r s c) (hn : x_nx D r s c) (h : x_plD D k s c p) (kk : ∀ x : Nat, x < 2 ^ 20 → (∀ b, x.testBit b = (decide (b < s) && m_any (fun a => m_oc c p a && m_ah c a b) s)) → K x D) : k_X4_blockedBits E l D k r K := by
  refine s_X4_blockedBits hk hr (fun _ => c_X4_readers hk hr hs hc h (fun x hx hb _ => ?_))
  have h1 := hc.1
  have hlt : ∀ a, m_nx c s a < 2 ^ 20 := fun a => m_nx_lt hs
  have key : ∀ q a : Nat, s - a = q → a ≤ s → n_X4_blockedBits E l D 11 [none, some (g_R r), some (g_I x), some (g_I ((m_or x.testBit (m_nx c s) a : Nat) : Int)), some (g_I a)] K := by
    intro q
    induction q with
    | zero =>
      intro a hq ha
      obtain rfl : a = s := by omega
      refine s_X4_blockedBits_11 hk hr (fun _ _ _ _ => ⟨fun _ => kk _ (m_or_lt hlt a) (fun b => ?_), fun q => (by omega : False).elim⟩)
      rw [m_or_bit]
      by_cases q : b < a
      · rw [decide_eq_true q, Bool.true_and]
        rw [Bool.eq_iff_iff, m_any_iff, m_any_iff]
        constructor
        · rintro ⟨i, i1, i2⟩
          rw [hb i, m_nx_bit, decide_eq_true i1, decide_eq_true q] at i2
          exact ⟨i, i1, by simpa using i2⟩
        · rintro ⟨i, i1, i2⟩
          refine ⟨i, i1, ?_⟩
          rw [hb i, m_nx_bit, decide_eq_true i1, decide_eq_true q]
          simpa using i2
      · rw [decide_eq_false q, Bool.false_and]
        cases e : m_any (fun i => x.testBit i && (m_nx c a i).testBit b) a with
        | false => rfl
        | true =>
          obtain ⟨i, i1, i2⟩ := m_any_iff.mp e
          rw [m_nx_bit, decide_eq_false q] at i2
          simp at i2
    | succ q ih =>
      intro a hq ha
      have ih' := ih (a + 1) (by omega) (by omega)
      have e : m_or x.testBit (m_nx c s) (a + 1) = m_or x.testBit (m_nx c s) a ||| (if x.testBit a then m_nx c s a else 0) := rfl
      rw [← g_cast1, e] at ih'
      have hl1 : m_or x.testBit (m_nx c s) a < 2 ^ 20 := m_or_lt hlt a
      refine s_X4_blockedBits_11 hk hr (fun _ _ _ _ => ⟨fun q => (by omega : False).elim, fun _ => c_hasBit (m_lt20 hx) (by omega) (fun _ => ⟨fun q => ⟨⟨by omega, by omega⟩, ?_⟩, fun q => ⟨by omega, ⟨by omega, by omega⟩, ?_⟩⟩)⟩)
      · rw [g_b_0.mp q, if_neg Bool.false_ne_true, Nat.or_zero] at ih'
        rw [show (0 : Int) = ((0 : Nat) : Int) from rfl, g_or_n (m_lt20 hl1) (by decide), Nat.or_zero]
        exact ih'
      · rw [g_b_n0.mp q, if_pos rfl] at ih'
        rw [Int.toNat_natCast, hn a (by omega), g_or_n (m_lt20 hl1) (m_lt20 (hlt a))]
        exact ih'
  exact key s 0 rfl (Nat.zero_le _)
theorem c_X4_append {K : g_D → Prop} {k n : Nat} {v1 v2 v3 v4 y : Int} (hk : is_Plan g_SH k) (hn : D k 5 = n) (hn2 : n < 40) (h6 : D k 6 = y) (hy : 0 ≤ y ∧ y ≤ 1000) (hv4 : 0 ≤ v4 ∧ v4 ≤ 1000) (kk : ∀ D' : g_D, D' = g_up (g_up (g_up (g_up (g_up D (k + 1) n v1) (k + 2) n v2) (k + 3) n v3) k 5 ((n + 1 : Nat) : Int)) k 6 (y + v4) → K D') : k_X4_append E l D k v1 v2 v3 v4 K := by
  refine s_X4_append hk (fun _ _ _ _ _ => ⟨fun q => (by omega : False).elim, fun _ => ⟨by omega, fun D1 e1 => ?_⟩⟩)
  rw [hn, Int.toNat_natCast] at e1
  have a1 : D1 k 5 = n := by rw [e1, g_up_ne (by omega)]; exact hn
  rw [a1]
  refine ⟨by omega, fun D2 e2 => ?_⟩
  rw [Int.toNat_natCast] at e2
  have a2 : D2 k 5 = n := by rw [e2, g_up_ne (by omega)]; exact a1
  rw [a2]
  refine ⟨by omega, fun D3 e3 => ?_⟩
  rw [Int.toNat_natCast] at e3
  have a3 : D3 k 5 = n := by rw [e3, g_up_ne (by omega)]; exact a2
  rw [a3]
  refine ⟨⟨by omega, by omega⟩, fun D4 e4 => ?_⟩
  have a4 : D4 k 6 = y := by rw [e4, g_up_at (by decide), e3, g_up_ne (by omega), e2, g_up_ne (by omega), e1, g_up_ne (by omega)]; exact h6
  rw [a4]
  refine ⟨⟨by omega, by omega⟩, fun D5 e5 => kk D5 ?_⟩
  rw [e5, e4, e3, e2, e1, g_cast1]
/-- bits of a set that has one more -/
theorem m_bits_set {f : Nat → Bool} {k n : Nat} (hk : k < n) : m_bits f n ||| 2 ^ k = m_bits (b_set f k true) n := Nat.eq_of_testBit_eq (fun i => by
  rw [Nat.testBit_or, m_bits_bit, m_bits_bit, Nat.testBit_two_pow]
  by_cases e : i = k
  · subst e; rw [b_set_eq, decide_eq_true hk]; simp
  · rw [b_set_ne e, decide_eq_false (Ne.symm e), Bool.or_false])
theorem m_bits_out {f : Nat → Bool} {a len : Nat} : m_an (m_bits f 20) (m_on a len) = m_bits (b_reg f a len false) 20 := Nat.eq_of_testBit_eq (fun i => by
  rw [m_an_bit, m_bits_bit, m_bits_bit, m_on_bit]
  unfold b_reg
  by_cases q : a ≤ i ∧ i < a + len
  · rw [if_pos q, decide_eq_true q.1, decide_eq_true q.2]; simp
  · rw [if_neg q]
    have : (decide (a ≤ i) && decide (i < a + len)) = false := by
      by_cases q1 : a ≤ i
      · rw [decide_eq_false (show ¬ i < a + len by omega), Bool.and_false]
      · rw [decide_eq_false q1, Bool.false_and]
    rw [this, Bool.not_false, Bool.and_true])
theorem m_bits_in {f : Nat → Bool} {a len : Nat} (h : a + len ≤ 20) : m_bits f 20 ||| m_on a len = m_bits (b_reg f a len true) 20 := Nat.eq_of_testBit_eq (fun i => by
  rw [Nat.testBit_or, m_bits_bit, m_bits_bit, m_on_bit]
  unfold b_reg
  by_cases q : a ≤ i ∧ i < a + len
  · rw [if_pos q, decide_eq_true q.1, decide_eq_true q.2, decide_eq_true (show i < 20 by omega)]; simp
  · rw [if_neg q]
    have : (decide (a ≤ i) && decide (i < a + len)) = false := by
      by_cases q1 : a ≤ i
      · rw [decide_eq_false (show ¬ i < a + len by omega), Bool.and_false]
      · rw [decide_eq_false q1, Bool.false_and]
    rw [this, Bool.or_false])
theorem m_by_rng {s : Nat} {c : Nat → Nat → Int} {p : m_P} (hc : m_cok s c) (h : m_pI s c p) : 1 ≤ m_by c p ∧ m_by c p ≤ 141 := by
  have := m_of_le hc h
  have h2 := m_of_pos (c := c) (p := p) (p_n p)
  omega
theorem c_X4_finish {K : g_D → Prop} {k r b : Nat} (hk : is_Plan g_SH k) (hr : is_Script g_SH r) (hkr : r + 11 < k) (hok : m_cok s c) (hc : x_cmd D r s c) (h : x_plD D k s c p) (hI : m_pI s c p) (hb : b < s) (hst : ¬ c b 0 = 2)
    (kk : ∀ D' : g_D, x_fP k r D D' → x_plD D' k s c (m_doe c p b) → K D') : k_X4_finish E l D k r b K := by
  obtain ⟨h5, h6, h7, h8, h9, h10, h11, hA, hH⟩ := h
  have hs := hok.1
  have hn : p_n p ≤ 30 := by have := hI.2.2.2.2.2.2.1; omega
  have hby := m_by_rng hok hI
  have hlen := hok.len.le hb
  have hlen1 := (hok.2.1 b hb).2.2.1
  have hpd : m_bits (p_d p) 20 < 2 ^ 20 := m_b20 (Nat.le_refl _)
  have h2b : 2 ^ b < 2 ^ 20 := Nat.pow_lt_pow_right (by decide) (by omega)
  have hpk : m_bits (p_k p) 20 < 2 ^ 20 := m_b20 (Nat.le_refl _)
  refine s_X4_finish hk hr (fun _ _ => c_X4_fateOf (p := p) hk (by omega) h8 h9 (fun _ D2 e2 => ?_))
  rw [h7, g_shl1_n (by omega), g_or_n (m_lt20 hpd) (m_lt20 h2b), m_bits_set (by omega)] at e2
  obtain ⟨c1, c2, c3, c4⟩ := hc.2 b hb
  have r4 : D2 (r + 4) b = c b 3 := by rw [e2, g_up_ne (by omega)]; exact c4
  have r1 : D2 (r + 1) b = c b 0 := by rw [e2, g_up_ne (by omega)]; exact c1
  have main : ∀ (kd : Nat) (D3 : g_D) (pl v4 : Int), m_dk c p b = kd → pl = (if kd = 3 then ((p_h p b : Nat) : Int) else -1) → v4 = (if kd = 4 then 3 + c b 3 else 4) → (D3 = (if p_v p b = true then g_up D2 k 10 ((m_bits (b_reg (p_k p) (p_h p b) (c b 3).toNat false) 20 : Nat) : Int) else D2)) → k_X4_append E l D3 k kd b pl v4 (fun D4 => K D4) := by
    intro kd D3 pl v4 hkd hpl hv4 e3
    have a5 : D3 k 5 = (p_n p : Nat) := by rw [e3]; split <;> simp (disch := omega) only [e2, g_up_at, ne_eq, not_false_eq_true, h5]
    have a6 : D3 k 6 = m_by c p := by rw [e3]; split <;> simp (disch := omega) only [e2, g_up_at, ne_eq, not_false_eq_true, h6]
    have a7 : D3 k 7 = (m_bits (b_set (p_d p) b true) 20 : Nat) := by rw [e3]; split <;> simp (disch := omega) only [e2, g_up_at, g_up_eq, ne_eq, not_false_eq_true]
    have a8 : D3 k 8 = (m_bits (p_v p) 20 : Nat) := by rw [e3]; split <;> simp (disch := omega) only [e2, g_up_at, ne_eq, not_false_eq_true, h8]
    have a9 : D3 k 9 = (m_bits (p_t p) 20 : Nat) := by rw [e3]; split <;> simp (disch := omega) only [e2, g_up_at, ne_eq, not_false_eq_true, h9]
    have a10 : D3 k 10 = (m_bits (p_k (m_doe c p b)) 20 : Nat) := by
      show _ = ((m_bits (if p_v p b then b_reg (p_k p) (p_h p b) (c b 3).toNat false else p_k p) 20 : Nat) : Int)
      rw [e3]; split <;> simp (disch := omega) only [e2, g_up_at, g_up_eq, ne_eq, not_false_eq_true, h10]
    have a11 : D3 k 11 = (p_m p : Nat) := by rw [e3]; split <;> simp (disch := omega) only [e2, g_up_at, ne_eq, not_false_eq_true, h11]
    have af : ∀ i, i ≠ k → D3 i = D i := by intro i hi; rw [e3]; split <;> simp (disch := omega) only [e2, g_up_ne, ne_eq, not_false_eq_true]
    refine c_X4_append (n := p_n p) (y := m_by c p) hk a5 (by omega) a6 (by omega) (by rw [hv4]; split <;> omega) (fun D4 e4 => kk D4 (fun i x1 x2 => ?_) ⟨?_, ?_, ?_, ?_, ?_, ?_, ?_, fun i hi => ?_, fun i hi hv => ?_⟩)
    · rw [e4]; simp (disch := omega) only [g_up_ne, ne_eq, not_false_eq_true]; exact af i (by omega)
    · rw [e4, g_up_at (by decide), g_up_eq]; rfl
    · rw [e4, g_up_eq]
      show _ = 1 + m_sum (m_ab c (m_doe c p b)) (p_n p + 1)
      have e1 : m_sum (m_ab c (m_doe c p b)) (p_n p) = m_sum (m_ab c p) (p_n p) := m_ab_congr (fun i hi => n_set_ne (by omega)) (fun i hi => n_set_ne (by omega))
      have e5 : m_ab c (m_doe c p b) (p_n p) = v4 := by
        unfold m_ab
        rw [show p_a (m_doe c p b) (p_n p) = m_dk c p b from n_set_eq, show p_o (m_doe c p b) (p_n p) = b from n_set_eq, hkd, hv4]
      rw [m_sum, e1, e5]
      unfold m_by
      omega
    · rw [e4]; simp (disch := omega) only [g_up_ne, g_up_at, ne_eq, not_false_eq_true]; exact a7
    · rw [e4]; simp (disch := omega) only [g_up_ne, g_up_at, ne_eq, not_false_eq_true]; exact a8
    · rw [e4]; simp (disch := omega) only [g_up_ne, g_up_at, ne_eq, not_false_eq_true]; exact a9
    · rw [e4]; simp (disch := omega) only [g_up_ne, g_up_at, ne_eq, not_false_eq_true]; exact a10
    · rw [e4]; simp (disch := omega) only [g_up_ne, g_up_at, ne_eq, not_false_eq_true]; exact a11
    · have hi : i < p_n p + 1 := hi
      unfold m_pa
      rw [e4]
      show _ = ((n_set (p_a p) (p_n p) (m_dk c p b) i : Nat) : Int) ∧ _ = ((n_set (p_o p) (p_n p) b i : Nat) : Int) ∧ _ = (if n_set (p_a p) (p_n p) (m_dk c p b) i = 1 ∨ n_set (p_a p) (p_n p) (m_dk c p b) i = 3 then ((p_h p (n_set (p_o p) (p_n p) b i) : Nat) : Int) else -1)
      by_cases e : i = p_n p
      · subst e
        rw [n_set_eq, n_set_eq, hkd]
        simp (disch := omega) only [g_up_ne, g_up_eq, ne_eq, not_false_eq_true, true_and]
        rw [hpl]
        have : kd ≠ 1 := by rw [← hkd]; unfold m_dk; split; decide; split <;> decide
        by_cases q : kd = 3
        · rw [if_pos q, if_pos (Or.inr q)]
        · rw [if_neg q, if_neg (by omega)]
      · rw [n_set_ne e, n_set_ne e]
        simp (disch := omega) only [g_up_ne, g_up_at, ne_eq, not_false_eq_true]
        rw [af (k + 1) (by omega), af (k + 2) (by omega), af (k + 3) (by omega)]
        exact hA i (by omega)
    · rw [e4]; simp (disch := omega) only [g_up_ne, ne_eq, not_false_eq_true]; rw [af (k + 4) (by omega)]; exact hH i hi hv
  rw [Int.toNat_natCast, r4, r1]
  by_cases hv : p_v p b = true
  · have hkd : m_dk c p b = 3 := by unfold m_dk; rw [if_pos hv]
    obtain ⟨_, _, hh⟩ := hI.2.1 b hv
    rw [if_pos hv]
    refine ⟨fun q => absurd rfl q, fun _ => ⟨by omega, by omega, ?_⟩⟩
    have rh : D2 (k + 4) b = (p_h p b : Nat) := by rw [e2, g_up_ne (by omega)]; exact hH b hb hv
    have r10 : D2 k 10 = (m_bits (p_k p) 20 : Nat) := by rw [e2, g_up_at (by decide)]; exact h10
    rw [rh, r10, show c b 3 = (((c b 3).toNat : Nat) : Int) by omega]
    refine c_X11_onesFrom hh (fun _ D7 e7 => ⟨by omega, ?_⟩)
    rw [g_an (m_lt20 hpk), m_bits_out] at e7
    have rh7 : D7 (k + 4) b = (p_h p b : Nat) := by rw [e7, g_up_ne (by omega)]; exact rh
    rw [rh7]
    exact main 3 D7 _ 4 hkd (by rw [if_pos rfl]) (by rw [if_neg (by decide)]) (by rw [if_pos hv]; exact e7)
  · rw [if_neg hv]
    by_cases ht : p_t p b = true
    · have hkd : m_dk c p b = 4 := by unfold m_dk; rw [if_neg hv, if_neg (by rw [ht]; exact fun q => by cases q.2)]
      rw [if_pos ht]
      refine ⟨fun _ => ⟨fun _ => ⟨by omega, ⟨by omega, by omega⟩, main 4 D2 (-1) _ hkd (by rw [if_neg (by decide)]) (by rw [if_pos rfl]) (by rw [if_neg hv])⟩, fun q => absurd rfl q⟩, fun q => absurd q (by decide)⟩
    · rw [if_neg ht]
      have ht' : p_t p b = false := Bool.not_eq_true _ ▸ ht
      refine ⟨fun _ => ⟨fun q => absurd q (by decide), fun _ => ⟨by omega, fun q => ?_, fun q => ⟨by omega, ⟨by omega, by omega⟩, ?_⟩⟩⟩, fun q => absurd q (by decide)⟩
      · have hkd : m_dk c p b = 2 := by
          have := hok.2.1 b hb
          unfold m_dk; rw [if_neg hv, if_pos ⟨by omega, ht'⟩]
        exact main 2 D2 (-1) 4 hkd (by rw [if_neg (by decide)]) (by rw [if_neg (by decide)]) (by rw [if_neg hv])
      · have hkd : m_dk c p b = 4 := by unfold m_dk; rw [if_neg hv, if_neg (by omega)]
        exact main 4 D2 (-1) _ hkd (by rw [if_neg (by decide)]) (by rw [if_pos rfl]) (by rw [if_neg hv])
end PLANX
end
