/-! Integer.bitCount -/
def m_V (B : Nat) (f : Nat → Nat) : Nat → Nat
  | 0 => 0
  | n + 1 => f 0 + B * m_V B (fun i => f (i + 1)) n
theorem m_V_congr {B : Nat} {f g : Nat → Nat} : ∀ {n : Nat}, (∀ i, i < n → f i = g i) → m_V B f n = m_V B g n
  | 0, _ => rfl
  | n + 1, h => by rw [m_V, m_V, h 0 (by omega), m_V_congr (f := fun i => f (i + 1)) (g := fun i => g (i + 1)) (n := n) (fun i hi => h (i + 1) (by omega))]
theorem m_V_add {B : Nat} : ∀ {n : Nat} {f g : Nat → Nat}, m_V B f n + m_V B g n = m_V B (fun i => f i + g i) n
  | 0, _, _ => rfl
  | n + 1, f, g => by
    rw [m_V, m_V, m_V, ← m_V_add (n := n) (f := fun i => f (i + 1)) (g := fun i => g (i + 1)), Nat.mul_add]; omega
theorem m_and_split {x y k : Nat} : x &&& y = (x % 2 ^ k &&& y % 2 ^ k) + 2 ^ k * (x / 2 ^ k &&& y / 2 ^ k) := by
  have h1 : (x &&& y) % 2 ^ k = x % 2 ^ k &&& y % 2 ^ k := Nat.and_mod_two_pow
  have h2 : (x &&& y) / 2 ^ k = x / 2 ^ k &&& y / 2 ^ k := Nat.and_div_two_pow
  have := Nat.mod_add_div (x &&& y) (2 ^ k)
  rw [h1, h2] at this
  exact this.symm
theorem m_L1 : ∀ (n n' : Nat) (f : Nat → Nat), n ≤ n' → (∀ i, f i ≤ 1) → (m_V 2 f (2 * n) / 2) &&& m_V 4 (fun _ => 1) n' = m_V 4 (fun i => f (2 * i + 1)) n
  | 0, n', f, _, _ => by show (0 / 2) &&& _ = 0; rw [Nat.zero_div, Nat.zero_and]
  | n + 1, 0, _, h, _ => absurd h (by omega)
  | n + 1, n' + 1, f, h, hf => by
    have ih := m_L1 n n' (fun i => f (i + 2)) (by omega) (fun i => hf (i + 2))
    have e1 : m_V 2 f (2 * (n + 1)) = f 0 + 2 * (f 1 + 2 * m_V 2 (fun i => f (i + 2)) (2 * n)) := rfl
    have e2 : m_V 4 (fun _ => 1) (n' + 1) = 1 + 4 * m_V 4 (fun _ => 1) n' := rfl
    have e3 : m_V 4 (fun i => f (2 * i + 1)) (n + 1) = f 1 + 4 * m_V 4 (fun i => f (2 * i + 2 + 1)) n := rfl
    have h0 := hf 0
    have h1 := hf 1
    rw [e1, e2, e3, m_and_split (k := 2)]
    have a1 : (f 0 + 2 * (f 1 + 2 * m_V 2 (fun i => f (i + 2)) (2 * n))) / 2 / 2 ^ 2 = m_V 2 (fun i => f (i + 2)) (2 * n) / 2 := by omega
    have a2 : (1 + 4 * m_V 4 (fun _ => 1) n') / 2 ^ 2 = m_V 4 (fun _ => 1) n' := by omega
    have a3 : (1 + 4 * m_V 4 (fun _ => 1) n') % 2 ^ 2 = 2 ^ 1 - 1 := by omega
    have a4 : (f 0 + 2 * (f 1 + 2 * m_V 2 (fun i => f (i + 2)) (2 * n))) / 2 % 2 ^ 2 % 2 = f 1 := by omega
    rw [a1, a2, a3, ih, Nat.and_two_pow_sub_one_eq_mod, show 2 ^ 1 = 2 from rfl, a4]
/-- every second digit -/
theorem m_L2 {b : Nat} : ∀ (n n' : Nat) (p : Nat → Nat), n ≤ n' → (∀ i, p i < 2 ^ b) → m_V (2 ^ b) p (2 * n) &&& m_V (2 ^ (2 * b)) (fun _ => 2 ^ b - 1) n' = m_V (2 ^ (2 * b)) (fun i => p (2 * i)) n
  | 0, n', p, _, _ => by show 0 &&& _ = 0; rw [Nat.zero_and]
  | n + 1, 0, _, h, _ => absurd h (by omega)
  | n + 1, n' + 1, p, h, hp => by
    have ih := m_L2 (b := b) n n' (fun i => p (i + 2)) (by omega) (fun i => hp (i + 2))
    have e1 : m_V (2 ^ b) p (2 * (n + 1)) = p 0 + 2 ^ b * (p 1 + 2 ^ b * m_V (2 ^ b) (fun i => p (i + 2)) (2 * n)) := rfl
    have e2 : m_V (2 ^ (2 * b)) (fun _ => 2 ^ b - 1) (n' + 1) = 2 ^ b - 1 + 2 ^ (2 * b) * m_V (2 ^ (2 * b)) (fun _ => 2 ^ b - 1) n' := rfl
    have e3 : m_V (2 ^ (2 * b)) (fun i => p (2 * i)) (n + 1) = p 0 + 2 ^ (2 * b) * m_V (2 ^ (2 * b)) (fun i => p (2 * i + 2)) n := rfl
    have ep : 2 ^ (2 * b) = 2 ^ b * 2 ^ b := by rw [Nat.two_mul, Nat.pow_add]
    have h0 := hp 0
    have h1 := hp 1
    have hb : 0 < 2 ^ b := Nat.two_pow_pos b
    rw [e1, e2, e3, m_and_split (k := 2 * b)]
    have hlt : p 0 + 2 ^ b * p 1 < 2 ^ (2 * b) := by
      rw [ep]
      have : 2 ^ b * p 1 ≤ 2 ^ b * (2 ^ b - 1) := Nat.mul_le_mul_left _ (by omega)
      rw [Nat.mul_sub, Nat.mul_one] at this
      have : 2 ^ b ≤ 2 ^ b * 2 ^ b := Nat.le_mul_of_pos_left _ hb
      omega
    have a0 : p 0 + 2 ^ b * (p 1 + 2 ^ b * m_V (2 ^ b) (fun i => p (i + 2)) (2 * n)) = (p 0 + 2 ^ b * p 1) + 2 ^ (2 * b) * m_V (2 ^ b) (fun i => p (i + 2)) (2 * n) := by
      rw [Nat.mul_add, ep, ← Nat.mul_assoc]; omega
    have a1 : ((p 0 + 2 ^ b * p 1) + 2 ^ (2 * b) * m_V (2 ^ b) (fun i => p (i + 2)) (2 * n)) / 2 ^ (2 * b) = m_V (2 ^ b) (fun i => p (i + 2)) (2 * n) := by
      rw [Nat.add_mul_div_left _ _ (Nat.two_pow_pos _), Nat.div_eq_of_lt hlt, Nat.zero_add]
    have a2 : (2 ^ b - 1 + 2 ^ (2 * b) * m_V (2 ^ (2 * b)) (fun _ => 2 ^ b - 1) n') / 2 ^ (2 * b) = m_V (2 ^ (2 * b)) (fun _ => 2 ^ b - 1) n' := by
      have hb2 : 2 ^ b ≤ 2 ^ (2 * b) := Nat.pow_le_pow_right (by decide) (by omega)
      rw [Nat.add_mul_div_left _ _ (Nat.two_pow_pos _), Nat.div_eq_of_lt (by omega), Nat.zero_add]
    have a3 : (2 ^ b - 1 + 2 ^ (2 * b) * m_V (2 ^ (2 * b)) (fun _ => 2 ^ b - 1) n') % 2 ^ (2 * b) = 2 ^ b - 1 := by
      have hb2 : 2 ^ b ≤ 2 ^ (2 * b) := Nat.pow_le_pow_right (by decide) (by omega)
      rw [Nat.add_mul_mod_self_left, Nat.mod_eq_of_lt (by omega)]
    have a4 : ((p 0 + 2 ^ b * p 1) + 2 ^ (2 * b) * m_V (2 ^ b) (fun i => p (i + 2)) (2 * n)) % 2 ^ (2 * b) = p 0 + 2 ^ b * p 1 := by
      rw [Nat.add_mul_mod_self_left, Nat.mod_eq_of_lt hlt]
    rw [a0, a1, a2, a3, a4, ih, Nat.and_two_pow_sub_one_eq_mod, Nat.add_mul_mod_self_left, Nat.mod_eq_of_lt h0]
theorem m_V_snoc {B : Nat} : ∀ {n : Nat} {p : Nat → Nat}, m_V B p (n + 1) = m_V B p n + p n * B ^ n
  | 0, p => by show p 0 + B * 0 = 0 + p 0 * B ^ 0; rw [Nat.pow_zero]; omega
  | n + 1, p => by
    rw [m_V, m_V_snoc (n := n) (p := fun i => p (i + 1)), m_V, Nat.mul_add, Nat.pow_succ, Nat.add_assoc]
    congr 2
    rw [Nat.mul_comm, Nat.mul_assoc]
theorem m_V_bits {x : Nat} : ∀ n, x % 2 ^ n = m_V 2 (fun i => (x.testBit i).toNat) n
  | 0 => by rw [Nat.pow_zero, Nat.mod_one]; rfl
  | n + 1 => by
    rw [m_V_snoc, ← m_V_bits n, Nat.pow_succ, Nat.mod_mul, Nat.testBit_eq_decide_div_mod_eq]
    have : x / 2 ^ n % 2 = 0 ∨ x / 2 ^ n % 2 = 1 := by omega
    rcases this with h | h
    · rw [h]; simp
    · rw [h]; simp
theorem m_V_one : ∀ (n : Nat) (f : Nat → Nat), m_V 1 (fun i => f (2 * i) + f (2 * i + 1)) n = m_V 1 f (2 * n)
  | 0, _ => rfl
  | n + 1, f => by
    have e : m_V 1 f (2 * (n + 1)) = f 0 + 1 * (f 1 + 1 * m_V 1 (fun i => f (i + 2)) (2 * n)) := rfl
    rw [m_V, e, ← m_V_one n (fun i => f (i + 2))]
    show f 0 + f 1 + 1 * m_V 1 (fun i => f (2 * i + 2) + f (2 * i + 1 + 2)) n = _
    omega
theorem m_V_cnt {P : Nat → Bool} : ∀ n, m_V 1 (fun i => (P i).toNat) n = m_cnt P n
  | 0 => rfl
  | n + 1 => by
    rw [m_V_snoc, m_V_cnt n, m_cnt]
    cases P n <;> simp
theorem m_pop0 {x : Nat} {f p q r : Nat → Nat} (ex : x = m_V 2 f (2 * 16)) (f1 : ∀ i, f i ≤ 1) (ep : ∀ i, p i = f (2 * i) + f (2 * i + 1)) (eq : ∀ i, q i = p (2 * i) + p (2 * i + 1)) (er : ∀ i, r i = q (2 * i) + q (2 * i + 1)) : (x >>> 1) &&& 1431655765 ≤ x ∧ x - ((x >>> 1) &&& 1431655765) = m_V 4 p 16 ∧ (m_V 4 p 16 &&& 858993459) + ((m_V 4 p 16 >>> 2) &&& 858993459) = m_V 16 q 8 ∧ (m_V 16 q 8 + (m_V 16 q 8 >>> 4)) &&& 252645135 = m_V 256 r 4 := by
  have p2 : ∀ i, p i ≤ 2 := fun i => by have := f1 (2 * i); have := f1 (2 * i + 1); rw [ep]; omega
  have q4 : ∀ i, q i ≤ 4 := fun i => by have := p2 (2 * i); have := p2 (2 * i + 1); rw [eq]; omega
  have m1 : (1431655765 : Nat) = m_V 4 (fun _ => 1) 16 := by decide
  have m2 : (858993459 : Nat) = m_V (2 ^ (2 * 2)) (fun _ => 2 ^ 2 - 1) 8 := by decide
  have m3 : (252645135 : Nat) = m_V (2 ^ (2 * 4)) (fun _ => 2 ^ 4 - 1) 4 := by decide
  have s1 : (x >>> 1) &&& 1431655765 = m_V 4 (fun i => f (2 * i + 1)) 16 := by
    rw [Nat.shiftRight_eq_div_pow, m1, ex]
    exact m_L1 16 16 f (Nat.le_refl _) f1
  have e4 : ∀ (n : Nat) (g : Nat → Nat), m_V 2 g (2 * n) = m_V 4 (fun i => g (2 * i) + 2 * g (2 * i + 1)) n := by
    intro n
    induction n with
    | zero => exact fun _ => rfl
    | succ n ih =>
      intro g
      have e : m_V 2 g (2 * (n + 1)) = g 0 + 2 * (g 1 + 2 * m_V 2 (fun i => g (i + 2)) (2 * n)) := rfl
      have e' : m_V 4 (fun i => g (2 * i) + 2 * g (2 * i + 1)) (n + 1) = g 0 + 2 * g 1 + 4 * m_V 4 (fun i => g (2 * i + 2) + 2 * g (2 * i + 1 + 2)) n := rfl
      rw [e, e', ih (fun i => g (i + 2))]; omega
  have s1' : m_V 4 (fun i => f (2 * i + 1)) 16 + m_V 4 p 16 = x := by
    rw [m_V_add, ex, e4]
    refine m_V_congr (fun i _ => ?_)
    rw [ep]; omega
  have s2a : m_V 4 p 16 &&& 858993459 = m_V 16 (fun i => p (2 * i)) 8 := by
    rw [m2]; exact m_L2 (b := 2) 8 8 p (Nat.le_refl _) (fun i => by have := p2 i; omega)
  have sh : ∀ (B n : Nat) (g : Nat → Nat), g 0 < B → m_V B g (n + 1) / B = m_V B (fun i => if i < n then g (i + 1) else 0) (n + 1) := by
    intro B n g h
    rw [m_V_snoc (p := fun i => if i < n then g (i + 1) else 0), if_neg (by omega), Nat.zero_mul, m_V_congr (n := n) (f := fun i => if i < n then g (i + 1) else 0) (g := fun i => g (i + 1)) (fun i hi => if_pos hi), m_V, Nat.add_mul_div_left _ _ (by omega), Nat.div_eq_of_lt h, Nat.zero_add, Nat.add_zero]
  have s2b : (m_V 4 p 16 >>> 2) &&& 858993459 = m_V 16 (fun i => p (2 * i + 1)) 8 := by
    rw [Nat.shiftRight_eq_div_pow, show 2 ^ 2 = 4 from rfl, sh 4 15 p (by have := p2 0; omega), m2]
    refine (m_L2 (b := 2) 8 8 _ (Nat.le_refl _) (fun i => ?_)).trans ?_
    · have := p2 (i + 1)
      split <;> omega
    · exact m_V_congr (fun i hi => if_pos (by omega))
  have s2 : m_V 16 (fun i => p (2 * i)) 8 + m_V 16 (fun i => p (2 * i + 1)) 8 = m_V 16 q 8 := by
    rw [m_V_add]; exact m_V_congr (fun i _ => (eq i).symm)
  have s3 : (m_V 16 q 8 + (m_V 16 q 8 >>> 4)) &&& 252645135 = m_V 256 r 4 := by
    rw [Nat.shiftRight_eq_div_pow, show 2 ^ 4 = 16 from rfl, sh 16 7 q (by have := q4 0; omega), m_V_add, m3]
    refine (m_L2 (b := 4) 4 4 _ (Nat.le_refl _) (fun i => ?_)).trans ?_
    · have := q4 (i + 1)
      have := q4 i
      split <;> omega
    · refine m_V_congr (fun i hi => ?_)
      rw [if_pos (by omega), er]
  refine ⟨by rw [s1]; omega, by rw [s1]; omega, by rw [← s2, ← s2a, ← s2b], s3⟩
theorem m_pop {x : Nat} (hx : x < 2 ^ 31) : ∃ x1 x2 x3 x4 : Nat, (x >>> 1) &&& 1431655765 ≤ x ∧ x - ((x >>> 1) &&& 1431655765) = x1 ∧ (x1 &&& 858993459) + ((x1 >>> 2) &&& 858993459) = x2 ∧ (x2 + (x2 >>> 4)) &&& 252645135 = x3 ∧ x3 + (x3 >>> 8) = x4 ∧ (x4 + (x4 >>> 16)) &&& 63 = m_cnt x.testBit 32 ∧ x1 < 2 ^ 31 ∧ x2 < 1145324613 ∧ x3 < 2 ^ 30 ∧ x4 < 2 ^ 30 := by
  obtain ⟨f, hf⟩ : ∃ f : Nat → Nat, ∀ i, f i = (x.testBit i).toNat := ⟨_, fun _ => rfl⟩
  obtain ⟨p, ep⟩ : ∃ p : Nat → Nat, ∀ i, p i = f (2 * i) + f (2 * i + 1) := ⟨_, fun _ => rfl⟩
  obtain ⟨q, eq⟩ : ∃ q : Nat → Nat, ∀ i, q i = p (2 * i) + p (2 * i + 1) := ⟨_, fun _ => rfl⟩
  obtain ⟨r, er⟩ : ∃ r : Nat → Nat, ∀ i, r i = q (2 * i) + q (2 * i + 1) := ⟨_, fun _ => rfl⟩
  have f1 : ∀ i, f i ≤ 1 := fun i => by rw [hf]; exact Bool.toNat_le _
  have ex : x = m_V 2 f (2 * 16) := by
    have := m_V_bits (x := x) 32
    rw [Nat.mod_eq_of_lt (by omega)] at this
    rw [m_V_congr (f := f) (g := fun i => (x.testBit i).toNat) (fun i _ => hf i)]
    exact this
  obtain ⟨h1, h2, h3, h4⟩ := m_pop0 ex f1 ep eq er
  have p2 : ∀ i, p i ≤ 2 := fun i => by have := f1 (2 * i); have := f1 (2 * i + 1); rw [ep]; omega
  have q4 : ∀ i, q i ≤ 4 := fun i => by have := p2 (2 * i); have := p2 (2 * i + 1); rw [eq]; omega
  have r8 : ∀ i, r i ≤ 8 := fun i => by have := q4 (2 * i); have := q4 (2 * i + 1); rw [er]; omega
  have vr : m_V 256 r 4 = r 0 + 256 * (r 1 + 256 * (r 2 + 256 * (r 3 + 256 * 0))) := rfl
  have vq : m_V 16 q 8 = q 0 + 16 * (q 1 + 16 * (q 2 + 16 * (q 3 + 16 * (q 4 + 16 * (q 5 + 16 * (q 6 + 16 * (q 7 + 16 * 0))))))) := rfl
  have cnt : m_cnt x.testBit 32 = r 0 + (r 1 + (r 2 + r 3)) := by
    rw [← m_V_cnt, m_V_congr (g := f) (fun i _ => (hf i).symm), show 32 = 2 * 16 from rfl, ← m_V_one 16 f, m_V_congr (g := p) (fun i _ => (ep i).symm), show 16 = 2 * 8 from rfl, ← m_V_one 8 p, m_V_congr (g := q) (fun i _ => (eq i).symm), show 8 = 2 * 4 from rfl, ← m_V_one 4 q, m_V_congr (g := r) (fun i _ => (er i).symm)]
    show r 0 + 1 * (r 1 + 1 * (r 2 + 1 * (r 3 + 1 * 0))) = _
    omega
  have hr0 := r8 0
  have hr1 := r8 1
  have hr2 := r8 2
  have hr3 := r8 3
  have a0 := q4 0
  have a1 := q4 1
  have a2 := q4 2
  have a3 := q4 3
  have a4 := q4 4
  have a5 := q4 5
  have a6 := q4 6
  have a7 := q4 7
  have l1 : m_V 4 p 16 < 2 ^ 31 := by rw [← h2]; omega
  have l2 : m_V 16 q 8 < 2 ^ 31 := by omega
  refine ⟨_, _, _, _, h1, h2, h3, h4, rfl, ?_, l1, ?_, by omega, ?_⟩
  · have d1 : m_V 256 r 4 / 2 ^ 8 = r 1 + 256 * r 2 + 65536 * r 3 := by rw [vr]; omega
    have d2 : (m_V 256 r 4 + (r 1 + 256 * r 2 + 65536 * r 3)) / 2 ^ 16 = r 2 + r 3 + 256 * r 3 := by rw [vr]; omega
    rw [show (63 : Nat) = 2 ^ 6 - 1 from rfl, Nat.and_two_pow_sub_one_eq_mod, Nat.shiftRight_eq_div_pow, Nat.shiftRight_eq_div_pow, d1, d2, vr, cnt]
    omega
  · rw [vq]; omega
  · rw [Nat.shiftRight_eq_div_pow]; omega
section BITS
variable {E : g_E} {l : Launch} {sh : List g_Sh} {D : g_D}
theorem c_bitCount {K : Int → g_D → Prop} {x : Nat} (hx : x < 2 ^ 31) (k : K (m_cnt x.testBit 32) D) : k_J6_bitCount_0f7a4 E l sh D x K := by
  obtain ⟨x1, x2, x3, x4, h0, h1, h2, h3, h4, h5, b1, b2, b3, b4⟩ := m_pop hx
  have a1 : (x : Int) - g_and (g_ushr (x : Int) 1) 1431655765 = (x1 : Int) := by
    rw [show g_ushr (x : Int) 1 = ((x >>> 1 : Nat) : Int) from g_ushr_n (k := 1) hx (by decide), show g_and ((x >>> 1 : Nat) : Int) 1431655765 = (((x >>> 1) &&& 1431655765 : Nat) : Int) from g_and_n (y := 1431655765) (by rw [Nat.shiftRight_eq_div_pow]; omega)]
    omega
  have a2 : g_and (x1 : Int) 858993459 + g_and (g_ushr (x1 : Int) 2) 858993459 = (x2 : Int) := by
    rw [show g_ushr (x1 : Int) 2 = ((x1 >>> 2 : Nat) : Int) from g_ushr_n (k := 2) b1 (by decide), show g_and ((x1 >>> 2 : Nat) : Int) 858993459 = (((x1 >>> 2) &&& 858993459 : Nat) : Int) from g_and_n (y := 858993459) (by rw [Nat.shiftRight_eq_div_pow]; omega), show g_and (x1 : Int) 858993459 = ((x1 &&& 858993459 : Nat) : Int) from g_and_n (y := 858993459) b1]
    omega
  have a3 : g_ushr (x2 : Int) 4 = ((x2 >>> 4 : Nat) : Int) := g_ushr_n (k := 4) (by omega) (by decide)
  have l3 : x2 + (x2 >>> 4) < 2 ^ 31 := by rw [Nat.shiftRight_eq_div_pow]; omega
  have a3' : g_and ((x2 : Int) + ((x2 >>> 4 : Nat) : Int)) 252645135 = (x3 : Int) := by
    rw [show (x2 : Int) + ((x2 >>> 4 : Nat) : Int) = ((x2 + (x2 >>> 4) : Nat) : Int) by omega, show g_and ((x2 + (x2 >>> 4) : Nat) : Int) 252645135 = (((x2 + (x2 >>> 4)) &&& 252645135 : Nat) : Int) from g_and_n (y := 252645135) l3, h3]
  have a4 : (x3 : Int) + g_ushr (x3 : Int) 8 = (x4 : Int) := by
    rw [show g_ushr (x3 : Int) 8 = ((x3 >>> 8 : Nat) : Int) from g_ushr_n (k := 8) (by omega) (by decide)]
    omega
  have a5 : g_ushr (x4 : Int) 16 = ((x4 >>> 16 : Nat) : Int) := g_ushr_n (k := 16) (by omega) (by decide)
  have l5 : x4 + (x4 >>> 16) < 2 ^ 31 := by rw [Nat.shiftRight_eq_div_pow]; omega
  have a5' : g_and ((x4 : Int) + ((x4 >>> 16 : Nat) : Int)) 63 = ((m_cnt x.testBit 32 : Nat) : Int) := by
    rw [show (x4 : Int) + ((x4 >>> 16 : Nat) : Int) = ((x4 + (x4 >>> 16) : Nat) : Int) by omega, show g_and ((x4 + (x4 >>> 16) : Nat) : Int) 63 = (((x4 + (x4 >>> 16)) &&& 63 : Nat) : Int) from g_and_n (y := 63) l5, h5]
  refine s_J6_bitCount_0f7a4 (fun _ _ => ?_)
  rw [a1, a2, a3, a3', a4, a5, a5']
  exact ⟨⟨by omega, by omega⟩, ⟨by omega, by omega⟩, ⟨by omega, by omega⟩, ⟨by omega, by omega⟩, ⟨by omega, by omega⟩, k⟩
end BITS
