/-- truth as a number -/
def g_b (b : Bool) : Int := if b then 1 else 0
theorem g_b_T : g_b true = 1 := rfl
theorem g_b_F : g_b false = 0 := rfl
theorem g_b_and (x y : Bool) : g_and (g_b x) (g_b y) = g_b (x && y) := by
  cases x <;> cases y <;> decide +kernel
theorem g_b_or (x y : Bool) : g_or (g_b x) (g_b y) = g_b (x || y) := by
  cases x <;> cases y <;> decide +kernel
theorem g_b_0 {x : Bool} : g_b x = 0 ↔ x = false := by cases x <;> simp [g_b]
theorem g_b_1 {x : Bool} : g_b x = 1 ↔ x = true := by cases x <;> simp [g_b]
theorem g_b_n0 {x : Bool} : ¬ g_b x = 0 ↔ x = true := by cases x <;> simp [g_b]
theorem g_b_rng (x : Bool) : 0 ≤ g_b x ∧ g_b x ≤ 1 := by cases x <;> simp [g_b]
/-- nothing but what was thrown -/
theorem m_fr.thrown (D : g_D) : m_fr D (g_up D 208 0 0) := ⟨fun k hk => g_up_ne (by omega), fun j hj => g_up_at (by omega) _⟩
section UNL
variable {E : g_E} {l : Launch} {sh : List g_Sh} {D : g_D} {o : Nat → Int} {n : Nat}
theorem l_X12_unlike2 {K : Int → g_D → Prop} {v a : Nat} {c : Int} (hM : m_old D o n) (ha : a ≤ 40) (hv : 1 ≤ v) (hc : 0 ≤ c ∧ c ≤ 100) (kk : n_X12_unlike E l D 24 [some (g_R 208), some (g_I v), some (g_I (c + g_b (m_fst o n v a a))), some (g_I ((a + 1 : Nat) : Int)), none, none] K) : ∀ q b : Nat, a - b = q → b ≤ a → n_X12_unlike E l D 42 [some (g_R 208), some (g_I v), some (g_I c), some (g_I a), some (g_I (g_b (m_fst o n v a b))), some (g_I b)] K := by
  intro q
  induction q with
  | zero =>
    intro b hq hb
    obtain rfl : b = a := by omega
    refine s_X12_unlike_42 (fun _ _ _ _ _ _ => ⟨fun _ => ⟨fun h => ⟨⟨by omega, by omega⟩, ⟨by omega, by omega⟩, ?_⟩, fun h => ⟨⟨by omega, by omega⟩, ⟨by omega, by omega⟩, ?_⟩⟩, fun h => (by omega : False).elim⟩)
    · rw [h] at kk; rw [g_cast1]; exact kk
    · rw [g_b_n0.mp h] at kk; rw [g_cast1]; exact kk
  | succ q ih =>
    intro b hq hb
    have ih' := ih (b + 1) (by omega) (by omega)
    rw [m_fst, ← g_b_and] at ih'
    refine s_X12_unlike_42 (fun _ _ _ _ _ _ => ⟨fun h => (by omega : False).elim, fun _ => c_com hM ha (by omega) (fun _ => ⟨fun h => ⟨⟨by omega, by omega⟩, ?_⟩, fun h => ⟨⟨by omega, by omega⟩, ?_⟩⟩)⟩)
    · rw [show decide (m_co o n a b < v) = false by rw [decide_eq_false_iff_not]; omega] at ih'; rw [g_cast1]; exact ih'
    · rw [show decide (m_co o n a b < v) = true by rw [decide_eq_true_eq]; omega] at ih'; rw [g_cast1]; exact ih'
theorem l_X12_unlike {K : Int → g_D → Prop} {v : Nat} (hM : m_old D o n) (hv : 1 ≤ v) (hv4 : v ≤ 40) (kk : K (m_unl o n v) D) : ∀ q a : Nat, n + 1 - v - a = q → a ≤ n + 1 - v → n_X12_unlike E l D 24 [some (g_R 208), some (g_I v), some (g_I (m_cnt (fun a => m_fst o n v a a) a)), some (g_I a), none, none] K := by
  have hn := hM.1
  have h40 := hM.2.1
  intro q
  induction q with
  | zero =>
    intro a hq ha
    obtain rfl : a = n + 1 - v := by omega
    exact s_X12_unlike_24 (fun _ _ _ _ => ⟨⟨by omega, by omega⟩, fun _ => kk, fun h => (by omega : False).elim⟩)
  | succ q ih =>
    intro a hq ha
    have ih' := ih (a + 1) (by omega) (by omega)
    have := m_cnt_le (P := fun a => m_fst o n v a a) a
    refine s_X12_unlike_24 (fun _ _ _ _ => ⟨⟨by omega, by omega⟩, fun h => (by omega : False).elim, fun _ => ?_⟩)
    refine l_X12_unlike2 hM (by omega) hv (by omega) ?_ a 0 rfl (Nat.zero_le _)
    rw [m_cnt] at ih'
    by_cases hp : m_fst o n v a a = true
    · rw [if_pos hp] at ih'; rw [hp, g_b_T, g_cast1]; exact ih'
    · rw [if_neg hp] at ih'; rw [Bool.not_eq_true] at hp; rw [hp, g_b_F, Int.add_zero]; exact ih'
theorem c_X12_unlike {K : Int → g_D → Prop} {v : Int} (hM : m_old D o n) (kk : K (a_unl o n v) (g_up D 208 0 0)) : k_X12_unlike E l D v K := by
  refine s_X12_unlike (fun _ _ D1 hD1 => ?_)
  rw [← hD1] at kk
  have hM1 : m_old D1 o n := hM.fr (by rw [hD1, g_up_ne (by decide)])
  unfold a_unl at kk
  refine c_X12_within ⟨fun h1 _ => ⟨fun _ => ?_, fun h => (by omega : False).elim⟩, fun h1 _ => ⟨fun h => (by omega : False).elim, fun _ => ?_⟩⟩
  · rw [if_pos h1] at kk
    obtain ⟨i, rfl⟩ : ∃ i : Nat, v = i := ⟨v.toNat, by omega⟩
    rw [Int.toNat_natCast] at kk
    exact l_X12_unlike hM1 (by omega) (by omega) kk _ 0 rfl (Nat.zero_le _)
  · rw [if_neg h1] at kk; exact kk
theorem l_X9_unlikeRows {K : Int → g_D → Prop} {v : Nat} {f : Nat → Nat} (hv : v ≤ 40) (h40 : n ≤ 40) (hn : D 134 2 = n) (p1 : ∀ i, i < n → D 135 i = f i ∧ f i < n) (p3 : ∀ i, i + 1 < n → D 136 i = m_co o n (f i) (f (i + 1))) (kk : K (m_cnt (m_unx o n v f) n) D) : ∀ q k : Nat, n - k = q → k ≤ n → n_X9_unlikeRows E l D 4 [some (g_R 134), some (g_I v), some (g_I (m_cnt (m_unx o n v f) k)), some (g_I k), none] K := by
  intro q
  induction q with
  | zero =>
    intro k hq hk
    obtain rfl : k = n := by omega
    exact s_X9_unlikeRows_4 (fun _ _ _ _ => ⟨fun _ => kk, fun h => (by omega : False).elim⟩)
  | succ q ih =>
    intro k hq hk
    have ih' := ih (k + 1) (by omega) (by omega)
    have hle := m_cnt_le (P := m_unx o n v f) k
    obtain ⟨e1, e2⟩ := p1 k (by omega)
    rw [m_cnt, ← g_cast1] at ih'
    have eu : m_unx o n v f k = (decide (f k + v ≤ n) && (decide (k = 0) || decide (m_co o n (f (k - 1)) (f k) < v))) := rfl
    refine s_X9_unlikeRows_4 (fun _ _ _ _ => ⟨fun h => (by omega : False).elim, fun _ => ⟨by omega, ?_⟩⟩)
    rw [Int.toNat_natCast, e1, hn]
    refine ⟨⟨by omega, by omega⟩, fun h => ⟨⟨by omega, by omega⟩, ?_⟩, fun h => ⟨fun h2 => ⟨⟨by omega, by omega⟩, ⟨by omega, by omega⟩, ?_⟩, fun h2 => ⟨⟨by omega, by omega⟩, by omega, ?_⟩⟩⟩
    · rw [if_neg (by rw [eu]; simp only [Bool.and_eq_true, decide_eq_true_eq]; omega)] at ih'; exact ih'
    · rw [if_pos (by rw [eu]; simp only [Bool.and_eq_true, Bool.or_eq_true, decide_eq_true_eq]; omega)] at ih'; rw [g_cast1 (m_cnt _ _)]; exact ih'
    · have e3 := p3 (k - 1) (by omega)
      rw [show k - 1 + 1 = k by omega] at e3
      rw [show ((k : Int) - 1).toNat = k - 1 by omega, e3]
      refine ⟨fun h3 => ⟨⟨by omega, by omega⟩, ?_⟩, fun h3 => ⟨⟨by omega, by omega⟩, ⟨by omega, by omega⟩, ?_⟩⟩
      · rw [if_neg (by rw [eu]; simp only [Bool.and_eq_true, Bool.or_eq_true, decide_eq_true_eq]; omega)] at ih'; exact ih'
      · rw [if_pos (by rw [eu]; simp only [Bool.and_eq_true, Bool.or_eq_true, decide_eq_true_eq]; omega)] at ih'; rw [g_cast1 (m_cnt _ _)]; exact ih'
theorem c_X11_unlike {K : Int → g_D → Prop} {v : Int} (h : x_cl D 2 o n) (hb : ∀ i, i < n → 0 ≤ o i) (hR : x_sufR D o n) (kk : ∀ D', x_f9s D D' → x_sufR D' o n → K (a_unl o n v) D') : k_X11_unlike E l D v K := by
  have h40 := h.2.1
  unfold a_unl at kk
  refine s_X11_unlike (fun _ _ => ⟨fun h1 => ?_, fun h1 => ⟨fun h2 => ?_, fun h2 => ?_⟩⟩)
  · rw [if_neg (by omega)] at kk; exact kk D ⟨fun _ _ _ _ _ => rfl, fun _ _ => rfl⟩ hR
  · rw [if_pos (by omega)] at kk
    obtain ⟨i, rfl⟩ : ∃ i : Nat, v = i := ⟨v.toNat, by omega⟩
    rw [Int.toNat_natCast] at kk
    refine c_X11_sortSuffixes h hb hR (fun D1 hf hx _ => ?_)
    obtain ⟨hn, f, p1, p2, p3⟩ := id hx
    refine s_X9_unlikeRows (fun _ _ => l_X9_unlikeRows (by omega) h40 hn p1 p3 (fun _ => ?_) n 0 rfl (Nat.zero_le _))
    rw [m_unl_eq (by omega) hb (fun i hi => (p1 i hi).2) p2]
    exact kk D1 hf (fun _ => hx)
  · rw [if_neg (by omega)] at kk; exact kk D ⟨fun _ _ _ _ _ => rfl, fun _ _ => rfl⟩ hR
end UNL
