section
/-! what the calls on the device answer, where they only read -/
def q_hw (b : Nat → Int) (a c : Nat) : Bool := m_any (fun i => tq_w b i c) a
def q_ho (b : Nat → Int) (a : Nat) : Int := if a_k b a ≤ 2 ∧ m_lo (fun t => q_hw b a (n_fr b a + t)) (n_ln b a) < n_ln b a then ((n_fr b a + m_lo (fun t => q_hw b a (n_fr b a + t)) (n_ln b a) : Nat) : Int) else -1
def q_hz (b : Nat → Int) (na : Nat) : Nat := m_lo (fun a => decide (¬ q_ho b a = -1)) na
def A_hazard (b : Nat → Int) (na : Nat) (v : Int) : Int := if q_hz b na < na then (if v = 0 then (q_hz b na : Int) else q_ho b (q_hz b na)) else -1
def q_wr (b : Nat → Int) (na : Nat) (v : Int) (s : Nat) : Bool := decide (t_sb b na s = v)
def q_rg (M w : Nat → Int) (i : Nat) : Bool := decide (w i = M i)
theorem m_lo_S {P : Nat → Bool} {n : Nat} : m_lo P (n + 1) = if m_lo P n < n then m_lo P n else if P n then n else n + 1 := rfl
section CA2
variable {E : g_E} {l : Launch} {sh : List g_Sh} {D D1 D2 : g_D} {b W W0 : Nat → Int} {N na : Nat}
theorem c_X5_firstOverwritten {K : Int → g_D → Prop} {a : Nat} (hA : q_A b N na) (hr : x_rdA D 176 na b) (ha : a < na) (kk : K (q_ho b a) D) : k_X5_firstOverwritten E l D 176 a K := by
  have hn := hA.2.1
  obtain ⟨o1, o2, o3, o4, o5, o6, o7, k1, k2, k3, k4, k5, k6⟩ := hA.1 a ha
  have hle := (hA.1 a ha).le
  obtain ⟨r1, r2, r3, r4⟩ := hr a ha
  unfold q_ho at kk
  have inner : ∀ (t : Nat), t < n_ln b a → ¬ a_k b a = 4 → (q_hw b a (n_fr b a + t) = true → K ((n_fr b a + t : Nat) : Int) D) → (q_hw b a (n_fr b a + t) = false → n_X5_firstOverwritten E l D 29 [some (g_R 176), some (g_I a), some (g_I (((n_fr b a + t : Nat) : Int) + 1)), none] K) → ∀ q i : Nat, a - i = q → i ≤ a → m_any (fun i => tq_w b i (n_fr b a + t)) i = false → n_X5_firstOverwritten E l D 48 [some (g_R 176), some (g_I a), some (g_I ((n_fr b a + t : Nat) : Int)), some (g_I i)] K := by
    intro t ht h4 kt kf q
    have hle4 := hle.2 h4
    induction q with
    | zero =>
      intro i hq hi hy
      obtain rfl : i = a := by omega
      exact s_X5_firstOverwritten_48 ip_Reader_176 (fun _ _ _ _ => ⟨fun _ => ⟨⟨by omega, by omega⟩, kf hy⟩, fun w => (by omega : False).elim⟩)
    | succ q ih =>
      intro i hq hi hy
      obtain ⟨p1, p2, p3, p4, p5, p6, p7, _⟩ := hA.1 i (by omega)
      have hlei := (hA.1 i (by omega)).le
      obtain ⟨s1, s2, s3, s4⟩ := hr i (by omega)
      have next : tq_w b i (n_fr b a + t) = false → (g_r ((i : Int) + 1)) ∧ n_X5_firstOverwritten E l D 48 [some (g_R 176), some (g_I a), some (g_I ((n_fr b a + t : Nat) : Int)), some (g_I ((i : Int) + 1))] K := fun z => by
        have ih' := ih (i + 1) (by omega) (by omega) (by rw [m_any, hy, z]; rfl)
        rw [← g_cast1] at ih'
        exact ⟨⟨by omega, by omega⟩, ih'⟩
      refine s_X5_firstOverwritten_48 ip_Reader_176 (fun _ _ _ _ => ⟨fun w => (by omega : False).elim, fun _ => ⟨by omega, ?_⟩⟩)
      rw [Int.toNat_natCast, s1, s2, s4]
      refine ⟨fun z => next (by unfold tq_w; rw [decide_eq_false (fun y => y.1 z)]), fun z => ⟨by omega, fun z2 => next (by unfold tq_w; rw [decide_eq_false (fun y => by omega)]), fun z2 => ⟨by omega, by omega, ⟨by omega, by omega⟩, fun z3 => next (by unfold tq_w; rw [decide_eq_false (fun y => by omega)]), fun z3 => kt ?_⟩⟩⟩
      unfold q_hw
      rw [m_any_iff]
      exact ⟨i, by omega, by unfold tq_w; rw [decide_eq_true_iff]; exact ⟨z, by omega, by omega⟩⟩
  have outer : a_k b a ≤ 2 → ∀ q t : Nat, n_ln b a - t = q → t ≤ n_ln b a → (∀ j, j < t → q_hw b a (n_fr b a + j) = false) → n_X5_firstOverwritten E l D 29 [some (g_R 176), some (g_I a), some (g_I ((n_fr b a + t : Nat) : Int)), none] K := by
    intro h2 q
    have h4 : ¬ a_k b a = 4 := by omega
    have hle4 := hle.2 h4
    have hsr := k5 h4
    induction q with
    | zero =>
      intro t hq ht hy
      obtain rfl : t = n_ln b a := by omega
      refine s_X5_firstOverwritten_29 ip_Reader_176 (fun _ _ _ => ?_)
      rw [Int.toNat_natCast, show D (176 + 3) a = a_sr b a from r3, show D (176 + 4) a = a_ln b a from r4, hsr, o6]
      rw [m_lo_none hy, if_neg (by omega)] at kk
      exact ⟨by omega, by omega, ⟨by omega, by omega⟩, fun _ => kk, fun w => (by omega : False).elim⟩
    | succ q ih =>
      intro t hq ht hy
      refine s_X5_firstOverwritten_29 ip_Reader_176 (fun _ _ _ => ?_)
      rw [Int.toNat_natCast, show D (176 + 3) a = a_sr b a from r3, show D (176 + 4) a = a_ln b a from r4, hsr, o6]
      refine ⟨by omega, by omega, ⟨by omega, by omega⟩, fun w => (by omega : False).elim, fun _ => inner t (by omega) h4 (fun z => ?_) (fun z => ?_) a 0 rfl (Nat.zero_le _) rfl⟩
      · rw [m_lo_eq (a := t) (by omega) z hy, if_pos ⟨h2, by omega⟩] at kk; exact kk
      · rw [g_cast1]
        refine ih (t + 1) (by omega) (by omega) (fun j hj => ?_)
        by_cases e : j = t
        · rw [e]; exact z
        · exact hy j (by omega)
  refine s_X5_firstOverwritten ip_Reader_176 (fun _ _ => ?_)
  rw [Int.toNat_natCast, show D (176 + 1) a = a_k b a from r1, show D (176 + 3) a = a_sr b a from r3]
  refine ⟨by omega, fun z => ⟨by omega, ?_⟩, fun z => ⟨by omega, fun z2 => ⟨by omega, ?_⟩, fun z2 => ?_⟩⟩
  · rw [k5 (by omega)]
    exact outer (by omega) _ 0 rfl (Nat.zero_le _) (fun j hj => absurd hj (Nat.not_lt_zero j))
  · rw [k5 (by omega)]
    exact outer (by omega) _ 0 rfl (Nat.zero_le _) (fun j hj => absurd hj (Nat.not_lt_zero j))
  · rw [if_neg (by omega)] at kk; exact kk
theorem l_X11_hazard {K : Int → g_D → Prop} {v : Int} (hA : q_A b N na) (h4 : D 176 4 = na) (hr : x_rdA D 176 na b) (kk : K (A_hazard b na v) D) : ∀ q a : Nat, na - a = q → a ≤ na → (∀ j, j < a → q_ho b j = -1) → n_X11_hazard E l D 26 [none, some (g_I v), some (g_R 176), some (g_I a), none] K := by
  have hn := hA.2.1
  unfold A_hazard q_hz at kk
  intro q
  induction q with
  | zero =>
    intro a hq ha hy
    obtain rfl : a = na := by omega
    rw [m_lo_none (fun j hj => decide_eq_false (fun z => z (hy j hj))), if_neg (Nat.lt_irrefl _)] at kk
    exact s_X11_hazard_26 (fun _ _ _ => ⟨fun _ => kk, fun w => (by omega : False).elim⟩)
  | succ q ih =>
    intro a hq ha hy
    refine s_X11_hazard_26 (fun _ _ _ => ⟨fun w => (by omega : False).elim, fun _ => c_X5_firstOverwritten hA hr (by omega) (fun _ => ⟨fun z => ⟨⟨by omega, by omega⟩, ?_⟩, fun z => ?_⟩)⟩)
    · rw [g_cast1]
      refine ih (a + 1) (by omega) (by omega) (fun j hj => ?_)
      by_cases e : j = a
      · rw [e]; exact z
      · exact hy j (by omega)
    · rw [m_lo_eq (P := fun a => decide (¬ q_ho b a = -1)) (n := na) (a := a) (by omega) (decide_eq_true z) (fun j hj => decide_eq_false (fun y => y (hy j hj))), if_pos (by omega)] at kk
      refine ⟨fun e => ?_, fun e => ?_⟩
      · rw [if_neg e] at kk; exact kk
      · rw [if_pos e] at kk; exact kk
theorem c_X12_isWritten {K : Int → g_D → Prop} {a c : Nat} (hA : q_A b N na) (h : m_act D b na) (ha : a ≤ na) (kk : K (g_b (q_hw b a c)) D) : k_X12_isWritten E l D a c K := by
  have hn := hA.2.1
  have key : ∀ q i : Nat, a - i = q → i ≤ a → m_any (fun i => tq_w b i c) i = false → n_X12_isWritten E l D 2 [some (g_R 208), some (g_I a), some (g_I c), some (g_I i)] K := by
    intro q
    induction q with
    | zero =>
      intro i hq hi hy
      obtain rfl : i = a := by omega
      unfold q_hw at kk
      rw [hy] at kk
      exact s_X12_isWritten_2 (fun _ _ _ _ => ⟨fun _ => kk, fun w => (by omega : False).elim⟩)
    | succ q ih =>
      intro i hq hi hy
      refine s_X12_isWritten_2 (fun _ _ _ _ => ⟨fun w => (by omega : False).elim, fun _ => c_writes h hn (by omega) (hA.1 i (by omega)) (fun _ => ⟨fun z => ⟨⟨by omega, by omega⟩, ?_⟩, fun z => ?_⟩)⟩)
      · rw [g_cast1]
        exact ih (i + 1) (by omega) (by omega) (by rw [m_any, hy, g_b_0.mp z]; rfl)
      · have : q_hw b a c = true := by unfold q_hw; rw [m_any_iff]; exact ⟨i, by omega, g_b_n0.mp z⟩
        rw [this] at kk; exact kk
  exact s_X12_isWritten (fun _ _ _ => key _ 0 rfl (Nat.zero_le _) rfl)
theorem l_X12_hazard {K : Int → g_D → Prop} {v : Int} (hA : q_A b N na) (h : m_act D b na) (kk : K (A_hazard b na v) D) : ∀ q a : Nat, na - a = q → a ≤ na → (∀ j, j < a → q_ho b j = -1) → n_X12_hazard E l D 20 [some (g_R 208), some (g_I v), some (g_I a), none, none] K := by
  have hn := hA.2.1
  have h13 := h.1
  unfold A_hazard q_hz at kk
  intro q
  induction q with
  | zero =>
    intro a hq ha hy
    obtain rfl : a = na := by omega
    rw [m_lo_none (fun j hj => decide_eq_false (fun z => z (hy j hj))), if_neg (Nat.lt_irrefl _)] at kk
    exact s_X12_hazard_20 (fun _ _ _ => ⟨fun _ => kk, fun w => (by omega : False).elim⟩)
  | succ q ih =>
    intro a hq ha hy
    have hal : a < na := by omega
    obtain ⟨o1, o2, o3, o4, o5, o6, o7, k1, k2, k3, k4, k5, k6⟩ := hA.1 a hal
    have hle := (hA.1 a hal).le
    have next : q_ho b a = -1 → (g_r ((a : Int) + 1)) ∧ n_X12_hazard E l D 20 [some (g_R 208), some (g_I v), some (g_I ((a : Int) + 1)), none, none] K := fun z => by
      refine ⟨⟨by omega, by omega⟩, ?_⟩
      rw [g_cast1]
      refine ih (a + 1) (by omega) (by omega) (fun j hj => ?_)
      by_cases e : j = a
      · rw [e]; exact z
      · exact hy j (by omega)
    refine s_X12_hazard_20 (fun _ _ _ => ⟨fun w => (by omega : False).elim, fun _ => c_now0 h hn hal (fun _ => ⟨fun z => ?_, fun z => next (by unfold q_ho; rw [if_neg (fun y => z y.1)])⟩)⟩)
    have hle4 := hle.2 (by omega)
    have cells : ∀ q t : Nat, n_ln b a - t = q → t ≤ n_ln b a → (∀ j, j < t → q_hw b a (n_fr b a + j) = false) → n_X12_hazard E l D 47 [some (g_R 208), some (g_I v), some (g_I a), some (g_I t), none] K := by
      intro q'
      induction q' with
      | zero =>
        intro t hq' ht hz
        obtain rfl : t = n_ln b a := by omega
        refine s_X12_hazard_47 (fun _ _ _ _ => c_now3 h hn hal (fun _ => ⟨fun _ => next ?_, fun w => (by omega : False).elim⟩))
        unfold q_ho
        rw [m_lo_none hz, if_neg (by omega)]
      | succ q' ih2 =>
        intro t hq' ht hz
        refine s_X12_hazard_47 (fun _ _ _ _ => c_now3 h hn hal (fun _ => ⟨fun w => (by omega : False).elim, fun _ => c_now2 h hn hal (fun _ => ⟨⟨by omega, by omega⟩, ?_⟩)⟩))
        rw [show a_fr b a + (t : Int) = ((n_fr b a + t : Nat) : Int) by omega]
        refine c_X12_isWritten hA h (by omega) (fun _ => ⟨fun y => ⟨⟨by omega, by omega⟩, ?_⟩, fun y => ?_⟩)
        · rw [g_cast1]
          refine ih2 (t + 1) (by omega) (by omega) (fun j hj => ?_)
          by_cases e : j = t
          · rw [e]; exact g_b_0.mp y
          · exact hz j (by omega)
        · have eho : q_ho b a = ((n_fr b a + t : Nat) : Int) := by
            unfold q_ho
            rw [m_lo_eq (a := t) (by omega) (g_b_n0.mp y) hz, if_pos ⟨z, by omega⟩]
          rw [m_lo_eq (P := fun a => decide (¬ q_ho b a = -1)) (n := na) (a := a) (by omega) (decide_eq_true (by rw [eho]; omega)) (fun j hj => decide_eq_false (fun y => y (hy j hj))), if_pos (by omega)] at kk
          refine ⟨fun e => ?_, fun e => ?_⟩
          · rw [if_neg e, eho] at kk; exact kk
          · rw [if_pos e] at kk; exact kk
    exact cells _ 0 rfl (Nat.zero_le _) (fun j hj => absurd hj (Nat.not_lt_zero j))
theorem c_common1 : ∀ (mm : Nat) {K : Int → g_D → Prop} {a c d : Nat}, c < 2 ^ mm → 2 * mm + 1 ≤ d → K (Nat.gcd a c : Nat) D → k_X12_common1 E l sh D d a c K
  | 0, K, a, c, d, hc, hd, kk => by
    have e : c = 0 := by omega
    subst e
    obtain ⟨d', rfl⟩ : ∃ d', d = d' + 1 := ⟨d - 1, by omega⟩
    rw [Nat.gcd_zero_right] at kk
    exact s_X12_common1 (fun _ _ _ => ⟨fun q => absurd rfl q, fun _ => kk⟩)
  | mm + 1, K, a, c, d, hc, hd, kk => by
    obtain ⟨d', rfl⟩ : ∃ d', d = d' + 1 := ⟨d - 1, by omega⟩
    refine s_X12_common1 (fun _ _ _ => ⟨fun q => ⟨by omega, ?_⟩, fun q => ?_⟩)
    · have hcp : 0 < c := by omega
      rw [show (a : Int) % c = ((a % c : Nat) : Int) from rfl]
      have hlt := Nat.mod_lt a hcp
      obtain ⟨d'', rfl⟩ : ∃ d'', d' = d'' + 1 := ⟨d' - 1, by omega⟩
      have g1 : Nat.gcd a c = Nat.gcd c (a % c) := by rw [Nat.gcd_comm a c, Nat.gcd_rec c a, Nat.gcd_comm]
      rw [g1] at kk
      refine s_X12_common1 (fun _ _ _ => ⟨fun q2 => ⟨by omega, ?_⟩, fun q2 => ?_⟩)
      · have hrp : 0 < a % c := by omega
        rw [show (c : Int) % ((a % c : Nat) : Int) = ((c % (a % c) : Nat) : Int) from rfl]
        have h2 := Nat.mod_lt c hrp
        have h3 : c % (a % c) + (a % c) ≤ c := by
          have e1 := Nat.div_add_mod c (a % c)
          have e2 : 1 ≤ c / (a % c) := (Nat.le_div_iff_mul_le hrp).mpr (by omega)
          have e3 : (a % c) * 1 ≤ (a % c) * (c / (a % c)) := Nat.mul_le_mul_left _ e2
          omega
        have g2 : Nat.gcd c (a % c) = Nat.gcd (a % c) (c % (a % c)) := by rw [Nat.gcd_comm c (a % c), Nat.gcd_rec (a % c) c, Nat.gcd_comm]
        rw [g2] at kk
        exact c_common1 mm (by rw [Nat.pow_succ] at hc; omega) (by omega) (fun _ _ => kk)
      · have : a % c = 0 := by omega
        rw [this, Nat.gcd_zero_right] at kk
        exact fun _ => kk
    · have : c = 0 := by omega
      subst this
      rw [Nat.gcd_zero_right] at kk
      exact kk
theorem l_commonDivisor : ∀ (mm : Nat) {K : Int → g_D → Prop} {a c j : Nat}, c < 2 ^ mm → j + 2 * mm + 1 ≤ 64 → K (Nat.gcd a c : Nat) D → n_X11_commonDivisor E l sh D 7 [none, none, some (g_I a), some (g_I c), some (g_I j), none] K
  | 0, K, a, c, j, hc, hd, kk => by
    have e : c = 0 := by omega
    subst e
    rw [Nat.gcd_zero_right] at kk
    exact s_X11_commonDivisor_7 (fun _ _ _ _ => ⟨fun q => (by omega : False).elim, fun _ => ⟨fun _ => kk, fun q => (by omega : False).elim⟩⟩)
  | mm + 1, K, a, c, j, hc, hd, kk => by
    refine s_X11_commonDivisor_7 (fun _ _ _ _ => ⟨fun q => (by omega : False).elim, fun _ => ⟨fun q => ?_, fun q => ⟨by omega, ⟨by omega, by omega⟩, ?_⟩⟩⟩)
    · have : c = 0 := by omega
      subst this
      rw [Nat.gcd_zero_right] at kk
      exact kk
    · have hcp : 0 < c := by omega
      rw [show (a : Int) % c = ((a % c : Nat) : Int) from rfl, g_cast1]
      have hlt := Nat.mod_lt a hcp
      have g1 : Nat.gcd a c = Nat.gcd c (a % c) := by rw [Nat.gcd_comm a c, Nat.gcd_rec c a, Nat.gcd_comm]
      rw [g1] at kk
      refine s_X11_commonDivisor_7 (fun _ _ _ _ => ⟨fun q => (by omega : False).elim, fun _ => ⟨fun q => ?_, fun q => ⟨by omega, ⟨by omega, by omega⟩, ?_⟩⟩⟩)
      · have : a % c = 0 := by omega
        rw [this, Nat.gcd_zero_right] at kk
        exact kk
      · have hrp : 0 < a % c := by omega
        rw [show (c : Int) % ((a % c : Nat) : Int) = ((c % (a % c) : Nat) : Int) from rfl, g_cast1]
        have h2 := Nat.mod_lt c hrp
        have h3 : c % (a % c) + (a % c) ≤ c := by
          have e1 := Nat.div_add_mod c (a % c)
          have e2 : 1 ≤ c / (a % c) := (Nat.le_div_iff_mul_le hrp).mpr (by omega)
          have e3 : (a % c) * 1 ≤ (a % c) * (c / (a % c)) := Nat.mul_le_mul_left _ e2
          omega
        have g2 : Nat.gcd c (a % c) = Nat.gcd (a % c) (c % (a % c)) := by rw [Nat.gcd_comm c (a % c), Nat.gcd_rec (a % c) c, Nat.gcd_comm]
        rw [g2] at kk
        exact l_commonDivisor mm (by rw [Nat.pow_succ] at hc; omega) (by omega) kk
/-- counting steps -/
theorem l_X11_wear {K : Int → g_D → Prop} {v : Int} (hA : q_A b N na) (hx : x_st D b na (t_o b na)) (kk : K (m_cnt (q_wr b na v) (t_o b na) : Nat) D) : ∀ q s : Nat, t_o b na - s = q → s ≤ t_o b na → n_X11_wear E l D 21 [some (g_R 0), some (g_I v), some (g_I (m_cnt (q_wr b na v) s : Nat)), some (g_I s)] K := by
  have hcnt := hA.cnt
  have h4 := hx.1
  intro q
  induction q with
  | zero =>
    intro s hq hs
    obtain rfl : s = t_o b na := by omega
    exact s_X11_wear_21 (fun _ _ _ _ => ⟨fun _ => kk, fun w => (by omega : False).elim⟩)
  | succ q ih =>
    intro s hq hs
    have ih' := ih (s + 1) (by omega) (by omega)
    have hle := m_cnt_le (P := q_wr b na v) s
    rw [m_cnt, ← g_cast1] at ih'
    unfold q_wr at ih' hle ⊢
    refine s_X11_wear_21 (fun _ _ _ _ => ⟨fun w => (by omega : False).elim, fun _ => ⟨by omega, ?_⟩⟩)
    rw [Int.toNat_natCast, (hx.2 s (by omega)).2]
    refine ⟨fun z => ⟨⟨by omega, by omega⟩, ?_⟩, fun z => ⟨⟨by omega, by omega⟩, ⟨by omega, by omega⟩, ?_⟩⟩
    · rw [decide_eq_false z, if_neg Bool.false_ne_true] at ih'; exact ih'
    · rw [decide_eq_true z, if_pos rfl, ← g_cast1] at ih'; exact ih'
theorem l_X12_wear {K : Int → g_D → Prop} {v : Int} (hA : q_A b N na) (hx : m_st D b na (t_o b na)) (kk : K (m_cnt (q_wr b na v) (t_o b na) : Nat) D) : ∀ q s : Nat, t_o b na - s = q → s ≤ t_o b na → n_X12_wear E l D 29 [some (g_R 208), some (g_I v), some (g_I (m_cnt (q_wr b na v) s : Nat)), some (g_I s)] K := by
  have hcnt := hA.cnt
  have h4 := hx.1
  intro q
  induction q with
  | zero =>
    intro s hq hs
    obtain rfl : s = t_o b na := by omega
    exact s_X12_wear_29 (fun _ _ _ _ => ⟨fun _ => kk, fun w => (by omega : False).elim⟩)
  | succ q ih =>
    intro s hq hs
    have ih' := ih (s + 1) (by omega) (by omega)
    have hle := m_cnt_le (P := q_wr b na v) s
    rw [m_cnt, ← g_cast1] at ih'
    unfold q_wr at ih' hle ⊢
    refine s_X12_wear_29 (fun _ _ _ _ => ⟨fun w => (by omega : False).elim, fun _ => ⟨by omega, ?_⟩⟩)
    rw [Int.toNat_natCast, (hx.2 s (by omega)).2, Int.add_zero]
    refine ⟨fun z => ⟨⟨by omega, by omega⟩, ⟨by omega, by omega⟩, ?_⟩, fun z => ⟨⟨by omega, by omega⟩, ⟨by omega, by omega⟩, ?_⟩⟩
    · rw [decide_eq_false z, if_neg Bool.false_ne_true] at ih'; exact ih'
    · rw [decide_eq_true z, if_pos rfl, ← g_cast1] at ih'; exact ih'
theorem l_X11_right {K : Int → g_D → Prop} {m : Nat} {w M : Nat → Int} (hm : m ≤ 40) (h1 : D 4 1 = m) (h5 : ∀ i, i < m → D 5 i = w i) (h8 : ∀ i, i < 40 → D 8 i = M i) (kk : K (m_cnt (q_rg M w) m : Nat) D) : ∀ q i : Nat, m - i = q → i ≤ m → n_X11_right E l D 4 [some (g_R 0), some (g_I (m_cnt (q_rg M w) i : Nat)), some (g_I i)] K := by
  intro q
  induction q with
  | zero =>
    intro i hq hi
    obtain rfl : i = m := by omega
    exact s_X11_right_4 (fun _ _ _ => ⟨fun _ => kk, fun w => (by omega : False).elim⟩)
  | succ q ih =>
    intro i hq hi
    have ih' := ih (i + 1) (by omega) (by omega)
    have hle := m_cnt_le (P := q_rg M w) i
    rw [m_cnt, ← g_cast1] at ih'
    unfold q_rg at ih' hle ⊢
    refine s_X11_right_4 (fun _ _ _ => ⟨fun w => (by omega : False).elim, fun _ => ⟨fun w => (by omega : False).elim, fun _ => ⟨by omega, by omega, ?_⟩⟩⟩)
    rw [Int.toNat_natCast, h5 i (by omega), h8 i (by omega)]
    refine ⟨fun z => ⟨⟨by omega, by omega⟩, ?_⟩, fun z => ⟨⟨by omega, by omega⟩, ⟨by omega, by omega⟩, ?_⟩⟩
    · rw [decide_eq_false z, if_neg Bool.false_ne_true] at ih'; exact ih'
    · rw [decide_eq_true z, if_pos rfl, ← g_cast1] at ih'; exact ih'
theorem l_X12_right {K : Int → g_D → Prop} {m : Nat} {w : Nat → Int} (hm : m ≤ 40) (h1 : D 209 1 = m) (h5 : ∀ i, i < m → D 209 (46 + i) = w i) (kk : K (m_cnt (q_rg (fun i => D 209 (86 + i)) w) m : Nat) D) : ∀ q i : Nat, m - i = q → i ≤ m → n_X12_right E l D 9 [some (g_R 208), some (g_I (m_cnt (q_rg (fun i => D 209 (86 + i)) w) i : Nat)), some (g_I i)] K := by
  intro q
  induction q with
  | zero =>
    intro i hq hi
    obtain rfl : i = m := by omega
    exact s_X12_right_9 (fun _ _ _ => ⟨fun _ => kk, fun w => (by omega : False).elim⟩)
  | succ q ih =>
    intro i hq hi
    have ih' := ih (i + 1) (by omega) (by omega)
    have hle := m_cnt_le (P := q_rg (fun i => D 209 (86 + i)) w) i
    rw [m_cnt, ← g_cast1] at ih'
    unfold q_rg at ih' hle ⊢
    refine s_X12_right_9 (fun _ _ _ => ⟨fun w => (by omega : False).elim, fun _ => ⟨⟨by omega, by omega⟩, by omega, ⟨by omega, by omega⟩, by omega, ?_⟩⟩)
    rw [show (86 + (i : Int)).toNat = 86 + i by omega, show (46 + (i : Int)).toNat = 46 + i by omega, h5 i (by omega), Int.add_zero]
    refine ⟨fun z => ⟨⟨by omega, by omega⟩, ⟨by omega, by omega⟩, ?_⟩, fun z => ⟨⟨by omega, by omega⟩, ⟨by omega, by omega⟩, ?_⟩⟩
    · rw [decide_eq_false (fun y => z y.symm), if_neg Bool.false_ne_true] at ih'; exact ih'
    · rw [decide_eq_true z.symm, if_pos rfl, ← g_cast1] at ih'; exact ih'
/-- the model looks for what fits -/
theorem l_X12_fits {K : Int → g_D → Prop} {v : Int} (hA : q_A b N na) (hx : m_crs D b na W0) (hW : m_Wk D W) (k0 : v = 0 → K (q_ff b na W0 W) D) (k1 : v = 1 → K (m_hi (q_fb b na W0 W) (t_o b na + 1)) D) (k2 : ¬ v = 0 → ¬ v = 1 → K (m_cnt (q_fb b na W0 W) (t_o b na + 1) : Nat) D) :
    ∀ q s : Nat, t_o b na + 1 - s = q → s ≤ t_o b na + 1 → n_X12_fits E l D 38 [some (g_R 208), some (g_I v), some (g_I (if m_lo (q_fb b na W0 W) s < s then ((m_lo (q_fb b na W0 W) s : Nat) : Int) else -1)), some (g_I (m_hi (q_fb b na W0 W) s)), some (g_I (m_cnt (q_fb b na W0 W) s : Nat)), some (g_I s)] K := by
  have hcnt := hA.cnt
  have h46 := hx.1.1
  intro q
  induction q with
  | zero =>
    intro s hq hs
    obtain rfl : s = t_o b na + 1 := by omega
    refine s_X12_fits_38 (fun _ _ _ _ _ _ => ⟨fun _ => ⟨fun z => ⟨fun z1 => k2 z z1, fun z1 => k1 z1⟩, fun z => ?_⟩, fun w => (by omega : False).elim⟩)
    have := k0 z
    unfold q_ff at this
    by_cases e : m_lo (q_fb b na W0 W) (t_o b na + 1) ≤ t_o b na
    · rw [if_pos e] at this; rw [if_pos (by omega)]; exact this
    · rw [if_neg e] at this; rw [if_neg (by omega)]; exact this
  | succ q ih =>
    intro s hq hs
    have ih' := ih (s + 1) (by omega) (by omega)
    have hle := m_cnt_le (P := q_fb b na W0 W) s
    have hlo := (m_lo_spec (P := q_fb b na W0 W) s).1
    rw [m_cnt, m_hi, m_lo_S, ← g_cast1] at ih'
    refine s_X12_fits_38 (fun _ _ _ _ _ _ => ⟨fun w => (by omega : False).elim, fun _ => c_X12_isFit hA hx (by omega) hW (fun _ => ⟨fun z => ⟨fun z1 => ⟨⟨by omega, by omega⟩, ⟨by omega, by omega⟩, ?_⟩, fun z1 => ⟨⟨by omega, by omega⟩, ⟨by omega, by omega⟩, ?_⟩⟩, fun z => ⟨⟨by omega, by omega⟩, ?_⟩⟩)⟩)
    · rw [g_b_n0.mp z] at ih'
      by_cases e : m_lo (q_fb b na W0 W) s < s
      · rw [if_pos e, if_pos (show m_lo (q_fb b na W0 W) s < s + 1 by omega)] at ih'
        rw [if_pos e, g_cast1]
        exact ih'
      · rw [if_neg e] at z1; exact absurd rfl z1
    · rw [g_b_n0.mp z] at ih'
      by_cases e : m_lo (q_fb b na W0 W) s < s
      · rw [if_pos e] at z1; omega
      · rw [if_neg e, if_pos rfl, if_pos (show s < s + 1 by omega)] at ih'
        rw [g_cast1]
        exact ih'
    · rw [g_b_0.mp z, if_neg Bool.false_ne_true, if_neg Bool.false_ne_true, if_neg Bool.false_ne_true] at ih'
      by_cases e : m_lo (q_fb b na W0 W) s < s
      · rw [if_pos e, if_pos (show m_lo (q_fb b na W0 W) s < s + 1 by omega)] at ih'
        rw [if_pos e]
        exact ih'
      · rw [if_neg e, if_neg (show ¬ s + 1 < s + 1 by omega)] at ih'
        rw [if_neg e]
        exact ih'
/-- the model sees whether a step changes its block -/
def q_ot (V W : Nat → Int) (k t : Nat) : Bool := decide (¬ V (4 * k + t) = W (4 * k + t))
theorem l_X12_step {K : Int → g_D → Prop} {s k : Nat} (hA : q_A b N na) (hx : m_crs D b na W0) (hs : s < t_o b na) (hk : t_sb b na s = k) (hk9 : k ≤ 9) (kk : K (g_b (m_any (q_ot (q_due b na W0 s) (q_due b na W0 (s + 1)) k) 4)) D) :
    ∀ q t : Nat, 4 - t = q → t ≤ 4 → n_X12_step E l D 85 [some (g_R 208), some (g_I s), none, some (g_I (g_b (m_any (q_ot (q_due b na W0 s) (q_due b na W0 (s + 1)) k) t))), some (g_I ((4 * k + t : Nat) : Int))] K := by
  have hcnt := hA.cnt
  have h6 := (hx.1.2 s hs).2
  rw [hk] at h6
  intro q
  induction q with
  | zero =>
    intro t hq ht
    obtain rfl : t = 4 := by omega
    refine s_X12_step_85 (fun _ _ _ _ => ?_)
    rw [Int.toNat_natCast, h6]
    refine ⟨by omega, ⟨by omega, by omega⟩, ⟨by omega, by omega⟩, fun _ => ⟨fun z => ?_, fun z => ?_⟩, fun w => (by omega : False).elim⟩
    · rw [g_b_0.mp z] at kk; exact kk
    · rw [g_b_n0.mp z] at kk; exact kk
  | succ q ih =>
    intro t hq ht
    have ih' := ih (t + 1) (by omega) (by omega)
    rw [m_any, ← Nat.add_assoc, ← g_cast1] at ih'
    refine s_X12_step_85 (fun _ _ _ _ => ?_)
    rw [Int.toNat_natCast, h6, show (60 * (s : Int) + ((4 * k + t : Nat) : Int)).toNat = 60 * s + (4 * k + t) by omega, show (60 * (s : Int) + 60 + ((4 * k + t : Nat) : Int)).toNat = 60 * (s + 1) + (4 * k + t) by omega, hx.2.1 s (by omega) _ (by omega), hx.2.1 (s + 1) (by omega) _ (by omega)]
    refine ⟨by omega, ⟨by omega, by omega⟩, ⟨by omega, by omega⟩, fun w => (by omega : False).elim, fun _ => ⟨⟨by omega, by omega⟩, ⟨by omega, by omega⟩, by omega, ⟨by omega, by omega⟩, ⟨by omega, by omega⟩, ⟨by omega, by omega⟩, by omega, fun z => ⟨⟨by omega, by omega⟩, ?_⟩, fun z => ⟨⟨by omega, by omega⟩, ?_⟩⟩⟩
    · rw [show (0 : Int) = g_b false from rfl, g_b_or]
      rw [show q_ot (q_due b na W0 s) (q_due b na W0 (s + 1)) k t = false from decide_eq_false (fun y => y z)] at ih'
      exact ih'
    · rw [show (1 : Int) = g_b true from rfl, g_b_or]
      rw [show q_ot (q_due b na W0 s) (q_due b na W0 (s + 1)) k t = true from decide_eq_true z] at ih'
      exact ih'
end CA2
end
