/-! the shortest ring: the class -/
def m_e1 (s : Nat) (c : Nat → Nat → Int) : Nat → Nat → Prop := m_ed s c (fun _ => true)
theorem m_e1_iff {s a b : Nat} {c : Nat → Nat → Int} : m_e1 s c a b ↔ (m_nx c s a).testBit b = true := by
  unfold m_e1 m_ed
  rw [m_nx_bit]
  simp only [Bool.and_eq_true, decide_eq_true_eq]
  exact ⟨fun q => ⟨q.1, q.2.1, q.2.2.2.2⟩, fun q => ⟨q.1, q.2.1, trivial, trivial, q.2.2⟩⟩
theorem m_e1.cp {s a b : Nat} {c : Nat → Nat → Int} (h : m_e1 s c a b) : m_cp c a = true := by
  have := h.2.2.2.2
  unfold m_ah at this
  rw [decide_eq_true_eq] at this
  exact decide_eq_true this.2.1
theorem m_e1.wk {s k : Nat} {c : Nat → Nat → Int} (hk : m_cp c k = true) : ∀ {d a : Nat}, m_wk (m_e1 s c) d a k ↔ m_wk (m_ed s c (m_cp c)) d a k
  | 0, a => Iff.rfl
  | d + 1, a => by
    constructor
    · rintro ⟨x, h1, h2⟩
      refine ⟨x, ⟨h1.1, h1.2.1, m_e1.cp h1, ?_, h1.2.2.2.2⟩, (m_e1.wk hk).mp h2⟩
      cases d with
      | zero => have h2 : x = k := h2; rw [h2]; exact hk
      | succ d => obtain ⟨y, y1, _⟩ := h2; exact m_e1.cp y1
    · rintro ⟨x, h1, h2⟩
      exact ⟨x, ⟨h1.1, h1.2.1, rfl, rfl, h1.2.2.2.2⟩, (m_e1.wk hk).mpr h2⟩
theorem m_e1.P {s k y b d : Nat} {c : Nat → Nat → Int} (hk : m_cp c k = true) : (m_e1 s c y b ∧ m_wk (m_e1 s c) d b k) ↔ (m_ed s c (m_cp c) y b ∧ m_wk (m_ed s c (m_cp c)) d b k) := by
  constructor
  · rintro ⟨h1, h2⟩
    refine ⟨⟨h1.1, h1.2.1, m_e1.cp h1, ?_, h1.2.2.2.2⟩, (m_e1.wk hk).mp h2⟩
    cases d with
    | zero => have h2 : b = k := h2; rw [h2]; exact hk
    | succ d => obtain ⟨y, y1, _⟩ := h2; exact m_e1.cp y1
  · rintro ⟨h1, h2⟩
    exact ⟨⟨h1.1, h1.2.1, rfl, rfl, h1.2.2.2.2⟩, (m_e1.wk hk).mpr h2⟩
theorem m_e1.rw {s k M : Nat} {c : Nat → Nat → Int} (hk : m_cp c k = true) : ∀ {i x : Nat}, m_rw (m_e1 s c) k M i x → m_rw (m_ed s c (m_cp c)) k M i x
  | 0, _, h => h
  | i + 1, x, ⟨y, h1, h2, h3⟩ => ⟨y, m_e1.rw hk h1, (m_e1.P hk).mp h2, fun b hb q => h3 b hb ((m_e1.P hk).mpr q)⟩
noncomputable def m_tw (s : Nat) (c : Nat → Nat → Int) (k n u : Nat) : Bool := @decide (m_wk (m_e1 s c) n u k) (Classical.propDecidable _)
theorem m_tw_iff {s k n u : Nat} {c : Nat → Nat → Int} : m_tw s c k n u = true ↔ m_wk (m_e1 s c) n u k := by unfold m_tw; exact @decide_eq_true_iff _ (Classical.propDecidable _)
theorem m_and_ne {x y : Nat} : x &&& y ≠ 0 ↔ ∃ w, x.testBit w = true ∧ y.testBit w = true := by
  constructor
  · intro h
    obtain ⟨i, hi⟩ := Nat.exists_testBit_of_ne_zero h
    rw [Nat.testBit_and, Bool.and_eq_true] at hi
    exact ⟨i, hi⟩
  · rintro ⟨w, h1, h2⟩ q
    have : (x &&& y).testBit w = true := by rw [Nat.testBit_and, h1, h2]; rfl
    rw [q, Nat.zero_testBit] at this
    cases this
section SHORT
variable {E : g_E} {l : Launch} {sh : List g_Sh} {D : g_D} {s : Nat} {c : Nat → Nat → Int} {al : Nat → Bool}
theorem l_X6_leadingInto {K : Int → g_D → Prop} {r n k : Nat} (hr : sh[r]? = some (.inl (0, 20))) (hs : s ≤ 20) (hn : ∀ a, a < 20 → D r a = (m_nx c s a : Nat)) (kk : K ((m_bits (m_tw s c k (n + 1)) 20 : Nat) : Int) D) : ∀ q u : Nat, 20 - u = q → u ≤ 20 → n_X6_leadingInto E l sh D 4 [some (g_R r), some (g_I ((m_bits (m_tw s c k n) 20 : Nat) : Int)), some (g_I ((m_bits (m_tw s c k (n + 1)) u : Nat) : Int)), some (g_I u)] K := by
  intro q
  induction q with
  | zero =>
    intro u hq hu
    obtain rfl : u = 20 := by omega
    exact s_X6_leadingInto_4 hr (fun _ _ _ _ => ⟨fun _ => kk, fun h => (by omega : False).elim⟩)
  | succ q ih =>
    intro u hq hu
    have ih' := ih (u + 1) (by omega) (by omega)
    rw [← g_cast1] at ih'
    have hl : m_nx c s u < 2 ^ 20 := m_nx_lt hs
    have key : m_nx c s u &&& m_bits (m_tw s c k n) 20 ≠ 0 ↔ m_tw s c k (n + 1) u = true := by
      rw [m_and_ne, m_tw_iff]
      constructor
      · rintro ⟨w, h1, h2⟩
        rw [m_bits_bit, Bool.and_eq_true] at h2
        exact ⟨w, m_e1_iff.mpr h1, m_tw_iff.mp h2.2⟩
      · rintro ⟨w, h1, h2⟩
        refine ⟨w, m_e1_iff.mp h1, ?_⟩
        have := h1.2.1
        rw [m_bits_bit, Bool.and_eq_true, decide_eq_true_eq]
        exact ⟨by omega, m_tw_iff.mpr h2⟩
    refine s_X6_leadingInto_4 hr (fun _ _ _ _ => ⟨fun h => (by omega : False).elim, fun _ => ⟨by omega, ?_⟩⟩)
    rw [Int.toNat_natCast, hn u (by omega), g_and_n (by omega)]
    refine ⟨fun h => ⟨⟨by omega, by omega⟩, ?_⟩, fun h => ⟨⟨by omega, by omega⟩, ?_⟩⟩
    · have h0 : m_tw s c k (n + 1) u = false := by rw [← Bool.not_eq_true]; exact fun q => key.mpr q (by omega)
      rw [g_or0 h0] at ih'; exact ih'
    · rw [g_or1 (by omega) (key.mp (by omega))]; exact ih'
theorem c_X6_leadingInto {K : Int → g_D → Prop} {r n k : Nat} (hr : sh[r]? = some (.inl (0, 20))) (hs : s ≤ 20) (hn : ∀ a, a < 20 → D r a = (m_nx c s a : Nat)) (kk : K ((m_bits (m_tw s c k (n + 1)) 20 : Nat) : Int) D) : k_X6_leadingInto E l sh D r ((m_bits (m_tw s c k n) 20 : Nat) : Int) K :=
  s_X6_leadingInto hr (fun _ _ => l_X6_leadingInto hr hs hn kk 20 0 rfl (Nat.zero_le _))
/-- nothing but what is found of the shortest ring -/
def x_f6 (k : Nat) (D D' : g_D) : Prop := (∀ i, i ≠ k → i ≠ k + 2 → i ≠ k + 3 → D' i = D i) ∧ ∀ j, j ≠ 3 → D' k j = D k j
theorem x_f6.up {k : Nat} {D D' : g_D} {i j : Nat} {v : Int} (h : x_f6 k D D') (hi : (i = k ∧ j = 3) ∨ i = k + 2 ∨ i = k + 3) : x_f6 k D (g_up D' i j v) := ⟨fun a h1 h2 h3 => by rw [g_up_ne (by omega)]; exact h.1 a h1 h2 h3, fun a h1 => by
  by_cases e : i = k
  · rw [g_up_at (by omega)]; exact h.2 a h1
  · rw [g_up_ne (by omega)]; exact h.2 a h1⟩
theorem l_X6_short76 {K : g_D → Prop} {k r M a0 : Nat} {D0 : g_D} (hk : is_Rings g_SH k) (hr : g_SH[r]? = some (.inl (0, 20))) (hrk : r < k) (hs : s ≤ 20) (hM : 1 ≤ M) (hM20 : M ≤ 20) (hn : ∀ a, a < 20 → D0 r a = (m_nx c s a : Nat))
    (ht : ∀ i, i ≤ M → D0 (k + 2) i = ((m_bits (m_tw s c a0 i) 20 : Nat) : Int)) (h3 : D0 k 3 = M)
    (kk : ∀ D' : g_D, (∀ i, i ≠ k + 3 → D' i = D0 i) → (∀ i, i < M → ∃ x : Nat, D' (k + 3) i = x ∧ m_rw (m_e1 s c) a0 M i x) → K D') :
    ∀ (q i y : Nat) (D : g_D), M - i = q → i ≤ M → (∀ i, i ≠ k + 3 → D i = D0 i) → (∀ j, j < i → ∃ x : Nat, D (k + 3) j = x ∧ m_rw (m_e1 s c) a0 M j x) → y < 20 → (i < M → m_rw (m_e1 s c) a0 M i y ∧ m_wk (m_e1 s c) (M - i) y a0) → n_X6_findShortest E l D 76 [some (g_R k), some (g_R r), none, some (g_I y), some (g_I i)] K := by
  intro q
  induction q with
  | zero =>
    intro i y D hq hi hf hv hy hw
    obtain rfl : i = M := by omega
    have h3' : D k 3 = i := by rw [hf k (by omega)]; exact h3
    exact s_X6_findShortest_76 hk hr (fun _ _ _ => ⟨fun _ => kk D hf hv, fun h => (by omega : False).elim⟩)
  | succ q ih =>
    intro i y D hq hi hf hv hy hw
    obtain ⟨w1, w2⟩ := hw (by omega)
    have h3' : D k 3 = M := by rw [hf k (by omega)]; exact h3
    have hl : m_nx c s y < 2 ^ 20 := m_nx_lt hs
    refine s_X6_findShortest_76 hk hr (fun _ _ _ => ⟨fun h => (by omega : False).elim, fun _ => ⟨by omega, fun D1 hD1 => ?_⟩⟩)
    rw [Int.toNat_natCast] at hD1
    have f1 : ∀ i, i ≠ k + 3 → D1 i = D0 i := fun j hj => by rw [hD1, g_up_ne hj]; exact hf j hj
    have v1 : ∀ j, j < i + 1 → ∃ x : Nat, D1 (k + 3) j = x ∧ m_rw (m_e1 s c) a0 M j x := fun j hj => by
      by_cases e : j = i
      · subst e; exact ⟨y, by rw [hD1, g_up_eq], w1⟩
      · obtain ⟨x, x1, x2⟩ := hv j (by omega); exact ⟨x, by rw [hD1, g_up_at e]; exact x1, x2⟩
    have h31 : D1 k 3 = M := by rw [f1 k (by omega)]; exact h3
    have e2 : (D1 k 3 - 1 - (i : Int)).toNat = M - 1 - i := by omega
    refine ⟨by omega, ⟨by omega, by omega⟩, ⟨by omega, by omega⟩, by omega, ?_⟩
    rw [e2, Int.toNat_natCast, f1 r (by omega), hn y hy, f1 (k + 2) (by omega), ht (M - 1 - i) (by omega), g_and_n (by omega)]
    have hlt : m_nx c s y &&& m_bits (m_tw s c a0 (M - 1 - i)) 20 < 2 ^ 20 := Nat.lt_of_le_of_lt Nat.and_le_left hl
    have hbit : ∀ b, (m_nx c s y &&& m_bits (m_tw s c a0 (M - 1 - i)) 20).testBit b = true ↔ (m_e1 s c y b ∧ m_wk (m_e1 s c) (M - i - 1) b a0) := by
      intro b
      rw [Nat.testBit_and, Bool.and_eq_true, m_bits_bit, Bool.and_eq_true, decide_eq_true_eq, m_tw_iff, ← m_e1_iff, show M - 1 - i = M - i - 1 by omega]
      exact ⟨fun q => ⟨q.1, q.2.2⟩, fun q => ⟨q.1, by have := q.1.2.1; omega, q.2⟩⟩
    refine c_lowestBit hlt (fun h0 => ?_) (fun t t1 t2 t3 => ?_)
    · exfalso
      rw [show M - i = (M - i - 1) + 1 by omega] at w2
      obtain ⟨b, b1, b2⟩ := w2
      have := (hbit b).mpr ⟨b1, b2⟩
      rw [h0, Nat.zero_testBit] at this
      cases this
    · have ht1 := (hbit t).mp t1
      refine fun _ => ⟨⟨by omega, by omega⟩, ?_⟩
      rw [g_cast1]
      refine ih (i + 1) t D1 (by omega) (by omega) f1 v1 t3 (fun hlt => ⟨⟨y, w1, ht1, fun b hb q => ?_⟩, by rw [show M - (i + 1) = M - i - 1 by omega]; exact ht1.2⟩)
      have := (hbit b).mpr q
      rw [t2 b hb] at this
      cases this
theorem l_X6_short16 {K : g_D → Prop} {k r a0 : Nat} {D0 : g_D} (hk : is_Rings g_SH k) (hr : g_SH[r]? = some (.inl (0, 20))) (hrk : r < k) (hs : s ≤ 20) (ha : a0 < s) (hn : ∀ a, a < 20 → D0 r a = (m_nx c s a : Nat))
    (kk : ∀ D' : g_D, x_f6 k D0 D' → ((D' k 3 = 0 ∧ ∀ j, 1 ≤ j → j ≤ 20 → ¬ m_wk (m_e1 s c) j a0 a0) ∨ ∃ M : Nat, M ≤ 20 ∧ D' k 3 = M ∧ m_dl (m_e1 s c) a0 a0 M ∧ ∀ i, i < M → ∃ x : Nat, D' (k + 3) i = x ∧ m_rw (m_e1 s c) a0 M i x) → K D') :
    ∀ (q n : Nat) (D : g_D), 21 - n = q → 1 ≤ n → n ≤ 21 → x_f6 k D0 D → D k 3 = 0 → (∀ i, i < n → D (k + 2) i = ((m_bits (m_tw s c a0 i) 20 : Nat) : Int)) → (∀ j, 1 ≤ j → j < n → ¬ m_wk (m_e1 s c) j a0 a0) → n_X6_findShortest E l D 16 [some (g_R k), some (g_R r), some (g_I a0), some (g_I n), none] K := by
  intro q
  induction q with
  | zero =>
    intro n D hq h1 hn21 hf h3 hv hno
    obtain rfl : n = 21 := by omega
    refine s_X6_findShortest_16 hk hr (fun _ _ _ => ⟨fun _ => ?_, fun h => (by omega : False).elim⟩)
    refine s_X6_findShortest_76 hk hr (fun _ _ _ => ⟨fun _ => kk D hf (Or.inl ⟨h3, fun j a b => hno j a (by omega)⟩), fun h => (by omega : False).elim⟩)
  | succ q ih =>
    intro n D hq h1 hn21 hf h3 hv hno
    have nx : ∀ a, a < 20 → D r a = (m_nx c s a : Nat) := fun a h => by rw [hf.1 r (by omega) (by omega) (by omega)]; exact hn a h
    refine s_X6_findShortest_16 hk hr (fun _ _ _ => ⟨fun h => (by omega : False).elim, fun _ => ⟨fun h => absurd h3 h, fun _ => ⟨⟨by omega, by omega⟩, by omega, ?_⟩⟩⟩)
    rw [show ((n : Int) - 1).toNat = n - 1 by omega, hv (n - 1) (by omega)]
    refine c_X6_leadingInto hr hs nx ?_
    rw [show n - 1 + 1 = n by omega]
    refine fun _ => ⟨by omega, fun D2 hD2 => ⟨by omega, ?_⟩⟩
    rw [Int.toNat_natCast] at hD2
    have f2 : x_f6 k D0 D2 := by rw [hD2]; exact hf.up (by omega)
    have v2 : ∀ i, i < n + 1 → D2 (k + 2) i = ((m_bits (m_tw s c a0 i) 20 : Nat) : Int) := fun i hi => by
      rw [hD2]
      by_cases e : i = n
      · rw [e, g_up_eq]
      · rw [g_up_at e]; exact hv i (by omega)
    have hlt := m_bits_lt (P := m_tw s c a0 n) 20
    rw [Int.toNat_natCast, v2 n (by omega)]
    refine c_hasBit (by omega) (by omega) ?_
    rw [m_bits_bit, decide_eq_true (show a0 < 20 by omega), Bool.true_and]
    refine fun _ => ⟨fun h => ⟨⟨by omega, by omega⟩, ?_⟩, fun h D4 hD4 => ⟨⟨by omega, by omega⟩, ?_⟩⟩
    · rw [g_cast1]
      refine ih (n + 1) D2 (by omega) (by omega) (by omega) f2 (by rw [hD2, g_up_ne (by omega)]; exact h3) v2 (fun j a b => ?_)
      by_cases e : j = n
      · subst e; exact fun q => by rw [m_tw_iff.mpr q] at h; exact absurd h (by decide)
      · exact hno j a (by omega)
    · have hw := m_tw_iff.mp (g_b_n0.mp h)
      have f4 : x_f6 k D0 D4 := by rw [hD4]; exact f2.up (by omega)
      have h34 : D4 k 3 = n := by rw [hD4, g_up_eq]
      have fin : n_X6_findShortest E l D4 76 [some (g_R k), some (g_R r), none, some (g_I a0), some (g_I 0)] K := by
        refine l_X6_short76 (M := n) (a0 := a0) hk hr hrk hs h1 (by omega) (fun a h => by rw [f4.1 r (by omega) (by omega) (by omega)]; exact hn a h) (fun i hi => by rw [hD4, g_up_ne (by omega)]; exact v2 i (by omega)) h34 (fun D5 f5 v5 => ?_) n 0 a0 D4 rfl (Nat.zero_le _) (fun _ _ => rfl) (fun j hj => absurd hj (Nat.not_lt_zero j)) (by omega) (fun _ => ⟨rfl, hw⟩)
        refine kk D5 ⟨fun i a b d => by rw [f5 i d]; exact f4.1 i a b d, fun j hj => by rw [f5 k (by omega)]; exact f4.2 j hj⟩ (Or.inr ⟨n, by omega, by rw [f5 k (by omega)]; exact h34, ⟨h1, hw, hno⟩, v5⟩)
      refine s_X6_findShortest_16 hk hr (fun _ _ _ => ⟨fun _ => fin, fun _ => ⟨fun _ => fin, fun h => (by omega : False).elim⟩⟩)
theorem c_X6_findShortest {K : g_D → Prop} {k r a0 : Nat} (hk : is_Rings g_SH k) (hr : g_SH[r]? = some (.inl (0, 20))) (hrk : r < k) (hs : s ≤ 20) (ha : a0 < s) (hn : ∀ a, a < 20 → D r a = (m_nx c s a : Nat))
    (kk : ∀ D' : g_D, x_f6 k D D' → ((D' k 3 = 0 ∧ ¬ m_rg s c (m_cp c) a0) ∨ ∃ M : Nat, M ≤ 20 ∧ D' k 3 = M ∧ m_dl (m_ed s c (m_cp c)) a0 a0 M ∧ ∀ i, i < M → ∃ x : Nat, D' (k + 3) i = x ∧ m_rw (m_ed s c (m_cp c)) a0 M i x) → K D') : k_X6_findShortest E l D k r a0 K := by
  refine s_X6_findShortest hk hr (fun _ _ D1 hD1 D2 hD2 => ?_)
  rw [g_shl1_n (by omega)] at hD2
  refine l_X6_short16 (D0 := D) hk hr hrk hs ha hn (fun D3 f3 h => kk D3 f3 ?_) 20 1 D2 rfl (Nat.le_refl _) (by omega) ?_ ?_ (fun i hi => ?_) (fun j a b => absurd b (by omega))
  · rcases h with ⟨h1, h2⟩ | ⟨M, hM, h1, h2, h3⟩
    · refine Or.inl ⟨h1, fun q => ?_⟩
      have hcp : m_cp c a0 = true := q.al.2.1
      obtain ⟨d, hd⟩ := q
      obtain ⟨M, hM⟩ := m_dl_ex hd
      have hle := hM.le (s := s) (fun a b h => h.1)
      exact h2 M hM.1 (by omega) ((m_e1.wk hcp).mpr hM.2.1)
    · refine Or.inr ⟨M, hM, h1, ?_⟩
      have hcp : m_cp c a0 = true := by
        have w := h2.2.1
        have h1 := h2.1
        rw [show M = (M - 1) + 1 by omega] at w
        obtain ⟨x, x1, _⟩ := w
        exact m_e1.cp x1
      refine ⟨⟨h2.1, (m_e1.wk hcp).mp h2.2.1, fun j a b q => h2.2.2 j a b ((m_e1.wk hcp).mpr q)⟩, fun i hi => ?_⟩
      obtain ⟨x, x1, x2⟩ := h3 i hi
      exact ⟨x, x1, m_e1.rw hcp x2⟩
  · rw [hD2, hD1]
    exact (x_f6.up ⟨fun _ _ _ _ => rfl, fun _ _ => rfl⟩ (by omega)).up (by omega)
  · rw [hD2, g_up_ne (by omega), hD1, g_up_eq]
  · obtain rfl : i = 0 := by omega
    rw [hD2, g_up_eq]
    congr 1
    apply Nat.eq_of_testBit_eq
    intro j
    rw [Nat.testBit_two_pow, m_bits_bit]
    rw [Bool.eq_iff_iff, Bool.and_eq_true, decide_eq_true_eq, decide_eq_true_eq, m_tw_iff]
    constructor
    · intro q; exact ⟨by omega, q.symm⟩
    · rintro ⟨_, q⟩; exact Eq.symm q
end SHORT
