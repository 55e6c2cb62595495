section
/-! no ring among some: both sides -/
theorem g_and_b1 (x : Bool) : g_and (g_b x) 1 = g_b x := by
  have h := g_b_and x true
  rw [g_b_T, Bool.and_true] at h
  exact h
theorem g_and_b0 (x : Bool) : g_and (g_b x) 0 = 0 := by
  have h := g_b_and x false
  rw [g_b_F, Bool.and_false] at h
  exact h
def m_any (P : Nat → Bool) : Nat → Bool
  | 0 => false
  | k + 1 => m_any P k || P k
theorem m_any_iff {P : Nat → Bool} : ∀ {n : Nat}, m_any P n = true ↔ ∃ i, i < n ∧ P i = true
  | 0 => ⟨fun h => (by cases h), fun ⟨i, h, _⟩ => absurd h (Nat.not_lt_zero i)⟩
  | n + 1 => by
    rw [m_any, Bool.or_eq_true, m_any_iff]
    constructor
    · rintro (⟨i, h1, h2⟩ | h)
      · exact ⟨i, by omega, h2⟩
      · exact ⟨n, by omega, h⟩
    · rintro ⟨i, h1, h2⟩
      rcases Nat.lt_succ_iff_lt_or_eq.mp h1 with h | rfl
      · exact Or.inl ⟨i, h, h2⟩
      · exact Or.inr h2
theorem m_any_no {P : Nat → Bool} {n : Nat} (h : m_any P n = false) : ∀ i, i < n → P i = false := fun i hi => by
  cases q : P i with
  | false => rfl
  | true => rw [m_any_iff.mpr ⟨i, hi, q⟩] at h; cases h
theorem m_cnt_zero {P : Nat → Bool} : ∀ {n : Nat}, m_cnt P n = 0 → ∀ i, i < n → P i = false
  | 0, _, i, hi => absurd hi (Nat.not_lt_zero i)
  | n + 1, h, i, hi => by
    rw [m_cnt] at h
    split at h
    · omega
    · rename_i hn
      rcases Nat.lt_succ_iff_lt_or_eq.mp hi with q | rfl
      · exact m_cnt_zero h i q
      · exact Bool.not_eq_true _ ▸ hn
theorem m_cnt_pos {P : Nat → Bool} {n : Nat} (h : m_cnt P n ≠ 0) : ∃ i, i < n ∧ P i = true := by
  refine Classical.byContradiction (fun hno => h ?_)
  have : m_cnt P n ≤ m_cnt (fun _ => false) n := m_cnt_mono (fun c hc hp => absurd ⟨c, hc, hp⟩ hno)
  have z : ∀ k, m_cnt (fun _ => false) k = 0 := by
    intro k
    induction k with
    | zero => rfl
    | succ k ih => rw [m_cnt, if_neg Bool.false_ne_true, ih]
  rw [z] at this
  omega
theorem m_cnt_congr {P Q : Nat → Bool} {n : Nat} (h : ∀ i, i < n → P i = Q i) : m_cnt P n = m_cnt Q n := Nat.le_antisymm (m_cnt_mono (fun c hc hp => by rw [← h c hc]; exact hp)) (m_cnt_mono (fun c hc hp => by rw [h c hc]; exact hp))
/-- some of al0 are left, all rings are among them -/
def m_kp (s : Nat) (c : Nat → Nat → Int) (al0 al : Nat → Bool) : Prop := (∀ x, x < s → al x = true → al0 x = true) ∧ ∀ k, m_rg s c al0 k → al k = true
theorem m_kp.refl {s : Nat} {c : Nat → Nat → Int} {al0 : Nat → Bool} : m_kp s c al0 al0 := ⟨fun _ _ h => h, fun _ h => h.al.2.1⟩
theorem m_kp.outP {s b : Nat} {c : Nat → Nat → Int} {al0 al : Nat → Bool} (h : m_kp s c al0 al) (hb : m_any (fun x => al x && m_ah c x b) s = false) : m_kp s c al0 (fun i => al i && decide (i ≠ b)) := by
  refine ⟨fun x hx q => ?_, fun k hk => ?_⟩
  · rw [Bool.and_eq_true] at q; exact h.1 x hx q.1
  · rw [Bool.and_eq_true, decide_eq_true_eq]
    refine ⟨h.2 k hk, fun e => ?_⟩
    subst e
    obtain ⟨y, y1, y2⟩ := m_cyc.prev hk
    have := m_any_no hb y y1.1
    rw [h.2 y y2, y1.2.2.2.2] at this
    cases this
theorem m_kp.done {s : Nat} {c : Nat → Nat → Int} {al0 al : Nat → Bool} (h : m_kp s c al0 al) (h0 : ∀ x, x < s → al x = false) : m_acyb s c al0 = true := m_acyb_iff.mpr (fun k hk => by
  have := h.2 k hk
  rw [h0 k hk.al.1] at this
  cases this)
theorem m_kp.ringS {s x0 : Nat} {c : Nat → Nat → Int} {al0 al : Nat → Bool} (h : m_kp s c al0 al) (hx : al x0 = true) (hn : ∀ x, al x = true → ∃ y, al y = true ∧ x < s ∧ y < s ∧ m_ah c x y = true) : m_acyb s c al0 = false := by
  obtain ⟨k, k1, k2⟩ := m_cyc_of (e := fun x y => m_ah c x y = true) (T := fun x => x < s ∧ al x = true) (N := s) (t := x0) (fun x q => q.1) (fun x q => by
    obtain ⟨y, y1, y2, y3, y4⟩ := hn x q.2
    exact ⟨y, ⟨y3, y1⟩, y4⟩) (by
    obtain ⟨y, y1, y2, y3, y4⟩ := hn x0 hx
    exact ⟨y2, hx⟩)
  obtain ⟨d, k2⟩ := k2
  exact m_acyb_no (k := k) ⟨d, k2.mono (fun a b q => ⟨q.1.1, q.2.1.1, h.1 a q.1.1 q.1.2, h.1 b q.2.1.1 q.2.1.2, q.2.2⟩)⟩
theorem m_kp.ringP {s x0 : Nat} {c : Nat → Nat → Int} {al0 al : Nat → Bool} (h : m_kp s c al0 al) (h0 : x0 < s) (hx : al x0 = true) (hn : ∀ x, x < s → al x = true → m_any (fun y => al y && m_ah c y x) s = true) : m_acyb s c al0 = false := by
  obtain ⟨k, k1, d, k2⟩ := m_cyc_of (e := fun x y => m_ah c y x = true) (T := fun x => x < s ∧ al x = true) (N := s) (t := x0) (fun x q => q.1) (fun x q => by
    obtain ⟨y, y1, y2⟩ := m_any_iff.mp (hn x q.1 q.2)
    rw [Bool.and_eq_true] at y2
    exact ⟨y, ⟨y1, y2.1⟩, y2.2⟩) ⟨h0, hx⟩
  have k3 : m_wk (fun x y => m_ed s c al0 y x) (d + 1) k k := k2.mono (fun a b q => ⟨q.2.1.1, q.1.1, h.1 b q.2.1.1 q.2.1.2, h.1 a q.1.1 q.1.2, q.2.2⟩)
  exact m_acyb_no (k := k) ⟨d, m_wk.rev k3⟩
section NORING
variable {E : g_E} {l : Launch} {sh : List g_Sh} {D : g_D} {s : Nat} {c : Nat → Nat → Int} {al0 : Nat → Bool}
theorem l_X12_nr82 {K : Int → g_D → Prop} {al : Nat → Bool} {b : Nat} {v2 v3 : Int} (hs : s ≤ 20) (hb : b < s) (h14 : D 208 14 = s) (hA : m_ahd D s c) (hal : m_alD D s al) (h3 : 1 ≤ v3 ∧ v3 ≤ 20)
    (kf : m_any (fun x => al x && m_ah c x b) s = false → n_X12_isWithoutRing E l (g_up D 222 b 0) 54 [some (g_R 208), none, some (g_I 1), some (g_I (v3 + (-1))), some (g_I ((b : Int) + 1)), none, none] K)
    (kt : m_any (fun x => al x && m_ah c x b) s = true → n_X12_isWithoutRing E l D 54 [some (g_R 208), none, some (g_I v2), some (g_I v3), some (g_I ((b : Int) + 1)), none, none] K) :
    ∀ q a : Nat, s - a = q → a ≤ s → n_X12_isWithoutRing E l D 82 [some (g_R 208), none, some (g_I v2), some (g_I v3), some (g_I b), some (g_I (g_b (!m_any (fun x => al x && m_ah c x b) a))), some (g_I a)] K := by
  intro q
  induction q with
  | zero =>
    intro a hq ha
    obtain rfl : a = s := by omega
    refine s_X12_isWithoutRing_82 (fun _ _ _ _ _ _ => ⟨fun _ => ⟨fun h => ⟨by omega, fun D1 hD1 => ⟨⟨by omega, by omega⟩, ⟨by omega, by omega⟩, ?_⟩⟩, fun h => ⟨⟨by omega, by omega⟩, ?_⟩⟩, fun h => (by omega : False).elim⟩)
    · rw [g_b_n0, Bool.not_eq_true'] at h
      rw [hD1, Int.toNat_natCast]; exact kf h
    · rw [g_b_0, Bool.not_eq_false'] at h
      exact kt h
  | succ q ih =>
    intro a hq ha
    have ih' := ih (a + 1) (by omega) (by omega)
    have e : m_any (fun x => al x && m_ah c x b) (a + 1) = (m_any (fun x => al x && m_ah c x b) a || (al a && m_ah c a b)) := rfl
    rw [← g_cast1, e] at ih'
    refine s_X12_isWithoutRing_82 (fun _ _ _ _ _ _ => ⟨fun h => (by omega : False).elim, fun _ => ⟨by omega, ?_⟩⟩)
    rw [Int.toNat_natCast, hal a (by omega), show ((40 * (a : Int)) + b).toNat = 40 * a + b by omega, hA a b (by omega) hb, g_and_b1, g_and_b0]
    refine ⟨fun h => ⟨⟨by omega, by omega⟩, ?_⟩, fun h => ⟨⟨by omega, by omega⟩, ⟨by omega, by omega⟩, by omega, fun h2 => ⟨⟨by omega, by omega⟩, ?_⟩, fun h2 => ⟨⟨by omega, by omega⟩, ?_⟩⟩⟩
    · rw [g_b_0.mp h, Bool.false_and, Bool.or_false] at ih'
      exact ih'
    · rw [g_b_n0.mp h, g_b_n0.mp h2, Bool.true_and, Bool.or_true] at ih'
      exact ih'
    · rw [g_b_0.mp h2, Bool.and_false, Bool.or_false] at ih'
      exact ih'
theorem l_X12_nr54 {K : Int → g_D → Prop} {D0 : g_D} {N : Nat} (hs : s ≤ 20) (h14 : D0 208 14 = s) (hA : m_ahd D0 s c)
    (kk : ∀ D' : g_D, (∀ i, i ≠ 222 → D' i = D0 i) → K (g_b (m_acyb s c al0)) D')
    (ihN : ∀ (D : g_D) (al : Nat → Bool), m_cnt al s < N → (∀ i, i ≠ 222 → D i = D0 i) → m_alD D s al → m_kp s c al0 al → n_X12_isWithoutRing E l D 45 [some (g_R 208), none, some (g_I 1), some (g_I (m_cnt al s : Nat)), none, none, none] K) :
    ∀ (q b : Nat) (D : g_D) (al : Nat → Bool) (v2 : Int), s - b = q → b ≤ s → (∀ i, i ≠ 222 → D i = D0 i) → m_alD D s al → m_kp s c al0 al → ((v2 = 0 ∧ m_cnt al s = N ∧ ∀ x, x < b → al x = true → m_any (fun y => al y && m_ah c y x) s = true) ∨ (v2 = 1 ∧ m_cnt al s < N)) → n_X12_isWithoutRing E l D 54 [some (g_R 208), none, some (g_I v2), some (g_I (m_cnt al s : Nat)), some (g_I b), none, none] K := by
  intro q
  induction q with
  | zero =>
    intro b D al v2 hq hb hf hal hk hv
    obtain rfl : b = s := by omega
    have h1 : D 208 14 = b := by rw [hf 208 (by decide)]; exact h14
    refine s_X12_isWithoutRing_54 (fun _ _ _ _ => ⟨fun _ => ?_, fun h => (by omega : False).elim⟩)
    rcases hv with ⟨rfl, hN, hp⟩ | ⟨rfl, hN⟩
    · refine s_X12_isWithoutRing_45 (fun _ _ _ => ⟨fun _ => ⟨fun h => ?_, fun h => ?_⟩, fun h => absurd rfl h⟩)
      · obtain ⟨x, x1, x2⟩ := m_cnt_pos (P := al) (n := b) (by omega)
        have := kk D hf
        rw [hk.ringP x1 x2 hp] at this
        exact this
      · have := kk D hf
        rw [hk.done (m_cnt_zero (P := al) (n := b) (by omega))] at this
        exact this
    · exact ihN D al hN hf hal hk
  | succ q ih =>
    intro b D al v2 hq hb hf hal hk hv
    have h1 : D 208 14 = s := by rw [hf 208 (by decide)]; exact h14
    have h2 : m_ahd D s c := by unfold m_ahd; rw [hf 220 (by decide)]; exact hA
    have hle := m_cnt_le (P := al) s
    refine s_X12_isWithoutRing_54 (fun _ _ _ _ => ⟨fun h => (by omega : False).elim, fun _ => ⟨by omega, ?_⟩⟩)
    rw [Int.toNat_natCast, hal b (by omega)]
    refine ⟨fun h => ?_, fun h => ⟨⟨by omega, by omega⟩, ?_⟩⟩
    · rw [g_b_n0] at h
      have ho := m_cnt_out (P := al) (d := b) (F := s) (by omega) h
      refine l_X12_nr82 hs (by omega) h1 h2 hal (by omega) (fun hn => ?_) (fun hy => ?_) s 0 rfl (Nat.zero_le _)
      · rw [g_cast1, show ((m_cnt al s : Nat) : Int) + (-1) = ((m_cnt (fun i => al i && decide (i ≠ b)) s : Nat) : Int) by omega]
        refine ih (b + 1) (g_up D 222 b 0) (fun i => al i && decide (i ≠ b)) 1 (by omega) (by omega) (fun i hi => by rw [g_up_ne hi]; exact hf i hi) (fun a ha => ?_) (hk.outP hn) (Or.inr ⟨rfl, by omega⟩)
        by_cases e : a = b
        · subst e; rw [g_up_eq]; simp [g_b]
        · rw [g_up_at e, hal a ha]; simp [e]
      · rw [g_cast1]
        refine ih (b + 1) D al v2 (by omega) (by omega) hf hal hk ?_
        rcases hv with ⟨e, hN, hp⟩ | q
        · refine Or.inl ⟨e, hN, fun x hx hal' => ?_⟩
          rcases Nat.lt_succ_iff_lt_or_eq.mp hx with q | rfl
          · exact hp x q hal'
          · exact hy
        · exact Or.inr q
    · rw [g_b_0] at h
      rw [g_cast1]
      refine ih (b + 1) D al v2 (by omega) (by omega) hf hal hk ?_
      rcases hv with ⟨e, hN, hp⟩ | q
      · refine Or.inl ⟨e, hN, fun x hx hal' => ?_⟩
        rcases Nat.lt_succ_iff_lt_or_eq.mp hx with q | rfl
        · exact hp x q hal'
        · rw [h] at hal'; cases hal'
      · exact Or.inr q
theorem l_X12_nr45 {K : Int → g_D → Prop} {D0 : g_D} (hs : s ≤ 20) (h14 : D0 208 14 = s) (hA : m_ahd D0 s c)
    (kk : ∀ D' : g_D, (∀ i, i ≠ 222 → D' i = D0 i) → K (g_b (m_acyb s c al0)) D') :
    ∀ (N : Nat) (D : g_D) (al : Nat → Bool), m_cnt al s < N → (∀ i, i ≠ 222 → D i = D0 i) → m_alD D s al → m_kp s c al0 al → n_X12_isWithoutRing E l D 45 [some (g_R 208), none, some (g_I 1), some (g_I (m_cnt al s : Nat)), none, none, none] K := by
  intro N
  induction N with
  | zero => intro D al h; exact absurd h (Nat.not_lt_zero _)
  | succ N ih =>
    intro D al h hf hal hk
    refine s_X12_isWithoutRing_45 (fun _ _ _ => ⟨fun h => absurd h (by decide), fun _ => ?_⟩)
    exact l_X12_nr54 hs h14 hA kk (fun D al h => ih D al (by omega)) s 0 D al 0 rfl (Nat.zero_le _) hf hal hk (Or.inl ⟨rfl, rfl, fun x hx => absurd hx (Nat.not_lt_zero x)⟩)
theorem l_X12_nr12 {K : Int → g_D → Prop} {al : Nat → Bool} (hs : s ≤ 20) (h14 : D 208 14 = s) (hal : m_alD D s al)
    (kk : n_X12_isWithoutRing E l D 45 [some (g_R 208), none, some (g_I 1), some (g_I (m_cnt al s : Nat)), none, none, none] K) :
    ∀ q a : Nat, s - a = q → a ≤ s → n_X12_isWithoutRing E l D 12 [some (g_R 208), none, some (g_I 1), some (g_I (m_cnt al a : Nat)), some (g_I a), none, none] K := by
  intro q
  induction q with
  | zero =>
    intro a hq ha
    obtain rfl : a = s := by omega
    exact s_X12_isWithoutRing_12 (fun _ _ _ _ => ⟨fun _ => kk, fun h => (by omega : False).elim⟩)
  | succ q ih =>
    intro a hq ha
    have ih' := ih (a + 1) (by omega) (by omega)
    rw [← g_cast1, m_cnt] at ih'
    have hle := m_cnt_le (P := al) a
    refine s_X12_isWithoutRing_12 (fun _ _ _ _ => ⟨fun h => (by omega : False).elim, fun _ => ⟨by omega, ?_⟩⟩)
    rw [Int.toNat_natCast, hal a (by omega)]
    refine ⟨fun h => ⟨⟨by omega, by omega⟩, ⟨by omega, by omega⟩, ?_⟩, fun h => ⟨⟨by omega, by omega⟩, ⟨by omega, by omega⟩, ?_⟩⟩
    · rw [g_b_0.mp h, if_neg Bool.false_ne_true] at ih'
      rw [Int.add_zero]; exact ih'
    · rw [g_b_n0.mp h, if_pos rfl, ← g_cast1] at ih'
      exact ih'
theorem c_X12_isWithoutRing {K : Int → g_D → Prop} {x : Nat} (hs : s ≤ 20) (hc : m_cmd D s c) (hA : m_ahd D s c) (hx : x < 2 ^ 31)
    (kk : ∀ D' : g_D, (∀ i, i ≠ 222 → D' i = D i) → K (g_b (m_acyb s c (fun i => m_cp c i && !x.testBit i))) D') : k_X12_isWithoutRing E l D x K := by
  refine s_X12_isWithoutRing (fun _ _ => c_X12_isAmongCopies hs hc hx (fun D1 hf hal => ?_))
  have h14 : D 208 14 = s := hc.1
  have h1 : D1 208 14 = s := by rw [hf 208 (by decide)]; exact h14
  have h2 : m_ahd D1 s c := by unfold m_ahd; rw [hf 220 (by decide)]; exact hA
  refine l_X12_nr12 hs h1 hal ?_ s 0 rfl (Nat.zero_le _)
  exact l_X12_nr45 hs h14 hA kk _ D1 _ (Nat.lt_succ_self _) hf hal m_kp.refl
/-- the class -/
theorem l_X6_nr20 {K : Int → g_D → Prop} {r left : Nat} {v3 : Int} (hr : sh[r]? = some (.inl (0, 20))) (hs : s ≤ 20) (hn : ∀ a, a < 20 → D r a = (m_nx c s a : Nat)) (hl : left < 2 ^ 20) (h3 : 0 ≤ v3 ∧ v3 < 20)
    (kt : m_bits (fun u => left.testBit u && decide (m_nx c s u &&& left ≠ 0)) 20 = left → K 0 D)
    (kf : m_bits (fun u => left.testBit u && decide (m_nx c s u &&& left ≠ 0)) 20 ≠ left → n_X6_isWithoutRing E l sh D 4 [some (g_R r), none, some (g_I ((m_bits (fun u => left.testBit u && decide (m_nx c s u &&& left ≠ 0)) 20 : Nat) : Int)), some (g_I (v3 + 1)), none, none] K) :
    ∀ q u : Nat, 20 - u = q → u ≤ 20 → n_X6_isWithoutRing E l sh D 20 [some (g_R r), none, some (g_I left), some (g_I v3), some (g_I ((m_bits (fun u => left.testBit u && decide (m_nx c s u &&& left ≠ 0)) u : Nat) : Int)), some (g_I u)] K := by
  intro q
  induction q with
  | zero =>
    intro u hq hu
    obtain rfl : u = 20 := by omega
    refine s_X6_isWithoutRing_20 hr (fun _ _ _ _ _ => ⟨fun _ => ⟨fun h => ⟨⟨by omega, by omega⟩, ?_⟩, fun h => ?_⟩, fun h => (by omega : False).elim⟩)
    · exact kf (by omega)
    · exact kt (by omega)
  | succ q ih =>
    intro u hq hu
    have ih' := ih (u + 1) (by omega) (by omega)
    rw [← g_cast1] at ih'
    have hlu : m_nx c s u < 2 ^ 20 := m_nx_lt hs
    refine s_X6_isWithoutRing_20 hr (fun _ _ _ _ _ => ⟨fun h => (by omega : False).elim, fun _ => c_hasBit (by omega) (by omega) (fun _ => ⟨fun h => ⟨⟨by omega, by omega⟩, ?_⟩, fun h => ⟨by omega, ?_⟩⟩)⟩)
    · rw [g_or0 (by rw [g_b_0.mp h, Bool.false_and])] at ih'
      exact ih'
    · rw [Int.toNat_natCast, hn u (by omega), g_and_n (by omega)]
      refine ⟨fun h2 => ⟨⟨by omega, by omega⟩, ?_⟩, fun h2 => ⟨⟨by omega, by omega⟩, ?_⟩⟩
      · rw [g_or0 (by rw [decide_eq_false (by omega), Bool.and_false])] at ih'
        exact ih'
      · rw [← g_or1 (by omega) (by rw [g_b_n0.mp h, decide_eq_true (by omega)]; rfl)] at ih'
        exact ih'
theorem l_X6_nr4 {K : Int → g_D → Prop} {r : Nat} (hr : sh[r]? = some (.inl (0, 20))) (hs : s ≤ 20) (hn : ∀ a, a < 20 → D r a = (m_nx c s a : Nat))
    (kk : K (g_b (m_acyb s c al0)) D) :
    ∀ q v left : Nat, 20 - v = q → v ≤ 20 → left < 2 ^ 20 → m_kp s c al0 left.testBit → m_cnt left.testBit 20 + v ≤ 20 → n_X6_isWithoutRing E l sh D 4 [some (g_R r), none, some (g_I left), some (g_I v), none, none] K := by
  have zero : ∀ left : Nat, left < 2 ^ 20 → m_cnt left.testBit 20 = 0 → left = 0 := by
    intro left hl h
    have := m_cnt_zero h
    refine Nat.eq_of_testBit_eq (fun i => ?_)
    rw [Nat.zero_testBit]
    by_cases hi : i < 20
    · exact this i hi
    · exact Nat.testBit_lt_two_pow (Nat.lt_of_lt_of_le hl (Nat.pow_le_pow_right (by decide) (by omega)))
  have fin : ∀ left : Nat, left = 0 → m_kp s c al0 left.testBit → K 1 D := by
    intro left h hk
    subst h
    rw [hk.done (fun x _ => Nat.zero_testBit x)] at kk
    exact kk
  intro q
  induction q with
  | zero =>
    intro v left hq hv hl hk hc
    obtain rfl : v = 20 := by omega
    have h0 := zero left hl (by omega)
    exact s_X6_isWithoutRing_4 hr (fun _ _ _ => ⟨fun _ => ⟨fun h => (by omega : False).elim, fun _ => fin left h0 hk⟩, fun h => (by omega : False).elim⟩)
  | succ q ih =>
    intro v left hq hv hl hk hc
    refine s_X6_isWithoutRing_4 hr (fun _ _ _ => ⟨fun h => (by omega : False).elim, fun _ => ⟨fun h => ⟨fun h2 => absurd h h2, fun _ => fin left (by omega) hk⟩, fun h => ?_⟩⟩)
    have hsub : ∀ x, (m_bits (fun u => left.testBit u && decide (m_nx c s u &&& left ≠ 0)) 20).testBit x = true → left.testBit x = true := fun x q => by
      rw [m_bits_bit, Bool.and_eq_true, Bool.and_eq_true] at q
      exact q.2.1
    refine l_X6_nr20 hr hs hn hl (by omega) (fun e => ?_) (fun e => ?_) 20 0 rfl (Nat.zero_le _)
    · obtain ⟨x, hx⟩ : ∃ x, left.testBit x = true := by
        refine Classical.byContradiction (fun hno => h ?_)
        have : left = 0 := Nat.eq_of_testBit_eq (fun i => by
          rw [Nat.zero_testBit]
          cases q : left.testBit i with
          | false => rfl
          | true => exact absurd ⟨i, q⟩ hno)
        omega
      rw [hk.ringS (x0 := x) hx (fun y hy => ?_)] at kk
      · exact kk
      · rw [← e, m_bits_bit, Bool.and_eq_true, Bool.and_eq_true, decide_eq_true_eq, decide_eq_true_eq, m_and_ne] at hy
        obtain ⟨_, _, z, z1, z2⟩ := hy
        rw [m_nx_bit] at z1
        simp only [Bool.and_eq_true, decide_eq_true_eq] at z1
        exact ⟨z, z2, z1.1, z1.2.1, z1.2.2⟩
    · rw [g_cast1]
      refine ih (v + 1) _ (by omega) (by omega) (m_bits_lt 20) ⟨fun x hx q => hk.1 x hx (hsub x q), fun x hx => ?_⟩ ?_
      · obtain ⟨y, y1, y2⟩ := m_cyc.next hx
        rw [m_bits_bit, Bool.and_eq_true, Bool.and_eq_true, decide_eq_true_eq, decide_eq_true_eq, m_and_ne]
        refine ⟨by have := y1.1; omega, hk.2 x hx, y, ?_, hk.2 y y2⟩
        rw [m_nx_bit]
        simp only [Bool.and_eq_true, decide_eq_true_eq]
        exact ⟨y1.1, y1.2.1, y1.2.2.2.2⟩
      · obtain ⟨x, x1, x2, x3⟩ : ∃ x, x < 20 ∧ left.testBit x = true ∧ (m_bits (fun u => left.testBit u && decide (m_nx c s u &&& left ≠ 0)) 20).testBit x = false := by
          refine Classical.byContradiction (fun hno => e (Nat.eq_of_testBit_eq (fun i => ?_)))
          by_cases hi : i < 20
          · cases q : left.testBit i with
            | false =>
              cases q2 : (m_bits (fun u => left.testBit u && decide (m_nx c s u &&& left ≠ 0)) 20).testBit i with
              | false => rfl
              | true => rw [hsub i q2] at q; cases q
            | true =>
              cases q2 : (m_bits (fun u => left.testBit u && decide (m_nx c s u &&& left ≠ 0)) 20).testBit i with
              | false => exact absurd ⟨i, hi, q, q2⟩ hno
              | true => rfl
          · rw [m_bits_bit, decide_eq_false hi, Bool.false_and, Nat.testBit_lt_two_pow (Nat.lt_of_lt_of_le hl (Nat.pow_le_pow_right (by decide) (by omega)))]
        have := m_cnt_lt (fun c _ => hsub c) x1 x3 x2
        omega
theorem c_X6_isWithoutRing {K : Int → g_D → Prop} {r x : Nat} (hr : sh[r]? = some (.inl (0, 20))) (hs : s ≤ 20) (hx : x < 2 ^ 20) (hn : ∀ a, a < 20 → D r a = (m_nx c s a : Nat))
    (kk : K (g_b (m_acyb s c x.testBit)) D) : k_X6_isWithoutRing E l sh D r x K :=
  s_X6_isWithoutRing hr (fun _ _ => l_X6_nr4 hr hs hn kk 20 0 x rfl (Nat.zero_le _) hx m_kp.refl (by have := m_cnt_le (P := x.testBit) 20; omega))
end NORING
end
