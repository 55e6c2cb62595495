/-! promises 16, 17 -/
def m_cp (c : Nat → Nat → Int) (i : Nat) : Bool := decide (c i 0 = 1)
theorem m_alD.congr {D : g_D} {s : Nat} {al al' : Nat → Bool} (h : m_alD D s al) (e : ∀ i, i < s → al i = al' i) : m_alD D s al' := fun a ha => by rw [← e a ha]; exact h a ha
/-- the least length of a walk from a to k -/
def m_dl (e : Nat → Nat → Prop) (k a i : Nat) : Prop := 1 ≤ i ∧ m_wk e i a k ∧ ∀ j, 1 ≤ j → j < i → ¬ m_wk e j a k
theorem m_dl.uniq {e : Nat → Nat → Prop} {k a i i' : Nat} (h : m_dl e k a i) (h' : m_dl e k a i') : i = i' := by
  rcases Nat.lt_trichotomy i i' with q | q | q
  · exact absurd h.2.1 (h'.2.2 i h.1 q)
  · exact q
  · exact absurd h'.2.1 (h.2.2 i' h'.1 q)
theorem m_dl_ex {e : Nat → Nat → Prop} {k a d : Nat} (h : m_wk e (d + 1) a k) : ∃ i, m_dl e k a i := by
  obtain ⟨j, h1, h2, h3⟩ := m_first (P := fun j => m_wk e (j + 1) a k) d h
  refine ⟨j + 1, by omega, h2, fun i hi hlt q => h3 (i - 1) (by omega) ?_⟩
  rw [show i - 1 + 1 = i by omega]; exact q
theorem m_dl.step {e : Nat → Nat → Prop} {k a i : Nat} (h : m_dl e k a (i + 1)) (hi : 1 ≤ i) : ∃ x, e a x ∧ m_dl e k x i := by
  obtain ⟨x, h1, h2⟩ := h.2.1
  exact ⟨x, h1, hi, h2, fun j hj hlt q => h.2.2 (j + 1) (by omega) (by omega) ⟨x, h1, q⟩⟩
theorem m_dl.le {e : Nat → Nat → Prop} {s k a M : Nat} (hs : ∀ a b, e a b → a < s) (h : m_dl e k a M) : M ≤ s := by
  have all : ∀ (t i a : Nat), m_dl e k a (i + 1 + t) → ∃ v, v < s ∧ m_dl e k v (i + 1) := by
    intro t
    induction t with
    | zero =>
      intro i a h
      obtain ⟨x, h1, _⟩ := h.2.1
      exact ⟨a, hs a x h1, h⟩
    | succ t ih =>
      intro i a h
      obtain ⟨x, _, h2⟩ := m_dl.step (i := i + 1 + t) h (by omega)
      exact ih i x h2
  refine m_pig (R := fun i v => m_dl e k v (i + 1)) (fun i hi => all (M - (i + 1)) i a ?_) (fun i i' v _ _ r r' => ?_)
  · rw [show i + 1 + (M - (i + 1)) = M by omega]; exact h
  · have := m_dl.uniq r r'; omega
/-- the least of the shortest rings -/
def m_rw (e : Nat → Nat → Prop) (k M : Nat) : Nat → Nat → Prop
  | 0, x => x = k
  | i + 1, x => ∃ y, m_rw e k M i y ∧ (e y x ∧ m_wk e (M - i - 1) x k) ∧ ∀ b, b < x → ¬ (e y b ∧ m_wk e (M - i - 1) b k)
theorem m_rw.uniq {e : Nat → Nat → Prop} {k M : Nat} : ∀ {i x x' : Nat}, m_rw e k M i x → m_rw e k M i x' → x = x'
  | 0, _, _, h, h' => by have h := h; have h' := h'; exact Eq.trans h (Eq.symm h')
  | i + 1, x, x', ⟨y, h1, h2, h3⟩, ⟨y', h1', h2', h3'⟩ => by
    have := m_rw.uniq h1 h1'
    subst this
    rcases Nat.lt_trichotomy x x' with q | q | q
    · exact absurd h2 (h3' x q)
    · exact q
    · exact absurd h2' (h3 x' q)
def m_ringA (s : Nat) (c : Nat → Nat → Int) (k : Nat) (v ans : Int) : Prop := (¬ m_rg s c (m_cp c) k ∧ ans = -1) ∨ (∃ M : Nat, m_dl (m_ed s c (m_cp c)) k k M ∧ ((v = -1 ∧ ans = M) ∨ ((M : Int) ≤ v ∧ ans = -1) ∨ (0 ≤ v ∧ v < M ∧ ∃ x : Nat, ans = x ∧ m_rw (m_ed s c (m_cp c)) k M v.toNat x)))
theorem m_ringA.uniq {s k : Nat} {c : Nat → Nat → Int} {v a a' : Int} (h : m_ringA s c k v a) (h' : m_ringA s c k v a') : a = a' := by
  rcases h with ⟨h1, h2⟩ | ⟨M, h1, h2⟩ <;> rcases h' with ⟨h1', h2'⟩ | ⟨M', h1', h2'⟩
  · rw [h2, h2']
  · have := h1'.1
    obtain ⟨d, rfl⟩ : ∃ d, M' = d + 1 := ⟨M' - 1, by omega⟩
    exact absurd ⟨d, h1'.2.1⟩ h1
  · have := h1.1
    obtain ⟨d, rfl⟩ : ∃ d, M = d + 1 := ⟨M - 1, by omega⟩
    exact absurd ⟨d, h1.2.1⟩ h1'
  · have := h1.uniq h1'
    subst this
    rcases h2 with ⟨p1, p2⟩ | ⟨p1, p2⟩ | ⟨p1, p2, x, p3, p4⟩ <;> rcases h2' with ⟨q1, q2⟩ | ⟨q1, q2⟩ | ⟨q1, q2, x', q3, q4⟩ <;> try omega
    rw [p3, q3, m_rw.uniq p4 q4]
/-- nothing but the model's paper of rings -/
def m_fg (D D' : g_D) : Prop := ∀ i, ¬ (221 ≤ i ∧ i ≤ 223) → D' i = D i
section RINGM
variable {E : g_E} {l : Launch} {sh : List g_Sh} {D : g_D} {s : Nat} {c : Nat → Nat → Int} {al : Nat → Bool}
theorem m_cmd.fg {D' : g_D} (h : m_cmd D s c) (hf : m_fg D D') : m_cmd D' s c := by unfold m_cmd at *; rw [hf 208 (by decide), hf 216 (by decide), hf 217 (by decide), hf 218 (by decide), hf 219 (by decide)]; exact h
theorem m_ahd.fg {D' : g_D} (h : m_ahd D s c) (hf : m_fg D D') : m_ahd D' s c := by unfold m_ahd at *; rw [hf 220 (by decide)]; exact h
theorem c_amongAll {K : g_D → Prop} (hs : s ≤ 20) (hc : m_cmd D s c) (kk : ∀ D' : g_D, (∀ i, i ≠ 222 → D' i = D i) → m_alD D' s (m_cp c) → K D') : k_X12_isAmongCopies E l D 0 K :=
  c_X12_isAmongCopies (x := 0) hs hc (by decide) (fun D' hf ha => kk D' hf (ha.congr (fun i _ => by rw [Nat.zero_testBit]; simp [m_cp])))
theorem l_X12_ringed {K : Int → g_D → Prop} {D0 : g_D} (hs : s ≤ 20) (hc : m_cmd D0 s c) (hA : m_ahd D0 s c)
    (kk : ∀ D' : g_D, m_fg D0 D' → K ((m_bits (m_rgb s c al) s : Nat) : Int) D') :
    ∀ (q a : Nat) (D : g_D), s - a = q → a ≤ s → m_fg D0 D → m_alD D s al → n_X12_ringed E l D 18 [some (g_R 208), some (g_I ((m_bits (m_rgb s c al) a : Nat) : Int)), some (g_I a)] K := by
  intro q
  induction q with
  | zero =>
    intro a D hq ha hf hal
    obtain rfl : a = s := by omega
    have h1 : D 208 14 = a := (hc.fg hf).1
    exact s_X12_ringed_18 (fun _ _ _ => ⟨fun _ => kk D hf, fun h => (by omega : False).elim⟩)
  | succ q ih =>
    intro a D hq ha hf hal
    have h1 : D 208 14 = s := (hc.fg hf).1
    refine s_X12_ringed_18 (fun _ _ _ => ⟨fun h => (by omega : False).elim, fun _ => c_X12_isRinged hs (by omega) h1 (hA.fg hf) hal (fun D' hf' _ _ => ?_)⟩)
    have ih' := ih (a + 1) D' (by omega) (by omega) (fun i hi => by rw [hf' i (by omega)]; exact hf i hi) (fun i hi => by rw [hf' 222 (by decide)]; exact hal i hi)
    rw [← g_cast1] at ih'
    refine ⟨fun h => ⟨⟨by omega, by omega⟩, ?_⟩, fun h => ⟨⟨by omega, by omega⟩, ?_⟩⟩
    · rw [g_or0 (g_b_0.mp h)] at ih'
      have hb := m_bits_lt (P := m_rgb s c al) a
      have : m_bits (m_rgb s c al) a < 2 ^ 31 := Nat.lt_of_lt_of_le hb (Nat.pow_le_pow_right (by decide) (by omega))
      rw [show g_or ((m_bits (m_rgb s c al) a : Nat) : Int) 0 = ((m_bits (m_rgb s c al) a : Nat) : Int) from by
        have := g_or_n (y := 0) this (by decide)
        rw [Nat.or_zero] at this
        exact this]
      exact ih'
    · rw [g_or1 (by omega) (g_b_n0.mp h)]; exact ih'
/-- the next one of a ring: the model looks for it -/
theorem l_X12_ring79 {K : Int → g_D → Prop} {k y M n x : Nat} {v : Int} (hs : s ≤ 20) (hk : k < s) (hy : y < s) (hA : m_ahd D s c) (hal : m_alD D s al) (hF : m_farP s c al k (D 221)) (hn : n + 1 < M) (hM : M ≤ 40) (hFy : D 221 y = ((M - n : Nat) : Int)) (hx : m_ed s c al y x ∧ m_wk (m_ed s c al) (M - n - 1) x k) (hmin : ∀ b, b < x → ¬ (m_ed s c al y b ∧ m_wk (m_ed s c al) (M - n - 1) b k))
    (kk : D 221 x = ((M - (n + 1) : Nat) : Int) → n_X12_ring E l D 70 [some (g_R 208), some (g_I k), some (g_I v), some (g_I M), some (g_I x), some (g_I ((n + 1 : Nat) : Int)), none] K) :
    ∀ q t : Nat, x - t = q → t ≤ x → n_X12_ring E l D 79 [some (g_R 208), some (g_I k), some (g_I v), some (g_I M), some (g_I y), some (g_I n), some (g_I t)] K := by
  have hxs : x < s := hx.1.2.1
  have fx : x ≠ k ∧ D 221 x = ((M - (n + 1) : Nat) : Int) := by
    have h1 := hF.2.2 y x hx.1
    have hw := hx.2
    rw [show M - n - 1 = (M - n - 2) + 1 by omega] at hw
    have h2 := hF.up hw
    constructor
    · intro q
      rw [if_pos q] at h1; omega
    · split at h1 <;> omega
  intro q
  induction q with
  | zero =>
    intro t hq ht
    obtain rfl : t = x := by omega
    have e1 : (40 * (y : Int) + t).toNat = 40 * y + t := by omega
    refine s_X12_ring_79 (fun _ _ _ _ _ _ _ => ⟨by omega, ?_⟩)
    rw [Int.toNat_natCast, e1, hal t hxs, hA y t hy hxs, fx.2, hx.1.2.2.2.1, hx.1.2.2.2.2]
    refine ⟨fun h => absurd h (by decide), fun _ => ⟨⟨by omega, by omega⟩, ⟨by omega, by omega⟩, by omega, fun h => absurd h (by decide), fun _ => ⟨fun h => ?_, fun _ => ⟨by omega, ⟨by omega, by omega⟩, ⟨by omega, by omega⟩, fun _ => ⟨⟨by omega, by omega⟩, ?_⟩, fun h => ?_⟩⟩⟩⟩
    · exact absurd (by omega) fx.1
    · rw [g_cast1]; exact kk fx.2
    · exact absurd (by omega) h
  | succ q ih =>
    intro t hq ht
    have e1 : (40 * (y : Int) + t).toNat = 40 * y + t := by omega
    have ih' := ih (t + 1) (by omega) (by omega)
    rw [← g_cast1] at ih'
    refine s_X12_ring_79 (fun _ _ _ _ _ _ _ => ⟨by omega, ?_⟩)
    rw [Int.toNat_natCast, e1, hal t (by omega), hA y t hy (by omega)]
    refine ⟨fun h => ⟨⟨by omega, by omega⟩, ih'⟩, fun h1 => ⟨⟨by omega, by omega⟩, ⟨by omega, by omega⟩, by omega, fun h => ⟨⟨by omega, by omega⟩, ih'⟩, fun h2 => ⟨fun h => ⟨⟨by omega, by omega⟩, ih'⟩, fun h3 => ⟨by omega, ⟨by omega, by omega⟩, ⟨by omega, by omega⟩, fun h4 => ?_, fun h => ⟨⟨by omega, by omega⟩, ih'⟩⟩⟩⟩⟩
    exfalso
    have hr := hF.1 t (by omega)
    obtain ⟨d, d1, d2⟩ := hF.2.1 t (by omega) (by omega)
    have hed : m_ed s c al y t := ⟨hy, by omega, hx.1.2.2.1, g_b_n0.mp h1, g_b_n0.mp h2⟩
    refine hmin t (by omega) ⟨hed, ?_⟩
    rw [show M - n - 1 = d + 1 by omega]
    exact d2
theorem l_X12_ring70 {K : Int → g_D → Prop} {k M i : Nat} (hs : s ≤ 20) (hk : k < s) (hA : m_ahd D s c) (hal : m_alD D s al) (hF : m_farP s c al k (D 221)) (hM : M ≤ 40) (hi : i < M)
    (kk : ∀ x : Nat, m_rw (m_ed s c al) k M i x → K x D) :
    ∀ q n y : Nat, i - n = q → n ≤ i → y < s → D 221 y = ((M - n : Nat) : Int) → m_rw (m_ed s c al) k M n y → n_X12_ring E l D 70 [some (g_R 208), some (g_I k), some (g_I i), some (g_I M), some (g_I y), some (g_I n), none] K := by
  intro q
  induction q with
  | zero =>
    intro n y hq hn hy hFy hr
    obtain rfl : n = i := by omega
    exact s_X12_ring_70 (fun _ _ _ _ _ _ => ⟨fun _ => kk y hr, fun h => (by omega : False).elim⟩)
  | succ q ih =>
    intro n y hq hn hy hFy hr
    obtain ⟨d, d1, x0, x1, x2⟩ := hF.2.1 y hy (by omega)
    obtain ⟨x, p1, p2, p3⟩ := m_first (P := fun b => m_ed s c al y b ∧ m_wk (m_ed s c al) (M - n - 1) b k) x0 ⟨x1, by rw [show M - n - 1 = d by omega]; exact x2⟩
    refine s_X12_ring_70 (fun _ _ _ _ _ _ => ⟨fun h => (by omega : False).elim, fun _ => ?_⟩)
    exact l_X12_ring79 hs hk hy hA hal hF (by omega) hM hFy p2 p3 (fun hfx => ih (n + 1) x (by omega) (by omega) p2.1.2.1 hfx ⟨y, hr, p2, p3⟩) x 0 rfl (Nat.zero_le _)
theorem c_X12_ringTail {K : Int → g_D → Prop} {k : Nat} {v : Int} (hs : s ≤ 20) (hk : k < s) (hv : -1 ≤ v) (hc : m_cmd D s c) (hA : m_ahd D s c)
    (kk : ∀ (D' : g_D) (ans : Int), m_fg D D' → m_ringA s c k v ans → K ans D') :
    k_X12_isAmongCopies E l D 0 (fun D4 => k_X12_isRinged E l D4 k (fun x5 D5 => g_r x5 → (¬ x5 = 0 → (0 ≤ (k : Int) ∧ (k : Int) < 40) ∧ ((¬ v = (-1) → (v < (D5 221 (k : Int).toNat) → n_X12_ring E l D5 70 [some (g_R 208), some (g_I k), some (g_I v), some (g_I (D5 221 (k : Int).toNat)), some (g_I k), some (g_I 0), none] K) ∧ (¬ v < (D5 221 (k : Int).toNat) → K (-1) D5)) ∧ (v = (-1) → K (D5 221 (k : Int).toNat) D5))) ∧ (x5 = 0 → K (-1) D5))) := by
  refine c_amongAll hs hc (fun D1 f1 hal => c_X12_isRinged hs hk (by rw [f1 208 (by decide)]; exact hc.1) (fun a b ha hb => by rw [f1 220 (by decide)]; exact hA a b ha hb) hal (fun D2 f2 hF => ?_))
  have g : m_fg D D2 := fun i hi => by rw [f2 i (by omega), f1 i (by omega)]
  have hA2 := hA.fg g
  have hal2 : m_alD D2 s (m_cp c) := fun a ha => by rw [f2 222 (by decide)]; exact hal a ha
  refine fun _ => ⟨fun h => ?_, fun h => ?_⟩
  · have hrg := m_rgb_iff.mp (g_b_n0.mp h)
    have hlt := (hF.rg (by omega) hk).mpr hrg
    have hle := hF.le hk hlt
    obtain ⟨d, d1, d2⟩ := hF.2.1 k hk hlt
    have hdl : m_dl (m_ed s c (m_cp c)) k k (d + 1) := ⟨by omega, d2, fun j hj hlt q => by
      rw [show j = (j - 1) + 1 by omega] at q
      have := hF.up q
      omega⟩
    rw [Int.toNat_natCast, d1]
    refine ⟨by omega, fun h2 => ⟨fun h3 => ?_, fun h3 => ?_⟩, fun h2 => ?_⟩
    · obtain ⟨i, rfl⟩ : ∃ i : Nat, v = i := ⟨v.toNat, by omega⟩
      refine l_X12_ring70 (M := d + 1) hs hk hA2 hal2 hF (by omega) (by omega) (fun x hx => ?_) i 0 k rfl (Nat.zero_le _) hk (by rw [d1]; omega) rfl
      exact kk D2 x g (Or.inr ⟨d + 1, hdl, Or.inr (Or.inr ⟨by omega, h3, x, rfl, by rw [Int.toNat_natCast]; exact hx⟩)⟩)
    · exact kk D2 (-1) g (Or.inr ⟨d + 1, hdl, Or.inr (Or.inl ⟨by omega, rfl⟩)⟩)
    · exact kk D2 _ g (Or.inr ⟨d + 1, hdl, Or.inl ⟨h2, rfl⟩⟩)
  · refine kk D2 (-1) g (Or.inl ⟨fun q => ?_, rfl⟩)
    have := m_rgb_iff.mpr q
    rw [this] at h
    exact absurd h (by decide)
end RINGM
