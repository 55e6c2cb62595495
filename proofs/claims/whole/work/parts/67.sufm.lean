/-! the order of suffixes -/
def m_lx (x y : Nat → Int) : Prop := ∃ r, (∀ t, t < r → x t = y t) ∧ x r < y r
theorem m_lx.at {x y : Nat → Int} {r : Nat} (h : ∀ t, t < r → x t = y t) (hr : x r ≠ y r) : m_lx x y ↔ x r < y r := by
  constructor
  · rintro ⟨s, h1, h2⟩
    rcases Nat.lt_trichotomy s r with q | rfl | q
    · have := h s q; omega
    · exact h2
    · exact absurd (h1 r q) hr
  · exact fun q => ⟨r, h, q⟩
theorem m_lx.trans {x y z : Nat → Int} (h : m_lx x y) (h2 : m_lx y z) : m_lx x z := by
  obtain ⟨r, a1, a2⟩ := h
  obtain ⟨s, b1, b2⟩ := h2
  rcases Nat.lt_trichotomy r s with q | rfl | q
  · exact ⟨r, fun t ht => (a1 t ht).trans (b1 t (by omega)), by rw [← b1 r q]; exact a2⟩
  · exact ⟨r, fun t ht => (a1 t ht).trans (b1 t ht), by omega⟩
  · exact ⟨s, fun t ht => (a1 t (by omega)).trans (b1 t ht), by rw [a1 s q]; exact b2⟩
theorem m_lx.irr {x : Nat → Int} (h : m_lx x x) : False := by
  obtain ⟨r, -, h⟩ := h
  omega
def m_e (o : Nat → Int) (n a t : Nat) : Int := if a + t < n then o (a + t) else -1
def m_co (o : Nat → Int) (n a b : Nat) : Nat := m_lcp (fun t => o (a + t)) (fun t => o (b + t)) (min (n - a) (n - b))
def m_ltb (o : Nat → Int) (n a b : Nat) : Bool := if a + m_co o n a b = n ∨ b + m_co o n a b = n then decide (b < a) else decide (o (a + m_co o n a b) < o (b + m_co o n a b))
theorem m_ltb_iff {o : Nat → Int} {n a b : Nat} (hb : ∀ i, i < n → 0 ≤ o i) (ha : a < n) (hb2 : b < n) (hne : a ≠ b) : m_ltb o n a b = true ↔ m_lx (m_e o n a) (m_e o n b) := by
  obtain ⟨h1, h2, h3⟩ := m_lcp_L (min (n - a) (n - b)) (fun t => o (a + t)) (fun t => o (b + t))
  unfold m_ltb
  have hdef : m_lcp (fun t => o (a + t)) (fun t => o (b + t)) (min (n - a) (n - b)) = m_co o n a b := rfl
  rw [hdef] at h1 h2 h3
  generalize m_co o n a b = r at *
  have heq : ∀ t, t < r → m_e o n a t = m_e o n b t := fun t ht => by
    unfold m_e
    rw [if_pos (by omega), if_pos (by omega)]
    exact h2 t ht
  by_cases hA : a + r = n
  · have e1 : m_e o n a r = -1 := by unfold m_e; rw [if_neg (by omega)]
    have e2 : m_e o n b r = o (b + r) := by unfold m_e; rw [if_pos (by omega)]
    have := hb (b + r) (by omega)
    rw [m_lx.at heq (by omega), if_pos (Or.inl hA), decide_eq_true_eq]
    omega
  · by_cases hB : b + r = n
    · have e1 : m_e o n b r = -1 := by unfold m_e; rw [if_neg (by omega)]
      have e2 : m_e o n a r = o (a + r) := by unfold m_e; rw [if_pos (by omega)]
      have := hb (a + r) (by omega)
      rw [m_lx.at heq (by omega), if_pos (Or.inr hB), decide_eq_true_eq]
      omega
    · have e1 : m_e o n b r = o (b + r) := by unfold m_e; rw [if_pos (by omega)]
      have e2 : m_e o n a r = o (a + r) := by unfold m_e; rw [if_pos (by omega)]
      have h3' : o (a + r) ≠ o (b + r) := h3 (by omega)
      rw [m_lx.at heq (by rw [e1, e2]; exact h3'), if_neg (by omega), decide_eq_true_eq, e1, e2]
theorem m_lt_tot {o : Nat → Int} {n a b : Nat} (hb : ∀ i, i < n → 0 ≤ o i) (ha : a < n) (hb2 : b < n) (hne : a ≠ b) : m_lx (m_e o n a) (m_e o n b) ∨ m_lx (m_e o n b) (m_e o n a) := by
  obtain ⟨h1, h2, h3⟩ := m_lcp_L (min (n - a) (n - b)) (fun t => o (a + t)) (fun t => o (b + t))
  generalize m_lcp (fun t => o (a + t)) (fun t => o (b + t)) (min (n - a) (n - b)) = r at *
  have heq : ∀ t, t < r → m_e o n a t = m_e o n b t := fun t ht => by
    unfold m_e
    rw [if_pos (by omega), if_pos (by omega)]
    exact h2 t ht
  have hd : m_e o n a r ≠ m_e o n b r := by
    unfold m_e
    by_cases hA : a + r < n <;> by_cases hB : b + r < n
    · rw [if_pos hA, if_pos hB]; exact h3 (by omega)
    · rw [if_pos hA, if_neg hB]; have := hb _ hA; omega
    · rw [if_neg hA, if_pos hB]; have := hb _ hB; omega
    · omega
  rcases Int.lt_or_gt_of_ne hd with q | q
  · exact Or.inl ⟨r, heq, q⟩
  · exact Or.inr ⟨r, fun t ht => (heq t ht).symm, q⟩
/-- counting -/
def m_cnt (P : Nat → Bool) : Nat → Nat
  | 0 => 0
  | F + 1 => if P F then m_cnt P F + 1 else m_cnt P F
theorem m_cnt_le {P : Nat → Bool} : ∀ F, m_cnt P F ≤ F
  | 0 => Nat.le_refl _
  | F + 1 => by have := m_cnt_le (P := P) F; rw [m_cnt]; split <;> omega
theorem m_cnt_mono {P Q : Nat → Bool} : ∀ {F : Nat}, (∀ c, c < F → P c = true → Q c = true) → m_cnt P F ≤ m_cnt Q F
  | 0, _ => Nat.le_refl _
  | F + 1, h => by
    have := m_cnt_mono (F := F) (fun c hc => h c (by omega))
    have h2 := h F (by omega)
    rw [m_cnt, m_cnt]
    split
    · rw [if_pos (h2 (by assumption))]; omega
    · split <;> omega
theorem m_cnt_lt {P Q : Nat → Bool} : ∀ {F c0 : Nat}, (∀ c, c < F → P c = true → Q c = true) → c0 < F → P c0 = false → Q c0 = true → m_cnt P F < m_cnt Q F
  | 0, c0, _, h0, _, _ => absurd h0 (Nat.not_lt_zero c0)
  | F + 1, c0, h, h0, hp, hq => by
    rw [m_cnt, m_cnt]
    rcases Nat.lt_succ_iff_lt_or_eq.mp h0 with h1 | rfl
    · have := m_cnt_lt (F := F) (fun c hc => h c (by omega)) h1 hp hq
      have h2 := h F (by omega)
      split
      · rw [if_pos (h2 (by assumption))]; omega
      · split <;> omega
    · have := m_cnt_mono (F := c0) (P := P) (Q := Q) (fun c hc => h c (by omega))
      rw [hp, hq]
      simp
      omega
/-- an injection of the first n numbers into themselves reaches all -/
theorem m_surj : ∀ (n : Nat) (f : Nat → Nat), (∀ a, a < n → f a < n) → (∀ a b, a < n → b < n → f a = f b → a = b) → ∀ i, i < n → ∃ a, a < n ∧ f a = i
  | 0, _, _, _, i, h => absurd h (Nat.not_lt_zero i)
  | n + 1, f, hf, hinj, i, hi => by
    by_cases hin : i = f n
    · exact ⟨n, by omega, hin.symm⟩
    · have key := m_surj n (fun a => if f a = n then f n else f a) (fun a ha => by
          have h1 := hf a (by omega)
          have h2 := hf n (by omega)
          split
          · rename_i h
            have : f n ≠ n := fun q => by have := hinj a n (by omega) (by omega) (by omega); omega
            omega
          · omega) (fun a b ha hb hab => by
          split at hab <;> split at hab
          · exact hinj a b (by omega) (by omega) (by omega)
          · have := hinj n b (by omega) (by omega) hab; omega
          · have := hinj a n (by omega) (by omega) hab; omega
          · exact hinj a b (by omega) (by omega) hab)
      by_cases hn : i = n
      · by_cases hfn : f n = n
        · omega
        · obtain ⟨a, h1, h2⟩ := key (f n) (by have := hf n (by omega); omega)
          split at h2
          · exact ⟨a, by omega, by omega⟩
          · have := hinj a n (by omega) (by omega) h2; omega
      · obtain ⟨a, h1, h2⟩ := key i (by omega)
        split at h2
        · omega
        · exact ⟨a, by omega, h2⟩
/-- the place of a suffix in the order -/
def m_rk (o : Nat → Int) (n a : Nat) : Nat := m_cnt (fun b => decide (b ≠ a) && m_ltb o n b a) n
theorem m_rk_lt {o : Nat → Int} {n a b : Nat} (hb : ∀ i, i < n → 0 ≤ o i) (ha : a < n) (hb2 : b < n) (h : m_lx (m_e o n a) (m_e o n b)) : m_rk o n a < m_rk o n b := by
  have hne : a ≠ b := fun q => by subst q; exact h.irr
  refine m_cnt_lt (c0 := a) (fun c hc hP => ?_) ha (by simp) ?_
  · simp only [Bool.and_eq_true, decide_eq_true_eq] at hP ⊢
    have hca := (m_ltb_iff hb hc ha hP.1).mp hP.2
    have hcb := hca.trans h
    have hne2 : c ≠ b := fun q => by subst q; exact hcb.irr
    exact ⟨hne2, (m_ltb_iff hb hc hb2 hne2).mpr hcb⟩
  · simp only [Bool.and_eq_true, decide_eq_true_eq]
    exact ⟨hne, (m_ltb_iff hb ha hb2 hne).mpr h⟩
theorem m_rk_in {o : Nat → Int} {n a : Nat} (ha : a < n) : m_rk o n a < n := by
  have h : m_rk o n a < m_cnt (fun _ => true) n := m_cnt_lt (c0 := a) (fun _ _ _ => rfl) ha (by simp) rfl
  exact Nat.lt_of_lt_of_le h (m_cnt_le n)
theorem m_rk_inj {o : Nat → Int} {n a b : Nat} (hb : ∀ i, i < n → 0 ≤ o i) (ha : a < n) (hb2 : b < n) (h : m_rk o n a = m_rk o n b) : a = b := by
  by_cases hne : a = b
  · exact hne
  · rcases m_lt_tot hb ha hb2 hne with q | q
    · have := m_rk_lt hb ha hb2 q; omega
    · have := m_rk_lt hb hb2 ha q; omega
theorem m_rk_surj {o : Nat → Int} {n i : Nat} (hb : ∀ i, i < n → 0 ≤ o i) (hi : i < n) : ∃ a, a < n ∧ m_rk o n a = i := m_surj n (m_rk o n) (fun _ h => m_rk_in h) (fun _ _ h1 h2 h3 => m_rk_inj hb h1 h2 h3) i hi
/-- a row of suffixes in their order -/
theorem m_sorted_rk {o : Nat → Int} {n : Nat} {f : Nat → Nat} (hb : ∀ i, i < n → 0 ≤ o i) (h1 : ∀ i, i < n → f i < n) (h2 : ∀ i, i + 1 < n → m_lx (m_e o n (f i)) (m_e o n (f (i + 1)))) : ∀ i, i < n → m_rk o n (f i) = i := by
  have lo : ∀ i, i < n → i ≤ m_rk o n (f i) := by
    intro i
    induction i with
    | zero => exact fun _ => Nat.zero_le _
    | succ i ih =>
      intro hi
      have := ih (by omega)
      have := m_rk_lt hb (h1 i (by omega)) (h1 (i + 1) hi) (h2 i hi)
      omega
  have hi : ∀ d i, i + d + 1 = n → m_rk o n (f i) ≤ i := by
    intro d
    induction d with
    | zero =>
      intro i hd
      have := m_rk_in (o := o) (h1 i (by omega))
      omega
    | succ d ih =>
      intro i hd
      have := ih (i + 1) (by omega)
      have := m_rk_lt hb (h1 i (by omega)) (h1 (i + 1) (by omega)) (h2 i (by omega))
      omega
  intro i h
  have := lo i h
  have := hi (n - 1 - i) i (by omega)
  omega
