def m_old (D : g_D) (o : Nat → Int) (n : Nat) : Prop := D 209 0 = n ∧ n ≤ 40 ∧ ∀ i, i < n → D 209 (6 + i) = o i
theorem m_img.old {D : g_D} {o w : Nat → Int} {n m : Nat} (h : m_img D o n w m) : m_old D o n := ⟨h.1, h.2.1, h.2.2.2.2.1⟩
theorem m_old.fr {D D' : g_D} {o : Nat → Int} {n : Nat} (h : m_old D o n) (h2 : D' 209 = D 209) : m_old D' o n := by unfold m_old at *; rw [h2]; exact h
/-- the class's suffixes are in order -/
def x_suf (D : g_D) (o : Nat → Int) (n : Nat) : Prop := D 134 2 = n ∧ ∃ f : Nat → Nat, (∀ i, i < n → D 135 i = f i ∧ f i < n) ∧ (∀ i, i + 1 < n → m_lx (m_e o n (f i)) (m_e o n (f (i + 1)))) ∧ (∀ i, i + 1 < n → D 136 i = m_co o n (f i) (f (i + 1)))
section SUF
variable {E : g_E} {l : Launch} {sh : List g_Sh} {D : g_D} {o : Nat → Int} {n : Nat}
theorem c_com {K : Int → g_D → Prop} {a b : Nat} (hM : m_old D o n) (ha : a ≤ 40) (hb : b ≤ 40) (k : K (m_co o n a b) D) : k_X12_common E l D a b K := by
  obtain ⟨h1, h2, h3⟩ := hM
  refine c_X12_common h1 h2 ha hb ?_
  have e : m_lcp (fun t => D 209 (6 + a + t)) (fun t => D 209 (6 + b + t)) (min (n - a) (n - b)) = m_co o n a b := by
    refine m_lcp_congr (fun t ht => ⟨?_, ?_⟩)
    · rw [Nat.add_assoc]; exact h3 (a + t) (by omega)
    · rw [Nat.add_assoc]; exact h3 (b + t) (by omega)
  rw [e]
  exact k
theorem m_co_le {a b : Nat} : m_co o n a b ≤ min (n - a) (n - b) := (m_lcp_L _ _ _).1
theorem c_ahead {K : Int → g_D → Prop} {a b : Nat} (hM : m_old D o n) (ha : a < n) (hb : b < n) (k : K (if m_ltb o n a b then 1 else 0) D) : k_X12_isAheadSuffix E l D a b K := by
  have hM' := hM
  obtain ⟨h1, h2, h3⟩ := hM
  refine c_X12_isAheadSuffix h1 h2 ha hb (fun r hr => ?_)
  have e : m_lcp (fun t => D 209 (6 + a + t)) (fun t => D 209 (6 + b + t)) (min (n - a) (n - b)) = m_co o n a b := by
    refine m_lcp_congr (fun t ht => ⟨?_, ?_⟩)
    · rw [Nat.add_assoc]; exact h3 (a + t) (by omega)
    · rw [Nat.add_assoc]; exact h3 (b + t) (by omega)
  rw [e] at hr
  have hle : m_co o n a b ≤ min (n - a) (n - b) := m_co_le
  unfold m_ltb at k
  rw [← hr] at k hle
  by_cases hc : a + r = n ∨ b + r = n
  · rw [if_pos hc] at k ⊢
    by_cases hd : b < a
    · simpa [hd] using k
    · simpa [hd] using k
  · rw [if_neg hc] at k ⊢
    have e1 : D 209 (6 + a + r) = o (a + r) := by rw [Nat.add_assoc]; exact h3 _ (by omega)
    have e2 : D 209 (6 + b + r) = o (b + r) := by rw [Nat.add_assoc]; exact h3 _ (by omega)
    rw [e1, e2]
    by_cases hd : o (a + r) < o (b + r)
    · simpa [hd] using k
    · simpa [hd] using k
theorem l_X12_laysSuffixes {K : g_D → Prop} {D0 : g_D} (hM : m_old D0 o n) (hb : ∀ i, i < n → 0 ≤ o i) (kk : ∀ D' : g_D, (∀ k, k ≠ 213 → D' k = D0 k) → (∀ a : Nat, a < n → D' 213 (m_rk o n a) = (a : Int)) → K D') :
    ∀ (q A : Nat) (D : g_D), n - A = q → A ≤ n → (∀ k, k ≠ 213 → D k = D0 k) → (∀ a : Nat, a < A → D 213 (m_rk o n a) = (a : Int)) → n_X12_laysSuffixes E l D 2 [some (g_R 208), some (g_I A), none, none] K := by
  have h40 := hM.2.1
  intro q
  induction q with
  | zero =>
    intro A D hq hA hf hx
    obtain rfl : A = n := by omega
    have hn : D 209 0 = A := by rw [hf 209 (by decide)]; exact hM.1
    exact s_X12_laysSuffixes_2 (fun _ _ => ⟨fun _ => kk D hf hx, fun h => (by omega : False).elim⟩)
  | succ q ih =>
    intro A D hq hA hf hx
    have hn : D 209 0 = n := by rw [hf 209 (by decide)]; exact hM.1
    have hM' : m_old D o n := hM.fr (hf 209 (by decide))
    have ih' := fun D => ih (A + 1) D (by omega) (by omega)
    simp only [← g_cast1] at ih'
    have inner : ∀ (p F : Nat), n - F = p → F ≤ n → n_X12_laysSuffixes E l D 16 [some (g_R 208), some (g_I A), some (g_I (m_cnt (fun b => decide (b ≠ A) && m_ltb o n b A) F)), some (g_I F)] K := by
      intro p
      induction p with
      | zero =>
        intro F hp hF
        obtain rfl : F = n := by omega
        have hrk : m_cnt (fun b => decide (b ≠ A) && m_ltb o F b A) F = m_rk o F A := rfl
        have hin : m_rk o F A < F := m_rk_in (by omega)
        rw [hrk]
        refine s_X12_laysSuffixes_16 (fun _ _ _ _ => ⟨fun _ => ⟨by omega, fun D1 hD1 => ⟨⟨by omega, by omega⟩, ih' D1 (fun k hk => ?_) (fun a ha => ?_)⟩⟩, fun h => (by omega : False).elim⟩)
        · rw [hD1, g_up_ne hk]; exact hf k hk
        · rw [hD1, Int.toNat_natCast]
          rcases Nat.lt_succ_iff_lt_or_eq.mp ha with h | rfl
          · rw [g_up_at (fun q => by have := m_rk_inj hb (by omega) (by omega) q; omega)]; exact hx a h
          · rw [g_up_eq]
      | succ p ihp =>
        intro F hp hF
        have ihp' := ihp (F + 1) (by omega) (by omega)
        rw [m_cnt, ← g_cast1] at ihp'
        have hc := m_cnt_le (P := fun b => decide (b ≠ A) && m_ltb o n b A) F
        refine s_X12_laysSuffixes_16 (fun _ _ _ _ => ⟨fun h => (by omega : False).elim, fun _ => ⟨fun h => ⟨⟨by omega, by omega⟩, ⟨by omega, by omega⟩, ?_⟩, fun h => c_ahead hM' (by omega) (by omega) (fun _ => ⟨fun h2 => ⟨⟨by omega, by omega⟩, ⟨by omega, by omega⟩, ?_⟩, fun h2 => ⟨⟨by omega, by omega⟩, ⟨by omega, by omega⟩, ?_⟩⟩)⟩⟩)
        · rw [if_neg (by simp; intro q; omega)] at ihp'
          rw [Int.add_zero]; exact ihp'
        · rw [if_neg (by simp; intro _; split at h2 <;> simp_all)] at ihp'
          rw [Int.add_zero]; exact ihp'
        · have hF' : F ≠ A := by omega
          rw [if_pos (by simp [hF']; split at h2 <;> simp_all)] at ihp'
          rw [g_cast1 (m_cnt _ F)]; exact ihp'
    exact s_X12_laysSuffixes_2 (fun _ _ => ⟨fun h => (by omega : False).elim, fun _ => inner n 0 rfl (Nat.zero_le _)⟩)
theorem c_X12_laysSuffixes {K : g_D → Prop} (hM : m_old D o n) (hb : ∀ i, i < n → 0 ≤ o i) (kk : ∀ D' : g_D, (∀ k, k ≠ 213 → D' k = D k) → (∀ a : Nat, a < n → D' 213 (m_rk o n a) = (a : Int)) → K D') : k_X12_laysSuffixes E l D K :=
  s_X12_laysSuffixes (fun _ => l_X12_laysSuffixes hM hb kk n 0 D rfl (Nat.zero_le _) (fun _ _ => rfl) (fun a h => absurd h (Nat.not_lt_zero a)))
/-- the model: promises 7 and 8 -/
def m_fr (D D' : g_D) : Prop := (∀ k, k < 208 ∨ (209 ≤ k ∧ k ≤ 212) → D' k = D k) ∧ ∀ j, (j = 5 ∨ j = 40 ∨ j = 41) → D' 208 j = D 208 j
theorem c_X12_suffix {K : Int → g_D → Prop} {v : Int} (hM : m_old D o n) (hb : ∀ i, i < n → 0 ≤ o i) (k0 : ¬ (0 ≤ v ∧ v < n) → ∀ D', m_fr D D' → K (-1) D') (k1 : 0 ≤ v → ∀ a : Nat, a < n → m_rk o n a = v.toNat → ∀ D', m_fr D D' → K a D') : k_X12_suffix E l D v K := by
  have hn := hM.1
  have h40 := hM.2.1
  refine s_X12_suffix (fun _ _ D1 hD1 => ⟨⟨by omega, by omega⟩, c_X12_within ⟨fun h1 _ => ⟨fun _ => ?_, fun h => (by omega : False).elim⟩, fun h1 _ => ⟨fun h => (by omega : False).elim, fun _ => k0 (by omega) D1 ?_⟩⟩⟩)
  · have hM1 : m_old D1 o n := hM.fr (by rw [hD1, g_up_ne (by decide)])
    refine c_X12_laysSuffixes hM1 hb (fun D2 hf hx => ⟨by omega, ?_⟩)
    obtain ⟨a, ha, hr⟩ := m_rk_surj (i := v.toNat) hb (by omega)
    rw [← hr, hx a ha]
    refine k1 h1.1 a ha hr D2 ⟨fun k hk => ?_, fun j hj => ?_⟩
    · rw [hf k (by omega), hD1, g_up_ne (by omega)]
    · rw [hf 208 (by decide), hD1, g_up_at (by omega)]
  · rw [hD1]; exact ⟨fun k hk => by rw [g_up_ne (by omega)], fun j hj => by rw [g_up_at (by omega)]⟩
theorem c_X12_shared {K : Int → g_D → Prop} {v : Int} (hM : m_old D o n) (hb : ∀ i, i < n → 0 ≤ o i) (k0 : ¬ (0 ≤ v ∧ v + 1 < n) → ∀ D', m_fr D D' → K (-1) D') (k1 : 0 ≤ v → ∀ a b : Nat, a < n → b < n → m_rk o n a = v.toNat → m_rk o n b = v.toNat + 1 → ∀ D', m_fr D D' → K (m_co o n a b) D') : k_X12_shared E l D v K := by
  have hn := hM.1
  have h40 := hM.2.1
  refine s_X12_shared (fun _ _ D1 hD1 => ⟨⟨by omega, by omega⟩, c_X12_within ⟨fun h1 _ => ⟨fun _ => ?_, fun h => (by omega : False).elim⟩, fun h1 _ => ⟨fun h => (by omega : False).elim, fun _ => k0 (by omega) D1 ?_⟩⟩⟩)
  · have hM1 : m_old D1 o n := hM.fr (by rw [hD1, g_up_ne (by decide)])
    refine c_X12_laysSuffixes hM1 hb (fun D2 hf hx => ⟨by omega, ⟨by omega, by omega⟩, by omega, ?_⟩)
    have hM2 : m_old D2 o n := hM1.fr (hf 209 (by decide))
    obtain ⟨a, ha, hr⟩ := m_rk_surj (i := v.toNat) hb (by omega)
    obtain ⟨b, hb2, hr2⟩ := m_rk_surj (i := v.toNat + 1) hb (by omega)
    have e2 : (v + 1).toNat = v.toNat + 1 := by omega
    rw [e2, ← hr2, hx b hb2, ← hr, hx a ha]
    refine c_com hM2 (by omega) (by omega) (fun _ => k1 h1.1 a b ha hb2 hr hr2 D2 ⟨fun k hk => ?_, fun j hj => ?_⟩)
    · rw [hf k (by omega), hD1, g_up_ne (by omega)]
    · rw [hf 208 (by decide), hD1, g_up_at (by omega)]
  · rw [hD1]; exact ⟨fun k hk => by rw [g_up_ne (by omega)], fun j hj => by rw [g_up_at (by omega)]⟩
end SUF
