section TAPE
variable {E : g_E} {l : Launch} {sh : List g_Sh} {D : g_D} {T : Nat → Int} {t : Nat}
/-- nothing but THE TAPE of the model, and what was thrown -/
def m_ft (D D' : g_D) : Prop := (∀ k, k ≠ 208 → k ≠ 212 → D' k = D k) ∧ ∀ j, j ≠ 0 → j ≠ 5 → D' 208 j = D 208 j
theorem l_X12_feed {K : Int → g_D → Prop} {a b c d e : Int} {D0 : g_D} (hc : ∀ i, i < t → D0 212 i = T i) (h20 : t + 20 ≤ 160) (kk : ∀ D' : g_D, m_ft D0 D' → m_tape D' (m_fed T t a b c d e) (t + 20) → K ((t + 20 : Nat) : Int) D') :
    ∀ (p q : Nat) (D : g_D), 20 - q = p → q ≤ 20 → m_ft D0 D → D 208 5 = ((t + q : Nat) : Int) → (∀ i, i < t + q → D 212 i = m_fed T t a b c d e i) → n_X12_feed E l D 24 [some (g_R 208), some (g_I a), some (g_I b), some (g_I c), some (g_I d), some (g_I e), some (g_I q), none] K := by
  intro p
  induction p with
  | zero =>
    intro q D hp hq a1 a2 a3
    obtain rfl : q = 20 := by omega
    exact s_X12_feed_24 (fun _ _ _ _ _ _ _ => ⟨fun _ => by rw [a2]; exact kk D a1 ⟨a2, h20, a3⟩, fun h => (by omega : False).elim⟩)
  | succ p ih =>
    intro q D hp hq a1 a2 a3
    have go : ∀ (v : Int), m_five a b c d e q = v → 0 ≤ (q : Int) ∧ g_r (8 * ((q : Int) % 4)) ∧ g_r (24 - 8 * ((q : Int) % 4)) ∧ (0 ≤ D 208 5 ∧ D 208 5 < 160) ∧ ∀ D1, D1 = g_up D 212 (D 208 5).toNat (g_and (g_shr v (24 - 8 * ((q : Int) % 4))) 255) → g_r (D 208 5 + 1) ∧ ∀ D2, D2 = g_up D1 208 5 (D 208 5 + 1) → g_r ((q : Int) + 1) ∧ n_X12_feed E l D2 24 [some (g_R 208), some (g_I a), some (g_I b), some (g_I c), some (g_I d), some (g_I e), some (g_I ((q : Int) + 1)), none] K := by
      intro v hv
      refine ⟨by omega, ⟨by omega, by omega⟩, ⟨by omega, by omega⟩, by omega, fun D1 hD1 => ⟨⟨by omega, by omega⟩, fun D2 hD2 => ⟨⟨by omega, by omega⟩, ?_⟩⟩⟩
      rw [g_cast1]
      rw [a2, Int.toNat_natCast] at hD1
      refine ih (q + 1) D2 (by omega) (by omega) ⟨fun k b1 b2 => ?_, fun j b1 b2 => ?_⟩ ?_ (fun i hi => ?_)
      · rw [hD2, g_up_ne b1, hD1, g_up_ne b2]; exact a1.1 k b1 b2
      · rw [hD2, g_up_at b2, hD1, g_up_ne (by decide)]; exact a1.2 j b1 b2
      · rw [hD2, g_up_eq, a2]; omega
      · rw [hD2, g_up_ne (by decide), hD1]
        by_cases h : i = t + q
        · rw [h, g_up_eq]
          unfold m_fed
          rw [if_neg (by omega), show t + q - t = q by omega, hv]
          unfold m_wb
          have e8 : (24 - 8 * ((q : Int) % 4)) = ((24 - 8 * (q % 4) : Nat) : Int) := by omega
          rw [e8]
          exact g_byte (by omega)
        · rw [g_up_at h]; exact a3 i (by omega)
    refine s_X12_feed_24 (fun _ _ _ _ _ _ _ => ⟨fun h => (by omega : False).elim, fun _ => ⟨fun h1 => ⟨fun h2 => ⟨fun h3 => ⟨fun h4 => go e ?_, fun h4 => go d ?_⟩, fun h3 => go c ?_⟩, fun h2 => go b ?_⟩, fun h1 => go a ?_⟩⟩)
    · unfold m_five; rw [if_neg (by omega), if_neg (by omega), if_neg (by omega), if_neg (by omega)]
    · unfold m_five; rw [if_neg (by omega), if_neg (by omega), if_neg (by omega), if_pos (by omega)]
    · unfold m_five; rw [if_neg (by omega), if_neg (by omega), if_pos (by omega)]
    · unfold m_five; rw [if_neg (by omega), if_pos (by omega)]
    · unfold m_five; rw [if_pos (by omega)]
theorem c_X12_feed {K : Int → g_D → Prop} {a b c d e : Int} (hT : m_tape D T t) (k0 : ¬ t + 20 ≤ 160 → K (-5) (g_up D 208 0 0)) (k1 : t + 20 ≤ 160 → ∀ D' : g_D, m_ft D D' → m_tape D' (m_fed T t a b c d e) (t + 20) → K ((t + 20 : Nat) : Int) D') : k_X12_feed E l D a b c d e K := by
  obtain ⟨hn, h160, hc⟩ := hT
  refine s_X12_feed (fun _ _ _ _ _ _ D1 hD1 => ⟨⟨by omega, by omega⟩, fun h => ?_, fun h => by rw [hD1]; exact k0 (by omega)⟩)
  have f1 : m_ft D D1 := ⟨fun k b1 b2 => by rw [hD1, g_up_ne b1], fun j b1 b2 => by rw [hD1, g_up_at b1]⟩
  refine l_X12_feed (t := t) (T := T) (D0 := D) hc (by omega) (k1 (by omega)) 20 0 D1 rfl (Nat.zero_le _) f1 ?_ (fun i hi => ?_)
  · rw [hD1, g_up_at (by decide)]; exact hn
  · unfold m_fed
    rw [if_pos (by omega), hD1, g_up_ne (by decide)]; exact hc i (by omega)
/-- cells are taken off THE TAPE: the model -/
theorem l_X12_takesCells {K : Int → g_D → Prop} {n many at0 : Nat} {D0 : g_D} (h40 : n ≤ 40) (hat : at0 ≤ 1000) (hmany : many < 1000) (kk : ∀ D' : g_D, (∀ k, k ≠ 208 → k ≠ 209 → D' k = D0 k) → (∀ j, j ≠ 5 → D' 208 j = D0 208 j) → D' 208 5 = 0 → (∀ j, D' 209 j = if j = many then (n : Int) else if at0 ≤ j ∧ j < at0 + 40 then (if j - at0 < n then D0 212 (j - at0) else 0) else D0 209 j) → K n D') :
    ∀ (p i : Nat) (D : g_D), 40 - i = p → i ≤ 40 → (∀ k, k ≠ 209 → D k = D0 k) → (∀ j, D 209 j = if at0 ≤ j ∧ j < at0 + i then (if j - at0 < n then D0 212 (j - at0) else 0) else D0 209 j) → n_X12_takesCells E l D 26 [some (g_R 208), some (g_I n), some (g_I many), some (g_I at0), some (g_I i)] K := by
  intro p
  induction p with
  | zero =>
    intro i D hp hi f h
    obtain rfl : i = 40 := by omega
    refine s_X12_takesCells_26 (fun _ _ _ _ _ => ⟨fun _ => ⟨by omega, fun D1 hD1 D2 hD2 => kk D2 (fun k b1 b2 => ?_) (fun j hj => ?_) ?_ (fun j => ?_)⟩, fun q => (by omega : False).elim⟩)
    · rw [hD2, g_up_ne b1, hD1, g_up_ne b2]; exact f k b2
    · rw [hD2, g_up_at hj, hD1, g_up_ne (by decide)]; rw [f 208 (by decide)]
    · rw [hD2, g_up_eq]
    · rw [hD2, g_up_ne (by decide), hD1, Int.toNat_natCast]
      by_cases hj : j = many
      · rw [hj, g_up_eq, if_pos rfl]
      · rw [g_up_at hj, if_neg hj]; exact h j
  | succ p ih =>
    intro i D hp hi f h
    have e1 : ((at0 : Int) + i).toNat = at0 + i := by omega
    have st : ∀ (v : Int) (D3 : g_D), v = (if i < n then D0 212 i else 0) → D3 = g_up D 209 (at0 + i) v → n_X12_takesCells E l D3 26 [some (g_R 208), some (g_I n), some (g_I many), some (g_I at0), some (g_I ((i : Int) + 1))] K := by
      intro v D3 hv hD3
      rw [g_cast1]
      refine ih (i + 1) D3 (by omega) (by omega) (fun k hk => by rw [hD3, g_up_ne hk]; exact f k hk) (fun j => ?_)
      rw [hD3]
      by_cases hj : j = at0 + i
      · rw [hj, g_up_eq, if_pos (by omega), show at0 + i - at0 = i by omega]; exact hv
      · rw [g_up_at hj, h j]
        by_cases hj2 : at0 ≤ j ∧ j < at0 + i
        · rw [if_pos hj2, if_pos (show at0 ≤ j ∧ j < at0 + (i + 1) by omega)]
        · rw [if_neg hj2, if_neg (show ¬ (at0 ≤ j ∧ j < at0 + (i + 1)) by omega)]
    refine s_X12_takesCells_26 (fun _ _ _ _ _ => ⟨fun q => (by omega : False).elim, fun _ => ⟨⟨by omega, by omega⟩, fun q => ⟨by omega, fun D3 hD3 => ⟨⟨by omega, by omega⟩, ?_⟩⟩, fun q => ⟨by omega, by omega, fun D4 hD4 => ⟨⟨by omega, by omega⟩, ?_⟩⟩⟩⟩)
    · rw [e1] at hD3
      exact st 0 D3 (by rw [if_neg (by omega)]) hD3
    · rw [e1, Int.toNat_natCast] at hD4
      exact st _ D4 (by rw [if_pos (by omega), f 212 (by decide)]) hD4
theorem c_X12_takesCells {K : Int → g_D → Prop} {v : Int} {many at0 : Nat} (hT : m_tape D T t) (hat : at0 ≤ 1000) (hmany : many < 1000) (k0 : ¬ (0 ≤ v ∧ v ≤ 40 ∧ v ≤ t) → K (-3) D)
    (k1 : ∀ n : Nat, v = n → n ≤ 40 → n ≤ t → ∀ D' : g_D, (∀ k, k ≠ 208 → k ≠ 209 → D' k = D k) → (∀ j, j ≠ 5 → D' 208 j = D 208 j) → D' 208 5 = 0 → (∀ j, D' 209 j = if j = many then (n : Int) else if at0 ≤ j ∧ j < at0 + 40 then (if j - at0 < n then T (j - at0) else 0) else D 209 j) → K n D') : k_X12_takesCells E l D v many at0 K := by
  obtain ⟨hn, h160, hc⟩ := hT
  refine s_X12_takesCells (fun _ _ _ _ => c_X12_within ⟨fun h1 _ => ⟨fun q => (by omega : False).elim, fun _ => ⟨fun h2 => ?_, fun h2 => k0 (by omega)⟩⟩, fun h1 _ => ⟨fun _ => k0 (by omega), fun q => (by omega : False).elim⟩⟩)
  obtain ⟨n, rfl⟩ : ∃ n : Nat, v = n := ⟨v.toNat, by omega⟩
  refine l_X12_takesCells (D0 := D) (by omega) hat hmany (fun D' a1 a2 a3 a4 => k1 n rfl (by omega) (by omega) D' a1 a2 a3 (fun j => ?_)) 40 0 D rfl (Nat.zero_le _) (fun _ _ => rfl) (fun j => by rw [if_neg (by omega)])
  rw [a4 j]
  by_cases h1 : j = many
  · rw [if_pos h1, if_pos h1]
  · rw [if_neg h1, if_neg h1]
    by_cases h2 : at0 ≤ j ∧ j < at0 + 40
    · rw [if_pos h2, if_pos h2]
      by_cases h3 : j - at0 < n
      · rw [if_pos h3, if_pos h3]; exact hc _ (by omega)
      · rw [if_neg h3, if_neg h3]
    · rw [if_neg h2, if_neg h2]
/-- the class -/
theorem c_X0_copyFirst {K : g_D → Prop} {k r nk nr n s : Nat} {c : Nat → Int} (hk : is_Cells sh k nk) (hr : is_Cells sh r nr) (hs : D r 1 = s) (hs2 : s ≤ nr) (hn : n ≤ s) (hnk : n ≤ nk) (h1000 : nk ≤ 1000 ∧ nr ≤ 1000) (hne : k ≠ r ∧ k ≠ r + 1 ∧ r ≠ k + 1) (hc : ∀ i, i < n → D (r + 1) i = c i) (kk : ∀ D' : g_D, (∀ i, i ≠ k → i ≠ k + 1 → D' i = D i) → D' k 1 = n → (∀ j, j ≠ 1 → D' k j = D k j) → (∀ i, i < n → D' (k + 1) i = c i) → (∀ i, n ≤ i → D' (k + 1) i = D (k + 1) i) → K D') : k_X0_copyFirst E l sh D k r n K := by
  refine s_X0_copyFirst hk hr (fun _ _ => ⟨by omega, fun D1 hD1 => ?_⟩)
  have e : max (0 : Int) (min (n : Int) (min (nk : Int) (D r 1))) = n := by omega
  rw [e] at hD1
  have e1 : D1 k 1 = n := by rw [hD1, g_up_eq]
  refine ⟨by omega, fun D2 hD2 => ?_⟩
  rw [e1, Int.toNat_natCast] at hD2
  refine kk D2 (fun i a b => ?_) ?_ (fun j hj => ?_) (fun i hi => ?_) (fun i hi => ?_)
  · rw [hD2, g_cpy, g_row_ne b, hD1, g_up_ne a]
  · rw [hD2, g_cpy, g_row_ne (by omega)]; exact e1
  · rw [hD2, g_cpy, g_row_ne (by omega), hD1, g_up_at hj]
  · rw [hD2, g_cpy, g_row_eq]
    rw [if_pos (by omega), hD1, g_up_ne (by omega)]
    simp only [Nat.zero_add, Nat.sub_zero]
    exact hc i hi
  · rw [hD2, g_cpy, g_row_eq]
    rw [if_neg (by omega), hD1, g_up_ne (by omega)]
theorem c_X11_takeCells {K : Int → g_D → Prop} {v : Int} {k : Nat} (hT : x_tape D T t) (hk : is_Cells g_SH k 40) (hkk : k < 40) (hk0 : k ≠ 0) (k0 : ¬ (0 ≤ v ∧ v ≤ 40 ∧ v ≤ t) → K (-3) D)
    (k1 : ∀ n : Nat, v = n → n ≤ 40 → n ≤ t → ∀ D' : g_D, (∀ i, i ≠ 0 → i ≠ k → i ≠ k + 1 → i ≠ 45 → D' i = D i) → (∀ j, j ≠ 13 → j ≠ 14 → D' 0 j = D 0 j) → D' 0 13 = 1 → D' 0 14 = 1 → D' 45 1 = 0 → x_cl D' k T n → K n D') : k_X11_takeCells E l D k v K := by
  obtain ⟨hn, h160, hc⟩ := hT
  refine s_X11_takeCells hk (fun _ _ => ⟨fun h => k0 (by omega), fun h => ⟨fun h2 => k0 (by omega), fun h2 => ⟨fun h3 => ?_, fun h3 => k0 (by omega)⟩⟩⟩)
  obtain ⟨n, rfl⟩ : ∃ n : Nat, v = n := ⟨v.toNat, by omega⟩
  refine c_X0_copyFirst hk ip_Cells_45 hn h160 (by omega) (by omega) (by omega) (by omega) (fun i hi => hc i (by omega)) (fun D1 a1 a2 a3 a4 _ D2 hD2 D3 hD3 D4 hD4 => k1 n rfl (by omega) (by omega) D4 (fun i b1 b2 b3 b4 => ?_) (fun j b1 b2 => ?_) ?_ ?_ ?_ ⟨?_, by omega, fun i hi => ?_⟩)
  · rw [hD4, g_up_ne b1, hD3, g_up_ne b1, hD2, g_up_ne b4]; exact a1 i b2 b3
  · rw [hD4, g_up_at b2, hD3, g_up_at b1, hD2, g_up_ne (by decide)]; rw [a1 0 (by omega) (by omega)]
  · rw [hD4, g_up_at (by decide), hD3, g_up_eq]
  · rw [hD4, g_up_eq]
  · rw [hD4, g_up_ne (by decide), hD3, g_up_ne (by decide), hD2, g_up_eq]
  · rw [hD4, g_up_ne hk0, hD3, g_up_ne hk0, hD2, g_up_ne (by omega)]; exact a2
  · rw [hD4, g_up_ne (by omega), hD3, g_up_ne (by omega), hD2, g_up_ne (by omega)]; exact a4 i hi
end TAPE
