/-- nothing but the class's suffixes is other -/
def x_f9 (D D' : g_D) : Prop := ∀ k, k ≠ 134 → k ≠ 135 → k ≠ 136 → D' k = D k
/-- a sorted row of the first i suffixes -/
def x_srt (D : g_D) (o : Nat → Int) (n i : Nat) (f : Nat → Nat) : Prop := (∀ j, j < i → D 135 j = f j ∧ f j < i) ∧ ∀ j, j + 1 < i → m_lx (m_e o n (f j)) (m_e o n (f (j + 1)))
section SUFX
variable {E : g_E} {l : Launch} {sh : List g_Sh} {D : g_D} {o : Nat → Int} {n : Nat}
theorem c_X9_isBefore {K : Int → g_D → Prop} {r a b nr : Nat} (hr : is_Cells sh r nr) (h : x_cl D r o n) (hn : n ≤ nr) (ha : a < n) (hb : b < n) (k : K (if m_ltb o n a b then 1 else 0) D) : k_X9_isBefore E l sh D r a b K := by
  have hs := h.1
  have h40 := h.2.1
  have hc := h.2.2
  refine s_X9_isBefore hr (fun _ _ _ => c_X0_alike hr hr h h hn hn (by omega) (by omega) ?_)
  have e : m_lcp (fun t => o (a + t)) (fun t => o (b + t)) (min (n - a) (n - b)) = m_co o n a b := rfl
  have hle : m_co o n a b ≤ min (n - a) (n - b) := m_co_le
  rw [e]
  have kt : m_ltb o n a b = true → K 1 D := fun q => by rw [q] at k; exact k
  have kf : m_ltb o n a b = false → K 0 D := fun q => by rw [q] at k; exact k
  unfold m_ltb at kt kf
  clear k e
  generalize m_co o n a b = x at *
  have e1 : ((a : Int) + x).toNat = a + x := by omega
  have e2 : ((b : Int) + x).toNat = b + x := by omega
  rw [e1, e2]
  refine fun _ => ⟨⟨by omega, by omega⟩, fun h1 => ?_, fun h1 => ⟨⟨by omega, by omega⟩, fun h2 => ⟨⟨by omega, by omega⟩, by omega, ⟨by omega, by omega⟩, by omega, ?_⟩, fun h2 => ?_⟩⟩
  · rw [if_pos (by omega)] at kt kf
    exact ⟨fun h2 => kf (by simp; omega), fun h2 => kt (by simp; omega)⟩
  · rw [if_neg (by omega)] at kt kf
    rw [hc _ (by omega), hc _ (by omega)]
    exact ⟨fun h3 => kf (by simp; omega), fun h3 => kt (by simp; omega)⟩
  · rw [if_pos (by omega)] at kt kf
    exact ⟨fun h2 => kf (by simp; omega), fun h2 => kt (by simp; omega)⟩
theorem l_X9_insert {K : g_D → Prop} {i : Nat} {f : Nat → Nat} {D0 : g_D} (h : x_cl D0 2 o n) (hb : ∀ i, i < n → 0 ≤ o i) (hi : i < n) (hf : ∀ j, j < i → f j < i) (hs : ∀ j, j + 1 < i → m_lx (m_e o n (f j)) (m_e o n (f (j + 1))))
    (kk : ∀ (D' : g_D) (g : Nat → Nat), (∀ k, k ≠ 135 → D' k = D0 k) → x_srt D' o n (i + 1) g → K D') : ∀ (p : Nat) (D : g_D), p ≤ i → (∀ k, k ≠ 135 → D k = D0 k) → (∀ j, j < p → D 135 j = f j) → (∀ j, p < j → j ≤ i → D 135 j = f (j - 1)) → (∀ j, p ≤ j → j < i → m_lx (m_e o n i) (m_e o n (f j))) → n_X9_insert E l D 2 [some (g_R 134), some (g_R 2), some (g_I i), some (g_I p)] K := by
  have h40 := h.2.1
  -- the end: i is put at the place p
  have fin : ∀ (p : Nat) (D : g_D), p ≤ i → (∀ k, k ≠ 135 → D k = D0 k) → (∀ j, j < p → D 135 j = f j) → (∀ j, p < j → j ≤ i → D 135 j = f (j - 1)) → (∀ j, p ≤ j → j < i → m_lx (m_e o n i) (m_e o n (f j))) → (0 < p → m_lx (m_e o n (f (p - 1))) (m_e o n i)) → ∀ D1, D1 = g_up D 135 p i → K D1 := by
    intro p D hp hfr h1 h2 h3 h4 D1 hD1
    refine kk D1 (fun j => if j < p then f j else if j = p then i else f (j - 1)) (fun k hk => by rw [hD1, g_up_ne hk]; exact hfr k hk) ⟨fun j hj => ?_, fun j hj => ?_⟩
    · dsimp only
      rcases Nat.lt_trichotomy j p with q | rfl | q
      · rw [if_pos q, hD1, g_up_at (by omega)]
        exact ⟨h1 j q, by have := hf j (by omega); omega⟩
      · rw [if_neg (by omega), if_pos rfl, hD1, g_up_eq]
        exact ⟨rfl, by omega⟩
      · rw [if_neg (by omega), if_neg (by omega), hD1, g_up_at (by omega)]
        exact ⟨h2 j q (by omega), by have := hf (j - 1) (by omega); omega⟩
    · dsimp only
      rcases Nat.lt_trichotomy (j + 1) p with q | q | q
      · rw [if_pos (by omega), if_pos q]; exact hs j (by omega)
      · rw [if_pos (by omega), if_neg (by omega), if_pos q]
        have := h4 (by omega)
        rwa [show p - 1 = j by omega] at this
      · by_cases hj2 : j = p
        · rw [if_neg (by omega), if_pos hj2, if_neg (by omega), if_neg (by omega), Nat.add_sub_cancel]
          exact h3 j (by omega) (by omega)
        · rw [if_neg (by omega), if_neg hj2, if_neg (by omega), if_neg (by omega), Nat.add_sub_cancel]
          have := hs (j - 1) (by omega)
          rwa [show j - 1 + 1 = j by omega] at this
  intro p
  induction p with
  | zero =>
    intro D hp hfr h1 h2 h3
    exact s_X9_insert_2 ip_Cells_2 (fun _ _ _ => ⟨fun _ => ⟨by omega, fun D1 hD1 => fin 0 D hp hfr h1 h2 h3 (fun q => absurd q (Nat.lt_irrefl 0)) D1 hD1⟩, fun q => (by omega : False).elim⟩)
  | succ p ih =>
    intro D hp hfr h1 h2 h3
    have h' : x_cl D 2 o n := h.fr (hfr 2 (by decide)) (hfr 3 (by decide))
    have hfp := hf p (by omega)
    have ep : (((p + 1 : Nat) : Int) - 1).toNat = p := by omega
    have ev : D 135 p = f p := h1 p (by omega)
    refine s_X9_insert_2 ip_Cells_2 (fun _ _ _ => ⟨fun q => (by omega : False).elim, fun _ => ⟨⟨by omega, by omega⟩, by omega, ?_⟩⟩)
    rw [ep, ev]
    refine c_X9_isBefore ip_Cells_2 h' h40 hi (by omega) (fun _ => ⟨fun q => ⟨by omega, fun D3 hD3 => ?_⟩, fun q => ⟨⟨by omega, by omega⟩, by omega, by omega, fun D4 hD4 => ⟨⟨by omega, by omega⟩, ?_⟩⟩⟩)
    · refine fin (p + 1) D hp hfr h1 h2 h3 (fun _ => ?_) D3 hD3
      rw [Nat.add_sub_cancel]
      rcases m_lt_tot hb hi (show f p < n by omega) (by omega) with q2 | q2
      · rw [(m_ltb_iff hb hi (show f p < n by omega) (by omega)).mpr q2] at q
        exact absurd q (by decide)
      · exact q2
    · have hlt : m_lx (m_e o n i) (m_e o n (f p)) := by
        refine (m_ltb_iff hb hi (show f p < n by omega) (by omega)).mp ?_
        by_cases hq : m_ltb o n i (f p) = true
        · exact hq
        · rw [if_neg hq] at q; exact absurd rfl q
      rw [show ((p + 1 : Nat) : Int) + (-1) = (p : Int) by omega]
      rw [Int.toNat_natCast] at hD4
      refine ih D4 (by omega) (fun k hk => by rw [hD4, g_up_ne hk]; exact hfr k hk) (fun j hj => ?_) (fun j hj hj2 => ?_) (fun j hj hj2 => ?_)
      · rw [hD4, g_up_at (by omega)]; exact h1 j (by omega)
      · by_cases hjp : j = p + 1
        · rw [hD4, hjp, g_up_eq, Nat.add_sub_cancel, ev]
        · rw [hD4, g_up_at hjp]; exact h2 j (by omega) hj2
      · by_cases hjp : j = p
        · rw [hjp]; exact hlt
        · exact h3 j (by omega) hj2
theorem c_X9_insert {K : g_D → Prop} {i : Nat} {f : Nat → Nat} (h : x_cl D 2 o n) (hb : ∀ i, i < n → 0 ≤ o i) (hi : i < n) (hs : x_srt D o n i f) (kk : ∀ (D' : g_D) (g : Nat → Nat), (∀ k, k ≠ 135 → D' k = D k) → x_srt D' o n (i + 1) g → K D') : k_X9_insert E l D 2 i K :=
  s_X9_insert ip_Cells_2 (fun _ _ => l_X9_insert h hb hi (fun j hj => (hs.1 j hj).2) hs.2 kk i D (Nat.le_refl _) (fun _ _ => rfl) (fun j hj => (hs.1 j hj).1) (fun j h1 h2 => by omega) (fun j h1 h2 => by omega))
theorem l_X9_sort {K : g_D → Prop} {D0 : g_D} (h : x_cl D0 2 o n) (hb : ∀ i, i < n → 0 ≤ o i) (kk : ∀ D' : g_D, x_f9 D0 D' → x_suf D' o n → K D') :
    ∀ (q i : Nat) (D : g_D) (f : Nat → Nat), n - i = q → i ≤ n → x_f9 D0 D → D 134 2 = n → x_srt D o n i f → n_X9_sort E l D 10 [some (g_R 134), some (g_R 2), some (g_I i)] K := by
  have h40 := h.2.1
  -- the second loop
  have lp : ∀ (f : Nat → Nat), (∀ j, j + 1 < n → m_lx (m_e o n (f j)) (m_e o n (f (j + 1)))) → ∀ (q i : Nat) (D : g_D), n - i = q → i ≤ n → x_f9 D0 D → D 134 2 = n → (∀ j, j < n → D 135 j = f j ∧ f j < n) → (∀ j, j + 1 < n → j < i → D 136 j = m_co o n (f j) (f (j + 1))) → n_X9_sort E l D 32 [some (g_R 134), some (g_R 2), some (g_I i)] K := by
    intro f hf q
    induction q with
    | zero =>
      intro i D hq hi hfr hn h1 h2
      exact s_X9_sort_32 ip_Cells_2 (fun _ _ => ⟨⟨by omega, by omega⟩, fun _ => kk D hfr ⟨hn, f, h1, hf, fun j hj => h2 j hj (by omega)⟩, fun q => (by omega : False).elim⟩)
    | succ q ih =>
      intro i D hq hi hfr hn h1 h2
      by_cases hl : i + 1 < n
      · have h' : x_cl D 2 o n := h.fr (hfr 2 (by decide) (by decide) (by decide)) (hfr 3 (by decide) (by decide) (by decide))
        have e1 : ((i : Int) + 1).toNat = i + 1 := by omega
        have ih' := fun D => ih (i + 1) D (by omega) (by omega)
        simp only [← g_cast1] at ih'
        refine s_X9_sort_32 ip_Cells_2 (fun _ _ => ⟨⟨by omega, by omega⟩, fun q => (by omega : False).elim, fun _ => ⟨by omega, ⟨by omega, by omega⟩, by omega, ?_⟩⟩)
        rw [e1, Int.toNat_natCast, (h1 i (by omega)).1, (h1 (i + 1) hl).1]
        have a1 := (h1 i (by omega)).2
        have a2 := (h1 (i + 1) hl).2
        refine c_X0_alike ip_Cells_2 ip_Cells_2 h' h' h40 h40 (by omega) (by omega) (fun _ => ⟨by omega, fun D2 hD2 => ⟨⟨by omega, by omega⟩, ih' D2 (fun k b1 b2 b3 => ?_) ?_ (fun j hj => ?_) (fun j hj hj2 => ?_)⟩⟩)
        · rw [hD2, g_up_ne b3]; exact hfr k b1 b2 b3
        · rw [hD2, g_up_ne (by decide)]; exact hn
        · rw [hD2, g_up_ne (by decide)]; exact h1 j hj
        · by_cases hji : j = i
          · rw [hD2, hji, g_up_eq]; rfl
          · rw [hD2, g_up_at hji]; exact h2 j hj (by omega)
      · exact s_X9_sort_32 ip_Cells_2 (fun _ _ => ⟨⟨by omega, by omega⟩, fun _ => kk D hfr ⟨hn, f, h1, hf, fun j hj => h2 j hj (by omega)⟩, fun q => (by omega : False).elim⟩)
  intro q
  induction q with
  | zero =>
    intro i D f hq hi hfr hn hs
    obtain rfl : i = n := by omega
    exact s_X9_sort_10 ip_Cells_2 (fun _ _ => ⟨fun _ => lp f hs.2 i 0 D rfl (Nat.zero_le _) hfr hn hs.1 (fun j _ q => absurd q (Nat.not_lt_zero j)), fun q => (by omega : False).elim⟩)
  | succ q ih =>
    intro i D f hq hi hfr hn hs
    have h' : x_cl D 2 o n := h.fr (hfr 2 (by decide) (by decide) (by decide)) (hfr 3 (by decide) (by decide) (by decide))
    refine s_X9_sort_10 ip_Cells_2 (fun _ _ => ⟨fun q => (by omega : False).elim, fun _ => c_X9_insert h' hb (by omega) hs (fun D1 g hf1 hs1 => ⟨⟨by omega, by omega⟩, ?_⟩)⟩)
    rw [g_cast1]
    exact ih (i + 1) D1 g (by omega) (by omega) (fun k b1 b2 b3 => by rw [hf1 k b2]; exact hfr k b1 b2 b3) (by rw [hf1 134 (by decide)]; exact hn) hs1
theorem c_X9_sort {K : g_D → Prop} (h : x_cl D 2 o n) (hb : ∀ i, i < n → 0 ≤ o i) (kk : ∀ D' : g_D, x_f9 D D' → x_suf D' o n → K D') : k_X9_sort E l D 2 K := by
  refine s_X9_sort ip_Cells_2 (fun _ D1 hD1 => l_X9_sort h hb kk n 0 D1 (fun _ => 0) rfl (Nat.zero_le _) (fun k b1 b2 b3 => by rw [hD1, g_up_ne b1]) ?_ ⟨fun j hj => absurd hj (Nat.not_lt_zero j), fun j hj => absurd hj (by omega)⟩)
  rw [hD1, g_up_eq]; exact h.1
/-- the class's suffixes: laid already, or to be laid -/
def x_sufR (D : g_D) (o : Nat → Int) (n : Nat) : Prop := D 0 13 = 0 → x_suf D o n
/-- nothing but the suffixes and their mark -/
def x_f9s (D D' : g_D) : Prop := (∀ k, k ≠ 0 → k ≠ 134 → k ≠ 135 → k ≠ 136 → D' k = D k) ∧ ∀ j, j ≠ 13 → D' 0 j = D 0 j
theorem c_X11_sortSuffixes {K : g_D → Prop} (h : x_cl D 2 o n) (hb : ∀ i, i < n → 0 ≤ o i) (hR : x_sufR D o n) (kk : ∀ D' : g_D, x_f9s D D' → x_suf D' o n → D' 0 13 = 0 → K D') : k_X11_sortSuffixes E l D K := by
  refine s_X11_sortSuffixes (fun _ => ⟨fun h0 => kk D ⟨fun _ _ _ _ _ => rfl, fun _ _ => rfl⟩ (hR h0) h0, fun _ => c_X9_sort h hb (fun D1 hf hx D2 hD2 => kk D2 ⟨fun k b0 b1 b2 b3 => ?_, fun j hj => ?_⟩ ?_ ?_)⟩)
  · rw [hD2, g_up_ne b0]; exact hf k b1 b2 b3
  · rw [hD2, g_up_at hj, hf 0 (by decide) (by decide) (by decide)]
  · unfold x_suf at *; rw [hD2, g_up_ne (by decide), g_up_ne (by decide), g_up_ne (by decide)]; exact hx
  · rw [hD2, g_up_eq]
theorem c_X11_suffix {K : Int → g_D → Prop} {v : Int} (h : x_cl D 2 o n) (hb : ∀ i, i < n → 0 ≤ o i) (hR : x_sufR D o n) (k0 : ¬ (0 ≤ v ∧ v < n) → ∀ D', x_f9s D D' → x_suf D' o n → K (-1) D') (k1 : 0 ≤ v → ∀ a : Nat, a < n → m_rk o n a = v.toNat → ∀ D', x_f9s D D' → x_suf D' o n → K a D') : k_X11_suffix E l D v K := by
  have h40 := h.2.1
  refine s_X11_suffix (fun _ _ => c_X11_sortSuffixes h hb hR (fun D1 hf hx _ => ?_))
  obtain ⟨hn, f, p1, p2, p3⟩ := id hx
  refine ⟨fun q => k0 (by omega) D1 hf hx, fun q => ⟨fun q2 => k0 (by omega) D1 hf hx, fun q2 => ⟨by omega, ?_⟩⟩⟩
  have hv : v.toNat < n := by omega
  rw [(p1 _ hv).1]
  exact k1 (by omega) _ (p1 _ hv).2 (m_sorted_rk hb (fun i hi => (p1 i hi).2) p2 _ hv) D1 hf hx
theorem c_X11_shared {K : Int → g_D → Prop} {v : Int} (h : x_cl D 2 o n) (hb : ∀ i, i < n → 0 ≤ o i) (hR : x_sufR D o n) (k0 : ¬ (0 ≤ v ∧ v + 1 < n) → ∀ D', x_f9s D D' → x_suf D' o n → K (-1) D') (k1 : 0 ≤ v → ∀ a b : Nat, a < n → b < n → m_rk o n a = v.toNat → m_rk o n b = v.toNat + 1 → ∀ D', x_f9s D D' → x_suf D' o n → K (m_co o n a b) D') : k_X11_shared E l D v K := by
  have h40 := h.2.1
  refine s_X11_shared (fun _ _ => c_X11_sortSuffixes h hb hR (fun D1 hf hx _ => ?_))
  obtain ⟨hn, f, p1, p2, p3⟩ := id hx
  refine ⟨fun q => k0 (by omega) D1 hf hx, fun q => ⟨⟨by omega, by omega⟩, fun q2 => k0 (by omega) D1 hf hx, fun q2 => ⟨by omega, ?_⟩⟩⟩
  have hv : v.toNat + 1 < n := by omega
  rw [p3 _ hv]
  exact k1 (by omega) _ _ (p1 _ (by omega)).2 (p1 _ hv).2 (m_sorted_rk hb (fun i hi => (p1 i hi).2) p2 _ (by omega)) (m_sorted_rk hb (fun i hi => (p1 i hi).2) p2 _ hv) D1 hf hx
end SUFX
