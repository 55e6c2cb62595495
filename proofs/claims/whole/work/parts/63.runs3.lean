/-- promise 10: what run answers -/
def a_run (ch : Int) (o w : Nat → Int) (n m : Nat) (j v : Int) : Int := if 0 ≤ j ∧ j < m ∧ 0 ≤ v ∧ v ≤ 2 then (if v = 0 then (m_lg o w n m j.toNat n : Int) else if v = 1 then m_cn ch o w n m j.toNat n else (m_cm o w n m j.toNat n : Int)) else -2
/-- the cells of the class that are used as paper -/
def x_fr (D D' : g_D) : Prop := ∀ k, k < 156 ∨ 175 ≤ k → D' k = D k
theorem x_fr.refl (D : g_D) : x_fr D D := fun _ _ => rfl
theorem x_fr.trans {D D' D'' : g_D} (h : x_fr D D') (h2 : x_fr D' D'') : x_fr D D'' := fun k hk => (h2 k hk).trans (h k hk)
theorem x_fr.up {D D' : g_D} {k j : Nat} {v : Int} (h : x_fr D D') (h1 : 156 ≤ k) (h2 : k < 175) : x_fr D (g_up D' k j v) := fun i hi => by rw [g_up_ne (by omega)]; exact h i hi
theorem m_img.up {D : g_D} {o w : Nat → Int} {n m k j : Nat} {v : Int} (h : m_img D o n w m) (hk : k ≠ 209) : m_img (g_up D k j v) o n w m := by
  unfold m_img at *
  rw [g_up_ne (by omega)]
  exact h
theorem x_cl.up {D : g_D} {c : Nat → Int} {n k k' j : Nat} {v : Int} (h : x_cl D k c n) (h1 : k' ≠ k) (h2 : k' ≠ k + 1) : x_cl (g_up D k' j v) k c n := by
  unfold x_cl at *
  rw [g_up_ne (by omega), g_up_ne (by omega)]
  exact h
theorem x_cl.fr {D D' : g_D} {c : Nat → Int} {n k : Nat} (h : x_cl D k c n) (h1 : D' k = D k) (h2 : D' (k + 1) = D (k + 1)) : x_cl D' k c n := by
  unfold x_cl at *
  rw [h1, h2]
  exact h
section RUNS
variable {E : g_E} {l : Launch} {sh : List g_Sh} {D : g_D} {o w : Nat → Int} {n m : Nat}
theorem m_mn_le {most j : Nat} : ∀ F, m_mn o w n m j most F ≤ F
  | 0 => Nat.le_refl _
  | F + 1 => by
    have := m_mn_le (most := most) (j := j) F
    rw [m_mn]
    split <;> omega
theorem l_X12_run {K : Int → g_D → Prop} {j most : Nat} (hM : m_img D o n w m) (hj : j ≤ 40) (hmost : most ≠ 0) (k : K (m_mn o w n m j most n) D) : ∀ q F : Nat, n - F = q → F ≤ n → n_X12_run E l D 67 [some (g_R 208), some (g_I j), none, some (g_I most), some (g_I (m_mn o w n m j most F)), some (g_I F)] K := by
  have hn : D 209 0 = n := hM.1
  have h40 : n ≤ 40 := hM.2.1
  intro q
  induction q with
  | zero =>
    intro F hq hF
    obtain rfl : F = n := by omega
    exact s_X12_run_67 (fun _ _ _ _ _ => ⟨fun _ => k, fun h => (by omega : False).elim⟩)
  | succ q ih =>
    intro F hq hF
    have ih' := ih (F + 1) (by omega) (by omega)
    have hle := m_mn_le (o := o) (w := w) (n := n) (m := m) (most := most) (j := j) F
    rw [m_mn, ← g_cast1] at ih'
    have e1 : g_r ((F : Int) + 1) := ⟨by omega, by omega⟩
    refine s_X12_run_67 (fun _ _ _ _ _ => ⟨fun h => (by omega : False).elim, fun _ => ⟨fun h => (by omega : False).elim, fun _ => c_run hM (by omega) hj (fun _ => ⟨fun h => ⟨⟨by omega, by omega⟩, e1, ?_⟩, fun h => ⟨⟨by omega, by omega⟩, e1, ?_⟩⟩)⟩⟩)
    · rw [if_neg (by omega)] at ih'; rw [Int.add_zero]; exact ih'
    · rw [if_pos (by omega)] at ih'; rw [g_cast1 (m_mn o w n m j most F)]; exact ih'
theorem c_X12_run {K : Int → g_D → Prop} {j v : Int} (hM : m_img D o n w m) (k : K (a_run (D 209 3) o w n m j v) (g_up D 208 0 0)) : k_X12_run E l D j v K := by
  refine s_X12_run (fun _ _ _ D1 hD1 => ?_)
  rw [← hD1] at k
  have hM1 : m_img D1 o n w m := by rw [hD1]; exact hM.up (by decide)
  have hc : D1 209 3 = D 209 3 := by rw [hD1, g_up_ne (by decide)]
  have hm : D 209 1 = m := hM.2.2.1
  have hm40 : m ≤ 40 := hM.2.2.2.1
  unfold a_run at k
  refine ⟨⟨by omega, by omega⟩, c_X12_within ⟨fun h1 _ => ⟨fun h => (by omega : False).elim, fun _ => c_X12_within ⟨fun h2 _ => ⟨fun _ => ?_, fun h => (by omega : False).elim⟩, fun h2 _ => ⟨fun h => (by omega : False).elim, fun _ => ?_⟩⟩⟩, fun h1 _ => ⟨fun _ => ?_, fun h => (by omega : False).elim⟩⟩⟩
  · rw [if_pos (by omega)] at k
    obtain ⟨i, rfl⟩ : ∃ i : Nat, j = i := ⟨j.toNat, by omega⟩
    rw [Int.toNat_natCast] at k
    refine c_X12_longestAt hM1 (by omega) (fun _ => ⟨fun h3 => ⟨fun h4 => ?_, fun h4 => ?_⟩, fun h3 => ?_⟩)
    · rw [if_neg h3, if_neg h4] at k
      unfold m_cm at k
      by_cases h0 : m_lg o w n m i n = 0
      · rw [if_pos h0] at k
        rw [h0]
        have hn : D1 209 0 = n := hM1.1
        have h40 : n ≤ 40 := hM1.2.1
        have key : ∀ q F : Nat, n - F = q → F ≤ n → n_X12_run E l D1 67 [some (g_R 208), some (g_I i), none, some (g_I 0), some (g_I 0), some (g_I F)] K := by
          intro q
          induction q with
          | zero =>
            intro F hq hF
            exact s_X12_run_67 (fun _ _ _ _ _ => ⟨fun _ => k, fun h => (by omega : False).elim⟩)
          | succ q ih =>
            intro F hq hF
            have ih' := ih (F + 1) (by omega) (by omega)
            rw [← g_cast1] at ih'
            exact s_X12_run_67 (fun _ _ _ _ _ => ⟨fun h => (by omega : False).elim, fun _ => ⟨fun h => ⟨⟨by omega, by omega⟩, ⟨by omega, by omega⟩, ih'⟩, fun h => (by omega : False).elim⟩⟩)
        exact key n 0 rfl (Nat.zero_le _)
      · rw [if_neg h0] at k
        exact l_X12_run hM1 (by omega) h0 k n 0 rfl (Nat.zero_le _)
    · rw [if_neg h3, if_pos h4] at k
      exact c_X12_chosenAt hM1 (by omega) (fun _ => by rw [hc]; exact k)
    · rw [if_pos h3] at k
      exact k
  · rw [if_neg (by omega)] at k; exact k
  · rw [if_neg (by omega)] at k; exact k
/-- the class -/
theorem l_X0_alike {K : Int → g_D → Prop} {k r2 i j nk nr : Nat} {c c' : Nat → Int} {a b : Nat} (hk : is_Cells sh k nk) (hr : is_Cells sh r2 nr) (h1 : x_cl D k c a) (h2 : x_cl D r2 c' b) (ha : a ≤ nk) (hb : b ≤ nr) (hi : i ≤ 1000) (hj : j ≤ 1000) {v4 : Int} (hv4 : v4 = min ((a : Int) - i) ((b : Int) - j)) (kk : ∀ r : Nat, m_L (fun t => c (i + t)) (fun t => c' (j + t)) (min (a - i) (b - j)) r → K r D) :
    ∀ (q r : Nat), min (a - i) (b - j) - r = q → r ≤ min (a - i) (b - j) → (∀ t, t < r → c (i + t) = c' (j + t)) → n_X0_alike E l sh D 30 [some (g_R k), some (g_I i), some (g_R r2), some (g_I j), some (g_I v4), some (g_I r)] K := by
  obtain ⟨p1, p2, p3⟩ := h1
  obtain ⟨q1, q2, q3⟩ := h2
  intro q
  induction q with
  | zero =>
    intro r hq hr' ht
    exact s_X0_alike_30 hk hr (fun _ _ _ _ _ => ⟨fun _ => kk r ⟨hr', ht, by omega⟩, fun h => (by omega : False).elim⟩)
  | succ q ih =>
    intro r hq hr' ht
    have ih' := ih (r + 1) (by omega) (by omega)
    rw [← g_cast1] at ih'
    have e1 : ((i : Int) + r).toNat = i + r := by omega
    have e2 : ((j : Int) + r).toNat = j + r := by omega
    refine s_X0_alike_30 hk hr (fun _ _ _ _ _ => ⟨fun h => (by omega : False).elim, fun _ => ⟨⟨by omega, by omega⟩, by omega, ⟨by omega, by omega⟩, by omega, ?_⟩⟩)
    rw [e1, e2, p3 (i + r) (by omega), q3 (j + r) (by omega)]
    refine ⟨fun h => kk r ⟨by omega, ht, fun _ => h⟩, fun h => ⟨⟨by omega, by omega⟩, ih' (fun t h' => ?_)⟩⟩
    rcases Nat.lt_succ_iff_lt_or_eq.mp h' with h' | rfl
    · exact ht t h'
    · exact h
theorem c_X0_alike {K : Int → g_D → Prop} {k r2 i j nk nr : Nat} {c c' : Nat → Int} {a b : Nat} (hk : is_Cells sh k nk) (hr : is_Cells sh r2 nr) (h1 : x_cl D k c a) (h2 : x_cl D r2 c' b) (ha : a ≤ nk) (hb : b ≤ nr) (hi : i ≤ 1000) (hj : j ≤ 1000) (kk : K (m_lcp (fun t => c (i + t)) (fun t => c' (j + t)) (min (a - i) (b - j))) D) : k_X0_alike E l sh D k i r2 j K := by
  have p1 := h1.1
  have p2 := h1.2.1
  have q1 := h2.1
  have q2 := h2.2.1
  refine s_X0_alike hk hr (fun _ _ _ => ⟨fun h => (by omega : False).elim, fun _ => ⟨fun _ => ⟨⟨by omega, by omega⟩, ⟨by omega, by omega⟩, ?_⟩, fun h => (by omega : False).elim⟩⟩)
  exact l_X0_alike hk hr h1 h2 ha hb hi hj (by rw [p1, q1]) (fun r h => by rw [h.eq]; exact kk) _ 0 rfl (Nat.zero_le _) (fun t h => absurd h (Nat.not_lt_zero t))
theorem c_X0_at {K : Int → g_D → Prop} {k nk n : Nat} {c : Nat → Int} {v : Int} (hk : is_Cells sh k nk) (h : D k 1 = n) (hn : n ≤ nk) (hc : ∀ i, i < n → D (k + 1) i = c i) (kk : K (if 0 ≤ v ∧ v < n then c v.toNat else -1) D) : k_X0_at E l sh D k v K := by
  refine s_X0_at hk (fun _ _ => ⟨fun h1 => ?_, fun h1 => ⟨fun h2 => ?_, fun h2 => ⟨by omega, ?_⟩⟩⟩)
  · rw [if_neg (by omega)] at kk; exact kk
  · rw [if_neg (by omega)] at kk; exact kk
  · rw [if_pos (by omega)] at kk; rw [hc _ (by omega)]; exact kk
theorem c_X7_isPreferred {K : Int → g_D → Prop} {k : Nat} {f j ch : Int} (hk : is_Script g_SH k) (h1 : -1 ≤ f ∧ f ≤ 1000) (h2 : 0 ≤ j ∧ j ≤ 1000) (h3 : -1 ≤ D k 10 ∧ D k 10 ≤ 1000) (kk : K (if (ch = 1 ∨ (ch = 2 ∧ (f - j).natAbs < (D k 10 - j).natAbs)) then 1 else 0) D) : k_X7_isPreferred E l D k f j ch K := by
  refine s_X7_isPreferred hk (fun _ _ _ _ => ⟨fun a => ⟨fun b => ?_, fun b => ?_⟩, fun a => ⟨⟨by omega, by omega⟩, ⟨by omega, by omega⟩, ⟨by omega, by omega⟩, ⟨by omega, by omega⟩, fun b => ?_, fun b => ?_⟩⟩)
  · rw [if_neg (by omega)] at kk; exact kk
  · rw [if_pos (by omega)] at kk; exact kk
  · rw [if_neg (by omega)] at kk; exact kk
  · rw [if_pos (by omega)] at kk; exact kk
/-- how far findRun has come: the fields of the script k at F -/
def x_fnd (D : g_D) (k : Nat) (ch : Int) (o w : Nat → Int) (n m j F : Nat) : Prop := D k 9 = m_lg o w n m j F ∧ D k 10 = m_cn ch o w n m j F ∧ D k 11 = m_cm o w n m j F
/-- nothing but fields 9 to 11 of the script k is other -/
def x_f3 (D D' : g_D) (k : Nat) : Prop := (∀ i, i ≠ k → D' i = D i) ∧ ∀ j, j ≠ 9 → j ≠ 10 → j ≠ 11 → D' k j = D k j
theorem x_f3.up {D D' : g_D} {k j : Nat} {v : Int} (h : x_f3 D D' k) (hj : j = 9 ∨ j = 10 ∨ j = 11) : x_f3 D (g_up D' k j v) k := ⟨fun i hi => by rw [g_up_ne hi]; exact h.1 i hi, fun i a b c => by rw [g_up_at (by omega)]; exact h.2 i a b c⟩
theorem m_lg_att {j : Nat} : ∀ {F : Nat}, m_lg o w n m j F ≠ 0 → ∃ f, f < F ∧ m_run o w n m f j = m_lg o w n m j F
  | 0, h => absurd rfl h
  | F + 1, h => by
    rw [m_lg] at h ⊢
    by_cases h1 : m_run o w n m F j > m_lg o w n m j F
    · exact ⟨F, by omega, by omega⟩
    · obtain ⟨f, q1, q2⟩ := m_lg_att (j := j) (F := F) (by omega)
      exact ⟨f, by omega, by omega⟩
theorem m_ch_some {ch : Int} {j most : Nat} : ∀ {F f : Nat}, f < F → ¬ m_run o w n m f j < most → m_ch ch o w n m j most F ≠ -1
  | 0, f, h, _ => absurd h (Nat.not_lt_zero f)
  | F + 1, f, h, hr => by
    rw [m_ch]
    split
    · rename_i h1
      rcases Nat.lt_succ_iff_lt_or_eq.mp h with h | rfl
      · exact m_ch_some h hr
      · exact absurd h1 hr
    · split
      · omega
      · rename_i h1
        exact fun q => h1 (Or.inl q)
theorem m_cn_S {ch : Int} {j F : Nat} : m_cn ch o w n m j (F + 1) = if m_run o w n m F j > m_lg o w n m j F then (F : Int) else if m_run o w n m F j = m_lg o w n m j F ∧ m_run o w n m F j > 0 ∧ (ch = 1 ∨ (ch = 2 ∧ ((F : Int) - j).natAbs < (m_cn ch o w n m j F - j).natAbs)) then (F : Int) else m_cn ch o w n m j F := by
  have hlg : m_lg o w n m j (F + 1) = max (m_lg o w n m j F) (m_run o w n m F j) := rfl
  by_cases h1 : m_run o w n m F j > m_lg o w n m j F
  · have e : m_lg o w n m j (F + 1) = m_run o w n m F j := by omega
    rw [if_pos h1, m_cn, e, if_neg (by omega), m_ch, if_neg (by omega), if_pos (Or.inl (m_ch_none h1).1)]
  · have e : m_lg o w n m j (F + 1) = m_lg o w n m j F := by omega
    rw [if_neg h1, m_cn, e]
    by_cases h0 : m_lg o w n m j F = 0
    · rw [if_pos h0, if_neg (by omega), m_cn, if_pos h0]
    · have hcn : m_cn ch o w n m j F = m_ch ch o w n m j (m_lg o w n m j F) F := by rw [m_cn, if_neg h0]
      rw [if_neg h0, m_ch, hcn]
      by_cases h2 : m_run o w n m F j < m_lg o w n m j F
      · rw [if_pos h2, if_neg (by omega)]
      · rw [if_neg h2]
        obtain ⟨f, q1, q2⟩ := m_lg_att h0
        have hne : m_ch ch o w n m j (m_lg o w n m j F) F ≠ -1 := m_ch_some q1 (by omega)
        by_cases h3 : ch = 1 ∨ (ch = 2 ∧ ((F : Int) - j).natAbs < (m_ch ch o w n m j (m_lg o w n m j F) F - j).natAbs)
        · rw [if_pos (Or.inr h3), if_pos ⟨by omega, by omega, h3⟩]
        · rw [if_neg (fun q => q.elim hne h3), if_neg (fun q => h3 q.2.2)]
theorem m_cm_S {j F : Nat} : m_cm o w n m j (F + 1) = if m_run o w n m F j > m_lg o w n m j F then 1 else if m_run o w n m F j = m_lg o w n m j F ∧ m_run o w n m F j > 0 then m_cm o w n m j F + 1 else m_cm o w n m j F := by
  have hlg : m_lg o w n m j (F + 1) = max (m_lg o w n m j F) (m_run o w n m F j) := rfl
  by_cases h1 : m_run o w n m F j > m_lg o w n m j F
  · have e : m_lg o w n m j (F + 1) = m_run o w n m F j := by omega
    rw [if_pos h1, m_cm, e, if_neg (by omega), m_mn, if_pos rfl, (m_ch_none (ch := 0) h1).2]
  · have e : m_lg o w n m j (F + 1) = m_lg o w n m j F := by omega
    rw [if_neg h1, m_cm, e]
    by_cases h0 : m_lg o w n m j F = 0
    · rw [if_pos h0, if_neg (by omega), m_cm, if_pos h0]
    · rw [if_neg h0, m_mn, m_cm, if_neg h0]
      by_cases h2 : m_run o w n m F j = m_lg o w n m j F
      · rw [if_pos h2, if_pos ⟨h2, by omega⟩]
      · rw [if_neg h2, if_neg (by omega)]
theorem m_cn_rng {ch : Int} {j F : Nat} (hF : F ≤ 40) : -1 ≤ m_cn ch o w n m j F ∧ m_cn ch o w n m j F ≤ 40 := by
  unfold m_cn
  split
  · omega
  · have h := m_ch_rng (ch := ch) (o := o) (w := w) (n := n) (m := m) (j := j) (most := m_lg o w n m j F) F
    have := h.2
    split at this <;> omega
theorem m_cm_le {j F : Nat} : m_cm o w n m j F ≤ F := by
  unfold m_cm
  split
  · omega
  · exact m_mn_le F
end RUNS
