/-- promise 11 -/
def m_wd (o w : Nat → Int) (n m : Nat) : Nat → Nat × Int
  | 0 => (0, -1)
  | J + 1 => if m_lg o w n m J n > (m_wd o w n m J).1 then (m_lg o w n m J n, (J : Int)) else m_wd o w n m J
def a_widest (ch : Int) (o w : Nat → Int) (n m : Nat) (v : Int) : Int := if 0 ≤ v ∧ v ≤ 2 then (if v = 0 then ((m_wd o w n m m).1 : Int) else if (m_wd o w n m m).2 = -1 ∨ v = 1 then (m_wd o w n m m).2 else m_cn ch o w n m (m_wd o w n m m).2.toNat n) else -2
section RUNS
variable {E : g_E} {l : Launch} {sh : List g_Sh} {D : g_D} {o w : Nat → Int} {n m : Nat}
theorem m_wd_rng : ∀ J, (m_wd o w n m J).1 ≤ m ∧ -1 ≤ (m_wd o w n m J).2 ∧ (m_wd o w n m J).2 < (if J = 0 then 0 else (J : Int))
  | 0 => ⟨Nat.zero_le _, by show -1 ≤ (-1 : Int); omega, by show (-1 : Int) < 0; omega⟩
  | J + 1 => by
    have h := m_wd_rng J
    have h2 : m_lg o w n m J n ≤ m - J := m_lg_le n
    rw [m_wd, if_neg (show ¬ J + 1 = 0 by omega)]
    split
    · exact ⟨by show m_lg o w n m J n ≤ m; omega, by show -1 ≤ (J : Int); omega, by show (J : Int) < _; omega⟩
    · refine ⟨h.1, h.2.1, ?_⟩
      have := h.2.2
      split at this <;> omega
theorem l_X12_widest {K : Int → g_D → Prop} {v : Int} (hM : m_img D o n w m) (h0 : 0 ≤ v) (h2 : v ≤ 2) (k : K (a_widest (D 209 3) o w n m v) D) : ∀ q J : Nat, m - J = q → J ≤ m → n_X12_widest E l D 27 [some (g_R 208), some (g_I v), some (g_I (m_wd o w n m J).2), some (g_I (m_wd o w n m J).1), some (g_I J), none] K := by
  have hm : D 209 1 = m := hM.2.2.1
  have hm40 : m ≤ 40 := hM.2.2.2.1
  intro q
  induction q with
  | zero =>
    intro J hq hJ
    obtain rfl : J = m := by omega
    unfold a_widest at k
    rw [if_pos ⟨h0, h2⟩] at k
    have hr := m_wd_rng (o := o) (w := w) (n := n) (m := J) J
    refine s_X12_widest_27 (fun _ _ _ _ _ => ⟨fun _ => ⟨fun h3 => ⟨fun h4 => ?_, fun h4 => ⟨fun h5 => ?_, fun h5 => ?_⟩⟩, fun h3 => ?_⟩, fun h => (by omega : False).elim⟩)
    · rw [if_neg h3, if_pos (Or.inl h4)] at k; exact k
    · rw [if_neg h3, if_neg (by omega)] at k
      obtain ⟨i, hi⟩ : ∃ i : Nat, (m_wd o w n J J).2 = i := ⟨(m_wd o w n J J).2.toNat, by omega⟩
      rw [hi] at k hr ⊢
      rw [Int.toNat_natCast] at k
      refine c_X12_chosenAt hM ?_ (fun _ => k)
      have := hr.2.2
      split at this <;> omega
    · rw [if_neg h3, if_pos (Or.inr h5)] at k; exact k
    · rw [if_pos h3] at k; exact k
  | succ q ih =>
    intro J hq hJ
    have ih' := ih (J + 1) (by omega) (by omega)
    rw [m_wd, ← g_cast1] at ih'
    refine s_X12_widest_27 (fun _ _ _ _ _ => ⟨fun h => (by omega : False).elim, fun _ => c_X12_longestAt hM (by omega) (fun _ => ⟨fun h => ⟨⟨by omega, by omega⟩, ?_⟩, fun h => ⟨⟨by omega, by omega⟩, ?_⟩⟩)⟩)
    · rw [if_pos (by omega)] at ih'; exact ih'
    · rw [if_neg (by omega)] at ih'; exact ih'
theorem c_X12_widest {K : Int → g_D → Prop} {v : Int} (hM : m_img D o n w m) (k : K (a_widest (D 209 3) o w n m v) (g_up D 208 0 0)) : k_X12_widest E l D v K := by
  refine s_X12_widest (fun _ _ D1 hD1 => ?_)
  rw [← hD1] at k
  have hM1 : m_img D1 o n w m := by rw [hD1]; exact hM.up (by decide)
  have hc : D1 209 3 = D 209 3 := by rw [hD1, g_up_ne (by decide)]
  refine c_X12_within ⟨fun h1 _ => ⟨fun _ => ?_, fun h => (by omega : False).elim⟩, fun h1 _ => ⟨fun h => (by omega : False).elim, fun _ => ?_⟩⟩
  · exact l_X12_widest hM1 h1.1 h1.2 (by rw [hc]; exact k) m 0 rfl (Nat.zero_le _)
  · unfold a_widest at k
    rw [if_neg h1] at k
    exact k
/-- the class's search of a run -/
theorem l_X7_findRun {K : g_D → Prop} {k r1 r2 j n1 n2 : Nat} {ch : Int} {D0 : g_D} (hk : is_Script g_SH k) (hr1 : is_Cells g_SH r1 n1) (hr2 : is_Cells g_SH r2 n2) (hn1 : n ≤ n1) (hn2 : m ≤ n2) (hj : j ≤ 40) (ho : x_cl D0 r1 o n) (hw : x_cl D0 r2 w m) (hne : k ≠ r1 ∧ k ≠ r1 + 1 ∧ k ≠ r2 ∧ k ≠ r2 + 1)
    (kk : ∀ D', x_f3 D0 D' k → x_fnd D' k ch o w n m j n → K D') : ∀ (q F : Nat) (D : g_D), n - F = q → F ≤ n → x_f3 D0 D k → x_fnd D k ch o w n m j F → n_X7_findRun E l D 18 [some (g_R k), some (g_R r1), some (g_R r2), some (g_I j), some (g_I ch), some (g_I F), none] K := by
  have h40 : n ≤ 40 := ho.2.1
  have m40 : m ≤ 40 := hw.2.1
  intro q
  induction q with
  | zero =>
    intro F D hq hF hf hx
    obtain rfl : F = n := by omega
    have hn : D r1 1 = F := by rw [hf.1 r1 (Ne.symm hne.1)]; exact ho.1
    exact s_X7_findRun_18 hk hr1 hr2 (fun _ _ _ _ => ⟨fun _ => kk D hf hx, fun h => (by omega : False).elim⟩)
  | succ q ih =>
    intro F D hq hF hf hx
    have hn : D r1 1 = n := by rw [hf.1 r1 (Ne.symm hne.1)]; exact ho.1
    have ho' : x_cl D r1 o n := ho.fr (hf.1 r1 (Ne.symm hne.1)) (hf.1 _ (Ne.symm hne.2.1))
    have hw' : x_cl D r2 w m := hw.fr (hf.1 r2 (Ne.symm hne.2.2.1)) (hf.1 _ (Ne.symm hne.2.2.2))
    have e1 : g_r ((F : Int) + 1) := ⟨by omega, by omega⟩
    have hrun : m_lcp (fun t => o (F + t)) (fun t => w (j + t)) (min (n - F) (m - j)) = m_run o w n m F j := rfl
    have hlg : m_lg o w n m j (F + 1) = max (m_lg o w n m j F) (m_run o w n m F j) := rfl
    obtain ⟨x1, x2, x3⟩ := hx
    have hcr := m_cn_rng (ch := ch) (o := o) (w := w) (n := n) (m := m) (j := j) (F := F) (by omega)
    have hcm : m_cm o w n m j F ≤ F := m_cm_le
    refine s_X7_findRun_18 hk hr1 hr2 (fun _ _ _ _ => ⟨fun h => (by omega : False).elim, fun _ => c_X0_alike hr1 hr2 ho' hw' hn1 hn2 (by omega) (by omega) ?_⟩)
    rw [hrun]
    have ih' := fun D => ih (F + 1) D (by omega) (by omega)
    simp only [← g_cast1] at ih'
    refine fun _ => ⟨fun h1 => ⟨fun h2 => ⟨e1, ih' D hf ⟨?_, ?_, ?_⟩⟩, fun h2 => ⟨fun h3 => ⟨e1, ih' D hf ⟨?_, ?_, ?_⟩⟩, fun h3 => ⟨⟨by omega, by omega⟩, fun D2 hD2 => c_X7_isPreferred hk (by omega) (by omega) ?_ ?_⟩⟩⟩, fun h1 D5 hD5 D6 hD6 D7 hD7 => ⟨e1, ih' D7 ?_ ⟨?_, ?_, ?_⟩⟩⟩
    · rw [x1, hlg]; omega
    · rw [x2, m_cn_S, if_neg (by omega), if_neg (by omega)]
    · rw [x3, m_cm_S, if_neg (by omega), if_neg (by omega)]
    · rw [x1, hlg]; omega
    · rw [x2, m_cn_S, if_neg (by omega), if_neg (by omega)]
    · rw [x3, m_cm_S, if_neg (by omega), if_neg (by omega)]
    · rw [hD2, g_up_at (by decide), x2]; omega
    · have d10 : D2 k 10 = m_cn ch o w n m j F := by rw [hD2, g_up_at (by decide), x2]
      rw [d10]
      intro _
      have f2 : x_f3 D0 D2 k := by rw [hD2]; exact hf.up (by omega)
      have d9 : D2 k 9 = m_lg o w n m j (F + 1) := by rw [hD2, g_up_at (by decide), x1, hlg]; omega
      have d11 : D2 k 11 = m_cm o w n m j (F + 1) := by rw [hD2, g_up_eq, x3, m_cm_S, if_neg (by omega), if_pos (by omega)]; omega
      refine ⟨fun h4 => ⟨e1, ih' D2 f2 ⟨d9, ?_, d11⟩⟩, fun h4 D4 hD4 => ⟨e1, ih' D4 ?_ ⟨?_, ?_, ?_⟩⟩⟩
      · rw [d10, m_cn_S, if_neg (by omega), if_neg]
        intro q
        rw [if_pos q.2.2] at h4
        omega
      · rw [hD4]; exact f2.up (by omega)
      · rw [hD4, g_up_at (by decide)]; exact d9
      · rw [hD4, g_up_eq, m_cn_S, if_neg (by omega), if_pos]
        refine ⟨by omega, by omega, ?_⟩
        by_cases hq : (ch = 1 ∨ (ch = 2 ∧ ((F : Int) - j).natAbs < (m_cn ch o w n m j F - j).natAbs))
        · exact hq
        · rw [if_neg hq] at h4; exact absurd rfl h4
      · rw [hD4, g_up_at (by decide)]; exact d11
    · rw [hD7, hD6, hD5]; exact ((hf.up (by omega)).up (by omega)).up (by omega)
    · rw [hD7, g_up_at (by decide), hD6, g_up_at (by decide), hD5, g_up_eq, hlg]; omega
    · rw [hD7, g_up_at (by decide), hD6, g_up_eq, m_cn_S, if_pos (by omega)]
    · rw [hD7, g_up_eq, m_cm_S, if_pos (by omega)]; rfl
theorem c_X7_findRun {K : g_D → Prop} {k r1 r2 j n1 n2 : Nat} {ch : Int} (hk : is_Script g_SH k) (hr1 : is_Cells g_SH r1 n1) (hr2 : is_Cells g_SH r2 n2) (hn1 : n ≤ n1) (hn2 : m ≤ n2) (hj : j ≤ 40) (ho : x_cl D r1 o n) (hw : x_cl D r2 w m) (hne : k ≠ r1 ∧ k ≠ r1 + 1 ∧ k ≠ r2 ∧ k ≠ r2 + 1)
    (kk : ∀ D', x_f3 D D' k → x_fnd D' k ch o w n m j n → K D') : k_X7_findRun E l D k r1 r2 j ch K := by
  refine s_X7_findRun hk hr1 hr2 (fun _ _ _ D1 h1 D2 h2 D3 h3 => ?_)
  refine l_X7_findRun hk hr1 hr2 hn1 hn2 hj ho hw hne kk n 0 D3 rfl (Nat.zero_le _) ?_ ⟨?_, ?_, ?_⟩
  · rw [h3, h2, h1]
    exact ((x_f3.up ⟨fun _ _ => rfl, fun _ _ _ _ => rfl⟩ (by omega)).up (by omega)).up (by omega)
  · rw [h3, g_up_at (by decide), h2, g_up_at (by decide), h1, g_up_eq]; rfl
  · rw [h3, g_up_at (by decide), h2, g_up_eq]; rfl
  · rw [h3, g_up_eq]; rfl
end RUNS
