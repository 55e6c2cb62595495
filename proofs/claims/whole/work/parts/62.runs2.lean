/-- the two images in the model's row -/
def m_img (D : g_D) (o : Nat → Int) (n : Nat) (w : Nat → Int) (m : Nat) : Prop := D 209 0 = n ∧ n ≤ 40 ∧ D 209 1 = m ∧ m ≤ 40 ∧ (∀ i, i < n → D 209 (6 + i) = o i) ∧ (∀ i, i < m → D 209 (46 + i) = w i)
/-- a row of cells in the class -/
def x_cl (D : g_D) (k : Nat) (c : Nat → Int) (n : Nat) : Prop := D k 1 = n ∧ n ≤ 40 ∧ ∀ i, i < n → D (k + 1) i = c i
def m_run (o w : Nat → Int) (n m f j : Nat) : Nat := m_lcp (fun t => o (f + t)) (fun t => w (j + t)) (min (n - f) (m - j))
def m_lg (o w : Nat → Int) (n m j : Nat) : Nat → Nat
  | 0 => 0
  | F + 1 => max (m_lg o w n m j F) (m_run o w n m F j)
def m_ch (ch : Int) (o w : Nat → Int) (n m j most : Nat) : Nat → Int
  | 0 => -1
  | F + 1 => if m_run o w n m F j < most then m_ch ch o w n m j most F else if m_ch ch o w n m j most F = -1 ∨ ch = 1 ∨ (ch = 2 ∧ ((F : Int) - j).natAbs < (m_ch ch o w n m j most F - j).natAbs) then (F : Int) else m_ch ch o w n m j most F
def m_mn (o w : Nat → Int) (n m j most : Nat) : Nat → Nat
  | 0 => 0
  | F + 1 => if m_run o w n m F j = most then m_mn o w n m j most F + 1 else m_mn o w n m j most F
theorem m_run_lg {o w : Nat → Int} {n m j : Nat} : ∀ {F f : Nat}, f < F → m_run o w n m f j ≤ m_lg o w n m j F
  | 0, f, h => absurd h (Nat.not_lt_zero f)
  | F + 1, f, h => by
    rcases Nat.lt_succ_iff_lt_or_eq.mp h with h | rfl
    · exact Nat.le_trans (m_run_lg h) (Nat.le_max_left _ _)
    · exact Nat.le_max_right _ _
theorem m_ch_none {ch : Int} {o w : Nat → Int} {n m j most : Nat} : ∀ {F : Nat}, m_lg o w n m j F < most → m_ch ch o w n m j most F = -1 ∧ m_mn o w n m j most F = 0
  | 0, _ => ⟨rfl, rfl⟩
  | F + 1, h => by
    have h1 : m_lg o w n m j F < most := Nat.lt_of_le_of_lt (Nat.le_max_left _ _) h
    have h2 : m_run o w n m F j < most := Nat.lt_of_le_of_lt (Nat.le_max_right _ _) h
    obtain ⟨q1, q2⟩ := m_ch_none (ch := ch) h1
    unfold m_ch m_mn
    rw [if_pos h2, if_neg (by omega)]
    exact ⟨q1, q2⟩
theorem m_run_le {o w : Nat → Int} {n m f j : Nat} : m_run o w n m f j ≤ min (n - f) (m - j) := (m_lcp_L _ _ _).1
theorem m_lg_le {o w : Nat → Int} {n m j : Nat} : ∀ F, m_lg o w n m j F ≤ m - j
  | 0 => Nat.zero_le _
  | F + 1 => by
    have h1 := m_lg_le (o := o) (w := w) (n := n) (m := m) (j := j) F
    have h2 : m_run o w n m F j ≤ min (n - F) (m - j) := m_run_le
    unfold m_lg
    omega
theorem m_ch_rng {ch : Int} {o w : Nat → Int} {n m j most : Nat} : ∀ F, -1 ≤ m_ch ch o w n m j most F ∧ m_ch ch o w n m j most F < (if F = 0 then 0 else (F : Int))
  | 0 => by show -1 ≤ (-1 : Int) ∧ (-1 : Int) < 0; omega
  | F + 1 => by
    have h := m_ch_rng (ch := ch) (o := o) (w := w) (n := n) (m := m) (j := j) (most := most) F
    unfold m_ch
    repeat' split
    all_goals (simp at *; try omega)
    all_goals (split at h <;> omega)
/-- the run that is chosen -/
def m_cn (ch : Int) (o w : Nat → Int) (n m j F : Nat) : Int := if m_lg o w n m j F = 0 then -1 else m_ch ch o w n m j (m_lg o w n m j F) F
def m_cm (o w : Nat → Int) (n m j F : Nat) : Nat := if m_lg o w n m j F = 0 then 0 else m_mn o w n m j (m_lg o w n m j F) F
section RUNS
variable {E : g_E} {l : Launch} {sh : List g_Sh} {D : g_D} {o w : Nat → Int} {n m : Nat}
theorem c_run {K : Int → g_D → Prop} {f j : Nat} (hM : m_img D o n w m) (hf : f ≤ 40) (hj : j ≤ 40) (k : K (m_run o w n m f j) D) : k_X12_runAt E l D f j K := by
  obtain ⟨h1, h2, h3, h4, h5, h6⟩ := hM
  refine c_X12_runAt h1 h2 h3 h4 hf hj ?_
  have e : m_lcp (fun t => D 209 (6 + f + t)) (fun t => D 209 (46 + j + t)) (min (n - f) (m - j)) = m_run o w n m f j := by
    refine m_lcp_congr (fun t ht => ⟨?_, ?_⟩)
    · rw [Nat.add_assoc]; exact h5 (f + t) (by omega)
    · rw [Nat.add_assoc]; exact h6 (j + t) (by omega)
  rw [e]
  exact k
theorem g_cast1 (F : Nat) : (F : Int) + 1 = ((F + 1 : Nat) : Int) := by omega
theorem g_rn {x : Nat} (h : x ≤ 100000) : g_r (x : Int) := ⟨by omega, by omega⟩
theorem l_X12_longestAt {K : Int → g_D → Prop} {j : Nat} (hM : m_img D o n w m) (hj : j ≤ 40) (k : K (m_lg o w n m j n) D) : ∀ q F : Nat, n - F = q → F ≤ n → n_X12_longestAt E l D 4 [some (g_R 208), some (g_I j), some (g_I (m_lg o w n m j F)), some (g_I F)] K := by
  have hn : D 209 0 = n := hM.1
  have h40 : n ≤ 40 := hM.2.1
  intro q
  induction q with
  | zero =>
    intro F hq hF
    obtain rfl : F = n := by omega
    exact s_X12_longestAt_4 (fun _ _ _ _ => ⟨fun _ => k, fun h => (by omega : False).elim⟩)
  | succ q ih =>
    intro F hq hF
    have ih' := ih (F + 1) (by omega) (by omega)
    refine s_X12_longestAt_4 (fun _ _ _ _ => ⟨fun h => (by omega : False).elim, fun _ => c_run hM (by omega) hj (fun _ => ⟨fun h => ?_, fun h => c_run hM (by omega) hj (fun _ => ?_)⟩)⟩)
    · rw [g_cast1]
      refine ⟨g_rn (by omega), ?_⟩
      have e : m_lg o w n m j (F + 1) = m_lg o w n m j F := by rw [m_lg]; omega
      rw [e] at ih'
      exact ih'
    · rw [g_cast1]
      refine ⟨g_rn (by omega), ?_⟩
      have e : m_lg o w n m j (F + 1) = m_run o w n m F j := by rw [m_lg]; omega
      rw [e] at ih'
      exact ih'
theorem c_X12_longestAt {K : Int → g_D → Prop} {j : Nat} (hM : m_img D o n w m) (hj : j ≤ 40) (k : K (m_lg o w n m j n) D) : k_X12_longestAt E l D j K :=
  s_X12_longestAt (fun _ _ => l_X12_longestAt hM hj k n 0 rfl (Nat.zero_le _))
theorem c_X12_apart {K : Int → g_D → Prop} {a b : Int} (h1 : -1000 ≤ a) (h2 : a ≤ 1000) (h3 : -1000 ≤ b) (h4 : b ≤ 1000) (k : K ((a - b).natAbs : Int) D) : k_X12_apart E l sh D a b K := by
  refine s_X12_apart (fun _ _ _ => ⟨fun h => ⟨⟨by omega, by omega⟩, ?_⟩, fun h => ⟨⟨by omega, by omega⟩, ?_⟩⟩)
  · rw [show b - a = ((a - b).natAbs : Int) by omega]; exact k
  · rw [show a - b = ((a - b).natAbs : Int) by omega]; exact k
theorem l_X12_chosenAt {K : Int → g_D → Prop} {j most : Nat} (hM : m_img D o n w m) (hj : j ≤ 40) (hmost : most ≠ 0) (k : K (m_ch (D 209 3) o w n m j most n) D) : ∀ q F : Nat, n - F = q → F ≤ n → n_X12_chosenAt E l D 11 [some (g_R 208), some (g_I j), some (g_I most), some (g_I (m_ch (D 209 3) o w n m j most F)), some (g_I F), none] K := by
  have hn : D 209 0 = n := hM.1
  have h40 : n ≤ 40 := hM.2.1
  intro q
  induction q with
  | zero =>
    intro F hq hF
    obtain rfl : F = n := by omega
    exact s_X12_chosenAt_11 (fun _ _ _ _ _ => ⟨fun _ => k, fun h => (by omega : False).elim⟩)
  | succ q ih =>
    intro F hq hF
    have ih' := ih (F + 1) (by omega) (by omega)
    have hrg := m_ch_rng (ch := D 209 3) (o := o) (w := w) (n := n) (m := m) (j := j) (most := most) F
    have hr2 : m_ch (D 209 3) o w n m j most F < 1000 := by
      have := hrg.2
      split at this <;> omega
    have e1 : g_r ((F : Int) + 1) := ⟨by omega, by omega⟩
    have eS : m_ch (D 209 3) o w n m j most (F + 1) = if m_run o w n m F j < most then m_ch (D 209 3) o w n m j most F else if m_ch (D 209 3) o w n m j most F = -1 ∨ D 209 3 = 1 ∨ (D 209 3 = 2 ∧ ((F : Int) - j).natAbs < (m_ch (D 209 3) o w n m j most F - j).natAbs) then (F : Int) else m_ch (D 209 3) o w n m j most F := rfl
    rw [eS, ← g_cast1] at ih'
    generalize m_ch (D 209 3) o w n m j most F = b at *
    refine s_X12_chosenAt_11 (fun _ _ _ _ _ => ⟨fun h => (by omega : False).elim, fun _ => ⟨fun h => (by omega : False).elim, fun _ => c_run hM (by omega) hj (fun _ => ⟨fun h => ⟨fun hb => ⟨e1, ?_⟩, fun hb => ⟨fun hc => ⟨e1, ?_⟩, fun hc => ⟨fun hd => ⟨e1, ?_⟩, fun hd => c_X12_apart (by omega) (by omega) (by omega) (by omega) (fun _ => c_X12_apart (by omega) (by omega) (by omega) (by omega) (fun _ => ⟨fun he => ⟨e1, ?_⟩, fun he => ⟨e1, ?_⟩⟩))⟩⟩⟩, fun h => ⟨e1, ?_⟩⟩)⟩⟩)
    · rw [if_neg (by omega), if_pos (Or.inl hb)] at ih'; exact ih'
    · rw [if_neg (by omega), if_pos (Or.inr (Or.inl hc))] at ih'; exact ih'
    · rw [if_neg (by omega), if_neg (by omega)] at ih'; exact ih'
    · rw [if_neg (by omega), if_neg (by omega)] at ih'; exact ih'
    · rw [if_neg (by omega), if_pos (Or.inr (Or.inr ⟨hd, by omega⟩))] at ih'; exact ih'
    · rw [if_pos (by omega)] at ih'; exact ih'
theorem c_X12_chosenAt {K : Int → g_D → Prop} {j : Nat} (hM : m_img D o n w m) (hj : j ≤ 40) (k : K (m_cn (D 209 3) o w n m j n) D) : k_X12_chosenAt E l D j K := by
  refine s_X12_chosenAt (fun _ _ => c_X12_longestAt hM hj (fun _ => ?_))
  unfold m_cn at k
  by_cases h0 : m_lg o w n m j n = 0
  · rw [if_pos h0] at k
    rw [h0]
    refine s_X12_chosenAt_11 (fun _ _ _ _ _ => ⟨fun _ => k, fun _ => ⟨fun _ => k, fun h => (by omega : False).elim⟩⟩)
  · rw [if_neg h0] at k
    exact l_X12_chosenAt hM hj h0 k n 0 rfl (Nat.zero_le _)
end RUNS
