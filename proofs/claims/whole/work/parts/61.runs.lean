/-- r is how far two rows go together, of at most k places -/
def m_L (f g : Nat → Int) (k r : Nat) : Prop := r ≤ k ∧ (∀ t, t < r → f t = g t) ∧ (r < k → f r ≠ g r)
theorem m_L.uniq {f g : Nat → Int} {k r s : Nat} (h : m_L f g k r) (h2 : m_L f g k s) : r = s := by
  obtain ⟨a1, a2, a3⟩ := h
  obtain ⟨b1, b2, b3⟩ := h2
  rcases Nat.lt_trichotomy r s with q | q | q
  · exact absurd (b2 r q) (a3 (by omega))
  · exact q
  · exact absurd (a2 s q) (b3 (by omega))
def m_lcp (f g : Nat → Int) : Nat → Nat
  | 0 => 0
  | k + 1 => if f 0 = g 0 then 1 + m_lcp (fun t => f (t + 1)) (fun t => g (t + 1)) k else 0
theorem m_lcp_L : ∀ (k : Nat) (f g : Nat → Int), m_L f g k (m_lcp f g k)
  | 0, f, g => ⟨Nat.le_refl _, fun t h => absurd h (Nat.not_lt_zero t), fun h => absurd h (Nat.lt_irrefl 0)⟩
  | k + 1, f, g => by
    obtain ⟨h1, h2, h3⟩ := m_lcp_L k (fun t => f (t + 1)) (fun t => g (t + 1))
    unfold m_lcp
    split
    · rename_i h0
      refine ⟨by omega, fun t ht => ?_, fun hr => ?_⟩
      · match t with
        | 0 => exact h0
        | t + 1 => exact h2 t (by omega)
      · have := h3 (by omega)
        rwa [Nat.add_comm 1]
    · rename_i h0
      exact ⟨Nat.zero_le _, fun t ht => absurd ht (Nat.not_lt_zero t), fun _ => h0⟩
theorem m_L.eq {f g : Nat → Int} {k r : Nat} (h : m_L f g k r) : r = m_lcp f g k := h.uniq (m_lcp_L k f g)
theorem m_lcp_congr {f g f' g' : Nat → Int} {k : Nat} (h : ∀ t, t < k → f t = f' t ∧ g t = g' t) : m_lcp f g k = m_lcp f' g' k := by
  obtain ⟨h1, h2, h3⟩ := m_lcp_L k f g
  refine m_L.eq ⟨h1, fun t ht => ?_, fun hr => ?_⟩
  · rw [← (h t (by omega)).1, ← (h t (by omega)).2]; exact h2 t ht
  · rw [← (h _ hr).1, ← (h _ hr).2]; exact h3 hr
section RUNS
variable {E : g_E} {l : Launch} {sh : List g_Sh} {D : g_D}
theorem l_X12_common {K : Int → g_D → Prop} {a b n : Nat} (hn : D 209 0 = n) (hn40 : n ≤ 40) (ha : a ≤ 40) (hb : b ≤ 40) (k : ∀ r : Nat, m_L (fun t => D 209 (6 + a + t)) (fun t => D 209 (6 + b + t)) (min (n - a) (n - b)) r → K r D) :
    ∀ (m r : Nat), min (n - a) (n - b) - r = m → r ≤ min (n - a) (n - b) → (∀ t, t < r → D 209 (6 + a + t) = D 209 (6 + b + t)) → n_X12_common E l D 2 [some (g_R 208), some (g_I a), some (g_I b), some (g_I r)] K := by
  intro m
  induction m with
  | zero =>
    intro r hm hr ht
    refine s_X12_common_2 (fun _ _ _ _ => ?_)
    have hk := k r ⟨hr, ht, by omega⟩
    unfold g_r
    exact ⟨by omega, fun _ => hk, fun h1 => ⟨by omega, fun _ => hk, fun h2 => (by omega : False).elim⟩⟩
  | succ m ih =>
    intro r hm hr ht
    refine s_X12_common_2 (fun _ _ _ _ => ?_)
    have e1 : ((6 + (a : Int)) + r).toNat = 6 + a + r := by omega
    have e2 : ((6 + (b : Int)) + r).toNat = 6 + b + r := by omega
    have ih' := ih (r + 1) (by omega) (by omega)
    rw [e1, e2]
    unfold g_r
    refine ⟨by omega, fun h => by omega, fun _ => ⟨by omega, fun h => by omega, fun _ => ⟨by omega, by omega, by omega, by omega, by omega, by omega, fun hne => ?_, fun he => ⟨by omega, ?_⟩⟩⟩⟩
    · exact k r ⟨by omega, ht, fun _ => hne⟩
    · refine ih' (fun t h => ?_)
      rcases Nat.lt_succ_iff_lt_or_eq.mp h with h | rfl
      · exact ht t h
      · exact he
theorem c_X12_common {K : Int → g_D → Prop} {a b n : Nat} (hn : D 209 0 = n) (hn40 : n ≤ 40) (ha : a ≤ 40) (hb : b ≤ 40) (k : K (m_lcp (fun t => D 209 (6 + a + t)) (fun t => D 209 (6 + b + t)) (min (n - a) (n - b))) D) : k_X12_common E l D a b K :=
  s_X12_common (fun _ _ _ => l_X12_common hn hn40 ha hb (fun r hr => by rw [hr.eq]; exact k) _ 0 rfl (Nat.zero_le _) (fun t h => absurd h (Nat.not_lt_zero t)))
theorem c_X12_isAheadSuffix {K : Int → g_D → Prop} {a b n : Nat} (hn : D 209 0 = n) (hn40 : n ≤ 40) (ha : a < n) (hb : b < n)
    (k : ∀ r : Nat, r = m_lcp (fun t => D 209 (6 + a + t)) (fun t => D 209 (6 + b + t)) (min (n - a) (n - b)) → K (if (a + r = n ∨ b + r = n) then (if b < a then 1 else 0) else if D 209 (6 + a + r) < D 209 (6 + b + r) then 1 else 0) D) : k_X12_isAheadSuffix E l D a b K := by
  refine s_X12_isAheadSuffix (fun _ _ _ => c_X12_common hn hn40 (by omega) (by omega) ?_)
  have hL := m_lcp_L (min (n - a) (n - b)) (fun t => D 209 (6 + a + t)) (fun t => D 209 (6 + b + t))
  have hk := k _ rfl
  generalize m_lcp (fun t => D 209 (6 + a + t)) (fun t => D 209 (6 + b + t)) (min (n - a) (n - b)) = r at hk hL
  have hr : r ≤ min (n - a) (n - b) := hL.1
  intro _
  have e1 : ((6 + (a : Int)) + r).toNat = 6 + a + r := by omega
  have e2 : ((6 + (b : Int)) + r).toNat = 6 + b + r := by omega
  unfold g_r
  rw [e1, e2]
  clear k hL
  repeat' (first | apply And.intro | intro _)
  all_goals first
    | omega
    | (split at hk <;> (try split at hk) <;> first | exact hk | omega)
theorem l_X12_runAt {K : Int → g_D → Prop} {f j n w : Nat} (hn : D 209 0 = n) (hn40 : n ≤ 40) (hw : D 209 1 = w) (hw40 : w ≤ 40) (hf : f ≤ 40) (hj : j ≤ 40) (k : ∀ r : Nat, m_L (fun t => D 209 (6 + f + t)) (fun t => D 209 (46 + j + t)) (min (n - f) (w - j)) r → K r D) :
    ∀ (m r : Nat), min (n - f) (w - j) - r = m → r ≤ min (n - f) (w - j) → (∀ t, t < r → D 209 (6 + f + t) = D 209 (46 + j + t)) → n_X12_runAt E l D 2 [some (g_R 208), some (g_I f), some (g_I j), some (g_I r)] K := by
  intro m
  induction m with
  | zero =>
    intro r hm hr ht
    refine s_X12_runAt_2 (fun _ _ _ _ => ?_)
    have hk := k r ⟨hr, ht, by omega⟩
    unfold g_r
    exact ⟨by omega, fun _ => hk, fun h1 => ⟨by omega, fun _ => hk, fun h2 => (by omega : False).elim⟩⟩
  | succ m ih =>
    intro r hm hr ht
    refine s_X12_runAt_2 (fun _ _ _ _ => ?_)
    have e1 : ((6 + (f : Int)) + r).toNat = 6 + f + r := by omega
    have e2 : ((46 + (j : Int)) + r).toNat = 46 + j + r := by omega
    have ih' := ih (r + 1) (by omega) (by omega)
    rw [e1, e2]
    unfold g_r
    refine ⟨by omega, fun h => by omega, fun _ => ⟨by omega, fun h => by omega, fun _ => ⟨by omega, by omega, by omega, by omega, by omega, by omega, fun hne => ?_, fun he => ⟨by omega, ?_⟩⟩⟩⟩
    · exact k r ⟨by omega, ht, fun _ => hne⟩
    · refine ih' (fun t h => ?_)
      rcases Nat.lt_succ_iff_lt_or_eq.mp h with h | rfl
      · exact ht t h
      · exact he
theorem c_X12_runAt {K : Int → g_D → Prop} {f j n w : Nat} (hn : D 209 0 = n) (hn40 : n ≤ 40) (hw : D 209 1 = w) (hw40 : w ≤ 40) (hf : f ≤ 40) (hj : j ≤ 40) (k : K (m_lcp (fun t => D 209 (6 + f + t)) (fun t => D 209 (46 + j + t)) (min (n - f) (w - j))) D) : k_X12_runAt E l D f j K :=
  s_X12_runAt (fun _ _ _ => l_X12_runAt hn hn40 hw hw40 hf hj (fun r hr => by rw [hr.eq]; exact k) _ 0 rfl (Nat.zero_le _) (fun t h => absurd h (Nat.not_lt_zero t)))
end RUNS
