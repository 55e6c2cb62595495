def m_cmd (D : g_D) (s : Nat) (c : Nat → Nat → Int) : Prop := D 208 14 = s ∧ ∀ i, i < s → D 216 i = c i 0 ∧ D 217 i = c i 1 ∧ D 218 i = c i 2 ∧ D 219 i = c i 3
def m_ahd (D : g_D) (s : Nat) (c : Nat → Nat → Int) : Prop := ∀ a b, a < s → b < s → D 220 (40 * a + b) = g_b (m_ah c a b)
/-- nothing but the model's commands -/
def m_fc (D D' : g_D) : Prop := (∀ k, k ≠ 208 → ¬ (216 ≤ k ∧ k ≤ 220) → D' k = D k) ∧ ∀ j, j ≠ 14 → D' 208 j = D 208 j
theorem m_fc.refl (D : g_D) : m_fc D D := ⟨fun _ _ _ => rfl, fun _ _ => rfl⟩
theorem m_fc.trans {D D' D'' : g_D} (h : m_fc D D') (h2 : m_fc D' D'') : m_fc D D'' := ⟨fun k a b => (h2.1 k a b).trans (h.1 k a b), fun j a => (h2.2 j a).trans (h.2 j a)⟩
theorem m_fc.up {D D' : g_D} {k j : Nat} {v : Int} (h : m_fc D D') (hk : (k = 208 ∧ j = 14) ∨ (216 ≤ k ∧ k ≤ 220)) : m_fc D (g_up D' k j v) := ⟨fun i a b => by rw [g_up_ne (by omega)]; exact h.1 i a b, fun i a => by
  by_cases e : k = 208
  · rw [g_up_at (by omega)]; exact h.2 i a
  · rw [g_up_ne (by omega)]; exact h.2 i a⟩
theorem m_fc.img {D D' : g_D} {o w : Nat → Int} {n m : Nat} (h : m_fc D D') (hM : m_img D o n w m) : m_img D' o n w m := by
  unfold m_img at *; rw [h.1 209 (by decide) (by decide)]; exact hM
section CMD
variable {E : g_E} {l : Launch} {sh : List g_Sh} {D : g_D} {o w : Nat → Int} {n m : Nat}
theorem c_X12_laysCommand {K : g_D → Prop} {s : Nat} {c : Nat → Nat → Int} {t p q r : Int} (hc : m_cmd D s c) (hs : s < 40) (kk : ∀ D' : g_D, m_fc D D' → m_cmd D' (s + 1) (m_app c s t p q r) → K D') : k_X12_laysCommand E l D t p q r K := by
  obtain ⟨h0, h1⟩ := hc
  refine s_X12_laysCommand (fun _ _ _ _ _ => ⟨by omega, fun D1 hD1 => ⟨by omega, fun D2 hD2 => ⟨by omega, fun D3 hD3 => ⟨by omega, fun D4 hD4 => ⟨⟨by omega, by omega⟩, fun D5 hD5 => ?_⟩⟩⟩⟩⟩)
  rw [h0, Int.toNat_natCast] at hD1 hD2 hD3 hD4
  rw [h0] at hD5
  refine kk D5 ?_ ⟨?_, fun i hi => ?_⟩
  · rw [hD5, hD4, hD3, hD2, hD1]
    exact ((((m_fc.up (m_fc.refl D) (by omega)).up (by omega)).up (by omega)).up (by omega)).up (by omega)
  · rw [hD5, g_up_eq]; omega
  · rw [hD5, g_up_ne (by decide), g_up_ne (by decide), g_up_ne (by decide), g_up_ne (by decide)]
    by_cases e : i = s
    · subst e
      rw [m_app_0, m_app_1, m_app_2, m_app_3]
      refine ⟨?_, ?_, ?_, ?_⟩
      · rw [hD4, g_up_ne (by decide), hD3, g_up_ne (by decide), hD2, g_up_ne (by decide), hD1, g_up_eq]
      · rw [hD4, g_up_ne (by decide), hD3, g_up_ne (by decide), hD2, g_up_eq]
      · rw [hD4, g_up_ne (by decide), hD3, g_up_eq]
      · rw [hD4, g_up_eq]
    · rw [m_app_ne e, m_app_ne e, m_app_ne e, m_app_ne e]
      have := h1 i (by omega)
      refine ⟨?_, ?_, ?_, ?_⟩
      · rw [hD4, g_up_at e, hD3, g_up_at e, hD2, g_up_at e, hD1, g_up_at e]; exact this.1
      · rw [hD4, g_up_at e, hD3, g_up_at e, hD2, g_up_at e, hD1, g_up_at e]; exact this.2.1
      · rw [hD4, g_up_at e, hD3, g_up_at e, hD2, g_up_at e, hD1, g_up_at e]; exact this.2.2.1
      · rw [hD4, g_up_at e, hD3, g_up_at e, hD2, g_up_at e, hD1, g_up_at e]; exact this.2.2.2
theorem l_X12_laysCommands7 {K : g_D → Prop} {le : Nat} {ch : Int} {D0 : g_D} {R : Nat × (Nat → Nat → Int)} (hM : m_img D0 o n w m) (h2 : D0 209 2 = le) (h3 : D0 209 3 = ch) (hle : 3 ≤ le) (hle2 : le ≤ 8)
    (kk : ∀ D' : g_D, m_fc D0 D' → m_cmd D' R.1 R.2 → m_inv n m R.1 R.2 → n_X12_laysCommands E l D' 118 [some (g_R 208), none, some (g_I 0), none] K) :
    ∀ (f j s : Nat) (c : Nat → Nat → Int) (D : g_D), m - j ≤ f → j ≤ m → m_fc D0 D → m_cmd D s c → m_inv n j s c → m_go ch le o w n m f j s c = R → n_X12_laysCommands E l D 7 [some (g_R 208), some (g_I j), none, none] K := by
  have hm40 : m ≤ 40 := hM.2.2.2.1
  intro f
  induction f with
  | zero =>
    intro j s c D hf hj f0 hc hi hR
    obtain rfl : j = m := by omega
    have hm : D 209 1 = j := by rw [f0.1 209 (by decide) (by decide)]; exact hM.2.2.1
    rw [m_go] at hR
    subst hR
    exact s_X12_laysCommands_7 (fun _ _ => ⟨fun _ => kk D f0 hc hi, fun h => (by omega : False).elim⟩)
  | succ f ih =>
    intro j s c D hf hj f0 hc hi hR
    have hM1 := f0.img hM
    have hm : D 209 1 = m := hM1.2.2.1
    have hd2 : D 209 2 = le := by rw [f0.1 209 (by decide) (by decide)]; exact h2
    have hd3 : D 209 3 = ch := by rw [f0.1 209 (by decide) (by decide)]; exact h3
    rw [m_go] at hR
    by_cases hjm : j = m
    · subst hjm
      rw [if_neg (by omega)] at hR
      subst hR
      exact s_X12_laysCommands_7 (fun _ _ => ⟨fun _ => kk D f0 hc hi, fun h => (by omega : False).elim⟩)
    · rw [if_pos (by omega)] at hR
      have hLj : m_lg o w n m j n ≤ m - j := m_lg_le n
      have hi1 := hi.1
      have hs0 : D 208 14 = s := hc.1
      refine s_X12_laysCommands_7 (fun _ _ => ⟨fun h => (by omega : False).elim, fun _ => c_X12_longestAt hM1 (by omega) (fun _ => ⟨fun h1 => ?_, fun h1 => ?_⟩)⟩)
      · rw [if_neg (by omega)] at hR
        have new : ¬ (0 < s ∧ c (s - 1) 0 = 0) → k_X12_laysCommand E l D 0 j (-1) 1 (fun D3 => (g_r ((j : Int) + 1)) ∧ (n_X12_laysCommands E l D3 7 [some (g_R 208), some (g_I ((j : Int) + 1)), none, none] K)) := by
          intro hn
          rw [if_neg hn] at hR
          refine c_X12_laysCommand hc (by omega) (fun D1 g1 g2 => ⟨⟨by omega, by omega⟩, ?_⟩)
          rw [g_cast1]
          exact ih (j + 1) (s + 1) _ D1 (by omega) (by omega) (f0.trans g1) g2 (hi.new rfl hn) hR
        refine ⟨fun h2 => new (by omega), fun h2 => ⟨⟨by omega, by omega⟩, by omega, ?_⟩⟩
        rw [show (D 208 14 - 1).toNat = s - 1 by omega, (hc.2 (s - 1) (by omega)).1, (hc.2 (s - 1) (by omega)).2.2.2]
        refine ⟨fun h3 => new (fun q => h3 q.2), fun h3 => ?_⟩
        rw [if_pos ⟨by omega, h3⟩] at hR
        obtain ⟨_, _, _, a4, a5, _⟩ := hi.2.2.1 (s - 1) (by omega)
        have hi' := hi.2.2.1 (s - 1) (by omega)
        refine ⟨⟨by omega, by omega⟩, by omega, ⟨by unfold m_ok1 at hi'; omega, by unfold m_ok1 at hi'; omega⟩, by omega, fun D4 hD4 => ⟨⟨by omega, by omega⟩, ?_⟩⟩
        rw [g_cast1]
        refine ih (j + 1) s _ D4 (by omega) (by omega) (by rw [hD4]; exact f0.up (by omega)) ⟨?_, fun i hi => ?_⟩ (hi.inc ⟨by omega, h3⟩) hR
        · rw [hD4, g_up_ne (by decide)]; exact hs0
        · rw [hD4, g_up_ne (by decide), g_up_ne (by decide), g_up_ne (by decide), m_inc_ne (Or.inr (by decide)), m_inc_ne (Or.inr (by decide)), m_inc_ne (Or.inr (by decide))]
          have := hc.2 i hi
          refine ⟨this.1, this.2.1, this.2.2.1, ?_⟩
          by_cases e : i = s - 1
          · rw [e, g_up_eq, m_inc_3]
          · rw [g_up_at e, m_inc_ne (Or.inl e)]; exact this.2.2.2
      · rw [if_pos (by omega)] at hR
        have hin := m_cn_in (ch := ch) (o := o) (w := w) (n := n) (m := m) (j := j) (by omega)
        have go : ∀ t : Int, (if m_cn ch o w n m j n = j then 2 else 1) = t → k_X12_laysCommand E l D t j (m_cn ch o w n m j n) (m_lg o w n m j n) (fun D7 => (g_r ((j : Int) + (m_lg o w n m j n : Int))) ∧ (n_X12_laysCommands E l D7 7 [some (g_R 208), some (g_I ((j : Int) + (m_lg o w n m j n : Int))), none, none] K)) := by
          intro t ht
          rw [ht] at hR
          refine c_X12_laysCommand hc (by omega) (fun D1 g1 g2 => ⟨⟨by omega, by omega⟩, ?_⟩)
          rw [show (j : Int) + (m_lg o w n m j n : Int) = ((j + m_lg o w n m j n : Nat) : Int) by omega]
          exact ih (j + m_lg o w n m j n) (s + 1) _ D1 (by omega) (by omega) (f0.trans g1) g2 (hi.app (by rw [← ht]; split <;> omega) rfl (by omega) (by omega) rfl (by omega)) hR
        refine c_X12_chosenAt hM1 (by omega) ?_
        rw [hd3]
        exact fun _ => ⟨fun h2 => go 1 (by rw [if_neg h2]), fun h2 => go 2 (by rw [if_pos h2])⟩
theorem c_X12_meet {K : Int → g_D → Prop} {a x b y : Int} (h1 : -1 ≤ a ∧ a ≤ 100) (h2 : 0 ≤ x ∧ x ≤ 100) (h3 : -1 ≤ b ∧ b ≤ 100) (h4 : 0 ≤ y ∧ y ≤ 100) (k : K (g_b (decide (a < b + y ∧ b < a + x))) D) : k_X12_meet E l sh D a x b y K := by
  refine s_X12_meet (fun _ _ _ _ _ => ⟨⟨by omega, by omega⟩, fun h => ?_, fun h => ⟨⟨by omega, by omega⟩, fun h2 => ?_, fun h2 => ?_⟩⟩)
  · rw [show decide (a < b + y ∧ b < a + x) = false by rw [decide_eq_false_iff_not]; omega] at k; exact k
  · rw [show decide (a < b + y ∧ b < a + x) = false by rw [decide_eq_false_iff_not]; omega] at k; exact k
  · rw [show decide (a < b + y ∧ b < a + x) = true by rw [decide_eq_true_eq]; omega] at k; exact k
theorem l_X12_laysCommands128 {K : g_D → Prop} {s a : Nat} {c : Nat → Nat → Int} {D0 : g_D} (hs : s ≤ 20) (ha : a < s) (hj : m ≤ 40) (hn : n ≤ 40) (hi : m_inv n m s c) (hc : m_cmd D0 s c)
    (kk : ∀ D' : g_D, (∀ k, k ≠ 220 → D' k = D0 k) → (∀ a' b, a' ≤ a → b < s → D' 220 (40 * a' + b) = g_b (m_ah c a' b)) → n_X12_laysCommands E l D' 118 [some (g_R 208), none, some (g_I ((a + 1 : Nat) : Int)), none] K) :
    ∀ (q b : Nat) (D : g_D), s - b = q → b ≤ s → (∀ k, k ≠ 220 → D k = D0 k) → (∀ a' b', (a' < a ∧ b' < s) ∨ (a' = a ∧ b' < b) → D 220 (40 * a' + b') = g_b (m_ah c a' b')) → n_X12_laysCommands E l D 128 [some (g_R 208), none, some (g_I a), some (g_I b)] K := by
  intro q
  induction q with
  | zero =>
    intro b D hq hb hf hv
    obtain rfl : b = s := by omega
    have h14 : D 208 14 = b := by rw [hf 208 (by decide)]; exact hc.1
    refine s_X12_laysCommands_128 (fun _ _ _ => ⟨fun _ => ⟨⟨by omega, by omega⟩, ?_⟩, fun h => (by omega : False).elim⟩)
    rw [g_cast1]
    exact kk D hf (fun a' b' h1 h2 => hv a' b' (by omega))
  | succ q ih =>
    intro b D hq hb hf hv
    have h14 : D 208 14 = s := by rw [hf 208 (by decide)]; exact hc.1
    have ea := hc.2 a ha
    have eb := hc.2 b (by omega)
    have oa := hi.2.2.1 a ha
    have ob := hi.2.2.1 b (by omega)
    have e1 : (40 * (a : Int) + b).toNat = 40 * a + b := by omega
    have e2 : m_ah c a b = decide (a ≠ b ∧ c a 0 = 1 ∧ ¬ c b 0 = 2 ∧ c a 2 < c b 1 + c b 3 ∧ c b 1 < c a 2 + c a 3) := rfl
    unfold m_ok1 at oa ob
    have step : ∀ (v : Int) (D2 : g_D), g_b (m_ah c a b) = v → D2 = g_up D 220 (40 * a + b) v → n_X12_laysCommands E l D2 128 [some (g_R 208), none, some (g_I a), some (g_I ((b : Int) + 1))] K := by
      intro v D2 hv2 hD2
      rw [g_cast1]
      refine ih (b + 1) D2 (by omega) (by omega) (fun k hk => by rw [hD2, g_up_ne hk]; exact hf k hk) (fun a' b' h => ?_)
      rw [hD2]
      by_cases e : 40 * a' + b' = 40 * a + b
      · obtain rfl : a' = a := by omega
        obtain rfl : b' = b := by omega
        rw [g_up_eq]; exact hv2.symm
      · rw [g_up_at e]; exact hv a' b' (by omega)
    refine s_X12_laysCommands_128 (fun _ _ _ => ⟨fun h => (by omega : False).elim, fun _ => ⟨⟨by omega, by omega⟩, ⟨by omega, by omega⟩, ?_⟩⟩)
    rw [e1, Int.toNat_natCast, Int.toNat_natCast, hf 216 (by decide), hf 217 (by decide), hf 218 (by decide), hf 219 (by decide), ea.1, ea.2.2.1, ea.2.2.2, eb.1, eb.2.1, eb.2.2.2]
    refine ⟨fun h1 => ⟨by omega, fun D1 hD1 => ⟨⟨by omega, by omega⟩, step 0 D1 ?_ hD1⟩⟩, fun h1 => ⟨by omega, fun h2 => ⟨by omega, fun D1 hD1 => ⟨⟨by omega, by omega⟩, step 0 D1 ?_ hD1⟩⟩, fun h2 => ⟨by omega, fun h3 => ⟨by omega, fun D1 hD1 => ⟨⟨by omega, by omega⟩, step 0 D1 ?_ hD1⟩⟩, fun h3 => ⟨by omega, by omega, by omega, by omega, c_X12_meet (by omega) (by omega) (by omega) (by omega) ?_⟩⟩⟩⟩
    · rw [e2, decide_eq_false (by omega)]; rfl
    · rw [e2, decide_eq_false (by omega)]; rfl
    · rw [e2, decide_eq_false (by omega)]; rfl
    · refine fun _ => ⟨fun h4 => ⟨by omega, fun D1 hD1 => ⟨⟨by omega, by omega⟩, step 0 D1 ?_ hD1⟩⟩, fun h4 => ⟨by omega, fun D1 hD1 => ⟨⟨by omega, by omega⟩, step 1 D1 ?_ hD1⟩⟩⟩
      · rw [g_b_0, decide_eq_false_iff_not] at h4
        rw [e2, decide_eq_false (fun q => h4 q.2.2.2)]; rfl
      · rw [g_b_n0, decide_eq_true_eq] at h4
        rw [e2, decide_eq_true ⟨by omega, h2, h3, h4⟩]; rfl
theorem l_X12_laysCommands118 {K : g_D → Prop} {s : Nat} {c : Nat → Nat → Int} {D0 : g_D} (hs : s ≤ 20) (hj : m ≤ 40) (hn : n ≤ 40) (hi : m_inv n m s c) (hc : m_cmd D0 s c)
    (kk : ∀ D' : g_D, (∀ k, k ≠ 220 → D' k = D0 k) → m_ahd D' s c → K D') :
    ∀ (q a : Nat) (D : g_D), s - a = q → a ≤ s → (∀ k, k ≠ 220 → D k = D0 k) → (∀ a' b, a' < a → b < s → D 220 (40 * a' + b) = g_b (m_ah c a' b)) → n_X12_laysCommands E l D 118 [some (g_R 208), none, some (g_I a), none] K := by
  intro q
  induction q with
  | zero =>
    intro a D hq ha hf hv
    obtain rfl : a = s := by omega
    have h14 : D 208 14 = a := by rw [hf 208 (by decide)]; exact hc.1
    exact s_X12_laysCommands_118 (fun _ _ => ⟨fun _ => kk D hf hv, fun h => (by omega : False).elim⟩)
  | succ q ih =>
    intro a D hq ha hf hv
    have h14 : D 208 14 = s := by rw [hf 208 (by decide)]; exact hc.1
    refine s_X12_laysCommands_118 (fun _ _ => ⟨fun h => (by omega : False).elim, fun _ => ?_⟩)
    exact l_X12_laysCommands128 hs (by omega) hj hn hi hc (fun D' hf' hv' => ih (a + 1) D' (by omega) (by omega) hf' (fun a' b h1 h2 => hv' a' b (by omega) h2)) s 0 D rfl (Nat.zero_le _) hf (fun a' b' h => hv a' b' (by omega) (by omega))
/-- all commands of two images -/
def m_cs (ch : Int) (le : Nat) (o w : Nat → Int) (n m : Nat) : Nat × (Nat → Nat → Int) := m_go ch le o w n m m 0 0 (fun _ _ => 0)
theorem c_X12_laysCommands {K : g_D → Prop} {le : Nat} {ch : Int} (hM : m_img D o n w m) (h2 : D 209 2 = le) (h3 : D 209 3 = ch) (hle : 3 ≤ le) (hle2 : le ≤ 8)
    (kk : ∀ D' : g_D, m_fc D D' → m_cmd D' (m_cs ch le o w n m).1 (m_cs ch le o w n m).2 → m_inv n m (m_cs ch le o w n m).1 (m_cs ch le o w n m).2 → m_ahd D' (m_cs ch le o w n m).1 (m_cs ch le o w n m).2 → K D') : k_X12_laysCommands E l D K := by
  refine s_X12_laysCommands (fun _ D1 hD1 => ?_)
  refine l_X12_laysCommands7 (D0 := D) (R := m_cs ch le o w n m) hM h2 h3 hle hle2 (fun D2 f2 hc hi => ?_) m 0 0 (fun _ _ => 0) D1 (by omega) (Nat.zero_le _) (by rw [hD1]; exact (m_fc.refl D).up (by omega)) ⟨by rw [hD1, g_up_eq]; rfl, fun i hi => absurd hi (Nat.not_lt_zero i)⟩ m_inv.zero rfl
  have hm40 : m ≤ 40 := hM.2.2.2.1
  have hn40 : n ≤ 40 := hM.2.1
  have h20 := hi.1
  refine l_X12_laysCommands118 (D0 := D2) (by omega) hm40 hn40 hi hc (fun D3 f3 ha => kk D3 ⟨fun k a b => ?_, fun j a => ?_⟩ ?_ hi ha) _ 0 D2 rfl (Nat.zero_le _) (fun _ _ => rfl) (fun a' b h => absurd h (Nat.not_lt_zero a'))
  · rw [f3 k (by omega)]; exact f2.1 k a b
  · rw [f3 208 (by decide)]; exact f2.2 j a
  · unfold m_cmd at *; rw [f3 208 (by decide), f3 216 (by decide), f3 217 (by decide), f3 218 (by decide), f3 219 (by decide)]; exact hc
end CMD
