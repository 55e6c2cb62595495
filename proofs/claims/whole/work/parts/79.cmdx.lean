def x_cmd (D : g_D) (k : Nat) (s : Nat) (c : Nat → Nat → Int) : Prop := D k 8 = s ∧ ∀ i, i < s → D (k + 1) i = c i 0 ∧ D (k + 2) i = c i 1 ∧ D (k + 3) i = c i 2 ∧ D (k + 4) i = c i 3
def x_nx (D : g_D) (k : Nat) (s : Nat) (c : Nat → Nat → Int) : Prop := ∀ a, a < 20 → D (k + 5) a = (m_nx c s a : Nat)
/-- nothing but the script k and its mark of the rings -/
def x_fs (k : Nat) (D D' : g_D) : Prop := (∀ i, ¬ (k ≤ i ∧ i ≤ k + 6) → D' i = D i) ∧ ∀ j, j ≠ 4 → D' (k + 6) j = D (k + 6) j
theorem x_fs.refl (k : Nat) (D : g_D) : x_fs k D D := ⟨fun _ _ => rfl, fun _ _ => rfl⟩
theorem x_fs.trans {k : Nat} {D D' D'' : g_D} (h : x_fs k D D') (h2 : x_fs k D' D'') : x_fs k D D'' := ⟨fun i a => (h2.1 i a).trans (h.1 i a), fun j a => (h2.2 j a).trans (h.2 j a)⟩
theorem x_fs.up {k : Nat} {D D' : g_D} {i j : Nat} {v : Int} (h : x_fs k D D') (hk : k ≤ i ∧ i ≤ k + 6) (hj : i ≠ k + 6 ∨ j = 4) : x_fs k D (g_up D' i j v) := ⟨fun i a => by rw [g_up_ne (by omega)]; exact h.1 i a, fun i' a => by
  by_cases e : i = k + 6
  · rw [g_up_at (by omega)]; exact h.2 i' a
  · rw [g_up_ne (by omega)]; exact h.2 i' a⟩
section CMD
variable {E : g_E} {l : Launch} {sh : List g_Sh} {D : g_D} {o w : Nat → Int} {n m : Nat}
theorem c_X7_append {K : g_D → Prop} {k s : Nat} {c : Nat → Nat → Int} {t p q r : Int} (hk : is_Script g_SH k) (hc : x_cmd D k s c) (hs : s < 20) (kk : ∀ D' : g_D, x_fs k D D' → x_cmd D' k (s + 1) (m_app c s t p q r) → D' (k + 6) = D (k + 6) → (∀ j, j ≠ 8 → D' k j = D k j) → K D') : k_X7_append E l D k t p q r K := by
  obtain ⟨h0, h1⟩ := hc
  refine s_X7_append hk (fun _ _ _ _ _ => ⟨fun h => (by omega : False).elim, fun _ => ⟨by omega, fun D1 hD1 => ?_⟩⟩)
  have e1 : D1 k 8 = s := by rw [hD1, g_up_ne (by omega)]; exact h0
  refine ⟨by omega, fun D2 hD2 => ?_⟩
  have e2 : D2 k 8 = s := by rw [hD2, g_up_ne (by omega)]; exact e1
  refine ⟨by omega, fun D3 hD3 => ?_⟩
  have e3 : D3 k 8 = s := by rw [hD3, g_up_ne (by omega)]; exact e2
  refine ⟨by omega, fun D4 hD4 => ?_⟩
  have e4 : D4 k 8 = s := by rw [hD4, g_up_ne (by omega)]; exact e3
  refine ⟨⟨by omega, by omega⟩, fun D5 hD5 => ?_⟩
  rw [h0, Int.toNat_natCast] at hD1
  rw [e1, Int.toNat_natCast] at hD2
  rw [e2, Int.toNat_natCast] at hD3
  rw [e3, Int.toNat_natCast] at hD4
  rw [e4] at hD5
  refine kk D5 ?_ ⟨?_, fun i hi => ?_⟩ ?_ (fun j hj => ?_)
  · rw [hD5, hD4, hD3, hD2, hD1]
    exact (((((x_fs.refl k D).up (by omega) (by omega)).up (by omega) (by omega)).up (by omega) (by omega)).up (by omega) (by omega)).up (by omega) (by omega)
  · rw [hD5, g_up_eq]; omega
  · rw [hD5, g_up_ne (by omega), g_up_ne (by omega), g_up_ne (by omega), g_up_ne (by omega)]
    by_cases e : i = s
    · subst e
      rw [m_app_0, m_app_1, m_app_2, m_app_3]
      refine ⟨?_, ?_, ?_, ?_⟩
      · rw [hD4, g_up_ne (by omega), hD3, g_up_ne (by omega), hD2, g_up_ne (by omega), hD1, g_up_eq]
      · rw [hD4, g_up_ne (by omega), hD3, g_up_ne (by omega), hD2, g_up_eq]
      · rw [hD4, g_up_ne (by omega), hD3, g_up_eq]
      · rw [hD4, g_up_eq]
    · rw [m_app_ne e, m_app_ne e, m_app_ne e, m_app_ne e]
      have := h1 i (by omega)
      refine ⟨?_, ?_, ?_, ?_⟩
      · rw [hD4, g_up_at e, hD3, g_up_at e, hD2, g_up_at e, hD1, g_up_at e]; exact this.1
      · rw [hD4, g_up_at e, hD3, g_up_at e, hD2, g_up_at e, hD1, g_up_at e]; exact this.2.1
      · rw [hD4, g_up_at e, hD3, g_up_at e, hD2, g_up_at e, hD1, g_up_at e]; exact this.2.2.1
      · rw [hD4, g_up_at e, hD3, g_up_at e, hD2, g_up_at e, hD1, g_up_at e]; exact this.2.2.2
  · rw [hD5, g_up_ne (by omega), hD4, g_up_ne (by omega), hD3, g_up_ne (by omega), hD2, g_up_ne (by omega), hD1, g_up_ne (by omega)]
  · rw [hD5, g_up_at hj, hD4, g_up_ne (by omega), hD3, g_up_ne (by omega), hD2, g_up_ne (by omega), hD1, g_up_ne (by omega)]
theorem l_X7_build {K : g_D → Prop} {k r1 r2 n1 n2 le : Nat} {ch : Int} {D0 : g_D} {R : Nat × (Nat → Nat → Int)} (hk : is_Script g_SH k) (hr1 : is_Cells g_SH r1 n1) (hr2 : is_Cells g_SH r2 n2) (hn1 : n ≤ n1) (hn2 : m ≤ n2) (ho : x_cl D0 r1 o n) (hw : x_cl D0 r2 w m) (hne : r1 + 1 < k ∧ r2 + 1 < k) (hle : 3 ≤ le) (hle2 : le ≤ 8)
    (kk : ∀ D' : g_D, x_fs k D0 D' → x_cmd D' k R.1 R.2 → m_inv n m R.1 R.2 → D' (k + 6) 4 = 0 → k_X7_findOrder E l D' k (fun D1 => K D1)) :
    ∀ (f j s : Nat) (c : Nat → Nat → Int) (D : g_D), m - j ≤ f → j ≤ m → x_fs k D0 D → x_cmd D k s c → m_inv n j s c → D (k + 6) 4 = 0 → m_go ch le o w n m f j s c = R → n_X7_build E l D 16 [some (g_R k), some (g_R r1), some (g_R r2), some (g_I le), some (g_I ch), some (g_I j)] K := by
  have hm40 : m ≤ 40 := hw.2.1
  have hn40 : n ≤ 40 := ho.2.1
  intro f
  induction f with
  | zero =>
    intro j s c D hf hj f0 hc hi h6 hR
    obtain rfl : j = m := by omega
    have hm : D r2 1 = j := by rw [f0.1 r2 (by omega)]; exact hw.1
    rw [m_go] at hR
    subst hR
    exact s_X7_build_16 hk hr1 hr2 (fun _ _ _ _ => ⟨fun _ => kk D f0 hc hi h6, fun h => (by omega : False).elim⟩)
  | succ f ih =>
    intro j s c D hf hj f0 hc hi h6 hR
    have ho1 : x_cl D r1 o n := ho.fr (f0.1 r1 (by omega)) (f0.1 (r1 + 1) (by omega))
    have hw1 : x_cl D r2 w m := hw.fr (f0.1 r2 (by omega)) (f0.1 (r2 + 1) (by omega))
    have hm : D r2 1 = m := hw1.1
    rw [m_go] at hR
    by_cases hjm : j = m
    · subst hjm
      rw [if_neg (by omega)] at hR
      subst hR
      exact s_X7_build_16 hk hr1 hr2 (fun _ _ _ _ => ⟨fun _ => kk D f0 hc hi h6, fun h => (by omega : False).elim⟩)
    · rw [if_pos (by omega)] at hR
      have hLj : m_lg o w n m j n ≤ m - j := m_lg_le n
      have hi1 := hi.1
      refine s_X7_build_16 hk hr1 hr2 (fun _ _ _ _ => ⟨fun h => (by omega : False).elim, fun _ => c_X7_findRun hk hr1 hr2 hn1 hn2 (by omega) ho1 hw1 (by omega) (fun D2 f3 hx => ?_)⟩)
      obtain ⟨x9, x10, _⟩ := hx
      have f2 : x_fs k D0 D2 := ⟨fun i hi => by rw [f3.1 i (by omega)]; exact f0.1 i hi, fun i hi => by rw [f3.1 (k + 6) (by omega)]; exact f0.2 i hi⟩
      have hc2 : x_cmd D2 k s c := by
        unfold x_cmd at *
        rw [f3.2 8 (by decide) (by decide) (by decide), f3.1 (k + 1) (by omega), f3.1 (k + 2) (by omega), f3.1 (k + 3) (by omega), f3.1 (k + 4) (by omega)]; exact hc
      have h62 : D2 (k + 6) 4 = 0 := by rw [f3.1 (k + 6) (by omega)]; exact h6
      have hs0 : D2 k 8 = s := hc2.1
      have add : ¬ le ≤ m_lg o w n m j n → k_X7_addCell E l D2 k j (fun D4 => (g_r ((j : Int) + 1)) ∧ (n_X7_build E l D4 16 [some (g_R k), some (g_R r1), some (g_R r2), some (g_I le), some (g_I ch), some (g_I ((j : Int) + 1))] K)) := by
        intro hlt
        rw [if_neg hlt] at hR
        have new : ¬ (0 < s ∧ c (s - 1) 0 = 0) → k_X7_append E l D2 k 0 j (-1) 1 (fun D3 => (g_r ((j : Int) + 1)) ∧ (n_X7_build E l D3 16 [some (g_R k), some (g_R r1), some (g_R r2), some (g_I le), some (g_I ch), some (g_I ((j : Int) + 1))] K)) := by
          intro hn
          rw [if_neg hn] at hR
          have hin := hi.new (p := (j : Int)) rfl hn
          have := hin.1
          refine c_X7_append hk hc2 (by omega) (fun D1 g1 g2 g3 g4 => ⟨⟨by omega, by omega⟩, ?_⟩)
          rw [g_cast1]
          exact ih (j + 1) (s + 1) _ D1 (by omega) (by omega) (f2.trans g1) g2 hin (by rw [g3]; exact h62) hR
        refine s_X7_addCell hk (fun _ _ => ⟨fun h2 => new (by omega), fun h2 => ⟨⟨by omega, by omega⟩, by omega, ?_⟩⟩)
        rw [show (D2 k 8 - 1).toNat = s - 1 by omega, (hc2.2 (s - 1) (by omega)).1, (hc2.2 (s - 1) (by omega)).2.2.2]
        refine ⟨fun h3 => new (fun q => h3 q.2), fun h3 => ?_⟩
        rw [if_pos ⟨by omega, h3⟩] at hR
        have hi' := hi.2.2.1 (s - 1) (by omega)
        unfold m_ok1 at hi'
        refine ⟨⟨by omega, by omega⟩, by omega, ⟨by omega, by omega⟩, by omega, fun D4 hD4 => ⟨⟨by omega, by omega⟩, ?_⟩⟩
        rw [g_cast1]
        refine ih (j + 1) s _ D4 (by omega) (by omega) (by rw [hD4]; exact f2.up (by omega) (by omega)) ⟨?_, fun i hi => ?_⟩ (hi.inc ⟨by omega, h3⟩) (by rw [hD4, g_up_ne (by omega)]; exact h62) hR
        · rw [hD4, g_up_ne (by omega)]; exact hs0
        · rw [hD4, g_up_ne (by omega), g_up_ne (by omega), g_up_ne (by omega), m_inc_ne (Or.inr (by decide)), m_inc_ne (Or.inr (by decide)), m_inc_ne (Or.inr (by decide))]
          have := hc2.2 i hi
          refine ⟨this.1, this.2.1, this.2.2.1, ?_⟩
          by_cases e : i = s - 1
          · rw [e, g_up_eq, m_inc_3]
          · rw [g_up_at e, m_inc_ne (Or.inl e)]; exact this.2.2.2
      rw [x9, x10]
      refine ⟨fun h1 => add (by omega), fun h1 => ⟨fun h2 => add (by omega), fun h2 => ?_⟩⟩
      rw [if_pos (by omega)] at hR
      have hin := m_cn_in (ch := ch) (o := o) (w := w) (n := n) (m := m) (j := j) (by omega)
      have go : ∀ t : Int, (if m_cn ch o w n m j n = j then 2 else 1) = t → k_X7_append E l D2 k t j (m_cn ch o w n m j n) (m_lg o w n m j n) (fun D7 => (g_r ((j : Int) + (D7 k 9))) ∧ (n_X7_build E l D7 16 [some (g_R k), some (g_R r1), some (g_R r2), some (g_I le), some (g_I ch), some (g_I ((j : Int) + (D7 k 9)))] K)) := by
        intro t ht
        rw [ht] at hR
        have hin2 := hi.app (t := t) (p := (j : Int)) (q := m_cn ch o w n m j n) (r := (m_lg o w n m j n : Int)) (L := m_lg o w n m j n) (by rw [← ht]; split <;> omega) rfl (by omega) (by omega) rfl (by omega)
        have := hin2.1
        refine c_X7_append hk hc2 (by omega) (fun D1 g1 g2 g3 g4 => ?_)
        rw [g4 9 (by decide), x9, show (j : Int) + (m_lg o w n m j n : Int) = ((j + m_lg o w n m j n : Nat) : Int) by omega]
        exact ⟨⟨by omega, by omega⟩, ih (j + m_lg o w n m j n) (s + 1) _ D1 (by omega) (by omega) (f2.trans g1) g2 hin2 (by rw [g3]; exact h62) hR⟩
      exact ⟨fun h3 => go 1 (by rw [if_neg h3]), fun h3 => go 2 (by rw [if_pos h3])⟩
theorem c_X7_mustBeAhead {K : Int → g_D → Prop} {k s a b : Nat} {c : Nat → Nat → Int} (hk : is_Script g_SH k) (hs : s ≤ 20) (ha : a < s) (hb : b < s) (hj : m ≤ 40) (hn : n ≤ 40) (hi : m_inv n m s c) (hc : x_cmd D k s c) (kk : K (g_b (m_ah c a b)) D) : k_X7_mustBeAhead E l D k a b K := by
  have ea := hc.2 a ha
  have eb := hc.2 b (by omega)
  have oa := hi.2.2.1 a ha
  have ob := hi.2.2.1 b (by omega)
  have e2 : m_ah c a b = decide (a ≠ b ∧ c a 0 = 1 ∧ ¬ c b 0 = 2 ∧ c a 2 < c b 1 + c b 3 ∧ c b 1 < c a 2 + c a 3) := rfl
  unfold m_ok1 at oa ob
  refine s_X7_mustBeAhead hk (fun _ _ _ => ?_)
  rw [Int.toNat_natCast, Int.toNat_natCast, ea.1, ea.2.2.1, ea.2.2.2, eb.1, eb.2.1, eb.2.2.2]
  have no : ¬ (a ≠ b ∧ c a 0 = 1 ∧ ¬ c b 0 = 2 ∧ c a 2 < c b 1 + c b 3 ∧ c b 1 < c a 2 + c a 3) → K 0 D := fun h => by rw [e2, decide_eq_false h] at kk; exact kk
  refine ⟨fun h1 => no (by omega), fun h1 => ⟨by omega, fun h2 => no (by omega), fun h2 => ⟨by omega, fun h3 => ⟨by omega, by omega, by omega, ⟨by omega, by omega⟩, fun h4 => no (by omega), fun h4 => ⟨by omega, by omega, by omega, ⟨by omega, by omega⟩, fun h5 => no (by omega), fun h5 => ?_⟩⟩, fun h3 => no (by omega)⟩⟩⟩
  rw [e2, decide_eq_true ⟨by omega, h2, h3, by omega, by omega⟩] at kk; exact kk
theorem l_X7_findOrder20 {K : g_D → Prop} {k s a : Nat} {c : Nat → Nat → Int} {D0 : g_D} (hk : is_Script g_SH k) (hs : s ≤ 20) (ha : a < s) (hj : m ≤ 40) (hn : n ≤ 40) (hi : m_inv n m s c) (hc : x_cmd D0 k s c)
    (kk : ∀ D' : g_D, (∀ i, i ≠ k + 5 → D' i = D0 i) → (∀ a', a' < 20 → D' (k + 5) a' = ((if a' ≤ a then m_nx c s a' else 0 : Nat) : Int)) → n_X7_findOrder E l D' 10 [some (g_R k), some (g_I ((a + 1 : Nat) : Int)), none] K) :
    ∀ (q b : Nat) (D : g_D), s - b = q → b ≤ s → (∀ i, i ≠ k + 5 → D i = D0 i) → (∀ a', a' < 20 → D (k + 5) a' = ((if a' < a then m_nx c s a' else if a' = a then m_bits (m_ah c a) b else 0 : Nat) : Int)) → n_X7_findOrder E l D 20 [some (g_R k), some (g_I a), some (g_I b)] K := by
  intro q
  induction q with
  | zero =>
    intro b D hq hb hf hv
    obtain rfl : b = s := by omega
    have h14 : D k 8 = b := by rw [hf k (by omega)]; exact hc.1
    refine s_X7_findOrder_20 hk (fun _ _ _ => ⟨fun _ => ⟨⟨by omega, by omega⟩, ?_⟩, fun h => (by omega : False).elim⟩)
    rw [g_cast1]
    refine kk D hf (fun a' h1 => ?_)
    rw [hv a' h1]
    by_cases e1 : a' < a
    · rw [if_pos e1, if_pos (by omega)]
    · by_cases e2 : a' = a
      · rw [if_neg e1, if_pos e2, if_pos (by omega), e2, m_nx, if_pos ha]
      · rw [if_neg e1, if_neg e2, if_neg (by omega)]
  | succ q ih =>
    intro b D hq hb hf hv
    have h14 : D k 8 = s := by rw [hf k (by omega)]; exact hc.1
    have hc1 : x_cmd D k s c := by unfold x_cmd at *; rw [hf k (by omega), hf (k + 1) (by omega), hf (k + 2) (by omega), hf (k + 3) (by omega), hf (k + 4) (by omega)]; exact hc
    have hlt : m_bits (m_ah c a) b < 2 ^ 20 := Nat.lt_of_lt_of_le (m_bits_lt b) (Nat.pow_le_pow_right (by decide) (by omega))
    have hda : D (k + 5) a = (m_bits (m_ah c a) b : Nat) := by rw [hv a (by omega), if_neg (by omega), if_pos rfl]
    refine s_X7_findOrder_20 hk (fun _ _ _ => ⟨fun h => (by omega : False).elim, fun _ => c_X7_mustBeAhead hk hs ha (by omega) hj hn hi hc1 (fun _ => ⟨fun h => ⟨⟨by omega, by omega⟩, ?_⟩, fun h => ⟨by omega, by omega, fun D2 hD2 => ⟨⟨by omega, by omega⟩, ?_⟩⟩⟩)⟩)
    · rw [g_cast1]
      refine ih (b + 1) D (by omega) (by omega) hf (fun a' h1 => ?_)
      rw [hv a' h1, m_bits, g_b_0.mp h, if_neg Bool.false_ne_true, Nat.or_zero]
    · rw [Int.toNat_natCast, hda, g_shl1_n (by omega), g_or_n (by omega) (Nat.pow_lt_pow_right (by decide) (by omega))] at hD2
      rw [g_cast1]
      refine ih (b + 1) D2 (by omega) (by omega) (fun i hi => by rw [hD2, g_up_ne hi]; exact hf i hi) (fun a' h1 => ?_)
      rw [hD2]
      by_cases e : a' = a
      · rw [e, g_up_eq, if_neg (by omega), if_pos rfl, m_bits, g_b_n0.mp h, if_pos rfl]
      · rw [g_up_at e, hv a' h1, if_neg e, if_neg e]
theorem l_X7_findOrder10 {K : g_D → Prop} {k s : Nat} {c : Nat → Nat → Int} {D0 : g_D} (hk : is_Script g_SH k) (hs : s ≤ 20) (hj : m ≤ 40) (hn : n ≤ 40) (hi : m_inv n m s c) (hc : x_cmd D0 k s c)
    (kk : ∀ D' : g_D, (∀ i, i ≠ k + 5 → D' i = D0 i) → x_nx D' k s c → K D') :
    ∀ (q a : Nat) (D : g_D), s - a = q → a ≤ s → (∀ i, i ≠ k + 5 → D i = D0 i) → (∀ a', a' < 20 → D (k + 5) a' = ((if a' < a then m_nx c s a' else 0 : Nat) : Int)) → n_X7_findOrder E l D 10 [some (g_R k), some (g_I a), none] K := by
  intro q
  induction q with
  | zero =>
    intro a D hq ha hf hv
    obtain rfl : a = s := by omega
    have h14 : D k 8 = a := by rw [hf k (by omega)]; exact hc.1
    refine s_X7_findOrder_10 hk (fun _ _ => ⟨fun _ => kk D hf (fun a' h1 => ?_), fun h => (by omega : False).elim⟩)
    rw [hv a' h1]
    split
    · rfl
    · rename_i h; rw [m_nx, if_neg h]
  | succ q ih =>
    intro a D hq ha hf hv
    have h14 : D k 8 = s := by rw [hf k (by omega)]; exact hc.1
    refine s_X7_findOrder_10 hk (fun _ _ => ⟨fun h => (by omega : False).elim, fun _ => ?_⟩)
    refine l_X7_findOrder20 hk hs (by omega) hj hn hi hc (fun D' hf' hv' => ih (a + 1) D' (by omega) (by omega) hf' (fun a' h1 => ?_)) s 0 D rfl (Nat.zero_le _) hf (fun a' h => ?_)
    · rw [hv' a' h1]
      by_cases e : a' ≤ a
      · rw [if_pos e, if_pos (by omega)]
      · rw [if_neg e, if_neg (by omega)]
    · rw [hv a' h]
      by_cases e : a' < a
      · rw [if_pos e, if_pos e]
      · rw [if_neg e, if_neg e, m_bits]; split <;> rfl
theorem c_X7_build {K : g_D → Prop} {k r1 r2 n1 n2 le : Nat} {ch : Int} (hk : is_Script g_SH k) (hr1 : is_Cells g_SH r1 n1) (hr2 : is_Cells g_SH r2 n2) (hn1 : n ≤ n1) (hn2 : m ≤ n2) (ho : x_cl D r1 o n) (hw : x_cl D r2 w m) (hne : r1 + 1 < k ∧ r2 + 1 < k) (hle : 3 ≤ le) (hle2 : le ≤ 8)
    (kk : ∀ D' : g_D, x_fs k D D' → x_cmd D' k (m_cs ch le o w n m).1 (m_cs ch le o w n m).2 → m_inv n m (m_cs ch le o w n m).1 (m_cs ch le o w n m).2 → x_nx D' k (m_cs ch le o w n m).1 (m_cs ch le o w n m).2 → D' (k + 6) 4 = 0 → K D') : k_X7_build E l D k r1 r2 le ch K := by
  refine s_X7_build hk hr1 hr2 (fun _ _ _ D1 hD1 D2 hD2 => ?_)
  refine l_X7_build (D0 := D) (R := m_cs ch le o w n m) hk hr1 hr2 hn1 hn2 ho hw hne hle hle2 (fun D3 f3 hc hi h6 => ?_) m 0 0 (fun _ _ => 0) D2 (by omega) (Nat.zero_le _) (by rw [hD2, hD1]; exact ((x_fs.refl k D).up (by omega) (by omega)).up (by omega) (by omega)) ⟨by rw [hD2, g_up_ne (by omega), hD1, g_up_eq]; rfl, fun i hi => absurd hi (Nat.not_lt_zero i)⟩ m_inv.zero (by rw [hD2, g_up_eq]) rfl
  have hm40 : m ≤ 40 := hw.2.1
  have hn40 : n ≤ 40 := ho.2.1
  have h20 := hi.1
  refine s_X7_findOrder hk (fun _ => c_fill hk.2.2.2.2.2.1 (by decide) (fun D4 a1 a2 => ?_))
  have hc4 : x_cmd D4 k (m_cs ch le o w n m).1 (m_cs ch le o w n m).2 := by unfold x_cmd at *; rw [a1 k (by omega), a1 (k + 1) (by omega), a1 (k + 2) (by omega), a1 (k + 3) (by omega), a1 (k + 4) (by omega)]; exact hc
  refine l_X7_findOrder10 (D0 := D4) hk (by omega) hm40 hn40 hi hc4 (fun D5 f5 hx => kk D5 ⟨fun i hi => ?_, fun j hj => ?_⟩ ?_ hi hx ?_) _ 0 D4 rfl (Nat.zero_le _) (fun _ _ => rfl) (fun a' h => by rw [if_neg (by omega)]; exact a2 a' h)
  · rw [f5 i (by omega), a1 i (by omega)]; exact f3.1 i hi
  · rw [f5 (k + 6) (by omega), a1 (k + 6) (by omega)]; exact f3.2 j hj
  · unfold x_cmd at *; rw [f5 k (by omega), f5 (k + 1) (by omega), f5 (k + 2) (by omega), f5 (k + 3) (by omega), f5 (k + 4) (by omega)]; exact hc4
  · rw [f5 (k + 6) (by omega), a1 (k + 6) (by omega)]; exact h6
end CMD
