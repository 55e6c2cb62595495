section
/-- nothing but the model's work and new cells -/
def q_fw (D D' : g_D) : Prop := ∀ k, k ≠ 239 → k ≠ 240 → D' k = D k
theorem q_fw.refl (D : g_D) : q_fw D D := fun _ _ _ => rfl
theorem q_fw.trans {D D' D'' : g_D} (h : q_fw D D') (h2 : q_fw D' D'') : q_fw D D'' := fun k a b => (h2 k a b).trans (h k a b)
theorem q_fw.act {D D' : g_D} {b : Nat → Int} {n : Nat} (h : q_fw D D') (ha : m_act D b n) : m_act D' b n := by unfold m_act at *; rw [h 209 (by decide) (by decide)]; exact ha
theorem q_fw.st {D D' : g_D} {b : Nat → Int} {n c : Nat} (h : q_fw D D') (ha : m_st D b n c) : m_st D' b n c := by unfold m_st at *; rw [h 208 (by decide) (by decide), h 235 (by decide) (by decide), h 236 (by decide) (by decide)]; exact ha
section DEVM
variable {E : g_E} {l : Launch} {sh : List g_Sh} {D : g_D} {b W : Nat → Int} {N n : Nat}
theorem c_X12_readsNow {K : Int → g_D → Prop} {i c : Nat} (hA : q_A b N n) (h : m_act D b n) (hi : i < n) (h1 : ¬ a_k b i = 1) (hc1 : n_to b i ≤ c) (hc2 : c < n_to b i + n_ln b i) (hW : m_Wk D W) (kk : K (q_rd b W i (c - n_to b i)) D) : k_X12_readsNow E l D i c K := by
  have hn := hA.2.1
  have hle := (hA.1 i hi).le
  obtain ⟨o1, o2, o3, o4, o5, o6, o7, k1, k2, k3, k4, k5, k6⟩ := hA.1 i hi
  have ha := h.2 i hi
  unfold q_rd at kk
  have efr : a_k b i = 4 → a_fr b i = r_Q b i := fun q => by unfold a_fr; rw [if_neg (by omega), if_pos q]
  by_cases e4 : a_k b i = 4
  · have hq := ha.2.2.2.2.1 e4
    refine s_X12_readsNow (fun _ _ _ => c_now1 h hn hi (fun _ => ⟨⟨by omega, by omega⟩, c_now2 h hn hi (fun _ => ⟨by rw [efr e4]; exact ⟨by omega, by omega⟩, c_now0 h hn hi (fun _ => ⟨fun w => c_now0 h hn hi (fun _ => ⟨fun w2 => ?_, fun w2 => (by omega : False).elim⟩), fun w => (by omega : False).elim⟩)⟩)⟩))
    rw [efr e4]
    refine ⟨⟨by omega, by omega⟩, by omega, ?_⟩
    rw [if_neg w, if_neg w2] at kk
    rw [show (358 + ((r_Q b i : Int) + ((c : Int) - a_to b i))).toNat = 358 + r_Q b i + (c - n_to b i) by omega, ha.2.2.2.2.2 e4 _ (by omega)]
    exact kk
  · have hle4 := hle.2 e4
    refine s_X12_readsNow (fun _ _ _ => c_now1 h hn hi (fun _ => ⟨⟨by omega, by omega⟩, c_now2 h hn hi (fun _ => ⟨⟨by omega, by omega⟩, c_now0 h hn hi (fun _ => ⟨fun w => c_now0 h hn hi (fun _ => ⟨fun w2 => (by omega : False).elim, fun w2 => ?_⟩), fun w => ?_⟩)⟩)⟩))
    · have k3 := k3 w2
      rw [if_neg w, if_pos w2] at kk
      refine ⟨⟨by omega, by omega⟩, by omega, ?_⟩
      rw [show (40 + (a_fr b i + ((c : Int) - a_to b i))).toNat = 40 + n_fr b i + (c - n_to b i) by omega, hW _ (by omega)]
      exact kk
    · rw [if_pos w] at kk
      refine ⟨by omega, ?_⟩
      rw [show (a_fr b i + ((c : Int) - a_to b i)).toNat = n_fr b i + (c - n_to b i) by omega, hW _ (by omega)]
      exact kk
theorem c_X12_laysNewCells {K : g_D → Prop} {s : Nat} (hA : q_A b N n) (h : m_act D b n) (hst : m_st D b n (t_o b n)) (hs : s < t_o b n) (hb1 : ¬ t_sb b n s = -1) (hW : m_Wk D W)
    (kk : ∀ D' : g_D, (∀ j, j ≠ 240 → D' j = D j) → (∀ c, c < 4 → D' 240 c = q_cm b n W s c) → K D') : k_X12_laysNewCells E l D s K := by
  have hn := hA.2.1
  obtain ⟨a1, a2, a3⟩ := t_sb_rng hA.1 hs
  have hk1 : ¬ a_k b (t_sa b n s) = 1 := fun q => hb1 (a2 q)
  have a3 := a3 hk1
  have hcnt := hA.cnt
  have hst1 := hst.2 s hs
  have ok := hA.1 _ a1
  obtain ⟨B, hB⟩ : ∃ B : Nat, t_sb b n s = B := ⟨(t_sb b n s).toNat, by omega⟩
  generalize hi : t_sa b n s = i at *
  have eC : ∀ c, q_cm b n W s c = q_nc b W i (4 * B + c) := fun c => by unfold q_cm; rw [hi, hB, Int.toNat_natCast]
  have key : ∀ (q c : Nat) (D1 : g_D), 4 - c = q → c ≤ 4 → (∀ j, j ≠ 240 → D1 j = D j) → (∀ x, x < c → D1 240 x = q_cm b n W s x) → n_X12_laysNewCells E l D1 2 [some (g_R 208), some (g_I s), some (g_I c), none] K := by
    intro q
    induction q with
    | zero =>
      intro c D1 hq hc f hy
      obtain rfl : c = 4 := by omega
      exact s_X12_laysNewCells_2 (fun _ _ _ => ⟨fun _ => kk D1 f hy, fun w => (by omega : False).elim⟩)
    | succ q ih =>
      intro c D1 hq hc f hy
      have h1 : m_act D1 b n := by unfold m_act at *; rw [f 209 (by decide)]; exact h
      have hW1 : m_Wk D1 W := by unfold m_Wk at *; rw [f 239 (by decide)]; exact hW
      have q6 : D1 236 s = (B : Nat) := by rw [f 236 (by decide), hst1.2]; exact hB
      have q5 : D1 235 s = (i : Nat) := by rw [f 235 (by decide), hst1.1]
      have put : ∀ (v : Int) (D2 : g_D), D2 = g_up D1 240 c v → v = q_cm b n W s c → (g_r ((c : Int) + 1)) ∧ (n_X12_laysNewCells E l D2 2 [some (g_R 208), some (g_I s), some (g_I ((c : Int) + 1)), none] K) := by
        intro v D2 e2 ev
        refine ⟨⟨by omega, by omega⟩, ?_⟩
        rw [g_cast1]
        refine ih (c + 1) D2 (by omega) (by omega) (fun j hj => by rw [e2, g_up_ne hj]; exact f j hj) (fun x hx' => ?_)
        rw [e2]
        by_cases e : x = c
        · subst e; rw [g_up_eq]; exact ev
        · rw [g_up_at e]; exact hy x (by omega)
      refine s_X12_laysNewCells_2 (fun _ _ _ => ⟨fun w => (by omega : False).elim, fun _ => ?_⟩)
      rw [Int.toNat_natCast, Int.toNat_natCast, q5, q6, show 4 * (B : Int) + c = ((4 * B + c : Nat) : Int) by omega]
      refine ⟨by omega, ⟨by omega, by omega⟩, ⟨by omega, by omega⟩, by omega, c_writes h1 hn a1 ok (fun _ => ⟨fun w => ⟨by omega, by omega, fun D2 e2 => put _ D2 e2 ?_⟩, fun w => ⟨by omega, ?_⟩⟩)⟩
      · have w := g_b_0.mp w
        unfold tq_w at w
        rw [decide_eq_false_iff_not] at w
        rw [Int.toNat_natCast, hW1 _ (by omega), eC]
        unfold q_nc
        rw [if_neg (fun z => w ⟨hk1, z⟩)]
      · have w := g_b_n0.mp w
        unfold tq_w at w
        rw [decide_eq_true_iff] at w
        rw [q5]
        refine c_X12_readsNow hA h1 a1 hk1 w.2.1 w.2.2 hW1 (fun _ => ⟨by omega, fun D2 e2 => put _ D2 e2 ?_⟩)
        rw [eC]; unfold q_nc; rw [if_pos w.2]
  exact s_X12_laysNewCells (fun _ _ => key 4 0 D rfl (by omega) (fun _ _ => rfl) (fun x hx' => absurd hx' (Nat.not_lt_zero x)))
theorem c_X12_savesCells {K : g_D → Prop} {s m : Nat} (hA : q_A b N n) (h : m_act D b n) (hst : m_st D b n (t_o b n)) (hs : s < t_o b n) (h1 : a_k b (t_sa b n s) = 1) (hm : m ≤ 1000) (hW : m_Wk D W)
    (kk : ∀ D' : g_D, (∀ j, j ≠ 239 → D' j = D j) → m_Wk D' (q_sv b W (t_sa b n s) m) → K D') : k_X12_savesCells E l D s m K := by
  have hn := hA.2.1
  obtain ⟨a1, a2, a3⟩ := t_sb_rng hA.1 hs
  have hcnt := hA.cnt
  have hst1 := hst.2 s hs
  obtain ⟨o1, o2, o3, o4, o5, o6, o7, k1, k2, k3, k4, k5, k6⟩ := hA.1 _ a1
  have k1 := k1 h1
  generalize hi : t_sa b n s = i at *
  have key : ∀ (q t : Nat) (D1 : g_D), min m (n_ln b i) - t = q → t ≤ min m (n_ln b i) → (∀ j, j ≠ 239 → D1 j = D j) → (∀ x, x < 60 → D1 239 x = if 40 + n_to b i ≤ x ∧ x < 40 + n_to b i + t then W (n_fr b i + (x - (40 + n_to b i))) else W x) → n_X12_savesCells E l D1 10 [some (g_R 208), none, some (g_I m), some (g_I i), some (g_I t)] K := by
    intro q
    induction q with
    | zero =>
      intro t D1 hq ht f hy
      have h2 : m_act D1 b n := by unfold m_act at *; rw [f 209 (by decide)]; exact h
      have fin : K D1 := kk D1 f (fun x hx => by
        rw [hy x hx]
        unfold q_sv
        rw [show t = min m (n_ln b i) by omega])
      exact s_X12_savesCells_10 (fun _ _ _ _ => ⟨fun _ => fin, fun w => c_now3 h2 hn a1 (fun _ => ⟨fun _ => fin, fun w2 => (by omega : False).elim⟩)⟩)
    | succ q ih =>
      intro t D1 hq ht f hy
      have h2 : m_act D1 b n := by unfold m_act at *; rw [f 209 (by decide)]; exact h
      refine s_X12_savesCells_10 (fun _ _ _ _ => ⟨fun w => (by omega : False).elim, fun _ => c_now3 h2 hn a1 (fun _ => ⟨fun w => (by omega : False).elim, fun _ => c_now1 h2 hn a1 (fun _ => ⟨⟨by omega, by omega⟩, ⟨by omega, by omega⟩, c_now2 h2 hn a1 (fun _ => ⟨⟨by omega, by omega⟩, by omega, by omega, fun D2 e2 => ⟨⟨by omega, by omega⟩, ?_⟩⟩)⟩)⟩)⟩)
      rw [g_cast1]
      rw [show (40 + a_to b i + (t : Int)).toNat = 40 + n_to b i + t by omega, show (a_fr b i + (t : Int)).toNat = n_fr b i + t by omega, hy _ (by omega), if_neg (by omega)] at e2
      refine ih (t + 1) D2 (by omega) (by omega) (fun j hj => by rw [e2, g_up_ne hj]; exact f j hj) (fun x hx => ?_)
      rw [e2]
      by_cases e : x = 40 + n_to b i + t
      · subst e
        rw [g_up_eq, if_pos (by omega), Nat.add_sub_cancel_left]
      · rw [g_up_at e, hy x hx]
        by_cases e2 : 40 + n_to b i ≤ x ∧ x < 40 + n_to b i + t
        · rw [if_pos e2, if_pos (by omega)]
        · rw [if_neg e2, if_neg (by omega)]
  refine s_X12_savesCells (fun _ _ _ => ⟨by omega, ?_⟩)
  rw [Int.toNat_natCast, hst1.1]
  exact key _ 0 D rfl (Nat.zero_le _) (fun _ _ => rfl) (fun x hx => by rw [if_neg (by omega)]; exact hW x hx)
theorem c_X12_doesStep {K : g_D → Prop} {s : Nat} (hA : q_A b N n) (h : m_act D b n) (hst : m_st D b n (t_o b n)) (hs : s < t_o b n) (hW : m_Wk D W)
    (kk : ∀ D' : g_D, q_fw D D' → m_Wk D' (q_do b n W s) → K D') : k_X12_doesStep E l D s K := by
  obtain ⟨a1, a2, a3⟩ := t_sb_rng hA.1 hs
  have hcnt := hA.cnt
  have hst1 := hst.2 s hs
  unfold q_do at kk
  refine s_X12_doesStep (fun _ _ => ⟨by omega, ?_⟩)
  rw [Int.toNat_natCast, hst1.2]
  refine ⟨fun w => ?_, fun w => ?_⟩
  · rw [if_neg w] at kk
    have hk1 : ¬ a_k b (t_sa b n s) = 1 := fun q => w (a2 q)
    have a3 := a3 hk1
    obtain ⟨B, hB⟩ : ∃ B : Nat, t_sb b n s = B := ⟨(t_sb b n s).toNat, by omega⟩
    rw [hB, Int.toNat_natCast] at kk
    refine c_X12_laysNewCells hA h hst hs w hW (fun D1 f1 hc => ?_)
    have key : ∀ (q c : Nat) (D2 : g_D), 4 - c = q → c ≤ 4 → (∀ j, j ≠ 239 → D2 j = D1 j) → (∀ x, x < 60 → D2 239 x = if 4 * B ≤ x ∧ x < 4 * B + c then q_cm b n W s (x - 4 * B) else W x) → n_X12_doesStep E l D2 25 [some (g_R 208), some (g_I s), some (g_I c)] K := by
      intro q
      induction q with
      | zero =>
        intro c D2 hq hc' f2 hy
        obtain rfl : c = 4 := by omega
        refine s_X12_doesStep_25 (fun _ _ _ => ⟨fun _ => kk D2 (fun j c1 c2 => by rw [f2 j c1, f1 j c2]) (fun x hx => ?_), fun w => (by omega : False).elim⟩)
        rw [hy x hx]
        unfold q_wb
        by_cases e : 4 * B ≤ x ∧ x < 4 * B + 4
        · rw [if_pos e, if_pos e, if_pos e.2]
        · rw [if_neg e, if_neg e]
      | succ q ih =>
        intro c D2 hq hc' f2 hy
        have q6 : D2 236 s = (B : Nat) := by rw [f2 236 (by decide), f1 236 (by decide), hst1.2]; exact hB
        have q0 : D2 240 c = q_cm b n W s c := by rw [f2 240 (by decide)]; exact hc c (by omega)
        refine s_X12_doesStep_25 (fun _ _ _ => ⟨fun w => (by omega : False).elim, fun _ => ?_⟩)
        rw [Int.toNat_natCast, Int.toNat_natCast, q6, q0, show (4 * (B : Int) + c).toNat = 4 * B + c by omega]
        refine ⟨by omega, ⟨by omega, by omega⟩, ⟨by omega, by omega⟩, by omega, by omega, fun D3 e3 => ⟨⟨by omega, by omega⟩, ?_⟩⟩
        rw [g_cast1]
        refine ih (c + 1) D3 (by omega) (by omega) (fun j hj => by rw [e3, g_up_ne hj]; exact f2 j hj) (fun x hx => ?_)
        rw [e3]
        by_cases e : x = 4 * B + c
        · subst e; rw [g_up_eq, if_pos (by omega), Nat.add_sub_cancel_left]
        · rw [g_up_at e, hy x hx]
          by_cases e2 : 4 * B ≤ x ∧ x < 4 * B + c
          · rw [if_pos e2, if_pos (by omega)]
          · rw [if_neg e2, if_neg (by omega)]
    exact key 4 0 D1 rfl (by omega) (fun _ _ => rfl) (fun x hx => by rw [if_neg (by omega), f1 239 (by decide)]; exact hW x hx)
  · rw [if_pos w] at kk
    have hk1 : a_k b (t_sa b n s) = 1 := Classical.byContradiction (fun q => by have := a3 q; omega)
    exact c_X12_savesCells (m := 40) hA h hst hs hk1 (by omega) hW (fun D' f w' => kk D' (fun j c1 _ => f j c1) w')
def q_run (b : Nat → Int) (n : Nat) (W : Nat → Int) (s : Nat) : Nat → (Nat → Int)
  | 0 => W
  | j + 1 => q_do b n (q_run b n W s j) (s + j)
theorem c_X12_doesSteps {K : g_D → Prop} {s t : Nat} (hA : q_A b N n) (h : m_act D b n) (hst : m_st D b n (t_o b n)) (ht : s ≤ t) (hs : t ≤ t_o b n) (hW : m_Wk D W)
    (kk : ∀ D' : g_D, q_fw D D' → m_Wk D' (q_run b n W s (t - s)) → K D') : k_X12_doesSteps E l D s t K := by
  have hcnt := hA.cnt
  have key : ∀ (q j : Nat) (D1 : g_D), t - s - j = q → j ≤ t - s → q_fw D D1 → m_Wk D1 (q_run b n W s j) → n_X12_doesSteps E l D1 2 [some (g_R 208), none, some (g_I t), some (g_I ((s + j : Nat) : Int))] K := by
    intro q
    induction q with
    | zero =>
      intro j D1 hq hj f hw
      obtain rfl : j = t - s := by omega
      exact s_X12_doesSteps_2 (fun _ _ _ => ⟨fun _ => kk D1 f hw, fun w => (by omega : False).elim⟩)
    | succ q ih =>
      intro j D1 hq hj f hw
      refine s_X12_doesSteps_2 (fun _ _ _ => ⟨fun w => (by omega : False).elim, fun _ => c_X12_doesStep hA (f.act h) (f.st hst) (by omega) hw (fun D2 f2 w2 => ⟨⟨by omega, by omega⟩, ?_⟩)⟩)
      rw [g_cast1]
      exact ih (j + 1) D2 (by omega) (by omega) (f.trans f2) w2
  exact s_X12_doesSteps (fun _ _ _ => key _ 0 D rfl (Nat.zero_le _) (q_fw.refl D) hW)
end DEVM
end
