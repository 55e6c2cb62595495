section
/-! the steps of the acts -/
def n_to (b : Nat → Int) (i : Nat) : Nat := (a_to b i).toNat
def n_fr (b : Nat → Int) (i : Nat) : Nat := (a_fr b i).toNat
def n_ln (b : Nat → Int) (i : Nat) : Nat := (a_ln b i).toNat
def t_f (b : Nat → Int) (i : Nat) : Nat := n_to b i / 4
def t_l (b : Nat → Int) (i : Nat) : Nat := (n_to b i + n_ln b i - 1) / 4
def t_dn (b : Nat → Int) (i : Nat) : Prop := a_k b i = 2 ∧ a_fr b i < a_to b i
def t_len (b : Nat → Int) (i : Nat) : Nat := if a_k b i = 1 then 1 else t_l b i - t_f b i + 1
def t_o (b : Nat → Int) : Nat → Nat
  | 0 => 0
  | i + 1 => t_o b i + t_len b i
def t_bk (b : Nat → Int) (i j : Nat) : Int := if a_k b i = 1 then -1 else if a_k b i = 2 ∧ a_fr b i < a_to b i then (t_l b i : Int) - j else (t_f b i : Int) + j
def t_sa (b : Nat → Int) : Nat → Nat → Nat
  | 0, _ => 0
  | n + 1, s => if s < t_o b n then t_sa b n s else n
def t_sb (b : Nat → Int) (n s : Nat) : Int := t_bk b (t_sa b n s) (s - t_o b (t_sa b n s))
/-- what holds of an act, in natural numbers -/
def r_okN (b : Nat → Int) (N i : Nat) : Prop := i < 36 ∧ 1 ≤ a_k b i ∧ a_k b i ≤ 4 ∧ a_to b i = n_to b i ∧ a_fr b i = n_fr b i ∧ a_ln b i = n_ln b i ∧ 1 ≤ n_ln b i ∧
  (a_k b i = 1 → n_fr b i + n_ln b i ≤ 40 ∧ n_to b i + n_ln b i ≤ 20) ∧ (a_k b i = 2 → n_fr b i + n_ln b i ≤ 40 ∧ n_to b i + n_ln b i ≤ 40) ∧ (a_k b i = 3 → n_fr b i + n_ln b i ≤ 20 ∧ n_to b i + n_ln b i ≤ 40) ∧ (a_k b i = 4 → n_to b i + n_ln b i ≤ 40 ∧ r_P b i + 3 + n_ln b i ≤ N) ∧ (¬ a_k b i = 4 → a_sr b i = n_fr b i) ∧ (a_k b i = 4 → a_sr b i = ((r_P b i + 3 : Nat) : Int))
theorem r_okA.nat {b : Nat → Int} {N i : Nat} (h : r_okA b N i) : r_okN b N i := by
  obtain ⟨h0, h1, h2, h3, h4, h5, h6, h7, k1, k2, k3, k4, k5⟩ := h
  have hs : a_k b i = 4 → a_sr b i = ((r_P b i + 3 : Nat) : Int) := fun q => by unfold a_sr; rw [if_neg (by omega), if_pos q]
  unfold r_okN n_to n_fr n_ln
  refine ⟨h1, h2, h3, by omega, by omega, by omega, by omega, fun q => by have := k1 q; omega, fun q => by have := k2 q; omega, fun q => by have := k3 q; omega, fun q => by have := k4 q; have := hs q; omega, fun q => by have := k5 q; omega, hs⟩
theorem t_len_pos {b : Nat → Int} {i : Nat} : 1 ≤ t_len b i := by unfold t_len; split <;> omega
theorem t_l_rng {b : Nat → Int} {N i : Nat} (h : r_okN b N i) : t_f b i ≤ t_l b i ∧ (¬ a_k b i = 1 → t_l b i ≤ 9) := by
  obtain ⟨h1, h2, h3, h4, h5, h6, h7, k1, k2, k3, k4, k5, k6⟩ := h
  unfold t_f t_l
  refine ⟨by omega, fun q => ?_⟩
  by_cases q2 : a_k b i = 2
  · have := k2 q2; omega
  · by_cases q3 : a_k b i = 3
    · have := k3 q3; omega
    · have := k4 (by omega); omega
theorem t_len_le {b : Nat → Int} {N i : Nat} (h : r_okN b N i) : t_len b i ≤ 10 := by
  have := t_l_rng h
  unfold t_len
  split
  · omega
  · rename_i q; have := this.2 q; omega
theorem t_o_S {b : Nat → Int} {i : Nat} : t_o b (i + 1) = t_o b i + t_len b i := rfl
theorem t_o_mono {b : Nat → Int} {i : Nat} : ∀ {n : Nat}, i ≤ n → t_o b i ≤ t_o b n
  | 0, h => by rw [show i = 0 by omega]; exact Nat.le_refl _
  | n + 1, h => by
    by_cases e : i = n + 1
    · rw [e]; exact Nat.le_refl _
    · exact Nat.le_trans (t_o_mono (n := n) (by omega)) (Nat.le_add_right _ _)
theorem t_o_le {b : Nat → Int} {N : Nat} : ∀ {n : Nat}, (∀ i, i < n → r_okN b N i) → t_o b n ≤ 10 * n
  | 0, _ => Nat.le_refl _
  | n + 1, h => by
    have h1 := t_o_le (n := n) (fun i hi => h i (by omega))
    have h2 := t_len_le (h n (by omega))
    rw [t_o_S]; omega
theorem t_sa_spec {b : Nat → Int} {s : Nat} : ∀ {n : Nat}, s < t_o b n → t_sa b n s < n ∧ t_o b (t_sa b n s) ≤ s ∧ s < t_o b (t_sa b n s + 1)
  | 0, h => absurd h (Nat.not_lt_zero s)
  | n + 1, h => by
    rw [t_sa]
    by_cases q : s < t_o b n
    · rw [if_pos q]
      obtain ⟨a1, a2, a3⟩ := t_sa_spec q
      exact ⟨by omega, a2, a3⟩
    · rw [if_neg q]
      exact ⟨by omega, by omega, h⟩
theorem t_sa_eq {b : Nat → Int} {n i s : Nat} (hi : i < n) (h1 : t_o b i ≤ s) (h2 : s < t_o b (i + 1)) : t_sa b n s = i := by
  have hn : t_o b (i + 1) ≤ t_o b n := t_o_mono hi
  obtain ⟨a1, a2, a3⟩ := t_sa_spec (n := n) (show s < t_o b n by omega)
  rcases Nat.lt_trichotomy (t_sa b n s) i with q | q | q
  · have : t_o b (t_sa b n s + 1) ≤ t_o b i := t_o_mono q
    omega
  · exact q
  · have : t_o b (i + 1) ≤ t_o b (t_sa b n s) := t_o_mono q
    omega
theorem t_sb_eq {b : Nat → Int} {n i j : Nat} (hi : i < n) (hj : j < t_len b i) : t_sa b n (t_o b i + j) = i ∧ t_sb b n (t_o b i + j) = t_bk b i j := by
  have e : t_sa b n (t_o b i + j) = i := t_sa_eq hi (by omega) (by rw [t_o_S]; omega)
  refine ⟨e, ?_⟩
  unfold t_sb
  rw [e, Nat.add_sub_cancel_left]
theorem t_bk_rng {b : Nat → Int} {N i j : Nat} (h : r_okN b N i) (hj : j < t_len b i) (hk : ¬ a_k b i = 1) : t_f b i ≤ t_bk b i j ∧ t_bk b i j ≤ t_l b i := by
  have := (t_l_rng h).1
  unfold t_len at hj
  rw [if_neg hk] at hj
  unfold t_bk
  rw [if_neg hk]
  split <;> omega
theorem t_sb_rng {b : Nat → Int} {N n s : Nat} (h : ∀ i, i < n → r_okN b N i) (hs : s < t_o b n) : t_sa b n s < n ∧ (a_k b (t_sa b n s) = 1 → t_sb b n s = -1) ∧ (¬ a_k b (t_sa b n s) = 1 → t_f b (t_sa b n s) ≤ t_sb b n s ∧ t_sb b n s ≤ t_l b (t_sa b n s) ∧ t_sb b n s ≤ 9) := by
  obtain ⟨a1, a2, a3⟩ := t_sa_spec hs
  refine ⟨a1, fun q => ?_, fun q => ?_⟩
  · unfold t_sb t_bk; rw [if_pos q]
  · rw [t_o_S] at a3
    have h1 := t_bk_rng (j := s - t_o b (t_sa b n s)) (h _ a1) (by omega) q
    have h2 := (t_l_rng (h _ a1)).2 q
    unfold t_sb
    omega
/-- the steps that the class, and those that the model has listed -/
def x_st (D : g_D) (b : Nat → Int) (n c : Nat) : Prop := D 175 4 = c ∧ ∀ s, s < c → D 183 s = t_sa b n s ∧ D 184 s = t_sb b n s
def m_st (D : g_D) (b : Nat → Int) (n c : Nat) : Prop := D 208 46 = c ∧ ∀ s, s < c → D 235 s = t_sa b n s ∧ D 236 s = t_sb b n s
/-- the acts that the model has taken -/
def m_act (D : g_D) (b : Nat → Int) (n : Nat) : Prop := D 209 213 = n ∧ ∀ i, i < n → D 209 (214 + 4 * i) = a_k b i ∧ D 209 (214 + 4 * i + 1) = a_to b i ∧ D 209 (214 + 4 * i + 2) = a_fr b i ∧ D 209 (214 + 4 * i + 3) = a_ln b i ∧ (a_k b i = 4 → r_Q b i + n_ln b i ≤ 160) ∧ (a_k b i = 4 → ∀ t, t < n_ln b i → D 209 (358 + r_Q b i + t) = b (r_P b i + 3 + t))
theorem m_act.fr {D D' : g_D} {b : Nat → Int} {n : Nat} (h : m_act D b n) (e : ∀ j, 213 ≤ j → j < 518 → D' 209 j = D 209 j) (hn : n ≤ 36) : m_act D' b n := by
  refine ⟨by rw [e 213 (by omega) (by omega)]; exact h.1, fun i hi => ?_⟩
  obtain ⟨h1, h2, h3, h4, h5, h6⟩ := h.2 i hi
  refine ⟨by rw [e _ (by omega) (by omega)]; exact h1, by rw [e _ (by omega) (by omega)]; exact h2, by rw [e _ (by omega) (by omega)]; exact h3, by rw [e _ (by omega) (by omega)]; exact h4, h5, fun q t ht => ?_⟩
  rw [e _ (by omega) (by omega)]; exact h6 q t ht
section STEP
variable {E : g_E} {l : Launch} {sh : List g_Sh} {D : g_D} {b : Nat → Int} {N n : Nat}
theorem c_X1_append {K : g_D → Prop} {c : Nat} {v1 v2 : Int} (h : D 175 4 = c) (hc : c < 360) (kk : ∀ D' : g_D, D' = g_up (g_up (g_up D 183 c v1) 184 c v2) 175 4 ((c + 1 : Nat) : Int) → K D') : k_X1_append E l D v1 v2 K := by
  refine s_X1_append (fun _ _ _ => ?_)
  rw [h, Int.toNat_natCast]
  exact ⟨fun q => (by omega : False).elim, fun _ => ⟨by omega, fun D1 e1 => ⟨by omega, fun D2 e2 => ⟨⟨by omega, by omega⟩, fun D3 e3 => kk D3 (by rw [e3, e2, e1, g_cast1])⟩⟩⟩⟩
/-- nothing but the class's list of steps -/
def x_fst (D D' : g_D) : Prop := (∀ k, k ≠ 175 → k ≠ 183 → k ≠ 184 → D' k = D k) ∧ ∀ j, j ≠ 4 → D' 175 j = D 175 j
theorem x_fst.refl (D : g_D) : x_fst D D := ⟨fun _ _ _ _ => rfl, fun _ _ => rfl⟩
theorem x_fst.trans {D D' D'' : g_D} (h : x_fst D D') (h2 : x_fst D' D'') : x_fst D D'' := ⟨fun k a b c => (h2.1 k a b c).trans (h.1 k a b c), fun j a => (h2.2 j a).trans (h.2 j a)⟩
theorem c_stepX {K : g_D → Prop} {D0 : g_D} {i j : Nat} {v : Int} (f : x_fst D0 D) (h : x_st D b n (t_o b i + j)) (hi : i < n) (hj : j < t_len b i) (hc : t_o b i + j < 360) (hv : v = t_bk b i j) (kk : ∀ D' : g_D, x_fst D0 D' → x_st D' b n (t_o b i + (j + 1)) → K D') : k_X1_append E l D i v K := by
  obtain ⟨e1, e2⟩ := t_sb_eq hi hj
  refine c_X1_append h.1 hc (fun D' e => kk D' (f.trans ⟨fun k a b c => ?_, fun q a => ?_⟩) ⟨?_, fun s hs => ?_⟩)
  · rw [e]; simp (disch := omega) only [g_up_ne, ne_eq, not_false_eq_true]
  · rw [e, g_up_at a]; simp (disch := omega) only [g_up_ne, ne_eq, not_false_eq_true]
  · rw [e, g_up_eq]; rfl
  · rw [e]
    simp (disch := omega) only [g_up_ne, ne_eq, not_false_eq_true]
    by_cases q : s = t_o b i + j
    · subst q
      rw [g_up_eq, g_up_eq, e1, e2]
      exact ⟨rfl, hv⟩
    · rw [g_up_at q, g_up_at q, g_up_ne (by decide)]
      exact h.2 s (by omega)
theorem c_X1_listBlocks {K : g_D → Prop} {D0 : g_D} {i : Nat} (hA : ∀ i, i < n → r_okN b N i) (hn : n ≤ 36) (hi : i < n) (hk : ¬ a_k b i = 1) (hR : x_rdA D0 176 n b) (f : x_fst D0 D) (h : x_st D b n (t_o b i)) (kk : ∀ D' : g_D, x_fst D0 D' → x_st D' b n (t_o b (i + 1)) → K D') : k_X1_listBlocks E l D i K := by
  have ok := hA i hi
  obtain ⟨o1, o2, o3, o4, o5, o6, o7, k1, k2, k3, k4, k5, k6⟩ := ok
  obtain ⟨a1, a2, a3, a4⟩ := hR i hi
  have hrng := t_l_rng (hA i hi)
  have hl9 := hrng.2 hk
  have fr : ∀ k, k ≠ 175 → k ≠ 183 → k ≠ 184 → D k = D0 k := fun k a b c => f.1 k a b c
  have q7 : D 177 i = a_k b i := by rw [fr 177 (by decide) (by decide) (by decide)]; exact a1
  have q8 : D 178 i = a_to b i := by rw [fr 178 (by decide) (by decide) (by decide)]; exact a2
  have q9 : D 179 i = a_sr b i := by rw [fr 179 (by decide) (by decide) (by decide)]; exact a3
  have q0 : D 180 i = a_ln b i := by rw [fr 180 (by decide) (by decide) (by decide)]; exact a4
  have hcnt : t_o b n ≤ 360 := by have := t_o_le hA; omega
  have hnx : t_o b (i + 1) ≤ t_o b n := t_o_mono hi
  have eL : t_len b i = t_l b i - t_f b i + 1 := by unfold t_len; rw [if_neg hk]
  rw [t_o_S] at hnx
  have key : ∀ (dn : Int), (dn = 0 → ¬ (a_k b i = 2 ∧ a_fr b i < a_to b i)) → (¬ dn = 0 → (a_k b i = 2 ∧ a_fr b i < a_to b i)) → ∀ (q j : Nat) (D1 : g_D), t_len b i - j = q → j ≤ t_len b i → x_fst D0 D1 → x_st D1 b n (t_o b i + j) → n_X1_listBlocks E l D1 80 [some (g_R 175), some (g_I i), some (g_I (t_f b i : Nat)), some (g_I (t_l b i : Nat)), some (g_I dn), some (g_I j)] K := by
    intro dn d0 d1 q
    induction q with
    | zero =>
      intro j D1 hq hj f1 h1
      refine s_X1_listBlocks_80 (fun _ _ _ _ _ _ => ⟨⟨by omega, by omega⟩, fun _ => kk D1 f1 ?_, fun w => (by omega : False).elim⟩)
      rw [t_o_S, show t_len b i = j by omega]; exact h1
    | succ q ih =>
      intro j D1 hq hj f1 h1
      refine s_X1_listBlocks_80 (fun _ _ _ _ _ _ => ⟨⟨by omega, by omega⟩, fun w => (by omega : False).elim, fun _ => ⟨fun w => ⟨⟨by omega, by omega⟩, ?_⟩, fun w => ⟨⟨by omega, by omega⟩, ?_⟩⟩⟩)
      · refine c_stepX f1 h1 hi (by omega) (by omega) ?_ (fun D2 f2 h2 => ⟨⟨by omega, by omega⟩, ?_⟩)
        · unfold t_bk; rw [if_neg hk, if_neg (d0 w)]
        · rw [g_cast1]; exact ih (j + 1) D2 (by omega) (by omega) f2 h2
      · refine c_stepX f1 h1 hi (by omega) (by omega) ?_ (fun D2 f2 h2 => ⟨⟨by omega, by omega⟩, ?_⟩)
        · unfold t_bk; rw [if_neg hk, if_pos (d1 w)]
        · rw [g_cast1]; exact ih (j + 1) D2 (by omega) (by omega) f2 h2
  refine s_X1_listBlocks (fun _ _ => ?_)
  rw [Int.toNat_natCast, q7, q8, q9, q0]
  have ef : a_to b i / 4 = (t_f b i : Nat) := by unfold t_f; omega
  have el : (a_to b i + a_ln b i - 1) / 4 = (t_l b i : Nat) := by unfold t_l; omega
  rw [ef, el]
  have lens : n_to b i + n_ln b i ≤ 40 := by
    by_cases q2 : a_k b i = 2
    · have := k2 q2; omega
    · by_cases q3 : a_k b i = 3
      · have := k3 q3; omega
      · have := k4 (by omega); omega
  refine ⟨by omega, by omega, by omega, by omega, ⟨by omega, by omega⟩, ⟨by omega, by omega⟩, by omega, by omega, fun w => ?_, fun w => ⟨by omega, by omega, fun w2 => ?_, fun w2 => ?_⟩⟩
  · exact key 0 (fun _ q => w q.1) (fun q => absurd rfl q) _ 0 D rfl (Nat.zero_le _) f h
  · exact key 0 (fun _ q => by have := k5 (by omega); omega) (fun q => absurd rfl q) _ 0 D rfl (Nat.zero_le _) f h
  · exact key 1 (fun q => absurd q (by decide)) (fun _ => ⟨w, by have := k5 (by omega); omega⟩) _ 0 D rfl (Nat.zero_le _) f h
theorem c_X1_listSteps {K : g_D → Prop} (hA : ∀ i, i < n → r_okN b N i) (hn : n ≤ 36) (h4 : D 176 4 = n) (hR : x_rdA D 176 n b) (kk : ∀ D' : g_D, x_fst D D' → x_st D' b n (t_o b n) → K D') : k_X1_listSteps E l D K := by
  have hcnt : t_o b n ≤ 360 := by have := t_o_le hA; omega
  have key : ∀ (q i : Nat) (D1 : g_D), n - i = q → i ≤ n → x_fst D D1 → x_st D1 b n (t_o b i) → n_X1_listSteps E l D1 7 [some (g_R 175), some (g_I i)] K := by
    intro q
    induction q with
    | zero =>
      intro i D1 hq hi f h
      obtain rfl : i = n := by omega
      have h4' : D1 176 4 = i := by rw [f.1 176 (by decide) (by decide) (by decide)]; exact h4
      exact s_X1_listSteps_7 (fun _ _ => ⟨fun _ => kk D1 f h, fun w => (by omega : False).elim⟩)
    | succ q ih =>
      intro i D1 hq hi f h
      have h4' : D1 176 4 = n := by rw [f.1 176 (by decide) (by decide) (by decide)]; exact h4
      have q7 : D1 177 i = a_k b i := by rw [f.1 177 (by decide) (by decide) (by decide)]; exact (hR i (by omega)).1
      have hnx : t_o b (i + 1) ≤ t_o b n := t_o_mono (by omega)
      rw [t_o_S] at hnx
      have hpos := t_len_pos (b := b) (i := i)
      refine s_X1_listSteps_7 (fun _ _ => ⟨fun w => (by omega : False).elim, fun _ => ⟨by omega, fun w => ?_, fun w => ?_⟩⟩)
      · rw [Int.toNat_natCast, q7] at w
        refine c_X1_listBlocks hA hn (by omega) w hR f h (fun D2 f2 h2 => ⟨⟨by omega, by omega⟩, ?_⟩)
        rw [g_cast1]; exact ih (i + 1) D2 (by omega) (by omega) f2 h2
      · rw [Int.toNat_natCast, q7] at w
        refine c_stepX (j := 0) f (by exact h) (by omega) (by omega) (by omega) ?_ (fun D2 f2 h2 => ⟨⟨by omega, by omega⟩, ?_⟩)
        · unfold t_bk; rw [if_pos w]
        · rw [g_cast1]
          refine ih (i + 1) D2 (by omega) (by omega) f2 ?_
          rw [t_o_S, show t_len b i = 0 + 1 from if_pos w]; exact h2
  refine s_X1_listSteps (fun _ D1 e1 => key _ 0 D1 rfl (Nat.zero_le _) ⟨fun k a _ _ => by rw [e1, g_up_ne a], fun j a => by rw [e1, g_up_at a]⟩ ⟨by rw [e1, g_up_eq]; rfl, fun s hs => absurd hs (Nat.not_lt_zero s)⟩)
end STEP
end
