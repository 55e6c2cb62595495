section
/-! what fits, in the class -/
def x_sn (D : g_D) (W : Nat → Int) : Prop := ∀ k, k < 10 → D 197 k = q_pk W k
def q_jr (C W : Nat → Int) (J : Int) : Nat → Int := if J = -1 then W else q_wb C W J.toNat 4
theorem q_pk_congr {W V : Nat → Int} {k j : Nat} (h : ∀ t, t < 4 → W (4 * k + t) = V (4 * j + t)) : q_pk W k = q_pk V j := by
  have h0 := h 0 (by omega)
  rw [Nat.add_zero, Nat.add_zero] at h0
  unfold q_pk
  rw [q_x_eq, q_x_eq, h0, h 1 (by omega), h 2 (by omega), h 3 (by omega)]
noncomputable def q_ff (b : Nat → Int) (n : Nat) (W0 W : Nat → Int) : Int := if m_lo (q_fb b n W0 W) (t_o b n + 1) ≤ t_o b n then (m_lo (q_fb b n W0 W) (t_o b n + 1) : Nat) else -1
def m_hi (P : Nat → Bool) : Nat → Int
  | 0 => -1
  | n + 1 => if P n then (n : Int) else m_hi P n
theorem m_hi_up {P : Nat → Bool} {s : Nat} : ∀ {c : Nat}, s ≤ c → (∀ t, s ≤ t → t < c → P t = false) → m_hi P c = m_hi P s
  | 0, h, _ => by rw [show s = 0 by omega]
  | c + 1, h, hP => by
    by_cases e : s = c + 1
    · rw [e]
    · rw [m_hi, hP c (by omega) (by omega), if_neg Bool.false_ne_true]
      exact m_hi_up (by omega) (fun t a d => hP t a (by omega))
theorem q_ff_rng {b : Nat → Int} {n : Nat} {W0 W : Nat → Int} : -1 ≤ q_ff b n W0 W ∧ q_ff b n W0 W ≤ t_o b n := by
  unfold q_ff
  split <;> omega
theorem q_jr_by {C W : Nat → Int} {J : Int} (hC : ∀ c, c < 4 → 0 ≤ C c ∧ C c ≤ 255) (hW : q_by W 60) : q_by (q_jr C W J) 60 := by
  unfold q_jr
  split
  · exact hW
  · exact q_wb_by hC hW
section FITS
variable {E : g_E} {l : Launch} {sh : List g_Sh} {D : g_D} {b W W0 C : Nat → Int} {N n : Nat}
theorem c_X1_dueBlock {K : Int → g_D → Prop} {s k : Nat} (hA : q_A b N n) (hx : x_crs D b N n W0) (hs : s ≤ t_o b n) (hk : k < 10) (kk : K (q_pk (q_due b n W0 s) k) D) : k_X1_dueBlock E l D s k K := by
  have hcnt := hA.cnt
  refine s_X1_dueBlock (fun _ _ _ => ⟨⟨by omega, by omega⟩, ⟨by omega, by omega⟩, by omega, ?_⟩)
  rw [show ((s : Int) * 10 + k).toNat = 10 * s + k by omega, (hx.2.2 s (by omega)).1 k hk]
  exact kk
theorem l_look {K : g_D → Prop} {k : Nat} {v : Int} (hk : is_Device g_SH k) (hkc : ¬ (k ≤ 197 ∧ 197 ≤ k + 7)) (hW : x_W D k W) (hb : q_by W 60)
    (kk : ∀ D' : g_D, (∀ i, i ≠ 197 → D' i = D i) → x_sn D' W → n_X1_look E l D' 2 [some (g_R 175), some (g_R k), some (g_I v), some (g_I 10)] K) : k_X1_look E l D k v K := by
  have key : ∀ (q j : Nat) (D1 : g_D), 10 - j = q → j ≤ 10 → (∀ i, i ≠ 197 → D1 i = D i) → (∀ t, t < j → D1 197 t = q_pk W t) → n_X1_look E l D1 2 [some (g_R 175), some (g_R k), some (g_I v), some (g_I j)] K := by
    intro q
    induction q with
    | zero =>
      intro j D1 hq hj f hy
      obtain rfl : j = 10 := by omega
      exact kk D1 f hy
    | succ q ih =>
      intro j D1 hq hj f hy
      refine s_X1_look_2 hk (fun _ _ _ => ⟨fun w => (by omega : False).elim, fun _ => ⟨⟨by omega, by omega⟩, ?_⟩⟩)
      refine c_packed (W := W) (k := j) (m := 60) hk.2.1 (by omega) (by omega) (by omega) hb (by omega) (fun t ht => by rw [f (k + 1) (by omega)]; exact hW.1 _ (by omega)) (fun _ => ⟨by omega, fun D2 e2 => ⟨⟨by omega, by omega⟩, ?_⟩⟩)
      rw [Int.toNat_natCast] at e2
      rw [g_cast1]
      refine ih (j + 1) D2 (by omega) (by omega) (fun i hi => by rw [e2, g_up_ne hi]; exact f i hi) (fun t ht => ?_)
      rw [e2]
      by_cases e : t = j
      · subst e; rw [g_up_eq]
      · rw [g_up_at e]; exact hy t (by omega)
  exact s_X1_look hk (fun _ _ => key 10 0 D rfl (by omega) (fun _ _ => rfl) (fun t ht => absurd ht (Nat.not_lt_zero t)))
theorem c_look0 {K : g_D → Prop} {k : Nat} (hk : is_Device g_SH k) (hkc : ¬ (k ≤ 197 ∧ 197 ≤ k + 7)) (hW : x_W D k W) (hb : q_by W 60) (kk : ∀ D' : g_D, (∀ i, i ≠ 197 → D' i = D i) → x_sn D' W → K D') : k_X1_look E l D k 0 K :=
  l_look hk hkc hW hb (fun D' f s => s_X1_look_2 hk (fun _ _ _ => ⟨fun _ => ⟨fun _ => kk D' f s, fun w => absurd rfl w⟩, fun w => absurd (Int.le_refl _) w⟩))
theorem c_look1 {K : g_D → Prop} {k : Nat} {J : Int} (hk : is_Device g_SH k) (hkc : ¬ (k ≤ 197 ∧ 197 ≤ k + 7)) (hW : x_W D k W) (hb : q_by W 60) (h6 : D k 6 = J) (hJ : J = -1 ∨ (0 ≤ J ∧ J ≤ 9)) (hC : ¬ J = -1 → ∀ c, c < 4 → D (k + 7) c = C c) (hCb : ¬ J = -1 → ∀ c, c < 4 → 0 ≤ C c ∧ C c ≤ 255) (kk : ∀ D' : g_D, (∀ i, i ≠ 197 → D' i = D i) → x_sn D' (q_jr C W J) → K D') : k_X1_look E l D k 1 K := by
  refine l_look hk hkc hW hb (fun D' f s => s_X1_look_2 hk (fun _ _ _ => ⟨fun _ => ⟨fun w => absurd w (by decide), fun _ => ?_⟩, fun w => absurd (Int.le_refl _) w⟩))
  have h6' : D' k 6 = J := by rw [f k (by omega)]; exact h6
  rw [h6']
  unfold q_jr at kk
  refine ⟨fun w => ?_, fun w => ⟨fun w2 => (by omega : False).elim, fun w2 => ?_⟩⟩
  · rw [if_pos (by omega)] at kk; exact kk D' f s
  · have hne : ¬ J = -1 := by omega
    rw [if_neg hne] at kk
    refine c_packed (W := C) (k := 0) (m := 4) hk.2.2.2.2.2.2.2 (by omega) (by omega) (by rfl) (fun i hi => hCb hne i hi) (by omega) (fun t ht => by rw [Nat.mul_zero, Nat.zero_add, f (k + 7) (by omega)]; exact hC hne t ht) (fun _ => ⟨by omega, fun D2 e2 => kk D2 (fun i hi => by rw [e2, g_up_ne hi]; exact f i hi) (fun j hj => ?_)⟩)
    rw [e2]
    by_cases e : j = J.toNat
    · subst e
      rw [g_up_eq]
      refine q_pk_congr (fun t ht => ?_)
      unfold q_wb
      rw [if_pos (by omega), if_pos (by omega), Nat.mul_zero, Nat.zero_add, Nat.add_sub_cancel_left]
    · rw [g_up_at e, s j hj]
      refine q_pk_congr (fun t ht => ?_)
      unfold q_wb
      rw [if_neg (by omega)]
theorem c_X1_areBlocksDue {K : Int → g_D → Prop} {s : Nat} (hA : q_A b N n) (hx : x_crs D b N n W0) (hs : s ≤ t_o b n) (hS : x_sn D W) (hb : q_by W 60) (hbd : q_by (q_due b n W0 s) 60)
    (k1 : (∀ i, i < 40 → W i = q_due b n W0 s i) → K 1 D) (k0 : ¬ (∀ i, i < 40 → W i = q_due b n W0 s i) → K 0 D) : k_X1_areBlocksDue E l D s K := by
  have key : ∀ q j : Nat, 10 - j = q → j ≤ 10 → (∀ i, i < 4 * j → W i = q_due b n W0 s i) → n_X1_areBlocksDue E l D 2 [some (g_R 175), some (g_I s), some (g_I j)] K := by
    intro q
    induction q with
    | zero =>
      intro j hq hj hy
      obtain rfl : j = 10 := by omega
      exact s_X1_areBlocksDue_2 (fun _ _ _ => ⟨fun _ => k1 hy, fun w => (by omega : False).elim⟩)
    | succ q ih =>
      intro j hq hj hy
      refine s_X1_areBlocksDue_2 (fun _ _ _ => ⟨fun w => (by omega : False).elim, fun _ => ⟨by omega, c_X1_dueBlock hA hx hs (by omega) (fun _ => ?_)⟩⟩)
      rw [Int.toNat_natCast, hS j (by omega), q_pk_iff hb hbd (by omega)]
      refine ⟨fun w => ⟨⟨by omega, by omega⟩, ?_⟩, fun w => k0 (fun z => w (fun t ht => z _ (by omega)))⟩
      rw [g_cast1]
      refine ih (j + 1) (by omega) (by omega) (fun i hi => ?_)
      by_cases e : i < 4 * j
      · exact hy i e
      · have := w (i - 4 * j) (by omega)
        rw [show 4 * j + (i - 4 * j) = i by omega] at this
        exact this
  exact s_X1_areBlocksDue (fun _ _ => key 10 0 rfl (by omega) (fun i hi => absurd hi (by omega)))
theorem c_X1_isStashDue {K : Int → g_D → Prop} {r s : Nat} (hr : g_SH[r]? = some (.inl (0, 20))) (hA : q_A b N n) (hx : x_crs D b N n W0) (hs : s ≤ t_o b n) (hW : ∀ i, i < 20 → D r i = W (40 + i))
    (k1 : (∀ i, i < 20 → (q_nd b n s).testBit i = true → W (40 + i) = q_due b n W0 s (40 + i)) → K 1 D) (k0 : ¬ (∀ i, i < 20 → (q_nd b n s).testBit i = true → W (40 + i) = q_due b n W0 s (40 + i)) → K 0 D) : k_X1_isStashDue E l D r s K := by
  have hcnt := hA.cnt
  have hn := hA.2.1
  have hat := q_at_le (b := b) (n := n) (s := s)
  have hnd := hx.2.1 s hs
  have hdu := (hx.2.2 s (by omega)).2
  have key : ∀ q j : Nat, 20 - j = q → j ≤ 20 → (∀ i, i < j → (q_nd b n s).testBit i = true → W (40 + i) = q_due b n W0 s (40 + i)) → n_X1_isStashDue E l D 12 [some (g_R 175), some (g_R r), some (g_I s), some (g_I ((q_at b n s : Int) * 20)), some (g_I j)] K := by
    intro q
    induction q with
    | zero =>
      intro j hq hj hy
      obtain rfl : j = 20 := by omega
      exact s_X1_isStashDue_12 hr (fun _ _ _ _ => ⟨fun _ => k1 hy, fun w => (by omega : False).elim⟩)
    | succ q ih =>
      intro j hq hj hy
      refine s_X1_isStashDue_12 hr (fun _ _ _ _ => ⟨fun w => (by omega : False).elim, fun _ => ⟨by omega, ?_⟩⟩)
      rw [Int.toNat_natCast, hnd]
      refine c_hasBit (m_lt20 (q_nd_lt hA)) (by omega) (fun _ => ⟨fun w => ⟨⟨by omega, by omega⟩, ?_⟩, fun w => ⟨by omega, ⟨by omega, by omega⟩, by omega, ?_⟩⟩)
      · rw [g_cast1]
        refine ih (j + 1) (by omega) (by omega) (fun i hi ht => ?_)
        by_cases e : i = j
        · subst e; rw [g_b_0.mp w] at ht; cases ht
        · exact hy i (by omega) ht
      · rw [Int.toNat_natCast, show ((q_at b n s : Int) * 20 + j).toNat = 20 * q_at b n s + j by omega, hdu j (by omega), hW j (by omega)]
        refine ⟨fun z => ⟨⟨by omega, by omega⟩, ?_⟩, fun z => k0 (fun y => z (y j (by omega) (g_b_n0.mp w)))⟩
        rw [g_cast1]
        refine ih (j + 1) (by omega) (by omega) (fun i hi ht => ?_)
        by_cases e : i = j
        · subst e; exact z
        · exact hy i (by omega) ht
  exact s_X1_isStashDue hr (fun _ _ => c_X1_actAt hA hx.1 (fun _ => ⟨⟨by omega, by omega⟩, key 20 0 rfl (by omega) (fun i hi => absurd hi (Nat.not_lt_zero i))⟩))
theorem c_X1_isFit {K : Int → g_D → Prop} {r s : Nat} (hr : g_SH[r]? = some (.inl (0, 20))) (hA : q_A b N n) (hbb : q_by b N) (hb0 : q_by W0 60) (hx : x_crs D b N n W0) (hs : s ≤ t_o b n) (hS : x_sn D W) (hb : q_by W 60) (hW : ∀ i, i < 20 → D r i = W (40 + i))
    (kk : K (g_b (q_fb b n W0 W s)) D) : k_X1_isFit E l D r s K := by
  refine s_X1_isFit hr (fun _ _ => c_X1_areBlocksDue hA hx hs hS hb (q_due_by hA hbb hb0 hs) (fun z1 _ => ⟨fun w => absurd w (by decide), fun _ => c_X1_isStashDue hr hA hx hs hW (fun z2 _ => ⟨fun w => absurd w (by decide), fun _ => ?_⟩) (fun z2 _ => ⟨fun _ => ?_, fun w => absurd rfl w⟩)⟩) (fun z1 _ => ⟨fun _ => ?_, fun w => absurd rfl w⟩))
  · rw [q_fb_iff.mpr ⟨z1, z2⟩] at kk; exact kk
  · rw [q_fb_no (fun y => z2 y.2)] at kk; exact kk
  · rw [q_fb_no (fun y => z1 y.1)] at kk; exact kk
theorem c_X1_firstFit {K : Int → g_D → Prop} {r : Nat} (hr : g_SH[r]? = some (.inl (0, 20))) (hA : q_A b N n) (hbb : q_by b N) (hb0 : q_by W0 60) (hx : x_crs D b N n W0) (hS : x_sn D W) (hb : q_by W 60) (hW : ∀ i, i < 20 → D r i = W (40 + i))
    (kk : K (q_ff b n W0 W) D) : k_X1_firstFit E l D r K := by
  have hcnt := hA.cnt
  have h4 := hx.1.1.1
  unfold q_ff at kk
  have key : ∀ q s : Nat, t_o b n + 1 - s = q → s ≤ t_o b n + 1 → (∀ t, t < s → q_fb b n W0 W t = false) → n_X1_firstFit E l D 2 [some (g_R 175), some (g_R r), some (g_I s)] K := by
    intro q
    induction q with
    | zero =>
      intro s hq hs hy
      obtain rfl : s = t_o b n + 1 := by omega
      rw [m_lo_none hy, if_neg (by omega)] at kk
      exact s_X1_firstFit_2 hr (fun _ _ => ⟨fun _ => kk, fun w => (by omega : False).elim⟩)
    | succ q ih =>
      intro s hq hs hy
      refine s_X1_firstFit_2 hr (fun _ _ => ⟨fun w => (by omega : False).elim, fun _ => c_X1_isFit hr hA hbb hb0 hx (by omega) hS hb hW (fun _ => ⟨fun w => ⟨⟨by omega, by omega⟩, ?_⟩, fun w => ?_⟩)⟩)
      · rw [g_cast1]
        refine ih (s + 1) (by omega) (by omega) (fun t ht => ?_)
        by_cases e : t = s
        · rw [e]; exact g_b_0.mp w
        · exact hy t (by omega)
      · rw [m_lo_eq (a := s) (by omega) (g_b_n0.mp w) hy, if_pos (by omega)] at kk
        exact kk
  exact s_X1_firstFit hr (fun _ => key _ 0 rfl (Nat.zero_le _) (fun t ht => absurd ht (Nat.not_lt_zero t)))
theorem c_X1_lastFit {K : Int → g_D → Prop} {r : Nat} (hr : g_SH[r]? = some (.inl (0, 20))) (hA : q_A b N n) (hbb : q_by b N) (hb0 : q_by W0 60) (hx : x_crs D b N n W0) (hS : x_sn D W) (hb : q_by W 60) (hW : ∀ i, i < 20 → D r i = W (40 + i))
    (kk : K (m_hi (q_fb b n W0 W) (t_o b n + 1)) D) : k_X1_lastFit E l D r K := by
  have hcnt := hA.cnt
  have h4 := hx.1.1.1
  have key : ∀ s : Nat, s ≤ t_o b n + 1 → (∀ t, s ≤ t → t < t_o b n + 1 → q_fb b n W0 W t = false) → n_X1_lastFit E l D 5 [some (g_R 175), some (g_R r), some (g_I ((s : Int) - 1))] K := by
    intro s
    induction s with
    | zero =>
      intro hs hy
      rw [m_hi_up hs hy, m_hi] at kk
      exact s_X1_lastFit_5 hr (fun _ _ => ⟨fun _ => kk, fun w => (by omega : False).elim⟩)
    | succ s ih =>
      intro hs hy
      rw [show ((s + 1 : Nat) : Int) - 1 = s by omega]
      refine s_X1_lastFit_5 hr (fun _ _ => ⟨fun w => (by omega : False).elim, fun _ => c_X1_isFit hr hA hbb hb0 hx (by omega) hS hb hW (fun _ => ⟨fun w => ⟨⟨by omega, by omega⟩, ?_⟩, fun w => ?_⟩)⟩)
      · rw [show (s : Int) + (-1) = (s : Int) - 1 by omega]
        refine ih (by omega) (fun t t1 t2 => ?_)
        by_cases e : t = s
        · rw [e]; exact g_b_0.mp w
        · exact hy t (by omega) t2
      · rw [m_hi_up hs hy, m_hi, if_pos (g_b_n0.mp w)] at kk
        exact kk
  refine s_X1_lastFit hr (fun _ => ?_)
  rw [h4]
  have := key (t_o b n + 1) (Nat.le_refl _) (fun t a c => by omega)
  rw [show ((t_o b n + 1 : Nat) : Int) - 1 = (t_o b n : Nat) by omega] at this
  exact this
theorem c_X1_countFits {K : Int → g_D → Prop} {r : Nat} (hr : g_SH[r]? = some (.inl (0, 20))) (hA : q_A b N n) (hbb : q_by b N) (hb0 : q_by W0 60) (hx : x_crs D b N n W0) (hS : x_sn D W) (hb : q_by W 60) (hW : ∀ i, i < 20 → D r i = W (40 + i))
    (kk : K (m_cnt (q_fb b n W0 W) (t_o b n + 1) : Nat) D) : k_X1_countFits E l D r K := by
  have hcnt := hA.cnt
  have h4 := hx.1.1.1
  have key : ∀ q s : Nat, t_o b n + 1 - s = q → s ≤ t_o b n + 1 → n_X1_countFits E l D 4 [some (g_R 175), some (g_R r), some (g_I (m_cnt (q_fb b n W0 W) s : Nat)), some (g_I s)] K := by
    intro q
    induction q with
    | zero =>
      intro s hq hs
      obtain rfl : s = t_o b n + 1 := by omega
      exact s_X1_countFits_4 hr (fun _ _ _ => ⟨fun _ => kk, fun w => (by omega : False).elim⟩)
    | succ q ih =>
      intro s hq hs
      have ih' := ih (s + 1) (by omega) (by omega)
      rw [m_cnt, ← g_cast1] at ih'
      have hle := m_cnt_le (P := q_fb b n W0 W) s
      refine s_X1_countFits_4 hr (fun _ _ _ => ⟨fun w => (by omega : False).elim, fun _ => c_X1_isFit hr hA hbb hb0 hx (by omega) hS hb hW (fun _ => ⟨fun w => ⟨⟨by omega, by omega⟩, ?_⟩, fun w => ⟨⟨by omega, by omega⟩, ⟨by omega, by omega⟩, ?_⟩⟩)⟩)
      · rw [g_b_0.mp w, if_neg Bool.false_ne_true] at ih'; exact ih'
      · rw [g_b_n0.mp w, if_pos rfl, ← g_cast1] at ih'; exact ih'
  exact s_X1_countFits hr (fun _ => key _ 0 rfl (Nat.zero_le _))
end FITS
end
