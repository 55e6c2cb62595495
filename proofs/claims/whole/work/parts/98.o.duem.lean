section
/-! what is due, in the model -/
def m_du (D : g_D) (b : Nat → Int) (n : Nat) (W0 : Nat → Int) (c : Nat) : Prop := ∀ s, s < c → ∀ i, i < 60 → D 237 (60 * s + i) = q_due b n W0 s i
def m_nd (D : g_D) (b : Nat → Int) (n : Nat) : Prop := ∀ s, s ≤ t_o b n → D 238 s = (q_nd b n s : Nat)
def m_crs (D : g_D) (b : Nat → Int) (n : Nat) (W0 : Nat → Int) : Prop := m_st D b n (t_o b n) ∧ m_du D b n W0 (t_o b n + 1) ∧ m_nd D b n
theorem m_crs.fr {D D' : g_D} {b : Nat → Int} {n : Nat} {W0 : Nat → Int} (h : m_crs D b n W0) (e : ∀ i, 235 ≤ i → i ≤ 238 → D' i = D i) (e2 : D' 208 46 = D 208 46) : m_crs D' b n W0 := by
  unfold m_crs m_st m_du m_nd at *
  rw [e2, e 235 (by omega) (by omega), e 236 (by omega) (by omega), e 237 (by omega) (by omega), e 238 (by omega) (by omega)]
  exact h
/-- nothing but the model's paper of what is due -/
def m_fdu (D D' : g_D) : Prop := (∀ k, k ≠ 208 → ¬ (235 ≤ k ∧ k ≤ 240) → D' k = D k) ∧ ∀ j, j ≠ 46 → D' 208 j = D 208 j
theorem m_fdu.refl (D : g_D) : m_fdu D D := ⟨fun _ _ _ => rfl, fun _ _ => rfl⟩
theorem m_fdu.trans {D D' D'' : g_D} (h : m_fdu D D') (h2 : m_fdu D' D'') : m_fdu D D'' := ⟨fun k a b => (h2.1 k a b).trans (h.1 k a b), fun j a => (h2.2 j a).trans (h.2 j a)⟩
theorem m_fdu.act {D D' : g_D} {b : Nat → Int} {n : Nat} (h : m_fdu D D') (ha : m_act D b n) : m_act D' b n := by unfold m_act at *; rw [h.1 209 (by decide) (by decide)]; exact ha
theorem m_fdu.up {D D' : g_D} {k j : Nat} {v : Int} (h : m_fdu D D') (hk : 235 ≤ k ∧ k ≤ 240) : m_fdu D (g_up D' k j v) := ⟨fun i a b => by rw [g_up_ne (by omega)]; exact h.1 i a b, fun i a => by rw [g_up_ne (by omega)]; exact h.2 i a⟩
theorem q_fw.fdu {D D' : g_D} (h : q_fw D D') : m_fdu D D' := ⟨fun k _ c => h k (by omega) (by omega), fun j _ => by rw [h 208 (by decide) (by decide)]⟩
def q_bp (b : Nat → Int) (i B : Nat) : Nat → Nat
  | 0 => 0
  | t + 1 => q_bp b i B t ||| (if tq_w b i (4 * B + t) then 2 ^ (n_fr b i + (4 * B + t) - n_to b i) else 0)
theorem q_bp_bit {b : Nat → Int} {i B j : Nat} : ∀ {t : Nat}, (q_bp b i B t).testBit j = m_any (fun u => tq_w b i (4 * B + u) && decide (j = n_fr b i + (4 * B + u) - n_to b i)) t
  | 0 => Nat.zero_testBit j
  | t + 1 => by
    rw [q_bp, Nat.testBit_or, q_bp_bit, m_any]
    congr 1
    cases tq_w b i (4 * B + t)
    · rw [if_neg Bool.false_ne_true, Nat.zero_testBit]; rfl
    · rw [if_pos rfl, Nat.testBit_two_pow, Bool.true_and]
      by_cases q : j = n_fr b i + (4 * B + t) - n_to b i
      · rw [decide_eq_true q, decide_eq_true q.symm]
      · rw [decide_eq_false q, decide_eq_false (fun w => q w.symm)]
theorem q_bp_4 {b : Nat → Int} {N n s : Nat} (hA : q_A b N n) (hs : s < t_o b n) (h3 : a_k b (t_sa b n s) = 3) : q_bp b (t_sa b n s) (t_sb b n s).toNat 4 = q_bs b n s := by
  obtain ⟨B, hB, hB1, hB2, hB3⟩ := q_blk hA hs (by omega)
  unfold q_bs
  rw [hB, Int.toNat_natCast]
  obtain ⟨a1, a2, a3⟩ := t_sb_rng hA.1 hs
  obtain ⟨o1, o2, o3, o4, o5, o6, o7, k1, k2, k3, _⟩ := hA.1 _ a1
  generalize t_sa b n s = i at *
  refine Nat.eq_of_testBit_eq (fun j => ?_)
  rw [q_bp_bit, m_on_bit, Bool.eq_iff_iff, m_any_iff, Bool.and_eq_true, decide_eq_true_iff, decide_eq_true_iff]
  constructor
  · rintro ⟨u, u1, u2⟩
    rw [Bool.and_eq_true, decide_eq_true_iff] at u2
    unfold tq_w at u2
    rw [decide_eq_true_iff] at u2
    omega
  · intro q
    refine ⟨j + n_to b i - n_fr b i - 4 * B, by omega, ?_⟩
    rw [Bool.and_eq_true, decide_eq_true_iff]
    unfold tq_w
    rw [decide_eq_true_iff]
    exact ⟨⟨by omega, by omega, by omega⟩, by omega⟩
theorem q_bp_lt {b : Nat → Int} {N i B : Nat} (ok : r_okN b N i) (h3 : a_k b i = 3) : ∀ {t : Nat}, q_bp b i B t < 2 ^ 20
  | 0 => by rw [q_bp]; decide
  | t + 1 => by
    rw [q_bp]
    refine Nat.or_lt_two_pow (q_bp_lt ok h3) ?_
    obtain ⟨o1, o2, o3, o4, o5, o6, o7, k1, k2, k3, _⟩ := ok
    have k3 := k3 h3
    split
    · rename_i w
      unfold tq_w at w
      rw [decide_eq_true_iff] at w
      exact Nat.pow_lt_pow_right (by decide) (by omega)
    · decide
section DUEM
variable {E : g_E} {l : Launch} {sh : List g_Sh} {D : g_D} {b W W0 C : Nat → Int} {N n : Nat}
theorem c_X12_readsStash {K : Int → g_D → Prop} {s : Nat} (hA : q_A b N n) (h : m_act D b n) (hst : m_st D b n (t_o b n)) (hs : s < t_o b n) (h3 : a_k b (t_sa b n s) = 3) (kk : K (q_bs b n s : Nat) D) : k_X12_readsStash E l D s K := by
  have hn := hA.2.1
  have hcnt := hA.cnt
  obtain ⟨a1, a2, a3⟩ := t_sb_rng hA.1 hs
  obtain ⟨B, hB, hB1, hB2, hB3⟩ := q_blk hA hs (by omega)
  rw [← q_bp_4 hA hs h3, hB, Int.toNat_natCast] at kk
  have hst1 := hst.2 s hs
  rw [hB] at hst1
  have ok := hA.1 _ a1
  have hlt := fun t => q_bp_lt (B := B) (t := t) ok h3
  obtain ⟨o1, o2, o3, o4, o5, o6, o7, k1, k2, k3, _⟩ := hA.1 _ a1
  have k3 := k3 h3
  generalize t_sa b n s = i at *
  have key : ∀ q t : Nat, 4 - t = q → t ≤ 4 → n_X12_readsStash E l D 4 [some (g_R 208), some (g_I s), some (g_I ((q_bp b i B t : Nat) : Int)), some (g_I t), none] K := by
    intro q
    induction q with
    | zero =>
      intro t hq ht
      obtain rfl : t = 4 := by omega
      exact s_X12_readsStash_4 (fun _ _ _ _ => ⟨fun _ => kk, fun w => (by omega : False).elim⟩)
    | succ q ih =>
      intro t hq ht
      have ih' := ih (t + 1) (by omega) (by omega)
      rw [q_bp, ← g_cast1] at ih'
      refine s_X12_readsStash_4 (fun _ _ _ _ => ⟨fun w => (by omega : False).elim, fun _ => ?_⟩)
      rw [Int.toNat_natCast, hst1.1, hst1.2, show 4 * (B : Int) + t = ((4 * B + t : Nat) : Int) by omega]
      refine ⟨by omega, ⟨by omega, by omega⟩, ⟨by omega, by omega⟩, by omega, c_writes h hn a1 ok (fun _ => ⟨fun w => ⟨⟨by omega, by omega⟩, ?_⟩, fun w => ⟨by omega, ?_⟩⟩)⟩
      · rw [g_b_0.mp w, if_neg Bool.false_ne_true, Nat.or_zero] at ih'; exact ih'
      · have w' := g_b_n0.mp w
        rw [w', if_pos rfl] at ih'
        unfold tq_w at w'
        rw [decide_eq_true_iff] at w'
        rw [hst1.1]
        refine c_now2 h hn a1 (fun _ => ⟨⟨by omega, by omega⟩, by omega, ?_⟩)
        rw [hst1.1]
        refine c_now1 h hn a1 (fun _ => ⟨⟨by omega, by omega⟩, ⟨by omega, by omega⟩, ?_⟩)
        have hp : 2 ^ (n_fr b i + (4 * B + t) - n_to b i) < 2 ^ 20 := Nat.pow_lt_pow_right (by decide) (by omega)
        rw [show a_fr b i + ((4 * B + t : Nat) : Int) - a_to b i = ((n_fr b i + (4 * B + t) - n_to b i : Nat) : Int) by omega, g_shl1_n (by omega), g_or_n (m_lt20 (hlt t)) (m_lt20 hp)]
        exact ih'
  exact s_X12_readsStash (fun _ _ => key 4 0 rfl (by omega))
theorem c_X12_laysDue {K : g_D → Prop} (hA : q_A b N n) (h : m_act D b n) (h0 : ∀ i, i < 60 → D 209 (153 + i) = W0 i)
    (kk : ∀ D' : g_D, m_fdu D D' → m_crs D' b n W0 → K D') : k_X12_laysDue E l D K := by
  have hn := hA.2.1
  have hcnt := hA.cnt
  -- the needed cells
  have nee : ∀ (s : Nat) (D1 : g_D), s ≤ t_o b n → m_fdu D D1 → m_st D1 b n (t_o b n) → m_du D1 b n W0 (t_o b n + 1) → (∀ t, s ≤ t → t ≤ t_o b n → D1 238 t = (q_nd b n t : Nat)) → n_X12_laysDue E l D1 112 [some (g_R 208), some (g_I ((s : Int) - 1)), none, none] K := by
    intro s
    induction s with
    | zero =>
      intro D1 hs f st du hy
      exact s_X12_laysDue_112 (fun _ _ => ⟨fun _ => kk D1 f ⟨st, du, fun t ht => hy t (Nat.zero_le _) ht⟩, fun w => (by omega : False).elim⟩)
    | succ s ih =>
      intro D1 hs f st du hy
      have hs' : s < t_o b n := by omega
      obtain ⟨a1, a2, a3⟩ := t_sb_rng hA.1 hs'
      obtain ⟨o1, o2, o3, o4, o5, o6, o7, k1, k2, k3, k4, k5, k6⟩ := hA.1 _ a1
      have hst := st.2 s hs'
      have hy1 := hy (s + 1) (Nat.le_refl _) hs
      have hlt := q_nd_lt (s := s + 1) hA
      have hS := q_nd_S hs'
      unfold q_nx at hS
      have ha := f.act h
      rw [show ((s + 1 : Nat) : Int) - 1 = (s : Int) by omega]
      have fin : ∀ (v : Int) (D2 : g_D), D2 = g_up D1 238 s v → v = (q_nd b n s : Nat) → n_X12_laysDue E l D2 112 [some (g_R 208), some (g_I ((s : Int) + (-1))), none, none] K := by
        intro v D2 e2 ev
        rw [show (s : Int) + (-1) = (s : Int) - 1 by omega]
        refine ih D2 (by omega) (by rw [e2]; exact f.up (by omega)) ?_ ?_ (fun t t1 t2 => ?_)
        · unfold m_st at *; rw [e2]; simp (disch := omega) only [g_up_ne, ne_eq, not_false_eq_true]; exact st
        · unfold m_du at *; rw [e2, g_up_ne (by decide)]; exact du
        · rw [e2]
          by_cases e : t = s
          · rw [e, g_up_eq]; exact ev
          · rw [g_up_at e]; exact hy t (by omega) t2
      refine s_X12_laysDue_112 (fun _ _ => ⟨fun w => (by omega : False).elim, fun _ => ⟨⟨by omega, by omega⟩, by omega, by omega, ?_⟩⟩)
      rw [Int.toNat_natCast, hst.1, show ((s : Int) + 1).toNat = s + 1 by omega, hy1]
      refine c_now0 ha hn a1 (fun _ => ⟨fun w => c_now0 ha hn a1 (fun _ => ⟨fun w3 => ⟨by omega, fun D2 e2 => ⟨⟨by omega, by omega⟩, fin _ D2 e2 ?_⟩⟩, fun w3 => c_X12_readsStash hA ha st hs' w3 (fun _ => ⟨by omega, fun D2 e2 => ⟨⟨by omega, by omega⟩, fin _ D2 e2 ?_⟩⟩)⟩), fun w => c_now3 ha hn a1 (fun _ => ⟨?_, c_now1 ha hn a1 (fun _ => c_now0 ha hn a1 (fun _ => ⟨fun w3 => ⟨by omega, fun D2 e2 => ⟨⟨by omega, by omega⟩, fin _ D2 e2 ?_⟩⟩, fun w3 => (by omega : False).elim⟩))⟩)⟩)
      · rw [hS, if_neg w, if_neg w3]
      · have hbs : q_bs b n s < 2 ^ 20 := m_on_lt (q_bs_in hA hs' w3)
        rw [hS, if_neg w, if_pos w3, g_or_n (m_lt20 hlt) (m_lt20 hbs)]
      · have k1 := k1 w
        have h1 : 1 ≤ 2 ^ n_ln b (t_sa b n s) := Nat.two_pow_pos _
        have h2 : 2 ^ n_ln b (t_sa b n s) ≤ 2 ^ 20 := Nat.pow_le_pow_right (by decide) (by omega)
        rw [o6, g_shl1_n (by omega)]; exact ⟨by omega, by omega⟩
      · have k1 := k1 w
        have h1 : 1 ≤ 2 ^ n_ln b (t_sa b n s) := Nat.two_pow_pos _
        have hon : m_on (n_to b (t_sa b n s)) (n_ln b (t_sa b n s)) < 2 ^ 20 := m_on_lt (by omega)
        rw [hS, if_pos w, o6, o4, g_shl1_n (by omega), show (((2 ^ n_ln b (t_sa b n s) : Nat) : Int) - 1) = ((2 ^ n_ln b (t_sa b n s) - 1 : Nat) : Int) by omega, g_shl_n (m_lt20 hon) (by omega)]
        exact g_an (m_lt20 hlt)
  -- the rows of cells
  have row : ∀ (q s : Nat) (D1 : g_D), t_o b n + 1 - s = q → s ≤ t_o b n + 1 → m_fdu D D1 → m_st D1 b n (t_o b n) → m_du D1 b n W0 s → (s ≤ t_o b n → m_Wk D1 (q_due b n W0 s)) → n_X12_laysDue E l D1 37 [some (g_R 208), some (g_I s), none, none] K := by
    intro q
    induction q with
    | zero =>
      intro s D1 hq hs f st du _
      obtain rfl : s = t_o b n + 1 := by omega
      have h46 := st.1
      refine s_X12_laysDue_37 (fun _ _ => ⟨fun _ => ?_, fun w => (by omega : False).elim⟩)
      rw [h46, Int.toNat_natCast]
      refine ⟨by omega, fun D2 e2 => ⟨⟨by omega, by omega⟩, nee _ D2 (Nat.le_refl _) (by rw [e2]; exact f.up (by omega)) ?_ ?_ (fun t t1 t2 => ?_)⟩⟩
      · unfold m_st at *; rw [e2]; simp (disch := omega) only [g_up_ne, ne_eq, not_false_eq_true]; exact st
      · unfold m_du at *; rw [e2, g_up_ne (by decide)]; exact du
      · rw [show t = t_o b n by omega, e2, g_up_eq, q_nd_0]; rfl
    | succ q ih =>
      intro s D1 hq hs f st du hw
      have hw := hw (by omega)
      have h46 := st.1
      refine s_X12_laysDue_37 (fun _ _ => ⟨fun w => (by omega : False).elim, fun _ => ?_⟩)
      have cells : ∀ (q i : Nat) (D2 : g_D), 60 - i = q → i ≤ 60 → m_fdu D D2 → m_st D2 b n (t_o b n) → m_du D2 b n W0 s → m_Wk D2 (q_due b n W0 s) → (∀ j, j < i → D2 237 (60 * s + j) = q_due b n W0 s j) → n_X12_laysDue E l D2 47 [some (g_R 208), some (g_I s), some (g_I i), none] K := by
        intro q'
        induction q' with
        | zero =>
          intro i D2 hq' hi f2 st2 du2 hw2 hy
          obtain rfl : i = 60 := by omega
          have h46 := st2.1
          have du3 : m_du D2 b n W0 (s + 1) := fun t ht j hj => by
            by_cases e : t = s
            · subst e; exact hy j hj
            · exact du2 t (by omega) j hj
          refine s_X12_laysDue_47 (fun _ _ _ => ⟨fun _ => ⟨fun w => ⟨⟨by omega, by omega⟩, ?_⟩, fun w => c_X12_doesStep hA (f2.act h) st2 (by omega) hw2 (fun D3 f3 w3 => ⟨⟨by omega, by omega⟩, ?_⟩)⟩, fun w => (by omega : False).elim⟩)
          · rw [g_cast1]
            exact ih (s + 1) D2 (by omega) (by omega) f2 st2 du3 (fun w' => by omega)
          · rw [g_cast1]
            exact ih (s + 1) D3 (by omega) (by omega) (f2.trans f3.fdu) (f3.st st2) (by unfold m_du at *; rw [f3 237 (by decide) (by decide)]; exact du3) (fun _ => w3)
        | succ q' ih2 =>
          intro i D2 hq' hi f2 st2 du2 hw2 hy
          refine s_X12_laysDue_47 (fun _ _ _ => ⟨fun w => (by omega : False).elim, fun _ => ⟨⟨by omega, by omega⟩, ⟨by omega, by omega⟩, by omega, by omega, fun D3 e3 => ⟨⟨by omega, by omega⟩, ?_⟩⟩⟩)
          rw [show (60 * (s : Int) + i).toNat = 60 * s + i by omega, Int.toNat_natCast, hw2 i (by omega)] at e3
          rw [g_cast1]
          refine ih2 (i + 1) D3 (by omega) (by omega) (by rw [e3]; exact f2.up (by omega)) ?_ (fun t ht j hj => ?_) ?_ (fun j hj => ?_)
          · unfold m_st at *; rw [e3]; simp (disch := omega) only [g_up_ne, ne_eq, not_false_eq_true]; exact st2
          · rw [e3, g_up_at (by omega)]; exact du2 t ht j hj
          · unfold m_Wk at *; rw [e3, g_up_ne (by decide)]; exact hw2
          · rw [e3]
            by_cases e : j = i
            · subst e; rw [g_up_eq]
            · rw [g_up_at (by omega)]; exact hy j (by omega)
      exact cells 60 0 D1 rfl (by omega) f st du hw (fun j hj => absurd hj (Nat.not_lt_zero j))
  refine s_X12_laysDue (fun _ => c_X12_laysSteps hA.1 hn h (fun D1 f1 st1 _ => ?_))
  have fd1 : m_fdu D D1 := ⟨fun k a c => f1.1 k a (by omega) (by omega), f1.2⟩
  have start : ∀ (q i : Nat) (D2 : g_D), 60 - i = q → i ≤ 60 → m_fdu D D2 → m_st D2 b n (t_o b n) → (∀ j, j < i → D2 239 j = W0 j) → n_X12_laysDue E l D2 7 [some (g_R 208), some (g_I i), none, none] K := by
    intro q
    induction q with
    | zero =>
      intro i D2 hq hi f st hy
      obtain rfl : i = 60 := by omega
      exact s_X12_laysDue_7 (fun _ _ => ⟨fun _ => row _ 0 D2 rfl (Nat.zero_le _) f st (fun t ht => absurd ht (Nat.not_lt_zero t)) (fun _ => hy), fun w => (by omega : False).elim⟩)
    | succ q ih =>
      intro i D2 hq hi f st hy
      refine s_X12_laysDue_7 (fun _ _ => ⟨fun w => (by omega : False).elim, fun _ => ⟨⟨by omega, by omega⟩, by omega, by omega, fun D3 e3 => ⟨⟨by omega, by omega⟩, ?_⟩⟩⟩)
      rw [show (153 + (i : Int)).toNat = 153 + i by omega, Int.toNat_natCast, f.1 209 (by decide) (by decide), h0 i (by omega)] at e3
      rw [g_cast1]
      refine ih (i + 1) D3 (by omega) (by omega) (by rw [e3]; exact f.up (by omega)) ?_ (fun j hj => ?_)
      · unfold m_st at *; rw [e3]; simp (disch := omega) only [g_up_ne, ne_eq, not_false_eq_true]; exact st
      · rw [e3]
        by_cases e : j = i
        · subst e; rw [g_up_eq]
        · rw [g_up_at e]; exact hy j (by omega)
  exact start 60 0 D1 rfl (by omega) fd1 st1 (fun j hj => absurd hj (Nat.not_lt_zero j))
theorem c_X12_worksFrom {K : g_D → Prop} {s : Nat} (hA : q_A b N n) (hx : m_crs D b n W0) (hs : s ≤ t_o b n) (kk : ∀ D' : g_D, (∀ i, i ≠ 239 → D' i = D i) → m_Wk D' (q_due b n W0 s) → K D') : k_X12_worksFrom E l D s K := by
  have hcnt := hA.cnt
  have key : ∀ (q i : Nat) (D1 : g_D), 60 - i = q → i ≤ 60 → (∀ j, j ≠ 239 → D1 j = D j) → (∀ j, j < i → D1 239 j = q_due b n W0 s j) → n_X12_worksFrom E l D1 2 [some (g_R 208), some (g_I s), some (g_I i)] K := by
    intro q
    induction q with
    | zero =>
      intro i D1 hq hi f hy
      obtain rfl : i = 60 := by omega
      exact s_X12_worksFrom_2 (fun _ _ _ => ⟨fun _ => kk D1 f hy, fun w => (by omega : False).elim⟩)
    | succ q ih =>
      intro i D1 hq hi f hy
      refine s_X12_worksFrom_2 (fun _ _ _ => ⟨fun w => (by omega : False).elim, fun _ => ⟨⟨by omega, by omega⟩, ⟨by omega, by omega⟩, by omega, by omega, fun D3 e3 => ⟨⟨by omega, by omega⟩, ?_⟩⟩⟩)
      rw [show (60 * (s : Int) + i).toNat = 60 * s + i by omega, Int.toNat_natCast, f 237 (by decide), hx.2.1 s (by omega) i (by omega)] at e3
      rw [g_cast1]
      refine ih (i + 1) D3 (by omega) (by omega) (fun j hj => by rw [e3, g_up_ne hj]; exact f j hj) (fun j hj => ?_)
      rw [e3]
      by_cases e : j = i
      · subst e; rw [g_up_eq]
      · rw [g_up_at e]; exact hy j (by omega)
  exact s_X12_worksFrom (fun _ _ => key 60 0 D rfl (by omega) (fun _ _ => rfl) (fun j hj => absurd hj (Nat.not_lt_zero j)))
theorem c_X12_worksNow {K : g_D → Prop} (hW : ∀ i, i < 60 → D 209 (86 + i) = W i) (kk : ∀ D' : g_D, (∀ i, i ≠ 239 → D' i = D i) → m_Wk D' W → K D') : k_X12_worksNow E l D K := by
  have key : ∀ (q i : Nat) (D1 : g_D), 60 - i = q → i ≤ 60 → (∀ j, j ≠ 239 → D1 j = D j) → (∀ j, j < i → D1 239 j = W j) → n_X12_worksNow E l D1 2 [some (g_R 208), some (g_I i)] K := by
    intro q
    induction q with
    | zero =>
      intro i D1 hq hi f hy
      obtain rfl : i = 60 := by omega
      exact s_X12_worksNow_2 (fun _ _ => ⟨fun _ => kk D1 f hy, fun w => (by omega : False).elim⟩)
    | succ q ih =>
      intro i D1 hq hi f hy
      refine s_X12_worksNow_2 (fun _ _ => ⟨fun w => (by omega : False).elim, fun _ => ⟨⟨by omega, by omega⟩, by omega, by omega, fun D3 e3 => ⟨⟨by omega, by omega⟩, ?_⟩⟩⟩)
      rw [show (86 + (i : Int)).toNat = 86 + i by omega, Int.toNat_natCast, f 209 (by decide), hW i (by omega)] at e3
      rw [g_cast1]
      refine ih (i + 1) D3 (by omega) (by omega) (fun j hj => by rw [e3, g_up_ne hj]; exact f j hj) (fun j hj => ?_)
      rw [e3]
      by_cases e : j = i
      · subst e; rw [g_up_eq]
      · rw [g_up_at e]; exact hy j (by omega)
  exact s_X12_worksNow (fun _ => key 60 0 D rfl (by omega) (fun _ _ => rfl) (fun j hj => absurd hj (Nat.not_lt_zero j)))
theorem c_X12_keepsWork {K : g_D → Prop} (hW : m_Wk D W) (kk : ∀ D' : g_D, (∀ i, i ≠ 209 → D' i = D i) → (∀ j, ¬ (86 ≤ j ∧ j < 146) → D' 209 j = D 209 j) → (∀ i, i < 60 → D' 209 (86 + i) = W i) → K D') : k_X12_keepsWork E l D K := by
  have key : ∀ (q i : Nat) (D1 : g_D), 60 - i = q → i ≤ 60 → (∀ j, j ≠ 209 → D1 j = D j) → (∀ j, ¬ (86 ≤ j ∧ j < 146) → D1 209 j = D 209 j) → (∀ j, j < i → D1 209 (86 + j) = W j) → n_X12_keepsWork E l D1 2 [some (g_R 208), some (g_I i)] K := by
    intro q
    induction q with
    | zero =>
      intro i D1 hq hi f f2 hy
      obtain rfl : i = 60 := by omega
      exact s_X12_keepsWork_2 (fun _ _ => ⟨fun _ => kk D1 f f2 hy, fun w => (by omega : False).elim⟩)
    | succ q ih =>
      intro i D1 hq hi f f2 hy
      refine s_X12_keepsWork_2 (fun _ _ => ⟨fun w => (by omega : False).elim, fun _ => ⟨⟨by omega, by omega⟩, by omega, by omega, fun D3 e3 => ⟨⟨by omega, by omega⟩, ?_⟩⟩⟩)
      rw [show (86 + (i : Int)).toNat = 86 + i by omega, Int.toNat_natCast, f 239 (by decide), hW i (by omega)] at e3
      rw [g_cast1]
      refine ih (i + 1) D3 (by omega) (by omega) (fun j hj => by rw [e3, g_up_ne hj]; exact f j hj) (fun j hj => by rw [e3, g_up_at (by omega)]; exact f2 j hj) (fun j hj => ?_)
      rw [e3]
      by_cases e : j = i
      · subst e; rw [g_up_eq]
      · rw [g_up_at (by omega)]; exact hy j (by omega)
  exact s_X12_keepsWork (fun _ => key 60 0 D rfl (by omega) (fun _ _ => rfl) (fun _ _ => rfl) (fun j hj => absurd hj (Nat.not_lt_zero j)))
theorem c_X12_isFit {K : Int → g_D → Prop} {s : Nat} (hA : q_A b N n) (hx : m_crs D b n W0) (hs : s ≤ t_o b n) (hW : m_Wk D W) (kk : K (g_b (q_fb b n W0 W s)) D) : k_X12_isFit E l D s K := by
  have hcnt := hA.cnt
  have hnd := hx.2.2 s hs
  have hdu := hx.2.1 s (by omega)
  have second : (∀ i, i < 40 → W i = q_due b n W0 s i) → ∀ q i : Nat, 20 - i = q → i ≤ 20 → (∀ j, j < i → (q_nd b n s).testBit j = true → W (40 + j) = q_due b n W0 s (40 + j)) → n_X12_isFit E l D 38 [some (g_R 208), some (g_I s), some (g_I i)] K := by
    intro h1 q
    induction q with
    | zero =>
      intro i hq hi hy
      obtain rfl : i = 20 := by omega
      rw [q_fb_iff.mpr ⟨h1, hy⟩] at kk
      exact s_X12_isFit_38 (fun _ _ _ => ⟨fun _ => kk, fun w => (by omega : False).elim⟩)
    | succ q ih =>
      intro i hq hi hy
      refine s_X12_isFit_38 (fun _ _ _ => ⟨fun w => (by omega : False).elim, fun _ => ⟨by omega, ?_⟩⟩)
      rw [Int.toNat_natCast, hnd, g_bit_s (m_lt20 (q_nd_lt hA)) (by omega)]
      refine ⟨fun w => ⟨⟨by omega, by omega⟩, ?_⟩, fun w => ⟨⟨by omega, by omega⟩, by omega, ⟨by omega, by omega⟩, ⟨by omega, by omega⟩, ⟨by omega, by omega⟩, by omega, ?_⟩⟩
      · rw [g_cast1]
        refine ih (i + 1) (by omega) (by omega) (fun j hj ht => ?_)
        by_cases e : j = i
        · subst e; rw [if_pos ht] at w; exact absurd rfl w
        · exact hy j (by omega) ht
      · have ht : (q_nd b n s).testBit i = true := by
          cases z : (q_nd b n s).testBit i
          · rw [z, if_neg Bool.false_ne_true] at w; exact absurd w (by decide)
          · rfl
        rw [show (40 + (i : Int)).toNat = 40 + i by omega, show (60 * (s : Int) + 40 + i).toNat = 60 * s + (40 + i) by omega, hW _ (by omega), hdu _ (by omega)]
        refine ⟨fun z => ⟨⟨by omega, by omega⟩, ?_⟩, fun z => ?_⟩
        · rw [g_cast1]
          refine ih (i + 1) (by omega) (by omega) (fun j hj ht => ?_)
          by_cases e : j = i
          · subst e; exact z
          · exact hy j (by omega) ht
        · rw [q_fb_no (fun y => z (y.2 i (by omega) ht))] at kk; exact kk
  have first : ∀ q i : Nat, 40 - i = q → i ≤ 40 → (∀ j, j < i → W j = q_due b n W0 s j) → n_X12_isFit E l D 2 [some (g_R 208), some (g_I s), some (g_I i)] K := by
    intro q
    induction q with
    | zero =>
      intro i hq hi hy
      obtain rfl : i = 40 := by omega
      exact s_X12_isFit_2 (fun _ _ _ => ⟨fun _ => second hy 20 0 rfl (by omega) (fun j hj => absurd hj (Nat.not_lt_zero j)), fun w => (by omega : False).elim⟩)
    | succ q ih =>
      intro i hq hi hy
      refine s_X12_isFit_2 (fun _ _ _ => ⟨fun w => (by omega : False).elim, fun _ => ⟨by omega, ⟨by omega, by omega⟩, ⟨by omega, by omega⟩, by omega, ?_⟩⟩)
      rw [Int.toNat_natCast, show (60 * (s : Int) + i).toNat = 60 * s + i by omega, hW _ (by omega), hdu _ (by omega)]
      refine ⟨fun z => ⟨⟨by omega, by omega⟩, ?_⟩, fun z => ?_⟩
      · rw [g_cast1]
        refine ih (i + 1) (by omega) (by omega) (fun j hj => ?_)
        by_cases e : j = i
        · subst e; exact z
        · exact hy j (by omega)
      · rw [q_fb_no (fun y => z (y.1 i (by omega)))] at kk; exact kk
  exact s_X12_isFit (fun _ _ => first 40 0 rfl (by omega) (fun j hj => absurd hj (Nat.not_lt_zero j)))
theorem c_X12_leastFit {K : Int → g_D → Prop} (hA : q_A b N n) (hx : m_crs D b n W0) (hW : m_Wk D W) (kk : K (q_ff b n W0 W) D) : k_X12_leastFit E l D K := by
  have hcnt := hA.cnt
  have h46 := hx.1.1
  unfold q_ff at kk
  have key : ∀ q s : Nat, t_o b n + 1 - s = q → s ≤ t_o b n + 1 → (∀ t, t < s → q_fb b n W0 W t = false) → n_X12_leastFit E l D 2 [some (g_R 208), some (g_I s)] K := by
    intro q
    induction q with
    | zero =>
      intro s hq hs hy
      obtain rfl : s = t_o b n + 1 := by omega
      rw [m_lo_none hy, if_neg (by omega)] at kk
      exact s_X12_leastFit_2 (fun _ _ => ⟨fun _ => kk, fun w => (by omega : False).elim⟩)
    | succ q ih =>
      intro s hq hs hy
      refine s_X12_leastFit_2 (fun _ _ => ⟨fun w => (by omega : False).elim, fun _ => c_X12_isFit hA hx (by omega) hW (fun _ => ⟨fun w => ⟨⟨by omega, by omega⟩, ?_⟩, fun w => ?_⟩)⟩)
      · rw [g_cast1]
        refine ih (s + 1) (by omega) (by omega) (fun t ht => ?_)
        by_cases e : t = s
        · rw [e]; exact g_b_0.mp w
        · exact hy t (by omega)
      · rw [m_lo_eq (a := s) (by omega) (g_b_n0.mp w) hy, if_pos (by omega)] at kk
        exact kk
  exact s_X12_leastFit (fun _ => key _ 0 rfl (Nat.zero_le _) (fun t ht => absurd ht (Nat.not_lt_zero t)))
end DUEM
end
