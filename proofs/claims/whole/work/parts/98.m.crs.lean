section
/-! the class's course is built -/
def x_nd (D : g_D) (b : Nat → Int) (n : Nat) : Prop := ∀ s, s ≤ t_o b n → D 186 s = (q_nd b n s : Nat)
def x_du (D : g_D) (b : Nat → Int) (n : Nat) (W0 : Nat → Int) (c : Nat) : Prop := ∀ s, s < c → (∀ k, k < 10 → D 185 (10 * s + k) = q_pk (q_due b n W0 s) k) ∧ ∀ i, i < 20 → D 187 (20 * q_at b n s + i) = q_due b n W0 s (40 + i)
def x_crs (D : g_D) (b : Nat → Int) (N n : Nat) (W0 : Nat → Int) : Prop := x_cx D b N n ∧ x_nd D b n ∧ x_du D b n W0 (t_o b n + 1)
theorem x_crs.fr {D D' : g_D} {b : Nat → Int} {N n : Nat} {W0 : Nat → Int} (h : x_crs D b N n W0) (e : ∀ i, 175 ≤ i → i ≤ 187 → D' i = D i) : x_crs D' b N n W0 := by
  refine ⟨h.1.fr (fun i a c => e i a (by omega)), ?_, ?_⟩
  · unfold x_nd at *; rw [e 186 (by omega) (by omega)]; exact h.2.1
  · unfold x_du at *; rw [e 185 (by omega) (by omega), e 187 (by omega) (by omega)]; exact h.2.2
section CRS
variable {E : g_E} {l : Launch} {sh : List g_Sh} {D : g_D} {b W W0 : Nat → Int} {N n : Nat}
theorem c_X1_bitsReadAt {K : Int → g_D → Prop} {s : Nat} (hA : q_A b N n) (hx : x_cx D b N n) (hs : s < t_o b n) (h3 : a_k b (t_sa b n s) = 3) (kk : K (q_bs b n s : Nat) D) : k_X1_bitsReadAt E l D s K := by
  obtain ⟨a1, a2, a3⟩ := t_sb_rng hA.1 hs
  have hcnt := hA.cnt
  have hn := hA.2.1
  have hst := hx.1.2 s hs
  obtain ⟨r1, r2, r3, r4⟩ := hx.2.2.1 _ a1
  obtain ⟨B, hB, hB1, hB2, hB3⟩ := q_blk hA hs (by omega)
  have hin := q_bs_in hA hs h3
  unfold q_bs at kk
  rw [hB, Int.toNat_natCast] at hin kk
  obtain ⟨o1, o2, o3, o4, o5, o6, o7, k1, k2, k3, k4, k5, k6⟩ := hA.1 _ a1
  have k3 := k3 h3
  generalize hi : t_sa b n s = i at *
  have q8 : D 178 i = n_to b i := by rw [← o4]; exact r2
  have q9 : D 179 i = n_fr b i := by rw [← k5 (by omega)]; exact r3
  have q0 : D 180 i = n_ln b i := by rw [← o6]; exact r4
  refine s_X1_bitsReadAt (fun _ _ => ?_)
  rw [Int.toNat_natCast, hst.1, hst.2, hB, Int.toNat_natCast, q8, q9, q0]
  rw [show (n_fr b i : Int) + max (n_to b i : Int) ((B : Int) * 4) - n_to b i = ((n_fr b i + (max (n_to b i) (4 * B) - n_to b i) : Nat) : Int) by omega, show min ((n_to b i : Int) + n_ln b i) (((B : Int) + 1) * 4) - max (n_to b i : Int) ((B : Int) * 4) = ((min (n_to b i + n_ln b i) (4 * B + 4) - max (n_to b i) (4 * B) : Nat) : Int) by omega]
  exact ⟨by omega, by omega, by omega, ⟨by omega, by omega⟩, by omega, by omega, ⟨by omega, by omega⟩, by omega, ⟨by omega, by omega⟩, ⟨by omega, by omega⟩, by omega, ⟨by omega, by omega⟩, by omega, ⟨by omega, by omega⟩, ⟨by omega, by omega⟩, c_X11_onesFrom hin (fun _ => kk)⟩
theorem c_X1_markNeeded {K : g_D → Prop} (hA : q_A b N n) (hx : x_cx D b N n) (kk : ∀ D' : g_D, (∀ i, i ≠ 186 → D' i = D i) → x_nd D' b n → K D') : k_X1_markNeeded E l D K := by
  have hcnt := hA.cnt
  have hn := hA.2.1
  have h4 := hx.1.1
  have key : ∀ (s : Nat) (D1 : g_D), s ≤ t_o b n → (∀ i, i ≠ 186 → D1 i = D i) → (∀ t, s ≤ t → t ≤ t_o b n → D1 186 t = (q_nd b n t : Nat)) → n_X1_markNeeded E l D1 17 [some (g_R 175), some (g_I ((s : Int) - 1)), none] K := by
    intro s
    induction s with
    | zero =>
      intro D1 hs f hy
      exact s_X1_markNeeded_17 (fun _ _ => ⟨fun _ => kk D1 f (fun t ht => hy t (Nat.zero_le _) ht), fun w => (by omega : False).elim⟩)
    | succ s ih =>
      intro D1 hs f hy
      have hs' : s < t_o b n := by omega
      obtain ⟨a1, a2, a3⟩ := t_sb_rng hA.1 hs'
      obtain ⟨o1, o2, o3, o4, o5, o6, o7, k1, k2, k3, k4, k5, k6⟩ := hA.1 _ a1
      have hst := hx.1.2 s hs'
      obtain ⟨r1, r2, r3, r4⟩ := hx.2.2.1 _ a1
      have hy1 := hy (s + 1) (Nat.le_refl _) hs
      have hlt := q_nd_lt (s := s + 1) hA
      have hS := q_nd_S hs'
      unfold q_nx at hS
      have p3 : D1 183 s = (t_sa b n s : Nat) := by rw [f 183 (by decide)]; exact hst.1
      have p7 : D1 177 (t_sa b n s) = a_k b (t_sa b n s) := by rw [f 177 (by decide)]; exact r1
      have p8 : D1 178 (t_sa b n s) = (n_to b (t_sa b n s) : Nat) := by rw [f 178 (by decide), ← o4]; exact r2
      have p0 : D1 180 (t_sa b n s) = (n_ln b (t_sa b n s) : Nat) := by rw [f 180 (by decide), ← o6]; exact r4
      have fin : ∀ (D2 : g_D), (∀ i, i ≠ 186 → D2 i = D i) → (∀ t, t ≠ s → D2 186 t = D1 186 t) → D2 186 s = (q_nd b n s : Nat) → n_X1_markNeeded E l D2 17 [some (g_R 175), some (g_I (((s + 1 : Nat) : Int) - 1 + (-1))), none] K := by
        intro D2 f2 e1 e2
        rw [show ((s + 1 : Nat) : Int) - 1 + (-1) = (s : Int) - 1 by omega]
        refine ih D2 (by omega) f2 (fun t t1 t2 => ?_)
        by_cases e : t = s
        · rw [e]; exact e2
        · rw [e1 t e]; exact hy t (by omega) t2
      refine s_X1_markNeeded_17 (fun _ _ => ⟨fun w => (by omega : False).elim, fun _ => ?_⟩)
      rw [show (((s + 1 : Nat) : Int) - 1 + 1).toNat = s + 1 by omega, show (((s + 1 : Nat) : Int) - 1).toNat = s by omega, hy1, p3, Int.toNat_natCast, p7, p8, p0]
      refine ⟨by omega, ⟨by omega, by omega⟩, by omega, by omega, fun D2 e2 => ⟨by omega, fun w => ⟨by omega, fun w3 => ⟨⟨by omega, by omega⟩, fin D2 (fun i hi => by rw [e2, g_up_ne hi]; exact f i hi) (fun t ht => by rw [e2, g_up_at ht]) ?_⟩, fun w3 => ⟨by omega, ?_⟩⟩, fun w => ⟨by omega, by omega, by omega, ?_⟩⟩⟩
      · rw [e2, g_up_eq, hS, if_neg w, if_neg w3]
      · have hx2 : x_cx D2 b N n := hx.fr (fun i _ _ => by rw [e2, g_up_ne (by omega)]; exact f i (by omega))
        rw [show ((s + 1 : Nat) : Int) - 1 = (s : Int) by omega] at fin ⊢
        refine c_X1_bitsReadAt hA hx2 hs' w3 (fun _ => ⟨by omega, fun D3 e3 => ⟨⟨by omega, by omega⟩, fin D3 (fun i hi => by rw [e3, g_up_ne hi, e2, g_up_ne hi]; exact f i hi) (fun t ht => by rw [e3, g_up_at ht, e2, g_up_at ht]) ?_⟩⟩)
        have hbs : q_bs b n s < 2 ^ 20 := m_on_lt (q_bs_in hA hs' w3)
        rw [e3, g_up_eq, e2, g_up_eq, g_or_n (m_lt20 hlt) (m_lt20 hbs), hS, if_neg w, if_pos w3]
      · have k1 := k1 w
        refine c_X11_onesFrom (by omega) (fun _ => ⟨by omega, fun D3 e3 => ⟨⟨by omega, by omega⟩, fin D3 (fun i hi => by rw [e3, g_up_ne hi, e2, g_up_ne hi]; exact f i hi) (fun t ht => by rw [e3, g_up_at ht, e2, g_up_at ht]) ?_⟩⟩)
        rw [e3, g_up_eq, e2, g_up_eq, g_an (m_lt20 hlt), hS, if_pos w]
  refine s_X1_markNeeded (fun _ => ?_)
  rw [h4, Int.toNat_natCast]
  refine ⟨by omega, fun D1 e1 => ⟨⟨by omega, by omega⟩, key _ D1 (Nat.le_refl _) (fun i hi => by rw [e1, g_up_ne hi]) (fun t t1 t2 => ?_)⟩⟩
  rw [show t = t_o b n by omega, e1, g_up_eq, q_nd_0]; rfl
theorem c_X1_actAt {K : Int → g_D → Prop} {s : Nat} (hA : q_A b N n) (hx : x_cx D b N n) (kk : K (q_at b n s : Nat) D) : k_X1_actAt E l D s K := by
  have hcnt := hA.cnt
  have h4 := hx.1.1
  unfold q_at at kk
  refine s_X1_actAt (fun _ _ => ⟨fun w => ?_, fun w => ⟨by omega, ?_⟩⟩)
  · rw [if_neg (by omega)] at kk
    rw [hx.2.1]; exact kk
  · rw [if_pos (by omega)] at kk
    rw [Int.toNat_natCast, (hx.1.2 s (by omega)).1]; exact kk
theorem c_X1_noteDue {K : g_D → Prop} {s : Nat} (hA : q_A b N n) (hx : x_cx D b N n) (hs : s ≤ t_o b n) (hW : x_W D 188 W) (hb : q_by W 60)
    (kk : ∀ D' : g_D, (∀ i, i ≠ 185 → i ≠ 187 → D' i = D i) → (∀ j, ¬ (10 * s ≤ j ∧ j < 10 * s + 10) → D' 185 j = D 185 j) → (∀ k, k < 10 → D' 185 (10 * s + k) = q_pk W k) → (∀ j, ¬ (20 * q_at b n s ≤ j ∧ j < 20 * q_at b n s + 20) → D' 187 j = D 187 j) → (∀ i, i < 20 → D' 187 (20 * q_at b n s + i) = W (40 + i)) → K D') : k_X1_noteDue E l D s K := by
  have hcnt := hA.cnt
  have hn := hA.2.1
  have hat := q_at_le (b := b) (n := n) (s := s)
  have key : ∀ (q k : Nat) (D1 : g_D), 10 - k = q → k ≤ 10 → (∀ i, i ≠ 185 → D1 i = D i) → (∀ j, ¬ (10 * s ≤ j ∧ j < 10 * s + 10) → D1 185 j = D 185 j) → (∀ j, j < k → D1 185 (10 * s + j) = q_pk W j) → n_X1_noteDue E l D1 2 [some (g_R 175), some (g_I s), some (g_I k)] K := by
    intro q
    induction q with
    | zero =>
      intro k D1 hq hk f f1 hy
      obtain rfl : k = 10 := by omega
      refine s_X1_noteDue_2 (fun _ _ _ => ⟨fun _ => c_X1_actAt hA (hx.fr (fun i _ _ => f i (by omega))) (fun _ => ⟨⟨by omega, by omega⟩, by omega, fun D2 e2 => ?_⟩), fun w => (by omega : False).elim⟩)
      rw [show ((q_at b n s : Int) * 20).toNat = 20 * q_at b n s by omega] at e2
      refine kk D2 (fun i a1 a2 => ?_) (fun j hj => ?_) (fun j hj => ?_) (fun j hj => ?_) (fun i hi => ?_)
      · rw [e2, g_cpy, g_row_ne a2, f i a1]
      · rw [e2, g_cpy, g_row_ne (by decide), f1 j hj]
      · rw [e2, g_cpy, g_row_ne (by decide), hy j hj]
      · rw [e2, g_cpy, g_row_eq, if_neg hj, f 187 (by decide)]
      · rw [e2, g_cpy, g_row_eq, if_pos (by omega), Nat.zero_add, Nat.add_sub_cancel_left, f 190 (by decide)]
        exact hW.2 i hi
    | succ q ih =>
      intro k D1 hq hk f f1 hy
      refine s_X1_noteDue_2 (fun _ _ _ => ⟨fun w => (by omega : False).elim, fun _ => ⟨⟨by omega, by omega⟩, ⟨by omega, by omega⟩, ⟨by omega, by omega⟩, ?_⟩⟩)
      refine c_packed (W := W) (k := k) (m := 60) sh_189 (by omega) (by omega) (by omega) hb (by omega) (fun t ht => by rw [f 189 (by decide)]; exact hW.1 _ (by omega)) (fun _ => ⟨by omega, fun D2 e2 => ⟨⟨by omega, by omega⟩, ?_⟩⟩)
      rw [show ((s : Int) * 10 + k).toNat = 10 * s + k by omega] at e2
      rw [g_cast1]
      refine ih (k + 1) D2 (by omega) (by omega) (fun i hi => by rw [e2, g_up_ne hi]; exact f i hi) (fun j hj => by rw [e2, g_up_at (by omega)]; exact f1 j hj) (fun j hj => ?_)
      rw [e2]
      by_cases e : j = k
      · subst e; rw [g_up_eq]
      · rw [g_up_at (by omega)]; exact hy j (by omega)
  exact s_X1_noteDue (fun _ _ => key 10 0 D rfl (by omega) (fun _ _ => rfl) (fun _ _ => rfl) (fun j hj => absurd hj (Nat.not_lt_zero j)))
theorem c_X2_standAt {K : g_D → Prop} {k : Nat} {v : Int} (hk : is_Device g_SH k) (kk : ∀ D' : g_D, (∀ i, i ≠ k → D' i = D i) → D' k 6 = -1 → D' k 7 = v → D' k 8 = 1 → D' k 9 = 1 → K D') : k_X2_standAt E l D k v K := by
  refine s_X2_standAt hk (fun _ _ D1 e1 D2 e2 D3 e3 D4 e4 => kk D4 (fun i hi => ?_) ?_ ?_ ?_ ?_)
  · rw [e4, e3, e2, e1]; simp (disch := omega) only [g_up_ne, ne_eq, not_false_eq_true]
  · rw [e4, e3, e2, e1]; simp (disch := omega) only [g_up_at, g_up_eq, ne_eq, not_false_eq_true]
  · rw [e4, e3, e2]; simp (disch := omega) only [g_up_at, g_up_eq, ne_eq, not_false_eq_true]
  · rw [e4, e3]; simp (disch := omega) only [g_up_at, g_up_eq, ne_eq, not_false_eq_true]
  · rw [e4, g_up_eq]
/-- one more step is noted -/
theorem x_du.more {D' : g_D} {s : Nat} (hA : q_A b N n) (hs : s ≤ t_o b n) (h : x_du D b n W0 s) (f1 : ∀ j, ¬ (10 * s ≤ j ∧ j < 10 * s + 10) → D' 185 j = D 185 j) (f2 : ∀ k, k < 10 → D' 185 (10 * s + k) = q_pk (q_due b n W0 s) k) (f3 : ∀ j, ¬ (20 * q_at b n s ≤ j ∧ j < 20 * q_at b n s + 20) → D' 187 j = D 187 j) (f4 : ∀ i, i < 20 → D' 187 (20 * q_at b n s + i) = q_due b n W0 s (40 + i)) : x_du D' b n W0 (s + 1) := by
  intro t ht
  by_cases e : t = s
  · subst e; exact ⟨f2, f4⟩
  · obtain ⟨h1, h2⟩ := h t (by omega)
    refine ⟨fun k hk => ?_, fun i hi => ?_⟩
    · rw [f1 _ (by omega)]; exact h1 k hk
    · by_cases e2 : q_at b n t = q_at b n s
      · rw [e2, f4 i hi, q_due_st hA (show t ≤ s by omega) hs e2 (40 + i) (by omega)]
      · rw [f3 _ (by omega)]; exact h2 i hi
theorem c_X1_walkDue {K : g_D → Prop} (hA : q_A b N n) (hbb : q_by b N) (hx : x_cx D b N n) (hb : q_by W0 60) (h1 : ∀ i, i < 40 → D 10 i = W0 i) (h2 : ∀ i, i < 20 → D 11 i = W0 (40 + i))
    (kk : ∀ D' : g_D, (∀ i, ¬ (175 ≤ i ∧ i ≤ 197) → D' i = D i) → (∀ i, i ≤ 184 → D' i = D i) → D' 186 = D 186 → x_du D' b n W0 (t_o b n + 1) → K D') : k_X1_walkDue E l D 7 K := by
  have hcnt := hA.cnt
  have key : ∀ (q s : Nat) (D1 : g_D), t_o b n - s = q → s ≤ t_o b n → (∀ i, ¬ (175 ≤ i ∧ i ≤ 197) → D1 i = D i) → (∀ i, i ≤ 184 → D1 i = D i) → D1 186 = D 186 → x_W D1 188 (q_due b n W0 s) → D1 188 7 = s → x_du D1 b n W0 (s + 1) → n_X1_walkDue E l D1 51 [some (g_R 175), none, some (g_I s)] K := by
    intro q
    induction q with
    | zero =>
      intro s D1 hq hs f f2 f3 hw h7 hd
      obtain rfl : s = t_o b n := by omega
      have h4 : D1 175 4 = (t_o b n : Nat) := by rw [f2 175 (by decide)]; exact hx.1.1
      exact s_X1_walkDue_51 ip_Device_7 (fun _ _ => ⟨fun _ => kk D1 f f2 f3 hd, fun w => (by omega : False).elim⟩)
    | succ q ih =>
      intro s D1 hq hs f f2 f3 hw h7 hd
      have h4 : D1 175 4 = (t_o b n : Nat) := by rw [f2 175 (by decide)]; exact hx.1.1
      have hx1 : x_cx D1 b N n := hx.fr (fun i _ c => f2 i c)
      refine s_X1_walkDue_51 ip_Device_7 (fun _ _ => ⟨fun w => (by omega : False).elim, fun _ => c_X1_doStep ip_Device_188 (by decide) hA hx1 h7 (by omega) hw (fun D2 g1 g2 g3 g4 => ⟨⟨by omega, by omega⟩, ?_⟩)⟩)
      rw [g_cast1]
      have hx2 : x_cx D2 b N n := hx1.fr (fun i _ c => g1 i (by omega) (by omega) (by omega) (by omega))
      have g4' : x_W D2 188 (q_due b n W0 (s + 1)) := g4
      refine c_X1_noteDue hA hx2 (by omega) g4' (q_due_by hA hbb hb (by omega)) (fun D3 k1 k2 k3 k4 k5 => ⟨⟨by omega, by omega⟩, ?_⟩)
      refine ih (s + 1) D3 (by omega) (by omega) (fun i hi => ?_) (fun i hi => ?_) ?_ ?_ ?_ ?_
      · rw [k1 i (by omega) (by omega), g1 i (by omega) (by omega) (by omega) (by omega)]; exact f i hi
      · rw [k1 i (by omega) (by omega), g1 i (by omega) (by omega) (by omega) (by omega)]; exact f2 i hi
      · rw [k1 186 (by decide) (by decide), g1 186 (by decide) (by decide) (by decide) (by decide)]; exact f3
      · unfold x_W at *; rw [k1 (188 + 1) (by decide) (by decide), k1 (188 + 2) (by decide) (by decide)]; exact g4'
      · rw [k1 188 (by decide) (by decide)]; exact g3
      · have hd2 : x_du D2 b n W0 (s + 1) := by unfold x_du at *; rw [g1 185 (by decide) (by decide) (by decide) (by decide), g1 187 (by decide) (by decide) (by decide) (by decide)]; exact hd
        exact hd2.more hA (by omega) k2 k3 k4 k5
  refine s_X1_walkDue ip_Device_7 (fun _ => ⟨by decide, fun D1 e1 => ⟨by decide, fun D2 e2 => c_X2_standAt ip_Device_188 (fun D3 g1 g6 g7 g8 g9 => ?_)⟩⟩)
  have f2 : ∀ i, i ≠ 189 → i ≠ 190 → i ≠ 188 → D3 i = D i := fun i a c d => by rw [g1 i d, e2, g_cpy, g_row_ne c, e1, g_cpy, g_row_ne a]
  have w3 : x_W D3 188 W0 := by
    refine ⟨fun i hi => ?_, fun i hi => ?_⟩
    · rw [g1 _ (by decide), e2, g_cpy, g_row_ne (by decide), e1, g_cpy, g_row_eq, if_pos (by omega), Nat.zero_add, Nat.sub_zero]; exact h1 i hi
    · rw [g1 _ (by decide), e2, g_cpy, g_row_eq, if_pos (by omega), Nat.zero_add, Nat.sub_zero, e1, g_cpy, g_row_ne (by decide)]; exact h2 i hi
  refine c_X1_noteDue (s := 0) hA (hx.fr (fun i _ c => f2 i (by omega) (by omega) (by omega))) (Nat.zero_le _) w3 hb (fun D4 k1 k2 k3 k4 k5 => ?_)
  refine key _ 0 D4 rfl (Nat.zero_le _) (fun i hi => ?_) (fun i hi => ?_) ?_ ?_ ?_ ?_
  · rw [k1 i (by omega) (by omega)]; exact f2 i (by omega) (by omega) (by omega)
  · rw [k1 i (by omega) (by omega)]; exact f2 i (by omega) (by omega) (by omega)
  · rw [k1 186 (by decide) (by decide)]; exact f2 186 (by decide) (by decide) (by decide)
  · unfold x_W at *; rw [k1 (188 + 1) (by decide) (by decide), k1 (188 + 2) (by decide) (by decide)]; exact w3
  · rw [k1 188 (by decide) (by decide)]; exact g7
  · have h0 : x_du D3 b n W0 0 := fun t ht => absurd ht (Nat.not_lt_zero t)
    exact h0.more hA (Nat.zero_le _) k2 k3 k4 k5
theorem r_all_A {x : Int} (hN : N ≤ 160) (h : r_all b N = (n, 0, x)) : q_A b N n := by
  obtain ⟨h1, h2, h3⟩ := r_all_ok h
  exact ⟨fun i hi => (h2 i hi).nat, h1, hN⟩
theorem c_X1_build {K : g_D → Prop} {x : Int} (hN : N ≤ 160) (hr : r_all b N = (n, 0, x)) (hbb : q_by b N) (h12 : D 12 1 = N) (h13 : ∀ i, i < N → D 13 i = b i) (hb : q_by W0 60) (h1 : ∀ i, i < 40 → D 10 i = W0 i) (h2 : ∀ i, i < 20 → D 11 i = W0 (40 + i))
    (kk : ∀ D' : g_D, (∀ i, ¬ (175 ≤ i ∧ i ≤ 197) → D' i = D i) → x_crs D' b N n W0 → K D') : k_X1_build E l D 7 K := by
  have hA := r_all_A hN hr
  have hn := hA.2.1
  refine s_X1_build ip_Device_7 (fun _ => ?_)
  show k_X0_copyFirst E l g_SH D 181 12 (D 12 1) _
  rw [h12]
  refine c_X0_copyFirst (c := b) (s := N) ip_Cells_181 ip_Cells_12 h12 hN (Nat.le_refl _) hN (by decide) (by decide) h13 (fun D1 f1 g1 _ g2 _ => ?_)
  rw [g1]
  have hbs : x_bs D1 181 b N := ⟨⟨N, g1, Nat.le_refl _, hN⟩, g2⟩
  refine c_X5_readActs ip_Reader_176 ip_Cells_181 (by decide) (by decide) hbs hN (fun D2 f2 q4 q5 q6 qA => ?_)
  rw [hr] at q4 qA
  refine c_X1_listSteps hA.1 hn q4 qA (fun D3 f3 s3 => ?_)
  have hx3 : x_cx D3 b N n := by
    refine ⟨s3, by rw [f3.1 176 (by decide) (by decide) (by decide)]; exact q4, ?_, ?_, fun x hx => ?_⟩
    · unfold x_rdA at *; rw [f3.1 (176 + 1) (by decide) (by decide) (by decide), f3.1 (176 + 2) (by decide) (by decide) (by decide), f3.1 (176 + 3) (by decide) (by decide) (by decide), f3.1 (176 + 4) (by decide) (by decide) (by decide)]; exact qA
    · rw [f3.1 181 (by decide) (by decide) (by decide), f2 181 (by decide)]; exact g1
    · rw [f3.1 182 (by decide) (by decide) (by decide), f2 182 (by decide)]; exact g2 x hx
  have f3' : ∀ i, ¬ (175 ≤ i ∧ i ≤ 197) → D3 i = D i := fun i hi => by rw [f3.1 i (by omega) (by omega) (by omega), f2 i (by omega), f1 i (by omega) (by omega)]
  refine c_X1_markNeeded hA hx3 (fun D4 f4 nd4 => ?_)
  have f4' : ∀ i, ¬ (175 ≤ i ∧ i ≤ 197) → D4 i = D i := fun i hi => by rw [f4 i (by omega)]; exact f3' i hi
  have hx4 : x_cx D4 b N n := hx3.fr (fun i _ _ => f4 i (by omega))
  refine c_X1_walkDue hA hbb hx4 hb (fun i hi => by rw [f4' 10 (by decide)]; exact h1 i hi) (fun i hi => by rw [f4' 11 (by decide)]; exact h2 i hi) (fun D5 k1 k2 k3 k4 => kk D5 (fun i hi => by rw [k1 i hi]; exact f4' i hi) ⟨hx4.fr (fun i _ c => k2 i c), ?_, k4⟩)
  unfold x_nd at *; rw [k3]; exact nd4
end CRS
end
