section
/-! how many cuts are survived -/
noncomputable def q_hl (b : Nat → Int) (n : Nat) (W0 : Nat → Int) (wh s ph : Nat) : Bool := if q_so b n W0 (q_due b n W0 s) wh s ph = -1 then false else q_rt b n W0 (q_run b n (q_sW b n (q_due b n W0 s) wh s ph) (q_so b n W0 (q_due b n W0 s) wh s ph).toNat (t_o b n - (q_so b n W0 (q_due b n W0 s) wh s ph).toNat))
noncomputable def q_ht (b : Nat → Int) (n : Nat) (W0 : Nat → Int) (wh : Nat) : Nat → Nat
  | 0 => 0
  | s + 1 => q_ht b n W0 wh s + m_cnt (q_hl b n W0 wh s) 4
theorem q_ht_le {b : Nat → Int} {n wh : Nat} {W0 : Nat → Int} : ∀ s, q_ht b n W0 wh s ≤ 4 * s
  | 0 => Nat.le_refl _
  | s + 1 => by
    have := q_ht_le (b := b) (n := n) (wh := wh) (W0 := W0) s
    have h2 := m_cnt_le (P := q_hl b n W0 wh s) 4
    rw [q_ht]; omega
noncomputable def q_h2 (b : Nat → Int) (n : Nat) (W0 : Nat → Int) (p1 p2 s : Nat) : Bool :=
  if (q_so b n W0 (q_due b n W0 s) 0 s p1).toNat < t_o b n then q_rt b n W0 (q_run b n (q_sW b n (q_sW b n (q_due b n W0 s) 0 s p1) 0 (q_so b n W0 (q_due b n W0 s) 0 s p1).toNat p2) (q_so b n W0 (q_sW b n (q_due b n W0 s) 0 s p1) 0 (q_so b n W0 (q_due b n W0 s) 0 s p1).toNat p2).toNat (t_o b n - (q_so b n W0 (q_sW b n (q_due b n W0 s) 0 s p1) 0 (q_so b n W0 (q_due b n W0 s) 0 s p1).toNat p2).toNat))
  else q_rt b n W0 (q_run b n (q_sW b n (q_due b n W0 s) 0 s p1) (q_so b n W0 (q_due b n W0 s) 0 s p1).toNat (t_o b n - (q_so b n W0 (q_due b n W0 s) 0 s p1).toNat))
def x_tr (D : g_D) (b : Nat → Int) (n : Nat) (W0 : Nat → Int) : Prop := ∀ wh, 1 ≤ wh → wh ≤ 3 → D 207 wh = -1 ∨ D 207 wh = (q_ht b n W0 wh (t_o b n) : Nat)
theorem q_so0 {b : Nat → Int} {n wh s ph : Nat} {W0 W : Nat → Int} (h : ¬ wh = 2) : q_so b n W0 W wh s ph = s ∨ q_so b n W0 W wh s ph = ((s + 1 : Nat) : Int) := by
  unfold q_so
  rw [if_neg h]
  split
  · exact Or.inl rfl
  · exact Or.inr rfl
section HEAL
variable {E : g_E} {l : Launch} {sh : List g_Sh} {D : g_D} {b W W0 C : Nat → Int} {N n : Nat}
theorem c_X10_survived {K : Int → g_D → Prop} {wh : Nat} (hA : q_A b N n) (hbb : q_by b N) (hb0 : q_by W0 60) (hx : x_crs D b N n W0) (hT : x_tr D b n W0) (h1 : 1 ≤ wh) (h3 : wh ≤ 3)
    (kk : ∀ D' : g_D, (∀ j, j ≠ 196 → j ≠ 197 → ¬ (199 ≤ j ∧ j ≤ 207) → D' j = D j) → x_tr D' b n W0 → K (q_ht b n W0 wh (t_o b n) : Nat) D') : k_X10_survived E l D wh K := by
  have hcnt := hA.cnt
  have inner : ∀ (s : Nat), s < t_o b n → (∀ D1 : g_D, q_ft D D1 → n_X10_survived E l D1 33 [some (g_R 198), some (g_R 175), some (g_I wh), some (g_I (q_ht b n W0 wh (s + 1) : Nat)), some (g_I ((s : Int) + 1)), none] K) → ∀ (q ph : Nat) (D1 : g_D), 4 - ph = q → ph ≤ 4 → q_ft D D1 → n_X10_survived E l D1 45 [some (g_R 198), some (g_R 175), some (g_I wh), some (g_I ((q_ht b n W0 wh s + m_cnt (q_hl b n W0 wh s) ph : Nat) : Int)), some (g_I s), some (g_I ph)] K := by
    intro s hs next q
    induction q with
    | zero =>
      intro ph D1 hq hph f
      obtain rfl : ph = 4 := by omega
      exact s_X10_survived_45 (fun _ _ _ _ _ => ⟨fun _ => ⟨⟨by omega, by omega⟩, next D1 f⟩, fun w => (by omega : False).elim⟩)
    | succ q ih =>
      intro ph D1 hq hph f
      have hle := q_ht_le (b := b) (n := n) (wh := wh) (W0 := W0) s
      have hle2 := m_cnt_le (P := q_hl b n W0 wh s) ph
      have hx1 := f.crs hx
      have go : ∀ (D2 : g_D), q_ft D D2 → n_X10_survived E l D2 45 [some (g_R 198), some (g_R 175), some (g_I wh), some (g_I ((q_ht b n W0 wh s + (if q_hl b n W0 wh s ph then m_cnt (q_hl b n W0 wh s) ph + 1 else m_cnt (q_hl b n W0 wh s) ph) : Nat) : Int)), some (g_I s), some (g_I ((ph : Int) + 1))] K := fun D2 f2 => by
        have := ih (ph + 1) D2 (by omega) (by omega) f2
        rw [m_cnt] at this
        rw [g_cast1]
        exact this
      have hdb := q_due_by hA hbb hb0 (Nat.le_of_lt hs)
      refine s_X10_survived_45 (fun _ _ _ _ _ => ⟨fun w => (by omega : False).elim, fun _ => c_X1_standAsDue hA hbb hb0 hx1 (by omega) (fun D2 f2 w2 g6 g7 g8 => ?_)⟩)
      have fd2 : q_ft D D2 := f.trans (fun j a c d => f2 j (by omega) (by omega) (by omega))
      refine c_X10_survives (W := q_due b n W0 s) hA hbb hb0 (fd2.crs hx) hs (by omega) h3 w2 hdb g6 g7 g8 (fun z D3 f3 _ => ⟨fun _ => ⟨⟨by omega, by omega⟩, ?_⟩, fun w => absurd rfl w⟩) (fun z D3 f3 w3 i6 i7 i8 _ => ⟨fun w => absurd w (by decide), fun _ => ?_⟩)
      · have := go D3 (fd2.trans f3)
        rw [show q_hl b n W0 wh s ph = false from if_pos z, if_neg Bool.false_ne_true] at this
        exact this
      · have hr := q_so_rng (b := b) (n := n) (W0 := W0) (W := q_due b n W0 s) (wh := wh) (ph := ph) hs
        have fd3 := fd2.trans f3
        refine c_X10_endsAsDue (s := (q_so b n W0 (q_due b n W0 s) wh s ph).toNat) hA hbb hb0 (fd3.crs hx) (by omega) w3 (q_sW_by hA hbb hdb hs) (by rw [i7]; omega) (fun D4 f4 _ => ?_)
        have := go D4 (fd3.trans f4)
        have e : q_hl b n W0 wh s ph = q_rt b n W0 (q_run b n (q_sW b n (q_due b n W0 s) wh s ph) (q_so b n W0 (q_due b n W0 s) wh s ph).toNat (t_o b n - (q_so b n W0 (q_due b n W0 s) wh s ph).toNat)) := if_neg z
        rw [← e]
        refine ⟨fun w => ⟨⟨by omega, by omega⟩, ?_⟩, fun w => ⟨⟨by omega, by omega⟩, ⟨by omega, by omega⟩, ?_⟩⟩
        · rw [g_b_0.mp w, if_neg Bool.false_ne_true] at this; exact this
        · rw [g_b_n0.mp w, if_pos rfl, ← Nat.add_assoc, ← g_cast1] at this; exact this
  have outer : ∀ (q s : Nat) (D1 : g_D), t_o b n - s = q → s ≤ t_o b n → q_ft D D1 → n_X10_survived E l D1 33 [some (g_R 198), some (g_R 175), some (g_I wh), some (g_I (q_ht b n W0 wh s : Nat)), some (g_I s), none] K := by
    intro q
    induction q with
    | zero =>
      intro s D1 hq hs f
      obtain rfl : s = t_o b n := by omega
      have h4 := (f.crs hx).1.1.1
      refine s_X10_survived_33 (fun _ _ _ _ => ⟨fun _ => ⟨by omega, fun D2 e2 => kk D2 (fun j a c d => ?_) (fun w w1 w2 => ?_)⟩, fun w => (by omega : False).elim⟩)
      · rw [e2, g_up_ne (by omega)]; exact f j a c (by omega)
      · rw [e2, Int.toNat_natCast]
        by_cases e : w = wh
        · subst e; rw [g_up_eq]; exact Or.inr rfl
        · rw [g_up_at e, f 207 (by decide) (by decide) (by decide)]; exact hT w w1 w2
    | succ q ih =>
      intro s D1 hq hs f
      have h4 := (f.crs hx).1.1.1
      refine s_X10_survived_33 (fun _ _ _ _ => ⟨fun w => (by omega : False).elim, fun _ => ?_⟩)
      exact inner s (by omega) (fun D2 f2 => by rw [g_cast1]; exact ih (s + 1) D2 (by omega) (by omega) f2) 4 0 D1 rfl (by omega) f
  refine s_X10_survived (fun _ _ => ⟨fun _ => ?_, fun w => (by omega : False).elim⟩)
  rw [Int.toNat_natCast]
  refine ⟨by omega, fun w => outer _ 0 D rfl (Nat.zero_le _) (q_ft.refl D), fun w => ⟨by omega, ?_⟩⟩
  rcases hT wh h1 h3 with z | z
  · exact absurd z w
  · rw [z]; exact kk D (fun _ _ _ _ => rfl) hT
theorem c_survived0 {K : Int → g_D → Prop} (hA : q_A b N n) (hx : x_crs D b N n W0) (kk : K ((4 * t_o b n : Nat) : Int) D) : k_X10_survived E l D 0 K := by
  have hcnt := hA.cnt
  refine s_X10_survived (fun _ _ => ⟨fun w => absurd rfl w, fun _ => ?_⟩)
  rw [hx.1.1.1]
  refine ⟨⟨by omega, by omega⟩, ?_⟩
  rw [show ((t_o b n : Nat) : Int) * 4 = ((4 * t_o b n : Nat) : Int) by omega]
  exact kk
theorem c_X10_survivedTwice {K : Int → g_D → Prop} {p1 p2 : Nat} (hA : q_A b N n) (hbb : q_by b N) (hb0 : q_by W0 60) (hx : x_crs D b N n W0) (h1 : p1 ≤ 3) (h2 : p2 ≤ 3)
    (kk : ∀ D' : g_D, q_ft D D' → K (m_cnt (q_h2 b n W0 p1 p2) (t_o b n) : Nat) D') : k_X10_survivedTwice E l D p1 p2 K := by
  have hcnt := hA.cnt
  have key : ∀ (q s : Nat) (D1 : g_D), t_o b n - s = q → s ≤ t_o b n → q_ft D D1 → n_X10_survivedTwice E l D1 6 [some (g_R 198), some (g_R 175), some (g_I p1), some (g_I p2), some (g_I (m_cnt (q_h2 b n W0 p1 p2) s : Nat)), some (g_I s), none] K := by
    intro q
    induction q with
    | zero =>
      intro s D1 hq hs f
      obtain rfl : s = t_o b n := by omega
      have h4 := (f.crs hx).1.1.1
      exact s_X10_survivedTwice_6 (fun _ _ _ _ _ => ⟨fun _ => kk D1 f, fun w => (by omega : False).elim⟩)
    | succ q ih =>
      intro s D1 hq hs f
      have hs' : s < t_o b n := by omega
      have hx1 := f.crs hx
      have h4 := hx1.1.1.1
      have hle := m_cnt_le (P := q_h2 b n W0 p1 p2) s
      have hdb := q_due_by hA hbb hb0 (Nat.le_of_lt hs')
      have go : ∀ (D2 : g_D) (x : Int), q_ft D D2 → x = g_b (q_h2 b n W0 p1 p2 s) → (x = 0 → (g_r ((s : Int) + 1)) ∧ (n_X10_survivedTwice E l D2 6 [some (g_R 198), some (g_R 175), some (g_I p1), some (g_I p2), some (g_I (m_cnt (q_h2 b n W0 p1 p2) s : Nat)), some (g_I ((s : Int) + 1)), none] K)) ∧ (¬ x = 0 → (g_r (((m_cnt (q_h2 b n W0 p1 p2) s : Nat) : Int) + 1)) ∧ ((g_r ((s : Int) + 1)) ∧ (n_X10_survivedTwice E l D2 6 [some (g_R 198), some (g_R 175), some (g_I p1), some (g_I p2), some (g_I (((m_cnt (q_h2 b n W0 p1 p2) s : Nat) : Int) + 1)), some (g_I ((s : Int) + 1)), none] K))) := by
        intro D2 x f2 ex
        subst ex
        have := ih (s + 1) D2 (by omega) (by omega) f2
        rw [m_cnt, ← g_cast1] at this
        refine ⟨fun w => ⟨⟨by omega, by omega⟩, ?_⟩, fun w => ⟨⟨by omega, by omega⟩, ⟨by omega, by omega⟩, ?_⟩⟩
        · rw [g_b_0.mp w, if_neg Bool.false_ne_true] at this; exact this
        · rw [g_b_n0.mp w, if_pos rfl, ← g_cast1] at this; exact this
      have ne1 : ¬ q_so b n W0 (q_due b n W0 s) 0 s p1 = -1 := by rcases q_so0 (b := b) (n := n) (W0 := W0) (W := q_due b n W0 s) (s := s) (ph := p1) (show ¬ 0 = 2 by decide) with z | z <;> rw [z] <;> omega
      have hr1 := q_so_rng (b := b) (n := n) (W0 := W0) (W := q_due b n W0 s) (wh := 0) (ph := p1) hs'
      have hb1 := q_sW_by (wh := 0) (ph := p1) hA hbb hdb hs'
      refine s_X10_survivedTwice_6 (fun _ _ _ _ _ => ⟨fun w => (by omega : False).elim, fun _ => c_X1_standAsDue hA hbb hb0 hx1 (by omega) (fun D2 f2 w2 g6 g7 g8 => ?_)⟩)
      have fd2 : q_ft D D2 := f.trans (fun j a c d => f2 j (by omega) (by omega) (by omega))
      refine c_X10_survives (wh := 0) (W := q_due b n W0 s) hA hbb hb0 (fd2.crs hx) hs' h1 (by omega) w2 hdb g6 g7 g8 (fun z => absurd z ne1) (fun _ D3 f3 w3 i6 i7 i8 _ => ⟨fun w => absurd w (by decide), fun _ => ?_⟩)
      have fd3 := fd2.trans f3
      have h43 := (fd3.crs hx).1.1.1
      have i7' : D3 199 7 = ((q_so b n W0 (q_due b n W0 s) 0 s p1).toNat : Nat) := by rw [i7]; omega
      refine s_X1_hasLeft ip_Device_199 (fun _ => ⟨fun w => (by omega : False).elim, fun _ => ⟨fun w _ => ⟨fun _ => ⟨fun z => absurd z (by decide), fun _ => ?_⟩, fun z => absurd rfl z⟩, fun w _ => ⟨fun z => absurd z (by decide), fun _ => ?_⟩⟩⟩)
      · have e : q_h2 b n W0 p1 p2 s = q_rt b n W0 (q_run b n (q_sW b n (q_due b n W0 s) 0 s p1) (q_so b n W0 (q_due b n W0 s) 0 s p1).toNat (t_o b n - (q_so b n W0 (q_due b n W0 s) 0 s p1).toNat)) := if_neg (by omega)
        exact c_X10_endsAsDue hA hbb hb0 (fd3.crs hx) (by omega) w3 hb1 i7' (fun D4 f4 _ => go D4 _ (fd3.trans f4) (by rw [e]))
      · have hlt : (q_so b n W0 (q_due b n W0 s) 0 s p1).toNat < t_o b n := by omega
        have ne2 : ¬ q_so b n W0 (q_sW b n (q_due b n W0 s) 0 s p1) 0 (q_so b n W0 (q_due b n W0 s) 0 s p1).toNat p2 = -1 := by rcases q_so0 (b := b) (n := n) (W0 := W0) (W := q_sW b n (q_due b n W0 s) 0 s p1) (s := (q_so b n W0 (q_due b n W0 s) 0 s p1).toNat) (ph := p2) (show ¬ 0 = 2 by decide) with z | z <;> rw [z] <;> omega
        have hr2 := q_so_rng (b := b) (n := n) (W0 := W0) (W := q_sW b n (q_due b n W0 s) 0 s p1) (wh := 0) (ph := p2) hlt
        refine c_X10_survives (wh := 0) (W := q_sW b n (q_due b n W0 s) 0 s p1) hA hbb hb0 (fd3.crs hx) hlt h2 (by omega) w3 hb1 i6 i7' i8 (fun z => absurd z ne2) (fun _ D5 f5 w5 j6 j7 j8 _ => ⟨fun w => absurd w (by decide), fun _ => ?_⟩)
        have fd5 := fd3.trans f5
        refine c_X10_endsAsDue (s := (q_so b n W0 (q_sW b n (q_due b n W0 s) 0 s p1) 0 (q_so b n W0 (q_due b n W0 s) 0 s p1).toNat p2).toNat) hA hbb hb0 (fd5.crs hx) (by omega) w5 (q_sW_by hA hbb hb1 hlt) (by rw [j7]; omega) (fun D6 f6 _ => go D6 _ (fd5.trans f6) ?_)
        unfold q_h2
        rw [if_pos hlt]
  exact s_X10_survivedTwice (fun _ _ _ => key _ 0 D rfl (Nat.zero_le _) (q_ft.refl D))
/-- the model -/
theorem c_ends {K : Int → g_D → Prop} {s : Nat} {v : Int} (hA : q_A b N n) (h : m_act D b n) (hx : m_crs D b n W0) (hs : s ≤ t_o b n) (hv : v = s) (hW : m_Wk D W) (kk : ∀ D' : g_D, m_fcu D D' → K (g_b (q_rt b n W0 (q_run b n W s (t_o b n - s)))) D') : k_X12_doesSteps E l D v (D 208 46) (fun D3 => k_X12_isRight E l D3 (fun x4 D4 => g_r x4 → (x4 = 0 ∨ x4 = 1) ∧ K x4 D4)) := by
  subst hv
  rw [hx.1.1]
  refine c_X12_doesSteps hA h hx.1 hs (Nat.le_refl _) hW (fun D1 f1 w1 => c_X12_isRight hA (f1.fcu.crs hx) w1 (fun _ => ⟨?_, kk D1 f1.fcu⟩))
  cases q_rt b n W0 (q_run b n W s (t_o b n - s))
  · exact Or.inl rfl
  · exact Or.inr rfl
theorem c_X12_isHealed {K : Int → g_D → Prop} {s ph wh : Nat} (hA : q_A b N n) (h : m_act D b n) (hx : m_crs D b n W0) (hs : s < t_o b n) (hp : ph ≤ 3) (h1 : 1 ≤ wh) (h3 : wh ≤ 3)
    (kk : ∀ D' : g_D, m_fcu D D' → K (g_b (q_hl b n W0 wh s ph)) D') : k_X12_isHealed E l D s ph wh K := by
  have hcnt := hA.cnt
  have hJr := q_cJ_rng (ph := ph) hA hs
  have hJ : q_cJ b n s ph = -1 ∨ (0 ≤ q_cJ b n s ph ∧ q_cJ b n s ph ≤ 9) := by rcases hJr with q | ⟨q1, q2, _⟩; exact Or.inl q; exact Or.inr ⟨q1, q2⟩
  have hr := q_so_rng (b := b) (n := n) (W0 := W0) (W := q_due b n W0 s) (wh := wh) (ph := ph) hs
  refine s_X12_isHealed (fun _ _ _ _ => c_X12_worksFrom hA hx (by omega) (fun D1 f1 w1 => ?_))
  have fd1 : m_fcu D D1 := ⟨fun k _ c => f1 k (by omega), fun j _ => by rw [f1 208 (by decide)]⟩
  refine c_X12_cuts1 (c := 2) hA (fd1.act h) (fd1.crs hx).1 hs w1 hp (by decide) (fun D2 f2 g50 gC w2 => ?_)
  have fd2 := fd1.trans f2
  have fin : ∀ (D3 : g_D) (v : Int), m_fcu D D3 → ¬ v = -1 → v = q_so b n W0 (q_due b n W0 s) wh s ph → m_Wk D3 (q_sW b n (q_due b n W0 s) wh s ph) → k_X12_doesSteps E l D3 v (D3 208 46) (fun D3 => k_X12_isRight E l D3 (fun x4 D4 => g_r x4 → (x4 = 0 ∨ x4 = 1) ∧ K x4 D4)) := by
    intro D3 v f3 hne ev w3
    refine c_ends (s := (q_so b n W0 (q_due b n W0 s) wh s ph).toNat) hA (f3.act h) (f3.crs hx) (by omega) (by rw [ev]; omega) w3 (fun D4 f4 => ?_)
    have := kk D4 (f3.trans f4)
    unfold q_hl at this
    rw [if_neg (by rw [← ev]; exact hne)] at this
    exact this
  refine ⟨fun w => ⟨fun w2' => ⟨fun w1' => ⟨fun w4 => ?_, fun w4 => (by omega : False).elim⟩, fun w1' => (by omega : False).elim⟩, fun w2' => (by omega : False).elim⟩, fun w => ?_⟩
  · refine fin D2 s fd2 w4 ?_ ?_
    · unfold q_so; rw [if_neg (by omega), if_pos (Or.inl (by omega))]
    · unfold q_sW; rw [if_pos (by omega)]; exact w2
  · refine c_X12_writesJournal (C := q_cm b n (q_due b n W0 s) s) w2 g50 hJ gC (fun D3 f3 w3 => ?_)
    have fd3 : m_fcu D D3 := fd2.trans ⟨fun k _ c => f3 k (by omega), fun j _ => by rw [f3 208 (by decide)]⟩
    have g503 : D3 208 50 = q_cJ b n s ph := by rw [f3 208 (by decide)]; exact g50
    have w3' : m_Wk D3 (q_sW b n (q_due b n W0 s) wh s ph) := by unfold q_sW; rw [if_neg (by omega)]; exact w3
    rw [g503]
    refine ⟨fun w2' => ⟨fun w1' => (by omega : False).elim, fun w1' => ⟨fun z => ⟨fun w4 => ?_, fun w4 => (by omega : False).elim⟩, fun z => ⟨⟨by omega, by omega⟩, fun w4 => ?_, fun w4 => (by omega : False).elim⟩⟩⟩, fun w2' => c_X12_leastFit hA (fd3.crs hx) w3' (fun _ => ⟨fun w4 => ?_, fun w4 => ?_⟩)⟩
    · refine fin D3 s fd3 w4 ?_ w3'
      unfold q_so; rw [if_neg (by omega), if_pos (Or.inr z)]
    · refine fin D3 _ fd3 w4 ?_ w3'
      unfold q_so; rw [if_neg (by omega), if_neg (by omega)]; omega
    · refine fin D3 _ fd3 w4 ?_ w3'
      unfold q_so; rw [if_pos (by omega)]
    · have := kk D3 fd3
      unfold q_hl at this
      rw [if_pos (by unfold q_so; rw [if_pos (by omega)]; exact w4)] at this
      exact this
theorem l_healed {K : Int → g_D → Prop} {wh : Nat} (hA : q_A b N n) (h : m_act D b n) (hx : m_crs D b n W0) (h3 : wh ≤ 3)
    (kk : ∀ D' : g_D, m_fcu D D' → K ((if wh = 0 then 4 * t_o b n else q_ht b n W0 wh (t_o b n) : Nat) : Int) D') : n_X12_healed E l D 8 [some (g_R 208), some (g_I wh), some (g_I 0), some (g_I 0), none] K := by
  have hcnt := hA.cnt
  have inner : ∀ (s a : Nat), s < t_o b n → (∀ D1 : g_D, m_fcu D D1 → n_X12_healed E l D1 8 [some (g_R 208), some (g_I wh), some (g_I ((a + (if wh = 0 then 4 else m_cnt (q_hl b n W0 wh s) 4) : Nat) : Int)), some (g_I ((s : Int) + 1)), none] K) → a ≤ 4 * s → ∀ (q ph : Nat) (D1 : g_D), 4 - ph = q → ph ≤ 4 → m_fcu D D1 → n_X12_healed E l D1 19 [some (g_R 208), some (g_I wh), some (g_I ((a + (if wh = 0 then ph else m_cnt (q_hl b n W0 wh s) ph) : Nat) : Int)), some (g_I s), some (g_I ph)] K := by
    intro s a hs next ha q
    induction q with
    | zero =>
      intro ph D1 hq hph f
      obtain rfl : ph = 4 := by omega
      exact s_X12_healed_19 (fun _ _ _ _ _ => ⟨fun _ => ⟨⟨by omega, by omega⟩, next D1 f⟩, fun w => (by omega : False).elim⟩)
    | succ q ih =>
      intro ph D1 hq hph f
      have hle2 := m_cnt_le (P := q_hl b n W0 wh s) ph
      refine s_X12_healed_19 (fun _ _ _ _ _ => ⟨fun w => (by omega : False).elim, fun _ => ⟨fun w => ?_, fun w => ?_⟩⟩)
      · have e : wh = 0 := by omega
        have := ih (ph + 1) D1 (by omega) (by omega) f
        rw [if_pos e] at this ⊢
        refine ⟨⟨by omega, by omega⟩, ⟨by omega, by omega⟩, ?_⟩
        rw [g_cast1, g_cast1]
        exact this
      · have e : ¬ wh = 0 := by omega
        rw [if_neg e]
        refine c_X12_isHealed hA (f.act h) (f.crs hx) hs (by omega) (by omega) h3 (fun D2 f2 _ => ?_)
        have := ih (ph + 1) D2 (by omega) (by omega) (f.trans f2)
        rw [if_neg e, m_cnt, ← g_cast1] at this
        rw [Int.add_zero]
        refine ⟨fun w => ⟨⟨by omega, by omega⟩, ⟨by omega, by omega⟩, ?_⟩, fun w => ⟨⟨by omega, by omega⟩, ⟨by omega, by omega⟩, ?_⟩⟩
        · rw [g_b_0.mp w, if_neg Bool.false_ne_true] at this; exact this
        · rw [g_b_n0.mp w, if_pos rfl, ← Nat.add_assoc, ← g_cast1] at this; exact this
  have outer : ∀ (q s : Nat) (D1 : g_D), t_o b n - s = q → s ≤ t_o b n → m_fcu D D1 → n_X12_healed E l D1 8 [some (g_R 208), some (g_I wh), some (g_I ((if wh = 0 then 4 * s else q_ht b n W0 wh s : Nat) : Int)), some (g_I s), none] K := by
    intro q
    induction q with
    | zero =>
      intro s D1 hq hs f
      obtain rfl : s = t_o b n := by omega
      have h46 := (f.crs hx).1.1
      exact s_X12_healed_8 (fun _ _ _ _ => ⟨fun _ => kk D1 f, fun w => (by omega : False).elim⟩)
    | succ q ih =>
      intro s D1 hq hs f
      have h46 := (f.crs hx).1.1
      have hle := q_ht_le (b := b) (n := n) (wh := wh) (W0 := W0) s
      refine s_X12_healed_8 (fun _ _ _ _ => ⟨fun w => (by omega : False).elim, fun _ => ?_⟩)
      have := inner s (if wh = 0 then 4 * s else q_ht b n W0 wh s) (by omega) (fun D2 f2 => by
        have := ih (s + 1) D2 (by omega) (by omega) f2
        rw [g_cast1]
        by_cases e : wh = 0
        · rw [if_pos e] at this ⊢; rw [if_pos e]; exact this
        · rw [if_neg e] at this ⊢; rw [if_neg e]; rw [q_ht] at this; exact this) (by split <;> omega) 4 0 D1 rfl (by omega) f
      have e0 : (if wh = 0 then 0 else m_cnt (q_hl b n W0 wh s) 0) = 0 := by split <;> rfl
      rw [e0, Nat.add_zero] at this
      exact this
  have := outer _ 0 D rfl (Nat.zero_le _) (m_fcu.refl D)
  have e0 : (if wh = 0 then 4 * 0 else q_ht b n W0 wh 0) = 0 := by split <;> rfl
  rw [e0] at this
  exact this
/-- nothing but the model's paper of steps and cuts -/
def m_fq (D D' : g_D) : Prop := (∀ k, k ≠ 208 → ¬ (235 ≤ k ∧ k ≤ 241) → D' k = D k) ∧ ∀ j, j ≠ 0 → j ≠ 46 → j ≠ 50 → D' 208 j = D 208 j
theorem m_fq.refl (D : g_D) : m_fq D D := ⟨fun _ _ _ => rfl, fun _ _ _ _ => rfl⟩
theorem m_fq.trans {D D' D'' : g_D} (h : m_fq D D') (h2 : m_fq D' D'') : m_fq D D'' := ⟨fun k a b => (h2.1 k a b).trans (h.1 k a b), fun j a b c => (h2.2 j a b c).trans (h.2 j a b c)⟩
theorem m_fcu.fq {D' : g_D} (h : m_fcu D D') : m_fq D D' := ⟨fun k a c => h.1 k a (by omega), fun j _ _ c => h.2 j c⟩
theorem m_fdu.fq {D' : g_D} (h : m_fdu D D') : m_fq D D' := ⟨fun k a c => h.1 k a (by omega), fun j _ c _ => h.2 j c⟩
theorem m_fsm.fq {D' : g_D} (h : m_fsm D D') : m_fq D D' := ⟨fun k a c => h.1 k a (by omega) (by omega), fun j _ c _ => h.2 j c⟩
theorem m_fq.act {D' : g_D} (h : m_fq D D') (ha : m_act D b n) : m_act D' b n := by unfold m_act at *; rw [h.1 209 (by decide) (by decide)]; exact ha
theorem m_fq.up0 {D' : g_D} {v : Int} (h : m_fq D D') : m_fq D (g_up D' 208 0 v) := ⟨fun k a c => by rw [g_up_ne a]; exact h.1 k a c, fun j a c d => by rw [g_up_at a]; exact h.2 j a c d⟩
theorem c_X12_healed {K : Int → g_D → Prop} {wh : Nat} (hA : q_A b N n) (h : m_act D b n) (h0 : ∀ i, i < 60 → D 209 (153 + i) = W0 i) (h3 : wh ≤ 3)
    (kk : ∀ D' : g_D, m_fq D D' → K ((if wh = 0 then 4 * t_o b n else q_ht b n W0 wh (t_o b n) : Nat) : Int) D') : k_X12_healed E l D wh K :=
  s_X12_healed (fun _ _ => c_X12_laysDue hA h h0 (fun D1 f1 x1 => l_healed hA (f1.act h) x1 h3 (fun D2 f2 => kk D2 (f1.fq.trans f2.fq))))
theorem c_X12_isHealedTwice {K : Int → g_D → Prop} {s p1 p2 : Nat} (hA : q_A b N n) (h : m_act D b n) (hx : m_crs D b n W0) (hs : s < t_o b n) (h1 : p1 ≤ 3) (h2 : p2 ≤ 3)
    (kk : ∀ D' : g_D, m_fcu D D' → K (g_b (q_h2 b n W0 p1 p2 s)) D') : k_X12_isHealedTwice E l D s p1 p2 K := by
  have hcnt := hA.cnt
  have cJ : ∀ {s ph : Nat}, s < t_o b n → q_cJ b n s ph = -1 ∨ (0 ≤ q_cJ b n s ph ∧ q_cJ b n s ph ≤ 9) := fun hs => by rcases q_cJ_rng hA hs with q | ⟨q1, q2, _⟩; exact Or.inl q; exact Or.inr ⟨q1, q2⟩
  refine s_X12_isHealedTwice (fun _ _ _ _ => c_X12_worksFrom hA hx (by omega) (fun D1 f1 w1 => ?_))
  have fd1 : m_fcu D D1 := ⟨fun k _ c => f1 k (by omega), fun j _ => by rw [f1 208 (by decide)]⟩
  refine c_X12_cuts1 (c := 2) hA (fd1.act h) (fd1.crs hx).1 hs w1 h1 (by decide) (fun D2 f2 g50 gC w2 => ?_)
  have fd2 := fd1.trans f2
  refine c_X12_writesJournal (C := q_cm b n (q_due b n W0 s) s) w2 g50 (cJ hs) gC (fun D3 f3 w3 => ?_)
  have fd3 : m_fcu D D3 := fd2.trans ⟨fun k _ c => f3 k (by omega), fun j _ => by rw [f3 208 (by decide)]⟩
  have g503 : D3 208 50 = q_cJ b n s p1 := by rw [f3 208 (by decide)]; exact g50
  have w3' : m_Wk D3 (q_sW b n (q_due b n W0 s) 0 s p1) := by unfold q_sW; rw [if_neg (by decide)]; exact w3
  have h46 := (fd3.crs hx).1.1
  -- the first cut is over; on is the step to go on from
  have main : ∀ (on : Nat), q_so b n W0 (q_due b n W0 s) 0 s p1 = on → (((t_o b n : Nat) : Int) ≤ (on : Int) → k_X12_doesSteps E l D3 on (D3 208 46) (fun D4 => k_X12_isRight E l D4 (fun x5 D5 => g_r x5 → (x5 = 0 ∨ x5 = 1) ∧ K x5 D5))) ∧ (¬ ((t_o b n : Nat) : Int) ≤ (on : Int) → k_X12_cuts1 E l D3 on p2 2 (fun D6 => k_X12_writesJournal E l D6 (fun D7 => (¬ (D7 208 50) = (-1) → (g_r ((on : Int) + 1)) ∧ (k_X12_doesSteps E l D7 ((on : Int) + 1) (D7 208 46) (fun D8 => k_X12_isRight E l D8 (fun x9 D9 => g_r x9 → (x9 = 0 ∨ x9 = 1) ∧ K x9 D9)))) ∧ ((D7 208 50) = (-1) → (g_r ((on : Int) + 0)) ∧ (k_X12_doesSteps E l D7 ((on : Int) + 0) (D7 208 46) (fun D10 => k_X12_isRight E l D10 (fun x11 D11 => g_r x11 → (x11 = 0 ∨ x11 = 1) ∧ K x11 D11))))))) := by
    intro on eon
    have hr1 := q_so_rng (b := b) (n := n) (W0 := W0) (W := q_due b n W0 s) (wh := 0) (ph := p1) hs
    refine ⟨fun w => ?_, fun w => ?_⟩
    · refine c_ends (s := on) hA (fd3.act h) (fd3.crs hx) (by omega) rfl w3' (fun D4 f4 => ?_)
      have := kk D4 (fd3.trans f4)
      unfold q_h2 at this
      rw [eon, Int.toNat_natCast, if_neg (by omega)] at this
      exact this
    · have hlt : on < t_o b n := by omega
      refine c_X12_cuts1 (c := 2) hA (fd3.act h) (fd3.crs hx).1 hlt w3' h2 (by decide) (fun D6 f6 i50 iC w6 => ?_)
      have fd6 := fd3.trans f6
      refine c_X12_writesJournal (C := q_cm b n (q_sW b n (q_due b n W0 s) 0 s p1) on) w6 i50 (cJ hlt) iC (fun D7 f7 w7 => ?_)
      have fd7 : m_fcu D D7 := fd6.trans ⟨fun k _ c => f7 k (by omega), fun j _ => by rw [f7 208 (by decide)]⟩
      have i507 : D7 208 50 = q_cJ b n on p2 := by rw [f7 208 (by decide)]; exact i50
      have w7' : m_Wk D7 (q_sW b n (q_sW b n (q_due b n W0 s) 0 s p1) 0 on p2) := by
        have e : q_sW b n (q_sW b n (q_due b n W0 s) 0 s p1) 0 on p2 = q_jr (q_cm b n (q_sW b n (q_due b n W0 s) 0 s p1) on) (q_cW b n (q_sW b n (q_due b n W0 s) 0 s p1) on p2 2) (q_cJ b n on p2) := if_neg (by decide)
        rw [e]; exact w7
      have last : ∀ (v : Int) (on2 : Nat), v = on2 → q_so b n W0 (q_sW b n (q_due b n W0 s) 0 s p1) 0 on p2 = on2 → on2 ≤ t_o b n → k_X12_doesSteps E l D7 v (D7 208 46) (fun D8 => k_X12_isRight E l D8 (fun x9 D9 => g_r x9 → (x9 = 0 ∨ x9 = 1) ∧ K x9 D9)) := by
        intro v on2 ev e2 hle
        refine c_ends (s := on2) hA (fd7.act h) (fd7.crs hx) hle ev w7' (fun D8 f8 => ?_)
        have := kk D8 (fd7.trans f8)
        unfold q_h2 at this
        rw [eon, Int.toNat_natCast, if_pos hlt, e2, Int.toNat_natCast] at this
        exact this
      rw [i507]
      refine ⟨fun z => ⟨⟨by omega, by omega⟩, last _ (on + 1) (by omega) ?_ (by omega)⟩, fun z => ⟨⟨by omega, by omega⟩, last _ on (by omega) ?_ (by omega)⟩⟩
      · unfold q_so; rw [if_neg (by decide), if_neg (by omega)]
      · unfold q_so; rw [if_neg (by decide), if_pos (Or.inr z)]
  rw [g503, h46]
  rw [h46] at main
  refine ⟨fun z => ⟨⟨by omega, by omega⟩, ?_⟩, fun z => ?_⟩
  · have := main (s + 1) (by unfold q_so; rw [if_neg (by decide), if_neg (by omega)])
    rw [← g_cast1] at this
    exact this
  · exact main s (by unfold q_so; rw [if_neg (by decide), if_pos (Or.inr z)])
end HEAL
end
