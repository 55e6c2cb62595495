section
section READM3
variable {E : g_E} {l : Launch} {sh : List g_Sh} {D : g_D} {b : Nat → Int} {N : Nat}
theorem c_roomAt {K : Int → g_D → Prop} {v0 v1 : Int} (h0 : 0 ≤ v0 ∧ v0 ≤ 1000) (h1 : 0 ≤ v1 ∧ v1 ≤ 1000) (k : K (v1 - v0) D) : k_X12_roomAt E l sh D v0 v1 K := s_X12_roomAt (fun _ _ _ => ⟨⟨by omega, by omega⟩, k⟩)
/-- behind a fault -/
theorem l_mF182 {K : g_D → Prop} {n : Nat} {v1 v2 v3 v4 : Int} (hn : n < 36) (h34 : D 208 34 = n) (h38 : ¬ D 208 38 = 0)
    (kk : ∀ D' : g_D, m_frd D D' → D' 208 38 = D 208 38 → D' 208 39 = D 208 39 → K D') : n_X12_readAct E l D 182 [some (g_R 208), some (g_I v1), some (g_I v2), some (g_I v3), some (g_I v4), none, none, none] K := by
  have fin : ∀ x y : Int, n_X12_readAct E l D 202 [some (g_R 208), some (g_I v1), some (g_I x), some (g_I y), none, some (g_I 0), none, none] K := by
    intro x y
    refine s_X12_readAct_202 (fun _ _ _ _ _ => l_m205 hn h34 (Or.inl (Int.le_refl _)) (fun D' e => kk D' ?_ ?_ ?_))
    · rw [e]; exact (((((m_frd.refl D).up (by omega)).up (by omega)).up (by omega)).up (by omega)).up (by omega)
    · rw [e]; simp (disch := omega) only [g_up_ne, g_up_at, ne_eq, not_false_eq_true]
    · rw [e]; simp (disch := omega) only [g_up_ne, g_up_at, ne_eq, not_false_eq_true]
  exact s_X12_readAct_182 (fun _ _ _ _ _ => c_lenF h38 (fun _ => ⟨fun _ => fin v2 v3, fun _ => c_placeF h38 (fun _ => fin 0 v3)⟩))
theorem l_mF119 {K : g_D → Prop} {n : Nat} {v1 v2 v3 : Int} (hn : n < 36) (h34 : D 208 34 = n) (h38 : ¬ D 208 38 = 0) (h2 : 0 ≤ v2 ∧ v2 ≤ 1000) (h3 : 0 ≤ v3 ∧ v3 ≤ 1000)
    (kk : ∀ D' : g_D, m_frd D D' → D' 208 38 = D 208 38 → D' 208 39 = D 208 39 → K D') : n_X12_readAct E l D 119 [some (g_R 208), some (g_I v1), some (g_I v2), some (g_I v3), none, none, none, none] K := by
  have a164 : ∀ v4 : Int, n_X12_readAct E l D 164 [some (g_R 208), some (g_I v1), some (g_I v2), some (g_I v3), some (g_I v4), none, none, none] K := fun v4 =>
    s_X12_readAct_164 (fun _ _ _ _ _ => ⟨fun _ => l_mF182 hn h34 h38 kk, fun _ => c_roomAt h3 (by omega) (fun _ => c_X12_lesser (fun _ => l_mF182 hn h34 h38 kk))⟩)
  have a146 : ∀ v4 : Int, n_X12_readAct E l D 146 [some (g_R 208), some (g_I v1), some (g_I v2), some (g_I v3), some (g_I v4), none, none, none] K := fun v4 =>
    s_X12_readAct_146 (fun _ _ _ _ _ => ⟨fun _ => a164 _, fun _ => c_roomAt h3 (by omega) (fun _ => c_X12_lesser (fun _ => a164 _))⟩)
  exact s_X12_readAct_119 (fun _ _ _ _ => ⟨fun _ => c_roomAt h2 (by omega) (fun _ => a146 _), fun _ => c_roomAt h3 (by omega) (fun _ => c_X12_lesser (fun _ => a146 _))⟩)
theorem l_mF86 {K : g_D → Prop} {n d : Nat} {v1 v2 : Int} (hn : n < 36) (h34 : D 208 34 = n) (h35 : D 208 35 = d) (hd : d ≤ 160) (h38 : ¬ D 208 38 = 0) (h2 : 0 ≤ v2 ∧ v2 ≤ 1000)
    (kk : ∀ D' : g_D, m_frd D D' → D' 208 38 = D 208 38 → D' 208 39 = D 208 39 → K D') : n_X12_readAct E l D 86 [some (g_R 208), some (g_I v1), some (g_I v2), none, none, none, none, none] K :=
  s_X12_readAct_86 (fun _ _ _ => ⟨fun _ => ⟨fun _ => c_byteF h38 (fun _ => l_mF119 hn h34 h38 h2 (by omega) kk), fun _ => c_byteF h38 (fun _ => l_mF119 hn h34 h38 h2 (by omega) kk)⟩, fun _ => l_mF119 hn h34 h38 h2 (by omega) kk⟩)
/-- cells that are sent -/
theorem l_mD {K : g_D → Prop} {n q d len : Nat} {v2 v3 : Int} {D0 : g_D} (hn : n < 36) (hb : m_bs D0 b N) (h34 : D0 208 34 = n) (hd : d + N ≤ 160 + q)
    (kf : ¬ q + len ≤ N → ∀ D' : g_D, m_frd D0 D' → D' 208 38 = 2 → D' 208 39 = N → K D')
    (k0 : q + len ≤ N → ∀ D' : g_D, m_frd D0 D' → D' 208 38 = 0 → D' 208 37 = ((q + len : Nat) : Int) → D' 208 34 = ((n + 1 : Nat) : Int) → D' 208 35 = ((d + len : Nat) : Int) → D' 232 = g_up (g_up (g_up (g_up D0 232 (4 * n) 4) 232 (4 * n + 1) v2) 232 (4 * n + 2) v3) 232 (4 * n + 3) len 232 → (∀ x, x < d → D' 233 x = D0 233 x) → (∀ t, t < len → D' 233 (d + t) = b (q + t)) → K D') :
    ∀ (m t : Nat) (D : g_D), len - t = m → t ≤ len → q + t ≤ N → m_frd D0 D → D 208 38 = 0 → D 208 37 = ((q + t : Nat) : Int) → D 208 34 = n → D 208 35 = ((d + t : Nat) : Int) → D 208 36 = N → D 232 = D0 232 → (∀ x, x < d → D 233 x = D0 233 x) → (∀ x, x < t → D 233 (d + x) = b (q + x)) →
      n_X12_readAct E l D 205 [some (g_R 208), some (g_I 4), some (g_I v2), some (g_I v3), none, some (g_I len), some (g_I t), none] K := by
  intro m
  induction m with
  | zero =>
    intro t D hm ht hq f h38 h37 h34' h35 h36 h232 hx hy
    obtain rfl : t = len := by omega
    refine l_m205 hn h34' (Or.inl (Int.le_refl _)) (fun D' e => k0 hq D' ?_ ?_ ?_ ?_ ?_ ?_ (fun x hx' => ?_) (fun x hx' => ?_))
    · rw [e]; exact ((((f.up (by omega)).up (by omega)).up (by omega)).up (by omega)).up (by omega)
    · rw [e]; simp (disch := omega) only [g_up_ne, g_up_at, ne_eq, not_false_eq_true]; exact h38
    · rw [e]; simp (disch := omega) only [g_up_ne, g_up_at, ne_eq, not_false_eq_true]; exact h37
    · rw [e, g_up_eq]
    · rw [e]; simp (disch := omega) only [g_up_ne, g_up_at, ne_eq, not_false_eq_true]; exact h35
    · rw [e, g_up_ne (by decide)]
      funext j
      unfold g_up
      rw [h232]
    · rw [e]; simp (disch := omega) only [g_up_ne, ne_eq, not_false_eq_true]; exact hx x hx'
    · rw [e]; simp (disch := omega) only [g_up_ne, ne_eq, not_false_eq_true]; exact hy x hx'
  | succ m ih =>
    intro t D hm ht hq f h38 h37 h34' h35 h36 h232 hx hy
    have hb1 : m_bs D b N := ⟨h36, hb.2.1, by rw [f.1 234 (by decide) (by decide) (by decide)]; exact hb.2.2.1, hb.2.2.2⟩
    have hb0 := hb.2.2.2
    have hN := hb.2.1
    refine s_X12_readAct_205 (fun _ _ _ _ _ _ => ⟨fun w => (by omega : False).elim, fun _ => ⟨fun w => absurd rfl w, fun _ => c_byte hb1 h38 h37 hq (fun z _ => ?_) (fun z _ => ?_)⟩⟩)
    · have z' := r_f_0 z
      simp (disch := omega) only [g_up_at, ne_eq, not_false_eq_true]
      rw [h35, Int.toNat_natCast]
      refine ⟨fun _ => ⟨by omega, fun D12 e12 => ⟨⟨by omega, by omega⟩, fun D13 e13 => ⟨⟨by omega, by omega⟩, ?_⟩⟩⟩, fun w => absurd h38 w⟩
      rw [g_cast1]
      refine ih (t + 1) D13 (by omega) (by omega) (by omega) ?_ ?_ ?_ ?_ ?_ ?_ ?_ (fun x hx' => ?_) (fun x hx' => ?_)
      · rw [e13, e12]; exact ((f.up (by omega)).up (by omega)).up (by omega)
      · rw [e13, e12]; simp (disch := omega) only [g_up_ne, g_up_at, ne_eq, not_false_eq_true]; exact h38
      · rw [e13, e12]; simp (disch := omega) only [g_up_ne, g_up_at, g_up_eq, ne_eq, not_false_eq_true]; rfl
      · rw [e13, e12]; simp (disch := omega) only [g_up_ne, g_up_at, ne_eq, not_false_eq_true]; exact h34'
      · rw [e13, g_up_eq]; omega
      · rw [e13, e12]; simp (disch := omega) only [g_up_ne, g_up_at, ne_eq, not_false_eq_true]; exact h36
      · rw [e13, e12]; simp (disch := omega) only [g_up_ne, ne_eq, not_false_eq_true]; exact h232
      · rw [e13, e12]; simp (disch := omega) only [g_up_ne, g_up_at, ne_eq, not_false_eq_true]; exact hx x hx'
      · rw [e13, g_up_ne (by decide), e12]
        by_cases e : x = t
        · subst e; rw [g_up_eq]
        · rw [g_up_at (by omega), g_up_ne (by decide)]; exact hy x (by omega)
    · have e : q + t = N := by
        unfold r_f at z
        by_cases w : q + t < N
        · have := hb0 (q + t) w
          rw [if_pos w, if_pos (by omega)] at z; exact absurd rfl z
        · omega
      have e2 : r_f b N (q + t) 0 255 = 2 := by unfold r_f; rw [if_neg (by omega)]
      rw [e2]
      simp (disch := omega) only [g_up_at, g_up_eq, ne_eq, not_false_eq_true]
      refine ⟨fun w => absurd w (by decide), fun _ => kf (by omega) _ ((f.up (by omega)).up (by omega)) ?_ ?_⟩
      · rw [g_up_at (by decide), g_up_eq]; rfl
      · rw [g_up_eq]; unfold r_w; rw [if_pos rfl]
theorem l_m52 {K : g_D → Prop} {p n d : Nat} {cd : Int} (hcd : 1 ≤ cd ∧ cd ≤ 4) (hn : n < 36) (hp : p ≤ N) (hd : d ≤ p) (hb : m_bs D b N) (h38 : D 208 38 = 0) (h37 : D 208 37 = (p : Int) - 1) (h34 : D 208 34 = n) (h35 : D 208 35 = d)
    (kf : r_fc b N p cd ≠ 0 → ∀ D' : g_D, m_frd D D' → D' 208 38 = (r_fc b N p cd : Nat) → D' 208 39 = (r_fp b N p cd : Nat) → K D')
    (k0 : r_fc b N p cd = 0 → ∀ (D' : g_D) (to fr ln : Int), m_frd D D' → D' 208 38 = 0 → D' 208 37 = ((if cd = 4 then p + 2 + (b (p + 1)).toNat else p + 3 : Nat) : Int) → D' 208 34 = ((n + 1 : Nat) : Int) → D' 208 35 = ((if cd = 4 then d + (b (p + 1)).toNat else d : Nat) : Int) →
      to = (if cd = 1 then b (p + 2) else b p) → fr = (if cd = 1 then b p else if cd = 4 then (d : Nat) else b (p + 1)) → ln = (if cd = 1 ∨ cd = 4 then b (p + 1) else b (p + 2)) →
      D' 232 = g_up (g_up (g_up (g_up D 232 (4 * n) cd) 232 (4 * n + 1) to) 232 (4 * n + 2) fr) 232 (4 * n + 3) ln 232 → (∀ x, x < d → D' 233 x = D 233 x) → (cd = 4 → ∀ t, t < (b (p + 1)).toNat → D' 233 (d + t) = b (p + 2 + t)) → K D') :
    n_X12_readAct E l D 52 [some (g_R 208), some (g_I cd), none, none, none, none, none, none] K := by
  have hN := hb.2.1
  have kf1 : r_f b N p 0 39 ≠ 0 → ∀ D' : g_D, m_frd D D' → D' 208 38 = (r_f b N p 0 39 : Nat) → D' 208 39 = (r_w N p (r_f b N p 0 39) : Nat) → K D' := fun z => by
    have := r_fc_1 (cd := cd) z
    rw [this.1, this.2] at kf
    exact kf z
  have kf2 : r_f b N p 0 39 = 0 → r_f2 b N p cd ≠ 0 → ∀ D' : g_D, m_frd D D' → D' 208 38 = (r_f2 b N p cd : Nat) → D' 208 39 = (r_w N (p + 1) (r_f2 b N p cd) : Nat) → K D' := fun z z2 => by
    have := r_fc_2 (cd := cd) z z2
    rw [this.1, this.2] at kf
    exact kf z2
  have kf3 : r_f b N p 0 39 = 0 → r_f2 b N p cd = 0 → r_f3 b N p cd ≠ 0 → ∀ D' : g_D, m_frd D D' → D' 208 38 = (r_f3 b N p cd : Nat) → D' 208 39 = (r_w N (p + 2) (r_f3 b N p cd) : Nat) → K D' := fun z z2 z3 => by
    have := r_fc_3 (cd := cd) z z2
    rw [this.1, this.2] at kf
    exact kf z3
  have k0' : r_f b N p 0 39 = 0 → r_f2 b N p cd = 0 → r_f3 b N p cd = 0 → r_fc b N p cd = 0 := fun z z2 z3 => by
    rw [(r_fc_3 (cd := cd) z z2).1]; exact z3
  -- a state behind some numbers
  have tail : ∀ (f w : Nat) (D1 D2 : g_D), f ≠ 0 → m_frd D D1 → D1 208 38 = (f : Nat) → D1 208 39 = (w : Nat) → m_frd D1 D2 → D2 208 38 = D1 208 38 → D2 208 39 = D1 208 39 → (∀ D' : g_D, m_frd D D' → D' 208 38 = (f : Nat) → D' 208 39 = (w : Nat) → K D') → K D2 :=
    fun f w D1 D2 _ f1 a1 a2 f2 b1 b2 k => k D2 (f1.trans f2) (b1.trans a1) (b2.trans a2)
  have done3 : ∀ (D1 : g_D) (to fr ln : Int), ¬ cd = 4 → r_fc b N p cd = 0 → m_f3 D D1 → D1 208 38 = 0 → D1 208 37 = ((p + 3 : Nat) : Int) → to = (if cd = 1 then b (p + 2) else b p) → fr = (if cd = 1 then b p else if cd = 4 then (d : Nat) else b (p + 1)) → ln = (if cd = 1 ∨ cd = 4 then b (p + 1) else b (p + 2)) → n_X12_readAct E l D1 202 [some (g_R 208), some (g_I cd), some (g_I to), some (g_I fr), none, some (g_I ln), none, none] K := by
    intro D1 to fr ln h4 hz f1 g38 g37 e1 e2 e3
    refine s_X12_readAct_202 (fun _ _ _ _ _ => l_m205 hn (by rw [f1.2 34 (by decide) (by decide) (by decide)]; exact h34) (Or.inr h4) (fun D' e => k0 hz D' to fr ln ?_ ?_ ?_ ?_ ?_ e1 e2 e3 ?_ (fun x hx => ?_) (fun q => absurd q h4)))
    · rw [e]; exact ((((f1.frd.up (by omega)).up (by omega)).up (by omega)).up (by omega)).up (by omega)
    · rw [e]; simp (disch := omega) only [g_up_ne, g_up_at, ne_eq, not_false_eq_true]; exact g38
    · rw [e]; simp (disch := omega) only [g_up_ne, g_up_at, ne_eq, not_false_eq_true]; rw [if_neg h4]; exact g37
    · rw [e, g_up_eq]
    · rw [e]; simp (disch := omega) only [g_up_ne, g_up_at, ne_eq, not_false_eq_true]; rw [if_neg h4, f1.2 35 (by decide) (by decide) (by decide)]; exact h35
    · rw [e, g_up_ne (by decide)]
      funext j
      unfold g_up
      rw [f1.1 232 (by decide)]
    · rw [e]; simp (disch := omega) only [g_up_ne, ne_eq, not_false_eq_true]; rw [f1.1 233 (by decide)]
  refine s_X12_readAct_52 (fun _ _ => ⟨fun _ => ⟨by rw [h37]; exact ⟨by omega, by omega⟩, fun D1 e1 => ?_⟩, fun q => absurd h38 q⟩)
  rw [h37, show (p : Int) - 1 + 1 = p by omega] at e1
  have f1 : m_f3 D D1 := by rw [e1]; exact (m_f3.refl D).up (by omega)
  have g38 : D1 208 38 = 0 := by rw [e1, g_up_at (by decide)]; exact h38
  have g37 : D1 208 37 = p := by rw [e1, g_up_eq]
  have st : ∀ {D' : g_D}, m_f3 D D' → m_bs D' b N ∧ D' 208 34 = n ∧ D' 208 35 = d := fun f => ⟨hb.fr (f.2 36 (by decide) (by decide) (by decide)) (f.1 234 (by decide)), by rw [f.2 34 (by decide) (by decide) (by decide)]; exact h34, by rw [f.2 35 (by decide) (by decide) (by decide)]; exact h35⟩
  refine ⟨fun c1 => c_byte (st f1).1 g38 g37 hp (fun z1 _ => ?_) (fun z1 _ => ?_), fun c1 => ?_⟩
  · -- number 1 is the target
    have l1 := r_f_0 z1
    have f2 : m_f3 D (g_up D1 208 37 ((p + 1 : Nat) : Int)) := f1.up (by omega)
    have g38 : (g_up D1 208 37 ((p + 1 : Nat) : Int)) 208 38 = 0 := by rw [g_up_at (by decide)]; exact g38
    have g37 : (g_up D1 208 37 ((p + 1 : Nat) : Int)) 208 37 = ((p + 1 : Nat) : Int) := by rw [g_up_eq]
    generalize g_up D1 208 37 ((p + 1 : Nat) : Int) = D2 at f2 g38 g37
    obtain ⟨hb2, q34, q35⟩ := st f2
    refine s_X12_readAct_86 (fun _ _ _ => ⟨fun c4 => ⟨fun c3 => ?_, fun c3 => ?_⟩, fun c4 => ?_⟩)
    · obtain rfl : cd = 2 := by omega
      have E2 : r_f2 b N p 2 = r_f b N (p + 1) 0 39 := by simp [r_f2, r_lo2, r_hi2]
      have E3 : r_f3 b N p 2 = r_f b N (p + 2) 1 (40 - max (b p) (b (p + 1))) := by simp [r_f3, r_lo3, r_hi3]
      rw [E2] at kf2 kf3 k0'
      rw [E3] at kf3 k0'
      refine c_byte hb2 g38 g37 (by omega) (fun z2 _ => ?_) (fun z2 _ => ?_)
      · have l2 := r_f_0 z2
        refine s_X12_readAct_119 (fun _ _ _ _ => ⟨fun _ => c_roomAt (by omega) (by omega) (fun _ => s_X12_readAct_146 (fun _ _ _ _ _ => ⟨fun w => absurd rfl w, fun _ => c_roomAt (by omega) (by omega) (fun _ => c_X12_lesser (fun _ => s_X12_readAct_164 (fun _ _ _ _ _ => ⟨fun _ => s_X12_readAct_182 (fun _ _ _ _ _ => ?_), fun w => absurd w (by decide)⟩)))⟩)), fun w => absurd w (by decide)⟩)
        rw [show min (40 - b p) (40 - b (p + 1)) = 40 - max (b p) (b (p + 1)) by omega]
        have f3 : m_f3 D (g_up D2 208 37 ((p + 1 + 1 : Nat) : Int)) := f2.up (by omega)
        refine c_len (st f3).1 (by rw [g_up_at (by decide)]; exact g38) (by rw [g_up_eq]) (by omega) (fun z3 _ => ⟨fun _ => ?_, fun w => absurd w (by decide)⟩) (fun z3 D' g a1 a2 _ => ⟨fun _ => ?_, fun w => absurd w (by decide)⟩)
        · exact done3 _ _ _ _ (by decide) (k0' z1 z2 z3) (f3.up (by omega)) (by rw [g_up_at (by decide), g_up_at (by decide)]; exact g38) (by rw [g_up_eq]) (by rw [if_neg (by decide)]) (by rw [if_neg (by decide), if_neg (by decide)]) (by rw [if_neg (by decide)])
        · refine s_X12_readAct_202 (fun _ _ _ _ _ => l_m205 hn (st (f3.trans g)).2.1 (Or.inl (Int.le_refl _)) (fun D4 e => kf3 z1 z2 z3 D4 ?_ ?_ ?_))
          · rw [e]; exact (((((f3.trans g).frd.up (by omega)).up (by omega)).up (by omega)).up (by omega)).up (by omega)
          · rw [e]; simp (disch := omega) only [g_up_ne, g_up_at, ne_eq, not_false_eq_true]; exact a1
          · rw [e]; simp (disch := omega) only [g_up_ne, g_up_at, ne_eq, not_false_eq_true]; exact a2
      · have f3 : m_f3 D (g_up (g_up D2 208 38 ((r_f b N (p + 1) 0 39 : Nat) : Int)) 208 39 ((r_w N (p + 1) (r_f b N (p + 1) 0 39) : Nat) : Int)) := (f2.up (by omega)).up (by omega)
        have a1 : (g_up (g_up D2 208 38 ((r_f b N (p + 1) 0 39 : Nat) : Int)) 208 39 ((r_w N (p + 1) (r_f b N (p + 1) 0 39) : Nat) : Int)) 208 38 = ((r_f b N (p + 1) 0 39 : Nat) : Int) := by rw [g_up_at (by decide), g_up_eq]
        exact l_mF119 hn (st f3).2.1 (by rw [a1]; omega) (by omega) (by omega) (fun D' g x1 x2 => tail _ _ _ D' z2 f3.frd a1 (by rw [g_up_eq]) g x1 x2 (kf2 z1 z2))
    · obtain rfl : cd = 3 := c3
      have E2 : r_f2 b N p 3 = r_f b N (p + 1) 0 19 := by simp [r_f2, r_lo2, r_hi2]
      have E3 : r_f3 b N p 3 = r_f b N (p + 2) 1 (min (40 - b p) (20 - b (p + 1))) := by simp [r_f3, r_lo3, r_hi3]
      rw [E2] at kf2 kf3 k0'
      rw [E3] at kf3 k0'
      refine c_byte hb2 g38 g37 (by omega) (fun z2 _ => ?_) (fun z2 _ => ?_)
      · have l2 := r_f_0 z2
        refine s_X12_readAct_119 (fun _ _ _ _ => ⟨fun _ => c_roomAt (by omega) (by omega) (fun _ => s_X12_readAct_146 (fun _ _ _ _ _ => ⟨fun _ => s_X12_readAct_164 (fun _ _ _ _ _ => ⟨fun w => absurd rfl w, fun _ => c_roomAt (by omega) (by omega) (fun _ => c_X12_lesser (fun _ => s_X12_readAct_182 (fun _ _ _ _ _ => ?_)))⟩), fun w => absurd w (by decide)⟩)), fun w => absurd w (by decide)⟩)
        have f3 : m_f3 D (g_up D2 208 37 ((p + 1 + 1 : Nat) : Int)) := f2.up (by omega)
        refine c_len (st f3).1 (by rw [g_up_at (by decide)]; exact g38) (by rw [g_up_eq]) (by omega) (fun z3 _ => ⟨fun _ => ?_, fun w => absurd w (by decide)⟩) (fun z3 D' g a1 a2 _ => ⟨fun _ => ?_, fun w => absurd w (by decide)⟩)
        · exact done3 _ _ _ _ (by decide) (k0' z1 z2 z3) (f3.up (by omega)) (by rw [g_up_at (by decide), g_up_at (by decide)]; exact g38) (by rw [g_up_eq]) (by rw [if_neg (by decide)]) (by rw [if_neg (by decide), if_neg (by decide)]) (by rw [if_neg (by decide)])
        · refine s_X12_readAct_202 (fun _ _ _ _ _ => l_m205 hn (st (f3.trans g)).2.1 (Or.inl (Int.le_refl _)) (fun D4 e => kf3 z1 z2 z3 D4 ?_ ?_ ?_))
          · rw [e]; exact (((((f3.trans g).frd.up (by omega)).up (by omega)).up (by omega)).up (by omega)).up (by omega)
          · rw [e]; simp (disch := omega) only [g_up_ne, g_up_at, ne_eq, not_false_eq_true]; exact a1
          · rw [e]; simp (disch := omega) only [g_up_ne, g_up_at, ne_eq, not_false_eq_true]; exact a2
      · have f3 : m_f3 D (g_up (g_up D2 208 38 ((r_f b N (p + 1) 0 19 : Nat) : Int)) 208 39 ((r_w N (p + 1) (r_f b N (p + 1) 0 19) : Nat) : Int)) := (f2.up (by omega)).up (by omega)
        have a1 : (g_up (g_up D2 208 38 ((r_f b N (p + 1) 0 19 : Nat) : Int)) 208 39 ((r_w N (p + 1) (r_f b N (p + 1) 0 19) : Nat) : Int)) 208 38 = ((r_f b N (p + 1) 0 19 : Nat) : Int) := by rw [g_up_at (by decide), g_up_eq]
        exact l_mF119 hn (st f3).2.1 (by rw [a1]; omega) (by omega) (by omega) (fun D' g x1 x2 => tail _ _ _ D' z2 f3.frd a1 (by rw [g_up_eq]) g x1 x2 (kf2 z1 z2))
    · obtain rfl : cd = 4 := c4
      have E2 : r_f2 b N p 4 = r_f b N (p + 1) 1 (40 - b p) := by simp [r_f2, r_lo2, r_hi2]
      have E3 : r_f3 b N p 4 = if p + 2 + (b (p + 1)).toNat ≤ N then 0 else 2 := by simp [r_f3]
      rw [E2] at kf2 kf3 k0'
      rw [E3] at kf3 k0'
      rw [q35]
      refine s_X12_readAct_119 (fun _ _ _ _ => ⟨fun _ => c_roomAt (by omega) (by omega) (fun _ => s_X12_readAct_146 (fun _ _ _ _ _ => ⟨fun _ => s_X12_readAct_164 (fun _ _ _ _ _ => ⟨fun _ => s_X12_readAct_182 (fun _ _ _ _ _ => ?_), fun w => absurd w (by decide)⟩), fun w => absurd w (by decide)⟩)), fun w => absurd w (by decide)⟩)
      refine c_len hb2 g38 g37 (by omega) (fun z2 _ => ⟨fun _ => ?_, fun w => absurd w (by decide)⟩) (fun z2 D' g a1 a2 _ => ⟨fun _ => ?_, fun w => absurd w (by decide)⟩)
      · have l2 := r_f_0 z2
        have f3 : m_f3 D (g_up D2 208 37 ((p + 1 + 1 : Nat) : Int)) := f2.up (by omega)
        have hlen : b (p + 1) = (((b (p + 1)).toNat : Nat) : Int) := by omega
        refine s_X12_readAct_202 (fun _ _ _ _ _ => ?_)
        rw [hlen]
        refine l_mD (E := E) (l := l) (b := b) (N := N) (D0 := D) (q := p + 2) (d := d) (len := (b (p + 1)).toNat) hn hb h34 (by omega) (fun w D' g x1 x2 => ?_) (fun w D' g x1 x2 x3 x4 x5 x6 x7 => ?_) _ 0 _ rfl (Nat.zero_le _) (by omega) f3.frd (by rw [g_up_at (by decide)]; exact g38) (by rw [g_up_eq]) (st f3).2.1 (st f3).2.2 (st f3).1.1 (f3.1 232 (by decide)) (fun x _ => by rw [f3.1 233 (by decide)]) (fun x hx => absurd hx (Nat.not_lt_zero x))
        · rw [if_neg w, show r_w N (p + 2) 2 = N from if_pos rfl] at kf3
          exact kf3 z1 z2 (by decide) D' g x1 x2
        · rw [if_pos w] at k0'
          refine k0 (k0' z1 z2 rfl) D' (b p) (d : Nat) (b (p + 1)) g x1 (by rw [if_pos rfl]; exact x2) x3 (by rw [if_pos rfl]; exact x4) (by rw [if_neg (by decide)]) (by rw [if_neg (by decide), if_pos rfl]) (by rw [if_pos (Or.inr rfl)]) ?_ x6 (fun _ => x7)
          rw [← hlen] at x5
          exact x5
      · refine s_X12_readAct_202 (fun _ _ _ _ _ => l_m205 hn (st (f2.trans g)).2.1 (Or.inl (Int.le_refl _)) (fun D4 e => kf2 z1 z2 D4 ?_ ?_ ?_))
        · rw [e]; exact (((((f2.trans g).frd.up (by omega)).up (by omega)).up (by omega)).up (by omega)).up (by omega)
        · rw [e]; simp (disch := omega) only [g_up_ne, g_up_at, ne_eq, not_false_eq_true]; exact a1
        · rw [e]; simp (disch := omega) only [g_up_ne, g_up_at, ne_eq, not_false_eq_true]; exact a2
  · have f3 : m_f3 D (g_up (g_up D1 208 38 ((r_f b N p 0 39 : Nat) : Int)) 208 39 ((r_w N p (r_f b N p 0 39) : Nat) : Int)) := (f1.up (by omega)).up (by omega)
    have a1 : (g_up (g_up D1 208 38 ((r_f b N p 0 39 : Nat) : Int)) 208 39 ((r_w N p (r_f b N p 0 39) : Nat) : Int)) 208 38 = ((r_f b N p 0 39 : Nat) : Int) := by rw [g_up_at (by decide), g_up_eq]
    exact l_mF86 hn (st f3).2.1 (st f3).2.2 (by omega) (by rw [a1]; omega) (by omega) (fun D' g x1 x2 => tail _ _ _ D' z1 f3.frd a1 (by rw [g_up_eq]) g x1 x2 (kf1 z1))
  · obtain rfl : cd = 1 := c1
    have E2 : r_f2 b N p 1 = r_f b N (p + 1) 1 (min 20 (40 - b p)) := by simp [r_f2, r_lo2, r_hi2]
    have E3 : r_f3 b N p 1 = r_f b N (p + 2) 0 (20 - b (p + 1)) := by simp [r_f3, r_lo3, r_hi3]
    rw [E2] at kf2 kf3 k0'
    rw [E3] at kf3 k0'
    refine s_X12_readAct_86 (fun _ _ _ => ⟨fun _ => ⟨fun _ => c_byte (st f1).1 g38 g37 hp (fun z1 _ => ?_) (fun z1 _ => ?_), fun w => absurd w (by decide)⟩, fun w => absurd w (by decide)⟩)
    · have l1 := r_f_0 z1
      have f2 : m_f3 D (g_up D1 208 37 ((p + 1 : Nat) : Int)) := f1.up (by omega)
      refine s_X12_readAct_119 (fun _ _ _ _ => ⟨fun w => absurd rfl w, fun _ => c_roomAt (by omega) (by omega) (fun _ => c_X12_lesser (fun _ => s_X12_readAct_146 (fun _ _ _ _ _ => ⟨fun _ => s_X12_readAct_164 (fun _ _ _ _ _ => ⟨fun _ => s_X12_readAct_182 (fun _ _ _ _ _ => ?_), fun w => absurd w (by decide)⟩), fun w => absurd w (by decide)⟩)))⟩)
      rw [show min (40 - b p) 20 = min 20 (40 - b p) by omega]
      refine c_len (st f2).1 (by rw [g_up_at (by decide)]; exact g38) (by rw [g_up_eq]) (by omega) (fun z2 _ => ⟨fun w => absurd rfl w, fun _ => ?_⟩) (fun z2 D' g a1 a2 _ => ⟨fun w => absurd rfl w, fun _ => ?_⟩)
      · have l2 := r_f_0 z2
        have f3 : m_f3 D (g_up (g_up D1 208 37 ((p + 1 : Nat) : Int)) 208 37 ((p + 1 + 1 : Nat) : Int)) := f2.up (by omega)
        refine c_place (by omega) (st f3).1 (by rw [g_up_at (by decide), g_up_at (by decide)]; exact g38) (by rw [g_up_eq]) (by omega) (fun z3 _ => ?_) (fun z3 v D' g a1 a2 _ => ?_)
        · exact done3 _ _ _ _ (by decide) (k0' z1 z2 z3) (f3.up (by omega)) (by rw [g_up_at (by decide), g_up_at (by decide), g_up_at (by decide)]; exact g38) (by rw [g_up_eq]) (by rw [if_pos rfl]) (by rw [if_pos rfl]) (by rw [if_pos (Or.inl rfl)])
        · refine s_X12_readAct_202 (fun _ _ _ _ _ => l_m205 hn (st (f3.trans g)).2.1 (Or.inr (by decide)) (fun D4 e => kf3 z1 z2 z3 D4 ?_ ?_ ?_))
          · rw [e]; exact (((((f3.trans g).frd.up (by omega)).up (by omega)).up (by omega)).up (by omega)).up (by omega)
          · rw [e]; simp (disch := omega) only [g_up_ne, g_up_at, ne_eq, not_false_eq_true]; exact a1
          · rw [e]; simp (disch := omega) only [g_up_ne, g_up_at, ne_eq, not_false_eq_true]; exact a2
      · refine c_placeF (by rw [a1]; omega) (fun _ => s_X12_readAct_202 (fun _ _ _ _ _ => l_m205 hn (st (f2.trans g)).2.1 (Or.inl (Int.le_refl _)) (fun D4 e => kf2 z1 z2 D4 ?_ ?_ ?_)))
        · rw [e]; exact (((((f2.trans g).frd.up (by omega)).up (by omega)).up (by omega)).up (by omega)).up (by omega)
        · rw [e]; simp (disch := omega) only [g_up_ne, g_up_at, ne_eq, not_false_eq_true]; exact a1
        · rw [e]; simp (disch := omega) only [g_up_ne, g_up_at, ne_eq, not_false_eq_true]; exact a2
    · have f3 : m_f3 D (g_up (g_up D1 208 38 ((r_f b N p 0 39 : Nat) : Int)) 208 39 ((r_w N p (r_f b N p 0 39) : Nat) : Int)) := (f1.up (by omega)).up (by omega)
      have a1 : (g_up (g_up D1 208 38 ((r_f b N p 0 39 : Nat) : Int)) 208 39 ((r_w N p (r_f b N p 0 39) : Nat) : Int)) 208 38 = ((r_f b N p 0 39 : Nat) : Int) := by rw [g_up_at (by decide), g_up_eq]
      exact l_mF119 hn (st f3).2.1 (by rw [a1]; omega) (by omega) (by omega) (fun D' g x1 x2 => tail _ _ _ D' z1 f3.frd a1 (by rw [g_up_eq]) g x1 x2 (kf1 z1))
end READM3
end
