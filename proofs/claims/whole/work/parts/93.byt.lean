section
/-! the patch's bytes -/
def m_aL (c : Nat → Nat → Int) (p : m_P) (i : Nat) : Nat := if p_a p i = 4 then 3 + (c (p_o p i) 3).toNat else 4
def m_of (c : Nat → Nat → Int) (p : m_P) : Nat → Nat
  | 0 => 1
  | i + 1 => m_of c p i + m_aL c p i
def m_av (c : Nat → Nat → Int) (w : Nat → Int) (p : m_P) (i j : Nat) : Int :=
  if j = 0 then (p_a p i : Nat) else if p_a p i = 1 then (if j = 1 then c (p_o p i) 2 else if j = 2 then c (p_o p i) 3 else (p_h p (p_o p i) : Nat))
  else if p_a p i = 2 then (if j = 1 then c (p_o p i) 1 else if j = 2 then c (p_o p i) 2 else c (p_o p i) 3)
  else if p_a p i = 3 then (if j = 1 then c (p_o p i) 1 else if j = 2 then (p_h p (p_o p i) : Nat) else c (p_o p i) 3)
  else (if j = 1 then c (p_o p i) 1 else if j = 2 then c (p_o p i) 3 else w ((c (p_o p i) 1).toNat + (j - 3)))
def m_pb (c : Nat → Nat → Int) (w : Nat → Int) (m : Int) (p : m_P) : Nat → Nat → Int
  | 0, _ => m
  | i + 1, x => if x < m_of c p i then m_pb c w m p i x else m_av c w p i (x - m_of c p i)
theorem m_of_pos {c : Nat → Nat → Int} {p : m_P} : ∀ i, 1 ≤ m_of c p i
  | 0 => Nat.le_refl _
  | i + 1 => Nat.le_trans (m_of_pos i) (Nat.le_add_right _ _)
theorem m_of_mono {c : Nat → Nat → Int} {p : m_P} {i : Nat} : ∀ {n : Nat}, i ≤ n → m_of c p i ≤ m_of c p n
  | 0, h => by rw [show i = 0 by omega]; exact Nat.le_refl _
  | n + 1, h => by
    by_cases e : i = n + 1
    · rw [e]; exact Nat.le_refl _
    · exact Nat.le_trans (m_of_mono (n := n) (by omega)) (Nat.le_add_right _ _)
theorem m_pb_0 {c : Nat → Nat → Int} {w : Nat → Int} {m : Int} {p : m_P} : ∀ n, m_pb c w m p n 0 = m
  | 0 => rfl
  | n + 1 => by rw [m_pb, if_pos (Nat.lt_of_lt_of_le Nat.zero_lt_one (m_of_pos n)), m_pb_0 n]
theorem m_pb_at {c : Nat → Nat → Int} {w : Nat → Int} {m : Int} {p : m_P} {i j : Nat} (hj : j < m_aL c p i) : ∀ {n : Nat}, i < n → m_pb c w m p n (m_of c p i + j) = m_av c w p i j
  | 0, h => absurd h (Nat.not_lt_zero i)
  | n + 1, h => by
    rw [m_pb]
    by_cases e : i = n
    · subst e
      rw [if_neg (by omega), Nat.add_sub_cancel_left]
    · have h1 : m_of c p (i + 1) ≤ m_of c p n := m_of_mono (by omega)
      rw [m_of] at h1
      rw [if_pos (by omega)]
      exact m_pb_at hj (by omega)
theorem m_of_by {c : Nat → Nat → Int} {p : m_P} : ∀ {n : Nat}, (∀ i, i < n → 0 ≤ c (p_o p i) 3) → ((m_of c p n : Nat) : Int) = 1 + m_sum (m_ab c p) n
  | 0, _ => rfl
  | n + 1, h => by
    have ih := m_of_by (n := n) (fun i hi => h i (by omega))
    have h1 := h n (by omega)
    rw [m_of, m_sum, Int.natCast_add, ih]
    unfold m_aL m_ab
    split <;> omega
theorem m_rb_nn {s : Nat} {c : Nat → Nat → Int} {p : m_P} (hc : m_cok s c) : 0 ≤ m_sum (m_rb c p) s := m_sum_nn (fun k hk => by
  have := hc.2.1 k hk
  unfold m_rb
  split
  · omega
  · split
    · omega
    · split <;> omega)
theorem m_of_le {s : Nat} {c : Nat → Nat → Int} {p : m_P} (hc : m_cok s c) (h : m_pI s c p) : m_of c p (p_n p) ≤ 141 ∧ ((m_of c p (p_n p) : Nat) : Int) = m_by c p := by
  have e := m_of_by (c := c) (p := p) (n := p_n p) (fun i hi => by have := (hc.2.1 _ (h.2.2.2.2.2.2.2.1 i hi).1).2.2.1; omega)
  have h1 := m_rb_nn (p := p) hc
  have h2 := h.2.2.2.2.2.2.2.2
  exact ⟨by omega, e⟩
/-- the model's bytes -/
def m_byD (D : g_D) (N : Nat) (b : Nat → Int) : Prop := D 208 27 = N ∧ ∀ x, x < N → D 231 x = b x
def m_fb (D D' : g_D) : Prop := (∀ k, k ≠ 208 → k ≠ 231 → D' k = D k) ∧ ∀ j, j ≠ 27 → D' 208 j = D 208 j
theorem m_fb.refl (D : g_D) : m_fb D D := ⟨fun _ _ _ => rfl, fun _ _ => rfl⟩
theorem m_fb.trans {D D' D'' : g_D} (h : m_fb D D') (h2 : m_fb D' D'') : m_fb D D'' := ⟨fun k a b => (h2.1 k a b).trans (h.1 k a b), fun j a => (h2.2 j a).trans (h.2 j a)⟩
section BYT
variable {E : g_E} {l : Launch} {sh : List g_Sh} {D : g_D} {s n m : Nat} {c : Nat → Nat → Int} {w : Nat → Int} {p : m_P}
theorem c_X12_laysByte {K : g_D → Prop} {N : Nat} {b : Nat → Int} {v : Int} {D0 : g_D} (hf : m_fb D0 D) (h : m_byD D N b) (hN : N < 400) (hv : v = b N) (kk : ∀ D' : g_D, m_fb D0 D' → m_byD D' (N + 1) b → K D') : k_X12_laysByte E l D v K := by
  refine s_X12_laysByte (fun _ _ => ?_)
  rw [h.1, Int.toNat_natCast]
  refine ⟨by omega, fun D1 e1 => ⟨⟨by omega, by omega⟩, fun D2 e2 => kk D2 (hf.trans ⟨fun k a b => by rw [e2, g_up_ne a, e1, g_up_ne b], fun j a => by rw [e2, g_up_at a, e1, g_up_ne (by decide)]⟩) ⟨by rw [e2, g_up_eq]; rfl, fun x hx => ?_⟩⟩⟩
  rw [e2, g_up_ne (by decide), e1]
  by_cases e : x = N
  · subst e; rw [g_up_eq]; exact hv
  · rw [g_up_at e]; exact h.2 x (by omega)
theorem m_aL_4 {i : Nat} (h : ¬ p_a p i = 4) : m_aL c p i = 4 := by unfold m_aL; rw [if_neg h]
theorem l_X12_laysBytes17 {K : g_D → Prop} {D0 : g_D} {B : Nat → Int} (hm : m ≤ 40) (hi : m_inv n m s c) (hc : m_cmd D0 s c) (hp : m_plD D0 s p) (hI : m_pI s c p) (hw : ∀ i, i < m → D0 209 (46 + i) = w i)
    (hB : ∀ i j, i < p_n p → j < m_aL c p i → B (m_of c p i + j) = m_av c w p i j)
    (kk : ∀ D' : g_D, m_fb D0 D' → m_byD D' (m_of c p (p_n p)) B → K D') :
    ∀ (q i : Nat) (D : g_D), p_n p - i = q → i ≤ p_n p → m_fb D0 D → m_byD D (m_of c p i) B → n_X12_laysBytes E l D 17 [some (g_R 208), some (g_I i), none, none] K := by
  have hok := hi.cok hm
  have hn : p_n p ≤ 30 := by have := hI.2.2.2.2.2.2.1; omega
  have hle := (m_of_le hok hI).1
  intro q
  induction q with
  | zero =>
    intro i D hq hi' hf hb
    obtain rfl : i = p_n p := by omega
    have h26 : D 208 26 = (p_n p : Nat) := by rw [hf.2 26 (by decide)]; exact hp.2.2.2.1.1
    exact s_X12_laysBytes_17 (fun _ _ => ⟨fun _ => kk D hf hb, fun q => (by omega : False).elim⟩)
  | succ q ih =>
    intro i D hq hi' hf hb
    have hi2 : i < p_n p := by omega
    have h26 : D 208 26 = (p_n p : Nat) := by rw [hf.2 26 (by decide)]; exact hp.2.2.2.1.1
    obtain ⟨hkd, hoc⟩ := hp.2.2.2.1.2 i hi2
    obtain ⟨ho, hst, hkind⟩ := hI.2.2.2.2.2.2.2.1 i hi2
    have hB' := fun j => hB i j hi2
    have hnext : m_of c p i + m_aL c p i ≤ m_of c p (p_n p) := m_of_mono (c := c) (p := p) (i := i + 1) (n := p_n p) hi2
    have hs := hok.1
    obtain ⟨o1, o2, o3, o4, o5, o6, o7⟩ := hi.2.2.1 (p_o p i) ho
    generalize ho' : p_o p i = o at *
    have fr : ∀ {D' : g_D}, m_fb D0 D' → D' 229 i = (p_a p i : Nat) ∧ D' 230 i = (o : Nat) ∧ D' 217 o = c o 1 ∧ D' 218 o = c o 2 ∧ D' 219 o = c o 3 := by
      intro D' f
      obtain ⟨c1, c2, c3, c4⟩ := hc.2 o ho
      rw [f.1 229 (by decide) (by decide), f.1 230 (by decide) (by decide), f.1 217 (by decide) (by decide), f.1 218 (by decide) (by decide), f.1 219 (by decide) (by decide)]
      exact ⟨hkd, hoc, c2, c3, c4⟩
    have fr8 : ∀ {D' : g_D}, m_fb D0 D' → p_v p o = true → D' 228 o = (p_h p o : Nat) := by
      intro D' f hv
      rw [f.1 228 (by decide) (by decide)]
      exact hp.2.2.1 o ho hv
    obtain ⟨g1, g2, g3, g4, g5⟩ := fr hf
    have short : ∀ D' : g_D, ¬ p_a p i = 4 → m_fb D0 D' → m_byD D' (m_of c p i + 1 + 1 + 1 + 1) B → n_X12_laysBytes E l D' 143 [some (g_R 208), some (g_I i), some (g_I o), some (g_I 0)] K := by
      intro D' h4 f' b'
      obtain ⟨e1, e2, e3, e4, e5⟩ := fr f'
      refine s_X12_laysBytes_143 (fun _ _ _ _ => ⟨by omega, ?_⟩)
      rw [Int.toNat_natCast, Int.toNat_natCast, e5, e1]
      refine ⟨fun q => (by omega : False).elim, fun _ => ⟨by omega, fun _ => ⟨⟨by omega, by omega⟩, ?_⟩, fun q => by omega⟩⟩
      rw [g_cast1]
      refine ih (i + 1) D' (by omega) (by omega) f' ?_
      rw [m_of, m_aL_4 h4]
      exact b'
    refine s_X12_laysBytes_17 (fun _ _ => ⟨fun q => (by omega : False).elim, fun _ => ?_⟩)
    rw [Int.toNat_natCast, g2, Int.toNat_natCast]
    have hav0 : ((p_a p i : Nat) : Int) = B (m_of c p i) := by
      have := hB' 0 (by unfold m_aL; split <;> omega)
      rw [Nat.add_zero] at this
      rw [this]; unfold m_av; rw [if_pos rfl]
    have hlen : m_of c p i + 3 < 400 := by omega
    rcases hkind with ⟨hk1 | hk3, hv⟩ | ⟨hk2, hcp⟩ | hk4
    · have hL := m_aL_4 (c := c) (p := p) (i := i) (by omega)
      have b1 := hB' 1 (by omega)
      have b2 := hB' 2 (by omega)
      have b3 := hB' 3 (by omega)
      unfold m_av at b1 b2 b3
      rw [ho', hk1] at b1 b2 b3
      simp only [if_true, if_false, Nat.one_ne_zero, show (2 : Nat) ≠ 0 from by decide, show (3 : Nat) ≠ 0 from by decide, show (2 : Nat) ≠ 1 from by decide, show (3 : Nat) ≠ 1 from by decide, show (3 : Nat) ≠ 2 from by decide] at b1 b2 b3
      refine ⟨by omega, by omega, c_X12_laysByte hf hb (by omega) (by rw [g1]; exact hav0) (fun D1 f1 d1 => ⟨by omega, fun q => ?_, fun _ => ⟨by omega, c_X12_laysByte f1 d1 (by omega) (by rw [(fr f1).2.2.2.1]; exact b1.symm) (fun D2 f2 d2 => ⟨by omega, fun _ => ⟨by omega, fun _ => ⟨by omega, c_X12_laysByte f2 d2 (by omega) (by rw [(fr f2).2.2.2.2]; exact b2.symm) (fun D3 f3 d3 => ⟨by omega, fun q => ?_, fun _ => ⟨by omega, c_X12_laysByte f3 d3 (by omega) (by rw [fr8 f3 hv]; exact b3.symm) (fun D4 f4 d4 => short D4 (by omega) f4 d4)⟩⟩)⟩, fun q => ?_⟩, fun q => ?_⟩)⟩⟩)⟩
      · exact absurd (by rw [(fr f1).1, hk1]; rfl) q
      · exact absurd (by rw [(fr f3).1, hk1]; rfl) q
      · rw [(fr f2).1, hk1] at q; exact absurd q (by decide)
      · rw [(fr f2).1, hk1] at q; exact absurd q (by decide)
    · have hL := m_aL_4 (c := c) (p := p) (i := i) (by omega)
      have b1 := hB' 1 (by omega)
      have b2 := hB' 2 (by omega)
      have b3 := hB' 3 (by omega)
      unfold m_av at b1 b2 b3
      rw [ho', hk3] at b1 b2 b3
      simp only [if_true, if_false, Nat.one_ne_zero, show (2 : Nat) ≠ 0 from by decide, show (3 : Nat) ≠ 0 from by decide, show (2 : Nat) ≠ 1 from by decide, show (3 : Nat) ≠ 1 from by decide, show (3 : Nat) ≠ 2 from by decide] at b1 b2 b3
      refine ⟨by omega, by omega, c_X12_laysByte hf hb (by omega) (by rw [g1]; exact hav0) (fun D1 f1 d1 => ⟨by omega, fun _ => ⟨by omega, c_X12_laysByte f1 d1 (by omega) (by rw [(fr f1).2.2.1]; exact b1.symm) (fun D2 f2 d2 => ⟨by omega, fun _ => ⟨by omega, fun q => ?_, fun _ => ⟨by omega, c_X12_laysByte f2 d2 (by omega) (by rw [fr8 f2 hv]; exact b2.symm) (fun D5 f5 d5 => ⟨by omega, c_X12_laysByte f5 d5 (by omega) (by rw [(fr f5).2.2.2.2]; exact b3.symm) (fun D6 f6 d6 => ⟨by omega, fun _ => short D6 (by omega) f6 d6, fun q => ?_⟩)⟩)⟩⟩, fun q => ?_⟩)⟩, fun q => ?_⟩)⟩
      · exact absurd (by rw [(fr f2).1, hk3]; rfl) q
      · rw [(fr f6).1, hk3] at q; exact absurd q (by decide)
      · rw [(fr f2).1, hk3] at q; exact absurd q (by decide)
      · rw [(fr f1).1, hk3] at q; exact absurd q (by decide)
    · have hL := m_aL_4 (c := c) (p := p) (i := i) (by omega)
      have b1 := hB' 1 (by omega)
      have b2 := hB' 2 (by omega)
      have b3 := hB' 3 (by omega)
      unfold m_av at b1 b2 b3
      rw [ho', hk2] at b1 b2 b3
      simp only [if_true, if_false, Nat.one_ne_zero, show (2 : Nat) ≠ 0 from by decide, show (3 : Nat) ≠ 0 from by decide, show (2 : Nat) ≠ 1 from by decide, show (3 : Nat) ≠ 1 from by decide, show (3 : Nat) ≠ 2 from by decide] at b1 b2 b3
      refine ⟨by omega, by omega, c_X12_laysByte hf hb (by omega) (by rw [g1]; exact hav0) (fun D1 f1 d1 => ⟨by omega, fun _ => ⟨by omega, c_X12_laysByte f1 d1 (by omega) (by rw [(fr f1).2.2.1]; exact b1.symm) (fun D2 f2 d2 => ⟨by omega, fun q => ?_, fun _ => ⟨by omega, c_X12_laysByte f2 d2 (by omega) (by rw [(fr f2).2.2.2.1]; exact b2.symm) (fun D8 f8 d8 => ⟨by omega, fun _ => ⟨by omega, c_X12_laysByte f8 d8 (by omega) (by rw [(fr f8).2.2.2.2]; exact b3.symm) (fun D9 f9 d9 => ⟨by omega, fun _ => short D9 (by omega) f9 d9, fun q => ?_⟩)⟩, fun q => ?_⟩)⟩⟩)⟩, fun q => ?_⟩)⟩
      · exact absurd (by rw [(fr f2).1, hk2]; rfl) q
      · rw [(fr f9).1, hk2] at q; exact absurd q (by decide)
      · rw [(fr f8).1, hk2] at q; exact absurd q (by decide)
      · rw [(fr f1).1, hk2] at q; exact absurd q (by decide)
    · have hL : m_aL c p i = 3 + (c o 3).toNat := by unfold m_aL; rw [if_pos hk4, ho']
      have b1 := hB' 1 (by omega)
      have b2 := hB' 2 (by omega)
      have bj : ∀ j, j < (c o 3).toNat → B (m_of c p i + (3 + j)) = w ((c o 1).toNat + j) := by
        intro j hj
        have := hB' (3 + j) (by omega)
        unfold m_av at this
        rw [ho', hk4] at this
        rw [this]
        rw [if_neg (by omega), if_neg (by decide), if_neg (by decide), if_neg (by decide), if_neg (by omega), if_neg (by omega), Nat.add_sub_cancel_left]
      unfold m_av at b1 b2
      rw [ho', hk4] at b1 b2
      simp only [if_true, if_false, Nat.one_ne_zero, show (2 : Nat) ≠ 0 from by decide, show (4 : Nat) ≠ 1 from by decide, show (4 : Nat) ≠ 2 from by decide, show (4 : Nat) ≠ 3 from by decide, show (2 : Nat) ≠ 1 from by decide] at b1 b2
      have long : ∀ (q j : Nat) (D' : g_D), (c o 3).toNat - j = q → j ≤ (c o 3).toNat → m_fb D0 D' → m_byD D' (m_of c p i + (3 + j)) B → n_X12_laysBytes E l D' 143 [some (g_R 208), some (g_I i), some (g_I o), some (g_I j)] K := by
        intro q
        induction q with
        | zero =>
          intro j D' hq hj f' b'
          obtain ⟨e1, e2, e3, e4, e5⟩ := fr f'
          refine s_X12_laysBytes_143 (fun _ _ _ _ => ⟨by omega, ?_⟩)
          rw [Int.toNat_natCast, e5]
          refine ⟨fun _ => ⟨⟨by omega, by omega⟩, ?_⟩, fun q => (by omega : False).elim⟩
          rw [g_cast1]
          refine ih (i + 1) D' (by omega) (by omega) f' ?_
          rw [m_of, hL]
          rw [show j = (c o 3).toNat by omega] at b'
          exact b'
        | succ q ih2 =>
          intro j D' hq hj f' b'
          obtain ⟨e1, e2, e3, e4, e5⟩ := fr f'
          refine s_X12_laysBytes_143 (fun _ _ _ _ => ⟨by omega, ?_⟩)
          rw [Int.toNat_natCast, Int.toNat_natCast, e5, e1, e3]
          refine ⟨fun q => (by omega : False).elim, fun _ => ⟨by omega, fun q => by omega, fun _ => ⟨by omega, ⟨by omega, by omega⟩, ⟨by omega, by omega⟩, by omega, c_X12_laysByte f' b' (by omega) ?_ (fun D1 f1 d1 => ⟨⟨by omega, by omega⟩, ?_⟩)⟩⟩⟩
          · rw [bj j (by omega), show ((46 + c o 1) + (j : Int)).toNat = 46 + ((c o 1).toNat + j) by omega, f'.1 209 (by decide) (by decide)]
            exact hw _ (by omega)
          · rw [g_cast1]
            exact ih2 (j + 1) D1 (by omega) (by omega) f1 d1
      refine ⟨by omega, by omega, c_X12_laysByte hf hb (by omega) (by rw [g1]; exact hav0) (fun D1 f1 d1 => ⟨by omega, fun _ => ⟨by omega, c_X12_laysByte f1 d1 (by omega) (by rw [(fr f1).2.2.1]; exact b1.symm) (fun D2 f2 d2 => ⟨by omega, fun _ => ⟨by omega, fun _ => ⟨by omega, c_X12_laysByte f2 d2 (by omega) (by rw [(fr f2).2.2.2.2]; exact b2.symm) (fun D3 f3 d3 => ⟨by omega, fun _ => long _ 0 D3 rfl (Nat.zero_le _) f3 d3, fun q => ?_⟩)⟩, fun q => ?_⟩, fun q => ?_⟩)⟩, fun q => ?_⟩)⟩
      · rw [(fr f3).1, hk4] at q; exact absurd q (by decide)
      · rw [(fr f2).1, hk4] at q; exact absurd q (by decide)
      · rw [(fr f2).1, hk4] at q; exact absurd q (by decide)
      · rw [(fr f1).1, hk4] at q; exact absurd q (by decide)
/-- the plan's patch: how many bytes, and which -/
def m_pN (c : Nat → Nat → Int) (p : m_P) : Nat := m_of c p (p_n p)
def m_pBy (c : Nat → Nat → Int) (w : Nat → Int) (m : Nat) (p : m_P) : Nat → Int := m_pb c w (m : Nat) p (p_n p)
theorem c_X12_laysBytes {K : g_D → Prop} (hm : m ≤ 40) (h1 : D 209 1 = m) (hi : m_inv n m s c) (hc : m_cmd D s c) (hp : m_plD D s p) (hI : m_pI s c p) (hw : ∀ i, i < m → D 209 (46 + i) = w i)
    (kk : ∀ D' : g_D, m_fb D D' → m_byD D' (m_pN c p) (m_pBy c w m p) → K D') : k_X12_laysBytes E l D K := by
  refine s_X12_laysBytes (fun _ D1 e1 => ?_)
  have f1 : m_fb D D1 := ⟨fun k a b => by rw [e1, g_up_ne a], fun j a => by rw [e1, g_up_at a]⟩
  refine c_X12_laysByte (N := 0) (b := m_pBy c w m p) f1 ⟨by rw [e1, g_up_eq]; rfl, fun x hx => absurd hx (Nat.not_lt_zero x)⟩ (by decide) (by rw [h1]; exact (m_pb_0 _).symm) (fun D2 f2 d2 => ?_)
  exact l_X12_laysBytes17 (D0 := D) hm hi hc hp hI hw (fun i j hi hj => m_pb_at hj hi) kk _ 0 D2 rfl (Nat.zero_le _) f2 d2
end BYT
end
