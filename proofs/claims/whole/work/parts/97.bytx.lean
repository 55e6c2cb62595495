section
/-! the patch's bytes in the class -/
def x_byD (D : g_D) (k N : Nat) (b : Nat → Int) : Prop := D (k + 5) 1 = N ∧ ∀ x, x < N → D (k + 6) x = b x
def x_fB (k : Nat) (D D' : g_D) : Prop := ∀ i, i ≠ k + 5 → i ≠ k + 6 → D' i = D i
theorem x_fB.refl (k : Nat) (D : g_D) : x_fB k D D := fun _ _ _ => rfl
theorem x_fB.trans {k : Nat} {D D' D'' : g_D} (h : x_fB k D D') (h2 : x_fB k D' D'') : x_fB k D D'' := fun i a b => (h2 i a b).trans (h i a b)
section BYTX
variable {E : g_E} {l : Launch} {sh : List g_Sh} {D : g_D} {s n m : Nat} {c : Nat → Nat → Int} {w : Nat → Int} {p : m_P}
theorem c_pushB {K : g_D → Prop} {k N : Nat} {b : Nat → Int} {v : Int} {D0 : g_D} (hk : is_Plan g_SH k) (hf : x_fB k D0 D) (h : x_byD D k N b) (hN : N < 160) (hv : v = b N) (kk : ∀ D' : g_D, x_fB k D0 D' → x_byD D' k (N + 1) b → K D') : k_X0_push E l g_SH D (k + 5) v K := by
  refine c_X0_push (n := N) (nk := 160) ⟨hk.2.2.2.2.2.1, hk.2.2.2.2.2.2⟩ h.1 hN (by decide) (fun D' f1 f2 f3 f4 f5 => kk D' (hf.trans (fun i a b => f1 i a b)) ⟨f2, fun x hx => ?_⟩)
  by_cases e : x = N
  · subst e; rw [show k + 6 = k + 5 + 1 from rfl, f4]; exact hv
  · rw [show k + 6 = k + 5 + 1 from rfl, f5 x e]; exact h.2 x (by omega)
theorem c_pushThree {K : g_D → Prop} {k N : Nat} {b : Nat → Int} {v1 v2 v3 : Int} {D0 : g_D} (hk : is_Plan g_SH k) (hf : x_fB k D0 D) (h : x_byD D k N b) (hN : N + 2 < 160) (h1 : v1 = b N) (h2 : v2 = b (N + 1)) (h3 : v3 = b (N + 2)) (kk : ∀ D' : g_D, x_fB k D0 D' → x_byD D' k (N + 3) b → K D') : k_X4_pushThree E l D k v1 v2 v3 K :=
  s_X4_pushThree hk (fun _ _ _ _ => c_pushB hk hf h (by omega) h1 (fun _ f1 b1 => c_pushB hk f1 b1 (by omega) h2 (fun _ f2 b2 => c_pushB hk f2 b2 (by omega) h3 kk)))
theorem c_X4_writeAct {K : g_D → Prop} {k r r2 i : Nat} {D0 : g_D} {B : Nat → Int} (hk : is_Plan g_SH k) (hr : is_Script g_SH r) (hr2 : is_Cells g_SH r2 40) (hkr : r + 11 < k) (hkr2 : r2 + 1 < k) (hm : m ≤ 40) (hi : m_inv n m s c) (hc : x_cmd D0 r s c) (hp : x_plD D0 k s c p) (hI : m_pI s c p) (hw : x_cl D0 r2 w m) (hi2 : i < p_n p)
    (hB : ∀ j, j < m_aL c p i → B (m_of c p i + j) = m_av c w p i j) (hf : x_fB k D0 D) (hb : x_byD D k (m_of c p i) B)
    (kk : ∀ D' : g_D, x_fB k D0 D' → x_byD D' k (m_of c p (i + 1)) B → K D') : k_X4_writeAct E l D k r r2 i K := by
  have hok := hi.cok hm
  have hn : p_n p ≤ 30 := by have := hI.2.2.2.2.2.2.1; omega
  have hle := (m_of_le hok hI).1
  obtain ⟨hkd, hoc, hpl⟩ := hp.2.2.2.2.2.2.2.1 i hi2
  obtain ⟨ho, hst, hkind⟩ := hI.2.2.2.2.2.2.2.1 i hi2
  have hnext : m_of c p i + m_aL c p i ≤ m_of c p (p_n p) := m_of_mono (c := c) (p := p) (i := i + 1) (n := p_n p) hi2
  have hs := hok.1
  obtain ⟨o1, o2, o3, o4, o5, o6, o7⟩ := hi.2.2.1 (p_o p i) ho
  unfold m_pa at hpl
  rw [m_of] at kk
  generalize ho' : p_o p i = o at *
  have fr : ∀ {D' : g_D}, x_fB k D0 D' → D' (k + 1) i = (p_a p i : Nat) ∧ D' (k + 2) i = (o : Nat) ∧ D' (r + 2) o = c o 1 ∧ D' (r + 3) o = c o 2 ∧ D' (r + 4) o = c o 3 := by
    intro D' f
    obtain ⟨c1, c2, c3, c4⟩ := hc.2 o ho
    rw [f (k + 1) (by omega) (by omega), f (k + 2) (by omega) (by omega), f (r + 2) (by omega) (by omega), f (r + 3) (by omega) (by omega), f (r + 4) (by omega) (by omega)]
    exact ⟨hkd, hoc, c2, c3, c4⟩
  have fr3 : ∀ {D' : g_D}, x_fB k D0 D' → (p_a p i = 1 ∨ p_a p i = 3) → D' (k + 3) i = (p_h p o : Nat) := by
    intro D' f q
    rw [f (k + 3) (by omega) (by omega), hpl, if_pos q]
  obtain ⟨g1, g2, g3, g4, g5⟩ := fr hf
  have hav0 : ((p_a p i : Nat) : Int) = B (m_of c p i) := by
    have := hB 0 (by unfold m_aL; split <;> omega)
    rw [Nat.add_zero] at this
    rw [this]; unfold m_av; rw [if_pos rfl]
  refine s_X4_writeAct hk hr hr2 (fun _ _ => ?_)
  rw [Int.toNat_natCast, g2, Int.toNat_natCast, g1]
  refine ⟨by omega, by omega, c_pushB hk hf hb (by unfold m_aL at hnext; split at hnext <;> omega) hav0 (fun D1 f1 b1 => ⟨by omega, ?_⟩)⟩
  obtain ⟨e1, e2, e3, e4, e5⟩ := fr f1
  rw [e1, e3, e4, e5]
  have four : ¬ p_a p i = 4 → ∀ v1 v2 v3 : Int, v1 = m_av c w p i 1 → v2 = m_av c w p i 2 → v3 = m_av c w p i 3 → k_X4_pushThree E l D1 k v1 v2 v3 (fun D2 => K D2) := by
    intro h4 v1 v2 v3 w1 w2 w3
    have hL := m_aL_4 (c := c) (p := p) (i := i) h4
    rw [hL] at kk
    exact c_pushThree hk f1 b1 (by omega) (by rw [w1]; exact (hB 1 (by omega)).symm) (by rw [w2]; exact (hB 2 (by omega)).symm) (by rw [w3]; exact (hB 3 (by omega)).symm) kk
  refine ⟨fun q => ⟨by omega, by omega, by omega, ?_⟩, fun q => ⟨by omega, by omega, by omega, ?_⟩, fun q => ⟨by omega, by omega, by omega, ?_⟩, fun q => ⟨by omega, ?_⟩⟩
  · have h1 : p_a p i = 1 := by omega
    refine four (by omega) _ _ _ ?_ ?_ ?_
    · unfold m_av; rw [if_neg (by decide), if_pos h1, if_pos rfl, ho']
    · unfold m_av; rw [if_neg (by decide), if_pos h1, if_neg (by decide), if_pos rfl, ho']
    · unfold m_av; rw [if_neg (by decide), if_pos h1, if_neg (by decide), if_neg (by decide), ho', fr3 f1 (Or.inl h1)]
  · have h1 : p_a p i = 2 := by omega
    refine four (by omega) _ _ _ ?_ ?_ ?_
    · unfold m_av; rw [if_neg (by decide), if_neg (by omega), if_pos h1, if_pos rfl, ho']
    · unfold m_av; rw [if_neg (by decide), if_neg (by omega), if_pos h1, if_neg (by decide), if_pos rfl, ho']
    · unfold m_av; rw [if_neg (by decide), if_neg (by omega), if_pos h1, if_neg (by decide), if_neg (by decide), ho']
  · have h1 : p_a p i = 3 := by omega
    refine four (by omega) _ _ _ ?_ ?_ ?_
    · unfold m_av; rw [if_neg (by decide), if_neg (by omega), if_neg (by omega), if_pos h1, if_pos rfl, ho']
    · unfold m_av; rw [if_neg (by decide), if_neg (by omega), if_neg (by omega), if_pos h1, if_neg (by decide), if_pos rfl, ho', fr3 f1 (Or.inr h1)]
    · unfold m_av; rw [if_neg (by decide), if_neg (by omega), if_neg (by omega), if_pos h1, if_neg (by decide), if_neg (by decide), ho']
  · have h4 : p_a p i = 4 := by omega
    have hL : m_aL c p i = 3 + (c o 3).toNat := by unfold m_aL; rw [if_pos h4, ho']
    rw [hL] at kk hnext hB
    have av : ∀ j, m_av c w p i (j + 1) = if j = 0 then c o 1 else if j = 1 then c o 3 else w ((c o 1).toNat + (j - 2)) := by
      intro j
      unfold m_av
      rw [if_neg (by omega), if_neg (by omega), if_neg (by omega), if_neg (by omega), ho']
      by_cases j0 : j = 0
      · rw [if_pos (by omega), if_pos j0]
      · rw [if_neg (by omega), if_neg j0]
        by_cases j1 : j = 1
        · rw [if_pos (by omega), if_pos j1]
        · rw [if_neg (by omega), if_neg j1, show j + 1 - 3 = j - 2 by omega]
    have long : ∀ (q j : Nat) (D' : g_D), (c o 3).toNat - j = q → j ≤ (c o 3).toNat → x_fB k D0 D' → x_byD D' k (m_of c p i + (3 + j)) B → n_X4_writeAct E l D' 165 [some (g_R k), some (g_R r), some (g_R r2), none, some (g_I o), some (g_I j)] K := by
      intro q
      induction q with
      | zero =>
        intro j D' hq hj f' b'
        obtain ⟨e1, e2, e3, e4, e5⟩ := fr f'
        refine s_X4_writeAct_165 hk hr hr2 (fun _ _ _ => ⟨by omega, ?_⟩)
        rw [Int.toNat_natCast, e5]
        refine ⟨fun _ => kk D' f' ?_, fun q => (by omega : False).elim⟩
        rw [show j = (c o 3).toNat by omega] at b'
        exact b'
      | succ q ih2 =>
        intro j D' hq hj f' b'
        obtain ⟨e1, e2, e3, e4, e5⟩ := fr f'
        refine s_X4_writeAct_165 hk hr hr2 (fun _ _ _ => ⟨by omega, ?_⟩)
        rw [Int.toNat_natCast, e5, e3]
        refine ⟨fun q => (by omega : False).elim, fun _ => ⟨by omega, ⟨by omega, by omega⟩, ?_⟩⟩
        have hx : x_cl D' r2 w m := hw.fr (f' r2 (by omega) (by omega)) (f' (r2 + 1) (by omega) (by omega))
        refine c_X0_at (c := w) hr2 hx.1 (by omega) hx.2.2 (fun _ => ?_)
        rw [if_pos (by omega)]
        refine c_pushB hk f' b' (by omega) ?_ (fun D2 f2 b2 => ⟨⟨by omega, by omega⟩, ?_⟩)
        · rw [hB (3 + j) (by omega), show 3 + j = (2 + j) + 1 by omega, av, if_neg (by omega), if_neg (by omega), show (c o 1 + (j : Int)).toNat = (c o 1).toNat + (2 + j - 2) by omega]
        · rw [g_cast1]
          exact ih2 (j + 1) D2 (by omega) (by omega) f2 b2
    refine c_pushB hk f1 b1 (by omega) (by rw [hB 1 (by omega), av, if_pos rfl]) (fun D2 f2 b2 => ⟨by omega, ?_⟩)
    rw [(fr f2).2.2.2.2]
    exact c_pushB hk f2 b2 (by omega) (by rw [hB 2 (by omega), av, if_neg (by decide), if_pos rfl]) (fun D3 f3 b3 => long _ 0 D3 rfl (Nat.zero_le _) f3 b3)
theorem c_X4_write {K : g_D → Prop} {k r r2 : Nat} (hk : is_Plan g_SH k) (hr : is_Script g_SH r) (hr2 : is_Cells g_SH r2 40) (hkr : r + 11 < k) (hkr2 : r2 + 1 < k) (hi : m_inv n m s c) (hc : x_cmd D r s c) (hp : x_plD D k s c p) (hI : m_pI s c p) (hw : x_cl D r2 w m)
    (kk : ∀ D' : g_D, x_fB k D D' → x_byD D' k (m_pN c p) (m_pBy c w m p) → K D') : k_X4_write E l D k r r2 K := by
  have hm := hw.2.1
  have key : ∀ (q i : Nat) (D' : g_D), p_n p - i = q → i ≤ p_n p → x_fB k D D' → x_byD D' k (m_of c p i) (m_pBy c w m p) → n_X4_write E l D' 21 [some (g_R k), some (g_R r), some (g_R r2), some (g_I i)] K := by
    intro q
    induction q with
    | zero =>
      intro i D' hq hi' hf hb
      obtain rfl : i = p_n p := by omega
      have h5 : D' k 5 = (p_n p : Nat) := by rw [hf k (by omega) (by omega)]; exact hp.1
      exact s_X4_write_21 hk hr hr2 (fun _ _ => ⟨fun _ => kk D' hf hb, fun q => (by omega : False).elim⟩)
    | succ q ih =>
      intro i D' hq hi' hf hb
      have h5 : D' k 5 = (p_n p : Nat) := by rw [hf k (by omega) (by omega)]; exact hp.1
      have hn : p_n p ≤ 30 := by have := hI.2.2.2.2.2.2.1; omega
      refine s_X4_write_21 hk hr hr2 (fun _ _ => ⟨fun q => (by omega : False).elim, fun _ => c_X4_writeAct (n := n) (m := m) (w := w) hk hr hr2 hkr hkr2 hm hi hc hp hI hw (by omega) (fun j hj => m_pb_at hj (by omega)) hf hb (fun D2 f2 b2 => ⟨⟨by omega, by omega⟩, ?_⟩)⟩)
      rw [g_cast1]
      exact ih (i + 1) D2 (by omega) (by omega) f2 b2
  refine s_X4_write hk hr hr2 (fun _ D1 e1 => ?_)
  have f1 : x_fB k D D1 := fun i a _ => by rw [e1, g_up_ne a]
  refine c_pushB (N := 0) hk f1 ⟨by rw [e1, g_up_eq]; rfl, fun x hx => absurd hx (Nat.not_lt_zero x)⟩ (by decide) ?_ (fun D2 f2 b2 => key _ 0 D2 rfl (Nat.zero_le _) f2 b2)
  rw [f1 r2 (by omega) (by omega), hw.1]
  exact (m_pb_0 (c := c) (w := w) (m := (m : Nat)) (p := p) (p_n p)).symm
end BYTX
/-! all that is planned of two images, by the terms -/
noncomputable def m_plan (ch : Int) (le : Nat) (ru : Int) (B : Nat) (o w : Nat → Int) (n m : Nat) : m_P := m_pl (m_cs ch le o w n m).1 (m_cs ch le o w n m).2 ru B
/-- the class's commands and plan, as they are to be -/
def x_pln (D : g_D) (ch : Int) (le : Nat) (ru : Int) (B : Nat) (o w : Nat → Int) (n m : Nat) : Prop :=
  x_cmd D 137 (m_cs ch le o w n m).1 (m_cs ch le o w n m).2 ∧ m_inv n m (m_cs ch le o w n m).1 (m_cs ch le o w n m).2 ∧ x_nx D 137 (m_cs ch le o w n m).1 (m_cs ch le o w n m).2 ∧ (¬ D 143 4 = 0 → x_wgd D 143 (m_cs ch le o w n m).1 (m_cs ch le o w n m).2) ∧
  x_plD D 149 (m_cs ch le o w n m).1 (m_cs ch le o w n m).2 (m_plan ch le ru B o w n m) ∧ x_byD D 149 (m_pN (m_cs ch le o w n m).2 (m_plan ch le ru B o w n m)) (m_pBy (m_cs ch le o w n m).2 w m (m_plan ch le ru B o w n m))
/-- the terms -/
def x_trm (D : g_D) (k : Nat) (le : Nat) (ch ru : Int) (B : Nat) : Prop := D k 0 = le ∧ D k 1 = ch ∧ D k 2 = ru ∧ D k 3 = B ∧ 3 ≤ le ∧ le ≤ 8 ∧ B ≤ 20 ∧ 0 ≤ ch ∧ ch ≤ 2 ∧ 0 ≤ ru ∧ ru ≤ 2
def x_plnR (D : g_D) (ch : Int) (le : Nat) (ru : Int) (B : Nat) (o w : Nat → Int) (n m : Nat) : Prop := D 0 14 = 0 → x_pln D ch le ru B o w n m
/-- nothing but the plan and its mark -/
def x_fpl (D D' : g_D) : Prop := (∀ k, k ≠ 0 → ¬ (137 ≤ k ∧ k ≤ 155) → D' k = D k) ∧ ∀ j, j ≠ 14 → D' 0 j = D 0 j
theorem x_fpl.refl (D : g_D) : x_fpl D D := ⟨fun _ _ _ => rfl, fun _ _ => rfl⟩
theorem x_fpl.trans {D D' D'' : g_D} (h : x_fpl D D') (h2 : x_fpl D' D'') : x_fpl D D'' := ⟨fun k a b => (h2.1 k a b).trans (h.1 k a b), fun j a => (h2.2 j a).trans (h.2 j a)⟩
theorem c_X11_makePlan {E : g_E} {l : Launch} {D : g_D} {K : g_D → Prop} {o w : Nat → Int} {n m le B : Nat} {ch ru : Int} (ho : x_cl D 2 o n) (hw : x_cl D 4 w m) (ht : x_trm D 6 le ch ru B) (hR : x_plnR D ch le ru B o w n m)
    (kk : ∀ D' : g_D, x_fpl D D' → D' 0 14 = 0 → x_pln D' ch le ru B o w n m → K D') : k_X11_makePlan E l D K := by
  obtain ⟨t0, t1, t2, t3, hle, hle2, hB, _⟩ := ht
  refine s_X11_makePlan (fun _ => ⟨fun e => kk D (x_fpl.refl D) e (hR e), fun _ => ?_⟩)
  rw [t0, t1]
  refine c_X7_build (ch := ch) (o := o) (w := w) (n := n) (m := m) ip_Script_137 ip_Cells_2 ip_Cells_4 ho.2.1 hw.2.1 ho hw (by decide) hle hle2 (fun D1 f1 c1 i1 n1 z1 => ?_)
  have e6 : D1 6 = D 6 := f1.1 6 (by decide)
  have hm := hw.2.1
  have hok := i1.cok hm
  rw [e6, t2, t3]
  refine c_X4_build (ru := ru) ip_Plan_149 ip_Script_137 (by decide) hok hB c1 n1 (fun D2 f2 p2 => ?_)
  have c2 := f2.cmd (by decide) c1
  have n2 := f2.nx (by decide) n1
  have w2 : x_cl D2 4 w m := hw.fr (by rw [f2 4 (by decide) (by decide), f1.1 4 (by decide)]) (by rw [f2 5 (by decide) (by decide), f1.1 5 (by decide)])
  refine c_X4_write (w := w) ip_Plan_149 ip_Script_137 ip_Cells_4 (by decide) (by decide) i1 c2 p2 (m_pl_ok hok hB).1 w2 (fun D3 f3 b3 D4 e4 => ?_)
  have g3 : ∀ i, i ≠ 154 → i ≠ 155 → D3 i = D2 i := fun i a b => f3 i a b
  refine kk D4 ⟨fun k a b => ?_, fun j a => ?_⟩ (by rw [e4, g_up_eq]) ⟨?_, i1, ?_, fun q => ?_, ?_, ?_⟩
  · rw [e4, g_up_ne a, g3 k (by omega) (by omega), f2 k (by omega) (by omega), f1.1 k (by omega)]
  · rw [e4, g_up_at a, g3 0 (by decide) (by decide), f2 0 (by decide) (by decide), f1.1 0 (by decide)]
  · have h4 : ∀ i, i ≠ 0 → i ≠ 154 → i ≠ 155 → D4 i = D2 i := fun i a b c => by rw [e4, g_up_ne a]; exact g3 i b c
    unfold x_cmd at *
    rw [h4 137 (by decide) (by decide) (by decide), h4 (137 + 1) (by decide) (by decide) (by decide), h4 (137 + 2) (by decide) (by decide) (by decide), h4 (137 + 3) (by decide) (by decide) (by decide), h4 (137 + 4) (by decide) (by decide) (by decide)]
    exact c2
  · have h4 : ∀ i, i ≠ 0 → i ≠ 154 → i ≠ 155 → D4 i = D2 i := fun i a b c => by rw [e4, g_up_ne a]; exact g3 i b c
    unfold x_nx at *
    rw [h4 (137 + 5) (by decide) (by decide) (by decide)]
    exact n2
  · rw [e4, g_up_ne (by decide), g3 143 (by decide) (by decide), f2 143 (by decide) (by decide)] at q
    exact absurd z1 q
  · have h4 : ∀ i, i ≠ 0 → i ≠ 154 → i ≠ 155 → D4 i = D2 i := fun i a b c => by rw [e4, g_up_ne a]; exact g3 i b c
    unfold x_plD x_plA x_plH at *
    rw [h4 149 (by decide) (by decide) (by decide), h4 (149 + 1) (by decide) (by decide) (by decide), h4 (149 + 2) (by decide) (by decide) (by decide), h4 (149 + 3) (by decide) (by decide) (by decide), h4 (149 + 4) (by decide) (by decide) (by decide)]
    exact p2
  · unfold x_byD at *
    rw [e4, g_up_ne (by decide), g_up_ne (by decide)]
    exact b3
end
