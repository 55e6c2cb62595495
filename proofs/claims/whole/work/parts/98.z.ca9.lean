section
/-! a patch is taken from the tape -/
section CA9
variable {E : g_E} {l : Launch} {sh : List g_Sh} {D D1 D2 D3 D' Dm Dn : g_D} {o w b b' T W W' W0 M M' C : Nat → Int} {n m le B N na N' na' el sz s t : Nat} {ch ru : Int}
theorem r_go_bd {b : Nat → Int} {N : Nat} : ∀ {f i : Nat}, (r_go b N f i).2.1 ≤ 4
  | 0, i => by rw [r_go]; exact Nat.zero_le _
  | f + 1, i => by
    rw [r_go]
    split
    · exact Nat.zero_le _
    · split
      · show r_bd b N i ≤ 4
        unfold r_bd
        split
        · split
          · exact Nat.le_refl _
          · unfold r_fc r_f1 r_f2 r_f3
            have h1 := fun (p : Nat) (lo hi : Int) => r_f_le (b := b) (N := N) (p := p) (lo := lo) (hi := hi)
            split
            · exact Nat.le_trans (h1 _ _ _) (by omega)
            · split
              · exact Nat.le_trans (h1 _ _ _) (by omega)
              · split
                · split <;> omega
                · exact Nat.le_trans (h1 _ _ _) (by omega)
        · omega
      · exact r_go_bd
theorem r_all_bd {b : Nat → Int} {N : Nat} : (r_all b N).2.1 ≤ 4 := by
  unfold r_all
  split
  · exact Nat.le_trans r_f_le (by omega)
  · exact r_go_bd
theorem q_lit {i : Nat} (hA : q_A b N na) (hi : i < na) (h4 : a_k b i = 4) : r_Q b (i + 1) = r_Q b i + n_ln b i := by
  have e : b (r_P b i) = 4 := h4
  rw [r_Q_S, if_pos e]
  unfold n_ln a_ln
  rw [if_pos (Or.inr h4)]
theorem q_Q_le (hA : q_A b N na) : ∀ j, j ≤ na → r_Q b j ≤ 160
  | 0, _ => by rw [r_Q]; omega
  | j + 1, h => by
    by_cases e : a_k b j = 4
    · rw [q_lit hA (by omega) e]
      have h1 := r_Q_le (b := b) j
      obtain ⟨o1, o2, o3, o4, o5, o6, o7, k1, k2, k3, k4, k5, k6⟩ := hA.1 j (by omega)
      have := k4 e
      have := hA.2.2
      omega
    · have e' : ¬ b (r_P b j) = 4 := e
      rw [r_Q_S, if_neg e']
      exact q_Q_le hA j (by omega)
theorem c_mcd {K : g_D → Prop} (hd : q_dv D 7 (fun i => D 209 (86 + i)) b N na) (hc : q_cc D b N na) (kk : ∀ D' : g_D, q_cs D D' b N na → K D') : k_X11_makeCourse E l D K := by
  obtain ⟨⟨a1, a2, a3, a4, a5, a6⟩, ⟨b1, b2, b3, b4, b5⟩, _⟩ := hd
  have by0 : q_by (q_w0 D) 60 := fun i hi => by
    have := a6 i hi
    dsimp only at this
    rw [← q_w0_at hi, show 153 + i = 86 + (67 + i) by omega]; exact this
  refine s_X11_makeCourse (fun _ => ⟨fun z => kk D ⟨fun _ _ _ => rfl, fun _ _ => rfl, (hc z).1, (hc z).2⟩, fun _ => ?_⟩)
  refine c_X1_build (W0 := q_w0 D) b2 b5 b4 b1 b3 by0 (fun i hi => ?_) (fun i hi => ?_) (fun D1 f1 x1 => ?_)
  · have := a3 i hi
    dsimp only at this
    rw [← q_w0_at (by omega), show 153 + i = 86 + (67 + i) by omega]; exact this
  · have := a4 i hi
    dsimp only at this
    rw [← q_w0_at (by omega), show 153 + (40 + i) = 86 + (107 + i) by omega]; exact this
  · refine s_X10_clear (fun _ => c_fill (n0 := 4) sh_207 (by omega) (fun D2 f2 y2 D3 e3 => kk D3 ⟨fun k a c => ?_, fun j a => ?_, x1.fr (fun i a c => ?_), fun wh w1 w2 => Or.inl ?_⟩))
    · rw [e3, g_up_ne a, f2 k (by omega)]; exact f1 k (by omega)
    · rw [e3, g_up_at a, f2 0 (by decide), f1 0 (by omega)]
    · rw [e3, g_up_ne (by omega)]; exact f2 i (by omega)
    · rw [e3, g_up_ne (by decide)]; exact y2 wh (by omega)
theorem c_mk1 {K : g_D → Prop} (z : D 0 15 = 1) (hN : N' ≤ 160) (hr : r_all b' N' = (na', 0, -1)) (hbb : q_by b' N') (h12 : D 12 1 = N') (h13 : ∀ x, x < N' → D 13 x = b' x) (hb : q_by W0 60) (h1 : ∀ i, i < 40 → D 10 i = W0 i) (h2 : ∀ i, i < 20 → D 11 i = W0 (40 + i))
    (kk : ∀ D' : g_D, (∀ k, k ≠ 0 → ¬ (175 ≤ k ∧ k ≤ 207) → D' k = D k) → (∀ j, j ≠ 15 → D' 0 j = D 0 j) → x_crs D' b' N' na' W0 → x_tr D' b' na' W0 → K D') : k_X11_makeCourse E l D K := by
  refine s_X11_makeCourse (fun _ => ⟨fun y => by rw [z] at y; exact absurd y (by decide), fun _ => ?_⟩)
  refine c_X1_build (W0 := W0) hN hr hbb h12 h13 hb h1 h2 (fun D1 f1 x1 => s_X10_clear (fun _ => c_fill (n0 := 4) sh_207 (by omega) (fun D2 f2 y2 D3 e3 => kk D3 (fun k a c => ?_) (fun j a => ?_) (x1.fr (fun i a c => ?_)) (fun wh w1 w2 => Or.inl ?_))))
  · rw [e3, g_up_ne a, f2 k (by omega)]; exact f1 k (by omega)
  · rw [e3, g_up_at a, f2 0 (by decide), f1 0 (by omega)]
  · rw [e3, g_up_ne (by omega)]; exact f2 i (by omega)
  · rw [e3, g_up_ne (by decide)]; exact y2 wh (by omega)
theorem c_takePatch {K : g_D → Prop} {r : Nat} (hr : is_Cells g_SH r 160) (hrr : r = 45 ∨ r = 154) (hh : q_hi D el sz) (hd : q_dv D 7 (fun i => D 209 (86 + i)) b N na) (hbs : x_bs D r b' N') (hN : N' ≤ 160)
    (kk : ∀ D' : g_D, (∀ i, i ≠ 0 → ¬ (7 ≤ i ∧ i ≤ 13) → ¬ (52 ≤ i ∧ i ≤ 133) → D' i = D i) → (∀ j, j ≠ 15 → D' 0 j = D 0 j) → D' 0 15 = 1 → q_kp D D' el sz (fun i => D 209 (86 + i)) b N na → x_W D' 7 (fun i => D 209 (86 + i)) → q_bgD D' → D' 12 1 = N' → (∀ x, x < N' → D' 13 x = b' x) → K D') : k_X11_takePatch E l D r N' K := by
  obtain ⟨⟨sx, x1, x2, x3⟩, hbx⟩ := hbs
  refine s_X11_takePatch hr (fun _ _ => c_X3_keep hh.1 hh.2.1 hh.2.2.1 hh.2.2.2.1 hd (fun Da fa kp => s_X2_start ip_Device_7 hr (fun _ _ => ?_)))
  refine c_X0_copyFirst (s := sx) (c := b') (nk := 160) (nr := 160) ⟨ip_Cells_12.1, ip_Cells_12.2⟩ hr (by rw [fa r (by omega)]; exact x1) x3 x2 hN (by decide) (by omega) (fun i hi => by rw [fa (r + 1) (by omega)]; exact hbx i hi) (fun Db fb g1 g2 g3 _ => c_startHere (fun Dc fc gc D6 e6 => ?_))
  have f6 : ∀ i, i ≠ 0 → D6 i = Dc i := fun i a => by rw [e6, g_up_ne a]
  have fb' : ∀ i, i ≠ 12 → i ≠ 13 → Db i = Da i := fun i a c => fb i a c
  refine kk D6 (fun i a c d => ?_) (fun j hj => ?_) (by rw [e6, g_up_eq]) (kp.fr (fun i a c => ?_)) ⟨fun i hi => ?_, fun i hi => ?_⟩ ?_ ?_ (fun x hx => ?_)
  · rw [f6 i a, fc i (by omega) (by omega) (by omega), fb' i (by omega) (by omega)]; exact fa i d
  · rw [e6, g_up_at hj, fc 0 (by decide) (by decide) (by decide), fb' 0 (by decide) (by decide), fa 0 (by decide)]
  · rw [f6 i (by omega), fc i (by omega) (by omega) (by omega), fb' i (by omega) (by omega)]
  · rw [f6 _ (by decide), fc _ (by decide) (by decide) (by decide), fb' _ (by decide) (by decide), fa _ (by decide)]; exact hd.1.1 i hi
  · rw [f6 _ (by decide), fc _ (by decide) (by decide) (by decide), fb' _ (by decide) (by decide), fa _ (by decide)]; exact hd.1.2.1 i hi
  · unfold q_bgD at *; rw [f6 7 (by decide), f6 8 (by decide), f6 9 (by decide), f6 10 (by decide), f6 11 (by decide)]; exact gc
  · rw [f6 12 (by decide), fc 12 (by decide) (by decide) (by decide)]; exact g1
  · rw [f6 13 (by decide), fc 13 (by decide) (by decide) (by decide)]; exact g3 x hx
theorem c_takesPatch {K : Int → g_D → Prop} (hA : q_A b' N' na') (h34 : D 208 34 = na') (h35 : D 208 35 = r_Q b' na') (hr : m_rdA D na' b') (h518 : D 209 518 = sz) (hsz : sz ≤ 10)
    (kk : ∀ Dn D3 : g_D, q_nt D Dn sz → (∀ k, k < 208 ∨ (210 ≤ k ∧ k ≤ 212) → D3 k = Dn k) → (∀ j, j ≠ 46 → D3 208 j = Dn 208 j) → (∀ j, j < 147 ∨ 518 ≤ j → D3 209 j = Dn 209 j) → q_bgM D3 → q_d3 (fun i => D3 209 (86 + i)) b' na' → K (t_o b' na' : Nat) D3) : k_X12_takesPatch E l D K := by
  have hn := hA.2.1
  have hQ := q_Q_le hA na' (Nat.le_refl _)
  refine s_X12_takesPatch (fun _ => c_X12_notes h518 hsz (fun Dn nt Da ea => ?_))
  rw [nt.1 208 (by decide) (by decide), h34] at ea
  have fa : ∀ k, k ≠ 209 → Da k = Dn k := fun k hk => by rw [ea, g_up_ne hk]
  have fD : ∀ k, k ≠ 209 → k ≠ 210 → Da k = D k := fun k a c => by rw [fa k a]; exact nt.1 k a c
  -- the end
  have fin : ∀ D1 : g_D, (∀ k, k ≠ 209 → D1 k = Da k) → (∀ j, j < 214 ∨ 518 ≤ j → D1 209 j = Da 209 j) → (∀ t, t < 4 * na' → D1 209 (214 + t) = D 232 t) → (∀ t, t < r_Q b' na' → D1 209 (358 + t) = D 233 t) → k_X12_begins E l D1 (fun D2 => k_X12_laysSteps E l D2 (fun x2 D3 => g_r x2 → K x2 D3)) := by
    intro D1 f1 g1 y1 y2
    have d3 : q_d3 (fun i => D1 209 (86 + i)) b' na' := by
      refine ⟨?_, fun i hi => ?_⟩
      · show D1 209 213 = _
        rw [g1 213 (by omega), ea, g_up_eq]
      · obtain ⟨r1, r2, r3, r4, r5⟩ := hr i hi
        have rw1 : ∀ t, t < 4 * na' → D1 209 (86 + (128 + t)) = D 232 t := fun t ht => by rw [show 86 + (128 + t) = 214 + t by omega]; exact y1 t ht
        refine ⟨(rw1 (4 * i) (by omega)).trans r1, ?_, ?_, ?_, fun q => ?_, fun q t ht => ?_⟩
        · show D1 209 (86 + (128 + 4 * i + 1)) = _
          rw [Nat.add_assoc 128]; exact (rw1 (4 * i + 1) (by omega)).trans r2
        · show D1 209 (86 + (128 + 4 * i + 2)) = _
          rw [Nat.add_assoc 128]; exact (rw1 (4 * i + 2) (by omega)).trans r3
        · show D1 209 (86 + (128 + 4 * i + 3)) = _
          rw [Nat.add_assoc 128]; exact (rw1 (4 * i + 3) (by omega)).trans r4
        · rw [← q_lit hA hi q]; exact q_Q_le hA (i + 1) (by omega)
        · show D1 209 (86 + (272 + r_Q b' i + t)) = _
          have l1 := q_lit hA hi q
          have l2 := r_Q_mono (b := b') (i := i + 1) (n := na') (by omega)
          rw [show 86 + (272 + r_Q b' i + t) = 358 + (r_Q b' i + t) by omega, y2 _ (by omega)]
          exact r5 q t ht
    refine c_begins (fun D2 f2 g2 b2 => ?_)
    have d32 : q_d3 (fun i => D2 209 (86 + i)) b' na' := d3.M hn (fun i a c => g2 _ (by omega))
    refine c_X12_laysSteps hA.1 hn d32.act (fun D3 f3 _ _ => kk Dn D3 nt (fun k hk => ?_) (fun j hj => ?_) (fun j hj => ?_) ?_ ?_)
    · rw [f3.1 k (by omega) (by omega) (by omega), f2 k (by omega), f1 k (by omega)]; exact fa k (by omega)
    · rw [f3.2 j hj, f2 208 (by decide), f1 208 (by decide), fa 208 (by decide)]
    · rw [f3.1 209 (by decide) (by decide) (by decide), g2 j (by omega), g1 j (by omega), ea, g_up_at (by omega)]
    · unfold q_bgM at *; rw [f3.1 209 (by decide) (by decide) (by decide)]; exact b2
    · rw [f3.1 209 (by decide) (by decide) (by decide)]; exact d32
  have two : ∀ (D0 : g_D), (∀ k, k ≠ 209 → D0 k = Da k) → (∀ j, j < 214 ∨ 518 ≤ j → D0 209 j = Da 209 j) → (∀ t, t < 4 * na' → D0 209 (214 + t) = D 232 t) → ∀ (q i : Nat) (D1 : g_D), r_Q b' na' - i = q → i ≤ r_Q b' na' → (∀ k, k ≠ 209 → D1 k = D0 k) → (∀ j, ¬ (358 ≤ j ∧ j < 518) → D1 209 j = D0 209 j) → (∀ t, t < i → D1 209 (358 + t) = D 233 t) → n_X12_takesPatch E l D1 52 [some (g_R 208), some (g_I i)] K := by
    intro D0 f0 g0 y0 q
    induction q with
    | zero =>
      intro i D1 hq hi f g hy
      obtain rfl : i = r_Q b' na' := by omega
      have e35 : D1 208 35 = (r_Q b' na' : Nat) := by rw [f 208 (by decide), f0 208 (by decide), fD 208 (by decide) (by decide)]; exact h35
      exact s_X12_takesPatch_52 (fun _ _ => ⟨fun _ => fin D1 (fun k hk => (f k hk).trans (f0 k hk)) (fun j hj => (g j (by omega)).trans (g0 j hj)) (fun t ht => (g _ (by omega)).trans (y0 t ht)) hy, fun w => (by omega : False).elim⟩)
    | succ q ih =>
      intro i D1 hq hi f g hy
      have e35 : D1 208 35 = (r_Q b' na' : Nat) := by rw [f 208 (by decide), f0 208 (by decide), fD 208 (by decide) (by decide)]; exact h35
      refine s_X12_takesPatch_52 (fun _ _ => ⟨fun w => (by omega : False).elim, fun _ => ⟨⟨by omega, by omega⟩, by omega, by omega, fun D2 e2 => ⟨⟨by omega, by omega⟩, ?_⟩⟩⟩)
      rw [show (358 + (i : Int)).toNat = 358 + i by omega, Int.toNat_natCast, f 233 (by decide), f0 233 (by decide), fD 233 (by decide) (by decide)] at e2
      rw [g_cast1]
      refine ih (i + 1) D2 (by omega) (by omega) (fun k hk => by rw [e2, g_up_ne hk]; exact f k hk) (fun j hj => by rw [e2, g_up_at (by omega)]; exact g j hj) (fun t ht => ?_)
      rw [e2]
      by_cases e : t = i
      · subst e; rw [g_up_eq]
      · rw [g_up_at (by omega)]; exact hy t (by omega)
  have one : ∀ (q i : Nat) (D1 : g_D), 4 * na' - i = q → i ≤ 4 * na' → (∀ k, k ≠ 209 → D1 k = Da k) → (∀ j, j < 214 ∨ 358 ≤ j → D1 209 j = Da 209 j) → (∀ t, t < i → D1 209 (214 + t) = D 232 t) → n_X12_takesPatch E l D1 18 [some (g_R 208), some (g_I i)] K := by
    intro q
    induction q with
    | zero =>
      intro i D1 hq hi f g hy
      obtain rfl : i = 4 * na' := by omega
      have e34 : D1 208 34 = na' := by rw [f 208 (by decide), fD 208 (by decide) (by decide)]; exact h34
      exact s_X12_takesPatch_18 (fun _ _ => ⟨⟨by omega, by omega⟩, fun _ => two D1 f (fun j hj => g j (by omega)) hy _ 0 D1 rfl (by omega) (fun _ _ => rfl) (fun _ _ => rfl) (fun t ht => absurd ht (Nat.not_lt_zero t)), fun w => (by omega : False).elim⟩)
    | succ q ih =>
      intro i D1 hq hi f g hy
      have e34 : D1 208 34 = na' := by rw [f 208 (by decide), fD 208 (by decide) (by decide)]; exact h34
      refine s_X12_takesPatch_18 (fun _ _ => ⟨⟨by omega, by omega⟩, fun w => (by omega : False).elim, fun _ => ⟨⟨by omega, by omega⟩, by omega, by omega, fun D2 e2 => ⟨⟨by omega, by omega⟩, ?_⟩⟩⟩)
      rw [show (214 + (i : Int)).toNat = 214 + i by omega, Int.toNat_natCast, f 232 (by decide), fD 232 (by decide) (by decide)] at e2
      rw [g_cast1]
      refine ih (i + 1) D2 (by omega) (by omega) (fun k hk => by rw [e2, g_up_ne hk]; exact f k hk) (fun j hj => by rw [e2, g_up_at (by omega)]; exact g j (by omega)) (fun t ht => ?_)
      rw [e2]
      by_cases e : t = i
      · subst e; rw [g_up_eq]
      · rw [g_up_at (by omega)]; exact hy t (by omega)
  exact one _ 0 Da rfl (by omega) (fun _ _ => rfl) (fun _ _ => rfl) (fun t ht => absurd ht (Nat.not_lt_zero t))
/-- the start of a device that begins with the cells it has -/
def q_wc (D : g_D) (i : Nat) : Int := if i < 60 then D 209 (86 + i) else 0
theorem q_wc_at {i : Nat} (h : i < 60) : D 209 (86 + i) = q_wc D i := by unfold q_wc; rw [if_pos h]
/-- both have taken a patch -/
theorem q_tk (hc : q_co D o n w m le ch ru B b N na) (ha : q_ca D o n w m le ch ru B b N na) (hh : q_hi D el sz) (hN : N' ≤ 160) (hr : r_all b' N' = (na', 0, -1)) (hbb : q_by b' N')
    (pw : D 209 146 = 1) (f1 : ∀ i, i ≠ 0 → ¬ (7 ≤ i ∧ i ≤ 13) → ¬ (45 ≤ i ∧ i ≤ 51) → ¬ (52 ≤ i ∧ i ≤ 133) → ¬ (175 ≤ i ∧ i ≤ 207) → D1 i = D i) (f10 : ∀ j, j ≠ 15 → D1 0 j = D 0 j) (kp : q_kp D D1 el sz (fun i => D 209 (86 + i)) b N na) (xw : x_W D1 7 (fun i => D 209 (86 + i))) (bg : q_bgD D1) (h12 : D1 12 1 = N') (h13 : ∀ x, x < N' → D1 13 x = b' x) (cr : x_crs D1 b' N' na' (q_wc D)) (tr : x_tr D1 b' na' (q_wc D))
    (m1 : ∀ k, k < 208 ∨ (209 ≤ k ∧ k ≤ 212) → Dm k = D1 k) (nt : q_nt Dm Dn sz) (m3 : ∀ k, k < 208 ∨ (210 ≤ k ∧ k ≤ 212) → D3 k = Dn k) (m39 : ∀ j, j < 147 ∨ 518 ≤ j → D3 209 j = Dn 209 j) (bm : q_bgM D3) (d3 : q_d3 (fun i => D3 209 (86 + i)) b' na') (tp : q_tp D3) (fa : q_fa D3) : q_R D3 := by
  have e : ∀ k, k < 208 → D3 k = D1 k := fun k hk => by rw [m3 k (Or.inl hk), nt.1 k (by omega) (by omega), m1 k (Or.inl hk)]
  have em9 : Dm 209 = D 209 := by rw [m1 209 (by decide)]; exact f1 209 (by decide) (by decide) (by decide) (by decide) (by decide)
  have eM : ∀ j, j < 147 ∨ 519 ≤ j → D3 209 j = D 209 j := fun j hj => by rw [m39 j (by omega), nt.2.1 j (by omega), em9]
  have ew : q_w0 D3 = q_wc D := by
    funext i
    unfold q_w0 q_wc
    by_cases hi : i < 60
    · rw [if_pos hi, if_pos hi, bm.1 i hi]; exact eM _ (by omega)
    · rw [if_neg hi, if_neg hi]
  have bW := hc.byW
  refine q_mkd hc ha (fun i hi => by rw [e i (by omega)]; exact f1 i (by omega) (by omega) (by omega) (by omega) (by omega)) (by rw [e 0 (by decide)]; exact f10 13 (by decide)) (by rw [e 0 (by decide)]; exact f10 14 (by decide)) (fun j hj => eM j (by omega)) (by rw [m3 211 (by decide), nt.1 211 (by decide) (by decide), m1 211 (by decide)]; exact f1 211 (by decide) (by decide) (by decide) (by decide) (by decide)) tp fa ⟨_, _, hh.keep (D1 := Dm) (D2 := Dn) (kp.fr (fun i a c => m1 i (by omega))) em9 ?_ nt (fun i a c => m3 i (by omega)) (m3 210 (by decide)) (m39 518 (by decide))⟩ (b' := b') (N' := N') (na' := na') (q_dv.fr (D := D1) (q_dv.new xw bg bW (fun i hi => eM _ (by omega)) (fun i hi => ?_) ((eM 146 (by decide)).trans pw) bm.2.1 bm.2.2.1 (fun t ht => ?_) ⟨h12, hN, h13, hbb, hr⟩ d3) (fun i a c => e i (by omega))) (fun _ => ?_)
  · rw [m1 210 (by decide)]; exact f1 210 (by decide) (by decide) (by decide) (by decide) (by decide)
  · rw [show 86 + (67 + i) = 153 + i by omega, bm.1 i hi]; exact eM _ (by omega)
  · rw [show 86 + (63 + t) = 149 + t by omega]; exact bm.2.2.2 t ht
  · rw [ew]
    refine ⟨cr.fr (fun i a c => e i (by omega)), ?_⟩
    unfold x_tr at *; rw [e 207 (by decide)]; exact tr
theorem l_X12_load {K : Int → g_D → Prop} {v : Nat} (hv : v ≤ t) (ht : t ≤ 160) (hT : ∀ i, i < t → D 212 i = T i) (kk : ∀ D' : g_D, (∀ k, k ≠ 234 → D' k = D k) → (∀ x, x < v → D' 234 x = T x) → n_X12_load E l D' 38 [some (g_R 208), some (g_I v), some (g_I v)] K) :
    ∀ (q i : Nat) (D1 : g_D), v - i = q → i ≤ v → (∀ k, k ≠ 234 → D1 k = D k) → (∀ x, x < i → D1 234 x = T x) → n_X12_load E l D1 38 [some (g_R 208), some (g_I v), some (g_I i)] K := by
  intro q
  induction q with
  | zero =>
    intro i D1 hq hi f hy
    obtain rfl : i = v := by omega
    exact kk D1 f hy
  | succ q ih =>
    intro i D1 hq hi f hy
    refine s_X12_load_38 (fun _ _ _ => ⟨fun w => (by omega : False).elim, fun _ => ⟨by omega, by omega, fun D2 e2 => ⟨⟨by omega, by omega⟩, ?_⟩⟩⟩)
    rw [Int.toNat_natCast, f 212 (by decide), hT i (by omega)] at e2
    rw [g_cast1]
    refine ih (i + 1) D2 (by omega) (by omega) (fun k hk => by rw [e2, g_up_ne hk]; exact f k hk) (fun x hx => ?_)
    rw [e2]
    by_cases e : x = i
    · subst e; rw [g_up_eq]
    · rw [g_up_at e]; exact hy x (by omega)
theorem c_X12_load0 {K : Int → g_D → Prop} {v : Int} (hT : m_tape D T t) (hb : q_by T t) (h518 : D 209 518 = sz) (hsz : sz ≤ 10) (k3 : ¬ (0 ≤ v ∧ v ≤ t) → K (-3) (g_up D 208 0 0)) (k5 : (0 ≤ v ∧ v ≤ t) → D 209 146 = 0 → K (-5) (g_up D 208 0 0))
    (kf : ∀ v' : Nat, v = v' → v' ≤ t → ¬ D 209 146 = 0 → ¬ (r_all T v').2.1 = 0 → ∀ D' : g_D, (∀ k, k ≤ 212 → k ≠ 208 → D' k = D k) → D' 208 5 = 0 → D' 208 40 = (r_all T v').2.1 → D' 208 41 = (r_all T v').2.2 → K (-30 - ((r_all T v').2.1 : Nat)) D')
    (k1 : ∀ v' : Nat, v = v' → v' ≤ t → ¬ D 209 146 = 0 → (r_all T v').2.1 = 0 → ∀ Dm Dn D3 : g_D, (∀ k, k < 208 ∨ (209 ≤ k ∧ k ≤ 212) → Dm k = D k) → q_nt Dm Dn sz → (∀ k, k < 208 ∨ (210 ≤ k ∧ k ≤ 212) → D3 k = Dn k) → D3 208 5 = 0 → D3 208 40 = 0 → D3 208 41 = -1 → (∀ j, j < 147 ∨ 518 ≤ j → D3 209 j = Dn 209 j) → q_bgM D3 → q_d3 (fun i => D3 209 (86 + i)) T (r_all T v').1 → K (t_o T (r_all T v').1 : Nat) D3) : k_X12_load E l D v K := by
  refine s_X12_load (fun _ _ D1 e1 => ?_)
  subst e1
  rw [hT.1]
  refine c_X12_within ⟨fun z _ => ⟨fun _ => ?_, fun q => absurd q (by decide)⟩, fun z _ => ⟨fun q => absurd rfl q, fun _ => k3 z⟩⟩
  rw [g_up_ne (show (209 : Nat) ≠ 208 by decide)]
  refine ⟨fun y => ?_, fun y => k5 z y⟩
  obtain ⟨v', rfl⟩ : ∃ v' : Nat, v = v' := ⟨v.toNat, by omega⟩
  have ht := hT.2.1
  refine l_X12_load (T := T) (t := t) (by omega) ht (fun i hi => by rw [g_up_ne (by decide)]; exact hT.2.2 i hi) (fun D2 f2 y2 => ?_) _ 0 _ rfl (by omega) (fun _ _ => rfl) (fun x hx => absurd hx (Nat.not_lt_zero x))
  refine s_X12_load_38 (fun _ _ _ => ⟨fun _ D3 e3 => ?_, fun w => absurd (Int.le_refl _) w⟩)
  refine c_X12_readsPatch (b := T) (by omega) (fun x hx => by rw [e3, g_up_ne (by decide)]; exact y2 x hx) (fun x hx => hb x (by omega)) (fun D4 f4 g38 g39 gok D5 e5 => ?_)
  have f4' : ∀ k, k ≤ 212 → k ≠ 208 → D4 k = D k := fun k a c => by rw [f4.1 k c (by omega) (by omega), g_up_ne c, e3, g_up_ne c, f2 k (by omega), g_up_ne c]
  have g5 : D4 208 5 = 0 := by rw [f4.2 5 (by decide), g_up_at (by decide), e3, g_up_eq]
  rw [g38] at e5 ⊢
  refine ⟨fun q D6 e6 => ⟨fun q2 => absurd q2 q, fun _ => ⟨?_, ?_⟩⟩, fun q D6 e6 => ⟨fun _ => ?_, fun q2 => absurd q q2⟩⟩
  · have := r_all_bd (b := T) (N := v')
    exact ⟨by omega, by omega⟩
  · refine kf v' rfl (by omega) y (fun q' => q (by rw [q']; rfl)) D6 (fun k a c => ?_) ?_ ?_ ?_
    · rw [e6, g_up_ne c, e5, g_up_ne c]; exact f4' k a c
    · rw [e6, g_up_at (by decide), e5, g_up_at (by decide)]; exact g5
    · rw [e6, g_up_at (by decide), e5, g_up_eq]
    · rw [e6, g_up_eq]; exact g39 (fun q' => q (by rw [q']; rfl))
  · have q' : (r_all T v').2.1 = 0 := by omega
    obtain ⟨g34, g35, grd⟩ := gok q'
    have hR : r_all T v' = ((r_all T v').1, 0, (r_all T v').2.2) := by rw [← q']
    have hA := r_all_A (b := T) (N := v') (by omega) hR
    have e6' : ∀ k, k ≠ 208 → D6 k = D4 k := fun k hk => by rw [e6, g_up_ne hk, e5, g_up_ne hk]
    have e68 : ∀ j, j ≠ 40 → j ≠ 41 → D6 208 j = D4 208 j := fun j a c => by rw [e6, g_up_at c, e5, g_up_at a]
    refine c_takesPatch hA (by rw [e68 34 (by decide) (by decide)]; exact g34) (by rw [e68 35 (by decide) (by decide)]; exact g35) (by unfold m_rdA at *; rw [e6' 232 (by decide), e6' 233 (by decide)]; exact grd) (by rw [e6' 209 (by decide), f4' 209 (by decide) (by decide)]; exact h518) hsz (fun Dn D7 nt m3 m38 m39 bm d3 _ => k1 v' rfl (by omega) y q' D6 Dn D7 (fun k hk => ?_) nt m3 ?_ ?_ ?_ m39 bm d3)
    · rw [e6' k (by omega)]; exact f4' k (by omega) (by omega)
    · rw [m38 5 (by decide), nt.1 208 (by decide) (by decide), e68 5 (by decide) (by decide)]; exact g5
    · rw [m38 40 (by decide), nt.1 208 (by decide) (by decide), e6, g_up_at (by decide), e5, g_up_eq, q']; rfl
    · rw [m38 41 (by decide), nt.1 208 (by decide) (by decide), e6, g_up_eq]
theorem y_load {P : g_D → Prop} {Q : Int → g_D → Prop} {v : Int} (h : q_R D) (hP : ∀ D', q_R D' → P D') (hQ : ∀ (x1 : Int) (D1 : g_D), k_X12_load E l D1 v (fun x2 D2 => g_r x2 → (x1 = x2 → P D2) ∧ (¬ x1 = x2 → False)) → Q x1 D1) : k_X11_load E l D v Q := by
  obtain ⟨o, n, w, m, le, ch, ru, B, b, N, na, hc, ha⟩ := h
  have r0 : ∀ D2, m_fr D D2 → q_R D2 := fun D2 f2 => y_pa hc ha (fun _ _ => rfl) f2
  obtain ⟨p1, p2⟩ := hc.pow
  obtain ⟨T, t, t1, t2, t3⟩ := id hc.2.1
  obtain ⟨el, sz, hh⟩ := id hc.2.2.1
  have h518 := hh.2.2.2.2.1
  have hsz := hh.2.2.2.1
  have ht := t1.2.1
  have mload : ∀ (x : Int), (¬ (0 ≤ v ∧ v ≤ t) → x = -3) → ((0 ≤ v ∧ v ≤ t) → D 209 146 = 0 ∧ x = -5) → k_X12_load E l D v (fun x2 D2 => g_r x2 → (x = x2 → P D2) ∧ (¬ x = x2 → False)) := by
    intro x a1 a2
    refine c_X12_load0 t2 t3 h518 hsz (fun z => ?_) (fun z y => ?_) (fun v' z1 z2 y => absurd (a2 ⟨by omega, by omega⟩).1 y) (fun v' z1 z2 y => absurd (a2 ⟨by omega, by omega⟩).1 y)
    · rw [a1 z]; exact fun _ => y_fin hP (r0 _ m_fr.up0)
    · rw [(a2 z).2]; exact fun _ => y_fin hP (r0 _ m_fr.up0)
  refine s_X11_load (fun _ _ => ?_)
  rw [t1.1]
  refine ⟨fun z => hQ _ D (mload _ (fun _ => rfl) (fun y => (by omega : False).elim)), fun z => ⟨fun z1 => ⟨fun z2 => ?_, fun z2 => hQ _ D (mload _ (fun y => absurd ⟨by omega, z1⟩ y) (fun _ => ⟨p1.symm.trans z2, rfl⟩))⟩, fun z1 => hQ _ D (mload _ (fun _ => rfl) (fun y => (by omega : False).elim))⟩⟩
  have pw : ¬ D 209 146 = 0 := fun y => z2 (p1.trans y)
  obtain ⟨v', rfl⟩ : ∃ v' : Nat, v = v' := ⟨v.toNat, by omega⟩
  have hv : v' ≤ t := by omega
  have xb : x_bs D 45 T v' := ⟨⟨t, t1.1, hv, ht⟩, fun x hx => t1.2.2 x (by omega)⟩
  refine c_X5_readActs (b := T) ip_Reader_47 ip_Cells_45 (by decide) (by decide) xb (by omega) (fun D1 f1 g4 g5 g6 _ => ?_)
  have f1' : ∀ i, ¬ (47 ≤ i ∧ i ≤ 51) → D1 i = D i := fun i hi => f1 i (by omega)
  have e19 : D1 209 = D 209 := f1' 209 (by decide)
  rw [g5]
  refine ⟨fun q D2 e2 => ?_, fun q => ?_⟩
  · -- the tape is no patch
    have q' : ¬ (r_all T v').2.1 = 0 := fun y => q (by rw [y]; rfl)
    have f2 : ∀ i, ¬ (47 ≤ i ∧ i ≤ 51) → i ≠ 45 → D2 i = D i := fun i a c => by rw [e2, g_up_ne c]; exact f1' i a
    have e29 : D2 209 = D 209 := f2 209 (by decide) (by decide)
    have hd2 : q_dv D2 7 (fun i => D2 209 (86 + i)) b N na := by rw [e29]; exact hc.dev.fr (fun i a c => f2 i (by omega) (by omega))
    have hc2 : q_cc D2 b N na := ha.2.2.fr2 (by rw [f2 0 (by decide) (by decide)]) (fun i a c => f2 i (by omega) (by omega)) (f2 207 (by decide) (by decide)) (fun i _ => by rw [e29])
    refine c_mcd hd2 hc2 (fun D3 cs => ?_)
    have e347 : D3 47 = D1 47 := by rw [cs.1 47 (by decide) (by decide), e2, g_up_ne (by decide)]
    rw [e347, g5]
    refine ⟨fun _ => ⟨?_, hQ _ D3 ?_⟩, fun y => absurd y q⟩
    · have := r_all_bd (b := T) (N := v')
      exact ⟨by omega, by omega⟩
    have f3 : ∀ i, i ≠ 0 → ¬ (45 ≤ i ∧ i ≤ 51) → ¬ (175 ≤ i ∧ i ≤ 207) → D3 i = D i := fun i a c d => by rw [cs.1 i a d]; exact f2 i (by omega) (by omega)
    have t2' : m_tape D3 T t := by unfold m_tape at *; rw [f3 208 (by decide) (by decide) (by decide), f3 212 (by decide) (by decide) (by decide)]; exact t2
    have e39 : D3 209 = D 209 := f3 209 (by decide) (by decide) (by decide)
    refine c_X12_load0 t2' t3 (by rw [e39]; exact h518) hsz (fun y => absurd ⟨by omega, by omega⟩ y) (fun _ y => by rw [e39] at y; exact absurd y pw) (fun w' y1 y2 y3 y4 D4 f4 h5 h40 h41 => ?_) (fun w' y1 y2 y3 y4 => ?_)
    · obtain rfl : w' = v' := by omega
      refine fun _ => y_fin hP ?_
      have e : ∀ i, i ≠ 0 → ¬ (45 ≤ i ∧ i ≤ 51) → ¬ (175 ≤ i ∧ i ≤ 207) → i ≤ 212 → i ≠ 208 → D4 i = D i := fun i a c d p q => by rw [f4 i p q]; exact f3 i a c d
      have e40 : ∀ j, j ≠ 15 → D4 0 j = D 0 j := fun j hj => by rw [f4 0 (by decide) (by decide), cs.2.1 j hj, f2 0 (by decide) (by decide)]
      have e49 : D4 209 = D 209 := e 209 (by decide) (by decide) (by decide) (by decide) (by decide)
      refine q_mkd hc ha (fun i hi => e i (by omega) (by omega) (by omega) (by omega) (by omega)) (e40 13 (by decide)) (e40 14 (by decide)) (fun j _ => by rw [e49]) (e 211 (by decide) (by decide) (by decide) (by decide) (by decide)) ⟨T, 0, ⟨?_, by omega, fun i hi => absurd hi (Nat.not_lt_zero i)⟩, ⟨h5, by omega, fun i hi => absurd hi (Nat.not_lt_zero i)⟩, fun i hi => absurd hi (Nat.not_lt_zero i)⟩ ⟨?_, ?_⟩ ⟨el, sz, hh.fr (fun i a c => e i (by omega) (by omega) (by omega) (by omega) (by omega)) (e 210 (by decide) (by decide) (by decide) (by decide) (by decide)) (by rw [e49])⟩ (b' := b) (N' := N) (na' := na) (by rw [e49]; exact hc.dev.fr (fun i a c => e i (by omega) (by omega) (by omega) (by omega) (by omega))) (fun _ => ?_)
      · rw [f4 45 (by decide) (by decide), cs.1 45 (by decide) (by decide), e2, g_up_eq]; rfl
      · rw [f4 47 (by decide) (by decide), e347, g5, h40]
      · rw [f4 47 (by decide) (by decide), e347, g6, h41]
      · have w0 : q_w0 D4 = q_w0 D2 := q_w0_fr (fun i _ => by rw [e49, e29])
        rw [w0]
        refine ⟨cs.2.2.1.fr (fun i a c => f4 i (by omega) (by omega)), ?_⟩
        have := cs.2.2.2
        unfold x_tr at *; rw [f4 207 (by decide) (by decide)]; exact this
    · obtain rfl : w' = v' := by omega
      exact absurd y4 q'
  · -- it is one
    have q' : (r_all T v').2.1 = 0 := by omega
    have hR0 : r_all T v' = ((r_all T v').1, 0, (r_all T v').2.2) := by rw [← q']
    have hx := (r_all_ok hR0).2.2
    have hR : r_all T v' = ((r_all T v').1, 0, -1) := by rw [← hx]; exact hR0
    have hh1 : q_hi D1 el sz := hh.fr (fun i a c => f1' i (by omega)) (f1' 210 (by decide)) (by rw [e19])
    have hd1 : q_dv D1 7 (fun i => D1 209 (86 + i)) b N na := by rw [e19]; exact hc.dev.fr (fun i a c => f1' i (by omega))
    refine c_takePatch (b' := T) ip_Cells_45 (Or.inl rfl) hh1 hd1 ⟨⟨t, by rw [f1' 45 (by decide)]; exact t1.1, hv, ht⟩, fun x hx => by rw [f1' (45 + 1) (by decide)]; exact t1.2.2 x (by omega)⟩ (by omega) (fun D4 f4 g40 g415 kp4 x4 b4 h12 h13 D5 e5 => ?_)
    rw [e19] at kp4 x4
    have f5 : ∀ i, i ≠ 45 → D5 i = D4 i := fun i hi => by rw [e5, g_up_ne hi]
    have x5 : x_W D5 7 (fun i => D 209 (86 + i)) := by unfold x_W at *; rw [f5 _ (by decide), f5 _ (by decide)]; exact x4
    have b5 : q_bgD D5 := by unfold q_bgD at *; rw [f5 7 (by decide), f5 8 (by decide), f5 9 (by decide), f5 10 (by decide), f5 11 (by decide)]; exact b4
    have bW := hc.byW
    refine c_mk1 (W0 := q_wc D) (b' := T) (N' := v') (na' := (r_all T v').1) (by rw [f5 0 (by decide)]; exact g415) (by omega) hR (q_by_le t3 hv) (by rw [f5 12 (by decide)]; exact h12) (fun x hx => by rw [f5 13 (by decide)]; exact h13 x hx) (fun i hi => by rw [← q_wc_at hi]; exact bW i hi) (fun i hi => by rw [b5.1 i hi, ← q_wc_at (by omega)]; exact x5.1 i hi) (fun i hi => by rw [b5.2.1 i hi, ← q_wc_at (by omega)]; exact x5.2 i hi) (fun D6 f6 g60 cr tr => ?_)
    have e647 : D6 47 = D1 47 := by rw [f6 47 (by decide) (by decide), f5 47 (by decide), f4 47 (by decide) (by decide) (by decide)]
    rw [e647, g5]
    refine ⟨fun y => absurd q y, fun _ => ?_⟩
    rw [cr.1.1.1]
    refine hQ _ D6 ?_
    have f64 : ∀ i, i ≠ 0 → i ≠ 45 → ¬ (175 ≤ i ∧ i ≤ 207) → D6 i = D4 i := fun i a c d => by rw [f6 i a d]; exact f5 i c
    have f6D : ∀ i, i ≠ 0 → ¬ (7 ≤ i ∧ i ≤ 13) → ¬ (45 ≤ i ∧ i ≤ 51) → ¬ (52 ≤ i ∧ i ≤ 133) → ¬ (175 ≤ i ∧ i ≤ 207) → D6 i = D i := fun i a c d e g => by rw [f64 i a (by omega) g, f4 i a c e]; exact f1' i (by omega)
    have e69 : D6 209 = D 209 := f6D 209 (by decide) (by decide) (by decide) (by decide) (by decide)
    have t2' : m_tape D6 T t := by unfold m_tape at *; rw [f6D 208 (by decide) (by decide) (by decide) (by decide) (by decide), f6D 212 (by decide) (by decide) (by decide) (by decide) (by decide)]; exact t2
    refine c_X12_load0 t2' t3 (by rw [e69]; exact h518) hsz (fun y => absurd ⟨by omega, by omega⟩ y) (fun _ y => by rw [e69] at y; exact absurd y pw) (fun w' y1 y2 y3 y4 => ?_) (fun w' y1 y2 y3 y4 Dm Dn D7 m1 nt m3 h5 h40 h41 m39 bm d3 => ?_)
    · obtain rfl : w' = v' := by omega
      exact absurd q' y4
    · obtain rfl : w' = v' := by omega
      refine fun _ => y_fin hP ?_
      have e7 : ∀ k, k < 208 → D7 k = D6 k := fun k hk => by rw [m3 k (Or.inl hk), nt.1 k (by omega) (by omega), m1 k (Or.inl hk)]
      refine q_tk (Dm := Dm) (Dn := Dn) (D1 := D6) hc ha hh (by omega) hR (q_by_le t3 hv) (by omega) f6D (fun j hj => by rw [g60 j hj, f5 0 (by decide), g40 j hj, f1' 0 (by decide)]) ?_ (by unfold x_W at *; rw [f6 _ (by decide) (by decide), f6 _ (by decide) (by decide)]; exact x5) (by unfold q_bgD at *; rw [f6 7 (by decide) (by decide), f6 8 (by decide) (by decide), f6 9 (by decide) (by decide), f6 10 (by decide) (by decide), f6 11 (by decide) (by decide)]; exact b5) (by rw [f64 12 (by decide) (by decide) (by decide)]; exact h12) (fun x hx => by rw [f64 13 (by decide) (by decide) (by decide)]; exact h13 x hx) cr tr m1 nt m3 m39 bm d3 ⟨T, 0, ⟨?_, by omega, fun i hi => absurd hi (Nat.not_lt_zero i)⟩, ⟨h5, by omega, fun i hi => absurd hi (Nat.not_lt_zero i)⟩, fun i hi => absurd hi (Nat.not_lt_zero i)⟩ ⟨?_, ?_⟩
      · obtain ⟨k1, k2, k3, k4⟩ := kp4.fr (D'' := D6) (fun i a c => f64 i (by omega) (by omega) (by omega))
        exact ⟨k1, k2, k3, fun q hq hne i a c => by rw [k4 q hq hne i a c]; exact f1' i (by omega)⟩
      · rw [e7 45 (by decide), f6 45 (by decide) (by decide), e5, g_up_eq]; rfl
      · rw [e7 47 (by decide), e647, g5, q', h40]; rfl
      · rw [e7 47 (by decide), e647, g6, hx, h41]
end CA9
end