section FILL
variable {E : g_E} {l : Launch} {sh : List g_Sh} {D : g_D}
/-- Arrays.fill -/
theorem l_J7_fill {K : g_D → Prop} {r n0 : Nat} {v : Int} {D0 : g_D} (hr : sh[r]? = some (.inl (0, n0))) (h : n0 ≤ 100000) (kk : ∀ D' : g_D, (∀ k, k ≠ r → D' k = D0 k) → (∀ i, i < n0 → D' r i = v) → K D') : ∀ (q i : Nat) (D : g_D), n0 - i = q → i ≤ n0 → (∀ k, k ≠ r → D k = D0 k) → (∀ j, j < i → D r j = v) → n_J7_fill_53178 E l sh D 5 [some (g_R r), some (g_I v), some (g_I i), some (g_I (n0 : Int))] K := by
  intro q
  induction q with
  | zero =>
    intro i D hq hi hf hv
    obtain rfl : i = n0 := by omega
    exact s_J7_fill_53178_5 hr (fun _ _ _ _ => ⟨fun _ => kk D hf hv, fun h => (by omega : False).elim⟩)
  | succ q ih =>
    intro i D hq hi hf hv
    refine s_J7_fill_53178_5 hr (fun _ _ _ _ => ⟨fun h => (by omega : False).elim, fun _ => ⟨by omega, fun D1 hD1 => ⟨⟨by omega, by omega⟩, ?_⟩⟩⟩)
    rw [Int.toNat_natCast] at hD1
    rw [g_cast1]
    refine ih (i + 1) D1 (by omega) (by omega) (fun k hk => by rw [hD1, g_up_ne hk]; exact hf k hk) (fun j hj => ?_)
    rw [hD1]
    by_cases h : j = i
    · rw [h, g_up_eq]
    · rw [g_up_at h]; exact hv j (by omega)
theorem c_fill {K : g_D → Prop} {r n0 : Nat} {v : Int} (hr : sh[r]? = some (.inl (0, n0))) (h : n0 ≤ 100000) (kk : ∀ D' : g_D, (∀ k, k ≠ r → D' k = D k) → (∀ i, i < n0 → D' r i = v) → K D') : k_J7_fill_53178 E l sh D r v K :=
  s_J7_fill_53178 hr (fun _ _ => ⟨by omega, l_J7_fill hr h kk n0 0 D rfl (Nat.zero_le _) (fun _ _ => rfl) (fun j hj => absurd hj (Nat.not_lt_zero j))⟩)
end FILL
section LEAST
variable {E : g_E} {l : Launch} {sh : List g_Sh} {D : g_D} {o w : Nat → Int} {n m : Nat}
theorem m_fw.put {m le : Nat} {L s : Nat → Nat} {C A C' A' : Nat → Int} {J N : Nat} (hle : 1 ≤ le) (h : m_fw m le L s C A (J + 1) J N) (hN : le ≤ N) (hNL : N ≤ L J) (hL : J + L J ≤ m) (e : C' (J + N) = min (C (J + N)) (min (C J) (A J) + m_co4 s J N)) (e2 : ∀ i, i ≠ J + N → C' i = C i) (e3 : ∀ i, A' i = A i) : m_fw m le L s C' A' (J + 1) J (N + 1) := by
  obtain ⟨c0, a0, aS, ar, cr, cl, ca⟩ := h
  have hc4 := m_co4_r s J N
  have hCJ : ∀ i, i ≤ J → C' i = C i := fun i hi => e2 i (by omega)
  have hJ := cr J (by omega)
  have hAJ := ar J (by omega)
  have hcJN := cr (J + N) (by omega)
  refine ⟨by rw [hCJ 0 (Nat.zero_le _)]; exact c0, by rw [e3]; exact a0, fun j hj => by rw [e3, e3, hCJ j (by omega)]; exact aS j hj, fun i hi => by rw [e3]; exact ar i hi, fun i hi => ?_, fun j n' h1 h2 h3 => ?_, fun i h1 h2 => ?_⟩
  · by_cases q : i = J + N
    · subst q; rw [e]; omega
    · rw [e2 i q]; exact cr i hi
  · have hj : j ≤ J := by omega
    rw [hCJ j hj, e3]
    by_cases q : j = J ∧ n' = N
    · rw [q.1, q.2, e]; omega
    · have := cl j n' h1 h2 (by omega)
      by_cases q2 : j + n' = J + N
      · rw [q2, e]; rw [q2] at this; omega
      · rw [e2 _ q2]; exact this
  · by_cases q : i = J + N
    · subst q
      by_cases hlt : min (C J) (A J) + m_co4 s J N < C (J + N)
      · exact Or.inr ⟨J, N, rfl, hN, hNL, by omega, by rw [e, hCJ J (Nat.le_refl _), e3]; omega⟩
      · have e' : C' (J + N) = C (J + N) := by rw [e]; omega
        rcases ca (J + N) h1 h2 with q | ⟨j, n', q1, q2, q3, q4, q5⟩
        · exact Or.inl (e'.trans q)
        · exact Or.inr ⟨j, n', q1, q2, q3, by omega, by rw [e', hCJ j (by omega), e3]; exact q5⟩
    · rw [e2 i q]
      rcases ca i h1 h2 with q | ⟨j, n', q1, q2, q3, q4, q5⟩
      · exact Or.inl q
      · exact Or.inr ⟨j, n', q1, q2, q3, by omega, by rw [hCJ j (by omega), e3]; exact q5⟩
theorem m_fw.next {m le : Nat} {L s : Nat → Nat} {C A : Nat → Int} {J N : Nat} (h : m_fw m le L s C A (J + 1) J N) (hN : L J < N) : m_fw m le L s C A (J + 1) (J + 1) le := by
  obtain ⟨c0, a0, aS, ar, cr, cl, ca⟩ := h
  refine ⟨c0, a0, aS, ar, cr, fun j n' h1 h2 h3 => cl j n' h1 h2 ?_, fun i h1 h2 => ?_⟩
  · by_cases q : j = J
    · exact Or.inr ⟨q, by subst q; omega⟩
    · exact Or.inl (by omega)
  · rcases ca i h1 h2 with q | ⟨j, n', q1, q2, q3, q4, q5⟩
    · exact Or.inl q
    · exact Or.inr ⟨j, n', q1, q2, q3, by omega, q5⟩
theorem m_fw.begin {m le : Nat} {L s : Nat → Nat} {C A C' A' : Nat → Int} {J : Nat} (h : m_fw m le L s C A J J le) (hJ : J < m) (e : A' (J + 1) = min (C J + 3) (A J) + 1) (e2 : ∀ i, i ≠ J + 1 → A' i = A i) (e3 : ∀ i, C' i = C i) : m_fw m le L s C' A' (J + 1) J le := by
  obtain ⟨c0, a0, aS, ar, cr, cl, ca⟩ := h
  have h1 := ar J (Nat.le_refl _)
  have h2 := cr J (by omega)
  refine ⟨by rw [e3]; exact c0, by rw [e2 0 (by omega)]; exact a0, fun j hj => ?_, fun i hi => ?_, fun i hi => by rw [e3]; exact cr i hi, fun j n' h1 h2 h3 => ?_, fun i h1 h2 => ?_⟩
  · by_cases q : j = J
    · subst q; rw [e, e3, e2 j (by omega)]
    · rw [e2 _ (by omega), e3, e2 _ (by omega)]; exact aS j (by omega)
  · by_cases q : i = J + 1
    · subst q; rw [e]; omega
    · rw [e2 i q]; exact ar i (by omega)
  · rw [e3, e3, e2 j (by omega)]; exact cl j n' h1 h2 h3
  · rw [e3]
    rcases ca i h1 h2 with q | ⟨j, n', q1, q2, q3, q4, q5⟩
    · exact Or.inl q
    · exact Or.inr ⟨j, n', q1, q2, q3, q4, by rw [e3, e2 j (by omega)]; exact q5⟩
/-- the cells of the class's script that leastSize writes -/
def x_fl (D D' : g_D) : Prop := ∀ k, k ≠ 156 → k ≠ 166 → k ≠ 167 → D' k = D k
theorem l_X7_least109 {K : Int → g_D → Prop} {J le : Nat} {D0 : g_D} (hw : x_cl D0 4 w m) (hJ : J < m) (hle : 1 ≤ le) (hle2 : le ≤ 8)
    (kk : ∀ D' : g_D, x_fl D0 D' → m_fw m le (fun j => m_lg o w n m j n) (fun j => m_run o w n m j j) (D' 166) (D' 167) (J + 1) (J + 1) le → n_X7_leastSize E l D' 28 [some (g_R 156), some (g_R 2), some (g_R 4), some (g_I le), some (g_I ((J + 1 : Nat) : Int)), none, none, none, none] K) :
    ∀ (q N : Nat) (D : g_D), m_lg o w n m J n + 1 - N = q → le ≤ N → N ≤ 100 → x_fl D0 D → D 156 9 = m_lg o w n m J n → m_fw m le (fun j => m_lg o w n m j n) (fun j => m_run o w n m j j) (D 166) (D 167) (J + 1) J N → n_X7_leastSize E l D 109 [some (g_R 156), some (g_R 2), some (g_R 4), some (g_I le), some (g_I J), some (g_I (min (D 166 J) (D 167 J))), some (g_I (m_run o w n m J J)), some (g_I N), none] K := by
  have hm40 : m ≤ 40 := hw.2.1
  have hLj : m_lg o w n m J n ≤ m - J := m_lg_le n
  intro q
  induction q with
  | zero =>
    intro N D hq h1 h2 hf h9 hb
    have k1 := kk D hf (hb.next (by omega))
    refine s_X7_leastSize_109 ip_Script_156 ip_Cells_2 ip_Cells_4 (fun _ _ _ _ _ _ => ⟨fun _ => ⟨⟨by omega, by omega⟩, ?_⟩, fun h => (by omega : False).elim⟩)
    rw [g_cast1]; exact k1
  | succ q ih =>
    intro N D hq h1 h2 hf h9 hb
    have h41 : D 4 1 = m := by rw [hf 4 (by decide) (by decide) (by decide)]; exact hw.1
    have e1 : ((J : Int) + N).toNat = J + N := by omega
    obtain ⟨_, _, _, ar, cr, _, _⟩ := id hb
    have r1 := cr J (by omega)
    have r2 := ar J (by omega)
    have step : ∀ (c : Int) (D2 : g_D), m_co4 (fun j => m_run o w n m j j) J N = c → D2 = g_up D (156 + 10) (J + N) (min (D (156 + 10) (J + N)) (min (D 166 J) (D 167 J) + c)) → n_X7_leastSize E l D2 109 [some (g_R 156), some (g_R 2), some (g_R 4), some (g_I le), some (g_I J), some (g_I (min (D 166 J) (D 167 J))), some (g_I (m_run o w n m J J)), some (g_I ((N : Int) + 1)), none] K := by
      intro c D2 hc hD2
      rw [g_cast1]
      have i1 : D2 166 J = D 166 J := by rw [hD2, g_up_at (by omega)]
      have i2 : D2 167 J = D 167 J := by rw [hD2, g_up_ne (by decide)]
      have ih' := ih (N + 1) D2 (by omega) (by omega) (by omega) (fun k a b c => by rw [hD2, g_up_ne b]; exact hf k a b c) (by rw [hD2, g_up_ne (by decide)]; exact h9) (hb.put hle h1 (by omega) (by omega) (by rw [hD2, hc]; exact g_up_eq) (fun i hi => by rw [hD2]; exact g_up_at hi _) (fun i => by rw [hD2, g_up_ne (by decide)]))
      rw [i1, i2] at ih'
      exact ih'
    have ec : m_co4 (fun j => m_run o w n m j j) J N = if N ≤ m_run o w n m J J then 0 else 4 := rfl
    refine s_X7_leastSize_109 ip_Script_156 ip_Cells_2 ip_Cells_4 (fun _ _ _ _ _ _ => ⟨fun h => (by omega : False).elim, fun _ => ⟨⟨by omega, by omega⟩, fun h => (by omega : False).elim, fun _ => ?_⟩⟩)
    rw [e1]
    refine ⟨fun h => ⟨⟨by omega, by omega⟩, ⟨by omega, by omega⟩, ⟨by omega, by omega⟩, by omega, by omega, fun D2 hD2 => ⟨⟨by omega, by omega⟩, step 4 D2 (by rw [ec, if_neg (by omega)]) hD2⟩⟩, fun h => ⟨⟨by omega, by omega⟩, ⟨by omega, by omega⟩, ⟨by omega, by omega⟩, by omega, by omega, fun D2 hD2 => ⟨⟨by omega, by omega⟩, step 0 D2 (by rw [ec, if_pos (by omega)]) hD2⟩⟩⟩
theorem l_X7_least28 {K : Int → g_D → Prop} {le : Nat} {D0 : g_D} (ho : x_cl D0 2 o n) (hw : x_cl D0 4 w m) (hle : 1 ≤ le) (hle2 : le ≤ 8)
    (kk : ∀ D' : g_D, x_fl D0 D' → m_fw m le (fun j => m_lg o w n m j n) (fun j => m_run o w n m j j) (D' 166) (D' 167) m m le → K (min (D' 166 m) (D' 167 m)) D') :
    ∀ (q J : Nat) (D : g_D), m - J = q → J ≤ m → x_fl D0 D → m_fw m le (fun j => m_lg o w n m j n) (fun j => m_run o w n m j j) (D 166) (D 167) J J le → n_X7_leastSize E l D 28 [some (g_R 156), some (g_R 2), some (g_R 4), some (g_I le), some (g_I J), none, none, none, none] K := by
  have hn40 : n ≤ 40 := ho.2.1
  have hm40 : m ≤ 40 := hw.2.1
  intro q
  induction q with
  | zero =>
    intro J D hq hJ hf hb
    have h41 : D 4 1 = m := by rw [hf 4 (by decide) (by decide) (by decide)]; exact hw.1
    obtain rfl : J = m := by omega
    refine s_X7_leastSize_28 ip_Script_156 ip_Cells_2 ip_Cells_4 (fun _ _ _ => ⟨fun _ => ⟨by omega, by omega, ?_⟩, fun h => (by omega : False).elim⟩)
    rw [h41, Int.toNat_natCast]
    exact kk D hf hb
  | succ q ih =>
    intro J D hq hJ hf hb
    have h41 : D 4 1 = m := by rw [hf 4 (by decide) (by decide) (by decide)]; exact hw.1
    obtain ⟨_, _, _, ar, cr, _, _⟩ := id hb
    have r1 : 0 ≤ D (156 + 10) J ∧ D (156 + 10) J ≤ 1048576 := cr J (by omega)
    have r2 : 0 ≤ D (156 + 11) J ∧ D (156 + 11) J ≤ 1048576 + J := ar J (by omega)
    have e1 : ((J : Int) + 1).toNat = J + 1 := by omega
    refine s_X7_leastSize_28 ip_Script_156 ip_Cells_2 ip_Cells_4 (fun _ _ _ => ⟨fun h => (by omega : False).elim, fun _ => ?_⟩)
    rw [e1, Int.toNat_natCast]
    refine ⟨⟨by omega, by omega⟩, by omega, ⟨by omega, by omega⟩, by omega, ⟨by omega, by omega⟩, by omega, fun D1 hD1 => ?_⟩
    have f1 : x_fl D0 D1 := fun k a b c => by rw [hD1, g_up_ne c]; exact hf k a b c
    refine c_X7_findRun ip_Script_156 ip_Cells_2 ip_Cells_4 hn40 hm40 (by omega) (ho.fr (f1 2 (by decide) (by decide) (by decide)) (f1 3 (by decide) (by decide) (by decide))) (hw.fr (f1 4 (by decide) (by decide) (by decide)) (f1 5 (by decide) (by decide) (by decide))) (by decide) (fun D2 f3 hx => ?_)
    have f2 : x_fl D0 D2 := fun k a b c => by rw [f3.1 k a]; exact f1 k a b c
    refine ⟨by omega, by omega, ?_⟩
    refine c_X0_alike ip_Cells_2 ip_Cells_4 (ho.fr (f2 2 (by decide) (by decide) (by decide)) (f2 3 (by decide) (by decide) (by decide))) (hw.fr (f2 4 (by decide) (by decide) (by decide)) (f2 5 (by decide) (by decide) (by decide))) hn40 hm40 (by omega) (by omega) (fun _ => ?_)
    refine l_X7_least109 (o := o) (n := n) hw (by omega) hle hle2 (fun D3 hf3 hb3 => ih (J + 1) D3 (by omega) (by omega) hf3 hb3) _ le D2 rfl (Nat.le_refl _) (by omega) f2 hx.1 ?_
    refine hb.begin (by omega) ?_ (fun i hi => ?_) (fun i => ?_)
    · rw [f3.1 167 (by decide), hD1]; exact g_up_eq
    · rw [f3.1 167 (by decide), hD1]; exact g_up_at hi _
    · rw [f3.1 166 (by decide), hD1, g_up_ne (by decide)]
theorem c_X11_least {K : Int → g_D → Prop} {le : Nat} (ho : x_cl D 2 o n) (hw : x_cl D 4 w m) (h6 : D 6 0 = le) (hle : 1 ≤ le) (hle2 : le ≤ 8)
    (kk : ∀ (D' : g_D) (C A : Nat → Int), x_fr D D' → m_fw m le (fun j => m_lg o w n m j n) (fun j => m_run o w n m j j) C A m m le → K (min (C m) (A m)) D') : k_X11_least E l D K := by
  have hm40 : m ≤ 40 := hw.2.1
  refine s_X11_least (fun _ => ?_)
  rw [h6]
  refine s_X7_leastSize ip_Script_156 ip_Cells_2 ip_Cells_4 (fun _ _ => c_fill (n0 := 41) sh_166 (by decide) (fun D1 a1 a2 => c_fill (n0 := 41) sh_167 (by decide) (fun D2 b1 b2 D3 hD3 => ?_)))
  refine l_X7_least28 (D0 := D) ho hw hle hle2 (fun D' hf hb _ => kk D' _ _ (fun k hk => hf k (by omega) (by omega) (by omega)) hb) m 0 D3 rfl (Nat.zero_le _) (fun k q1 q2 q3 => ?_) ⟨?_, ?_, fun j hj => by omega, fun i hi => ?_, fun i hi => ?_, fun j n' h1 h2 h3 => by omega, fun i h1 h2 => Or.inl ?_⟩
  · rw [hD3, g_up_ne q2, b1 k q3, a1 k q2]
  · rw [hD3]; exact g_up_eq
  · rw [hD3, g_up_ne (by decide)]; exact b2 0 (by decide)
  · have := b2 i (by omega)
    rw [hD3, g_up_ne (by decide), this]; omega
  · rw [hD3]
    by_cases h0 : i = 0
    · subst h0; rw [show g_up D2 (156 + 10) 0 1 166 0 = 1 from g_up_eq]; omega
    · rw [g_up_at h0, b1 166 (by decide), a2 i (by omega)]; omega
  · rw [hD3, g_up_at (by omega), b1 166 (by decide), a2 i (by omega)]
end LEAST
