section
/-- nothing but the reader k -/
def x_fR (k : Nat) (D D' : g_D) : Prop := ∀ i, ¬ (k ≤ i ∧ i ≤ k + 4) → D' i = D i
theorem r_P_S {b : Nat → Int} {i : Nat} : r_P b (i + 1) = r_P b i + (if b (r_P b i) = 4 then 3 + (b (r_P b i + 2)).toNat else 4) := rfl
theorem r_Q_S {b : Nat → Int} {i : Nat} : r_Q b (i + 1) = r_Q b i + (if b (r_P b i) = 4 then (b (r_P b i + 2)).toNat else 0) := rfl
section READM
variable {E : g_E} {l : Launch} {sh : List g_Sh} {D : g_D} {b : Nat → Int} {N : Nat}
theorem l_readF {K : g_D → Prop} {k r nr : Nat} {v : Int} (hk : is_Reader g_SH k) (hr : is_Cells g_SH r nr) (h5 : ¬ D k 5 = 0) (kk : K D) : n_X5_readActs E l D 47 [some (g_R k), some (g_R r), none, some (g_I v), none] K :=
  s_X5_readActs_47 hk hr (fun _ _ => ⟨fun _ => kk, fun _ => ⟨fun _ => kk, fun _ => ⟨fun _ => kk, fun q => absurd q h5⟩⟩⟩)
theorem l_X5_readActs {K : g_D → Prop} {k r : Nat} {D0 : g_D} {R : Nat × Nat × Int} (hk : is_Reader g_SH k) (hr : is_Cells g_SH r 160) (hkr : ¬ (k ≤ r ∧ r ≤ k + 4)) (hkr2 : ¬ (k ≤ r + 1 ∧ r + 1 ≤ k + 4)) (hb : x_bs D0 r b N) (hN : N ≤ 160)
    (kk : ∀ D' : g_D, x_fR k D0 D' → D' k 4 = R.1 → D' k 5 = R.2.1 → D' k 6 = R.2.2 → x_rdA D' k R.1 b → K D') :
    ∀ (f i : Nat) (D : g_D), i + f = 37 → r_go b N f i = R → x_fR k D0 D → D k 4 = i → D k 5 = 0 → D k 6 = -1 → D k 7 = r_P b i → D k 8 = N → x_rdA D k i b → n_X5_readActs E l D 47 [some (g_R k), some (g_R r), none, some (g_I i), none] K := by
  intro f
  induction f with
  | zero =>
    intro i D hf hR fr h4 h5 h6 h7 h8 hA
    rw [r_go] at hR
    subst hR
    exact s_X5_readActs_47 hk hr (fun _ _ => ⟨fun _ => kk D fr h4 h5 h6 hA, fun q => (by omega : False).elim⟩)
  | succ f ih =>
    intro i D hf hR fr h4 h5 h6 h7 h8 hA
    rw [r_go] at hR
    have hb1 : x_bs D r b N := hb.fr (fr r hkr) (fr (r + 1) hkr2)
    have hb2 := hb1
    obtain ⟨⟨sz, s1, s2, s3⟩, hbx⟩ := hb1
    refine s_X5_readActs_47 hk hr (fun _ _ => ⟨fun q => (by omega : False).elim, fun _ => ⟨fun q => ?_, fun q => ⟨fun w => absurd h5 w, fun _ => ?_⟩⟩⟩)
    · rw [if_pos (by omega)] at hR
      subst hR
      exact kk D fr h4 h5 h6 hA
    · have hP : r_P b i < N := by omega
      rw [if_neg (by omega)] at hR
      rw [h7]
      refine c_X0_at (c := D (r + 1)) (n := sz) hr s1 s3 (fun _ _ => rfl) (fun _ => ?_)
      rw [if_pos (by omega), Int.toNat_natCast, hbx _ hP, h4, h7]
      have fail : ∀ v : Nat, v ≠ 0 → r_bd b N i = v → r_bp b N i = r_P b i → k_X5_fail E l D k v ((r_P b i : Nat) : Int) (fun D2 => (g_r ((i : Int) + 1)) ∧ (n_X5_readActs E l D2 47 [some (g_R k), some (g_R r), none, some (g_I ((i : Int) + 1)), none] K)) := by
        intro v hv e e2
        rw [if_pos (by omega), e, e2] at hR
        subst hR
        refine s_X5_fail hk (fun _ _ _ D1 e1 D2 e2 => ⟨⟨by omega, by omega⟩, l_readF hk hr ?_ (kk D2 (fun j hj => ?_) ?_ ?_ ?_ (fun j hj => ?_))⟩)
        · rw [e2, g_up_at (by decide), e1, g_up_eq]; omega
        · rw [e2, g_up_ne (by omega), e1, g_up_ne (by omega)]; exact fr j hj
        · rw [e2, g_up_at (by decide), e1, g_up_at (by decide)]; exact h4
        · rw [e2, g_up_at (by decide), e1, g_up_eq]
        · rw [e2, g_up_eq]
        · rw [e2, e1]; simp (disch := omega) only [g_up_ne, ne_eq, not_false_eq_true]; exact hA j hj
      have kv : a_k b i = b (r_P b i) := rfl
      refine ⟨fun w => ?_, fun w => ⟨fun w2 => ⟨fun w3 => ⟨⟨by omega, by omega⟩, fun D3 e3 => ?_⟩, fun w3 => ?_⟩, fun w2 => ?_⟩⟩
      · refine fail 1 (by decide) ?_ ?_
        · unfold r_bd; rw [if_neg (by omega)]
        · unfold r_bp; rw [if_neg (by omega)]
      · have hbd : r_bd b N i = r_fc b N (r_P b i + 1) (b (r_P b i)) := by unfold r_bd; rw [if_pos (by omega), if_neg (by omega), kv]
        have hbp : r_bp b N i = r_fp b N (r_P b i + 1) (b (r_P b i)) := by unfold r_bp; rw [if_pos (by omega), if_neg (by omega), kv]
        rw [hbd, hbp] at hR
        rw [g_cast1] at e3
        have fr3 : x_fR k D0 D3 := fun j hj => by rw [e3, g_up_ne (by omega)]; exact fr j hj
        refine c_X5_readAct (b := b) (N := N) (p := r_P b i + 1) (n := i) hk hr hkr hkr2 (hb.fr (fr3 r hkr) (fr3 (r + 1) hkr2)) (by rw [e3, g_up_at (by decide)]; exact h4) (by omega) (by rw [e3, g_up_at (by decide)]; exact h5) (by rw [e3, g_up_eq]) (by rw [e3, g_up_at (by decide)]; exact h8) hN (by omega) (by omega) (fun z D' g g4 g5 g6 => ⟨⟨by omega, by omega⟩, ?_⟩) (fun z D' g g4 g5 g6 g7 r1 r2 r3 r4 => ⟨⟨by omega, by omega⟩, ?_⟩)
        · rw [if_pos z] at hR
          subst hR
          refine l_readF hk hr (by rw [g5]; omega) (kk D' (fun j hj => (g.1 j hj).trans (fr3 j hj)) g4 g5 g6 (fun j hj => ?_))
          have hj : j < i := hj
          rw [g.2.1 (k + 1) (by omega) (by omega) j (by omega), g.2.1 (k + 2) (by omega) (by omega) j (by omega), g.2.1 (k + 3) (by omega) (by omega) j (by omega), g.2.1 (k + 4) (by omega) (by omega) j (by omega), e3]
          simp (disch := omega) only [g_up_ne, ne_eq, not_false_eq_true]
          exact hA j hj
        · rw [if_neg (fun q => q z)] at hR
          rw [g_cast1]
          refine ih (i + 1) D' (by omega) hR (fun j hj => (g.1 j hj).trans (fr3 j hj)) g4 g5 (by rw [g6, e3, g_up_at (by decide)]; exact h6) ?_ (by rw [g.2.2, e3, g_up_at (by decide)]; exact h8) (fun j hj => ?_)
          · rw [g7, r_P_S]
            by_cases e : b (r_P b i) = 4
            · rw [if_pos e, if_pos e, show r_P b i + 1 + 1 = r_P b i + 2 from rfl]; omega
            · rw [if_neg e, if_neg e]
          · by_cases e : j = i
            · subst e
              rw [r1, r2, r3, r4]
              exact ⟨rfl, rfl, rfl, rfl⟩
            · rw [g.2.1 (k + 1) (by omega) (by omega) j e, g.2.1 (k + 2) (by omega) (by omega) j e, g.2.1 (k + 3) (by omega) (by omega) j e, g.2.1 (k + 4) (by omega) (by omega) j e, e3]
              simp (disch := omega) only [g_up_ne, ne_eq, not_false_eq_true]
              exact hA j (by omega)
      · refine fail 4 (by decide) ?_ ?_
        · unfold r_bd; rw [if_pos (by omega), if_pos (by omega)]
        · unfold r_bp; rw [if_pos (by omega), if_pos (by omega)]
      · refine fail 1 (by decide) ?_ ?_
        · unfold r_bd; rw [if_neg (by omega)]
        · unfold r_bp; rw [if_neg (by omega)]
theorem c_X5_readActs {K : g_D → Prop} {k r : Nat} (hk : is_Reader g_SH k) (hr : is_Cells g_SH r 160) (hkr : ¬ (k ≤ r ∧ r ≤ k + 4)) (hkr2 : ¬ (k ≤ r + 1 ∧ r + 1 ≤ k + 4)) (hb : x_bs D r b N) (hN : N ≤ 160)
    (kk : ∀ D' : g_D, x_fR k D D' → D' k 4 = (r_all b N).1 → D' k 5 = (r_all b N).2.1 → D' k 6 = (r_all b N).2.2 → x_rdA D' k (r_all b N).1 b → K D') : k_X5_readActs E l D k r N K := by
  refine s_X5_readActs hk hr (fun _ _ D1 e1 D2 e2 D3 e3 D4 e4 D5 e5 => ?_)
  obtain ⟨⟨sz, s1, s2, s3⟩, hbx⟩ := id hb
  have q4 : D4 r 1 = sz := by rw [e4, e3, e2, e1]; simp (disch := omega) only [g_up_ne, ne_eq, not_false_eq_true]; exact s1
  rw [q4, show max 0 (min (N : Int) sz) = N by omega] at e5
  have f5 : x_fR k D D5 := fun i hi => by rw [e5, e4, e3, e2, e1]; simp (disch := omega) only [g_up_ne, ne_eq, not_false_eq_true]
  have z4 : D5 k 4 = 0 := by rw [e5, e4, e3, e2, e1]; simp (disch := omega) only [g_up_at, g_up_eq, ne_eq, not_false_eq_true]
  have z5 : D5 k 5 = 0 := by rw [e5, e4, e3, e2]; simp (disch := omega) only [g_up_at, g_up_eq, ne_eq, not_false_eq_true]
  have z6 : D5 k 6 = -1 := by rw [e5, e4, e3]; simp (disch := omega) only [g_up_at, g_up_eq, ne_eq, not_false_eq_true]
  have z7 : D5 k 7 = 0 := by rw [e5, e4]; simp (disch := omega) only [g_up_at, g_up_eq, ne_eq, not_false_eq_true]
  have z8 : D5 k 8 = N := by rw [e5, g_up_eq]
  unfold r_all at kk
  refine c_num (p := 0) hk hr (hb.fr (f5 r hkr) (f5 (r + 1) hkr2)) z5 z7 z8 (fun z _ => ?_) (fun z _ => ?_)
  · rw [if_neg (fun q => q z)] at kk
    refine l_X5_readActs hk hr hkr hkr2 hb hN kk 37 0 _ rfl rfl (fun i hi => by rw [g_up_ne (by omega)]; exact f5 i hi) (by rw [g_up_at (by decide)]; exact z4) (by rw [g_up_at (by decide)]; exact z5) (by rw [g_up_at (by decide)]; exact z6) (by rw [g_up_eq]; rfl) (by rw [g_up_at (by decide)]; exact z8) (fun i hi => absurd hi (Nat.not_lt_zero i))
  · rw [if_pos z] at kk
    refine l_readF hk hr (by rw [g_up_at (by decide), g_up_eq]; omega) (kk _ (fun i hi => by rw [g_up_ne (by omega), g_up_ne (by omega)]; exact f5 i hi) (by rw [g_up_at (by decide), g_up_at (by decide)]; exact z4) (by rw [g_up_at (by decide), g_up_eq]) (by rw [g_up_eq]) (fun i hi => absurd hi (Nat.not_lt_zero i)))
end READM
end
