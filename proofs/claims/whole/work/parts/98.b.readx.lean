section
theorem x_f5.bs {D D' : g_D} {k n r N : Nat} {b : Nat → Int} (h : x_f5 k n D D') (h1 : ¬ (k ≤ r ∧ r ≤ k + 4)) (h2 : ¬ (k ≤ r + 1 ∧ r + 1 ≤ k + 4)) (hb : x_bs D r b N) : x_bs D' r b N := hb.fr (h.1 r h1) (h.1 (r + 1) h2)
theorem r_fc_1 {b : Nat → Int} {N p : Nat} {cd : Int} (h : r_f1 b N p ≠ 0) : r_fc b N p cd = r_f1 b N p ∧ r_fp b N p cd = r_w N p (r_f1 b N p) := by unfold r_fc r_fp; rw [if_pos h, if_pos h]; exact ⟨rfl, rfl⟩
theorem r_fc_2 {b : Nat → Int} {N p : Nat} {cd : Int} (h : r_f1 b N p = 0) (h2 : r_f2 b N p cd ≠ 0) : r_fc b N p cd = r_f2 b N p cd ∧ r_fp b N p cd = r_w N (p + 1) (r_f2 b N p cd) := by unfold r_fc r_fp; rw [if_neg (show ¬ (r_f1 b N p ≠ 0) from fun q => q h), if_neg (show ¬ (r_f1 b N p ≠ 0) from fun q => q h), if_pos h2, if_pos h2]; exact ⟨rfl, rfl⟩
theorem r_fc_3 {b : Nat → Int} {N p : Nat} {cd : Int} (h : r_f1 b N p = 0) (h2 : r_f2 b N p cd = 0) : r_fc b N p cd = r_f3 b N p cd ∧ r_fp b N p cd = r_w N (p + 2) (r_f3 b N p cd) := by unfold r_fc r_fp; rw [if_neg (show ¬ (r_f1 b N p ≠ 0) from fun q => q h), if_neg (show ¬ (r_f1 b N p ≠ 0) from fun q => q h), if_neg (show ¬ (r_f2 b N p cd ≠ 0) from fun q => q h2), if_neg (show ¬ (r_f2 b N p cd ≠ 0) from fun q => q h2)]; exact ⟨rfl, rfl⟩
section READX
variable {E : g_E} {l : Launch} {sh : List g_Sh} {D : g_D} {b : Nat → Int} {N : Nat}
theorem c_X5_readAct {K : g_D → Prop} {k r p n : Nat} {cd : Int} (hk : is_Reader g_SH k) (hr : is_Cells g_SH r 160) (hkr : ¬ (k ≤ r ∧ r ≤ k + 4)) (hkr2 : ¬ (k ≤ r + 1 ∧ r + 1 ≤ k + 4)) (hb : x_bs D r b N) (h4 : D k 4 = n) (hn : n < 36) (h5 : D k 5 = 0) (h7 : D k 7 = p) (h8 : D k 8 = N) (hN : N ≤ 160) (hp : p ≤ N) (hcd : 1 ≤ cd ∧ cd ≤ 4)
    (kf : r_fc b N p cd ≠ 0 → ∀ D' : g_D, x_f5 k n D D' → D' k 4 = n → D' k 5 = (r_fc b N p cd : Nat) → D' k 6 = (r_fp b N p cd : Nat) → K D')
    (k0 : r_fc b N p cd = 0 → ∀ D' : g_D, x_f5 k n D D' → D' k 4 = ((n + 1 : Nat) : Int) → D' k 5 = 0 → D' k 6 = D k 6 → D' k 7 = ((if cd = 4 then p + 2 + (b (p + 1)).toNat else p + 3 : Nat) : Int) → D' (k + 1) n = cd → D' (k + 2) n = (if cd = 1 then b (p + 2) else b p) → D' (k + 3) n = (if cd = 1 then b p else if cd = 4 then ((p + 2 : Nat) : Int) else b (p + 1)) → D' (k + 4) n = (if cd = 1 ∨ cd = 4 then b (p + 1) else b (p + 2)) → K D') : k_X5_readAct E l D k r cd K := by
  have kf1 : r_f b N p 0 39 ≠ 0 → ∀ D' : g_D, x_f5 k n D D' → D' k 4 = n → D' k 5 = (r_f b N p 0 39 : Nat) → D' k 6 = (r_w N p (r_f b N p 0 39) : Nat) → K D' := fun z => by
    have := r_fc_1 (cd := cd) z
    rw [this.1, this.2] at kf
    exact kf z
  have kf2 : r_f b N p 0 39 = 0 → r_f2 b N p cd ≠ 0 → ∀ D' : g_D, x_f5 k n D D' → D' k 4 = n → D' k 5 = (r_f2 b N p cd : Nat) → D' k 6 = (r_w N (p + 1) (r_f2 b N p cd) : Nat) → K D' := fun z z2 => by
    have := r_fc_2 (cd := cd) z z2
    rw [this.1, this.2] at kf
    exact kf z2
  have kf3 : r_f b N p 0 39 = 0 → r_f2 b N p cd = 0 → r_f3 b N p cd ≠ 0 → ∀ D' : g_D, x_f5 k n D D' → D' k 4 = n → D' k 5 = (r_f3 b N p cd : Nat) → D' k 6 = (r_w N (p + 2) (r_f3 b N p cd) : Nat) → K D' := fun z z2 z3 => by
    have := r_fc_3 (cd := cd) z z2
    rw [this.1, this.2] at kf
    exact kf z3
  have k0' : r_f b N p 0 39 = 0 → r_f2 b N p cd = 0 → r_f3 b N p cd = 0 → r_fc b N p cd = 0 := fun z z2 z3 => by
    rw [(r_fc_3 (cd := cd) z z2).1]; exact z3
  refine s_X5_readAct hk hr (fun _ _ => ?_)
  rw [h4, Int.toNat_natCast]
  refine ⟨by omega, fun D1 e1 => ⟨fun q => ?_, fun q => ?_, fun q => ?_, fun q => ?_⟩⟩
  · subst q e1
    have E2 : r_f2 b N p 1 = r_f b N (p + 1) 1 (min 20 (40 - b p)) := by simp [r_f2, r_lo2, r_hi2]
    have E3 : r_f3 b N p 1 = r_f b N (p + 2) 0 (20 - b (p + 1)) := by simp [r_f3, r_lo3, r_hi3]
    rw [E2] at kf2 kf3 k0'
    rw [E3] at kf3 k0'
    refine c_num hk hr (x_f5.bs (k := k) (n := n) (by repeat' (first | refine x_f5.up ?_ (by omega) | exact x_f5.refl _ _ _)) hkr hkr2 hb) (by (simp (disch := omega) only [g_up_ne, g_up_at, g_up_eq, ne_eq, not_false_eq_true, h4, h5, h7, h8]) <;> omega) (p := p) (by (simp (disch := omega) only [g_up_ne, g_up_at, g_up_eq, ne_eq, not_false_eq_true, h4, h5, h7, h8]) <;> omega) (by (simp (disch := omega) only [g_up_ne, g_up_at, g_up_eq, ne_eq, not_false_eq_true, h4, h5, h7, h8]) <;> omega) (fun z1 _ => ⟨by omega, fun D3 e3 => ?_⟩) (fun z1 _ => ⟨by omega, fun D3 e3 => ?_⟩)
    · subst e3
      have l1 := r_f_0 z1
      rw [g_up_eq]
      refine ⟨by omega, ⟨by omega, by omega⟩, c_num hk hr (x_f5.bs (k := k) (n := n) (by repeat' (first | refine x_f5.up ?_ (by omega) | exact x_f5.refl _ _ _)) hkr hkr2 hb) (by (simp (disch := omega) only [g_up_ne, g_up_at, g_up_eq, ne_eq, not_false_eq_true, h4, h5, h7, h8]) <;> omega) (p := p + 1) (by (simp (disch := omega) only [g_up_ne, g_up_at, g_up_eq, ne_eq, not_false_eq_true, h4, h5, h7, h8]) <;> omega) (by (simp (disch := omega) only [g_up_ne, g_up_at, g_up_eq, ne_eq, not_false_eq_true, h4, h5, h7, h8]) <;> omega) (fun z2 _ => ⟨by omega, fun D5 e5 => ?_⟩) (fun z2 _ => ⟨by omega, fun D5 e5 => ?_⟩)⟩
      · subst e5
        have l2 := r_f_0 z2
        rw [g_up_eq]
        refine ⟨by omega, ⟨by omega, by omega⟩, c_num hk hr (x_f5.bs (k := k) (n := n) (by repeat' (first | refine x_f5.up ?_ (by omega) | exact x_f5.refl _ _ _)) hkr hkr2 hb) (by (simp (disch := omega) only [g_up_ne, g_up_at, g_up_eq, ne_eq, not_false_eq_true, h4, h5, h7, h8]) <;> omega) (p := p + 2) (by (simp (disch := omega) only [g_up_ne, g_up_at, g_up_eq, ne_eq, not_false_eq_true, h4, h5, h7, h8]) <;> omega) (by (simp (disch := omega) only [g_up_ne, g_up_at, g_up_eq, ne_eq, not_false_eq_true, h4, h5, h7, h8]) <;> omega) (fun z3 _ => ⟨by omega, fun D7 e7 => ?_⟩) (fun z3 _ => ⟨by omega, fun D7 e7 => ?_⟩)⟩
        · subst e7
          refine ⟨fun w => absurd (by (simp (disch := omega) only [g_up_ne, g_up_at, g_up_eq, ne_eq, not_false_eq_true, h4, h5, h7, h8]) <;> omega) w, fun _ => ⟨?_, fun D8 e8 => ?_⟩⟩
          · rw [show ∀ A : Int, g_r A ↔ (-2147483648 ≤ A ∧ A ≤ 2147483647) from fun _ => Iff.rfl]
            simp (disch := omega) only [g_up_ne, g_up_at, g_up_eq, ne_eq, not_false_eq_true, h4]
            omega
          · subst e8
            refine k0 (k0' z1 z2 z3) _ (by repeat' (first | refine x_f5.up ?_ (by omega) | exact x_f5.refl _ _ _)) ?_ (by (simp (disch := omega) only [g_up_ne, g_up_at, g_up_eq, ne_eq, not_false_eq_true, h4, h5, h7, h8]) <;> omega) (by (simp (disch := omega) only [g_up_ne, g_up_at, g_up_eq, ne_eq, not_false_eq_true, h4, h5, h7, h8]) <;> omega) (by rw [if_neg (by decide)]; exact (by (simp (disch := omega) only [g_up_ne, g_up_at, g_up_eq, ne_eq, not_false_eq_true, h4, h5, h7, h8]) <;> omega)) (by (simp (disch := omega) only [g_up_ne, g_up_at, g_up_eq, ne_eq, not_false_eq_true, h4, h5, h7, h8]) <;> omega) (by rw [if_pos rfl]; exact (by (simp (disch := omega) only [g_up_ne, g_up_at, g_up_eq, ne_eq, not_false_eq_true, h4, h5, h7, h8]) <;> omega)) (by rw [if_pos rfl]; exact (by (simp (disch := omega) only [g_up_ne, g_up_at, g_up_eq, ne_eq, not_false_eq_true, h4, h5, h7, h8]) <;> omega)) (by rw [if_pos (Or.inl rfl)]; exact (by (simp (disch := omega) only [g_up_ne, g_up_at, g_up_eq, ne_eq, not_false_eq_true, h4, h5, h7, h8]) <;> omega))
            simp (disch := omega) only [g_up_ne, g_up_at, g_up_eq, ne_eq, not_false_eq_true, h4]
            omega
        · subst e7
          refine ⟨fun _ => kf3 z1 z2 z3 _ (by repeat' (first | refine x_f5.up ?_ (by omega) | exact x_f5.refl _ _ _)) (by (simp (disch := omega) only [g_up_ne, g_up_at, g_up_eq, ne_eq, not_false_eq_true, h4, h5, h7, h8]) <;> omega) (by (simp (disch := omega) only [g_up_ne, g_up_at, g_up_eq, ne_eq, not_false_eq_true, h4, h5, h7, h8]) <;> omega) (by (simp (disch := omega) only [g_up_ne, g_up_at, g_up_eq, ne_eq, not_false_eq_true, h4, h5, h7, h8]) <;> omega), fun w => ?_⟩
          simp (disch := omega) only [g_up_ne, g_up_at, g_up_eq, ne_eq, not_false_eq_true] at w
          omega
      · subst e5
        rw [g_up_eq]
        refine ⟨by omega, ⟨by omega, by omega⟩, c_numF hk hr (fun w => ?_) (fun _ => ⟨by omega, fun D7 e7 => ?_⟩)⟩
        · simp (disch := omega) only [g_up_ne, g_up_at, g_up_eq, ne_eq, not_false_eq_true] at w
          omega
        · subst e7
          refine ⟨fun _ => kf2 z1 z2 _ (by repeat' (first | refine x_f5.up ?_ (by omega) | exact x_f5.refl _ _ _)) (by (simp (disch := omega) only [g_up_ne, g_up_at, g_up_eq, ne_eq, not_false_eq_true, h4, h5, h7, h8]) <;> omega) (by (simp (disch := omega) only [g_up_ne, g_up_at, g_up_eq, ne_eq, not_false_eq_true, h4, h5, h7, h8]) <;> omega) (by (simp (disch := omega) only [g_up_ne, g_up_at, g_up_eq, ne_eq, not_false_eq_true, h4, h5, h7, h8]) <;> omega), fun w => ?_⟩
          simp (disch := omega) only [g_up_ne, g_up_at, g_up_eq, ne_eq, not_false_eq_true] at w
          omega
    · subst e3
      rw [g_up_eq]
      refine ⟨by omega, ⟨by omega, by omega⟩, c_numF hk hr (fun w => ?_) (fun _ => ⟨by omega, fun D5 e5 => ?_⟩)⟩
      · simp (disch := omega) only [g_up_ne, g_up_at, g_up_eq, ne_eq, not_false_eq_true] at w
        omega
      · subst e5
        rw [g_up_eq]
        refine ⟨by omega, ⟨by omega, by omega⟩, c_numF hk hr (fun w => ?_) (fun _ => ⟨by omega, fun D7 e7 => ?_⟩)⟩
        · simp (disch := omega) only [g_up_ne, g_up_at, g_up_eq, ne_eq, not_false_eq_true] at w
          omega
        · subst e7
          refine ⟨fun _ => kf1 z1 _ (by repeat' (first | refine x_f5.up ?_ (by omega) | exact x_f5.refl _ _ _)) (by (simp (disch := omega) only [g_up_ne, g_up_at, g_up_eq, ne_eq, not_false_eq_true, h4, h5, h7, h8]) <;> omega) (by (simp (disch := omega) only [g_up_ne, g_up_at, g_up_eq, ne_eq, not_false_eq_true, h4, h5, h7, h8]) <;> omega) (by (simp (disch := omega) only [g_up_ne, g_up_at, g_up_eq, ne_eq, not_false_eq_true, h4, h5, h7, h8]) <;> omega), fun w => ?_⟩
          simp (disch := omega) only [g_up_ne, g_up_at, g_up_eq, ne_eq, not_false_eq_true] at w
          omega
  · subst q e1
    have E2 : r_f2 b N p 2 = r_f b N (p + 1) 0 39 := by simp [r_f2, r_lo2, r_hi2]
    have E3 : r_f3 b N p 2 = r_f b N (p + 2) 1 (40 - max (b p) (b (p + 1))) := by simp [r_f3, r_lo3, r_hi3]
    rw [E2] at kf2 kf3 k0'
    rw [E3] at kf3 k0'
    refine c_num hk hr (x_f5.bs (k := k) (n := n) (by repeat' (first | refine x_f5.up ?_ (by omega) | exact x_f5.refl _ _ _)) hkr hkr2 hb) (by (simp (disch := omega) only [g_up_ne, g_up_at, g_up_eq, ne_eq, not_false_eq_true, h4, h5, h7, h8]) <;> omega) (p := p) (by (simp (disch := omega) only [g_up_ne, g_up_at, g_up_eq, ne_eq, not_false_eq_true, h4, h5, h7, h8]) <;> omega) (by (simp (disch := omega) only [g_up_ne, g_up_at, g_up_eq, ne_eq, not_false_eq_true, h4, h5, h7, h8]) <;> omega) (fun z1 _ => ⟨by omega, fun D3 e3 => ?_⟩) (fun z1 _ => ⟨by omega, fun D3 e3 => ?_⟩)
    · subst e3
      have l1 := r_f_0 z1
      refine c_num hk hr (x_f5.bs (k := k) (n := n) (by repeat' (first | refine x_f5.up ?_ (by omega) | exact x_f5.refl _ _ _)) hkr hkr2 hb) (by (simp (disch := omega) only [g_up_ne, g_up_at, g_up_eq, ne_eq, not_false_eq_true, h4, h5, h7, h8]) <;> omega) (p := p + 1) (by (simp (disch := omega) only [g_up_ne, g_up_at, g_up_eq, ne_eq, not_false_eq_true, h4, h5, h7, h8]) <;> omega) (by (simp (disch := omega) only [g_up_ne, g_up_at, g_up_eq, ne_eq, not_false_eq_true, h4, h5, h7, h8]) <;> omega) (fun z2 _ => ⟨by omega, fun D5 e5 => ?_⟩) (fun z2 _ => ⟨by omega, fun D5 e5 => ?_⟩)
      · subst e5
        have l2 := r_f_0 z2
        have v2 : ∀ x : Int, (g_up (g_up (g_up (g_up (g_up D (k + 1) n 2) k 7 ((p + 1 : Nat) : Int)) (k + 2) n (b p)) k 7 ((p + 1 + 1 : Nat) : Int)) (k + 3) n x) (k + 2) n = b p := fun x => (by (simp (disch := omega) only [g_up_ne, g_up_at, g_up_eq, ne_eq, not_false_eq_true, h4, h5, h7, h8]) <;> omega)
        rw [g_up_eq, v2]
        refine ⟨by omega, by omega, ⟨by omega, by omega⟩, c_num hk hr (x_f5.bs (k := k) (n := n) (by repeat' (first | refine x_f5.up ?_ (by omega) | exact x_f5.refl _ _ _)) hkr hkr2 hb) (by (simp (disch := omega) only [g_up_ne, g_up_at, g_up_eq, ne_eq, not_false_eq_true, h4, h5, h7, h8]) <;> omega) (p := p + 2) (by (simp (disch := omega) only [g_up_ne, g_up_at, g_up_eq, ne_eq, not_false_eq_true, h4, h5, h7, h8]) <;> omega) (by (simp (disch := omega) only [g_up_ne, g_up_at, g_up_eq, ne_eq, not_false_eq_true, h4, h5, h7, h8]) <;> omega) (fun z3 _ => ⟨by omega, fun D7 e7 => ?_⟩) (fun z3 _ => ⟨by omega, fun D7 e7 => ?_⟩)⟩
        · subst e7
          refine ⟨fun w => absurd (by (simp (disch := omega) only [g_up_ne, g_up_at, g_up_eq, ne_eq, not_false_eq_true, h4, h5, h7, h8]) <;> omega) w, fun _ => ⟨?_, fun D8 e8 => ?_⟩⟩
          · rw [show ∀ A : Int, g_r A ↔ (-2147483648 ≤ A ∧ A ≤ 2147483647) from fun _ => Iff.rfl]
            simp (disch := omega) only [g_up_ne, g_up_at, g_up_eq, ne_eq, not_false_eq_true, h4]
            omega
          · subst e8
            refine k0 (k0' z1 z2 z3) _ (by repeat' (first | refine x_f5.up ?_ (by omega) | exact x_f5.refl _ _ _)) ?_ (by (simp (disch := omega) only [g_up_ne, g_up_at, g_up_eq, ne_eq, not_false_eq_true, h4, h5, h7, h8]) <;> omega) (by (simp (disch := omega) only [g_up_ne, g_up_at, g_up_eq, ne_eq, not_false_eq_true, h4, h5, h7, h8]) <;> omega) (by rw [if_neg (by decide)]; exact (by (simp (disch := omega) only [g_up_ne, g_up_at, g_up_eq, ne_eq, not_false_eq_true, h4, h5, h7, h8]) <;> omega)) (by (simp (disch := omega) only [g_up_ne, g_up_at, g_up_eq, ne_eq, not_false_eq_true, h4, h5, h7, h8]) <;> omega) (by rw [if_neg (by decide)]; exact (by (simp (disch := omega) only [g_up_ne, g_up_at, g_up_eq, ne_eq, not_false_eq_true, h4, h5, h7, h8]) <;> omega)) (by rw [if_neg (by decide), if_neg (by decide)]; exact (by (simp (disch := omega) only [g_up_ne, g_up_at, g_up_eq, ne_eq, not_false_eq_true, h4, h5, h7, h8]) <;> omega)) (by rw [if_neg (by decide)]; exact (by (simp (disch := omega) only [g_up_ne, g_up_at, g_up_eq, ne_eq, not_false_eq_true, h4, h5, h7, h8]) <;> omega))
            simp (disch := omega) only [g_up_ne, g_up_at, g_up_eq, ne_eq, not_false_eq_true, h4]
            omega
        · subst e7
          refine ⟨fun _ => kf3 z1 z2 z3 _ (by repeat' (first | refine x_f5.up ?_ (by omega) | exact x_f5.refl _ _ _)) (by (simp (disch := omega) only [g_up_ne, g_up_at, g_up_eq, ne_eq, not_false_eq_true, h4, h5, h7, h8]) <;> omega) (by (simp (disch := omega) only [g_up_ne, g_up_at, g_up_eq, ne_eq, not_false_eq_true, h4, h5, h7, h8]) <;> omega) (by (simp (disch := omega) only [g_up_ne, g_up_at, g_up_eq, ne_eq, not_false_eq_true, h4, h5, h7, h8]) <;> omega), fun w => ?_⟩
          simp (disch := omega) only [g_up_ne, g_up_at, g_up_eq, ne_eq, not_false_eq_true] at w
          omega
      · subst e5
        refine ⟨by omega, by omega, ?_, c_numF hk hr (fun w => ?_) (fun _ => ⟨by omega, fun D7 e7 => ?_⟩)⟩
        · rw [show ∀ A : Int, g_r A ↔ (-2147483648 ≤ A ∧ A ≤ 2147483647) from fun _ => Iff.rfl]
          simp (disch := omega) only [g_up_ne, g_up_at, g_up_eq, ne_eq, not_false_eq_true, h4]
          omega
        · simp (disch := omega) only [g_up_ne, g_up_at, g_up_eq, ne_eq, not_false_eq_true] at w
          omega
        · subst e7
          refine ⟨fun _ => kf2 z1 z2 _ (by repeat' (first | refine x_f5.up ?_ (by omega) | exact x_f5.refl _ _ _)) (by (simp (disch := omega) only [g_up_ne, g_up_at, g_up_eq, ne_eq, not_false_eq_true, h4, h5, h7, h8]) <;> omega) (by (simp (disch := omega) only [g_up_ne, g_up_at, g_up_eq, ne_eq, not_false_eq_true, h4, h5, h7, h8]) <;> omega) (by (simp (disch := omega) only [g_up_ne, g_up_at, g_up_eq, ne_eq, not_false_eq_true, h4, h5, h7, h8]) <;> omega), fun w => ?_⟩
          simp (disch := omega) only [g_up_ne, g_up_at, g_up_eq, ne_eq, not_false_eq_true] at w
          omega
    · subst e3
      refine c_numF hk hr (fun w => ?_) (fun _ => ⟨by omega, fun D5 e5 => ?_⟩)
      · simp (disch := omega) only [g_up_ne, g_up_at, g_up_eq, ne_eq, not_false_eq_true] at w
        omega
      · subst e5
        refine ⟨by omega, by omega, ?_, c_numF hk hr (fun w => ?_) (fun _ => ⟨by omega, fun D7 e7 => ?_⟩)⟩
        · rw [show ∀ A : Int, g_r A ↔ (-2147483648 ≤ A ∧ A ≤ 2147483647) from fun _ => Iff.rfl]
          simp (disch := omega) only [g_up_ne, g_up_at, g_up_eq, ne_eq, not_false_eq_true, h4]
          omega
        · simp (disch := omega) only [g_up_ne, g_up_at, g_up_eq, ne_eq, not_false_eq_true] at w
          omega
        · subst e7
          refine ⟨fun _ => kf1 z1 _ (by repeat' (first | refine x_f5.up ?_ (by omega) | exact x_f5.refl _ _ _)) (by (simp (disch := omega) only [g_up_ne, g_up_at, g_up_eq, ne_eq, not_false_eq_true, h4, h5, h7, h8]) <;> omega) (by (simp (disch := omega) only [g_up_ne, g_up_at, g_up_eq, ne_eq, not_false_eq_true, h4, h5, h7, h8]) <;> omega) (by (simp (disch := omega) only [g_up_ne, g_up_at, g_up_eq, ne_eq, not_false_eq_true, h4, h5, h7, h8]) <;> omega), fun w => ?_⟩
          simp (disch := omega) only [g_up_ne, g_up_at, g_up_eq, ne_eq, not_false_eq_true] at w
          omega
  · subst q e1
    have E2 : r_f2 b N p 3 = r_f b N (p + 1) 0 19 := by simp [r_f2, r_lo2, r_hi2]
    have E3 : r_f3 b N p 3 = r_f b N (p + 2) 1 (min (40 - b p) (20 - b (p + 1))) := by simp [r_f3, r_lo3, r_hi3]
    rw [E2] at kf2 kf3 k0'
    rw [E3] at kf3 k0'
    refine c_num hk hr (x_f5.bs (k := k) (n := n) (by repeat' (first | refine x_f5.up ?_ (by omega) | exact x_f5.refl _ _ _)) hkr hkr2 hb) (by (simp (disch := omega) only [g_up_ne, g_up_at, g_up_eq, ne_eq, not_false_eq_true, h4, h5, h7, h8]) <;> omega) (p := p) (by (simp (disch := omega) only [g_up_ne, g_up_at, g_up_eq, ne_eq, not_false_eq_true, h4, h5, h7, h8]) <;> omega) (by (simp (disch := omega) only [g_up_ne, g_up_at, g_up_eq, ne_eq, not_false_eq_true, h4, h5, h7, h8]) <;> omega) (fun z1 _ => ⟨by omega, fun D3 e3 => ?_⟩) (fun z1 _ => ⟨by omega, fun D3 e3 => ?_⟩)
    · subst e3
      have l1 := r_f_0 z1
      refine c_num hk hr (x_f5.bs (k := k) (n := n) (by repeat' (first | refine x_f5.up ?_ (by omega) | exact x_f5.refl _ _ _)) hkr hkr2 hb) (by (simp (disch := omega) only [g_up_ne, g_up_at, g_up_eq, ne_eq, not_false_eq_true, h4, h5, h7, h8]) <;> omega) (p := p + 1) (by (simp (disch := omega) only [g_up_ne, g_up_at, g_up_eq, ne_eq, not_false_eq_true, h4, h5, h7, h8]) <;> omega) (by (simp (disch := omega) only [g_up_ne, g_up_at, g_up_eq, ne_eq, not_false_eq_true, h4, h5, h7, h8]) <;> omega) (fun z2 _ => ⟨by omega, fun D5 e5 => ?_⟩) (fun z2 _ => ⟨by omega, fun D5 e5 => ?_⟩)
      · subst e5
        have l2 := r_f_0 z2
        have v2 : ∀ x : Int, (g_up (g_up (g_up (g_up (g_up D (k + 1) n 3) k 7 ((p + 1 : Nat) : Int)) (k + 2) n (b p)) k 7 ((p + 1 + 1 : Nat) : Int)) (k + 3) n x) (k + 2) n = b p := fun x => (by (simp (disch := omega) only [g_up_ne, g_up_at, g_up_eq, ne_eq, not_false_eq_true, h4, h5, h7, h8]) <;> omega)
        rw [g_up_eq, v2]
        refine ⟨by omega, ⟨by omega, by omega⟩, by omega, ⟨by omega, by omega⟩, c_num hk hr (x_f5.bs (k := k) (n := n) (by repeat' (first | refine x_f5.up ?_ (by omega) | exact x_f5.refl _ _ _)) hkr hkr2 hb) (by (simp (disch := omega) only [g_up_ne, g_up_at, g_up_eq, ne_eq, not_false_eq_true, h4, h5, h7, h8]) <;> omega) (p := p + 2) (by (simp (disch := omega) only [g_up_ne, g_up_at, g_up_eq, ne_eq, not_false_eq_true, h4, h5, h7, h8]) <;> omega) (by (simp (disch := omega) only [g_up_ne, g_up_at, g_up_eq, ne_eq, not_false_eq_true, h4, h5, h7, h8]) <;> omega) (fun z3 _ => ⟨by omega, fun D7 e7 => ?_⟩) (fun z3 _ => ⟨by omega, fun D7 e7 => ?_⟩)⟩
        · subst e7
          refine ⟨fun w => absurd (by (simp (disch := omega) only [g_up_ne, g_up_at, g_up_eq, ne_eq, not_false_eq_true, h4, h5, h7, h8]) <;> omega) w, fun _ => ⟨?_, fun D8 e8 => ?_⟩⟩
          · rw [show ∀ A : Int, g_r A ↔ (-2147483648 ≤ A ∧ A ≤ 2147483647) from fun _ => Iff.rfl]
            simp (disch := omega) only [g_up_ne, g_up_at, g_up_eq, ne_eq, not_false_eq_true, h4]
            omega
          · subst e8
            refine k0 (k0' z1 z2 z3) _ (by repeat' (first | refine x_f5.up ?_ (by omega) | exact x_f5.refl _ _ _)) ?_ (by (simp (disch := omega) only [g_up_ne, g_up_at, g_up_eq, ne_eq, not_false_eq_true, h4, h5, h7, h8]) <;> omega) (by (simp (disch := omega) only [g_up_ne, g_up_at, g_up_eq, ne_eq, not_false_eq_true, h4, h5, h7, h8]) <;> omega) (by rw [if_neg (by decide)]; exact (by (simp (disch := omega) only [g_up_ne, g_up_at, g_up_eq, ne_eq, not_false_eq_true, h4, h5, h7, h8]) <;> omega)) (by (simp (disch := omega) only [g_up_ne, g_up_at, g_up_eq, ne_eq, not_false_eq_true, h4, h5, h7, h8]) <;> omega) (by rw [if_neg (by decide)]; exact (by (simp (disch := omega) only [g_up_ne, g_up_at, g_up_eq, ne_eq, not_false_eq_true, h4, h5, h7, h8]) <;> omega)) (by rw [if_neg (by decide), if_neg (by decide)]; exact (by (simp (disch := omega) only [g_up_ne, g_up_at, g_up_eq, ne_eq, not_false_eq_true, h4, h5, h7, h8]) <;> omega)) (by rw [if_neg (by decide)]; exact (by (simp (disch := omega) only [g_up_ne, g_up_at, g_up_eq, ne_eq, not_false_eq_true, h4, h5, h7, h8]) <;> omega))
            simp (disch := omega) only [g_up_ne, g_up_at, g_up_eq, ne_eq, not_false_eq_true, h4]
            omega
        · subst e7
          refine ⟨fun _ => kf3 z1 z2 z3 _ (by repeat' (first | refine x_f5.up ?_ (by omega) | exact x_f5.refl _ _ _)) (by (simp (disch := omega) only [g_up_ne, g_up_at, g_up_eq, ne_eq, not_false_eq_true, h4, h5, h7, h8]) <;> omega) (by (simp (disch := omega) only [g_up_ne, g_up_at, g_up_eq, ne_eq, not_false_eq_true, h4, h5, h7, h8]) <;> omega) (by (simp (disch := omega) only [g_up_ne, g_up_at, g_up_eq, ne_eq, not_false_eq_true, h4, h5, h7, h8]) <;> omega), fun w => ?_⟩
          simp (disch := omega) only [g_up_ne, g_up_at, g_up_eq, ne_eq, not_false_eq_true] at w
          omega
      · subst e5
        refine ⟨by omega, ?_, by omega, ?_, c_numF hk hr (fun w => ?_) (fun _ => ⟨by omega, fun D7 e7 => ?_⟩)⟩
        · rw [show ∀ A : Int, g_r A ↔ (-2147483648 ≤ A ∧ A ≤ 2147483647) from fun _ => Iff.rfl]
          simp (disch := omega) only [g_up_ne, g_up_at, g_up_eq, ne_eq, not_false_eq_true, h4]
          omega
        · rw [show ∀ A : Int, g_r A ↔ (-2147483648 ≤ A ∧ A ≤ 2147483647) from fun _ => Iff.rfl]
          simp (disch := omega) only [g_up_ne, g_up_at, g_up_eq, ne_eq, not_false_eq_true, h4]
          omega
        · simp (disch := omega) only [g_up_ne, g_up_at, g_up_eq, ne_eq, not_false_eq_true] at w
          omega
        · subst e7
          refine ⟨fun _ => kf2 z1 z2 _ (by repeat' (first | refine x_f5.up ?_ (by omega) | exact x_f5.refl _ _ _)) (by (simp (disch := omega) only [g_up_ne, g_up_at, g_up_eq, ne_eq, not_false_eq_true, h4, h5, h7, h8]) <;> omega) (by (simp (disch := omega) only [g_up_ne, g_up_at, g_up_eq, ne_eq, not_false_eq_true, h4, h5, h7, h8]) <;> omega) (by (simp (disch := omega) only [g_up_ne, g_up_at, g_up_eq, ne_eq, not_false_eq_true, h4, h5, h7, h8]) <;> omega), fun w => ?_⟩
          simp (disch := omega) only [g_up_ne, g_up_at, g_up_eq, ne_eq, not_false_eq_true] at w
          omega
    · subst e3
      refine c_numF hk hr (fun w => ?_) (fun _ => ⟨by omega, fun D5 e5 => ?_⟩)
      · simp (disch := omega) only [g_up_ne, g_up_at, g_up_eq, ne_eq, not_false_eq_true] at w
        omega
      · subst e5
        refine ⟨by omega, ?_, by omega, ?_, c_numF hk hr (fun w => ?_) (fun _ => ⟨by omega, fun D7 e7 => ?_⟩)⟩
        · rw [show ∀ A : Int, g_r A ↔ (-2147483648 ≤ A ∧ A ≤ 2147483647) from fun _ => Iff.rfl]
          simp (disch := omega) only [g_up_ne, g_up_at, g_up_eq, ne_eq, not_false_eq_true, h4]
          omega
        · rw [show ∀ A : Int, g_r A ↔ (-2147483648 ≤ A ∧ A ≤ 2147483647) from fun _ => Iff.rfl]
          simp (disch := omega) only [g_up_ne, g_up_at, g_up_eq, ne_eq, not_false_eq_true, h4]
          omega
        · simp (disch := omega) only [g_up_ne, g_up_at, g_up_eq, ne_eq, not_false_eq_true] at w
          omega
        · subst e7
          refine ⟨fun _ => kf1 z1 _ (by repeat' (first | refine x_f5.up ?_ (by omega) | exact x_f5.refl _ _ _)) (by (simp (disch := omega) only [g_up_ne, g_up_at, g_up_eq, ne_eq, not_false_eq_true, h4, h5, h7, h8]) <;> omega) (by (simp (disch := omega) only [g_up_ne, g_up_at, g_up_eq, ne_eq, not_false_eq_true, h4, h5, h7, h8]) <;> omega) (by (simp (disch := omega) only [g_up_ne, g_up_at, g_up_eq, ne_eq, not_false_eq_true, h4, h5, h7, h8]) <;> omega), fun w => ?_⟩
          simp (disch := omega) only [g_up_ne, g_up_at, g_up_eq, ne_eq, not_false_eq_true] at w
          omega
  · obtain rfl : cd = 4 := by omega
    subst e1
    have E2 : r_f2 b N p 4 = r_f b N (p + 1) 1 (40 - b p) := by simp [r_f2, r_lo2, r_hi2]
    have E3 : r_f3 b N p 4 = if p + 2 + (b (p + 1)).toNat ≤ N then 0 else 2 := by simp [r_f3]
    rw [E2] at kf2 kf3 k0'
    rw [E3] at kf3 k0'
    refine c_num hk hr (x_f5.bs (k := k) (n := n) (by repeat' (first | refine x_f5.up ?_ (by omega) | exact x_f5.refl _ _ _)) hkr hkr2 hb) (by (simp (disch := omega) only [g_up_ne, g_up_at, g_up_eq, ne_eq, not_false_eq_true, h4, h5, h7, h8]) <;> omega) (p := p) (by (simp (disch := omega) only [g_up_ne, g_up_at, g_up_eq, ne_eq, not_false_eq_true, h4, h5, h7, h8]) <;> omega) (by (simp (disch := omega) only [g_up_ne, g_up_at, g_up_eq, ne_eq, not_false_eq_true, h4, h5, h7, h8]) <;> omega) (fun z1 _ => ⟨by omega, fun D3 e3 => ?_⟩) (fun z1 _ => ⟨by omega, fun D3 e3 => ?_⟩)
    · subst e3
      have l1 := r_f_0 z1
      rw [g_up_eq]
      refine ⟨by omega, ⟨by omega, by omega⟩, c_num hk hr (x_f5.bs (k := k) (n := n) (by repeat' (first | refine x_f5.up ?_ (by omega) | exact x_f5.refl _ _ _)) hkr hkr2 hb) (by (simp (disch := omega) only [g_up_ne, g_up_at, g_up_eq, ne_eq, not_false_eq_true, h4, h5, h7, h8]) <;> omega) (p := p + 1) (by (simp (disch := omega) only [g_up_ne, g_up_at, g_up_eq, ne_eq, not_false_eq_true, h4, h5, h7, h8]) <;> omega) (by (simp (disch := omega) only [g_up_ne, g_up_at, g_up_eq, ne_eq, not_false_eq_true, h4, h5, h7, h8]) <;> omega) (fun z2 _ => ⟨by omega, fun D5 e5 => ⟨by omega, fun D7 e7 => ⟨by omega, ?_⟩⟩⟩) (fun z2 _ => ⟨by omega, fun D5 e5 => ⟨by omega, fun D7 e7 => ⟨by omega, ?_⟩⟩⟩)⟩
      · have l2 := r_f_0 z2
        have v7 : D5 k 7 = ((p + 2 : Nat) : Int) := by rw [e5]; exact (by (simp (disch := omega) only [g_up_ne, g_up_at, g_up_eq, ne_eq, not_false_eq_true, h4, h5, h7, h8]) <;> omega)
        rw [v7] at e7
        subst e5 e7
        have w4 : ∀ x y : Int, (g_up (g_up (g_up (g_up (g_up (g_up D (k + 1) n 4) k 7 ((p + 1 : Nat) : Int)) (k + 2) n (b p)) k 7 ((p + 1 + 1 : Nat) : Int)) (k + 4) n x) (k + 3) n y) (k + 4) n = x := fun x y => (by (simp (disch := omega) only [g_up_ne, g_up_at, g_up_eq, ne_eq, not_false_eq_true, h4, h5, h7, h8]) <;> omega)
        rw [w4]
        have q5 : ∀ x y : Int, (g_up (g_up (g_up (g_up (g_up (g_up D (k + 1) n 4) k 7 ((p + 1 : Nat) : Int)) (k + 2) n (b p)) k 7 ((p + 1 + 1 : Nat) : Int)) (k + 4) n x) (k + 3) n y) k 5 = 0 := fun x y => (by (simp (disch := omega) only [g_up_ne, g_up_at, g_up_eq, ne_eq, not_false_eq_true, h4, h5, h7, h8]) <;> omega)
        have q7 : ∀ x y : Int, (g_up (g_up (g_up (g_up (g_up (g_up D (k + 1) n 4) k 7 ((p + 1 : Nat) : Int)) (k + 2) n (b p)) k 7 ((p + 1 + 1 : Nat) : Int)) (k + 4) n x) (k + 3) n y) k 7 = ((p + 2 : Nat) : Int) := fun x y => (by (simp (disch := omega) only [g_up_ne, g_up_at, g_up_eq, ne_eq, not_false_eq_true, h4, h5, h7, h8]) <;> omega)
        have q8 : ∀ x y : Int, (g_up (g_up (g_up (g_up (g_up (g_up D (k + 1) n 4) k 7 ((p + 1 : Nat) : Int)) (k + 2) n (b p)) k 7 ((p + 1 + 1 : Nat) : Int)) (k + 4) n x) (k + 3) n y) k 8 = N := fun x y => (by (simp (disch := omega) only [g_up_ne, g_up_at, g_up_eq, ne_eq, not_false_eq_true, h4, h5, h7, h8]) <;> omega)
        refine s_X5_passCells hk (fun _ _ => ⟨fun w => absurd (q5 _ _) w, fun _ => ?_⟩)
        rw [q7, q8]
        refine ⟨⟨by omega, by omega⟩, fun w => ⟨⟨by omega, by omega⟩, fun D8 e8 => ?_⟩, fun w => s_X5_fail hk (fun _ _ _ D8 e8 D9 e9 => ⟨?_, fun D10 e10 => ?_⟩)⟩
        · have w' : p + 2 + (b (p + 1)).toNat ≤ N := by omega
          rw [if_pos w'] at k0'
          have ev : ((p + 2 : Nat) : Int) + b (p + 1) = ((p + 2 + (b (p + 1)).toNat : Nat) : Int) := by omega
          rw [ev] at e8
          subst e8
          refine ⟨fun w => absurd (by (simp (disch := omega) only [g_up_ne, g_up_at, g_up_eq, ne_eq, not_false_eq_true, h4, h5, h7, h8]) <;> omega) w, fun _ => ⟨?_, fun D9 e9 => ?_⟩⟩
          · rw [show ∀ A : Int, g_r A ↔ (-2147483648 ≤ A ∧ A ≤ 2147483647) from fun _ => Iff.rfl]
            simp (disch := omega) only [g_up_ne, g_up_at, g_up_eq, ne_eq, not_false_eq_true, h4]
            omega
          · subst e9
            refine k0 (k0' z1 z2 rfl) _ (by repeat' (first | refine x_f5.up ?_ (by omega) | exact x_f5.refl _ _ _)) ?_ (by (simp (disch := omega) only [g_up_ne, g_up_at, g_up_eq, ne_eq, not_false_eq_true, h4, h5, h7, h8]) <;> omega) (by (simp (disch := omega) only [g_up_ne, g_up_at, g_up_eq, ne_eq, not_false_eq_true, h4, h5, h7, h8]) <;> omega) ?_ (by (simp (disch := omega) only [g_up_ne, g_up_at, g_up_eq, ne_eq, not_false_eq_true, h4, h5, h7, h8]) <;> omega) (by rw [if_neg (by decide)]; exact (by (simp (disch := omega) only [g_up_ne, g_up_at, g_up_eq, ne_eq, not_false_eq_true, h4, h5, h7, h8]) <;> omega)) ?_ (by rw [if_pos (Or.inr rfl)]; exact (by (simp (disch := omega) only [g_up_ne, g_up_at, g_up_eq, ne_eq, not_false_eq_true, h4, h5, h7, h8]) <;> omega))
            · simp (disch := omega) only [g_up_ne, g_up_at, g_up_eq, ne_eq, not_false_eq_true, h4]
              omega
            · rw [if_pos rfl]
              exact (by (simp (disch := omega) only [g_up_ne, g_up_at, g_up_eq, ne_eq, not_false_eq_true, h4, h5, h7, h8]) <;> omega)
            · rw [if_neg (by decide), if_pos rfl]
              exact (by (simp (disch := omega) only [g_up_ne, g_up_at, g_up_eq, ne_eq, not_false_eq_true, h4, h5, h7, h8]) <;> omega)
        · subst e8 e9
          rw [show ∀ A : Int, g_r A ↔ (-2147483648 ≤ A ∧ A ≤ 2147483647) from fun _ => Iff.rfl]
          simp (disch := omega) only [g_up_ne, g_up_at, g_up_eq, ne_eq, not_false_eq_true]
          omega
        · subst e8 e9
          have v7 : ∀ x y u v : Int, (g_up (g_up (g_up (g_up (g_up (g_up (g_up (g_up D (k + 1) n 4) k 7 ((p + 1 : Nat) : Int)) (k + 2) n (b p)) k 7 ((p + 1 + 1 : Nat) : Int)) (k + 4) n x) (k + 3) n y) k 5 u) k 6 v) k 7 = ((p + 2 : Nat) : Int) := fun x y u v => (by (simp (disch := omega) only [g_up_ne, g_up_at, g_up_eq, ne_eq, not_false_eq_true, h4, h5, h7, h8]) <;> omega)
          rw [v7] at e10
          subst e10
          have w' : ¬ p + 2 + (b (p + 1)).toNat ≤ N := by omega
          rw [if_neg w', show r_w N (p + 2) 2 = N from if_pos rfl] at kf3
          refine ⟨fun _ => kf3 z1 z2 (by decide) _ (by repeat' (first | refine x_f5.up ?_ (by omega) | exact x_f5.refl _ _ _)) (by (simp (disch := omega) only [g_up_ne, g_up_at, g_up_eq, ne_eq, not_false_eq_true, h4, h5, h7, h8]) <;> omega) (by (simp (disch := omega) only [g_up_ne, g_up_at, g_up_eq, ne_eq, not_false_eq_true, h4, h5, h7, h8]) <;> omega) (by (simp (disch := omega) only [g_up_ne, g_up_at, g_up_eq, ne_eq, not_false_eq_true, h4, h5, h7, h8]) <;> omega), fun w => ?_⟩
          simp (disch := omega) only [g_up_ne, g_up_at, g_up_eq, ne_eq, not_false_eq_true] at w
          omega
      · have v7 : D5 k 7 = ((p + 1 : Nat) : Int) := by rw [e5]; exact (by (simp (disch := omega) only [g_up_ne, g_up_at, g_up_eq, ne_eq, not_false_eq_true, h4, h5, h7, h8]) <;> omega)
        rw [v7] at e7
        subst e5 e7
        refine s_X5_passCells hk (fun _ _ => ⟨fun _ => ⟨?_, fun D8 e8 => ?_⟩, fun w => ?_⟩)
        · rw [show ∀ A : Int, g_r A ↔ (-2147483648 ≤ A ∧ A ≤ 2147483647) from fun _ => Iff.rfl]
          simp (disch := omega) only [g_up_ne, g_up_at, g_up_eq, ne_eq, not_false_eq_true]
          omega
        · subst e8
          refine ⟨fun _ => kf2 z1 z2 _ (by repeat' (first | refine x_f5.up ?_ (by omega) | exact x_f5.refl _ _ _)) (by (simp (disch := omega) only [g_up_ne, g_up_at, g_up_eq, ne_eq, not_false_eq_true, h4, h5, h7, h8]) <;> omega) (by (simp (disch := omega) only [g_up_ne, g_up_at, g_up_eq, ne_eq, not_false_eq_true, h4, h5, h7, h8]) <;> omega) (by (simp (disch := omega) only [g_up_ne, g_up_at, g_up_eq, ne_eq, not_false_eq_true, h4, h5, h7, h8]) <;> omega), fun w => ?_⟩
          simp (disch := omega) only [g_up_ne, g_up_at, g_up_eq, ne_eq, not_false_eq_true] at w
          omega
        · simp (disch := omega) only [g_up_ne, g_up_at, g_up_eq, ne_eq, not_false_eq_true] at w
          omega
    · subst e3
      rw [g_up_eq]
      refine ⟨by omega, ⟨by omega, by omega⟩, c_numF hk hr (fun w => ?_) (fun _ => ⟨by omega, fun D5 e5 => ⟨by omega, fun D7 e7 => ⟨by omega, ?_⟩⟩⟩)⟩
      · simp (disch := omega) only [g_up_ne, g_up_at, g_up_eq, ne_eq, not_false_eq_true] at w
        omega
      · have v7 : D5 k 7 = ((p : Nat) : Int) := by rw [e5]; exact (by (simp (disch := omega) only [g_up_ne, g_up_at, g_up_eq, ne_eq, not_false_eq_true, h4, h5, h7, h8]) <;> omega)
        rw [v7] at e7
        subst e5 e7
        refine s_X5_passCells hk (fun _ _ => ⟨fun _ => ⟨?_, fun D8 e8 => ?_⟩, fun w => ?_⟩)
        · rw [show ∀ A : Int, g_r A ↔ (-2147483648 ≤ A ∧ A ≤ 2147483647) from fun _ => Iff.rfl]
          simp (disch := omega) only [g_up_ne, g_up_at, g_up_eq, ne_eq, not_false_eq_true, h7]
          omega
        · subst e8
          refine ⟨fun _ => kf1 z1 _ (by repeat' (first | refine x_f5.up ?_ (by omega) | exact x_f5.refl _ _ _)) (by (simp (disch := omega) only [g_up_ne, g_up_at, g_up_eq, ne_eq, not_false_eq_true, h4, h5, h7, h8]) <;> omega) (by (simp (disch := omega) only [g_up_ne, g_up_at, g_up_eq, ne_eq, not_false_eq_true, h4, h5, h7, h8]) <;> omega) (by (simp (disch := omega) only [g_up_ne, g_up_at, g_up_eq, ne_eq, not_false_eq_true, h4, h5, h7, h8]) <;> omega), fun w => ?_⟩
          simp (disch := omega) only [g_up_ne, g_up_at, g_up_eq, ne_eq, not_false_eq_true] at w
          omega
        · simp (disch := omega) only [g_up_ne, g_up_at, g_up_eq, ne_eq, not_false_eq_true] at w
          omega
end READX
end
