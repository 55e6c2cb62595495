section
/-! the model reads a patch -/
def m_f3 (D D' : g_D) : Prop := (∀ k, k ≠ 208 → D' k = D k) ∧ ∀ j, j ≠ 37 → j ≠ 38 → j ≠ 39 → D' 208 j = D 208 j
theorem m_f3.refl (D : g_D) : m_f3 D D := ⟨fun _ _ => rfl, fun _ _ _ _ => rfl⟩
theorem m_f3.trans {D D' D'' : g_D} (h : m_f3 D D') (h2 : m_f3 D' D'') : m_f3 D D'' := ⟨fun k a => (h2.1 k a).trans (h.1 k a), fun j a b c => (h2.2 j a b c).trans (h.2 j a b c)⟩
theorem m_f3.up {D D' : g_D} {j : Nat} {v : Int} (h : m_f3 D D') (hj : j = 37 ∨ j = 38 ∨ j = 39) : m_f3 D (g_up D' 208 j v) := ⟨fun k a => by rw [g_up_ne a]; exact h.1 k a, fun i a b c => by rw [g_up_at (by omega)]; exact h.2 i a b c⟩
/-- nothing but what the model has read -/
def m_frd (D D' : g_D) : Prop := (∀ k, k ≠ 208 → k ≠ 232 → k ≠ 233 → D' k = D k) ∧ ∀ j, ¬ (j = 34 ∨ j = 35 ∨ j = 37 ∨ j = 38 ∨ j = 39) → D' 208 j = D 208 j
theorem m_frd.refl (D : g_D) : m_frd D D := ⟨fun _ _ _ _ => rfl, fun _ _ => rfl⟩
theorem m_frd.trans {D D' D'' : g_D} (h : m_frd D D') (h2 : m_frd D' D'') : m_frd D D'' := ⟨fun k a b c => (h2.1 k a b c).trans (h.1 k a b c), fun j a => (h2.2 j a).trans (h.2 j a)⟩
theorem m_frd.up {D D' : g_D} {i j : Nat} {v : Int} (h : m_frd D D') (hi : i = 232 ∨ i = 233 ∨ (i = 208 ∧ (j = 34 ∨ j = 35 ∨ j = 37 ∨ j = 38 ∨ j = 39))) : m_frd D (g_up D' i j v) := ⟨fun k a b c => by rw [g_up_ne (by omega)]; exact h.1 k a b c, fun q a => by
  by_cases e : i = 208
  · rw [g_up_at (by omega)]; exact h.2 q a
  · rw [g_up_ne (by omega)]; exact h.2 q a⟩
theorem m_f3.frd {D D' : g_D} (h : m_f3 D D') : m_frd D D' := ⟨fun k a _ _ => h.1 k a, fun j a => h.2 j (by omega) (by omega) (by omega)⟩
/-- the bytes that are laid to be read -/
def m_bs (D : g_D) (b : Nat → Int) (N : Nat) : Prop := D 208 36 = N ∧ N ≤ 160 ∧ (∀ x, x < N → D 234 x = b x) ∧ ∀ x, x < N → 0 ≤ b x ∧ b x ≤ 255
theorem m_bs.fr {D D' : g_D} {b : Nat → Int} {N : Nat} (h : m_bs D b N) (h1 : D' 208 36 = D 208 36) (h2 : D' 234 = D 234) : m_bs D' b N := by unfold m_bs at *; rw [h1, h2]; exact h
section READM2
variable {E : g_E} {l : Launch} {sh : List g_Sh} {D : g_D} {b : Nat → Int} {N : Nat}
theorem c_byte {K : Int → g_D → Prop} {p : Nat} {hi : Int} (hb : m_bs D b N) (h38 : D 208 38 = 0) (h37 : D 208 37 = p) (hp : p ≤ N)
    (k0 : r_f b N p 0 hi = 0 → K (b p) (g_up D 208 37 ((p + 1 : Nat) : Int))) (k1 : r_f b N p 0 hi ≠ 0 → K 0 (g_up (g_up D 208 38 (r_f b N p 0 hi : Nat)) 208 39 (r_w N p (r_f b N p 0 hi) : Nat))) : k_X12_readByte E l D hi K := by
  obtain ⟨h36, hN, hbx, hb0⟩ := hb
  refine s_X12_readByte (fun _ _ => ⟨fun _ => ⟨fun q => ?_, fun q => ?_⟩, fun q => absurd h38 q⟩)
  · rw [h37, h36] at q
    have q' : p < N := by omega
    rw [h37, show ((p : Int) + 1 - 1).toNat = p by omega, Int.toNat_natCast, hbx p q']
    unfold r_f at k0 k1
    rw [if_pos q'] at k0 k1
    have := hb0 p q'
    refine ⟨by omega, fun w => ⟨fun _ => ⟨⟨by omega, by omega⟩, fun D1 e1 => ⟨⟨by omega, by omega⟩, by omega, ?_⟩⟩, fun w2 => absurd h38 w2⟩, fun w => s_X12_fails (fun _ _ _ => ⟨fun _ D1 e1 D2 e2 => ⟨fun w2 => ?_, fun _ => ?_⟩, fun w2 => absurd h38 w2⟩)⟩
    · rw [if_pos ⟨by omega, w⟩] at k0
      rw [e1, g_cast1]; exact k0 rfl
    · rw [e2, g_up_at (by decide), e1, g_up_eq] at w2
      exact absurd w2 (by decide)
    · rw [if_neg (by omega)] at k1
      rw [e2, e1]; exact k1 (by decide)
  · rw [h37, h36] at q
    unfold r_f at k1
    rw [if_neg (by omega)] at k1
    rw [h36]
    refine s_X12_fails (fun _ _ _ => ⟨fun _ D1 e1 D2 e2 => ⟨fun w2 => ?_, fun _ => ?_⟩, fun w2 => absurd h38 w2⟩)
    · rw [e2, g_up_at (by decide), e1, g_up_eq] at w2
      exact absurd w2 (by decide)
    · rw [e2, e1]; exact k1 (by decide)
theorem c_byteF {K : Int → g_D → Prop} {hi : Int} (h : ¬ D 208 38 = 0) (k0 : K 0 D) : k_X12_readByte E l D hi K := s_X12_readByte (fun _ _ => ⟨fun q => absurd q h, fun _ => k0⟩)
theorem c_len {K : Int → g_D → Prop} {p : Nat} {hi : Int} (hb : m_bs D b N) (h38 : D 208 38 = 0) (h37 : D 208 37 = p) (hp : p ≤ N)
    (k0 : r_f b N p 1 hi = 0 → K (b p) (g_up D 208 37 ((p + 1 : Nat) : Int))) (k1 : r_f b N p 1 hi ≠ 0 → ∀ D' : g_D, m_f3 D D' → D' 208 38 = (r_f b N p 1 hi : Nat) → D' 208 39 = (r_w N p (r_f b N p 1 hi) : Nat) → K 0 D') : k_X12_readLength E l D hi K := by
  have hb0 := hb.2.2.2
  have hN := hb.2.1
  refine s_X12_readLength (fun _ _ => c_byte hb h38 h37 hp (fun z _ => ⟨fun w => ?_, fun _ => ⟨fun w => ?_, fun w => ⟨?_, ?_⟩⟩⟩) (fun z _ => ⟨fun _ => ?_, fun w => ?_⟩))
  · rw [g_up_at (by decide)] at w; exact absurd h38 w
  · refine k0 ?_
    have z' := r_f_0 z
    unfold r_f
    rw [if_pos z'.1, if_pos ⟨by omega, z'.2.2⟩]
  · rw [g_up_eq]; exact ⟨by omega, by omega⟩
  · have z' := r_f_0 z
    have e : r_f b N p 1 hi = 3 := by unfold r_f; rw [if_pos z'.1, if_neg (by omega)]
    rw [e] at k1
    rw [g_up_eq, w]
    refine s_X12_fails (fun _ _ _ => ⟨fun _ D1 e1 D2 e2 => k1 (by decide) D2 ?_ ?_ ?_, fun w2 => ?_⟩)
    · rw [e2, e1]; exact (((m_f3.refl D).up (by omega)).up (by omega)).up (by omega)
    · rw [e2, g_up_at (by decide), e1, g_up_eq]; rfl
    · rw [e2, g_up_eq]; unfold r_w; rw [if_neg (by decide)]; omega
    · rw [g_up_at (by decide)] at w2; exact absurd h38 w2
  · have e : r_f b N p 1 hi = r_f b N p 0 hi := by
      unfold r_f at *
      by_cases q : p < N
      · rw [if_pos q] at z ⊢
        rw [if_pos q]
        have := hb0 p q
        have q2 : ¬ (0 ≤ b p ∧ b p ≤ hi) := fun w => by rw [if_pos w] at z; exact z rfl
        rw [if_neg q2, if_neg (by omega)]
      · rw [if_neg q, if_neg q]
    rw [e] at k1
    exact k1 z _ (((m_f3.refl D).up (by omega)).up (by omega)) (by rw [g_up_at (by decide), g_up_eq]) (by rw [g_up_eq])
  · rw [g_up_at (by decide), g_up_eq] at w
    omega
theorem c_lenF {K : Int → g_D → Prop} {hi : Int} (h : ¬ D 208 38 = 0) (k0 : K 0 D) : k_X12_readLength E l D hi K := s_X12_readLength (fun _ _ => c_byteF h (fun _ => ⟨fun _ => k0, fun q => absurd q h⟩))
theorem c_place {K : Int → g_D → Prop} {p : Nat} {len : Int} (hl : 1 ≤ len ∧ len ≤ 20) (hb : m_bs D b N) (h38 : D 208 38 = 0) (h37 : D 208 37 = p) (hp : p ≤ N)
    (k0 : r_f b N p 0 (20 - len) = 0 → K (b p) (g_up D 208 37 ((p + 1 : Nat) : Int))) (k1 : r_f b N p 0 (20 - len) ≠ 0 → ∀ (v : Int) (D' : g_D), m_f3 D D' → D' 208 38 = (r_f b N p 0 (20 - len) : Nat) → D' 208 39 = (r_w N p (r_f b N p 0 (20 - len)) : Nat) → K v D') : k_X12_readPlace E l D len K := by
  have hb0 := hb.2.2.2
  have hN := hb.2.1
  refine s_X12_readPlace (fun _ _ => c_byte hb h38 h37 hp (fun z _ => ⟨fun w => ?_, fun _ => ⟨?_, fun w => ?_, fun w => ⟨?_, ?_⟩⟩⟩) (fun z _ => ⟨fun _ => ?_, fun w => ?_⟩))
  · rw [g_up_at (by decide)] at w; exact absurd h38 w
  · have z' := r_f_0 z; exact ⟨by omega, by omega⟩
  · refine k0 ?_
    have z' := r_f_0 z
    unfold r_f
    rw [if_pos z'.1, if_pos ⟨by omega, by omega⟩]
  · rw [g_up_eq]; exact ⟨by omega, by omega⟩
  · have z' := r_f_0 z
    have e : r_f b N p 0 (20 - len) = 3 := by unfold r_f; rw [if_pos z'.1, if_neg (by omega)]
    rw [e] at k1
    rw [g_up_eq]
    refine s_X12_fails (fun _ _ _ => ⟨fun _ D1 e1 D2 e2 => k1 (by decide) _ D2 ?_ ?_ ?_, fun w2 => ?_⟩)
    · rw [e2, e1]; exact (((m_f3.refl D).up (by omega)).up (by omega)).up (by omega)
    · rw [e2, g_up_at (by decide), e1, g_up_eq]; rfl
    · rw [e2, g_up_eq]; unfold r_w; rw [if_neg (by decide)]; omega
    · rw [g_up_at (by decide)] at w2; exact absurd h38 w2
  · have e : r_f b N p 0 (20 - len) = r_f b N p 0 19 := by
      unfold r_f at *
      by_cases q : p < N
      · rw [if_pos q] at z ⊢
        rw [if_pos q]
        have := hb0 p q
        have q2 : ¬ (0 ≤ b p ∧ b p ≤ 19) := fun w => by rw [if_pos w] at z; exact z rfl
        rw [if_neg q2, if_neg (by omega)]
      · rw [if_neg q, if_neg q]
    rw [e] at k1
    exact k1 z _ _ (((m_f3.refl D).up (by omega)).up (by omega)) (by rw [g_up_at (by decide), g_up_eq]) (by rw [g_up_eq])
  · rw [g_up_at (by decide), g_up_eq] at w
    omega
theorem c_placeF {K : Int → g_D → Prop} {len : Int} (h : ¬ D 208 38 = 0) (k0 : K 0 D) : k_X12_readPlace E l D len K := s_X12_readPlace (fun _ _ => c_byteF h (fun _ => ⟨fun _ => k0, fun q => absurd q h⟩))
/-- an act is laid down -/
theorem l_m205 {K : g_D → Prop} {n : Nat} {v1 v2 v3 v5 v6 : Int} (hn : n < 36) (h34 : D 208 34 = n) (hv : v5 ≤ v6 ∨ ¬ v1 = 4)
    (kk : ∀ D' : g_D, D' = g_up (g_up (g_up (g_up (g_up D 232 (4 * n) v1) 232 (4 * n + 1) v2) 232 (4 * n + 2) v3) 232 (4 * n + 3) v5) 208 34 ((n + 1 : Nat) : Int) → K D') :
    n_X12_readAct E l D 205 [some (g_R 208), some (g_I v1), some (g_I v2), some (g_I v3), none, some (g_I v5), some (g_I v6), none] K := by
  refine s_X12_readAct_205 (fun _ _ _ _ _ _ => ?_)
  rw [h34, show (4 * (n : Int) + 0).toNat = 4 * n by omega, show (4 * (n : Int) + 1).toNat = 4 * n + 1 by omega, show (4 * (n : Int) + 2).toNat = 4 * n + 2 by omega, show (4 * (n : Int) + 3).toNat = 4 * n + 3 by omega, g_cast1]
  have go : (g_r (4 * (n : Int))) ∧ ((g_r ((4 * (n : Int)) + 0)) ∧ ((0 ≤ ((4 * (n : Int)) + 0) ∧ ((4 * (n : Int)) + 0) < 144) ∧ (∀ D1, D1 = g_up D 232 (4 * n) v1 → ((g_r (4 * (n : Int))) ∧ ((g_r ((4 * (n : Int)) + 1)) ∧ ((0 ≤ ((4 * (n : Int)) + 1) ∧ ((4 * (n : Int)) + 1) < 144) ∧ (∀ D2, D2 = g_up D1 232 (4 * n + 1) v2 → ((g_r (4 * (n : Int))) ∧ ((g_r ((4 * (n : Int)) + 2)) ∧ ((0 ≤ ((4 * (n : Int)) + 2) ∧ ((4 * (n : Int)) + 2) < 144) ∧ (∀ D3, D3 = g_up D2 232 (4 * n + 2) v3 → ((g_r (4 * (n : Int))) ∧ ((g_r ((4 * (n : Int)) + 3)) ∧ ((0 ≤ ((4 * (n : Int)) + 3) ∧ ((4 * (n : Int)) + 3) < 144) ∧ (∀ D4, D4 = g_up D3 232 (4 * n + 3) v5 → ((g_r ((n + 1 : Nat) : Int)) ∧ (∀ D5, D5 = g_up D4 208 34 ((n + 1 : Nat) : Int) → (K D5)))))))))))))))))) :=
    ⟨⟨by omega, by omega⟩, ⟨by omega, by omega⟩, by omega, fun D1 e1 => ⟨⟨by omega, by omega⟩, ⟨by omega, by omega⟩, by omega, fun D2 e2 => ⟨⟨by omega, by omega⟩, ⟨by omega, by omega⟩, by omega, fun D3 e3 => ⟨⟨by omega, by omega⟩, ⟨by omega, by omega⟩, by omega, fun D4 e4 => ⟨⟨by omega, by omega⟩, fun D5 e5 => kk D5 (by rw [e5, e4, e3, e2, e1])⟩⟩⟩⟩⟩
  refine ⟨fun _ => go, fun w => ⟨fun _ => go, fun w2 => ?_⟩⟩
  rcases hv with q | q
  · exact absurd q w
  · exact absurd w2 q
end READM2
end
