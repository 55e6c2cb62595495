section
theorem r_Q_le {b : Nat → Int} : ∀ i, r_Q b i ≤ r_P b i
  | 0 => by rw [r_Q, r_P]; omega
  | i + 1 => by
    have := r_Q_le (b := b) i
    rw [r_Q_S, r_P_S]
    split <;> omega
/-- what the model has read -/
def m_rdA (D : g_D) (n : Nat) (b : Nat → Int) : Prop := ∀ i, i < n → D 232 (4 * i) = a_k b i ∧ D 232 (4 * i + 1) = a_to b i ∧ D 232 (4 * i + 2) = a_fr b i ∧ D 232 (4 * i + 3) = a_ln b i ∧ (a_k b i = 4 → ∀ t, t < (a_ln b i).toNat → D 233 (r_Q b i + t) = b (r_P b i + 3 + t))
theorem r_Q_mono {b : Nat → Int} {i : Nat} : ∀ {n : Nat}, i ≤ n → r_Q b i ≤ r_Q b n
  | 0, h => by rw [show i = 0 by omega]; exact Nat.le_refl _
  | n + 1, h => by
    by_cases e : i = n + 1
    · rw [e]; exact Nat.le_refl _
    · exact Nat.le_trans (r_Q_mono (n := n) (by omega)) (by rw [r_Q_S]; exact Nat.le_add_right _ _)
theorem r_bd_36 {b : Nat → Int} {N : Nat} : r_bd b N 36 ≠ 0 := by unfold r_bd; split; rw [if_pos rfl]; decide; decide
section READM4
variable {E : g_E} {l : Launch} {sh : List g_Sh} {D : g_D} {b : Nat → Int} {N : Nat}
theorem c_X12_readAct {K : g_D → Prop} {i : Nat} (hi : i ≤ 36) (hP : r_P b i < N) (hb : m_bs D b N) (h38 : D 208 38 = 0) (h37 : D 208 37 = r_P b i) (h34 : D 208 34 = i) (h35 : D 208 35 = r_Q b i) (hA : m_rdA D i b)
    (kf : r_bd b N i ≠ 0 → ∀ D' : g_D, m_frd D D' → D' 208 38 = (r_bd b N i : Nat) → D' 208 39 = (r_bp b N i : Nat) → K D')
    (k0 : r_bd b N i = 0 → ∀ D' : g_D, m_frd D D' → D' 208 36 = N → D' 208 38 = 0 → D' 208 37 = r_P b (i + 1) → D' 208 34 = ((i + 1 : Nat) : Int) → D' 208 35 = r_Q b (i + 1) → m_rdA D' (i + 1) b → K D') : k_X12_readAct E l D K := by
  have hN := hb.2.1
  have kv : a_k b i = b (r_P b i) := rfl
  have e0 : D 234 (r_P b i) = b (r_P b i) := hb.2.2.1 _ hP
  have hk := hb.2.2.2 _ hP
  have fail : ∀ (v : Nat) (K' : g_D → Prop), v ≠ 0 → (∀ D' : g_D, m_frd D D' → ¬ D' 208 38 = 0 → D' 208 38 = (v : Nat) → D' 208 39 = (r_P b i : Nat) → K' D') → k_X12_fails E l D v ((r_P b i : Nat) : Int) K' := by
    intro v K' hv k
    refine s_X12_fails (fun _ _ _ => ⟨fun _ D1 e1 D2 e2 => k D2 ?_ ?_ ?_ ?_, fun q => absurd h38 q⟩)
    · rw [e2, e1]; exact ((m_frd.refl D).up (by omega)).up (by omega)
    · rw [e2, g_up_at (by decide), e1, g_up_eq]; omega
    · rw [e2, g_up_at (by decide), e1, g_up_eq]
    · rw [e2, g_up_eq]
  have dead : ∀ (D' : g_D) (v : Int), ¬ D' 208 38 = 0 → K D' → n_X12_readAct E l D' 52 [some (g_R 208), some (g_I v), none, none, none, none, none, none] K := fun D' v h k => s_X12_readAct_52 (fun _ _ => ⟨fun q => absurd q h, fun _ => k⟩)
  refine s_X12_readAct (fun _ => ?_)
  rw [h37, Int.toNat_natCast, e0]
  refine ⟨by omega, c_X12_within ⟨fun w _ => ⟨fun _ => ⟨fun w2 => ?_, fun w2 => ?_⟩, fun q => absurd q (by decide)⟩, fun w _ => ⟨fun q => absurd rfl q, fun _ => ?_⟩⟩⟩
  · rw [h34] at w2
    have hbd : r_bd b N i = r_fc b N (r_P b i + 1) (b (r_P b i)) := by unfold r_bd; rw [kv, if_pos w, if_neg (by omega)]
    have hbp : r_bp b N i = r_fp b N (r_P b i + 1) (b (r_P b i)) := by unfold r_bp; rw [kv, if_pos w, if_neg (by omega)]
    rw [hbd, hbp] at kf
    rw [hbd] at k0
    have hQ := r_Q_le (b := b) i
    refine l_m52 (b := b) (N := N) (p := r_P b i + 1) (n := i) (d := r_Q b i) w (by omega) (by omega) (by omega) hb h38 (by rw [h37]; omega) h34 h35 kf (fun z D' to fr ln f x38 x37 x34 x35 eto efr eln x232 x233 x4 => k0 z D' f ?_ x38 ?_ x34 ?_ (fun j hj => ?_))
    · rw [f.2 36 (by decide)]; exact hb.1
    · rw [x37, r_P_S]
      by_cases e : b (r_P b i) = 4
      · rw [if_pos e, if_pos e, show r_P b i + 1 + 1 = r_P b i + 2 from rfl]; omega
      · rw [if_neg e, if_neg e]
    · rw [x35, r_Q_S]
      by_cases e : b (r_P b i) = 4
      · rw [if_pos e, if_pos e]
      · rw [if_neg e, if_neg e]; omega
    · by_cases e : j = i
      · subst e
        rw [x232]
        refine ⟨?_, ?_, ?_, ?_, fun q t ht => ?_⟩
        · simp (disch := omega) only [g_up_at, g_up_eq, ne_eq, not_false_eq_true]; rfl
        · simp (disch := omega) only [g_up_at, g_up_eq, ne_eq, not_false_eq_true]; exact eto
        · simp (disch := omega) only [g_up_at, g_up_eq, ne_eq, not_false_eq_true]; exact efr
        · simp (disch := omega) only [g_up_at, g_up_eq, ne_eq, not_false_eq_true]; exact eln
        · unfold a_ln at ht
          rw [if_pos (Or.inr q)] at ht
          exact x4 q t ht
      · obtain ⟨a1, a2, a3, a4, a5⟩ := hA j (by omega)
        rw [x232]
        simp (disch := omega) only [g_up_at, ne_eq, not_false_eq_true]
        refine ⟨a1, a2, a3, a4, fun q t ht => ?_⟩
        have hm : r_Q b (j + 1) ≤ r_Q b i := r_Q_mono (by omega)
        rw [r_Q_S] at hm
        have q' : b (r_P b j) = 4 := q
        rw [if_pos q'] at hm
        have ht' := ht
        unfold a_ln at ht'
        rw [if_pos (Or.inr q)] at ht'
        rw [x233 _ (by omega)]
        exact a5 q t ht
  · rw [h34] at w2
    rw [h37]
    have hbd : r_bd b N i = 4 := by unfold r_bd; rw [kv, if_pos w, if_pos (by omega)]
    have hbp : r_bp b N i = r_P b i := by unfold r_bp; rw [kv, if_pos w, if_pos (by omega)]
    rw [hbd, hbp] at kf
    exact fail 4 _ (by decide) (fun D' f h a1 a2 => dead D' _ h (kf (by decide) D' f a1 a2))
  · rw [h37]
    have hbd : r_bd b N i = 1 := by unfold r_bd; rw [kv, if_neg w]
    have hbp : r_bp b N i = r_P b i := by unfold r_bp; rw [kv, if_neg w]
    rw [hbd, hbp] at kf
    exact fail 1 _ (by decide) (fun D' f h a1 a2 => dead D' _ h (kf (by decide) D' f a1 a2))
/-- the bytes are read as acts: the model -/
theorem c_X12_readsPatch {K : g_D → Prop} (hN : N ≤ 160) (hbx : ∀ x, x < N → D 234 x = b x) (hb0 : ∀ x, x < N → 0 ≤ b x ∧ b x ≤ 255)
    (kk : ∀ D' : g_D, m_frd (g_up D 208 36 N) D' → D' 208 38 = (r_all b N).2.1 → (¬ (r_all b N).2.1 = 0 → D' 208 39 = (r_all b N).2.2) → ((r_all b N).2.1 = 0 → D' 208 34 = (r_all b N).1 ∧ D' 208 35 = r_Q b (r_all b N).1 ∧ m_rdA D' (r_all b N).1 b) → K D') : k_X12_readsPatch E l D N K := by
  have loopF : ∀ D' : g_D, ¬ D' 208 38 = 0 → K D' → n_X12_readsPatch E l D' 32 [some (g_R 208), none] K := fun D' h k => s_X12_readsPatch_32 (fun _ => ⟨fun _ => k, fun q => absurd q h⟩)
  have loop : ∀ (R : Nat × Nat × Int), (∀ D' : g_D, m_frd (g_up D 208 36 N) D' → D' 208 38 = R.2.1 → (¬ R.2.1 = 0 → D' 208 39 = R.2.2) → (R.2.1 = 0 → D' 208 34 = R.1 ∧ D' 208 35 = r_Q b R.1 ∧ m_rdA D' R.1 b) → K D') → ∀ (f i : Nat) (D1 : g_D), i + f = 37 → i ≤ 36 → r_go b N f i = R → m_frd (g_up D 208 36 N) D1 → D1 208 36 = N → D1 208 38 = 0 → D1 208 37 = r_P b i → D1 208 34 = i → D1 208 35 = r_Q b i → m_rdA D1 i b → n_X12_readsPatch E l D1 32 [some (g_R 208), none] K := by
    intro R kR f
    induction f with
    | zero =>
      intro i D1 hf hi36 hR f1 h36 h38 h37 h34 h35 hA
      omega
    | succ f ih =>
      intro i D1 hf hi36 hR f1 h36 h38 h37 h34 h35 hA
      rw [r_go] at hR
      have hb1 : m_bs D1 b N := ⟨h36, hN, by rw [f1.1 234 (by decide) (by decide) (by decide), g_up_ne (by decide)]; exact hbx, hb0⟩
      refine s_X12_readsPatch_32 (fun _ => ⟨fun q => absurd h38 q, fun _ => ⟨fun q => ?_, fun q => ?_⟩⟩)
      · rw [if_pos (by omega)] at hR
        subst hR
        exact kR D1 f1 h38 (fun q => absurd rfl q) (fun _ => ⟨h34, h35, hA⟩)
      · rw [if_neg (by omega)] at hR
        refine c_X12_readAct (i := i) (by omega) (by omega) hb1 h38 h37 h34 h35 hA (fun z D2 f2 x38 x39 => ?_) (fun z D2 f2 x36 x38 x37 x34 x35 hA2 => ?_)
        · rw [if_pos z] at hR
          subst hR
          exact loopF D2 (by rw [x38]; omega) (kR D2 (f1.trans f2) x38 (fun _ => x39) (fun q => absurd q z))
        · rw [if_neg (fun q => q z)] at hR
          have hne : i ≠ 36 := fun e => by rw [e] at z; exact r_bd_36 z
          exact ih (i + 1) D2 (by omega) (by omega) hR (f1.trans f2) x36 x38 x37 x34 x35 hA2
  refine s_X12_readsPatch (fun _ _ D1 e1 D2 e2 D3 e3 D4 e4 D5 e5 => ?_)
  have f5 : m_frd (g_up D 208 36 N) D5 := by rw [e5, e4, e3, e2, e1]; exact ((((m_frd.refl _).up (by omega)).up (by omega)).up (by omega)).up (by omega)
  have z38 : D5 208 38 = 0 := by rw [e5, g_up_eq]
  have z37 : D5 208 37 = ((0 : Nat) : Int) := by rw [e5, e4, e3, e2]; simp (disch := omega) only [g_up_at, g_up_eq, ne_eq, not_false_eq_true]; rfl
  have z36 : D5 208 36 = N := by rw [e5, e4, e3, e2, e1]; simp (disch := omega) only [g_up_at, g_up_eq, ne_eq, not_false_eq_true]
  have z34 : D5 208 34 = 0 := by rw [e5, e4, e3]; simp (disch := omega) only [g_up_at, g_up_eq, ne_eq, not_false_eq_true]
  have z35 : D5 208 35 = 0 := by rw [e5, e4]; simp (disch := omega) only [g_up_at, g_up_eq, ne_eq, not_false_eq_true]
  unfold r_all at kk
  have hb5 : m_bs D5 b N := ⟨z36, hN, by rw [f5.1 234 (by decide) (by decide) (by decide), g_up_ne (by decide)]; exact hbx, hb0⟩
  refine c_byte hb5 z38 z37 (Nat.zero_le _) (fun z _ => ?_) (fun z _ => ?_)
  · rw [if_neg (fun q => q z)] at kk
    exact loop _ kk 37 0 _ rfl (by decide) rfl (f5.up (by omega)) (by rw [g_up_at (by decide)]; exact z36) (by rw [g_up_at (by decide)]; exact z38) (by rw [g_up_eq]; rfl) (by rw [g_up_at (by decide)]; exact z34) (by rw [g_up_at (by decide)]; exact z35) (fun i hi => absurd hi (Nat.not_lt_zero i))
  · rw [if_pos z] at kk
    exact loopF _ (by rw [g_up_at (by decide), g_up_eq]; omega) (kk _ ((f5.up (by omega)).up (by omega)) (by rw [g_up_at (by decide), g_up_eq]) (fun _ => by rw [g_up_eq]) (fun q => absurd q z))
end READM4
end
