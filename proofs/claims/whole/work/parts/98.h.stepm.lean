section
/-! the steps of the model -/
def tq_w (b : Nat → Int) (i c : Nat) : Bool := decide (¬ a_k b i = 1 ∧ n_to b i ≤ c ∧ c < n_to b i + n_ln b i)
def tq_B (b : Nat → Int) (i k : Nat) : Bool := decide (¬ a_k b i = 1 ∧ t_f b i ≤ k ∧ k ≤ t_l b i)
theorem tq_B_any {b : Nat → Int} {N i k : Nat} (h : r_okN b N i) : tq_B b i k = m_any (fun q => tq_w b i (4 * k + q)) 4 := by
  obtain ⟨h1, h2, h3, h4, h5, h6, h7, _⟩ := h
  rw [Bool.eq_iff_iff, m_any_iff]
  unfold tq_B tq_w t_f t_l
  rw [decide_eq_true_iff]
  constructor
  · rintro ⟨a1, a2, a3⟩
    refine ⟨max (4 * k) (n_to b i) - 4 * k, by omega, ?_⟩
    rw [decide_eq_true_iff]
    exact ⟨a1, by omega, by omega⟩
  · rintro ⟨q, q1, q2⟩
    rw [decide_eq_true_iff] at q2
    exact ⟨q2.1, by omega, by omega⟩
/-- nothing but the model's list of steps -/
def m_fsm (D D' : g_D) : Prop := (∀ k, k ≠ 208 → k ≠ 235 → k ≠ 236 → D' k = D k) ∧ ∀ j, j ≠ 46 → D' 208 j = D 208 j
theorem m_fsm.refl (D : g_D) : m_fsm D D := ⟨fun _ _ _ _ => rfl, fun _ _ => rfl⟩
theorem m_fsm.trans {D D' D'' : g_D} (h : m_fsm D D') (h2 : m_fsm D' D'') : m_fsm D D'' := ⟨fun k a b c => (h2.1 k a b c).trans (h.1 k a b c), fun j a => (h2.2 j a).trans (h.2 j a)⟩
theorem m_fsm.act {D D' : g_D} {b : Nat → Int} {n : Nat} (h : m_fsm D D') (ha : m_act D b n) : m_act D' b n := by unfold m_act at *; rw [h.1 209 (by decide) (by decide) (by decide)]; exact ha
section STEPM
variable {E : g_E} {l : Launch} {sh : List g_Sh} {D : g_D} {b : Nat → Int} {N n : Nat}
theorem c_now0 {K : Int → g_D → Prop} {i : Nat} (h : m_act D b n) (hn : n ≤ 36) (hi : i < n) (k : K (a_k b i) D) : k_X12_actNow E l D i 0 K := by
  refine s_X12_actNow (fun _ _ _ => ⟨⟨by omega, by omega⟩, ⟨by omega, by omega⟩, ⟨by omega, by omega⟩, by omega, ?_⟩)
  rw [show (214 + 4 * (i : Int) + 0).toNat = 214 + 4 * i by omega, (h.2 i hi).1]; exact k
theorem c_now1 {K : Int → g_D → Prop} {i : Nat} (h : m_act D b n) (hn : n ≤ 36) (hi : i < n) (k : K (a_to b i) D) : k_X12_actNow E l D i 1 K := by
  refine s_X12_actNow (fun _ _ _ => ⟨⟨by omega, by omega⟩, ⟨by omega, by omega⟩, ⟨by omega, by omega⟩, by omega, ?_⟩)
  rw [show (214 + 4 * (i : Int) + 1).toNat = 214 + 4 * i + 1 by omega, (h.2 i hi).2.1]; exact k
theorem c_now2 {K : Int → g_D → Prop} {i : Nat} (h : m_act D b n) (hn : n ≤ 36) (hi : i < n) (k : K (a_fr b i) D) : k_X12_actNow E l D i 2 K := by
  refine s_X12_actNow (fun _ _ _ => ⟨⟨by omega, by omega⟩, ⟨by omega, by omega⟩, ⟨by omega, by omega⟩, by omega, ?_⟩)
  rw [show (214 + 4 * (i : Int) + 2).toNat = 214 + 4 * i + 2 by omega, (h.2 i hi).2.2.1]; exact k
theorem c_now3 {K : Int → g_D → Prop} {i : Nat} (h : m_act D b n) (hn : n ≤ 36) (hi : i < n) (k : K (a_ln b i) D) : k_X12_actNow E l D i 3 K := by
  refine s_X12_actNow (fun _ _ _ => ⟨⟨by omega, by omega⟩, ⟨by omega, by omega⟩, ⟨by omega, by omega⟩, by omega, ?_⟩)
  rw [show (214 + 4 * (i : Int) + 3).toNat = 214 + 4 * i + 3 by omega, (h.2 i hi).2.2.2.1]; exact k
theorem r_okN.le {i : Nat} (h : r_okN b N i) : n_to b i + n_ln b i ≤ 40 ∧ (¬ a_k b i = 4 → n_fr b i + n_ln b i ≤ 40) := by
  obtain ⟨o1, o2, o3, o4, o5, o6, o7, k1, k2, k3, k4, k5, k6⟩ := h
  by_cases q1 : a_k b i = 1
  · have := k1 q1; omega
  · by_cases q2 : a_k b i = 2
    · have := k2 q2; omega
    · by_cases q3 : a_k b i = 3
      · have := k3 q3; omega
      · have := k4 (by omega); omega
theorem c_writes {K : Int → g_D → Prop} {i c : Nat} (h : m_act D b n) (hn : n ≤ 36) (hi : i < n) (ok : r_okN b N i) (k : K (g_b (tq_w b i c)) D) : k_X12_writes E l D i c K := by
  have hle := ok.le
  obtain ⟨o1, o2, o3, o4, o5, o6, o7, k1, k2, k3, k4, k5, k6⟩ := ok
  unfold tq_w at k
  refine s_X12_writes (fun _ _ _ => c_now0 h hn hi (fun _ => ⟨fun w => ?_, fun w => c_now1 h hn hi (fun _ => c_now1 h hn hi (fun _ => c_now3 h hn hi (fun _ => ⟨⟨by omega, by omega⟩, ⟨by omega, by omega⟩, c_X12_within ⟨fun z _ => ⟨fun q => absurd q (by decide), fun _ => ?_⟩, fun z _ => ⟨fun _ => ?_, fun q => absurd rfl q⟩⟩⟩)))⟩))
  · rw [decide_eq_false (fun q => q.1 w)] at k; exact k
  · rw [decide_eq_true ⟨w, by omega, by omega⟩] at k; exact k
  · rw [decide_eq_false (fun q => z ⟨by omega, by omega⟩)] at k; exact k
theorem c_writesBlock {K : Int → g_D → Prop} {i c : Nat} (h : m_act D b n) (hn : n ≤ 36) (hi : i < n) (hc : c ≤ 9) (ok : r_okN b N i) (k : K (g_b (tq_B b i c)) D) : k_X12_writesBlock E l D i c K := by
  have key : ∀ q t : Nat, 4 - t = q → t ≤ 4 → n_X12_writesBlock E l D 5 [some (g_R 208), some (g_I i), some (g_I c), some (g_I (g_b (m_any (fun q => tq_w b i (4 * c + q)) t))), some (g_I t)] K := by
    intro q
    induction q with
    | zero =>
      intro t hq ht
      obtain rfl : t = 4 := by omega
      refine s_X12_writesBlock_5 (fun _ _ _ _ _ => ⟨fun _ => ⟨?_, ?_⟩, fun w => (by omega : False).elim⟩)
      · cases m_any (fun q => tq_w b i (4 * c + q)) 4
        · exact Or.inl rfl
        · exact Or.inr rfl
      · rw [← tq_B_any ok]; exact k
    | succ q ih =>
      intro t hq ht
      have ih' := ih (t + 1) (by omega) (by omega)
      refine s_X12_writesBlock_5 (fun _ _ _ _ _ => ⟨fun w => (by omega : False).elim, fun _ => ⟨⟨by omega, by omega⟩, ⟨by omega, by omega⟩, ?_⟩⟩)
      rw [show 4 * (c : Int) + t = ((4 * c + t : Nat) : Int) by omega]
      refine c_writes h hn hi ok (fun _ => ⟨⟨by omega, by omega⟩, ?_⟩)
      rw [g_b_or, g_cast1]
      exact ih'
  exact s_X12_writesBlock (fun _ _ _ => key 4 0 rfl (Nat.zero_le _))
theorem c_X12_laysStep {K : g_D → Prop} {c : Nat} {v1 v2 : Int} (h : D 208 46 = c) (hc : c < 400) (kk : ∀ D' : g_D, D' = g_up (g_up (g_up D 235 c v1) 236 c v2) 208 46 ((c + 1 : Nat) : Int) → K D') : k_X12_laysStep E l D v1 v2 K := by
  refine s_X12_laysStep (fun _ _ _ => ?_)
  rw [h, Int.toNat_natCast]
  exact ⟨by omega, fun D1 e1 => ⟨by omega, fun D2 e2 => ⟨⟨by omega, by omega⟩, fun D3 e3 => kk D3 (by rw [e3, e2, e1, g_cast1])⟩⟩⟩
theorem c_stepM {K : g_D → Prop} {D0 : g_D} {i j : Nat} {v : Int} (f : m_fsm D0 D) (h : m_st D b n (t_o b i + j)) (hi : i < n) (hj : j < t_len b i) (hc : t_o b i + j < 360) (hv : v = t_bk b i j) (kk : ∀ D' : g_D, m_fsm D0 D' → m_st D' b n (t_o b i + (j + 1)) → K D') : k_X12_laysStep E l D i v K := by
  obtain ⟨e1, e2⟩ := t_sb_eq hi hj
  refine c_X12_laysStep h.1 (by omega) (fun D' e => kk D' (f.trans ⟨fun k a b c => ?_, fun q a => ?_⟩) ⟨?_, fun s hs => ?_⟩)
  · rw [e]; simp (disch := omega) only [g_up_ne, ne_eq, not_false_eq_true]
  · rw [e, g_up_at a]; simp (disch := omega) only [g_up_ne, ne_eq, not_false_eq_true]
  · rw [e, g_up_eq]; rfl
  · rw [e]
    simp (disch := omega) only [g_up_ne, ne_eq, not_false_eq_true]
    by_cases q : s = t_o b i + j
    · subst q
      rw [g_up_eq, g_up_eq, e1, e2]
      exact ⟨rfl, hv⟩
    · rw [g_up_at q, g_up_at q, g_up_ne (by decide)]
      exact h.2 s (by omega)
theorem l_laysSteps68 {K : Int → g_D → Prop} {D0 : g_D} {i : Nat} {dn : Int} (hA : ∀ i, i < n → r_okN b N i) (hn : n ≤ 36) (hi : i < n) (hk : ¬ a_k b i = 1) (h0 : m_act D0 b n) (d0 : dn = 0 → ¬ (a_k b i = 2 ∧ a_fr b i < a_to b i)) (d1 : ¬ dn = 0 → (a_k b i = 2 ∧ a_fr b i < a_to b i))
    (kk : ∀ D' : g_D, m_fsm D0 D' → m_st D' b n (t_o b (i + 1)) → n_X12_laysSteps E l D' 7 [some (g_R 208), some (g_I ((i : Int) + 1)), none, none, none] K) :
    ∀ (q k : Nat) (D1 : g_D), 10 - k = q → k ≤ 10 → m_fsm D0 D1 → m_st D1 b n (t_o b i + min (t_len b i) (k - (if dn = 0 then t_f b i else 9 - t_l b i))) → n_X12_laysSteps E l D1 68 [some (g_R 208), some (g_I i), some (g_I dn), some (g_I k), none] K := by
  have ok := hA i hi
  have hrng := t_l_rng ok
  have hl9 := hrng.2 hk
  have eL : t_len b i = t_l b i - t_f b i + 1 := by unfold t_len; rw [if_neg hk]
  have hcnt : t_o b n ≤ 360 := by have := t_o_le hA; omega
  have hnx : t_o b (i + 1) ≤ t_o b n := t_o_mono hi
  rw [t_o_S] at hnx
  intro q
  induction q with
  | zero =>
    intro k D1 hq hk' f1 h1
    obtain rfl : k = 10 := by omega
    refine s_X12_laysSteps_68 (fun _ _ _ _ => ⟨fun _ => ⟨⟨by omega, by omega⟩, kk D1 f1 ?_⟩, fun w => (by omega : False).elim⟩)
    rw [t_o_S]
    have e : min (t_len b i) (10 - (if dn = 0 then t_f b i else 9 - t_l b i)) = t_len b i := by split <;> omega
    rw [e] at h1; exact h1
  | succ q ih =>
    intro k D1 hq hk' f1 h1
    have go : ∀ (v : Nat), v ≤ 9 → (v : Int) = (if dn = 0 then (k : Int) else 9 - (k : Int)) → k_X12_writesBlock E l D1 i v (fun x1 D1 => g_r x1 → (x1 = 0 → (g_r ((k : Int) + 1)) ∧ (n_X12_laysSteps E l D1 68 [some (g_R 208), some (g_I i), some (g_I dn), some (g_I ((k : Int) + 1)), none] K)) ∧ (¬ x1 = 0 → k_X12_laysStep E l D1 i v (fun D2 => (g_r ((k : Int) + 1)) ∧ (n_X12_laysSteps E l D2 68 [some (g_R 208), some (g_I i), some (g_I dn), some (g_I ((k : Int) + 1)), none] K)))) := by
      intro v hv ev
      refine c_writesBlock (f1.act h0) hn hi hv ok (fun _ => ⟨fun w => ⟨⟨by omega, by omega⟩, ?_⟩, fun w => ?_⟩)
      · rw [g_cast1]
        refine ih (k + 1) D1 (by omega) (by omega) f1 ?_
        have w := g_b_0.mp w
        unfold tq_B at w
        rw [decide_eq_false_iff_not] at w
        have w' : ¬ (t_f b i ≤ v ∧ v ≤ t_l b i) := fun z => w ⟨hk, z⟩
        have e : min (t_len b i) (k + 1 - (if dn = 0 then t_f b i else 9 - t_l b i)) = min (t_len b i) (k - (if dn = 0 then t_f b i else 9 - t_l b i)) := by
          split at ev
          · rename_i z; rw [if_pos z]; omega
          · rename_i z; rw [if_neg z]; omega
        rw [e]; exact h1
      · have w := g_b_n0.mp w
        unfold tq_B at w
        rw [decide_eq_true_iff] at w
        have e : min (t_len b i) (k - (if dn = 0 then t_f b i else 9 - t_l b i)) + 1 = min (t_len b i) (k + 1 - (if dn = 0 then t_f b i else 9 - t_l b i)) := by
          split at ev
          · rename_i z; rw [if_pos z]; omega
          · rename_i z; rw [if_neg z]; omega
        have e2 : min (t_len b i) (k - (if dn = 0 then t_f b i else 9 - t_l b i)) < t_len b i := by
          split at ev
          · rename_i z; rw [if_pos z]; omega
          · rename_i z; rw [if_neg z]; omega
        refine c_stepM f1 h1 hi e2 (by omega) ?_ (fun D2 f2 h2 => ⟨⟨by omega, by omega⟩, ?_⟩)
        · unfold t_bk
          rw [if_neg hk]
          split at ev
          · rename_i z
            rw [if_neg (d0 z), if_pos z]; omega
          · rename_i z
            rw [if_pos (d1 z), if_neg z]; omega
        · rw [g_cast1]
          rw [e] at h2
          exact ih (k + 1) D2 (by omega) (by omega) f2 h2
    refine s_X12_laysSteps_68 (fun _ _ _ _ => ⟨fun w => (by omega : False).elim, fun _ => ⟨fun w => ?_, fun w => ⟨⟨by omega, by omega⟩, ?_⟩⟩⟩)
    · exact go k (by omega) (by rw [if_pos w])
    · have := go (9 - k) (by omega) (by rw [if_neg w]; omega)
      rw [show ((9 - k : Nat) : Int) = 9 - (k : Int) by omega] at this
      exact this
theorem c_X12_laysSteps {K : Int → g_D → Prop} (hA : ∀ i, i < n → r_okN b N i) (hn : n ≤ 36) (h0 : m_act D b n) (kk : ∀ D' : g_D, m_fsm D D' → m_st D' b n (t_o b n) → K (t_o b n : Nat) D') : k_X12_laysSteps E l D K := by
  have hcnt : t_o b n ≤ 360 := by have := t_o_le hA; omega
  have key : ∀ (q i : Nat) (D1 : g_D), n - i = q → i ≤ n → m_fsm D D1 → m_st D1 b n (t_o b i) → n_X12_laysSteps E l D1 7 [some (g_R 208), some (g_I i), none, none, none] K := by
    intro q
    induction q with
    | zero =>
      intro i D1 hq hi f h
      obtain rfl : i = n := by omega
      have h4 := (f.act h0).1
      refine s_X12_laysSteps_7 (fun _ _ => ⟨fun _ => ?_, fun w => (by omega : False).elim⟩)
      rw [h.1]; exact kk D1 f h
    | succ q ih =>
      intro i D1 hq hi f h
      have ha := f.act h0
      have h4 := ha.1
      have hin : i < n := by omega
      have ok := hA i hin
      have next : ∀ D' : g_D, m_fsm D D' → m_st D' b n (t_o b (i + 1)) → n_X12_laysSteps E l D' 7 [some (g_R 208), some (g_I ((i : Int) + 1)), none, none, none] K := fun D' f' h' => by rw [g_cast1]; exact ih (i + 1) D' (by omega) (by omega) f' h'
      have l68 : ∀ dn : Int, ¬ a_k b i = 1 → (dn = 0 → ¬ (a_k b i = 2 ∧ a_fr b i < a_to b i)) → (¬ dn = 0 → (a_k b i = 2 ∧ a_fr b i < a_to b i)) → n_X12_laysSteps E l D1 68 [some (g_R 208), some (g_I i), some (g_I dn), some (g_I 0), none] K := fun dn hk d0 d1 => l_laysSteps68 hA hn hin hk h0 d0 d1 next 10 0 D1 rfl (by omega) f (by rw [Nat.zero_sub, Nat.min_zero]; exact h)
      have one : ∀ w : a_k b i = 1, k_X12_laysStep E l D1 i (-1) (fun D3 => n_X12_laysSteps E l D3 68 [some (g_R 208), some (g_I i), some (g_I 0), some (g_I 0), none] K) := by
        intro w
        have hpos := t_len_pos (b := b) (i := i)
        have hnx : t_o b (i + 1) ≤ t_o b n := t_o_mono hin
        rw [t_o_S] at hnx
        refine c_stepM (j := 0) f (by exact h) hin (by omega) (by omega) (by unfold t_bk; rw [if_pos w]) (fun D2 f2 h2 => ?_)
        have h2' : m_st D2 b n (t_o b (i + 1)) := by rw [t_o_S, show t_len b i = 0 + 1 from if_pos w]; exact h2
        have skip : ∀ q k : Nat, 10 - k = q → k ≤ 10 → n_X12_laysSteps E l D2 68 [some (g_R 208), some (g_I i), some (g_I 0), some (g_I k), none] K := by
          intro q
          induction q with
          | zero =>
            intro k hq hk'
            obtain rfl : k = 10 := by omega
            exact s_X12_laysSteps_68 (fun _ _ _ _ => ⟨fun _ => ⟨⟨by omega, by omega⟩, next D2 f2 h2'⟩, fun w => (by omega : False).elim⟩)
          | succ q ih2 =>
            intro k hq hk'
            have ih3 := ih2 (k + 1) (by omega) (by omega)
            rw [← g_cast1] at ih3
            refine s_X12_laysSteps_68 (fun _ _ _ _ => ⟨fun w => (by omega : False).elim, fun _ => ⟨fun _ => c_writesBlock (f2.act h0) hn hin (by omega) ok (fun _ => ⟨fun _ => ⟨⟨by omega, by omega⟩, ih3⟩, fun z => ?_⟩), fun w => absurd rfl w⟩⟩)
            have z := g_b_n0.mp z
            unfold tq_B at z
            rw [decide_eq_true_iff] at z
            exact absurd w z.1
        exact skip 10 0 rfl (by omega)
      have fin : ∀ dn : Int, ((dn = 0 → ¬ (a_k b i = 2 ∧ a_fr b i < a_to b i)) ∧ (¬ dn = 0 → (a_k b i = 2 ∧ a_fr b i < a_to b i))) → (a_k b i = 1 → dn = 0) → k_X12_actNow E l D1 i 0 (fun x2 D2 => g_r x2 → (¬ x2 = 1 → n_X12_laysSteps E l D2 68 [some (g_R 208), some (g_I i), some (g_I dn), some (g_I 0), none] K) ∧ (x2 = 1 → k_X12_laysStep E l D2 i (-1) (fun D3 => n_X12_laysSteps E l D3 68 [some (g_R 208), some (g_I i), some (g_I dn), some (g_I 0), none] K))) :=
        fun dn d dz => c_now0 ha hn hin (fun _ => ⟨fun w => l68 dn w d.1 d.2, fun w => by rw [dz w]; exact one w⟩)
      refine s_X12_laysSteps_7 (fun _ _ => ⟨fun w => (by omega : False).elim, fun _ => c_now0 ha hn hin (fun _ => ⟨fun w => fin 0 ⟨fun _ q => w q.1, fun q => absurd rfl q⟩ (fun _ => rfl), fun w => c_now1 ha hn hin (fun _ => c_now2 ha hn hin (fun _ => ⟨fun w2 => fin 0 ⟨fun _ q => by omega, fun q => absurd rfl q⟩ (fun _ => rfl), fun w2 => fin 1 ⟨fun q => absurd q (by decide), fun _ => ⟨w, by omega⟩⟩ (fun q => by omega)⟩))⟩)⟩)
  refine s_X12_laysSteps (fun _ D1 e1 => key _ 0 D1 rfl (Nat.zero_le _) ⟨fun k a _ _ => by rw [e1, g_up_ne a], fun j a => by rw [e1, g_up_at a]⟩ ⟨by rw [e1, g_up_eq]; rfl, fun s hs => absurd hs (Nat.not_lt_zero s)⟩)
end STEPM
end
