section
/-! the plan in the model -/
def m_plB (D : g_D) (s : Nat) (p : m_P) : Prop := ∀ b, b < s → D 224 b = g_b (p_d p b) ∧ D 225 b = g_b (p_v p b) ∧ D 226 b = g_b (p_t p b)
def m_plK (D : g_D) (p : m_P) : Prop := ∀ i, i < 20 → D 227 i = g_b (p_k p i)
def m_plH (D : g_D) (s : Nat) (p : m_P) : Prop := ∀ b, b < s → p_v p b = true → D 228 b = (p_h p b : Nat)
def m_plA (D : g_D) (p : m_P) : Prop := D 208 26 = (p_n p : Nat) ∧ ∀ i, i < p_n p → D 229 i = (p_a p i : Nat) ∧ D 230 i = (p_o p i : Nat)
def m_plD (D : g_D) (s : Nat) (p : m_P) : Prop := m_plB D s p ∧ m_plK D p ∧ m_plH D s p ∧ m_plA D p ∧ D 208 28 = (m_cnt (p_v p) s : Nat) ∧ D 208 29 = (m_cnt (p_t p) s : Nat) ∧ D 208 30 = (p_m p : Nat)
/-- nothing but the model's paper of rings and plans -/
def m_fp (D D' : g_D) : Prop := (∀ k, k ≠ 208 → ¬ (221 ≤ k ∧ k ≤ 222) → ¬ (224 ≤ k ∧ k ≤ 230) → D' k = D k) ∧ ∀ j, j ≠ 26 → j ≠ 28 → j ≠ 29 → j ≠ 30 → D' 208 j = D 208 j
theorem m_fp.refl (D : g_D) : m_fp D D := ⟨fun _ _ _ _ => rfl, fun _ _ _ _ _ => rfl⟩
theorem m_fp.trans {D D' D'' : g_D} (h : m_fp D D') (h2 : m_fp D' D'') : m_fp D D'' := ⟨fun k a b c => (h2.1 k a b c).trans (h.1 k a b c), fun j a b c d => (h2.2 j a b c d).trans (h.2 j a b c d)⟩
theorem m_fp.up {D D' : g_D} {k j : Nat} {v : Int} (h : m_fp D D') (hk : (k = 208 ∧ (j = 26 ∨ j = 28 ∨ j = 29 ∨ j = 30)) ∨ k = 221 ∨ k = 222 ∨ (224 ≤ k ∧ k ≤ 230)) : m_fp D (g_up D' k j v) := ⟨fun i a b c => by rw [g_up_ne (by omega)]; exact h.1 i a b c, fun i a b c d => by
  by_cases e : k = 208
  · rw [g_up_at (by omega)]; exact h.2 i a b c d
  · rw [g_up_ne (Ne.symm e)]; exact h.2 i a b c d⟩
theorem m_fp.cmd {D D' : g_D} {s : Nat} {c : Nat → Nat → Int} (hf : m_fp D D') (h : m_cmd D s c) : m_cmd D' s c := by
  unfold m_cmd at *
  rw [hf.2 14 (by decide) (by decide) (by decide) (by decide), hf.1 216 (by decide) (by decide) (by decide), hf.1 217 (by decide) (by decide) (by decide), hf.1 218 (by decide) (by decide) (by decide), hf.1 219 (by decide) (by decide) (by decide)]
  exact h
theorem m_fp.ahd {D D' : g_D} {s : Nat} {c : Nat → Nat → Int} (hf : m_fp D D') (h : m_ahd D s c) : m_ahd D' s c := by unfold m_ahd at *; rw [hf.1 220 (by decide) (by decide) (by decide)]; exact h
theorem m_fp.r209 {D D' : g_D} (hf : m_fp D D') : D' 209 = D 209 := hf.1 209 (by decide) (by decide) (by decide)
theorem m_plD.same {D D' : g_D} {s : Nat} {p : m_P} (h : m_plD D s p) (h1 : ∀ k, (224 ≤ k ∧ k ≤ 230) → D' k = D k) (h2 : D' 208 = D 208) : m_plD D' s p := by
  unfold m_plD m_plB m_plK m_plH m_plA at *
  rw [h1 224 (by decide), h1 225 (by decide), h1 226 (by decide), h1 227 (by decide), h1 228 (by decide), h1 229 (by decide), h1 230 (by decide), h2]
  exact h
section PLANM
variable {E : g_E} {l : Launch} {sh : List g_Sh} {D : g_D} {s : Nat} {c : Nat → Nat → Int} {p : m_P}
theorem c_X12_isOpen {K : Int → g_D → Prop} {b : Nat} (hs : s ≤ 20) (hb : b < s) (h : m_plB D s p) (kk : K (g_b (m_op p b)) D) : k_X12_isOpen E l D b K := by
  obtain ⟨h1, h2, h3⟩ := h b hb
  refine s_X12_isOpen (fun _ _ => ⟨by omega, ?_⟩)
  rw [Int.toNat_natCast, h1, h2, h3]
  unfold m_op at kk
  refine ⟨fun q => ?_, fun q => ⟨by omega, fun q2 => ?_, fun q2 => ⟨by omega, fun q3 => ?_, fun q3 => ?_⟩⟩⟩
  · rw [g_b_n0.mp q] at kk; exact kk
  · rw [g_b_0.mp q, g_b_n0.mp q2] at kk; exact kk
  · rw [g_b_0.mp q, g_b_0.mp q2, g_b_n0.mp q3] at kk; exact kk
  · rw [g_b_0.mp q, g_b_0.mp q2, g_b_0.mp q3] at kk; exact kk
theorem l_X12_lowestFree36 {K : Int → g_D → Prop} {b : Nat} (hs : s ≤ 20) (hb : b < s) (h14 : D 208 14 = s) (hA : m_ahd D s c) (h : m_plB D s p)
    (kf : m_any (fun a => m_ah c a b && m_op p a) s = false → K b D)
    (kt : m_any (fun a => m_ah c a b && m_op p a) s = true → n_X12_lowestFree E l D 2 [some (g_R 208), some (g_I ((b : Int) + 1)), none, none] K) :
    ∀ q a : Nat, s - a = q → a ≤ s → n_X12_lowestFree E l D 36 [some (g_R 208), some (g_I b), some (g_I (g_b (!m_any (fun a => m_ah c a b && m_op p a) a))), some (g_I a)] K := by
  intro q
  induction q with
  | zero =>
    intro a hq ha
    obtain rfl : a = s := by omega
    refine s_X12_lowestFree_36 (fun _ _ _ _ => ⟨fun _ => ⟨fun q => ⟨⟨by omega, by omega⟩, ?_⟩, fun q => ?_⟩, fun q => (by omega : False).elim⟩)
    · rw [g_b_0, Bool.not_eq_false'] at q; exact kt q
    · rw [g_b_n0, Bool.not_eq_true'] at q; exact kf q
  | succ q ih =>
    intro a hq ha
    have ih' := ih (a + 1) (by omega) (by omega)
    have e : m_any (fun a => m_ah c a b && m_op p a) (a + 1) = (m_any (fun a => m_ah c a b && m_op p a) a || (m_ah c a b && m_op p a)) := rfl
    rw [← g_cast1, e] at ih'
    refine s_X12_lowestFree_36 (fun _ _ _ _ => ⟨fun q => (by omega : False).elim, fun _ => ⟨⟨by omega, by omega⟩, ⟨by omega, by omega⟩, by omega, ?_⟩⟩)
    rw [show ((40 * (a : Int)) + b).toNat = 40 * a + b by omega, hA a b (by omega) hb, g_and_b1, g_and_b0]
    refine ⟨fun q => ⟨⟨by omega, by omega⟩, ?_⟩, fun q => c_X12_isOpen hs (by omega) h (fun _ => ⟨fun q2 => ⟨⟨by omega, by omega⟩, ?_⟩, fun q2 => ⟨⟨by omega, by omega⟩, ?_⟩⟩)⟩
    · rw [g_b_0.mp q, Bool.false_and, Bool.or_false] at ih'; exact ih'
    · rw [g_b_n0.mp q, g_b_n0.mp q2, Bool.true_and, Bool.or_true] at ih'; exact ih'
    · rw [g_b_0.mp q2, Bool.and_false, Bool.or_false] at ih'; exact ih'
theorem l_X12_lowestFree2 {K : Int → g_D → Prop} (hs : s ≤ 20) (hc : m_cmd D s c) (hA : m_ahd D s c) (h : m_plB D s p)
    (k0 : m_lo (m_fre s c p) s = s → K (-1) D) (k1 : m_lo (m_fre s c p) s < s → K (m_lo (m_fre s c p) s : Nat) D) :
    ∀ q b : Nat, s - b = q → b ≤ s → (∀ j, j < b → m_fre s c p j = false) → n_X12_lowestFree E l D 2 [some (g_R 208), some (g_I b), none, none] K := by
  have h14 := hc.1
  intro q
  induction q with
  | zero =>
    intro b hq hb hj
    obtain rfl : b = s := by omega
    exact s_X12_lowestFree_2 (fun _ _ => ⟨fun _ => k0 (m_lo_none hj), fun q => (by omega : False).elim⟩)
  | succ q ih =>
    intro b hq hb hj
    have ih' := fun hb' => ih (b + 1) (by omega) (by omega) (fun j hj' => (Nat.lt_succ_iff_lt_or_eq.mp hj').elim (hj j) (fun e => e ▸ hb'))
    rw [← g_cast1] at ih'
    refine s_X12_lowestFree_2 (fun _ _ => ⟨fun q => (by omega : False).elim, fun _ => ⟨by omega, ?_⟩⟩)
    rw [Int.toNat_natCast, (hc.2 b (by omega)).1, (h b (by omega)).1]
    refine ⟨fun q => ⟨⟨by omega, by omega⟩, ih' ?_⟩, fun q => ⟨by omega, fun q2 => ?_, fun q2 => ⟨⟨by omega, by omega⟩, ih' ?_⟩⟩⟩
    · unfold m_fre; rw [decide_eq_true q]; rfl
    · refine l_X12_lowestFree36 hs (by omega) h14 hA h (fun e => ?_) (fun e => ih' ?_) s 0 rfl (Nat.zero_le _)
      · have ef : m_fre s c p b = true := by unfold m_fre; rw [decide_eq_false q, g_b_0.mp q2, e]; rfl
        have := m_lo_eq (by omega : b < s) ef hj
        rw [this] at k1
        exact k1 (by omega)
      · unfold m_fre; rw [e]; simp
    · unfold m_fre; rw [g_b_n0.mp q2]; simp
theorem c_X12_lowestFree {K : Int → g_D → Prop} (hs : s ≤ 20) (hc : m_cmd D s c) (hA : m_ahd D s c) (h : m_plB D s p)
    (k0 : m_lo (m_fre s c p) s = s → K (-1) D) (k1 : m_lo (m_fre s c p) s < s → K (m_lo (m_fre s c p) s : Nat) D) : k_X12_lowestFree E l D K :=
  s_X12_lowestFree (fun _ => l_X12_lowestFree2 hs hc hA h k0 k1 s 0 rfl (Nat.zero_le _) (fun j hj => absurd hj (Nat.not_lt_zero j)))
theorem l_X12_roomFor19 {K : Int → g_D → Prop} {a len : Nat} (ha : a + len ≤ 20) (h : m_plK D p)
    (kf : m_any (fun i => p_k p (a + i)) len = false → K a D)
    (kt : m_any (fun i => p_k p (a + i)) len = true → n_X12_roomFor E l D 2 [some (g_R 208), some (g_I len), some (g_I ((a : Int) + 1)), none, none] K) :
    ∀ q i : Nat, len - i = q → i ≤ len → n_X12_roomFor E l D 19 [some (g_R 208), some (g_I len), some (g_I a), some (g_I (g_b (!m_any (fun i => p_k p (a + i)) i))), some (g_I i)] K := by
  intro q
  induction q with
  | zero =>
    intro i hq hi
    obtain rfl : i = len := by omega
    refine s_X12_roomFor_19 (fun _ _ _ _ _ => ⟨fun _ => ⟨fun q => ⟨⟨by omega, by omega⟩, ?_⟩, fun q => ?_⟩, fun q => (by omega : False).elim⟩)
    · rw [g_b_0, Bool.not_eq_false'] at q; exact kt q
    · rw [g_b_n0, Bool.not_eq_true'] at q; exact kf q
  | succ q ih =>
    intro i hq hi
    have ih' := ih (i + 1) (by omega) (by omega)
    have e : m_any (fun i => p_k p (a + i)) (i + 1) = (m_any (fun i => p_k p (a + i)) i || p_k p (a + i)) := rfl
    rw [← g_cast1, e] at ih'
    refine s_X12_roomFor_19 (fun _ _ _ _ _ => ⟨fun q => (by omega : False).elim, fun _ => ⟨⟨by omega, by omega⟩, by omega, ?_⟩⟩)
    rw [show ((a : Int) + i).toNat = a + i by omega, h (a + i) (by omega), g_and_b1, g_and_b0]
    refine ⟨fun q => ⟨⟨by omega, by omega⟩, ?_⟩, fun q => ⟨⟨by omega, by omega⟩, ?_⟩⟩
    · rw [g_b_n0.mp q, Bool.or_true] at ih'; exact ih'
    · rw [g_b_0.mp q, Bool.or_false] at ih'; exact ih'
theorem l_X12_roomFor2 {K : Int → g_D → Prop} {B len : Nat} (hB : B ≤ 20) (hl : 1 ≤ len) (hl2 : len ≤ 40) (h5 : D 209 5 = B) (h : m_plK D p)
    (k0 : ¬ m_rm p B len ≤ B → K (-1) D) (k1 : m_rm p B len ≤ B → K (m_rm p B len : Nat) D) :
    ∀ q a : Nat, B + 1 - a = q → a ≤ B → (∀ j, j < a → m_rmP p B len j = false) → n_X12_roomFor E l D 2 [some (g_R 208), some (g_I len), some (g_I a), none, none] K := by
  have none1 : ∀ a : Nat, B < a + len → (∀ j, j < a → m_rmP p B len j = false) → K (-1) D := by
    intro a ha hj
    refine k0 ?_
    have : m_rm p B len = B + 1 := m_lo_none (fun j _ => by
      by_cases q : j < a
      · exact hj j q
      · unfold m_rmP; rw [decide_eq_false (by omega)]; rfl)
    omega
  intro q
  induction q with
  | zero => intro a hq ha; omega
  | succ q ih =>
    intro a hq ha hj
    refine s_X12_roomFor_2 (fun _ _ _ => ⟨⟨by omega, by omega⟩, fun q => none1 a (by omega) hj, fun q => ?_⟩)
    refine l_X12_roomFor19 (by omega) h (fun e => ?_) (fun e => ?_) len 0 rfl (Nat.zero_le _)
    · have ef : m_rmP p B len a = true := by unfold m_rmP; rw [decide_eq_true (by omega), e]; rfl
      have e2 : m_rm p B len = a := m_lo_eq (by omega) ef hj
      rw [e2] at k1
      exact k1 (by omega)
    · have ih' := ih (a + 1) (by omega) (by omega) (fun j hj' => (Nat.lt_succ_iff_lt_or_eq.mp hj').elim (hj j) (fun e' => by rw [e']; unfold m_rmP; rw [e]; simp))
      rw [← g_cast1] at ih'
      exact ih'
theorem c_X12_roomFor {K : Int → g_D → Prop} {B len : Nat} (hB : B ≤ 20) (hl : 1 ≤ len) (hl2 : len ≤ 40) (h5 : D 209 5 = B) (h : m_plK D p)
    (k0 : ¬ m_rm p B len ≤ B → K (-1) D) (k1 : m_rm p B len ≤ B → K (m_rm p B len : Nat) D) : k_X12_roomFor E l D len K :=
  s_X12_roomFor (fun _ _ => l_X12_roomFor2 hB hl hl2 h5 h k0 k1 _ 0 rfl (Nat.zero_le _) (fun j hj => absurd hj (Nat.not_lt_zero j)))
theorem c_X12_waitingFor {K : Int → g_D → Prop} {k : Nat} (hs : s ≤ 20) (hk : k < s) (h14 : D 208 14 = s) (hA : m_ahd D s c) (h : m_plB D s p) (kk : K (m_wt s c p k : Nat) D) : k_X12_waitingFor E l D k K := by
  refine s_X12_waitingFor (fun _ _ => ?_)
  have key : ∀ q b : Nat, s - b = q → b ≤ s → n_X12_waitingFor E l D 4 [some (g_R 208), some (g_I k), some (g_I ((m_cnt (fun b => m_ah c k b && !p_d p b) b : Nat) : Int)), some (g_I b)] K := by
    intro q
    induction q with
    | zero =>
      intro b hq hb
      obtain rfl : b = s := by omega
      exact s_X12_waitingFor_4 (fun _ _ _ _ => ⟨fun _ => kk, fun q => (by omega : False).elim⟩)
    | succ q ih =>
      intro b hq hb
      have ih' := ih (b + 1) (by omega) (by omega)
      rw [← g_cast1, m_cnt] at ih'
      have hle := m_cnt_le (P := fun b => m_ah c k b && !p_d p b) b
      refine s_X12_waitingFor_4 (fun _ _ _ _ => ⟨fun q => (by omega : False).elim, fun _ => ⟨⟨by omega, by omega⟩, ⟨by omega, by omega⟩, by omega, ?_⟩⟩)
      rw [show ((40 * (k : Int)) + b).toNat = 40 * k + b by omega, hA k b hk (by omega), Int.toNat_natCast, (h b (by omega)).1, Int.add_zero]
      refine ⟨fun q => ⟨⟨by omega, by omega⟩, ⟨by omega, by omega⟩, ?_⟩, fun q => ⟨by omega, fun q2 => ⟨⟨by omega, by omega⟩, ⟨by omega, by omega⟩, ?_⟩, fun q2 => ⟨⟨by omega, by omega⟩, ⟨by omega, by omega⟩, ?_⟩⟩⟩
      · rw [g_b_0.mp q, Bool.false_and, if_neg Bool.false_ne_true] at ih'; exact ih'
      · rw [g_b_n0.mp q2, Bool.not_true, Bool.and_false, if_neg Bool.false_ne_true] at ih'; exact ih'
      · rw [g_b_n0.mp q, g_b_0.mp q2, Bool.not_false, Bool.and_true, if_pos rfl, ← g_cast1] at ih'; exact ih'
  exact key s 0 rfl (Nat.zero_le _)
theorem c_X12_isSooner {K : Int → g_D → Prop} {a b : Nat} {ru : Int} (hs : s ≤ 20) (ha : a < s) (hb : b < s) (h4 : D 209 4 = ru) (hc : m_cmd D s c) (hA : m_ahd D s c) (h : m_plB D s p) (kk : K (g_b (m_sn s c ru p a b)) D) : k_X12_isSooner E l D a b K := by
  unfold m_sn at kk
  refine s_X12_isSooner (fun _ _ _ => ?_)
  rw [h4, Int.toNat_natCast, Int.toNat_natCast, (hc.2 a ha).2.2.2, (hc.2 b hb).2.2.2]
  refine ⟨fun q => ?_, fun q => ?_⟩
  · rw [if_neg q] at kk
    refine ⟨fun q2 => ?_, fun q2 => ?_⟩
    · rw [decide_eq_false q2] at kk; exact kk
    · rw [decide_eq_true q2, Bool.true_and] at kk
      refine c_X12_waitingFor hs ha hc.1 hA h (fun _ => c_X12_waitingFor hs hb hc.1 hA h (fun _ => ⟨fun q3 => ?_, fun q3 => ?_⟩))
      · rw [decide_eq_false (by omega)] at kk; exact kk
      · rw [decide_eq_true (by omega)] at kk; exact kk
  · rw [if_pos q] at kk
    refine ⟨by omega, by omega, fun q2 => ?_, fun q2 => ?_⟩
    · rw [decide_eq_false (by omega)] at kk; exact kk
    · rw [decide_eq_true (by omega)] at kk; exact kk
theorem c_X12_laysAct {K : g_D → Prop} {n : Nat} {v k : Int} (hn : D 208 26 = n) (hn2 : n < 80) (kk : ∀ D' : g_D, D' = g_up (g_up (g_up D 229 n v) 230 n k) 208 26 ((n + 1 : Nat) : Int) → K D') : k_X12_laysAct E l D v k K := by
  refine s_X12_laysAct (fun _ _ _ => ?_)
  rw [hn, Int.toNat_natCast]
  refine ⟨by omega, fun D1 e1 => ⟨by omega, fun D2 e2 => ⟨⟨by omega, by omega⟩, fun D3 e3 => kk D3 ?_⟩⟩⟩
  rw [e3, e2, e1, g_cast1]
/-- cells of the stash are taken or free -/
theorem c_X12_marksStash {K : g_D → Prop} {k a len mt : Nat} {v : Bool} {tk : Nat → Bool} (hk : k < 40) (hl : D 219 k = len) (hh : D 228 k = a) (hal : a + len ≤ 20) (hT : ∀ i, i < 20 → D 227 i = g_b (tk i)) (hm : D 208 30 = mt) (hm2 : mt ≤ 20)
    (kk : ∀ D' : g_D, (∀ i, i ≠ 227 → i ≠ 208 → D' i = D i) → (∀ j, j ≠ 30 → D' 208 j = D 208 j) → (∀ i, i < 20 → D' 227 i = g_b (b_reg tk a len v i)) → D' 208 30 = ((max mt (m_cnt (b_reg tk a len v) 20) : Nat) : Int) → K D') : k_X12_marksStash E l D k (g_b v) K := by
  refine s_X12_marksStash (fun _ _ _ => ?_)
  have end1 : ∀ D1 : g_D, (∀ i, i ≠ 227 → D1 i = D i) → (∀ i, i < 20 → D1 227 i = g_b (b_reg tk a len v i)) → n_X12_marksStash E l D1 37 [some (g_R 208), none, none, some (g_I 0), some (g_I 0)] K := by
    intro D1 f1 h1
    have key : ∀ q i : Nat, 20 - i = q → i ≤ 20 → n_X12_marksStash E l D1 37 [some (g_R 208), none, none, some (g_I ((m_cnt (b_reg tk a len v) i : Nat) : Int)), some (g_I i)] K := by
      intro q
      induction q with
      | zero =>
        intro i hq hi
        obtain rfl : i = 20 := by omega
        have h30 : D1 208 30 = mt := by rw [f1 208 (by decide)]; exact hm
        refine s_X12_marksStash_37 (fun _ _ _ => ⟨fun _ => ⟨fun q D2 e2 => ?_, fun q D2 e2 => ?_⟩, fun q => (by omega : False).elim⟩)
        · refine kk D2 (fun i h1 h2 => by rw [e2, g_up_ne h2]; exact f1 i h1) (fun j hj => by rw [e2, g_up_at hj, f1 208 (by decide)]) (fun i hi => by rw [e2, g_up_ne (by decide)]; exact h1 i hi) ?_
          rw [e2, g_up_eq, h30, Nat.max_eq_left (by omega)]
        · refine kk D2 (fun i h1 h2 => by rw [e2, g_up_ne h2]; exact f1 i h1) (fun j hj => by rw [e2, g_up_at hj, f1 208 (by decide)]) (fun i hi => by rw [e2, g_up_ne (by decide)]; exact h1 i hi) ?_
          rw [e2, g_up_eq, Nat.max_eq_right (by omega)]
      | succ q ih =>
        intro i hq hi
        have ih' := ih (i + 1) (by omega) (by omega)
        rw [← g_cast1, m_cnt] at ih'
        have hle := m_cnt_le (P := b_reg tk a len v) i
        refine s_X12_marksStash_37 (fun _ _ _ => ⟨fun q => (by omega : False).elim, fun _ => ⟨by omega, ?_⟩⟩)
        rw [Int.toNat_natCast, h1 i (by omega), Int.add_zero]
        refine ⟨fun q => ⟨⟨by omega, by omega⟩, ⟨by omega, by omega⟩, ?_⟩, fun q => ⟨⟨by omega, by omega⟩, ⟨by omega, by omega⟩, ?_⟩⟩
        · rw [g_b_0.mp q, if_neg Bool.false_ne_true] at ih'; exact ih'
        · rw [g_b_n0.mp q, if_pos rfl, ← g_cast1] at ih'; exact ih'
    exact key 20 0 rfl (Nat.zero_le _)
  have key : ∀ (q i : Nat) (D1 : g_D), len - i = q → i ≤ len → (∀ j, j ≠ 227 → D1 j = D j) → (∀ j, j < 20 → D1 227 j = g_b (b_reg tk a i v j)) → n_X12_marksStash E l D1 2 [some (g_R 208), some (g_I k), some (g_I (g_b v)), some (g_I i), none] K := by
    intro q
    induction q with
    | zero =>
      intro i D1 hq hi f1 h1
      obtain rfl : i = len := by omega
      refine s_X12_marksStash_2 (fun _ _ _ _ => ⟨by omega, ?_⟩)
      rw [Int.toNat_natCast, f1 219 (by decide), hl]
      exact ⟨fun _ => end1 D1 f1 h1, fun q => (by omega : False).elim⟩
    | succ q ih =>
      intro i D1 hq hi f1 h1
      refine s_X12_marksStash_2 (fun _ _ _ _ => ⟨by omega, ?_⟩)
      rw [Int.toNat_natCast, f1 219 (by decide), hl, f1 228 (by decide), hh]
      refine ⟨fun q => (by omega : False).elim, fun _ => ⟨by omega, ⟨by omega, by omega⟩, by have := g_b_rng v; omega, by omega, fun D2 e2 => ⟨⟨by omega, by omega⟩, ?_⟩⟩⟩
      rw [show ((a : Int) + i).toNat = a + i by omega] at e2
      have ih' := ih (i + 1) D2 (by omega) (by omega) (fun j hj => by rw [e2, g_up_ne hj]; exact f1 j hj) (fun j hj => ?_)
      · rw [← g_cast1] at ih'; exact ih'
      · rw [e2]
        unfold b_reg at *
        by_cases e : j = a + i
        · subst e; rw [g_up_eq, if_pos (by omega)]
        · rw [g_up_at e, h1 j hj]
          by_cases q : a ≤ j ∧ j < a + i
          · rw [if_pos q, if_pos (by omega)]
          · rw [if_neg q, if_neg (by omega)]
  exact key len 0 D rfl (Nat.zero_le _) (fun _ _ => rfl) (fun j hj => by unfold b_reg; rw [if_neg (by omega)]; exact hT j hj)
end PLANM
end
