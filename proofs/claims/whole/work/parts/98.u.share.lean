section
/-! the bits of a float -/
theorem g_l2i_in {x : Int} (h : g_r x) : g_l2i x = x := by
  unfold g_l2i
  rw [Int64.toInt32_ofInt]
  exact g_rT h
theorem g_shl8_23 : ∀ x : Nat, x < 80 → g_shl8 (x : Int) 23 = (x : Int) * 8388608 := by decide +kernel
theorem g_and8_1 (v : Int) : g_and8 v 1 = v % 2 := by
  unfold g_and8
  have e : (Int64.ofInt v &&& Int64.ofInt 1).toBitVec.toNat = (v % 2).toNat := by
    rw [Int64.toBitVec_and, BitVec.toNat_and, Int64.toBitVec_ofInt, Int64.toBitVec_ofInt, BitVec.toNat_ofInt, BitVec.toNat_ofInt]
    rw [show ((1 : Int) % ((2 ^ 64 : Nat) : Int)).toNat = 2 ^ 1 - 1 by decide, Nat.and_two_pow_sub_one_eq_mod]
    rw [show ((2 ^ 64 : Nat) : Int) = 18446744073709551616 by decide, show (2 ^ 1 : Nat) = 2 by decide]
    omega
  show (Int64.ofInt v &&& Int64.ofInt 1).toBitVec.toInt = _
  rw [BitVec.toInt_eq_toNat_of_lt (by rw [e]; omega), e]
  omega
def q_ex (a b : Nat) : Nat := m_lo (fun e => decide (b ≤ a * 2 ^ e)) 7
/-- the bits of a / b -/
def q_fl (a b : Nat) : Int :=
  if a = 0 then 0 else (126 - (q_ex a b : Int)) * 8388608 + (((a * 2 ^ q_ex a b * 8388608) / b : Nat) : Int) + (if b < (a * 2 ^ q_ex a b * 8388608) % b * 2 ∨ ((a * 2 ^ q_ex a b * 8388608) % b * 2 = b ∧ (a * 2 ^ q_ex a b * 8388608) / b % 2 = 1) then 1 else 0)
theorem q_ex_spec {a b : Nat} (ha : 1 ≤ a) (hab : a ≤ b) (hb : b ≤ 40) : q_ex a b ≤ 6 ∧ b ≤ a * 2 ^ q_ex a b ∧ a * 2 ^ q_ex a b < 2 * b ∧ ∀ j, j < q_ex a b → a * 2 ^ j < b := by
  obtain ⟨h1, h2, h3⟩ := m_lo_spec (P := fun e => decide (b ≤ a * 2 ^ e)) 7
  have h7 : m_lo (fun e => decide (b ≤ a * 2 ^ e)) 7 < 7 := by
    refine Classical.byContradiction (fun q => ?_)
    have := h2 6 (by omega)
    rw [decide_eq_false_iff_not] at this
    omega
  have h3 := h3 h7
  rw [decide_eq_true_iff] at h3
  have h2' : ∀ j, j < q_ex a b → a * 2 ^ j < b := fun j hj => by
    have := h2 j hj
    rw [decide_eq_false_iff_not] at this
    omega
  refine ⟨by unfold q_ex; omega, h3, ?_, h2'⟩
  show a * 2 ^ q_ex a b < 2 * b
  by_cases e : q_ex a b = 0
  · rw [e]; omega
  · obtain ⟨j, hj⟩ : ∃ j, q_ex a b = j + 1 := ⟨q_ex a b - 1, by omega⟩
    have := h2' j (by omega)
    rw [hj, Nat.pow_succ, ← Nat.mul_assoc]
    omega
section SHARE
variable {E : g_E} {l : Launch} {sh : List g_Sh} {D : g_D}
theorem c_X11_floatBits {K : Int → g_D → Prop} {a b : Nat} (hab : a ≤ b) (hb : b ≤ 40) (kk : K (q_fl a b) D) : k_X11_floatBits E l sh D a b K := by
  by_cases ha : a = 0
  · unfold q_fl at kk
    rw [if_pos ha] at kk
    exact s_X11_floatBits (fun _ _ _ => ⟨fun _ => kk, fun q => (by omega : False).elim⟩)
  · obtain ⟨e6, e1, e2, e3⟩ := q_ex_spec (by omega) hab hb
    unfold q_fl at kk
    rw [if_neg ha] at kk
    have key : ∀ q j : Nat, q_ex a b - j = q → j ≤ q_ex a b → n_X11_floatBits E l sh D 22 [none, some (g_I b), some (g_J ((a * 2 ^ j : Nat) : Int)), none, some (g_I (127 - (j : Int))), none, none, none, none] K := by
      intro q
      induction q with
      | zero =>
        intro j hq hj
        obtain rfl : j = q_ex a b := by omega
        have h23 := g_shl8_23 (a * 2 ^ q_ex a b) (by omega)
        have hs : g_shl (127 - (q_ex a b : Int)) 23 = (127 - (q_ex a b : Int)) * 8388608 := by
          rw [show 127 - (q_ex a b : Int) = ((127 - q_ex a b : Nat) : Int) by omega, show (23 : Int) = ((23 : Nat) : Int) from rfl, g_shl_n (by rw [Nat.shiftLeft_eq]; omega) (by decide), Nat.shiftLeft_eq]
          omega
        generalize hX : a * 2 ^ q_ex a b = X at *
        have hdiv : ((X : Int) * 8388608) / b = ((X * 8388608 / b : Nat) : Int) := by rw [show (X : Int) * 8388608 = ((X * 8388608 : Nat) : Int) by omega]; rfl
        have hmod : ((X : Int) * 8388608) % b = ((X * 8388608 % b : Nat) : Int) := by rw [show (X : Int) * 8388608 = ((X * 8388608 : Nat) : Int) by omega]; rfl
        have hlt : X * 8388608 % b < b := Nat.mod_lt _ (by omega)
        have hF1 : 8388608 ≤ X * 8388608 / b := by rw [Nat.le_div_iff_mul_le (by omega), Nat.mul_comm]; exact Nat.mul_le_mul_right _ e1
        have hF2 : X * 8388608 / b < 16777216 := by rw [Nat.div_lt_iff_lt_mul (by omega)]; omega
        generalize hF : X * 8388608 / b = F at *
        generalize hM : X * 8388608 % b = M at *
        refine s_X11_floatBits_22 (fun _ _ _ _ => ⟨fun _ => ?_, fun w => (by omega : False).elim⟩)
        rw [h23, hdiv, hmod, hs, g_and8_1]
        have up : ∀ z : (b < M * 2 ∨ (M * 2 = b ∧ F % 2 = 1)), (g_r8 ((F : Int) + 1)) ∧ ((g_r8 ((F : Int) + 1 - 8388608)) ∧ ((g_r ((127 - (q_ex a b : Int)) * 8388608 + g_l2i ((F : Int) + 1 - 8388608))) ∧ K ((127 - (q_ex a b : Int)) * 8388608 + g_l2i ((F : Int) + 1 - 8388608)) D)) := fun z => by
          rw [g_l2i_in ⟨by omega, by omega⟩]
          rw [if_pos z] at kk
          refine ⟨⟨by omega, by omega⟩, ⟨by omega, by omega⟩, ⟨by omega, by omega⟩, ?_⟩
          rw [show (127 - (q_ex a b : Int)) * 8388608 + ((F : Int) + 1 - 8388608) = (126 - (q_ex a b : Int)) * 8388608 + (F : Int) + 1 by omega]
          exact kk
        have dn : ∀ z : ¬ (b < M * 2 ∨ (M * 2 = b ∧ F % 2 = 1)), (g_r8 ((F : Int) - 8388608)) ∧ ((g_r ((127 - (q_ex a b : Int)) * 8388608 + g_l2i ((F : Int) - 8388608))) ∧ K ((127 - (q_ex a b : Int)) * 8388608 + g_l2i ((F : Int) - 8388608)) D) := fun z => by
          rw [g_l2i_in ⟨by omega, by omega⟩]
          rw [if_neg z] at kk
          refine ⟨⟨by omega, by omega⟩, ⟨by omega, by omega⟩, ?_⟩
          rw [show (127 - (q_ex a b : Int)) * 8388608 + ((F : Int) - 8388608) = (126 - (q_ex a b : Int)) * 8388608 + (F : Int) + 0 by omega]
          exact kk
        exact ⟨⟨by omega, by omega⟩, ⟨by omega, by omega⟩, ⟨by omega, by omega⟩, fun w => up (by omega), fun w => ⟨fun w2 => dn (by omega), fun w2 => ⟨fun w3 => dn (by omega), fun w3 => up (by omega)⟩⟩⟩
      | succ q ih =>
        intro j hq hj
        have hlt := e3 j (by omega)
        have ih' := ih (j + 1) (by omega) (by omega)
        rw [Nat.pow_succ, ← Nat.mul_assoc] at ih'
        rw [show (((a * 2 ^ j * 2 : Nat)) : Int) = ((a * 2 ^ j : Nat) : Int) * 2 by omega, show 127 - ((j + 1 : Nat) : Int) = 127 - (j : Int) + (-1) by omega] at ih'
        generalize a * 2 ^ j = X at *
        exact s_X11_floatBits_22 (fun _ _ _ _ => ⟨fun w => (by omega : False).elim, fun _ => ⟨fun w => (by omega : False).elim, fun _ => ⟨⟨by omega, by omega⟩, ⟨by omega, by omega⟩, ih'⟩⟩⟩)
    have := key _ 0 rfl (Nat.zero_le _)
    rw [Nat.pow_zero, Nat.mul_one] at this
    exact s_X11_floatBits (fun _ _ _ => ⟨fun q => (by omega : False).elim, fun _ => ⟨fun q => (by omega : False).elim, fun _ => ⟨fun _ => this, fun q => (by omega : False).elim⟩⟩⟩)
theorem c_X12_floatBits {K : Int → g_D → Prop} {a b : Nat} (hab : a ≤ b) (hb : b ≤ 40) (hb1 : 1 ≤ b) (kk : K (q_fl a b) D) : k_X12_floatBits E l sh D a b K := by
  by_cases ha : a = 0
  · unfold q_fl at kk
    rw [if_pos ha] at kk
    exact s_X12_floatBits (fun _ _ _ => ⟨fun q => (by omega : False).elim, fun _ => kk⟩)
  · obtain ⟨e6, e1, e2, e3⟩ := q_ex_spec (by omega) hab hb
    unfold q_fl at kk
    rw [if_neg ha] at kk
    have key : ∀ q j : Nat, q_ex a b + 23 - j = q → j ≤ q_ex a b + 23 → n_X12_floatBits E l sh D 12 [none, some (g_I b), some (g_J ((a * 2 ^ j : Nat) : Int)), none, some (g_I j), none, none, none, none] K := by
      intro q
      induction q with
      | zero =>
        intro j hq hj
        obtain rfl : j = q_ex a b + 23 := by omega
        rw [Nat.pow_add, ← Nat.mul_assoc, show 2 ^ 23 = 8388608 from rfl]
        generalize hX : a * 2 ^ q_ex a b = X at *
        have hdiv : (((X * 8388608 : Nat) : Int)) / b = ((X * 8388608 / b : Nat) : Int) := rfl
        have hmod : (((X * 8388608 : Nat) : Int)) % b = ((X * 8388608 % b : Nat) : Int) := rfl
        have hlt : X * 8388608 % b < b := Nat.mod_lt _ (by omega)
        have hF1 : 8388608 ≤ X * 8388608 / b := by rw [Nat.le_div_iff_mul_le (by omega), Nat.mul_comm]; exact Nat.mul_le_mul_right _ e1
        have hF2 : X * 8388608 / b < 16777216 := by rw [Nat.div_lt_iff_lt_mul (by omega)]; omega
        refine s_X12_floatBits_12 (fun _ _ _ _ => ?_)
        rw [hdiv, hmod]
        generalize hF : X * 8388608 / b = F at *
        generalize hM : X * 8388608 % b = M at *
        have up : ∀ z : (b < M * 2 ∨ (M * 2 = b ∧ F % 2 = 1)), (g_r8 ((F : Int) + 1)) ∧ ((g_r8 (150 - ((q_ex a b + 23 : Nat) : Int))) ∧ ((g_r8 ((150 - ((q_ex a b + 23 : Nat) : Int)) - 1)) ∧ ((g_r8 (((150 - ((q_ex a b + 23 : Nat) : Int)) - 1) * 8388608)) ∧ ((g_r8 ((((150 - ((q_ex a b + 23 : Nat) : Int)) - 1) * 8388608) + ((F : Int) + 1))) ∧ (K (g_l2i ((((150 - ((q_ex a b + 23 : Nat) : Int)) - 1) * 8388608) + ((F : Int) + 1))) D))))) := fun z => by
          rw [if_pos z] at kk
          rw [show (((150 - ((q_ex a b + 23 : Nat) : Int)) - 1) * 8388608) + ((F : Int) + 1) = (126 - (q_ex a b : Int)) * 8388608 + (F : Int) + 1 by omega, g_l2i_in ⟨by omega, by omega⟩]
          exact ⟨⟨by omega, by omega⟩, ⟨by omega, by omega⟩, ⟨by omega, by omega⟩, ⟨by omega, by omega⟩, ⟨by omega, by omega⟩, kk⟩
        have dn : ∀ z : ¬ (b < M * 2 ∨ (M * 2 = b ∧ F % 2 = 1)), (g_r8 (150 - ((q_ex a b + 23 : Nat) : Int))) ∧ ((g_r8 ((150 - ((q_ex a b + 23 : Nat) : Int)) - 1)) ∧ ((g_r8 (((150 - ((q_ex a b + 23 : Nat) : Int)) - 1) * 8388608)) ∧ ((g_r8 ((((150 - ((q_ex a b + 23 : Nat) : Int)) - 1) * 8388608) + (F : Int))) ∧ (K (g_l2i ((((150 - ((q_ex a b + 23 : Nat) : Int)) - 1) * 8388608) + (F : Int))) D)))) := fun z => by
          rw [if_neg z] at kk
          rw [show (((150 - ((q_ex a b + 23 : Nat) : Int)) - 1) * 8388608) + (F : Int) = (126 - (q_ex a b : Int)) * 8388608 + (F : Int) + 0 by omega, g_l2i_in ⟨by omega, by omega⟩]
          exact ⟨⟨by omega, by omega⟩, ⟨by omega, by omega⟩, ⟨by omega, by omega⟩, ⟨by omega, by omega⟩, kk⟩
        exact ⟨⟨by omega, by omega⟩, fun _ => ⟨⟨by omega, by omega⟩, ⟨by omega, by omega⟩, ⟨by omega, by omega⟩, fun w => up (by omega), fun w => ⟨fun w2 => dn (by omega), fun w2 => ⟨by omega, fun w3 => dn (by omega), fun w3 => up (by omega)⟩⟩⟩, fun w => (by omega : False).elim⟩
      | succ q ih =>
        intro j hq hj
        have hlt : a * 2 ^ j < 8388608 * b := by
          by_cases z : j < 23
          · have h1 : 2 ^ j ≤ 2 ^ 22 := Nat.pow_le_pow_right (by decide) (by omega)
            have h2 : a * 2 ^ j ≤ a * 2 ^ 22 := Nat.mul_le_mul_left a h1
            omega
          · have h1 := e3 (j - 23) (by omega)
            have h2 : a * 2 ^ j = a * 2 ^ (j - 23) * 8388608 := by
              rw [Nat.mul_assoc, show (8388608 : Nat) = 2 ^ 23 from rfl, ← Nat.pow_add, show j - 23 + 23 = j by omega]
            omega
        have ih' := ih (j + 1) (by omega) (by omega)
        rw [Nat.pow_succ, ← Nat.mul_assoc] at ih'
        rw [show (((a * 2 ^ j * 2 : Nat)) : Int) = ((a * 2 ^ j : Nat) : Int) * 2 by omega, ← g_cast1] at ih'
        generalize a * 2 ^ j = X at *
        have hd : X / b < 8388608 := by rw [Nat.div_lt_iff_lt_mul (by omega)]; exact hlt
        have hdiv : ((X : Nat) : Int) / b = ((X / b : Nat) : Int) := rfl
        refine s_X12_floatBits_12 (fun _ _ _ _ => ?_)
        rw [hdiv]
        exact ⟨⟨by omega, by omega⟩, fun w => (by omega : False).elim, fun _ => ⟨⟨by omega, by omega⟩, ⟨by omega, by omega⟩, ih'⟩⟩
    have := key _ 0 rfl (Nat.zero_le _)
    rw [Nat.pow_zero, Nat.mul_one] at this
    exact s_X12_floatBits (fun _ _ _ => ⟨fun _ => this, fun q => (by omega : False).elim⟩)
end SHARE
/-- which share a command's cells are in -/
def q_sk (c : Nat → Nat → Int) (p : m_P) (k : Nat) : Int := if c k 0 = 2 then 0 else if c k 0 = 1 ∧ p_t p k = false then 1 else 2
def q_ss (c : Nat → Nat → Int) (p : m_P) (v : Int) (j : Nat) : Int := m_sum (fun k => if q_sk c p k = v then c k 3 else 0) j
noncomputable def A_share (S m : Nat) (c : Nat → Nat → Int) (p : m_P) (v : Int) : Int := if 0 ≤ v ∧ v ≤ 2 then q_fl (q_ss c p v S).toNat m else -2
theorem q_ss_S {c : Nat → Nat → Int} {p : m_P} {v : Int} {j : Nat} : q_ss c p v (j + 1) = q_ss c p v j + (if q_sk c p j = v then c j 3 else 0) := rfl
theorem q_ss_rng {S m n : Nat} {c : Nat → Nat → Int} {p : m_P} {v : Int} (hi : m_inv n m S c) (hm : m ≤ 40) {j : Nat} (hj : j ≤ S) : 0 ≤ q_ss c p v j ∧ q_ss c p v j ≤ m := by
  have hok := hi.cok hm
  have h0 : 0 ≤ q_ss c p v j := m_sum_nn (fun k hk => by
    have := (hok.2.1 k (by omega)).2.2.1
    split <;> omega)
  have h1 : q_ss c p v j ≤ m_sum (fun k => c k 3) j := m_sum_le (fun k hk => by
    have := (hok.2.1 k (by omega)).2.2.1
    split <;> omega)
  have h2 := m_sum_mono (W := fun k => c k 3) hj (fun k hk => by have := (hok.2.1 k hk).2.2.1; omega)
  have h3 := hi.2.2.2.1
  omega
theorem q_fl_0 {b : Nat} : q_fl 0 b = 0 := by unfold q_fl; rw [if_pos rfl]
section SHARE2
variable {E : g_E} {l : Launch} {sh : List g_Sh} {D : g_D} {o w : Nat → Int} {n m le B S : Nat} {ch ru : Int} {c : Nat → Nat → Int}
theorem c_X11_shareOf {K : Int → g_D → Prop} {k : Nat} (h : x_pS D ru B n m S w c) (hm : m ≤ 40) (hB : B ≤ 20) (hk : k < S) (kk : K (q_sk c (m_pl S c ru B) k) D) : k_X11_shareOf E l D k K := by
  have hok := h.cok hm
  have hs := hok.1
  have hI := (m_pl_ok (ru := ru) hok hB).1
  have hp := h.2.2.2.2.1
  obtain ⟨q1, q2, q3, q4⟩ := h.1.2 k hk
  unfold q_sk at kk
  refine s_X11_shareOf (fun _ _ => ?_)
  rw [Int.toNat_natCast, show D 138 k = c k 0 from q1]
  refine ⟨by omega, fun e => ⟨by omega, fun e1 => ?_, fun e1 => c_X4_fateOf (p := m_pl S c ru B) ip_Plan_149 (by omega) hp.2.2.2.1 hp.2.2.2.2.1 (fun _ => ⟨fun e2 => ?_, fun e2 => ?_⟩)⟩, fun e => ?_⟩
  · rw [if_neg e, if_neg (fun q => e1 q.1)] at kk; exact kk
  · rw [if_neg e, if_neg (fun q => by
      rw [q.2] at e2
      split at e2
      · exact absurd e2 (by decide)
      · exact absurd e2 (by decide))] at kk
    exact kk
  · rw [if_neg e, if_pos ⟨e1, by
      cases ht : p_t (m_pl S c ru B) k
      · rfl
      · have := (hI.2.2.1 k ht).2.2
        rw [this, ht] at e2
        exact absurd rfl e2⟩] at kk
    exact kk
  · rw [if_pos e] at kk; exact kk
theorem c_X11_share {K : Int → g_D → Prop} {v : Int} (h : x_tx D o n w m le ch ru B) (eC : m_cs ch le o w n m = (S, c)) (hR : x_plnR D ch le ru B o w n m) (k0 : ¬ (0 ≤ v ∧ v ≤ 2) → K (-2) D) (kk : ∀ D' : g_D, (0 ≤ v ∧ v ≤ 2) → x_fpq D D' → x_pS D' ru B n m S w c → K (q_fl (q_ss c (m_pl S c ru B) v S).toNat m) D') : k_X11_share E l D v K := by
  have hm := h.2.1.2.1
  have hB := h.2.2.2.2.2.2.2.2.1
  refine s_X11_share (fun _ _ => ⟨fun q => k0 (by omega), fun q => ⟨fun q2 => c_mp h eC hR (fun D1 f1 _ p1 => ?_), fun q2 => k0 (by omega)⟩⟩)
  have kk := kk D1 (by omega) f1 p1
  have hs := (p1.cok hm).1
  have hw := (f1.tx h).2.1.1
  have key : ∀ q j : Nat, S - j = q → j ≤ S → n_X11_share E l D1 20 [some (g_R 0), some (g_I v), some (g_I (q_ss c (m_pl S c ru B) v j)), some (g_I j)] K := by
    intro q
    induction q with
    | zero =>
      intro j hq hj
      obtain rfl : j = S := by omega
      have hr := q_ss_rng (p := m_pl j c ru B) (v := v) p1.2.1 hm (Nat.le_refl j)
      refine s_X11_share_20 (fun _ _ _ _ => ⟨fun _ => ?_, fun w => by have := p1.1.1; omega⟩)
      rw [hw, show q_ss c (m_pl j c ru B) v j = (((q_ss c (m_pl j c ru B) v j).toNat : Nat) : Int) by omega]
      exact c_X11_floatBits (by omega) hm (fun _ => kk)
    | succ q ih =>
      intro j hq hj
      have ih' := ih (j + 1) (by omega) (by omega)
      rw [q_ss_S, ← g_cast1] at ih'
      have hr := q_ss_rng (p := m_pl S c ru B) (v := v) p1.2.1 hm (show j ≤ S by omega)
      have hr2 := q_ss_rng (p := m_pl S c ru B) (v := v) p1.2.1 hm (show j + 1 ≤ S by omega)
      rw [q_ss_S] at hr2
      refine s_X11_share_20 (fun _ _ _ _ => ⟨fun w => by have := p1.1.1; omega, fun _ => c_X11_shareOf p1 hm hB (by omega) (fun _ => ⟨fun e => ⟨⟨by omega, by omega⟩, ?_⟩, fun e => ⟨by omega, ?_⟩⟩)⟩)
      · rw [if_neg e, Int.add_zero] at ih'; exact ih'
      · rw [if_pos e] at ih' hr2
        rw [Int.toNat_natCast, show D1 141 j = c j 3 from (p1.1.2 j (by omega)).2.2.2]
        exact ⟨⟨by omega, by omega⟩, ⟨by omega, by omega⟩, ih'⟩
  exact key _ 0 rfl (Nat.zero_le _)
theorem c_X12_share {K : Int → g_D → Prop} {v : Int} (h : m_tx D o n w m le ch ru B) (eC : m_cs ch le o w n m = (S, c)) (k0 : ¬ (0 ≤ v ∧ v ≤ 2) → ∀ D' : g_D, m_fr D D' → K (-2) D') (kk : ∀ D' : g_D, (0 ≤ v ∧ v ≤ 2) → m_fr D D' → K (q_fl (q_ss c (m_pl S c ru B) v S).toNat m) D') (hi0 : m_inv n m S c) : k_X12_share E l D v K := by
  have hm := h.1.2.2.2.1
  have hB := h.2.2.2.2.2.2.2
  refine s_X12_share (fun _ _ D1 e1 => c_X12_within ⟨fun z _ => ⟨fun _ => ⟨fun z2 => ?_, fun z2 => ?_⟩, fun q => absurd q (by decide)⟩, fun z _ => ⟨fun q => absurd rfl q, fun _ => k0 z D1 (by rw [e1]; exact m_fpp.up0.fr)⟩⟩)
  · have h1 : m_tx D1 o n w m le ch ru B := by rw [e1]; exact m_fpp.up0.tx h
    rw [h1.1.2.2.1] at z2
    refine c_la h1 eC (fun D2 f2 i2 c2 a2 p2 b2 => ?_)
    have kk := kk D2 z (by rw [e1] at f2; exact (m_fpp.up0.trans f2).fr)
    have hok := i2.cok hm
    have hs := hok.1
    have hw := (f2.tx h1).1.2.2.1
    have h14 := c2.1
    have key : ∀ q j : Nat, S - j = q → j ≤ S → n_X12_share E l D2 39 [some (g_R 208), some (g_I v), some (g_I (q_ss c (m_pl S c ru B) v j)), some (g_I j), none] K := by
      intro q
      induction q with
      | zero =>
        intro j hq hj
        obtain rfl : j = S := by omega
        have hr := q_ss_rng (p := m_pl j c ru B) (v := v) i2 hm (Nat.le_refl j)
        refine s_X12_share_39 (fun _ _ _ _ => ⟨fun _ => ?_, fun w => by omega⟩)
        rw [hw, show q_ss c (m_pl j c ru B) v j = (((q_ss c (m_pl j c ru B) v j).toNat : Nat) : Int) by omega]
        exact c_X12_floatBits (by omega) hm (by omega) (fun _ => kk)
      | succ q ih =>
        intro j hq hj
        have ih' := ih (j + 1) (by omega) (by omega)
        rw [q_ss_S, ← g_cast1] at ih'
        have hr := q_ss_rng (p := m_pl S c ru B) (v := v) i2 hm (show j ≤ S by omega)
        have hr2 := q_ss_rng (p := m_pl S c ru B) (v := v) i2 hm (show j + 1 ≤ S by omega)
        rw [q_ss_S] at hr2
        obtain ⟨c0, c1, c3, c4⟩ := c2.2 j (by omega)
        obtain ⟨b1, b2', b3⟩ := p2.1 j (by omega)
        have go : ∀ x : Int, q_sk c (m_pl S c ru B) j = x → (¬ x = v → (g_r (q_ss c (m_pl S c ru B) v j + 0)) ∧ ((g_r ((j : Int) + 1)) ∧ (n_X12_share E l D2 39 [some (g_R 208), some (g_I v), some (g_I (q_ss c (m_pl S c ru B) v j + 0)), some (g_I ((j : Int) + 1)), none] K))) ∧ (x = v → (0 ≤ (j : Int) ∧ (j : Int) < 40) ∧ ((g_r (q_ss c (m_pl S c ru B) v j + c j 3)) ∧ ((g_r ((j : Int) + 1)) ∧ (n_X12_share E l D2 39 [some (g_R 208), some (g_I v), some (g_I (q_ss c (m_pl S c ru B) v j + c j 3)), some (g_I ((j : Int) + 1)), none] K)))) := by
          intro x ex
          rw [ex] at ih' hr2
          refine ⟨fun e => ?_, fun e => ?_⟩
          · rw [if_neg e] at ih' hr2; exact ⟨⟨by omega, by omega⟩, ⟨by omega, by omega⟩, ih'⟩
          · rw [if_pos e] at ih' hr2; exact ⟨by omega, ⟨by omega, by omega⟩, ⟨by omega, by omega⟩, ih'⟩
        refine s_X12_share_39 (fun _ _ _ _ => ⟨fun w => by omega, fun _ => ⟨by omega, ?_⟩⟩)
        rw [Int.toNat_natCast, c0, c4, b3]
        refine ⟨fun e => ⟨by omega, fun e1 => ?_, fun e1 => ⟨by omega, fun e2 => ?_, fun e2 => ?_⟩⟩, fun e => ?_⟩
        · exact go 2 (by unfold q_sk; rw [if_neg e, if_neg (fun q => e1 q.1)])
        · exact go 2 (by unfold q_sk; rw [if_neg e, if_neg (fun q => by rw [g_b_n0.mp e2] at q; cases q.2)])
        · exact go 1 (by unfold q_sk; rw [if_neg e, if_pos ⟨e1, g_b_0.mp e2⟩])
        · exact go 0 (by unfold q_sk; rw [if_pos e])
    exact key _ 0 rfl (Nat.zero_le _)
  · have h1 : m_tx D1 o n w m le ch ru B := by rw [e1]; exact m_fpp.up0.tx h
    rw [h1.1.2.2.1] at z2
    have hm0 : m = 0 := by omega
    have hr := q_ss_rng (p := m_pl S c ru B) (v := v) hi0 hm (Nat.le_refl S)
    have kk := kk D1 z (by rw [e1]; exact m_fpp.up0.fr)
    rw [show (q_ss c (m_pl S c ru B) v S).toNat = 0 by omega, q_fl_0] at kk
    exact kk
end SHARE2
end
