section
/-! what is due, which cells of the stash are needed -/
def q_due (b : Nat → Int) (n : Nat) (W0 : Nat → Int) : Nat → (Nat → Int)
  | 0 => W0
  | s + 1 => q_do b n (q_due b n W0 s) s
def q_at (b : Nat → Int) (n s : Nat) : Nat := if s < t_o b n then t_sa b n s else n
def q_bs (b : Nat → Int) (n s : Nat) : Nat := m_on (n_fr b (t_sa b n s) + (max (n_to b (t_sa b n s)) (4 * (t_sb b n s).toNat) - n_to b (t_sa b n s))) (min (n_to b (t_sa b n s) + n_ln b (t_sa b n s)) (4 * (t_sb b n s).toNat + 4) - max (n_to b (t_sa b n s)) (4 * (t_sb b n s).toNat))
def q_nx (b : Nat → Int) (n s x : Nat) : Nat := if a_k b (t_sa b n s) = 1 then m_an x (m_on (n_to b (t_sa b n s)) (n_ln b (t_sa b n s))) else if a_k b (t_sa b n s) = 3 then x ||| q_bs b n s else x
def q_ndr (b : Nat → Int) (n c : Nat) : Nat → Nat
  | 0 => 0
  | j + 1 => q_nx b n (c - (j + 1)) (q_ndr b n c j)
def q_nd (b : Nat → Int) (n s : Nat) : Nat := q_ndr b n (t_o b n) (t_o b n - s)
theorem q_nd_S {b : Nat → Int} {n s : Nat} (h : s < t_o b n) : q_nd b n s = q_nx b n s (q_nd b n (s + 1)) := by
  unfold q_nd
  obtain ⟨j, hj⟩ : ∃ j, t_o b n = s + 1 + j := ⟨t_o b n - (s + 1), by omega⟩
  rw [show t_o b n - s = (t_o b n - (s + 1)) + 1 by omega, q_ndr, show t_o b n - (t_o b n - (s + 1) + 1) = s by omega]
theorem q_nd_0 {b : Nat → Int} {n : Nat} : q_nd b n (t_o b n) = 0 := by unfold q_nd; rw [Nat.sub_self, q_ndr]
/-- the block of a step and its act -/
theorem q_blk {b : Nat → Int} {N n s : Nat} (hA : q_A b N n) (hs : s < t_o b n) (h1 : ¬ a_k b (t_sa b n s) = 1) : ∃ B : Nat, t_sb b n s = B ∧ B ≤ 9 ∧ n_to b (t_sa b n s) < 4 * B + 4 ∧ 4 * B < n_to b (t_sa b n s) + n_ln b (t_sa b n s) := by
  obtain ⟨a1, a2, a3⟩ := t_sb_rng hA.1 hs
  have a3 := a3 h1
  obtain ⟨o1, o2, o3, o4, o5, o6, o7, _⟩ := hA.1 _ a1
  refine ⟨(t_sb b n s).toNat, by omega, by omega, ?_, ?_⟩
  · unfold t_f t_l at a3; omega
  · unfold t_f t_l at a3; omega
theorem q_bs_in {b : Nat → Int} {N n s : Nat} (hA : q_A b N n) (hs : s < t_o b n) (h3 : a_k b (t_sa b n s) = 3) : n_fr b (t_sa b n s) + (max (n_to b (t_sa b n s)) (4 * (t_sb b n s).toNat) - n_to b (t_sa b n s)) + (min (n_to b (t_sa b n s) + n_ln b (t_sa b n s)) (4 * (t_sb b n s).toNat + 4) - max (n_to b (t_sa b n s)) (4 * (t_sb b n s).toNat)) ≤ 20 := by
  obtain ⟨a1, a2, a3⟩ := t_sb_rng hA.1 hs
  obtain ⟨o1, o2, o3, o4, o5, o6, o7, k1, k2, k3, _⟩ := hA.1 _ a1
  have k3 := k3 h3
  obtain ⟨B, hB, hB1, hB2, hB3⟩ := q_blk hA hs (by omega)
  rw [hB, Int.toNat_natCast]
  omega
theorem q_nx_lt {b : Nat → Int} {N n s x : Nat} (hA : q_A b N n) (hs : s < t_o b n) (hx : x < 2 ^ 20) : q_nx b n s x < 2 ^ 20 := by
  unfold q_nx
  split
  · exact m_an_le hx
  · split
    · rename_i h3
      exact Nat.or_lt_two_pow hx (m_on_lt (q_bs_in hA hs h3))
    · exact hx
theorem q_ndr_lt {b : Nat → Int} {N n : Nat} (hA : q_A b N n) : ∀ {j : Nat}, j ≤ t_o b n → q_ndr b n (t_o b n) j < 2 ^ 20
  | 0, _ => by rw [q_ndr]; decide
  | j + 1, h => by rw [q_ndr]; exact q_nx_lt hA (by omega) (q_ndr_lt hA (by omega))
theorem q_nd_lt {b : Nat → Int} {N n s : Nat} (hA : q_A b N n) : q_nd b n s < 2 ^ 20 := q_ndr_lt hA (Nat.sub_le _ _)
/-- only acts of one step write the stash -/
theorem q_do_st {b : Nat → Int} {n s x : Nat} {W : Nat → Int} (h : ¬ t_sb b n s = -1) (hB : (t_sb b n s).toNat ≤ 9) (hx : 40 ≤ x) : q_do b n W s x = W x := by
  unfold q_do
  rw [if_neg h]
  unfold q_wb
  rw [if_neg (by omega)]
theorem q_at_mono {b : Nat → Int} {n s t : Nat} (h : s ≤ t) : q_at b n s ≤ q_at b n t := by
  unfold q_at
  by_cases q : t < t_o b n
  · rw [if_pos q, if_pos (by omega)]
    obtain ⟨a1, a2, a3⟩ := t_sa_spec q
    obtain ⟨c1, c2, c3⟩ := t_sa_spec (show s < t_o b n by omega)
    refine Classical.byContradiction (fun w => ?_)
    have : t_o b (t_sa b n t + 1) ≤ t_o b (t_sa b n s) := t_o_mono (by omega)
    omega
  · rw [if_neg q]
    split
    · rename_i w; have := (t_sa_spec w).1; omega
    · exact Nat.le_refl _
theorem q_at_le {b : Nat → Int} {n s : Nat} : q_at b n s ≤ n := by
  unfold q_at
  split
  · rename_i w; have := (t_sa_spec w).1; omega
  · exact Nat.le_refl _
theorem q_due_st {b : Nat → Int} {N n : Nat} {W0 : Nat → Int} (hA : q_A b N n) {s : Nat} : ∀ {t : Nat}, s ≤ t → t ≤ t_o b n → q_at b n s = q_at b n t → ∀ x, 40 ≤ x → q_due b n W0 s x = q_due b n W0 t x
  | 0, h, _, _, x, _ => by rw [show s = 0 by omega]
  | t + 1, h, ht, e, x, hx => by
    by_cases q : s = t + 1
    · rw [q]
    · have m1 : q_at b n s ≤ q_at b n t := q_at_mono (by omega)
      have m2 : q_at b n t ≤ q_at b n (t + 1) := q_at_mono (by omega)
      rw [q_due_st hA (show s ≤ t by omega) (by omega) (by omega) x hx, q_due]
      have htc : t < t_o b n := by omega
      have e1 : q_at b n t = t_sa b n t := by unfold q_at; rw [if_pos htc]
      obtain ⟨a1, a2, a3⟩ := t_sa_spec htc
      have hk : ¬ a_k b (t_sa b n t) = 1 := fun w => by
        rw [t_o_S, show t_len b (t_sa b n t) = 1 from if_pos w] at a3
        have e2 : q_at b n (t + 1) = t_sa b n t := by omega
        unfold q_at at e2
        by_cases z : t + 1 < t_o b n
        · rw [if_pos z] at e2
          obtain ⟨c1, c2, c3⟩ := t_sa_spec z
          rw [e2, t_o_S, show t_len b (t_sa b n t) = 1 from if_pos w] at c3
          omega
        · rw [if_neg z] at e2
          omega
      obtain ⟨c1, c2, c3⟩ := t_sb_rng hA.1 htc
      have c3 := c3 hk
      exact (q_do_st (by omega) (by omega) hx).symm
/-- cells stay bytes -/
theorem q_rd_by {b : Nat → Int} {N n i t : Nat} {W : Nat → Int} (hA : q_A b N n) (hb : q_by b N) (hW : q_by W 60) (hi : i < n) (h1 : ¬ a_k b i = 1) (ht : t < n_ln b i) : 0 ≤ q_rd b W i t ∧ q_rd b W i t ≤ 255 := by
  obtain ⟨o1, o2, o3, o4, o5, o6, o7, k1, k2, k3, k4, k5, k6⟩ := hA.1 i hi
  unfold q_rd
  split
  · rename_i w; have := k2 w; exact hW _ (by omega)
  · split
    · rename_i w; have := k3 w; exact hW _ (by omega)
    · have := k4 (by omega); exact hb _ (by omega)
theorem q_nc_by {b : Nat → Int} {N n i c : Nat} {W : Nat → Int} (hA : q_A b N n) (hb : q_by b N) (hW : q_by W 60) (hi : i < n) (h1 : ¬ a_k b i = 1) (hc : c < 60) : 0 ≤ q_nc b W i c ∧ q_nc b W i c ≤ 255 := by
  unfold q_nc
  split
  · rename_i w; exact q_rd_by hA hb hW hi h1 (by omega)
  · exact hW c hc
theorem q_sv_by {b : Nat → Int} {N n i m : Nat} {W : Nat → Int} (hA : q_A b N n) (hW : q_by W 60) (hi : i < n) (h1 : a_k b i = 1) : q_by (q_sv b W i m) 60 := by
  obtain ⟨o1, o2, o3, o4, o5, o6, o7, k1, k2, k3, k4, k5, k6⟩ := hA.1 i hi
  have k1 := k1 h1
  intro x hx
  unfold q_sv
  split
  · exact hW _ (by omega)
  · exact hW x hx
theorem q_wb_by {C W : Nat → Int} {k m : Nat} (hC : ∀ c, c < 4 → 0 ≤ C c ∧ C c ≤ 255) (hW : q_by W 60) : q_by (q_wb C W k m) 60 := by
  intro x hx
  unfold q_wb
  split
  · split
    · exact hC _ (by omega)
    · omega
  · exact hW x hx
theorem q_cm_by {b : Nat → Int} {N n s : Nat} {W : Nat → Int} (hA : q_A b N n) (hb : q_by b N) (hW : q_by W 60) (hs : s < t_o b n) (h1 : ¬ t_sb b n s = -1) : ∀ c, c < 4 → 0 ≤ q_cm b n W s c ∧ q_cm b n W s c ≤ 255 := by
  obtain ⟨a1, a2, a3⟩ := t_sb_rng hA.1 hs
  have hk : ¬ a_k b (t_sa b n s) = 1 := fun q => h1 (a2 q)
  have a3 := a3 hk
  intro c hc
  exact q_nc_by hA hb hW a1 hk (by omega)
theorem q_do_by {b : Nat → Int} {N n s : Nat} {W : Nat → Int} (hA : q_A b N n) (hb : q_by b N) (hW : q_by W 60) (hs : s < t_o b n) : q_by (q_do b n W s) 60 := by
  obtain ⟨a1, a2, a3⟩ := t_sb_rng hA.1 hs
  unfold q_do
  split
  · rename_i w
    exact q_sv_by hA hW a1 (Classical.byContradiction (fun q => by have := a3 q; omega))
  · rename_i w
    exact q_wb_by (q_cm_by hA hb hW hs w) hW
theorem q_due_by {b : Nat → Int} {N n : Nat} {W0 : Nat → Int} (hA : q_A b N n) (hb : q_by b N) (hW : q_by W0 60) : ∀ {s : Nat}, s ≤ t_o b n → q_by (q_due b n W0 s) 60
  | 0, _ => hW
  | s + 1, h => q_do_by hA hb (q_due_by hA hb hW (by omega)) (by omega)
theorem q_run_by {b : Nat → Int} {N n s : Nat} {W : Nat → Int} (hA : q_A b N n) (hb : q_by b N) (hW : q_by W 60) : ∀ {j : Nat}, s + j ≤ t_o b n → q_by (q_run b n W s j) 60
  | 0, _ => hW
  | j + 1, h => q_do_by hA hb (q_run_by hA hb hW (by omega)) (by omega)
/-- what fits a step -/
def q_fit (b : Nat → Int) (n : Nat) (W0 W : Nat → Int) (s : Nat) : Prop := (∀ i, i < 40 → W i = q_due b n W0 s i) ∧ ∀ i, i < 20 → (q_nd b n s).testBit i = true → W (40 + i) = q_due b n W0 s (40 + i)
noncomputable def q_fb (b : Nat → Int) (n : Nat) (W0 W : Nat → Int) (s : Nat) : Bool := @decide (q_fit b n W0 W s) (Classical.propDecidable _)
theorem q_fb_iff {b : Nat → Int} {n s : Nat} {W0 W : Nat → Int} : q_fb b n W0 W s = true ↔ q_fit b n W0 W s := by unfold q_fb; exact @decide_eq_true_iff _ (Classical.propDecidable _)
theorem q_fb_no {b : Nat → Int} {n s : Nat} {W0 W : Nat → Int} (h : ¬ q_fit b n W0 W s) : q_fb b n W0 W s = false := by
  cases e : q_fb b n W0 W s
  · rfl
  · exact absurd (q_fb_iff.mp e) h
/-- the steps that are left lead from what fits to what is due -/
theorem q_fit_S {b : Nat → Int} {N n s : Nat} {W0 W : Nat → Int} (hA : q_A b N n) (hs : s < t_o b n) (h : q_fit b n W0 W s) : q_fit b n W0 (q_do b n W s) (s + 1) := by
  obtain ⟨h1, h2⟩ := h
  obtain ⟨a1, a2, a3⟩ := t_sb_rng hA.1 hs
  have ok := hA.1 _ a1
  have hle := ok.le
  obtain ⟨o1, o2, o3, o4, o5, o6, o7, k1, k2, k3, k4, k5, k6⟩ := ok
  rw [q_nd_S hs] at h2
  unfold q_nx at h2
  refine ⟨fun i hi => ?_, fun i hi hb => ?_⟩
  · rw [q_due]
    unfold q_do
    by_cases w : t_sb b n s = -1
    · rw [if_pos w, if_pos w]
      unfold q_sv
      rw [if_neg (by omega), if_neg (by omega)]
      exact h1 i hi
    · rw [if_neg w, if_neg w]
      have hk : ¬ a_k b (t_sa b n s) = 1 := fun q => w (a2 q)
      have a3 := a3 hk
      unfold q_wb
      by_cases e : 4 * (t_sb b n s).toNat ≤ i ∧ i < 4 * (t_sb b n s).toNat + 4
      · rw [if_pos e, if_pos e, if_pos (by omega), if_pos (by omega)]
        unfold q_cm q_nc
        rw [show 4 * (t_sb b n s).toNat + (i - 4 * (t_sb b n s).toNat) = i by omega]
        by_cases e2 : n_to b (t_sa b n s) ≤ i ∧ i < n_to b (t_sa b n s) + n_ln b (t_sa b n s)
        · rw [if_pos e2, if_pos e2]
          unfold q_rd
          by_cases w2 : a_k b (t_sa b n s) = 2
          · rw [if_pos w2, if_pos w2]
            have := k2 w2
            exact h1 _ (by omega)
          · rw [if_neg w2, if_neg w2]
            by_cases w3 : a_k b (t_sa b n s) = 3
            · rw [if_pos w3, if_pos w3, Nat.add_assoc]
              have := k3 w3
              refine h2 _ (by omega) ?_
              rw [if_neg hk, if_pos w3, Nat.testBit_or]
              unfold q_bs
              rw [m_on_bit, decide_eq_true (by omega), decide_eq_true (by omega)]
              simp
            · rw [if_neg w3, if_neg w3]
        · rw [if_neg e2, if_neg e2]
          exact h1 i hi
      · rw [if_neg e, if_neg e]
        exact h1 i hi
  · rw [q_due]
    by_cases w : t_sb b n s = -1
    · have hk : a_k b (t_sa b n s) = 1 := Classical.byContradiction (fun q => by have := a3 q; omega)
      have k1 := k1 hk
      rw [if_pos hk] at h2
      unfold q_do
      rw [if_pos w, if_pos w]
      unfold q_sv
      by_cases e : 40 + n_to b (t_sa b n s) ≤ 40 + i ∧ 40 + i < 40 + n_to b (t_sa b n s) + min 40 (n_ln b (t_sa b n s))
      · rw [if_pos e, if_pos e]
        exact h1 _ (by omega)
      · rw [if_neg e, if_neg e]
        refine h2 i hi ?_
        rw [m_an_bit, hb, m_on_bit]
        by_cases z : n_to b (t_sa b n s) ≤ i
        · rw [decide_eq_true z, decide_eq_false (by omega)]; rfl
        · rw [decide_eq_false z]; rfl
    · have hk : ¬ a_k b (t_sa b n s) = 1 := fun q => w (a2 q)
      have a3 := a3 hk
      rw [q_do_st w (by omega) (by omega), q_do_st w (by omega) (by omega)]
      refine h2 i hi ?_
      rw [if_neg hk]
      split
      · rw [Nat.testBit_or, hb]; rfl
      · exact hb
theorem q_fit_run {b : Nat → Int} {N n s : Nat} {W0 W : Nat → Int} (hA : q_A b N n) (h : q_fit b n W0 W s) : ∀ {j : Nat}, s + j ≤ t_o b n → q_fit b n W0 (q_run b n W s j) (s + j)
  | 0, _ => h
  | j + 1, hj => q_fit_S hA (by omega) (q_fit_run hA h (by omega))
end
