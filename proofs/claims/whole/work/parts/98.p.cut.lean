section
/-! the power is cut -/
def q_cW (b : Nat → Int) (n : Nat) (W : Nat → Int) (s ph c : Nat) : Nat → Int := if ph = 0 then W else if t_sb b n s = -1 then q_sv b W (t_sa b n s) (if ph = 3 then 40 else c) else if ph = 1 then W else q_wb (q_cm b n W s) W (t_sb b n s).toNat (if ph = 3 then 4 else c)
def q_cJ (b : Nat → Int) (n s ph : Nat) : Int := if ph ≤ 1 then -1 else t_sb b n s
theorem q_cJ_rng {b : Nat → Int} {N n s ph : Nat} (hA : q_A b N n) (hs : s < t_o b n) : q_cJ b n s ph = -1 ∨ (0 ≤ q_cJ b n s ph ∧ q_cJ b n s ph ≤ 9 ∧ ¬ t_sb b n s = -1) := by
  obtain ⟨a1, a2, a3⟩ := t_sb_rng hA.1 hs
  unfold q_cJ
  split
  · exact Or.inl rfl
  · by_cases q : a_k b (t_sa b n s) = 1
    · exact Or.inl (a2 q)
    · have := a3 q
      exact Or.inr ⟨by omega, by omega, by omega⟩
theorem q_cW_by {b : Nat → Int} {N n s ph c : Nat} {W : Nat → Int} (hA : q_A b N n) (hb : q_by b N) (hW : q_by W 60) (hs : s < t_o b n) : q_by (q_cW b n W s ph c) 60 := by
  obtain ⟨a1, a2, a3⟩ := t_sb_rng hA.1 hs
  unfold q_cW
  split
  · exact hW
  · split
    · rename_i w
      exact q_sv_by hA hW a1 (Classical.byContradiction (fun q => by have := a3 q; omega))
    · rename_i w
      split
      · exact hW
      · exact q_wb_by (q_cm_by hA hb hW hs w) hW
noncomputable def q_rt (b : Nat → Int) (n : Nat) (W0 W : Nat → Int) : Bool := @decide (∀ i, i < 40 → W i = q_due b n W0 (t_o b n) i) (Classical.propDecidable _)
theorem q_rt_iff {b : Nat → Int} {n : Nat} {W0 W : Nat → Int} : q_rt b n W0 W = true ↔ ∀ i, i < 40 → W i = q_due b n W0 (t_o b n) i := by unfold q_rt; exact @decide_eq_true_iff _ (Classical.propDecidable _)
theorem q_rt_no {b : Nat → Int} {n : Nat} {W0 W : Nat → Int} (h : ¬ ∀ i, i < 40 → W i = q_due b n W0 (t_o b n) i) : q_rt b n W0 W = false := by
  cases e : q_rt b n W0 W
  · rfl
  · exact absurd (q_rt_iff.mp e) h
section CUT
variable {E : g_E} {l : Launch} {sh : List g_Sh} {D : g_D} {b W W0 C : Nat → Int} {N n : Nat}
theorem c_X1_cutPower {K : g_D → Prop} {k s ph c : Nat} (hk : is_Device g_SH k) (hkc : k + 8 ≤ 175 ∨ (185 ≤ k ∧ k + 8 ≤ 196) ∨ 197 ≤ k) (hA : q_A b N n) (hx : x_cx D b N n) (h7 : D k 7 = s) (hs : s < t_o b n) (hW : x_W D k W) (hp : ph ≤ 3) (hc : c ≤ 3)
    (kk : ∀ D' : g_D, (∀ j, j ≠ k → j ≠ k + 1 → j ≠ k + 2 → j ≠ k + 7 → j ≠ 196 → D' j = D j) → D' k 9 = 0 → D' k 7 = D k 7 → D' k 8 = D k 8 → D' k 6 = (if q_cJ b n s ph = -1 then D k 6 else q_cJ b n s ph) → (q_cJ b n s ph = -1 → D' (k + 7) = D (k + 7)) → (¬ q_cJ b n s ph = -1 → ∀ t, t < 4 → D' (k + 7) t = q_cm b n W s t) → x_W D' k (q_cW b n W s ph c) → K D') : k_X1_cutPower E l D k ph c K := by
  obtain ⟨a1, a2, a3⟩ := t_sb_rng hA.1 hs
  have hcnt := hA.cnt
  have hst := hx.1.2 s hs
  have h4 := hx.1.1
  unfold q_cW q_cJ at kk
  refine s_X1_cutPower hk (fun _ _ _ D1 e1 => ?_)
  have g7 : D1 k 7 = s := by rw [e1, g_up_at (by decide)]; exact h7
  have f1 : ∀ j, j ≠ k → D1 j = D j := fun j hj => by rw [e1, g_up_ne hj]
  have h41 : D1 175 4 = (t_o b n : Nat) := by rw [f1 175 (by omega)]; exact h4
  have hx1 : x_cx D1 b N n := hx.fr (fun j _ _ => f1 j (by omega))
  have hW1 : x_W D1 k W := by unfold x_W at *; rw [f1 (k + 1) (by omega), f1 (k + 2) (by omega)]; exact hW
  have o9 : D1 k 9 = 0 := by rw [e1, g_up_eq]
  have o : ∀ j, j ≠ 9 → D1 k j = D k j := fun j hj => by rw [e1, g_up_at hj]
  have st1 := hx1.1.2 s hs
  refine s_X1_hasLeft hk (fun _ => ⟨fun w => (by omega : False).elim, fun _ => ⟨fun w => (by omega : False).elim, fun _ _ => ⟨fun w => absurd w (by decide), fun _ => ⟨fun w => ?_, fun w => ?_⟩⟩⟩⟩)
  · rw [g7, Int.toNat_natCast, st1.1, st1.2]
    rw [if_neg (show ¬ ph = 0 by omega)] at kk
    refine ⟨by omega, fun w1 => ⟨fun w2 => ?_, fun w2 => ?_⟩, fun w1 => ⟨by omega, ?_⟩⟩
    · rw [if_pos (show ph ≤ 1 by omega), if_pos rfl, if_neg w1, if_pos (show ph = 1 by omega)] at kk
      exact kk D1 (fun j c1 _ _ _ _ => f1 j c1) o9 (o 7 (by decide)) (o 8 (by decide)) (o 6 (by decide)) (fun _ => f1 _ (by omega)) (fun q => absurd rfl q) hW1
    · rw [if_neg (show ¬ ph ≤ 1 by omega), if_neg w1, if_neg w1, if_neg (show ¬ ph = 1 by omega)] at kk
      have hk1 : ¬ a_k b (t_sa b n s) = 1 := fun q => w1 (a2 q)
      have a3 := a3 hk1
      obtain ⟨B, hB⟩ : ∃ B : Nat, t_sb b n s = B := ⟨(t_sb b n s).toNat, by omega⟩
      refine c_X1_readComing hk hkc hA hx1 hs w1 hW1 (fun D2 f2 hc2 => ⟨by omega, ?_⟩)
      have q4 : D2 184 s = (B : Nat) := by rw [f2 184 (by decide), st1.2]; exact hB
      rw [q4]
      refine s_X2_writeJournal hk sh_196 (fun _ _ D3 e3 => ⟨by decide, fun D4 e4 => ⟨by omega, ?_⟩⟩)
      have f4 : ∀ j, j ≠ k → j ≠ k + 7 → D4 j = D2 j := fun j c1 c2 => by rw [e4, g_cpy, g_row_ne c2, e3, g_up_ne c1]
      have q44 : D4 184 s = (B : Nat) := by rw [f4 184 (by omega) (by omega)]; exact q4
      have k4 : ∀ j, D4 k j = if j = 6 then (B : Int) else D2 k j := fun j => by
        rw [e4, g_cpy, g_row_ne (by omega), e3]
        by_cases e : j = 6
        · rw [e, g_up_eq, if_pos rfl]
        · rw [g_up_at e, if_neg e]
      have j4 : ∀ t, t < 4 → D4 (k + 7) t = q_cm b n W s t := fun t ht => by
        rw [e4, g_cpy, g_row_eq, if_pos (by omega), Nat.zero_add, Nat.sub_zero, e3, g_up_ne (by omega)]; exact hc2 t ht
      have w4 : x_W D4 k W := by unfold x_W at *; rw [f4 (k + 1) (by omega) (by omega), f4 (k + 2) (by omega) (by omega), f2 (k + 1) (by omega), f2 (k + 2) (by omega)]; exact hW1
      have c4 : ∀ t, t < 4 → D4 196 t = q_cm b n W s t := fun t ht => by rw [f4 196 (by omega) (by omega)]; exact hc2 t ht
      have fin : ∀ (m : Nat) (D5 : g_D), m = (if ph = 3 then 4 else c) → (∀ j, j ≠ k + 1 → D5 j = D4 j) → x_W D5 k (q_wb (q_cm b n W s) W B m) → K D5 := by
        intro m D5 em f5 w5
        have k5 : ∀ j, D5 k j = if j = 6 then (B : Int) else D1 k j := fun j => by rw [f5 k (by omega), k4 j, f2 k (by omega)]
        rw [em] at w5
        rw [hB, Int.toNat_natCast] at kk
        refine kk D5 (fun j c1 c2 c3 c4 c5 => ?_) ?_ ?_ ?_ ?_ (fun q => absurd q (by omega)) (fun _ t ht => ?_) w5
        · rw [f5 j c2, f4 j c1 c4, f2 j c5]; exact f1 j c1
        · rw [k5, if_neg (by decide)]; exact o9
        · rw [k5, if_neg (by decide)]; exact o 7 (by decide)
        · rw [k5, if_neg (by decide)]; exact o 8 (by decide)
        · rw [k5, if_pos rfl]
        · rw [f5 _ (by omega)]; exact j4 t ht
      refine ⟨fun w3 => ?_, fun w3 => ?_⟩
      · rw [q44]
        exact c_X2_writeBlock (C := q_cm b n W s) (m := c) (n2 := 4) hk sh_196 (by omega) (by omega) (by omega) (by omega) w4 c4 (fun D5 f5 w5 => fin c D5 (by rw [if_neg (by omega)]) f5 w5)
      · rw [q44]
        exact c_X2_writeBlock (C := q_cm b n W s) (m := 4) (n2 := 4) hk sh_196 (by omega) (by omega) (by omega) (by omega) w4 c4 (fun D5 f5 w5 => fin 4 D5 (by rw [if_pos (by omega)]) f5 w5)
    · have hk1 : a_k b (t_sa b n s) = 1 := Classical.byContradiction (fun q => by have := a3 q; omega)
      obtain ⟨o1, o2, o3, o4, o5, o6, o7, k1, _⟩ := hA.1 _ a1
      have k1 := k1 hk1
      rw [if_pos w1] at kk
      have eJ : (if ph ≤ 1 then (-1 : Int) else t_sb b n s) = -1 := by rw [w1]; split <;> rfl
      rw [eJ, if_pos rfl] at kk
      refine ⟨fun w3 => ?_, fun w3 => ?_⟩
      · refine c_X1_saveCells (m := c) hk (by omega) hA hx1 a1 hk1 hW1 (by omega) (fun D5 f5 w5 => ?_)
        rw [if_neg (by omega)] at kk
        exact kk D5 (fun j c1 c2 c3 _ _ => by rw [f5 j c3]; exact f1 j c1) (by rw [f5 k (by omega)]; exact o9) (by rw [f5 k (by omega)]; exact o 7 (by decide)) (by rw [f5 k (by omega)]; exact o 8 (by decide)) (by rw [f5 k (by omega)]; exact o 6 (by decide)) (fun _ => by rw [f5 (k + 7) (by omega)]; exact f1 _ (by omega)) (fun q => absurd rfl q) w5
      · refine c_X1_saveCells (m := 20) hk (by omega) hA hx1 a1 hk1 hW1 (by omega) (fun D5 f5 w5 => ?_)
        rw [q_sv_20 (by omega)] at w5
        rw [if_pos (by omega)] at kk
        exact kk D5 (fun j c1 c2 c3 _ _ => by rw [f5 j c3]; exact f1 j c1) (by rw [f5 k (by omega)]; exact o9) (by rw [f5 k (by omega)]; exact o 7 (by decide)) (by rw [f5 k (by omega)]; exact o 8 (by decide)) (by rw [f5 k (by omega)]; exact o 6 (by decide)) (fun _ => by rw [f5 (k + 7) (by omega)]; exact f1 _ (by omega)) (fun q => absurd rfl q) w5
  · rw [if_pos (show ph = 0 by omega), if_pos (show ph ≤ 1 by omega), if_pos rfl] at kk
    exact kk D1 (fun j c1 _ _ _ _ => f1 j c1) o9 (o 7 (by decide)) (o 8 (by decide)) (o 6 (by decide)) (fun _ => f1 _ (by omega)) (fun q => absurd rfl q) hW1
/-- the model's cut -/
def m_fcu (D D' : g_D) : Prop := (∀ k, k ≠ 208 → ¬ (239 ≤ k ∧ k ≤ 241) → D' k = D k) ∧ ∀ j, j ≠ 50 → D' 208 j = D 208 j
theorem m_fcu.refl (D : g_D) : m_fcu D D := ⟨fun _ _ _ => rfl, fun _ _ => rfl⟩
theorem m_fcu.trans {D D' D'' : g_D} (h : m_fcu D D') (h2 : m_fcu D' D'') : m_fcu D D'' := ⟨fun k a b => (h2.1 k a b).trans (h.1 k a b), fun j a => (h2.2 j a).trans (h.2 j a)⟩
theorem m_fcu.act {D' : g_D} (h : m_fcu D D') (ha : m_act D b n) : m_act D' b n := by unfold m_act at *; rw [h.1 209 (by decide) (by decide)]; exact ha
theorem m_fcu.crs {D' : g_D} (h : m_fcu D D') (ha : m_crs D b n W0) : m_crs D' b n W0 := ha.fr (fun i _ _ => h.1 i (by omega) (by omega)) (h.2 46 (by decide))
theorem m_fcu.st {D' : g_D} {c : Nat} (h : m_fcu D D') (ha : m_st D b n c) : m_st D' b n c := by unfold m_st at *; rw [h.1 235 (by decide) (by decide), h.1 236 (by decide) (by decide), h.2 46 (by decide)]; exact ha
theorem q_fw.fcu {D' : g_D} (h : q_fw D D') : m_fcu D D' := ⟨fun k _ c => h k (by omega) (by omega), fun j _ => by rw [h 208 (by decide) (by decide)]⟩
theorem c_X12_cuts1 {K : g_D → Prop} {s ph c : Nat} (hA : q_A b N n) (h : m_act D b n) (hst : m_st D b n (t_o b n)) (hs : s < t_o b n) (hW : m_Wk D W) (hp : ph ≤ 3) (hc : c ≤ 3)
    (kk : ∀ D' : g_D, m_fcu D D' → D' 208 50 = q_cJ b n s ph → (¬ q_cJ b n s ph = -1 → ∀ t, t < 4 → D' 241 t = q_cm b n W s t) → m_Wk D' (q_cW b n W s ph c) → K D') : k_X12_cuts1 E l D s ph c K := by
  obtain ⟨a1, a2, a3⟩ := t_sb_rng hA.1 hs
  have hcnt := hA.cnt
  have hst1 := hst.2 s hs
  unfold q_cW q_cJ at kk
  refine s_X12_cuts1 (fun _ _ _ _ D1 e1 => ?_)
  have f1 : m_fcu D D1 := ⟨fun k a _ => by rw [e1, g_up_ne a], fun j a => by rw [e1, g_up_at a]⟩
  have z1 : D1 208 50 = -1 := by rw [e1, g_up_eq]
  have w1' : m_Wk D1 W := by unfold m_Wk at *; rw [e1, g_up_ne (by decide)]; exact hW
  refine ⟨fun w => ?_, fun w => ?_⟩
  · rw [if_neg (show ¬ ph = 0 by omega)] at kk
    rw [Int.toNat_natCast, hst1.2]
    refine ⟨by omega, fun w1 => ⟨fun w2 => ?_, fun w2 => ?_⟩, fun w1 => ⟨fun w3 => ?_, fun w3 => ?_⟩⟩
    · rw [if_neg (show ¬ ph ≤ 1 by omega), if_neg w1, if_neg (show ¬ ph = 1 by omega)] at kk
      have hk1 : ¬ a_k b (t_sa b n s) = 1 := fun q => w1 (a2 q)
      have a3 := a3 hk1
      obtain ⟨B, hB⟩ : ∃ B : Nat, t_sb b n s = B := ⟨(t_sb b n s).toNat, by omega⟩
      refine c_X12_laysNewCells hA (f1.act h) (f1.st hst) hs w1 w1' (fun D2 f2 hc2 => ⟨by omega, fun D3 e3 => ?_⟩)
      have q6 : D2 236 s = (B : Nat) := by rw [f2 236 (by decide), f1.1 236 (by decide) (by decide), hst1.2]; exact hB
      rw [q6] at e3
      have f3 : m_fcu D D3 := ⟨fun k a d => by rw [e3, g_up_ne a, f2 k (by omega)]; exact f1.1 k a d, fun j a => by rw [e3, g_up_at a, f2 208 (by decide)]; exact f1.2 j a⟩
      rw [hB, Int.toNat_natCast] at kk
      have key : ∀ (q t : Nat) (D4 : g_D), 4 - t = q → t ≤ 4 → m_fcu D D4 → D4 208 50 = (B : Nat) → D4 240 = D3 240 → (∀ u, u < t → D4 241 u = q_cm b n W s u) → (∀ x, x < 60 → D4 239 x = if 4 * B ≤ x ∧ x < 4 * B + t then (if x < 4 * B + (if ph = 3 then 4 else c) then q_cm b n W s (x - 4 * B) else 255) else W x) → n_X12_cuts1 E l D4 61 [some (g_R 208), none, some (g_I ph), some (g_I c), some (g_I t)] K := by
        intro q
        induction q with
        | zero =>
          intro t D4 hq ht f4 g50 g240 hy hx
          obtain rfl : t = 4 := by omega
          exact s_X12_cuts1_61 (fun _ _ _ _ => ⟨fun _ => kk D4 f4 g50 (fun _ => hy) hx, fun w => (by omega : False).elim⟩)
        | succ q ih =>
          intro t D4 hq ht f4 g50 g240 hy hx
          have c0 : D4 240 t = q_cm b n W s t := by rw [g240, e3, g_up_ne (by decide)]; exact hc2 t (by omega)
          have put : ∀ (v : Int) (D5 D6 : g_D), D5 = g_up D4 241 t (q_cm b n W s t) → D6 = g_up D5 239 (4 * B + t) v → v = (if 4 * B + t < 4 * B + (if ph = 3 then 4 else c) then q_cm b n W s t else 255) → (g_r ((t : Int) + 1)) ∧ (n_X12_cuts1 E l D6 61 [some (g_R 208), none, some (g_I ph), some (g_I c), some (g_I ((t : Int) + 1))] K) := by
            intro v D5 D6 e5 e6 ev
            refine ⟨⟨by omega, by omega⟩, ?_⟩
            rw [g_cast1]
            refine ih (t + 1) D6 (by omega) (by omega) ⟨fun k a d => ?_, fun j a => ?_⟩ ?_ ?_ (fun u hu => ?_) (fun x hx' => ?_)
            · rw [e6, g_up_ne (by omega), e5, g_up_ne (by omega)]; exact f4.1 k a d
            · rw [e6, g_up_ne (by decide), e5, g_up_ne (by decide)]; exact f4.2 j a
            · rw [e6, g_up_ne (by decide), e5, g_up_ne (by decide)]; exact g50
            · rw [e6, g_up_ne (by decide), e5, g_up_ne (by decide)]; exact g240
            · rw [e6, g_up_ne (by decide), e5]
              by_cases e : u = t
              · subst e; rw [g_up_eq]
              · rw [g_up_at e]; exact hy u (by omega)
            · rw [e6]
              by_cases e : x = 4 * B + t
              · subst e; rw [g_up_eq, if_pos (by omega), Nat.add_sub_cancel_left]; exact ev
              · rw [g_up_at e, e5, g_up_ne (by decide), hx x hx']
                by_cases e2 : 4 * B ≤ x ∧ x < 4 * B + t
                · rw [if_pos e2, if_pos (show 4 * B ≤ x ∧ x < 4 * B + (t + 1) by omega)]
                · rw [if_neg e2, if_neg (show ¬ (4 * B ≤ x ∧ x < 4 * B + (t + 1)) by omega)]
          refine s_X12_cuts1_61 (fun _ _ _ _ => ⟨fun w => (by omega : False).elim, fun _ => ?_⟩)
          rw [Int.toNat_natCast, c0, g50, show (4 * ((B : Nat) : Int) + t).toNat = 4 * B + t by omega]
          refine ⟨by omega, by omega, fun D5 e5 => ⟨⟨by omega, by omega⟩, ⟨by omega, by omega⟩, fun w3 => ⟨by omega, by omega, fun D6 e6 => put _ D5 D6 e5 e6 ?_⟩, fun w3 => ⟨fun w4 => ⟨by omega, fun D6 e6 => put _ D5 D6 e5 e6 ?_⟩, fun w4 => ⟨by omega, by omega, fun D6 e6 => put _ D5 D6 e5 e6 ?_⟩⟩⟩⟩
          · rw [if_pos (show ph = 3 by omega), if_pos (by omega)]
          · rw [if_neg (show ¬ ph = 3 by omega), if_neg (by omega)]
          · rw [if_neg (show ¬ ph = 3 by omega), if_pos (by omega)]
      exact key 4 0 D3 rfl (by omega) f3 (by rw [e3, g_up_eq]) rfl (fun u hu => absurd hu (Nat.not_lt_zero u)) (fun x hx => by rw [if_neg (by omega), e3, g_up_ne (by decide), f2 239 (by decide)]; exact w1' x hx)
    · rw [if_pos (show ph ≤ 1 by omega), if_neg w1, if_pos (show ph = 1 by omega)] at kk
      exact kk D1 f1 z1 (fun q => absurd rfl q) w1'
    · have hk1 : a_k b (t_sa b n s) = 1 := Classical.byContradiction (fun q => by have := a3 q; omega)
      rw [if_pos w1] at kk
      have eJ : (if ph ≤ 1 then (-1 : Int) else t_sb b n s) = -1 := by rw [w1]; split <;> rfl
      rw [eJ, if_neg (by omega)] at kk
      exact c_X12_savesCells (m := c) hA (f1.act h) (f1.st hst) hs hk1 (by omega) w1' (fun D5 f5 w5 => kk D5 (f1.trans ⟨fun k _ d => f5 k (by omega), fun j _ => by rw [f5 208 (by decide)]⟩) (by rw [f5 208 (by decide)]; exact z1) (fun q => absurd rfl q) w5)
    · have hk1 : a_k b (t_sa b n s) = 1 := Classical.byContradiction (fun q => by have := a3 q; omega)
      rw [if_pos w1] at kk
      have eJ : (if ph ≤ 1 then (-1 : Int) else t_sb b n s) = -1 := by rw [w1]; split <;> rfl
      rw [eJ, if_pos (show ph = 3 by omega)] at kk
      exact c_X12_savesCells (m := 40) hA (f1.act h) (f1.st hst) hs hk1 (by omega) w1' (fun D5 f5 w5 => kk D5 (f1.trans ⟨fun k _ d => f5 k (by omega), fun j _ => by rw [f5 208 (by decide)]⟩) (by rw [f5 208 (by decide)]; exact z1) (fun q => absurd rfl q) w5)
  · rw [if_pos (show ph = 0 by omega), if_pos (show ph ≤ 1 by omega)] at kk
    exact kk D1 f1 z1 (fun q => absurd rfl q) w1'
theorem c_X12_writesJournal {K : g_D → Prop} {J : Int} (hW : m_Wk D W) (h50 : D 208 50 = J) (hJ : J = -1 ∨ (0 ≤ J ∧ J ≤ 9)) (hC : ¬ J = -1 → ∀ t, t < 4 → D 241 t = C t) (kk : ∀ D' : g_D, (∀ i, i ≠ 239 → D' i = D i) → m_Wk D' (q_jr C W J) → K D') : k_X12_writesJournal E l D K := by
  unfold q_jr at kk
  refine s_X12_writesJournal (fun _ => ⟨fun w => ?_, fun w => ?_⟩)
  · rw [h50] at w
    rw [if_neg w] at kk
    obtain ⟨B, hB⟩ : ∃ B : Nat, J = B := ⟨J.toNat, by omega⟩
    subst hB
    rw [Int.toNat_natCast] at kk
    have key : ∀ (q t : Nat) (D1 : g_D), 4 - t = q → t ≤ 4 → (∀ i, i ≠ 239 → D1 i = D i) → (∀ x, x < 60 → D1 239 x = if 4 * B ≤ x ∧ x < 4 * B + t then C (x - 4 * B) else W x) → n_X12_writesJournal E l D1 11 [some (g_R 208), some (g_I t)] K := by
      intro q
      induction q with
      | zero =>
        intro t D1 hq ht f hx
        obtain rfl : t = 4 := by omega
        refine s_X12_writesJournal_11 (fun _ _ => ⟨fun _ => kk D1 f (fun x hx' => ?_), fun w => (by omega : False).elim⟩)
        rw [hx x hx']
        unfold q_wb
        by_cases e : 4 * B ≤ x ∧ x < 4 * B + 4
        · rw [if_pos e, if_pos e, if_pos e.2]
        · rw [if_neg e, if_neg e]
      | succ q ih =>
        intro t D1 hq ht f hx
        refine s_X12_writesJournal_11 (fun _ _ => ⟨fun w => (by omega : False).elim, fun _ => ?_⟩)
        rw [f 208 (by decide), h50, Int.toNat_natCast, f 241 (by decide), hC w t (by omega), show (4 * ((B : Nat) : Int) + t).toNat = 4 * B + t by omega]
        refine ⟨⟨by omega, by omega⟩, ⟨by omega, by omega⟩, by omega, by omega, fun D2 e2 => ⟨⟨by omega, by omega⟩, ?_⟩⟩
        rw [g_cast1]
        refine ih (t + 1) D2 (by omega) (by omega) (fun j hj => by rw [e2, g_up_ne hj]; exact f j hj) (fun x hx' => ?_)
        rw [e2]
        by_cases e : x = 4 * B + t
        · subst e; rw [g_up_eq, if_pos (by omega), Nat.add_sub_cancel_left]
        · rw [g_up_at e, hx x hx']
          by_cases e2 : 4 * B ≤ x ∧ x < 4 * B + t
          · rw [if_pos e2, if_pos (show 4 * B ≤ x ∧ x < 4 * B + (t + 1) by omega)]
          · rw [if_neg e2, if_neg (show ¬ (4 * B ≤ x ∧ x < 4 * B + (t + 1)) by omega)]
    exact key 4 0 D rfl (by omega) (fun _ _ => rfl) (fun x hx => by rw [if_neg (by omega)]; exact hW x hx)
  · rw [h50] at w
    rw [if_pos w] at kk
    exact kk D (fun _ _ => rfl) hW
theorem c_X12_isRight {K : Int → g_D → Prop} (hA : q_A b N n) (hx : m_crs D b n W0) (hW : m_Wk D W) (kk : K (g_b (q_rt b n W0 W)) D) : k_X12_isRight E l D K := by
  have hcnt := hA.cnt
  have h46 := hx.1.1
  have hdu := hx.2.1 (t_o b n) (by omega)
  have first : ∀ q i : Nat, 40 - i = q → i ≤ 40 → (∀ j, j < i → W j = q_due b n W0 (t_o b n) j) → n_X12_isRight E l D 2 [some (g_R 208), some (g_I i)] K := by
    intro q
    induction q with
    | zero =>
      intro i hq hi hy
      obtain rfl : i = 40 := by omega
      rw [q_rt_iff.mpr hy] at kk
      exact s_X12_isRight_2 (fun _ _ => ⟨fun _ => kk, fun w => (by omega : False).elim⟩)
    | succ q ih =>
      intro i hq hi hy
      refine s_X12_isRight_2 (fun _ _ => ⟨fun w => (by omega : False).elim, fun _ => ?_⟩)
      rw [h46, Int.toNat_natCast, show (60 * (t_o b n : Int) + i).toNat = 60 * t_o b n + i by omega, hW _ (by omega), hdu _ (by omega)]
      refine ⟨by omega, ⟨by omega, by omega⟩, ⟨by omega, by omega⟩, by omega, fun z => ⟨⟨by omega, by omega⟩, ?_⟩, fun z => ?_⟩
      · rw [g_cast1]
        refine ih (i + 1) (by omega) (by omega) (fun j hj => ?_)
        by_cases e : j = i
        · subst e; exact z
        · exact hy j (by omega)
      · rw [q_rt_no (fun y => z (y i (by omega)))] at kk; exact kk
  exact s_X12_isRight (fun _ => first 40 0 rfl (by omega) (fun j hj => absurd hj (Nat.not_lt_zero j)))
end CUT
end
