section
/-! the cells of the device: 40 of flash, 20 of the stash -/
def q_rd (b : Nat → Int) (W : Nat → Int) (i t : Nat) : Int := if a_k b i = 2 then W (n_fr b i + t) else if a_k b i = 3 then W (40 + n_fr b i + t) else b (r_P b i + 3 + t)
def q_nc (b : Nat → Int) (W : Nat → Int) (i c : Nat) : Int := if n_to b i ≤ c ∧ c < n_to b i + n_ln b i then q_rd b W i (c - n_to b i) else W c
def q_sv (b : Nat → Int) (W : Nat → Int) (i m : Nat) : Nat → Int := fun x => if 40 + n_to b i ≤ x ∧ x < 40 + n_to b i + min m (n_ln b i) then W (n_fr b i + (x - (40 + n_to b i))) else W x
def q_wb (C : Nat → Int) (W : Nat → Int) (k m : Nat) : Nat → Int := fun x => if 4 * k ≤ x ∧ x < 4 * k + 4 then (if x < 4 * k + m then C (x - 4 * k) else 255) else W x
def q_cm (b : Nat → Int) (n : Nat) (W : Nat → Int) (s : Nat) : Nat → Int := fun c => q_nc b W (t_sa b n s) (4 * (t_sb b n s).toNat + c)
def q_do (b : Nat → Int) (n : Nat) (W : Nat → Int) (s : Nat) : Nat → Int := if t_sb b n s = -1 then q_sv b W (t_sa b n s) 40 else q_wb (q_cm b n W s) W (t_sb b n s).toNat 4
/-- the class's device k, the model's work: their cells -/
def x_W (D : g_D) (k : Nat) (W : Nat → Int) : Prop := (∀ i, i < 40 → D (k + 1) i = W i) ∧ ∀ i, i < 20 → D (k + 2) i = W (40 + i)
def m_Wk (D : g_D) (W : Nat → Int) : Prop := ∀ i, i < 60 → D 239 i = W i
/-- the class's course: acts and steps -/
def x_cx (D : g_D) (b : Nat → Int) (N n : Nat) : Prop := x_st D b n (t_o b n) ∧ D 176 4 = n ∧ x_rdA D 176 n b ∧ D 181 1 = N ∧ (∀ x, x < N → D 182 x = b x)
/-- what the acts are -/
def q_A (b : Nat → Int) (N n : Nat) : Prop := (∀ i, i < n → r_okN b N i) ∧ n ≤ 36 ∧ N ≤ 160
theorem q_A.cnt {b : Nat → Int} {N n : Nat} (h : q_A b N n) : t_o b n ≤ 360 := by have := t_o_le h.1; have := h.2.1; omega
theorem x_cx.fr {D D' : g_D} {b : Nat → Int} {N n : Nat} (h : x_cx D b N n) (e : ∀ i, 175 ≤ i → i ≤ 184 → D' i = D i) : x_cx D' b N n := by
  unfold x_cx x_st x_rdA at *
  rw [e 175 (by omega) (by omega), e 183 (by omega) (by omega), e 184 (by omega) (by omega), e 176 (by omega) (by omega), e (176 + 1) (by omega) (by omega), e (176 + 2) (by omega) (by omega), e (176 + 3) (by omega) (by omega), e (176 + 4) (by omega) (by omega), e 181 (by omega) (by omega), e 182 (by omega) (by omega)]
  exact h
section DEV
variable {E : g_E} {l : Launch} {sh : List g_Sh} {D : g_D} {b W : Nat → Int} {N n : Nat}
theorem c_X1_saveCells {K : g_D → Prop} {k i m : Nat} (hk : is_Device g_SH k) (hkc : k + 8 ≤ 175 ∨ 185 ≤ k) (hA : q_A b N n) (hx : x_cx D b N n) (hi : i < n) (h1 : a_k b i = 1) (hW : x_W D k W) (hm : m ≤ 1000)
    (kk : ∀ D' : g_D, (∀ j, j ≠ k + 2 → D' j = D j) → x_W D' k (q_sv b W i m) → K D') : k_X1_saveCells E l D k i m K := by
  obtain ⟨o1, o2, o3, o4, o5, o6, o7, k1, k2, k3, k4, k5, k6⟩ := hA.1 i hi
  have k1 := k1 h1
  have hsr := k5 (by omega)
  have hrd := hx.2.2.1 i hi
  have key : ∀ (q t : Nat) (D1 : g_D), min m (n_ln b i) - t = q → t ≤ min m (n_ln b i) → (∀ j, j ≠ k + 2 → D1 j = D j) → (∀ x, x < 20 → D1 (k + 2) x = if n_to b i ≤ x ∧ x < n_to b i + t then W (n_fr b i + (x - n_to b i)) else W (40 + x)) → n_X1_saveCells E l D1 18 [some (g_R 175), some (g_R k), some (g_I i), none, some (g_I (min m (n_ln b i) : Nat)), some (g_I t)] K := by
    intro q
    induction q with
    | zero =>
      intro t D1 hq ht f hs
      refine s_X1_saveCells_18 hk (fun _ _ _ _ => ⟨fun _ => kk D1 f ⟨fun x hx' => ?_, fun x hx' => ?_⟩, fun w => (by omega : False).elim⟩)
      · rw [f (k + 1) (by omega), hW.1 x hx']
        unfold q_sv
        rw [if_neg (by omega)]
      · rw [hs x hx']
        unfold q_sv
        have et : t = min m (n_ln b i) := by omega
        rw [et]
        by_cases e : n_to b i ≤ x ∧ x < n_to b i + min m (n_ln b i)
        · rw [if_pos e, if_pos (by omega), show 40 + x - (40 + n_to b i) = x - n_to b i by omega]
        · rw [if_neg e, if_neg (by omega)]
    | succ q ih =>
      intro t D1 hq ht f hs
      have q8 : D1 178 i = n_to b i := by rw [f 178 (by omega), ← o4]; exact hrd.2.1
      have q9 : D1 179 i = n_fr b i := by rw [f 179 (by omega), ← hsr]; exact hrd.2.2.1
      refine s_X1_saveCells_18 hk (fun _ _ _ _ => ⟨fun w => (by omega : False).elim, fun _ => ?_⟩)
      rw [Int.toNat_natCast, q8, q9, show ((n_to b i : Int) + t).toNat = n_to b i + t by omega, show ((n_fr b i : Int) + t).toNat = n_fr b i + t by omega]
      refine ⟨by omega, ⟨by omega, by omega⟩, by omega, ⟨by omega, by omega⟩, by omega, by omega, fun D2 e2 => ⟨⟨by omega, by omega⟩, ?_⟩⟩
      rw [g_cast1]
      refine ih (t + 1) D2 (by omega) (by omega) (fun j hj => by rw [e2, g_up_ne hj]; exact f j hj) (fun x hx' => ?_)
      rw [e2]
      by_cases e : x = n_to b i + t
      · subst e
        rw [g_up_eq, if_pos (by omega), f (k + 1) (by omega), hW.1 _ (by omega), Nat.add_sub_cancel_left]
      · rw [g_up_at e, hs x hx']
        by_cases e2 : n_to b i ≤ x ∧ x < n_to b i + t
        · rw [if_pos e2, if_pos (by omega)]
        · rw [if_neg e2, if_neg (by omega)]
  refine s_X1_saveCells hk (fun _ _ _ => ⟨by omega, ?_⟩)
  rw [Int.toNat_natCast, hrd.2.2.2, o6, show min (m : Int) (n_ln b i : Int) = ((min m (n_ln b i) : Nat) : Int) by omega]
  exact key _ 0 D rfl (Nat.zero_le _) (fun _ _ => rfl) (fun x hx' => by rw [if_neg (by omega)]; exact hW.2 x hx')
theorem c_X1_readCell {K : Int → g_D → Prop} {k i t : Nat} (hk : is_Device g_SH k) (hA : q_A b N n) (hx : x_cx D b N n) (hi : i < n) (h1 : ¬ a_k b i = 1) (hW : x_W D k W) (ht : t < n_ln b i) (kk : K (q_rd b W i t) D) : k_X1_readCell E l D k i t K := by
  obtain ⟨o1, o2, o3, o4, o5, o6, o7, k1, k2, k3, k4, k5, k6⟩ := hA.1 i hi
  obtain ⟨hst, h4, hrd, hN, hb⟩ := hx
  have hrd := hrd i hi
  have hN160 := hA.2.2
  unfold q_rd at kk
  refine s_X1_readCell hk (fun _ _ _ => ?_)
  rw [Int.toNat_natCast, hrd.1, hrd.2.2.1]
  by_cases e4 : a_k b i = 4
  · have k4 := k4 e4
    rw [k6 e4, hN, show (((r_P b i + 3 : Nat) : Int) + t).toNat = r_P b i + 3 + t by omega, hb _ (by omega)]
    rw [if_neg (by omega), if_neg (by omega)] at kk
    exact ⟨by omega, ⟨by omega, by omega⟩, by omega, fun w => (by omega : False).elim, fun w => (by omega : False).elim, fun _ => ⟨fun w => (by omega : False).elim, fun _ => ⟨by omega, kk⟩⟩⟩
  · rw [k5 e4, show ((n_fr b i : Int) + t).toNat = n_fr b i + t by omega]
    have hle := (hA.1 i hi).le.2 e4
    refine ⟨by omega, ⟨by omega, by omega⟩, by omega, fun w => ⟨by omega, ?_⟩, fun w => ?_, fun w => (by omega : False).elim⟩
    · rw [if_pos w] at kk
      rw [hW.1 _ (by omega)]; exact kk
    · have k3 := k3 w
      rw [if_neg (by omega), if_pos w] at kk
      refine ⟨by omega, ?_⟩
      rw [hW.2 _ (by omega), ← Nat.add_assoc]; exact kk
theorem c_X1_readComing {K : g_D → Prop} {k s : Nat} (hk : is_Device g_SH k) (hkc : k + 8 ≤ 175 ∨ (185 ≤ k ∧ k + 8 ≤ 196) ∨ 197 ≤ k) (hA : q_A b N n) (hx : x_cx D b N n) (hs : s < t_o b n) (hb1 : ¬ t_sb b n s = -1) (hW : x_W D k W)
    (kk : ∀ D' : g_D, (∀ j, j ≠ 196 → D' j = D j) → (∀ c, c < 4 → D' 196 c = q_cm b n W s c) → K D') : k_X1_readComing E l D k s K := by
  obtain ⟨a1, a2, a3⟩ := t_sb_rng hA.1 hs
  have hk1 : ¬ a_k b (t_sa b n s) = 1 := fun q => hb1 (a2 q)
  have a3 := a3 hk1
  have hcnt := hA.cnt
  have hn36 := hA.2.1
  have hst := hx.1.2 s hs
  have hrd := hx.2.2.1 (t_sa b n s) a1
  obtain ⟨o1, o2, o3, o4, o5, o6, o7, _⟩ := hA.1 _ a1
  have hle := (hA.1 _ a1).le.1
  generalize hi : t_sa b n s = i at *
  obtain ⟨B, hB⟩ : ∃ B : Nat, t_sb b n s = B := ⟨(t_sb b n s).toNat, by omega⟩
  have eC : ∀ c, q_cm b n W s c = q_nc b W i (4 * B + c) := fun c => by unfold q_cm; rw [hi, hB, Int.toNat_natCast]
  have key : ∀ (q c : Nat) (D1 : g_D), 4 - c = q → c ≤ 4 → (∀ j, j ≠ 196 → D1 j = D j) → (∀ x, x < c → D1 196 x = q_cm b n W s x) → n_X1_readComing E l D1 10 [some (g_R 175), some (g_R k), some (g_I s), some (g_I i), some (g_I c), none, none, none] K := by
    intro q
    induction q with
    | zero =>
      intro c D1 hq hc f hy
      obtain rfl : c = 4 := by omega
      exact s_X1_readComing_10 hk (fun _ _ _ _ => ⟨fun _ => kk D1 f hy, fun w => (by omega : False).elim⟩)
    | succ q ih =>
      intro c D1 hq hc f hy
      have hx1 : x_cx D1 b N n := hx.fr (fun j _ _ => f j (by omega))
      have hW1 : x_W D1 k W := by unfold x_W at *; rw [f (k + 1) (by omega), f (k + 2) (by omega)]; exact hW
      have q4 : D1 184 s = (B : Nat) := by rw [f 184 (by decide), hst.2]; exact hB
      have q8 : D1 178 i = (n_to b i : Nat) := by rw [f 178 (by decide), ← o4]; exact hrd.2.1
      have q0 : D1 180 i = (n_ln b i : Nat) := by rw [f 180 (by decide), ← o6]; exact hrd.2.2.2
      have put : ∀ (v : Int) (D2 : g_D), D2 = g_up D1 196 c v → v = q_cm b n W s c → (g_r ((c : Int) + 1)) ∧ (n_X1_readComing E l D2 10 [some (g_R 175), some (g_R k), some (g_I s), some (g_I i), some (g_I ((c : Int) + 1)), none, none, none] K) := by
        intro v D2 e2 ev
        refine ⟨⟨by omega, by omega⟩, ?_⟩
        rw [g_cast1]
        refine ih (c + 1) D2 (by omega) (by omega) (fun j hj => by rw [e2, g_up_ne hj]; exact f j hj) (fun x hx' => ?_)
        rw [e2]
        by_cases e : x = c
        · subst e; rw [g_up_eq]; exact ev
        · rw [g_up_at e]; exact hy x (by omega)
      refine s_X1_readComing_10 hk (fun _ _ _ _ => ⟨fun w => (by omega : False).elim, fun _ => ?_⟩)
      rw [Int.toNat_natCast, Int.toNat_natCast, Int.toNat_natCast, q4, q8, q0, show ((B : Int) * 4 + c).toNat = 4 * B + c by omega]
      have hout : ¬ (n_to b i ≤ 4 * B + c ∧ 4 * B + c < n_to b i + n_ln b i) → D1 (k + 1) (4 * B + c) = q_cm b n W s c := fun w => by
        rw [eC, hW1.1 _ (by omega)]; unfold q_nc; rw [if_neg w]
      refine ⟨by omega, ⟨by omega, by omega⟩, ⟨by omega, by omega⟩, by omega, ⟨by omega, by omega⟩, fun w => ⟨by omega, by omega, fun D2 e2 => put _ D2 e2 (hout (by omega))⟩, fun w => ⟨by omega, fun w2 => ⟨by omega, by omega, fun D2 e2 => put _ D2 e2 (hout (by omega))⟩, fun w2 => ?_⟩⟩
      rw [show (B : Int) * 4 + c - n_to b i = ((4 * B + c - n_to b i : Nat) : Int) by omega]
      refine c_X1_readCell hk hA hx1 a1 hk1 hW1 (by omega) (fun _ => ⟨by omega, fun D2 e2 => put _ D2 e2 ?_⟩)
      rw [eC]; unfold q_nc; rw [if_pos (by omega)]
  refine s_X1_readComing hk (fun _ _ => ⟨by omega, ?_⟩)
  rw [Int.toNat_natCast, hst.1]
  exact key 4 0 D rfl (by omega) (fun _ _ => rfl) (fun x hx' => absurd hx' (Nat.not_lt_zero x))
theorem c_X2_writeBlock {K : g_D → Prop} {k r n2 B m : Nat} {C : Nat → Int} (hk : is_Device g_SH k) (hr : g_SH[r]? = some (.inl (0, n2))) (hn2 : 4 ≤ n2) (hrk : r ≠ k + 1) (hB : B ≤ 9) (hm : m ≤ 4) (hW : x_W D k W) (hC : ∀ c, c < 4 → D r c = C c)
    (kk : ∀ D' : g_D, (∀ j, j ≠ k + 1 → D' j = D j) → x_W D' k (q_wb C W B m) → K D') : k_X2_writeBlock E l D k B r m K := by
  have key : ∀ (q c : Nat) (D1 : g_D), 4 - c = q → c ≤ 4 → (∀ j, j ≠ k + 1 → D1 j = D j) → (∀ x, x < 40 → D1 (k + 1) x = if 4 * B ≤ x ∧ x < 4 * B + c then (if x < 4 * B + m then C (x - 4 * B) else 255) else W x) → n_X2_writeBlock E l D1 8 [some (g_R k), none, some (g_R r), some (g_I m), some (g_I ((B : Int) * 4)), some (g_I c)] K := by
    intro q
    induction q with
    | zero =>
      intro c D1 hq hc f hy
      obtain rfl : c = 4 := by omega
      refine s_X2_writeBlock_8 hk hr (fun _ _ _ _ => ⟨fun _ => kk D1 f ⟨hy, fun x hx => ?_⟩, fun w => (by omega : False).elim⟩)
      rw [f (k + 2) (by omega), hW.2 x hx]
      unfold q_wb
      rw [if_neg (by omega)]
    | succ q ih =>
      intro c D1 hq hc f hy
      have put : ∀ (v : Int) (D2 : g_D), D2 = g_up D1 (k + 1) (4 * B + c) v → v = (if 4 * B + c < 4 * B + m then C c else 255) → (g_r ((c : Int) + 1)) ∧ (n_X2_writeBlock E l D2 8 [some (g_R k), none, some (g_R r), some (g_I m), some (g_I ((B : Int) * 4)), some (g_I ((c : Int) + 1))] K) := by
        intro v D2 e2 ev
        refine ⟨⟨by omega, by omega⟩, ?_⟩
        rw [g_cast1]
        refine ih (c + 1) D2 (by omega) (by omega) (fun j hj => by rw [e2, g_up_ne hj]; exact f j hj) (fun x hx => ?_)
        rw [e2]
        by_cases e : x = 4 * B + c
        · subst e; rw [g_up_eq, if_pos (by omega), Nat.add_sub_cancel_left]; exact ev
        · rw [g_up_at e, hy x hx]
          by_cases e2 : 4 * B ≤ x ∧ x < 4 * B + c
          · rw [if_pos e2, if_pos (show 4 * B ≤ x ∧ x < 4 * B + (c + 1) by omega)]
          · rw [if_neg e2, if_neg (by omega)]
      refine s_X2_writeBlock_8 hk hr (fun _ _ _ _ => ⟨fun w => (by omega : False).elim, fun _ => ⟨fun w => (by omega : False).elim, fun _ => ⟨⟨by omega, by omega⟩, fun w => (by omega : False).elim, fun _ => ⟨⟨by omega, by omega⟩, ?_⟩⟩⟩⟩)
      rw [show ((B : Int) * 4 + c).toNat = 4 * B + c by omega, Int.toNat_natCast]
      refine ⟨fun w => ⟨by omega, fun D2 e2 => put _ D2 e2 (by rw [if_neg (by omega)])⟩, fun w => ⟨by omega, by omega, fun D2 e2 => put _ D2 e2 ?_⟩⟩
      rw [if_pos (by omega), f r hrk]; exact hC c (by omega)
  refine s_X2_writeBlock hk hr (fun _ _ _ => ⟨⟨by omega, by omega⟩, ?_⟩)
  exact key 4 0 D rfl (by omega) (fun _ _ => rfl) (fun x hx => by rw [if_neg (by omega)]; exact hW.1 x hx)
theorem q_sv_20 {i : Nat} (h : n_ln b i ≤ 20) : q_sv b W i 20 = q_sv b W i 40 := by
  funext x
  unfold q_sv
  rw [show min 20 (n_ln b i) = min 40 (n_ln b i) by omega]
/-- a step of a device on its course -/
theorem c_X1_doStep {K : g_D → Prop} {k s : Nat} (hk : is_Device g_SH k) (hkc : k + 8 ≤ 175 ∨ (185 ≤ k ∧ k + 8 ≤ 196) ∨ 197 ≤ k) (hA : q_A b N n) (hx : x_cx D b N n) (h7 : D k 7 = s) (hs : s < t_o b n) (hW : x_W D k W)
    (kk : ∀ D' : g_D, (∀ j, j ≠ k → j ≠ k + 1 → j ≠ k + 2 → j ≠ 196 → D' j = D j) → (∀ j, j ≠ 7 → D' k j = D k j) → D' k 7 = ((s + 1 : Nat) : Int) → x_W D' k (q_do b n W s) → K D') : k_X1_doStep E l D k K := by
  obtain ⟨a1, a2, a3⟩ := t_sb_rng hA.1 hs
  have hcnt := hA.cnt
  have hst := hx.1.2 s hs
  have h4 := hx.1.1
  unfold q_do at kk
  refine s_X1_doStep hk (fun _ => s_X1_hasLeft hk (fun _ => ⟨fun w => (by omega : False).elim, fun _ => ⟨fun w => (by omega : False).elim, fun _ _ => ⟨fun _ => ?_, fun w => absurd w (by decide)⟩⟩⟩))
  rw [h7, Int.toNat_natCast, hst.1, hst.2]
  refine ⟨by omega, fun w => ?_, fun w => ⟨by omega, ?_⟩⟩
  · rw [if_neg w] at kk
    have hk1 : ¬ a_k b (t_sa b n s) = 1 := fun q => w (a2 q)
    have a3 := a3 hk1
    obtain ⟨B, hB⟩ : ∃ B : Nat, t_sb b n s = B := ⟨(t_sb b n s).toNat, by omega⟩
    refine c_X1_readComing hk hkc hA hx hs w hW (fun D2 f2 hc2 => ⟨by omega, ?_⟩)
    have q4 : D2 184 s = (B : Nat) := by rw [f2 184 (by decide), hst.2]; exact hB
    rw [q4]
    rw [hB, Int.toNat_natCast] at kk
    refine c_X2_writeBlock (C := q_cm b n W s) (m := 4) (n2 := 4) hk sh_196 (by omega) (by omega) (by omega) (by omega) (by unfold x_W at *; rw [f2 (k + 1) (by omega), f2 (k + 2) (by omega)]; exact hW) hc2 (fun D3 f3 w3 => ?_)
    have g7 : D3 k 7 = s := by rw [f3 k (by omega), f2 k (by omega)]; exact h7
    rw [g7]
    refine ⟨⟨by omega, by omega⟩, fun D4 e4 => kk D4 (fun j c1 c2 c3 c4 => ?_) (fun j c1 => ?_) ?_ ?_⟩
    · rw [e4, g_up_ne c1, f3 j c2, f2 j c4]
    · rw [e4, g_up_at c1, f3 k (by omega), f2 k (by omega)]
    · rw [e4, g_up_eq, g_cast1]
    · unfold x_W at *; rw [e4, g_up_ne (by omega), g_up_ne (by omega)]; exact w3
  · rw [if_pos w] at kk
    have hk1 : a_k b (t_sa b n s) = 1 := Classical.byContradiction (fun q => by have := a3 q; omega)
    have hl := (hA.1 _ a1)
    obtain ⟨o1, o2, o3, o4, o5, o6, o7, k1, _⟩ := hl
    have k1 := k1 hk1
    refine c_X1_saveCells (m := 20) hk (by omega) hA hx a1 hk1 hW (by omega) (fun D3 f3 w3 => ?_)
    rw [q_sv_20 (by omega)] at w3
    have g7 : D3 k 7 = s := by rw [f3 k (by omega)]; exact h7
    rw [g7]
    refine ⟨⟨by omega, by omega⟩, fun D4 e4 => kk D4 (fun j c1 c2 c3 c4 => ?_) (fun j c1 => ?_) ?_ ?_⟩
    · rw [e4, g_up_ne c1, f3 j c3]
    · rw [e4, g_up_at c1, f3 k (by omega)]
    · rw [e4, g_up_eq, g_cast1]
    · unfold x_W at *; rw [e4, g_up_ne (by omega), g_up_ne (by omega)]; exact w3
end DEV
end
