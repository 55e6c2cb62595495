section
/-! the device boots; trials on paper -/
section BOOT
variable {E : g_E} {l : Launch} {sh : List g_Sh} {D : g_D} {b W W0 C : Nat → Int} {N n : Nat}
theorem x_sn.crs {D' : g_D} (f : ∀ i, i ≠ 197 → D' i = D i) (hx : x_crs D b N n W0) : x_crs D' b N n W0 := hx.fr (fun i _ _ => f i (by omega))
theorem c_canBoot0 {K : Int → g_D → Prop} {k : Nat} {J : Int} (hk : is_Device g_SH k) (hkc : ¬ (k ≤ 197 ∧ 197 ≤ k + 7)) (hA : q_A b N n) (hbb : q_by b N) (hb0 : q_by W0 60) (hx : x_crs D b N n W0) (hW : x_W D k W) (hb : q_by W 60) (h6 : D k 6 = J) (hJ : J = -1 ∨ (0 ≤ J ∧ J ≤ 9)) (hC : ¬ J = -1 → ∀ c, c < 4 → D (k + 7) c = C c) (hCb : ¬ J = -1 → ∀ c, c < 4 → 0 ≤ C c ∧ C c ≤ 255) (h8 : D k 8 = 0)
    (k1 : ¬ q_ff b n W0 (q_jr C W J) = -1 → ∀ D' : g_D, (∀ i, i ≠ 197 → D' i = D i) → K 1 D') (k0 : q_ff b n W0 (q_jr C W J) = -1 → ∀ D' : g_D, (∀ i, i ≠ 197 → D' i = D i) → K 0 D') : k_X1_canBoot E l D k K := by
  refine s_X1_canBoot hk (fun _ => ⟨fun _ => c_look1 hk hkc hW hb h6 hJ hC hCb (fun D1 f1 s1 => ?_), fun w => absurd h8 w⟩)
  have hbj : q_by (q_jr C W J) 60 := by
    by_cases e : J = -1
    · unfold q_jr; rw [if_pos e]; exact hb
    · exact q_jr_by (hCb e) hb
  refine c_X1_firstFit (W := q_jr C W J) hk.2.2.1 hA hbb hb0 (x_sn.crs f1 hx) s1 hbj (fun i hi => ?_) (fun _ => ⟨fun w => k0 w D1 f1, fun w => k1 w D1 f1⟩)
  rw [f1 (k + 2) (by omega), hW.2 i hi]
  unfold q_jr
  split
  · rfl
  · unfold q_wb; rw [if_neg (by omega)]
theorem c_canBoot1 {K : Int → g_D → Prop} {k : Nat} (hk : is_Device g_SH k) (h8 : ¬ D k 8 = 0) (k1 : K 1 D) : k_X1_canBoot E l D k K := s_X1_canBoot hk (fun _ => ⟨fun w => absurd w h8, fun _ => k1⟩)
theorem c_X1_bootUp {K : g_D → Prop} {k s : Nat} {J : Int} (hk : is_Device g_SH k) (hkc : k + 8 ≤ 175 ∨ 198 ≤ k) (hA : q_A b N n) (hbb : q_by b N) (hb0 : q_by W0 60) (hx : x_crs D b N n W0) (hW : x_W D k W) (hb : q_by W 60) (h6 : D k 6 = J) (hJ : J = -1 ∨ (0 ≤ J ∧ J ≤ 9)) (hC : ¬ J = -1 → ∀ c, c < 4 → D (k + 7) c = C c) (hCb : ¬ J = -1 → ∀ c, c < 4 → 0 ≤ C c ∧ C c ≤ 255) (h7 : D k 7 = s) (hs : s ≤ 1000)
    (kk : ∀ D' : g_D, (∀ i, i ≠ k → i ≠ k + 1 → i ≠ 197 → D' i = D i) → x_W D' k (q_jr C W J) → D' k 6 = -1 → D' k 7 = (if D k 8 = 0 then max (q_ff b n W0 (q_jr C W J)) 0 else if J = -1 then (s : Int) else ((s + 1 : Nat) : Int)) → D' k 8 = 1 → D' k 9 = 1 → K D') : k_X1_bootUp E l D k K := by
  have hff := q_ff_rng (b := b) (n := n) (W0 := W0) (W := q_jr C W J)
  have hcnt := hA.cnt
  have fin : ∀ (v : Int) (D1 : g_D), (∀ i, i ≠ k → i ≠ k + 1 → i ≠ 197 → D1 i = D i) → x_W D1 k (q_jr C W J) → v = (if D k 8 = 0 then max (q_ff b n W0 (q_jr C W J)) 0 else if J = -1 then (s : Int) else ((s + 1 : Nat) : Int)) → k_X2_standAt E l D1 k v (fun D2 => K D2) := by
    intro v D1 f1 w1 ev
    refine c_X2_standAt hk (fun D2 g1 g6 g7 g8 g9 => kk D2 (fun i c1 c2 c3 => by rw [g1 i c1]; exact f1 i c1 c2 c3) ?_ g6 (by rw [g7]; exact ev) g8 g9)
    unfold x_W at *; rw [g1 (k + 1) (by omega), g1 (k + 2) (by omega)]; exact w1
  have unk : ∀ (D1 : g_D), D k 8 = 0 → (∀ i, i ≠ k + 1 → D1 i = D i) → x_W D1 k (q_jr C W J) → q_by (q_jr C W J) 60 → k_X1_look E l D1 k 0 (fun D2 => k_X1_firstFit E l D2 (k + 2) (fun x3 D3 => g_r x3 → ∀ D4, D4 = g_up D3 k 7 (max x3 0) → (k_X2_standAt E l D4 k (D4 k 7) (fun D5 => K D5)))) := by
    intro D1 h8 f1 w1 b1
    refine c_look0 hk (by omega) w1 b1 (fun D2 f2 s2 => ?_)
    have hx2 : x_crs D2 b N n W0 := hx.fr (fun i _ _ => by rw [f2 i (by omega), f1 i (by omega)])
    refine c_X1_firstFit (W := q_jr C W J) hk.2.2.1 hA hbb hb0 hx2 s2 b1 (fun i hi => by rw [f2 (k + 2) (by omega)]; exact w1.2 i hi) (fun _ D4 e4 => ?_)
    have e7 : D4 k 7 = max (q_ff b n W0 (q_jr C W J)) 0 := by rw [e4, g_up_eq]
    rw [e7]
    refine fin _ D4 (fun i c1 c2 c3 => by rw [e4, g_up_ne c1, f2 i c3]; exact f1 i c2) ?_ (by rw [if_pos h8])
    unfold x_W at *; rw [e4, g_up_ne (by omega), g_up_ne (by omega), f2 (k + 1) (by omega), f2 (k + 2) (by omega)]; exact w1
  refine s_X1_bootUp hk (fun _ => ?_)
  rw [h6]
  refine ⟨fun w => ?_, fun w => ?_⟩
  · have ej : q_jr C W J = W := by unfold q_jr; rw [if_pos w]
    refine ⟨fun w8 => ?_, fun w8 => ?_⟩
    · rw [h7]
      exact fin s D (fun _ _ _ _ => rfl) (by rw [ej]; exact hW) (by rw [if_neg w8, if_pos w])
    · exact unk D w8 (fun _ _ => rfl) (by rw [ej]; exact hW) (by rw [ej]; exact hb)
  · obtain ⟨B, hB⟩ : ∃ B : Nat, J = B := ⟨J.toNat, by omega⟩
    have ej : q_jr C W J = q_wb C W B 4 := by unfold q_jr; rw [if_neg w, hB, Int.toNat_natCast]
    have hbj := q_jr_by (J := J) (hCb w) hb
    rw [hB]
    refine c_X2_writeBlock (C := C) (m := 4) (n2 := 4) hk hk.2.2.2.2.2.2.2 (by omega) (by omega) (by omega) (by omega) hW (hC w) (fun D6 f6 w6 => ?_)
    rw [← ej] at w6
    have g8 : D6 k 8 = D k 8 := by rw [f6 k (by omega)]
    have g7 : D6 k 7 = s := by rw [f6 k (by omega)]; exact h7
    rw [g8, g7]
    refine ⟨fun w8 => ⟨⟨by omega, by omega⟩, fun D7 e7 => ?_⟩, fun w8 => unk D6 w8 f6 w6 hbj⟩
    have e77 : D7 k 7 = ((s + 1 : Nat) : Int) := by rw [e7, g_up_eq, g_cast1]
    rw [e77]
    refine fin _ D7 (fun i c1 c2 _ => by rw [e7, g_up_ne c1]; exact f6 i c2) ?_ (by rw [if_neg w8, if_neg w])
    unfold x_W at *; rw [e7, g_up_ne (by omega), g_up_ne (by omega)]; exact w6
theorem c_X1_standAsDue {K : g_D → Prop} {s : Nat} (hA : q_A b N n) (hbb : q_by b N) (hb0 : q_by W0 60) (hx : x_crs D b N n W0) (hs : s ≤ t_o b n)
    (kk : ∀ D' : g_D, (∀ i, i ≠ 199 → i ≠ 200 → i ≠ 201 → D' i = D i) → x_W D' 199 (q_due b n W0 s) → D' 199 6 = -1 → D' 199 7 = s → D' 199 8 = 1 → K D') : k_X1_standAsDue E l D 199 s K := by
  have hcnt := hA.cnt
  have hn := hA.2.1
  have hat := q_at_le (b := b) (n := n) (s := s)
  have hby := q_due_by hA hbb hb0 hs
  have key : ∀ (q i : Nat) (D1 : g_D), 40 - i = q → i ≤ 40 → (∀ j, j ≠ 200 → D1 j = D j) → (∀ j, j < i → D1 200 j = q_due b n W0 s j) → n_X1_standAsDue E l D1 2 [some (g_R 175), some (g_R 199), some (g_I s), some (g_I i), none] K := by
    intro q
    induction q with
    | zero =>
      intro i D1 hq hi f hy
      obtain rfl : i = 40 := by omega
      have hx1 : x_crs D1 b N n W0 := hx.fr (fun j _ _ => f j (by omega))
      refine s_X1_standAsDue_2 ip_Device_199 (fun _ _ _ => ⟨fun _ => c_X1_actAt hA hx1.1 (fun _ => ⟨⟨by omega, by omega⟩, by omega, fun D2 e2 => c_X2_standAt ip_Device_199 (fun D3 g1 g6 g7 g8 g9 => kk D3 (fun j c1 c2 c3 => ?_) ⟨fun j hj => ?_, fun j hj => ?_⟩ g6 g7 g8)⟩), fun w => (by omega : False).elim⟩)
      · rw [g1 j c1, e2, g_cpy, g_row_ne c3, f j c2]
      · rw [g1 _ (by decide), e2, g_cpy, g_row_ne (by decide)]; exact hy j hj
      · rw [g1 _ (by decide), e2, g_cpy, g_row_eq, if_pos (by omega), show ((q_at b n s : Int) * 20).toNat + (j - 0) = 20 * q_at b n s + j by omega]
        exact (hx1.2.2 s (by omega)).2 j hj
    | succ q ih =>
      intro i D1 hq hi f hy
      have hx1 : x_crs D1 b N n W0 := hx.fr (fun j _ _ => f j (by omega))
      refine s_X1_standAsDue_2 ip_Device_199 (fun _ _ _ => ⟨fun w => (by omega : False).elim, fun _ => ⟨by omega, ⟨by omega, by omega⟩, ⟨by omega, by omega⟩, by omega, ?_⟩⟩)
      rw [show (i : Int) / 4 = ((i / 4 : Nat) : Int) by omega]
      refine c_X1_dueBlock hA hx1 hs (by omega) (fun _ => ⟨by omega, fun D2 e2 => ⟨⟨by omega, by omega⟩, ?_⟩⟩)
      rw [Int.toNat_natCast, q_un hby (by omega) (by omega) (by omega)] at e2
      rw [g_cast1]
      refine ih (i + 1) D2 (by omega) (by omega) (fun j hj => by rw [e2, g_up_ne hj]; exact f j hj) (fun j hj => ?_)
      rw [e2]
      by_cases e : j = i
      · subst e; rw [g_up_eq]
      · rw [g_up_at e]; exact hy j (by omega)
  exact s_X1_standAsDue ip_Device_199 (fun _ _ => key 40 0 D rfl (by omega) (fun _ _ => rfl) (fun j hj => absurd hj (Nat.not_lt_zero j)))
end BOOT
/-- what comes of a cut: the cells, and the step to go on from (-1: none) -/
def q_sW (b : Nat → Int) (n : Nat) (W : Nat → Int) (wh s ph : Nat) : Nat → Int := if wh = 3 then q_cW b n W s ph 2 else q_jr (q_cm b n W s) (q_cW b n W s ph 2) (q_cJ b n s ph)
noncomputable def q_so (b : Nat → Int) (n : Nat) (W0 W : Nat → Int) (wh s ph : Nat) : Int := if wh = 2 then q_ff b n W0 (q_sW b n W wh s ph) else if wh = 3 ∨ q_cJ b n s ph = -1 then (s : Int) else ((s + 1 : Nat) : Int)
theorem q_so_rng {b : Nat → Int} {n wh s ph : Nat} {W0 W : Nat → Int} (hs : s < t_o b n) : -1 ≤ q_so b n W0 W wh s ph ∧ q_so b n W0 W wh s ph ≤ t_o b n := by
  unfold q_so
  split
  · exact q_ff_rng
  · split <;> omega
theorem q_sW_by {b : Nat → Int} {N n wh s ph : Nat} {W : Nat → Int} (hA : q_A b N n) (hb : q_by b N) (hW : q_by W 60) (hs : s < t_o b n) : q_by (q_sW b n W wh s ph) 60 := by
  unfold q_sW
  split
  · exact q_cW_by hA hb hW hs
  · rcases q_cJ_rng (ph := ph) hA hs with q | ⟨_, _, q⟩
    · unfold q_jr; rw [if_pos q]; exact q_cW_by hA hb hW hs
    · exact q_jr_by (q_cm_by hA hb hW hs q) (q_cW_by hA hb hW hs)
/-- nothing but the paper of trials -/
def q_ft (D D' : g_D) : Prop := ∀ j, j ≠ 196 → j ≠ 197 → ¬ (199 ≤ j ∧ j ≤ 206) → D' j = D j
theorem q_ft.refl (D : g_D) : q_ft D D := fun _ _ _ _ => rfl
theorem q_ft.trans {D D' D'' : g_D} (h : q_ft D D') (h2 : q_ft D' D'') : q_ft D D'' := fun j a b c => (h2 j a b c).trans (h j a b c)
theorem q_ft.crs {D D' : g_D} {b : Nat → Int} {N n : Nat} {W0 : Nat → Int} (h : q_ft D D') (hx : x_crs D b N n W0) : x_crs D' b N n W0 := hx.fr (fun i _ _ => h i (by omega) (by omega) (by omega))
section TRI
variable {E : g_E} {l : Launch} {sh : List g_Sh} {D : g_D} {b W W0 C : Nat → Int} {N n : Nat}
theorem c_X10_survives {K : Int → g_D → Prop} {s ph wh : Nat} (hA : q_A b N n) (hbb : q_by b N) (hb0 : q_by W0 60) (hx : x_crs D b N n W0) (hs : s < t_o b n) (hp : ph ≤ 3) (hwh : wh ≤ 3) (hW : x_W D 199 W) (hb : q_by W 60) (h6 : D 199 6 = -1) (h7 : D 199 7 = s) (h8 : D 199 8 = 1)
    (k0 : q_so b n W0 W wh s ph = -1 → ∀ D' : g_D, q_ft D D' → K 0 D') (k1 : ¬ q_so b n W0 W wh s ph = -1 → ∀ D' : g_D, q_ft D D' → x_W D' 199 (q_sW b n W wh s ph) → D' 199 6 = -1 → D' 199 7 = q_so b n W0 W wh s ph → D' 199 8 = 1 → K 1 D') : k_X10_survives E l D ph wh K := by
  have hcnt := hA.cnt
  have hJr := q_cJ_rng (ph := ph) hA hs
  refine s_X10_survives (fun _ _ _ => c_X1_cutPower (c := 2) ip_Device_199 (by decide) hA hx.1 h7 hs hW hp (by decide) (fun D1 f1 g9 g7 g8 g6 _ gj w1 => ?_))
  have fr1 : q_ft D D1 := fun j a c d => f1 j (by omega) (by omega) (by omega) (by omega) a
  have hx1 := fr1.crs hx
  have hb1 := q_cW_by (ph := ph) (c := 2) hA hbb hb hs
  have hJ6 : D1 199 6 = q_cJ b n s ph := by
    rw [g6, h6]
    split
    · rename_i w; exact w.symm
    · rfl
  have hJ : q_cJ b n s ph = -1 ∨ (0 ≤ q_cJ b n s ph ∧ q_cJ b n s ph ≤ 9) := by rcases hJr with q | ⟨q1, q2, _⟩; exact Or.inl q; exact Or.inr ⟨q1, q2⟩
  have hCb : ¬ q_cJ b n s ph = -1 → ∀ c, c < 4 → 0 ≤ q_cm b n W s c ∧ q_cm b n W s c ≤ 255 := fun q => by
    rcases hJr with z | ⟨_, _, z⟩
    · exact absurd z q
    · exact q_cm_by hA hbb hb hs z
  have h71 : D1 199 7 = s := g7.trans h7
  have h81 : ¬ D1 199 8 = 0 := by rw [g8, h8]; decide
  have boot : ∀ (D2 : g_D) (J : Int) (Wx : Nat → Int), (∀ i, i ≠ 197 → i ≠ 199 → D2 i = D1 i) → D2 199 7 = s → D2 199 6 = J → (J = -1 ∨ J = q_cJ b n s ph) → Wx = q_jr (q_cm b n W s) (q_cW b n W s ph 2) J → Wx = q_sW b n W wh s ph → (if D2 199 8 = 0 then max (q_ff b n W0 Wx) 0 else if J = -1 then (s : Int) else ((s + 1 : Nat) : Int)) = q_so b n W0 W wh s ph → ¬ q_so b n W0 W wh s ph = -1 → k_X1_bootUp E l D2 199 (fun D3 => K 1 D3) := by
    intro D2 J Wx f2 i7 i6 iJ eW eW2 eo hne
    have iJr : J = -1 ∨ (0 ≤ J ∧ J ≤ 9) := by rcases iJ with q | q; exact Or.inl q; rw [q]; exact hJ
    have iC : ¬ J = -1 → ∀ c, c < 4 → D2 (199 + 7) c = q_cm b n W s c := fun q c hc => by
      rcases iJ with z | z
      · exact absurd z q
      · rw [z] at q; rw [f2 (199 + 7) (by decide) (by decide)]; exact gj q c hc
    have iCb : ¬ J = -1 → ∀ c, c < 4 → 0 ≤ q_cm b n W s c ∧ q_cm b n W s c ≤ 255 := fun q => by
      rcases iJ with z | z
      · exact absurd z q
      · rw [z] at q; exact hCb q
    have w2 : x_W D2 199 (q_cW b n W s ph 2) := by unfold x_W at *; rw [f2 (199 + 1) (by decide) (by decide), f2 (199 + 2) (by decide) (by decide)]; exact w1
    have hx2 : x_crs D2 b N n W0 := hx1.fr (fun i _ _ => f2 i (by omega) (by omega))
    refine c_X1_bootUp (C := q_cm b n W s) ip_Device_199 (by decide) hA hbb hb0 hx2 w2 hb1 i6 iJr iC iCb i7 (by omega) (fun D3 f3 w3 e6 e7 e8 e9 => k1 hne D3 (fun j a c d => ?_) (by rw [← eW, eW2] at w3; exact w3) e6 ?_ e8)
    · rw [f3 j (by omega) (by omega) c, f2 j c (by omega)]; exact fr1 j a c d
    · rw [e7, ← eW]; exact eo
  refine ⟨fun w2 => ⟨fun w3 => ?_, fun w3 D4 e4 => ?_⟩, fun w2 D7 e7 => ⟨fun w3 => ?_, fun w3 => (by omega : False).elim⟩⟩
  · have e1 : ¬ wh = 2 := by omega
    have e3 : ¬ wh = 3 := by omega
    have hne : ¬ q_so b n W0 W wh s ph = -1 := by unfold q_so; rw [if_neg e1]; split <;> omega
    refine c_canBoot1 ip_Device_199 h81 (fun _ => ⟨fun _ => boot D1 _ _ (fun _ _ _ => rfl) h71 hJ6 (Or.inr rfl) rfl (by unfold q_sW; rw [if_neg e3]) ?_ hne, fun w => absurd w (by decide)⟩)
    unfold q_so
    rw [if_neg h81, if_neg e1]
    by_cases z : q_cJ b n s ph = -1
    · rw [if_pos z, if_pos (Or.inr z)]
    · rw [if_neg z, if_neg (by omega)]
  · have e3 : wh = 3 := by omega
    have hne : ¬ q_so b n W0 W wh s ph = -1 := by unfold q_so; rw [if_neg (by omega)]; split <;> omega
    have h84 : ¬ D4 199 8 = 0 := by rw [e4, g_up_at (by decide)]; exact h81
    refine c_canBoot1 ip_Device_199 h84 (fun _ => ⟨fun _ => boot D4 (-1) _ (fun i _ c => by rw [e4, g_up_ne c]) (by rw [e4, g_up_at (by decide)]; exact h71) (by rw [e4, g_up_eq]) (Or.inl rfl) rfl (by unfold q_sW q_jr; rw [if_pos e3, if_pos rfl]) ?_ hne, fun w => absurd w (by decide)⟩)
    unfold q_so
    rw [if_neg h84, if_pos rfl, if_neg (by omega), if_pos (Or.inl e3)]
  · have e2 : wh = 2 := by omega
    have e3 : ¬ wh = 3 := by omega
    have h87 : D7 199 8 = 0 := by rw [e7, g_up_eq]
    have f7 : ∀ i, i ≠ 199 → D7 i = D1 i := fun i hi => by rw [e7, g_up_ne hi]
    have h67 : D7 199 6 = q_cJ b n s ph := by rw [e7, g_up_at (by decide)]; exact hJ6
    have h77 : D7 199 7 = s := by rw [e7, g_up_at (by decide)]; exact h71
    have w7 : x_W D7 199 (q_cW b n W s ph 2) := by unfold x_W at *; rw [f7 (199 + 1) (by decide), f7 (199 + 2) (by decide)]; exact w1
    have hx7 : x_crs D7 b N n W0 := hx1.fr (fun i _ _ => f7 i (by omega))
    have eW : q_jr (q_cm b n W s) (q_cW b n W s ph 2) (q_cJ b n s ph) = q_sW b n W wh s ph := by unfold q_sW; rw [if_neg e3]
    have eo : q_so b n W0 W wh s ph = q_ff b n W0 (q_sW b n W wh s ph) := by unfold q_so; rw [if_pos e2]
    have hff := q_ff_rng (b := b) (n := n) (W0 := W0) (W := q_sW b n W wh s ph)
    refine c_canBoot0 (C := q_cm b n W s) ip_Device_199 (by decide) hA hbb hb0 hx7 w7 hb1 h67 hJ (fun q c hc => by rw [f7 (199 + 7) (by decide)]; exact gj q c hc) hCb h87 (fun z D8 f8 _ => ⟨fun _ => ?_, fun w => absurd w (by decide)⟩) (fun z D8 f8 _ => ⟨fun w => absurd rfl w, fun _ => ?_⟩)
    · rw [eW, ← eo] at z
      refine boot D8 _ _ (fun i c1 c2 => by rw [f8 i c1, f7 i c2]) (by rw [f8 199 (by decide)]; exact h77) (by rw [f8 199 (by decide)]; exact h67) (Or.inr rfl) rfl eW ?_ z
      rw [f8 199 (by decide), if_pos h87, eW]
      rw [eo] at z ⊢
      omega
    · rw [eW, ← eo] at z
      exact k0 z D8 (fun j a c d => by rw [f8 j c, f7 j (by omega)]; exact fr1 j a c d)
theorem c_X10_endsAsDue {K : Int → g_D → Prop} {s : Nat} (hA : q_A b N n) (hbb : q_by b N) (hb0 : q_by W0 60) (hx : x_crs D b N n W0) (hs : s ≤ t_o b n) (hW : x_W D 199 W) (hb : q_by W 60) (h7 : D 199 7 = s)
    (kk : ∀ D' : g_D, q_ft D D' → K (g_b (q_rt b n W0 (q_run b n W s (t_o b n - s)))) D') : k_X10_endsAsDue E l D K := by
  have hcnt := hA.cnt
  have key : ∀ (q j : Nat) (D1 : g_D), t_o b n - s - j = q → j ≤ t_o b n - s → q_ft D D1 → x_W D1 199 (q_run b n W s j) → D1 199 7 = ((s + j : Nat) : Int) → n_X10_endsAsDue E l D1 34 [some (g_R 198), some (g_R 175), some (g_I j)] K := by
    intro q
    induction q with
    | zero =>
      intro j D1 hq hj f w1 i7
      obtain rfl : j = t_o b n - s := by omega
      have hx1 := f.crs hx
      have h4 := hx1.1.1.1
      have hbr := q_run_by (s := s) hA hbb hb (j := t_o b n - s) (by omega)
      have fin : ∀ D2 : g_D, (∀ i, i ≠ 197 → D2 i = D1 i) → x_sn D2 (q_run b n W s (t_o b n - s)) → k_X1_areBlocksDue E l D2 (D2 175 4) (fun x2 D2 => g_r x2 → (x2 = 0 ∨ x2 = 1) ∧ K x2 D2) := by
        intro D2 f2 s2
        have hx2 : x_crs D2 b N n W0 := hx1.fr (fun i _ _ => f2 i (by omega))
        have fd : q_ft D D2 := f.trans (fun i _ c _ => f2 i c)
        rw [hx2.1.1.1]
        refine c_X1_areBlocksDue hA hx2 (Nat.le_refl _) s2 hbr (q_due_by hA hbb hb0 (Nat.le_refl _)) (fun z _ => ⟨Or.inr rfl, ?_⟩) (fun z _ => ⟨Or.inl rfl, ?_⟩)
        · have := kk D2 fd
          rw [q_rt_iff.mpr z] at this; exact this
        · have := kk D2 fd
          rw [q_rt_no z] at this; exact this
      refine s_X10_endsAsDue_34 (fun _ _ => ⟨fun _ => c_look0 ip_Device_199 (by decide) w1 hbr fin, fun _ => s_X1_hasLeft ip_Device_199 (fun _ => ⟨fun w => (by omega : False).elim, fun _ => ⟨fun _ _ => ⟨fun _ => c_look0 ip_Device_199 (by decide) w1 hbr fin, fun w => absurd rfl w⟩, fun w => (by omega : False).elim⟩⟩)⟩)
    | succ q ih =>
      intro j D1 hq hj f w1 i7
      have hx1 := f.crs hx
      have h4 := hx1.1.1.1
      refine s_X10_endsAsDue_34 (fun _ _ => ⟨fun w => (by omega : False).elim, fun _ => s_X1_hasLeft ip_Device_199 (fun _ => ⟨fun w => (by omega : False).elim, fun _ => ⟨fun w => (by omega : False).elim, fun _ _ => ⟨fun w => absurd w (by decide), fun _ => c_X1_doStep ip_Device_199 (by decide) hA hx1.1 i7 (by omega) w1 (fun D2 f2 _ g7 g8 => ⟨⟨by omega, by omega⟩, ?_⟩)⟩⟩⟩)⟩)
      rw [g_cast1]
      exact ih (j + 1) D2 (by omega) (by omega) (f.trans (fun i a c d => f2 i (by omega) (by omega) (by omega) a)) g8 g7
  refine s_X10_endsAsDue (fun _ => c_look0 ip_Device_199 (by decide) hW hb (fun D1 f1 s1 => ?_))
  have fd1 : q_ft D D1 := fun i _ c _ => f1 i c
  have hx1 := fd1.crs hx
  have h71 : D1 199 7 = s := by rw [f1 199 (by decide)]; exact h7
  rw [h71]
  refine c_X1_isFit (W := W) (r := 201) sh_201 hA hbb hb0 hx1 hs s1 hb (fun i hi => by rw [f1 201 (by decide)]; exact hW.2 i hi) (fun _ => ⟨fun _ => ?_, fun z => ?_⟩)
  · refine key _ 0 D1 rfl (Nat.zero_le _) fd1 ?_ h71
    unfold x_W at *; rw [f1 (199 + 1) (by decide), f1 (199 + 2) (by decide)]; exact hW
  · have hf := q_fit_run (j := t_o b n - s) hA (q_fb_iff.mp (g_b_n0.mp z)) (by omega)
    rw [show s + (t_o b n - s) = t_o b n by omega] at hf
    have := kk D1 fd1
    rw [q_rt_iff.mpr hf.1] at this
    exact this
end TRI
end
