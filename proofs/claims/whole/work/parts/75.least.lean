/-! promise 12: forward and backward -/
/-- what the whole-number tactic shall not open -/
def m_hid (P : Prop) : Prop := P
def m_co4 (s : Nat → Nat) (j n : Nat) : Int := if n ≤ s j then 0 else 4
theorem m_co4_r (s : Nat → Nat) (j n : Nat) : 0 ≤ m_co4 s j n ∧ m_co4 s j n ≤ 4 := by unfold m_co4; split <;> omega
def m_bk (m le : Nat) (L s : Nat → Nat) (O S : Nat → Int) (j : Nat) : Prop :=
  0 ≤ O j ∧ 0 ≤ S j ∧ S j ≤ 268435456 ∧ (∀ n, le ≤ n → n ≤ L j → S j ≤ O (j + n) + m_co4 s j n) ∧ (S j = 268435456 ∨ ∃ n, le ≤ n ∧ n ≤ L j ∧ S j = O (j + n) + m_co4 s j n) ∧ O j ≤ S j ∧ (∀ n, 1 ≤ n → j + n ≤ m → O j ≤ S (j + n) + 3 + n) ∧ (O j = S j ∨ ∃ n : Nat, 1 ≤ n ∧ j + n ≤ m ∧ O j = S (j + n) + 3 + n)
def m_fw (m le : Nat) (L s : Nat → Nat) (C A : Nat → Int) (a J N : Nat) : Prop :=
  C 0 = 1 ∧ A 0 = 1048576 ∧ (∀ j, j < a → A (j + 1) = min (C j + 3) (A j) + 1) ∧ (∀ i, i ≤ a → 0 ≤ A i ∧ A i ≤ 1048576 + i) ∧ (∀ i, i ≤ m → 0 ≤ C i ∧ C i ≤ 1048576) ∧ (∀ j n, le ≤ n → n ≤ L j → (j < J ∨ (j = J ∧ n < N)) → C (j + n) ≤ min (C j) (A j) + m_co4 s j n) ∧ (∀ i, 1 ≤ i → i ≤ m → C i = 1048576 ∨ ∃ j n, j + n = i ∧ le ≤ n ∧ n ≤ L j ∧ (j < J ∨ (j = J ∧ n < N)) ∧ C i = min (C j) (A j) + m_co4 s j n)
theorem m_least_eq {m le N : Nat} {L s : Nat → Nat} {C A O S : Nat → Int} (hle : 1 ≤ le) (hm : m ≤ 40) (hL : ∀ j, L j ≤ m - j) (hO : O m = 0) (hS : S m = 0) (hb : ∀ j, j < m → m_bk m le L s O S j) (hf : m_fw m le L s C A m m N) : min (C m) (A m) = 1 + O 0 := by
  obtain ⟨c0, a0, aS, ar, cr, cl, ca⟩ := hf
  have o0 : ∀ j, j ≤ m → 0 ≤ O j ∧ 0 ≤ S j := fun j hj => by
    by_cases h : j = m
    · subst h; omega
    · exact ⟨(hb j (by omega)).1, (hb j (by omega)).2.1⟩
  have aup : ∀ n j, 1 ≤ n → j + n ≤ m → A (j + n) ≤ C j + 3 + n := by
    intro n
    induction n with
    | zero => intro j h; omega
    | succ n ih =>
      intro j _ h
      have := aS (j + n) (by omega)
      rw [show j + (n + 1) = j + n + 1 by omega, this]
      by_cases hn : n = 0
      · subst hn; rw [Nat.add_zero]; omega
      · have := ih j (by omega) (by omega); omega
  have hX : min (C m) (A m) ≤ 44 := by
    by_cases h : m = 0
    · subst h; omega
    · have := aup m 0 (by omega) (by omega); rw [Nat.zero_add] at this; omega
  have cl1 : ∀ d j, m - j = d → j ≤ m → min (C m) (A m) ≤ C j + O j ∧ min (C m) (A m) ≤ A j + S j ∧ min (C m) (A m) ≤ C j + S j := by
    intro d
    induction d using Nat.strongRecOn with
    | _ d ih =>
      intro j hd hj
      have hcr := cr j hj
      have har := ar j hj
      by_cases h : j = m
      · subst h; omega
      · obtain ⟨b1, b2, b3, b4, b5, b6, b7, b8⟩ := hb j (by omega)
        have key : min (C m) (A m) ≤ A j + S j ∧ min (C m) (A m) ≤ C j + S j := by
          rcases b5 with q | ⟨n, n1, n2, n3⟩
          · omega
          · have hLj := hL j
            have h1 := (ih (m - (j + n)) (by omega) (j + n) rfl (by omega)).1
            have h2 := cl j n n1 n2 (Or.inl (by omega))
            omega
        refine ⟨?_, key⟩
        rcases b8 with q | ⟨n, n1, n2, n3⟩
        · omega
        · have h1 := (ih (m - (j + n)) (by omega) (j + n) rfl (by omega)).2.1
          have h2 := aup n j n1 n2
          omega
  have hY : 1 + O 0 ≤ 44 := by
    by_cases h : m = 0
    · subst h; omega
    · have := (hb 0 (by omega)).2.2.2.2.2.2.1 m (by omega) (by omega)
      rw [Nat.zero_add] at this; omega
  have alo : ∀ j, j ≤ m → 1048576 ≤ A j ∨ ∃ i : Nat, i < j ∧ A j = C i + 3 + ((j - i : Nat) : Int) := by
    intro j
    induction j with
    | zero => exact fun _ => Or.inl (by omega)
    | succ j ih =>
      intro hj
      have h1 := aS j (by omega)
      by_cases h : C j + 3 ≤ A j
      · exact Or.inr ⟨j, by omega, by rw [h1]; omega⟩
      · rcases ih (by omega) with q | ⟨i, q1, q2⟩
        · exact Or.inl (by omega)
        · exact Or.inr ⟨i, by omega, by rw [h1]; omega⟩
  have cl2 : ∀ j, j ≤ m → 1 + O 0 ≤ C j + O j ∧ 1 + O 0 ≤ A j + S j := by
    intro j
    induction j using Nat.strongRecOn with
    | _ j ih =>
      intro hj
      have hos := o0 j hj
      constructor
      · by_cases h0 : j = 0
        · subst h0; omega
        · rcases ca j (by omega) hj with q | ⟨i, n, q1, q2, q3, _, q4⟩
          · omega
          · obtain ⟨h1, h2⟩ := ih i (by omega) (by omega)
            have h3 := (hb i (by omega)).2.2.2.1 n q2 q3
            have h4 := (hb i (by omega)).2.2.2.2.2.1
            rw [q1] at h3
            omega
      · rcases alo j hj with q | ⟨i, q1, q2⟩
        · omega
        · have h1 := (ih i q1 (by omega)).1
          have h2 := (hb i (by omega)).2.2.2.2.2.2.1 (j - i) (by omega) (by omega)
          rw [show i + (j - i) = j by omega] at h2
          omega
  have e1 := (cl1 m 0 (by omega) (Nat.zero_le _)).1
  have e2 := cl2 m (Nat.le_refl _)
  omega
theorem m_bk.congr {m le : Nat} {L s : Nat → Nat} {O S O' S' : Nat → Int} {j : Nat} (h : m_bk m le L s O S j) (hO : ∀ i, j ≤ i → O' i = O i) (hS : ∀ i, j ≤ i → S' i = S i) : m_bk m le L s O' S' j := by
  obtain ⟨b1, b2, b3, b4, b5, b6, b7, b8⟩ := h
  refine ⟨by rw [hO j (by omega)]; exact b1, by rw [hS j (by omega)]; exact b2, by rw [hS j (by omega)]; exact b3, fun n h1 h2 => by rw [hS j (by omega), hO _ (by omega)]; exact b4 n h1 h2, ?_, by rw [hO j (by omega), hS j (by omega)]; exact b6, fun n h1 h2 => by rw [hO j (by omega), hS _ (by omega)]; exact b7 n h1 h2, ?_⟩
  · rcases b5 with q | ⟨n, q1, q2, q3⟩
    · exact Or.inl (by rw [hS j (by omega)]; exact q)
    · exact Or.inr ⟨n, q1, q2, by rw [hS j (by omega), hO _ (by omega)]; exact q3⟩
  · rcases b8 with q | ⟨n, q1, q2, q3⟩
    · exact Or.inl (by rw [hO j (by omega), hS j (by omega)]; exact q)
    · exact Or.inr ⟨n, q1, q2, by rw [hO j (by omega), hS _ (by omega)]; exact q3⟩
section LEAST
variable {E : g_E} {l : Launch} {sh : List g_Sh} {D : g_D} {o w : Nat → Int} {n m : Nat}
theorem c_X12_lesser {K : Int → g_D → Prop} {a b : Int} (k : K (min a b) D) : k_X12_lesser E l sh D a b K :=
  s_X12_lesser (fun _ _ _ => ⟨fun h => by rw [show min a b = b by omega] at k; exact k, fun h => by rw [show min a b = a by omega] at k; exact k⟩)
/-- nothing but the two rows of the least -/
def m_f2 (D D' : g_D) : Prop := ∀ k, k ≠ 214 → k ≠ 215 → D' k = D k
theorem l_X12_least106 {K : Int → g_D → Prop} {j : Nat} {S0 : Int} {D : g_D} (hm40 : m ≤ 40) (hj : j < m) (hS0 : D 215 j = S0) (h0 : 0 ≤ S0 ∧ S0 ≤ 268435456) (hr : ∀ i, j < i → i ≤ m → 0 ≤ D 215 i ∧ D 215 i ≤ 268435456)
    (kk : ∀ b : Int, 0 ≤ b → b ≤ S0 → (∀ n, 1 ≤ n → j + n ≤ m → b ≤ D 215 (j + n) + 3 + n) → m_hid (b = S0 ∨ ∃ n : Nat, 1 ≤ n ∧ j + n ≤ m ∧ b = D 215 (j + n) + 3 + n) → n_X12_least E l (g_up D 214 j b) 30 [some (g_R 208), some (g_I m), some (g_I ((j : Int) + (-1))), none, none, none] K) :
    ∀ (q N : Nat) (b : Int), m - j + 1 - N = q → 1 ≤ N → N ≤ m - j + 1 → 0 ≤ b → b ≤ S0 → (∀ n, 1 ≤ n → n < N → b ≤ D 215 (j + n) + 3 + n) → m_hid (b = S0 ∨ ∃ n : Nat, 1 ≤ n ∧ n < N ∧ b = D 215 (j + n) + 3 + n) → n_X12_least E l D 106 [some (g_R 208), some (g_I m), some (g_I j), some (g_I b), none, some (g_I N)] K := by
  intro q
  induction q with
  | zero =>
    intro N b hq h1 hN b0 bS bl ba
    refine s_X12_least_106 (fun _ _ _ _ _ => ⟨⟨by omega, by omega⟩, fun _ => ⟨by omega, fun D1 hD1 => ⟨⟨by omega, by omega⟩, ?_⟩⟩, fun h => (by omega : False).elim⟩)
    rw [hD1, Int.toNat_natCast]
    refine kk b b0 bS (fun n a1 a2 => bl n a1 (by omega)) ?_
    rcases ba with q | ⟨n, q1, q2, q3⟩
    · exact Or.inl q
    · exact Or.inr ⟨n, q1, by omega, q3⟩
  | succ q ih =>
    intro N b hq h1 hN b0 bS bl ba
    have e1 : ((j : Int) + N).toNat = j + N := by omega
    have hrN := hr (j + N) (by omega) (by omega)
    refine s_X12_least_106 (fun _ _ _ _ _ => ⟨⟨by omega, by omega⟩, fun h => (by omega : False).elim, fun _ => ?_⟩)
    rw [e1]
    refine ⟨⟨by omega, by omega⟩, by omega, ⟨by omega, by omega⟩, ⟨by omega, by omega⟩, c_X12_lesser (fun _ => ⟨⟨by omega, by omega⟩, ?_⟩)⟩
    rw [g_cast1]
    refine ih (N + 1) _ (by omega) (by omega) (by omega) (by omega) (by omega) (fun n a1 a2 => ?_) ?_
    · by_cases hn : n = N
      · subst hn; omega
      · have := bl n a1 (by omega); omega
    · by_cases hlt : D 215 (j + N) + 3 + N < b
      · exact Or.inr ⟨N, by omega, by omega, by omega⟩
      · rcases ba with q | ⟨n, q1, q2, q3⟩
        · exact Or.inl (by omega)
        · exact Or.inr ⟨n, q1, by omega, by omega⟩
theorem l_X12_least53 {K : Int → g_D → Prop} {j le : Nat} {D : g_D} (hM : m_img D o n w m) (hj : j < m) (hle : 1 ≤ le) (hle2 : le ≤ 8) (hr : ∀ i, j < i → i ≤ m → 0 ≤ D 214 i ∧ D 214 i ≤ 268435456)
    (kk : ∀ b : Int, 0 ≤ b → b ≤ 268435456 → (∀ n', le ≤ n' → n' ≤ m_lg o w n m j n → b ≤ D 214 (j + n') + m_co4 (fun j => m_run o w n m j j) j n') → m_hid (b = 268435456 ∨ ∃ n', le ≤ n' ∧ n' ≤ m_lg o w n m j n ∧ b = D 214 (j + n') + m_co4 (fun j => m_run o w n m j j) j n') → n_X12_least E l (g_up D 215 j b) 106 [some (g_R 208), some (g_I m), some (g_I j), some (g_I b), none, some (g_I 1)] K) :
    ∀ (q N : Nat) (b : Int), m_lg o w n m j n + 1 - N = q → le ≤ N → 0 ≤ b → b ≤ 268435456 → (∀ n', le ≤ n' → n' < N → b ≤ D 214 (j + n') + m_co4 (fun j => m_run o w n m j j) j n') → m_hid (b = 268435456 ∨ ∃ n', le ≤ n' ∧ n' < N ∧ n' ≤ m_lg o w n m j n ∧ b = D 214 (j + n') + m_co4 (fun j => m_run o w n m j j) j n') → N ≤ 100 → n_X12_least E l D 53 [some (g_R 208), some (g_I m), some (g_I j), some (g_I b), some (g_I (m_run o w n m j j)), some (g_I N)] K := by
  have hm40 : m ≤ 40 := hM.2.2.2.1
  have hLj : m_lg o w n m j n ≤ m - j := m_lg_le n
  intro q
  induction q with
  | zero =>
    intro N b hq h1 b0 bS bl ba hN
    refine s_X12_least_53 (fun _ _ _ _ _ _ => c_X12_longestAt hM (by omega) (fun _ => ⟨fun _ => ⟨by omega, fun D1 hD1 => ?_⟩, fun h => (by omega : False).elim⟩))
    rw [hD1, Int.toNat_natCast]
    refine kk b b0 bS (fun n a1 a2 => bl n a1 (by omega)) ?_
    rcases ba with q | ⟨n, q1, q2, q3, q4⟩
    · exact Or.inl q
    · exact Or.inr ⟨n, q1, q3, q4⟩
  | succ q ih =>
    intro N b hq h1 b0 bS bl ba hN
    have e1 : ((j : Int) + N).toNat = j + N := by omega
    have hrN := hr (j + N) (by omega) (by omega)
    have ec : m_co4 (fun j => m_run o w n m j j) j N = if N ≤ m_run o w n m j j then 0 else 4 := rfl
    have step : ∀ c : Int, m_co4 (fun j => m_run o w n m j j) j N = c → n_X12_least E l D 53 [some (g_R 208), some (g_I m), some (g_I j), some (g_I (min b (D 214 (j + N) + c))), some (g_I (m_run o w n m j j)), some (g_I ((N : Int) + 1))] K := by
      intro c hc
      have hcr := m_co4_r (fun j => m_run o w n m j j) j N
      rw [g_cast1]
      refine ih (N + 1) _ (by omega) (by omega) (by omega) (by omega) (fun n' a1 a2 => ?_) ?_ (by omega)
      · by_cases hn : n' = N
        · subst hn; omega
        · have := bl n' a1 (by omega); omega
      · by_cases hlt : D 214 (j + N) + c < b
        · exact Or.inr ⟨N, by omega, by omega, by omega, by omega⟩
        · rcases ba with q | ⟨n', q1, q2, q3, q4⟩
          · exact Or.inl (by omega)
          · exact Or.inr ⟨n', q1, by omega, q3, by omega⟩
    clear ba
    refine s_X12_least_53 (fun _ _ _ _ _ _ => c_X12_longestAt hM (by omega) (fun _ => ⟨fun h => (by omega : False).elim, fun _ => ⟨⟨by omega, by omega⟩, by omega, ?_⟩⟩))
    rw [e1]
    refine ⟨fun h => ⟨⟨by omega, by omega⟩, c_X12_lesser (fun _ => ⟨⟨by omega, by omega⟩, step 4 (by rw [ec, if_neg (by omega)])⟩)⟩, fun h => ⟨⟨by omega, by omega⟩, c_X12_lesser (fun _ => ⟨⟨by omega, by omega⟩, step 0 (by rw [ec, if_pos (by omega)])⟩)⟩⟩
theorem l_X12_least {K : Int → g_D → Prop} {le : Nat} {D0 : g_D} (hM : m_img D0 o n w m) (h2 : D0 209 2 = le) (hle : 1 ≤ le) (hle2 : le ≤ 8)
    (kk : ∀ D' : g_D, m_f2 D0 D' → D' 214 m = 0 → D' 215 m = 0 → (∀ j, j < m → m_bk m le (fun j => m_lg o w n m j n) (fun j => m_run o w n m j j) (D' 214) (D' 215) j) → K (1 + D' 214 0) D') :
    ∀ (j : Nat) (D : g_D), j ≤ m → m_f2 D0 D → D 214 m = 0 → D 215 m = 0 → (∀ i, j ≤ i → i < m → m_bk m le (fun j => m_lg o w n m j n) (fun j => m_run o w n m j j) (D 214) (D 215) i) → n_X12_least E l D 30 [some (g_R 208), some (g_I m), some (g_I ((j : Int) - 1)), none, none, none] K := by
  have hm40 : m ≤ 40 := hM.2.2.2.1
  intro j
  induction j with
  | zero =>
    intro D hj hf hO hS hb
    have hr : 0 ≤ D 214 0 ∧ D 214 0 ≤ 268435456 := by
      by_cases h : m = 0
      · subst h; omega
      · have := hb 0 (by omega) (by omega); exact ⟨this.1, Int.le_trans this.2.2.2.2.2.1 this.2.2.1⟩
    exact s_X12_least_30 (fun _ _ _ => ⟨fun _ => ⟨⟨by omega, by omega⟩, kk D hf hO hS (fun j hj => hb j (Nat.zero_le _) hj)⟩, fun h => (by omega : False).elim⟩)
  | succ j ih =>
    intro D hj hf hO hS hb
    have hM1 : m_img D o n w m := by unfold m_img at *; rw [hf 209 (by decide) (by decide)]; exact hM
    have hD2 : D 209 2 = le := by rw [hf 209 (by decide) (by decide)]; exact h2
    have hr : ∀ i, j < i → i ≤ m → (0 ≤ D 214 i ∧ D 214 i ≤ 268435456) ∧ (0 ≤ D 215 i ∧ D 215 i ≤ 268435456) := fun i a1 a2 => by
      by_cases h : i = m
      · subst h; omega
      · obtain ⟨b1, b2, b3, _, _, b6, _⟩ := hb i (by omega) (by omega); omega
    refine s_X12_least_30 (fun _ _ _ => ⟨fun h => (by omega : False).elim, fun _ => ?_⟩)
    rw [show ((j + 1 : Nat) : Int) - 1 = (j : Int) by omega]
    refine c_run hM1 (by omega) (by omega) (fun _ => ?_)
    rw [hD2]
    refine l_X12_least53 hM1 (by omega) hle hle2 (fun i a1 a2 => (hr i a1 a2).1) (fun b b0 b1 b2 b3 => ?_) _ le 268435456 rfl (Nat.le_refl _) (by omega) (by omega) (fun n' a1 a2 => by omega) (Or.inl rfl) (by omega)
    refine l_X12_least106 (S0 := b) hm40 hj g_up_eq ⟨b0, b1⟩ (fun i a1 a2 => by rw [g_up_at (Nat.ne_of_gt a1)]; exact (hr i a1 a2).2) (fun c c0 c1 c2 c3 => ?_) _ 1 b rfl (Nat.le_refl _) (Nat.le_add_left _ _) b0 (Int.le_refl _) (fun n' a1 a2 => absurd a2 (Nat.not_lt.mpr a1)) (Or.inl rfl)
    have hj1 := ih (g_up (g_up D 215 j b) 214 j c) (by omega) (fun k q1 q2 => by rw [g_up_ne q1, g_up_ne q2]; exact hf k q1 q2) (by rw [g_up_at (by omega), g_up_ne (by decide)]; exact hO) (by rw [g_up_ne (by decide), g_up_at (by omega)]; exact hS) ?_
    · rw [show (j : Int) + (-1) = (j : Int) - 1 by omega]; exact hj1
    · intro i a1 a2
      by_cases hij : i = j
      · subst hij
        have eO : ∀ t, t ≠ i → g_up (g_up D 215 i b) 214 i c 214 t = D 214 t := fun t ht => by rw [g_up_at ht, g_up_ne (by decide)]
        have eS : ∀ t, g_up (g_up D 215 i b) 214 i c 215 t = g_up D 215 i b 215 t := fun t => by rw [g_up_ne (by decide)]
        refine ⟨by rw [g_up_eq]; exact c0, by rw [eS, g_up_eq]; exact b0, by rw [eS, g_up_eq]; exact b1, fun n' q1 q2 => by rw [eS, g_up_eq, eO _ (by omega)]; exact b2 n' q1 q2, ?_, by rw [eS, g_up_eq, g_up_eq]; exact c1, fun n' q1 q2 => by rw [eS, g_up_eq]; exact c2 n' q1 q2, ?_⟩
        · rw [eS, g_up_eq]
          rcases b3 with q | ⟨n', q1, q2, q3⟩
          · exact Or.inl q
          · exact Or.inr ⟨n', q1, q2, by rw [eO _ (by omega)]; exact q3⟩
        · rw [eS, g_up_eq, g_up_eq]
          rcases c3 with q | ⟨n', q1, q2, q3⟩
          · exact Or.inl q
          · exact Or.inr ⟨n', q1, q2, by rw [eS]; exact q3⟩
      · exact (hb i (by omega) a2).congr (fun t ht => by rw [g_up_at (by omega), g_up_ne (by decide)]) (fun t ht => by rw [g_up_ne (by decide), g_up_at (by omega)])
theorem c_X12_least {K : Int → g_D → Prop} {le : Nat} (hM : m_img D o n w m) (h2 : D 209 2 = le) (hle : 1 ≤ le) (hle2 : le ≤ 8)
    (kk : ∀ (D' : g_D) (O S : Nat → Int), m_fr D D' → O m = 0 → S m = 0 → (∀ j, j < m → m_bk m le (fun j => m_lg o w n m j n) (fun j => m_run o w n m j j) O S j) → K (1 + O 0) D') : k_X12_least E l D K := by
  have hm : D 209 1 = m := hM.2.2.1
  have hm40 : m ≤ 40 := hM.2.2.2.1
  refine s_X12_least (fun _ D1 hD1 => ⟨by omega, fun D2 hD2 => ⟨by omega, fun D3 hD3 => ⟨⟨by omega, by omega⟩, ?_⟩⟩⟩)
  rw [hm, Int.toNat_natCast] at hD2 hD3
  rw [hm]
  have hM1 : m_img D1 o n w m := by rw [hD1]; exact hM.up (by decide)
  refine l_X12_least (D0 := D1) hM1 (by rw [hD1, g_up_ne (by decide)]; exact h2) hle hle2 (fun D' hf hO hS hb => kk D' _ _ ⟨fun k hk => ?_, fun j hj => ?_⟩ hO hS hb) m D3 (Nat.le_refl _) (fun k q1 q2 => by rw [hD3, g_up_ne q2, hD2, g_up_ne q1]) (by rw [hD3, g_up_ne (by decide), hD2, g_up_eq]) (by rw [hD3, g_up_eq]) (fun i a1 a2 => by omega)
  · rw [hf k (by omega) (by omega), hD1, g_up_ne (by omega)]
  · rw [hf 208 (by decide) (by decide), hD1, g_up_at (by omega)]
end LEAST
