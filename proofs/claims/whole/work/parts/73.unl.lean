/-! promise 9: how many rows are unlike -/
theorem m_cnt_out {P : Nat → Bool} {d : Nat} : ∀ {F : Nat}, d < F → P d = true → m_cnt P F = m_cnt (fun c => P c && decide (c ≠ d)) F + 1
  | 0, h, _ => absurd h (Nat.not_lt_zero d)
  | F + 1, h, hp => by
    rw [m_cnt, m_cnt]
    by_cases hd : d = F
    · subst hd
      have e : m_cnt (fun c => P c && decide (c ≠ d)) d = m_cnt P d := by
        refine Nat.le_antisymm (m_cnt_mono fun c hc q => ?_) (m_cnt_mono fun c hc q => ?_)
        · simp only [Bool.and_eq_true] at q; exact q.1
        · simp only [Bool.and_eq_true, decide_eq_true_eq]; exact ⟨q, by omega⟩
      rw [if_pos hp, if_neg (by simp), e]
    · have ih := m_cnt_out (F := F) (by omega) hp
      by_cases hq : P F = true
      · rw [if_pos hq, if_pos (by simp only [Bool.and_eq_true, decide_eq_true_eq]; exact ⟨hq, by omega⟩), ih]
      · rw [if_neg hq, if_neg (by simp only [Bool.and_eq_true]; exact fun q => hq q.1), ih]
theorem m_cnt_rel {R : Nat → Nat → Prop} {P : Nat → Bool} {G : Nat} : ∀ {F : Nat} {Q : Nat → Bool}, (∀ c, c < F → P c = true → ∃ d, d < G ∧ Q d = true ∧ R c d) → (∀ c c' d, c < F → c' < F → P c = true → P c' = true → R c d → R c' d → c = c') → m_cnt P F ≤ m_cnt Q G
  | 0, _, _, _ => Nat.zero_le _
  | F + 1, Q, h1, h2 => by
    rw [m_cnt]
    by_cases hP : P F = true
    · rw [if_pos hP]
      obtain ⟨d, hd, hq, hr⟩ := h1 F (by omega) hP
      rw [m_cnt_out hd hq]
      refine Nat.succ_le_succ (m_cnt_rel (F := F) (fun c hc hp => ?_) (fun c c' d a b => h2 c c' d (by omega) (by omega)))
      obtain ⟨d', hd', hq', hr'⟩ := h1 c (by omega) hp
      refine ⟨d', hd', ?_, hr'⟩
      simp only [Bool.and_eq_true, decide_eq_true_eq]
      refine ⟨hq', fun e => ?_⟩
      subst e
      have := h2 c F d' (by omega) (by omega) hp hP hr' hr
      omega
    · rw [if_neg hP]
      exact m_cnt_rel (F := F) (fun c hc => h1 c (by omega)) (fun c c' d a b => h2 c c' d (by omega) (by omega))
/-- the first of those below F that has a property -/
theorem m_first {P : Nat → Prop} : ∀ (k : Nat), P k → ∃ a, a ≤ k ∧ P a ∧ ∀ b, b < a → ¬ P b := by
  intro k
  induction k using Nat.strongRecOn with
  | _ k ih =>
    intro h
    by_cases q : ∃ b, b < k ∧ P b
    · obtain ⟨b, h1, h2⟩ := q
      obtain ⟨a, p1, p2, p3⟩ := ih b h1 h2
      exact ⟨a, by omega, p2, p3⟩
    · exact ⟨k, Nat.le_refl _, h, fun b h1 h2 => q ⟨b, h1, h2⟩⟩
def m_fst (o : Nat → Int) (n v a : Nat) : Nat → Bool
  | 0 => true
  | b + 1 => m_fst o n v a b && decide (m_co o n a b < v)
theorem m_fst_iff {o : Nat → Int} {n v a : Nat} : ∀ {B : Nat}, m_fst o n v a B = true ↔ ∀ b, b < B → m_co o n a b < v
  | 0 => ⟨fun _ b h => absurd h (Nat.not_lt_zero b), fun _ => rfl⟩
  | B + 1 => by
    rw [m_fst, Bool.and_eq_true, decide_eq_true_eq, m_fst_iff]
    exact ⟨fun h b hb => (Nat.lt_succ_iff_lt_or_eq.mp hb).elim (h.1 b) (fun e => e ▸ h.2), fun h => ⟨fun b hb => h b (by omega), h B (by omega)⟩⟩
def m_unl (o : Nat → Int) (n v : Nat) : Nat := m_cnt (fun a => m_fst o n v a a) (n + 1 - v)
def m_unx (o : Nat → Int) (n v : Nat) (f : Nat → Nat) (k : Nat) : Bool := decide (f k + v ≤ n) && (decide (k = 0) || decide (m_co o n (f (k - 1)) (f k) < v))
theorem m_co_ge {o : Nat → Int} {n v a b : Nat} (hv : 1 ≤ v) : v ≤ m_co o n a b ↔ a + v ≤ n ∧ b + v ≤ n ∧ ∀ t, t < v → o (a + t) = o (b + t) := by
  obtain ⟨h1, h2, h3⟩ := m_lcp_L (min (n - a) (n - b)) (fun t => o (a + t)) (fun t => o (b + t))
  have hdef : m_lcp (fun t => o (a + t)) (fun t => o (b + t)) (min (n - a) (n - b)) = m_co o n a b := rfl
  rw [hdef] at h1 h2 h3
  constructor
  · intro h
    exact ⟨by omega, by omega, fun t ht => h2 t (by omega)⟩
  · rintro ⟨p1, p2, p3⟩
    by_cases h : v ≤ m_co o n a b
    · exact h
    · exact absurd (p3 _ (by omega)) (h3 (by omega))
theorem m_unl_eq {o : Nat → Int} {n v : Nat} {f : Nat → Nat} (hv : 1 ≤ v) (hb : ∀ i, i < n → 0 ≤ o i) (h1 : ∀ i, i < n → f i < n) (h2 : ∀ i, i + 1 < n → m_lx (m_e o n (f i)) (m_e o n (f (i + 1)))) : m_cnt (m_unx o n v f) n = m_unl o n v := by
  have lt : ∀ d i, i + d + 1 < n → m_lx (m_e o n (f i)) (m_e o n (f (i + d + 1))) := by
    intro d
    induction d with
    | zero => exact fun i h => h2 i h
    | succ d ih => exact fun i h => (ih i (by omega)).trans (h2 (i + d + 1) (by omega))
  have lt' : ∀ i k, i < k → k < n → m_lx (m_e o n (f i)) (m_e o n (f k)) := fun i k p q => by
    have := lt (k - i - 1) i (by omega)
    rwa [show i + (k - i - 1) + 1 = k by omega] at this
  have inj : ∀ a b, a < n → b < n → f a = f b → a = b := fun a b ha hb e => by
    rcases Nat.lt_trichotomy a b with q | q | q
    · have := lt' a b q hb; rw [e] at this; exact this.irr.elim
    · exact q
    · have := lt' b a q ha; rw [e] at this; exact this.irr.elim
  have sur := m_surj n f h1 inj
  have me : ∀ a t, a + t < n → m_e o n a t = o (a + t) := fun a t h => by unfold m_e; rw [if_pos h]
  unfold m_unl
  refine Nat.le_antisymm ?_ ?_
  · refine m_cnt_rel (R := fun k a => ∀ t, t < v → o (a + t) = o (f k + t)) (fun k hk hq => ?_) (fun k k' a hk hk' hq hq' r r' => ?_)
    · unfold m_unx at hq
      simp only [Bool.and_eq_true, decide_eq_true_eq] at hq
      obtain ⟨a, p1, p2, p3⟩ := m_first (P := fun a => a + v ≤ n ∧ ∀ t, t < v → o (a + t) = o (f k + t)) (f k) ⟨hq.1, fun _ _ => rfl⟩
      refine ⟨a, by omega, m_fst_iff.mpr (fun b hb => ?_), p2.2⟩
      by_cases q : m_co o n a b < v
      · exact q
      · have := (m_co_ge hv).mp (Nat.le_of_not_lt q)
        exact absurd ⟨this.2.1, fun t ht => by rw [← this.2.2 t ht]; exact p2.2 t ht⟩ (p3 b hb)
    · have key : ∀ k k', k < k' → k' < n → m_unx o n v f k = true → m_unx o n v f k' = true → (∀ t, t < v → o (f k + t) = o (f k' + t)) → False := by
        intro k k' hlt hk' hq hq' he
        unfold m_unx at hq hq'
        simp only [Bool.and_eq_true, decide_eq_true_eq, Bool.or_eq_true] at hq hq'
        have hz : ∀ t, t < v → m_e o n (f (k' - 1)) t = m_e o n (f k') t := by
          obtain ⟨r, r1, r2⟩ := lt' (k' - 1) k' (by omega) hk'
          intro t ht
          by_cases hr : t < r
          · exact r1 t hr
          · exfalso
            have er : m_e o n (f k) r = m_e o n (f k') r := by rw [me _ _ (by omega), me _ _ (by omega)]; exact he r (by omega)
            have hlx : m_lx (m_e o n (f (k' - 1))) (m_e o n (f k)) := ⟨r, fun s hs => by rw [r1 s hs, me _ _ (by omega), me _ _ (by omega)]; exact (he s (by omega)).symm, by rw [er]; exact r2⟩
            by_cases hk1 : k = k' - 1
            · rw [← hk1] at hlx; exact hlx.irr
            · exact ((lt' k (k' - 1) (by omega) (by omega)).trans hlx).irr
        have hin : f (k' - 1) + v ≤ n := by
          have h0 := hz (v - 1) (by omega)
          rw [me (f k') (v - 1) (by omega)] at h0
          have := hb (f k' + (v - 1)) (by omega)
          unfold m_e at h0
          split at h0 <;> omega
        have : v ≤ m_co o n (f (k' - 1)) (f k') := (m_co_ge hv).mpr ⟨hin, hq'.1, fun t ht => by have := hz t ht; rwa [me _ _ (by omega), me _ _ (by omega)] at this⟩
        rcases hq'.2 with q | q <;> omega
      rcases Nat.lt_trichotomy k k' with q | q | q
      · exact (key k k' q hk' hq hq' (fun t ht => (r t ht).symm.trans (r' t ht))).elim
      · exact q
      · exact (key k' k q hk hq' hq (fun t ht => (r' t ht).symm.trans (r t ht))).elim
  · refine m_cnt_rel (R := fun a k => ∀ t, t < v → o (a + t) = o (f k + t)) (fun a ha hq => ?_) (fun a a' k ha ha' hq hq' r r' => ?_)
    · obtain ⟨k0, hk0, e0⟩ := sur a (by omega)
      obtain ⟨k, p1, p2, p3⟩ := m_first (P := fun k => f k + v ≤ n ∧ ∀ t, t < v → o (a + t) = o (f k + t)) k0 ⟨by omega, fun t _ => by rw [e0]⟩
      refine ⟨k, by omega, ?_, p2.2⟩
      unfold m_unx
      simp only [Bool.and_eq_true, decide_eq_true_eq, Bool.or_eq_true]
      refine ⟨p2.1, ?_⟩
      by_cases hk : k = 0
      · exact Or.inl hk
      · refine Or.inr ?_
        by_cases q : m_co o n (f (k - 1)) (f k) < v
        · exact q
        · have := (m_co_ge hv).mp (Nat.le_of_not_lt q)
          exact absurd ⟨this.1, fun t ht => by rw [this.2.2 t ht]; exact p2.2 t ht⟩ (p3 (k - 1) (by omega))
    · have key : ∀ a a', a < a' → a' < n + 1 - v → m_fst o n v a' a' = true → (∀ t, t < v → o (a + t) = o (a' + t)) → False := by
        intro a a' hlt ha' hq he
        have := m_fst_iff.mp hq a hlt
        have := (m_co_ge (o := o) (n := n) (a := a') (b := a) hv).mpr ⟨by omega, by omega, fun t ht => (he t ht).symm⟩
        omega
      rcases Nat.lt_trichotomy a a' with q | q | q
      · exact (key a a' q ha' hq' (fun t ht => (r t ht).trans (r' t ht).symm)).elim
      · exact q
      · exact (key a' a q ha hq (fun t ht => (r' t ht).trans (r t ht).symm)).elim
def a_unl (o : Nat → Int) (n : Nat) (v : Int) : Int := if 1 ≤ v ∧ v ≤ 40 then (m_unl o n v.toNat : Int) else -3
