section
/-! the plan: done, saved, sent, taken cells, places in the stash, how many acts, their kinds, their commands, the most that were taken -/
abbrev m_P : Type := (Nat → Bool) × (Nat → Bool) × (Nat → Bool) × (Nat → Bool) × (Nat → Nat) × Nat × (Nat → Nat) × (Nat → Nat) × Nat
def p_d (p : m_P) : Nat → Bool := p.1
def p_v (p : m_P) : Nat → Bool := p.2.1
def p_t (p : m_P) : Nat → Bool := p.2.2.1
def p_k (p : m_P) : Nat → Bool := p.2.2.2.1
def p_h (p : m_P) : Nat → Nat := p.2.2.2.2.1
def p_n (p : m_P) : Nat := p.2.2.2.2.2.1
def p_a (p : m_P) : Nat → Nat := p.2.2.2.2.2.2.1
def p_o (p : m_P) : Nat → Nat := p.2.2.2.2.2.2.2.1
def p_m (p : m_P) : Nat := p.2.2.2.2.2.2.2.2
def b_set (f : Nat → Bool) (k : Nat) (b : Bool) : Nat → Bool := fun i => if i = k then b else f i
def n_set (f : Nat → Nat) (k v : Nat) : Nat → Nat := fun i => if i = k then v else f i
def b_reg (f : Nat → Bool) (a n : Nat) (b : Bool) : Nat → Bool := fun i => if a ≤ i ∧ i < a + n then b else f i
theorem b_set_eq {f : Nat → Bool} {k : Nat} {b : Bool} : b_set f k b k = b := by unfold b_set; rw [if_pos rfl]
theorem b_set_ne {f : Nat → Bool} {k i : Nat} {b : Bool} (h : i ≠ k) : b_set f k b i = f i := by unfold b_set; rw [if_neg h]
theorem n_set_eq {f : Nat → Nat} {k v : Nat} : n_set f k v k = v := by unfold n_set; rw [if_pos rfl]
theorem n_set_ne {f : Nat → Nat} {k i v : Nat} (h : i ≠ k) : n_set f k v i = f i := by unfold n_set; rw [if_neg h]
def m_op (p : m_P) (k : Nat) : Bool := !p_d p k && (!p_v p k && !p_t p k)
def m_fre (s : Nat) (c : Nat → Nat → Int) (p : m_P) (b : Nat) : Bool := !decide (c b 0 = 2) && (!p_d p b && !m_any (fun a => m_ah c a b && m_op p a) s)
def m_lo (P : Nat → Bool) : Nat → Nat
  | 0 => 0
  | n + 1 => if m_lo P n < n then m_lo P n else if P n then n else n + 1
theorem m_lo_spec {P : Nat → Bool} : ∀ n, m_lo P n ≤ n ∧ (∀ j, j < m_lo P n → P j = false) ∧ (m_lo P n < n → P (m_lo P n) = true)
  | 0 => ⟨Nat.le_refl _, fun j h => absurd h (Nat.not_lt_zero j), fun h => absurd h (Nat.lt_irrefl 0)⟩
  | n + 1 => by
    obtain ⟨h1, h2, h3⟩ := m_lo_spec (P := P) n
    rw [m_lo]
    by_cases h : m_lo P n < n
    · rw [if_pos h]
      exact ⟨by omega, h2, fun _ => h3 h⟩
    · rw [if_neg h]
      have e : m_lo P n = n := by omega
      rw [e] at h2
      cases hP : P n
      · rw [if_neg Bool.false_ne_true]
        refine ⟨Nat.le_refl _, fun j hj => ?_, fun q => absurd q (Nat.lt_irrefl _)⟩
        rcases Nat.lt_succ_iff_lt_or_eq.mp hj with q | rfl
        · exact h2 j q
        · exact hP
      · rw [if_pos rfl]
        exact ⟨by omega, h2, fun _ => hP⟩
theorem m_lo_eq {P : Nat → Bool} {n a : Nat} (ha : a < n) (h1 : P a = true) (h2 : ∀ j, j < a → P j = false) : m_lo P n = a := by
  obtain ⟨q1, q2, q3⟩ := m_lo_spec (P := P) n
  rcases Nat.lt_trichotomy (m_lo P n) a with q | q | q
  · have := q3 (by omega); rw [h2 _ q] at this; cases this
  · exact q
  · have := q2 a q; rw [h1] at this; cases this
theorem m_lo_none {P : Nat → Bool} {n : Nat} (h : ∀ j, j < n → P j = false) : m_lo P n = n := by
  obtain ⟨q1, q2, q3⟩ := m_lo_spec (P := P) n
  by_cases q : m_lo P n < n
  · have := q3 q; rw [h _ q] at this; cases this
  · omega
def m_rmP (p : m_P) (B len a : Nat) : Bool := decide (a + len ≤ B) && !m_any (fun i => p_k p (a + i)) len
def m_rm (p : m_P) (B len : Nat) : Nat := m_lo (m_rmP p B len) (B + 1)
def m_wt (s : Nat) (c : Nat → Nat → Int) (p : m_P) (k : Nat) : Nat := m_cnt (fun b => m_ah c k b && !p_d p b) s
def m_sn (s : Nat) (c : Nat → Nat → Int) (ru : Int) (p : m_P) (a b : Nat) : Bool := if ru = 0 then decide (c a 3 < c b 3) else decide (ru = 1) && decide (m_wt s c p b < m_wt s c p a)
def m_oc (c : Nat → Nat → Int) (p : m_P) (i : Nat) : Bool := m_cp c i && m_op p i
noncomputable def m_pR (s : Nat) (c : Nat → Nat → Int) (p : m_P) (k : Nat) : Bool := m_rgb s c (m_oc c p) k
noncomputable def m_pk (s : Nat) (c : Nat → Nat → Int) (ru : Int) (B : Nat) (p : m_P) : Nat → Int × Int
  | 0 => (-1, -1)
  | k + 1 => if m_pR s c p k then (if m_rm p B (c k 3).toNat ≤ B ∧ ((m_pk s c ru B p k).1 = -1 ∨ m_sn s c ru p k (m_pk s c ru B p k).1.toNat = true) then (k : Int) else (m_pk s c ru B p k).1, if (m_pk s c ru B p k).2 = -1 ∨ c k 3 < c (m_pk s c ru B p k).2.toNat 3 then (k : Int) else (m_pk s c ru B p k).2) else m_pk s c ru B p k
theorem m_pk_1 {s : Nat} {c : Nat → Nat → Int} {ru : Int} {B : Nat} {p : m_P} : ∀ n, (m_pk s c ru B p n).1 = -1 ∨ ∃ k : Nat, k < n ∧ (m_pk s c ru B p n).1 = k ∧ m_pR s c p k = true ∧ m_rm p B (c k 3).toNat ≤ B
  | 0 => Or.inl rfl
  | n + 1 => by
    rw [m_pk]
    have ih := m_pk_1 (s := s) (c := c) (ru := ru) (B := B) (p := p) n
    have up : (m_pk s c ru B p n).1 = -1 ∨ ∃ k : Nat, k < n + 1 ∧ (m_pk s c ru B p n).1 = k ∧ m_pR s c p k = true ∧ m_rm p B (c k 3).toNat ≤ B := by
      rcases ih with q | ⟨k, k1, k2⟩
      · exact Or.inl q
      · exact Or.inr ⟨k, by omega, k2⟩
    split
    · rename_i hR
      dsimp only
      split
      · rename_i h
        exact Or.inr ⟨n, by omega, rfl, hR, h.1⟩
      · exact up
    · exact up
theorem m_pk_2 {s : Nat} {c : Nat → Nat → Int} {ru : Int} {B : Nat} {p : m_P} : ∀ n, ((m_pk s c ru B p n).2 = -1 ∧ ∀ k, k < n → m_pR s c p k = false) ∨ ∃ k : Nat, k < n ∧ (m_pk s c ru B p n).2 = k ∧ m_pR s c p k = true
  | 0 => Or.inl ⟨rfl, fun k h => absurd h (Nat.not_lt_zero k)⟩
  | n + 1 => by
    rw [m_pk]
    have ih := m_pk_2 (s := s) (c := c) (ru := ru) (B := B) (p := p) n
    split
    · rename_i hR
      dsimp only
      split
      · exact Or.inr ⟨n, by omega, rfl, hR⟩
      · rename_i h
        rcases ih with q | ⟨k, k1, k2⟩
        · exact absurd (Or.inl q.1) h
        · exact Or.inr ⟨k, by omega, k2⟩
    · rename_i hR
      rcases ih with q | ⟨k, k1, k2⟩
      · refine Or.inl ⟨q.1, fun k hk => ?_⟩
        rcases Nat.lt_succ_iff_lt_or_eq.mp hk with e | rfl
        · exact q.2 k e
        · exact Bool.not_eq_true _ ▸ hR
      · exact Or.inr ⟨k, by omega, k2⟩
def m_dk (c : Nat → Nat → Int) (p : m_P) (k : Nat) : Nat := if p_v p k then 3 else if c k 0 = 1 ∧ p_t p k = false then 2 else 4
def m_doe (c : Nat → Nat → Int) (p : m_P) (k : Nat) : m_P := (b_set (p_d p) k true, p_v p, p_t p, (if p_v p k then b_reg (p_k p) (p_h p k) (c k 3).toNat false else p_k p), p_h p, p_n p + 1, n_set (p_a p) (p_n p) (m_dk c p k), n_set (p_o p) (p_n p) k, p_m p)
def m_sav (c : Nat → Nat → Int) (p : m_P) (k a : Nat) : m_P := (p_d p, b_set (p_v p) k true, p_t p, b_reg (p_k p) a (c k 3).toNat true, n_set (p_h p) k a, p_n p + 1, n_set (p_a p) (p_n p) 1, n_set (p_o p) (p_n p) k, max (p_m p) (m_cnt (b_reg (p_k p) a (c k 3).toNat true) 20))
def m_snt (p : m_P) (k : Nat) : m_P := (p_d p, p_v p, b_set (p_t p) k true, p_k p, p_h p, p_n p, p_a p, p_o p, p_m p)
noncomputable def m_brk (s : Nat) (c : Nat → Nat → Int) (ru : Int) (B : Nat) (p : m_P) : m_P := if (m_pk s c ru B p s).1 = -1 then m_snt p (m_pk s c ru B p s).2.toNat else m_sav c p (m_pk s c ru B p s).1.toNat (m_rm p B (c (m_pk s c ru B p s).1.toNat 3).toNat)
noncomputable def m_stp (s : Nat) (c : Nat → Nat → Int) (ru : Int) (B : Nat) (p : m_P) : m_P := if m_lo (m_fre s c p) s < s then m_doe c p (m_lo (m_fre s c p) s) else m_brk s c ru B p
def m_U (c : Nat → Nat → Int) (p : m_P) (k : Nat) : Bool := !decide (c k 0 = 2) && !p_d p k
def m_und (s : Nat) (c : Nat → Nat → Int) (p : m_P) : Bool := m_any (m_U c p) s
noncomputable def m_it (s : Nat) (c : Nat → Nat → Int) (ru : Int) (B : Nat) : Nat → m_P → m_P
  | 0, p => p
  | f + 1, p => if m_und s c p then m_it s c ru B f (m_stp s c ru B p) else p
def m_p0 : m_P := (fun _ => false, fun _ => false, fun _ => false, fun _ => false, fun _ => 0, 0, fun _ => 0, fun _ => 0, 0)
noncomputable def m_pl (s : Nat) (c : Nat → Nat → Int) (ru : Int) (B : Nat) : m_P := m_it s c ru B 40 m_p0
/-- what is still to do -/
def m_mu (s : Nat) (c : Nat → Nat → Int) (p : m_P) : Nat := m_cnt (m_U c p) s + m_cnt (m_oc c p) s
/-- the bytes of an act, those that a command may still want -/
def m_ab (c : Nat → Nat → Int) (p : m_P) (i : Nat) : Int := if p_a p i = 4 then 3 + c (p_o p i) 3 else 4
def m_rb (c : Nat → Nat → Int) (p : m_P) (k : Nat) : Int := if c k 0 = 2 ∨ p_d p k = true then 0 else if p_v p k = true then 4 else if c k 0 = 1 ∧ p_t p k = false then 5 + c k 3 else 3 + c k 3
def m_by (c : Nat → Nat → Int) (p : m_P) : Int := 1 + m_sum (m_ab c p) (p_n p)
/-- commands as they may be -/
def m_cok (s : Nat) (c : Nat → Nat → Int) : Prop := s ≤ 20 ∧ (∀ k, k < s → 0 ≤ c k 0 ∧ c k 0 ≤ 2 ∧ 1 ≤ c k 3 ∧ (¬ c k 0 = 0 → 3 ≤ c k 3)) ∧ m_sum (fun k => c k 3) s ≤ 40
theorem m_inv.cok {n m s : Nat} {c : Nat → Nat → Int} (h : m_inv n m s c) (hm : m ≤ 40) : m_cok s c := ⟨by have := h.1; omega, fun k hk => by
  obtain ⟨a1, a2, a3, a4, a5, a6, a7⟩ := h.2.2.1 k hk
  exact ⟨a1, a2, a4, fun q => (a7 q).2.2⟩, by rw [h.2.2.2.1]; omega⟩
theorem m_cok.len {s : Nat} {c : Nat → Nat → Int} (h : m_cok s c) : m_len s c := ⟨fun b hb => (h.2.1 b hb).2.2.1, h.2.2⟩
/-- what holds of a plan under way -/
def m_pI (s : Nat) (c : Nat → Nat → Int) (p : m_P) : Prop :=
  (∀ k, p_d p k = true → k < s ∧ ¬ c k 0 = 2) ∧ (∀ k, p_v p k = true → k < s ∧ c k 0 = 1 ∧ p_h p k + (c k 3).toNat ≤ 20) ∧ (∀ k, p_t p k = true → k < s ∧ c k 0 = 1 ∧ p_v p k = false) ∧ (∀ i, p_k p i = true → i < 20) ∧ m_cnt (p_k p) 20 ≤ p_m p ∧ p_m p ≤ 20 ∧ p_n p + m_mu s c p ≤ 30 ∧
  (∀ i, i < p_n p → p_o p i < s ∧ ¬ c (p_o p i) 0 = 2 ∧ (((p_a p i = 1 ∨ p_a p i = 3) ∧ p_v p (p_o p i) = true) ∨ (p_a p i = 2 ∧ c (p_o p i) 0 = 1) ∨ p_a p i = 4)) ∧
  m_sum (m_ab c p) (p_n p) + m_sum (m_rb c p) s ≤ 140
theorem m_op_iff {p : m_P} {k : Nat} : m_op p k = true ↔ p_d p k = false ∧ p_v p k = false ∧ p_t p k = false := by
  unfold m_op
  cases p_d p k <;> cases p_v p k <;> cases p_t p k <;> simp
theorem m_pR_oc {s k : Nat} {c : Nat → Nat → Int} {p : m_P} (h : m_pR s c p k = true) : k < s ∧ c k 0 = 1 ∧ p_d p k = false ∧ p_v p k = false ∧ p_t p k = false := by
  have q := (m_rgb_iff.mp h).al
  have q2 := q.2.1
  unfold m_oc at q2
  rw [Bool.and_eq_true, m_op_iff] at q2
  exact ⟨q.1, q.2.2, q2.2⟩
/-- where none is free there is a ring -/
theorem m_ring_ex {s : Nat} {c : Nat → Nat → Int} {p : m_P} (hu : m_und s c p = true) (hf : ∀ b, b < s → m_fre s c p b = false) : ∃ k, k < s ∧ m_pR s c p k = true := by
  have pred : ∀ b, b < s → m_U c p b = true → ∃ a, a < s ∧ m_oc c p a = true ∧ m_ah c a b = true := by
    intro b hb hU
    have h1 := hf b hb
    unfold m_U at hU
    unfold m_fre at h1
    rw [Bool.and_eq_true] at hU
    rw [hU.1, hU.2, Bool.true_and, Bool.true_and, Bool.not_eq_false', m_any_iff] at h1
    obtain ⟨a, a1, a2⟩ := h1
    rw [Bool.and_eq_true] at a2
    refine ⟨a, a1, ?_, a2.1⟩
    unfold m_oc m_cp
    have h3 := a2.1
    unfold m_ah at h3
    rw [decide_eq_true_eq] at h3
    rw [a2.2, decide_eq_true h3.2.1]; rfl
  have ocU : ∀ a, m_oc c p a = true → m_U c p a = true := by
    intro a h
    unfold m_oc m_cp at h
    rw [Bool.and_eq_true, m_op_iff, decide_eq_true_eq] at h
    unfold m_U
    rw [h.2.1, decide_eq_false (by omega)]; rfl
  obtain ⟨b, b1, b2⟩ := m_any_iff.mp hu
  obtain ⟨x0, x1, x2, _⟩ := pred b b1 b2
  obtain ⟨k, k1, d, k2⟩ := m_cyc_of (e := fun x y => m_ah c y x = true) (T := fun x => x < s ∧ m_oc c p x = true) (N := s) (t := x0) (fun x q => q.1) (fun x q => by
    obtain ⟨y, y1, y2, y3⟩ := pred x q.1 (ocU x q.2)
    exact ⟨y, ⟨y1, y2⟩, y3⟩) ⟨x1, x2⟩
  have k3 : m_wk (fun x y => m_ed s c (m_oc c p) y x) (d + 1) k k := k2.mono (fun a b q => ⟨q.2.1.1, q.1.1, q.2.1.2, q.1.2, q.2.2⟩)
  exact ⟨k, k1.1, m_rgb_iff.mpr ⟨d, m_wk.rev k3⟩⟩
theorem m_rm_le {p : m_P} {B len : Nat} (h : m_rm p B len ≤ B) : m_rm p B len + len ≤ B ∧ ∀ i, i < len → p_k p (m_rm p B len + i) = false := by
  have h1 := (m_lo_spec (P := m_rmP p B len) (B + 1)).2.2 (by unfold m_rm at h; omega)
  have h2 : m_rmP p B len (m_rm p B len) = true := h1
  unfold m_rmP at h2
  rw [Bool.and_eq_true, decide_eq_true_eq, Bool.not_eq_true'] at h2
  exact ⟨h2.1, m_any_no h2.2⟩
/-- how a plan begins -/
theorem m_pI_0 {s : Nat} {c : Nat → Nat → Int} (h : m_cok s c) : m_pI s c m_p0 := by
  obtain ⟨hs, hc, hl⟩ := h
  refine ⟨fun k q => (by cases q), fun k q => (by cases q), fun k q => (by cases q), fun k q => (by cases q), ?_, Nat.zero_le _, ?_, fun i hi => absurd hi (Nat.not_lt_zero i), ?_⟩
  · have : m_cnt (p_k m_p0) 20 = 0 := by decide
    omega
  · have e : ((m_mu s c m_p0 : Nat) : Int) * 2 ≤ m_sum (fun k => c k 3 + 1) s := by
      have key : ∀ n, n ≤ s → ((m_cnt (m_U c m_p0) n + m_cnt (m_oc c m_p0) n : Nat) : Int) * 2 ≤ m_sum (fun k => c k 3 + 1) n := by
        intro n
        induction n with
        | zero => intro _; exact Int.le_refl _
        | succ n ih =>
          intro hn
          have ih' := ih (by omega)
          have h1 := hc n (by omega)
          have hU : m_U c m_p0 n = !decide (c n 0 = 2) := by unfold m_U; rw [show p_d m_p0 n = false from rfl]; simp
          have hO : m_oc c m_p0 n = decide (c n 0 = 1) := by unfold m_oc m_cp; rw [show m_op m_p0 n = true from rfl, Bool.and_true]
          rw [m_cnt, m_cnt, m_sum, hU, hO]
          by_cases e1 : c n 0 = 1
          · have e2 : ¬ c n 0 = 2 := by omega
            rw [decide_eq_true e1, decide_eq_false e2]
            simp only [Bool.not_false, if_true]
            omega
          · by_cases e2 : c n 0 = 2
            · rw [decide_eq_false e1, decide_eq_true e2]
              simp only [Bool.not_true, Bool.false_eq_true, if_false]
              omega
            · rw [decide_eq_false e1, decide_eq_false e2]
              simp only [Bool.not_false, if_true, Bool.false_eq_true, if_false]
              omega
      exact key s (Nat.le_refl _)
    have e2 : ∀ n : Nat, m_sum (fun k => c k 3 + 1) n = m_sum (fun k => c k 3) n + n := by
      intro n
      induction n with
      | zero => rfl
      | succ n ih => rw [m_sum, m_sum, ih]; omega
    rw [e2] at e
    show 0 + m_mu s c m_p0 ≤ 30
    omega
  · show 0 + m_sum (m_rb c m_p0) s ≤ 140
    have e1 : m_sum (m_rb c m_p0) s ≤ m_sum (fun k => c k 3 + 5) s := m_sum_le (fun k hk => by
      have h1 := hc k hk
      unfold m_rb
      rw [show p_d m_p0 k = false from rfl, show p_v m_p0 k = false from rfl]
      split
      · omega
      · split
        · omega
        · split <;> omega)
    have e2 : ∀ n : Nat, m_sum (fun k => c k 3 + 5) n = m_sum (fun k => c k 3) n + 5 * n := by
      intro n
      induction n with
      | zero => rfl
      | succ n ih => rw [m_sum, m_sum, ih]; omega
    rw [e2] at e1
    omega
theorem m_ab_congr {c : Nat → Nat → Int} {p p' : m_P} {n : Nat} (ha : ∀ i, i < n → p_a p' i = p_a p i) (ho : ∀ i, i < n → p_o p' i = p_o p i) : m_sum (m_ab c p') n = m_sum (m_ab c p) n := m_sum_congr (fun i hi => by unfold m_ab; rw [ha i hi, ho i hi])
/-- one is done -/
theorem m_pI_doe {s k : Nat} {c : Nat → Nat → Int} {p : m_P} (hc : m_cok s c) (h : m_pI s c p) (hk : k < s) (h2 : ¬ c k 0 = 2) (hd : p_d p k = false) : m_pI s c (m_doe c p k) ∧ m_mu s c (m_doe c p k) < m_mu s c p := by
  obtain ⟨i1, i2, i3, i4, i5, i5', i6, i7, i8⟩ := h
  have mu : m_mu s c (m_doe c p k) < m_mu s c p := by
    unfold m_mu
    have a1 : m_cnt (m_U c (m_doe c p k)) s < m_cnt (m_U c p) s := by
      refine m_cnt_lt (c0 := k) (fun i hi q => ?_) hk ?_ ?_
      · unfold m_U at *
        rw [Bool.and_eq_true] at q ⊢
        refine ⟨q.1, ?_⟩
        have q2 : (!b_set (p_d p) k true i) = true := q.2
        by_cases e : i = k
        · subst e; rw [b_set_eq] at q2; cases q2
        · rw [b_set_ne e] at q2; exact q2
      · unfold m_U
        rw [show p_d (m_doe c p k) k = true from b_set_eq]; simp
      · unfold m_U
        rw [hd, decide_eq_false h2]; rfl
    have a2 : m_cnt (m_oc c (m_doe c p k)) s ≤ m_cnt (m_oc c p) s := by
      refine m_cnt_mono (fun i hi q => ?_)
      unfold m_oc at *
      rw [Bool.and_eq_true, m_op_iff] at q ⊢
      refine ⟨q.1, ?_, q.2.2⟩
      have q2 : b_set (p_d p) k true i = false := q.2.1
      by_cases e : i = k
      · subst e; rw [b_set_eq] at q2; cases q2
      · rw [b_set_ne e] at q2; exact q2
    omega
  refine ⟨⟨fun i q => ?_, i2, i3, fun i q => ?_, ?_, i5', ?_, fun i hi => ?_, ?_⟩, mu⟩
  · have q : b_set (p_d p) k true i = true := q
    by_cases e : i = k
    · subst e; exact ⟨hk, h2⟩
    · rw [b_set_ne e] at q; exact i1 i q
  · have q : (if p_v p k then b_reg (p_k p) (p_h p k) (c k 3).toNat false else p_k p) i = true := q
    split at q
    · unfold b_reg at q
      split at q
      · cases q
      · exact i4 i q
    · exact i4 i q
  · refine Nat.le_trans (m_cnt_mono (fun i hi q => ?_)) i5
    have q : (if p_v p k then b_reg (p_k p) (p_h p k) (c k 3).toNat false else p_k p) i = true := q
    split at q
    · unfold b_reg at q
      split at q
      · cases q
      · exact q
    · exact q
  · show p_n p + 1 + _ ≤ 30
    omega
  · have hi : i < p_n p + 1 := hi
    show n_set (p_o p) (p_n p) k i < s ∧ ¬ c (n_set (p_o p) (p_n p) k i) 0 = 2 ∧ (((n_set (p_a p) (p_n p) (m_dk c p k) i = 1 ∨ n_set (p_a p) (p_n p) (m_dk c p k) i = 3) ∧ p_v p (n_set (p_o p) (p_n p) k i) = true) ∨ (n_set (p_a p) (p_n p) (m_dk c p k) i = 2 ∧ c (n_set (p_o p) (p_n p) k i) 0 = 1) ∨ n_set (p_a p) (p_n p) (m_dk c p k) i = 4)
    by_cases e : i = p_n p
    · subst e
      rw [n_set_eq, n_set_eq]
      refine ⟨hk, h2, ?_⟩
      unfold m_dk
      split
      · rename_i q; exact Or.inl ⟨Or.inr rfl, q⟩
      · split
        · rename_i q; exact Or.inr (Or.inl ⟨rfl, q.1⟩)
        · exact Or.inr (Or.inr rfl)
    · rw [n_set_ne e, n_set_ne e]
      exact i7 i (by omega)
  · show m_sum (m_ab c (m_doe c p k)) (p_n p + 1) + _ ≤ 140
    have e1 : m_sum (m_ab c (m_doe c p k)) (p_n p) = m_sum (m_ab c p) (p_n p) := m_ab_congr (fun i hi => n_set_ne (by omega)) (fun i hi => n_set_ne (by omega))
    have e2 := m_sum_at (f := m_rb c (m_doe c p k)) (g := m_rb c p) (d := k) (k := s) hk (fun i hi hne => by
      unfold m_rb
      rw [show p_d (m_doe c p k) i = p_d p i from b_set_ne hne]; rfl)
    have e3 : m_rb c (m_doe c p k) k = 0 := by
      unfold m_rb
      rw [if_pos (Or.inr (show p_d (m_doe c p k) k = true from b_set_eq))]
    have e4 : m_ab c (m_doe c p k) (p_n p) ≤ m_rb c p k := by
      have hck := hc.2.1 k hk
      have e0 : ¬ (c k 0 = 2 ∨ p_d p k = true) := fun q => q.elim h2 (fun q => by rw [hd] at q; cases q)
      unfold m_ab m_rb
      rw [show p_a (m_doe c p k) (p_n p) = m_dk c p k from n_set_eq, show p_o (m_doe c p k) (p_n p) = k from n_set_eq, if_neg e0]
      unfold m_dk
      by_cases ev : p_v p k = true
      · rw [if_pos ev, if_pos ev, if_neg (by decide)]; omega
      · rw [if_neg ev, if_neg ev]
        by_cases et : c k 0 = 1 ∧ p_t p k = false
        · rw [if_pos et, if_pos et, if_neg (by decide)]; omega
        · rw [if_neg et, if_neg et, if_pos rfl]; omega
    rw [m_sum, e1, e2, e3]
    omega
/-- one is saved -/
theorem m_pI_sav {s k a : Nat} {c : Nat → Nat → Int} {p : m_P} (hc : m_cok s c) (h : m_pI s c p) (hk : k < s) (h1 : c k 0 = 1) (hd : p_d p k = false) (hv : p_v p k = false) (ht : p_t p k = false) (ha : a + (c k 3).toNat ≤ 20) : m_pI s c (m_sav c p k a) ∧ m_mu s c (m_sav c p k a) < m_mu s c p := by
  obtain ⟨i1, i2, i3, i4, i5, i5', i6, i7, i8⟩ := h
  have mu : m_mu s c (m_sav c p k a) < m_mu s c p := by
    unfold m_mu
    have a1 : m_cnt (m_U c (m_sav c p k a)) s = m_cnt (m_U c p) s := rfl
    have a2 : m_cnt (m_oc c (m_sav c p k a)) s < m_cnt (m_oc c p) s := by
      refine m_cnt_lt (c0 := k) (fun i hi q => ?_) hk ?_ ?_
      · unfold m_oc at *
        rw [Bool.and_eq_true, m_op_iff] at q ⊢
        refine ⟨q.1, q.2.1, ?_, q.2.2.2⟩
        have q2 : b_set (p_v p) k true i = false := q.2.2.1
        by_cases e : i = k
        · subst e; exact hv
        · rw [b_set_ne e] at q2; exact q2
      · unfold m_oc m_op
        rw [show p_v (m_sav c p k a) k = true from b_set_eq]; simp
      · unfold m_oc m_cp
        rw [m_op_iff.mpr ⟨hd, hv, ht⟩, decide_eq_true h1]; rfl
    omega
  refine ⟨⟨i1, fun i q => ?_, fun i q => ?_, fun i q => ?_, Nat.le_max_right _ _, ?_, ?_, fun i hi => ?_, ?_⟩, mu⟩
  · have q : b_set (p_v p) k true i = true := q
    show i < s ∧ c i 0 = 1 ∧ n_set (p_h p) k a i + (c i 3).toNat ≤ 20
    by_cases e : i = k
    · subst e; rw [n_set_eq]; exact ⟨hk, h1, ha⟩
    · rw [b_set_ne e] at q; rw [n_set_ne e]; exact i2 i q
  · obtain ⟨a1, a2, a3⟩ := i3 i q
    refine ⟨a1, a2, ?_⟩
    show b_set (p_v p) k true i = false
    have qq : p_t p i = true := q
    rw [b_set_ne (fun e => by subst e; rw [ht] at qq; cases qq)]
    exact a3
  · have q : b_reg (p_k p) a (c k 3).toNat true i = true := q
    unfold b_reg at q
    split at q
    · omega
    · exact i4 i q
  · show max (p_m p) (m_cnt (b_reg (p_k p) a (c k 3).toNat true) 20) ≤ 20
    have := m_cnt_le (P := b_reg (p_k p) a (c k 3).toNat true) 20
    omega
  · show p_n p + 1 + _ ≤ 30
    omega
  · have hi : i < p_n p + 1 := hi
    show n_set (p_o p) (p_n p) k i < s ∧ ¬ c (n_set (p_o p) (p_n p) k i) 0 = 2 ∧ (((n_set (p_a p) (p_n p) 1 i = 1 ∨ n_set (p_a p) (p_n p) 1 i = 3) ∧ b_set (p_v p) k true (n_set (p_o p) (p_n p) k i) = true) ∨ (n_set (p_a p) (p_n p) 1 i = 2 ∧ c (n_set (p_o p) (p_n p) k i) 0 = 1) ∨ n_set (p_a p) (p_n p) 1 i = 4)
    by_cases e : i = p_n p
    · subst e
      rw [n_set_eq, n_set_eq, b_set_eq]
      exact ⟨hk, by omega, Or.inl ⟨Or.inl rfl, rfl⟩⟩
    · rw [n_set_ne e, n_set_ne e]
      obtain ⟨q1, q2, q3⟩ := i7 i (by omega)
      refine ⟨q1, q2, ?_⟩
      rcases q3 with q | q
      · refine Or.inl ⟨q.1, ?_⟩
        by_cases e2 : p_o p i = k
        · rw [e2, b_set_eq]
        · rw [b_set_ne e2]; exact q.2
      · exact Or.inr q
  · show m_sum (m_ab c (m_sav c p k a)) (p_n p + 1) + _ ≤ 140
    have e1 : m_sum (m_ab c (m_sav c p k a)) (p_n p) = m_sum (m_ab c p) (p_n p) := m_ab_congr (fun i hi => n_set_ne (by omega)) (fun i hi => n_set_ne (by omega))
    have e2 := m_sum_at (f := m_rb c (m_sav c p k a)) (g := m_rb c p) (d := k) (k := s) hk (fun i hi hne => by
      unfold m_rb
      rw [show p_v (m_sav c p k a) i = p_v p i from b_set_ne hne]; rfl)
    have e3 : m_rb c (m_sav c p k a) k = 4 := by
      unfold m_rb
      rw [if_neg (by rw [show p_d (m_sav c p k a) k = p_d p k from rfl, hd]; intro q; rcases q with q | q; omega; cases q), if_pos (show p_v (m_sav c p k a) k = true from b_set_eq)]
    have e4 : m_ab c (m_sav c p k a) (p_n p) = 4 := by
      unfold m_ab
      rw [show p_a (m_sav c p k a) (p_n p) = 1 from n_set_eq, if_neg (by decide)]
    have e5 : m_rb c p k = 5 + c k 3 := by
      unfold m_rb
      rw [if_neg (by rw [hd]; intro q; rcases q with q | q; omega; cases q), if_neg (by rw [hv]; exact Bool.false_ne_true), if_pos ⟨h1, ht⟩]
    have hck := (hc.2.1 k hk).2.2.2 (by omega)
    rw [m_sum, e1, e2, e3, e4, e5]
    omega
/-- one is sent -/
theorem m_pI_snt {s k : Nat} {c : Nat → Nat → Int} {p : m_P} (h : m_pI s c p) (hk : k < s) (h1 : c k 0 = 1) (hd : p_d p k = false) (hv : p_v p k = false) (ht : p_t p k = false) : m_pI s c (m_snt p k) ∧ m_mu s c (m_snt p k) < m_mu s c p := by
  obtain ⟨i1, i2, i3, i4, i5, i5', i6, i7, i8⟩ := h
  have mu : m_mu s c (m_snt p k) < m_mu s c p := by
    unfold m_mu
    have a1 : m_cnt (m_U c (m_snt p k)) s = m_cnt (m_U c p) s := rfl
    have a2 : m_cnt (m_oc c (m_snt p k)) s < m_cnt (m_oc c p) s := by
      refine m_cnt_lt (c0 := k) (fun i hi q => ?_) hk ?_ ?_
      · unfold m_oc at *
        rw [Bool.and_eq_true, m_op_iff] at q ⊢
        refine ⟨q.1, q.2.1, q.2.2.1, ?_⟩
        have q2 : b_set (p_t p) k true i = false := q.2.2.2
        by_cases e : i = k
        · subst e; exact ht
        · rw [b_set_ne e] at q2; exact q2
      · unfold m_oc m_op
        rw [show p_t (m_snt p k) k = true from b_set_eq]; simp
      · unfold m_oc m_cp
        rw [m_op_iff.mpr ⟨hd, hv, ht⟩, decide_eq_true h1]; rfl
    omega
  refine ⟨⟨i1, i2, fun i q => ?_, i4, i5, i5', ?_, i7, ?_⟩, mu⟩
  · have q : b_set (p_t p) k true i = true := q
    by_cases e : i = k
    · subst e; exact ⟨hk, h1, hv⟩
    · rw [b_set_ne e] at q; exact i3 i q
  · show p_n p + _ ≤ 30
    omega
  · show m_sum (m_ab c p) (p_n p) + _ ≤ 140
    have e2 := m_sum_at (f := m_rb c (m_snt p k)) (g := m_rb c p) (d := k) (k := s) hk (fun i hi hne => by
      unfold m_rb
      rw [show p_t (m_snt p k) i = p_t p i from b_set_ne hne]; rfl)
    have e3 : m_rb c (m_snt p k) k = 3 + c k 3 := by
      unfold m_rb
      rw [if_neg (by rw [show p_d (m_snt p k) k = p_d p k from rfl, hd]; intro q; rcases q with q | q; omega; cases q), if_neg (by rw [show p_v (m_snt p k) k = p_v p k from rfl, hv]; exact Bool.false_ne_true), if_neg (by rw [show p_t (m_snt p k) k = true from b_set_eq]; exact fun q => by cases q.2)]
    have e5 : m_rb c p k = 5 + c k 3 := by
      unfold m_rb
      rw [if_neg (by rw [hd]; intro q; rcases q with q | q; omega; cases q), if_neg (by rw [hv]; exact Bool.false_ne_true), if_pos ⟨h1, ht⟩]
    rw [e2, e3, e5]
    omega
theorem m_fre_iff {s k : Nat} {c : Nat → Nat → Int} {p : m_P} (h : m_fre s c p k = true) : ¬ c k 0 = 2 ∧ p_d p k = false := by
  unfold m_fre at h
  rw [Bool.and_eq_true, Bool.and_eq_true, Bool.not_eq_true', decide_eq_false_iff_not, Bool.not_eq_true'] at h
  exact ⟨h.1, h.2.1⟩
theorem m_pI_brk {s B : Nat} {c : Nat → Nat → Int} {ru : Int} {p : m_P} (hc : m_cok s c) (hB : B ≤ 20) (h : m_pI s c p) (hu : m_und s c p = true) (hf : ∀ b, b < s → m_fre s c p b = false) : m_pI s c (m_brk s c ru B p) ∧ m_mu s c (m_brk s c ru B p) < m_mu s c p := by
  obtain ⟨x, x1, x2⟩ := m_ring_ex hu hf
  unfold m_brk
  split
  · rcases m_pk_2 (s := s) (c := c) (ru := ru) (B := B) (p := p) s with q | ⟨k, k1, k2, k3⟩
    · rw [q.2 x x1] at x2; cases x2
    · rw [k2, Int.toNat_natCast]
      obtain ⟨a1, a2, a3, a4, a5⟩ := m_pR_oc k3
      exact m_pI_snt h a1 a2 a3 a4 a5
  · rename_i hne
    rcases m_pk_1 (s := s) (c := c) (ru := ru) (B := B) (p := p) s with q | ⟨k, k1, k2, k3, k4⟩
    · exact absurd q hne
    · rw [k2, Int.toNat_natCast]
      obtain ⟨a1, a2, a3, a4, a5⟩ := m_pR_oc k3
      have := (m_rm_le k4).1
      exact m_pI_sav hc h a1 a2 a3 a4 a5 (by omega)
theorem m_pI_stp {s B : Nat} {c : Nat → Nat → Int} {ru : Int} {p : m_P} (hc : m_cok s c) (hB : B ≤ 20) (h : m_pI s c p) (hu : m_und s c p = true) : m_pI s c (m_stp s c ru B p) ∧ m_mu s c (m_stp s c ru B p) < m_mu s c p := by
  unfold m_stp
  obtain ⟨q1, q2, q3⟩ := m_lo_spec (P := m_fre s c p) s
  split
  · rename_i hl
    obtain ⟨a1, a2⟩ := m_fre_iff (q3 hl)
    exact m_pI_doe hc h hl a1 a2
  · rename_i hl
    exact m_pI_brk hc hB h hu (fun b hb => q2 b (by omega))
theorem m_it_ok {s B : Nat} {c : Nat → Nat → Int} {ru : Int} (hc : m_cok s c) (hB : B ≤ 20) : ∀ {f : Nat} {p : m_P}, m_pI s c p → m_mu s c p ≤ f → m_pI s c (m_it s c ru B f p) ∧ m_und s c (m_it s c ru B f p) = false
  | 0, p, h, hm => by
    refine ⟨h, ?_⟩
    rw [m_it]
    unfold m_mu at hm
    cases q : m_und s c p with
    | false => rfl
    | true =>
      obtain ⟨i, i1, i2⟩ := m_any_iff.mp q
      have := m_cnt_zero (P := m_U c p) (n := s) (by omega) i i1
      rw [i2] at this; cases this
  | f + 1, p, h, hm => by
    rw [m_it]
    split
    · rename_i hu
      obtain ⟨a1, a2⟩ := m_pI_stp (ru := ru) hc hB h hu
      exact m_it_ok hc hB a1 (by omega)
    · rename_i hu
      exact ⟨h, Bool.not_eq_true _ ▸ hu⟩
/-- more rounds change nothing -/
theorem m_it_more {s B : Nat} {c : Nat → Nat → Int} {ru : Int} (hc : m_cok s c) (hB : B ≤ 20) : ∀ {f g : Nat} {p : m_P}, m_pI s c p → m_mu s c p ≤ f → m_mu s c p ≤ g → m_it s c ru B f p = m_it s c ru B g p
  | 0, g, p, h, hm, hg => by
    have hu := (m_it_ok (f := 0) (ru := ru) hc hB h hm).2
    rw [m_it] at hu ⊢
    cases g with
    | zero => rfl
    | succ g => rw [m_it, hu, if_neg Bool.false_ne_true]
  | f + 1, 0, p, h, hm, hg => (m_it_more hc hB h hg hm).symm
  | f + 1, g + 1, p, h, hm, hg => by
    rw [m_it, m_it]
    split
    · rename_i hu
      obtain ⟨a1, a2⟩ := m_pI_stp (ru := ru) hc hB h hu
      exact m_it_more hc hB a1 (by omega) (by omega)
    · rfl
theorem m_mu_le {s : Nat} {c : Nat → Nat → Int} {p : m_P} (h : m_pI s c p) : m_mu s c p ≤ 30 := by have := h.2.2.2.2.2.2.1; omega
theorem m_pl_ok {s B : Nat} {c : Nat → Nat → Int} {ru : Int} (hc : m_cok s c) (hB : B ≤ 20) : m_pI s c (m_pl s c ru B) ∧ m_und s c (m_pl s c ru B) = false := m_it_ok hc hB (m_pI_0 hc) (by have := m_mu_le (m_pI_0 hc); omega)
end
