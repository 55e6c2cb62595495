/-! walks and rings -/
def m_wk (e : Nat → Nat → Prop) : Nat → Nat → Nat → Prop
  | 0, a, b => a = b
  | d + 1, a, b => ∃ x, e a x ∧ m_wk e d x b
theorem m_wk.trans {e : Nat → Nat → Prop} {b c : Nat} : ∀ {d d' a : Nat}, m_wk e d a b → m_wk e d' b c → m_wk e (d + d') a c
  | 0, d', a, h, h2 => by have h : a = b := h; subst h; rw [Nat.zero_add]; exact h2
  | d + 1, d', a, h, h2 => by
    obtain ⟨x, h1, h3⟩ := h
    rw [show d + 1 + d' = (d + d') + 1 by omega]
    exact ⟨x, h1, m_wk.trans h3 h2⟩
theorem m_wk.one {e : Nat → Nat → Prop} {a b : Nat} (h : e a b) : m_wk e 1 a b := ⟨b, h, rfl⟩
theorem m_wk.mono {e e' : Nat → Nat → Prop} (he : ∀ a b, e a b → e' a b) {b : Nat} : ∀ {d a : Nat}, m_wk e d a b → m_wk e' d a b
  | 0, _, h => h
  | d + 1, _, h => by
    obtain ⟨x, h1, h3⟩ := h
    exact ⟨x, he _ _ h1, m_wk.mono he h3⟩
theorem m_wk.rev {e : Nat → Nat → Prop} {b : Nat} : ∀ {d a : Nat}, m_wk (fun x y => e y x) d a b → m_wk e d b a
  | 0, _, h => by have h := h; exact h.symm
  | d + 1, a, h => by
    obtain ⟨x, h1, h3⟩ := h
    exact (m_wk.rev h3).trans (m_wk.one h1)
def m_cyc (e : Nat → Nat → Prop) (k : Nat) : Prop := ∃ d, m_wk e (d + 1) k k
theorem m_cyc.next {e : Nat → Nat → Prop} {k : Nat} (h : m_cyc e k) : ∃ y, e k y ∧ m_cyc e y := by
  obtain ⟨d, x, h1, h2⟩ := h
  exact ⟨x, h1, d, h2.trans (m_wk.one h1)⟩
theorem m_cyc.prev {e : Nat → Nat → Prop} {k : Nat} (h : m_cyc e k) : ∃ y, e y k ∧ m_cyc e y := by
  obtain ⟨d, h⟩ := h
  have key : ∀ d a, m_wk e (d + 1) a k → ∃ y, e y k ∧ m_wk e d a y := by
    intro d
    induction d with
    | zero =>
      rintro a ⟨x, h1, h2⟩
      have h2 : x = k := h2
      subst h2
      exact ⟨a, h1, rfl⟩
    | succ d ih =>
      rintro a ⟨x, h1, h2⟩
      obtain ⟨y, y1, y2⟩ := ih x h2
      exact ⟨y, y1, x, h1, y2⟩
  obtain ⟨y, y1, y2⟩ := key d k h
  exact ⟨y, y1, d, by rw [show d + 1 = 1 + d by omega]; exact (m_wk.one y1).trans y2⟩
/-- more numbers don't go into fewer places -/
theorem m_pig {R : Nat → Nat → Prop} {m n : Nat} (h1 : ∀ i, i < m → ∃ v, v < n ∧ R i v) (h2 : ∀ i i' v, i < m → i' < m → R i v → R i' v → i = i') : m ≤ n := by
  have h := m_cnt_rel (R := R) (P := fun _ => true) (Q := fun _ => true) (F := m) (G := n) (fun c hc _ => by obtain ⟨v, a, b⟩ := h1 c hc; exact ⟨v, a, rfl, b⟩) (fun c c' d a b _ _ r r' => h2 c c' d a b r r')
  have all : ∀ k, m_cnt (fun _ => true) k = k := by
    intro k
    induction k with
    | zero => rfl
    | succ k ih => rw [m_cnt, if_pos rfl, ih]
  rw [all, all] at h
  exact h
/-- where each has a next one there is a ring -/
theorem m_cyc_of {e : Nat → Nat → Prop} {T : Nat → Prop} {N t : Nat} (hN : ∀ x, T x → x < N) (hT : ∀ x, T x → ∃ y, T y ∧ e x y) (ht : T t) : ∃ k, T k ∧ m_cyc (fun a b => T a ∧ T b ∧ e a b) k := by
  obtain ⟨g, hg⟩ : ∃ g : Nat → Nat, ∀ x, T x → T (g x) ∧ e x (g x) := by
    have h0 : ∀ x, ∃ y, T x → (T y ∧ e x y) := fun x => by
      by_cases h : T x
      · obtain ⟨y, hy⟩ := hT x h; exact ⟨y, fun _ => hy⟩
      · exact ⟨0, fun q => absurd q h⟩
    exact Classical.axiomOfChoice h0
  let it : Nat → Nat := fun i => Nat.rec t (fun _ y => g y) i
  have itT : ∀ i, T (it i) := fun i => by
    induction i with
    | zero => exact ht
    | succ i ih => exact (hg _ ih).1
  have wk : ∀ d i, m_wk (fun a b => T a ∧ T b ∧ e a b) d (it i) (it (i + d)) := by
    intro d
    induction d with
    | zero => exact fun i => rfl
    | succ d ih => exact fun i => ⟨it (i + 1), ⟨itT i, itT (i + 1), (hg _ (itT i)).2⟩, by have := ih (i + 1); rwa [show i + 1 + d = i + (d + 1) by omega] at this⟩
  refine Classical.byContradiction (fun hno => ?_)
  have := m_pig (R := fun i v => it i = v) (m := N + 1) (n := N) (fun i _ => ⟨it i, hN _ (itT i), rfl⟩) (fun i i' v _ _ h h' => ?_)
  · omega
  · refine Classical.byContradiction (fun hne => hno ?_)
    have e : it i = it i' := by have h : it i = v := h; have h' : it i' = v := h'; rw [h, h']
    rcases Nat.lt_or_gt_of_ne hne with q | q
    · refine ⟨it i, itT i, i' - i - 1, ?_⟩
      have := wk (i' - i - 1 + 1) i
      rwa [show i + (i' - i - 1 + 1) = i' by omega, ← e] at this
    · refine ⟨it i', itT i', i - i' - 1, ?_⟩
      have := wk (i - i' - 1 + 1) i'
      rwa [show i' + (i - i' - 1 + 1) = i by omega, e] at this
/-- one command must be ahead of another one, both among some -/
def m_ed (s : Nat) (c : Nat → Nat → Int) (al : Nat → Bool) (a b : Nat) : Prop := a < s ∧ b < s ∧ al a = true ∧ al b = true ∧ m_ah c a b = true
theorem m_ed.mono {s : Nat} {c : Nat → Nat → Int} {al al' : Nat → Bool} (h : ∀ x, x < s → al x = true → al' x = true) (a b : Nat) (q : m_ed s c al a b) : m_ed s c al' a b := ⟨q.1, q.2.1, h a q.1 q.2.2.1, h b q.2.1 q.2.2.2.1, q.2.2.2.2⟩
/-- in a ring among some -/
def m_rg (s : Nat) (c : Nat → Nat → Int) (al : Nat → Bool) (k : Nat) : Prop := m_cyc (m_ed s c al) k
noncomputable def m_rgb (s : Nat) (c : Nat → Nat → Int) (al : Nat → Bool) (k : Nat) : Bool := @decide (m_rg s c al k) (Classical.propDecidable _)
theorem m_rgb_iff {s : Nat} {c : Nat → Nat → Int} {al : Nat → Bool} {k : Nat} : m_rgb s c al k = true ↔ m_rg s c al k := by unfold m_rgb; exact @decide_eq_true_iff _ (Classical.propDecidable _)
theorem m_rg.al {s : Nat} {c : Nat → Nat → Int} {al : Nat → Bool} {k : Nat} (h : m_rg s c al k) : k < s ∧ al k = true ∧ c k 0 = 1 := by
  obtain ⟨y, h1, _⟩ := m_cyc.next h
  have := h1.2.2.2.2
  unfold m_ah at this
  rw [decide_eq_true_eq] at this
  exact ⟨h1.1, h1.2.2.1, this.2.1⟩
theorem m_rg.mono {s : Nat} {c : Nat → Nat → Int} {al al' : Nat → Bool} {k : Nat} (h : m_rg s c al k) (hm : ∀ y, m_rg s c al y → al' y = true) : m_rg s c al' k := by
  obtain ⟨d, hd⟩ := h
  have key : ∀ d y, m_wk (m_ed s c al) d y k → (∃ d', m_wk (m_ed s c al) d' k y) → m_wk (m_ed s c al') d y k := by
    intro d
    induction d with
    | zero => exact fun y h _ => h
    | succ d ih =>
      rintro y ⟨z, h1, h2⟩ ⟨d', h3⟩
      have hy : m_rg s c al y := ⟨d + d', by rw [show d + d' + 1 = (d + 1) + d' by omega]; exact m_wk.trans ⟨z, h1, h2⟩ h3⟩
      have hz : m_rg s c al z := ⟨d + d', by rw [show d + d' + 1 = d + (d' + 1) by omega]; exact h2.trans (h3.trans (m_wk.one h1))⟩
      exact ⟨z, ⟨h1.1, h1.2.1, hm y hy, hm z hz, h1.2.2.2.2⟩, ih z h2 ⟨d' + 1, h3.trans (m_wk.one h1)⟩⟩
  exact ⟨d, key (d + 1) k hd ⟨0, rfl⟩⟩
theorem m_rgb_congr {s : Nat} {c : Nat → Nat → Int} {al al' : Nat → Bool} (h : ∀ x, x < s → al x = al' x) (k : Nat) : m_rgb s c al k = m_rgb s c al' k := by
  rw [Bool.eq_iff_iff, m_rgb_iff, m_rgb_iff]
  constructor
  · rintro ⟨d, q⟩; exact ⟨d, q.mono (m_ed.mono (fun x hx hq => by rw [← h x hx]; exact hq))⟩
  · rintro ⟨d, q⟩; exact ⟨d, q.mono (m_ed.mono (fun x hx hq => by rw [h x hx]; exact hq))⟩
/-- no ring among some -/
def m_acy (s : Nat) (c : Nat → Nat → Int) (al : Nat → Bool) : Prop := ∀ k, ¬ m_rg s c al k
noncomputable def m_acyb (s : Nat) (c : Nat → Nat → Int) (al : Nat → Bool) : Bool := @decide (m_acy s c al) (Classical.propDecidable _)
theorem m_acyb_iff {s : Nat} {c : Nat → Nat → Int} {al : Nat → Bool} : m_acyb s c al = true ↔ m_acy s c al := by unfold m_acyb; exact @decide_eq_true_iff _ (Classical.propDecidable _)
theorem m_acyb_no {s : Nat} {c : Nat → Nat → Int} {al : Nat → Bool} {k : Nat} (h : m_rg s c al k) : m_acyb s c al = false := by
  cases q : m_acyb s c al with
  | false => rfl
  | true => exact absurd h (m_acyb_iff.mp q k)
/-- how far all are from k -/
def m_farP (s : Nat) (c : Nat → Nat → Int) (al : Nat → Bool) (k : Nat) (F : Nat → Int) : Prop := (∀ a, a < s → 1 ≤ F a ∧ F a ≤ 268435456) ∧ (∀ a, a < s → F a < 268435456 → ∃ d : Nat, F a = ((d + 1 : Nat) : Int) ∧ m_wk (m_ed s c al) (d + 1) a k) ∧ (∀ a b, m_ed s c al a b → F a ≤ (if b = k then 1 else F b + 1))
theorem m_farP.up {s : Nat} {c : Nat → Nat → Int} {al : Nat → Bool} {k : Nat} {F : Nat → Int} (h : m_farP s c al k F) : ∀ {d a : Nat}, m_wk (m_ed s c al) (d + 1) a k → F a ≤ ((d + 1 : Nat) : Int)
  | 0, a, q => by
    obtain ⟨x, h1, h2⟩ := q
    have h2 : x = k := h2
    have := h.2.2 a x h1
    rw [if_pos h2] at this
    exact this
  | d + 1, a, q => by
    obtain ⟨x, h1, h2⟩ := q
    have h3 := h.2.2 a x h1
    have h4 := m_farP.up h h2
    split at h3 <;> omega
theorem m_farP.le {s : Nat} {c : Nat → Nat → Int} {al : Nat → Bool} {k : Nat} {F : Nat → Int} (h : m_farP s c al k F) {a : Nat} (ha : a < s) (hF : F a < 268435456) : F a ≤ s := by
  have step : ∀ (d a : Nat), a < s → F a = ((d + 1 + 1 : Nat) : Int) → F a < 268435456 → ∃ b, b < s ∧ F b = ((d + 1 : Nat) : Int) := by
    intro d a ha e hlt
    obtain ⟨d', q1, x, q2, q3⟩ := h.2.1 a ha hlt
    obtain rfl : d' = d + 1 := by omega
    have h4 := h.up q3
    have h5 := h.2.2 a x q2
    refine ⟨x, q2.2.1, ?_⟩
    split at h5 <;> omega
  have all : ∀ (t d a : Nat), a < s → F a = ((d + t + 1 : Nat) : Int) → F a < 268435456 → ∃ b, b < s ∧ F b = ((d + 1 : Nat) : Int) := by
    intro t
    induction t with
    | zero => exact fun d a ha e _ => ⟨a, ha, e⟩
    | succ t ih =>
      intro d a ha e hlt
      obtain ⟨b, b1, b2⟩ := step (d + t) a ha e hlt
      exact ih d b b1 b2 (by omega)
  obtain ⟨D, q1, _⟩ := h.2.1 a ha hF
  have := m_pig (R := fun i v => F v = ((i + 1 : Nat) : Int)) (m := D + 1) (n := s) (fun i hi => ?_) (fun i i' v _ _ r r' => ?_)
  · omega
  · exact all (D - i) i a ha (by rw [q1]; omega) hF
  · have r : F v = ((i + 1 : Nat) : Int) := r
    have r' : F v = ((i' + 1 : Nat) : Int) := r'
    omega
theorem m_farP.reach {s : Nat} {c : Nat → Nat → Int} {al : Nat → Bool} {k : Nat} {F : Nat → Int} (hs : s ≤ 1000) (h : m_farP s c al k F) : ∀ {d a : Nat}, m_wk (m_ed s c al) (d + 1) a k → F a < 268435456
  | 0, a, q => by have := h.up q; omega
  | d + 1, a, q => by
    obtain ⟨x, h1, h2⟩ := q
    have h3 := h.2.2 a x h1
    have h4 := m_farP.reach hs h h2
    have h5 := h.le h1.2.1 h4
    split at h3 <;> omega
theorem m_farP.rg {s : Nat} {c : Nat → Nat → Int} {al : Nat → Bool} {k : Nat} {F : Nat → Int} (hs : s ≤ 1000) (h : m_farP s c al k F) (hk : k < s) : F k < 268435456 ↔ m_rg s c al k := by
  constructor
  · intro q
    obtain ⟨d, _, q2⟩ := h.2.1 k hk q
    exact ⟨d, q2⟩
  · rintro ⟨d, q⟩
    exact h.reach hs q
