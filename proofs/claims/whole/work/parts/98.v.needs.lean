section
/-! budgets, rules and choices compared; old and new in turn -/
def q_lw (P : Nat → Bool) : Nat → Int
  | 0 => -1
  | q + 1 => if P (20 - q) then ((20 - q : Nat) : Int) else q_lw P q
theorem q_lw_spec {P : Nat → Bool} : ∀ q, q ≤ 21 → (∀ a, 21 - q ≤ a → a < 21 → P a = true → (∀ j, 21 - q ≤ j → j < a → P j = false) → q_lw P q = a) ∧ ((∀ j, 21 - q ≤ j → j < 21 → P j = false) → q_lw P q = -1)
  | 0, _ => ⟨fun a h1 h2 => by omega, fun _ => rfl⟩
  | q + 1, h => by
    obtain ⟨i1, i2⟩ := q_lw_spec (P := P) q (by omega)
    refine ⟨fun a h1 h2 h3 h4 => ?_, fun h1 => ?_⟩
    · rw [q_lw]
      by_cases e : a = 20 - q
      · rw [← e, h3, if_pos rfl]
      · rw [h4 (20 - q) (by omega) (by omega), if_neg Bool.false_ne_true]
        exact i1 a (by omega) h2 h3 (fun j a1 a2 => h4 j (by omega) a2)
    · rw [q_lw, h1 (20 - q) (by omega) (by omega), if_neg Bool.false_ne_true]
      exact i2 (fun j a1 a2 => h1 j (by omega) a2)
theorem q_lw_lo {P : Nat → Bool} : q_lw P 21 = if m_lo P 21 ≤ 20 then ((m_lo P 21 : Nat) : Int) else -1 := by
  obtain ⟨h1, h2, h3⟩ := m_lo_spec (P := P) 21
  obtain ⟨i1, i2⟩ := q_lw_spec (P := P) 21 (Nat.le_refl _)
  by_cases e : m_lo P 21 ≤ 20
  · rw [if_pos e]
    exact i1 _ (by omega) (by omega) (h3 (by omega)) (fun j _ hj => h2 j hj)
  · rw [if_neg e]
    exact i2 (fun j _ hj => h2 j (by omega))
theorem q_lw_rng {P : Nat → Bool} : ∀ q, -1 ≤ q_lw P q ∧ q_lw P q ≤ 20
  | 0 => by rw [q_lw]; omega
  | q + 1 => by
    have := q_lw_rng (P := P) q
    rw [q_lw]
    split <;> omega
noncomputable def q_ne (S : Nat) (c : Nat → Nat → Int) (ru : Int) (B : Nat) : Bool := decide (m_bits (p_t (m_pl S c ru B)) 20 = 0)
noncomputable def A_needs (S : Nat) (c : Nat → Nat → Int) (ru : Int) : Int := q_lw (q_ne S c ru) 21
theorem q_ne_cnt {S B : Nat} {c : Nat → Nat → Int} {ru : Int} (hok : m_cok S c) (hB : B ≤ 20) : q_ne S c ru B = true ↔ m_cnt (p_t (m_pl S c ru B)) S = 0 := by
  have hI := (m_pl_ok (ru := ru) hok hB).1
  unfold q_ne
  rw [decide_eq_true_iff]
  constructor
  · intro h
    refine Classical.byContradiction (fun q => ?_)
    obtain ⟨i, i1, i2⟩ := m_cnt_pos q
    have := m_bits_bit (P := p_t (m_pl S c ru B)) (i := i) 20
    have hs := hok.1
    rw [h, Nat.zero_testBit, i2, decide_eq_true (show i < 20 by omega)] at this
    cases this
  · intro h
    refine Nat.eq_of_testBit_eq (fun i => ?_)
    rw [m_bits_bit, Nat.zero_testBit]
    cases e : p_t (m_pl S c ru B) i
    · rw [Bool.and_false]
    · have h1 := (hI.2.2.1 i e).1
      rw [m_cnt_zero h i h1] at e; cases e
/-- the best of some -/
def q_b (f : Nat → Int) : Nat → Int × Int
  | 0 => (-1, 268435456)
  | j + 1 => if f j < (q_b f j).2 then ((j : Int), f j) else q_b f j
theorem q_b_rng {f : Nat → Int} (hf : ∀ j, j < 3 → 1 ≤ f j ∧ f j ≤ 1000) : ∀ j, j ≤ 3 → -1 ≤ (q_b f j).1 ∧ (q_b f j).1 ≤ 3 ∧ 1 ≤ (q_b f j).2 ∧ (q_b f j).2 ≤ 268435456
  | 0, _ => by rw [q_b]; exact ⟨by decide, by decide, by decide, by decide⟩
  | j + 1, h => by
    have ih := q_b_rng hf j (by omega)
    have := hf j (by omega)
    rw [q_b]
    split
    · refine ⟨?_, ?_, ?_, ?_⟩ <;> dsimp only <;> omega
    · exact ih
/-- nothing but the model's paper of plans, and place t of its row -/
def m_f5 (t : Nat) (D D' : g_D) : Prop := (∀ k, k ≠ 208 → k ≠ 209 → ¬ (216 ≤ k ∧ k ≤ 231) → D' k = D k) ∧ (∀ j, j ≠ t → D' 209 j = D 209 j) ∧ ∀ j, j ≠ 0 → j ≠ 14 → ¬ (26 ≤ j ∧ j ≤ 30) → D' 208 j = D 208 j
theorem m_f5.refl (t : Nat) (D : g_D) : m_f5 t D D := ⟨fun _ _ _ _ => rfl, fun _ _ => rfl, fun _ _ _ _ => rfl⟩
theorem m_f5.fpp {t : Nat} {D D' D'' : g_D} (h : m_f5 t D D') (f : m_fpp D' D'') : m_f5 t D D'' := ⟨fun k a b c => (f.1 k a c).trans (h.1 k a b c), fun j a => by rw [f.1 209 (by decide) (by decide)]; exact h.2.1 j a, fun j a b c => (f.2 j a b c).trans (h.2.2 j a b c)⟩
theorem m_f5.up {t : Nat} {D D' : g_D} {v : Int} (h : m_f5 t D D') : m_f5 t D (g_up D' 209 t v) := ⟨fun k a b c => by rw [g_up_ne b]; exact h.1 k a b c, fun j a => by rw [g_up_at a]; exact h.2.1 j a, fun j a b c => by rw [g_up_ne (by decide)]; exact h.2.2 j a b c⟩
theorem m_f5.back {t : Nat} {D D' : g_D} (h : m_f5 t D D') : m_fr D (g_up D' 209 t (D 209 t)) := by
  refine ⟨fun k a => ?_, fun j a => ?_⟩
  · by_cases e : k = 209
    · subst e
      funext j
      by_cases e2 : j = t
      · rw [e2, g_up_eq]
      · rw [g_up_at e2]; exact h.2.1 j e2
    · rw [g_up_ne e]; exact h.1 k (by omega) e (by omega)
  · rw [g_up_ne (by decide)]; exact h.2.2 j (by omega) (by omega) (by omega)
section NEEDS
variable {E : g_E} {l : Launch} {sh : List g_Sh} {D : g_D} {o w : Nat → Int} {n m le B S : Nat} {ch ru : Int} {c : Nat → Nat → Int}
theorem m_f5.tx5 {D' : g_D} {B' : Nat} (h : m_f5 5 D D') (hB : B' ≤ 20) (h5 : D' 209 5 = B') (ht : m_tx D o n w m le ch ru B) : m_tx D' o n w m le ch ru B' := by
  obtain ⟨⟨a0, a1, a2, a3, a4, a5⟩, b2, b3, b4, b5, b6, b7, b8⟩ := ht
  refine ⟨⟨?_, a1, ?_, a3, fun i hi => ?_, fun i hi => ?_⟩, ?_, ?_, ?_, h5, b6, b7, hB⟩
  · rw [h.2.1 0 (by decide)]; exact a0
  · rw [h.2.1 1 (by decide)]; exact a2
  · rw [h.2.1 _ (by omega)]; exact a4 i hi
  · rw [h.2.1 _ (by omega)]; exact a5 i hi
  · rw [h.2.1 2 (by decide)]; exact b2
  · rw [h.2.1 3 (by decide)]; exact b3
  · rw [h.2.1 4 (by decide)]; exact b4
theorem m_f5.tx4 {D' : g_D} {ru' : Int} (h : m_f5 4 D D') (h4 : D' 209 4 = ru') (ht : m_tx D o n w m le ch ru B) : m_tx D' o n w m le ch ru' B := by
  obtain ⟨⟨a0, a1, a2, a3, a4, a5⟩, b2, b3, b4, b5, b6, b7, b8⟩ := ht
  refine ⟨⟨?_, a1, ?_, a3, fun i hi => ?_, fun i hi => ?_⟩, ?_, ?_, h4, ?_, b6, b7, b8⟩
  · rw [h.2.1 0 (by decide)]; exact a0
  · rw [h.2.1 1 (by decide)]; exact a2
  · rw [h.2.1 _ (by omega)]; exact a4 i hi
  · rw [h.2.1 _ (by omega)]; exact a5 i hi
  · rw [h.2.1 2 (by decide)]; exact b2
  · rw [h.2.1 3 (by decide)]; exact b3
  · rw [h.2.1 5 (by decide)]; exact b5
theorem m_f5.tx3 {D' : g_D} {ch' : Int} (h : m_f5 3 D D') (h3 : D' 209 3 = ch') (ht : m_tx D o n w m le ch ru B) : m_tx D' o n w m le ch' ru B := by
  obtain ⟨⟨a0, a1, a2, a3, a4, a5⟩, b2, b3, b4, b5, b6, b7, b8⟩ := ht
  refine ⟨⟨?_, a1, ?_, a3, fun i hi => ?_, fun i hi => ?_⟩, ?_, h3, ?_, ?_, b6, b7, b8⟩
  · rw [h.2.1 0 (by decide)]; exact a0
  · rw [h.2.1 1 (by decide)]; exact a2
  · rw [h.2.1 _ (by omega)]; exact a4 i hi
  · rw [h.2.1 _ (by omega)]; exact a5 i hi
  · rw [h.2.1 2 (by decide)]; exact b2
  · rw [h.2.1 4 (by decide)]; exact b4
  · rw [h.2.1 5 (by decide)]; exact b5
theorem c_X12_needs {K : Int → g_D → Prop} (h : m_tx D o n w m le ch ru B) (eC : m_cs ch le o w n m = (S, c)) (kk : ∀ D' : g_D, m_fr D D' → K (A_needs S c ru) D') : k_X12_needs E l D K := by
  refine s_X12_needs (fun _ D1 e1 => c_lc (ru := ru) (B := B) (by rw [e1]; exact m_fpp.up0.tx h) eC (fun D2 f2 c2 i2 a2 => ?_))
  rw [e1] at f2
  have f2 : m_fpp D D2 := m_fpp.up0.trans f2
  have hok := i2.cok h.1.2.2.2.1
  have key : ∀ (q : Nat) (D3 : g_D), q ≤ 21 → m_f5 5 D D3 → m_cmd D3 S c → m_ahd D3 S c → n_X12_needs E l D3 21 [some (g_R 208), some (g_I (D 209 5)), some (g_I (q_lw (q_ne S c ru) q)), some (g_I (20 - (q : Int)))] K := by
    have main : ∀ (r q : Nat) (D3 : g_D), 21 - q = r → q ≤ 21 → m_f5 5 D D3 → m_cmd D3 S c → m_ahd D3 S c → n_X12_needs E l D3 21 [some (g_R 208), some (g_I (D 209 5)), some (g_I (q_lw (q_ne S c ru) q)), some (g_I (20 - (q : Int)))] K := by
      intro r
      induction r with
      | zero =>
        intro q D3 hr hq f c3 a3
        obtain rfl : q = 21 := by omega
        exact s_X12_needs_21 (fun _ _ _ _ => ⟨fun _ D4 e4 => kk D4 (by rw [e4]; exact f.back), fun z => (by omega : False).elim⟩)
      | succ r ih =>
        intro q D3 hr hq f c3 a3
        refine s_X12_needs_21 (fun _ _ _ _ => ⟨fun z => (by omega : False).elim, fun _ D4 e4 => ?_⟩)
        have f4 : m_f5 5 D D4 := by rw [e4]; exact f.up
        have g4 : ∀ i, i ≠ 209 → D4 i = D3 i := fun i hi => by rw [e4, g_up_ne hi]
        have t4 : m_tx D4 o n w m le ch ru (20 - q) := f4.tx5 (by omega) (by rw [e4, g_up_eq]; omega) h
        refine c_lp t4 (by unfold m_cmd at *; rw [g4 208 (by decide), g4 216 (by decide), g4 217 (by decide), g4 218 (by decide), g4 219 (by decide)]; exact c3) i2 (by unfold m_ahd at *; rw [g4 220 (by decide)]; exact a3) (fun D5 f5 c5 a5 p5 b5 => ?_)
        rw [p5.2.2.2.2.2.1]
        have ih' := ih (q + 1) D5 (by omega) (by omega) (f4.fpp f5) c5 a5
        rw [q_lw, show 20 - ((q + 1 : Nat) : Int) = 20 - (q : Int) + (-1) by omega] at ih'
        refine ⟨fun z => ⟨⟨by omega, by omega⟩, ?_⟩, fun z => ⟨⟨by omega, by omega⟩, ?_⟩⟩
        · rw [if_neg (fun y => z (by rw [(q_ne_cnt hok (by omega)).mp y]; rfl))] at ih'; exact ih'
        · rw [if_pos ((q_ne_cnt hok (by omega)).mpr (by omega)), show ((20 - q : Nat) : Int) = 20 - (q : Int) by omega] at ih'; exact ih'
    intro q D3 hq f c3 a3
    exact main _ q D3 rfl hq f c3 a3
  exact key 0 D2 (by omega) ((m_f5.refl 5 D).fpp f2) c2 a2
theorem c_X12_sized {K : Int → g_D → Prop} {v : Int} (h : m_tx D o n w m le ch ru B) (eC : m_cs ch le o w n m = (S, c)) (k0 : ¬ (0 ≤ v ∧ v ≤ 20) → ∀ D' : g_D, m_fr D D' → K (-3) D') (kk : ∀ D' : g_D, (0 ≤ v ∧ v ≤ 20) → m_fr D D' → K (m_by c (m_pl S c ru v.toNat)) D') : k_X12_sized E l D v K := by
  refine s_X12_sized (fun _ _ D1 e1 => c_X12_within ⟨fun z _ => ⟨fun _ D3 e3 => ?_, fun q => absurd q (by decide)⟩, fun z _ => ⟨fun q => absurd rfl q, fun _ => k0 z D1 (by rw [e1]; exact m_fpp.up0.fr)⟩⟩)
  have f1 : m_f5 5 D D1 := by rw [e1]; exact (m_f5.refl 5 D).fpp m_fpp.up0
  have f3 : m_f5 5 D D3 := by rw [e3]; exact f1.up
  have e5 : D1 209 5 = D 209 5 := by rw [e1, g_up_ne (by decide)]
  refine c_la (f3.tx5 (B' := v.toNat) (by omega) (by rw [e3, g_up_eq]; omega) h) eC (fun D4 f4 i4 c4 a4 p4 b4 D5 e5' => ?_)
  have hok := i4.cok h.1.2.2.2.1
  have hI := (m_pl_ok (B := v.toNat) (ru := ru) hok (by omega)).1
  rw [b4.1]
  unfold m_pN
  rw [(m_of_le hok hI).2]
  refine kk D5 z ?_
  rw [e5', e5]
  exact (f3.fpp f4).back
theorem c_X12_best {K : Int → g_D → Prop} {v : Int} (h : m_tx D o n w m le ch ru B) (k0 : ¬ (0 ≤ v ∧ v ≤ 1) → ∀ D' : g_D, m_fr D D' → K (-2) D')
    (kk : ∀ D' : g_D, (0 ≤ v ∧ v ≤ 1) → m_fr D D' → K (q_b (fun j => if v = 0 then m_by (m_cs ch le o w n m).2 (m_pl (m_cs ch le o w n m).1 (m_cs ch le o w n m).2 (j : Int) B) else m_by (m_cs (j : Int) le o w n m).2 (m_pl (m_cs (j : Int) le o w n m).1 (m_cs (j : Int) le o w n m).2 ru B)) 3).1 D') : k_X12_best E l D v K := by
  have key : ∀ (t : Nat) (f : Nat → Int), t < 1557 → (t = 3 ∨ t = 4) → (∀ (j : Nat) (D3 : g_D) (K' : g_D → Prop), j < 3 → m_f5 t D D3 → D3 209 t = j → (∀ D4 : g_D, m_fpp D3 D4 → D4 208 27 = f j → 1 ≤ f j → f j ≤ 1000 → K' D4) → k_X12_laysAll E l D3 K') → (∀ D' : g_D, m_fr D D' → K (q_b f 3).1 D') → ∀ (r j : Nat) (D2 : g_D), 3 - j = r → j ≤ 3 → m_f5 t D D2 → n_X12_best E l D2 45 [some (g_R 208), none, some (g_I t), some (g_I (D 209 t)), some (g_I (q_b f j).1), some (g_I (q_b f j).2), some (g_I j)] K := by
    intro t f ht ht2 hla kk r
    induction r with
    | zero =>
      intro j D2 hr hj f2
      obtain rfl : j = 3 := by omega
      refine s_X12_best_45 (fun _ _ _ _ _ _ => ⟨fun _ => ⟨by omega, fun D3 e3 => kk D3 ?_⟩, fun z => (by omega : False).elim⟩)
      rw [Int.toNat_natCast] at e3
      rw [e3]; exact f2.back
    | succ r ih =>
      intro j D2 hr hj f2
      refine s_X12_best_45 (fun _ _ _ _ _ _ => ⟨fun z => (by omega : False).elim, fun _ => ⟨by omega, fun D3 e3 => ?_⟩⟩)
      rw [Int.toNat_natCast] at e3
      have f3 : m_f5 t D D3 := by rw [e3]; exact f2.up
      refine hla j D3 _ (by omega) f3 (by rw [e3, g_up_eq]) (fun D4 f4 e27 _ _ => ?_)
      have ih' := ih (j + 1) D4 (by omega) (by omega) (f3.fpp f4)
      rw [q_b, ← g_cast1] at ih'
      rw [e27]
      refine ⟨fun z => ⟨⟨by omega, by omega⟩, ?_⟩, fun z => ⟨⟨by omega, by omega⟩, ?_⟩⟩
      · rw [if_pos z] at ih'; exact ih'
      · rw [if_neg z] at ih'; exact ih'
  have bnd : ∀ {S : Nat} {c : Nat → Nat → Int} (ru' : Int), m_inv n m S c → 1 ≤ m_by c (m_pl S c ru' B) ∧ m_by c (m_pl S c ru' B) ≤ 1000 ∧ ((m_pN c (m_pl S c ru' B) : Nat) : Int) = m_by c (m_pl S c ru' B) := fun ru' hi => by
    have hok := hi.cok h.1.2.2.2.1
    have hI := (m_pl_ok (ru := ru') hok h.2.2.2.2.2.2.2).1
    have := m_by_rng hok hI
    exact ⟨this.1, by omega, (m_of_le hok hI).2⟩
  refine s_X12_best (fun _ _ D1 e1 => c_X12_within ⟨fun z _ => ⟨fun _ => ⟨fun z0 => ?_, fun z0 => ?_⟩, fun q => absurd q (by decide)⟩, fun z _ => ⟨fun q => absurd rfl q, fun _ => k0 z D1 (by rw [e1]; exact m_fpp.up0.fr)⟩⟩)
  · have f1 : m_f5 3 D D1 := by rw [e1]; exact (m_f5.refl 3 D).fpp m_fpp.up0
    rw [show D1 209 3 = D 209 3 by rw [e1, g_up_ne (by decide)]]
    refine key 3 (fun j => m_by (m_cs (j : Int) le o w n m).2 (m_pl (m_cs (j : Int) le o w n m).1 (m_cs (j : Int) le o w n m).2 ru B)) (by decide) (by decide) (fun j D3 K' hj f3 e3 k' => c_la (f3.tx3 e3 h) rfl (fun D4 f4 i4 c4 a4 p4 b4 => ?_)) (fun D' f' => ?_) _ 0 D1 rfl (by omega) f1
    · have hb := bnd ru i4
      exact k' D4 f4 (by rw [b4.1]; exact hb.2.2) hb.1 hb.2.1
    · have := kk D' z f'
      simp only [if_neg z0] at this
      exact this
  · have f1 : m_f5 4 D D1 := by rw [e1]; exact (m_f5.refl 4 D).fpp m_fpp.up0
    rw [show D1 209 4 = D 209 4 by rw [e1, g_up_ne (by decide)]]
    refine key 4 (fun j => m_by (m_cs ch le o w n m).2 (m_pl (m_cs ch le o w n m).1 (m_cs ch le o w n m).2 (j : Int) B)) (by decide) (by decide) (fun j D3 K' hj f3 e3 k' => c_la (f3.tx4 e3 h) rfl (fun D4 f4 i4 c4 a4 p4 b4 => ?_)) (fun D' f' => ?_) _ 0 D1 rfl (by omega) f1
    · have hb := bnd (j : Int) i4
      exact k' D4 f4 (by rw [b4.1]; exact hb.2.2) hb.1 hb.2.1
    · have := kk D' z f'
      simp only [if_pos z0] at this
      exact this
end NEEDS
end
