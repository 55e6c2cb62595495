section
def q_sw (r : Nat → Int) (j : Nat) : Int := if j = 0 then r 1 else if j = 1 then r 0 else if 6 ≤ j ∧ j < 46 then r (j + 40) else if 46 ≤ j ∧ j < 86 then r (j - 40) else r j
theorem q_sw2 (r : Nat → Int) : q_sw (q_sw r) = r := by
  funext j
  unfold q_sw
  by_cases h0 : j = 0
  · subst h0; rw [if_pos rfl, if_neg (by decide), if_pos rfl]
  · rw [if_neg h0]
    by_cases h1 : j = 1
    · subst h1; rw [if_pos rfl, if_pos rfl]
    · rw [if_neg h1]
      by_cases h2 : 6 ≤ j ∧ j < 46
      · rw [if_pos h2, if_neg (by omega), if_neg (by omega), if_neg (by omega), if_pos (by omega), Nat.add_sub_cancel]
      · rw [if_neg h2]
        by_cases h3 : 46 ≤ j ∧ j < 86
        · rw [if_pos h3, if_neg (by omega), if_neg (by omega), if_pos (by omega), Nat.sub_add_cancel (by omega)]
        · rw [if_neg h3, if_neg h0, if_neg h1, if_neg h2, if_neg h3]
section NEEDX
variable {E : g_E} {l : Launch} {sh : List g_Sh} {D : g_D} {o w : Nat → Int} {n m le B S : Nat} {ch ru : Int} {c : Nat → Nat → Int}
theorem c_X12_turns {K : g_D → Prop} (kk : ∀ D' : g_D, (∀ k, k ≠ 209 → D' k = D k) → D' 209 = q_sw (D 209) → K D') : k_X12_turns E l D K := by
  have key : ∀ (q i : Nat) (D1 : g_D), 40 - i = q → i ≤ 40 → (∀ k, k ≠ 209 → D1 k = D k) → (∀ j, D1 209 j = if j = 0 ∨ j = 1 ∨ (6 ≤ j ∧ j < 6 + i) ∨ (46 ≤ j ∧ j < 46 + i) then q_sw (D 209) j else D 209 j) → n_X12_turns E l D1 28 [some (g_R 208), none, some (g_I i), none] K := by
    intro q
    induction q with
    | zero =>
      intro i D1 hq hi f hy
      obtain rfl : i = 40 := by omega
      refine s_X12_turns_28 (fun _ _ => ⟨fun _ => kk D1 f (funext (fun j => ?_)), fun z => (by omega : False).elim⟩)
      rw [hy j]
      split
      · rfl
      · unfold q_sw
        rw [if_neg (by omega), if_neg (by omega), if_neg (by omega), if_neg (by omega)]
    | succ q ih =>
      intro i D1 hq hi f hy
      refine s_X12_turns_28 (fun _ _ => ⟨fun z => (by omega : False).elim, fun _ => ⟨⟨by omega, by omega⟩, by omega, ⟨by omega, by omega⟩, ⟨by omega, by omega⟩, by omega, by omega, fun D2 e2 => ⟨⟨by omega, by omega⟩, by omega, fun D3 e3 => ⟨⟨by omega, by omega⟩, ?_⟩⟩⟩⟩)
      rw [show (6 + (i : Int)).toNat = 6 + i by omega, show (46 + (i : Int)).toNat = 46 + i by omega] at e2 e3
      rw [hy (46 + i), if_neg (by omega)] at e2
      rw [hy (6 + i), if_neg (by omega)] at e3
      rw [g_cast1]
      refine ih (i + 1) D3 (by omega) (by omega) (fun k hk => by rw [e3, g_up_ne hk, e2, g_up_ne hk]; exact f k hk) (fun j => ?_)
      rw [e3]
      by_cases a : j = 46 + i
      · subst a
        rw [g_up_eq, if_pos (by omega)]
        unfold q_sw
        rw [if_neg (by omega), if_neg (by omega), if_neg (by omega), if_pos (by omega), show 46 + i - 40 = 6 + i by omega]
      · rw [g_up_at a, e2]
        by_cases a2 : j = 6 + i
        · subst a2
          rw [g_up_eq, if_pos (by omega)]
          unfold q_sw
          rw [if_neg (by omega), if_neg (by omega), if_pos (by omega), show 6 + i + 40 = 46 + i by omega]
        · rw [g_up_at a2, hy j]
          by_cases a3 : j = 0 ∨ j = 1 ∨ (6 ≤ j ∧ j < 6 + i) ∨ (46 ≤ j ∧ j < 46 + i)
          · rw [if_pos a3, if_pos (by omega)]
          · rw [if_neg a3, if_neg (by omega)]
  refine s_X12_turns (fun _ D1 e1 D2 e2 => key 40 0 D2 rfl (by omega) (fun k hk => by rw [e2, g_up_ne hk, e1, g_up_ne hk]) (fun j => ?_))
  rw [e2]
  by_cases a : j = 1
  · subst a; rw [g_up_eq, if_pos (by omega)]; unfold q_sw; rw [if_neg (by decide), if_pos rfl]
  · rw [g_up_at a, e1]
    by_cases a0 : j = 0
    · subst a0; rw [g_up_eq, if_pos (by omega)]; unfold q_sw; rw [if_pos rfl]
    · rw [g_up_at a0, if_neg (by omega)]
theorem c_X12_turned {K : Int → g_D → Prop} (h : m_tx D o n w m le ch ru B) (eC : m_cs ch le w o m n = (S, c)) (kk : ∀ D' : g_D, m_fr D D' → K (m_by c (m_pl S c ru B)) D') : k_X12_turned E l D K := by
  refine s_X12_turned (fun _ D1 e1 => c_X12_turns (fun D2 f2 r2 => ?_))
  have e9 : D1 209 = D 209 := by rw [e1, g_up_ne (by decide)]
  rw [e9] at r2
  obtain ⟨⟨a0, a1, a2, a3, a4, a5⟩, b2, b3, b4, b5, b6, b7, b8⟩ := h
  have t2 : m_tx D2 w m o n le ch ru B := by
    refine ⟨⟨?_, a3, ?_, a1, fun i hi => ?_, fun i hi => ?_⟩, ?_, ?_, ?_, ?_, b6, b7, b8⟩
    · rw [r2]; unfold q_sw; rw [if_pos rfl]; exact a2
    · rw [r2]; unfold q_sw; rw [if_neg (by decide), if_pos rfl]; exact a0
    · rw [r2]; unfold q_sw; rw [if_neg (by omega), if_neg (by omega), if_pos (by omega), show 6 + i + 40 = 46 + i by omega]; exact a5 i hi
    · rw [r2]; unfold q_sw; rw [if_neg (by omega), if_neg (by omega), if_neg (by omega), if_pos (by omega), show 46 + i - 40 = 6 + i by omega]; exact a4 i hi
    · rw [r2]; unfold q_sw; rw [if_neg (by decide), if_neg (by decide), if_neg (by decide), if_neg (by decide)]; exact b2
    · rw [r2]; unfold q_sw; rw [if_neg (by decide), if_neg (by decide), if_neg (by decide), if_neg (by decide)]; exact b3
    · rw [r2]; unfold q_sw; rw [if_neg (by decide), if_neg (by decide), if_neg (by decide), if_neg (by decide)]; exact b4
    · rw [r2]; unfold q_sw; rw [if_neg (by decide), if_neg (by decide), if_neg (by decide), if_neg (by decide)]; exact b5
  refine c_la t2 eC (fun D3 f3 i3 c3 q3 p3 y3 => c_X12_turns (fun D4 f4 r4 => ?_))
  have hok := i3.cok a1
  have hI := (m_pl_ok (ru := ru) hok b8).1
  rw [f4 208 (by decide), y3.1]
  unfold m_pN
  rw [(m_of_le hok hI).2]
  rw [f3.1 209 (by decide) (by decide), r2, q_sw2] at r4
  refine kk D4 ⟨fun k hk => ?_, fun j hj => ?_⟩
  · by_cases e : k = 209
    · subst e; exact r4
    · rw [f4 k e, f3.1 k (by omega) (by omega), f2 k e, e1, g_up_ne (by omega)]
  · rw [f4 208 (by decide), f3.2 j (by omega) (by omega) (by omega), f2 208 (by decide), e1, g_up_at (by omega)]
/-- the class -/
theorem x_pS.oth {D' : g_D} (h : x_pS D ru B n m S w c) (f : ∀ i, ¬ (156 ≤ i ∧ i ≤ 174) → i ≠ 144 → D' i = D i) : x_pS D' ru B n m S w c := h.fr (fun i _ _ q => f i (by omega) (by omega)) (fun j _ _ => by rw [f 143 (by decide) (by decide)])
theorem c_other {K : g_D → Prop} {B' : Nat} {ru' : Int} (h : x_pS D ru B n m S w c) (hm : m ≤ 40) (hB : B' ≤ 20) (kk : ∀ D' : g_D, (∀ i, ¬ (156 ≤ i ∧ i ≤ 174) → i ≠ 144 → D' i = D i) → x_plD D' 168 S c (m_pl S c ru' B') → K D') : k_X4_build E l D 168 137 ru' B' K :=
  c_X4_build ip_Plan_168 ip_Script_137 (by decide) (h.cok hm) hB h.1 h.2.2.1 (fun D' f p => kk D' (fun i a b => f i (by omega) (by omega)) p)
theorem g_fx33 : g_fx E 3 3 = 20 := rfl
theorem g_fx33b : (0 ≤ (3 : Int) ∧ (3 : Int) < g_fl E 3 ∧ g_r (g_fx E 3 3)) := by rw [g_fx33, show g_fl E 3 = 4 from rfl]; exact ⟨by decide, by decide, by decide, by decide⟩
theorem c_X11_needs {K : Int → g_D → Prop} (h : x_tx D o n w m le ch ru B) (eC : m_cs ch le o w n m = (S, c)) (hR : x_plnR D ch le ru B o w n m) (kk : ∀ D' : g_D, x_fpq D D' → D' 0 14 = 0 → x_pS D' ru B n m S w c → K (A_needs S c ru) D') : k_X11_needs E l D K := by
  have hm := h.2.1.2.1
  refine s_X11_needs (fun _ => c_mp h eC hR (fun D1 f1 z1 p1 => ?_))
  unfold A_needs at kk
  rw [q_lw_lo] at kk
  have key : ∀ (q j : Nat) (D2 : g_D), 21 - j = q → j ≤ 21 → x_fpq D D2 → D2 0 14 = 0 → x_pS D2 ru B n m S w c → (∀ i, i < j → q_ne S c ru i = false) → n_X11_needs E l D2 6 [some (g_R 0), some (g_I j)] K := by
    intro q
    induction q with
    | zero =>
      intro j D2 hq hj f z p hy
      obtain rfl : j = 21 := by omega
      rw [m_lo_none hy, if_neg (by decide)] at kk
      refine s_X11_needs_6 (fun _ _ => ⟨g_fx33b, fun _ => kk D2 f z p, fun w => ?_⟩)
      rw [g_fx33] at w; omega
    | succ q ih =>
      intro j D2 hq hj f z p hy
      have t6 := (f.tx h).2.2.2.2.1
      refine s_X11_needs_6 (fun _ _ => ⟨g_fx33b, fun w => ?_, fun w => ?_⟩)
      · rw [g_fx33] at w; omega
      · rw [t6]
        refine c_other (ru' := ru) p hm (by omega) (fun D3 f3 p3 => ?_)
        have f3' : x_fpq D D3 := f.trans ⟨fun k _ b => f3 k (by omega) (by omega), fun i _ => by rw [f3 0 (by decide) (by decide)]⟩
        have z3 : D3 0 14 = 0 := by rw [f3 0 (by decide) (by decide)]; exact z
        rw [p3.2.2.2.2.1]
        refine ⟨fun w => ⟨⟨by omega, by omega⟩, ?_⟩, fun w => ?_⟩
        · rw [g_cast1]
          refine ih (j + 1) D3 (by omega) (by omega) f3' z3 (p.oth f3) (fun i hi => ?_)
          by_cases e : i = j
          · subst e; unfold q_ne; rw [decide_eq_false (by omega)]
          · exact hy i (by omega)
        · rw [m_lo_eq (a := j) (by omega) (by unfold q_ne; rw [decide_eq_true (by omega)]) hy, if_pos (by omega)] at kk
          exact kk D3 f3' z3 (p.oth f3)
  exact key _ 0 D1 rfl (Nat.zero_le _) f1 z1 p1 (fun i hi => absurd hi (Nat.not_lt_zero i))
theorem c_X11_sized {K : Int → g_D → Prop} {v : Int} (h : x_tx D o n w m le ch ru B) (eC : m_cs ch le o w n m = (S, c)) (hR : x_plnR D ch le ru B o w n m) (k0 : ¬ (0 ≤ v ∧ v ≤ 20) → K (-3) D) (kk : ∀ D' : g_D, (0 ≤ v ∧ v ≤ 20) → x_fpq D D' → x_pS D' ru B n m S w c → K (m_by c (m_pl S c ru v.toNat)) D') : k_X11_sized E l D v K := by
  have hm := h.2.1.2.1
  refine s_X11_sized (fun _ _ => ⟨fun q => k0 (by omega), fun q => ⟨g_fx33b, fun q2 => ?_, fun q2 => k0 (by rw [g_fx33] at q2; omega)⟩⟩)
  rw [g_fx33] at q2
  refine c_mp h eC hR (fun D1 f1 z1 p1 => ?_)
  rw [(f1.tx h).2.2.2.2.1, show v = ((v.toNat : Nat) : Int) by omega]
  refine c_other (ru' := ru) p1 hm (by omega) (fun D3 f3 p3 => ?_)
  rw [p3.2.1]
  exact kk D3 (by omega) (f1.trans ⟨fun k _ b => f3 k (by omega) (by omega), fun i _ => by rw [f3 0 (by decide) (by decide)]⟩) (p1.oth f3)
theorem c_oth2 {K : g_D → Prop} {r1 r2 n1 m1 : Nat} {o1 w1 : Nat → Int} {ch' : Int} (h : x_tx D o n w m le ch ru B) (hr : (r1 = 2 ∧ r2 = 4) ∨ (r1 = 4 ∧ r2 = 2)) (ho : x_cl D r1 o1 n1) (hw : x_cl D r2 w1 m1) (hc1 : is_Cells g_SH r1 40) (hc2 : is_Cells g_SH r2 40)
    (kk : ∀ D' : g_D, (∀ i, ¬ (156 ≤ i ∧ i ≤ 174) → D' i = D i) → m_inv n1 m1 (m_cs ch' le o1 w1 n1 m1).1 (m_cs ch' le o1 w1 n1 m1).2 → x_plD D' 168 (m_cs ch' le o1 w1 n1 m1).1 (m_cs ch' le o1 w1 n1 m1).2 (m_pl (m_cs ch' le o1 w1 n1 m1).1 (m_cs ch' le o1 w1 n1 m1).2 ru B) → K D') : k_X7_build E l D 156 r1 r2 le ch' (fun D1 => k_X4_build E l D1 168 156 (D1 6 2) (D1 6 3) K) := by
  obtain ⟨_, _, t0, t1, t2, t3, hle, hle2, hB, _⟩ := h
  refine c_X7_build (ch := ch') ip_Script_156 hc1 hc2 ho.2.1 hw.2.1 ho hw (by omega) hle hle2 (fun D1 f1 c1 i1 n1' z1 => ?_)
  have e6 : D1 6 = D 6 := f1.1 6 (by decide)
  rw [e6, t2, t3]
  exact c_X4_build ip_Plan_168 ip_Script_156 (by decide) (i1.cok hw.2.1) hB c1 n1' (fun D2 f2 p2 => kk D2 (fun i hi => by rw [f2 i (by omega) (by omega)]; exact f1.1 i (by omega)) i1 p2)
theorem c_X11_turned {K : Int → g_D → Prop} (h : x_tx D o n w m le ch ru B) (eC : m_cs ch le w o m n = (S, c)) (kk : ∀ D' : g_D, (∀ i, ¬ (156 ≤ i ∧ i ≤ 174) → D' i = D i) → m_inv m n S c → K (m_by c (m_pl S c ru B)) D') : k_X11_turned E l D K := by
  refine s_X11_turned (fun _ => ?_)
  rw [h.2.2.1, h.2.2.2.1]
  refine c_oth2 (ch' := ch) h (Or.inr ⟨rfl, rfl⟩) h.2.1 h.1 ip_Cells_4 ip_Cells_2 (fun D2 f2 i2 p2 => ?_)
  rw [eC] at i2 p2
  rw [p2.2.1]
  exact kk D2 f2 i2
theorem c_X11_best {K : Int → g_D → Prop} {v : Int} (h : x_tx D o n w m le ch ru B) (hR : x_plnR D ch le ru B o w n m) (k0 : ¬ (0 ≤ v ∧ v ≤ 1) → K (-2) D)
    (kk : ∀ D' : g_D, (0 ≤ v ∧ v ≤ 1) → x_fpq D D' → x_pS D' ru B n m (m_cs ch le o w n m).1 w (m_cs ch le o w n m).2 → K (q_b (fun j => if v = 0 then m_by (m_cs ch le o w n m).2 (m_pl (m_cs ch le o w n m).1 (m_cs ch le o w n m).2 (j : Int) B) else m_by (m_cs (j : Int) le o w n m).2 (m_pl (m_cs (j : Int) le o w n m).1 (m_cs (j : Int) le o w n m).2 ru B)) 3).1 D') : k_X11_best E l D v K := by
  have hm := h.2.1.2.1
  have hB := h.2.2.2.2.2.2.2.2.1
  refine s_X11_best (fun _ _ => ⟨fun q => k0 (by omega), fun q => ⟨fun q2 => c_mp h rfl hR (fun D1 f1 z1 p1 => ⟨fun e => ?_, fun e => ?_⟩), fun q2 => k0 (by omega)⟩⟩)
  · simp only [if_neg e] at kk
    refine s_X11_bestChoice (fun _ => ?_)
    generalize hf : (fun j : Nat => m_by (m_cs (j : Int) le o w n m).2 (m_pl (m_cs (j : Int) le o w n m).1 (m_cs (j : Int) le o w n m).2 ru B)) = f at kk
    have hf' : ∀ j : Nat, f j = m_by (m_cs (j : Int) le o w n m).2 (m_pl (m_cs (j : Int) le o w n m).1 (m_cs (j : Int) le o w n m).2 ru B) := fun j => by rw [← hf]
    have key : ∀ (r j : Nat) (D2 : g_D) (v1 v2 : Int), 3 - j = r → j ≤ 3 → x_fpq D D2 → x_pS D2 ru B n m (m_cs ch le o w n m).1 w (m_cs ch le o w n m).2 → (1 ≤ j → v1 = (q_b f j).1 ∧ v2 = (q_b f j).2) → n_X11_bestChoice E l D2 6 [some (g_R 0), some (g_I v1), some (g_I v2), some (g_I j)] (fun x2 D2 => g_r x2 → K x2 D2) := by
      intro r
      induction r with
      | zero =>
        intro j D2 v1 v2 hr hj f2 p2 hv
        obtain rfl : j = 3 := by omega
        refine s_X11_bestChoice_6 (fun _ _ _ _ => ⟨fun _ _ => ?_, fun z => (by omega : False).elim⟩)
        rw [(hv (by omega)).1]
        exact kk D2 (by omega) f2 p2
      | succ r ih =>
        intro j D2 v1 v2 hr hj f2 p2 hv
        have h2 := f2.tx h
        refine s_X11_bestChoice_6 (fun _ _ _ _ => ⟨fun z => (by omega : False).elim, fun _ => ?_⟩)
        rw [h2.2.2.1]
        refine c_oth2 (ch' := (j : Int)) h2 (Or.inl ⟨rfl, rfl⟩) h2.1 h2.2.1 ip_Cells_2 ip_Cells_4 (fun D3 f3 i3 p3 => ?_)
        have f3' : x_fpq D D3 := f2.trans ⟨fun k _ b => f3 k (by omega), fun i _ => by rw [f3 0 (by decide)]⟩
        have hok := i3.cok hm
        have hI := (m_pl_ok (ru := ru) hok hB).1
        have hb := m_by_rng hok hI
        rw [p3.2.1, ← hf' j]
        rw [← hf' j] at hb
        have go := fun v1 v2 hv => ih (j + 1) D3 v1 v2 (by omega) (by omega) f3' (p2.oth (fun i a _ => f3 i a)) hv
        have ej : q_b f (j + 1) = if f j < (q_b f j).2 then ((j : Int), f j) else q_b f j := rfl
        refine ⟨fun z => ⟨⟨by omega, by omega⟩, ?_⟩, fun z => ⟨fun z2 => ⟨⟨by omega, by omega⟩, ?_⟩, fun z2 => ⟨⟨by omega, by omega⟩, ?_⟩⟩⟩
        · rw [g_cast1]
          refine go _ _ (fun _ => ?_)
          rw [ej, if_pos (by rw [show j = 0 by omega, q_b]; dsimp only; rw [show j = 0 by omega] at hb; omega)]
          exact ⟨rfl, rfl⟩
        · rw [g_cast1]
          obtain ⟨w1, w2⟩ := hv (by omega)
          refine go _ _ (fun _ => ?_)
          rw [ej, if_neg (by omega)]
          exact ⟨w1, w2⟩
        · rw [g_cast1]
          obtain ⟨w1, w2⟩ := hv (by omega)
          refine go _ _ (fun _ => ?_)
          rw [ej, if_pos (by omega)]
          exact ⟨rfl, rfl⟩
    exact key _ 0 D1 0 0 rfl (Nat.zero_le _) f1 p1 (fun z => by omega)
  · simp only [if_pos e] at kk
    refine s_X11_bestRule (fun _ => ?_)
    generalize hf : (fun j : Nat => m_by (m_cs ch le o w n m).2 (m_pl (m_cs ch le o w n m).1 (m_cs ch le o w n m).2 (j : Int) B)) = f at kk
    have hf' : ∀ j : Nat, f j = m_by (m_cs ch le o w n m).2 (m_pl (m_cs ch le o w n m).1 (m_cs ch le o w n m).2 (j : Int) B) := fun j => by rw [← hf]
    have key : ∀ (r j : Nat) (D2 : g_D) (v1 v2 : Int), 3 - j = r → j ≤ 3 → x_fpq D D2 → x_pS D2 ru B n m (m_cs ch le o w n m).1 w (m_cs ch le o w n m).2 → (1 ≤ j → v1 = (q_b f j).1 ∧ v2 = (q_b f j).2) → n_X11_bestRule E l D2 6 [some (g_R 0), some (g_I v1), some (g_I v2), some (g_I j)] (fun x2 D2 => g_r x2 → K x2 D2) := by
      intro r
      induction r with
      | zero =>
        intro j D2 v1 v2 hr hj f2 p2 hv
        obtain rfl : j = 3 := by omega
        refine s_X11_bestRule_6 (fun _ _ _ _ => ⟨fun _ _ => ?_, fun z => (by omega : False).elim⟩)
        rw [(hv (by omega)).1]
        exact kk D2 (by omega) f2 p2
      | succ r ih =>
        intro j D2 v1 v2 hr hj f2 p2 hv
        have h2 := f2.tx h
        refine s_X11_bestRule_6 (fun _ _ _ _ => ⟨fun z => (by omega : False).elim, fun _ => ?_⟩)
        rw [h2.2.2.2.2.2.1]
        refine c_other (ru' := (j : Int)) p2 hm hB (fun D3 f3 p3 => ?_)
        have f3' : x_fpq D D3 := f2.trans ⟨fun k _ b => f3 k (by omega) (by omega), fun i _ => by rw [f3 0 (by decide) (by decide)]⟩
        have hok := p2.cok hm
        have hI := (m_pl_ok (ru := (j : Int)) hok hB).1
        have hb := m_by_rng hok hI
        rw [p3.2.1, ← hf' j]
        rw [← hf' j] at hb
        have go := fun v1 v2 hv => ih (j + 1) D3 v1 v2 (by omega) (by omega) f3' (p2.oth f3) hv
        have ej : q_b f (j + 1) = if f j < (q_b f j).2 then ((j : Int), f j) else q_b f j := rfl
        refine ⟨fun z => ⟨⟨by omega, by omega⟩, ?_⟩, fun z => ⟨fun z2 => ⟨⟨by omega, by omega⟩, ?_⟩, fun z2 => ⟨⟨by omega, by omega⟩, ?_⟩⟩⟩
        · rw [g_cast1]
          refine go _ _ (fun _ => ?_)
          rw [ej, if_pos (by rw [show j = 0 by omega, q_b]; dsimp only; rw [show j = 0 by omega] at hb; omega)]
          exact ⟨rfl, rfl⟩
        · rw [g_cast1]
          obtain ⟨w1, w2⟩ := hv (by omega)
          refine go _ _ (fun _ => ?_)
          rw [ej, if_neg (by omega)]
          exact ⟨w1, w2⟩
        · rw [g_cast1]
          obtain ⟨w1, w2⟩ := hv (by omega)
          refine go _ _ (fun _ => ?_)
          rw [ej, if_pos (by omega)]
          exact ⟨rfl, rfl⟩
    exact key _ 0 D1 0 0 rfl (Nat.zero_le _) f1 p1 (fun z => by omega)
end NEEDX
end
