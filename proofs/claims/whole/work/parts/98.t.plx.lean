section
/-! the calls of the plan in the class -/
/-- nothing but plan, paper and their mark -/
def x_fpq (D D' : g_D) : Prop := (∀ k, k ≠ 0 → ¬ (137 ≤ k ∧ k ≤ 174) → D' k = D k) ∧ ∀ j, j ≠ 14 → D' 0 j = D 0 j
theorem x_fpq.refl (D : g_D) : x_fpq D D := ⟨fun _ _ _ => rfl, fun _ _ => rfl⟩
theorem x_fpq.trans {D D' D'' : g_D} (h : x_fpq D D') (h2 : x_fpq D' D'') : x_fpq D D'' := ⟨fun k a b => (h2.1 k a b).trans (h.1 k a b), fun j a => (h2.2 j a).trans (h.2 j a)⟩
theorem x_fpl.fpq {D D' : g_D} (h : x_fpl D D') : x_fpq D D' := ⟨fun k a b => h.1 k a (by omega), h.2⟩
/-- the class's plan, by its commands -/
def x_pS (D : g_D) (ru : Int) (B n m S : Nat) (w : Nat → Int) (c : Nat → Nat → Int) : Prop :=
  x_cmd D 137 S c ∧ m_inv n m S c ∧ x_nx D 137 S c ∧ (¬ D 143 4 = 0 → x_wgd D 143 S c) ∧ x_plD D 149 S c (m_pl S c ru B) ∧ x_byD D 149 (m_pN c (m_pl S c ru B)) (m_pBy c w m (m_pl S c ru B))
theorem x_pS_iff {D : g_D} {o w : Nat → Int} {n m le B S : Nat} {ch ru : Int} {c : Nat → Nat → Int} (eC : m_cs ch le o w n m = (S, c)) : x_pln D ch le ru B o w n m ↔ x_pS D ru B n m S w c := by unfold x_pln m_plan x_pS; rw [eC]
theorem x_pS.fr {D D' : g_D} {w : Nat → Int} {n m B S : Nat} {ru : Int} {c : Nat → Nat → Int} (h : x_pS D ru B n m S w c) (e : ∀ i, 137 ≤ i → i ≤ 155 → ¬ (143 ≤ i ∧ i ≤ 146) → D' i = D i) (e2 : ∀ j, 4 ≤ j → j ≤ 8 → D' 143 j = D 143 j) : x_pS D' ru B n m S w c := by
  unfold x_pS x_cmd x_nx x_wgd x_plD x_plA x_plH x_byD at *
  rw [e 137 (by omega) (by omega) (by omega), e (137 + 1) (by omega) (by omega) (by omega), e (137 + 2) (by omega) (by omega) (by omega), e (137 + 3) (by omega) (by omega) (by omega), e (137 + 4) (by omega) (by omega) (by omega), e (137 + 5) (by omega) (by omega) (by omega), e2 4 (by omega) (by omega), e2 5 (by omega) (by omega), e2 6 (by omega) (by omega), e2 7 (by omega) (by omega), e2 8 (by omega) (by omega), e 149 (by omega) (by omega) (by omega), e (149 + 1) (by omega) (by omega) (by omega), e (149 + 2) (by omega) (by omega) (by omega), e (149 + 3) (by omega) (by omega) (by omega), e (149 + 4) (by omega) (by omega) (by omega), e (149 + 5) (by omega) (by omega) (by omega), e (149 + 6) (by omega) (by omega) (by omega)]
  exact h
/-- what the class has of images and terms -/
def x_tx (D : g_D) (o : Nat → Int) (n : Nat) (w : Nat → Int) (m le : Nat) (ch ru : Int) (B : Nat) : Prop := x_cl D 2 o n ∧ x_cl D 4 w m ∧ x_trm D 6 le ch ru B
theorem x_fpq.tx {D D' : g_D} {o w : Nat → Int} {n m le B : Nat} {ch ru : Int} (f : x_fpq D D') (h : x_tx D o n w m le ch ru B) : x_tx D' o n w m le ch ru B := by
  unfold x_tx x_cl x_trm at *
  rw [f.1 2 (by decide) (by decide), f.1 (2 + 1) (by decide) (by decide), f.1 4 (by decide) (by decide), f.1 (4 + 1) (by decide) (by decide), f.1 6 (by decide) (by decide)]
  exact h
section PLX
variable {E : g_E} {l : Launch} {sh : List g_Sh} {D : g_D} {o w : Nat → Int} {n m le B S : Nat} {ch ru : Int} {c : Nat → Nat → Int}
theorem c_mp {K : g_D → Prop} (h : x_tx D o n w m le ch ru B) (eC : m_cs ch le o w n m = (S, c)) (hR : x_plnR D ch le ru B o w n m)
    (kk : ∀ D' : g_D, x_fpq D D' → D' 0 14 = 0 → x_pS D' ru B n m S w c → K D') : k_X11_makePlan E l D K :=
  c_X11_makePlan h.1 h.2.1 h.2.2 hR (fun D' f z p => kk D' f.fpq z ((x_pS_iff eC).mp p))
theorem x_pS.cok (h : x_pS D ru B n m S w c) (hm : m ≤ 40) : m_cok S c := h.2.1.cok hm
theorem c_has {K : Int → g_D → Prop} {v : Int} (h : D 137 8 = S) (k1 : 0 ≤ v ∧ v < S → K 1 D) (k0 : ¬ (0 ≤ v ∧ v < S) → K 0 D) : k_X7_has E l D 137 v K :=
  s_X7_has ip_Script_137 (fun _ _ => ⟨fun q => k0 (by omega), fun q => ⟨fun q2 => k0 (by omega), fun q2 => k1 (by omega)⟩⟩)
theorem c_X11_commands {K : Int → g_D → Prop} (h : x_tx D o n w m le ch ru B) (eC : m_cs ch le o w n m = (S, c)) (hR : x_plnR D ch le ru B o w n m) (kk : ∀ D' : g_D, x_fpq D D' → x_pS D' ru B n m S w c → K S D') : k_X11_commands E l D K :=
  s_X11_commands (fun _ => c_mp h eC hR (fun D1 f1 _ p1 => by rw [p1.1.1]; exact kk D1 f1 p1))
theorem c_X11_command {K : Int → g_D → Prop} {k v : Int} (h : x_tx D o n w m le ch ru B) (eC : m_cs ch le o w n m = (S, c)) (hR : x_plnR D ch le ru B o w n m) (kk : ∀ D' : g_D, x_fpq D D' → x_pS D' ru B n m S w c → K (A_command S c (m_pl S c ru B) k v) D') : k_X11_command E l D k v K := by
  refine s_X11_command (fun _ _ _ => c_mp h eC hR (fun D1 f1 _ p1 => ?_))
  have kk := kk D1 f1 p1
  unfold A_command at kk
  have hs := (p1.cok h.2.1.2.1).1
  refine c_has p1.1.1 (fun z _ => ⟨fun _ => ?_, fun q => absurd q (by decide)⟩) (fun z _ => ⟨fun q => absurd rfl q, fun _ => ?_⟩)
  · obtain ⟨q1, q2, q3, q4⟩ := p1.1.2 k.toNat (by omega)
    refine ⟨fun e => ⟨by omega, ?_⟩, fun e => ⟨by omega, ?_⟩, fun e => ⟨by omega, ?_⟩, fun e => ⟨by omega, ?_⟩, fun e => ?_, fun e => ?_⟩
    · rw [if_pos (by omega), if_pos e] at kk; rw [q1]; exact kk
    · rw [if_pos (by omega), if_neg (by omega), if_pos e] at kk; rw [q2]; exact kk
    · rw [if_pos (by omega), if_neg (by omega), if_neg (by omega), if_pos e] at kk; rw [q3]; exact kk
    · rw [if_pos (by omega), if_neg (by omega), if_neg (by omega), if_neg (by omega), if_pos e] at kk; rw [q4]; exact kk
    · rw [if_pos (by omega), if_neg (by omega), if_neg (by omega), if_neg (by omega), if_neg (by omega)] at kk
      obtain ⟨a, rfl⟩ : ∃ a : Nat, k = a := ⟨k.toNat, by omega⟩
      rw [Int.toNat_natCast] at kk
      have hp := p1.2.2.2.2.1
      exact c_X4_fateOf (p := m_pl S c ru B) ip_Plan_149 (by omega) hp.2.2.2.1 hp.2.2.2.2.1 (fun _ => kk)
    · rw [if_neg (by omega)] at kk; exact kk
  · rw [if_neg (by omega)] at kk; exact kk
theorem c_X11_ahead {K : Int → g_D → Prop} {a b : Int} (h : x_tx D o n w m le ch ru B) (eC : m_cs ch le o w n m = (S, c)) (hR : x_plnR D ch le ru B o w n m) (kk : ∀ D' : g_D, x_fpq D D' → x_pS D' ru B n m S w c → K (A_ahead S c a b) D') : k_X11_ahead E l D a b K := by
  refine s_X11_ahead (fun _ _ _ => c_mp h eC hR (fun D1 f1 _ p1 => ?_))
  have kk := kk D1 f1 p1
  unfold A_ahead at kk
  have hs := (p1.cok h.2.1.2.1).1
  refine c_has p1.1.1 (fun z _ => ⟨fun q => absurd q (by decide), fun _ => c_has p1.1.1 (fun y _ => ⟨fun q => absurd q (by decide), fun _ => ⟨fun q => ⟨by omega, ?_⟩, fun q => ?_⟩⟩) (fun y _ => ⟨fun _ => ?_, fun q => absurd rfl q⟩)⟩) (fun z _ => ⟨fun _ => ?_, fun q => absurd rfl q⟩)
  · rw [if_pos (by omega)] at kk
    obtain ⟨x, rfl⟩ : ∃ x : Nat, a = x := ⟨a.toNat, by omega⟩
    obtain ⟨y', rfl⟩ : ∃ x : Nat, b = x := ⟨b.toNat, by omega⟩
    rw [Int.toNat_natCast, Int.toNat_natCast] at kk
    have hn := p1.2.2.1 x (by omega)
    rw [Int.toNat_natCast, show D1 142 x = (m_nx c S x : Nat) from hn]
    refine c_hasBit (m_lt20 (m_nx_lt hs)) (by omega) (fun _ => ?_)
    rw [m_nx_bit, decide_eq_true (show x < S by omega), decide_eq_true (show y' < S by omega), Bool.true_and, Bool.true_and]
    cases e : m_ah c x y'
    · rw [e] at kk; exact ⟨fun _ => kk, fun q => absurd rfl q⟩
    · rw [e] at kk; exact ⟨fun q => absurd q (by decide), fun _ => kk⟩
  · rw [if_neg (by omega)] at kk; exact kk
  · rw [if_neg (by omega)] at kk; exact kk
  · rw [if_neg (by omega)] at kk; exact kk
theorem m_ringed_eq (hs : S ≤ 20) : m_bits (m_rgb S c (m_bits (fun i => decide (c i 0 = 1)) S).testBit) 20 = m_bits (m_rgb S c (m_cp c)) S := by
  have e0 : m_rgb S c (m_bits (fun i => decide (c i 0 = 1)) S).testBit = m_rgb S c (m_cp c) := by
    funext b
    exact m_rgb_congr (fun x hx => by rw [m_bits_bit, decide_eq_true hx, Bool.true_and]; rfl) b
  rw [e0]
  refine Nat.eq_of_testBit_eq (fun i => ?_)
  rw [m_bits_bit, m_bits_bit]
  by_cases q : i < S
  · rw [decide_eq_true q, decide_eq_true (show i < 20 by omega)]
  · rw [decide_eq_false q, Bool.false_and]
    cases e : m_rgb S c (m_cp c) i
    · rw [Bool.and_false]
    · exact absurd (m_rgb_iff.mp e).al.1 q
theorem c_X11_ringed {K : Int → g_D → Prop} (h : x_tx D o n w m le ch ru B) (eC : m_cs ch le o w n m = (S, c)) (hR : x_plnR D ch le ru B o w n m) (kk : ∀ D' : g_D, x_fpq D D' → x_pS D' ru B n m S w c → K ((m_bits (m_rgb S c (m_cp c)) S : Nat) : Int) D') : k_X11_ringed E l D K := by
  refine s_X11_ringed (fun _ => c_mp h eC hR (fun D1 f1 _ p1 => ?_))
  have hs := (p1.cok h.2.1.2.1).1
  refine c_X7_movers ip_Script_137 hs p1.1 (fun _ => c_X6_members (s := S) (c := c) ip_Rings_143 sh_142 (by decide) hs (m_b20 hs) p1.2.2.1 (fun D2 f2 _ => ?_))
  rw [m_ringed_eq hs]
  exact kk D2 (f1.trans ⟨fun k _ b => f2 k (by omega), fun j _ => by rw [f2 0 (by decide)]⟩) (p1.fr (fun i _ _ q => f2 i (by omega)) (fun j _ _ => by rw [f2 143 (by decide)]))
theorem c_X11_ring {K : Int → g_D → Prop} {k v : Int} (h : x_tx D o n w m le ch ru B) (eC : m_cs ch le o w n m = (S, c)) (hR : x_plnR D ch le ru B o w n m)
    (k2 : ¬ (0 ≤ k ∧ k < S) → ∀ D' : g_D, x_fpq D D' → x_pS D' ru B n m S w c → K (-2) D') (k3 : (0 ≤ k ∧ k < S) → ¬ -1 ≤ v → ∀ D' : g_D, x_fpq D D' → x_pS D' ru B n m S w c → K (-3) D') (kk : ∀ (D' : g_D) (ans : Int), (0 ≤ k ∧ k < S) → -1 ≤ v → x_fpq D D' → x_pS D' ru B n m S w c → m_ringA S c k.toNat v ans → K ans D') : k_X11_ring E l D k v K := by
  refine s_X11_ring (fun _ _ _ => c_mp h eC hR (fun D1 f1 _ p1 => ?_))
  have hs := (p1.cok h.2.1.2.1).1
  refine c_has p1.1.1 (fun z _ => ⟨fun _ => ⟨fun q => ?_, fun q => k3 z q D1 f1 p1⟩, fun q => absurd q (by decide)⟩) (fun z _ => ⟨fun q => absurd rfl q, fun _ => k2 z D1 f1 p1⟩)
  obtain ⟨a, rfl⟩ : ∃ a : Nat, k = a := ⟨k.toNat, by omega⟩
  rw [Int.toNat_natCast] at kk
  refine c_X6_findShortest (s := S) (c := c) ip_Rings_143 sh_142 (by decide) hs (by omega) p1.2.2.1 (fun D2 f2 hr => ?_)
  have f2' : x_fpq D D2 := f1.trans ⟨fun k a b => f2.1 k (by omega) (by omega) (by omega), fun j _ => by rw [f2.1 0 (by decide) (by decide) (by decide)]⟩
  have p2 : x_pS D2 ru B n m S w c := p1.fr (fun i _ _ q => f2.1 i (by omega) (by omega) (by omega)) (fun j _ _ => f2.2 j (by omega))
  have fin : ∀ ans, m_ringA S c a v ans → K ans D2 := fun ans hr => kk D2 ans z q f2' p2 hr
  rcases hr with ⟨e, hno⟩ | ⟨M, hM, e, hd, hrow⟩
  · rw [e]
    exact ⟨fun q => absurd rfl q, fun _ => fin (-1) (Or.inl ⟨hno, rfl⟩)⟩
  · have h1 := hd.1
    rw [e]
    refine ⟨fun _ => ⟨fun q1 => ⟨fun q2 => fin (-1) (Or.inr ⟨M, hd, Or.inr (Or.inl ⟨q2, rfl⟩)⟩), fun q2 => ⟨by omega, ?_⟩⟩, fun q1 => fin M (Or.inr ⟨M, hd, Or.inl ⟨q1, rfl⟩⟩)⟩, fun q1 => (by omega : False).elim⟩
    obtain ⟨x, x1, x2⟩ := hrow v.toNat (by omega)
    rw [show D2 146 v.toNat = (x : Nat) from x1]
    exact fin x (Or.inr ⟨M, hd, Or.inr (Or.inr ⟨by omega, by omega, x, rfl, x2⟩)⟩)
theorem c_X11_fewest {K : Int → g_D → Prop} {v : Int} (h : x_tx D o n w m le ch ru B) (eC : m_cs ch le o w n m = (S, c)) (hR : x_plnR D ch le ru B o w n m) (k0 : ¬ (0 ≤ v ∧ v ≤ 3) → K (-2) D) (kk : ∀ D' : g_D, (0 ≤ v ∧ v ≤ 3) → x_fpq D D' → x_pS D' ru B n m S w c → K (a_few S c v) D') : k_X11_fewest E l D v K := by
  refine s_X11_fewest (fun _ _ => ⟨fun q => k0 (by omega), fun q => ⟨fun q2 => c_mp h eC hR (fun D1 f1 _ p1 => ?_), fun q2 => k0 (by omega)⟩⟩)
  have hok := p1.cok h.2.1.2.1
  have hs := hok.1
  refine c_X6_weigh ip_Rings_143 ip_Script_137 rfl hs p1.1 hok.len p1.2.2.1 p1.2.2.2.1 (fun D2 f2 z2 w2 => ?_)
  have f2' : x_fpq D D2 := f1.trans ⟨fun k a b => f2 k (by omega) (by omega), fun j _ => by rw [f2 0 (by decide) (by decide)]⟩
  have p2 : x_pS D2 ru B n m S w c := by
    obtain ⟨a1, a2, a3, a4, a5, a6⟩ := p1
    refine ⟨?_, a2, ?_, fun _ => w2, ?_, ?_⟩
    · unfold x_cmd at *; rw [f2 137 (by decide) (by decide), f2 (137 + 1) (by decide) (by decide), f2 (137 + 2) (by decide) (by decide), f2 (137 + 3) (by decide) (by decide), f2 (137 + 4) (by decide) (by decide)]; exact a1
    · unfold x_nx at *; rw [f2 (137 + 5) (by decide) (by decide)]; exact a3
    · unfold x_plD x_plA x_plH at *; rw [f2 149 (by decide) (by decide), f2 (149 + 1) (by decide) (by decide), f2 (149 + 2) (by decide) (by decide), f2 (149 + 3) (by decide) (by decide), f2 (149 + 4) (by decide) (by decide)]; exact a5
    · unfold x_byD at *; rw [f2 (149 + 5) (by decide) (by decide), f2 (149 + 6) (by decide) (by decide)]; exact a6
  have kk := kk D2 (by omega) f2' p2
  obtain ⟨w5, w6, w7, w8⟩ := w2
  unfold a_few at kk
  have e01 : m_fA S c 1 = m_fA S c 0 := by unfold m_fA m_W; rfl
  have e23 : m_fA S c 3 = m_fA S c 2 := by unfold m_fA m_W; rfl
  refine ⟨fun e => ?_, fun e => ?_, fun e => ?_, fun e => ?_⟩
  · rw [if_pos (by omega), e] at kk; rw [w5]; exact kk
  · rw [if_neg (by omega), e, e01] at kk; rw [w6]; exact kk
  · rw [if_pos (by omega), e] at kk; rw [w7]; exact kk
  · rw [if_neg (by omega), show v = 3 by omega, e23] at kk; rw [w8]; exact kk
theorem c_X11_acts {K : Int → g_D → Prop} (h : x_tx D o n w m le ch ru B) (eC : m_cs ch le o w n m = (S, c)) (hR : x_plnR D ch le ru B o w n m) (kk : ∀ D' : g_D, x_fpq D D' → x_pS D' ru B n m S w c → K (p_n (m_pl S c ru B) : Nat) D') : k_X11_acts E l D K :=
  s_X11_acts (fun _ => c_mp h eC hR (fun D1 f1 _ p1 => by rw [p1.2.2.2.2.1.1]; exact kk D1 f1 p1))
theorem c_X11_act {K : Int → g_D → Prop} {i v : Int} (h : x_tx D o n w m le ch ru B) (eC : m_cs ch le o w n m = (S, c)) (hR : x_plnR D ch le ru B o w n m) (kk : ∀ D' : g_D, x_fpq D D' → x_pS D' ru B n m S w c → K (A_act (m_pl S c ru B) i v) D') : k_X11_act E l D i v K := by
  refine s_X11_act (fun _ _ _ => c_mp h eC hR (fun D1 f1 _ p1 => ?_))
  have kk := kk D1 f1 p1
  have hok := p1.cok h.2.1.2.1
  have hI := (m_pl_ok (ru := ru) hok h.2.2.2.2.2.2.2.2.1).1
  have hp := p1.2.2.2.2.1
  generalize m_pl S c ru B = p at *
  have hn : p_n p ≤ 30 := by have := hI.2.2.2.2.2.2.1; omega
  unfold A_act at kk
  rw [hp.1]
  refine ⟨fun q => ?_, fun q => ⟨fun q2 => ?_, fun q2 => ?_⟩⟩
  · rw [if_neg (by omega)] at kk; exact kk
  · obtain ⟨d1, d2, d3⟩ := hp.2.2.2.2.2.2.2.1 i.toNat (by omega)
    refine ⟨fun e => ⟨by omega, ?_⟩, fun e => ⟨by omega, ?_⟩, fun e => ⟨by omega, ?_⟩, fun e => ?_⟩
    · rw [if_pos (by omega), if_pos e] at kk; rw [show D1 150 i.toNat = _ from d1]; exact kk
    · rw [if_pos (by omega), if_neg (by omega), if_pos e] at kk; rw [show D1 151 i.toNat = _ from d2]; exact kk
    · rw [if_pos (by omega), if_neg (by omega), if_neg (by omega)] at kk; rw [show D1 152 i.toNat = _ from d3]; exact kk
    · rw [if_neg (by omega)] at kk; exact kk
  · rw [if_neg (by omega)] at kk; exact kk
theorem m_cnt_20 {f : Nat → Bool} (hs : S ≤ 20) (hf : ∀ k, f k = true → k < S) : m_cnt f 20 = m_cnt f S := m_cnt_ext hs (fun i hi => by
  cases e : f i
  · rfl
  · have := hf i e; omega)
theorem c_X11_plan {K : Int → g_D → Prop} {v : Int} (h : x_tx D o n w m le ch ru B) (eC : m_cs ch le o w n m = (S, c)) (hR : x_plnR D ch le ru B o w n m) (kk : ∀ D' : g_D, x_fpq D D' → x_pS D' ru B n m S w c → K (A_plan S c (m_pl S c ru B) v) D') : k_X11_plan E l D v K := by
  refine s_X11_plan (fun _ _ => c_mp h eC hR (fun D1 f1 _ p1 => ?_))
  have kk := kk D1 f1 p1
  have hok := p1.cok h.2.1.2.1
  have hI := (m_pl_ok (ru := ru) hok h.2.2.2.2.2.2.2.2.1).1
  have hp := p1.2.2.2.2.1
  generalize m_pl S c ru B = p at *
  unfold A_plan at kk
  refine ⟨fun e => ?_, fun e => ?_, fun e => ?_, fun e => ?_, fun e => ?_⟩
  · rw [if_pos e] at kk
    rw [hp.2.2.2.1]
    refine c_bitCount (m_lt20 (m_b20 (Nat.le_refl _))) (fun _ => ?_)
    rw [m_cnt_b20, m_cnt_20 hok.1 (fun k hk => (hI.2.1 k hk).1)]; exact kk
  · rw [if_neg (by omega), if_pos e] at kk
    rw [hp.2.2.2.2.1]
    refine c_bitCount (m_lt20 (m_b20 (Nat.le_refl _))) (fun _ => ?_)
    rw [m_cnt_b20, m_cnt_20 hok.1 (fun k hk => (hI.2.2.1 k hk).1)]; exact kk
  · rw [if_neg (by omega), if_neg (by omega), if_pos e] at kk
    rw [hp.2.2.2.2.2.2.1]; exact kk
  · rw [if_neg (by omega), if_neg (by omega), if_neg (by omega), if_pos e] at kk
    rw [hp.2.1]; exact kk
  · rw [if_neg (by omega), if_neg (by omega), if_neg (by omega), if_neg (by omega)] at kk; exact kk
theorem c_X11_patch {K : Int → g_D → Prop} {i : Int} (h : x_tx D o n w m le ch ru B) (eC : m_cs ch le o w n m = (S, c)) (hR : x_plnR D ch le ru B o w n m) (kk : ∀ D' : g_D, x_fpq D D' → x_pS D' ru B n m S w c → K (A_patch c w m (m_pl S c ru B) i) D') : k_X11_patch E l D i K := by
  refine s_X11_patch (fun _ _ => c_mp h eC hR (fun D1 f1 _ p1 => ?_))
  have kk := kk D1 f1 p1
  have hok := p1.cok h.2.1.2.1
  have hI := (m_pl_ok (ru := ru) hok h.2.2.2.2.2.2.2.2.1).1
  have hle : m_pN c (m_pl S c ru B) ≤ 141 := (m_of_le hok hI).1
  have hb := p1.2.2.2.2.2
  exact c_X0_at (c := m_pBy c w m (m_pl S c ru B)) ip_Cells_154 hb.1 (by omega) hb.2 (fun _ => kk)
end PLX
end
