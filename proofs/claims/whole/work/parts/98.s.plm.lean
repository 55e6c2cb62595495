section
/-! the calls of the plan: what they answer -/
def m_tx (D : g_D) (o : Nat → Int) (n : Nat) (w : Nat → Int) (m le : Nat) (ch ru : Int) (B : Nat) : Prop := m_img D o n w m ∧ D 209 2 = le ∧ D 209 3 = ch ∧ D 209 4 = ru ∧ D 209 5 = B ∧ 3 ≤ le ∧ le ≤ 8 ∧ B ≤ 20
/-- nothing but the model's paper of plans -/
def m_fpp (D D' : g_D) : Prop := (∀ k, k ≠ 208 → ¬ (216 ≤ k ∧ k ≤ 231) → D' k = D k) ∧ ∀ j, j ≠ 0 → j ≠ 14 → ¬ (26 ≤ j ∧ j ≤ 30) → D' 208 j = D 208 j
theorem m_fpp.refl (D : g_D) : m_fpp D D := ⟨fun _ _ _ => rfl, fun _ _ _ _ => rfl⟩
theorem m_fpp.trans {D D' D'' : g_D} (h : m_fpp D D') (h2 : m_fpp D' D'') : m_fpp D D'' := ⟨fun k a b => (h2.1 k a b).trans (h.1 k a b), fun j a b c => (h2.2 j a b c).trans (h.2 j a b c)⟩
theorem m_fr.refl (D : g_D) : m_fr D D := ⟨fun _ _ => rfl, fun _ _ => rfl⟩
theorem m_fr.trans {D D' D'' : g_D} (h : m_fr D D') (h2 : m_fr D' D'') : m_fr D D'' := ⟨fun k a => (h2.1 k a).trans (h.1 k a), fun j a => (h2.2 j a).trans (h.2 j a)⟩
theorem m_fpp.fr {D D' : g_D} (h : m_fpp D D') : m_fr D D' := ⟨fun k a => h.1 k (by omega) (by omega), fun j a => h.2 j (by omega) (by omega) (by omega)⟩
theorem m_fc.fpp {D D' : g_D} (h : m_fc D D') : m_fpp D D' := ⟨fun k a b => h.1 k a (by omega), fun j _ b _ => h.2 j b⟩
theorem m_fp.fpp {D D' : g_D} (h : m_fp D D') : m_fpp D D' := ⟨fun k a b => h.1 k a (by omega) (by omega), fun j _ _ c => h.2 j (by omega) (by omega) (by omega) (by omega)⟩
theorem m_fb.fpp {D D' : g_D} (h : m_fb D D') : m_fpp D D' := ⟨fun k a b => h.1 k a (by omega), fun j _ _ c => h.2 j (by omega)⟩
theorem m_fg.fpp {D D' : g_D} (h : m_fg D D') : m_fpp D D' := ⟨fun k a b => h k (by omega), fun j _ _ _ => by rw [h 208 (by decide)]⟩
theorem m_fpp.up0 {D : g_D} {v : Int} : m_fpp D (g_up D 208 0 v) := ⟨fun k a _ => by rw [g_up_ne a], fun j a _ _ => by rw [g_up_at a]⟩
theorem m_fpp.tx {D D' : g_D} {o w : Nat → Int} {n m le B : Nat} {ch ru : Int} (f : m_fpp D D') (h : m_tx D o n w m le ch ru B) : m_tx D' o n w m le ch ru B := by unfold m_tx m_img at *; rw [f.1 209 (by decide) (by decide)]; exact h
def A_fate (p : m_P) (k : Nat) : Int := if p_v p k = true then 1 else if p_t p k = true then 2 else 0
def A_command (S : Nat) (c : Nat → Nat → Int) (p : m_P) (k v : Int) : Int := if 0 ≤ k ∧ k < S ∧ 0 ≤ v ∧ v ≤ 4 then (if v = 0 then c k.toNat 0 else if v = 1 then c k.toNat 1 else if v = 2 then c k.toNat 2 else if v = 3 then c k.toNat 3 else A_fate p k.toNat) else -2
def A_ahead (S : Nat) (c : Nat → Nat → Int) (a b : Int) : Int := if 0 ≤ a ∧ a < S ∧ 0 ≤ b ∧ b < S ∧ ¬ a = b then g_b (m_ah c a.toNat b.toNat) else -2
def A_act (p : m_P) (i v : Int) : Int := if 0 ≤ i ∧ i < p_n p ∧ 0 ≤ v ∧ v ≤ 2 then (if v = 0 then (p_a p i.toNat : Nat) else if v = 1 then (p_o p i.toNat : Nat) else m_pa p i.toNat) else -2
def A_plan (S : Nat) (c : Nat → Nat → Int) (p : m_P) (v : Int) : Int := if v = 0 then (m_cnt (p_v p) S : Nat) else if v = 1 then (m_cnt (p_t p) S : Nat) else if v = 2 then (p_m p : Nat) else if v = 3 then m_by c p else -2
def A_patch (c : Nat → Nat → Int) (w : Nat → Int) (m : Nat) (p : m_P) (i : Int) : Int := if 0 ≤ i ∧ i < m_pN c p then m_pBy c w m p i.toNat else -1
section PLM
variable {E : g_E} {l : Launch} {sh : List g_Sh} {D : g_D} {o w : Nat → Int} {n m le B S : Nat} {ch ru : Int} {c : Nat → Nat → Int}
theorem c_lc {K : g_D → Prop} (h : m_tx D o n w m le ch ru B) (eC : m_cs ch le o w n m = (S, c))
    (kk : ∀ D' : g_D, m_fpp D D' → m_cmd D' S c → m_inv n m S c → m_ahd D' S c → K D') : k_X12_laysCommands E l D K := by
  obtain ⟨hM, h2, h3, h4, h5, hle, hle2, hB⟩ := h
  refine c_X12_laysCommands hM h2 h3 hle hle2 (fun D1 f1 c1 i1 a1 => ?_)
  rw [eC] at c1 i1 a1
  exact kk D1 f1.fpp c1 i1 a1
theorem c_lp {K : g_D → Prop} (h : m_tx D o n w m le ch ru B) (hc : m_cmd D S c) (hi : m_inv n m S c) (hA : m_ahd D S c)
    (kk : ∀ D' : g_D, m_fpp D D' → m_cmd D' S c → m_ahd D' S c → m_plD D' S (m_pl S c ru B) → m_byD D' (m_pN c (m_pl S c ru B)) (m_pBy c w m (m_pl S c ru B)) → K D') : k_X12_laysPlan E l D K := by
  obtain ⟨hM, h2, h3, h4, h5, hle, hle2, hB⟩ := h
  have hm := hM.2.2.2.1
  have hok := hi.cok hm
  refine c_X12_laysPlanA hok hB h5 h4 hc hA (fun D1 f1 p1 => ?_)
  have e9 := f1.r209
  refine c_X12_laysBytes (n := n) (m := m) (w := w) hm (by rw [e9]; exact hM.2.2.1) hi (f1.cmd hc) p1 (m_pl_ok hok hB).1 (fun i hi' => by rw [e9]; exact hM.2.2.2.2.2 i hi') (fun D2 f2 b2 => kk D2 (f1.fpp.trans f2.fpp) ?_ ?_ ?_ b2)
  · have := f1.cmd hc
    unfold m_cmd at *; rw [f2.2 14 (by decide), f2.1 216 (by decide) (by decide), f2.1 217 (by decide) (by decide), f2.1 218 (by decide) (by decide), f2.1 219 (by decide) (by decide)]; exact this
  · have := f1.ahd hA
    unfold m_ahd at *; rw [f2.1 220 (by decide) (by decide)]; exact this
  · unfold m_plD m_plB m_plK m_plH m_plA at *
    rw [f2.1 224 (by decide) (by decide), f2.1 225 (by decide) (by decide), f2.1 226 (by decide) (by decide), f2.1 227 (by decide) (by decide), f2.1 228 (by decide) (by decide), f2.1 229 (by decide) (by decide), f2.1 230 (by decide) (by decide), f2.2 26 (by decide), f2.2 28 (by decide), f2.2 29 (by decide), f2.2 30 (by decide)]
    exact p1
theorem c_la {K : g_D → Prop} (h : m_tx D o n w m le ch ru B) (eC : m_cs ch le o w n m = (S, c))
    (kk : ∀ D' : g_D, m_fpp D D' → m_inv n m S c → m_cmd D' S c → m_ahd D' S c → m_plD D' S (m_pl S c ru B) → m_byD D' (m_pN c (m_pl S c ru B)) (m_pBy c w m (m_pl S c ru B)) → K D') : k_X12_laysAll E l D K :=
  s_X12_laysAll (fun _ => c_lc h eC (fun _ f1 c1 i1 a1 => c_lp (f1.tx h) c1 i1 a1 (fun D2 f2 c2 a2 p2 b2 => kk D2 (f1.trans f2) i1 c2 a2 p2 b2)))
theorem c_isC {K : Int → g_D → Prop} {v : Int} (hs : S ≤ 20) (hc : D 208 14 = S) (k1 : 0 ≤ v ∧ v < S → K 1 D) (k0 : ¬ (0 ≤ v ∧ v < S) → K 0 D) : k_X12_isCommand E l D v K := by
  refine s_X12_isCommand (fun _ _ => ?_)
  rw [hc]
  exact ⟨⟨by omega, by omega⟩, c_X12_within ⟨fun z _ => ⟨Or.inr rfl, k1 (by omega)⟩, fun z _ => ⟨Or.inl rfl, k0 (by omega)⟩⟩⟩
theorem c_X12_commands {K : Int → g_D → Prop} (h : m_tx D o n w m le ch ru B) (eC : m_cs ch le o w n m = (S, c)) (kk : ∀ D' : g_D, m_fr D D' → K S D') : k_X12_commands E l D K := by
  refine s_X12_commands (fun _ D1 e1 => c_lc (ru := ru) (B := B) (by rw [e1]; exact m_fpp.up0.tx h) eC (fun D2 f2 c2 _ _ => ?_))
  rw [c2.1]
  exact kk D2 (by rw [e1] at f2; exact (m_fpp.up0.trans f2).fr)
theorem c_X12_command {K : Int → g_D → Prop} {k v : Int} (h : m_tx D o n w m le ch ru B) (eC : m_cs ch le o w n m = (S, c)) (kk : ∀ D' : g_D, m_fr D D' → K (A_command S c (m_pl S c ru B) k v) D') : k_X12_command E l D k v K := by
  refine s_X12_command (fun _ _ _ D1 e1 => c_lc (ru := ru) (B := B) (by rw [e1]; exact m_fpp.up0.tx h) eC (fun D2 f2 c2 i2 a2 => ?_))
  rw [e1] at f2
  have f2 : m_fpp D D2 := m_fpp.up0.trans f2
  have hs : S ≤ 20 := (i2.cok h.1.2.2.2.1).1
  unfold A_command at kk
  refine c_isC hs c2.1 (fun z _ => ⟨fun q => absurd q (by decide), fun _ => c_X12_within ⟨fun y _ => ⟨fun _ => ?_, fun q => absurd q (by decide)⟩, fun y _ => ⟨fun q => absurd rfl q, fun _ => ?_⟩⟩⟩) (fun z _ => ⟨fun _ => ?_, fun q => absurd rfl q⟩)
  · rw [if_pos (by omega)] at kk
    obtain ⟨q1, q2, q3, q4⟩ := c2.2 k.toNat (by omega)
    refine ⟨fun e => ⟨by omega, ?_⟩, fun e => ⟨by omega, ?_⟩, fun e => ⟨by omega, ?_⟩, fun e => ⟨by omega, ?_⟩, fun e => c_lp (f2.tx h) c2 i2 a2 (fun D5 f5 c5 a5 p5 b5 => ⟨by omega, ?_⟩)⟩
    · rw [q1]; rw [if_pos e] at kk; exact kk D2 f2.fr
    · rw [q2]; rw [if_neg (by omega), if_pos e] at kk; exact kk D2 f2.fr
    · rw [q3]; rw [if_neg (by omega), if_neg (by omega), if_pos e] at kk; exact kk D2 f2.fr
    · rw [q4]; rw [if_neg (by omega), if_neg (by omega), if_neg (by omega), if_pos e] at kk; exact kk D2 f2.fr
    · rw [if_neg (by omega), if_neg (by omega), if_neg (by omega), if_neg (by omega)] at kk
      have kk := kk D5 (f2.trans f5).fr
      unfold A_fate at kk
      obtain ⟨b1, b2', b3⟩ := p5.1 k.toNat (by omega)
      rw [b2', b3]
      refine ⟨fun e1 => ⟨by omega, fun e2 => ?_, fun e2 => ?_⟩, fun e1 => ?_⟩
      · rw [g_b_0.mp e1, g_b_0.mp e2] at kk; exact kk
      · rw [g_b_0.mp e1, g_b_n0.mp e2] at kk; exact kk
      · rw [g_b_n0.mp e1] at kk; exact kk
  · rw [if_neg (by omega)] at kk; exact kk D2 f2.fr
  · rw [if_neg (by omega)] at kk; exact kk D2 f2.fr
theorem c_X12_ahead {K : Int → g_D → Prop} {a b : Int} (h : m_tx D o n w m le ch ru B) (eC : m_cs ch le o w n m = (S, c)) (kk : ∀ D' : g_D, m_fr D D' → K (A_ahead S c a b) D') : k_X12_ahead E l D a b K := by
  refine s_X12_ahead (fun _ _ _ D1 e1 => c_lc (ru := ru) (B := B) (by rw [e1]; exact m_fpp.up0.tx h) eC (fun D2 f2 c2 i2 a2 => ?_))
  rw [e1] at f2
  have f2 : m_fpp D D2 := m_fpp.up0.trans f2
  have hs : S ≤ 20 := (i2.cok h.1.2.2.2.1).1
  have kk := kk D2 f2.fr
  unfold A_ahead at kk
  refine c_isC hs c2.1 (fun z _ => ⟨fun q => absurd q (by decide), fun _ => c_isC hs c2.1 (fun y _ => ⟨fun q => absurd q (by decide), fun _ => ⟨fun q => ⟨⟨by omega, by omega⟩, ⟨by omega, by omega⟩, by omega, ?_⟩, fun q => ?_⟩⟩) (fun y _ => ⟨fun _ => ?_, fun q => absurd rfl q⟩)⟩) (fun z _ => ⟨fun _ => ?_, fun q => absurd rfl q⟩)
  · rw [if_pos (by omega)] at kk
    rw [show (40 * a + b).toNat = 40 * a.toNat + b.toNat by omega, a2 _ _ (by omega) (by omega)]
    cases e : m_ah c a.toNat b.toNat
    · rw [e] at kk; exact ⟨fun _ => kk, fun q => absurd rfl q⟩
    · rw [e] at kk; exact ⟨fun q => absurd q (by decide), fun _ => kk⟩
  · rw [if_neg (by omega)] at kk; exact kk
  · rw [if_neg (by omega)] at kk; exact kk
  · rw [if_neg (by omega)] at kk; exact kk
theorem c_X12_ringed {K : Int → g_D → Prop} (h : m_tx D o n w m le ch ru B) (eC : m_cs ch le o w n m = (S, c)) (kk : ∀ D' : g_D, m_fr D D' → K ((m_bits (m_rgb S c (m_cp c)) S : Nat) : Int) D') : k_X12_ringed E l D K := by
  refine s_X12_ringed (fun _ D1 e1 => c_lc (ru := ru) (B := B) (by rw [e1]; exact m_fpp.up0.tx h) eC (fun D2 f2 c2 i2 a2 => ?_))
  rw [e1] at f2
  have f2 : m_fpp D D2 := m_fpp.up0.trans f2
  have hs : S ≤ 20 := (i2.cok h.1.2.2.2.1).1
  refine c_amongAll hs c2 (fun D3 f3 al3 => ?_)
  have g3 : m_fg D2 D3 := fun i hi => f3 i (by omega)
  exact l_X12_ringed hs c2 a2 (fun D4 f4 => kk D4 (f2.trans f4.fpp).fr) S 0 D3 rfl (Nat.zero_le _) g3 al3
theorem c_X12_ring {K : Int → g_D → Prop} {k v : Int} (h : m_tx D o n w m le ch ru B) (eC : m_cs ch le o w n m = (S, c))
    (k2 : ¬ (0 ≤ k ∧ k < S) → ∀ D' : g_D, m_fr D D' → K (-2) D') (k3 : (0 ≤ k ∧ k < S) → ¬ -1 ≤ v → ∀ D' : g_D, m_fr D D' → K (-3) D') (kk : ∀ (D' : g_D) (ans : Int), (0 ≤ k ∧ k < S) → -1 ≤ v → m_fr D D' → m_ringA S c k.toNat v ans → K ans D') : k_X12_ring E l D k v K := by
  refine s_X12_ring (fun _ _ _ D1 e1 => c_lc (ru := ru) (B := B) (by rw [e1]; exact m_fpp.up0.tx h) eC (fun D2 f2 c2 i2 a2 => ?_))
  rw [e1] at f2
  have f2 : m_fpp D D2 := m_fpp.up0.trans f2
  have hs : S ≤ 20 := (i2.cok h.1.2.2.2.1).1
  refine c_isC hs c2.1 (fun z _ => ⟨fun _ => ⟨fun q => ?_, fun q => k3 z q D2 f2.fr⟩, fun q => absurd q (by decide)⟩) (fun z _ => ⟨fun q => absurd rfl q, fun _ => k2 z D2 f2.fr⟩)
  obtain ⟨a, rfl⟩ : ∃ a : Nat, k = a := ⟨k.toNat, by omega⟩
  exact c_X12_ringTail hs (by omega) q c2 a2 (fun D3 ans f3 hr => kk D3 ans z q (f2.trans f3.fpp).fr (by rw [Int.toNat_natCast]; exact hr))
theorem c_X12_fewest {K : Int → g_D → Prop} {v : Int} (h : m_tx D o n w m le ch ru B) (eC : m_cs ch le o w n m = (S, c)) (kk : ∀ D' : g_D, m_fr D D' → K (if 0 ≤ v ∧ v ≤ 3 then a_few S c v else -2) D') : k_X12_fewest E l D v K := by
  refine s_X12_fewest (fun _ _ D1 e1 => c_X12_within ⟨fun z _ => ⟨fun _ => ?_, fun q => absurd q (by decide)⟩, fun z _ => ⟨fun q => absurd rfl q, fun _ => ?_⟩⟩)
  · rw [if_pos z] at kk
    refine c_lc (ru := ru) (B := B) (by rw [e1]; exact m_fpp.up0.tx h) eC (fun D2 f2 c2 i2 a2 => ?_)
    rw [e1] at f2
    have f2 : m_fpp D D2 := m_fpp.up0.trans f2
    have hok := i2.cok h.1.2.2.2.1
    have hs : S ≤ 20 := hok.1
    refine c_X12_laysRinged hs c2 a2 (fun D3 f3 r3 _ => ?_)
    exact l_X12_fewest38 (D0 := D3) hs z (c2.fg f3) hok.len (a2.fg f3) r3 (fun D4 f4 => kk D4 (f2.trans (f3.fpp.trans ⟨fun k _ b => f4 k (by omega), fun j _ _ _ => by rw [f4 208 (by decide)]⟩)).fr) _ 0 D3 rfl (Nat.zero_le _) (fun _ _ => rfl)
  · rw [if_neg z] at kk
    exact kk D1 (by rw [e1]; exact m_fpp.up0.fr)
theorem c_X12_acts {K : Int → g_D → Prop} (h : m_tx D o n w m le ch ru B) (eC : m_cs ch le o w n m = (S, c)) (kk : ∀ D' : g_D, m_fr D D' → K (p_n (m_pl S c ru B) : Nat) D') : k_X12_acts E l D K := by
  refine s_X12_acts (fun _ D1 e1 => c_la (ru := ru) (B := B) (by rw [e1]; exact m_fpp.up0.tx h) eC (fun D2 f2 i2 c2 a2 p2 b2 => ?_))
  rw [e1] at f2
  rw [p2.2.2.2.1.1]
  exact kk D2 (m_fpp.up0.trans f2).fr
theorem c_X12_act {K : Int → g_D → Prop} {i v : Int} (h : m_tx D o n w m le ch ru B) (eC : m_cs ch le o w n m = (S, c)) (kk : ∀ D' : g_D, m_fr D D' → K (A_act (m_pl S c ru B) i v) D') : k_X12_act E l D i v K := by
  refine s_X12_act (fun _ _ _ D1 e1 => c_la (ru := ru) (B := B) (by rw [e1]; exact m_fpp.up0.tx h) eC (fun D2 f2 i2 c2 a2 p2 b2 => ?_))
  rw [e1] at f2
  have kk := kk D2 (m_fpp.up0.trans f2).fr
  have hok := i2.cok h.1.2.2.2.1
  have hI := (m_pl_ok (ru := ru) hok h.2.2.2.2.2.2.2).1
  generalize m_pl S c ru B = p at *
  have hn : p_n p ≤ 30 := by have := hI.2.2.2.2.2.2.1; omega
  have hs := hok.1
  unfold A_act at kk
  rw [p2.2.2.2.1.1]
  refine ⟨⟨by omega, by omega⟩, c_X12_within ⟨fun z _ => ⟨fun q => absurd q (by decide), fun _ => c_X12_within ⟨fun y _ => ⟨fun _ => ?_, fun q => absurd q (by decide)⟩, fun y _ => ⟨fun q => absurd rfl q, fun _ => ?_⟩⟩⟩, fun z _ => ⟨fun _ => ?_, fun q => absurd rfl q⟩⟩⟩
  · rw [if_pos (by omega)] at kk
    obtain ⟨d1, d2⟩ := p2.2.2.2.1.2 i.toNat (by omega)
    obtain ⟨ho, hst, hkind⟩ := hI.2.2.2.2.2.2.2.1 i.toNat (by omega)
    rw [d1, d2, Int.toNat_natCast]
    unfold m_pa at kk
    refine ⟨fun q => ⟨by omega, by omega, fun e => ?_, fun e => ⟨by omega, by omega, ?_⟩⟩, fun q => ⟨fun e => ⟨by omega, ?_⟩, fun e => ⟨by omega, ?_⟩⟩⟩
    · rw [if_neg (by omega), if_neg (by omega), if_neg (by omega)] at kk; exact kk
    · rw [if_neg (by omega), if_neg (by omega), if_pos (by omega)] at kk
      rw [p2.2.2.1 _ ho (by
        rcases hkind with ⟨_, q⟩ | ⟨q, _⟩ | q
        · exact q
        · omega
        · omega)]
      exact kk
    · rw [if_neg e, if_pos (by omega)] at kk; exact kk
    · rw [if_pos e] at kk; exact kk
  · rw [if_neg (by omega)] at kk; exact kk
  · rw [if_neg (by omega)] at kk; exact kk
theorem c_X12_plan {K : Int → g_D → Prop} {v : Int} (h : m_tx D o n w m le ch ru B) (eC : m_cs ch le o w n m = (S, c)) (kk : ∀ D' : g_D, m_fr D D' → K (A_plan S c (m_pl S c ru B) v) D') : k_X12_plan E l D v K := by
  unfold A_plan at kk
  refine s_X12_plan (fun _ _ D1 e1 => c_X12_within ⟨fun z _ => ⟨fun _ => ?_, fun q => absurd q (by decide)⟩, fun z _ => ⟨fun q => absurd rfl q, fun _ => ?_⟩⟩)
  · refine c_la (ru := ru) (B := B) (by rw [e1]; exact m_fpp.up0.tx h) eC (fun D2 f2 i2 c2 a2 p2 b2 => ?_)
    rw [e1] at f2
    have kk := kk D2 (m_fpp.up0.trans f2).fr
    have hok := i2.cok h.1.2.2.2.1
    have hI := (m_pl_ok (ru := ru) hok h.2.2.2.2.2.2.2).1
    refine ⟨fun e0 => ⟨fun e1 => ⟨fun e2 => ?_, fun e2 => ?_⟩, fun e1 => ?_⟩, fun e0 => ?_⟩
    · rw [if_neg e0, if_neg e1, if_neg e2, if_pos (by omega)] at kk
      rw [b2.1]
      unfold m_pN
      rw [(m_of_le hok hI).2]; exact kk
    · rw [if_neg e0, if_neg e1, if_pos e2] at kk
      rw [p2.2.2.2.2.2.2]; exact kk
    · rw [if_neg e0, if_pos e1] at kk
      rw [p2.2.2.2.2.2.1]; exact kk
    · rw [if_pos e0] at kk
      rw [p2.2.2.2.2.1]; exact kk
  · rw [if_neg (by omega), if_neg (by omega), if_neg (by omega), if_neg (by omega)] at kk
    exact kk D1 (by rw [e1]; exact m_fpp.up0.fr)
theorem c_X12_patch {K : Int → g_D → Prop} {i : Int} (h : m_tx D o n w m le ch ru B) (eC : m_cs ch le o w n m = (S, c)) (kk : ∀ D' : g_D, m_fr D D' → K (A_patch c w m (m_pl S c ru B) i) D') : k_X12_patch E l D i K := by
  unfold A_patch at kk
  refine s_X12_patch (fun _ _ D1 e1 => c_la (ru := ru) (B := B) (by rw [e1]; exact m_fpp.up0.tx h) eC (fun D2 f2 i2 c2 a2 p2 b2 => ?_))
  rw [e1] at f2
  have kk := kk D2 (m_fpp.up0.trans f2).fr
  have hok := i2.cok h.1.2.2.2.1
  have hI := (m_pl_ok (ru := ru) hok h.2.2.2.2.2.2.2).1
  have hle : m_pN c (m_pl S c ru B) ≤ 141 := (m_of_le hok hI).1
  rw [b2.1]
  refine ⟨⟨by omega, by omega⟩, c_X12_within ⟨fun z _ => ⟨fun q => absurd q (by decide), fun _ => ⟨by omega, ?_⟩⟩, fun z _ => ⟨fun _ => ?_, fun q => absurd rfl q⟩⟩⟩
  · rw [if_pos (by omega)] at kk
    rw [b2.2 _ (by omega)]; exact kk
  · rw [if_neg (by omega)] at kk; exact kk
end PLM
end
