section
/-! how a patch is read -/
def r_f (b : Nat → Int) (N p : Nat) (lo hi : Int) : Nat := if p < N then (if lo ≤ b p ∧ b p ≤ hi then 0 else 3) else 2
def r_w (N p f : Nat) : Nat := if f = 2 then N else p
def r_lo2 (cd : Int) : Int := if cd = 1 ∨ cd = 4 then 1 else 0
def r_hi2 (cd x : Int) : Int := if cd = 1 then min 20 (40 - x) else if cd = 2 then 39 else if cd = 3 then 19 else 40 - x
def r_lo3 (cd : Int) : Int := if cd = 1 then 0 else 1
def r_hi3 (cd x y : Int) : Int := if cd = 1 then 20 - y else if cd = 2 then 40 - max x y else min (40 - x) (20 - y)
def r_f1 (b : Nat → Int) (N p : Nat) : Nat := r_f b N p 0 39
def r_f2 (b : Nat → Int) (N p : Nat) (cd : Int) : Nat := r_f b N (p + 1) (r_lo2 cd) (r_hi2 cd (b p))
def r_f3 (b : Nat → Int) (N p : Nat) (cd : Int) : Nat := if cd = 4 then (if p + 2 + (b (p + 1)).toNat ≤ N then 0 else 2) else r_f b N (p + 2) (r_lo3 cd) (r_hi3 cd (b p) (b (p + 1)))
def r_fc (b : Nat → Int) (N p : Nat) (cd : Int) : Nat := if r_f1 b N p ≠ 0 then r_f1 b N p else if r_f2 b N p cd ≠ 0 then r_f2 b N p cd else r_f3 b N p cd
def r_fp (b : Nat → Int) (N p : Nat) (cd : Int) : Nat := if r_f1 b N p ≠ 0 then r_w N p (r_f1 b N p) else if r_f2 b N p cd ≠ 0 then r_w N (p + 1) (r_f2 b N p cd) else r_w N (p + 2) (r_f3 b N p cd)
/-- where the acts begin, and how many cells are sent ahead of each -/
def r_P (b : Nat → Int) : Nat → Nat
  | 0 => 1
  | i + 1 => r_P b i + (if b (r_P b i) = 4 then 3 + (b (r_P b i + 2)).toNat else 4)
def r_Q (b : Nat → Int) : Nat → Nat
  | 0 => 0
  | i + 1 => r_Q b i + (if b (r_P b i) = 4 then (b (r_P b i + 2)).toNat else 0)
def a_k (b : Nat → Int) (i : Nat) : Int := b (r_P b i)
def a_to (b : Nat → Int) (i : Nat) : Int := if a_k b i = 1 then b (r_P b i + 3) else b (r_P b i + 1)
def a_sr (b : Nat → Int) (i : Nat) : Int := if a_k b i = 1 then b (r_P b i + 1) else if a_k b i = 4 then ((r_P b i + 3 : Nat) : Int) else b (r_P b i + 2)
def a_fr (b : Nat → Int) (i : Nat) : Int := if a_k b i = 1 then b (r_P b i + 1) else if a_k b i = 4 then (r_Q b i : Nat) else b (r_P b i + 2)
def a_ln (b : Nat → Int) (i : Nat) : Int := if a_k b i = 1 ∨ a_k b i = 4 then b (r_P b i + 2) else b (r_P b i + 3)
def r_bd (b : Nat → Int) (N i : Nat) : Nat := if 1 ≤ a_k b i ∧ a_k b i ≤ 4 then (if i = 36 then 4 else r_fc b N (r_P b i + 1) (a_k b i)) else 1
def r_bp (b : Nat → Int) (N i : Nat) : Nat := if 1 ≤ a_k b i ∧ a_k b i ≤ 4 then (if i = 36 then r_P b i else r_fp b N (r_P b i + 1) (a_k b i)) else r_P b i
def r_go (b : Nat → Int) (N : Nat) : Nat → Nat → Nat × Nat × Int
  | 0, i => (i, 0, -1)
  | f + 1, i => if N ≤ r_P b i then (i, 0, -1) else if r_bd b N i ≠ 0 then (i, r_bd b N i, (r_bp b N i : Nat)) else r_go b N f (i + 1)
def r_all (b : Nat → Int) (N : Nat) : Nat × Nat × Int := if r_f b N 0 0 40 ≠ 0 then (0, r_f b N 0 0 40, (r_w N 0 (r_f b N 0 0 40) : Nat)) else r_go b N 37 0
theorem r_f_le {b : Nat → Int} {N p : Nat} {lo hi : Int} : r_f b N p lo hi ≤ 3 := by unfold r_f; split; split <;> omega; omega
theorem r_f_0 {b : Nat → Int} {N p : Nat} {lo hi : Int} (h : r_f b N p lo hi = 0) : p < N ∧ lo ≤ b p ∧ b p ≤ hi := by
  unfold r_f at h
  split at h
  · rename_i h1
    split at h
    · rename_i h2; exact ⟨h1, h2⟩
    · omega
  · omega
theorem r_fc_le {b : Nat → Int} {N p : Nat} {cd : Int} : r_fc b N p cd ≤ 3 := by
  unfold r_fc r_f1 r_f2 r_f3
  split
  · exact r_f_le
  · split
    · exact r_f_le
    · split
      · split <;> omega
      · exact r_f_le
theorem r_w_le {N p f : Nat} (hp : p ≤ N + 2) : r_w N p f ≤ N + 2 := by unfold r_w; split <;> omega
/-- what holds of an act that was read -/
def r_okA (b : Nat → Int) (N i : Nat) : Prop := r_P b i < N ∧ i < 36 ∧ 1 ≤ a_k b i ∧ a_k b i ≤ 4 ∧ 0 ≤ a_to b i ∧ 1 ≤ a_ln b i ∧ 0 ≤ a_fr b i ∧ 0 ≤ a_sr b i ∧
  (a_k b i = 1 → a_fr b i + a_ln b i ≤ 40 ∧ a_to b i + a_ln b i ≤ 20) ∧ (a_k b i = 2 → a_fr b i + a_ln b i ≤ 40 ∧ a_to b i + a_ln b i ≤ 40) ∧ (a_k b i = 3 → a_fr b i + a_ln b i ≤ 20 ∧ a_to b i + a_ln b i ≤ 40) ∧ (a_k b i = 4 → a_to b i + a_ln b i ≤ 40 ∧ a_sr b i + a_ln b i ≤ N) ∧ (¬ a_k b i = 4 → a_sr b i = a_fr b i)
theorem r_okA.of {b : Nat → Int} {N i : Nat} (hi36 : i ≤ 36) (hP : r_P b i < N) (h : r_bd b N i = 0) : r_okA b N i := by
  unfold r_bd at h
  split at h
  case isFalse => omega
  rename_i hk
  split at h
  case isTrue => omega
  rename_i hi
  unfold r_fc r_f1 at h
  split at h
  case isTrue => rename_i q; exact absurd h q
  rename_i q1
  split at h
  case isTrue => rename_i q; exact absurd h q
  rename_i q2
  have f1 := r_f_0 (Classical.not_not.mp q1)
  unfold r_f2 at q2
  have f2 := r_f_0 (Classical.not_not.mp q2)
  unfold r_f3 at h
  unfold r_lo2 r_hi2 at f2
  have hP' : r_P b i + 1 + 1 = r_P b i + 2 := rfl
  rw [hP'] at f2 h
  unfold r_okA a_to a_sr a_fr a_ln
  by_cases k1 : a_k b i = 1
  · rw [if_neg (by omega)] at h
    have f3 := r_f_0 h
    unfold r_lo3 r_hi3 at f3
    have hP3 : r_P b i + 1 + 2 = r_P b i + 3 := rfl
    rw [hP3] at f3
    rw [if_pos k1] at f3
    rw [if_pos (Or.inl k1), if_pos k1] at f2
    rw [if_pos k1] at f3
    rw [if_pos k1, if_pos k1, if_pos k1, if_pos (Or.inl k1)]
    refine ⟨by omega, by omega, by omega, by omega, by omega, by omega, by omega, by omega, fun _ => by omega, fun _ => by omega, fun _ => by omega, fun _ => by omega, fun _ => rfl⟩
  · rw [if_neg k1, if_neg k1, if_neg k1]
    by_cases k4 : a_k b i = 4
    · rw [if_pos k4] at h
      rw [if_pos (Or.inr k4), if_neg k1, if_neg (by omega), if_neg (by omega)] at f2
      rw [if_pos k4, if_pos k4, if_pos (Or.inr k4)]
      have h' : r_P b i + 1 + 2 + (b (r_P b i + 2)).toNat ≤ N := by
        split at h
        · rename_i q; exact q
        · omega
      refine ⟨by omega, by omega, by omega, by omega, by omega, by omega, by omega, by omega, fun _ => by omega, fun _ => by omega, fun _ => by omega, fun _ => by omega, fun q => absurd k4 q⟩
    · rw [if_neg k4] at h
      have f3 := r_f_0 h
      unfold r_lo3 r_hi3 at f3
      have hP3 : r_P b i + 1 + 2 = r_P b i + 3 := rfl
      rw [hP3, if_neg k1, if_neg k1] at f3
      rw [if_neg (by omega), if_neg k1] at f2
      rw [if_neg k4, if_neg k4, if_neg (by omega)]
      by_cases k2 : a_k b i = 2
      · rw [if_pos k2] at f2 f3
        refine ⟨by omega, by omega, by omega, by omega, by omega, by omega, by omega, by omega, fun _ => by omega, fun _ => by omega, fun _ => by omega, fun _ => by omega, fun _ => rfl⟩
      · have k3 : a_k b i = 3 := by omega
        rw [if_neg k2] at f3
        rw [if_neg k2, if_pos k3] at f2
        refine ⟨by omega, by omega, by omega, by omega, by omega, by omega, by omega, by omega, fun _ => by omega, fun _ => by omega, fun _ => by omega, fun _ => by omega, fun _ => rfl⟩
theorem r_go_spec {b : Nat → Int} {N : Nat} : ∀ {f i n : Nat} {x : Int}, i + f = 37 → r_go b N f i = (n, 0, x) → i ≤ n ∧ n ≤ 37 ∧ (∀ j, i ≤ j → j < n → r_P b j < N ∧ r_bd b N j = 0) ∧ x = -1
  | 0, i, n, x, hf, h => by
    rw [r_go] at h
    cases h
    exact ⟨Nat.le_refl _, by omega, fun j a c => by omega, rfl⟩
  | f + 1, i, n, x, hf, h => by
    rw [r_go] at h
    split at h
    · cases h
      exact ⟨Nat.le_refl _, by omega, fun j a c => by omega, rfl⟩
    · rename_i h1
      split at h
      · rename_i h2
        exact absurd (congrArg (fun z => z.2.1) h) h2
      · rename_i h2
        obtain ⟨q1, q2, q3, q4⟩ := r_go_spec (f := f) (i := i + 1) (by omega) h
        refine ⟨by omega, q2, fun j a c => ?_, q4⟩
        by_cases e : j = i
        · subst e; exact ⟨by omega, Classical.not_not.mp h2⟩
        · exact q3 j (by omega) c
theorem r_all_ok {b : Nat → Int} {N n : Nat} {x : Int} (h : r_all b N = (n, 0, x)) : n ≤ 36 ∧ (∀ i, i < n → r_okA b N i) ∧ x = -1 := by
  unfold r_all at h
  split at h
  · rename_i q
    exact absurd (congrArg (fun z => z.2.1) h) q
  · obtain ⟨q1, q2, q3, q4⟩ := r_go_spec (by decide) h
    have q3' : ∀ i, i < n → r_okA b N i := fun i hi => r_okA.of (by omega) (q3 i (Nat.zero_le _) hi).1 (q3 i (Nat.zero_le _) hi).2
    refine ⟨?_, q3', q4⟩
    by_cases e : n = 37
    · have := (q3' 36 (by omega)).2.1
      omega
    · omega
/-- the reader k of the class: what it has read -/
def x_rdA (D : g_D) (k n : Nat) (b : Nat → Int) : Prop := ∀ i, i < n → D (k + 1) i = a_k b i ∧ D (k + 2) i = a_to b i ∧ D (k + 3) i = a_sr b i ∧ D (k + 4) i = a_ln b i
/-- nothing but the reader k, and of its rows place n alone -/
def x_f5 (k n : Nat) (D D' : g_D) : Prop := (∀ i, ¬ (k ≤ i ∧ i ≤ k + 4) → D' i = D i) ∧ (∀ i, k + 1 ≤ i → i ≤ k + 4 → ∀ j, j ≠ n → D' i j = D i j) ∧ D' k 8 = D k 8
theorem x_f5.refl (k n : Nat) (D : g_D) : x_f5 k n D D := ⟨fun _ _ => rfl, fun _ _ _ _ _ => rfl, rfl⟩
theorem x_f5.up {k n : Nat} {D D' : g_D} {i j : Nat} {v : Int} (h : x_f5 k n D D') (hi : (i = k ∧ j ≠ 8) ∨ (k + 1 ≤ i ∧ i ≤ k + 4 ∧ j = n)) : x_f5 k n D (g_up D' i j v) := by
  refine ⟨fun a ha => ?_, fun a h1 h2 c hc => ?_, ?_⟩
  · rw [g_up_ne (by omega)]; exact h.1 a ha
  · by_cases e : a = i
    · rw [g_up_at (by omega)]; exact h.2.1 a h1 h2 c hc
    · rw [g_up_ne e]; exact h.2.1 a h1 h2 c hc
  · by_cases e : k = i
    · rw [g_up_at (by omega)]; exact h.2.2
    · rw [g_up_ne e]; exact h.2.2
/-- bytes in cells -/
def x_bs (D : g_D) (r : Nat) (b : Nat → Int) (N : Nat) : Prop := (∃ sz : Nat, D r 1 = sz ∧ N ≤ sz ∧ sz ≤ 160) ∧ ∀ x, x < N → D (r + 1) x = b x
theorem x_bs.fr {D D' : g_D} {r N : Nat} {b : Nat → Int} (h : x_bs D r b N) (h1 : D' r = D r) (h2 : D' (r + 1) = D (r + 1)) : x_bs D' r b N := by unfold x_bs at *; rw [h1, h2]; exact h
section READ
variable {E : g_E} {l : Launch} {sh : List g_Sh} {D : g_D} {b : Nat → Int} {N : Nat}
theorem c_num {K : Int → g_D → Prop} {k r p : Nat} {lo hi : Int} (hk : is_Reader g_SH k) (hr : is_Cells g_SH r 160) (hb : x_bs D r b N) (h5 : D k 5 = 0) (h7 : D k 7 = p) (h8 : D k 8 = N)
    (k0 : r_f b N p lo hi = 0 → K (b p) (g_up D k 7 ((p + 1 : Nat) : Int))) (k1 : r_f b N p lo hi ≠ 0 → K 0 (g_up (g_up D k 5 (r_f b N p lo hi : Nat)) k 6 (r_w N p (r_f b N p lo hi) : Nat))) : k_X5_readNumber E l D k r lo hi K := by
  obtain ⟨⟨sz, s1, s2, s3⟩, hb2⟩ := hb
  refine s_X5_readNumber hk hr (fun _ _ _ => ⟨fun _ => ⟨fun q => ?_, fun q => ?_⟩, fun q => absurd h5 q⟩)
  · rw [h7, h8] at q
    have q' : p < N := by omega
    rw [h7]
    refine c_X0_at (c := D (r + 1)) (n := sz) hr s1 s3 (fun _ _ => rfl) (fun _ => ?_)
    rw [if_pos (by omega), Int.toNat_natCast, hb2 p q']
    unfold r_f at k0 k1
    rw [if_pos q'] at k0 k1
    refine ⟨fun w => ?_, fun w => ⟨fun w2 => ⟨⟨by omega, by omega⟩, fun D3 e3 => ?_⟩, fun w2 => ?_⟩⟩
    · rw [if_neg (by omega)] at k1
      refine s_X5_fail hk (fun _ _ _ D1 e1 D2 e2 => ?_)
      rw [e2, e1, h7]; exact k1 (by decide)
    · rw [if_pos ⟨by omega, w2⟩] at k0
      rw [e3, h7, g_cast1]; exact k0 rfl
    · rw [if_neg (by omega)] at k1
      refine s_X5_fail hk (fun _ _ _ D1 e1 D2 e2 => ?_)
      rw [e2, e1, h7]; exact k1 (by decide)
  · rw [h7, h8] at q
    unfold r_f at k1
    rw [if_neg (by omega)] at k1
    refine s_X5_fail hk (fun _ _ _ D1 e1 D2 e2 => ?_)
    rw [e2, e1, h8]; exact k1 (by decide)
theorem c_numF {K : Int → g_D → Prop} {k r nr : Nat} {lo hi : Int} (hk : is_Reader g_SH k) (hr : is_Cells g_SH r nr) (h5 : ¬ D k 5 = 0) (k0 : K 0 D) : k_X5_readNumber E l D k r lo hi K :=
  s_X5_readNumber hk hr (fun _ _ _ => ⟨fun q => absurd q h5, fun _ => k0⟩)
end READ
end
