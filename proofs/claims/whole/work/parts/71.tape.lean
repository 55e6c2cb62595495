/-! THE TAPE: promises 2 to 4 -/
def m_tape (D : g_D) (T : Nat → Int) (t : Nat) : Prop := D 208 5 = t ∧ t ≤ 160 ∧ ∀ i, i < t → D 212 i = T i
def x_tape (D : g_D) (T : Nat → Int) (t : Nat) : Prop := D 45 1 = t ∧ t ≤ 160 ∧ ∀ i, i < t → D 46 i = T i
/-- a byte of a word, the highest first -/
def m_wb (v : Int) (q : Nat) : Int := g_and (g_ushr v ((24 - 8 * q : Nat) : Int)) 255
def m_five (a b c d e : Int) (k : Nat) : Int := if k < 4 then a else if k < 8 then b else if k < 12 then c else if k < 16 then d else e
def m_fed (T : Nat → Int) (t : Nat) (a b c d e : Int) (i : Nat) : Int := if i < t then T i else m_wb (m_five a b c d e (i - t)) ((i - t) % 4)
section TAPE
variable {E : g_E} {l : Launch} {sh : List g_Sh} {D : g_D} {T : Nat → Int} {t : Nat}
theorem c_X0_push {K : g_D → Prop} {k nk n : Nat} {v : Int} (hk : is_Cells sh k nk) (hn : D k 1 = n) (h1 : n < nk) (h2 : nk ≤ 1000) (kk : ∀ D' : g_D, (∀ i, i ≠ k → i ≠ k + 1 → D' i = D i) → D' k 1 = ((n + 1 : Nat) : Int) → (∀ j, j ≠ 1 → D' k j = D k j) → D' (k + 1) n = v → (∀ j, j ≠ n → D' (k + 1) j = D (k + 1) j) → K D') : k_X0_push E l sh D k v K := by
  refine s_X0_push hk (fun _ _ => ⟨by omega, fun q => (by omega : False).elim, fun _ => ⟨by omega, fun D1 hD1 => ?_⟩⟩)
  rw [hn, Int.toNat_natCast] at hD1
  have e1 : D1 k 1 = n := by rw [hD1, g_up_ne (by omega)]; exact hn
  refine ⟨⟨by omega, by omega⟩, fun D2 hD2 => kk D2 (fun i a b => ?_) ?_ (fun j hj => ?_) ?_ (fun j hj => ?_)⟩
  · rw [hD2, g_up_ne a, hD1, g_up_ne b]
  · rw [hD2, g_up_eq, e1]; omega
  · rw [hD2, g_up_at hj, hD1, g_up_ne (by omega)]
  · rw [hD2, g_up_ne (by omega), hD1, g_up_eq]
  · rw [hD2, g_up_ne (by omega), hD1, g_up_at hj]
/-- nothing but THE TAPE of the class -/
def x_ft (D D' : g_D) : Prop := ∀ k, k ≠ 45 → k ≠ 46 → D' k = D k
theorem c_X11_feedWord {K : g_D → Prop} {v : Int} (hn : D 45 1 = t) (h1 : t + 4 ≤ 160) (kk : ∀ D' : g_D, x_ft D D' → D' 45 1 = ((t + 4 : Nat) : Int) → (∀ i, i < t → D' 46 i = D 46 i) → (∀ q, q < 4 → D' 46 (t + q) = m_wb v q) → K D') : k_X11_feedWord E l D v K := by
  have key : ∀ (p q : Nat) (D1 : g_D), 4 - q = p → q ≤ 4 → x_ft D D1 → D1 45 1 = ((t + q : Nat) : Int) → (∀ i, i < t → D1 46 i = D 46 i) → (∀ i, i < q → D1 46 (t + i) = m_wb v i) → n_X11_feedWord E l D1 3 [some (g_R 0), some (g_I v), some (g_I (24 - 8 * (q : Int)))] K := by
    intro p
    induction p with
    | zero =>
      intro q D1 hp hq a1 a2 a3 a4
      obtain rfl : q = 4 := by omega
      exact s_X11_feedWord_3 (fun _ _ _ => ⟨fun _ => kk D1 a1 a2 a3 a4, fun h => (by omega : False).elim⟩)
    | succ p ih =>
      intro q D1 hp hq a1 a2 a3 a4
      refine s_X11_feedWord_3 (fun _ _ _ => ⟨fun h => (by omega : False).elim, fun _ => c_X0_push ip_Cells_45 a2 (by omega) (by omega) (fun D2 b1 b2 b3 b4 b5 => ⟨⟨by omega, by omega⟩, ?_⟩)⟩)
      rw [show (24 - 8 * (q : Int)) + (-8) = 24 - 8 * ((q + 1 : Nat) : Int) by omega]
      refine ih (q + 1) D2 (by omega) (by omega) (fun k c1 c2 => ?_) ?_ (fun i hi => ?_) (fun i hi => ?_)
      · rw [b1 k c1 c2]; exact a1 k c1 c2
      · rw [b2]; rfl
      · rw [b5 i (by omega)]; exact a3 i hi
      · rcases Nat.lt_succ_iff_lt_or_eq.mp hi with h | rfl
        · rw [b5 _ (by omega)]; exact a4 i h
        · rw [b4]
          unfold m_wb
          rw [show ((24 - 8 * i : Nat) : Int) = 24 - 8 * (i : Int) by omega]
  exact s_X11_feedWord (fun _ _ => key 4 0 D rfl (Nat.zero_le _) (fun _ _ _ => rfl) hn (fun _ _ => rfl) (fun i h => absurd h (Nat.not_lt_zero i)))
theorem c_X11_feed {K : Int → g_D → Prop} {a b c d e : Int} (hT : x_tape D T t) (k0 : ¬ t + 20 ≤ 160 → K (-5) D) (k1 : t + 20 ≤ 160 → ∀ D' : g_D, x_ft D D' → x_tape D' (m_fed T t a b c d e) (t + 20) → K ((t + 20 : Nat) : Int) D') : k_X11_feed E l D a b c d e K := by
  obtain ⟨hn, h160, hc⟩ := hT
  refine s_X11_feed (fun _ _ _ _ _ _ => ⟨⟨by omega, by omega⟩, fun h => ?_, fun h => k0 (by omega)⟩)
  refine c_X11_feedWord hn (by omega) (fun D1 a1 a2 a3 a4 => c_X11_feedWord a2 (by omega) (fun D2 b1 b2 b3 b4 => c_X11_feedWord b2 (by omega) (fun D3 c1 c2 c3 c4 => c_X11_feedWord c2 (by omega) (fun D4 d1 d2 d3 d4 => c_X11_feedWord d2 (by omega) (fun D5 e1 e2 e3 e4 => ?_)))))
  rw [e2]
  refine k1 (by omega) D5 (fun k p q => by rw [e1 k p q, d1 k p q, c1 k p q, b1 k p q, a1 k p q]) ⟨e2, by omega, fun i hi => ?_⟩
  unfold m_fed m_five
  by_cases i0 : i < t
  · rw [if_pos i0, e3 i (by omega), d3 i (by omega), c3 i (by omega), b3 i (by omega), a3 i i0]; exact hc i i0
  · rw [if_neg i0]
    by_cases i1 : i - t < 4
    · rw [if_pos i1, e3 i (by omega), d3 i (by omega), c3 i (by omega), b3 i (by omega), show i = t + (i - t) by omega, a4 _ i1]
      rw [show t + (i - t) - t = i - t by omega, Nat.mod_eq_of_lt i1]
    · by_cases i2 : i - t < 8
      · rw [if_neg i1, if_pos i2, e3 i (by omega), d3 i (by omega), c3 i (by omega), show i = t + 4 + (i - t - 4) by omega, b4 _ (by omega)]
        rw [show (t + 4 + (i - t - 4) - t) % 4 = i - t - 4 by omega]
      · by_cases i3 : i - t < 12
        · rw [if_neg i1, if_neg i2, if_pos i3, e3 i (by omega), d3 i (by omega), show i = t + 4 + 4 + (i - t - 8) by omega, c4 _ (by omega)]
          rw [show (t + 4 + 4 + (i - t - 8) - t) % 4 = i - t - 8 by omega]
        · by_cases i4 : i - t < 16
          · rw [if_neg i1, if_neg i2, if_neg i3, if_pos i4, e3 i (by omega), show i = t + 4 + 4 + 4 + (i - t - 12) by omega, d4 _ (by omega)]
            rw [show (t + 4 + 4 + 4 + (i - t - 12) - t) % 4 = i - t - 12 by omega]
          · rw [if_neg i1, if_neg i2, if_neg i3, if_neg i4, show i = t + 4 + 4 + 4 + 4 + (i - t - 16) by omega, e4 _ (by omega)]
            rw [show (t + 4 + 4 + 4 + 4 + (i - t - 16) - t) % 4 = i - t - 16 by omega]
end TAPE
