section
/-! four cells as one int -/
theorem pk_step {y c : Nat} (hc : c < 256) : g_or (g_shl (nI y).toInt 8) (g_and (c : Int) 255) = (nI (256 * y + c)).toInt := by
  unfold g_or g_shl g_and
  rw [g_ofN]
  simp only [Int32.ofInt_toInt]
  congr 1
  refine b_ext (fun i hi => ?_)
  rw [b_or, show (Int32.ofInt 8) = nI 8 from rfl, b_shl 8 (by omega) _ hi, b_and, show (Int32.ofInt 255) = (255 : Int32) from rfl, b_255, bt_nI _ hi, bt_nI _ hi, show 256 * y + c = 2 ^ 8 * y + c from rfl, Nat.testBit_two_pow_mul_add y (show c < 2 ^ 8 from hc) i]
  by_cases q : i < 8
  · rw [if_pos q, decide_eq_true q, decide_eq_false (show ¬ 8 ≤ i by omega)]; simp
  · rw [if_neg q, decide_eq_false q, decide_eq_true (show 8 ≤ i by omega), bt_nI _ (by omega)]; simp
theorem nI_inj {x y : Nat} (hx : x < 4294967296) (hy : y < 4294967296) (h : (nI x).toInt = (nI y).toInt) : x = y := by
  have h := Int32.toInt_inj.mp h
  refine Nat.eq_of_testBit_eq (fun i => ?_)
  by_cases q : i < 32
  · rw [← bt_nI x q, ← bt_nI y q, h]
  · have e : 4294967296 ≤ 2 ^ i := Nat.le_trans (show 4294967296 ≤ 2 ^ 32 by decide) (Nat.pow_le_pow_right (by decide) (by omega))
    rw [Nat.testBit_lt_two_pow (by omega), Nat.testBit_lt_two_pow (by omega)]
theorem pk_byte {x q : Nat} (hq : q ≤ 3) : g_and (g_ushr (nI x).toInt ((8 * q : Nat) : Int)) 255 = ((x / 2 ^ (8 * q) % 256 : Nat) : Int) := by
  unfold g_and g_ushr
  rw [g_ofN]
  simp only [Int32.ofInt_toInt]
  have e : (((nI x).toUInt32 >>> ((nI (8 * q)).toUInt32 &&& Int32.toUInt32 31)).toInt32 &&& Int32.ofInt 255) = nI (x / 2 ^ (8 * q) % 256) := b_ext (fun i hi => by
    rw [b_and, b_ushr (8 * q) (by omega), show (Int32.ofInt 255) = (255 : Int32) from rfl, b_255, bt_nI _ hi, show (256 : Nat) = 2 ^ 8 from rfl, Nat.testBit_mod_two_pow, ← Nat.shiftRight_eq_div_pow, Nat.testBit_shiftRight]
    by_cases w : i < 8
    · rw [decide_eq_true w, Bool.and_true, Bool.true_and, bt_nI _ (by omega)]
    · rw [decide_eq_false w, Bool.and_false, Bool.false_and])
  rw [e, nI_toInt (by omega)]
def q_part (W : Nat → Int) (k : Nat) : Nat → Nat
  | 0 => 0
  | t + 1 => 256 * q_part W k t + (W (4 * k + t)).toNat
def q_x (W : Nat → Int) (k : Nat) : Nat := q_part W k 4
def q_pk (W : Nat → Int) (k : Nat) : Int := (nI (q_x W k)).toInt
/-- bytes -/
def q_by (W : Nat → Int) (m : Nat) : Prop := ∀ i, i < m → 0 ≤ W i ∧ W i ≤ 255
theorem q_x_eq {W : Nat → Int} {k : Nat} : q_x W k = 16777216 * (W (4 * k)).toNat + 65536 * (W (4 * k + 1)).toNat + 256 * (W (4 * k + 2)).toNat + (W (4 * k + 3)).toNat := by
  show 256 * (256 * (256 * (256 * 0 + (W (4 * k + 0)).toNat) + (W (4 * k + 1)).toNat) + (W (4 * k + 2)).toNat) + (W (4 * k + 3)).toNat = _
  rw [Nat.add_zero (4 * k)]
  omega
theorem q_pk_iff {W V : Nat → Int} {k m : Nat} (hW : q_by W m) (hV : q_by V m) (hk : 4 * k + 4 ≤ m) : q_pk W k = q_pk V k ↔ ∀ t, t < 4 → W (4 * k + t) = V (4 * k + t) := by
  have w0 := hW (4 * k) (by omega); have w1 := hW (4 * k + 1) (by omega); have w2 := hW (4 * k + 2) (by omega); have w3 := hW (4 * k + 3) (by omega)
  have v0 := hV (4 * k) (by omega); have v1 := hV (4 * k + 1) (by omega); have v2 := hV (4 * k + 2) (by omega); have v3 := hV (4 * k + 3) (by omega)
  constructor
  · intro h
    have h := nI_inj (by rw [q_x_eq]; omega) (by rw [q_x_eq]; omega) h
    rw [q_x_eq, q_x_eq] at h
    intro t ht
    match t, ht with
    | 0, _ => rw [Nat.add_zero]; omega
    | 1, _ => omega
    | 2, _ => omega
    | 3, _ => omega
    | t + 4, ht => omega
  · intro h
    have h0 := h 0 (by omega)
    rw [Nat.add_zero] at h0
    unfold q_pk
    rw [q_x_eq, q_x_eq, h0, h 1 (by omega), h 2 (by omega), h 3 (by omega)]
theorem q_un {W : Nat → Int} {k m i : Nat} (hW : q_by W m) (hk : 4 * k + 4 ≤ m) (hi : 4 * k ≤ i) (hi2 : i < 4 * k + 4) : g_and (g_ushr (q_pk W k) (8 * (3 - ((i : Int) % 4)))) 255 = W i := by
  have w0 := hW (4 * k) (by omega); have w1 := hW (4 * k + 1) (by omega); have w2 := hW (4 * k + 2) (by omega); have w3 := hW (4 * k + 3) (by omega)
  unfold q_pk
  rw [q_x_eq]
  obtain ⟨t, rfl⟩ : ∃ t, i = 4 * k + t := ⟨i - 4 * k, by omega⟩
  have ht : t < 4 := by omega
  rw [show 8 * (3 - (((4 * k + t : Nat) : Int) % 4)) = ((8 * (3 - t) : Nat) : Int) by omega, pk_byte (by omega)]
  match t, ht with
  | 0, _ => rw [show 2 ^ (8 * (3 - 0)) = 16777216 from rfl]; simp only [Nat.add_zero]; omega
  | 1, _ => rw [show 2 ^ (8 * (3 - 1)) = 65536 from rfl]; omega
  | 2, _ => rw [show 2 ^ (8 * (3 - 2)) = 256 from rfl]; omega
  | 3, _ => rw [show 2 ^ (8 * (3 - 3)) = 1 from rfl]; omega
  | t + 4, ht => omega
theorem g_and8_mod (v : Int) : g_and8 v 4294967295 = v % 4294967296 := by
  unfold g_and8
  have e : (Int64.ofInt v &&& Int64.ofInt 4294967295).toBitVec.toNat = (v % 4294967296).toNat := by
    rw [Int64.toBitVec_and, BitVec.toNat_and, Int64.toBitVec_ofInt, Int64.toBitVec_ofInt, BitVec.toNat_ofInt, BitVec.toNat_ofInt]
    rw [show ((4294967295 : Int) % ((2 ^ 64 : Nat) : Int)).toNat = 2 ^ 32 - 1 by decide, Nat.and_two_pow_sub_one_eq_mod]
    rw [show ((2 ^ 64 : Nat) : Int) = 18446744073709551616 by decide, show (2 ^ 32 : Nat) = 4294967296 by decide]
    omega
  show (Int64.ofInt v &&& Int64.ofInt 4294967295).toBitVec.toInt = _
  rw [BitVec.toInt_eq_toNat_of_lt (by rw [e]; omega), e]
  omega
theorem nI_mod {x : Nat} (hx : x < 4294967296) : (nI x).toInt % 4294967296 = x := by
  have e : (nI x).toInt = Int.bmod (x : Int) (2 ^ 32) := Int32.toInt_ofNat'
  rw [e]
  unfold Int.bmod
  dsimp only
  rw [show ((2 ^ 32 : Nat) : Int) = 4294967296 by decide]
  split <;> omega
def q_dg (W : Nat → Int) (k : Nat) : Int := ((q_x W k : Nat) * 1664525 + 1013904223) % 4294967296
section PACK
variable {E : g_E} {l : Launch} {sh : List g_Sh} {D : g_D} {W : Nat → Int}
theorem c_packed {K : Int → g_D → Prop} {r n0 k m : Nat} {v : Int} (hr : sh[r]? = some (.inl (0, n0))) (hn : 4 * k + 4 ≤ n0) (hn2 : n0 ≤ 1000) (hv : v = ((4 * k : Nat) : Int)) (hb : q_by W m) (hm : 4 * k + 4 ≤ m) (hW : ∀ t, t < 4 → D r (4 * k + t) = W (4 * k + t)) (kk : K (q_pk W k) D) : k_X11_packed E l sh D r v K := by
  subst hv
  have key : ∀ q t : Nat, 4 - t = q → t ≤ 4 → n_X11_packed E l sh D 4 [some (g_R r), some (g_I ((4 * k : Nat) : Int)), some (g_I (nI (q_part W k t)).toInt), some (g_I ((4 * k + t : Nat) : Int))] K := by
    intro q
    induction q with
    | zero =>
      intro t hq ht
      obtain rfl : t = 4 := by omega
      exact s_X11_packed_4 hr (fun _ _ _ _ => ⟨⟨by omega, by omega⟩, fun _ => kk, fun w => (by omega : False).elim⟩)
    | succ q ih =>
      intro t hq ht
      refine s_X11_packed_4 hr (fun _ _ _ _ => ⟨⟨by omega, by omega⟩, fun w => (by omega : False).elim, fun _ => ⟨fun w => (by omega : False).elim, fun _ => ⟨by omega, fun w => (by omega : False).elim, fun _ => ⟨by omega, ⟨by omega, by omega⟩, ?_⟩⟩⟩⟩)
      have := hb (4 * k + t) (by omega)
      rw [Int.toNat_natCast, hW t (by omega), show W (4 * k + t) = (((W (4 * k + t)).toNat : Nat) : Int) by omega, pk_step (by omega), g_cast1]
      exact ih (t + 1) (by omega) (by omega)
  exact s_X11_packed hr (fun _ _ => key 4 0 rfl (Nat.zero_le _))
theorem c_dgX {K : Int → g_D → Prop} {k m : Nat} (hb : q_by W m) (hm : 4 * k + 4 ≤ m) (kk : K (q_dg W k) D) : k_X11_digestOf E l sh D (q_pk W k) K := by
  have w0 := hb (4 * k) (by omega); have w1 := hb (4 * k + 1) (by omega); have w2 := hb (4 * k + 2) (by omega); have w3 := hb (4 * k + 3) (by omega)
  have hx : q_x W k < 4294967296 := by rw [q_x_eq]; omega
  have e : g_and8 (q_pk W k) 4294967295 = (q_x W k : Nat) := by rw [g_and8_mod]; exact nI_mod hx
  refine s_X11_digestOf (fun _ _ => ?_)
  rw [e, g_and8_mod]
  exact ⟨⟨by omega, by omega⟩, ⟨by omega, by omega⟩, kk⟩
theorem c_dgM {K : Int → g_D → Prop} {k m : Nat} (hb : q_by W m) (hm : 4 * k + 4 ≤ m) (kk : K (q_dg W k) D) : k_X12_digestOf E l sh D (W (4 * k)) (W (4 * k + 1)) (W (4 * k + 2)) (W (4 * k + 3)) K := by
  have w0 := hb (4 * k) (by omega); have w1 := hb (4 * k + 1) (by omega); have w2 := hb (4 * k + 2) (by omega); have w3 := hb (4 * k + 3) (by omega)
  have e : 16777216 * W (4 * k) + 65536 * W (4 * k + 1) + 256 * W (4 * k + 2) + W (4 * k + 3) = (q_x W k : Nat) := by rw [q_x_eq]; omega
  refine s_X12_digestOf (fun _ _ _ _ _ => ?_)
  rw [e]
  have hx : q_x W k < 4294967296 := by rw [q_x_eq]; omega
  exact ⟨⟨by omega, by omega⟩, ⟨by omega, by omega⟩, ⟨by omega, by omega⟩, ⟨by omega, by omega⟩, ⟨by omega, by omega⟩, ⟨by omega, by omega⟩, ⟨by omega, by omega⟩, ⟨by omega, by omega⟩, by omega, kk⟩
end PACK
end
