/-! ===== Int32 by its bits: bt x i ===== -/
def bt (x : Int32) (i : Nat) : Bool := x.toBitVec.getLsbD i
theorem b_ext {x y : Int32} (h : ∀ i, i < 32 → bt x i = bt y i) : x = y := Int32.toBitVec_inj.mp (BitVec.eq_of_getLsbD_eq (fun i hi => h i hi))
theorem b_or (x y : Int32) (i : Nat) : bt (x ||| y) i = (bt x i || bt y i) := by unfold bt; rw [Int32.toBitVec_or, BitVec.getLsbD_or]
theorem b_and (x y : Int32) (i : Nat) : bt (x &&& y) i = (bt x i && bt y i) := by unfold bt; rw [Int32.toBitVec_and, BitVec.getLsbD_and]
theorem b_xor (x y : Int32) (i : Nat) : bt (x ^^^ y) i = (bt x i ^^ bt y i) := by unfold bt; rw [Int32.toBitVec_xor, BitVec.getLsbD_xor]
theorem b_big {x : Int32} {i : Nat} (h : 32 ≤ i) : bt x i = false := BitVec.getLsbD_of_ge _ _ h
theorem b_255 (i : Nat) : bt 255 i = decide (i < 8) := by
  rcases Nat.lt_or_ge i 32 with h | h
  · exact (by decide +kernel : ∀ i, i < 32 → bt 255 i = decide (i < 8)) i h
  · rw [b_big h, decide_eq_false (by omega)]
theorem b_65535 (i : Nat) : bt 65535 i = decide (i < 16) := by
  rcases Nat.lt_or_ge i 32 with h | h
  · exact (by decide +kernel : ∀ i, i < 32 → bt 65535 i = decide (i < 16)) i h
  · rw [b_big h, decide_eq_false (by omega)]
theorem b_m1 : ∀ i, i < 32 → bt (-1) i = true := by decide +kernel
theorem b_0 (i : Nat) : bt 0 i = false := BitVec.getLsbD_zero
theorem s_l : ∀ n, n < 32 → ((nI n &&& 31).toBitVec.smod 32).toNat = n := by decide +kernel
theorem s_u : ∀ n, n < 32 → (((nI n).toUInt32 &&& Int32.toUInt32 31).toBitVec % 32).toNat = n := by decide +kernel
theorem b_shl (n : Nat) (hn : n < 32) (x : Int32) {i : Nat} (hi : i < 32) : bt (x <<< (nI n &&& 31)) i = (decide (n ≤ i) && bt x (i - n)) := by
  unfold bt
  rw [Int32.toBitVec_shiftLeft]
  show (x.toBitVec <<< ((nI n &&& 31).toBitVec.smod 32).toNat).getLsbD i = _
  rw [s_l n hn, BitVec.getLsbD_shiftLeft]
  rcases Nat.lt_or_ge i n with h | h
  · simp [h, Nat.not_le.mpr h]
  · simp [hi, h, Nat.not_lt.mpr h]
theorem b_ushr (n : Nat) (hn : n < 32) (x : Int32) (i : Nat) : bt ((x.toUInt32 >>> ((nI n).toUInt32 &&& Int32.toUInt32 31)).toInt32) i = bt x (n + i) := by
  show (x.toUInt32 >>> ((nI n).toUInt32 &&& Int32.toUInt32 31)).toBitVec.getLsbD i = x.toUInt32.toBitVec.getLsbD (n + i)
  rw [UInt32.toBitVec_shiftRight]
  show (x.toUInt32.toBitVec >>> (((nI n).toUInt32 &&& Int32.toUInt32 31).toBitVec % 32).toNat).getLsbD i = _
  rw [s_u n hn, BitVec.getLsbD_ushiftRight]
theorem b_sshr (n : Nat) (hn : n < 32) (x : Int32) {i : Nat} (hi : i < 32) : bt (x >>> (nI n &&& 31)) i = if n + i < 32 then bt x (n + i) else bt x 31 := by
  unfold bt
  rw [Int32.toBitVec_shiftRight]
  show (x.toBitVec.sshiftRight ((nI n &&& 31).toBitVec.smod 32).toNat).getLsbD i = _
  rw [s_l n hn, BitVec.getLsbD_sshiftRight, BitVec.msb_eq_getLsbD_last]
  simp [hi]
theorem b_shl8 (x : Int32) {i : Nat} (hi : i < 32) : bt (x <<< ((8 : Int32) &&& 31)) i = (decide (8 ≤ i) && bt x (i - 8)) := b_shl 8 (by omega) x hi
theorem b_shl16 (x : Int32) {i : Nat} (hi : i < 32) : bt (x <<< ((16 : Int32) &&& 31)) i = (decide (16 ≤ i) && bt x (i - 16)) := b_shl 16 (by omega) x hi
theorem b_shl24 (x : Int32) {i : Nat} (hi : i < 32) : bt (x <<< ((24 : Int32) &&& 31)) i = (decide (24 ≤ i) && bt x (i - 24)) := b_shl 24 (by omega) x hi
theorem b_sshr8 (x : Int32) {i : Nat} (hi : i < 32) : bt (x >>> ((8 : Int32) &&& 31)) i = if 8 + i < 32 then bt x (8 + i) else bt x 31 := b_sshr 8 (by omega) x hi
theorem nx_and (a b : Nat) : nI a &&& nI b = nI (a &&& b) := by
  apply Int32.toBitVec_inj.1
  show BitVec.ofNat 32 a &&& BitVec.ofNat 32 b = BitVec.ofNat 32 (a &&& b)
  apply BitVec.eq_of_getLsbD_eq
  intro i hi
  simp [hi]
theorem nx_xor (a b : Nat) : nI a ^^^ nI b = nI (a ^^^ b) := by
  apply Int32.toBitVec_inj.1
  show BitVec.ofNat 32 a ^^^ BitVec.ofNat 32 b = BitVec.ofNat 32 (a ^^^ b)
  apply BitVec.eq_of_getLsbD_eq
  intro i hi
  simp [hi]
/-! own rows: the pure layer's words on natural numbers -/
theorem bt_nI (x : Nat) {i : Nat} (hi : i < 32) : bt (nI x) i = x.testBit i := by
  show (BitVec.ofNat 32 x).getLsbD i = _
  rw [BitVec.getLsbD_ofNat]
  simp [hi]
theorem g_ofN (x : Nat) : Int32.ofInt (x : Int) = nI x := Int32.ofInt_eq_ofNat
theorem g_and_n {x y : Nat} (h : x < 2 ^ 31) : g_and (x : Int) (y : Int) = ((x &&& y : Nat) : Int) := by
  unfold g_and
  rw [g_ofN, g_ofN, nx_and, nI_toInt (Nat.lt_of_le_of_lt Nat.and_le_left h)]
theorem g_or_n {x y : Nat} (h : x < 2 ^ 31) (h2 : y < 2 ^ 31) : g_or (x : Int) (y : Int) = ((x ||| y : Nat) : Int) := by
  unfold g_or
  have e : nI x ||| nI y = nI (x ||| y) := b_ext (fun i hi => by rw [b_or, bt_nI x hi, bt_nI y hi, bt_nI _ hi, Nat.testBit_or])
  rw [g_ofN, g_ofN, e, nI_toInt (Nat.or_lt_two_pow h h2)]
/-- x without the bits of y -/
theorem g_andn_n {x y : Nat} (h : x < 2 ^ 31) : g_and (x : Int) (g_xor (y : Int) (-1)) = ((x ^^^ (x &&& y) : Nat) : Int) := by
  unfold g_and g_xor
  rw [Int32.ofInt_toInt, g_ofN, g_ofN]
  have e : nI x &&& (nI y ^^^ Int32.ofInt (-1)) = nI (x ^^^ (x &&& y)) := b_ext (fun i hi => by
    rw [b_and, b_xor, bt_nI x hi, bt_nI y hi, bt_nI _ hi, show Int32.ofInt (-1) = -1 from rfl, b_m1 i hi, Nat.testBit_xor, Nat.testBit_and]
    cases x.testBit i <;> cases y.testBit i <;> rfl)
  rw [e, nI_toInt (Nat.xor_lt_two_pow h (Nat.lt_of_le_of_lt Nat.and_le_left h))]
theorem g_shl1_n {k : Nat} (h : k < 31) : g_shl 1 (k : Int) = ((2 ^ k : Nat) : Int) := by
  unfold g_shl
  rw [g_ofN]
  have e : Int32.ofInt 1 <<< (nI k &&& 31) = nI (2 ^ k) := b_ext (fun i hi => by
    rw [b_shl k (by omega) _ hi, bt_nI _ hi, show Int32.ofInt 1 = nI 1 from rfl, bt_nI 1 (by omega), Nat.testBit_two_pow]
    by_cases hk : k = i
    · subst hk; simp
    · by_cases hk2 : k ≤ i
      · have h1 : i - k ≠ 0 := by omega
        have : (1 : Nat).testBit (i - k) = false := by
          rw [show (1 : Nat) = 2 ^ 0 from rfl, Nat.testBit_two_pow]
          simp; omega
        simp [this, hk]
      · simp [hk, hk2])
  rw [e, nI_toInt (Nat.pow_lt_pow_right (by decide) h)]
theorem g_ushr_n {x k : Nat} (h : x < 2 ^ 31) (hk : k < 32) : g_ushr (x : Int) (k : Int) = ((x >>> k : Nat) : Int) := by
  unfold g_ushr
  rw [g_ofN, g_ofN]
  have e : ((nI x).toUInt32 >>> ((nI k).toUInt32 &&& Int32.toUInt32 31)).toInt32 = nI (x >>> k) := b_ext (fun i hi => by
    rw [b_ushr k hk, bt_nI _ hi, Nat.testBit_shiftRight]
    rcases Nat.lt_or_ge (k + i) 32 with q | q
    · exact bt_nI x q
    · rw [b_big q, Nat.testBit_lt_two_pow (Nat.lt_of_lt_of_le h (Nat.pow_le_pow_right (by decide) (by omega)))])
  rw [e, nI_toInt (Nat.lt_of_le_of_lt (Nat.shiftRight_le x k) h)]
/-- one bit: (x >>> k) & 1 -/
theorem g_bit_n {x k : Nat} (h : x < 2 ^ 31) (hk : k < 32) : g_and (g_ushr (x : Int) (k : Int)) 1 = if x.testBit k then 1 else 0 := by
  rw [g_ushr_n h hk, show (1 : Int) = ((1 : Nat) : Int) from rfl, g_and_n (Nat.lt_of_le_of_lt (Nat.shiftRight_le x k) h), Nat.and_one_is_mod, Nat.testBit_eq_decide_div_mod_eq, Nat.shiftRight_eq_div_pow]
  have := Nat.mod_lt (x / 2 ^ k) (show 0 < 2 by decide)
  by_cases q : x / 2 ^ k % 2 = 1
  · simp [q]
  · have : x / 2 ^ k % 2 = 0 := by omega
    simp [this]
/-- a byte of a word, by either shift -/
theorem g_byte {v : Int} {s : Nat} (hs : s ≤ 24) : g_and (g_shr v (s : Int)) 255 = g_and (g_ushr v (s : Int)) 255 := by
  unfold g_and g_shr g_ushr
  rw [Int32.ofInt_toInt, Int32.ofInt_toInt, g_ofN]
  congr 1
  refine b_ext (fun i hi => ?_)
  rw [b_and, b_and, show Int32.ofInt 255 = 255 from rfl, b_255, b_sshr s (by omega) _ hi, b_ushr s (by omega)]
  by_cases q : i < 8
  · rw [if_pos (by omega)]
  · simp [q]
theorem g_byte_rng (v : Int) : 0 ≤ g_and v 255 ∧ g_and v 255 ≤ 255 := by
  unfold g_and
  obtain ⟨j, h1, h2⟩ := pk_andE (Int32.ofInt v) (m := Int32.ofInt 255) 8 (by decide +kernel)
  rw [h2, nI_toInt (by omega)]
  omega
