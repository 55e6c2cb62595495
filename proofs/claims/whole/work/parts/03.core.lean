/-! THE PURE LAYER: whole numbers are Int, references are places in a list of shapes, data is a function of place and slot. -/
abbrev g_V : Type := Int ⊕ Int ⊕ Nat ⊕ Option Nat
abbrev g_I (n : Int) : g_V := .inl n
abbrev g_J (n : Int) : g_V := .inr (.inl n)
abbrev g_R (k : Nat) : g_V := .inr (.inr (.inl k))
abbrev g_F (k : Nat) : g_V := .inr (.inr (.inr (some k)))
abbrev g_0 : g_V := .inr (.inr (.inr none))
abbrev g_Sh : Type := (Nat × Nat) ⊕ (Nat × Nat × (Nat → Option Nat)) ⊕ (Nat × List (Option (Option Nat)))
abbrev g_D : Type := Nat → Nat → Int
abbrev g_E : Type := (Nat → ClassId) × (Nat → Nat → Nat) × (Nat → ClassId) × (Nat → Nat) × Nat × (Nat → Int32)
abbrev g_Md : Type := MethodName × ByteArray × Nat × Option FieldType
def g_cv (E : g_E) (a : Nat → Nat) : g_V → Value
  | .inl n => .int (Int32.ofInt n)
  | .inr (.inl n) => .long (Int64.ofInt n)
  | .inr (.inr (.inl k)) => .ref (a k)
  | .inr (.inr (.inr (some k))) => .ref (E.2.2.2.1 k)
  | .inr (.inr (.inr none)) => .null
def g_fv (a : Nat → Nat) (d : Nat → Int) (j : Nat) (o : Option (Option Nat)) : Value := match o with
  | none => .int (Int32.ofInt (d j))
  | some none => .null
  | some (some r) => .ref (a r)
def g_ce (E : g_E) (a : Nat → Nat) (e : g_Sh) (d : Nat → Int) : va_E := match e with
  | .inl (ty, n) => .inl (E.2.2.1 ty, n, .inl (fun j => Int32.ofInt (d j)))
  | .inr (.inl (ty, n, f)) => .inl (E.2.2.1 ty, n, .inr (.inr (.inr (.inr (fun j => (f j).map a)))))
  | .inr (.inr (ci, fs)) => .inr (ci, fs.mapIdx (g_fv a d))
def g_cw (E : g_E) (a : Nat → Nat) (sh : List g_Sh) (D : g_D) : va_W := sh.mapIdx (fun k e => (a k, g_ce E a e (D k)))
theorem g_cw_at (E : g_E) (a : Nat → Nat) (sh : List g_Sh) (D : g_D) (k : Nat) : (g_cw E a sh D)[k]? = sh[k]?.map (fun e => (a k, g_ce E a e (D k))) := by
  unfold g_cw
  rw [List.getElem?_mapIdx]
theorem g_cw_some {E : g_E} {a : Nat → Nat} {sh : List g_Sh} {D : g_D} {k : Nat} {e : g_Sh} (h : sh[k]? = some e) : (g_cw E a sh D)[k]? = some (a k, g_ce E a e (D k)) := by
  rw [g_cw_at, h]; rfl
theorem g_cw_len (E : g_E) (a : Nat → Nat) (sh : List g_Sh) (D : g_D) : (g_cw E a sh D).length = sh.length := by simp [g_cw]
def g_up (D : g_D) (k j : Nat) (v : Int) : g_D := fun k' j' => if k' = k ∧ j' = j then v else D k' j'
theorem g_up_ne {D : g_D} {k j : Nat} {v : Int} {k' : Nat} (h : k' ≠ k) : g_up D k j v k' = D k' := by
  funext j'
  simp [g_up, h]
theorem g_up_at {D : g_D} {k j : Nat} {v : Int} {j' : Nat} (h : j' ≠ j) (k' : Nat) : g_up D k j v k' j' = D k' j' := by
  simp [g_up, h]
theorem g_up_eq {D : g_D} {k j : Nat} {v : Int} : g_up D k j v k j = v := by simp [g_up]
/-- a row of data is put -/
def g_row (D : g_D) (k : Nat) (r : Nat → Int) : g_D := fun k' => if k' = k then r else D k'
theorem g_row_ne {D : g_D} {k : Nat} {r : Nat → Int} {k' : Nat} (h : k' ≠ k) : g_row D k r k' = D k' := by simp [g_row, h]
theorem g_row_eq {D : g_D} {k : Nat} {r : Nat → Int} : g_row D k r k = r := by simp [g_row]
theorem g_cw_set {E : g_E} {a : Nat → Nat} {sh sh' : List g_Sh} {D D' : g_D} {k : Nat} {e : g_Sh} (hk : k < sh.length) (hs : sh' = sh.set k e) (hD : ∀ k', k' ≠ k → D' k' = D k') : (g_cw E a sh D).set k (a k, g_ce E a e (D' k)) = g_cw E a sh' D' := by
  subst hs
  apply List.ext_getElem?
  intro i
  by_cases hi : i = k
  · subst hi
    rw [List.getElem?_set_self (by rw [g_cw_len]; exact hk), g_cw_at, List.getElem?_set_self hk]
    rfl
  · rw [List.getElem?_set_ne (Ne.symm hi), g_cw_at, g_cw_at, List.getElem?_set_ne (Ne.symm hi), hD i hi]
theorem g_set_self {sh : List g_Sh} {k : Nat} {e : g_Sh} (h : sh[k]? = some e) : sh = sh.set k e := by
  apply List.ext_getElem?
  intro i
  by_cases hi : i = k
  · subst hi
    rw [List.getElem?_set_self (List.getElem?_eq_some_iff.mp h).1, h]
  · rw [List.getElem?_set_ne (Ne.symm hi)]
theorem g_cw_push {E : g_E} {a a' : Nat → Nat} {sh : List g_Sh} {D : g_D} {e : g_Sh} {q : Nat} {r : Nat → Int} (ha : ∀ k, k < sh.length → a' k = a k) (hq : a' sh.length = q) (hok : ∀ (k : Nat) (e : g_Sh), sh[k]? = some e → g_ce E a' e (D k) = g_ce E a e (D k)) : g_cw E a sh D ++ [(q, g_ce E a' e r)] = g_cw E a' (sh ++ [e]) (g_row D sh.length r) := by
  apply List.ext_getElem?
  intro i
  by_cases hi : i < sh.length
  · rw [List.getElem?_append_left (by rw [g_cw_len]; exact hi), g_cw_at, g_cw_at, List.getElem?_append_left hi, g_row_ne (Nat.ne_of_lt hi), ha i hi]
    have h1 : sh[i]? = some (sh[i]'hi) := List.getElem?_eq_getElem hi
    rw [h1]
    simp only [Option.map_some]
    rw [hok i _ h1]
  · rw [List.getElem?_append_right (by rw [g_cw_len]; omega), g_cw_len, g_cw_at, List.getElem?_append_right (by omega)]
    by_cases h0 : i = sh.length
    · subst h0
      simp [g_row, hq]
    · rw [List.getElem?_eq_none (by simp; omega), List.getElem?_eq_none (by simp; omega)]
      rfl
/-- ranges -/
def g_r (x : Int) : Prop := -2147483648 ≤ x ∧ x ≤ 2147483647
def g_r8 (x : Int) : Prop := -9223372036854775808 ≤ x ∧ x ≤ 9223372036854775807
theorem g_rT {x : Int} (h : g_r x) : (Int32.ofInt x).toInt = x := Int32.toInt_ofInt_of_le (by have := h.1; omega) (by have := h.2; omega)
theorem g_rT8 {x : Int} (h : g_r8 x) : (Int64.ofInt x).toInt = x := Int64.toInt_ofInt_of_le (by have := h.1; omega) (by have := h.2; omega)
theorem g_rof (x : Int32) : g_r x.toInt := ⟨by have := x.le_toInt; omega, by have := x.toInt_lt; omega⟩
theorem g_le {x y : Int} (hx : g_r x) (hy : g_r y) : (Int32.ofInt x ≤ Int32.ofInt y) ↔ x ≤ y := by rw [Int32.le_iff_toInt_le, g_rT hx, g_rT hy]
theorem g_lt {x y : Int} (hx : g_r x) (hy : g_r y) : (Int32.ofInt x < Int32.ofInt y) ↔ x < y := by rw [Int32.lt_iff_toInt_lt, g_rT hx, g_rT hy]
theorem g_eq {x y : Int} (hx : g_r x) (hy : g_r y) : (Int32.ofInt x = Int32.ofInt y) ↔ x = y := by rw [← Int32.toInt_inj, g_rT hx, g_rT hy]
theorem g_le8 {x y : Int} (hx : g_r8 x) (hy : g_r8 y) : (Int64.ofInt x ≤ Int64.ofInt y) ↔ x ≤ y := by rw [Int64.le_iff_toInt_le, g_rT8 hx, g_rT8 hy]
theorem g_lt8 {x y : Int} (hx : g_r8 x) (hy : g_r8 y) : (Int64.ofInt x < Int64.ofInt y) ↔ x < y := by rw [Int64.lt_iff_toInt_lt, g_rT8 hx, g_rT8 hy]
theorem g_eq8 {x y : Int} (hx : g_r8 x) (hy : g_r8 y) : (Int64.ofInt x = Int64.ofInt y) ↔ x = y := by rw [← Int64.toInt_inj, g_rT8 hx, g_rT8 hy]
theorem g_nat {x : Int} (h : g_r x) : (Int32.ofInt x).toNatClampNeg = x.toNat := Int32.toNatClampNeg_ofInt_of_le (by have := h.1; omega) (by have := h.2; omega)
theorem g_nn {x : Int} (h : g_r x) (h0 : 0 ≤ x) : ¬ Int32.ofInt x < 0 := by
  rw [Int32.lt_iff_toInt_lt, g_rT h, Int32.toInt_zero]; omega
theorem g_in {x : Int} {n : Nat} (h : g_r x) (h0 : 0 ≤ x) (hn : x < n) : vp_in (Int32.ofInt x) n := by
  rw [vp_in_iff, g_rT h]; exact ⟨h0, hn⟩
/-- what holds of values: numbers in range, references to cells that are -/
def g_okV (n : Nat) : g_V → Prop
  | .inl x => g_r x
  | .inr (.inl x) => g_r8 x
  | .inr (.inr (.inl k)) => k < n
  | .inr (.inr (.inr (some k))) => k < 4
  | .inr (.inr (.inr none)) => True
def g_okE (n : Nat) : g_Sh → Prop
  | .inl _ => True
  | .inr (.inl (_, _, f)) => ∀ (j r : Nat), f j = some r → r < n
  | .inr (.inr (_, fs)) => ∀ (j r : Nat), fs[j]? = some (some (some r)) → r < n
def g_okH (sh : List g_Sh) : Prop := ∀ (k : Nat) (e : g_Sh), sh[k]? = some e → g_okE sh.length e
def g_okD (D : g_D) : Prop := ∀ k j, g_r (D k j)
def g_okL (n : Nat) (L : List (Option g_V)) : Prop := ∀ (i : Nat) (v : g_V), L[i]? = some (some v) → g_okV n v
def g_okS (n : Nat) (S : List g_V) : Prop := ∀ v ∈ S, g_okV n v
def g_ok (sh : List g_Sh) (D : g_D) (L : List (Option g_V)) (S : List g_V) : Prop := g_okH sh ∧ g_okD D ∧ g_okL sh.length L ∧ g_okS sh.length S
theorem g_okV.mono {n n' : Nat} (h : n ≤ n') : ∀ {v : g_V}, g_okV n v → g_okV n' v
  | .inl _, q => q
  | .inr (.inl _), q => q
  | .inr (.inr (.inl _)), q => Nat.lt_of_lt_of_le q h
  | .inr (.inr (.inr (some _))), q => q
  | .inr (.inr (.inr none)), _ => trivial
theorem g_okE.mono {n n' : Nat} (h : n ≤ n') : ∀ {e : g_Sh}, g_okE n e → g_okE n' e
  | .inl _, _ => trivial
  | .inr (.inl (_, _, _)), q => fun j r hr => Nat.lt_of_lt_of_le (q j r hr) h
  | .inr (.inr (_, _)), q => fun j r hr => Nat.lt_of_lt_of_le (q j r hr) h
theorem g_cv_eq {E : g_E} {a a' : Nat → Nat} {n : Nat} (ha : ∀ k, k < n → a' k = a k) : ∀ {v : g_V}, g_okV n v → g_cv E a' v = g_cv E a v
  | .inl _, _ => rfl
  | .inr (.inl _), _ => rfl
  | .inr (.inr (.inl k)), q => by show Value.ref (a' k) = .ref (a k); rw [ha k q]
  | .inr (.inr (.inr (some _))), _ => rfl
  | .inr (.inr (.inr none)), _ => rfl
theorem g_ce_eq {E : g_E} {a a' : Nat → Nat} {n : Nat} (ha : ∀ k, k < n → a' k = a k) {d : Nat → Int} : ∀ {e : g_Sh}, g_okE n e → g_ce E a' e d = g_ce E a e d
  | .inl _, _ => rfl
  | .inr (.inl (ty, m, f)), q => by
    have : (fun j => (f j).map a') = (fun j => (f j).map a) := by
      funext j
      cases hf : f j with
      | none => rfl
      | some r => show some (a' r) = some (a r); rw [ha r (q j r hf)]
    simp only [g_ce, this]
  | .inr (.inr (ci, fs)), q => by
    have : fs.mapIdx (g_fv a' d) = fs.mapIdx (g_fv a d) := by
      apply List.ext_getElem?
      intro i
      rw [List.getElem?_mapIdx, List.getElem?_mapIdx]
      cases hf : fs[i]? with
      | none => rfl
      | some o =>
        cases o with
        | none => rfl
        | some o =>
          cases o with
          | none => rfl
          | some r => show some (Value.ref (a' r)) = some (.ref (a r)); rw [ha r (q i r hf)]
    simp only [g_ce, this]
theorem g_map_eq {E : g_E} {a a' : Nat → Nat} {n : Nat} (ha : ∀ k, k < n → a' k = a k) {S : List g_V} (h : g_okS n S) : S.map (g_cv E a') = S.map (g_cv E a) := List.map_congr_left fun v hv => g_cv_eq ha (h v hv)
/-- locals -/
def g_lh (E : g_E) (ls : Array Slot) (nL : Nat) (a : Nat → Nat) (L : List (Option g_V)) : Prop := ls.size = nL ∧ lv_wf ls ∧ ∀ (i : Nat) (v : g_V), L[i]? = some (some v) → ls[i]? = some (.val (g_cv E a v))
def g_lo (E : g_E) (a : Nat → Nat) (L : List (Option g_V)) : List (Nat × Value) := (L.mapIdx (fun i o => o.map (fun v => (i, g_cv E a v)))).filterMap id
theorem g_lo_mem {E : g_E} {a : Nat → Nat} {L : List (Option g_V)} {q : Nat × Value} : q ∈ g_lo E a L ↔ ∃ (i : Nat) (v : g_V), L[i]? = some (some v) ∧ q = (i, g_cv E a v) := by
  unfold g_lo
  rw [List.mem_filterMap]
  constructor
  · rintro ⟨o, ho, hq⟩
    obtain ⟨i, hi⟩ := List.getElem?_of_mem ho
    rw [List.getElem?_mapIdx] at hi
    cases hL : L[i]? with
    | none => rw [hL] at hi; cases hi
    | some x =>
      rw [hL] at hi
      cases x with
      | none => simp at hi; subst hi; cases hq
      | some v =>
        simp at hi
        subst hi
        exact ⟨i, v, hL, (Option.some.inj hq).symm⟩
  · rintro ⟨i, v, hL, rfl⟩
    refine ⟨some (i, g_cv E a v), ?_, rfl⟩
    exact List.mem_of_getElem? (i := i) (by rw [List.getElem?_mapIdx, hL]; rfl)
theorem g_lh.has {E : g_E} {ls : Array Slot} {nL : Nat} {a : Nat → Nat} {L : List (Option g_V)} (h : g_lh E ls nL a L) : lv_has ls nL (g_lo E a L) := ⟨h.1, h.2.1, fun q hq => by
  obtain ⟨i, v, hL, rfl⟩ := g_lo_mem.mp hq
  exact h.2.2 i v hL⟩
def g_isJ : Option (Option g_V) → Bool
  | some (some (.inr (.inl _))) => true
  | _ => false
/-- a value of one word is put into the locals -/
def g_s1 (L : List (Option g_V)) (i : Nat) (v : g_V) : List (Option g_V) := match i with
  | 0 => L.set 0 (some v)
  | j + 1 => if g_isJ L[j]? then (L.set j none).set (j + 1) (some v) else L.set (j + 1) (some v)
def g_s2 (L : List (Option g_V)) (i : Nat) (v : g_V) : List (Option g_V) := (g_s1 L i v).set (i + 1) none
theorem g_s1_at {L : List (Option g_V)} {i : Nat} {v : g_V} {k : Nat} {w : g_V} (h : (g_s1 L i v)[k]? = some (some w)) : (k = i ∧ w = v) ∨ (k ≠ i ∧ L[k]? = some (some w) ∧ ¬ (k + 1 = i ∧ g_isJ L[k]? = true)) := by
  unfold g_s1 at h
  cases i with
  | zero =>
    by_cases hk : k = 0
    · subst hk
      left
      rw [List.getElem?_set] at h
      simp at h
      exact ⟨rfl, h.2.symm⟩
    · right
      rw [List.getElem?_set_ne (Ne.symm hk)] at h
      exact ⟨hk, h, by omega⟩
  | succ j =>
    by_cases hJ : g_isJ L[j]? = true
    · simp only [hJ, if_true] at h
      by_cases hk : k = j + 1
      · subst hk
        left
        rw [List.getElem?_set] at h
        simp at h
        exact ⟨rfl, h.2.symm⟩
      · right
        rw [List.getElem?_set_ne (Ne.symm hk)] at h
        by_cases hk2 : k = j
        · subst hk2
          rw [List.getElem?_set] at h
          simp at h
        · rw [List.getElem?_set_ne (Ne.symm hk2)] at h
          exact ⟨hk, h, by omega⟩
    · simp only [hJ] at h
      by_cases hk : k = j + 1
      · subst hk
        left
        simp only [Bool.false_eq_true, if_false] at h
        rw [List.getElem?_set] at h
        simp at h
        exact ⟨rfl, h.2.symm⟩
      · right
        simp only [Bool.false_eq_true, if_false] at h
        rw [List.getElem?_set_ne (Ne.symm hk)] at h
        exact ⟨hk, h, fun q => hJ (by rw [← (show k = j by omega)]; exact q.2)⟩
theorem g_cat2 {E : g_E} {a : Nat → Nat} : ∀ {v : g_V}, (g_cv E a v).category = 2 → g_isJ (some (some v)) = true
  | .inl _, h => by simp [g_cv, Value.category] at h
  | .inr (.inl _), _ => rfl
  | .inr (.inr (.inl _)), h => by simp [g_cv, Value.category] at h
  | .inr (.inr (.inr (some _))), h => by simp [g_cv, Value.category] at h
  | .inr (.inr (.inr none)), h => by simp [g_cv, Value.category] at h
theorem g_lh.of1 {E : g_E} {ls : Array Slot} {nL : Nat} {a : Nat → Nat} {L : List (Option g_V)} {i : Nat} {v : g_V} (h : lv_has ls nL ((i, g_cv E a v) :: (g_lo E a L).filter (fun q => !(q.1 == i) && !(q.1 + 1 == i && q.2.category == 2)))) : g_lh E ls nL a (g_s1 L i v) := by
  refine ⟨h.1, h.2.1, fun k w hk => ?_⟩
  rcases g_s1_at hk with ⟨rfl, rfl⟩ | ⟨h1, h2, h3⟩
  · exact h.2.2 (k, g_cv E a w) List.mem_cons_self
  · refine h.2.2 (k, g_cv E a w) (List.mem_cons_of_mem _ (List.mem_filter.mpr ⟨g_lo_mem.mpr ⟨k, w, h2, rfl⟩, ?_⟩))
    simp only [Bool.and_eq_true, Bool.not_eq_true', beq_eq_false_iff_ne, ne_eq, Bool.and_eq_false_iff]
    refine ⟨h1, ?_⟩
    by_cases hk1 : k + 1 = i
    · right
      intro hc
      exact h3 ⟨hk1, by rw [h2]; exact g_cat2 hc⟩
    · left
      exact hk1
theorem g_lh.of2 {E : g_E} {ls : Array Slot} {nL : Nat} {a : Nat → Nat} {L : List (Option g_V)} {i : Nat} {v : g_V} (h : lv_has ls nL ((i, g_cv E a v) :: (g_lo E a L).filter (fun q => !(q.1 == i) && (!(q.1 == i + 1) && !(q.1 + 1 == i && q.2.category == 2))))) : g_lh E ls nL a (g_s2 L i v) := by
  refine ⟨h.1, h.2.1, fun k w hk => ?_⟩
  unfold g_s2 at hk
  have hki : k ≠ i + 1 := by
    intro q
    subst q
    rw [List.getElem?_set] at hk
    simp at hk
  rw [List.getElem?_set_ne (Ne.symm hki)] at hk
  rcases g_s1_at hk with ⟨rfl, rfl⟩ | ⟨h1, h2, h3⟩
  · exact h.2.2 (k, g_cv E a w) List.mem_cons_self
  · refine h.2.2 (k, g_cv E a w) (List.mem_cons_of_mem _ (List.mem_filter.mpr ⟨g_lo_mem.mpr ⟨k, w, h2, rfl⟩, ?_⟩))
    simp only [Bool.and_eq_true, Bool.not_eq_true', beq_eq_false_iff_ne, ne_eq, Bool.and_eq_false_iff]
    refine ⟨h1, hki, ?_⟩
    by_cases hk1 : k + 1 = i
    · right
      intro hc
      exact h3 ⟨hk1, by rw [h2]; exact g_cat2 hc⟩
    · left
      exact hk1
theorem g_okL.s1 {n : Nat} {L : List (Option g_V)} {i : Nat} {v : g_V} (h : g_okL n L) (hv : g_okV n v) : g_okL n (g_s1 L i v) := fun k w hk => by
  rcases g_s1_at hk with ⟨rfl, rfl⟩ | ⟨h1, h2, h3⟩
  · exact hv
  · exact h k w h2
theorem g_okL.s2 {n : Nat} {L : List (Option g_V)} {i : Nat} {v : g_V} (h : g_okL n L) (hv : g_okV n v) : g_okL n (g_s2 L i v) := fun k w hk => by
  unfold g_s2 at hk
  by_cases hki : k = i + 1
  · subst hki
    rw [List.getElem?_set] at hk
    simp at hk
  · rw [List.getElem?_set_ne (Ne.symm hki)] at hk
    rcases g_s1_at hk with ⟨rfl, rfl⟩ | ⟨h1, h2, h3⟩
    · exact hv
    · exact h k w h2
theorem g_lh.re {E : g_E} {ls : Array Slot} {nL : Nat} {a a' : Nat → Nat} {L : List (Option g_V)} {n : Nat} (h : g_lh E ls nL a L) (hL : g_okL n L) (ha : ∀ k, k < n → a' k = a k) : g_lh E ls nL a' L := ⟨h.1, h.2.1, fun i v hi => by rw [g_cv_eq ha (hL i v hi)]; exact h.2.2 i v hi⟩
