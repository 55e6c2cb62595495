theorem dJ6_bitCount_0f7a4_0 : decode cJ6_bitCount_0f7a4 0 = .ok (.iload_n 0, 1) := by decide +kernel
theorem dJ6_bitCount_0f7a4_1 : decode cJ6_bitCount_0f7a4 1 = .ok (.iload_n 0, 1) := by decide +kernel
theorem dJ6_bitCount_0f7a4_2 : decode cJ6_bitCount_0f7a4 2 = .ok (.iconst 1, 1) := by decide +kernel
theorem dJ6_bitCount_0f7a4_3 : decode cJ6_bitCount_0f7a4 3 = .ok (.iushr, 1) := by decide +kernel
theorem dJ6_bitCount_0f7a4_4 : decode cJ6_bitCount_0f7a4 4 = .ok (.ldc_w 265, 3) := by decide +kernel
theorem dJ6_bitCount_0f7a4_7 : decode cJ6_bitCount_0f7a4 7 = .ok (.iand, 1) := by decide +kernel
theorem dJ6_bitCount_0f7a4_8 : decode cJ6_bitCount_0f7a4 8 = .ok (.isub, 1) := by decide +kernel
theorem dJ6_bitCount_0f7a4_9 : decode cJ6_bitCount_0f7a4 9 = .ok (.istore_n 0, 1) := by decide +kernel
theorem dJ6_bitCount_0f7a4_10 : decode cJ6_bitCount_0f7a4 10 = .ok (.iload_n 0, 1) := by decide +kernel
theorem dJ6_bitCount_0f7a4_11 : decode cJ6_bitCount_0f7a4 11 = .ok (.ldc_w 266, 3) := by decide +kernel
theorem dJ6_bitCount_0f7a4_14 : decode cJ6_bitCount_0f7a4 14 = .ok (.iand, 1) := by decide +kernel
theorem dJ6_bitCount_0f7a4_15 : decode cJ6_bitCount_0f7a4 15 = .ok (.iload_n 0, 1) := by decide +kernel
theorem dJ6_bitCount_0f7a4_16 : decode cJ6_bitCount_0f7a4 16 = .ok (.iconst 2, 1) := by decide +kernel
theorem dJ6_bitCount_0f7a4_17 : decode cJ6_bitCount_0f7a4 17 = .ok (.iushr, 1) := by decide +kernel
theorem dJ6_bitCount_0f7a4_18 : decode cJ6_bitCount_0f7a4 18 = .ok (.ldc_w 266, 3) := by decide +kernel
theorem dJ6_bitCount_0f7a4_21 : decode cJ6_bitCount_0f7a4 21 = .ok (.iand, 1) := by decide +kernel
theorem dJ6_bitCount_0f7a4_22 : decode cJ6_bitCount_0f7a4 22 = .ok (.iadd, 1) := by decide +kernel
theorem dJ6_bitCount_0f7a4_23 : decode cJ6_bitCount_0f7a4 23 = .ok (.istore_n 0, 1) := by decide +kernel
theorem dJ6_bitCount_0f7a4_24 : decode cJ6_bitCount_0f7a4 24 = .ok (.iload_n 0, 1) := by decide +kernel
theorem dJ6_bitCount_0f7a4_25 : decode cJ6_bitCount_0f7a4 25 = .ok (.iload_n 0, 1) := by decide +kernel
theorem dJ6_bitCount_0f7a4_26 : decode cJ6_bitCount_0f7a4 26 = .ok (.iconst 4, 1) := by decide +kernel
theorem dJ6_bitCount_0f7a4_27 : decode cJ6_bitCount_0f7a4 27 = .ok (.iushr, 1) := by decide +kernel
theorem dJ6_bitCount_0f7a4_28 : decode cJ6_bitCount_0f7a4 28 = .ok (.iadd, 1) := by decide +kernel
theorem dJ6_bitCount_0f7a4_29 : decode cJ6_bitCount_0f7a4 29 = .ok (.ldc_w 267, 3) := by decide +kernel
theorem dJ6_bitCount_0f7a4_32 : decode cJ6_bitCount_0f7a4 32 = .ok (.iand, 1) := by decide +kernel
theorem dJ6_bitCount_0f7a4_33 : decode cJ6_bitCount_0f7a4 33 = .ok (.istore_n 0, 1) := by decide +kernel
theorem dJ6_bitCount_0f7a4_34 : decode cJ6_bitCount_0f7a4 34 = .ok (.iload_n 0, 1) := by decide +kernel
theorem dJ6_bitCount_0f7a4_35 : decode cJ6_bitCount_0f7a4 35 = .ok (.iload_n 0, 1) := by decide +kernel
theorem dJ6_bitCount_0f7a4_36 : decode cJ6_bitCount_0f7a4 36 = .ok (.bipush 8, 2) := by decide +kernel
theorem dJ6_bitCount_0f7a4_38 : decode cJ6_bitCount_0f7a4 38 = .ok (.iushr, 1) := by decide +kernel
theorem dJ6_bitCount_0f7a4_39 : decode cJ6_bitCount_0f7a4 39 = .ok (.iadd, 1) := by decide +kernel
theorem dJ6_bitCount_0f7a4_40 : decode cJ6_bitCount_0f7a4 40 = .ok (.istore_n 0, 1) := by decide +kernel
theorem dJ6_bitCount_0f7a4_41 : decode cJ6_bitCount_0f7a4 41 = .ok (.iload_n 0, 1) := by decide +kernel
theorem dJ6_bitCount_0f7a4_42 : decode cJ6_bitCount_0f7a4 42 = .ok (.iload_n 0, 1) := by decide +kernel
theorem dJ6_bitCount_0f7a4_43 : decode cJ6_bitCount_0f7a4 43 = .ok (.bipush 16, 2) := by decide +kernel
theorem dJ6_bitCount_0f7a4_45 : decode cJ6_bitCount_0f7a4 45 = .ok (.iushr, 1) := by decide +kernel
theorem dJ6_bitCount_0f7a4_46 : decode cJ6_bitCount_0f7a4 46 = .ok (.iadd, 1) := by decide +kernel
theorem dJ6_bitCount_0f7a4_47 : decode cJ6_bitCount_0f7a4 47 = .ok (.istore_n 0, 1) := by decide +kernel
theorem dJ6_bitCount_0f7a4_48 : decode cJ6_bitCount_0f7a4 48 = .ok (.iload_n 0, 1) := by decide +kernel
theorem dJ6_bitCount_0f7a4_49 : decode cJ6_bitCount_0f7a4 49 = .ok (.bipush 63, 2) := by decide +kernel
theorem dJ6_bitCount_0f7a4_51 : decode cJ6_bitCount_0f7a4 51 = .ok (.iand, 1) := by decide +kernel
theorem dJ6_bitCount_0f7a4_52 : decode cJ6_bitCount_0f7a4 52 = .ok (.ireturn, 1) := by decide +kernel
abbrev k_J6_bitCount_0f7a4 (E : g_E) (l : Launch) (sh : List g_Sh) (D : g_D) (v0 : Int) (K : Int → g_D → Prop) : Prop := g_Ki E l m_J6_bitCount_0f7a4 0 [g_I v0] sh D K
abbrev n_J6_bitCount_0f7a4 (E : g_E) (l : Launch) (sh : List g_Sh) (D : g_D) (pc : Nat) (L : List (Option g_V)) (K : Int → g_D → Prop) : Prop := g_N E l m_J6_bitCount_0f7a4 0 pc L [] sh D (g_Ri sh K)
theorem s_J6_bitCount_0f7a4 {E : g_E} {l : Launch} {sh : List g_Sh} {D : g_D} {K : Int → g_D → Prop} {v0 : Int}  (hF : g_okD D → g_r v0 → (g_r (v0 - (g_and (g_ushr v0 1) 1431655765))) ∧ ((g_r ((g_and (v0 - (g_and (g_ushr v0 1) 1431655765)) 858993459) + (g_and (g_ushr (v0 - (g_and (g_ushr v0 1) 1431655765)) 2) 858993459))) ∧ ((g_r (((g_and (v0 - (g_and (g_ushr v0 1) 1431655765)) 858993459) + (g_and (g_ushr (v0 - (g_and (g_ushr v0 1) 1431655765)) 2) 858993459)) + (g_ushr ((g_and (v0 - (g_and (g_ushr v0 1) 1431655765)) 858993459) + (g_and (g_ushr (v0 - (g_and (g_ushr v0 1) 1431655765)) 2) 858993459)) 4))) ∧ ((g_r ((g_and (((g_and (v0 - (g_and (g_ushr v0 1) 1431655765)) 858993459) + (g_and (g_ushr (v0 - (g_and (g_ushr v0 1) 1431655765)) 2) 858993459)) + (g_ushr ((g_and (v0 - (g_and (g_ushr v0 1) 1431655765)) 858993459) + (g_and (g_ushr (v0 - (g_and (g_ushr v0 1) 1431655765)) 2) 858993459)) 4)) 252645135) + (g_ushr (g_and (((g_and (v0 - (g_and (g_ushr v0 1) 1431655765)) 858993459) + (g_and (g_ushr (v0 - (g_and (g_ushr v0 1) 1431655765)) 2) 858993459)) + (g_ushr ((g_and (v0 - (g_and (g_ushr v0 1) 1431655765)) 858993459) + (g_and (g_ushr (v0 - (g_and (g_ushr v0 1) 1431655765)) 2) 858993459)) 4)) 252645135) 8))) ∧ ((g_r (((g_and (((g_and (v0 - (g_and (g_ushr v0 1) 1431655765)) 858993459) + (g_and (g_ushr (v0 - (g_and (g_ushr v0 1) 1431655765)) 2) 858993459)) + (g_ushr ((g_and (v0 - (g_and (g_ushr v0 1) 1431655765)) 858993459) + (g_and (g_ushr (v0 - (g_and (g_ushr v0 1) 1431655765)) 2) 858993459)) 4)) 252645135) + (g_ushr (g_and (((g_and (v0 - (g_and (g_ushr v0 1) 1431655765)) 858993459) + (g_and (g_ushr (v0 - (g_and (g_ushr v0 1) 1431655765)) 2) 858993459)) + (g_ushr ((g_and (v0 - (g_and (g_ushr v0 1) 1431655765)) 858993459) + (g_and (g_ushr (v0 - (g_and (g_ushr v0 1) 1431655765)) 2) 858993459)) 4)) 252645135) 8)) + (g_ushr ((g_and (((g_and (v0 - (g_and (g_ushr v0 1) 1431655765)) 858993459) + (g_and (g_ushr (v0 - (g_and (g_ushr v0 1) 1431655765)) 2) 858993459)) + (g_ushr ((g_and (v0 - (g_and (g_ushr v0 1) 1431655765)) 858993459) + (g_and (g_ushr (v0 - (g_and (g_ushr v0 1) 1431655765)) 2) 858993459)) 4)) 252645135) + (g_ushr (g_and (((g_and (v0 - (g_and (g_ushr v0 1) 1431655765)) 858993459) + (g_and (g_ushr (v0 - (g_and (g_ushr v0 1) 1431655765)) 2) 858993459)) + (g_ushr ((g_and (v0 - (g_and (g_ushr v0 1) 1431655765)) 858993459) + (g_and (g_ushr (v0 - (g_and (g_ushr v0 1) 1431655765)) 2) 858993459)) 4)) 252645135) 8)) 16))) ∧ (K (g_and (((g_and (((g_and (v0 - (g_and (g_ushr v0 1) 1431655765)) 858993459) + (g_and (g_ushr (v0 - (g_and (g_ushr v0 1) 1431655765)) 2) 858993459)) + (g_ushr ((g_and (v0 - (g_and (g_ushr v0 1) 1431655765)) 858993459) + (g_and (g_ushr (v0 - (g_and (g_ushr v0 1) 1431655765)) 2) 858993459)) 4)) 252645135) + (g_ushr (g_and (((g_and (v0 - (g_and (g_ushr v0 1) 1431655765)) 858993459) + (g_and (g_ushr (v0 - (g_and (g_ushr v0 1) 1431655765)) 2) 858993459)) + (g_ushr ((g_and (v0 - (g_and (g_ushr v0 1) 1431655765)) 858993459) + (g_and (g_ushr (v0 - (g_and (g_ushr v0 1) 1431655765)) 2) 858993459)) 4)) 252645135) 8)) + (g_ushr ((g_and (((g_and (v0 - (g_and (g_ushr v0 1) 1431655765)) 858993459) + (g_and (g_ushr (v0 - (g_and (g_ushr v0 1) 1431655765)) 2) 858993459)) + (g_ushr ((g_and (v0 - (g_and (g_ushr v0 1) 1431655765)) 858993459) + (g_and (g_ushr (v0 - (g_and (g_ushr v0 1) 1431655765)) 2) 858993459)) 4)) 252645135) + (g_ushr (g_and (((g_and (v0 - (g_and (g_ushr v0 1) 1431655765)) 858993459) + (g_and (g_ushr (v0 - (g_and (g_ushr v0 1) 1431655765)) 2) 858993459)) + (g_ushr ((g_and (v0 - (g_and (g_ushr v0 1) 1431655765)) 858993459) + (g_and (g_ushr (v0 - (g_and (g_ushr v0 1) 1431655765)) 2) 858993459)) 4)) 252645135) 8)) 16)) 63) D)))))) : k_J6_bitCount_0f7a4 E l sh D v0 K := by
  refine g_enter (by decide) (Nat.le_of_ble_eq_true rfl) ?_
  show g_N E l m_J6_bitCount_0f7a4 0 0 [some (g_I v0)] [] sh D (g_Ri sh K)
  refine g_use (fun ok => ?_)
  have hF := hF ok.2.1 (ok.loc (i := 0) rfl)
  refine g_iload_n dJ6_bitCount_0f7a4_0 rfl ?_
  refine g_iload_n dJ6_bitCount_0f7a4_1 rfl ?_
  refine g_iconst dJ6_bitCount_0f7a4_2 ⟨by decide, by decide⟩ ?_
  refine g_iushr dJ6_bitCount_0f7a4_3 ?_
  refine g_ldcw dJ6_bitCount_0f7a4_4 ⟨by decide, by decide⟩ kc_J6_265 ?_
  refine g_iand dJ6_bitCount_0f7a4_7 ?_
  obtain ⟨hc, hF⟩ := hF
  refine g_isub dJ6_bitCount_0f7a4_8 hc ?_
  refine gw_istore_n (L' := [some (g_I (v0 - (g_and (g_ushr v0 1) 1431655765)))]) dJ6_bitCount_0f7a4_9 (by decide) rfl ?_
  refine g_iload_n dJ6_bitCount_0f7a4_10 rfl ?_
  refine g_ldcw dJ6_bitCount_0f7a4_11 ⟨by decide, by decide⟩ kc_J6_266 ?_
  refine g_iand dJ6_bitCount_0f7a4_14 ?_
  refine g_iload_n dJ6_bitCount_0f7a4_15 rfl ?_
  refine g_iconst dJ6_bitCount_0f7a4_16 ⟨by decide, by decide⟩ ?_
  refine g_iushr dJ6_bitCount_0f7a4_17 ?_
  refine g_ldcw dJ6_bitCount_0f7a4_18 ⟨by decide, by decide⟩ kc_J6_266 ?_
  refine g_iand dJ6_bitCount_0f7a4_21 ?_
  obtain ⟨hc, hF⟩ := hF
  refine g_iadd dJ6_bitCount_0f7a4_22 hc ?_
  refine gw_istore_n (L' := [some (g_I ((g_and (v0 - (g_and (g_ushr v0 1) 1431655765)) 858993459) + (g_and (g_ushr (v0 - (g_and (g_ushr v0 1) 1431655765)) 2) 858993459)))]) dJ6_bitCount_0f7a4_23 (by decide) rfl ?_
  refine g_iload_n dJ6_bitCount_0f7a4_24 rfl ?_
  refine g_iload_n dJ6_bitCount_0f7a4_25 rfl ?_
  refine g_iconst dJ6_bitCount_0f7a4_26 ⟨by decide, by decide⟩ ?_
  refine g_iushr dJ6_bitCount_0f7a4_27 ?_
  obtain ⟨hc, hF⟩ := hF
  refine g_iadd dJ6_bitCount_0f7a4_28 hc ?_
  refine g_ldcw dJ6_bitCount_0f7a4_29 ⟨by decide, by decide⟩ kc_J6_267 ?_
  refine g_iand dJ6_bitCount_0f7a4_32 ?_
  refine gw_istore_n (L' := [some (g_I (g_and (((g_and (v0 - (g_and (g_ushr v0 1) 1431655765)) 858993459) + (g_and (g_ushr (v0 - (g_and (g_ushr v0 1) 1431655765)) 2) 858993459)) + (g_ushr ((g_and (v0 - (g_and (g_ushr v0 1) 1431655765)) 858993459) + (g_and (g_ushr (v0 - (g_and (g_ushr v0 1) 1431655765)) 2) 858993459)) 4)) 252645135))]) dJ6_bitCount_0f7a4_33 (by decide) rfl ?_
  refine g_iload_n dJ6_bitCount_0f7a4_34 rfl ?_
  refine g_iload_n dJ6_bitCount_0f7a4_35 rfl ?_
  refine g_bipush dJ6_bitCount_0f7a4_36 ⟨by decide, by decide⟩ ?_
  refine g_iushr dJ6_bitCount_0f7a4_38 ?_
  obtain ⟨hc, hF⟩ := hF
  refine g_iadd dJ6_bitCount_0f7a4_39 hc ?_
  refine gw_istore_n (L' := [some (g_I ((g_and (((g_and (v0 - (g_and (g_ushr v0 1) 1431655765)) 858993459) + (g_and (g_ushr (v0 - (g_and (g_ushr v0 1) 1431655765)) 2) 858993459)) + (g_ushr ((g_and (v0 - (g_and (g_ushr v0 1) 1431655765)) 858993459) + (g_and (g_ushr (v0 - (g_and (g_ushr v0 1) 1431655765)) 2) 858993459)) 4)) 252645135) + (g_ushr (g_and (((g_and (v0 - (g_and (g_ushr v0 1) 1431655765)) 858993459) + (g_and (g_ushr (v0 - (g_and (g_ushr v0 1) 1431655765)) 2) 858993459)) + (g_ushr ((g_and (v0 - (g_and (g_ushr v0 1) 1431655765)) 858993459) + (g_and (g_ushr (v0 - (g_and (g_ushr v0 1) 1431655765)) 2) 858993459)) 4)) 252645135) 8)))]) dJ6_bitCount_0f7a4_40 (by decide) rfl ?_
  refine g_iload_n dJ6_bitCount_0f7a4_41 rfl ?_
  refine g_iload_n dJ6_bitCount_0f7a4_42 rfl ?_
  refine g_bipush dJ6_bitCount_0f7a4_43 ⟨by decide, by decide⟩ ?_
  refine g_iushr dJ6_bitCount_0f7a4_45 ?_
  obtain ⟨hc, hF⟩ := hF
  refine g_iadd dJ6_bitCount_0f7a4_46 hc ?_
  refine gw_istore_n (L' := [some (g_I (((g_and (((g_and (v0 - (g_and (g_ushr v0 1) 1431655765)) 858993459) + (g_and (g_ushr (v0 - (g_and (g_ushr v0 1) 1431655765)) 2) 858993459)) + (g_ushr ((g_and (v0 - (g_and (g_ushr v0 1) 1431655765)) 858993459) + (g_and (g_ushr (v0 - (g_and (g_ushr v0 1) 1431655765)) 2) 858993459)) 4)) 252645135) + (g_ushr (g_and (((g_and (v0 - (g_and (g_ushr v0 1) 1431655765)) 858993459) + (g_and (g_ushr (v0 - (g_and (g_ushr v0 1) 1431655765)) 2) 858993459)) + (g_ushr ((g_and (v0 - (g_and (g_ushr v0 1) 1431655765)) 858993459) + (g_and (g_ushr (v0 - (g_and (g_ushr v0 1) 1431655765)) 2) 858993459)) 4)) 252645135) 8)) + (g_ushr ((g_and (((g_and (v0 - (g_and (g_ushr v0 1) 1431655765)) 858993459) + (g_and (g_ushr (v0 - (g_and (g_ushr v0 1) 1431655765)) 2) 858993459)) + (g_ushr ((g_and (v0 - (g_and (g_ushr v0 1) 1431655765)) 858993459) + (g_and (g_ushr (v0 - (g_and (g_ushr v0 1) 1431655765)) 2) 858993459)) 4)) 252645135) + (g_ushr (g_and (((g_and (v0 - (g_and (g_ushr v0 1) 1431655765)) 858993459) + (g_and (g_ushr (v0 - (g_and (g_ushr v0 1) 1431655765)) 2) 858993459)) + (g_ushr ((g_and (v0 - (g_and (g_ushr v0 1) 1431655765)) 858993459) + (g_and (g_ushr (v0 - (g_and (g_ushr v0 1) 1431655765)) 2) 858993459)) 4)) 252645135) 8)) 16)))]) dJ6_bitCount_0f7a4_47 (by decide) rfl ?_
  refine g_iload_n dJ6_bitCount_0f7a4_48 rfl ?_
  refine g_bipush dJ6_bitCount_0f7a4_49 ⟨by decide, by decide⟩ ?_
  refine g_iand dJ6_bitCount_0f7a4_51 ?_
  exact gw_iret dJ6_bitCount_0f7a4_52 rfl hF
theorem dJ6_numberOfTrailingZeros_0f7a4_0 : decode cJ6_numberOfTrailingZeros_0f7a4 0 = .ok (.iload_n 0, 1) := by decide +kernel
theorem dJ6_numberOfTrailingZeros_0f7a4_1 : decode cJ6_numberOfTrailingZeros_0f7a4 1 = .ok (.iconst (-1), 1) := by decide +kernel
theorem dJ6_numberOfTrailingZeros_0f7a4_2 : decode cJ6_numberOfTrailingZeros_0f7a4 2 = .ok (.ixor, 1) := by decide +kernel
theorem dJ6_numberOfTrailingZeros_0f7a4_3 : decode cJ6_numberOfTrailingZeros_0f7a4 3 = .ok (.iload_n 0, 1) := by decide +kernel
theorem dJ6_numberOfTrailingZeros_0f7a4_4 : decode cJ6_numberOfTrailingZeros_0f7a4 4 = .ok (.iconst 1, 1) := by decide +kernel
theorem dJ6_numberOfTrailingZeros_0f7a4_5 : decode cJ6_numberOfTrailingZeros_0f7a4 5 = .ok (.isub, 1) := by decide +kernel
theorem dJ6_numberOfTrailingZeros_0f7a4_6 : decode cJ6_numberOfTrailingZeros_0f7a4 6 = .ok (.iand, 1) := by decide +kernel
theorem dJ6_numberOfTrailingZeros_0f7a4_7 : decode cJ6_numberOfTrailingZeros_0f7a4 7 = .ok (.istore_n 0, 1) := by decide +kernel
theorem dJ6_numberOfTrailingZeros_0f7a4_8 : decode cJ6_numberOfTrailingZeros_0f7a4 8 = .ok (.iload_n 0, 1) := by decide +kernel
theorem dJ6_numberOfTrailingZeros_0f7a4_9 : decode cJ6_numberOfTrailingZeros_0f7a4 9 = .ok (.ifCond .gt 8, 3) := by decide +kernel
theorem dJ6_numberOfTrailingZeros_0f7a4_12 : decode cJ6_numberOfTrailingZeros_0f7a4 12 = .ok (.iload_n 0, 1) := by decide +kernel
theorem dJ6_numberOfTrailingZeros_0f7a4_13 : decode cJ6_numberOfTrailingZeros_0f7a4 13 = .ok (.bipush 32, 2) := by decide +kernel
theorem dJ6_numberOfTrailingZeros_0f7a4_15 : decode cJ6_numberOfTrailingZeros_0f7a4 15 = .ok (.iand, 1) := by decide +kernel
theorem dJ6_numberOfTrailingZeros_0f7a4_16 : decode cJ6_numberOfTrailingZeros_0f7a4 16 = .ok (.ireturn, 1) := by decide +kernel
theorem dJ6_numberOfTrailingZeros_0f7a4_17 : decode cJ6_numberOfTrailingZeros_0f7a4 17 = .ok (.iconst 1, 1) := by decide +kernel
theorem dJ6_numberOfTrailingZeros_0f7a4_18 : decode cJ6_numberOfTrailingZeros_0f7a4 18 = .ok (.istore_n 1, 1) := by decide +kernel
theorem dJ6_numberOfTrailingZeros_0f7a4_19 : decode cJ6_numberOfTrailingZeros_0f7a4 19 = .ok (.iload_n 0, 1) := by decide +kernel
theorem dJ6_numberOfTrailingZeros_0f7a4_20 : decode cJ6_numberOfTrailingZeros_0f7a4 20 = .ok (.ldc_w 264, 3) := by decide +kernel
theorem dJ6_numberOfTrailingZeros_0f7a4_23 : decode cJ6_numberOfTrailingZeros_0f7a4 23 = .ok (.if_icmp .le 11, 3) := by decide +kernel
theorem dJ6_numberOfTrailingZeros_0f7a4_26 : decode cJ6_numberOfTrailingZeros_0f7a4 26 = .ok (.iinc 1 16, 3) := by decide +kernel
theorem dJ6_numberOfTrailingZeros_0f7a4_29 : decode cJ6_numberOfTrailingZeros_0f7a4 29 = .ok (.iload_n 0, 1) := by decide +kernel
theorem dJ6_numberOfTrailingZeros_0f7a4_30 : decode cJ6_numberOfTrailingZeros_0f7a4 30 = .ok (.bipush 16, 2) := by decide +kernel
theorem dJ6_numberOfTrailingZeros_0f7a4_32 : decode cJ6_numberOfTrailingZeros_0f7a4 32 = .ok (.iushr, 1) := by decide +kernel
theorem dJ6_numberOfTrailingZeros_0f7a4_33 : decode cJ6_numberOfTrailingZeros_0f7a4 33 = .ok (.istore_n 0, 1) := by decide +kernel
theorem dJ6_numberOfTrailingZeros_0f7a4_34 : decode cJ6_numberOfTrailingZeros_0f7a4 34 = .ok (.iload_n 0, 1) := by decide +kernel
theorem dJ6_numberOfTrailingZeros_0f7a4_35 : decode cJ6_numberOfTrailingZeros_0f7a4 35 = .ok (.sipush 256, 3) := by decide +kernel
theorem dJ6_numberOfTrailingZeros_0f7a4_38 : decode cJ6_numberOfTrailingZeros_0f7a4 38 = .ok (.if_icmp .le 11, 3) := by decide +kernel
theorem dJ6_numberOfTrailingZeros_0f7a4_41 : decode cJ6_numberOfTrailingZeros_0f7a4 41 = .ok (.iinc 1 8, 3) := by decide +kernel
theorem dJ6_numberOfTrailingZeros_0f7a4_44 : decode cJ6_numberOfTrailingZeros_0f7a4 44 = .ok (.iload_n 0, 1) := by decide +kernel
theorem dJ6_numberOfTrailingZeros_0f7a4_45 : decode cJ6_numberOfTrailingZeros_0f7a4 45 = .ok (.bipush 8, 2) := by decide +kernel
theorem dJ6_numberOfTrailingZeros_0f7a4_47 : decode cJ6_numberOfTrailingZeros_0f7a4 47 = .ok (.iushr, 1) := by decide +kernel
theorem dJ6_numberOfTrailingZeros_0f7a4_48 : decode cJ6_numberOfTrailingZeros_0f7a4 48 = .ok (.istore_n 0, 1) := by decide +kernel
theorem dJ6_numberOfTrailingZeros_0f7a4_49 : decode cJ6_numberOfTrailingZeros_0f7a4 49 = .ok (.iload_n 0, 1) := by decide +kernel
theorem dJ6_numberOfTrailingZeros_0f7a4_50 : decode cJ6_numberOfTrailingZeros_0f7a4 50 = .ok (.bipush 16, 2) := by decide +kernel
theorem dJ6_numberOfTrailingZeros_0f7a4_52 : decode cJ6_numberOfTrailingZeros_0f7a4 52 = .ok (.if_icmp .le 10, 3) := by decide +kernel
theorem dJ6_numberOfTrailingZeros_0f7a4_55 : decode cJ6_numberOfTrailingZeros_0f7a4 55 = .ok (.iinc 1 4, 3) := by decide +kernel
theorem dJ6_numberOfTrailingZeros_0f7a4_58 : decode cJ6_numberOfTrailingZeros_0f7a4 58 = .ok (.iload_n 0, 1) := by decide +kernel
theorem dJ6_numberOfTrailingZeros_0f7a4_59 : decode cJ6_numberOfTrailingZeros_0f7a4 59 = .ok (.iconst 4, 1) := by decide +kernel
theorem dJ6_numberOfTrailingZeros_0f7a4_60 : decode cJ6_numberOfTrailingZeros_0f7a4 60 = .ok (.iushr, 1) := by decide +kernel
theorem dJ6_numberOfTrailingZeros_0f7a4_61 : decode cJ6_numberOfTrailingZeros_0f7a4 61 = .ok (.istore_n 0, 1) := by decide +kernel
theorem dJ6_numberOfTrailingZeros_0f7a4_62 : decode cJ6_numberOfTrailingZeros_0f7a4 62 = .ok (.iload_n 0, 1) := by decide +kernel
theorem dJ6_numberOfTrailingZeros_0f7a4_63 : decode cJ6_numberOfTrailingZeros_0f7a4 63 = .ok (.iconst 4, 1) := by decide +kernel
theorem dJ6_numberOfTrailingZeros_0f7a4_64 : decode cJ6_numberOfTrailingZeros_0f7a4 64 = .ok (.if_icmp .le 10, 3) := by decide +kernel
theorem dJ6_numberOfTrailingZeros_0f7a4_67 : decode cJ6_numberOfTrailingZeros_0f7a4 67 = .ok (.iinc 1 2, 3) := by decide +kernel
theorem dJ6_numberOfTrailingZeros_0f7a4_70 : decode cJ6_numberOfTrailingZeros_0f7a4 70 = .ok (.iload_n 0, 1) := by decide +kernel
theorem dJ6_numberOfTrailingZeros_0f7a4_71 : decode cJ6_numberOfTrailingZeros_0f7a4 71 = .ok (.iconst 2, 1) := by decide +kernel
theorem dJ6_numberOfTrailingZeros_0f7a4_72 : decode cJ6_numberOfTrailingZeros_0f7a4 72 = .ok (.iushr, 1) := by decide +kernel
theorem dJ6_numberOfTrailingZeros_0f7a4_73 : decode cJ6_numberOfTrailingZeros_0f7a4 73 = .ok (.istore_n 0, 1) := by decide +kernel
theorem dJ6_numberOfTrailingZeros_0f7a4_74 : decode cJ6_numberOfTrailingZeros_0f7a4 74 = .ok (.iload_n 1, 1) := by decide +kernel
theorem dJ6_numberOfTrailingZeros_0f7a4_75 : decode cJ6_numberOfTrailingZeros_0f7a4 75 = .ok (.iload_n 0, 1) := by decide +kernel
theorem dJ6_numberOfTrailingZeros_0f7a4_76 : decode cJ6_numberOfTrailingZeros_0f7a4 76 = .ok (.iconst 1, 1) := by decide +kernel
theorem dJ6_numberOfTrailingZeros_0f7a4_77 : decode cJ6_numberOfTrailingZeros_0f7a4 77 = .ok (.iushr, 1) := by decide +kernel
theorem dJ6_numberOfTrailingZeros_0f7a4_78 : decode cJ6_numberOfTrailingZeros_0f7a4 78 = .ok (.iadd, 1) := by decide +kernel
theorem dJ6_numberOfTrailingZeros_0f7a4_79 : decode cJ6_numberOfTrailingZeros_0f7a4 79 = .ok (.ireturn, 1) := by decide +kernel
abbrev k_J6_numberOfTrailingZeros_0f7a4 (E : g_E) (l : Launch) (sh : List g_Sh) (D : g_D) (v0 : Int) (K : Int → g_D → Prop) : Prop := g_Ki E l m_J6_numberOfTrailingZeros_0f7a4 0 [g_I v0] sh D K
abbrev n_J6_numberOfTrailingZeros_0f7a4 (E : g_E) (l : Launch) (sh : List g_Sh) (D : g_D) (pc : Nat) (L : List (Option g_V)) (K : Int → g_D → Prop) : Prop := g_N E l m_J6_numberOfTrailingZeros_0f7a4 0 pc L [] sh D (g_Ri sh K)
theorem s_J6_numberOfTrailingZeros_0f7a4 {E : g_E} {l : Launch} {sh : List g_Sh} {D : g_D} {K : Int → g_D → Prop} {v0 : Int}  (hF : g_okD D → g_r v0 → (g_r (v0 - 1)) ∧ ((0 < (g_and (g_xor v0 (-1)) (v0 - 1)) → ((g_and (g_xor v0 (-1)) (v0 - 1)) ≤ 65536 → ((g_and (g_xor v0 (-1)) (v0 - 1)) ≤ 256 → ((g_and (g_xor v0 (-1)) (v0 - 1)) ≤ 16 → ((g_and (g_xor v0 (-1)) (v0 - 1)) ≤ 4 → (g_r (1 + (g_ushr (g_and (g_xor v0 (-1)) (v0 - 1)) 1))) ∧ (K (1 + (g_ushr (g_and (g_xor v0 (-1)) (v0 - 1)) 1)) D)) ∧ (¬ (g_and (g_xor v0 (-1)) (v0 - 1)) ≤ 4 → (g_r (3 + (g_ushr (g_ushr (g_and (g_xor v0 (-1)) (v0 - 1)) 2) 1))) ∧ (K (3 + (g_ushr (g_ushr (g_and (g_xor v0 (-1)) (v0 - 1)) 2) 1)) D))) ∧ (¬ (g_and (g_xor v0 (-1)) (v0 - 1)) ≤ 16 → ((g_ushr (g_and (g_xor v0 (-1)) (v0 - 1)) 4) ≤ 4 → (g_r (5 + (g_ushr (g_ushr (g_and (g_xor v0 (-1)) (v0 - 1)) 4) 1))) ∧ (K (5 + (g_ushr (g_ushr (g_and (g_xor v0 (-1)) (v0 - 1)) 4) 1)) D)) ∧ (¬ (g_ushr (g_and (g_xor v0 (-1)) (v0 - 1)) 4) ≤ 4 → (g_r (7 + (g_ushr (g_ushr (g_ushr (g_and (g_xor v0 (-1)) (v0 - 1)) 4) 2) 1))) ∧ (K (7 + (g_ushr (g_ushr (g_ushr (g_and (g_xor v0 (-1)) (v0 - 1)) 4) 2) 1)) D)))) ∧ (¬ (g_and (g_xor v0 (-1)) (v0 - 1)) ≤ 256 → ((g_ushr (g_and (g_xor v0 (-1)) (v0 - 1)) 8) ≤ 16 → ((g_ushr (g_and (g_xor v0 (-1)) (v0 - 1)) 8) ≤ 4 → (g_r (9 + (g_ushr (g_ushr (g_and (g_xor v0 (-1)) (v0 - 1)) 8) 1))) ∧ (K (9 + (g_ushr (g_ushr (g_and (g_xor v0 (-1)) (v0 - 1)) 8) 1)) D)) ∧ (¬ (g_ushr (g_and (g_xor v0 (-1)) (v0 - 1)) 8) ≤ 4 → (g_r (11 + (g_ushr (g_ushr (g_ushr (g_and (g_xor v0 (-1)) (v0 - 1)) 8) 2) 1))) ∧ (K (11 + (g_ushr (g_ushr (g_ushr (g_and (g_xor v0 (-1)) (v0 - 1)) 8) 2) 1)) D))) ∧ (¬ (g_ushr (g_and (g_xor v0 (-1)) (v0 - 1)) 8) ≤ 16 → ((g_ushr (g_ushr (g_and (g_xor v0 (-1)) (v0 - 1)) 8) 4) ≤ 4 → (g_r (13 + (g_ushr (g_ushr (g_ushr (g_and (g_xor v0 (-1)) (v0 - 1)) 8) 4) 1))) ∧ (K (13 + (g_ushr (g_ushr (g_ushr (g_and (g_xor v0 (-1)) (v0 - 1)) 8) 4) 1)) D)) ∧ (¬ (g_ushr (g_ushr (g_and (g_xor v0 (-1)) (v0 - 1)) 8) 4) ≤ 4 → (g_r (15 + (g_ushr (g_ushr (g_ushr (g_ushr (g_and (g_xor v0 (-1)) (v0 - 1)) 8) 4) 2) 1))) ∧ (K (15 + (g_ushr (g_ushr (g_ushr (g_ushr (g_and (g_xor v0 (-1)) (v0 - 1)) 8) 4) 2) 1)) D))))) ∧ (¬ (g_and (g_xor v0 (-1)) (v0 - 1)) ≤ 65536 → ((g_ushr (g_and (g_xor v0 (-1)) (v0 - 1)) 16) ≤ 256 → ((g_ushr (g_and (g_xor v0 (-1)) (v0 - 1)) 16) ≤ 16 → ((g_ushr (g_and (g_xor v0 (-1)) (v0 - 1)) 16) ≤ 4 → (g_r (17 + (g_ushr (g_ushr (g_and (g_xor v0 (-1)) (v0 - 1)) 16) 1))) ∧ (K (17 + (g_ushr (g_ushr (g_and (g_xor v0 (-1)) (v0 - 1)) 16) 1)) D)) ∧ (¬ (g_ushr (g_and (g_xor v0 (-1)) (v0 - 1)) 16) ≤ 4 → (g_r (19 + (g_ushr (g_ushr (g_ushr (g_and (g_xor v0 (-1)) (v0 - 1)) 16) 2) 1))) ∧ (K (19 + (g_ushr (g_ushr (g_ushr (g_and (g_xor v0 (-1)) (v0 - 1)) 16) 2) 1)) D))) ∧ (¬ (g_ushr (g_and (g_xor v0 (-1)) (v0 - 1)) 16) ≤ 16 → ((g_ushr (g_ushr (g_and (g_xor v0 (-1)) (v0 - 1)) 16) 4) ≤ 4 → (g_r (21 + (g_ushr (g_ushr (g_ushr (g_and (g_xor v0 (-1)) (v0 - 1)) 16) 4) 1))) ∧ (K (21 + (g_ushr (g_ushr (g_ushr (g_and (g_xor v0 (-1)) (v0 - 1)) 16) 4) 1)) D)) ∧ (¬ (g_ushr (g_ushr (g_and (g_xor v0 (-1)) (v0 - 1)) 16) 4) ≤ 4 → (g_r (23 + (g_ushr (g_ushr (g_ushr (g_ushr (g_and (g_xor v0 (-1)) (v0 - 1)) 16) 4) 2) 1))) ∧ (K (23 + (g_ushr (g_ushr (g_ushr (g_ushr (g_and (g_xor v0 (-1)) (v0 - 1)) 16) 4) 2) 1)) D)))) ∧ (¬ (g_ushr (g_and (g_xor v0 (-1)) (v0 - 1)) 16) ≤ 256 → ((g_ushr (g_ushr (g_and (g_xor v0 (-1)) (v0 - 1)) 16) 8) ≤ 16 → ((g_ushr (g_ushr (g_and (g_xor v0 (-1)) (v0 - 1)) 16) 8) ≤ 4 → (g_r (25 + (g_ushr (g_ushr (g_ushr (g_and (g_xor v0 (-1)) (v0 - 1)) 16) 8) 1))) ∧ (K (25 + (g_ushr (g_ushr (g_ushr (g_and (g_xor v0 (-1)) (v0 - 1)) 16) 8) 1)) D)) ∧ (¬ (g_ushr (g_ushr (g_and (g_xor v0 (-1)) (v0 - 1)) 16) 8) ≤ 4 → (g_r (27 + (g_ushr (g_ushr (g_ushr (g_ushr (g_and (g_xor v0 (-1)) (v0 - 1)) 16) 8) 2) 1))) ∧ (K (27 + (g_ushr (g_ushr (g_ushr (g_ushr (g_and (g_xor v0 (-1)) (v0 - 1)) 16) 8) 2) 1)) D))) ∧ (¬ (g_ushr (g_ushr (g_and (g_xor v0 (-1)) (v0 - 1)) 16) 8) ≤ 16 → ((g_ushr (g_ushr (g_ushr (g_and (g_xor v0 (-1)) (v0 - 1)) 16) 8) 4) ≤ 4 → (g_r (29 + (g_ushr (g_ushr (g_ushr (g_ushr (g_and (g_xor v0 (-1)) (v0 - 1)) 16) 8) 4) 1))) ∧ (K (29 + (g_ushr (g_ushr (g_ushr (g_ushr (g_and (g_xor v0 (-1)) (v0 - 1)) 16) 8) 4) 1)) D)) ∧ (¬ (g_ushr (g_ushr (g_ushr (g_and (g_xor v0 (-1)) (v0 - 1)) 16) 8) 4) ≤ 4 → (g_r (31 + (g_ushr (g_ushr (g_ushr (g_ushr (g_ushr (g_and (g_xor v0 (-1)) (v0 - 1)) 16) 8) 4) 2) 1))) ∧ (K (31 + (g_ushr (g_ushr (g_ushr (g_ushr (g_ushr (g_and (g_xor v0 (-1)) (v0 - 1)) 16) 8) 4) 2) 1)) D)))))) ∧ (¬ 0 < (g_and (g_xor v0 (-1)) (v0 - 1)) → K (g_and (g_and (g_xor v0 (-1)) (v0 - 1)) 32) D))) : k_J6_numberOfTrailingZeros_0f7a4 E l sh D v0 K := by
  refine g_enter (by decide) (Nat.le_of_ble_eq_true rfl) ?_
  show g_N E l m_J6_numberOfTrailingZeros_0f7a4 0 0 [some (g_I v0), none] [] sh D (g_Ri sh K)
  refine g_use (fun ok => ?_)
  have hF := hF ok.2.1 (ok.loc (i := 0) rfl)
  refine g_iload_n dJ6_numberOfTrailingZeros_0f7a4_0 rfl ?_
  refine g_iconst dJ6_numberOfTrailingZeros_0f7a4_1 ⟨by decide, by decide⟩ ?_
  refine g_ixor dJ6_numberOfTrailingZeros_0f7a4_2 ?_
  refine g_iload_n dJ6_numberOfTrailingZeros_0f7a4_3 rfl ?_
  refine g_iconst dJ6_numberOfTrailingZeros_0f7a4_4 ⟨by decide, by decide⟩ ?_
  obtain ⟨hc, hF⟩ := hF
  refine g_isub dJ6_numberOfTrailingZeros_0f7a4_5 hc ?_
  refine g_iand dJ6_numberOfTrailingZeros_0f7a4_6 ?_
  refine gw_istore_n (L' := [some (g_I (g_and (g_xor v0 (-1)) (v0 - 1))), none]) dJ6_numberOfTrailingZeros_0f7a4_7 (by decide) rfl ?_
  refine g_iload_n dJ6_numberOfTrailingZeros_0f7a4_8 rfl ?_
  refine g_ifgt dJ6_numberOfTrailingZeros_0f7a4_9 rfl (fun q => ?_) (fun q => ?_)
  · have hF := hF.1 q
    refine g_iconst dJ6_numberOfTrailingZeros_0f7a4_17 ⟨by decide, by decide⟩ ?_
    refine gw_istore_n (L' := [some (g_I (g_and (g_xor v0 (-1)) (v0 - 1))), some (g_I 1)]) dJ6_numberOfTrailingZeros_0f7a4_18 (by decide) rfl ?_
    refine g_iload_n dJ6_numberOfTrailingZeros_0f7a4_19 rfl ?_
    refine g_ldcw dJ6_numberOfTrailingZeros_0f7a4_20 ⟨by decide, by decide⟩ kc_J6_264 ?_
    refine g_cle dJ6_numberOfTrailingZeros_0f7a4_23 rfl (fun q => ?_) (fun q => ?_)
    · have hF := hF.1 q
      refine g_iload_n dJ6_numberOfTrailingZeros_0f7a4_34 rfl ?_
      refine g_sipush dJ6_numberOfTrailingZeros_0f7a4_35 ⟨by decide, by decide⟩ ?_
      refine g_cle dJ6_numberOfTrailingZeros_0f7a4_38 rfl (fun q => ?_) (fun q => ?_)
      · have hF := hF.1 q
        refine g_iload_n dJ6_numberOfTrailingZeros_0f7a4_49 rfl ?_
        refine g_bipush dJ6_numberOfTrailingZeros_0f7a4_50 ⟨by decide, by decide⟩ ?_
        refine g_cle dJ6_numberOfTrailingZeros_0f7a4_52 rfl (fun q => ?_) (fun q => ?_)
        · have hF := hF.1 q
          refine g_iload_n dJ6_numberOfTrailingZeros_0f7a4_62 rfl ?_
          refine g_iconst dJ6_numberOfTrailingZeros_0f7a4_63 ⟨by decide, by decide⟩ ?_
          refine g_cle dJ6_numberOfTrailingZeros_0f7a4_64 rfl (fun q => ?_) (fun q => ?_)
          · have hF := hF.1 q
            refine g_iload_n dJ6_numberOfTrailingZeros_0f7a4_74 rfl ?_
            refine g_iload_n dJ6_numberOfTrailingZeros_0f7a4_75 rfl ?_
            refine g_iconst dJ6_numberOfTrailingZeros_0f7a4_76 ⟨by decide, by decide⟩ ?_
            refine g_iushr dJ6_numberOfTrailingZeros_0f7a4_77 ?_
            obtain ⟨hc, hF⟩ := hF
            refine g_iadd dJ6_numberOfTrailingZeros_0f7a4_78 hc ?_
            exact gw_iret dJ6_numberOfTrailingZeros_0f7a4_79 rfl hF
          · have hF := hF.2 q
            refine gw_iinc (L' := [some (g_I (g_and (g_xor v0 (-1)) (v0 - 1))), some (g_I 3)]) dJ6_numberOfTrailingZeros_0f7a4_67 rfl ⟨by decide, by decide⟩ (by decide) rfl ?_
            refine g_iload_n dJ6_numberOfTrailingZeros_0f7a4_70 rfl ?_
            refine g_iconst dJ6_numberOfTrailingZeros_0f7a4_71 ⟨by decide, by decide⟩ ?_
            refine g_iushr dJ6_numberOfTrailingZeros_0f7a4_72 ?_
            refine gw_istore_n (L' := [some (g_I (g_ushr (g_and (g_xor v0 (-1)) (v0 - 1)) 2)), some (g_I 3)]) dJ6_numberOfTrailingZeros_0f7a4_73 (by decide) rfl ?_
            refine g_iload_n dJ6_numberOfTrailingZeros_0f7a4_74 rfl ?_
            refine g_iload_n dJ6_numberOfTrailingZeros_0f7a4_75 rfl ?_
            refine g_iconst dJ6_numberOfTrailingZeros_0f7a4_76 ⟨by decide, by decide⟩ ?_
            refine g_iushr dJ6_numberOfTrailingZeros_0f7a4_77 ?_
            obtain ⟨hc, hF⟩ := hF
            refine g_iadd dJ6_numberOfTrailingZeros_0f7a4_78 hc ?_
            exact gw_iret dJ6_numberOfTrailingZeros_0f7a4_79 rfl hF
        · have hF := hF.2 q
          refine gw_iinc (L' := [some (g_I (g_and (g_xor v0 (-1)) (v0 - 1))), some (g_I 5)]) dJ6_numberOfTrailingZeros_0f7a4_55 rfl ⟨by decide, by decide⟩ (by decide) rfl ?_
          refine g_iload_n dJ6_numberOfTrailingZeros_0f7a4_58 rfl ?_
          refine g_iconst dJ6_numberOfTrailingZeros_0f7a4_59 ⟨by decide, by decide⟩ ?_
          refine g_iushr dJ6_numberOfTrailingZeros_0f7a4_60 ?_
          refine gw_istore_n (L' := [some (g_I (g_ushr (g_and (g_xor v0 (-1)) (v0 - 1)) 4)), some (g_I 5)]) dJ6_numberOfTrailingZeros_0f7a4_61 (by decide) rfl ?_
          refine g_iload_n dJ6_numberOfTrailingZeros_0f7a4_62 rfl ?_
          refine g_iconst dJ6_numberOfTrailingZeros_0f7a4_63 ⟨by decide, by decide⟩ ?_
          refine g_cle dJ6_numberOfTrailingZeros_0f7a4_64 rfl (fun q => ?_) (fun q => ?_)
          · have hF := hF.1 q
            refine g_iload_n dJ6_numberOfTrailingZeros_0f7a4_74 rfl ?_
            refine g_iload_n dJ6_numberOfTrailingZeros_0f7a4_75 rfl ?_
            refine g_iconst dJ6_numberOfTrailingZeros_0f7a4_76 ⟨by decide, by decide⟩ ?_
            refine g_iushr dJ6_numberOfTrailingZeros_0f7a4_77 ?_
            obtain ⟨hc, hF⟩ := hF
            refine g_iadd dJ6_numberOfTrailingZeros_0f7a4_78 hc ?_
            exact gw_iret dJ6_numberOfTrailingZeros_0f7a4_79 rfl hF
          · have hF := hF.2 q
            refine gw_iinc (L' := [some (g_I (g_ushr (g_and (g_xor v0 (-1)) (v0 - 1)) 4)), some (g_I 7)]) dJ6_numberOfTrailingZeros_0f7a4_67 rfl ⟨by decide, by decide⟩ (by decide) rfl ?_
            refine g_iload_n dJ6_numberOfTrailingZeros_0f7a4_70 rfl ?_
            refine g_iconst dJ6_numberOfTrailingZeros_0f7a4_71 ⟨by decide, by decide⟩ ?_
            refine g_iushr dJ6_numberOfTrailingZeros_0f7a4_72 ?_
            refine gw_istore_n (L' := [some (g_I (g_ushr (g_ushr (g_and (g_xor v0 (-1)) (v0 - 1)) 4) 2)), some (g_I 7)]) dJ6_numberOfTrailingZeros_0f7a4_73 (by decide) rfl ?_
            refine g_iload_n dJ6_numberOfTrailingZeros_0f7a4_74 rfl ?_
            refine g_iload_n dJ6_numberOfTrailingZeros_0f7a4_75 rfl ?_
            refine g_iconst dJ6_numberOfTrailingZeros_0f7a4_76 ⟨by decide, by decide⟩ ?_
            refine g_iushr dJ6_numberOfTrailingZeros_0f7a4_77 ?_
            obtain ⟨hc, hF⟩ := hF
            refine g_iadd dJ6_numberOfTrailingZeros_0f7a4_78 hc ?_
            exact gw_iret dJ6_numberOfTrailingZeros_0f7a4_79 rfl hF
      · have hF := hF.2 q
        refine gw_iinc (L' := [some (g_I (g_and (g_xor v0 (-1)) (v0 - 1))), some (g_I 9)]) dJ6_numberOfTrailingZeros_0f7a4_41 rfl ⟨by decide, by decide⟩ (by decide) rfl ?_
        refine g_iload_n dJ6_numberOfTrailingZeros_0f7a4_44 rfl ?_
        refine g_bipush dJ6_numberOfTrailingZeros_0f7a4_45 ⟨by decide, by decide⟩ ?_
        refine g_iushr dJ6_numberOfTrailingZeros_0f7a4_47 ?_
        refine gw_istore_n (L' := [some (g_I (g_ushr (g_and (g_xor v0 (-1)) (v0 - 1)) 8)), some (g_I 9)]) dJ6_numberOfTrailingZeros_0f7a4_48 (by decide) rfl ?_
        refine g_iload_n dJ6_numberOfTrailingZeros_0f7a4_49 rfl ?_
        refine g_bipush dJ6_numberOfTrailingZeros_0f7a4_50 ⟨by decide, by decide⟩ ?_
        refine g_cle dJ6_numberOfTrailingZeros_0f7a4_52 rfl (fun q => ?_) (fun q => ?_)
        · have hF := hF.1 q
          refine g_iload_n dJ6_numberOfTrailingZeros_0f7a4_62 rfl ?_
          refine g_iconst dJ6_numberOfTrailingZeros_0f7a4_63 ⟨by decide, by decide⟩ ?_
          refine g_cle dJ6_numberOfTrailingZeros_0f7a4_64 rfl (fun q => ?_) (fun q => ?_)
          · have hF := hF.1 q
            refine g_iload_n dJ6_numberOfTrailingZeros_0f7a4_74 rfl ?_
            refine g_iload_n dJ6_numberOfTrailingZeros_0f7a4_75 rfl ?_
            refine g_iconst dJ6_numberOfTrailingZeros_0f7a4_76 ⟨by decide, by decide⟩ ?_
            refine g_iushr dJ6_numberOfTrailingZeros_0f7a4_77 ?_
            obtain ⟨hc, hF⟩ := hF
            refine g_iadd dJ6_numberOfTrailingZeros_0f7a4_78 hc ?_
            exact gw_iret dJ6_numberOfTrailingZeros_0f7a4_79 rfl hF
          · have hF := hF.2 q
            refine gw_iinc (L' := [some (g_I (g_ushr (g_and (g_xor v0 (-1)) (v0 - 1)) 8)), some (g_I 11)]) dJ6_numberOfTrailingZeros_0f7a4_67 rfl ⟨by decide, by decide⟩ (by decide) rfl ?_
            refine g_iload_n dJ6_numberOfTrailingZeros_0f7a4_70 rfl ?_
            refine g_iconst dJ6_numberOfTrailingZeros_0f7a4_71 ⟨by decide, by decide⟩ ?_
            refine g_iushr dJ6_numberOfTrailingZeros_0f7a4_72 ?_
            refine gw_istore_n (L' := [some (g_I (g_ushr (g_ushr (g_and (g_xor v0 (-1)) (v0 - 1)) 8) 2)), some (g_I 11)]) dJ6_numberOfTrailingZeros_0f7a4_73 (by decide) rfl ?_
            refine g_iload_n dJ6_numberOfTrailingZeros_0f7a4_74 rfl ?_
            refine g_iload_n dJ6_numberOfTrailingZeros_0f7a4_75 rfl ?_
            refine g_iconst dJ6_numberOfTrailingZeros_0f7a4_76 ⟨by decide, by decide⟩ ?_
            refine g_iushr dJ6_numberOfTrailingZeros_0f7a4_77 ?_
            obtain ⟨hc, hF⟩ := hF
            refine g_iadd dJ6_numberOfTrailingZeros_0f7a4_78 hc ?_
            exact gw_iret dJ6_numberOfTrailingZeros_0f7a4_79 rfl hF
        · have hF := hF.2 q
          refine gw_iinc (L' := [some (g_I (g_ushr (g_and (g_xor v0 (-1)) (v0 - 1)) 8)), some (g_I 13)]) dJ6_numberOfTrailingZeros_0f7a4_55 rfl ⟨by decide, by decide⟩ (by decide) rfl ?_
          refine g_iload_n dJ6_numberOfTrailingZeros_0f7a4_58 rfl ?_
          refine g_iconst dJ6_numberOfTrailingZeros_0f7a4_59 ⟨by decide, by decide⟩ ?_
          refine g_iushr dJ6_numberOfTrailingZeros_0f7a4_60 ?_
          refine gw_istore_n (L' := [some (g_I (g_ushr (g_ushr (g_and (g_xor v0 (-1)) (v0 - 1)) 8) 4)), some (g_I 13)]) dJ6_numberOfTrailingZeros_0f7a4_61 (by decide) rfl ?_
          refine g_iload_n dJ6_numberOfTrailingZeros_0f7a4_62 rfl ?_
          refine g_iconst dJ6_numberOfTrailingZeros_0f7a4_63 ⟨by decide, by decide⟩ ?_
          refine g_cle dJ6_numberOfTrailingZeros_0f7a4_64 rfl (fun q => ?_) (fun q => ?_)
          · have hF := hF.1 q
            refine g_iload_n dJ6_numberOfTrailingZeros_0f7a4_74 rfl ?_
            refine g_iload_n dJ6_numberOfTrailingZeros_0f7a4_75 rfl ?_
            refine g_iconst dJ6_numberOfTrailingZeros_0f7a4_76 ⟨by decide, by decide⟩ ?_
            refine g_iushr dJ6_numberOfTrailingZeros_0f7a4_77 ?_
            obtain ⟨hc, hF⟩ := hF
            refine g_iadd dJ6_numberOfTrailingZeros_0f7a4_78 hc ?_
            exact gw_iret dJ6_numberOfTrailingZeros_0f7a4_79 rfl hF
          · have hF := hF.2 q
            refine gw_iinc (L' := [some (g_I (g_ushr (g_ushr (g_and (g_xor v0 (-1)) (v0 - 1)) 8) 4)), some (g_I 15)]) dJ6_numberOfTrailingZeros_0f7a4_67 rfl ⟨by decide, by decide⟩ (by decide) rfl ?_
            refine g_iload_n dJ6_numberOfTrailingZeros_0f7a4_70 rfl ?_
            refine g_iconst dJ6_numberOfTrailingZeros_0f7a4_71 ⟨by decide, by decide⟩ ?_
            refine g_iushr dJ6_numberOfTrailingZeros_0f7a4_72 ?_
            refine gw_istore_n (L' := [some (g_I (g_ushr (g_ushr (g_ushr (g_and (g_xor v0 (-1)) (v0 - 1)) 8) 4) 2)), some (g_I 15)]) dJ6_numberOfTrailingZeros_0f7a4_73 (by decide) rfl ?_
            refine g_iload_n dJ6_numberOfTrailingZeros_0f7a4_74 rfl ?_
            refine g_iload_n dJ6_numberOfTrailingZeros_0f7a4_75 rfl ?_
            refine g_iconst dJ6_numberOfTrailingZeros_0f7a4_76 ⟨by decide, by decide⟩ ?_
            refine g_iushr dJ6_numberOfTrailingZeros_0f7a4_77 ?_
            obtain ⟨hc, hF⟩ := hF
            refine g_iadd dJ6_numberOfTrailingZeros_0f7a4_78 hc ?_
            exact gw_iret dJ6_numberOfTrailingZeros_0f7a4_79 rfl hF
    · have hF := hF.2 q
      refine gw_iinc (L' := [some (g_I (g_and (g_xor v0 (-1)) (v0 - 1))), some (g_I 17)]) dJ6_numberOfTrailingZeros_0f7a4_26 rfl ⟨by decide, by decide⟩ (by decide) rfl ?_
      refine g_iload_n dJ6_numberOfTrailingZeros_0f7a4_29 rfl ?_
      refine g_bipush dJ6_numberOfTrailingZeros_0f7a4_30 ⟨by decide, by decide⟩ ?_
      refine g_iushr dJ6_numberOfTrailingZeros_0f7a4_32 ?_
      refine gw_istore_n (L' := [some (g_I (g_ushr (g_and (g_xor v0 (-1)) (v0 - 1)) 16)), some (g_I 17)]) dJ6_numberOfTrailingZeros_0f7a4_33 (by decide) rfl ?_
      refine g_iload_n dJ6_numberOfTrailingZeros_0f7a4_34 rfl ?_
      refine g_sipush dJ6_numberOfTrailingZeros_0f7a4_35 ⟨by decide, by decide⟩ ?_
      refine g_cle dJ6_numberOfTrailingZeros_0f7a4_38 rfl (fun q => ?_) (fun q => ?_)
      · have hF := hF.1 q
        refine g_iload_n dJ6_numberOfTrailingZeros_0f7a4_49 rfl ?_
        refine g_bipush dJ6_numberOfTrailingZeros_0f7a4_50 ⟨by decide, by decide⟩ ?_
        refine g_cle dJ6_numberOfTrailingZeros_0f7a4_52 rfl (fun q => ?_) (fun q => ?_)
        · have hF := hF.1 q
          refine g_iload_n dJ6_numberOfTrailingZeros_0f7a4_62 rfl ?_
          refine g_iconst dJ6_numberOfTrailingZeros_0f7a4_63 ⟨by decide, by decide⟩ ?_
          refine g_cle dJ6_numberOfTrailingZeros_0f7a4_64 rfl (fun q => ?_) (fun q => ?_)
          · have hF := hF.1 q
            refine g_iload_n dJ6_numberOfTrailingZeros_0f7a4_74 rfl ?_
            refine g_iload_n dJ6_numberOfTrailingZeros_0f7a4_75 rfl ?_
            refine g_iconst dJ6_numberOfTrailingZeros_0f7a4_76 ⟨by decide, by decide⟩ ?_
            refine g_iushr dJ6_numberOfTrailingZeros_0f7a4_77 ?_
            obtain ⟨hc, hF⟩ := hF
            refine g_iadd dJ6_numberOfTrailingZeros_0f7a4_78 hc ?_
            exact gw_iret dJ6_numberOfTrailingZeros_0f7a4_79 rfl hF
          · have hF := hF.2 q
            refine gw_iinc (L' := [some (g_I (g_ushr (g_and (g_xor v0 (-1)) (v0 - 1)) 16)), some (g_I 19)]) dJ6_numberOfTrailingZeros_0f7a4_67 rfl ⟨by decide, by decide⟩ (by decide) rfl ?_
            refine g_iload_n dJ6_numberOfTrailingZeros_0f7a4_70 rfl ?_
            refine g_iconst dJ6_numberOfTrailingZeros_0f7a4_71 ⟨by decide, by decide⟩ ?_
            refine g_iushr dJ6_numberOfTrailingZeros_0f7a4_72 ?_
            refine gw_istore_n (L' := [some (g_I (g_ushr (g_ushr (g_and (g_xor v0 (-1)) (v0 - 1)) 16) 2)), some (g_I 19)]) dJ6_numberOfTrailingZeros_0f7a4_73 (by decide) rfl ?_
            refine g_iload_n dJ6_numberOfTrailingZeros_0f7a4_74 rfl ?_
            refine g_iload_n dJ6_numberOfTrailingZeros_0f7a4_75 rfl ?_
            refine g_iconst dJ6_numberOfTrailingZeros_0f7a4_76 ⟨by decide, by decide⟩ ?_
            refine g_iushr dJ6_numberOfTrailingZeros_0f7a4_77 ?_
            obtain ⟨hc, hF⟩ := hF
            refine g_iadd dJ6_numberOfTrailingZeros_0f7a4_78 hc ?_
            exact gw_iret dJ6_numberOfTrailingZeros_0f7a4_79 rfl hF
        · have hF := hF.2 q
          refine gw_iinc (L' := [some (g_I (g_ushr (g_and (g_xor v0 (-1)) (v0 - 1)) 16)), some (g_I 21)]) dJ6_numberOfTrailingZeros_0f7a4_55 rfl ⟨by decide, by decide⟩ (by decide) rfl ?_
          refine g_iload_n dJ6_numberOfTrailingZeros_0f7a4_58 rfl ?_
          refine g_iconst dJ6_numberOfTrailingZeros_0f7a4_59 ⟨by decide, by decide⟩ ?_
          refine g_iushr dJ6_numberOfTrailingZeros_0f7a4_60 ?_
          refine gw_istore_n (L' := [some (g_I (g_ushr (g_ushr (g_and (g_xor v0 (-1)) (v0 - 1)) 16) 4)), some (g_I 21)]) dJ6_numberOfTrailingZeros_0f7a4_61 (by decide) rfl ?_
          refine g_iload_n dJ6_numberOfTrailingZeros_0f7a4_62 rfl ?_
          refine g_iconst dJ6_numberOfTrailingZeros_0f7a4_63 ⟨by decide, by decide⟩ ?_
          refine g_cle dJ6_numberOfTrailingZeros_0f7a4_64 rfl (fun q => ?_) (fun q => ?_)
          · have hF := hF.1 q
            refine g_iload_n dJ6_numberOfTrailingZeros_0f7a4_74 rfl ?_
            refine g_iload_n dJ6_numberOfTrailingZeros_0f7a4_75 rfl ?_
            refine g_iconst dJ6_numberOfTrailingZeros_0f7a4_76 ⟨by decide, by decide⟩ ?_
            refine g_iushr dJ6_numberOfTrailingZeros_0f7a4_77 ?_
            obtain ⟨hc, hF⟩ := hF
            refine g_iadd dJ6_numberOfTrailingZeros_0f7a4_78 hc ?_
            exact gw_iret dJ6_numberOfTrailingZeros_0f7a4_79 rfl hF
          · have hF := hF.2 q
            refine gw_iinc (L' := [some (g_I (g_ushr (g_ushr (g_and (g_xor v0 (-1)) (v0 - 1)) 16) 4)), some (g_I 23)]) dJ6_numberOfTrailingZeros_0f7a4_67 rfl ⟨by decide, by decide⟩ (by decide) rfl ?_
            refine g_iload_n dJ6_numberOfTrailingZeros_0f7a4_70 rfl ?_
            refine g_iconst dJ6_numberOfTrailingZeros_0f7a4_71 ⟨by decide, by decide⟩ ?_
            refine g_iushr dJ6_numberOfTrailingZeros_0f7a4_72 ?_
            refine gw_istore_n (L' := [some (g_I (g_ushr (g_ushr (g_ushr (g_and (g_xor v0 (-1)) (v0 - 1)) 16) 4) 2)), some (g_I 23)]) dJ6_numberOfTrailingZeros_0f7a4_73 (by decide) rfl ?_
            refine g_iload_n dJ6_numberOfTrailingZeros_0f7a4_74 rfl ?_
            refine g_iload_n dJ6_numberOfTrailingZeros_0f7a4_75 rfl ?_
            refine g_iconst dJ6_numberOfTrailingZeros_0f7a4_76 ⟨by decide, by decide⟩ ?_
            refine g_iushr dJ6_numberOfTrailingZeros_0f7a4_77 ?_
            obtain ⟨hc, hF⟩ := hF
            refine g_iadd dJ6_numberOfTrailingZeros_0f7a4_78 hc ?_
            exact gw_iret dJ6_numberOfTrailingZeros_0f7a4_79 rfl hF
      · have hF := hF.2 q
        refine gw_iinc (L' := [some (g_I (g_ushr (g_and (g_xor v0 (-1)) (v0 - 1)) 16)), some (g_I 25)]) dJ6_numberOfTrailingZeros_0f7a4_41 rfl ⟨by decide, by decide⟩ (by decide) rfl ?_
        refine g_iload_n dJ6_numberOfTrailingZeros_0f7a4_44 rfl ?_
        refine g_bipush dJ6_numberOfTrailingZeros_0f7a4_45 ⟨by decide, by decide⟩ ?_
        refine g_iushr dJ6_numberOfTrailingZeros_0f7a4_47 ?_
        refine gw_istore_n (L' := [some (g_I (g_ushr (g_ushr (g_and (g_xor v0 (-1)) (v0 - 1)) 16) 8)), some (g_I 25)]) dJ6_numberOfTrailingZeros_0f7a4_48 (by decide) rfl ?_
        refine g_iload_n dJ6_numberOfTrailingZeros_0f7a4_49 rfl ?_
        refine g_bipush dJ6_numberOfTrailingZeros_0f7a4_50 ⟨by decide, by decide⟩ ?_
        refine g_cle dJ6_numberOfTrailingZeros_0f7a4_52 rfl (fun q => ?_) (fun q => ?_)
        · have hF := hF.1 q
          refine g_iload_n dJ6_numberOfTrailingZeros_0f7a4_62 rfl ?_
          refine g_iconst dJ6_numberOfTrailingZeros_0f7a4_63 ⟨by decide, by decide⟩ ?_
          refine g_cle dJ6_numberOfTrailingZeros_0f7a4_64 rfl (fun q => ?_) (fun q => ?_)
          · have hF := hF.1 q
            refine g_iload_n dJ6_numberOfTrailingZeros_0f7a4_74 rfl ?_
            refine g_iload_n dJ6_numberOfTrailingZeros_0f7a4_75 rfl ?_
            refine g_iconst dJ6_numberOfTrailingZeros_0f7a4_76 ⟨by decide, by decide⟩ ?_
            refine g_iushr dJ6_numberOfTrailingZeros_0f7a4_77 ?_
            obtain ⟨hc, hF⟩ := hF
            refine g_iadd dJ6_numberOfTrailingZeros_0f7a4_78 hc ?_
            exact gw_iret dJ6_numberOfTrailingZeros_0f7a4_79 rfl hF
          · have hF := hF.2 q
            refine gw_iinc (L' := [some (g_I (g_ushr (g_ushr (g_and (g_xor v0 (-1)) (v0 - 1)) 16) 8)), some (g_I 27)]) dJ6_numberOfTrailingZeros_0f7a4_67 rfl ⟨by decide, by decide⟩ (by decide) rfl ?_
            refine g_iload_n dJ6_numberOfTrailingZeros_0f7a4_70 rfl ?_
            refine g_iconst dJ6_numberOfTrailingZeros_0f7a4_71 ⟨by decide, by decide⟩ ?_
            refine g_iushr dJ6_numberOfTrailingZeros_0f7a4_72 ?_
            refine gw_istore_n (L' := [some (g_I (g_ushr (g_ushr (g_ushr (g_and (g_xor v0 (-1)) (v0 - 1)) 16) 8) 2)), some (g_I 27)]) dJ6_numberOfTrailingZeros_0f7a4_73 (by decide) rfl ?_
            refine g_iload_n dJ6_numberOfTrailingZeros_0f7a4_74 rfl ?_
            refine g_iload_n dJ6_numberOfTrailingZeros_0f7a4_75 rfl ?_
            refine g_iconst dJ6_numberOfTrailingZeros_0f7a4_76 ⟨by decide, by decide⟩ ?_
            refine g_iushr dJ6_numberOfTrailingZeros_0f7a4_77 ?_
            obtain ⟨hc, hF⟩ := hF
            refine g_iadd dJ6_numberOfTrailingZeros_0f7a4_78 hc ?_
            exact gw_iret dJ6_numberOfTrailingZeros_0f7a4_79 rfl hF
        · have hF := hF.2 q
          refine gw_iinc (L' := [some (g_I (g_ushr (g_ushr (g_and (g_xor v0 (-1)) (v0 - 1)) 16) 8)), some (g_I 29)]) dJ6_numberOfTrailingZeros_0f7a4_55 rfl ⟨by decide, by decide⟩ (by decide) rfl ?_
          refine g_iload_n dJ6_numberOfTrailingZeros_0f7a4_58 rfl ?_
          refine g_iconst dJ6_numberOfTrailingZeros_0f7a4_59 ⟨by decide, by decide⟩ ?_
          refine g_iushr dJ6_numberOfTrailingZeros_0f7a4_60 ?_
          refine gw_istore_n (L' := [some (g_I (g_ushr (g_ushr (g_ushr (g_and (g_xor v0 (-1)) (v0 - 1)) 16) 8) 4)), some (g_I 29)]) dJ6_numberOfTrailingZeros_0f7a4_61 (by decide) rfl ?_
          refine g_iload_n dJ6_numberOfTrailingZeros_0f7a4_62 rfl ?_
          refine g_iconst dJ6_numberOfTrailingZeros_0f7a4_63 ⟨by decide, by decide⟩ ?_
          refine g_cle dJ6_numberOfTrailingZeros_0f7a4_64 rfl (fun q => ?_) (fun q => ?_)
          · have hF := hF.1 q
            refine g_iload_n dJ6_numberOfTrailingZeros_0f7a4_74 rfl ?_
            refine g_iload_n dJ6_numberOfTrailingZeros_0f7a4_75 rfl ?_
            refine g_iconst dJ6_numberOfTrailingZeros_0f7a4_76 ⟨by decide, by decide⟩ ?_
            refine g_iushr dJ6_numberOfTrailingZeros_0f7a4_77 ?_
            obtain ⟨hc, hF⟩ := hF
            refine g_iadd dJ6_numberOfTrailingZeros_0f7a4_78 hc ?_
            exact gw_iret dJ6_numberOfTrailingZeros_0f7a4_79 rfl hF
          · have hF := hF.2 q
            refine gw_iinc (L' := [some (g_I (g_ushr (g_ushr (g_ushr (g_and (g_xor v0 (-1)) (v0 - 1)) 16) 8) 4)), some (g_I 31)]) dJ6_numberOfTrailingZeros_0f7a4_67 rfl ⟨by decide, by decide⟩ (by decide) rfl ?_
            refine g_iload_n dJ6_numberOfTrailingZeros_0f7a4_70 rfl ?_
            refine g_iconst dJ6_numberOfTrailingZeros_0f7a4_71 ⟨by decide, by decide⟩ ?_
            refine g_iushr dJ6_numberOfTrailingZeros_0f7a4_72 ?_
            refine gw_istore_n (L' := [some (g_I (g_ushr (g_ushr (g_ushr (g_ushr (g_and (g_xor v0 (-1)) (v0 - 1)) 16) 8) 4) 2)), some (g_I 31)]) dJ6_numberOfTrailingZeros_0f7a4_73 (by decide) rfl ?_
            refine g_iload_n dJ6_numberOfTrailingZeros_0f7a4_74 rfl ?_
            refine g_iload_n dJ6_numberOfTrailingZeros_0f7a4_75 rfl ?_
            refine g_iconst dJ6_numberOfTrailingZeros_0f7a4_76 ⟨by decide, by decide⟩ ?_
            refine g_iushr dJ6_numberOfTrailingZeros_0f7a4_77 ?_
            obtain ⟨hc, hF⟩ := hF
            refine g_iadd dJ6_numberOfTrailingZeros_0f7a4_78 hc ?_
            exact gw_iret dJ6_numberOfTrailingZeros_0f7a4_79 rfl hF
  · have hF := hF.2 q
    refine g_iload_n dJ6_numberOfTrailingZeros_0f7a4_12 rfl ?_
    refine g_bipush dJ6_numberOfTrailingZeros_0f7a4_13 ⟨by decide, by decide⟩ ?_
    refine g_iand dJ6_numberOfTrailingZeros_0f7a4_15 ?_
    exact gw_iret dJ6_numberOfTrailingZeros_0f7a4_16 rfl hF
theorem dJ7_fill_53178_0 : decode cJ7_fill_53178 0 = .ok (.iconst 0, 1) := by decide +kernel
theorem dJ7_fill_53178_1 : decode cJ7_fill_53178 1 = .ok (.istore_n 2, 1) := by decide +kernel
theorem dJ7_fill_53178_2 : decode cJ7_fill_53178 2 = .ok (.aload_n 0, 1) := by decide +kernel
theorem dJ7_fill_53178_3 : decode cJ7_fill_53178 3 = .ok (.arraylength, 1) := by decide +kernel
theorem dJ7_fill_53178_4 : decode cJ7_fill_53178 4 = .ok (.istore_n 3, 1) := by decide +kernel
theorem dJ7_fill_53178_5 : decode cJ7_fill_53178 5 = .ok (.iload_n 2, 1) := by decide +kernel
theorem dJ7_fill_53178_6 : decode cJ7_fill_53178 6 = .ok (.iload_n 3, 1) := by decide +kernel
theorem dJ7_fill_53178_7 : decode cJ7_fill_53178 7 = .ok (.if_icmp .ge 13, 3) := by decide +kernel
theorem dJ7_fill_53178_10 : decode cJ7_fill_53178 10 = .ok (.aload_n 0, 1) := by decide +kernel
theorem dJ7_fill_53178_11 : decode cJ7_fill_53178 11 = .ok (.iload_n 2, 1) := by decide +kernel
theorem dJ7_fill_53178_12 : decode cJ7_fill_53178 12 = .ok (.iload_n 1, 1) := by decide +kernel
theorem dJ7_fill_53178_13 : decode cJ7_fill_53178 13 = .ok (.iastore, 1) := by decide +kernel
theorem dJ7_fill_53178_14 : decode cJ7_fill_53178 14 = .ok (.iinc 2 1, 3) := by decide +kernel
theorem dJ7_fill_53178_17 : decode cJ7_fill_53178 17 = .ok (.goto (-12), 3) := by decide +kernel
theorem dJ7_fill_53178_20 : decode cJ7_fill_53178 20 = .ok (.return_, 1) := by decide +kernel
abbrev k_J7_fill_53178 (E : g_E) (l : Launch) (sh : List g_Sh) (D : g_D) (r0 : Nat) (v1 : Int) (K : g_D → Prop) : Prop := g_Kv E l m_J7_fill_53178 0 [g_R r0, g_I v1] sh D K
abbrev n_J7_fill_53178 (E : g_E) (l : Launch) (sh : List g_Sh) (D : g_D) (pc : Nat) (L : List (Option g_V)) (K : g_D → Prop) : Prop := g_N E l m_J7_fill_53178 0 pc L [] sh D (g_Rv sh K)
theorem s_J7_fill_53178 {E : g_E} {l : Launch} {sh : List g_Sh} {D : g_D} {K : g_D → Prop} {n0 : Nat} {r0 : Nat} {v1 : Int} (hr0 : sh[r0]? = some (.inl (0, n0))) (hF : g_okD D → g_r v1 → (n0 ≤ 2147483647) ∧ (n_J7_fill_53178 E l sh D 5 [some (g_R r0), some (g_I v1), some (g_I 0), some (g_I (n0 : Int))] K)) : k_J7_fill_53178 E l sh D r0 v1 K := by
  refine g_enter (by decide) (Nat.le_of_ble_eq_true rfl) ?_
  show g_N E l m_J7_fill_53178 0 0 [some (g_R r0), some (g_I v1), none, none] [] sh D (g_Rv sh K)
  refine g_use (fun ok => ?_)
  have hF := hF ok.2.1 (ok.loc (i := 1) rfl)
  refine g_iconst dJ7_fill_53178_0 ⟨by decide, by decide⟩ ?_
  refine gw_istore_n (L' := [some (g_R r0), some (g_I v1), some (g_I 0), none]) dJ7_fill_53178_1 (by decide) rfl ?_
  refine g_aload_n dJ7_fill_53178_2 rfl ?_
  obtain ⟨hc, hF⟩ := hF
  refine g_alen dJ7_fill_53178_3 hr0 (by decide) hc ?_
  refine gw_istore_n (L' := [some (g_R r0), some (g_I v1), some (g_I 0), some (g_I (n0 : Int))]) dJ7_fill_53178_4 (by decide) rfl ?_
  exact hF
theorem s_J7_fill_53178_5 {E : g_E} {l : Launch} {sh : List g_Sh} {D : g_D} {K : g_D → Prop} {n0 : Nat} {r0 : Nat} {v1 : Int} {v2 : Int} {v3 : Int} (hr0 : sh[r0]? = some (.inl (0, n0))) (hF : g_okD D → g_r v1 → g_r v2 → g_r v3 → (v3 ≤ v2 → K D) ∧ (¬ v3 ≤ v2 → (0 ≤ v2 ∧ v2 < n0) ∧ (∀ D1, D1 = g_up D r0 v2.toNat v1 → ((g_r (v2 + 1)) ∧ (n_J7_fill_53178 E l sh D1 5 [some (g_R r0), some (g_I v1), some (g_I (v2 + 1)), some (g_I v3)] K))))) : n_J7_fill_53178 E l sh D 5 [some (g_R r0), some (g_I v1), some (g_I v2), some (g_I v3)] K := by
  refine g_use (fun ok => ?_)
  have hF := hF ok.2.1 (ok.loc (i := 1) rfl) (ok.loc (i := 2) rfl) (ok.loc (i := 3) rfl)
  refine g_iload_n dJ7_fill_53178_5 rfl ?_
  refine g_iload_n dJ7_fill_53178_6 rfl ?_
  refine g_cge dJ7_fill_53178_7 rfl (fun q => ?_) (fun q => ?_)
  · have hF := hF.1 q
    exact gw_vret dJ7_fill_53178_20 rfl hF
  · have hF := hF.2 q
    refine g_aload_n dJ7_fill_53178_10 rfl ?_
    refine g_iload_n dJ7_fill_53178_11 rfl ?_
    refine g_iload_n dJ7_fill_53178_12 rfl ?_
    obtain ⟨hc, hF⟩ := hF
    let D1 : g_D := g_up D r0 v2.toNat v1
    have hF := hF D1 rfl
    refine g_iast dJ7_fill_53178_13 hr0 hc.1 hc.2 ?_
    obtain ⟨hc, hF⟩ := hF
    refine gw_iinc (L' := [some (g_R r0), some (g_I v1), some (g_I (v2 + 1)), some (g_I v3)]) dJ7_fill_53178_14 rfl hc (by decide) rfl ?_
    refine g_goto dJ7_fill_53178_17 rfl ?_
    exact hF
theorem dX0_alike_0 : decode cX0_alike 0 = .ok (.iload_n 1, 1) := by decide +kernel
theorem dX0_alike_1 : decode cX0_alike 1 = .ok (.ifCond .lt 7, 3) := by decide +kernel
theorem dX0_alike_4 : decode cX0_alike 4 = .ok (.iload_n 3, 1) := by decide +kernel
theorem dX0_alike_5 : decode cX0_alike 5 = .ok (.ifCond .ge 5, 3) := by decide +kernel
theorem dX0_alike_8 : decode cX0_alike 8 = .ok (.iconst 0, 1) := by decide +kernel
theorem dX0_alike_9 : decode cX0_alike 9 = .ok (.ireturn, 1) := by decide +kernel
theorem dX0_alike_10 : decode cX0_alike 10 = .ok (.aload_n 0, 1) := by decide +kernel
theorem dX0_alike_11 : decode cX0_alike 11 = .ok (.getfield 21, 3) := by decide +kernel
theorem dX0_alike_14 : decode cX0_alike 14 = .ok (.iload_n 1, 1) := by decide +kernel
theorem dX0_alike_15 : decode cX0_alike 15 = .ok (.isub, 1) := by decide +kernel
theorem dX0_alike_16 : decode cX0_alike 16 = .ok (.aload_n 2, 1) := by decide +kernel
theorem dX0_alike_17 : decode cX0_alike 17 = .ok (.getfield 21, 3) := by decide +kernel
theorem dX0_alike_20 : decode cX0_alike 20 = .ok (.iload_n 3, 1) := by decide +kernel
theorem dX0_alike_21 : decode cX0_alike 21 = .ok (.isub, 1) := by decide +kernel
theorem dX0_alike_22 : decode cX0_alike 22 = .ok (.invokestatic 25, 3) := by decide +kernel
theorem dX0_alike_25 : decode cX0_alike 25 = .ok (.istore 4, 2) := by decide +kernel
theorem dX0_alike_27 : decode cX0_alike 27 = .ok (.iconst 0, 1) := by decide +kernel
theorem dX0_alike_28 : decode cX0_alike 28 = .ok (.istore 5, 2) := by decide +kernel
theorem dX0_alike_30 : decode cX0_alike 30 = .ok (.iload 5, 2) := by decide +kernel
theorem dX0_alike_32 : decode cX0_alike 32 = .ok (.iload 4, 2) := by decide +kernel
theorem dX0_alike_34 : decode cX0_alike 34 = .ok (.if_icmp .ge 30, 3) := by decide +kernel
theorem dX0_alike_37 : decode cX0_alike 37 = .ok (.aload_n 0, 1) := by decide +kernel
theorem dX0_alike_38 : decode cX0_alike 38 = .ok (.getfield 15, 3) := by decide +kernel
theorem dX0_alike_41 : decode cX0_alike 41 = .ok (.iload_n 1, 1) := by decide +kernel
theorem dX0_alike_42 : decode cX0_alike 42 = .ok (.iload 5, 2) := by decide +kernel
theorem dX0_alike_44 : decode cX0_alike 44 = .ok (.iadd, 1) := by decide +kernel
theorem dX0_alike_45 : decode cX0_alike 45 = .ok (.iaload, 1) := by decide +kernel
theorem dX0_alike_46 : decode cX0_alike 46 = .ok (.aload_n 2, 1) := by decide +kernel
theorem dX0_alike_47 : decode cX0_alike 47 = .ok (.getfield 15, 3) := by decide +kernel
theorem dX0_alike_50 : decode cX0_alike 50 = .ok (.iload_n 3, 1) := by decide +kernel
theorem dX0_alike_51 : decode cX0_alike 51 = .ok (.iload 5, 2) := by decide +kernel
theorem dX0_alike_53 : decode cX0_alike 53 = .ok (.iadd, 1) := by decide +kernel
theorem dX0_alike_54 : decode cX0_alike 54 = .ok (.iaload, 1) := by decide +kernel
theorem dX0_alike_55 : decode cX0_alike 55 = .ok (.if_icmp .ne 9, 3) := by decide +kernel
theorem dX0_alike_58 : decode cX0_alike 58 = .ok (.iinc 5 1, 3) := by decide +kernel
theorem dX0_alike_61 : decode cX0_alike 61 = .ok (.goto (-31), 3) := by decide +kernel
theorem dX0_alike_64 : decode cX0_alike 64 = .ok (.iload 5, 2) := by decide +kernel
theorem dX0_alike_66 : decode cX0_alike 66 = .ok (.ireturn, 1) := by decide +kernel
abbrev k_X0_alike (E : g_E) (l : Launch) (sh : List g_Sh) (D : g_D) (k : Nat) (v1 : Int) (r2 : Nat) (v3 : Int) (K : Int → g_D → Prop) : Prop := g_Ki E l m_X0_alike 1 [g_R k, g_I v1, g_R r2, g_I v3] sh D K
abbrev n_X0_alike (E : g_E) (l : Launch) (sh : List g_Sh) (D : g_D) (pc : Nat) (L : List (Option g_V)) (K : Int → g_D → Prop) : Prop := g_N E l m_X0_alike 1 pc L [] sh D (g_Ri sh K)
theorem s_X0_alike {E : g_E} {l : Launch} {sh : List g_Sh} {D : g_D} {K : Int → g_D → Prop} {nk : Nat} {nr2 : Nat} {k : Nat} {v1 : Int} {r2 : Nat} {v3 : Int} (hk : is_Cells sh k nk) (hr2 : is_Cells sh r2 nr2) (hF : g_okD D → g_r v1 → g_r v3 → (v1 < 0 → K 0 D) ∧ (¬ v1 < 0 → (0 ≤ v3 → (g_r ((D k 1) - v1)) ∧ ((g_r ((D r2 1) - v3)) ∧ (n_X0_alike E l sh D 30 [some (g_R k), some (g_I v1), some (g_R r2), some (g_I v3), some (g_I (min ((D k 1) - v1) ((D r2 1) - v3))), some (g_I 0)] K))) ∧ (¬ 0 ≤ v3 → K 0 D))) : k_X0_alike E l sh D k v1 r2 v3 K := by
  refine g_enter (by decide) (Nat.le_of_ble_eq_true rfl) ?_
  show g_N E l m_X0_alike 1 0 [some (g_R k), some (g_I v1), some (g_R r2), some (g_I v3), none, none] [] sh D (g_Ri sh K)
  refine g_use (fun ok => ?_)
  have hF := hF ok.2.1 (ok.loc (i := 1) rfl) (ok.loc (i := 3) rfl)
  refine g_iload_n dX0_alike_0 rfl ?_
  refine g_iflt dX0_alike_1 rfl (fun q => ?_) (fun q => ?_)
  · have hF := hF.1 q
    refine g_iconst dX0_alike_8 ⟨by decide, by decide⟩ ?_
    exact gw_iret dX0_alike_9 rfl hF
  · have hF := hF.2 q
    refine g_iload_n dX0_alike_4 rfl ?_
    refine g_ifge dX0_alike_5 rfl (fun q => ?_) (fun q => ?_)
    · have hF := hF.1 q
      refine g_aload_n dX0_alike_10 rfl ?_
      refine g_getI dX0_alike_11 fd_X0_21 hk.1 rfl ?_
      refine g_iload_n dX0_alike_14 rfl ?_
      obtain ⟨hc, hF⟩ := hF
      refine g_isub dX0_alike_15 hc ?_
      refine g_aload_n dX0_alike_16 rfl ?_
      refine g_getI dX0_alike_17 fd_X0_21 hr2.1 rfl ?_
      refine g_iload_n dX0_alike_20 rfl ?_
      obtain ⟨hc, hF⟩ := hF
      refine g_isub dX0_alike_21 hc ?_
      refine g_min dX0_alike_22 mw_X0_25 (by decide) (Nat.le_refl _) (Nat.le_refl _) (Nat.le_of_ble_eq_true rfl) ?_
      refine gw_istore (L' := [some (g_R k), some (g_I v1), some (g_R r2), some (g_I v3), some (g_I (min ((D k 1) - v1) ((D r2 1) - v3))), none]) dX0_alike_25 (by decide) rfl ?_
      refine g_iconst dX0_alike_27 ⟨by decide, by decide⟩ ?_
      refine gw_istore (L' := [some (g_R k), some (g_I v1), some (g_R r2), some (g_I v3), some (g_I (min ((D k 1) - v1) ((D r2 1) - v3))), some (g_I 0)]) dX0_alike_28 (by decide) rfl ?_
      exact hF
    · have hF := hF.2 q
      refine g_iconst dX0_alike_8 ⟨by decide, by decide⟩ ?_
      exact gw_iret dX0_alike_9 rfl hF
theorem s_X0_alike_30 {E : g_E} {l : Launch} {sh : List g_Sh} {D : g_D} {K : Int → g_D → Prop} {nk : Nat} {nr2 : Nat} {k : Nat} {v1 : Int} {r2 : Nat} {v3 : Int} {v4 : Int} {v5 : Int} (hk : is_Cells sh k nk) (hr2 : is_Cells sh r2 nr2) (hF : g_okD D → g_r v1 → g_r v3 → g_r v4 → g_r v5 → (v4 ≤ v5 → K v5 D) ∧ (¬ v4 ≤ v5 → (g_r (v1 + v5)) ∧ ((0 ≤ (v1 + v5) ∧ (v1 + v5) < nk) ∧ ((g_r (v3 + v5)) ∧ ((0 ≤ (v3 + v5) ∧ (v3 + v5) < nr2) ∧ ((¬ (D (k + 1) (v1 + v5).toNat) = (D (r2 + 1) (v3 + v5).toNat) → K v5 D) ∧ ((D (k + 1) (v1 + v5).toNat) = (D (r2 + 1) (v3 + v5).toNat) → (g_r (v5 + 1)) ∧ (n_X0_alike E l sh D 30 [some (g_R k), some (g_I v1), some (g_R r2), some (g_I v3), some (g_I v4), some (g_I (v5 + 1))] K)))))))) : n_X0_alike E l sh D 30 [some (g_R k), some (g_I v1), some (g_R r2), some (g_I v3), some (g_I v4), some (g_I v5)] K := by
  refine g_use (fun ok => ?_)
  have hF := hF ok.2.1 (ok.loc (i := 1) rfl) (ok.loc (i := 3) rfl) (ok.loc (i := 4) rfl) (ok.loc (i := 5) rfl)
  refine g_iload dX0_alike_30 rfl ?_
  refine g_iload dX0_alike_32 rfl ?_
  refine g_cge dX0_alike_34 rfl (fun q => ?_) (fun q => ?_)
  · have hF := hF.1 q
    refine g_iload dX0_alike_64 rfl ?_
    exact gw_iret dX0_alike_66 rfl hF
  · have hF := hF.2 q
    refine g_aload_n dX0_alike_37 rfl ?_
    refine g_getR dX0_alike_38 fd_X0_15 hk.1 rfl ?_
    refine g_iload_n dX0_alike_41 rfl ?_
    refine g_iload dX0_alike_42 rfl ?_
    obtain ⟨hc, hF⟩ := hF
    refine g_iadd dX0_alike_44 hc ?_
    obtain ⟨hc, hF⟩ := hF
    refine g_iald dX0_alike_45 hk.2 hc.1 hc.2 ?_
    refine g_aload_n dX0_alike_46 rfl ?_
    refine g_getR dX0_alike_47 fd_X0_15 hr2.1 rfl ?_
    refine g_iload_n dX0_alike_50 rfl ?_
    refine g_iload dX0_alike_51 rfl ?_
    obtain ⟨hc, hF⟩ := hF
    refine g_iadd dX0_alike_53 hc ?_
    obtain ⟨hc, hF⟩ := hF
    refine g_iald dX0_alike_54 hr2.2 hc.1 hc.2 ?_
    refine g_cne dX0_alike_55 rfl (fun q => ?_) (fun q => ?_)
    · have hF := hF.1 q
      refine g_iload dX0_alike_64 rfl ?_
      exact gw_iret dX0_alike_66 rfl hF
    · have hF := hF.2 q
      obtain ⟨hc, hF⟩ := hF
      refine gw_iinc (L' := [some (g_R k), some (g_I v1), some (g_R r2), some (g_I v3), some (g_I v4), some (g_I (v5 + 1))]) dX0_alike_58 rfl hc (by decide) rfl ?_
      refine g_goto dX0_alike_61 rfl ?_
      exact hF
theorem dX0_at_0 : decode cX0_at 0 = .ok (.iload_n 1, 1) := by decide +kernel
theorem dX0_at_1 : decode cX0_at 1 = .ok (.ifCond .lt 20, 3) := by decide +kernel
theorem dX0_at_4 : decode cX0_at 4 = .ok (.iload_n 1, 1) := by decide +kernel
theorem dX0_at_5 : decode cX0_at 5 = .ok (.aload_n 0, 1) := by decide +kernel
theorem dX0_at_6 : decode cX0_at 6 = .ok (.getfield 21, 3) := by decide +kernel
theorem dX0_at_9 : decode cX0_at 9 = .ok (.if_icmp .ge 12, 3) := by decide +kernel
theorem dX0_at_12 : decode cX0_at 12 = .ok (.aload_n 0, 1) := by decide +kernel
theorem dX0_at_13 : decode cX0_at 13 = .ok (.getfield 15, 3) := by decide +kernel
theorem dX0_at_16 : decode cX0_at 16 = .ok (.iload_n 1, 1) := by decide +kernel
theorem dX0_at_17 : decode cX0_at 17 = .ok (.iaload, 1) := by decide +kernel
theorem dX0_at_18 : decode cX0_at 18 = .ok (.goto 4, 3) := by decide +kernel
theorem dX0_at_21 : decode cX0_at 21 = .ok (.iconst (-1), 1) := by decide +kernel
theorem dX0_at_22 : decode cX0_at 22 = .ok (.ireturn, 1) := by decide +kernel
abbrev k_X0_at (E : g_E) (l : Launch) (sh : List g_Sh) (D : g_D) (k : Nat) (v1 : Int) (K : Int → g_D → Prop) : Prop := g_Ki E l m_X0_at 0 [g_R k, g_I v1] sh D K
abbrev n_X0_at (E : g_E) (l : Launch) (sh : List g_Sh) (D : g_D) (pc : Nat) (L : List (Option g_V)) (K : Int → g_D → Prop) : Prop := g_N E l m_X0_at 0 pc L [] sh D (g_Ri sh K)
theorem s_X0_at {E : g_E} {l : Launch} {sh : List g_Sh} {D : g_D} {K : Int → g_D → Prop} {nk : Nat} {k : Nat} {v1 : Int} (hk : is_Cells sh k nk) (hF : g_okD D → g_r v1 → (v1 < 0 → K (-1) D) ∧ (¬ v1 < 0 → ((D k 1) ≤ v1 → K (-1) D) ∧ (¬ (D k 1) ≤ v1 → (0 ≤ v1 ∧ v1 < nk) ∧ (K (D (k + 1) v1.toNat) D)))) : k_X0_at E l sh D k v1 K := by
  refine g_enter (by decide) (Nat.le_of_ble_eq_true rfl) ?_
  show g_N E l m_X0_at 0 0 [some (g_R k), some (g_I v1)] [] sh D (g_Ri sh K)
  refine g_use (fun ok => ?_)
  have hF := hF ok.2.1 (ok.loc (i := 1) rfl)
  refine g_iload_n dX0_at_0 rfl ?_
  refine g_iflt dX0_at_1 rfl (fun q => ?_) (fun q => ?_)
  · have hF := hF.1 q
    refine g_iconst dX0_at_21 ⟨by decide, by decide⟩ ?_
    exact gw_iret dX0_at_22 rfl hF
  · have hF := hF.2 q
    refine g_iload_n dX0_at_4 rfl ?_
    refine g_aload_n dX0_at_5 rfl ?_
    refine g_getI dX0_at_6 fd_X0_21 hk.1 rfl ?_
    refine g_cge dX0_at_9 rfl (fun q => ?_) (fun q => ?_)
    · have hF := hF.1 q
      refine g_iconst dX0_at_21 ⟨by decide, by decide⟩ ?_
      exact gw_iret dX0_at_22 rfl hF
    · have hF := hF.2 q
      refine g_aload_n dX0_at_12 rfl ?_
      refine g_getR dX0_at_13 fd_X0_15 hk.1 rfl ?_
      refine g_iload_n dX0_at_16 rfl ?_
      obtain ⟨hc, hF⟩ := hF
      refine g_iald dX0_at_17 hk.2 hc.1 hc.2 ?_
      refine g_goto dX0_at_18 rfl ?_
      exact gw_iret dX0_at_22 rfl hF
theorem dX0_copyFirst_0 : decode cX0_copyFirst 0 = .ok (.aload_n 0, 1) := by decide +kernel
theorem dX0_copyFirst_1 : decode cX0_copyFirst 1 = .ok (.iconst 0, 1) := by decide +kernel
theorem dX0_copyFirst_2 : decode cX0_copyFirst 2 = .ok (.iload_n 2, 1) := by decide +kernel
theorem dX0_copyFirst_3 : decode cX0_copyFirst 3 = .ok (.aload_n 0, 1) := by decide +kernel
theorem dX0_copyFirst_4 : decode cX0_copyFirst 4 = .ok (.getfield 15, 3) := by decide +kernel
theorem dX0_copyFirst_7 : decode cX0_copyFirst 7 = .ok (.arraylength, 1) := by decide +kernel
theorem dX0_copyFirst_8 : decode cX0_copyFirst 8 = .ok (.aload_n 1, 1) := by decide +kernel
theorem dX0_copyFirst_9 : decode cX0_copyFirst 9 = .ok (.getfield 21, 3) := by decide +kernel
theorem dX0_copyFirst_12 : decode cX0_copyFirst 12 = .ok (.invokestatic 25, 3) := by decide +kernel
theorem dX0_copyFirst_15 : decode cX0_copyFirst 15 = .ok (.invokestatic 25, 3) := by decide +kernel
theorem dX0_copyFirst_18 : decode cX0_copyFirst 18 = .ok (.invokestatic 9, 3) := by decide +kernel
theorem dX0_copyFirst_21 : decode cX0_copyFirst 21 = .ok (.putfield 21, 3) := by decide +kernel
theorem dX0_copyFirst_24 : decode cX0_copyFirst 24 = .ok (.aload_n 1, 1) := by decide +kernel
theorem dX0_copyFirst_25 : decode cX0_copyFirst 25 = .ok (.getfield 15, 3) := by decide +kernel
theorem dX0_copyFirst_28 : decode cX0_copyFirst 28 = .ok (.iconst 0, 1) := by decide +kernel
theorem dX0_copyFirst_29 : decode cX0_copyFirst 29 = .ok (.aload_n 0, 1) := by decide +kernel
theorem dX0_copyFirst_30 : decode cX0_copyFirst 30 = .ok (.getfield 15, 3) := by decide +kernel
theorem dX0_copyFirst_33 : decode cX0_copyFirst 33 = .ok (.iconst 0, 1) := by decide +kernel
theorem dX0_copyFirst_34 : decode cX0_copyFirst 34 = .ok (.aload_n 0, 1) := by decide +kernel
theorem dX0_copyFirst_35 : decode cX0_copyFirst 35 = .ok (.getfield 21, 3) := by decide +kernel
theorem dX0_copyFirst_38 : decode cX0_copyFirst 38 = .ok (.invokestatic 28, 3) := by decide +kernel
theorem dX0_copyFirst_41 : decode cX0_copyFirst 41 = .ok (.return_, 1) := by decide +kernel
abbrev k_X0_copyFirst (E : g_E) (l : Launch) (sh : List g_Sh) (D : g_D) (k : Nat) (r1 : Nat) (v2 : Int) (K : g_D → Prop) : Prop := g_Kv E l m_X0_copyFirst 1 [g_R k, g_R r1, g_I v2] sh D K
abbrev n_X0_copyFirst (E : g_E) (l : Launch) (sh : List g_Sh) (D : g_D) (pc : Nat) (L : List (Option g_V)) (K : g_D → Prop) : Prop := g_N E l m_X0_copyFirst 1 pc L [] sh D (g_Rv sh K)
theorem s_X0_copyFirst {E : g_E} {l : Launch} {sh : List g_Sh} {D : g_D} {K : g_D → Prop} {nk : Nat} {nr1 : Nat} {k : Nat} {r1 : Nat} {v2 : Int} (hk : is_Cells sh k nk) (hr1 : is_Cells sh r1 nr1) (hF : g_okD D → g_r v2 → (nk ≤ 2147483647) ∧ (∀ D1, D1 = g_up D k 1 (max 0 (min v2 (min (nk : Int) (D r1 1)))) → (((0 : Int) ≤ 0 ∧ (0 : Int) ≤ 0 ∧ (0 : Int) ≤ (D1 k 1) ∧ (0 + (D1 k 1) : Int) ≤ nr1 ∧ (0 + (D1 k 1) : Int) ≤ nk) ∧ (∀ D2, D2 = g_cpy D1 (r1 + 1) (k + 1) 0 0 (D1 k 1).toNat → (K D2))))) : k_X0_copyFirst E l sh D k r1 v2 K := by
  refine g_enter (by decide) (Nat.le_of_ble_eq_true rfl) ?_
  show g_N E l m_X0_copyFirst 1 0 [some (g_R k), some (g_R r1), some (g_I v2)] [] sh D (g_Rv sh K)
  refine g_use (fun ok => ?_)
  have hF := hF ok.2.1 (ok.loc (i := 2) rfl)
  refine g_aload_n dX0_copyFirst_0 rfl ?_
  refine g_iconst dX0_copyFirst_1 ⟨by decide, by decide⟩ ?_
  refine g_iload_n dX0_copyFirst_2 rfl ?_
  refine g_aload_n dX0_copyFirst_3 rfl ?_
  refine g_getR dX0_copyFirst_4 fd_X0_15 hk.1 rfl ?_
  obtain ⟨hc, hF⟩ := hF
  refine g_alen dX0_copyFirst_7 hk.2 (by decide) hc ?_
  refine g_aload_n dX0_copyFirst_8 rfl ?_
  refine g_getI dX0_copyFirst_9 fd_X0_21 hr1.1 rfl ?_
  refine g_min dX0_copyFirst_12 mw_X0_25 (by decide) (Nat.le_refl _) (Nat.le_refl _) (Nat.le_of_ble_eq_true rfl) ?_
  refine g_min dX0_copyFirst_15 mw_X0_25 (by decide) (Nat.le_refl _) (Nat.le_refl _) (Nat.le_of_ble_eq_true rfl) ?_
  refine g_max dX0_copyFirst_18 mw_X0_9 (by decide) (Nat.le_refl _) (Nat.le_refl _) (Nat.le_of_ble_eq_true rfl) ?_
  let D1 : g_D := g_up D k 1 (max 0 (min v2 (min (nk : Int) (D r1 1))))
  have hF := hF D1 rfl
  refine g_put dX0_copyFirst_21 fd_X0_21 (g_ftyI (C := RX0) (T := TX0) (N := 2) rfl rfl (by decide +kernel)) hk.1 rfl ?_
  refine g_aload_n dX0_copyFirst_24 rfl ?_
  refine g_getR dX0_copyFirst_25 fd_X0_15 hr1.1 rfl ?_
  refine g_iconst dX0_copyFirst_28 ⟨by decide, by decide⟩ ?_
  refine g_aload_n dX0_copyFirst_29 rfl ?_
  refine g_getR dX0_copyFirst_30 fd_X0_15 hk.1 rfl ?_
  refine g_iconst dX0_copyFirst_33 ⟨by decide, by decide⟩ ?_
  refine g_aload_n dX0_copyFirst_34 rfl ?_
  refine g_getI dX0_copyFirst_35 fd_X0_21 hk.1 rfl ?_
  obtain ⟨hc, hF⟩ := hF
  let D2 : g_D := g_cpy D1 (r1 + 1) (k + 1) 0 0 (D1 k 1).toNat
  have hF := hF D2 rfl
  refine g_acopy dX0_copyFirst_38 ac_X0_28.1 ac_X0_28.2.1 ac_X0_28.2.2.1 ac_X0_28.2.2.2 hr1.2 hk.2 hc.1 hc.2.1 hc.2.2.1 hc.2.2.2.1 hc.2.2.2.2 (by decide) (Nat.le_of_ble_eq_true rfl) ?_
  exact gw_vret dX0_copyFirst_41 rfl hF
theorem dX0_push_0 : decode cX0_push 0 = .ok (.aload_n 0, 1) := by decide +kernel
theorem dX0_push_1 : decode cX0_push 1 = .ok (.getfield 21, 3) := by decide +kernel
theorem dX0_push_4 : decode cX0_push 4 = .ok (.aload_n 0, 1) := by decide +kernel
theorem dX0_push_5 : decode cX0_push 5 = .ok (.getfield 15, 3) := by decide +kernel
theorem dX0_push_8 : decode cX0_push 8 = .ok (.arraylength, 1) := by decide +kernel
theorem dX0_push_9 : decode cX0_push 9 = .ok (.if_icmp .ge 23, 3) := by decide +kernel
theorem dX0_push_12 : decode cX0_push 12 = .ok (.aload_n 0, 1) := by decide +kernel
theorem dX0_push_13 : decode cX0_push 13 = .ok (.getfield 15, 3) := by decide +kernel
theorem dX0_push_16 : decode cX0_push 16 = .ok (.aload_n 0, 1) := by decide +kernel
theorem dX0_push_17 : decode cX0_push 17 = .ok (.getfield 21, 3) := by decide +kernel
theorem dX0_push_20 : decode cX0_push 20 = .ok (.iload_n 1, 1) := by decide +kernel
theorem dX0_push_21 : decode cX0_push 21 = .ok (.iastore, 1) := by decide +kernel
theorem dX0_push_22 : decode cX0_push 22 = .ok (.aload_n 0, 1) := by decide +kernel
theorem dX0_push_23 : decode cX0_push 23 = .ok (.dup, 1) := by decide +kernel
theorem dX0_push_24 : decode cX0_push 24 = .ok (.getfield 21, 3) := by decide +kernel
theorem dX0_push_27 : decode cX0_push 27 = .ok (.iconst 1, 1) := by decide +kernel
theorem dX0_push_28 : decode cX0_push 28 = .ok (.iadd, 1) := by decide +kernel
theorem dX0_push_29 : decode cX0_push 29 = .ok (.putfield 21, 3) := by decide +kernel
theorem dX0_push_32 : decode cX0_push 32 = .ok (.return_, 1) := by decide +kernel
abbrev k_X0_push (E : g_E) (l : Launch) (sh : List g_Sh) (D : g_D) (k : Nat) (v1 : Int) (K : g_D → Prop) : Prop := g_Kv E l m_X0_push 0 [g_R k, g_I v1] sh D K
abbrev n_X0_push (E : g_E) (l : Launch) (sh : List g_Sh) (D : g_D) (pc : Nat) (L : List (Option g_V)) (K : g_D → Prop) : Prop := g_N E l m_X0_push 0 pc L [] sh D (g_Rv sh K)
theorem s_X0_push {E : g_E} {l : Launch} {sh : List g_Sh} {D : g_D} {K : g_D → Prop} {nk : Nat} {k : Nat} {v1 : Int} (hk : is_Cells sh k nk) (hF : g_okD D → g_r v1 → (nk ≤ 2147483647) ∧ (((nk : Int) ≤ (D k 1) → K D) ∧ (¬ (nk : Int) ≤ (D k 1) → (0 ≤ (D k 1) ∧ (D k 1) < nk) ∧ (∀ D1, D1 = g_up D (k + 1) (D k 1).toNat v1 → ((g_r ((D1 k 1) + 1)) ∧ (∀ D2, D2 = g_up D1 k 1 ((D1 k 1) + 1) → (K D2))))))) : k_X0_push E l sh D k v1 K := by
  refine g_enter (by decide) (Nat.le_of_ble_eq_true rfl) ?_
  show g_N E l m_X0_push 0 0 [some (g_R k), some (g_I v1)] [] sh D (g_Rv sh K)
  refine g_use (fun ok => ?_)
  have hF := hF ok.2.1 (ok.loc (i := 1) rfl)
  refine g_aload_n dX0_push_0 rfl ?_
  refine g_getI dX0_push_1 fd_X0_21 hk.1 rfl ?_
  refine g_aload_n dX0_push_4 rfl ?_
  refine g_getR dX0_push_5 fd_X0_15 hk.1 rfl ?_
  obtain ⟨hc, hF⟩ := hF
  refine g_alen dX0_push_8 hk.2 (by decide) hc ?_
  refine g_cge dX0_push_9 rfl (fun q => ?_) (fun q => ?_)
  · have hF := hF.1 q
    exact gw_vret dX0_push_32 rfl hF
  · have hF := hF.2 q
    refine g_aload_n dX0_push_12 rfl ?_
    refine g_getR dX0_push_13 fd_X0_15 hk.1 rfl ?_
    refine g_aload_n dX0_push_16 rfl ?_
    refine g_getI dX0_push_17 fd_X0_21 hk.1 rfl ?_
    refine g_iload_n dX0_push_20 rfl ?_
    obtain ⟨hc, hF⟩ := hF
    let D1 : g_D := g_up D (k + 1) (D k 1).toNat v1
    have hF := hF D1 rfl
    refine g_iast dX0_push_21 hk.2 hc.1 hc.2 ?_
    refine g_aload_n dX0_push_22 rfl ?_
    refine g_dup dX0_push_23 rfl ?_
    refine g_getI dX0_push_24 fd_X0_21 hk.1 rfl ?_
    refine g_iconst dX0_push_27 ⟨by decide, by decide⟩ ?_
    obtain ⟨hc, hF⟩ := hF
    refine g_iadd dX0_push_28 hc ?_
    let D2 : g_D := g_up D1 k 1 ((D1 k 1) + 1)
    have hF := hF D2 rfl
    refine g_put dX0_push_29 fd_X0_21 (g_ftyI (C := RX0) (T := TX0) (N := 2) rfl rfl (by decide +kernel)) hk.1 rfl ?_
    exact gw_vret dX0_push_32 rfl hF
theorem dX11_packed_0 : decode cX11_packed 0 = .ok (.iconst 0, 1) := by decide +kernel
theorem dX11_packed_1 : decode cX11_packed 1 = .ok (.istore_n 2, 1) := by decide +kernel
theorem dX11_packed_2 : decode cX11_packed 2 = .ok (.iload_n 1, 1) := by decide +kernel
theorem dX11_packed_3 : decode cX11_packed 3 = .ok (.istore_n 3, 1) := by decide +kernel
theorem dX11_packed_4 : decode cX11_packed 4 = .ok (.iload_n 3, 1) := by decide +kernel
theorem dX11_packed_5 : decode cX11_packed 5 = .ok (.iload_n 1, 1) := by decide +kernel
theorem dX11_packed_6 : decode cX11_packed 6 = .ok (.iconst 4, 1) := by decide +kernel
theorem dX11_packed_7 : decode cX11_packed 7 = .ok (.iadd, 1) := by decide +kernel
theorem dX11_packed_8 : decode cX11_packed 8 = .ok (.if_icmp .ge 32, 3) := by decide +kernel
theorem dX11_packed_11 : decode cX11_packed 11 = .ok (.iload_n 3, 1) := by decide +kernel
theorem dX11_packed_12 : decode cX11_packed 12 = .ok (.ifCond .lt 28, 3) := by decide +kernel
theorem dX11_packed_15 : decode cX11_packed 15 = .ok (.iload_n 3, 1) := by decide +kernel
theorem dX11_packed_16 : decode cX11_packed 16 = .ok (.aload_n 0, 1) := by decide +kernel
theorem dX11_packed_17 : decode cX11_packed 17 = .ok (.arraylength, 1) := by decide +kernel
theorem dX11_packed_18 : decode cX11_packed 18 = .ok (.if_icmp .ge 22, 3) := by decide +kernel
theorem dX11_packed_21 : decode cX11_packed 21 = .ok (.iload_n 2, 1) := by decide +kernel
theorem dX11_packed_22 : decode cX11_packed 22 = .ok (.bipush 8, 2) := by decide +kernel
theorem dX11_packed_24 : decode cX11_packed 24 = .ok (.ishl, 1) := by decide +kernel
theorem dX11_packed_25 : decode cX11_packed 25 = .ok (.aload_n 0, 1) := by decide +kernel
theorem dX11_packed_26 : decode cX11_packed 26 = .ok (.iload_n 3, 1) := by decide +kernel
theorem dX11_packed_27 : decode cX11_packed 27 = .ok (.iaload, 1) := by decide +kernel
theorem dX11_packed_28 : decode cX11_packed 28 = .ok (.sipush 255, 3) := by decide +kernel
theorem dX11_packed_31 : decode cX11_packed 31 = .ok (.iand, 1) := by decide +kernel
theorem dX11_packed_32 : decode cX11_packed 32 = .ok (.ior, 1) := by decide +kernel
theorem dX11_packed_33 : decode cX11_packed 33 = .ok (.istore_n 2, 1) := by decide +kernel
theorem dX11_packed_34 : decode cX11_packed 34 = .ok (.iinc 3 1, 3) := by decide +kernel
theorem dX11_packed_37 : decode cX11_packed 37 = .ok (.goto (-33), 3) := by decide +kernel
theorem dX11_packed_40 : decode cX11_packed 40 = .ok (.iload_n 2, 1) := by decide +kernel
theorem dX11_packed_41 : decode cX11_packed 41 = .ok (.ireturn, 1) := by decide +kernel
abbrev k_X11_packed (E : g_E) (l : Launch) (sh : List g_Sh) (D : g_D) (r0 : Nat) (v1 : Int) (K : Int → g_D → Prop) : Prop := g_Ki E l m_X11_packed 0 [g_R r0, g_I v1] sh D K
abbrev n_X11_packed (E : g_E) (l : Launch) (sh : List g_Sh) (D : g_D) (pc : Nat) (L : List (Option g_V)) (K : Int → g_D → Prop) : Prop := g_N E l m_X11_packed 0 pc L [] sh D (g_Ri sh K)
theorem s_X11_packed {E : g_E} {l : Launch} {sh : List g_Sh} {D : g_D} {K : Int → g_D → Prop} {n0 : Nat} {r0 : Nat} {v1 : Int} (hr0 : sh[r0]? = some (.inl (0, n0))) (hF : g_okD D → g_r v1 → n_X11_packed E l sh D 4 [some (g_R r0), some (g_I v1), some (g_I 0), some (g_I v1)] K) : k_X11_packed E l sh D r0 v1 K := by
  refine g_enter (by decide) (Nat.le_of_ble_eq_true rfl) ?_
  show g_N E l m_X11_packed 0 0 [some (g_R r0), some (g_I v1), none, none] [] sh D (g_Ri sh K)
  refine g_use (fun ok => ?_)
  have hF := hF ok.2.1 (ok.loc (i := 1) rfl)
  refine g_iconst dX11_packed_0 ⟨by decide, by decide⟩ ?_
  refine gw_istore_n (L' := [some (g_R r0), some (g_I v1), some (g_I 0), none]) dX11_packed_1 (by decide) rfl ?_
  refine g_iload_n dX11_packed_2 rfl ?_
  refine gw_istore_n (L' := [some (g_R r0), some (g_I v1), some (g_I 0), some (g_I v1)]) dX11_packed_3 (by decide) rfl ?_
  exact hF
theorem s_X11_packed_4 {E : g_E} {l : Launch} {sh : List g_Sh} {D : g_D} {K : Int → g_D → Prop} {n0 : Nat} {r0 : Nat} {v1 : Int} {v2 : Int} {v3 : Int} (hr0 : sh[r0]? = some (.inl (0, n0))) (hF : g_okD D → g_r v1 → g_r v2 → g_r v3 → (g_r (v1 + 4)) ∧ (((v1 + 4) ≤ v3 → K v2 D) ∧ (¬ (v1 + 4) ≤ v3 → (v3 < 0 → K v2 D) ∧ (¬ v3 < 0 → (n0 ≤ 2147483647) ∧ (((n0 : Int) ≤ v3 → K v2 D) ∧ (¬ (n0 : Int) ≤ v3 → (0 ≤ v3 ∧ v3 < n0) ∧ ((g_r (v3 + 1)) ∧ (n_X11_packed E l sh D 4 [some (g_R r0), some (g_I v1), some (g_I (g_or (g_shl v2 8) (g_and (D r0 v3.toNat) 255))), some (g_I (v3 + 1))] K)))))))) : n_X11_packed E l sh D 4 [some (g_R r0), some (g_I v1), some (g_I v2), some (g_I v3)] K := by
  refine g_use (fun ok => ?_)
  have hF := hF ok.2.1 (ok.loc (i := 1) rfl) (ok.loc (i := 2) rfl) (ok.loc (i := 3) rfl)
  refine g_iload_n dX11_packed_4 rfl ?_
  refine g_iload_n dX11_packed_5 rfl ?_
  refine g_iconst dX11_packed_6 ⟨by decide, by decide⟩ ?_
  obtain ⟨hc, hF⟩ := hF
  refine g_iadd dX11_packed_7 hc ?_
  refine g_cge dX11_packed_8 rfl (fun q => ?_) (fun q => ?_)
  · have hF := hF.1 q
    refine g_iload_n dX11_packed_40 rfl ?_
    exact gw_iret dX11_packed_41 rfl hF
  · have hF := hF.2 q
    refine g_iload_n dX11_packed_11 rfl ?_
    refine g_iflt dX11_packed_12 rfl (fun q => ?_) (fun q => ?_)
    · have hF := hF.1 q
      refine g_iload_n dX11_packed_40 rfl ?_
      exact gw_iret dX11_packed_41 rfl hF
    · have hF := hF.2 q
      refine g_iload_n dX11_packed_15 rfl ?_
      refine g_aload_n dX11_packed_16 rfl ?_
      obtain ⟨hc, hF⟩ := hF
      refine g_alen dX11_packed_17 hr0 (by decide) hc ?_
      refine g_cge dX11_packed_18 rfl (fun q => ?_) (fun q => ?_)
      · have hF := hF.1 q
        refine g_iload_n dX11_packed_40 rfl ?_
        exact gw_iret dX11_packed_41 rfl hF
      · have hF := hF.2 q
        refine g_iload_n dX11_packed_21 rfl ?_
        refine g_bipush dX11_packed_22 ⟨by decide, by decide⟩ ?_
        refine g_ishl dX11_packed_24 ?_
        refine g_aload_n dX11_packed_25 rfl ?_
        refine g_iload_n dX11_packed_26 rfl ?_
        obtain ⟨hc, hF⟩ := hF
        refine g_iald dX11_packed_27 hr0 hc.1 hc.2 ?_
        refine g_sipush dX11_packed_28 ⟨by decide, by decide⟩ ?_
        refine g_iand dX11_packed_31 ?_
        refine g_ior dX11_packed_32 ?_
        refine gw_istore_n (L' := [some (g_R r0), some (g_I v1), some (g_I (g_or (g_shl v2 8) (g_and (D r0 v3.toNat) 255))), some (g_I v3)]) dX11_packed_33 (by decide) rfl ?_
        obtain ⟨hc, hF⟩ := hF
        refine gw_iinc (L' := [some (g_R r0), some (g_I v1), some (g_I (g_or (g_shl v2 8) (g_and (D r0 v3.toNat) 255))), some (g_I (v3 + 1))]) dX11_packed_34 rfl hc (by decide) rfl ?_
        refine g_goto dX11_packed_37 rfl ?_
        exact hF
theorem dX11_hasBit_0 : decode cX11_hasBit 0 = .ok (.iload_n 0, 1) := by decide +kernel
theorem dX11_hasBit_1 : decode cX11_hasBit 1 = .ok (.iload_n 1, 1) := by decide +kernel
theorem dX11_hasBit_2 : decode cX11_hasBit 2 = .ok (.iushr, 1) := by decide +kernel
theorem dX11_hasBit_3 : decode cX11_hasBit 3 = .ok (.iconst 1, 1) := by decide +kernel
theorem dX11_hasBit_4 : decode cX11_hasBit 4 = .ok (.iand, 1) := by decide +kernel
theorem dX11_hasBit_5 : decode cX11_hasBit 5 = .ok (.iconst 1, 1) := by decide +kernel
theorem dX11_hasBit_6 : decode cX11_hasBit 6 = .ok (.if_icmp .ne 7, 3) := by decide +kernel
theorem dX11_hasBit_9 : decode cX11_hasBit 9 = .ok (.iconst 1, 1) := by decide +kernel
theorem dX11_hasBit_10 : decode cX11_hasBit 10 = .ok (.goto 4, 3) := by decide +kernel
theorem dX11_hasBit_13 : decode cX11_hasBit 13 = .ok (.iconst 0, 1) := by decide +kernel
theorem dX11_hasBit_14 : decode cX11_hasBit 14 = .ok (.ireturn, 1) := by decide +kernel
abbrev k_X11_hasBit (E : g_E) (l : Launch) (sh : List g_Sh) (D : g_D) (v0 : Int) (v1 : Int) (K : Int → g_D → Prop) : Prop := g_Ki E l m_X11_hasBit 0 [g_I v0, g_I v1] sh D K
abbrev n_X11_hasBit (E : g_E) (l : Launch) (sh : List g_Sh) (D : g_D) (pc : Nat) (L : List (Option g_V)) (K : Int → g_D → Prop) : Prop := g_N E l m_X11_hasBit 0 pc L [] sh D (g_Ri sh K)
theorem s_X11_hasBit {E : g_E} {l : Launch} {sh : List g_Sh} {D : g_D} {K : Int → g_D → Prop} {v0 : Int} {v1 : Int}  (hF : g_okD D → g_r v0 → g_r v1 → (¬ (g_and (g_ushr v0 v1) 1) = 1 → K 0 D) ∧ ((g_and (g_ushr v0 v1) 1) = 1 → K 1 D)) : k_X11_hasBit E l sh D v0 v1 K := by
  refine g_enter (by decide) (Nat.le_of_ble_eq_true rfl) ?_
  show g_N E l m_X11_hasBit 0 0 [some (g_I v0), some (g_I v1)] [] sh D (g_Ri sh K)
  refine g_use (fun ok => ?_)
  have hF := hF ok.2.1 (ok.loc (i := 0) rfl) (ok.loc (i := 1) rfl)
  refine g_iload_n dX11_hasBit_0 rfl ?_
  refine g_iload_n dX11_hasBit_1 rfl ?_
  refine g_iushr dX11_hasBit_2 ?_
  refine g_iconst dX11_hasBit_3 ⟨by decide, by decide⟩ ?_
  refine g_iand dX11_hasBit_4 ?_
  refine g_iconst dX11_hasBit_5 ⟨by decide, by decide⟩ ?_
  refine g_cne dX11_hasBit_6 rfl (fun q => ?_) (fun q => ?_)
  · have hF := hF.1 q
    refine g_iconst dX11_hasBit_13 ⟨by decide, by decide⟩ ?_
    exact gw_zret dX11_hasBit_14 rfl (by decide) hF
  · have hF := hF.2 q
    refine g_iconst dX11_hasBit_9 ⟨by decide, by decide⟩ ?_
    refine g_goto dX11_hasBit_10 rfl ?_
    exact gw_zret dX11_hasBit_14 rfl (by decide) hF
theorem dX11_lowestBit_0 : decode cX11_lowestBit 0 = .ok (.iload_n 0, 1) := by decide +kernel
theorem dX11_lowestBit_1 : decode cX11_lowestBit 1 = .ok (.invokestatic 439, 3) := by decide +kernel
theorem dX11_lowestBit_4 : decode cX11_lowestBit 4 = .ok (.istore_n 1, 1) := by decide +kernel
theorem dX11_lowestBit_5 : decode cX11_lowestBit 5 = .ok (.iload_n 1, 1) := by decide +kernel
theorem dX11_lowestBit_6 : decode cX11_lowestBit 6 = .ok (.bipush 20, 2) := by decide +kernel
theorem dX11_lowestBit_8 : decode cX11_lowestBit 8 = .ok (.if_icmp .ge 7, 3) := by decide +kernel
theorem dX11_lowestBit_11 : decode cX11_lowestBit 11 = .ok (.iload_n 1, 1) := by decide +kernel
theorem dX11_lowestBit_12 : decode cX11_lowestBit 12 = .ok (.goto 4, 3) := by decide +kernel
theorem dX11_lowestBit_15 : decode cX11_lowestBit 15 = .ok (.iconst 0, 1) := by decide +kernel
theorem dX11_lowestBit_16 : decode cX11_lowestBit 16 = .ok (.ireturn, 1) := by decide +kernel
abbrev k_X11_lowestBit (E : g_E) (l : Launch) (sh : List g_Sh) (D : g_D) (v0 : Int) (K : Int → g_D → Prop) : Prop := g_Ki E l m_X11_lowestBit 1 [g_I v0] sh D K
abbrev n_X11_lowestBit (E : g_E) (l : Launch) (sh : List g_Sh) (D : g_D) (pc : Nat) (L : List (Option g_V)) (K : Int → g_D → Prop) : Prop := g_N E l m_X11_lowestBit 1 pc L [] sh D (g_Ri sh K)
theorem s_X11_lowestBit {E : g_E} {l : Launch} {sh : List g_Sh} {D : g_D} {K : Int → g_D → Prop} {v0 : Int}  (hF : g_okD D → g_r v0 → k_J6_numberOfTrailingZeros_0f7a4 E l sh D v0 (fun x1 D1 => g_r x1 → (20 ≤ x1 → K 0 D1) ∧ (¬ 20 ≤ x1 → K x1 D1))) : k_X11_lowestBit E l sh D v0 K := by
  refine g_enter (by decide) (Nat.le_of_ble_eq_true rfl) ?_
  show g_N E l m_X11_lowestBit 1 0 [some (g_I v0), none] [] sh D (g_Ri sh K)
  refine g_use (fun ok => ?_)
  have hF := hF ok.2.1 (ok.loc (i := 0) rfl)
  refine g_iload_n dX11_lowestBit_0 rfl ?_
  refine gw_cSi (As := [g_I v0]) (rest := []) dX11_lowestBit_1 ms_X11_439 rfl (Nat.le_of_ble_eq_true rfl) (by decide) rfl hF ?_
  intro x1 D1 hx1 hF
  have hF := hF hx1
  refine gw_istore_n (L' := [some (g_I v0), some (g_I x1)]) dX11_lowestBit_4 (by decide) rfl ?_
  refine g_iload_n dX11_lowestBit_5 rfl ?_
  refine g_bipush dX11_lowestBit_6 ⟨by decide, by decide⟩ ?_
  refine g_cge dX11_lowestBit_8 rfl (fun q => ?_) (fun q => ?_)
  · have hF := hF.1 q
    refine g_iconst dX11_lowestBit_15 ⟨by decide, by decide⟩ ?_
    exact gw_iret dX11_lowestBit_16 rfl hF
  · have hF := hF.2 q
    refine g_iload_n dX11_lowestBit_11 rfl ?_
    refine g_goto dX11_lowestBit_12 rfl ?_
    exact gw_iret dX11_lowestBit_16 rfl hF
theorem dX11_onesFrom_0 : decode cX11_onesFrom 0 = .ok (.iconst 1, 1) := by decide +kernel
theorem dX11_onesFrom_1 : decode cX11_onesFrom 1 = .ok (.iload_n 1, 1) := by decide +kernel
theorem dX11_onesFrom_2 : decode cX11_onesFrom 2 = .ok (.ishl, 1) := by decide +kernel
theorem dX11_onesFrom_3 : decode cX11_onesFrom 3 = .ok (.iconst 1, 1) := by decide +kernel
theorem dX11_onesFrom_4 : decode cX11_onesFrom 4 = .ok (.isub, 1) := by decide +kernel
theorem dX11_onesFrom_5 : decode cX11_onesFrom 5 = .ok (.iload_n 0, 1) := by decide +kernel
theorem dX11_onesFrom_6 : decode cX11_onesFrom 6 = .ok (.ishl, 1) := by decide +kernel
theorem dX11_onesFrom_7 : decode cX11_onesFrom 7 = .ok (.ireturn, 1) := by decide +kernel
abbrev k_X11_onesFrom (E : g_E) (l : Launch) (sh : List g_Sh) (D : g_D) (v0 : Int) (v1 : Int) (K : Int → g_D → Prop) : Prop := g_Ki E l m_X11_onesFrom 0 [g_I v0, g_I v1] sh D K
abbrev n_X11_onesFrom (E : g_E) (l : Launch) (sh : List g_Sh) (D : g_D) (pc : Nat) (L : List (Option g_V)) (K : Int → g_D → Prop) : Prop := g_N E l m_X11_onesFrom 0 pc L [] sh D (g_Ri sh K)
theorem s_X11_onesFrom {E : g_E} {l : Launch} {sh : List g_Sh} {D : g_D} {K : Int → g_D → Prop} {v0 : Int} {v1 : Int}  (hF : g_okD D → g_r v0 → g_r v1 → (g_r ((g_shl 1 v1) - 1)) ∧ (K (g_shl ((g_shl 1 v1) - 1) v0) D)) : k_X11_onesFrom E l sh D v0 v1 K := by
  refine g_enter (by decide) (Nat.le_of_ble_eq_true rfl) ?_
  show g_N E l m_X11_onesFrom 0 0 [some (g_I v0), some (g_I v1)] [] sh D (g_Ri sh K)
  refine g_use (fun ok => ?_)
  have hF := hF ok.2.1 (ok.loc (i := 0) rfl) (ok.loc (i := 1) rfl)
  refine g_iconst dX11_onesFrom_0 ⟨by decide, by decide⟩ ?_
  refine g_iload_n dX11_onesFrom_1 rfl ?_
  refine g_ishl dX11_onesFrom_2 ?_
  refine g_iconst dX11_onesFrom_3 ⟨by decide, by decide⟩ ?_
  obtain ⟨hc, hF⟩ := hF
  refine g_isub dX11_onesFrom_4 hc ?_
  refine g_iload_n dX11_onesFrom_5 rfl ?_
  refine g_ishl dX11_onesFrom_6 ?_
  exact gw_iret dX11_onesFrom_7 rfl hF
theorem dX11_elementOf_0 : decode cX11_elementOf 0 = .ok (.iload_n 1, 1) := by decide +kernel
theorem dX11_elementOf_1 : decode cX11_elementOf 1 = .ok (.ifCond .lt 15, 3) := by decide +kernel
theorem dX11_elementOf_4 : decode cX11_elementOf 4 = .ok (.iload_n 1, 1) := by decide +kernel
theorem dX11_elementOf_5 : decode cX11_elementOf 5 = .ok (.aload_n 0, 1) := by decide +kernel
theorem dX11_elementOf_6 : decode cX11_elementOf 6 = .ok (.arraylength, 1) := by decide +kernel
theorem dX11_elementOf_7 : decode cX11_elementOf 7 = .ok (.if_icmp .ge 9, 3) := by decide +kernel
theorem dX11_elementOf_10 : decode cX11_elementOf 10 = .ok (.aload_n 0, 1) := by decide +kernel
theorem dX11_elementOf_11 : decode cX11_elementOf 11 = .ok (.iload_n 1, 1) := by decide +kernel
theorem dX11_elementOf_12 : decode cX11_elementOf 12 = .ok (.iaload, 1) := by decide +kernel
theorem dX11_elementOf_13 : decode cX11_elementOf 13 = .ok (.goto 4, 3) := by decide +kernel
theorem dX11_elementOf_16 : decode cX11_elementOf 16 = .ok (.iconst (-1), 1) := by decide +kernel
theorem dX11_elementOf_17 : decode cX11_elementOf 17 = .ok (.ireturn, 1) := by decide +kernel
abbrev k_X11_elementOf (E : g_E) (l : Launch) (sh : List g_Sh) (D : g_D) (r0 : Nat) (v1 : Int) (K : Int → g_D → Prop) : Prop := g_Ki E l m_X11_elementOf 0 [g_R r0, g_I v1] sh D K
abbrev n_X11_elementOf (E : g_E) (l : Launch) (sh : List g_Sh) (D : g_D) (pc : Nat) (L : List (Option g_V)) (K : Int → g_D → Prop) : Prop := g_N E l m_X11_elementOf 0 pc L [] sh D (g_Ri sh K)
theorem s_X11_elementOf {E : g_E} {l : Launch} {sh : List g_Sh} {D : g_D} {K : Int → g_D → Prop} {n0 : Nat} {r0 : Nat} {v1 : Int} (hr0 : sh[r0]? = some (.inl (0, n0))) (hF : g_okD D → g_r v1 → (v1 < 0 → K (-1) D) ∧ (¬ v1 < 0 → (n0 ≤ 2147483647) ∧ (((n0 : Int) ≤ v1 → K (-1) D) ∧ (¬ (n0 : Int) ≤ v1 → (0 ≤ v1 ∧ v1 < n0) ∧ (K (D r0 v1.toNat) D))))) : k_X11_elementOf E l sh D r0 v1 K := by
  refine g_enter (by decide) (Nat.le_of_ble_eq_true rfl) ?_
  show g_N E l m_X11_elementOf 0 0 [some (g_R r0), some (g_I v1)] [] sh D (g_Ri sh K)
  refine g_use (fun ok => ?_)
  have hF := hF ok.2.1 (ok.loc (i := 1) rfl)
  refine g_iload_n dX11_elementOf_0 rfl ?_
  refine g_iflt dX11_elementOf_1 rfl (fun q => ?_) (fun q => ?_)
  · have hF := hF.1 q
    refine g_iconst dX11_elementOf_16 ⟨by decide, by decide⟩ ?_
    exact gw_iret dX11_elementOf_17 rfl hF
  · have hF := hF.2 q
    refine g_iload_n dX11_elementOf_4 rfl ?_
    refine g_aload_n dX11_elementOf_5 rfl ?_
    obtain ⟨hc, hF⟩ := hF
    refine g_alen dX11_elementOf_6 hr0 (by decide) hc ?_
    refine g_cge dX11_elementOf_7 rfl (fun q => ?_) (fun q => ?_)
    · have hF := hF.1 q
      refine g_iconst dX11_elementOf_16 ⟨by decide, by decide⟩ ?_
      exact gw_iret dX11_elementOf_17 rfl hF
    · have hF := hF.2 q
      refine g_aload_n dX11_elementOf_10 rfl ?_
      refine g_iload_n dX11_elementOf_11 rfl ?_
      obtain ⟨hc, hF⟩ := hF
      refine g_iald dX11_elementOf_12 hr0 hc.1 hc.2 ?_
      refine g_goto dX11_elementOf_13 rfl ?_
      exact gw_iret dX11_elementOf_17 rfl hF
theorem dX11_commonDivisor_0 : decode cX11_commonDivisor 0 = .ok (.iload_n 0, 1) := by decide +kernel
theorem dX11_commonDivisor_1 : decode cX11_commonDivisor 1 = .ok (.istore_n 2, 1) := by decide +kernel
theorem dX11_commonDivisor_2 : decode cX11_commonDivisor 2 = .ok (.iload_n 1, 1) := by decide +kernel
theorem dX11_commonDivisor_3 : decode cX11_commonDivisor 3 = .ok (.istore_n 3, 1) := by decide +kernel
theorem dX11_commonDivisor_4 : decode cX11_commonDivisor 4 = .ok (.iconst 0, 1) := by decide +kernel
theorem dX11_commonDivisor_5 : decode cX11_commonDivisor 5 = .ok (.istore 4, 2) := by decide +kernel
theorem dX11_commonDivisor_7 : decode cX11_commonDivisor 7 = .ok (.iload 4, 2) := by decide +kernel
theorem dX11_commonDivisor_9 : decode cX11_commonDivisor 9 = .ok (.bipush 64, 2) := by decide +kernel
theorem dX11_commonDivisor_11 : decode cX11_commonDivisor 11 = .ok (.if_icmp .ge 23, 3) := by decide +kernel
theorem dX11_commonDivisor_14 : decode cX11_commonDivisor 14 = .ok (.iload_n 3, 1) := by decide +kernel
theorem dX11_commonDivisor_15 : decode cX11_commonDivisor 15 = .ok (.ifCond .le 19, 3) := by decide +kernel
theorem dX11_commonDivisor_18 : decode cX11_commonDivisor 18 = .ok (.iload_n 2, 1) := by decide +kernel
theorem dX11_commonDivisor_19 : decode cX11_commonDivisor 19 = .ok (.iload_n 3, 1) := by decide +kernel
theorem dX11_commonDivisor_20 : decode cX11_commonDivisor 20 = .ok (.irem, 1) := by decide +kernel
theorem dX11_commonDivisor_21 : decode cX11_commonDivisor 21 = .ok (.istore 5, 2) := by decide +kernel
theorem dX11_commonDivisor_23 : decode cX11_commonDivisor 23 = .ok (.iload_n 3, 1) := by decide +kernel
theorem dX11_commonDivisor_24 : decode cX11_commonDivisor 24 = .ok (.istore_n 2, 1) := by decide +kernel
theorem dX11_commonDivisor_25 : decode cX11_commonDivisor 25 = .ok (.iload 5, 2) := by decide +kernel
theorem dX11_commonDivisor_27 : decode cX11_commonDivisor 27 = .ok (.istore_n 3, 1) := by decide +kernel
theorem dX11_commonDivisor_28 : decode cX11_commonDivisor 28 = .ok (.iinc 4 1, 3) := by decide +kernel
theorem dX11_commonDivisor_31 : decode cX11_commonDivisor 31 = .ok (.goto (-24), 3) := by decide +kernel
theorem dX11_commonDivisor_34 : decode cX11_commonDivisor 34 = .ok (.iload_n 2, 1) := by decide +kernel
theorem dX11_commonDivisor_35 : decode cX11_commonDivisor 35 = .ok (.ireturn, 1) := by decide +kernel
abbrev k_X11_commonDivisor (E : g_E) (l : Launch) (sh : List g_Sh) (D : g_D) (v0 : Int) (v1 : Int) (K : Int → g_D → Prop) : Prop := g_Ki E l m_X11_commonDivisor 0 [g_I v0, g_I v1] sh D K
abbrev n_X11_commonDivisor (E : g_E) (l : Launch) (sh : List g_Sh) (D : g_D) (pc : Nat) (L : List (Option g_V)) (K : Int → g_D → Prop) : Prop := g_N E l m_X11_commonDivisor 0 pc L [] sh D (g_Ri sh K)
theorem s_X11_commonDivisor {E : g_E} {l : Launch} {sh : List g_Sh} {D : g_D} {K : Int → g_D → Prop} {v0 : Int} {v1 : Int}  (hF : g_okD D → g_r v0 → g_r v1 → n_X11_commonDivisor E l sh D 7 [none, none, some (g_I v0), some (g_I v1), some (g_I 0), none] K) : k_X11_commonDivisor E l sh D v0 v1 K := by
  refine g_enter (by decide) (Nat.le_of_ble_eq_true rfl) ?_
  show g_N E l m_X11_commonDivisor 0 0 [some (g_I v0), some (g_I v1), none, none, none, none] [] sh D (g_Ri sh K)
  refine g_use (fun ok => ?_)
  have hF := hF ok.2.1 (ok.loc (i := 0) rfl) (ok.loc (i := 1) rfl)
  refine g_iload_n dX11_commonDivisor_0 rfl ?_
  refine gw_istore_n (L' := [some (g_I v0), some (g_I v1), some (g_I v0), none, none, none]) dX11_commonDivisor_1 (by decide) rfl ?_
  refine g_iload_n dX11_commonDivisor_2 rfl ?_
  refine gw_istore_n (L' := [some (g_I v0), some (g_I v1), some (g_I v0), some (g_I v1), none, none]) dX11_commonDivisor_3 (by decide) rfl ?_
  refine g_iconst dX11_commonDivisor_4 ⟨by decide, by decide⟩ ?_
  refine gw_istore (L' := [some (g_I v0), some (g_I v1), some (g_I v0), some (g_I v1), some (g_I 0), none]) dX11_commonDivisor_5 (by decide) rfl ?_
  exact g_forget (L' := [none, none, some (g_I v0), some (g_I v1), some (g_I 0), none]) ⟨rfl, ⟨rfl, ⟨rfl, trivial⟩⟩⟩ hF
theorem s_X11_commonDivisor_7 {E : g_E} {l : Launch} {sh : List g_Sh} {D : g_D} {K : Int → g_D → Prop} {v2 : Int} {v3 : Int} {v4 : Int}  (hF : g_okD D → g_r v2 → g_r v3 → g_r v4 → (64 ≤ v4 → K v2 D) ∧ (¬ 64 ≤ v4 → (v3 ≤ 0 → K v2 D) ∧ (¬ v3 ≤ 0 → (0 ≤ v2 ∧ 0 < v3) ∧ ((g_r (v4 + 1)) ∧ (n_X11_commonDivisor E l sh D 7 [none, none, some (g_I v3), some (g_I (v2 % v3)), some (g_I (v4 + 1)), none] K))))) : n_X11_commonDivisor E l sh D 7 [none, none, some (g_I v2), some (g_I v3), some (g_I v4), none] K := by
  refine g_use (fun ok => ?_)
  have hF := hF ok.2.1 (ok.loc (i := 2) rfl) (ok.loc (i := 3) rfl) (ok.loc (i := 4) rfl)
  refine g_iload dX11_commonDivisor_7 rfl ?_
  refine g_bipush dX11_commonDivisor_9 ⟨by decide, by decide⟩ ?_
  refine g_cge dX11_commonDivisor_11 rfl (fun q => ?_) (fun q => ?_)
  · have hF := hF.1 q
    refine g_iload_n dX11_commonDivisor_34 rfl ?_
    exact gw_iret dX11_commonDivisor_35 rfl hF
  · have hF := hF.2 q
    refine g_iload_n dX11_commonDivisor_14 rfl ?_
    refine g_ifle dX11_commonDivisor_15 rfl (fun q => ?_) (fun q => ?_)
    · have hF := hF.1 q
      refine g_iload_n dX11_commonDivisor_34 rfl ?_
      exact gw_iret dX11_commonDivisor_35 rfl hF
    · have hF := hF.2 q
      refine g_iload_n dX11_commonDivisor_18 rfl ?_
      refine g_iload_n dX11_commonDivisor_19 rfl ?_
      obtain ⟨hc, hF⟩ := hF
      refine g_irem dX11_commonDivisor_20 hc.1 hc.2 ?_
      refine gw_istore (L' := [none, none, some (g_I v2), some (g_I v3), some (g_I v4), some (g_I (v2 % v3))]) dX11_commonDivisor_21 (by decide) rfl ?_
      refine g_iload_n dX11_commonDivisor_23 rfl ?_
      refine gw_istore_n (L' := [none, none, some (g_I v3), some (g_I v3), some (g_I v4), some (g_I (v2 % v3))]) dX11_commonDivisor_24 (by decide) rfl ?_
      refine g_iload dX11_commonDivisor_25 rfl ?_
      refine gw_istore_n (L' := [none, none, some (g_I v3), some (g_I (v2 % v3)), some (g_I v4), some (g_I (v2 % v3))]) dX11_commonDivisor_27 (by decide) rfl ?_
      obtain ⟨hc, hF⟩ := hF
      refine gw_iinc (L' := [none, none, some (g_I v3), some (g_I (v2 % v3)), some (g_I (v4 + 1)), some (g_I (v2 % v3))]) dX11_commonDivisor_28 rfl hc (by decide) rfl ?_
      refine g_goto dX11_commonDivisor_31 rfl ?_
      exact g_forget (L' := [none, none, some (g_I v3), some (g_I (v2 % v3)), some (g_I (v4 + 1)), none]) ⟨rfl, ⟨rfl, ⟨rfl, trivial⟩⟩⟩ hF
theorem dX11_digestOf_0 : decode cX11_digestOf 0 = .ok (.iload_n 0, 1) := by decide +kernel
theorem dX11_digestOf_1 : decode cX11_digestOf 1 = .ok (.i2l, 1) := by decide +kernel
theorem dX11_digestOf_2 : decode cX11_digestOf 2 = .ok (.ldc2_w 442, 3) := by decide +kernel
theorem dX11_digestOf_5 : decode cX11_digestOf 5 = .ok (.land, 1) := by decide +kernel
theorem dX11_digestOf_6 : decode cX11_digestOf 6 = .ok (.ldc2_w 444, 3) := by decide +kernel
theorem dX11_digestOf_9 : decode cX11_digestOf 9 = .ok (.lmul, 1) := by decide +kernel
theorem dX11_digestOf_10 : decode cX11_digestOf 10 = .ok (.ldc2_w 446, 3) := by decide +kernel
theorem dX11_digestOf_13 : decode cX11_digestOf 13 = .ok (.ladd, 1) := by decide +kernel
theorem dX11_digestOf_14 : decode cX11_digestOf 14 = .ok (.ldc2_w 442, 3) := by decide +kernel
theorem dX11_digestOf_17 : decode cX11_digestOf 17 = .ok (.land, 1) := by decide +kernel
theorem dX11_digestOf_18 : decode cX11_digestOf 18 = .ok (.lreturn, 1) := by decide +kernel
abbrev k_X11_digestOf (E : g_E) (l : Launch) (sh : List g_Sh) (D : g_D) (v0 : Int) (K : Int → g_D → Prop) : Prop := g_Kl E l m_X11_digestOf 0 [g_I v0] sh D K
abbrev n_X11_digestOf (E : g_E) (l : Launch) (sh : List g_Sh) (D : g_D) (pc : Nat) (L : List (Option g_V)) (K : Int → g_D → Prop) : Prop := g_N E l m_X11_digestOf 0 pc L [] sh D (g_Rl sh K)
theorem s_X11_digestOf {E : g_E} {l : Launch} {sh : List g_Sh} {D : g_D} {K : Int → g_D → Prop} {v0 : Int}  (hF : g_okD D → g_r v0 → (g_r8 ((g_and8 v0 4294967295) * 1664525)) ∧ ((g_r8 (((g_and8 v0 4294967295) * 1664525) + 1013904223)) ∧ (K (g_and8 (((g_and8 v0 4294967295) * 1664525) + 1013904223) 4294967295) D))) : k_X11_digestOf E l sh D v0 K := by
  refine g_enter (by decide) (Nat.le_of_ble_eq_true rfl) ?_
  show g_N E l m_X11_digestOf 0 0 [some (g_I v0)] [] sh D (g_Rl sh K)
  refine g_use (fun ok => ?_)
  have hF := hF ok.2.1 (ok.loc (i := 0) rfl)
  refine g_iload_n dX11_digestOf_0 rfl ?_
  refine g_i2l dX11_digestOf_1 ?_
  refine g_ldc2 dX11_digestOf_2 ⟨by decide, by decide⟩ kl_X11_442 ?_
  refine g_land dX11_digestOf_5 ?_
  refine g_ldc2 dX11_digestOf_6 ⟨by decide, by decide⟩ kl_X11_444 ?_
  obtain ⟨hc, hF⟩ := hF
  refine g_lmul dX11_digestOf_9 hc ?_
  refine g_ldc2 dX11_digestOf_10 ⟨by decide, by decide⟩ kl_X11_446 ?_
  obtain ⟨hc, hF⟩ := hF
  refine g_ladd dX11_digestOf_13 hc ?_
  refine g_ldc2 dX11_digestOf_14 ⟨by decide, by decide⟩ kl_X11_442 ?_
  refine g_land dX11_digestOf_17 ?_
  exact gw_lret dX11_digestOf_18 rfl hF
theorem dX11_floatBits_0 : decode cX11_floatBits 0 = .ok (.iload_n 0, 1) := by decide +kernel
theorem dX11_floatBits_1 : decode cX11_floatBits 1 = .ok (.ifCond .le 12, 3) := by decide +kernel
theorem dX11_floatBits_4 : decode cX11_floatBits 4 = .ok (.iload_n 1, 1) := by decide +kernel
theorem dX11_floatBits_5 : decode cX11_floatBits 5 = .ok (.ifCond .le 8, 3) := by decide +kernel
theorem dX11_floatBits_8 : decode cX11_floatBits 8 = .ok (.iload_n 0, 1) := by decide +kernel
theorem dX11_floatBits_9 : decode cX11_floatBits 9 = .ok (.iload_n 1, 1) := by decide +kernel
theorem dX11_floatBits_10 : decode cX11_floatBits 10 = .ok (.if_icmp .le 5, 3) := by decide +kernel
theorem dX11_floatBits_13 : decode cX11_floatBits 13 = .ok (.iconst 0, 1) := by decide +kernel
theorem dX11_floatBits_14 : decode cX11_floatBits 14 = .ok (.ireturn, 1) := by decide +kernel
theorem dX11_floatBits_15 : decode cX11_floatBits 15 = .ok (.iload_n 0, 1) := by decide +kernel
theorem dX11_floatBits_16 : decode cX11_floatBits 16 = .ok (.i2l, 1) := by decide +kernel
theorem dX11_floatBits_17 : decode cX11_floatBits 17 = .ok (.lstore_n 2, 1) := by decide +kernel
theorem dX11_floatBits_18 : decode cX11_floatBits 18 = .ok (.bipush 127, 2) := by decide +kernel
theorem dX11_floatBits_20 : decode cX11_floatBits 20 = .ok (.istore 4, 2) := by decide +kernel
theorem dX11_floatBits_22 : decode cX11_floatBits 22 = .ok (.lload_n 2, 1) := by decide +kernel
theorem dX11_floatBits_23 : decode cX11_floatBits 23 = .ok (.iload_n 1, 1) := by decide +kernel
theorem dX11_floatBits_24 : decode cX11_floatBits 24 = .ok (.i2l, 1) := by decide +kernel
theorem dX11_floatBits_25 : decode cX11_floatBits 25 = .ok (.lcmp, 1) := by decide +kernel
theorem dX11_floatBits_26 : decode cX11_floatBits 26 = .ok (.ifCond .ge 20, 3) := by decide +kernel
theorem dX11_floatBits_29 : decode cX11_floatBits 29 = .ok (.iload 4, 2) := by decide +kernel
theorem dX11_floatBits_31 : decode cX11_floatBits 31 = .ok (.ifCond .le 15, 3) := by decide +kernel
theorem dX11_floatBits_34 : decode cX11_floatBits 34 = .ok (.lload_n 2, 1) := by decide +kernel
theorem dX11_floatBits_35 : decode cX11_floatBits 35 = .ok (.ldc2_w 435, 3) := by decide +kernel
theorem dX11_floatBits_38 : decode cX11_floatBits 38 = .ok (.lmul, 1) := by decide +kernel
theorem dX11_floatBits_39 : decode cX11_floatBits 39 = .ok (.lstore_n 2, 1) := by decide +kernel
theorem dX11_floatBits_40 : decode cX11_floatBits 40 = .ok (.iinc 4 (-1), 3) := by decide +kernel
theorem dX11_floatBits_43 : decode cX11_floatBits 43 = .ok (.goto (-21), 3) := by decide +kernel
theorem dX11_floatBits_46 : decode cX11_floatBits 46 = .ok (.lload_n 2, 1) := by decide +kernel
theorem dX11_floatBits_47 : decode cX11_floatBits 47 = .ok (.bipush 23, 2) := by decide +kernel
theorem dX11_floatBits_49 : decode cX11_floatBits 49 = .ok (.lshl, 1) := by decide +kernel
theorem dX11_floatBits_50 : decode cX11_floatBits 50 = .ok (.lstore_n 2, 1) := by decide +kernel
theorem dX11_floatBits_51 : decode cX11_floatBits 51 = .ok (.lload_n 2, 1) := by decide +kernel
theorem dX11_floatBits_52 : decode cX11_floatBits 52 = .ok (.iload_n 1, 1) := by decide +kernel
theorem dX11_floatBits_53 : decode cX11_floatBits 53 = .ok (.i2l, 1) := by decide +kernel
theorem dX11_floatBits_54 : decode cX11_floatBits 54 = .ok (.ldiv, 1) := by decide +kernel
theorem dX11_floatBits_55 : decode cX11_floatBits 55 = .ok (.lstore 5, 2) := by decide +kernel
theorem dX11_floatBits_57 : decode cX11_floatBits 57 = .ok (.lload_n 2, 1) := by decide +kernel
theorem dX11_floatBits_58 : decode cX11_floatBits 58 = .ok (.iload_n 1, 1) := by decide +kernel
theorem dX11_floatBits_59 : decode cX11_floatBits 59 = .ok (.i2l, 1) := by decide +kernel
theorem dX11_floatBits_60 : decode cX11_floatBits 60 = .ok (.lrem, 1) := by decide +kernel
theorem dX11_floatBits_61 : decode cX11_floatBits 61 = .ok (.ldc2_w 435, 3) := by decide +kernel
theorem dX11_floatBits_64 : decode cX11_floatBits 64 = .ok (.lmul, 1) := by decide +kernel
theorem dX11_floatBits_65 : decode cX11_floatBits 65 = .ok (.lstore 7, 2) := by decide +kernel
theorem dX11_floatBits_67 : decode cX11_floatBits 67 = .ok (.lload 7, 2) := by decide +kernel
theorem dX11_floatBits_69 : decode cX11_floatBits 69 = .ok (.iload_n 1, 1) := by decide +kernel
theorem dX11_floatBits_70 : decode cX11_floatBits 70 = .ok (.i2l, 1) := by decide +kernel
theorem dX11_floatBits_71 : decode cX11_floatBits 71 = .ok (.lcmp, 1) := by decide +kernel
theorem dX11_floatBits_72 : decode cX11_floatBits 72 = .ok (.ifCond .gt 20, 3) := by decide +kernel
theorem dX11_floatBits_75 : decode cX11_floatBits 75 = .ok (.lload 7, 2) := by decide +kernel
theorem dX11_floatBits_77 : decode cX11_floatBits 77 = .ok (.iload_n 1, 1) := by decide +kernel
theorem dX11_floatBits_78 : decode cX11_floatBits 78 = .ok (.i2l, 1) := by decide +kernel
theorem dX11_floatBits_79 : decode cX11_floatBits 79 = .ok (.lcmp, 1) := by decide +kernel
theorem dX11_floatBits_80 : decode cX11_floatBits 80 = .ok (.ifCond .ne 18, 3) := by decide +kernel
theorem dX11_floatBits_83 : decode cX11_floatBits 83 = .ok (.lload 5, 2) := by decide +kernel
theorem dX11_floatBits_85 : decode cX11_floatBits 85 = .ok (.lconst 1, 1) := by decide +kernel
theorem dX11_floatBits_86 : decode cX11_floatBits 86 = .ok (.land, 1) := by decide +kernel
theorem dX11_floatBits_87 : decode cX11_floatBits 87 = .ok (.lconst 1, 1) := by decide +kernel
theorem dX11_floatBits_88 : decode cX11_floatBits 88 = .ok (.lcmp, 1) := by decide +kernel
theorem dX11_floatBits_89 : decode cX11_floatBits 89 = .ok (.ifCond .ne 9, 3) := by decide +kernel
theorem dX11_floatBits_92 : decode cX11_floatBits 92 = .ok (.lload 5, 2) := by decide +kernel
theorem dX11_floatBits_94 : decode cX11_floatBits 94 = .ok (.lconst 1, 1) := by decide +kernel
theorem dX11_floatBits_95 : decode cX11_floatBits 95 = .ok (.ladd, 1) := by decide +kernel
theorem dX11_floatBits_96 : decode cX11_floatBits 96 = .ok (.lstore 5, 2) := by decide +kernel
theorem dX11_floatBits_98 : decode cX11_floatBits 98 = .ok (.iload 4, 2) := by decide +kernel
theorem dX11_floatBits_100 : decode cX11_floatBits 100 = .ok (.bipush 23, 2) := by decide +kernel
theorem dX11_floatBits_102 : decode cX11_floatBits 102 = .ok (.ishl, 1) := by decide +kernel
theorem dX11_floatBits_103 : decode cX11_floatBits 103 = .ok (.lload 5, 2) := by decide +kernel
theorem dX11_floatBits_105 : decode cX11_floatBits 105 = .ok (.ldc2_w 437, 3) := by decide +kernel
theorem dX11_floatBits_108 : decode cX11_floatBits 108 = .ok (.lsub, 1) := by decide +kernel
theorem dX11_floatBits_109 : decode cX11_floatBits 109 = .ok (.l2i, 1) := by decide +kernel
theorem dX11_floatBits_110 : decode cX11_floatBits 110 = .ok (.iadd, 1) := by decide +kernel
theorem dX11_floatBits_111 : decode cX11_floatBits 111 = .ok (.ireturn, 1) := by decide +kernel
abbrev k_X11_floatBits (E : g_E) (l : Launch) (sh : List g_Sh) (D : g_D) (v0 : Int) (v1 : Int) (K : Int → g_D → Prop) : Prop := g_Ki E l m_X11_floatBits 0 [g_I v0, g_I v1] sh D K
abbrev n_X11_floatBits (E : g_E) (l : Launch) (sh : List g_Sh) (D : g_D) (pc : Nat) (L : List (Option g_V)) (K : Int → g_D → Prop) : Prop := g_N E l m_X11_floatBits 0 pc L [] sh D (g_Ri sh K)
theorem s_X11_floatBits {E : g_E} {l : Launch} {sh : List g_Sh} {D : g_D} {K : Int → g_D → Prop} {v0 : Int} {v1 : Int}  (hF : g_okD D → g_r v0 → g_r v1 → (v0 ≤ 0 → K 0 D) ∧ (¬ v0 ≤ 0 → (v1 ≤ 0 → K 0 D) ∧ (¬ v1 ≤ 0 → (v0 ≤ v1 → n_X11_floatBits E l sh D 22 [none, some (g_I v1), some (g_J v0), none, some (g_I 127), none, none, none, none] K) ∧ (¬ v0 ≤ v1 → K 0 D)))) : k_X11_floatBits E l sh D v0 v1 K := by
  refine g_enter (by decide) (Nat.le_of_ble_eq_true rfl) ?_
  show g_N E l m_X11_floatBits 0 0 [some (g_I v0), some (g_I v1), none, none, none, none, none, none, none] [] sh D (g_Ri sh K)
  refine g_use (fun ok => ?_)
  have hF := hF ok.2.1 (ok.loc (i := 0) rfl) (ok.loc (i := 1) rfl)
  refine g_iload_n dX11_floatBits_0 rfl ?_
  refine g_ifle dX11_floatBits_1 rfl (fun q => ?_) (fun q => ?_)
  · have hF := hF.1 q
    refine g_iconst dX11_floatBits_13 ⟨by decide, by decide⟩ ?_
    exact gw_iret dX11_floatBits_14 rfl hF
  · have hF := hF.2 q
    refine g_iload_n dX11_floatBits_4 rfl ?_
    refine g_ifle dX11_floatBits_5 rfl (fun q => ?_) (fun q => ?_)
    · have hF := hF.1 q
      refine g_iconst dX11_floatBits_13 ⟨by decide, by decide⟩ ?_
      exact gw_iret dX11_floatBits_14 rfl hF
    · have hF := hF.2 q
      refine g_iload_n dX11_floatBits_8 rfl ?_
      refine g_iload_n dX11_floatBits_9 rfl ?_
      refine g_cle dX11_floatBits_10 rfl (fun q => ?_) (fun q => ?_)
      · have hF := hF.1 q
        refine g_iload_n dX11_floatBits_15 rfl ?_
        refine g_i2l dX11_floatBits_16 ?_
        refine gw_lstore_n (L' := [some (g_I v0), some (g_I v1), some (g_J v0), none, none, none, none, none, none]) dX11_floatBits_17 (by decide) rfl ?_
        refine g_bipush dX11_floatBits_18 ⟨by decide, by decide⟩ ?_
        refine gw_istore (L' := [some (g_I v0), some (g_I v1), some (g_J v0), none, some (g_I 127), none, none, none, none]) dX11_floatBits_20 (by decide) rfl ?_
        exact g_forget (L' := [none, some (g_I v1), some (g_J v0), none, some (g_I 127), none, none, none, none]) ⟨rfl, ⟨rfl, ⟨rfl, trivial⟩⟩⟩ hF
      · have hF := hF.2 q
        refine g_iconst dX11_floatBits_13 ⟨by decide, by decide⟩ ?_
        exact gw_iret dX11_floatBits_14 rfl hF
theorem s_X11_floatBits_22 {E : g_E} {l : Launch} {sh : List g_Sh} {D : g_D} {K : Int → g_D → Prop} {v1 : Int} {v2 : Int} {v4 : Int}  (hF : g_okD D → g_r v1 → g_r8 v2 → g_r v4 → (v1 ≤ v2 → (0 ≤ (g_shl8 v2 23) ∧ 0 < v1) ∧ ((0 ≤ (g_shl8 v2 23) ∧ 0 < v1) ∧ ((g_r8 (((g_shl8 v2 23) % v1) * 2)) ∧ ((v1 < (((g_shl8 v2 23) % v1) * 2) → (g_r8 (((g_shl8 v2 23) / v1) + 1)) ∧ ((g_r8 ((((g_shl8 v2 23) / v1) + 1) - 8388608)) ∧ ((g_r ((g_shl v4 23) + (g_l2i ((((g_shl8 v2 23) / v1) + 1) - 8388608)))) ∧ (K ((g_shl v4 23) + (g_l2i ((((g_shl8 v2 23) / v1) + 1) - 8388608))) D)))) ∧ (¬ v1 < (((g_shl8 v2 23) % v1) * 2) → (¬ (((g_shl8 v2 23) % v1) * 2) = v1 → (g_r8 (((g_shl8 v2 23) / v1) - 8388608)) ∧ ((g_r ((g_shl v4 23) + (g_l2i (((g_shl8 v2 23) / v1) - 8388608)))) ∧ (K ((g_shl v4 23) + (g_l2i (((g_shl8 v2 23) / v1) - 8388608))) D))) ∧ ((((g_shl8 v2 23) % v1) * 2) = v1 → (¬ (g_and8 ((g_shl8 v2 23) / v1) 1) = 1 → (g_r8 (((g_shl8 v2 23) / v1) - 8388608)) ∧ ((g_r ((g_shl v4 23) + (g_l2i (((g_shl8 v2 23) / v1) - 8388608)))) ∧ (K ((g_shl v4 23) + (g_l2i (((g_shl8 v2 23) / v1) - 8388608))) D))) ∧ ((g_and8 ((g_shl8 v2 23) / v1) 1) = 1 → (g_r8 (((g_shl8 v2 23) / v1) + 1)) ∧ ((g_r8 ((((g_shl8 v2 23) / v1) + 1) - 8388608)) ∧ ((g_r ((g_shl v4 23) + (g_l2i ((((g_shl8 v2 23) / v1) + 1) - 8388608)))) ∧ (K ((g_shl v4 23) + (g_l2i ((((g_shl8 v2 23) / v1) + 1) - 8388608))) D)))))))))) ∧ (¬ v1 ≤ v2 → (v4 ≤ 0 → (0 ≤ (g_shl8 v2 23) ∧ 0 < v1) ∧ ((0 ≤ (g_shl8 v2 23) ∧ 0 < v1) ∧ ((g_r8 (((g_shl8 v2 23) % v1) * 2)) ∧ ((v1 < (((g_shl8 v2 23) % v1) * 2) → (g_r8 (((g_shl8 v2 23) / v1) + 1)) ∧ ((g_r8 ((((g_shl8 v2 23) / v1) + 1) - 8388608)) ∧ ((g_r ((g_shl v4 23) + (g_l2i ((((g_shl8 v2 23) / v1) + 1) - 8388608)))) ∧ (K ((g_shl v4 23) + (g_l2i ((((g_shl8 v2 23) / v1) + 1) - 8388608))) D)))) ∧ (¬ v1 < (((g_shl8 v2 23) % v1) * 2) → (¬ (((g_shl8 v2 23) % v1) * 2) = v1 → (g_r8 (((g_shl8 v2 23) / v1) - 8388608)) ∧ ((g_r ((g_shl v4 23) + (g_l2i (((g_shl8 v2 23) / v1) - 8388608)))) ∧ (K ((g_shl v4 23) + (g_l2i (((g_shl8 v2 23) / v1) - 8388608))) D))) ∧ ((((g_shl8 v2 23) % v1) * 2) = v1 → (¬ (g_and8 ((g_shl8 v2 23) / v1) 1) = 1 → (g_r8 (((g_shl8 v2 23) / v1) - 8388608)) ∧ ((g_r ((g_shl v4 23) + (g_l2i (((g_shl8 v2 23) / v1) - 8388608)))) ∧ (K ((g_shl v4 23) + (g_l2i (((g_shl8 v2 23) / v1) - 8388608))) D))) ∧ ((g_and8 ((g_shl8 v2 23) / v1) 1) = 1 → (g_r8 (((g_shl8 v2 23) / v1) + 1)) ∧ ((g_r8 ((((g_shl8 v2 23) / v1) + 1) - 8388608)) ∧ ((g_r ((g_shl v4 23) + (g_l2i ((((g_shl8 v2 23) / v1) + 1) - 8388608)))) ∧ (K ((g_shl v4 23) + (g_l2i ((((g_shl8 v2 23) / v1) + 1) - 8388608))) D)))))))))) ∧ (¬ v4 ≤ 0 → (g_r8 (v2 * 2)) ∧ ((g_r (v4 + (-1))) ∧ (n_X11_floatBits E l sh D 22 [none, some (g_I v1), some (g_J (v2 * 2)), none, some (g_I (v4 + (-1))), none, none, none, none] K))))) : n_X11_floatBits E l sh D 22 [none, some (g_I v1), some (g_J v2), none, some (g_I v4), none, none, none, none] K := by
  refine g_use (fun ok => ?_)
  have hF := hF ok.2.1 (ok.loc (i := 1) rfl) (ok.loc (i := 2) rfl) (ok.loc (i := 4) rfl)
  refine g_lload_n dX11_floatBits_22 rfl ?_
  refine g_iload_n dX11_floatBits_23 rfl ?_
  refine g_i2l dX11_floatBits_24 ?_
  refine g_lcmp dX11_floatBits_25 ?_
  refine g_ifge dX11_floatBits_26 rfl (fun q => ?_) (fun q => ?_)
  · have hF := hF.1 (g_cmp_ge.mp q)
    refine g_lload_n dX11_floatBits_46 rfl ?_
    refine g_bipush dX11_floatBits_47 ⟨by decide, by decide⟩ ?_
    refine g_lshl dX11_floatBits_49 ?_
    refine gw_lstore_n (L' := [none, some (g_I v1), some (g_J (g_shl8 v2 23)), none, some (g_I v4), none, none, none, none]) dX11_floatBits_50 (by decide) rfl ?_
    refine g_lload_n dX11_floatBits_51 rfl ?_
    refine g_iload_n dX11_floatBits_52 rfl ?_
    refine g_i2l dX11_floatBits_53 ?_
    obtain ⟨hc, hF⟩ := hF
    refine g_ldiv dX11_floatBits_54 hc.1 hc.2 ?_
    refine gw_lstore (L' := [none, some (g_I v1), some (g_J (g_shl8 v2 23)), none, some (g_I v4), some (g_J ((g_shl8 v2 23) / v1)), none, none, none]) dX11_floatBits_55 (by decide) rfl ?_
    refine g_lload_n dX11_floatBits_57 rfl ?_
    refine g_iload_n dX11_floatBits_58 rfl ?_
    refine g_i2l dX11_floatBits_59 ?_
    obtain ⟨hc, hF⟩ := hF
    refine g_lrem dX11_floatBits_60 hc.1 hc.2 ?_
    refine g_ldc2 dX11_floatBits_61 ⟨by decide, by decide⟩ kl_X11_435 ?_
    obtain ⟨hc, hF⟩ := hF
    refine g_lmul dX11_floatBits_64 hc ?_
    refine gw_lstore (L' := [none, some (g_I v1), some (g_J (g_shl8 v2 23)), none, some (g_I v4), some (g_J ((g_shl8 v2 23) / v1)), none, some (g_J (((g_shl8 v2 23) % v1) * 2)), none]) dX11_floatBits_65 (by decide) rfl ?_
    refine g_lload dX11_floatBits_67 rfl ?_
    refine g_iload_n dX11_floatBits_69 rfl ?_
    refine g_i2l dX11_floatBits_70 ?_
    refine g_lcmp dX11_floatBits_71 ?_
    refine g_ifgt dX11_floatBits_72 rfl (fun q => ?_) (fun q => ?_)
    · have hF := hF.1 (g_cmp_gt.mp q)
      refine g_lload dX11_floatBits_92 rfl ?_
      refine g_lconst dX11_floatBits_94 ?_
      obtain ⟨hc, hF⟩ := hF
      refine g_ladd dX11_floatBits_95 hc ?_
      refine gw_lstore (L' := [none, some (g_I v1), some (g_J (g_shl8 v2 23)), none, some (g_I v4), some (g_J (((g_shl8 v2 23) / v1) + 1)), none, some (g_J (((g_shl8 v2 23) % v1) * 2)), none]) dX11_floatBits_96 (by decide) rfl ?_
      refine g_iload dX11_floatBits_98 rfl ?_
      refine g_bipush dX11_floatBits_100 ⟨by decide, by decide⟩ ?_
      refine g_ishl dX11_floatBits_102 ?_
      refine g_lload dX11_floatBits_103 rfl ?_
      refine g_ldc2 dX11_floatBits_105 ⟨by decide, by decide⟩ kl_X11_437 ?_
      obtain ⟨hc, hF⟩ := hF
      refine g_lsub dX11_floatBits_108 hc ?_
      refine g_l2iR dX11_floatBits_109 ?_
      obtain ⟨hc, hF⟩ := hF
      refine g_iadd dX11_floatBits_110 hc ?_
      exact gw_iret dX11_floatBits_111 rfl hF
    · have hF := hF.2 (g_cmp_gtn.mp q)
      refine g_lload dX11_floatBits_75 rfl ?_
      refine g_iload_n dX11_floatBits_77 rfl ?_
      refine g_i2l dX11_floatBits_78 ?_
      refine g_lcmp dX11_floatBits_79 ?_
      refine g_ifne dX11_floatBits_80 rfl (fun q => ?_) (fun q => ?_)
      · have hF := hF.1 (g_cmp_ne.mp q)
        refine g_iload dX11_floatBits_98 rfl ?_
        refine g_bipush dX11_floatBits_100 ⟨by decide, by decide⟩ ?_
        refine g_ishl dX11_floatBits_102 ?_
        refine g_lload dX11_floatBits_103 rfl ?_
        refine g_ldc2 dX11_floatBits_105 ⟨by decide, by decide⟩ kl_X11_437 ?_
        obtain ⟨hc, hF⟩ := hF
        refine g_lsub dX11_floatBits_108 hc ?_
        refine g_l2iR dX11_floatBits_109 ?_
        obtain ⟨hc, hF⟩ := hF
        refine g_iadd dX11_floatBits_110 hc ?_
        exact gw_iret dX11_floatBits_111 rfl hF
      · have hF := hF.2 (g_cmp_nen.mp q)
        refine g_lload dX11_floatBits_83 rfl ?_
        refine g_lconst dX11_floatBits_85 ?_
        refine g_land dX11_floatBits_86 ?_
        refine g_lconst dX11_floatBits_87 ?_
        refine g_lcmp dX11_floatBits_88 ?_
        refine g_ifne dX11_floatBits_89 rfl (fun q => ?_) (fun q => ?_)
        · have hF := hF.1 (g_cmp_ne.mp q)
          refine g_iload dX11_floatBits_98 rfl ?_
          refine g_bipush dX11_floatBits_100 ⟨by decide, by decide⟩ ?_
          refine g_ishl dX11_floatBits_102 ?_
          refine g_lload dX11_floatBits_103 rfl ?_
          refine g_ldc2 dX11_floatBits_105 ⟨by decide, by decide⟩ kl_X11_437 ?_
          obtain ⟨hc, hF⟩ := hF
          refine g_lsub dX11_floatBits_108 hc ?_
          refine g_l2iR dX11_floatBits_109 ?_
          obtain ⟨hc, hF⟩ := hF
          refine g_iadd dX11_floatBits_110 hc ?_
          exact gw_iret dX11_floatBits_111 rfl hF
        · have hF := hF.2 (g_cmp_nen.mp q)
          refine g_lload dX11_floatBits_92 rfl ?_
          refine g_lconst dX11_floatBits_94 ?_
          obtain ⟨hc, hF⟩ := hF
          refine g_ladd dX11_floatBits_95 hc ?_
          refine gw_lstore (L' := [none, some (g_I v1), some (g_J (g_shl8 v2 23)), none, some (g_I v4), some (g_J (((g_shl8 v2 23) / v1) + 1)), none, some (g_J (((g_shl8 v2 23) % v1) * 2)), none]) dX11_floatBits_96 (by decide) rfl ?_
          refine g_iload dX11_floatBits_98 rfl ?_
          refine g_bipush dX11_floatBits_100 ⟨by decide, by decide⟩ ?_
          refine g_ishl dX11_floatBits_102 ?_
          refine g_lload dX11_floatBits_103 rfl ?_
          refine g_ldc2 dX11_floatBits_105 ⟨by decide, by decide⟩ kl_X11_437 ?_
          obtain ⟨hc, hF⟩ := hF
          refine g_lsub dX11_floatBits_108 hc ?_
          refine g_l2iR dX11_floatBits_109 ?_
          obtain ⟨hc, hF⟩ := hF
          refine g_iadd dX11_floatBits_110 hc ?_
          exact gw_iret dX11_floatBits_111 rfl hF
  · have hF := hF.2 (g_cmp_gen.mp q)
    refine g_iload dX11_floatBits_29 rfl ?_
    refine g_ifle dX11_floatBits_31 rfl (fun q => ?_) (fun q => ?_)
    · have hF := hF.1 q
      refine g_lload_n dX11_floatBits_46 rfl ?_
      refine g_bipush dX11_floatBits_47 ⟨by decide, by decide⟩ ?_
      refine g_lshl dX11_floatBits_49 ?_
      refine gw_lstore_n (L' := [none, some (g_I v1), some (g_J (g_shl8 v2 23)), none, some (g_I v4), none, none, none, none]) dX11_floatBits_50 (by decide) rfl ?_
      refine g_lload_n dX11_floatBits_51 rfl ?_
      refine g_iload_n dX11_floatBits_52 rfl ?_
      refine g_i2l dX11_floatBits_53 ?_
      obtain ⟨hc, hF⟩ := hF
      refine g_ldiv dX11_floatBits_54 hc.1 hc.2 ?_
      refine gw_lstore (L' := [none, some (g_I v1), some (g_J (g_shl8 v2 23)), none, some (g_I v4), some (g_J ((g_shl8 v2 23) / v1)), none, none, none]) dX11_floatBits_55 (by decide) rfl ?_
      refine g_lload_n dX11_floatBits_57 rfl ?_
      refine g_iload_n dX11_floatBits_58 rfl ?_
      refine g_i2l dX11_floatBits_59 ?_
      obtain ⟨hc, hF⟩ := hF
      refine g_lrem dX11_floatBits_60 hc.1 hc.2 ?_
      refine g_ldc2 dX11_floatBits_61 ⟨by decide, by decide⟩ kl_X11_435 ?_
      obtain ⟨hc, hF⟩ := hF
      refine g_lmul dX11_floatBits_64 hc ?_
      refine gw_lstore (L' := [none, some (g_I v1), some (g_J (g_shl8 v2 23)), none, some (g_I v4), some (g_J ((g_shl8 v2 23) / v1)), none, some (g_J (((g_shl8 v2 23) % v1) * 2)), none]) dX11_floatBits_65 (by decide) rfl ?_
      refine g_lload dX11_floatBits_67 rfl ?_
      refine g_iload_n dX11_floatBits_69 rfl ?_
      refine g_i2l dX11_floatBits_70 ?_
      refine g_lcmp dX11_floatBits_71 ?_
      refine g_ifgt dX11_floatBits_72 rfl (fun q => ?_) (fun q => ?_)
      · have hF := hF.1 (g_cmp_gt.mp q)
        refine g_lload dX11_floatBits_92 rfl ?_
        refine g_lconst dX11_floatBits_94 ?_
        obtain ⟨hc, hF⟩ := hF
        refine g_ladd dX11_floatBits_95 hc ?_
        refine gw_lstore (L' := [none, some (g_I v1), some (g_J (g_shl8 v2 23)), none, some (g_I v4), some (g_J (((g_shl8 v2 23) / v1) + 1)), none, some (g_J (((g_shl8 v2 23) % v1) * 2)), none]) dX11_floatBits_96 (by decide) rfl ?_
        refine g_iload dX11_floatBits_98 rfl ?_
        refine g_bipush dX11_floatBits_100 ⟨by decide, by decide⟩ ?_
        refine g_ishl dX11_floatBits_102 ?_
        refine g_lload dX11_floatBits_103 rfl ?_
        refine g_ldc2 dX11_floatBits_105 ⟨by decide, by decide⟩ kl_X11_437 ?_
        obtain ⟨hc, hF⟩ := hF
        refine g_lsub dX11_floatBits_108 hc ?_
        refine g_l2iR dX11_floatBits_109 ?_
        obtain ⟨hc, hF⟩ := hF
        refine g_iadd dX11_floatBits_110 hc ?_
        exact gw_iret dX11_floatBits_111 rfl hF
      · have hF := hF.2 (g_cmp_gtn.mp q)
        refine g_lload dX11_floatBits_75 rfl ?_
        refine g_iload_n dX11_floatBits_77 rfl ?_
        refine g_i2l dX11_floatBits_78 ?_
        refine g_lcmp dX11_floatBits_79 ?_
        refine g_ifne dX11_floatBits_80 rfl (fun q => ?_) (fun q => ?_)
        · have hF := hF.1 (g_cmp_ne.mp q)
          refine g_iload dX11_floatBits_98 rfl ?_
          refine g_bipush dX11_floatBits_100 ⟨by decide, by decide⟩ ?_
          refine g_ishl dX11_floatBits_102 ?_
          refine g_lload dX11_floatBits_103 rfl ?_
          refine g_ldc2 dX11_floatBits_105 ⟨by decide, by decide⟩ kl_X11_437 ?_
          obtain ⟨hc, hF⟩ := hF
          refine g_lsub dX11_floatBits_108 hc ?_
          refine g_l2iR dX11_floatBits_109 ?_
          obtain ⟨hc, hF⟩ := hF
          refine g_iadd dX11_floatBits_110 hc ?_
          exact gw_iret dX11_floatBits_111 rfl hF
        · have hF := hF.2 (g_cmp_nen.mp q)
          refine g_lload dX11_floatBits_83 rfl ?_
          refine g_lconst dX11_floatBits_85 ?_
          refine g_land dX11_floatBits_86 ?_
          refine g_lconst dX11_floatBits_87 ?_
          refine g_lcmp dX11_floatBits_88 ?_
          refine g_ifne dX11_floatBits_89 rfl (fun q => ?_) (fun q => ?_)
          · have hF := hF.1 (g_cmp_ne.mp q)
            refine g_iload dX11_floatBits_98 rfl ?_
            refine g_bipush dX11_floatBits_100 ⟨by decide, by decide⟩ ?_
            refine g_ishl dX11_floatBits_102 ?_
            refine g_lload dX11_floatBits_103 rfl ?_
            refine g_ldc2 dX11_floatBits_105 ⟨by decide, by decide⟩ kl_X11_437 ?_
            obtain ⟨hc, hF⟩ := hF
            refine g_lsub dX11_floatBits_108 hc ?_
            refine g_l2iR dX11_floatBits_109 ?_
            obtain ⟨hc, hF⟩ := hF
            refine g_iadd dX11_floatBits_110 hc ?_
            exact gw_iret dX11_floatBits_111 rfl hF
          · have hF := hF.2 (g_cmp_nen.mp q)
            refine g_lload dX11_floatBits_92 rfl ?_
            refine g_lconst dX11_floatBits_94 ?_
            obtain ⟨hc, hF⟩ := hF
            refine g_ladd dX11_floatBits_95 hc ?_
            refine gw_lstore (L' := [none, some (g_I v1), some (g_J (g_shl8 v2 23)), none, some (g_I v4), some (g_J (((g_shl8 v2 23) / v1) + 1)), none, some (g_J (((g_shl8 v2 23) % v1) * 2)), none]) dX11_floatBits_96 (by decide) rfl ?_
            refine g_iload dX11_floatBits_98 rfl ?_
            refine g_bipush dX11_floatBits_100 ⟨by decide, by decide⟩ ?_
            refine g_ishl dX11_floatBits_102 ?_
            refine g_lload dX11_floatBits_103 rfl ?_
            refine g_ldc2 dX11_floatBits_105 ⟨by decide, by decide⟩ kl_X11_437 ?_
            obtain ⟨hc, hF⟩ := hF
            refine g_lsub dX11_floatBits_108 hc ?_
            refine g_l2iR dX11_floatBits_109 ?_
            obtain ⟨hc, hF⟩ := hF
            refine g_iadd dX11_floatBits_110 hc ?_
            exact gw_iret dX11_floatBits_111 rfl hF
    · have hF := hF.2 q
      refine g_lload_n dX11_floatBits_34 rfl ?_
      refine g_ldc2 dX11_floatBits_35 ⟨by decide, by decide⟩ kl_X11_435 ?_
      obtain ⟨hc, hF⟩ := hF
      refine g_lmul dX11_floatBits_38 hc ?_
      refine gw_lstore_n (L' := [none, some (g_I v1), some (g_J (v2 * 2)), none, some (g_I v4), none, none, none, none]) dX11_floatBits_39 (by decide) rfl ?_
      obtain ⟨hc, hF⟩ := hF
      refine gw_iinc (L' := [none, some (g_I v1), some (g_J (v2 * 2)), none, some (g_I (v4 + (-1))), none, none, none, none]) dX11_floatBits_40 rfl hc (by decide) rfl ?_
      refine g_goto dX11_floatBits_43 rfl ?_
      exact hF
