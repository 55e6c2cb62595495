theorem dX12_digest_0 : decode cX12_digest 0 = .ok (.aload_n 0, 1) := by decide +kernel
theorem dX12_digest_1 : decode cX12_digest 1 = .ok (.iconst 0, 1) := by decide +kernel
theorem dX12_digest_2 : decode cX12_digest 2 = .ok (.putfield 1, 3) := by decide +kernel
theorem dX12_digest_5 : decode cX12_digest 5 = .ok (.iload_n 1, 1) := by decide +kernel
theorem dX12_digest_6 : decode cX12_digest 6 = .ok (.i2l, 1) := by decide +kernel
theorem dX12_digest_7 : decode cX12_digest 7 = .ok (.lconst 0, 1) := by decide +kernel
theorem dX12_digest_8 : decode cX12_digest 8 = .ok (.ldc2_w 409, 3) := by decide +kernel
theorem dX12_digest_11 : decode cX12_digest 11 = .ok (.invokestatic 131, 3) := by decide +kernel
theorem dX12_digest_14 : decode cX12_digest 14 = .ok (.ifCond .ne 7, 3) := by decide +kernel
theorem dX12_digest_17 : decode cX12_digest 17 = .ok (.ldc2_w 411, 3) := by decide +kernel
theorem dX12_digest_20 : decode cX12_digest 20 = .ok (.lreturn, 1) := by decide +kernel
theorem dX12_digest_21 : decode cX12_digest 21 = .ok (.bipush 86, 2) := by decide +kernel
theorem dX12_digest_23 : decode cX12_digest 23 = .ok (.iconst 4, 1) := by decide +kernel
theorem dX12_digest_24 : decode cX12_digest 24 = .ok (.iload_n 1, 1) := by decide +kernel
theorem dX12_digest_25 : decode cX12_digest 25 = .ok (.imul, 1) := by decide +kernel
theorem dX12_digest_26 : decode cX12_digest 26 = .ok (.iadd, 1) := by decide +kernel
theorem dX12_digest_27 : decode cX12_digest 27 = .ok (.istore_n 2, 1) := by decide +kernel
theorem dX12_digest_28 : decode cX12_digest 28 = .ok (.aload_n 0, 1) := by decide +kernel
theorem dX12_digest_29 : decode cX12_digest 29 = .ok (.getfield 13, 3) := by decide +kernel
theorem dX12_digest_32 : decode cX12_digest 32 = .ok (.iload_n 2, 1) := by decide +kernel
theorem dX12_digest_33 : decode cX12_digest 33 = .ok (.iaload, 1) := by decide +kernel
theorem dX12_digest_34 : decode cX12_digest 34 = .ok (.aload_n 0, 1) := by decide +kernel
theorem dX12_digest_35 : decode cX12_digest 35 = .ok (.getfield 13, 3) := by decide +kernel
theorem dX12_digest_38 : decode cX12_digest 38 = .ok (.iload_n 2, 1) := by decide +kernel
theorem dX12_digest_39 : decode cX12_digest 39 = .ok (.iconst 1, 1) := by decide +kernel
theorem dX12_digest_40 : decode cX12_digest 40 = .ok (.iadd, 1) := by decide +kernel
theorem dX12_digest_41 : decode cX12_digest 41 = .ok (.iaload, 1) := by decide +kernel
theorem dX12_digest_42 : decode cX12_digest 42 = .ok (.aload_n 0, 1) := by decide +kernel
theorem dX12_digest_43 : decode cX12_digest 43 = .ok (.getfield 13, 3) := by decide +kernel
theorem dX12_digest_46 : decode cX12_digest 46 = .ok (.iload_n 2, 1) := by decide +kernel
theorem dX12_digest_47 : decode cX12_digest 47 = .ok (.iconst 2, 1) := by decide +kernel
theorem dX12_digest_48 : decode cX12_digest 48 = .ok (.iadd, 1) := by decide +kernel
theorem dX12_digest_49 : decode cX12_digest 49 = .ok (.iaload, 1) := by decide +kernel
theorem dX12_digest_50 : decode cX12_digest 50 = .ok (.aload_n 0, 1) := by decide +kernel
theorem dX12_digest_51 : decode cX12_digest 51 = .ok (.getfield 13, 3) := by decide +kernel
theorem dX12_digest_54 : decode cX12_digest 54 = .ok (.iload_n 2, 1) := by decide +kernel
theorem dX12_digest_55 : decode cX12_digest 55 = .ok (.iconst 3, 1) := by decide +kernel
theorem dX12_digest_56 : decode cX12_digest 56 = .ok (.iadd, 1) := by decide +kernel
theorem dX12_digest_57 : decode cX12_digest 57 = .ok (.iaload, 1) := by decide +kernel
theorem dX12_digest_58 : decode cX12_digest 58 = .ok (.invokestatic 413, 3) := by decide +kernel
theorem dX12_digest_61 : decode cX12_digest 61 = .ok (.lreturn, 1) := by decide +kernel
abbrev k_X12_digest (E : g_E) (l : Launch) (D : g_D) (v1 : Int) (K : Int → g_D → Prop) : Prop := g_Kl E l m_X12_digest 1 [g_R 208, g_I v1] g_SH D K
abbrev n_X12_digest (E : g_E) (l : Launch) (D : g_D) (pc : Nat) (L : List (Option g_V)) (K : Int → g_D → Prop) : Prop := g_N E l m_X12_digest 1 pc L [] g_SH D (g_Rl g_SH K)
theorem s_X12_digest {E : g_E} {l : Launch} {D : g_D} {K : Int → g_D → Prop} {v1 : Int}  (hF : g_okD D → g_r v1 → ∀ D1, D1 = g_up D 208 0 0 → (k_X12_within E l g_SH D1 v1 0 9 (fun x2 D2 => g_r x2 → (¬ x2 = 0 → (g_r (4 * v1)) ∧ ((g_r (86 + (4 * v1))) ∧ ((0 ≤ (86 + (4 * v1)) ∧ (86 + (4 * v1)) < 1557) ∧ ((g_r ((86 + (4 * v1)) + 1)) ∧ ((0 ≤ ((86 + (4 * v1)) + 1) ∧ ((86 + (4 * v1)) + 1) < 1557) ∧ ((g_r ((86 + (4 * v1)) + 2)) ∧ ((0 ≤ ((86 + (4 * v1)) + 2) ∧ ((86 + (4 * v1)) + 2) < 1557) ∧ ((g_r ((86 + (4 * v1)) + 3)) ∧ ((0 ≤ ((86 + (4 * v1)) + 3) ∧ ((86 + (4 * v1)) + 3) < 1557) ∧ (k_X12_digestOf E l g_SH D2 (D2 209 (86 + (4 * v1)).toNat) (D2 209 ((86 + (4 * v1)) + 1).toNat) (D2 209 ((86 + (4 * v1)) + 2).toNat) (D2 209 ((86 + (4 * v1)) + 3).toNat) (fun x3 D3 => g_r8 x3 → K x3 D3))))))))))) ∧ (x2 = 0 → K (-2) D2)))) : k_X12_digest E l D v1 K := by
  refine g_enter (by decide) (Nat.le_of_ble_eq_true rfl) ?_
  show g_N E l m_X12_digest 1 0 [some (g_R 208), some (g_I v1), none] [] g_SH D (g_Rl g_SH K)
  refine g_use (fun ok => ?_)
  have hF := hF ok.2.1 (ok.loc (i := 1) rfl)
  refine g_aload_n dX12_digest_0 rfl ?_
  refine g_iconst dX12_digest_1 ⟨by decide, by decide⟩ ?_
  let D1 : g_D := g_up D 208 0 0
  have hF := hF D1 rfl
  refine g_put dX12_digest_2 fd_X12_1 (g_ftyI (C := RX12) (T := TX12) (N := 51) rfl rfl (by decide +kernel)) sh_208 rfl ?_
  refine g_iload_n dX12_digest_5 rfl ?_
  refine g_i2l dX12_digest_6 ?_
  refine g_lconst dX12_digest_7 ?_
  refine g_ldc2 dX12_digest_8 ⟨by decide, by decide⟩ kl_X12_409 ?_
  refine gw_cSi (As := [g_J v1, g_J 0, g_J 9]) (rest := []) dX12_digest_11 ms_X12_131 rfl (Nat.le_of_ble_eq_true rfl) (by decide) rfl hF ?_
  intro x2 D2 hx2 hF
  have hF := hF hx2
  refine g_ifne dX12_digest_14 rfl (fun q => ?_) (fun q => ?_)
  · have hF := hF.1 q
    refine g_bipush dX12_digest_21 ⟨by decide, by decide⟩ ?_
    refine g_iconst dX12_digest_23 ⟨by decide, by decide⟩ ?_
    refine g_iload_n dX12_digest_24 rfl ?_
    obtain ⟨hc, hF⟩ := hF
    refine g_imul dX12_digest_25 hc ?_
    obtain ⟨hc, hF⟩ := hF
    refine g_iadd dX12_digest_26 hc ?_
    refine gw_istore_n (L' := [some (g_R 208), some (g_I v1), some (g_I (86 + (4 * v1)))]) dX12_digest_27 (by decide) rfl ?_
    refine g_aload_n dX12_digest_28 rfl ?_
    refine g_getR dX12_digest_29 fd_X12_13 sh_208 rfl ?_
    refine g_iload_n dX12_digest_32 rfl ?_
    obtain ⟨hc, hF⟩ := hF
    refine g_iald dX12_digest_33 sh_209 hc.1 hc.2 ?_
    refine g_aload_n dX12_digest_34 rfl ?_
    refine g_getR dX12_digest_35 fd_X12_13 sh_208 rfl ?_
    refine g_iload_n dX12_digest_38 rfl ?_
    refine g_iconst dX12_digest_39 ⟨by decide, by decide⟩ ?_
    obtain ⟨hc, hF⟩ := hF
    refine g_iadd dX12_digest_40 hc ?_
    obtain ⟨hc, hF⟩ := hF
    refine g_iald dX12_digest_41 sh_209 hc.1 hc.2 ?_
    refine g_aload_n dX12_digest_42 rfl ?_
    refine g_getR dX12_digest_43 fd_X12_13 sh_208 rfl ?_
    refine g_iload_n dX12_digest_46 rfl ?_
    refine g_iconst dX12_digest_47 ⟨by decide, by decide⟩ ?_
    obtain ⟨hc, hF⟩ := hF
    refine g_iadd dX12_digest_48 hc ?_
    obtain ⟨hc, hF⟩ := hF
    refine g_iald dX12_digest_49 sh_209 hc.1 hc.2 ?_
    refine g_aload_n dX12_digest_50 rfl ?_
    refine g_getR dX12_digest_51 fd_X12_13 sh_208 rfl ?_
    refine g_iload_n dX12_digest_54 rfl ?_
    refine g_iconst dX12_digest_55 ⟨by decide, by decide⟩ ?_
    obtain ⟨hc, hF⟩ := hF
    refine g_iadd dX12_digest_56 hc ?_
    obtain ⟨hc, hF⟩ := hF
    refine g_iald dX12_digest_57 sh_209 hc.1 hc.2 ?_
    refine gw_cSl (As := [g_I (D2 209 (86 + (4 * v1)).toNat), g_I (D2 209 ((86 + (4 * v1)) + 1).toNat), g_I (D2 209 ((86 + (4 * v1)) + 2).toNat), g_I (D2 209 ((86 + (4 * v1)) + 3).toNat)]) (rest := []) dX12_digest_58 ms_X12_413 rfl (Nat.le_of_ble_eq_true rfl) (by decide) rfl hF ?_
    intro x3 D3 hx3 hF
    have hF := hF hx3
    exact gw_lret dX12_digest_61 rfl hF
  · have hF := hF.2 q
    refine g_ldc2 dX12_digest_17 ⟨by decide, by decide⟩ kl_X12_411 ?_
    exact gw_lret dX12_digest_20 rfl hF
theorem dX12_due_0 : decode cX12_due 0 = .ok (.aload_n 0, 1) := by decide +kernel
theorem dX12_due_1 : decode cX12_due 1 = .ok (.iconst 0, 1) := by decide +kernel
theorem dX12_due_2 : decode cX12_due 2 = .ok (.putfield 1, 3) := by decide +kernel
theorem dX12_due_5 : decode cX12_due 5 = .ok (.aload_n 0, 1) := by decide +kernel
theorem dX12_due_6 : decode cX12_due 6 = .ok (.invokevirtual 369, 3) := by decide +kernel
theorem dX12_due_9 : decode cX12_due 9 = .ok (.iload_n 1, 1) := by decide +kernel
theorem dX12_due_10 : decode cX12_due 10 = .ok (.i2l, 1) := by decide +kernel
theorem dX12_due_11 : decode cX12_due 11 = .ok (.lconst 0, 1) := by decide +kernel
theorem dX12_due_12 : decode cX12_due 12 = .ok (.aload_n 0, 1) := by decide +kernel
theorem dX12_due_13 : decode cX12_due 13 = .ok (.getfield 342, 3) := by decide +kernel
theorem dX12_due_16 : decode cX12_due 16 = .ok (.i2l, 1) := by decide +kernel
theorem dX12_due_17 : decode cX12_due 17 = .ok (.invokestatic 131, 3) := by decide +kernel
theorem dX12_due_20 : decode cX12_due 20 = .ok (.ifCond .eq 15, 3) := by decide +kernel
theorem dX12_due_23 : decode cX12_due 23 = .ok (.iload_n 2, 1) := by decide +kernel
theorem dX12_due_24 : decode cX12_due 24 = .ok (.i2l, 1) := by decide +kernel
theorem dX12_due_25 : decode cX12_due 25 = .ok (.lconst 0, 1) := by decide +kernel
theorem dX12_due_26 : decode cX12_due 26 = .ok (.ldc2_w 409, 3) := by decide +kernel
theorem dX12_due_29 : decode cX12_due 29 = .ok (.invokestatic 131, 3) := by decide +kernel
theorem dX12_due_32 : decode cX12_due 32 = .ok (.ifCond .ne 7, 3) := by decide +kernel
theorem dX12_due_35 : decode cX12_due 35 = .ok (.ldc2_w 411, 3) := by decide +kernel
theorem dX12_due_38 : decode cX12_due 38 = .ok (.lreturn, 1) := by decide +kernel
theorem dX12_due_39 : decode cX12_due 39 = .ok (.bipush 60, 2) := by decide +kernel
theorem dX12_due_41 : decode cX12_due 41 = .ok (.iload_n 1, 1) := by decide +kernel
theorem dX12_due_42 : decode cX12_due 42 = .ok (.imul, 1) := by decide +kernel
theorem dX12_due_43 : decode cX12_due 43 = .ok (.iconst 4, 1) := by decide +kernel
theorem dX12_due_44 : decode cX12_due 44 = .ok (.iload_n 2, 1) := by decide +kernel
theorem dX12_due_45 : decode cX12_due 45 = .ok (.imul, 1) := by decide +kernel
theorem dX12_due_46 : decode cX12_due 46 = .ok (.iadd, 1) := by decide +kernel
theorem dX12_due_47 : decode cX12_due 47 = .ok (.istore_n 3, 1) := by decide +kernel
theorem dX12_due_48 : decode cX12_due 48 = .ok (.aload_n 0, 1) := by decide +kernel
theorem dX12_due_49 : decode cX12_due 49 = .ok (.getfield 102, 3) := by decide +kernel
theorem dX12_due_52 : decode cX12_due 52 = .ok (.iload_n 3, 1) := by decide +kernel
theorem dX12_due_53 : decode cX12_due 53 = .ok (.iaload, 1) := by decide +kernel
theorem dX12_due_54 : decode cX12_due 54 = .ok (.aload_n 0, 1) := by decide +kernel
theorem dX12_due_55 : decode cX12_due 55 = .ok (.getfield 102, 3) := by decide +kernel
theorem dX12_due_58 : decode cX12_due 58 = .ok (.iload_n 3, 1) := by decide +kernel
theorem dX12_due_59 : decode cX12_due 59 = .ok (.iconst 1, 1) := by decide +kernel
theorem dX12_due_60 : decode cX12_due 60 = .ok (.iadd, 1) := by decide +kernel
theorem dX12_due_61 : decode cX12_due 61 = .ok (.iaload, 1) := by decide +kernel
theorem dX12_due_62 : decode cX12_due 62 = .ok (.aload_n 0, 1) := by decide +kernel
theorem dX12_due_63 : decode cX12_due 63 = .ok (.getfield 102, 3) := by decide +kernel
theorem dX12_due_66 : decode cX12_due 66 = .ok (.iload_n 3, 1) := by decide +kernel
theorem dX12_due_67 : decode cX12_due 67 = .ok (.iconst 2, 1) := by decide +kernel
theorem dX12_due_68 : decode cX12_due 68 = .ok (.iadd, 1) := by decide +kernel
theorem dX12_due_69 : decode cX12_due 69 = .ok (.iaload, 1) := by decide +kernel
theorem dX12_due_70 : decode cX12_due 70 = .ok (.aload_n 0, 1) := by decide +kernel
theorem dX12_due_71 : decode cX12_due 71 = .ok (.getfield 102, 3) := by decide +kernel
theorem dX12_due_74 : decode cX12_due 74 = .ok (.iload_n 3, 1) := by decide +kernel
theorem dX12_due_75 : decode cX12_due 75 = .ok (.iconst 3, 1) := by decide +kernel
theorem dX12_due_76 : decode cX12_due 76 = .ok (.iadd, 1) := by decide +kernel
theorem dX12_due_77 : decode cX12_due 77 = .ok (.iaload, 1) := by decide +kernel
theorem dX12_due_78 : decode cX12_due 78 = .ok (.invokestatic 413, 3) := by decide +kernel
theorem dX12_due_81 : decode cX12_due 81 = .ok (.lreturn, 1) := by decide +kernel
abbrev k_X12_due (E : g_E) (l : Launch) (D : g_D) (v1 : Int) (v2 : Int) (K : Int → g_D → Prop) : Prop := g_Kl E l m_X12_due 5 [g_R 208, g_I v1, g_I v2] g_SH D K
abbrev n_X12_due (E : g_E) (l : Launch) (D : g_D) (pc : Nat) (L : List (Option g_V)) (K : Int → g_D → Prop) : Prop := g_N E l m_X12_due 5 pc L [] g_SH D (g_Rl g_SH K)
theorem s_X12_due {E : g_E} {l : Launch} {D : g_D} {K : Int → g_D → Prop} {v1 : Int} {v2 : Int}  (hF : g_okD D → g_r v1 → g_r v2 → ∀ D1, D1 = g_up D 208 0 0 → (k_X12_laysDue E l D1 (fun D2 => k_X12_within E l g_SH D2 v1 0 (D2 208 46) (fun x3 D3 => g_r x3 → (x3 = 0 → K (-2) D3) ∧ (¬ x3 = 0 → k_X12_within E l g_SH D3 v2 0 9 (fun x4 D4 => g_r x4 → (¬ x4 = 0 → (g_r (60 * v1)) ∧ ((g_r (4 * v2)) ∧ ((g_r ((60 * v1) + (4 * v2))) ∧ ((0 ≤ ((60 * v1) + (4 * v2)) ∧ ((60 * v1) + (4 * v2)) < 24060) ∧ ((g_r (((60 * v1) + (4 * v2)) + 1)) ∧ ((0 ≤ (((60 * v1) + (4 * v2)) + 1) ∧ (((60 * v1) + (4 * v2)) + 1) < 24060) ∧ ((g_r (((60 * v1) + (4 * v2)) + 2)) ∧ ((0 ≤ (((60 * v1) + (4 * v2)) + 2) ∧ (((60 * v1) + (4 * v2)) + 2) < 24060) ∧ ((g_r (((60 * v1) + (4 * v2)) + 3)) ∧ ((0 ≤ (((60 * v1) + (4 * v2)) + 3) ∧ (((60 * v1) + (4 * v2)) + 3) < 24060) ∧ (k_X12_digestOf E l g_SH D4 (D4 237 ((60 * v1) + (4 * v2)).toNat) (D4 237 (((60 * v1) + (4 * v2)) + 1).toNat) (D4 237 (((60 * v1) + (4 * v2)) + 2).toNat) (D4 237 (((60 * v1) + (4 * v2)) + 3).toNat) (fun x5 D5 => g_r8 x5 → K x5 D5)))))))))))) ∧ (x4 = 0 → K (-2) D4))))))) : k_X12_due E l D v1 v2 K := by
  refine g_enter (by decide) (Nat.le_of_ble_eq_true rfl) ?_
  show g_N E l m_X12_due 5 0 [some (g_R 208), some (g_I v1), some (g_I v2), none] [] g_SH D (g_Rl g_SH K)
  refine g_use (fun ok => ?_)
  have hF := hF ok.2.1 (ok.loc (i := 1) rfl) (ok.loc (i := 2) rfl)
  refine g_aload_n dX12_due_0 rfl ?_
  refine g_iconst dX12_due_1 ⟨by decide, by decide⟩ ?_
  let D1 : g_D := g_up D 208 0 0
  have hF := hF D1 rfl
  refine g_put dX12_due_2 fd_X12_1 (g_ftyI (C := RX12) (T := TX12) (N := 51) rfl rfl (by decide +kernel)) sh_208 rfl ?_
  refine g_aload_n dX12_due_5 rfl ?_
  refine gw_cVv (b := 208) (As := []) (rest := []) dX12_due_6 mv_X12_369 sh_208 rfl (Nat.le_of_ble_eq_true rfl) (by decide) rfl hF ?_
  intro D2 hF
  refine g_iload_n dX12_due_9 rfl ?_
  refine g_i2l dX12_due_10 ?_
  refine g_lconst dX12_due_11 ?_
  refine g_aload_n dX12_due_12 rfl ?_
  refine g_getI dX12_due_13 fd_X12_342 sh_208 rfl ?_
  refine g_i2l dX12_due_16 ?_
  refine gw_cSi (As := [g_J v1, g_J 0, g_J (D2 208 46)]) (rest := []) dX12_due_17 ms_X12_131 rfl (Nat.le_of_ble_eq_true rfl) (by decide) rfl hF ?_
  intro x3 D3 hx3 hF
  have hF := hF hx3
  refine g_ifeq dX12_due_20 rfl (fun q => ?_) (fun q => ?_)
  · have hF := hF.1 q
    refine g_ldc2 dX12_due_35 ⟨by decide, by decide⟩ kl_X12_411 ?_
    exact gw_lret dX12_due_38 rfl hF
  · have hF := hF.2 q
    refine g_iload_n dX12_due_23 rfl ?_
    refine g_i2l dX12_due_24 ?_
    refine g_lconst dX12_due_25 ?_
    refine g_ldc2 dX12_due_26 ⟨by decide, by decide⟩ kl_X12_409 ?_
    refine gw_cSi (As := [g_J v2, g_J 0, g_J 9]) (rest := []) dX12_due_29 ms_X12_131 rfl (Nat.le_of_ble_eq_true rfl) (by decide) rfl hF ?_
    intro x4 D4 hx4 hF
    have hF := hF hx4
    refine g_ifne dX12_due_32 rfl (fun q => ?_) (fun q => ?_)
    · have hF := hF.1 q
      refine g_bipush dX12_due_39 ⟨by decide, by decide⟩ ?_
      refine g_iload_n dX12_due_41 rfl ?_
      obtain ⟨hc, hF⟩ := hF
      refine g_imul dX12_due_42 hc ?_
      refine g_iconst dX12_due_43 ⟨by decide, by decide⟩ ?_
      refine g_iload_n dX12_due_44 rfl ?_
      obtain ⟨hc, hF⟩ := hF
      refine g_imul dX12_due_45 hc ?_
      obtain ⟨hc, hF⟩ := hF
      refine g_iadd dX12_due_46 hc ?_
      refine gw_istore_n (L' := [some (g_R 208), some (g_I v1), some (g_I v2), some (g_I ((60 * v1) + (4 * v2)))]) dX12_due_47 (by decide) rfl ?_
      refine g_aload_n dX12_due_48 rfl ?_
      refine g_getR dX12_due_49 fd_X12_102 sh_208 rfl ?_
      refine g_iload_n dX12_due_52 rfl ?_
      obtain ⟨hc, hF⟩ := hF
      refine g_iald dX12_due_53 sh_237 hc.1 hc.2 ?_
      refine g_aload_n dX12_due_54 rfl ?_
      refine g_getR dX12_due_55 fd_X12_102 sh_208 rfl ?_
      refine g_iload_n dX12_due_58 rfl ?_
      refine g_iconst dX12_due_59 ⟨by decide, by decide⟩ ?_
      obtain ⟨hc, hF⟩ := hF
      refine g_iadd dX12_due_60 hc ?_
      obtain ⟨hc, hF⟩ := hF
      refine g_iald dX12_due_61 sh_237 hc.1 hc.2 ?_
      refine g_aload_n dX12_due_62 rfl ?_
      refine g_getR dX12_due_63 fd_X12_102 sh_208 rfl ?_
      refine g_iload_n dX12_due_66 rfl ?_
      refine g_iconst dX12_due_67 ⟨by decide, by decide⟩ ?_
      obtain ⟨hc, hF⟩ := hF
      refine g_iadd dX12_due_68 hc ?_
      obtain ⟨hc, hF⟩ := hF
      refine g_iald dX12_due_69 sh_237 hc.1 hc.2 ?_
      refine g_aload_n dX12_due_70 rfl ?_
      refine g_getR dX12_due_71 fd_X12_102 sh_208 rfl ?_
      refine g_iload_n dX12_due_74 rfl ?_
      refine g_iconst dX12_due_75 ⟨by decide, by decide⟩ ?_
      obtain ⟨hc, hF⟩ := hF
      refine g_iadd dX12_due_76 hc ?_
      obtain ⟨hc, hF⟩ := hF
      refine g_iald dX12_due_77 sh_237 hc.1 hc.2 ?_
      refine gw_cSl (As := [g_I (D4 237 ((60 * v1) + (4 * v2)).toNat), g_I (D4 237 (((60 * v1) + (4 * v2)) + 1).toNat), g_I (D4 237 (((60 * v1) + (4 * v2)) + 2).toNat), g_I (D4 237 (((60 * v1) + (4 * v2)) + 3).toNat)]) (rest := []) dX12_due_78 ms_X12_413 rfl (Nat.le_of_ble_eq_true rfl) (by decide) rfl hF ?_
      intro x5 D5 hx5 hF
      have hF := hF hx5
      exact gw_lret dX12_due_81 rfl hF
    · have hF := hF.2 q
      refine g_ldc2 dX12_due_35 ⟨by decide, by decide⟩ kl_X12_411 ?_
      exact gw_lret dX12_due_38 rfl hF
theorem dX12_fails_0 : decode cX12_fails 0 = .ok (.aload_n 0, 1) := by decide +kernel
theorem dX12_fails_1 : decode cX12_fails 1 = .ok (.getfield 288, 3) := by decide +kernel
theorem dX12_fails_4 : decode cX12_fails 4 = .ok (.ifCond .eq 4, 3) := by decide +kernel
theorem dX12_fails_7 : decode cX12_fails 7 = .ok (.return_, 1) := by decide +kernel
theorem dX12_fails_8 : decode cX12_fails 8 = .ok (.aload_n 0, 1) := by decide +kernel
theorem dX12_fails_9 : decode cX12_fails 9 = .ok (.iload_n 1, 1) := by decide +kernel
theorem dX12_fails_10 : decode cX12_fails 10 = .ok (.putfield 288, 3) := by decide +kernel
theorem dX12_fails_13 : decode cX12_fails 13 = .ok (.aload_n 0, 1) := by decide +kernel
theorem dX12_fails_14 : decode cX12_fails 14 = .ok (.iload_n 2, 1) := by decide +kernel
theorem dX12_fails_15 : decode cX12_fails 15 = .ok (.putfield 291, 3) := by decide +kernel
theorem dX12_fails_18 : decode cX12_fails 18 = .ok (.return_, 1) := by decide +kernel
abbrev k_X12_fails (E : g_E) (l : Launch) (D : g_D) (v1 : Int) (v2 : Int) (K : g_D → Prop) : Prop := g_Kv E l m_X12_fails 0 [g_R 208, g_I v1, g_I v2] g_SH D K
abbrev n_X12_fails (E : g_E) (l : Launch) (D : g_D) (pc : Nat) (L : List (Option g_V)) (K : g_D → Prop) : Prop := g_N E l m_X12_fails 0 pc L [] g_SH D (g_Rv g_SH K)
theorem s_X12_fails {E : g_E} {l : Launch} {D : g_D} {K : g_D → Prop} {v1 : Int} {v2 : Int}  (hF : g_okD D → g_r v1 → g_r v2 → ((D 208 38) = 0 → ∀ D1, D1 = g_up D 208 38 v1 → (∀ D2, D2 = g_up D1 208 39 v2 → (K D2))) ∧ (¬ (D 208 38) = 0 → K D)) : k_X12_fails E l D v1 v2 K := by
  refine g_enter (by decide) (Nat.le_of_ble_eq_true rfl) ?_
  show g_N E l m_X12_fails 0 0 [some (g_R 208), some (g_I v1), some (g_I v2)] [] g_SH D (g_Rv g_SH K)
  refine g_use (fun ok => ?_)
  have hF := hF ok.2.1 (ok.loc (i := 1) rfl) (ok.loc (i := 2) rfl)
  refine g_aload_n dX12_fails_0 rfl ?_
  refine g_getI dX12_fails_1 fd_X12_288 sh_208 rfl ?_
  refine g_ifeq dX12_fails_4 rfl (fun q => ?_) (fun q => ?_)
  · have hF := hF.1 q
    refine g_aload_n dX12_fails_8 rfl ?_
    refine g_iload_n dX12_fails_9 rfl ?_
    let D1 : g_D := g_up D 208 38 v1
    have hF := hF D1 rfl
    refine g_put dX12_fails_10 fd_X12_288 (g_ftyI (C := RX12) (T := TX12) (N := 51) rfl rfl (by decide +kernel)) sh_208 rfl ?_
    refine g_aload_n dX12_fails_13 rfl ?_
    refine g_iload_n dX12_fails_14 rfl ?_
    let D2 : g_D := g_up D1 208 39 v2
    have hF := hF D2 rfl
    refine g_put dX12_fails_15 fd_X12_291 (g_ftyI (C := RX12) (T := TX12) (N := 51) rfl rfl (by decide +kernel)) sh_208 rfl ?_
    exact gw_vret dX12_fails_18 rfl hF
  · have hF := hF.2 q
    exact gw_vret dX12_fails_7 rfl hF
theorem dX12_fault_0 : decode cX12_fault 0 = .ok (.aload_n 0, 1) := by decide +kernel
theorem dX12_fault_1 : decode cX12_fault 1 = .ok (.iconst 0, 1) := by decide +kernel
theorem dX12_fault_2 : decode cX12_fault 2 = .ok (.putfield 1, 3) := by decide +kernel
theorem dX12_fault_5 : decode cX12_fault 5 = .ok (.iload_n 1, 1) := by decide +kernel
theorem dX12_fault_6 : decode cX12_fault 6 = .ok (.ifCond .ne 10, 3) := by decide +kernel
theorem dX12_fault_9 : decode cX12_fault 9 = .ok (.aload_n 0, 1) := by decide +kernel
theorem dX12_fault_10 : decode cX12_fault 10 = .ok (.getfield 333, 3) := by decide +kernel
theorem dX12_fault_13 : decode cX12_fault 13 = .ok (.goto 16, 3) := by decide +kernel
theorem dX12_fault_16 : decode cX12_fault 16 = .ok (.iload_n 1, 1) := by decide +kernel
theorem dX12_fault_17 : decode cX12_fault 17 = .ok (.iconst 1, 1) := by decide +kernel
theorem dX12_fault_18 : decode cX12_fault 18 = .ok (.if_icmp .ne 10, 3) := by decide +kernel
theorem dX12_fault_21 : decode cX12_fault 21 = .ok (.aload_n 0, 1) := by decide +kernel
theorem dX12_fault_22 : decode cX12_fault 22 = .ok (.getfield 93, 3) := by decide +kernel
theorem dX12_fault_25 : decode cX12_fault 25 = .ok (.goto 4, 3) := by decide +kernel
theorem dX12_fault_28 : decode cX12_fault 28 = .ok (.iconst (-1), 1) := by decide +kernel
theorem dX12_fault_29 : decode cX12_fault 29 = .ok (.ireturn, 1) := by decide +kernel
abbrev k_X12_fault (E : g_E) (l : Launch) (D : g_D) (v1 : Int) (K : Int → g_D → Prop) : Prop := g_Ki E l m_X12_fault 0 [g_R 208, g_I v1] g_SH D K
abbrev n_X12_fault (E : g_E) (l : Launch) (D : g_D) (pc : Nat) (L : List (Option g_V)) (K : Int → g_D → Prop) : Prop := g_N E l m_X12_fault 0 pc L [] g_SH D (g_Ri g_SH K)
theorem s_X12_fault {E : g_E} {l : Launch} {D : g_D} {K : Int → g_D → Prop} {v1 : Int}  (hF : g_okD D → g_r v1 → ∀ D1, D1 = g_up D 208 0 0 → ((¬ v1 = 0 → (¬ v1 = 1 → K (-1) D1) ∧ (v1 = 1 → K (D 208 41) D1)) ∧ (v1 = 0 → K (D 208 40) D1))) : k_X12_fault E l D v1 K := by
  refine g_enter (by decide) (Nat.le_of_ble_eq_true rfl) ?_
  show g_N E l m_X12_fault 0 0 [some (g_R 208), some (g_I v1)] [] g_SH D (g_Ri g_SH K)
  refine g_use (fun ok => ?_)
  have hF := hF ok.2.1 (ok.loc (i := 1) rfl)
  refine g_aload_n dX12_fault_0 rfl ?_
  refine g_iconst dX12_fault_1 ⟨by decide, by decide⟩ ?_
  let D1 : g_D := g_up D 208 0 0
  have hF := hF D1 rfl
  refine g_put dX12_fault_2 fd_X12_1 (g_ftyI (C := RX12) (T := TX12) (N := 51) rfl rfl (by decide +kernel)) sh_208 rfl ?_
  refine g_iload_n dX12_fault_5 rfl ?_
  refine g_ifne dX12_fault_6 rfl (fun q => ?_) (fun q => ?_)
  · have hF := hF.1 q
    refine g_iload_n dX12_fault_16 rfl ?_
    refine g_iconst dX12_fault_17 ⟨by decide, by decide⟩ ?_
    refine g_cne dX12_fault_18 rfl (fun q => ?_) (fun q => ?_)
    · have hF := hF.1 q
      refine g_iconst dX12_fault_28 ⟨by decide, by decide⟩ ?_
      exact gw_iret dX12_fault_29 rfl hF
    · have hF := hF.2 q
      refine g_aload_n dX12_fault_21 rfl ?_
      refine g_getI dX12_fault_22 fd_X12_93 sh_208 rfl ?_
      refine g_goto dX12_fault_25 rfl ?_
      exact gw_iret dX12_fault_29 rfl hF
  · have hF := hF.2 q
    refine g_aload_n dX12_fault_9 rfl ?_
    refine g_getI dX12_fault_10 fd_X12_333 sh_208 rfl ?_
    refine g_goto dX12_fault_13 rfl ?_
    exact gw_iret dX12_fault_29 rfl hF
theorem dX12_feed_0 : decode cX12_feed 0 = .ok (.aload_n 0, 1) := by decide +kernel
theorem dX12_feed_1 : decode cX12_feed 1 = .ok (.iconst 0, 1) := by decide +kernel
theorem dX12_feed_2 : decode cX12_feed 2 = .ok (.putfield 1, 3) := by decide +kernel
theorem dX12_feed_5 : decode cX12_feed 5 = .ok (.aload_n 0, 1) := by decide +kernel
theorem dX12_feed_6 : decode cX12_feed 6 = .ok (.getfield 126, 3) := by decide +kernel
theorem dX12_feed_9 : decode cX12_feed 9 = .ok (.bipush 20, 2) := by decide +kernel
theorem dX12_feed_11 : decode cX12_feed 11 = .ok (.iadd, 1) := by decide +kernel
theorem dX12_feed_12 : decode cX12_feed 12 = .ok (.sipush 160, 3) := by decide +kernel
theorem dX12_feed_15 : decode cX12_feed 15 = .ok (.if_icmp .le 6, 3) := by decide +kernel
theorem dX12_feed_18 : decode cX12_feed 18 = .ok (.bipush (-5), 2) := by decide +kernel
theorem dX12_feed_20 : decode cX12_feed 20 = .ok (.ireturn, 1) := by decide +kernel
theorem dX12_feed_21 : decode cX12_feed 21 = .ok (.iconst 0, 1) := by decide +kernel
theorem dX12_feed_22 : decode cX12_feed 22 = .ok (.istore 6, 2) := by decide +kernel
theorem dX12_feed_24 : decode cX12_feed 24 = .ok (.iload 6, 2) := by decide +kernel
theorem dX12_feed_26 : decode cX12_feed 26 = .ok (.bipush 20, 2) := by decide +kernel
theorem dX12_feed_28 : decode cX12_feed 28 = .ok (.if_icmp .ge 93, 3) := by decide +kernel
theorem dX12_feed_31 : decode cX12_feed 31 = .ok (.iload 6, 2) := by decide +kernel
theorem dX12_feed_33 : decode cX12_feed 33 = .ok (.iconst 4, 1) := by decide +kernel
theorem dX12_feed_34 : decode cX12_feed 34 = .ok (.if_icmp .ge 7, 3) := by decide +kernel
theorem dX12_feed_37 : decode cX12_feed 37 = .ok (.iload_n 1, 1) := by decide +kernel
theorem dX12_feed_38 : decode cX12_feed 38 = .ok (.goto 39, 3) := by decide +kernel
theorem dX12_feed_41 : decode cX12_feed 41 = .ok (.iload 6, 2) := by decide +kernel
theorem dX12_feed_43 : decode cX12_feed 43 = .ok (.bipush 8, 2) := by decide +kernel
theorem dX12_feed_45 : decode cX12_feed 45 = .ok (.if_icmp .ge 7, 3) := by decide +kernel
theorem dX12_feed_48 : decode cX12_feed 48 = .ok (.iload_n 2, 1) := by decide +kernel
theorem dX12_feed_49 : decode cX12_feed 49 = .ok (.goto 28, 3) := by decide +kernel
theorem dX12_feed_52 : decode cX12_feed 52 = .ok (.iload 6, 2) := by decide +kernel
theorem dX12_feed_54 : decode cX12_feed 54 = .ok (.bipush 12, 2) := by decide +kernel
theorem dX12_feed_56 : decode cX12_feed 56 = .ok (.if_icmp .ge 7, 3) := by decide +kernel
theorem dX12_feed_59 : decode cX12_feed 59 = .ok (.iload_n 3, 1) := by decide +kernel
theorem dX12_feed_60 : decode cX12_feed 60 = .ok (.goto 17, 3) := by decide +kernel
theorem dX12_feed_63 : decode cX12_feed 63 = .ok (.iload 6, 2) := by decide +kernel
theorem dX12_feed_65 : decode cX12_feed 65 = .ok (.bipush 16, 2) := by decide +kernel
theorem dX12_feed_67 : decode cX12_feed 67 = .ok (.if_icmp .ge 8, 3) := by decide +kernel
theorem dX12_feed_70 : decode cX12_feed 70 = .ok (.iload 4, 2) := by decide +kernel
theorem dX12_feed_72 : decode cX12_feed 72 = .ok (.goto 5, 3) := by decide +kernel
theorem dX12_feed_75 : decode cX12_feed 75 = .ok (.iload 5, 2) := by decide +kernel
theorem dX12_feed_77 : decode cX12_feed 77 = .ok (.istore 7, 2) := by decide +kernel
theorem dX12_feed_79 : decode cX12_feed 79 = .ok (.aload_n 0, 1) := by decide +kernel
theorem dX12_feed_80 : decode cX12_feed 80 = .ok (.getfield 24, 3) := by decide +kernel
theorem dX12_feed_83 : decode cX12_feed 83 = .ok (.aload_n 0, 1) := by decide +kernel
theorem dX12_feed_84 : decode cX12_feed 84 = .ok (.getfield 126, 3) := by decide +kernel
theorem dX12_feed_87 : decode cX12_feed 87 = .ok (.iload 7, 2) := by decide +kernel
theorem dX12_feed_89 : decode cX12_feed 89 = .ok (.bipush 24, 2) := by decide +kernel
theorem dX12_feed_91 : decode cX12_feed 91 = .ok (.bipush 8, 2) := by decide +kernel
theorem dX12_feed_93 : decode cX12_feed 93 = .ok (.iload 6, 2) := by decide +kernel
theorem dX12_feed_95 : decode cX12_feed 95 = .ok (.iconst 4, 1) := by decide +kernel
theorem dX12_feed_96 : decode cX12_feed 96 = .ok (.irem, 1) := by decide +kernel
theorem dX12_feed_97 : decode cX12_feed 97 = .ok (.imul, 1) := by decide +kernel
theorem dX12_feed_98 : decode cX12_feed 98 = .ok (.isub, 1) := by decide +kernel
theorem dX12_feed_99 : decode cX12_feed 99 = .ok (.ishr, 1) := by decide +kernel
theorem dX12_feed_100 : decode cX12_feed 100 = .ok (.sipush 255, 3) := by decide +kernel
theorem dX12_feed_103 : decode cX12_feed 103 = .ok (.iand, 1) := by decide +kernel
theorem dX12_feed_104 : decode cX12_feed 104 = .ok (.iastore, 1) := by decide +kernel
theorem dX12_feed_105 : decode cX12_feed 105 = .ok (.aload_n 0, 1) := by decide +kernel
theorem dX12_feed_106 : decode cX12_feed 106 = .ok (.dup, 1) := by decide +kernel
theorem dX12_feed_107 : decode cX12_feed 107 = .ok (.getfield 126, 3) := by decide +kernel
theorem dX12_feed_110 : decode cX12_feed 110 = .ok (.iconst 1, 1) := by decide +kernel
theorem dX12_feed_111 : decode cX12_feed 111 = .ok (.iadd, 1) := by decide +kernel
theorem dX12_feed_112 : decode cX12_feed 112 = .ok (.putfield 126, 3) := by decide +kernel
theorem dX12_feed_115 : decode cX12_feed 115 = .ok (.iinc 6 1, 3) := by decide +kernel
theorem dX12_feed_118 : decode cX12_feed 118 = .ok (.goto (-94), 3) := by decide +kernel
theorem dX12_feed_121 : decode cX12_feed 121 = .ok (.aload_n 0, 1) := by decide +kernel
theorem dX12_feed_122 : decode cX12_feed 122 = .ok (.getfield 126, 3) := by decide +kernel
theorem dX12_feed_125 : decode cX12_feed 125 = .ok (.ireturn, 1) := by decide +kernel
abbrev k_X12_feed (E : g_E) (l : Launch) (D : g_D) (v1 : Int) (v2 : Int) (v3 : Int) (v4 : Int) (v5 : Int) (K : Int → g_D → Prop) : Prop := g_Ki E l m_X12_feed 0 [g_R 208, g_I v1, g_I v2, g_I v3, g_I v4, g_I v5] g_SH D K
abbrev n_X12_feed (E : g_E) (l : Launch) (D : g_D) (pc : Nat) (L : List (Option g_V)) (K : Int → g_D → Prop) : Prop := g_N E l m_X12_feed 0 pc L [] g_SH D (g_Ri g_SH K)
theorem s_X12_feed {E : g_E} {l : Launch} {D : g_D} {K : Int → g_D → Prop} {v1 : Int} {v2 : Int} {v3 : Int} {v4 : Int} {v5 : Int}  (hF : g_okD D → g_r v1 → g_r v2 → g_r v3 → g_r v4 → g_r v5 → ∀ D1, D1 = g_up D 208 0 0 → ((g_r ((D 208 5) + 20)) ∧ ((((D 208 5) + 20) ≤ 160 → n_X12_feed E l D1 24 [some (g_R 208), some (g_I v1), some (g_I v2), some (g_I v3), some (g_I v4), some (g_I v5), some (g_I 0), none] K) ∧ (¬ ((D 208 5) + 20) ≤ 160 → K (-5) D1)))) : k_X12_feed E l D v1 v2 v3 v4 v5 K := by
  refine g_enter (by decide) (Nat.le_of_ble_eq_true rfl) ?_
  show g_N E l m_X12_feed 0 0 [some (g_R 208), some (g_I v1), some (g_I v2), some (g_I v3), some (g_I v4), some (g_I v5), none, none] [] g_SH D (g_Ri g_SH K)
  refine g_use (fun ok => ?_)
  have hF := hF ok.2.1 (ok.loc (i := 1) rfl) (ok.loc (i := 2) rfl) (ok.loc (i := 3) rfl) (ok.loc (i := 4) rfl) (ok.loc (i := 5) rfl)
  refine g_aload_n dX12_feed_0 rfl ?_
  refine g_iconst dX12_feed_1 ⟨by decide, by decide⟩ ?_
  let D1 : g_D := g_up D 208 0 0
  have hF := hF D1 rfl
  refine g_put dX12_feed_2 fd_X12_1 (g_ftyI (C := RX12) (T := TX12) (N := 51) rfl rfl (by decide +kernel)) sh_208 rfl ?_
  refine g_aload_n dX12_feed_5 rfl ?_
  refine g_getI dX12_feed_6 fd_X12_126 sh_208 rfl ?_
  refine g_bipush dX12_feed_9 ⟨by decide, by decide⟩ ?_
  obtain ⟨hc, hF⟩ := hF
  refine g_iadd dX12_feed_11 hc ?_
  refine g_sipush dX12_feed_12 ⟨by decide, by decide⟩ ?_
  refine g_cle dX12_feed_15 rfl (fun q => ?_) (fun q => ?_)
  · have hF := hF.1 q
    refine g_iconst dX12_feed_21 ⟨by decide, by decide⟩ ?_
    refine gw_istore (L' := [some (g_R 208), some (g_I v1), some (g_I v2), some (g_I v3), some (g_I v4), some (g_I v5), some (g_I 0), none]) dX12_feed_22 (by decide) rfl ?_
    exact hF
  · have hF := hF.2 q
    refine g_bipush dX12_feed_18 ⟨by decide, by decide⟩ ?_
    exact gw_iret dX12_feed_20 rfl hF
theorem s_X12_feed_24 {E : g_E} {l : Launch} {D : g_D} {K : Int → g_D → Prop} {v1 : Int} {v2 : Int} {v3 : Int} {v4 : Int} {v5 : Int} {v6 : Int}  (hF : g_okD D → g_r v1 → g_r v2 → g_r v3 → g_r v4 → g_r v5 → g_r v6 → (20 ≤ v6 → K (D 208 5) D) ∧ (¬ 20 ≤ v6 → (4 ≤ v6 → (8 ≤ v6 → (12 ≤ v6 → (16 ≤ v6 → (0 ≤ v6) ∧ ((g_r (8 * (v6 % 4))) ∧ ((g_r (24 - (8 * (v6 % 4)))) ∧ ((0 ≤ (D 208 5) ∧ (D 208 5) < 160) ∧ (∀ D1, D1 = g_up D 212 (D 208 5).toNat (g_and (g_shr v5 (24 - (8 * (v6 % 4)))) 255) → ((g_r ((D 208 5) + 1)) ∧ (∀ D2, D2 = g_up D1 208 5 ((D 208 5) + 1) → ((g_r (v6 + 1)) ∧ (n_X12_feed E l D2 24 [some (g_R 208), some (g_I v1), some (g_I v2), some (g_I v3), some (g_I v4), some (g_I v5), some (g_I (v6 + 1)), none] K))))))))) ∧ (¬ 16 ≤ v6 → (0 ≤ v6) ∧ ((g_r (8 * (v6 % 4))) ∧ ((g_r (24 - (8 * (v6 % 4)))) ∧ ((0 ≤ (D 208 5) ∧ (D 208 5) < 160) ∧ (∀ D3, D3 = g_up D 212 (D 208 5).toNat (g_and (g_shr v4 (24 - (8 * (v6 % 4)))) 255) → ((g_r ((D 208 5) + 1)) ∧ (∀ D4, D4 = g_up D3 208 5 ((D 208 5) + 1) → ((g_r (v6 + 1)) ∧ (n_X12_feed E l D4 24 [some (g_R 208), some (g_I v1), some (g_I v2), some (g_I v3), some (g_I v4), some (g_I v5), some (g_I (v6 + 1)), none] K)))))))))) ∧ (¬ 12 ≤ v6 → (0 ≤ v6) ∧ ((g_r (8 * (v6 % 4))) ∧ ((g_r (24 - (8 * (v6 % 4)))) ∧ ((0 ≤ (D 208 5) ∧ (D 208 5) < 160) ∧ (∀ D5, D5 = g_up D 212 (D 208 5).toNat (g_and (g_shr v3 (24 - (8 * (v6 % 4)))) 255) → ((g_r ((D 208 5) + 1)) ∧ (∀ D6, D6 = g_up D5 208 5 ((D 208 5) + 1) → ((g_r (v6 + 1)) ∧ (n_X12_feed E l D6 24 [some (g_R 208), some (g_I v1), some (g_I v2), some (g_I v3), some (g_I v4), some (g_I v5), some (g_I (v6 + 1)), none] K)))))))))) ∧ (¬ 8 ≤ v6 → (0 ≤ v6) ∧ ((g_r (8 * (v6 % 4))) ∧ ((g_r (24 - (8 * (v6 % 4)))) ∧ ((0 ≤ (D 208 5) ∧ (D 208 5) < 160) ∧ (∀ D7, D7 = g_up D 212 (D 208 5).toNat (g_and (g_shr v2 (24 - (8 * (v6 % 4)))) 255) → ((g_r ((D 208 5) + 1)) ∧ (∀ D8, D8 = g_up D7 208 5 ((D 208 5) + 1) → ((g_r (v6 + 1)) ∧ (n_X12_feed E l D8 24 [some (g_R 208), some (g_I v1), some (g_I v2), some (g_I v3), some (g_I v4), some (g_I v5), some (g_I (v6 + 1)), none] K)))))))))) ∧ (¬ 4 ≤ v6 → (0 ≤ v6) ∧ ((g_r (8 * (v6 % 4))) ∧ ((g_r (24 - (8 * (v6 % 4)))) ∧ ((0 ≤ (D 208 5) ∧ (D 208 5) < 160) ∧ (∀ D9, D9 = g_up D 212 (D 208 5).toNat (g_and (g_shr v1 (24 - (8 * (v6 % 4)))) 255) → ((g_r ((D 208 5) + 1)) ∧ (∀ D10, D10 = g_up D9 208 5 ((D 208 5) + 1) → ((g_r (v6 + 1)) ∧ (n_X12_feed E l D10 24 [some (g_R 208), some (g_I v1), some (g_I v2), some (g_I v3), some (g_I v4), some (g_I v5), some (g_I (v6 + 1)), none] K))))))))))) : n_X12_feed E l D 24 [some (g_R 208), some (g_I v1), some (g_I v2), some (g_I v3), some (g_I v4), some (g_I v5), some (g_I v6), none] K := by
  refine g_use (fun ok => ?_)
  have hF := hF ok.2.1 (ok.loc (i := 1) rfl) (ok.loc (i := 2) rfl) (ok.loc (i := 3) rfl) (ok.loc (i := 4) rfl) (ok.loc (i := 5) rfl) (ok.loc (i := 6) rfl)
  refine g_iload dX12_feed_24 rfl ?_
  refine g_bipush dX12_feed_26 ⟨by decide, by decide⟩ ?_
  refine g_cge dX12_feed_28 rfl (fun q => ?_) (fun q => ?_)
  · have hF := hF.1 q
    refine g_aload_n dX12_feed_121 rfl ?_
    refine g_getI dX12_feed_122 fd_X12_126 sh_208 rfl ?_
    exact gw_iret dX12_feed_125 rfl hF
  · have hF := hF.2 q
    refine g_iload dX12_feed_31 rfl ?_
    refine g_iconst dX12_feed_33 ⟨by decide, by decide⟩ ?_
    refine g_cge dX12_feed_34 rfl (fun q => ?_) (fun q => ?_)
    · have hF := hF.1 q
      refine g_iload dX12_feed_41 rfl ?_
      refine g_bipush dX12_feed_43 ⟨by decide, by decide⟩ ?_
      refine g_cge dX12_feed_45 rfl (fun q => ?_) (fun q => ?_)
      · have hF := hF.1 q
        refine g_iload dX12_feed_52 rfl ?_
        refine g_bipush dX12_feed_54 ⟨by decide, by decide⟩ ?_
        refine g_cge dX12_feed_56 rfl (fun q => ?_) (fun q => ?_)
        · have hF := hF.1 q
          refine g_iload dX12_feed_63 rfl ?_
          refine g_bipush dX12_feed_65 ⟨by decide, by decide⟩ ?_
          refine g_cge dX12_feed_67 rfl (fun q => ?_) (fun q => ?_)
          · have hF := hF.1 q
            refine g_iload dX12_feed_75 rfl ?_
            refine gw_istore (L' := [some (g_R 208), some (g_I v1), some (g_I v2), some (g_I v3), some (g_I v4), some (g_I v5), some (g_I v6), some (g_I v5)]) dX12_feed_77 (by decide) rfl ?_
            refine g_aload_n dX12_feed_79 rfl ?_
            refine g_getR dX12_feed_80 fd_X12_24 sh_208 rfl ?_
            refine g_aload_n dX12_feed_83 rfl ?_
            refine g_getI dX12_feed_84 fd_X12_126 sh_208 rfl ?_
            refine g_iload dX12_feed_87 rfl ?_
            refine g_bipush dX12_feed_89 ⟨by decide, by decide⟩ ?_
            refine g_bipush dX12_feed_91 ⟨by decide, by decide⟩ ?_
            refine g_iload dX12_feed_93 rfl ?_
            refine g_iconst dX12_feed_95 ⟨by decide, by decide⟩ ?_
            obtain ⟨hc, hF⟩ := hF
            refine g_irem dX12_feed_96 hc (by decide) ?_
            obtain ⟨hc, hF⟩ := hF
            refine g_imul dX12_feed_97 hc ?_
            obtain ⟨hc, hF⟩ := hF
            refine g_isub dX12_feed_98 hc ?_
            refine g_ishr dX12_feed_99 ?_
            refine g_sipush dX12_feed_100 ⟨by decide, by decide⟩ ?_
            refine g_iand dX12_feed_103 ?_
            obtain ⟨hc, hF⟩ := hF
            let D1 : g_D := g_up D 212 (D 208 5).toNat (g_and (g_shr v5 (24 - (8 * (v6 % 4)))) 255)
            have hF := hF D1 rfl
            refine g_iast dX12_feed_104 sh_212 hc.1 hc.2 ?_
            refine g_aload_n dX12_feed_105 rfl ?_
            refine g_dup dX12_feed_106 rfl ?_
            refine g_getI dX12_feed_107 fd_X12_126 sh_208 rfl ?_
            refine g_iconst dX12_feed_110 ⟨by decide, by decide⟩ ?_
            obtain ⟨hc, hF⟩ := hF
            refine g_iadd dX12_feed_111 hc ?_
            let D2 : g_D := g_up D1 208 5 ((D 208 5) + 1)
            have hF := hF D2 rfl
            refine g_put dX12_feed_112 fd_X12_126 (g_ftyI (C := RX12) (T := TX12) (N := 51) rfl rfl (by decide +kernel)) sh_208 rfl ?_
            obtain ⟨hc, hF⟩ := hF
            refine gw_iinc (L' := [some (g_R 208), some (g_I v1), some (g_I v2), some (g_I v3), some (g_I v4), some (g_I v5), some (g_I (v6 + 1)), some (g_I v5)]) dX12_feed_115 rfl hc (by decide) rfl ?_
            refine g_goto dX12_feed_118 rfl ?_
            exact g_forget (L' := [some (g_R 208), some (g_I v1), some (g_I v2), some (g_I v3), some (g_I v4), some (g_I v5), some (g_I (v6 + 1)), none]) ⟨rfl, ⟨rfl, ⟨rfl, ⟨rfl, ⟨rfl, ⟨rfl, ⟨rfl, trivial⟩⟩⟩⟩⟩⟩⟩ hF
          · have hF := hF.2 q
            refine g_iload dX12_feed_70 rfl ?_
            refine g_goto dX12_feed_72 rfl ?_
            refine gw_istore (L' := [some (g_R 208), some (g_I v1), some (g_I v2), some (g_I v3), some (g_I v4), some (g_I v5), some (g_I v6), some (g_I v4)]) dX12_feed_77 (by decide) rfl ?_
            refine g_aload_n dX12_feed_79 rfl ?_
            refine g_getR dX12_feed_80 fd_X12_24 sh_208 rfl ?_
            refine g_aload_n dX12_feed_83 rfl ?_
            refine g_getI dX12_feed_84 fd_X12_126 sh_208 rfl ?_
            refine g_iload dX12_feed_87 rfl ?_
            refine g_bipush dX12_feed_89 ⟨by decide, by decide⟩ ?_
            refine g_bipush dX12_feed_91 ⟨by decide, by decide⟩ ?_
            refine g_iload dX12_feed_93 rfl ?_
            refine g_iconst dX12_feed_95 ⟨by decide, by decide⟩ ?_
            obtain ⟨hc, hF⟩ := hF
            refine g_irem dX12_feed_96 hc (by decide) ?_
            obtain ⟨hc, hF⟩ := hF
            refine g_imul dX12_feed_97 hc ?_
            obtain ⟨hc, hF⟩ := hF
            refine g_isub dX12_feed_98 hc ?_
            refine g_ishr dX12_feed_99 ?_
            refine g_sipush dX12_feed_100 ⟨by decide, by decide⟩ ?_
            refine g_iand dX12_feed_103 ?_
            obtain ⟨hc, hF⟩ := hF
            let D3 : g_D := g_up D 212 (D 208 5).toNat (g_and (g_shr v4 (24 - (8 * (v6 % 4)))) 255)
            have hF := hF D3 rfl
            refine g_iast dX12_feed_104 sh_212 hc.1 hc.2 ?_
            refine g_aload_n dX12_feed_105 rfl ?_
            refine g_dup dX12_feed_106 rfl ?_
            refine g_getI dX12_feed_107 fd_X12_126 sh_208 rfl ?_
            refine g_iconst dX12_feed_110 ⟨by decide, by decide⟩ ?_
            obtain ⟨hc, hF⟩ := hF
            refine g_iadd dX12_feed_111 hc ?_
            let D4 : g_D := g_up D3 208 5 ((D 208 5) + 1)
            have hF := hF D4 rfl
            refine g_put dX12_feed_112 fd_X12_126 (g_ftyI (C := RX12) (T := TX12) (N := 51) rfl rfl (by decide +kernel)) sh_208 rfl ?_
            obtain ⟨hc, hF⟩ := hF
            refine gw_iinc (L' := [some (g_R 208), some (g_I v1), some (g_I v2), some (g_I v3), some (g_I v4), some (g_I v5), some (g_I (v6 + 1)), some (g_I v4)]) dX12_feed_115 rfl hc (by decide) rfl ?_
            refine g_goto dX12_feed_118 rfl ?_
            exact g_forget (L' := [some (g_R 208), some (g_I v1), some (g_I v2), some (g_I v3), some (g_I v4), some (g_I v5), some (g_I (v6 + 1)), none]) ⟨rfl, ⟨rfl, ⟨rfl, ⟨rfl, ⟨rfl, ⟨rfl, ⟨rfl, trivial⟩⟩⟩⟩⟩⟩⟩ hF
        · have hF := hF.2 q
          refine g_iload_n dX12_feed_59 rfl ?_
          refine g_goto dX12_feed_60 rfl ?_
          refine gw_istore (L' := [some (g_R 208), some (g_I v1), some (g_I v2), some (g_I v3), some (g_I v4), some (g_I v5), some (g_I v6), some (g_I v3)]) dX12_feed_77 (by decide) rfl ?_
          refine g_aload_n dX12_feed_79 rfl ?_
          refine g_getR dX12_feed_80 fd_X12_24 sh_208 rfl ?_
          refine g_aload_n dX12_feed_83 rfl ?_
          refine g_getI dX12_feed_84 fd_X12_126 sh_208 rfl ?_
          refine g_iload dX12_feed_87 rfl ?_
          refine g_bipush dX12_feed_89 ⟨by decide, by decide⟩ ?_
          refine g_bipush dX12_feed_91 ⟨by decide, by decide⟩ ?_
          refine g_iload dX12_feed_93 rfl ?_
          refine g_iconst dX12_feed_95 ⟨by decide, by decide⟩ ?_
          obtain ⟨hc, hF⟩ := hF
          refine g_irem dX12_feed_96 hc (by decide) ?_
          obtain ⟨hc, hF⟩ := hF
          refine g_imul dX12_feed_97 hc ?_
          obtain ⟨hc, hF⟩ := hF
          refine g_isub dX12_feed_98 hc ?_
          refine g_ishr dX12_feed_99 ?_
          refine g_sipush dX12_feed_100 ⟨by decide, by decide⟩ ?_
          refine g_iand dX12_feed_103 ?_
          obtain ⟨hc, hF⟩ := hF
          let D5 : g_D := g_up D 212 (D 208 5).toNat (g_and (g_shr v3 (24 - (8 * (v6 % 4)))) 255)
          have hF := hF D5 rfl
          refine g_iast dX12_feed_104 sh_212 hc.1 hc.2 ?_
          refine g_aload_n dX12_feed_105 rfl ?_
          refine g_dup dX12_feed_106 rfl ?_
          refine g_getI dX12_feed_107 fd_X12_126 sh_208 rfl ?_
          refine g_iconst dX12_feed_110 ⟨by decide, by decide⟩ ?_
          obtain ⟨hc, hF⟩ := hF
          refine g_iadd dX12_feed_111 hc ?_
          let D6 : g_D := g_up D5 208 5 ((D 208 5) + 1)
          have hF := hF D6 rfl
          refine g_put dX12_feed_112 fd_X12_126 (g_ftyI (C := RX12) (T := TX12) (N := 51) rfl rfl (by decide +kernel)) sh_208 rfl ?_
          obtain ⟨hc, hF⟩ := hF
          refine gw_iinc (L' := [some (g_R 208), some (g_I v1), some (g_I v2), some (g_I v3), some (g_I v4), some (g_I v5), some (g_I (v6 + 1)), some (g_I v3)]) dX12_feed_115 rfl hc (by decide) rfl ?_
          refine g_goto dX12_feed_118 rfl ?_
          exact g_forget (L' := [some (g_R 208), some (g_I v1), some (g_I v2), some (g_I v3), some (g_I v4), some (g_I v5), some (g_I (v6 + 1)), none]) ⟨rfl, ⟨rfl, ⟨rfl, ⟨rfl, ⟨rfl, ⟨rfl, ⟨rfl, trivial⟩⟩⟩⟩⟩⟩⟩ hF
      · have hF := hF.2 q
        refine g_iload_n dX12_feed_48 rfl ?_
        refine g_goto dX12_feed_49 rfl ?_
        refine gw_istore (L' := [some (g_R 208), some (g_I v1), some (g_I v2), some (g_I v3), some (g_I v4), some (g_I v5), some (g_I v6), some (g_I v2)]) dX12_feed_77 (by decide) rfl ?_
        refine g_aload_n dX12_feed_79 rfl ?_
        refine g_getR dX12_feed_80 fd_X12_24 sh_208 rfl ?_
        refine g_aload_n dX12_feed_83 rfl ?_
        refine g_getI dX12_feed_84 fd_X12_126 sh_208 rfl ?_
        refine g_iload dX12_feed_87 rfl ?_
        refine g_bipush dX12_feed_89 ⟨by decide, by decide⟩ ?_
        refine g_bipush dX12_feed_91 ⟨by decide, by decide⟩ ?_
        refine g_iload dX12_feed_93 rfl ?_
        refine g_iconst dX12_feed_95 ⟨by decide, by decide⟩ ?_
        obtain ⟨hc, hF⟩ := hF
        refine g_irem dX12_feed_96 hc (by decide) ?_
        obtain ⟨hc, hF⟩ := hF
        refine g_imul dX12_feed_97 hc ?_
        obtain ⟨hc, hF⟩ := hF
        refine g_isub dX12_feed_98 hc ?_
        refine g_ishr dX12_feed_99 ?_
        refine g_sipush dX12_feed_100 ⟨by decide, by decide⟩ ?_
        refine g_iand dX12_feed_103 ?_
        obtain ⟨hc, hF⟩ := hF
        let D7 : g_D := g_up D 212 (D 208 5).toNat (g_and (g_shr v2 (24 - (8 * (v6 % 4)))) 255)
        have hF := hF D7 rfl
        refine g_iast dX12_feed_104 sh_212 hc.1 hc.2 ?_
        refine g_aload_n dX12_feed_105 rfl ?_
        refine g_dup dX12_feed_106 rfl ?_
        refine g_getI dX12_feed_107 fd_X12_126 sh_208 rfl ?_
        refine g_iconst dX12_feed_110 ⟨by decide, by decide⟩ ?_
        obtain ⟨hc, hF⟩ := hF
        refine g_iadd dX12_feed_111 hc ?_
        let D8 : g_D := g_up D7 208 5 ((D 208 5) + 1)
        have hF := hF D8 rfl
        refine g_put dX12_feed_112 fd_X12_126 (g_ftyI (C := RX12) (T := TX12) (N := 51) rfl rfl (by decide +kernel)) sh_208 rfl ?_
        obtain ⟨hc, hF⟩ := hF
        refine gw_iinc (L' := [some (g_R 208), some (g_I v1), some (g_I v2), some (g_I v3), some (g_I v4), some (g_I v5), some (g_I (v6 + 1)), some (g_I v2)]) dX12_feed_115 rfl hc (by decide) rfl ?_
        refine g_goto dX12_feed_118 rfl ?_
        exact g_forget (L' := [some (g_R 208), some (g_I v1), some (g_I v2), some (g_I v3), some (g_I v4), some (g_I v5), some (g_I (v6 + 1)), none]) ⟨rfl, ⟨rfl, ⟨rfl, ⟨rfl, ⟨rfl, ⟨rfl, ⟨rfl, trivial⟩⟩⟩⟩⟩⟩⟩ hF
    · have hF := hF.2 q
      refine g_iload_n dX12_feed_37 rfl ?_
      refine g_goto dX12_feed_38 rfl ?_
      refine gw_istore (L' := [some (g_R 208), some (g_I v1), some (g_I v2), some (g_I v3), some (g_I v4), some (g_I v5), some (g_I v6), some (g_I v1)]) dX12_feed_77 (by decide) rfl ?_
      refine g_aload_n dX12_feed_79 rfl ?_
      refine g_getR dX12_feed_80 fd_X12_24 sh_208 rfl ?_
      refine g_aload_n dX12_feed_83 rfl ?_
      refine g_getI dX12_feed_84 fd_X12_126 sh_208 rfl ?_
      refine g_iload dX12_feed_87 rfl ?_
      refine g_bipush dX12_feed_89 ⟨by decide, by decide⟩ ?_
      refine g_bipush dX12_feed_91 ⟨by decide, by decide⟩ ?_
      refine g_iload dX12_feed_93 rfl ?_
      refine g_iconst dX12_feed_95 ⟨by decide, by decide⟩ ?_
      obtain ⟨hc, hF⟩ := hF
      refine g_irem dX12_feed_96 hc (by decide) ?_
      obtain ⟨hc, hF⟩ := hF
      refine g_imul dX12_feed_97 hc ?_
      obtain ⟨hc, hF⟩ := hF
      refine g_isub dX12_feed_98 hc ?_
      refine g_ishr dX12_feed_99 ?_
      refine g_sipush dX12_feed_100 ⟨by decide, by decide⟩ ?_
      refine g_iand dX12_feed_103 ?_
      obtain ⟨hc, hF⟩ := hF
      let D9 : g_D := g_up D 212 (D 208 5).toNat (g_and (g_shr v1 (24 - (8 * (v6 % 4)))) 255)
      have hF := hF D9 rfl
      refine g_iast dX12_feed_104 sh_212 hc.1 hc.2 ?_
      refine g_aload_n dX12_feed_105 rfl ?_
      refine g_dup dX12_feed_106 rfl ?_
      refine g_getI dX12_feed_107 fd_X12_126 sh_208 rfl ?_
      refine g_iconst dX12_feed_110 ⟨by decide, by decide⟩ ?_
      obtain ⟨hc, hF⟩ := hF
      refine g_iadd dX12_feed_111 hc ?_
      let D10 : g_D := g_up D9 208 5 ((D 208 5) + 1)
      have hF := hF D10 rfl
      refine g_put dX12_feed_112 fd_X12_126 (g_ftyI (C := RX12) (T := TX12) (N := 51) rfl rfl (by decide +kernel)) sh_208 rfl ?_
      obtain ⟨hc, hF⟩ := hF
      refine gw_iinc (L' := [some (g_R 208), some (g_I v1), some (g_I v2), some (g_I v3), some (g_I v4), some (g_I v5), some (g_I (v6 + 1)), some (g_I v1)]) dX12_feed_115 rfl hc (by decide) rfl ?_
      refine g_goto dX12_feed_118 rfl ?_
      exact g_forget (L' := [some (g_R 208), some (g_I v1), some (g_I v2), some (g_I v3), some (g_I v4), some (g_I v5), some (g_I (v6 + 1)), none]) ⟨rfl, ⟨rfl, ⟨rfl, ⟨rfl, ⟨rfl, ⟨rfl, ⟨rfl, trivial⟩⟩⟩⟩⟩⟩⟩ hF
theorem dX12_isAmongCopies_0 : decode cX12_isAmongCopies 0 = .ok (.iconst 0, 1) := by decide +kernel
theorem dX12_isAmongCopies_1 : decode cX12_isAmongCopies 1 = .ok (.istore_n 2, 1) := by decide +kernel
theorem dX12_isAmongCopies_2 : decode cX12_isAmongCopies 2 = .ok (.iload_n 2, 1) := by decide +kernel
theorem dX12_isAmongCopies_3 : decode cX12_isAmongCopies 3 = .ok (.aload_n 0, 1) := by decide +kernel
theorem dX12_isAmongCopies_4 : decode cX12_isAmongCopies 4 = .ok (.getfield 182, 3) := by decide +kernel
theorem dX12_isAmongCopies_7 : decode cX12_isAmongCopies 7 = .ok (.if_icmp .ge 38, 3) := by decide +kernel
theorem dX12_isAmongCopies_10 : decode cX12_isAmongCopies 10 = .ok (.aload_n 0, 1) := by decide +kernel
theorem dX12_isAmongCopies_11 : decode cX12_isAmongCopies 11 = .ok (.getfield 54, 3) := by decide +kernel
theorem dX12_isAmongCopies_14 : decode cX12_isAmongCopies 14 = .ok (.iload_n 2, 1) := by decide +kernel
theorem dX12_isAmongCopies_15 : decode cX12_isAmongCopies 15 = .ok (.aload_n 0, 1) := by decide +kernel
theorem dX12_isAmongCopies_16 : decode cX12_isAmongCopies 16 = .ok (.getfield 36, 3) := by decide +kernel
theorem dX12_isAmongCopies_19 : decode cX12_isAmongCopies 19 = .ok (.iload_n 2, 1) := by decide +kernel
theorem dX12_isAmongCopies_20 : decode cX12_isAmongCopies 20 = .ok (.iaload, 1) := by decide +kernel
theorem dX12_isAmongCopies_21 : decode cX12_isAmongCopies 21 = .ok (.iconst 1, 1) := by decide +kernel
theorem dX12_isAmongCopies_22 : decode cX12_isAmongCopies 22 = .ok (.if_icmp .ne 15, 3) := by decide +kernel
theorem dX12_isAmongCopies_25 : decode cX12_isAmongCopies 25 = .ok (.iload_n 1, 1) := by decide +kernel
theorem dX12_isAmongCopies_26 : decode cX12_isAmongCopies 26 = .ok (.iload_n 2, 1) := by decide +kernel
theorem dX12_isAmongCopies_27 : decode cX12_isAmongCopies 27 = .ok (.ishr, 1) := by decide +kernel
theorem dX12_isAmongCopies_28 : decode cX12_isAmongCopies 28 = .ok (.iconst 1, 1) := by decide +kernel
theorem dX12_isAmongCopies_29 : decode cX12_isAmongCopies 29 = .ok (.iand, 1) := by decide +kernel
theorem dX12_isAmongCopies_30 : decode cX12_isAmongCopies 30 = .ok (.ifCond .ne 7, 3) := by decide +kernel
theorem dX12_isAmongCopies_33 : decode cX12_isAmongCopies 33 = .ok (.iconst 1, 1) := by decide +kernel
theorem dX12_isAmongCopies_34 : decode cX12_isAmongCopies 34 = .ok (.goto 4, 3) := by decide +kernel
theorem dX12_isAmongCopies_37 : decode cX12_isAmongCopies 37 = .ok (.iconst 0, 1) := by decide +kernel
theorem dX12_isAmongCopies_38 : decode cX12_isAmongCopies 38 = .ok (.bastore, 1) := by decide +kernel
theorem dX12_isAmongCopies_39 : decode cX12_isAmongCopies 39 = .ok (.iinc 2 1, 3) := by decide +kernel
theorem dX12_isAmongCopies_42 : decode cX12_isAmongCopies 42 = .ok (.goto (-40), 3) := by decide +kernel
theorem dX12_isAmongCopies_45 : decode cX12_isAmongCopies 45 = .ok (.return_, 1) := by decide +kernel
abbrev k_X12_isAmongCopies (E : g_E) (l : Launch) (D : g_D) (v1 : Int) (K : g_D → Prop) : Prop := g_Kv E l m_X12_isAmongCopies 0 [g_R 208, g_I v1] g_SH D K
abbrev n_X12_isAmongCopies (E : g_E) (l : Launch) (D : g_D) (pc : Nat) (L : List (Option g_V)) (K : g_D → Prop) : Prop := g_N E l m_X12_isAmongCopies 0 pc L [] g_SH D (g_Rv g_SH K)
theorem s_X12_isAmongCopies {E : g_E} {l : Launch} {D : g_D} {K : g_D → Prop} {v1 : Int}  (hF : g_okD D → g_r v1 → n_X12_isAmongCopies E l D 2 [some (g_R 208), some (g_I v1), some (g_I 0)] K) : k_X12_isAmongCopies E l D v1 K := by
  refine g_enter (by decide) (Nat.le_of_ble_eq_true rfl) ?_
  show g_N E l m_X12_isAmongCopies 0 0 [some (g_R 208), some (g_I v1), none] [] g_SH D (g_Rv g_SH K)
  refine g_use (fun ok => ?_)
  have hF := hF ok.2.1 (ok.loc (i := 1) rfl)
  refine g_iconst dX12_isAmongCopies_0 ⟨by decide, by decide⟩ ?_
  refine gw_istore_n (L' := [some (g_R 208), some (g_I v1), some (g_I 0)]) dX12_isAmongCopies_1 (by decide) rfl ?_
  exact hF
theorem s_X12_isAmongCopies_2 {E : g_E} {l : Launch} {D : g_D} {K : g_D → Prop} {v1 : Int} {v2 : Int}  (hF : g_okD D → g_r v1 → g_r v2 → ((D 208 14) ≤ v2 → K D) ∧ (¬ (D 208 14) ≤ v2 → (0 ≤ v2 ∧ v2 < 40) ∧ ((¬ (D 216 v2.toNat) = 1 → (0 ≤ v2 ∧ v2 < 40) ∧ (∀ D1, D1 = g_up D 222 v2.toNat 0 → ((g_r (v2 + 1)) ∧ (n_X12_isAmongCopies E l D1 2 [some (g_R 208), some (g_I v1), some (g_I (v2 + 1))] K)))) ∧ ((D 216 v2.toNat) = 1 → (¬ (g_and (g_shr v1 v2) 1) = 0 → (0 ≤ v2 ∧ v2 < 40) ∧ (∀ D2, D2 = g_up D 222 v2.toNat 0 → ((g_r (v2 + 1)) ∧ (n_X12_isAmongCopies E l D2 2 [some (g_R 208), some (g_I v1), some (g_I (v2 + 1))] K)))) ∧ ((g_and (g_shr v1 v2) 1) = 0 → (0 ≤ v2 ∧ v2 < 40) ∧ (∀ D3, D3 = g_up D 222 v2.toNat 1 → ((g_r (v2 + 1)) ∧ (n_X12_isAmongCopies E l D3 2 [some (g_R 208), some (g_I v1), some (g_I (v2 + 1))] K)))))))) : n_X12_isAmongCopies E l D 2 [some (g_R 208), some (g_I v1), some (g_I v2)] K := by
  refine g_use (fun ok => ?_)
  have hF := hF ok.2.1 (ok.loc (i := 1) rfl) (ok.loc (i := 2) rfl)
  refine g_iload_n dX12_isAmongCopies_2 rfl ?_
  refine g_aload_n dX12_isAmongCopies_3 rfl ?_
  refine g_getI dX12_isAmongCopies_4 fd_X12_182 sh_208 rfl ?_
  refine g_cge dX12_isAmongCopies_7 rfl (fun q => ?_) (fun q => ?_)
  · have hF := hF.1 q
    exact gw_vret dX12_isAmongCopies_45 rfl hF
  · have hF := hF.2 q
    refine g_aload_n dX12_isAmongCopies_10 rfl ?_
    refine g_getR dX12_isAmongCopies_11 fd_X12_54 sh_208 rfl ?_
    refine g_iload_n dX12_isAmongCopies_14 rfl ?_
    refine g_aload_n dX12_isAmongCopies_15 rfl ?_
    refine g_getR dX12_isAmongCopies_16 fd_X12_36 sh_208 rfl ?_
    refine g_iload_n dX12_isAmongCopies_19 rfl ?_
    obtain ⟨hc, hF⟩ := hF
    refine g_iald dX12_isAmongCopies_20 sh_216 hc.1 hc.2 ?_
    refine g_iconst dX12_isAmongCopies_21 ⟨by decide, by decide⟩ ?_
    refine g_cne dX12_isAmongCopies_22 rfl (fun q => ?_) (fun q => ?_)
    · have hF := hF.1 q
      refine g_iconst dX12_isAmongCopies_37 ⟨by decide, by decide⟩ ?_
      obtain ⟨hc, hF⟩ := hF
      let D1 : g_D := g_up D 222 v2.toNat 0
      have hF := hF D1 rfl
      refine g_bast dX12_isAmongCopies_38 sh_222 hc.1 hc.2 (by decide) ?_
      obtain ⟨hc, hF⟩ := hF
      refine gw_iinc (L' := [some (g_R 208), some (g_I v1), some (g_I (v2 + 1))]) dX12_isAmongCopies_39 rfl hc (by decide) rfl ?_
      refine g_goto dX12_isAmongCopies_42 rfl ?_
      exact hF
    · have hF := hF.2 q
      refine g_iload_n dX12_isAmongCopies_25 rfl ?_
      refine g_iload_n dX12_isAmongCopies_26 rfl ?_
      refine g_ishr dX12_isAmongCopies_27 ?_
      refine g_iconst dX12_isAmongCopies_28 ⟨by decide, by decide⟩ ?_
      refine g_iand dX12_isAmongCopies_29 ?_
      refine g_ifne dX12_isAmongCopies_30 rfl (fun q => ?_) (fun q => ?_)
      · have hF := hF.1 q
        refine g_iconst dX12_isAmongCopies_37 ⟨by decide, by decide⟩ ?_
        obtain ⟨hc, hF⟩ := hF
        let D2 : g_D := g_up D 222 v2.toNat 0
        have hF := hF D2 rfl
        refine g_bast dX12_isAmongCopies_38 sh_222 hc.1 hc.2 (by decide) ?_
        obtain ⟨hc, hF⟩ := hF
        refine gw_iinc (L' := [some (g_R 208), some (g_I v1), some (g_I (v2 + 1))]) dX12_isAmongCopies_39 rfl hc (by decide) rfl ?_
        refine g_goto dX12_isAmongCopies_42 rfl ?_
        exact hF
      · have hF := hF.2 q
        refine g_iconst dX12_isAmongCopies_33 ⟨by decide, by decide⟩ ?_
        refine g_goto dX12_isAmongCopies_34 rfl ?_
        obtain ⟨hc, hF⟩ := hF
        let D3 : g_D := g_up D 222 v2.toNat 1
        have hF := hF D3 rfl
        refine g_bast dX12_isAmongCopies_38 sh_222 hc.1 hc.2 (by decide) ?_
        obtain ⟨hc, hF⟩ := hF
        refine gw_iinc (L' := [some (g_R 208), some (g_I v1), some (g_I (v2 + 1))]) dX12_isAmongCopies_39 rfl hc (by decide) rfl ?_
        refine g_goto dX12_isAmongCopies_42 rfl ?_
        exact hF
theorem dX12_laysRinged_0 : decode cX12_laysRinged 0 = .ok (.aload_n 0, 1) := by decide +kernel
theorem dX12_laysRinged_1 : decode cX12_laysRinged 1 = .ok (.iconst 0, 1) := by decide +kernel
theorem dX12_laysRinged_2 : decode cX12_laysRinged 2 = .ok (.invokevirtual 209, 3) := by decide +kernel
theorem dX12_laysRinged_5 : decode cX12_laysRinged 5 = .ok (.iconst 0, 1) := by decide +kernel
theorem dX12_laysRinged_6 : decode cX12_laysRinged 6 = .ok (.istore_n 1, 1) := by decide +kernel
theorem dX12_laysRinged_7 : decode cX12_laysRinged 7 = .ok (.iconst 0, 1) := by decide +kernel
theorem dX12_laysRinged_8 : decode cX12_laysRinged 8 = .ok (.istore_n 2, 1) := by decide +kernel
theorem dX12_laysRinged_9 : decode cX12_laysRinged 9 = .ok (.iload_n 2, 1) := by decide +kernel
theorem dX12_laysRinged_10 : decode cX12_laysRinged 10 = .ok (.aload_n 0, 1) := by decide +kernel
theorem dX12_laysRinged_11 : decode cX12_laysRinged 11 = .ok (.getfield 182, 3) := by decide +kernel
theorem dX12_laysRinged_14 : decode cX12_laysRinged 14 = .ok (.if_icmp .ge 30, 3) := by decide +kernel
theorem dX12_laysRinged_17 : decode cX12_laysRinged 17 = .ok (.aload_n 0, 1) := by decide +kernel
theorem dX12_laysRinged_18 : decode cX12_laysRinged 18 = .ok (.iload_n 2, 1) := by decide +kernel
theorem dX12_laysRinged_19 : decode cX12_laysRinged 19 = .ok (.invokevirtual 212, 3) := by decide +kernel
theorem dX12_laysRinged_22 : decode cX12_laysRinged 22 = .ok (.ifCond .ne 6, 3) := by decide +kernel
theorem dX12_laysRinged_25 : decode cX12_laysRinged 25 = .ok (.goto 13, 3) := by decide +kernel
theorem dX12_laysRinged_28 : decode cX12_laysRinged 28 = .ok (.aload_n 0, 1) := by decide +kernel
theorem dX12_laysRinged_29 : decode cX12_laysRinged 29 = .ok (.getfield 57, 3) := by decide +kernel
theorem dX12_laysRinged_32 : decode cX12_laysRinged 32 = .ok (.iload_n 1, 1) := by decide +kernel
theorem dX12_laysRinged_33 : decode cX12_laysRinged 33 = .ok (.iload_n 2, 1) := by decide +kernel
theorem dX12_laysRinged_34 : decode cX12_laysRinged 34 = .ok (.iastore, 1) := by decide +kernel
theorem dX12_laysRinged_35 : decode cX12_laysRinged 35 = .ok (.iinc 1 1, 3) := by decide +kernel
theorem dX12_laysRinged_38 : decode cX12_laysRinged 38 = .ok (.iinc 2 1, 3) := by decide +kernel
theorem dX12_laysRinged_41 : decode cX12_laysRinged 41 = .ok (.goto (-32), 3) := by decide +kernel
theorem dX12_laysRinged_44 : decode cX12_laysRinged 44 = .ok (.iload_n 1, 1) := by decide +kernel
theorem dX12_laysRinged_45 : decode cX12_laysRinged 45 = .ok (.ireturn, 1) := by decide +kernel
abbrev k_X12_laysRinged (E : g_E) (l : Launch) (D : g_D) (K : Int → g_D → Prop) : Prop := g_Ki E l m_X12_laysRinged 2 [g_R 208] g_SH D K
abbrev n_X12_laysRinged (E : g_E) (l : Launch) (D : g_D) (pc : Nat) (L : List (Option g_V)) (K : Int → g_D → Prop) : Prop := g_N E l m_X12_laysRinged 2 pc L [] g_SH D (g_Ri g_SH K)
theorem s_X12_laysRinged {E : g_E} {l : Launch} {D : g_D} {K : Int → g_D → Prop}   (hF : g_okD D → k_X12_isAmongCopies E l D 0 (fun D1 => n_X12_laysRinged E l D1 9 [some (g_R 208), some (g_I 0), some (g_I 0)] K)) : k_X12_laysRinged E l D K := by
  refine g_enter (by decide) (Nat.le_of_ble_eq_true rfl) ?_
  show g_N E l m_X12_laysRinged 2 0 [some (g_R 208), none, none] [] g_SH D (g_Ri g_SH K)
  refine g_use (fun ok => ?_)
  have hF := hF ok.2.1
  refine g_aload_n dX12_laysRinged_0 rfl ?_
  refine g_iconst dX12_laysRinged_1 ⟨by decide, by decide⟩ ?_
  refine gw_cVv (b := 208) (As := [g_I 0]) (rest := []) dX12_laysRinged_2 mv_X12_209 sh_208 rfl (Nat.le_of_ble_eq_true rfl) (by decide) rfl hF ?_
  intro D1 hF
  refine g_iconst dX12_laysRinged_5 ⟨by decide, by decide⟩ ?_
  refine gw_istore_n (L' := [some (g_R 208), some (g_I 0), none]) dX12_laysRinged_6 (by decide) rfl ?_
  refine g_iconst dX12_laysRinged_7 ⟨by decide, by decide⟩ ?_
  refine gw_istore_n (L' := [some (g_R 208), some (g_I 0), some (g_I 0)]) dX12_laysRinged_8 (by decide) rfl ?_
  exact hF
theorem s_X12_laysRinged_9 {E : g_E} {l : Launch} {D : g_D} {K : Int → g_D → Prop} {v1 : Int} {v2 : Int}  (hF : g_okD D → g_r v1 → g_r v2 → ((D 208 14) ≤ v2 → K v1 D) ∧ (¬ (D 208 14) ≤ v2 → k_X12_isRinged E l D v2 (fun x1 D1 => g_r x1 → (¬ x1 = 0 → (0 ≤ v1 ∧ v1 < 40) ∧ (∀ D2, D2 = g_up D1 223 v1.toNat v2 → ((g_r (v1 + 1)) ∧ ((g_r (v2 + 1)) ∧ (n_X12_laysRinged E l D2 9 [some (g_R 208), some (g_I (v1 + 1)), some (g_I (v2 + 1))] K))))) ∧ (x1 = 0 → (g_r (v2 + 1)) ∧ (n_X12_laysRinged E l D1 9 [some (g_R 208), some (g_I v1), some (g_I (v2 + 1))] K))))) : n_X12_laysRinged E l D 9 [some (g_R 208), some (g_I v1), some (g_I v2)] K := by
  refine g_use (fun ok => ?_)
  have hF := hF ok.2.1 (ok.loc (i := 1) rfl) (ok.loc (i := 2) rfl)
  refine g_iload_n dX12_laysRinged_9 rfl ?_
  refine g_aload_n dX12_laysRinged_10 rfl ?_
  refine g_getI dX12_laysRinged_11 fd_X12_182 sh_208 rfl ?_
  refine g_cge dX12_laysRinged_14 rfl (fun q => ?_) (fun q => ?_)
  · have hF := hF.1 q
    refine g_iload_n dX12_laysRinged_44 rfl ?_
    exact gw_iret dX12_laysRinged_45 rfl hF
  · have hF := hF.2 q
    refine g_aload_n dX12_laysRinged_17 rfl ?_
    refine g_iload_n dX12_laysRinged_18 rfl ?_
    refine gw_cVi (b := 208) (As := [g_I v2]) (rest := []) dX12_laysRinged_19 mv_X12_212 sh_208 rfl (Nat.le_of_ble_eq_true rfl) (by decide) rfl hF ?_
    intro x1 D1 hx1 hF
    have hF := hF hx1
    refine g_ifne dX12_laysRinged_22 rfl (fun q => ?_) (fun q => ?_)
    · have hF := hF.1 q
      refine g_aload_n dX12_laysRinged_28 rfl ?_
      refine g_getR dX12_laysRinged_29 fd_X12_57 sh_208 rfl ?_
      refine g_iload_n dX12_laysRinged_32 rfl ?_
      refine g_iload_n dX12_laysRinged_33 rfl ?_
      obtain ⟨hc, hF⟩ := hF
      let D2 : g_D := g_up D1 223 v1.toNat v2
      have hF := hF D2 rfl
      refine g_iast dX12_laysRinged_34 sh_223 hc.1 hc.2 ?_
      obtain ⟨hc, hF⟩ := hF
      refine gw_iinc (L' := [some (g_R 208), some (g_I (v1 + 1)), some (g_I v2)]) dX12_laysRinged_35 rfl hc (by decide) rfl ?_
      obtain ⟨hc, hF⟩ := hF
      refine gw_iinc (L' := [some (g_R 208), some (g_I (v1 + 1)), some (g_I (v2 + 1))]) dX12_laysRinged_38 rfl hc (by decide) rfl ?_
      refine g_goto dX12_laysRinged_41 rfl ?_
      exact hF
    · have hF := hF.2 q
      refine g_goto dX12_laysRinged_25 rfl ?_
      obtain ⟨hc, hF⟩ := hF
      refine gw_iinc (L' := [some (g_R 208), some (g_I v1), some (g_I (v2 + 1))]) dX12_laysRinged_38 rfl hc (by decide) rfl ?_
      refine g_goto dX12_laysRinged_41 rfl ?_
      exact hF
theorem dX12_isWithoutRing_0 : decode cX12_isWithoutRing 0 = .ok (.aload_n 0, 1) := by decide +kernel
theorem dX12_isWithoutRing_1 : decode cX12_isWithoutRing 1 = .ok (.iload_n 1, 1) := by decide +kernel
theorem dX12_isWithoutRing_2 : decode cX12_isWithoutRing 2 = .ok (.invokevirtual 209, 3) := by decide +kernel
theorem dX12_isWithoutRing_5 : decode cX12_isWithoutRing 5 = .ok (.iconst 1, 1) := by decide +kernel
theorem dX12_isWithoutRing_6 : decode cX12_isWithoutRing 6 = .ok (.istore_n 2, 1) := by decide +kernel
theorem dX12_isWithoutRing_7 : decode cX12_isWithoutRing 7 = .ok (.iconst 0, 1) := by decide +kernel
theorem dX12_isWithoutRing_8 : decode cX12_isWithoutRing 8 = .ok (.istore_n 3, 1) := by decide +kernel
theorem dX12_isWithoutRing_9 : decode cX12_isWithoutRing 9 = .ok (.iconst 0, 1) := by decide +kernel
theorem dX12_isWithoutRing_10 : decode cX12_isWithoutRing 10 = .ok (.istore 4, 2) := by decide +kernel
theorem dX12_isWithoutRing_12 : decode cX12_isWithoutRing 12 = .ok (.iload 4, 2) := by decide +kernel
theorem dX12_isWithoutRing_14 : decode cX12_isWithoutRing 14 = .ok (.aload_n 0, 1) := by decide +kernel
theorem dX12_isWithoutRing_15 : decode cX12_isWithoutRing 15 = .ok (.getfield 182, 3) := by decide +kernel
theorem dX12_isWithoutRing_18 : decode cX12_isWithoutRing 18 = .ok (.if_icmp .ge 27, 3) := by decide +kernel
theorem dX12_isWithoutRing_21 : decode cX12_isWithoutRing 21 = .ok (.iload_n 3, 1) := by decide +kernel
theorem dX12_isWithoutRing_22 : decode cX12_isWithoutRing 22 = .ok (.aload_n 0, 1) := by decide +kernel
theorem dX12_isWithoutRing_23 : decode cX12_isWithoutRing 23 = .ok (.getfield 54, 3) := by decide +kernel
theorem dX12_isWithoutRing_26 : decode cX12_isWithoutRing 26 = .ok (.iload 4, 2) := by decide +kernel
theorem dX12_isWithoutRing_28 : decode cX12_isWithoutRing 28 = .ok (.baload, 1) := by decide +kernel
theorem dX12_isWithoutRing_29 : decode cX12_isWithoutRing 29 = .ok (.ifCond .eq 7, 3) := by decide +kernel
theorem dX12_isWithoutRing_32 : decode cX12_isWithoutRing 32 = .ok (.iconst 1, 1) := by decide +kernel
theorem dX12_isWithoutRing_33 : decode cX12_isWithoutRing 33 = .ok (.goto 4, 3) := by decide +kernel
theorem dX12_isWithoutRing_36 : decode cX12_isWithoutRing 36 = .ok (.iconst 0, 1) := by decide +kernel
theorem dX12_isWithoutRing_37 : decode cX12_isWithoutRing 37 = .ok (.iadd, 1) := by decide +kernel
theorem dX12_isWithoutRing_38 : decode cX12_isWithoutRing 38 = .ok (.istore_n 3, 1) := by decide +kernel
theorem dX12_isWithoutRing_39 : decode cX12_isWithoutRing 39 = .ok (.iinc 4 1, 3) := by decide +kernel
theorem dX12_isWithoutRing_42 : decode cX12_isWithoutRing 42 = .ok (.goto (-30), 3) := by decide +kernel
theorem dX12_isWithoutRing_45 : decode cX12_isWithoutRing 45 = .ok (.iload_n 2, 1) := by decide +kernel
theorem dX12_isWithoutRing_46 : decode cX12_isWithoutRing 46 = .ok (.ifCond .eq 117, 3) := by decide +kernel
theorem dX12_isWithoutRing_49 : decode cX12_isWithoutRing 49 = .ok (.iconst 0, 1) := by decide +kernel
theorem dX12_isWithoutRing_50 : decode cX12_isWithoutRing 50 = .ok (.istore_n 2, 1) := by decide +kernel
theorem dX12_isWithoutRing_51 : decode cX12_isWithoutRing 51 = .ok (.iconst 0, 1) := by decide +kernel
theorem dX12_isWithoutRing_52 : decode cX12_isWithoutRing 52 = .ok (.istore 4, 2) := by decide +kernel
theorem dX12_isWithoutRing_54 : decode cX12_isWithoutRing 54 = .ok (.iload 4, 2) := by decide +kernel
theorem dX12_isWithoutRing_56 : decode cX12_isWithoutRing 56 = .ok (.aload_n 0, 1) := by decide +kernel
theorem dX12_isWithoutRing_57 : decode cX12_isWithoutRing 57 = .ok (.getfield 182, 3) := by decide +kernel
theorem dX12_isWithoutRing_60 : decode cX12_isWithoutRing 60 = .ok (.if_icmp .ge 100, 3) := by decide +kernel
theorem dX12_isWithoutRing_63 : decode cX12_isWithoutRing 63 = .ok (.aload_n 0, 1) := by decide +kernel
theorem dX12_isWithoutRing_64 : decode cX12_isWithoutRing 64 = .ok (.getfield 54, 3) := by decide +kernel
theorem dX12_isWithoutRing_67 : decode cX12_isWithoutRing 67 = .ok (.iload 4, 2) := by decide +kernel
theorem dX12_isWithoutRing_69 : decode cX12_isWithoutRing 69 = .ok (.baload, 1) := by decide +kernel
theorem dX12_isWithoutRing_70 : decode cX12_isWithoutRing 70 = .ok (.ifCond .ne 6, 3) := by decide +kernel
theorem dX12_isWithoutRing_73 : decode cX12_isWithoutRing 73 = .ok (.goto 81, 3) := by decide +kernel
theorem dX12_isWithoutRing_76 : decode cX12_isWithoutRing 76 = .ok (.iconst 1, 1) := by decide +kernel
theorem dX12_isWithoutRing_77 : decode cX12_isWithoutRing 77 = .ok (.istore 5, 2) := by decide +kernel
theorem dX12_isWithoutRing_79 : decode cX12_isWithoutRing 79 = .ok (.iconst 0, 1) := by decide +kernel
theorem dX12_isWithoutRing_80 : decode cX12_isWithoutRing 80 = .ok (.istore 6, 2) := by decide +kernel
theorem dX12_isWithoutRing_82 : decode cX12_isWithoutRing 82 = .ok (.iload 6, 2) := by decide +kernel
theorem dX12_isWithoutRing_84 : decode cX12_isWithoutRing 84 = .ok (.aload_n 0, 1) := by decide +kernel
theorem dX12_isWithoutRing_85 : decode cX12_isWithoutRing 85 = .ok (.getfield 182, 3) := by decide +kernel
theorem dX12_isWithoutRing_88 : decode cX12_isWithoutRing 88 = .ok (.if_icmp .ge 45, 3) := by decide +kernel
theorem dX12_isWithoutRing_91 : decode cX12_isWithoutRing 91 = .ok (.iload 5, 2) := by decide +kernel
theorem dX12_isWithoutRing_93 : decode cX12_isWithoutRing 93 = .ok (.aload_n 0, 1) := by decide +kernel
theorem dX12_isWithoutRing_94 : decode cX12_isWithoutRing 94 = .ok (.getfield 54, 3) := by decide +kernel
theorem dX12_isWithoutRing_97 : decode cX12_isWithoutRing 97 = .ok (.iload 6, 2) := by decide +kernel
theorem dX12_isWithoutRing_99 : decode cX12_isWithoutRing 99 = .ok (.baload, 1) := by decide +kernel
theorem dX12_isWithoutRing_100 : decode cX12_isWithoutRing 100 = .ok (.ifCond .eq 19, 3) := by decide +kernel
theorem dX12_isWithoutRing_103 : decode cX12_isWithoutRing 103 = .ok (.aload_n 0, 1) := by decide +kernel
theorem dX12_isWithoutRing_104 : decode cX12_isWithoutRing 104 = .ok (.getfield 48, 3) := by decide +kernel
theorem dX12_isWithoutRing_107 : decode cX12_isWithoutRing 107 = .ok (.bipush 40, 2) := by decide +kernel
theorem dX12_isWithoutRing_109 : decode cX12_isWithoutRing 109 = .ok (.iload 6, 2) := by decide +kernel
theorem dX12_isWithoutRing_111 : decode cX12_isWithoutRing 111 = .ok (.imul, 1) := by decide +kernel
theorem dX12_isWithoutRing_112 : decode cX12_isWithoutRing 112 = .ok (.iload 4, 2) := by decide +kernel
theorem dX12_isWithoutRing_114 : decode cX12_isWithoutRing 114 = .ok (.iadd, 1) := by decide +kernel
theorem dX12_isWithoutRing_115 : decode cX12_isWithoutRing 115 = .ok (.baload, 1) := by decide +kernel
theorem dX12_isWithoutRing_116 : decode cX12_isWithoutRing 116 = .ok (.ifCond .ne 7, 3) := by decide +kernel
theorem dX12_isWithoutRing_119 : decode cX12_isWithoutRing 119 = .ok (.iconst 1, 1) := by decide +kernel
theorem dX12_isWithoutRing_120 : decode cX12_isWithoutRing 120 = .ok (.goto 4, 3) := by decide +kernel
theorem dX12_isWithoutRing_123 : decode cX12_isWithoutRing 123 = .ok (.iconst 0, 1) := by decide +kernel
theorem dX12_isWithoutRing_124 : decode cX12_isWithoutRing 124 = .ok (.iand, 1) := by decide +kernel
theorem dX12_isWithoutRing_125 : decode cX12_isWithoutRing 125 = .ok (.istore 5, 2) := by decide +kernel
theorem dX12_isWithoutRing_127 : decode cX12_isWithoutRing 127 = .ok (.iinc 6 1, 3) := by decide +kernel
theorem dX12_isWithoutRing_130 : decode cX12_isWithoutRing 130 = .ok (.goto (-48), 3) := by decide +kernel
theorem dX12_isWithoutRing_133 : decode cX12_isWithoutRing 133 = .ok (.iload 5, 2) := by decide +kernel
theorem dX12_isWithoutRing_135 : decode cX12_isWithoutRing 135 = .ok (.ifCond .ne 6, 3) := by decide +kernel
theorem dX12_isWithoutRing_138 : decode cX12_isWithoutRing 138 = .ok (.goto 16, 3) := by decide +kernel
theorem dX12_isWithoutRing_141 : decode cX12_isWithoutRing 141 = .ok (.aload_n 0, 1) := by decide +kernel
theorem dX12_isWithoutRing_142 : decode cX12_isWithoutRing 142 = .ok (.getfield 54, 3) := by decide +kernel
theorem dX12_isWithoutRing_145 : decode cX12_isWithoutRing 145 = .ok (.iload 4, 2) := by decide +kernel
theorem dX12_isWithoutRing_147 : decode cX12_isWithoutRing 147 = .ok (.iconst 0, 1) := by decide +kernel
theorem dX12_isWithoutRing_148 : decode cX12_isWithoutRing 148 = .ok (.bastore, 1) := by decide +kernel
theorem dX12_isWithoutRing_149 : decode cX12_isWithoutRing 149 = .ok (.iinc 3 (-1), 3) := by decide +kernel
theorem dX12_isWithoutRing_152 : decode cX12_isWithoutRing 152 = .ok (.iconst 1, 1) := by decide +kernel
theorem dX12_isWithoutRing_153 : decode cX12_isWithoutRing 153 = .ok (.istore_n 2, 1) := by decide +kernel
theorem dX12_isWithoutRing_154 : decode cX12_isWithoutRing 154 = .ok (.iinc 4 1, 3) := by decide +kernel
theorem dX12_isWithoutRing_157 : decode cX12_isWithoutRing 157 = .ok (.goto (-103), 3) := by decide +kernel
theorem dX12_isWithoutRing_160 : decode cX12_isWithoutRing 160 = .ok (.goto (-115), 3) := by decide +kernel
theorem dX12_isWithoutRing_163 : decode cX12_isWithoutRing 163 = .ok (.iload_n 3, 1) := by decide +kernel
theorem dX12_isWithoutRing_164 : decode cX12_isWithoutRing 164 = .ok (.ifCond .ne 7, 3) := by decide +kernel
theorem dX12_isWithoutRing_167 : decode cX12_isWithoutRing 167 = .ok (.iconst 1, 1) := by decide +kernel
theorem dX12_isWithoutRing_168 : decode cX12_isWithoutRing 168 = .ok (.goto 4, 3) := by decide +kernel
theorem dX12_isWithoutRing_171 : decode cX12_isWithoutRing 171 = .ok (.iconst 0, 1) := by decide +kernel
theorem dX12_isWithoutRing_172 : decode cX12_isWithoutRing 172 = .ok (.ireturn, 1) := by decide +kernel
abbrev k_X12_isWithoutRing (E : g_E) (l : Launch) (D : g_D) (v1 : Int) (K : Int → g_D → Prop) : Prop := g_Ki E l m_X12_isWithoutRing 1 [g_R 208, g_I v1] g_SH D K
abbrev n_X12_isWithoutRing (E : g_E) (l : Launch) (D : g_D) (pc : Nat) (L : List (Option g_V)) (K : Int → g_D → Prop) : Prop := g_N E l m_X12_isWithoutRing 1 pc L [] g_SH D (g_Ri g_SH K)
theorem s_X12_isWithoutRing {E : g_E} {l : Launch} {D : g_D} {K : Int → g_D → Prop} {v1 : Int}  (hF : g_okD D → g_r v1 → k_X12_isAmongCopies E l D v1 (fun D1 => n_X12_isWithoutRing E l D1 12 [some (g_R 208), none, some (g_I 1), some (g_I 0), some (g_I 0), none, none] K)) : k_X12_isWithoutRing E l D v1 K := by
  refine g_enter (by decide) (Nat.le_of_ble_eq_true rfl) ?_
  show g_N E l m_X12_isWithoutRing 1 0 [some (g_R 208), some (g_I v1), none, none, none, none, none] [] g_SH D (g_Ri g_SH K)
  refine g_use (fun ok => ?_)
  have hF := hF ok.2.1 (ok.loc (i := 1) rfl)
  refine g_aload_n dX12_isWithoutRing_0 rfl ?_
  refine g_iload_n dX12_isWithoutRing_1 rfl ?_
  refine gw_cVv (b := 208) (As := [g_I v1]) (rest := []) dX12_isWithoutRing_2 mv_X12_209 sh_208 rfl (Nat.le_of_ble_eq_true rfl) (by decide) rfl hF ?_
  intro D1 hF
  refine g_iconst dX12_isWithoutRing_5 ⟨by decide, by decide⟩ ?_
  refine gw_istore_n (L' := [some (g_R 208), some (g_I v1), some (g_I 1), none, none, none, none]) dX12_isWithoutRing_6 (by decide) rfl ?_
  refine g_iconst dX12_isWithoutRing_7 ⟨by decide, by decide⟩ ?_
  refine gw_istore_n (L' := [some (g_R 208), some (g_I v1), some (g_I 1), some (g_I 0), none, none, none]) dX12_isWithoutRing_8 (by decide) rfl ?_
  refine g_iconst dX12_isWithoutRing_9 ⟨by decide, by decide⟩ ?_
  refine gw_istore (L' := [some (g_R 208), some (g_I v1), some (g_I 1), some (g_I 0), some (g_I 0), none, none]) dX12_isWithoutRing_10 (by decide) rfl ?_
  exact g_forget (L' := [some (g_R 208), none, some (g_I 1), some (g_I 0), some (g_I 0), none, none]) ⟨rfl, ⟨rfl, ⟨rfl, ⟨rfl, trivial⟩⟩⟩⟩ hF
theorem s_X12_isWithoutRing_12 {E : g_E} {l : Launch} {D : g_D} {K : Int → g_D → Prop} {v2 : Int} {v3 : Int} {v4 : Int}  (hF : g_okD D → g_r v2 → g_r v3 → g_r v4 → ((D 208 14) ≤ v4 → n_X12_isWithoutRing E l D 45 [some (g_R 208), none, some (g_I v2), some (g_I v3), none, none, none] K) ∧ (¬ (D 208 14) ≤ v4 → (0 ≤ v4 ∧ v4 < 40) ∧ (((D 222 v4.toNat) = 0 → (g_r (v3 + 0)) ∧ ((g_r (v4 + 1)) ∧ (n_X12_isWithoutRing E l D 12 [some (g_R 208), none, some (g_I v2), some (g_I (v3 + 0)), some (g_I (v4 + 1)), none, none] K))) ∧ (¬ (D 222 v4.toNat) = 0 → (g_r (v3 + 1)) ∧ ((g_r (v4 + 1)) ∧ (n_X12_isWithoutRing E l D 12 [some (g_R 208), none, some (g_I v2), some (g_I (v3 + 1)), some (g_I (v4 + 1)), none, none] K)))))) : n_X12_isWithoutRing E l D 12 [some (g_R 208), none, some (g_I v2), some (g_I v3), some (g_I v4), none, none] K := by
  refine g_use (fun ok => ?_)
  have hF := hF ok.2.1 (ok.loc (i := 2) rfl) (ok.loc (i := 3) rfl) (ok.loc (i := 4) rfl)
  refine g_iload dX12_isWithoutRing_12 rfl ?_
  refine g_aload_n dX12_isWithoutRing_14 rfl ?_
  refine g_getI dX12_isWithoutRing_15 fd_X12_182 sh_208 rfl ?_
  refine g_cge dX12_isWithoutRing_18 rfl (fun q => ?_) (fun q => ?_)
  · have hF := hF.1 q
    exact g_forget (L' := [some (g_R 208), none, some (g_I v2), some (g_I v3), none, none, none]) ⟨rfl, ⟨rfl, ⟨rfl, trivial⟩⟩⟩ hF
  · have hF := hF.2 q
    refine g_iload_n dX12_isWithoutRing_21 rfl ?_
    refine g_aload_n dX12_isWithoutRing_22 rfl ?_
    refine g_getR dX12_isWithoutRing_23 fd_X12_54 sh_208 rfl ?_
    refine g_iload dX12_isWithoutRing_26 rfl ?_
    obtain ⟨hc, hF⟩ := hF
    refine g_bald dX12_isWithoutRing_28 sh_222 hc.1 hc.2 ?_
    refine g_ifeq dX12_isWithoutRing_29 rfl (fun q => ?_) (fun q => ?_)
    · have hF := hF.1 q
      refine g_iconst dX12_isWithoutRing_36 ⟨by decide, by decide⟩ ?_
      obtain ⟨hc, hF⟩ := hF
      refine g_iadd dX12_isWithoutRing_37 hc ?_
      refine gw_istore_n (L' := [some (g_R 208), none, some (g_I v2), some (g_I (v3 + 0)), some (g_I v4), none, none]) dX12_isWithoutRing_38 (by decide) rfl ?_
      obtain ⟨hc, hF⟩ := hF
      refine gw_iinc (L' := [some (g_R 208), none, some (g_I v2), some (g_I (v3 + 0)), some (g_I (v4 + 1)), none, none]) dX12_isWithoutRing_39 rfl hc (by decide) rfl ?_
      refine g_goto dX12_isWithoutRing_42 rfl ?_
      exact hF
    · have hF := hF.2 q
      refine g_iconst dX12_isWithoutRing_32 ⟨by decide, by decide⟩ ?_
      refine g_goto dX12_isWithoutRing_33 rfl ?_
      obtain ⟨hc, hF⟩ := hF
      refine g_iadd dX12_isWithoutRing_37 hc ?_
      refine gw_istore_n (L' := [some (g_R 208), none, some (g_I v2), some (g_I (v3 + 1)), some (g_I v4), none, none]) dX12_isWithoutRing_38 (by decide) rfl ?_
      obtain ⟨hc, hF⟩ := hF
      refine gw_iinc (L' := [some (g_R 208), none, some (g_I v2), some (g_I (v3 + 1)), some (g_I (v4 + 1)), none, none]) dX12_isWithoutRing_39 rfl hc (by decide) rfl ?_
      refine g_goto dX12_isWithoutRing_42 rfl ?_
      exact hF
theorem s_X12_isWithoutRing_45 {E : g_E} {l : Launch} {D : g_D} {K : Int → g_D → Prop} {v2 : Int} {v3 : Int}  (hF : g_okD D → g_r v2 → g_r v3 → (v2 = 0 → (¬ v3 = 0 → K 0 D) ∧ (v3 = 0 → K 1 D)) ∧ (¬ v2 = 0 → n_X12_isWithoutRing E l D 54 [some (g_R 208), none, some (g_I 0), some (g_I v3), some (g_I 0), none, none] K)) : n_X12_isWithoutRing E l D 45 [some (g_R 208), none, some (g_I v2), some (g_I v3), none, none, none] K := by
  refine g_use (fun ok => ?_)
  have hF := hF ok.2.1 (ok.loc (i := 2) rfl) (ok.loc (i := 3) rfl)
  refine g_iload_n dX12_isWithoutRing_45 rfl ?_
  refine g_ifeq dX12_isWithoutRing_46 rfl (fun q => ?_) (fun q => ?_)
  · have hF := hF.1 q
    refine g_iload_n dX12_isWithoutRing_163 rfl ?_
    refine g_ifne dX12_isWithoutRing_164 rfl (fun q => ?_) (fun q => ?_)
    · have hF := hF.1 q
      refine g_iconst dX12_isWithoutRing_171 ⟨by decide, by decide⟩ ?_
      exact gw_zret dX12_isWithoutRing_172 rfl (by decide) hF
    · have hF := hF.2 q
      refine g_iconst dX12_isWithoutRing_167 ⟨by decide, by decide⟩ ?_
      refine g_goto dX12_isWithoutRing_168 rfl ?_
      exact gw_zret dX12_isWithoutRing_172 rfl (by decide) hF
  · have hF := hF.2 q
    refine g_iconst dX12_isWithoutRing_49 ⟨by decide, by decide⟩ ?_
    refine gw_istore_n (L' := [some (g_R 208), none, some (g_I 0), some (g_I v3), none, none, none]) dX12_isWithoutRing_50 (by decide) rfl ?_
    refine g_iconst dX12_isWithoutRing_51 ⟨by decide, by decide⟩ ?_
    refine gw_istore (L' := [some (g_R 208), none, some (g_I 0), some (g_I v3), some (g_I 0), none, none]) dX12_isWithoutRing_52 (by decide) rfl ?_
    exact hF
theorem s_X12_isWithoutRing_54 {E : g_E} {l : Launch} {D : g_D} {K : Int → g_D → Prop} {v2 : Int} {v3 : Int} {v4 : Int}  (hF : g_okD D → g_r v2 → g_r v3 → g_r v4 → ((D 208 14) ≤ v4 → n_X12_isWithoutRing E l D 45 [some (g_R 208), none, some (g_I v2), some (g_I v3), none, none, none] K) ∧ (¬ (D 208 14) ≤ v4 → (0 ≤ v4 ∧ v4 < 40) ∧ ((¬ (D 222 v4.toNat) = 0 → n_X12_isWithoutRing E l D 82 [some (g_R 208), none, some (g_I v2), some (g_I v3), some (g_I v4), some (g_I 1), some (g_I 0)] K) ∧ ((D 222 v4.toNat) = 0 → (g_r (v4 + 1)) ∧ (n_X12_isWithoutRing E l D 54 [some (g_R 208), none, some (g_I v2), some (g_I v3), some (g_I (v4 + 1)), none, none] K))))) : n_X12_isWithoutRing E l D 54 [some (g_R 208), none, some (g_I v2), some (g_I v3), some (g_I v4), none, none] K := by
  refine g_use (fun ok => ?_)
  have hF := hF ok.2.1 (ok.loc (i := 2) rfl) (ok.loc (i := 3) rfl) (ok.loc (i := 4) rfl)
  refine g_iload dX12_isWithoutRing_54 rfl ?_
  refine g_aload_n dX12_isWithoutRing_56 rfl ?_
  refine g_getI dX12_isWithoutRing_57 fd_X12_182 sh_208 rfl ?_
  refine g_cge dX12_isWithoutRing_60 rfl (fun q => ?_) (fun q => ?_)
  · have hF := hF.1 q
    refine g_goto dX12_isWithoutRing_160 rfl ?_
    exact g_forget (L' := [some (g_R 208), none, some (g_I v2), some (g_I v3), none, none, none]) ⟨rfl, ⟨rfl, ⟨rfl, trivial⟩⟩⟩ hF
  · have hF := hF.2 q
    refine g_aload_n dX12_isWithoutRing_63 rfl ?_
    refine g_getR dX12_isWithoutRing_64 fd_X12_54 sh_208 rfl ?_
    refine g_iload dX12_isWithoutRing_67 rfl ?_
    obtain ⟨hc, hF⟩ := hF
    refine g_bald dX12_isWithoutRing_69 sh_222 hc.1 hc.2 ?_
    refine g_ifne dX12_isWithoutRing_70 rfl (fun q => ?_) (fun q => ?_)
    · have hF := hF.1 q
      refine g_iconst dX12_isWithoutRing_76 ⟨by decide, by decide⟩ ?_
      refine gw_istore (L' := [some (g_R 208), none, some (g_I v2), some (g_I v3), some (g_I v4), some (g_I 1), none]) dX12_isWithoutRing_77 (by decide) rfl ?_
      refine g_iconst dX12_isWithoutRing_79 ⟨by decide, by decide⟩ ?_
      refine gw_istore (L' := [some (g_R 208), none, some (g_I v2), some (g_I v3), some (g_I v4), some (g_I 1), some (g_I 0)]) dX12_isWithoutRing_80 (by decide) rfl ?_
      exact hF
    · have hF := hF.2 q
      refine g_goto dX12_isWithoutRing_73 rfl ?_
      obtain ⟨hc, hF⟩ := hF
      refine gw_iinc (L' := [some (g_R 208), none, some (g_I v2), some (g_I v3), some (g_I (v4 + 1)), none, none]) dX12_isWithoutRing_154 rfl hc (by decide) rfl ?_
      refine g_goto dX12_isWithoutRing_157 rfl ?_
      exact hF
theorem s_X12_isWithoutRing_82 {E : g_E} {l : Launch} {D : g_D} {K : Int → g_D → Prop} {v2 : Int} {v3 : Int} {v4 : Int} {v5 : Int} {v6 : Int}  (hF : g_okD D → g_r v2 → g_r v3 → g_r v4 → g_r v5 → g_r v6 → ((D 208 14) ≤ v6 → (¬ v5 = 0 → (0 ≤ v4 ∧ v4 < 40) ∧ (∀ D1, D1 = g_up D 222 v4.toNat 0 → ((g_r (v3 + (-1))) ∧ ((g_r (v4 + 1)) ∧ (n_X12_isWithoutRing E l D1 54 [some (g_R 208), none, some (g_I 1), some (g_I (v3 + (-1))), some (g_I (v4 + 1)), none, none] K))))) ∧ (v5 = 0 → (g_r (v4 + 1)) ∧ (n_X12_isWithoutRing E l D 54 [some (g_R 208), none, some (g_I v2), some (g_I v3), some (g_I (v4 + 1)), none, none] K))) ∧ (¬ (D 208 14) ≤ v6 → (0 ≤ v6 ∧ v6 < 40) ∧ (((D 222 v6.toNat) = 0 → (g_r (v6 + 1)) ∧ (n_X12_isWithoutRing E l D 82 [some (g_R 208), none, some (g_I v2), some (g_I v3), some (g_I v4), some (g_I (g_and v5 1)), some (g_I (v6 + 1))] K)) ∧ (¬ (D 222 v6.toNat) = 0 → (g_r (40 * v6)) ∧ ((g_r ((40 * v6) + v4)) ∧ ((0 ≤ ((40 * v6) + v4) ∧ ((40 * v6) + v4) < 1600) ∧ ((¬ (D 220 ((40 * v6) + v4).toNat) = 0 → (g_r (v6 + 1)) ∧ (n_X12_isWithoutRing E l D 82 [some (g_R 208), none, some (g_I v2), some (g_I v3), some (g_I v4), some (g_I (g_and v5 0)), some (g_I (v6 + 1))] K)) ∧ ((D 220 ((40 * v6) + v4).toNat) = 0 → (g_r (v6 + 1)) ∧ (n_X12_isWithoutRing E l D 82 [some (g_R 208), none, some (g_I v2), some (g_I v3), some (g_I v4), some (g_I (g_and v5 1)), some (g_I (v6 + 1))] K))))))))) : n_X12_isWithoutRing E l D 82 [some (g_R 208), none, some (g_I v2), some (g_I v3), some (g_I v4), some (g_I v5), some (g_I v6)] K := by
  refine g_use (fun ok => ?_)
  have hF := hF ok.2.1 (ok.loc (i := 2) rfl) (ok.loc (i := 3) rfl) (ok.loc (i := 4) rfl) (ok.loc (i := 5) rfl) (ok.loc (i := 6) rfl)
  refine g_iload dX12_isWithoutRing_82 rfl ?_
  refine g_aload_n dX12_isWithoutRing_84 rfl ?_
  refine g_getI dX12_isWithoutRing_85 fd_X12_182 sh_208 rfl ?_
  refine g_cge dX12_isWithoutRing_88 rfl (fun q => ?_) (fun q => ?_)
  · have hF := hF.1 q
    refine g_iload dX12_isWithoutRing_133 rfl ?_
    refine g_ifne dX12_isWithoutRing_135 rfl (fun q => ?_) (fun q => ?_)
    · have hF := hF.1 q
      refine g_aload_n dX12_isWithoutRing_141 rfl ?_
      refine g_getR dX12_isWithoutRing_142 fd_X12_54 sh_208 rfl ?_
      refine g_iload dX12_isWithoutRing_145 rfl ?_
      refine g_iconst dX12_isWithoutRing_147 ⟨by decide, by decide⟩ ?_
      obtain ⟨hc, hF⟩ := hF
      let D1 : g_D := g_up D 222 v4.toNat 0
      have hF := hF D1 rfl
      refine g_bast dX12_isWithoutRing_148 sh_222 hc.1 hc.2 (by decide) ?_
      obtain ⟨hc, hF⟩ := hF
      refine gw_iinc (L' := [some (g_R 208), none, some (g_I v2), some (g_I (v3 + (-1))), some (g_I v4), some (g_I v5), some (g_I v6)]) dX12_isWithoutRing_149 rfl hc (by decide) rfl ?_
      refine g_iconst dX12_isWithoutRing_152 ⟨by decide, by decide⟩ ?_
      refine gw_istore_n (L' := [some (g_R 208), none, some (g_I 1), some (g_I (v3 + (-1))), some (g_I v4), some (g_I v5), some (g_I v6)]) dX12_isWithoutRing_153 (by decide) rfl ?_
      obtain ⟨hc, hF⟩ := hF
      refine gw_iinc (L' := [some (g_R 208), none, some (g_I 1), some (g_I (v3 + (-1))), some (g_I (v4 + 1)), some (g_I v5), some (g_I v6)]) dX12_isWithoutRing_154 rfl hc (by decide) rfl ?_
      refine g_goto dX12_isWithoutRing_157 rfl ?_
      exact g_forget (L' := [some (g_R 208), none, some (g_I 1), some (g_I (v3 + (-1))), some (g_I (v4 + 1)), none, none]) ⟨rfl, ⟨rfl, ⟨rfl, ⟨rfl, trivial⟩⟩⟩⟩ hF
    · have hF := hF.2 q
      refine g_goto dX12_isWithoutRing_138 rfl ?_
      obtain ⟨hc, hF⟩ := hF
      refine gw_iinc (L' := [some (g_R 208), none, some (g_I v2), some (g_I v3), some (g_I (v4 + 1)), some (g_I v5), some (g_I v6)]) dX12_isWithoutRing_154 rfl hc (by decide) rfl ?_
      refine g_goto dX12_isWithoutRing_157 rfl ?_
      exact g_forget (L' := [some (g_R 208), none, some (g_I v2), some (g_I v3), some (g_I (v4 + 1)), none, none]) ⟨rfl, ⟨rfl, ⟨rfl, ⟨rfl, trivial⟩⟩⟩⟩ hF
  · have hF := hF.2 q
    refine g_iload dX12_isWithoutRing_91 rfl ?_
    refine g_aload_n dX12_isWithoutRing_93 rfl ?_
    refine g_getR dX12_isWithoutRing_94 fd_X12_54 sh_208 rfl ?_
    refine g_iload dX12_isWithoutRing_97 rfl ?_
    obtain ⟨hc, hF⟩ := hF
    refine g_bald dX12_isWithoutRing_99 sh_222 hc.1 hc.2 ?_
    refine g_ifeq dX12_isWithoutRing_100 rfl (fun q => ?_) (fun q => ?_)
    · have hF := hF.1 q
      refine g_iconst dX12_isWithoutRing_119 ⟨by decide, by decide⟩ ?_
      refine g_goto dX12_isWithoutRing_120 rfl ?_
      refine g_iand dX12_isWithoutRing_124 ?_
      refine gw_istore (L' := [some (g_R 208), none, some (g_I v2), some (g_I v3), some (g_I v4), some (g_I (g_and v5 1)), some (g_I v6)]) dX12_isWithoutRing_125 (by decide) rfl ?_
      obtain ⟨hc, hF⟩ := hF
      refine gw_iinc (L' := [some (g_R 208), none, some (g_I v2), some (g_I v3), some (g_I v4), some (g_I (g_and v5 1)), some (g_I (v6 + 1))]) dX12_isWithoutRing_127 rfl hc (by decide) rfl ?_
      refine g_goto dX12_isWithoutRing_130 rfl ?_
      exact hF
    · have hF := hF.2 q
      refine g_aload_n dX12_isWithoutRing_103 rfl ?_
      refine g_getR dX12_isWithoutRing_104 fd_X12_48 sh_208 rfl ?_
      refine g_bipush dX12_isWithoutRing_107 ⟨by decide, by decide⟩ ?_
      refine g_iload dX12_isWithoutRing_109 rfl ?_
      obtain ⟨hc, hF⟩ := hF
      refine g_imul dX12_isWithoutRing_111 hc ?_
      refine g_iload dX12_isWithoutRing_112 rfl ?_
      obtain ⟨hc, hF⟩ := hF
      refine g_iadd dX12_isWithoutRing_114 hc ?_
      obtain ⟨hc, hF⟩ := hF
      refine g_bald dX12_isWithoutRing_115 sh_220 hc.1 hc.2 ?_
      refine g_ifne dX12_isWithoutRing_116 rfl (fun q => ?_) (fun q => ?_)
      · have hF := hF.1 q
        refine g_iconst dX12_isWithoutRing_123 ⟨by decide, by decide⟩ ?_
        refine g_iand dX12_isWithoutRing_124 ?_
        refine gw_istore (L' := [some (g_R 208), none, some (g_I v2), some (g_I v3), some (g_I v4), some (g_I (g_and v5 0)), some (g_I v6)]) dX12_isWithoutRing_125 (by decide) rfl ?_
        obtain ⟨hc, hF⟩ := hF
        refine gw_iinc (L' := [some (g_R 208), none, some (g_I v2), some (g_I v3), some (g_I v4), some (g_I (g_and v5 0)), some (g_I (v6 + 1))]) dX12_isWithoutRing_127 rfl hc (by decide) rfl ?_
        refine g_goto dX12_isWithoutRing_130 rfl ?_
        exact hF
      · have hF := hF.2 q
        refine g_iconst dX12_isWithoutRing_119 ⟨by decide, by decide⟩ ?_
        refine g_goto dX12_isWithoutRing_120 rfl ?_
        refine g_iand dX12_isWithoutRing_124 ?_
        refine gw_istore (L' := [some (g_R 208), none, some (g_I v2), some (g_I v3), some (g_I v4), some (g_I (g_and v5 1)), some (g_I v6)]) dX12_isWithoutRing_125 (by decide) rfl ?_
        obtain ⟨hc, hF⟩ := hF
        refine gw_iinc (L' := [some (g_R 208), none, some (g_I v2), some (g_I v3), some (g_I v4), some (g_I (g_and v5 1)), some (g_I (v6 + 1))]) dX12_isWithoutRing_127 rfl hc (by decide) rfl ?_
        refine g_goto dX12_isWithoutRing_130 rfl ?_
        exact hF
theorem dX12_fewest_0 : decode cX12_fewest 0 = .ok (.aload_n 0, 1) := by decide +kernel
theorem dX12_fewest_1 : decode cX12_fewest 1 = .ok (.iconst 0, 1) := by decide +kernel
theorem dX12_fewest_2 : decode cX12_fewest 2 = .ok (.putfield 1, 3) := by decide +kernel
theorem dX12_fewest_5 : decode cX12_fewest 5 = .ok (.iload_n 1, 1) := by decide +kernel
theorem dX12_fewest_6 : decode cX12_fewest 6 = .ok (.i2l, 1) := by decide +kernel
theorem dX12_fewest_7 : decode cX12_fewest 7 = .ok (.lconst 0, 1) := by decide +kernel
theorem dX12_fewest_8 : decode cX12_fewest 8 = .ok (.ldc2_w 143, 3) := by decide +kernel
theorem dX12_fewest_11 : decode cX12_fewest 11 = .ok (.invokestatic 131, 3) := by decide +kernel
theorem dX12_fewest_14 : decode cX12_fewest 14 = .ok (.ifCond .ne 6, 3) := by decide +kernel
theorem dX12_fewest_17 : decode cX12_fewest 17 = .ok (.bipush (-2), 2) := by decide +kernel
theorem dX12_fewest_19 : decode cX12_fewest 19 = .ok (.ireturn, 1) := by decide +kernel
theorem dX12_fewest_20 : decode cX12_fewest 20 = .ok (.aload_n 0, 1) := by decide +kernel
theorem dX12_fewest_21 : decode cX12_fewest 21 = .ok (.invokevirtual 193, 3) := by decide +kernel
theorem dX12_fewest_24 : decode cX12_fewest 24 = .ok (.aload_n 0, 1) := by decide +kernel
theorem dX12_fewest_25 : decode cX12_fewest 25 = .ok (.invokevirtual 215, 3) := by decide +kernel
theorem dX12_fewest_28 : decode cX12_fewest 28 = .ok (.istore_n 2, 1) := by decide +kernel
theorem dX12_fewest_29 : decode cX12_fewest 29 = .ok (.iconst 0, 1) := by decide +kernel
theorem dX12_fewest_30 : decode cX12_fewest 30 = .ok (.istore_n 3, 1) := by decide +kernel
theorem dX12_fewest_31 : decode cX12_fewest 31 = .ok (.ldc 178, 2) := by decide +kernel
theorem dX12_fewest_33 : decode cX12_fewest 33 = .ok (.istore 4, 2) := by decide +kernel
theorem dX12_fewest_35 : decode cX12_fewest 35 = .ok (.iconst 0, 1) := by decide +kernel
theorem dX12_fewest_36 : decode cX12_fewest 36 = .ok (.istore 5, 2) := by decide +kernel
theorem dX12_fewest_38 : decode cX12_fewest 38 = .ok (.iload 5, 2) := by decide +kernel
theorem dX12_fewest_40 : decode cX12_fewest 40 = .ok (.iconst 1, 1) := by decide +kernel
theorem dX12_fewest_41 : decode cX12_fewest 41 = .ok (.iload_n 2, 1) := by decide +kernel
theorem dX12_fewest_42 : decode cX12_fewest 42 = .ok (.ishl, 1) := by decide +kernel
theorem dX12_fewest_43 : decode cX12_fewest 43 = .ok (.if_icmp .ge 109, 3) := by decide +kernel
theorem dX12_fewest_46 : decode cX12_fewest 46 = .ok (.iconst 0, 1) := by decide +kernel
theorem dX12_fewest_47 : decode cX12_fewest 47 = .ok (.istore 6, 2) := by decide +kernel
theorem dX12_fewest_49 : decode cX12_fewest 49 = .ok (.iconst 0, 1) := by decide +kernel
theorem dX12_fewest_50 : decode cX12_fewest 50 = .ok (.istore 7, 2) := by decide +kernel
theorem dX12_fewest_52 : decode cX12_fewest 52 = .ok (.iconst 0, 1) := by decide +kernel
theorem dX12_fewest_53 : decode cX12_fewest 53 = .ok (.istore 8, 2) := by decide +kernel
theorem dX12_fewest_55 : decode cX12_fewest 55 = .ok (.iload 8, 2) := by decide +kernel
theorem dX12_fewest_57 : decode cX12_fewest 57 = .ok (.iload_n 2, 1) := by decide +kernel
theorem dX12_fewest_58 : decode cX12_fewest 58 = .ok (.if_icmp .ge 62, 3) := by decide +kernel
theorem dX12_fewest_61 : decode cX12_fewest 61 = .ok (.iload 5, 2) := by decide +kernel
theorem dX12_fewest_63 : decode cX12_fewest 63 = .ok (.iload 8, 2) := by decide +kernel
theorem dX12_fewest_65 : decode cX12_fewest 65 = .ok (.ishr, 1) := by decide +kernel
theorem dX12_fewest_66 : decode cX12_fewest 66 = .ok (.iconst 1, 1) := by decide +kernel
theorem dX12_fewest_67 : decode cX12_fewest 67 = .ok (.iand, 1) := by decide +kernel
theorem dX12_fewest_68 : decode cX12_fewest 68 = .ok (.ifCond .ne 6, 3) := by decide +kernel
theorem dX12_fewest_71 : decode cX12_fewest 71 = .ok (.goto 43, 3) := by decide +kernel
theorem dX12_fewest_74 : decode cX12_fewest 74 = .ok (.iload 6, 2) := by decide +kernel
theorem dX12_fewest_76 : decode cX12_fewest 76 = .ok (.iconst 1, 1) := by decide +kernel
theorem dX12_fewest_77 : decode cX12_fewest 77 = .ok (.aload_n 0, 1) := by decide +kernel
theorem dX12_fewest_78 : decode cX12_fewest 78 = .ok (.getfield 57, 3) := by decide +kernel
theorem dX12_fewest_81 : decode cX12_fewest 81 = .ok (.iload 8, 2) := by decide +kernel
theorem dX12_fewest_83 : decode cX12_fewest 83 = .ok (.iaload, 1) := by decide +kernel
theorem dX12_fewest_84 : decode cX12_fewest 84 = .ok (.ishl, 1) := by decide +kernel
theorem dX12_fewest_85 : decode cX12_fewest 85 = .ok (.ior, 1) := by decide +kernel
theorem dX12_fewest_86 : decode cX12_fewest 86 = .ok (.istore 6, 2) := by decide +kernel
theorem dX12_fewest_88 : decode cX12_fewest 88 = .ok (.iload 7, 2) := by decide +kernel
theorem dX12_fewest_90 : decode cX12_fewest 90 = .ok (.iload_n 1, 1) := by decide +kernel
theorem dX12_fewest_91 : decode cX12_fewest 91 = .ok (.iconst 2, 1) := by decide +kernel
theorem dX12_fewest_92 : decode cX12_fewest 92 = .ok (.if_icmp .ge 7, 3) := by decide +kernel
theorem dX12_fewest_95 : decode cX12_fewest 95 = .ok (.iconst 1, 1) := by decide +kernel
theorem dX12_fewest_96 : decode cX12_fewest 96 = .ok (.goto 15, 3) := by decide +kernel
theorem dX12_fewest_99 : decode cX12_fewest 99 = .ok (.aload_n 0, 1) := by decide +kernel
theorem dX12_fewest_100 : decode cX12_fewest 100 = .ok (.getfield 45, 3) := by decide +kernel
theorem dX12_fewest_103 : decode cX12_fewest 103 = .ok (.aload_n 0, 1) := by decide +kernel
theorem dX12_fewest_104 : decode cX12_fewest 104 = .ok (.getfield 57, 3) := by decide +kernel
theorem dX12_fewest_107 : decode cX12_fewest 107 = .ok (.iload 8, 2) := by decide +kernel
theorem dX12_fewest_109 : decode cX12_fewest 109 = .ok (.iaload, 1) := by decide +kernel
theorem dX12_fewest_110 : decode cX12_fewest 110 = .ok (.iaload, 1) := by decide +kernel
theorem dX12_fewest_111 : decode cX12_fewest 111 = .ok (.iadd, 1) := by decide +kernel
theorem dX12_fewest_112 : decode cX12_fewest 112 = .ok (.istore 7, 2) := by decide +kernel
theorem dX12_fewest_114 : decode cX12_fewest 114 = .ok (.iinc 8 1, 3) := by decide +kernel
theorem dX12_fewest_117 : decode cX12_fewest 117 = .ok (.goto (-62), 3) := by decide +kernel
theorem dX12_fewest_120 : decode cX12_fewest 120 = .ok (.iload 7, 2) := by decide +kernel
theorem dX12_fewest_122 : decode cX12_fewest 122 = .ok (.iload 4, 2) := by decide +kernel
theorem dX12_fewest_124 : decode cX12_fewest 124 = .ok (.if_icmp .ge 22, 3) := by decide +kernel
theorem dX12_fewest_127 : decode cX12_fewest 127 = .ok (.aload_n 0, 1) := by decide +kernel
theorem dX12_fewest_128 : decode cX12_fewest 128 = .ok (.iload 6, 2) := by decide +kernel
theorem dX12_fewest_130 : decode cX12_fewest 130 = .ok (.invokevirtual 219, 3) := by decide +kernel
theorem dX12_fewest_133 : decode cX12_fewest 133 = .ok (.ifCond .ne 6, 3) := by decide +kernel
theorem dX12_fewest_136 : decode cX12_fewest 136 = .ok (.goto 10, 3) := by decide +kernel
theorem dX12_fewest_139 : decode cX12_fewest 139 = .ok (.iload 7, 2) := by decide +kernel
theorem dX12_fewest_141 : decode cX12_fewest 141 = .ok (.istore 4, 2) := by decide +kernel
theorem dX12_fewest_143 : decode cX12_fewest 143 = .ok (.iload 6, 2) := by decide +kernel
theorem dX12_fewest_145 : decode cX12_fewest 145 = .ok (.istore_n 3, 1) := by decide +kernel
theorem dX12_fewest_146 : decode cX12_fewest 146 = .ok (.iinc 5 1, 3) := by decide +kernel
theorem dX12_fewest_149 : decode cX12_fewest 149 = .ok (.goto (-111), 3) := by decide +kernel
theorem dX12_fewest_152 : decode cX12_fewest 152 = .ok (.iload_n 1, 1) := by decide +kernel
theorem dX12_fewest_153 : decode cX12_fewest 153 = .ok (.iconst 2, 1) := by decide +kernel
theorem dX12_fewest_154 : decode cX12_fewest 154 = .ok (.irem, 1) := by decide +kernel
theorem dX12_fewest_155 : decode cX12_fewest 155 = .ok (.ifCond .ne 8, 3) := by decide +kernel
theorem dX12_fewest_158 : decode cX12_fewest 158 = .ok (.iload 4, 2) := by decide +kernel
theorem dX12_fewest_160 : decode cX12_fewest 160 = .ok (.goto 4, 3) := by decide +kernel
theorem dX12_fewest_163 : decode cX12_fewest 163 = .ok (.iload_n 3, 1) := by decide +kernel
theorem dX12_fewest_164 : decode cX12_fewest 164 = .ok (.ireturn, 1) := by decide +kernel
abbrev k_X12_fewest (E : g_E) (l : Launch) (D : g_D) (v1 : Int) (K : Int → g_D → Prop) : Prop := g_Ki E l m_X12_fewest 4 [g_R 208, g_I v1] g_SH D K
abbrev n_X12_fewest (E : g_E) (l : Launch) (D : g_D) (pc : Nat) (L : List (Option g_V)) (K : Int → g_D → Prop) : Prop := g_N E l m_X12_fewest 4 pc L [] g_SH D (g_Ri g_SH K)
theorem s_X12_fewest {E : g_E} {l : Launch} {D : g_D} {K : Int → g_D → Prop} {v1 : Int}  (hF : g_okD D → g_r v1 → ∀ D1, D1 = g_up D 208 0 0 → (k_X12_within E l g_SH D1 v1 0 3 (fun x2 D2 => g_r x2 → (¬ x2 = 0 → k_X12_laysCommands E l D2 (fun D3 => k_X12_laysRinged E l D3 (fun x4 D4 => g_r x4 → n_X12_fewest E l D4 38 [some (g_R 208), some (g_I v1), some (g_I x4), some (g_I 0), some (g_I 268435456), some (g_I 0), none, none, none] K))) ∧ (x2 = 0 → K (-2) D2)))) : k_X12_fewest E l D v1 K := by
  refine g_enter (by decide) (Nat.le_of_ble_eq_true rfl) ?_
  show g_N E l m_X12_fewest 4 0 [some (g_R 208), some (g_I v1), none, none, none, none, none, none, none] [] g_SH D (g_Ri g_SH K)
  refine g_use (fun ok => ?_)
  have hF := hF ok.2.1 (ok.loc (i := 1) rfl)
  refine g_aload_n dX12_fewest_0 rfl ?_
  refine g_iconst dX12_fewest_1 ⟨by decide, by decide⟩ ?_
  let D1 : g_D := g_up D 208 0 0
  have hF := hF D1 rfl
  refine g_put dX12_fewest_2 fd_X12_1 (g_ftyI (C := RX12) (T := TX12) (N := 51) rfl rfl (by decide +kernel)) sh_208 rfl ?_
  refine g_iload_n dX12_fewest_5 rfl ?_
  refine g_i2l dX12_fewest_6 ?_
  refine g_lconst dX12_fewest_7 ?_
  refine g_ldc2 dX12_fewest_8 ⟨by decide, by decide⟩ kl_X12_143 ?_
  refine gw_cSi (As := [g_J v1, g_J 0, g_J 3]) (rest := []) dX12_fewest_11 ms_X12_131 rfl (Nat.le_of_ble_eq_true rfl) (by decide) rfl hF ?_
  intro x2 D2 hx2 hF
  have hF := hF hx2
  refine g_ifne dX12_fewest_14 rfl (fun q => ?_) (fun q => ?_)
  · have hF := hF.1 q
    refine g_aload_n dX12_fewest_20 rfl ?_
    refine gw_cVv (b := 208) (As := []) (rest := []) dX12_fewest_21 mv_X12_193 sh_208 rfl (Nat.le_of_ble_eq_true rfl) (by decide) rfl hF ?_
    intro D3 hF
    refine g_aload_n dX12_fewest_24 rfl ?_
    refine gw_cVi (b := 208) (As := []) (rest := []) dX12_fewest_25 mv_X12_215 sh_208 rfl (Nat.le_of_ble_eq_true rfl) (by decide) rfl hF ?_
    intro x4 D4 hx4 hF
    have hF := hF hx4
    refine gw_istore_n (L' := [some (g_R 208), some (g_I v1), some (g_I x4), none, none, none, none, none, none]) dX12_fewest_28 (by decide) rfl ?_
    refine g_iconst dX12_fewest_29 ⟨by decide, by decide⟩ ?_
    refine gw_istore_n (L' := [some (g_R 208), some (g_I v1), some (g_I x4), some (g_I 0), none, none, none, none, none]) dX12_fewest_30 (by decide) rfl ?_
    refine g_ldc dX12_fewest_31 ⟨by decide, by decide⟩ kc_X12_178 ?_
    refine gw_istore (L' := [some (g_R 208), some (g_I v1), some (g_I x4), some (g_I 0), some (g_I 268435456), none, none, none, none]) dX12_fewest_33 (by decide) rfl ?_
    refine g_iconst dX12_fewest_35 ⟨by decide, by decide⟩ ?_
    refine gw_istore (L' := [some (g_R 208), some (g_I v1), some (g_I x4), some (g_I 0), some (g_I 268435456), some (g_I 0), none, none, none]) dX12_fewest_36 (by decide) rfl ?_
    exact hF
  · have hF := hF.2 q
    refine g_bipush dX12_fewest_17 ⟨by decide, by decide⟩ ?_
    exact gw_iret dX12_fewest_19 rfl hF
theorem s_X12_fewest_38 {E : g_E} {l : Launch} {D : g_D} {K : Int → g_D → Prop} {v1 : Int} {v2 : Int} {v3 : Int} {v4 : Int} {v5 : Int}  (hF : g_okD D → g_r v1 → g_r v2 → g_r v3 → g_r v4 → g_r v5 → ((g_shl 1 v2) ≤ v5 → (0 ≤ v1) ∧ ((¬ (v1 % 2) = 0 → K v3 D) ∧ ((v1 % 2) = 0 → K v4 D))) ∧ (¬ (g_shl 1 v2) ≤ v5 → n_X12_fewest E l D 55 [some (g_R 208), some (g_I v1), some (g_I v2), some (g_I v3), some (g_I v4), some (g_I v5), some (g_I 0), some (g_I 0), some (g_I 0)] K)) : n_X12_fewest E l D 38 [some (g_R 208), some (g_I v1), some (g_I v2), some (g_I v3), some (g_I v4), some (g_I v5), none, none, none] K := by
  refine g_use (fun ok => ?_)
  have hF := hF ok.2.1 (ok.loc (i := 1) rfl) (ok.loc (i := 2) rfl) (ok.loc (i := 3) rfl) (ok.loc (i := 4) rfl) (ok.loc (i := 5) rfl)
  refine g_iload dX12_fewest_38 rfl ?_
  refine g_iconst dX12_fewest_40 ⟨by decide, by decide⟩ ?_
  refine g_iload_n dX12_fewest_41 rfl ?_
  refine g_ishl dX12_fewest_42 ?_
  refine g_cge dX12_fewest_43 rfl (fun q => ?_) (fun q => ?_)
  · have hF := hF.1 q
    refine g_iload_n dX12_fewest_152 rfl ?_
    refine g_iconst dX12_fewest_153 ⟨by decide, by decide⟩ ?_
    obtain ⟨hc, hF⟩ := hF
    refine g_irem dX12_fewest_154 hc (by decide) ?_
    refine g_ifne dX12_fewest_155 rfl (fun q => ?_) (fun q => ?_)
    · have hF := hF.1 q
      refine g_iload_n dX12_fewest_163 rfl ?_
      exact gw_iret dX12_fewest_164 rfl hF
    · have hF := hF.2 q
      refine g_iload dX12_fewest_158 rfl ?_
      refine g_goto dX12_fewest_160 rfl ?_
      exact gw_iret dX12_fewest_164 rfl hF
  · have hF := hF.2 q
    refine g_iconst dX12_fewest_46 ⟨by decide, by decide⟩ ?_
    refine gw_istore (L' := [some (g_R 208), some (g_I v1), some (g_I v2), some (g_I v3), some (g_I v4), some (g_I v5), some (g_I 0), none, none]) dX12_fewest_47 (by decide) rfl ?_
    refine g_iconst dX12_fewest_49 ⟨by decide, by decide⟩ ?_
    refine gw_istore (L' := [some (g_R 208), some (g_I v1), some (g_I v2), some (g_I v3), some (g_I v4), some (g_I v5), some (g_I 0), some (g_I 0), none]) dX12_fewest_50 (by decide) rfl ?_
    refine g_iconst dX12_fewest_52 ⟨by decide, by decide⟩ ?_
    refine gw_istore (L' := [some (g_R 208), some (g_I v1), some (g_I v2), some (g_I v3), some (g_I v4), some (g_I v5), some (g_I 0), some (g_I 0), some (g_I 0)]) dX12_fewest_53 (by decide) rfl ?_
    exact hF
theorem s_X12_fewest_55 {E : g_E} {l : Launch} {D : g_D} {K : Int → g_D → Prop} {v1 : Int} {v2 : Int} {v3 : Int} {v4 : Int} {v5 : Int} {v6 : Int} {v7 : Int} {v8 : Int}  (hF : g_okD D → g_r v1 → g_r v2 → g_r v3 → g_r v4 → g_r v5 → g_r v6 → g_r v7 → g_r v8 → (v2 ≤ v8 → (v4 ≤ v7 → (g_r (v5 + 1)) ∧ (n_X12_fewest E l D 38 [some (g_R 208), some (g_I v1), some (g_I v2), some (g_I v3), some (g_I v4), some (g_I (v5 + 1)), none, none, none] K)) ∧ (¬ v4 ≤ v7 → k_X12_isWithoutRing E l D v6 (fun x1 D1 => g_r x1 → (¬ x1 = 0 → (g_r (v5 + 1)) ∧ (n_X12_fewest E l D1 38 [some (g_R 208), some (g_I v1), some (g_I v2), some (g_I v6), some (g_I v7), some (g_I (v5 + 1)), none, none, none] K)) ∧ (x1 = 0 → (g_r (v5 + 1)) ∧ (n_X12_fewest E l D1 38 [some (g_R 208), some (g_I v1), some (g_I v2), some (g_I v3), some (g_I v4), some (g_I (v5 + 1)), none, none, none] K))))) ∧ (¬ v2 ≤ v8 → (¬ (g_and (g_shr v5 v8) 1) = 0 → (0 ≤ v8 ∧ v8 < 40) ∧ ((2 ≤ v1 → (0 ≤ v8 ∧ v8 < 40) ∧ ((0 ≤ (D 223 v8.toNat) ∧ (D 223 v8.toNat) < 40) ∧ ((g_r (v7 + (D 219 (D 223 v8.toNat).toNat))) ∧ ((g_r (v8 + 1)) ∧ (n_X12_fewest E l D 55 [some (g_R 208), some (g_I v1), some (g_I v2), some (g_I v3), some (g_I v4), some (g_I v5), some (g_I (g_or v6 (g_shl 1 (D 223 v8.toNat)))), some (g_I (v7 + (D 219 (D 223 v8.toNat).toNat))), some (g_I (v8 + 1))] K))))) ∧ (¬ 2 ≤ v1 → (g_r (v7 + 1)) ∧ ((g_r (v8 + 1)) ∧ (n_X12_fewest E l D 55 [some (g_R 208), some (g_I v1), some (g_I v2), some (g_I v3), some (g_I v4), some (g_I v5), some (g_I (g_or v6 (g_shl 1 (D 223 v8.toNat)))), some (g_I (v7 + 1)), some (g_I (v8 + 1))] K))))) ∧ ((g_and (g_shr v5 v8) 1) = 0 → (g_r (v8 + 1)) ∧ (n_X12_fewest E l D 55 [some (g_R 208), some (g_I v1), some (g_I v2), some (g_I v3), some (g_I v4), some (g_I v5), some (g_I v6), some (g_I v7), some (g_I (v8 + 1))] K)))) : n_X12_fewest E l D 55 [some (g_R 208), some (g_I v1), some (g_I v2), some (g_I v3), some (g_I v4), some (g_I v5), some (g_I v6), some (g_I v7), some (g_I v8)] K := by
  refine g_use (fun ok => ?_)
  have hF := hF ok.2.1 (ok.loc (i := 1) rfl) (ok.loc (i := 2) rfl) (ok.loc (i := 3) rfl) (ok.loc (i := 4) rfl) (ok.loc (i := 5) rfl) (ok.loc (i := 6) rfl) (ok.loc (i := 7) rfl) (ok.loc (i := 8) rfl)
  refine g_iload dX12_fewest_55 rfl ?_
  refine g_iload_n dX12_fewest_57 rfl ?_
  refine g_cge dX12_fewest_58 rfl (fun q => ?_) (fun q => ?_)
  · have hF := hF.1 q
    refine g_iload dX12_fewest_120 rfl ?_
    refine g_iload dX12_fewest_122 rfl ?_
    refine g_cge dX12_fewest_124 rfl (fun q => ?_) (fun q => ?_)
    · have hF := hF.1 q
      obtain ⟨hc, hF⟩ := hF
      refine gw_iinc (L' := [some (g_R 208), some (g_I v1), some (g_I v2), some (g_I v3), some (g_I v4), some (g_I (v5 + 1)), some (g_I v6), some (g_I v7), some (g_I v8)]) dX12_fewest_146 rfl hc (by decide) rfl ?_
      refine g_goto dX12_fewest_149 rfl ?_
      exact g_forget (L' := [some (g_R 208), some (g_I v1), some (g_I v2), some (g_I v3), some (g_I v4), some (g_I (v5 + 1)), none, none, none]) ⟨rfl, ⟨rfl, ⟨rfl, ⟨rfl, ⟨rfl, ⟨rfl, trivial⟩⟩⟩⟩⟩⟩ hF
    · have hF := hF.2 q
      refine g_aload_n dX12_fewest_127 rfl ?_
      refine g_iload dX12_fewest_128 rfl ?_
      refine gw_cVi (b := 208) (As := [g_I v6]) (rest := []) dX12_fewest_130 mv_X12_219 sh_208 rfl (Nat.le_of_ble_eq_true rfl) (by decide) rfl hF ?_
      intro x1 D1 hx1 hF
      have hF := hF hx1
      refine g_ifne dX12_fewest_133 rfl (fun q => ?_) (fun q => ?_)
      · have hF := hF.1 q
        refine g_iload dX12_fewest_139 rfl ?_
        refine gw_istore (L' := [some (g_R 208), some (g_I v1), some (g_I v2), some (g_I v3), some (g_I v7), some (g_I v5), some (g_I v6), some (g_I v7), some (g_I v8)]) dX12_fewest_141 (by decide) rfl ?_
        refine g_iload dX12_fewest_143 rfl ?_
        refine gw_istore_n (L' := [some (g_R 208), some (g_I v1), some (g_I v2), some (g_I v6), some (g_I v7), some (g_I v5), some (g_I v6), some (g_I v7), some (g_I v8)]) dX12_fewest_145 (by decide) rfl ?_
        obtain ⟨hc, hF⟩ := hF
        refine gw_iinc (L' := [some (g_R 208), some (g_I v1), some (g_I v2), some (g_I v6), some (g_I v7), some (g_I (v5 + 1)), some (g_I v6), some (g_I v7), some (g_I v8)]) dX12_fewest_146 rfl hc (by decide) rfl ?_
        refine g_goto dX12_fewest_149 rfl ?_
        exact g_forget (L' := [some (g_R 208), some (g_I v1), some (g_I v2), some (g_I v6), some (g_I v7), some (g_I (v5 + 1)), none, none, none]) ⟨rfl, ⟨rfl, ⟨rfl, ⟨rfl, ⟨rfl, ⟨rfl, trivial⟩⟩⟩⟩⟩⟩ hF
      · have hF := hF.2 q
        refine g_goto dX12_fewest_136 rfl ?_
        obtain ⟨hc, hF⟩ := hF
        refine gw_iinc (L' := [some (g_R 208), some (g_I v1), some (g_I v2), some (g_I v3), some (g_I v4), some (g_I (v5 + 1)), some (g_I v6), some (g_I v7), some (g_I v8)]) dX12_fewest_146 rfl hc (by decide) rfl ?_
        refine g_goto dX12_fewest_149 rfl ?_
        exact g_forget (L' := [some (g_R 208), some (g_I v1), some (g_I v2), some (g_I v3), some (g_I v4), some (g_I (v5 + 1)), none, none, none]) ⟨rfl, ⟨rfl, ⟨rfl, ⟨rfl, ⟨rfl, ⟨rfl, trivial⟩⟩⟩⟩⟩⟩ hF
  · have hF := hF.2 q
    refine g_iload dX12_fewest_61 rfl ?_
    refine g_iload dX12_fewest_63 rfl ?_
    refine g_ishr dX12_fewest_65 ?_
    refine g_iconst dX12_fewest_66 ⟨by decide, by decide⟩ ?_
    refine g_iand dX12_fewest_67 ?_
    refine g_ifne dX12_fewest_68 rfl (fun q => ?_) (fun q => ?_)
    · have hF := hF.1 q
      refine g_iload dX12_fewest_74 rfl ?_
      refine g_iconst dX12_fewest_76 ⟨by decide, by decide⟩ ?_
      refine g_aload_n dX12_fewest_77 rfl ?_
      refine g_getR dX12_fewest_78 fd_X12_57 sh_208 rfl ?_
      refine g_iload dX12_fewest_81 rfl ?_
      obtain ⟨hc, hF⟩ := hF
      refine g_iald dX12_fewest_83 sh_223 hc.1 hc.2 ?_
      refine g_ishl dX12_fewest_84 ?_
      refine g_ior dX12_fewest_85 ?_
      refine gw_istore (L' := [some (g_R 208), some (g_I v1), some (g_I v2), some (g_I v3), some (g_I v4), some (g_I v5), some (g_I (g_or v6 (g_shl 1 (D 223 v8.toNat)))), some (g_I v7), some (g_I v8)]) dX12_fewest_86 (by decide) rfl ?_
      refine g_iload dX12_fewest_88 rfl ?_
      refine g_iload_n dX12_fewest_90 rfl ?_
      refine g_iconst dX12_fewest_91 ⟨by decide, by decide⟩ ?_
      refine g_cge dX12_fewest_92 rfl (fun q => ?_) (fun q => ?_)
      · have hF := hF.1 q
        refine g_aload_n dX12_fewest_99 rfl ?_
        refine g_getR dX12_fewest_100 fd_X12_45 sh_208 rfl ?_
        refine g_aload_n dX12_fewest_103 rfl ?_
        refine g_getR dX12_fewest_104 fd_X12_57 sh_208 rfl ?_
        refine g_iload dX12_fewest_107 rfl ?_
        obtain ⟨hc, hF⟩ := hF
        refine g_iald dX12_fewest_109 sh_223 hc.1 hc.2 ?_
        obtain ⟨hc, hF⟩ := hF
        refine g_iald dX12_fewest_110 sh_219 hc.1 hc.2 ?_
        obtain ⟨hc, hF⟩ := hF
        refine g_iadd dX12_fewest_111 hc ?_
        refine gw_istore (L' := [some (g_R 208), some (g_I v1), some (g_I v2), some (g_I v3), some (g_I v4), some (g_I v5), some (g_I (g_or v6 (g_shl 1 (D 223 v8.toNat)))), some (g_I (v7 + (D 219 (D 223 v8.toNat).toNat))), some (g_I v8)]) dX12_fewest_112 (by decide) rfl ?_
        obtain ⟨hc, hF⟩ := hF
        refine gw_iinc (L' := [some (g_R 208), some (g_I v1), some (g_I v2), some (g_I v3), some (g_I v4), some (g_I v5), some (g_I (g_or v6 (g_shl 1 (D 223 v8.toNat)))), some (g_I (v7 + (D 219 (D 223 v8.toNat).toNat))), some (g_I (v8 + 1))]) dX12_fewest_114 rfl hc (by decide) rfl ?_
        refine g_goto dX12_fewest_117 rfl ?_
        exact hF
      · have hF := hF.2 q
        refine g_iconst dX12_fewest_95 ⟨by decide, by decide⟩ ?_
        refine g_goto dX12_fewest_96 rfl ?_
        obtain ⟨hc, hF⟩ := hF
        refine g_iadd dX12_fewest_111 hc ?_
        refine gw_istore (L' := [some (g_R 208), some (g_I v1), some (g_I v2), some (g_I v3), some (g_I v4), some (g_I v5), some (g_I (g_or v6 (g_shl 1 (D 223 v8.toNat)))), some (g_I (v7 + 1)), some (g_I v8)]) dX12_fewest_112 (by decide) rfl ?_
        obtain ⟨hc, hF⟩ := hF
        refine gw_iinc (L' := [some (g_R 208), some (g_I v1), some (g_I v2), some (g_I v3), some (g_I v4), some (g_I v5), some (g_I (g_or v6 (g_shl 1 (D 223 v8.toNat)))), some (g_I (v7 + 1)), some (g_I (v8 + 1))]) dX12_fewest_114 rfl hc (by decide) rfl ?_
        refine g_goto dX12_fewest_117 rfl ?_
        exact hF
    · have hF := hF.2 q
      refine g_goto dX12_fewest_71 rfl ?_
      obtain ⟨hc, hF⟩ := hF
      refine gw_iinc (L' := [some (g_R 208), some (g_I v1), some (g_I v2), some (g_I v3), some (g_I v4), some (g_I v5), some (g_I v6), some (g_I v7), some (g_I (v8 + 1))]) dX12_fewest_114 rfl hc (by decide) rfl ?_
      refine g_goto dX12_fewest_117 rfl ?_
      exact hF
theorem dX12_fits_0 : decode cX12_fits 0 = .ok (.aload_n 0, 1) := by decide +kernel
theorem dX12_fits_1 : decode cX12_fits 1 = .ok (.iconst 0, 1) := by decide +kernel
theorem dX12_fits_2 : decode cX12_fits 2 = .ok (.putfield 1, 3) := by decide +kernel
theorem dX12_fits_5 : decode cX12_fits 5 = .ok (.iload_n 1, 1) := by decide +kernel
theorem dX12_fits_6 : decode cX12_fits 6 = .ok (.i2l, 1) := by decide +kernel
theorem dX12_fits_7 : decode cX12_fits 7 = .ok (.lconst 0, 1) := by decide +kernel
theorem dX12_fits_8 : decode cX12_fits 8 = .ok (.ldc2_w 149, 3) := by decide +kernel
theorem dX12_fits_11 : decode cX12_fits 11 = .ok (.invokestatic 131, 3) := by decide +kernel
theorem dX12_fits_14 : decode cX12_fits 14 = .ok (.ifCond .ne 6, 3) := by decide +kernel
theorem dX12_fits_17 : decode cX12_fits 17 = .ok (.bipush (-2), 2) := by decide +kernel
theorem dX12_fits_19 : decode cX12_fits 19 = .ok (.ireturn, 1) := by decide +kernel
theorem dX12_fits_20 : decode cX12_fits 20 = .ok (.aload_n 0, 1) := by decide +kernel
theorem dX12_fits_21 : decode cX12_fits 21 = .ok (.invokevirtual 369, 3) := by decide +kernel
theorem dX12_fits_24 : decode cX12_fits 24 = .ok (.aload_n 0, 1) := by decide +kernel
theorem dX12_fits_25 : decode cX12_fits 25 = .ok (.invokevirtual 374, 3) := by decide +kernel
theorem dX12_fits_28 : decode cX12_fits 28 = .ok (.iconst (-1), 1) := by decide +kernel
theorem dX12_fits_29 : decode cX12_fits 29 = .ok (.istore_n 2, 1) := by decide +kernel
theorem dX12_fits_30 : decode cX12_fits 30 = .ok (.iconst (-1), 1) := by decide +kernel
theorem dX12_fits_31 : decode cX12_fits 31 = .ok (.istore_n 3, 1) := by decide +kernel
theorem dX12_fits_32 : decode cX12_fits 32 = .ok (.iconst 0, 1) := by decide +kernel
theorem dX12_fits_33 : decode cX12_fits 33 = .ok (.istore 4, 2) := by decide +kernel
theorem dX12_fits_35 : decode cX12_fits 35 = .ok (.iconst 0, 1) := by decide +kernel
theorem dX12_fits_36 : decode cX12_fits 36 = .ok (.istore 5, 2) := by decide +kernel
theorem dX12_fits_38 : decode cX12_fits 38 = .ok (.iload 5, 2) := by decide +kernel
theorem dX12_fits_40 : decode cX12_fits 40 = .ok (.aload_n 0, 1) := by decide +kernel
theorem dX12_fits_41 : decode cX12_fits 41 = .ok (.getfield 342, 3) := by decide +kernel
theorem dX12_fits_44 : decode cX12_fits 44 = .ok (.if_icmp .gt 39, 3) := by decide +kernel
theorem dX12_fits_47 : decode cX12_fits 47 = .ok (.aload_n 0, 1) := by decide +kernel
theorem dX12_fits_48 : decode cX12_fits 48 = .ok (.iload 5, 2) := by decide +kernel
theorem dX12_fits_50 : decode cX12_fits 50 = .ok (.invokevirtual 366, 3) := by decide +kernel
theorem dX12_fits_53 : decode cX12_fits 53 = .ok (.ifCond .ne 6, 3) := by decide +kernel
theorem dX12_fits_56 : decode cX12_fits 56 = .ok (.goto 21, 3) := by decide +kernel
theorem dX12_fits_59 : decode cX12_fits 59 = .ok (.iload_n 2, 1) := by decide +kernel
theorem dX12_fits_60 : decode cX12_fits 60 = .ok (.iconst (-1), 1) := by decide +kernel
theorem dX12_fits_61 : decode cX12_fits 61 = .ok (.if_icmp .ne 8, 3) := by decide +kernel
theorem dX12_fits_64 : decode cX12_fits 64 = .ok (.iload 5, 2) := by decide +kernel
theorem dX12_fits_66 : decode cX12_fits 66 = .ok (.goto 4, 3) := by decide +kernel
theorem dX12_fits_69 : decode cX12_fits 69 = .ok (.iload_n 2, 1) := by decide +kernel
theorem dX12_fits_70 : decode cX12_fits 70 = .ok (.istore_n 2, 1) := by decide +kernel
theorem dX12_fits_71 : decode cX12_fits 71 = .ok (.iload 5, 2) := by decide +kernel
theorem dX12_fits_73 : decode cX12_fits 73 = .ok (.istore_n 3, 1) := by decide +kernel
theorem dX12_fits_74 : decode cX12_fits 74 = .ok (.iinc 4 1, 3) := by decide +kernel
theorem dX12_fits_77 : decode cX12_fits 77 = .ok (.iinc 5 1, 3) := by decide +kernel
theorem dX12_fits_80 : decode cX12_fits 80 = .ok (.goto (-42), 3) := by decide +kernel
theorem dX12_fits_83 : decode cX12_fits 83 = .ok (.iload_n 1, 1) := by decide +kernel
theorem dX12_fits_84 : decode cX12_fits 84 = .ok (.ifCond .ne 7, 3) := by decide +kernel
theorem dX12_fits_87 : decode cX12_fits 87 = .ok (.iload_n 2, 1) := by decide +kernel
theorem dX12_fits_88 : decode cX12_fits 88 = .ok (.goto 14, 3) := by decide +kernel
theorem dX12_fits_91 : decode cX12_fits 91 = .ok (.iload_n 1, 1) := by decide +kernel
theorem dX12_fits_92 : decode cX12_fits 92 = .ok (.iconst 1, 1) := by decide +kernel
theorem dX12_fits_93 : decode cX12_fits 93 = .ok (.if_icmp .ne 7, 3) := by decide +kernel
theorem dX12_fits_96 : decode cX12_fits 96 = .ok (.iload_n 3, 1) := by decide +kernel
theorem dX12_fits_97 : decode cX12_fits 97 = .ok (.goto 5, 3) := by decide +kernel
theorem dX12_fits_100 : decode cX12_fits 100 = .ok (.iload 4, 2) := by decide +kernel
theorem dX12_fits_102 : decode cX12_fits 102 = .ok (.ireturn, 1) := by decide +kernel
abbrev k_X12_fits (E : g_E) (l : Launch) (D : g_D) (v1 : Int) (K : Int → g_D → Prop) : Prop := g_Ki E l m_X12_fits 5 [g_R 208, g_I v1] g_SH D K
abbrev n_X12_fits (E : g_E) (l : Launch) (D : g_D) (pc : Nat) (L : List (Option g_V)) (K : Int → g_D → Prop) : Prop := g_N E l m_X12_fits 5 pc L [] g_SH D (g_Ri g_SH K)
theorem s_X12_fits {E : g_E} {l : Launch} {D : g_D} {K : Int → g_D → Prop} {v1 : Int}  (hF : g_okD D → g_r v1 → ∀ D1, D1 = g_up D 208 0 0 → (k_X12_within E l g_SH D1 v1 0 2 (fun x2 D2 => g_r x2 → (¬ x2 = 0 → k_X12_laysDue E l D2 (fun D3 => k_X12_worksNow E l D3 (fun D4 => n_X12_fits E l D4 38 [some (g_R 208), some (g_I v1), some (g_I (-1)), some (g_I (-1)), some (g_I 0), some (g_I 0)] K))) ∧ (x2 = 0 → K (-2) D2)))) : k_X12_fits E l D v1 K := by
  refine g_enter (by decide) (Nat.le_of_ble_eq_true rfl) ?_
  show g_N E l m_X12_fits 5 0 [some (g_R 208), some (g_I v1), none, none, none, none] [] g_SH D (g_Ri g_SH K)
  refine g_use (fun ok => ?_)
  have hF := hF ok.2.1 (ok.loc (i := 1) rfl)
  refine g_aload_n dX12_fits_0 rfl ?_
  refine g_iconst dX12_fits_1 ⟨by decide, by decide⟩ ?_
  let D1 : g_D := g_up D 208 0 0
  have hF := hF D1 rfl
  refine g_put dX12_fits_2 fd_X12_1 (g_ftyI (C := RX12) (T := TX12) (N := 51) rfl rfl (by decide +kernel)) sh_208 rfl ?_
  refine g_iload_n dX12_fits_5 rfl ?_
  refine g_i2l dX12_fits_6 ?_
  refine g_lconst dX12_fits_7 ?_
  refine g_ldc2 dX12_fits_8 ⟨by decide, by decide⟩ kl_X12_149 ?_
  refine gw_cSi (As := [g_J v1, g_J 0, g_J 2]) (rest := []) dX12_fits_11 ms_X12_131 rfl (Nat.le_of_ble_eq_true rfl) (by decide) rfl hF ?_
  intro x2 D2 hx2 hF
  have hF := hF hx2
  refine g_ifne dX12_fits_14 rfl (fun q => ?_) (fun q => ?_)
  · have hF := hF.1 q
    refine g_aload_n dX12_fits_20 rfl ?_
    refine gw_cVv (b := 208) (As := []) (rest := []) dX12_fits_21 mv_X12_369 sh_208 rfl (Nat.le_of_ble_eq_true rfl) (by decide) rfl hF ?_
    intro D3 hF
    refine g_aload_n dX12_fits_24 rfl ?_
    refine gw_cVv (b := 208) (As := []) (rest := []) dX12_fits_25 mv_X12_374 sh_208 rfl (Nat.le_of_ble_eq_true rfl) (by decide) rfl hF ?_
    intro D4 hF
    refine g_iconst dX12_fits_28 ⟨by decide, by decide⟩ ?_
    refine gw_istore_n (L' := [some (g_R 208), some (g_I v1), some (g_I (-1)), none, none, none]) dX12_fits_29 (by decide) rfl ?_
    refine g_iconst dX12_fits_30 ⟨by decide, by decide⟩ ?_
    refine gw_istore_n (L' := [some (g_R 208), some (g_I v1), some (g_I (-1)), some (g_I (-1)), none, none]) dX12_fits_31 (by decide) rfl ?_
    refine g_iconst dX12_fits_32 ⟨by decide, by decide⟩ ?_
    refine gw_istore (L' := [some (g_R 208), some (g_I v1), some (g_I (-1)), some (g_I (-1)), some (g_I 0), none]) dX12_fits_33 (by decide) rfl ?_
    refine g_iconst dX12_fits_35 ⟨by decide, by decide⟩ ?_
    refine gw_istore (L' := [some (g_R 208), some (g_I v1), some (g_I (-1)), some (g_I (-1)), some (g_I 0), some (g_I 0)]) dX12_fits_36 (by decide) rfl ?_
    exact hF
  · have hF := hF.2 q
    refine g_bipush dX12_fits_17 ⟨by decide, by decide⟩ ?_
    exact gw_iret dX12_fits_19 rfl hF
theorem s_X12_fits_38 {E : g_E} {l : Launch} {D : g_D} {K : Int → g_D → Prop} {v1 : Int} {v2 : Int} {v3 : Int} {v4 : Int} {v5 : Int}  (hF : g_okD D → g_r v1 → g_r v2 → g_r v3 → g_r v4 → g_r v5 → ((D 208 46) < v5 → (¬ v1 = 0 → (¬ v1 = 1 → K v4 D) ∧ (v1 = 1 → K v3 D)) ∧ (v1 = 0 → K v2 D)) ∧ (¬ (D 208 46) < v5 → k_X12_isFit E l D v5 (fun x1 D1 => g_r x1 → (¬ x1 = 0 → (¬ v2 = (-1) → (g_r (v4 + 1)) ∧ ((g_r (v5 + 1)) ∧ (n_X12_fits E l D1 38 [some (g_R 208), some (g_I v1), some (g_I v2), some (g_I v5), some (g_I (v4 + 1)), some (g_I (v5 + 1))] K))) ∧ (v2 = (-1) → (g_r (v4 + 1)) ∧ ((g_r (v5 + 1)) ∧ (n_X12_fits E l D1 38 [some (g_R 208), some (g_I v1), some (g_I v5), some (g_I v5), some (g_I (v4 + 1)), some (g_I (v5 + 1))] K)))) ∧ (x1 = 0 → (g_r (v5 + 1)) ∧ (n_X12_fits E l D1 38 [some (g_R 208), some (g_I v1), some (g_I v2), some (g_I v3), some (g_I v4), some (g_I (v5 + 1))] K))))) : n_X12_fits E l D 38 [some (g_R 208), some (g_I v1), some (g_I v2), some (g_I v3), some (g_I v4), some (g_I v5)] K := by
  refine g_use (fun ok => ?_)
  have hF := hF ok.2.1 (ok.loc (i := 1) rfl) (ok.loc (i := 2) rfl) (ok.loc (i := 3) rfl) (ok.loc (i := 4) rfl) (ok.loc (i := 5) rfl)
  refine g_iload dX12_fits_38 rfl ?_
  refine g_aload_n dX12_fits_40 rfl ?_
  refine g_getI dX12_fits_41 fd_X12_342 sh_208 rfl ?_
  refine g_cgt dX12_fits_44 rfl (fun q => ?_) (fun q => ?_)
  · have hF := hF.1 q
    refine g_iload_n dX12_fits_83 rfl ?_
    refine g_ifne dX12_fits_84 rfl (fun q => ?_) (fun q => ?_)
    · have hF := hF.1 q
      refine g_iload_n dX12_fits_91 rfl ?_
      refine g_iconst dX12_fits_92 ⟨by decide, by decide⟩ ?_
      refine g_cne dX12_fits_93 rfl (fun q => ?_) (fun q => ?_)
      · have hF := hF.1 q
        refine g_iload dX12_fits_100 rfl ?_
        exact gw_iret dX12_fits_102 rfl hF
      · have hF := hF.2 q
        refine g_iload_n dX12_fits_96 rfl ?_
        refine g_goto dX12_fits_97 rfl ?_
        exact gw_iret dX12_fits_102 rfl hF
    · have hF := hF.2 q
      refine g_iload_n dX12_fits_87 rfl ?_
      refine g_goto dX12_fits_88 rfl ?_
      exact gw_iret dX12_fits_102 rfl hF
  · have hF := hF.2 q
    refine g_aload_n dX12_fits_47 rfl ?_
    refine g_iload dX12_fits_48 rfl ?_
    refine gw_cVi (b := 208) (As := [g_I v5]) (rest := []) dX12_fits_50 mv_X12_366 sh_208 rfl (Nat.le_of_ble_eq_true rfl) (by decide) rfl hF ?_
    intro x1 D1 hx1 hF
    have hF := hF hx1
    refine g_ifne dX12_fits_53 rfl (fun q => ?_) (fun q => ?_)
    · have hF := hF.1 q
      refine g_iload_n dX12_fits_59 rfl ?_
      refine g_iconst dX12_fits_60 ⟨by decide, by decide⟩ ?_
      refine g_cne dX12_fits_61 rfl (fun q => ?_) (fun q => ?_)
      · have hF := hF.1 q
        refine g_iload_n dX12_fits_69 rfl ?_
        refine gw_istore_n (L' := [some (g_R 208), some (g_I v1), some (g_I v2), some (g_I v3), some (g_I v4), some (g_I v5)]) dX12_fits_70 (by decide) rfl ?_
        refine g_iload dX12_fits_71 rfl ?_
        refine gw_istore_n (L' := [some (g_R 208), some (g_I v1), some (g_I v2), some (g_I v5), some (g_I v4), some (g_I v5)]) dX12_fits_73 (by decide) rfl ?_
        obtain ⟨hc, hF⟩ := hF
        refine gw_iinc (L' := [some (g_R 208), some (g_I v1), some (g_I v2), some (g_I v5), some (g_I (v4 + 1)), some (g_I v5)]) dX12_fits_74 rfl hc (by decide) rfl ?_
        obtain ⟨hc, hF⟩ := hF
        refine gw_iinc (L' := [some (g_R 208), some (g_I v1), some (g_I v2), some (g_I v5), some (g_I (v4 + 1)), some (g_I (v5 + 1))]) dX12_fits_77 rfl hc (by decide) rfl ?_
        refine g_goto dX12_fits_80 rfl ?_
        exact hF
      · have hF := hF.2 q
        refine g_iload dX12_fits_64 rfl ?_
        refine g_goto dX12_fits_66 rfl ?_
        refine gw_istore_n (L' := [some (g_R 208), some (g_I v1), some (g_I v5), some (g_I v3), some (g_I v4), some (g_I v5)]) dX12_fits_70 (by decide) rfl ?_
        refine g_iload dX12_fits_71 rfl ?_
        refine gw_istore_n (L' := [some (g_R 208), some (g_I v1), some (g_I v5), some (g_I v5), some (g_I v4), some (g_I v5)]) dX12_fits_73 (by decide) rfl ?_
        obtain ⟨hc, hF⟩ := hF
        refine gw_iinc (L' := [some (g_R 208), some (g_I v1), some (g_I v5), some (g_I v5), some (g_I (v4 + 1)), some (g_I v5)]) dX12_fits_74 rfl hc (by decide) rfl ?_
        obtain ⟨hc, hF⟩ := hF
        refine gw_iinc (L' := [some (g_R 208), some (g_I v1), some (g_I v5), some (g_I v5), some (g_I (v4 + 1)), some (g_I (v5 + 1))]) dX12_fits_77 rfl hc (by decide) rfl ?_
        refine g_goto dX12_fits_80 rfl ?_
        exact hF
    · have hF := hF.2 q
      refine g_goto dX12_fits_56 rfl ?_
      obtain ⟨hc, hF⟩ := hF
      refine gw_iinc (L' := [some (g_R 208), some (g_I v1), some (g_I v2), some (g_I v3), some (g_I v4), some (g_I (v5 + 1))]) dX12_fits_77 rfl hc (by decide) rfl ?_
      refine g_goto dX12_fits_80 rfl ?_
      exact hF
theorem dX12_floatBits_0 : decode cX12_floatBits 0 = .ok (.iload_n 0, 1) := by decide +kernel
theorem dX12_floatBits_1 : decode cX12_floatBits 1 = .ok (.ifCond .ne 5, 3) := by decide +kernel
theorem dX12_floatBits_4 : decode cX12_floatBits 4 = .ok (.iconst 0, 1) := by decide +kernel
theorem dX12_floatBits_5 : decode cX12_floatBits 5 = .ok (.ireturn, 1) := by decide +kernel
theorem dX12_floatBits_6 : decode cX12_floatBits 6 = .ok (.iload_n 0, 1) := by decide +kernel
theorem dX12_floatBits_7 : decode cX12_floatBits 7 = .ok (.i2l, 1) := by decide +kernel
theorem dX12_floatBits_8 : decode cX12_floatBits 8 = .ok (.lstore_n 2, 1) := by decide +kernel
theorem dX12_floatBits_9 : decode cX12_floatBits 9 = .ok (.iconst 0, 1) := by decide +kernel
theorem dX12_floatBits_10 : decode cX12_floatBits 10 = .ok (.istore 4, 2) := by decide +kernel
theorem dX12_floatBits_12 : decode cX12_floatBits 12 = .ok (.lload_n 2, 1) := by decide +kernel
theorem dX12_floatBits_13 : decode cX12_floatBits 13 = .ok (.iload_n 1, 1) := by decide +kernel
theorem dX12_floatBits_14 : decode cX12_floatBits 14 = .ok (.i2l, 1) := by decide +kernel
theorem dX12_floatBits_15 : decode cX12_floatBits 15 = .ok (.ldiv, 1) := by decide +kernel
theorem dX12_floatBits_16 : decode cX12_floatBits 16 = .ok (.ldc2_w 278, 3) := by decide +kernel
theorem dX12_floatBits_19 : decode cX12_floatBits 19 = .ok (.lcmp, 1) := by decide +kernel
theorem dX12_floatBits_20 : decode cX12_floatBits 20 = .ok (.ifCond .ge 15, 3) := by decide +kernel
theorem dX12_floatBits_23 : decode cX12_floatBits 23 = .ok (.lload_n 2, 1) := by decide +kernel
theorem dX12_floatBits_24 : decode cX12_floatBits 24 = .ok (.ldc2_w 149, 3) := by decide +kernel
theorem dX12_floatBits_27 : decode cX12_floatBits 27 = .ok (.lmul, 1) := by decide +kernel
theorem dX12_floatBits_28 : decode cX12_floatBits 28 = .ok (.lstore_n 2, 1) := by decide +kernel
theorem dX12_floatBits_29 : decode cX12_floatBits 29 = .ok (.iinc 4 1, 3) := by decide +kernel
theorem dX12_floatBits_32 : decode cX12_floatBits 32 = .ok (.goto (-20), 3) := by decide +kernel
theorem dX12_floatBits_35 : decode cX12_floatBits 35 = .ok (.lload_n 2, 1) := by decide +kernel
theorem dX12_floatBits_36 : decode cX12_floatBits 36 = .ok (.iload_n 1, 1) := by decide +kernel
theorem dX12_floatBits_37 : decode cX12_floatBits 37 = .ok (.i2l, 1) := by decide +kernel
theorem dX12_floatBits_38 : decode cX12_floatBits 38 = .ok (.ldiv, 1) := by decide +kernel
theorem dX12_floatBits_39 : decode cX12_floatBits 39 = .ok (.lstore 5, 2) := by decide +kernel
theorem dX12_floatBits_41 : decode cX12_floatBits 41 = .ok (.ldc2_w 149, 3) := by decide +kernel
theorem dX12_floatBits_44 : decode cX12_floatBits 44 = .ok (.lload_n 2, 1) := by decide +kernel
theorem dX12_floatBits_45 : decode cX12_floatBits 45 = .ok (.iload_n 1, 1) := by decide +kernel
theorem dX12_floatBits_46 : decode cX12_floatBits 46 = .ok (.i2l, 1) := by decide +kernel
theorem dX12_floatBits_47 : decode cX12_floatBits 47 = .ok (.lrem, 1) := by decide +kernel
theorem dX12_floatBits_48 : decode cX12_floatBits 48 = .ok (.lmul, 1) := by decide +kernel
theorem dX12_floatBits_49 : decode cX12_floatBits 49 = .ok (.lstore 7, 2) := by decide +kernel
theorem dX12_floatBits_51 : decode cX12_floatBits 51 = .ok (.lload 7, 2) := by decide +kernel
theorem dX12_floatBits_53 : decode cX12_floatBits 53 = .ok (.iload_n 1, 1) := by decide +kernel
theorem dX12_floatBits_54 : decode cX12_floatBits 54 = .ok (.i2l, 1) := by decide +kernel
theorem dX12_floatBits_55 : decode cX12_floatBits 55 = .ok (.lcmp, 1) := by decide +kernel
theorem dX12_floatBits_56 : decode cX12_floatBits 56 = .ok (.ifCond .gt 22, 3) := by decide +kernel
theorem dX12_floatBits_59 : decode cX12_floatBits 59 = .ok (.lload 7, 2) := by decide +kernel
theorem dX12_floatBits_61 : decode cX12_floatBits 61 = .ok (.iload_n 1, 1) := by decide +kernel
theorem dX12_floatBits_62 : decode cX12_floatBits 62 = .ok (.i2l, 1) := by decide +kernel
theorem dX12_floatBits_63 : decode cX12_floatBits 63 = .ok (.lcmp, 1) := by decide +kernel
theorem dX12_floatBits_64 : decode cX12_floatBits 64 = .ok (.ifCond .ne 20, 3) := by decide +kernel
theorem dX12_floatBits_67 : decode cX12_floatBits 67 = .ok (.lload 5, 2) := by decide +kernel
theorem dX12_floatBits_69 : decode cX12_floatBits 69 = .ok (.ldc2_w 149, 3) := by decide +kernel
theorem dX12_floatBits_72 : decode cX12_floatBits 72 = .ok (.lrem, 1) := by decide +kernel
theorem dX12_floatBits_73 : decode cX12_floatBits 73 = .ok (.lconst 1, 1) := by decide +kernel
theorem dX12_floatBits_74 : decode cX12_floatBits 74 = .ok (.lcmp, 1) := by decide +kernel
theorem dX12_floatBits_75 : decode cX12_floatBits 75 = .ok (.ifCond .ne 9, 3) := by decide +kernel
theorem dX12_floatBits_78 : decode cX12_floatBits 78 = .ok (.lload 5, 2) := by decide +kernel
theorem dX12_floatBits_80 : decode cX12_floatBits 80 = .ok (.lconst 1, 1) := by decide +kernel
theorem dX12_floatBits_81 : decode cX12_floatBits 81 = .ok (.ladd, 1) := by decide +kernel
theorem dX12_floatBits_82 : decode cX12_floatBits 82 = .ok (.lstore 5, 2) := by decide +kernel
theorem dX12_floatBits_84 : decode cX12_floatBits 84 = .ok (.ldc2_w 280, 3) := by decide +kernel
theorem dX12_floatBits_87 : decode cX12_floatBits 87 = .ok (.iload 4, 2) := by decide +kernel
theorem dX12_floatBits_89 : decode cX12_floatBits 89 = .ok (.i2l, 1) := by decide +kernel
theorem dX12_floatBits_90 : decode cX12_floatBits 90 = .ok (.lsub, 1) := by decide +kernel
theorem dX12_floatBits_91 : decode cX12_floatBits 91 = .ok (.lconst 1, 1) := by decide +kernel
theorem dX12_floatBits_92 : decode cX12_floatBits 92 = .ok (.lsub, 1) := by decide +kernel
theorem dX12_floatBits_93 : decode cX12_floatBits 93 = .ok (.ldc2_w 278, 3) := by decide +kernel
theorem dX12_floatBits_96 : decode cX12_floatBits 96 = .ok (.lmul, 1) := by decide +kernel
theorem dX12_floatBits_97 : decode cX12_floatBits 97 = .ok (.lload 5, 2) := by decide +kernel
theorem dX12_floatBits_99 : decode cX12_floatBits 99 = .ok (.ladd, 1) := by decide +kernel
theorem dX12_floatBits_100 : decode cX12_floatBits 100 = .ok (.l2i, 1) := by decide +kernel
theorem dX12_floatBits_101 : decode cX12_floatBits 101 = .ok (.ireturn, 1) := by decide +kernel
abbrev k_X12_floatBits (E : g_E) (l : Launch) (sh : List g_Sh) (D : g_D) (v0 : Int) (v1 : Int) (K : Int → g_D → Prop) : Prop := g_Ki E l m_X12_floatBits 0 [g_I v0, g_I v1] sh D K
abbrev n_X12_floatBits (E : g_E) (l : Launch) (sh : List g_Sh) (D : g_D) (pc : Nat) (L : List (Option g_V)) (K : Int → g_D → Prop) : Prop := g_N E l m_X12_floatBits 0 pc L [] sh D (g_Ri sh K)
theorem s_X12_floatBits {E : g_E} {l : Launch} {sh : List g_Sh} {D : g_D} {K : Int → g_D → Prop} {v0 : Int} {v1 : Int}  (hF : g_okD D → g_r v0 → g_r v1 → (¬ v0 = 0 → n_X12_floatBits E l sh D 12 [none, some (g_I v1), some (g_J v0), none, some (g_I 0), none, none, none, none] K) ∧ (v0 = 0 → K 0 D)) : k_X12_floatBits E l sh D v0 v1 K := by
  refine g_enter (by decide) (Nat.le_of_ble_eq_true rfl) ?_
  show g_N E l m_X12_floatBits 0 0 [some (g_I v0), some (g_I v1), none, none, none, none, none, none, none] [] sh D (g_Ri sh K)
  refine g_use (fun ok => ?_)
  have hF := hF ok.2.1 (ok.loc (i := 0) rfl) (ok.loc (i := 1) rfl)
  refine g_iload_n dX12_floatBits_0 rfl ?_
  refine g_ifne dX12_floatBits_1 rfl (fun q => ?_) (fun q => ?_)
  · have hF := hF.1 q
    refine g_iload_n dX12_floatBits_6 rfl ?_
    refine g_i2l dX12_floatBits_7 ?_
    refine gw_lstore_n (L' := [some (g_I v0), some (g_I v1), some (g_J v0), none, none, none, none, none, none]) dX12_floatBits_8 (by decide) rfl ?_
    refine g_iconst dX12_floatBits_9 ⟨by decide, by decide⟩ ?_
    refine gw_istore (L' := [some (g_I v0), some (g_I v1), some (g_J v0), none, some (g_I 0), none, none, none, none]) dX12_floatBits_10 (by decide) rfl ?_
    exact g_forget (L' := [none, some (g_I v1), some (g_J v0), none, some (g_I 0), none, none, none, none]) ⟨rfl, ⟨rfl, ⟨rfl, trivial⟩⟩⟩ hF
  · have hF := hF.2 q
    refine g_iconst dX12_floatBits_4 ⟨by decide, by decide⟩ ?_
    exact gw_iret dX12_floatBits_5 rfl hF
theorem s_X12_floatBits_12 {E : g_E} {l : Launch} {sh : List g_Sh} {D : g_D} {K : Int → g_D → Prop} {v1 : Int} {v2 : Int} {v4 : Int}  (hF : g_okD D → g_r v1 → g_r8 v2 → g_r v4 → (0 ≤ v2 ∧ 0 < v1) ∧ ((8388608 ≤ (v2 / v1) → (0 ≤ v2 ∧ 0 < v1) ∧ ((0 ≤ v2 ∧ 0 < v1) ∧ ((g_r8 (2 * (v2 % v1))) ∧ ((v1 < (2 * (v2 % v1)) → (g_r8 ((v2 / v1) + 1)) ∧ ((g_r8 (150 - v4)) ∧ ((g_r8 ((150 - v4) - 1)) ∧ ((g_r8 (((150 - v4) - 1) * 8388608)) ∧ ((g_r8 ((((150 - v4) - 1) * 8388608) + ((v2 / v1) + 1))) ∧ (K (g_l2i ((((150 - v4) - 1) * 8388608) + ((v2 / v1) + 1))) D)))))) ∧ (¬ v1 < (2 * (v2 % v1)) → (¬ (2 * (v2 % v1)) = v1 → (g_r8 (150 - v4)) ∧ ((g_r8 ((150 - v4) - 1)) ∧ ((g_r8 (((150 - v4) - 1) * 8388608)) ∧ ((g_r8 ((((150 - v4) - 1) * 8388608) + (v2 / v1))) ∧ (K (g_l2i ((((150 - v4) - 1) * 8388608) + (v2 / v1))) D))))) ∧ ((2 * (v2 % v1)) = v1 → (0 ≤ (v2 / v1)) ∧ ((¬ ((v2 / v1) % 2) = 1 → (g_r8 (150 - v4)) ∧ ((g_r8 ((150 - v4) - 1)) ∧ ((g_r8 (((150 - v4) - 1) * 8388608)) ∧ ((g_r8 ((((150 - v4) - 1) * 8388608) + (v2 / v1))) ∧ (K (g_l2i ((((150 - v4) - 1) * 8388608) + (v2 / v1))) D))))) ∧ (((v2 / v1) % 2) = 1 → (g_r8 ((v2 / v1) + 1)) ∧ ((g_r8 (150 - v4)) ∧ ((g_r8 ((150 - v4) - 1)) ∧ ((g_r8 (((150 - v4) - 1) * 8388608)) ∧ ((g_r8 ((((150 - v4) - 1) * 8388608) + ((v2 / v1) + 1))) ∧ (K (g_l2i ((((150 - v4) - 1) * 8388608) + ((v2 / v1) + 1))) D))))))))))))) ∧ (¬ 8388608 ≤ (v2 / v1) → (g_r8 (v2 * 2)) ∧ ((g_r (v4 + 1)) ∧ (n_X12_floatBits E l sh D 12 [none, some (g_I v1), some (g_J (v2 * 2)), none, some (g_I (v4 + 1)), none, none, none, none] K))))) : n_X12_floatBits E l sh D 12 [none, some (g_I v1), some (g_J v2), none, some (g_I v4), none, none, none, none] K := by
  refine g_use (fun ok => ?_)
  have hF := hF ok.2.1 (ok.loc (i := 1) rfl) (ok.loc (i := 2) rfl) (ok.loc (i := 4) rfl)
  refine g_lload_n dX12_floatBits_12 rfl ?_
  refine g_iload_n dX12_floatBits_13 rfl ?_
  refine g_i2l dX12_floatBits_14 ?_
  obtain ⟨hc, hF⟩ := hF
  refine g_ldiv dX12_floatBits_15 hc.1 hc.2 ?_
  refine g_ldc2 dX12_floatBits_16 ⟨by decide, by decide⟩ kl_X12_278 ?_
  refine g_lcmp dX12_floatBits_19 ?_
  refine g_ifge dX12_floatBits_20 rfl (fun q => ?_) (fun q => ?_)
  · have hF := hF.1 (g_cmp_ge.mp q)
    refine g_lload_n dX12_floatBits_35 rfl ?_
    refine g_iload_n dX12_floatBits_36 rfl ?_
    refine g_i2l dX12_floatBits_37 ?_
    obtain ⟨hc, hF⟩ := hF
    refine g_ldiv dX12_floatBits_38 hc.1 hc.2 ?_
    refine gw_lstore (L' := [none, some (g_I v1), some (g_J v2), none, some (g_I v4), some (g_J (v2 / v1)), none, none, none]) dX12_floatBits_39 (by decide) rfl ?_
    refine g_ldc2 dX12_floatBits_41 ⟨by decide, by decide⟩ kl_X12_149 ?_
    refine g_lload_n dX12_floatBits_44 rfl ?_
    refine g_iload_n dX12_floatBits_45 rfl ?_
    refine g_i2l dX12_floatBits_46 ?_
    obtain ⟨hc, hF⟩ := hF
    refine g_lrem dX12_floatBits_47 hc.1 hc.2 ?_
    obtain ⟨hc, hF⟩ := hF
    refine g_lmul dX12_floatBits_48 hc ?_
    refine gw_lstore (L' := [none, some (g_I v1), some (g_J v2), none, some (g_I v4), some (g_J (v2 / v1)), none, some (g_J (2 * (v2 % v1))), none]) dX12_floatBits_49 (by decide) rfl ?_
    refine g_lload dX12_floatBits_51 rfl ?_
    refine g_iload_n dX12_floatBits_53 rfl ?_
    refine g_i2l dX12_floatBits_54 ?_
    refine g_lcmp dX12_floatBits_55 ?_
    refine g_ifgt dX12_floatBits_56 rfl (fun q => ?_) (fun q => ?_)
    · have hF := hF.1 (g_cmp_gt.mp q)
      refine g_lload dX12_floatBits_78 rfl ?_
      refine g_lconst dX12_floatBits_80 ?_
      obtain ⟨hc, hF⟩ := hF
      refine g_ladd dX12_floatBits_81 hc ?_
      refine gw_lstore (L' := [none, some (g_I v1), some (g_J v2), none, some (g_I v4), some (g_J ((v2 / v1) + 1)), none, some (g_J (2 * (v2 % v1))), none]) dX12_floatBits_82 (by decide) rfl ?_
      refine g_ldc2 dX12_floatBits_84 ⟨by decide, by decide⟩ kl_X12_280 ?_
      refine g_iload dX12_floatBits_87 rfl ?_
      refine g_i2l dX12_floatBits_89 ?_
      obtain ⟨hc, hF⟩ := hF
      refine g_lsub dX12_floatBits_90 hc ?_
      refine g_lconst dX12_floatBits_91 ?_
      obtain ⟨hc, hF⟩ := hF
      refine g_lsub dX12_floatBits_92 hc ?_
      refine g_ldc2 dX12_floatBits_93 ⟨by decide, by decide⟩ kl_X12_278 ?_
      obtain ⟨hc, hF⟩ := hF
      refine g_lmul dX12_floatBits_96 hc ?_
      refine g_lload dX12_floatBits_97 rfl ?_
      obtain ⟨hc, hF⟩ := hF
      refine g_ladd dX12_floatBits_99 hc ?_
      refine g_l2iR dX12_floatBits_100 ?_
      exact gw_iret dX12_floatBits_101 rfl hF
    · have hF := hF.2 (g_cmp_gtn.mp q)
      refine g_lload dX12_floatBits_59 rfl ?_
      refine g_iload_n dX12_floatBits_61 rfl ?_
      refine g_i2l dX12_floatBits_62 ?_
      refine g_lcmp dX12_floatBits_63 ?_
      refine g_ifne dX12_floatBits_64 rfl (fun q => ?_) (fun q => ?_)
      · have hF := hF.1 (g_cmp_ne.mp q)
        refine g_ldc2 dX12_floatBits_84 ⟨by decide, by decide⟩ kl_X12_280 ?_
        refine g_iload dX12_floatBits_87 rfl ?_
        refine g_i2l dX12_floatBits_89 ?_
        obtain ⟨hc, hF⟩ := hF
        refine g_lsub dX12_floatBits_90 hc ?_
        refine g_lconst dX12_floatBits_91 ?_
        obtain ⟨hc, hF⟩ := hF
        refine g_lsub dX12_floatBits_92 hc ?_
        refine g_ldc2 dX12_floatBits_93 ⟨by decide, by decide⟩ kl_X12_278 ?_
        obtain ⟨hc, hF⟩ := hF
        refine g_lmul dX12_floatBits_96 hc ?_
        refine g_lload dX12_floatBits_97 rfl ?_
        obtain ⟨hc, hF⟩ := hF
        refine g_ladd dX12_floatBits_99 hc ?_
        refine g_l2iR dX12_floatBits_100 ?_
        exact gw_iret dX12_floatBits_101 rfl hF
      · have hF := hF.2 (g_cmp_nen.mp q)
        refine g_lload dX12_floatBits_67 rfl ?_
        refine g_ldc2 dX12_floatBits_69 ⟨by decide, by decide⟩ kl_X12_149 ?_
        obtain ⟨hc, hF⟩ := hF
        refine g_lrem dX12_floatBits_72 hc (by decide) ?_
        refine g_lconst dX12_floatBits_73 ?_
        refine g_lcmp dX12_floatBits_74 ?_
        refine g_ifne dX12_floatBits_75 rfl (fun q => ?_) (fun q => ?_)
        · have hF := hF.1 (g_cmp_ne.mp q)
          refine g_ldc2 dX12_floatBits_84 ⟨by decide, by decide⟩ kl_X12_280 ?_
          refine g_iload dX12_floatBits_87 rfl ?_
          refine g_i2l dX12_floatBits_89 ?_
          obtain ⟨hc, hF⟩ := hF
          refine g_lsub dX12_floatBits_90 hc ?_
          refine g_lconst dX12_floatBits_91 ?_
          obtain ⟨hc, hF⟩ := hF
          refine g_lsub dX12_floatBits_92 hc ?_
          refine g_ldc2 dX12_floatBits_93 ⟨by decide, by decide⟩ kl_X12_278 ?_
          obtain ⟨hc, hF⟩ := hF
          refine g_lmul dX12_floatBits_96 hc ?_
          refine g_lload dX12_floatBits_97 rfl ?_
          obtain ⟨hc, hF⟩ := hF
          refine g_ladd dX12_floatBits_99 hc ?_
          refine g_l2iR dX12_floatBits_100 ?_
          exact gw_iret dX12_floatBits_101 rfl hF
        · have hF := hF.2 (g_cmp_nen.mp q)
          refine g_lload dX12_floatBits_78 rfl ?_
          refine g_lconst dX12_floatBits_80 ?_
          obtain ⟨hc, hF⟩ := hF
          refine g_ladd dX12_floatBits_81 hc ?_
          refine gw_lstore (L' := [none, some (g_I v1), some (g_J v2), none, some (g_I v4), some (g_J ((v2 / v1) + 1)), none, some (g_J (2 * (v2 % v1))), none]) dX12_floatBits_82 (by decide) rfl ?_
          refine g_ldc2 dX12_floatBits_84 ⟨by decide, by decide⟩ kl_X12_280 ?_
          refine g_iload dX12_floatBits_87 rfl ?_
          refine g_i2l dX12_floatBits_89 ?_
          obtain ⟨hc, hF⟩ := hF
          refine g_lsub dX12_floatBits_90 hc ?_
          refine g_lconst dX12_floatBits_91 ?_
          obtain ⟨hc, hF⟩ := hF
          refine g_lsub dX12_floatBits_92 hc ?_
          refine g_ldc2 dX12_floatBits_93 ⟨by decide, by decide⟩ kl_X12_278 ?_
          obtain ⟨hc, hF⟩ := hF
          refine g_lmul dX12_floatBits_96 hc ?_
          refine g_lload dX12_floatBits_97 rfl ?_
          obtain ⟨hc, hF⟩ := hF
          refine g_ladd dX12_floatBits_99 hc ?_
          refine g_l2iR dX12_floatBits_100 ?_
          exact gw_iret dX12_floatBits_101 rfl hF
  · have hF := hF.2 (g_cmp_gen.mp q)
    refine g_lload_n dX12_floatBits_23 rfl ?_
    refine g_ldc2 dX12_floatBits_24 ⟨by decide, by decide⟩ kl_X12_149 ?_
    obtain ⟨hc, hF⟩ := hF
    refine g_lmul dX12_floatBits_27 hc ?_
    refine gw_lstore_n (L' := [none, some (g_I v1), some (g_J (v2 * 2)), none, some (g_I v4), none, none, none, none]) dX12_floatBits_28 (by decide) rfl ?_
    obtain ⟨hc, hF⟩ := hF
    refine gw_iinc (L' := [none, some (g_I v1), some (g_J (v2 * 2)), none, some (g_I (v4 + 1)), none, none, none, none]) dX12_floatBits_29 rfl hc (by decide) rfl ?_
    refine g_goto dX12_floatBits_32 rfl ?_
    exact hF
theorem dX12_forget_0 : decode cX12_forget 0 = .ok (.aload_n 0, 1) := by decide +kernel
theorem dX12_forget_1 : decode cX12_forget 1 = .ok (.iconst 0, 1) := by decide +kernel
theorem dX12_forget_2 : decode cX12_forget 2 = .ok (.putfield 1, 3) := by decide +kernel
theorem dX12_forget_5 : decode cX12_forget 5 = .ok (.aload_n 0, 1) := by decide +kernel
theorem dX12_forget_6 : decode cX12_forget 6 = .ok (.getfield 13, 3) := by decide +kernel
theorem dX12_forget_9 : decode cX12_forget 9 = .ok (.sipush 146, 3) := by decide +kernel
theorem dX12_forget_12 : decode cX12_forget 12 = .ok (.iaload, 1) := by decide +kernel
theorem dX12_forget_13 : decode cX12_forget 13 = .ok (.iconst 1, 1) := by decide +kernel
theorem dX12_forget_14 : decode cX12_forget 14 = .ok (.if_icmp .eq 15, 3) := by decide +kernel
theorem dX12_forget_17 : decode cX12_forget 17 = .ok (.aload_n 0, 1) := by decide +kernel
theorem dX12_forget_18 : decode cX12_forget 18 = .ok (.getfield 13, 3) := by decide +kernel
theorem dX12_forget_21 : decode cX12_forget 21 = .ok (.sipush 147, 3) := by decide +kernel
theorem dX12_forget_24 : decode cX12_forget 24 = .ok (.iaload, 1) := by decide +kernel
theorem dX12_forget_25 : decode cX12_forget 25 = .ok (.iconst (-1), 1) := by decide +kernel
theorem dX12_forget_26 : decode cX12_forget 26 = .ok (.if_icmp .ne 6, 3) := by decide +kernel
theorem dX12_forget_29 : decode cX12_forget 29 = .ok (.bipush (-5), 2) := by decide +kernel
theorem dX12_forget_31 : decode cX12_forget 31 = .ok (.ireturn, 1) := by decide +kernel
theorem dX12_forget_32 : decode cX12_forget 32 = .ok (.aload_n 0, 1) := by decide +kernel
theorem dX12_forget_33 : decode cX12_forget 33 = .ok (.invokevirtual 285, 3) := by decide +kernel
theorem dX12_forget_36 : decode cX12_forget 36 = .ok (.aload_n 0, 1) := by decide +kernel
theorem dX12_forget_37 : decode cX12_forget 37 = .ok (.getfield 13, 3) := by decide +kernel
theorem dX12_forget_40 : decode cX12_forget 40 = .ok (.sipush 147, 3) := by decide +kernel
theorem dX12_forget_43 : decode cX12_forget 43 = .ok (.iconst (-1), 1) := by decide +kernel
theorem dX12_forget_44 : decode cX12_forget 44 = .ok (.iastore, 1) := by decide +kernel
theorem dX12_forget_45 : decode cX12_forget 45 = .ok (.iconst 0, 1) := by decide +kernel
theorem dX12_forget_46 : decode cX12_forget 46 = .ok (.ireturn, 1) := by decide +kernel
abbrev k_X12_forget (E : g_E) (l : Launch) (D : g_D) (K : Int → g_D → Prop) : Prop := g_Ki E l m_X12_forget 1 [g_R 208] g_SH D K
abbrev n_X12_forget (E : g_E) (l : Launch) (D : g_D) (pc : Nat) (L : List (Option g_V)) (K : Int → g_D → Prop) : Prop := g_N E l m_X12_forget 1 pc L [] g_SH D (g_Ri g_SH K)
theorem s_X12_forget {E : g_E} {l : Launch} {D : g_D} {K : Int → g_D → Prop}   (hF : g_okD D → ∀ D1, D1 = g_up D 208 0 0 → (((D 209 146) = 1 → K (-5) D1) ∧ (¬ (D 209 146) = 1 → (¬ (D 209 147) = (-1) → k_X12_notes E l D1 (fun D2 => ∀ D3, D3 = g_up D2 209 147 (-1) → (K 0 D3))) ∧ ((D 209 147) = (-1) → K (-5) D1)))) : k_X12_forget E l D K := by
  refine g_enter (by decide) (Nat.le_of_ble_eq_true rfl) ?_
  show g_N E l m_X12_forget 1 0 [some (g_R 208)] [] g_SH D (g_Ri g_SH K)
  refine g_use (fun ok => ?_)
  have hF := hF ok.2.1
  refine g_aload_n dX12_forget_0 rfl ?_
  refine g_iconst dX12_forget_1 ⟨by decide, by decide⟩ ?_
  let D1 : g_D := g_up D 208 0 0
  have hF := hF D1 rfl
  refine g_put dX12_forget_2 fd_X12_1 (g_ftyI (C := RX12) (T := TX12) (N := 51) rfl rfl (by decide +kernel)) sh_208 rfl ?_
  refine g_aload_n dX12_forget_5 rfl ?_
  refine g_getR dX12_forget_6 fd_X12_13 sh_208 rfl ?_
  refine g_sipush dX12_forget_9 ⟨by decide, by decide⟩ ?_
  refine g_iald dX12_forget_12 sh_209 (by decide) (by decide) ?_
  refine g_iconst dX12_forget_13 ⟨by decide, by decide⟩ ?_
  refine g_ceq dX12_forget_14 rfl (fun q => ?_) (fun q => ?_)
  · have hF := hF.1 q
    refine g_bipush dX12_forget_29 ⟨by decide, by decide⟩ ?_
    exact gw_iret dX12_forget_31 rfl hF
  · have hF := hF.2 q
    refine g_aload_n dX12_forget_17 rfl ?_
    refine g_getR dX12_forget_18 fd_X12_13 sh_208 rfl ?_
    refine g_sipush dX12_forget_21 ⟨by decide, by decide⟩ ?_
    refine g_iald dX12_forget_24 sh_209 (by decide) (by decide) ?_
    refine g_iconst dX12_forget_25 ⟨by decide, by decide⟩ ?_
    refine g_cne dX12_forget_26 rfl (fun q => ?_) (fun q => ?_)
    · have hF := hF.1 q
      refine g_aload_n dX12_forget_32 rfl ?_
      refine gw_cVv (b := 208) (As := []) (rest := []) dX12_forget_33 mv_X12_285 sh_208 rfl (Nat.le_of_ble_eq_true rfl) (by decide) rfl hF ?_
      intro D2 hF
      refine g_aload_n dX12_forget_36 rfl ?_
      refine g_getR dX12_forget_37 fd_X12_13 sh_208 rfl ?_
      refine g_sipush dX12_forget_40 ⟨by decide, by decide⟩ ?_
      refine g_iconst dX12_forget_43 ⟨by decide, by decide⟩ ?_
      let D3 : g_D := g_up D2 209 147 (-1)
      have hF := hF D3 rfl
      refine g_iast dX12_forget_44 sh_209 (by decide) (by decide) ?_
      refine g_iconst dX12_forget_45 ⟨by decide, by decide⟩ ?_
      exact gw_iret dX12_forget_46 rfl hF
    · have hF := hF.2 q
      refine g_bipush dX12_forget_29 ⟨by decide, by decide⟩ ?_
      exact gw_iret dX12_forget_31 rfl hF
theorem dX12_takesCells_0 : decode cX12_takesCells 0 = .ok (.iload_n 1, 1) := by decide +kernel
theorem dX12_takesCells_1 : decode cX12_takesCells 1 = .ok (.i2l, 1) := by decide +kernel
theorem dX12_takesCells_2 : decode cX12_takesCells 2 = .ok (.lconst 0, 1) := by decide +kernel
theorem dX12_takesCells_3 : decode cX12_takesCells 3 = .ok (.ldc2_w 129, 3) := by decide +kernel
theorem dX12_takesCells_6 : decode cX12_takesCells 6 = .ok (.invokestatic 131, 3) := by decide +kernel
theorem dX12_takesCells_9 : decode cX12_takesCells 9 = .ok (.ifCond .eq 11, 3) := by decide +kernel
theorem dX12_takesCells_12 : decode cX12_takesCells 12 = .ok (.iload_n 1, 1) := by decide +kernel
theorem dX12_takesCells_13 : decode cX12_takesCells 13 = .ok (.aload_n 0, 1) := by decide +kernel
theorem dX12_takesCells_14 : decode cX12_takesCells 14 = .ok (.getfield 126, 3) := by decide +kernel
theorem dX12_takesCells_17 : decode cX12_takesCells 17 = .ok (.if_icmp .le 6, 3) := by decide +kernel
theorem dX12_takesCells_20 : decode cX12_takesCells 20 = .ok (.bipush (-3), 2) := by decide +kernel
theorem dX12_takesCells_22 : decode cX12_takesCells 22 = .ok (.ireturn, 1) := by decide +kernel
theorem dX12_takesCells_23 : decode cX12_takesCells 23 = .ok (.iconst 0, 1) := by decide +kernel
theorem dX12_takesCells_24 : decode cX12_takesCells 24 = .ok (.istore 4, 2) := by decide +kernel
theorem dX12_takesCells_26 : decode cX12_takesCells 26 = .ok (.iload 4, 2) := by decide +kernel
theorem dX12_takesCells_28 : decode cX12_takesCells 28 = .ok (.bipush 40, 2) := by decide +kernel
theorem dX12_takesCells_30 : decode cX12_takesCells 30 = .ok (.if_icmp .ge 35, 3) := by decide +kernel
theorem dX12_takesCells_33 : decode cX12_takesCells 33 = .ok (.aload_n 0, 1) := by decide +kernel
theorem dX12_takesCells_34 : decode cX12_takesCells 34 = .ok (.getfield 13, 3) := by decide +kernel
theorem dX12_takesCells_37 : decode cX12_takesCells 37 = .ok (.iload_n 3, 1) := by decide +kernel
theorem dX12_takesCells_38 : decode cX12_takesCells 38 = .ok (.iload 4, 2) := by decide +kernel
theorem dX12_takesCells_40 : decode cX12_takesCells 40 = .ok (.iadd, 1) := by decide +kernel
theorem dX12_takesCells_41 : decode cX12_takesCells 41 = .ok (.iload 4, 2) := by decide +kernel
theorem dX12_takesCells_43 : decode cX12_takesCells 43 = .ok (.iload_n 1, 1) := by decide +kernel
theorem dX12_takesCells_44 : decode cX12_takesCells 44 = .ok (.if_icmp .ge 13, 3) := by decide +kernel
theorem dX12_takesCells_47 : decode cX12_takesCells 47 = .ok (.aload_n 0, 1) := by decide +kernel
theorem dX12_takesCells_48 : decode cX12_takesCells 48 = .ok (.getfield 24, 3) := by decide +kernel
theorem dX12_takesCells_51 : decode cX12_takesCells 51 = .ok (.iload 4, 2) := by decide +kernel
theorem dX12_takesCells_53 : decode cX12_takesCells 53 = .ok (.iaload, 1) := by decide +kernel
theorem dX12_takesCells_54 : decode cX12_takesCells 54 = .ok (.goto 4, 3) := by decide +kernel
theorem dX12_takesCells_57 : decode cX12_takesCells 57 = .ok (.iconst 0, 1) := by decide +kernel
theorem dX12_takesCells_58 : decode cX12_takesCells 58 = .ok (.iastore, 1) := by decide +kernel
theorem dX12_takesCells_59 : decode cX12_takesCells 59 = .ok (.iinc 4 1, 3) := by decide +kernel
theorem dX12_takesCells_62 : decode cX12_takesCells 62 = .ok (.goto (-36), 3) := by decide +kernel
theorem dX12_takesCells_65 : decode cX12_takesCells 65 = .ok (.aload_n 0, 1) := by decide +kernel
theorem dX12_takesCells_66 : decode cX12_takesCells 66 = .ok (.getfield 13, 3) := by decide +kernel
theorem dX12_takesCells_69 : decode cX12_takesCells 69 = .ok (.iload_n 2, 1) := by decide +kernel
theorem dX12_takesCells_70 : decode cX12_takesCells 70 = .ok (.iload_n 1, 1) := by decide +kernel
theorem dX12_takesCells_71 : decode cX12_takesCells 71 = .ok (.iastore, 1) := by decide +kernel
theorem dX12_takesCells_72 : decode cX12_takesCells 72 = .ok (.aload_n 0, 1) := by decide +kernel
theorem dX12_takesCells_73 : decode cX12_takesCells 73 = .ok (.iconst 0, 1) := by decide +kernel
theorem dX12_takesCells_74 : decode cX12_takesCells 74 = .ok (.putfield 126, 3) := by decide +kernel
theorem dX12_takesCells_77 : decode cX12_takesCells 77 = .ok (.iload_n 1, 1) := by decide +kernel
theorem dX12_takesCells_78 : decode cX12_takesCells 78 = .ok (.ireturn, 1) := by decide +kernel
abbrev k_X12_takesCells (E : g_E) (l : Launch) (D : g_D) (v1 : Int) (v2 : Int) (v3 : Int) (K : Int → g_D → Prop) : Prop := g_Ki E l m_X12_takesCells 1 [g_R 208, g_I v1, g_I v2, g_I v3] g_SH D K
abbrev n_X12_takesCells (E : g_E) (l : Launch) (D : g_D) (pc : Nat) (L : List (Option g_V)) (K : Int → g_D → Prop) : Prop := g_N E l m_X12_takesCells 1 pc L [] g_SH D (g_Ri g_SH K)
theorem s_X12_takesCells {E : g_E} {l : Launch} {D : g_D} {K : Int → g_D → Prop} {v1 : Int} {v2 : Int} {v3 : Int}  (hF : g_okD D → g_r v1 → g_r v2 → g_r v3 → k_X12_within E l g_SH D v1 0 40 (fun x1 D1 => g_r x1 → (x1 = 0 → K (-3) D1) ∧ (¬ x1 = 0 → (v1 ≤ (D1 208 5) → n_X12_takesCells E l D1 26 [some (g_R 208), some (g_I v1), some (g_I v2), some (g_I v3), some (g_I 0)] K) ∧ (¬ v1 ≤ (D1 208 5) → K (-3) D1)))) : k_X12_takesCells E l D v1 v2 v3 K := by
  refine g_enter (by decide) (Nat.le_of_ble_eq_true rfl) ?_
  show g_N E l m_X12_takesCells 1 0 [some (g_R 208), some (g_I v1), some (g_I v2), some (g_I v3), none] [] g_SH D (g_Ri g_SH K)
  refine g_use (fun ok => ?_)
  have hF := hF ok.2.1 (ok.loc (i := 1) rfl) (ok.loc (i := 2) rfl) (ok.loc (i := 3) rfl)
  refine g_iload_n dX12_takesCells_0 rfl ?_
  refine g_i2l dX12_takesCells_1 ?_
  refine g_lconst dX12_takesCells_2 ?_
  refine g_ldc2 dX12_takesCells_3 ⟨by decide, by decide⟩ kl_X12_129 ?_
  refine gw_cSi (As := [g_J v1, g_J 0, g_J 40]) (rest := []) dX12_takesCells_6 ms_X12_131 rfl (Nat.le_of_ble_eq_true rfl) (by decide) rfl hF ?_
  intro x1 D1 hx1 hF
  have hF := hF hx1
  refine g_ifeq dX12_takesCells_9 rfl (fun q => ?_) (fun q => ?_)
  · have hF := hF.1 q
    refine g_bipush dX12_takesCells_20 ⟨by decide, by decide⟩ ?_
    exact gw_iret dX12_takesCells_22 rfl hF
  · have hF := hF.2 q
    refine g_iload_n dX12_takesCells_12 rfl ?_
    refine g_aload_n dX12_takesCells_13 rfl ?_
    refine g_getI dX12_takesCells_14 fd_X12_126 sh_208 rfl ?_
    refine g_cle dX12_takesCells_17 rfl (fun q => ?_) (fun q => ?_)
    · have hF := hF.1 q
      refine g_iconst dX12_takesCells_23 ⟨by decide, by decide⟩ ?_
      refine gw_istore (L' := [some (g_R 208), some (g_I v1), some (g_I v2), some (g_I v3), some (g_I 0)]) dX12_takesCells_24 (by decide) rfl ?_
      exact hF
    · have hF := hF.2 q
      refine g_bipush dX12_takesCells_20 ⟨by decide, by decide⟩ ?_
      exact gw_iret dX12_takesCells_22 rfl hF
theorem s_X12_takesCells_26 {E : g_E} {l : Launch} {D : g_D} {K : Int → g_D → Prop} {v1 : Int} {v2 : Int} {v3 : Int} {v4 : Int}  (hF : g_okD D → g_r v1 → g_r v2 → g_r v3 → g_r v4 → (40 ≤ v4 → (0 ≤ v2 ∧ v2 < 1557) ∧ (∀ D1, D1 = g_up D 209 v2.toNat v1 → (∀ D2, D2 = g_up D1 208 5 0 → (K v1 D2)))) ∧ (¬ 40 ≤ v4 → (g_r (v3 + v4)) ∧ ((v1 ≤ v4 → (0 ≤ (v3 + v4) ∧ (v3 + v4) < 1557) ∧ (∀ D3, D3 = g_up D 209 (v3 + v4).toNat 0 → ((g_r (v4 + 1)) ∧ (n_X12_takesCells E l D3 26 [some (g_R 208), some (g_I v1), some (g_I v2), some (g_I v3), some (g_I (v4 + 1))] K)))) ∧ (¬ v1 ≤ v4 → (0 ≤ v4 ∧ v4 < 160) ∧ ((0 ≤ (v3 + v4) ∧ (v3 + v4) < 1557) ∧ (∀ D4, D4 = g_up D 209 (v3 + v4).toNat (D 212 v4.toNat) → ((g_r (v4 + 1)) ∧ (n_X12_takesCells E l D4 26 [some (g_R 208), some (g_I v1), some (g_I v2), some (g_I v3), some (g_I (v4 + 1))] K)))))))) : n_X12_takesCells E l D 26 [some (g_R 208), some (g_I v1), some (g_I v2), some (g_I v3), some (g_I v4)] K := by
  refine g_use (fun ok => ?_)
  have hF := hF ok.2.1 (ok.loc (i := 1) rfl) (ok.loc (i := 2) rfl) (ok.loc (i := 3) rfl) (ok.loc (i := 4) rfl)
  refine g_iload dX12_takesCells_26 rfl ?_
  refine g_bipush dX12_takesCells_28 ⟨by decide, by decide⟩ ?_
  refine g_cge dX12_takesCells_30 rfl (fun q => ?_) (fun q => ?_)
  · have hF := hF.1 q
    refine g_aload_n dX12_takesCells_65 rfl ?_
    refine g_getR dX12_takesCells_66 fd_X12_13 sh_208 rfl ?_
    refine g_iload_n dX12_takesCells_69 rfl ?_
    refine g_iload_n dX12_takesCells_70 rfl ?_
    obtain ⟨hc, hF⟩ := hF
    let D1 : g_D := g_up D 209 v2.toNat v1
    have hF := hF D1 rfl
    refine g_iast dX12_takesCells_71 sh_209 hc.1 hc.2 ?_
    refine g_aload_n dX12_takesCells_72 rfl ?_
    refine g_iconst dX12_takesCells_73 ⟨by decide, by decide⟩ ?_
    let D2 : g_D := g_up D1 208 5 0
    have hF := hF D2 rfl
    refine g_put dX12_takesCells_74 fd_X12_126 (g_ftyI (C := RX12) (T := TX12) (N := 51) rfl rfl (by decide +kernel)) sh_208 rfl ?_
    refine g_iload_n dX12_takesCells_77 rfl ?_
    exact gw_iret dX12_takesCells_78 rfl hF
  · have hF := hF.2 q
    refine g_aload_n dX12_takesCells_33 rfl ?_
    refine g_getR dX12_takesCells_34 fd_X12_13 sh_208 rfl ?_
    refine g_iload_n dX12_takesCells_37 rfl ?_
    refine g_iload dX12_takesCells_38 rfl ?_
    obtain ⟨hc, hF⟩ := hF
    refine g_iadd dX12_takesCells_40 hc ?_
    refine g_iload dX12_takesCells_41 rfl ?_
    refine g_iload_n dX12_takesCells_43 rfl ?_
    refine g_cge dX12_takesCells_44 rfl (fun q => ?_) (fun q => ?_)
    · have hF := hF.1 q
      refine g_iconst dX12_takesCells_57 ⟨by decide, by decide⟩ ?_
      obtain ⟨hc, hF⟩ := hF
      let D3 : g_D := g_up D 209 (v3 + v4).toNat 0
      have hF := hF D3 rfl
      refine g_iast dX12_takesCells_58 sh_209 hc.1 hc.2 ?_
      obtain ⟨hc, hF⟩ := hF
      refine gw_iinc (L' := [some (g_R 208), some (g_I v1), some (g_I v2), some (g_I v3), some (g_I (v4 + 1))]) dX12_takesCells_59 rfl hc (by decide) rfl ?_
      refine g_goto dX12_takesCells_62 rfl ?_
      exact hF
    · have hF := hF.2 q
      refine g_aload_n dX12_takesCells_47 rfl ?_
      refine g_getR dX12_takesCells_48 fd_X12_24 sh_208 rfl ?_
      refine g_iload dX12_takesCells_51 rfl ?_
      obtain ⟨hc, hF⟩ := hF
      refine g_iald dX12_takesCells_53 sh_212 hc.1 hc.2 ?_
      refine g_goto dX12_takesCells_54 rfl ?_
      obtain ⟨hc, hF⟩ := hF
      let D4 : g_D := g_up D 209 (v3 + v4).toNat (D 212 v4.toNat)
      have hF := hF D4 rfl
      refine g_iast dX12_takesCells_58 sh_209 hc.1 hc.2 ?_
      obtain ⟨hc, hF⟩ := hF
      refine gw_iinc (L' := [some (g_R 208), some (g_I v1), some (g_I v2), some (g_I v3), some (g_I (v4 + 1))]) dX12_takesCells_59 rfl hc (by decide) rfl ?_
      refine g_goto dX12_takesCells_62 rfl ?_
      exact hF
theorem dX12_fresh_0 : decode cX12_fresh 0 = .ok (.aload_n 0, 1) := by decide +kernel
theorem dX12_fresh_1 : decode cX12_fresh 1 = .ok (.iconst 0, 1) := by decide +kernel
theorem dX12_fresh_2 : decode cX12_fresh 2 = .ok (.putfield 1, 3) := by decide +kernel
theorem dX12_fresh_5 : decode cX12_fresh 5 = .ok (.aload_n 0, 1) := by decide +kernel
theorem dX12_fresh_6 : decode cX12_fresh 6 = .ok (.iload_n 1, 1) := by decide +kernel
theorem dX12_fresh_7 : decode cX12_fresh 7 = .ok (.iconst 1, 1) := by decide +kernel
theorem dX12_fresh_8 : decode cX12_fresh 8 = .ok (.bipush 46, 2) := by decide +kernel
theorem dX12_fresh_10 : decode cX12_fresh 10 = .ok (.invokevirtual 135, 3) := by decide +kernel
theorem dX12_fresh_13 : decode cX12_fresh 13 = .ok (.ireturn, 1) := by decide +kernel
abbrev k_X12_fresh (E : g_E) (l : Launch) (D : g_D) (v1 : Int) (K : Int → g_D → Prop) : Prop := g_Ki E l m_X12_fresh 2 [g_R 208, g_I v1] g_SH D K
abbrev n_X12_fresh (E : g_E) (l : Launch) (D : g_D) (pc : Nat) (L : List (Option g_V)) (K : Int → g_D → Prop) : Prop := g_N E l m_X12_fresh 2 pc L [] g_SH D (g_Ri g_SH K)
theorem s_X12_fresh {E : g_E} {l : Launch} {D : g_D} {K : Int → g_D → Prop} {v1 : Int}  (hF : g_okD D → g_r v1 → ∀ D1, D1 = g_up D 208 0 0 → (k_X12_takesCells E l D1 v1 1 46 (fun x2 D2 => g_r x2 → K x2 D2))) : k_X12_fresh E l D v1 K := by
  refine g_enter (by decide) (Nat.le_of_ble_eq_true rfl) ?_
  show g_N E l m_X12_fresh 2 0 [some (g_R 208), some (g_I v1)] [] g_SH D (g_Ri g_SH K)
  refine g_use (fun ok => ?_)
  have hF := hF ok.2.1 (ok.loc (i := 1) rfl)
  refine g_aload_n dX12_fresh_0 rfl ?_
  refine g_iconst dX12_fresh_1 ⟨by decide, by decide⟩ ?_
  let D1 : g_D := g_up D 208 0 0
  have hF := hF D1 rfl
  refine g_put dX12_fresh_2 fd_X12_1 (g_ftyI (C := RX12) (T := TX12) (N := 51) rfl rfl (by decide +kernel)) sh_208 rfl ?_
  refine g_aload_n dX12_fresh_5 rfl ?_
  refine g_iload_n dX12_fresh_6 rfl ?_
  refine g_iconst dX12_fresh_7 ⟨by decide, by decide⟩ ?_
  refine g_bipush dX12_fresh_8 ⟨by decide, by decide⟩ ?_
  refine gw_cVi (b := 208) (As := [g_I v1, g_I 1, g_I 46]) (rest := []) dX12_fresh_10 mv_X12_135 sh_208 rfl (Nat.le_of_ble_eq_true rfl) (by decide) rfl hF ?_
  intro x2 D2 hx2 hF
  have hF := hF hx2
  exact gw_iret dX12_fresh_13 rfl hF
theorem dX12_lesser_0 : decode cX12_lesser 0 = .ok (.iload_n 0, 1) := by decide +kernel
theorem dX12_lesser_1 : decode cX12_lesser 1 = .ok (.iload_n 1, 1) := by decide +kernel
theorem dX12_lesser_2 : decode cX12_lesser 2 = .ok (.if_icmp .ge 7, 3) := by decide +kernel
theorem dX12_lesser_5 : decode cX12_lesser 5 = .ok (.iload_n 0, 1) := by decide +kernel
theorem dX12_lesser_6 : decode cX12_lesser 6 = .ok (.goto 4, 3) := by decide +kernel
theorem dX12_lesser_9 : decode cX12_lesser 9 = .ok (.iload_n 1, 1) := by decide +kernel
theorem dX12_lesser_10 : decode cX12_lesser 10 = .ok (.ireturn, 1) := by decide +kernel
abbrev k_X12_lesser (E : g_E) (l : Launch) (sh : List g_Sh) (D : g_D) (v0 : Int) (v1 : Int) (K : Int → g_D → Prop) : Prop := g_Ki E l m_X12_lesser 0 [g_I v0, g_I v1] sh D K
abbrev n_X12_lesser (E : g_E) (l : Launch) (sh : List g_Sh) (D : g_D) (pc : Nat) (L : List (Option g_V)) (K : Int → g_D → Prop) : Prop := g_N E l m_X12_lesser 0 pc L [] sh D (g_Ri sh K)
theorem s_X12_lesser {E : g_E} {l : Launch} {sh : List g_Sh} {D : g_D} {K : Int → g_D → Prop} {v0 : Int} {v1 : Int}  (hF : g_okD D → g_r v0 → g_r v1 → (v1 ≤ v0 → K v1 D) ∧ (¬ v1 ≤ v0 → K v0 D)) : k_X12_lesser E l sh D v0 v1 K := by
  refine g_enter (by decide) (Nat.le_of_ble_eq_true rfl) ?_
  show g_N E l m_X12_lesser 0 0 [some (g_I v0), some (g_I v1)] [] sh D (g_Ri sh K)
  refine g_use (fun ok => ?_)
  have hF := hF ok.2.1 (ok.loc (i := 0) rfl) (ok.loc (i := 1) rfl)
  refine g_iload_n dX12_lesser_0 rfl ?_
  refine g_iload_n dX12_lesser_1 rfl ?_
  refine g_cge dX12_lesser_2 rfl (fun q => ?_) (fun q => ?_)
  · have hF := hF.1 q
    refine g_iload_n dX12_lesser_9 rfl ?_
    exact gw_iret dX12_lesser_10 rfl hF
  · have hF := hF.2 q
    refine g_iload_n dX12_lesser_5 rfl ?_
    refine g_goto dX12_lesser_6 rfl ?_
    exact gw_iret dX12_lesser_10 rfl hF
theorem dX12_go_0 : decode cX12_go 0 = .ok (.aload_n 0, 1) := by decide +kernel
theorem dX12_go_1 : decode cX12_go 1 = .ok (.iconst 0, 1) := by decide +kernel
theorem dX12_go_2 : decode cX12_go 2 = .ok (.putfield 1, 3) := by decide +kernel
theorem dX12_go_5 : decode cX12_go 5 = .ok (.iload_n 1, 1) := by decide +kernel
theorem dX12_go_6 : decode cX12_go 6 = .ok (.i2l, 1) := by decide +kernel
theorem dX12_go_7 : decode cX12_go 7 = .ok (.lconst 1, 1) := by decide +kernel
theorem dX12_go_8 : decode cX12_go 8 = .ok (.ldc2_w 372, 3) := by decide +kernel
theorem dX12_go_11 : decode cX12_go 11 = .ok (.invokestatic 131, 3) := by decide +kernel
theorem dX12_go_14 : decode cX12_go 14 = .ok (.ifCond .ne 6, 3) := by decide +kernel
theorem dX12_go_17 : decode cX12_go 17 = .ok (.bipush (-3), 2) := by decide +kernel
theorem dX12_go_19 : decode cX12_go 19 = .ok (.ireturn, 1) := by decide +kernel
theorem dX12_go_20 : decode cX12_go 20 = .ok (.aload_n 0, 1) := by decide +kernel
theorem dX12_go_21 : decode cX12_go 21 = .ok (.getfield 13, 3) := by decide +kernel
theorem dX12_go_24 : decode cX12_go 24 = .ok (.sipush 146, 3) := by decide +kernel
theorem dX12_go_27 : decode cX12_go 27 = .ok (.iaload, 1) := by decide +kernel
theorem dX12_go_28 : decode cX12_go 28 = .ok (.ifCond .ne 6, 3) := by decide +kernel
theorem dX12_go_31 : decode cX12_go 31 = .ok (.bipush (-5), 2) := by decide +kernel
theorem dX12_go_33 : decode cX12_go 33 = .ok (.ireturn, 1) := by decide +kernel
theorem dX12_go_34 : decode cX12_go 34 = .ok (.aload_n 0, 1) := by decide +kernel
theorem dX12_go_35 : decode cX12_go 35 = .ok (.invokevirtual 324, 3) := by decide +kernel
theorem dX12_go_38 : decode cX12_go 38 = .ok (.pop, 1) := by decide +kernel
theorem dX12_go_39 : decode cX12_go 39 = .ok (.aload_n 0, 1) := by decide +kernel
theorem dX12_go_40 : decode cX12_go 40 = .ok (.getfield 342, 3) := by decide +kernel
theorem dX12_go_43 : decode cX12_go 43 = .ok (.aload_n 0, 1) := by decide +kernel
theorem dX12_go_44 : decode cX12_go 44 = .ok (.getfield 13, 3) := by decide +kernel
theorem dX12_go_47 : decode cX12_go 47 = .ok (.sipush 147, 3) := by decide +kernel
theorem dX12_go_50 : decode cX12_go 50 = .ok (.iaload, 1) := by decide +kernel
theorem dX12_go_51 : decode cX12_go 51 = .ok (.iload_n 1, 1) := by decide +kernel
theorem dX12_go_52 : decode cX12_go 52 = .ok (.iadd, 1) := by decide +kernel
theorem dX12_go_53 : decode cX12_go 53 = .ok (.invokestatic 179, 3) := by decide +kernel
theorem dX12_go_56 : decode cX12_go 56 = .ok (.istore_n 2, 1) := by decide +kernel
theorem dX12_go_57 : decode cX12_go 57 = .ok (.iload_n 2, 1) := by decide +kernel
theorem dX12_go_58 : decode cX12_go 58 = .ok (.aload_n 0, 1) := by decide +kernel
theorem dX12_go_59 : decode cX12_go 59 = .ok (.getfield 13, 3) := by decide +kernel
theorem dX12_go_62 : decode cX12_go 62 = .ok (.sipush 147, 3) := by decide +kernel
theorem dX12_go_65 : decode cX12_go 65 = .ok (.iaload, 1) := by decide +kernel
theorem dX12_go_66 : decode cX12_go 66 = .ok (.isub, 1) := by decide +kernel
theorem dX12_go_67 : decode cX12_go 67 = .ok (.istore_n 3, 1) := by decide +kernel
theorem dX12_go_68 : decode cX12_go 68 = .ok (.iload_n 3, 1) := by decide +kernel
theorem dX12_go_69 : decode cX12_go 69 = .ok (.ifCond .ne 5, 3) := by decide +kernel
theorem dX12_go_72 : decode cX12_go 72 = .ok (.iconst 0, 1) := by decide +kernel
theorem dX12_go_73 : decode cX12_go 73 = .ok (.ireturn, 1) := by decide +kernel
theorem dX12_go_74 : decode cX12_go 74 = .ok (.aload_n 0, 1) := by decide +kernel
theorem dX12_go_75 : decode cX12_go 75 = .ok (.invokevirtual 285, 3) := by decide +kernel
theorem dX12_go_78 : decode cX12_go 78 = .ok (.aload_n 0, 1) := by decide +kernel
theorem dX12_go_79 : decode cX12_go 79 = .ok (.invokevirtual 374, 3) := by decide +kernel
theorem dX12_go_82 : decode cX12_go 82 = .ok (.aload_n 0, 1) := by decide +kernel
theorem dX12_go_83 : decode cX12_go 83 = .ok (.aload_n 0, 1) := by decide +kernel
theorem dX12_go_84 : decode cX12_go 84 = .ok (.getfield 13, 3) := by decide +kernel
theorem dX12_go_87 : decode cX12_go 87 = .ok (.sipush 147, 3) := by decide +kernel
theorem dX12_go_90 : decode cX12_go 90 = .ok (.iaload, 1) := by decide +kernel
theorem dX12_go_91 : decode cX12_go 91 = .ok (.iload_n 2, 1) := by decide +kernel
theorem dX12_go_92 : decode cX12_go 92 = .ok (.invokevirtual 377, 3) := by decide +kernel
theorem dX12_go_95 : decode cX12_go 95 = .ok (.aload_n 0, 1) := by decide +kernel
theorem dX12_go_96 : decode cX12_go 96 = .ok (.invokevirtual 380, 3) := by decide +kernel
theorem dX12_go_99 : decode cX12_go 99 = .ok (.aload_n 0, 1) := by decide +kernel
theorem dX12_go_100 : decode cX12_go 100 = .ok (.getfield 13, 3) := by decide +kernel
theorem dX12_go_103 : decode cX12_go 103 = .ok (.sipush 147, 3) := by decide +kernel
theorem dX12_go_106 : decode cX12_go 106 = .ok (.iload_n 2, 1) := by decide +kernel
theorem dX12_go_107 : decode cX12_go 107 = .ok (.iastore, 1) := by decide +kernel
theorem dX12_go_108 : decode cX12_go 108 = .ok (.iload_n 3, 1) := by decide +kernel
theorem dX12_go_109 : decode cX12_go 109 = .ok (.ireturn, 1) := by decide +kernel
abbrev k_X12_go (E : g_E) (l : Launch) (D : g_D) (v1 : Int) (K : Int → g_D → Prop) : Prop := g_Ki E l m_X12_go 5 [g_R 208, g_I v1] g_SH D K
abbrev n_X12_go (E : g_E) (l : Launch) (D : g_D) (pc : Nat) (L : List (Option g_V)) (K : Int → g_D → Prop) : Prop := g_N E l m_X12_go 5 pc L [] g_SH D (g_Ri g_SH K)
theorem s_X12_go {E : g_E} {l : Launch} {D : g_D} {K : Int → g_D → Prop} {v1 : Int}  (hF : g_okD D → g_r v1 → ∀ D1, D1 = g_up D 208 0 0 → (k_X12_within E l g_SH D1 v1 1 400 (fun x2 D2 => g_r x2 → (¬ x2 = 0 → (¬ (D2 209 146) = 0 → k_X12_laysSteps E l D2 (fun x3 D3 => g_r x3 → (g_r ((D3 209 147) + v1)) ∧ (k_X12_lesser E l g_SH D3 (D3 208 46) ((D3 209 147) + v1) (fun x4 D4 => g_r x4 → (g_r (x4 - (D4 209 147))) ∧ ((¬ (x4 - (D4 209 147)) = 0 → k_X12_notes E l D4 (fun D5 => k_X12_worksNow E l D5 (fun D6 => k_X12_doesSteps E l D6 (D6 209 147) x4 (fun D7 => k_X12_keepsWork E l D7 (fun D8 => ∀ D9, D9 = g_up D8 209 147 x4 → (K (x4 - (D4 209 147)) D9)))))) ∧ ((x4 - (D4 209 147)) = 0 → K 0 D4)))))) ∧ ((D2 209 146) = 0 → K (-5) D2)) ∧ (x2 = 0 → K (-3) D2)))) : k_X12_go E l D v1 K := by
  refine g_enter (by decide) (Nat.le_of_ble_eq_true rfl) ?_
  show g_N E l m_X12_go 5 0 [some (g_R 208), some (g_I v1), none, none] [] g_SH D (g_Ri g_SH K)
  refine g_use (fun ok => ?_)
  have hF := hF ok.2.1 (ok.loc (i := 1) rfl)
  refine g_aload_n dX12_go_0 rfl ?_
  refine g_iconst dX12_go_1 ⟨by decide, by decide⟩ ?_
  let D1 : g_D := g_up D 208 0 0
  have hF := hF D1 rfl
  refine g_put dX12_go_2 fd_X12_1 (g_ftyI (C := RX12) (T := TX12) (N := 51) rfl rfl (by decide +kernel)) sh_208 rfl ?_
  refine g_iload_n dX12_go_5 rfl ?_
  refine g_i2l dX12_go_6 ?_
  refine g_lconst dX12_go_7 ?_
  refine g_ldc2 dX12_go_8 ⟨by decide, by decide⟩ kl_X12_372 ?_
  refine gw_cSi (As := [g_J v1, g_J 1, g_J 400]) (rest := []) dX12_go_11 ms_X12_131 rfl (Nat.le_of_ble_eq_true rfl) (by decide) rfl hF ?_
  intro x2 D2 hx2 hF
  have hF := hF hx2
  refine g_ifne dX12_go_14 rfl (fun q => ?_) (fun q => ?_)
  · have hF := hF.1 q
    refine g_aload_n dX12_go_20 rfl ?_
    refine g_getR dX12_go_21 fd_X12_13 sh_208 rfl ?_
    refine g_sipush dX12_go_24 ⟨by decide, by decide⟩ ?_
    refine g_iald dX12_go_27 sh_209 (by decide) (by decide) ?_
    refine g_ifne dX12_go_28 rfl (fun q => ?_) (fun q => ?_)
    · have hF := hF.1 q
      refine g_aload_n dX12_go_34 rfl ?_
      refine gw_cVi (b := 208) (As := []) (rest := []) dX12_go_35 mv_X12_324 sh_208 rfl (Nat.le_of_ble_eq_true rfl) (by decide) rfl hF ?_
      intro x3 D3 hx3 hF
      have hF := hF hx3
      refine g_pop dX12_go_38 rfl ?_
      refine g_aload_n dX12_go_39 rfl ?_
      refine g_getI dX12_go_40 fd_X12_342 sh_208 rfl ?_
      refine g_aload_n dX12_go_43 rfl ?_
      refine g_getR dX12_go_44 fd_X12_13 sh_208 rfl ?_
      refine g_sipush dX12_go_47 ⟨by decide, by decide⟩ ?_
      refine g_iald dX12_go_50 sh_209 (by decide) (by decide) ?_
      refine g_iload_n dX12_go_51 rfl ?_
      obtain ⟨hc, hF⟩ := hF
      refine g_iadd dX12_go_52 hc ?_
      refine gw_cSi (As := [g_I (D3 208 46), g_I ((D3 209 147) + v1)]) (rest := []) dX12_go_53 ms_X12_179 rfl (Nat.le_of_ble_eq_true rfl) (by decide) rfl hF ?_
      intro x4 D4 hx4 hF
      have hF := hF hx4
      refine gw_istore_n (L' := [some (g_R 208), some (g_I v1), some (g_I x4), none]) dX12_go_56 (by decide) rfl ?_
      refine g_iload_n dX12_go_57 rfl ?_
      refine g_aload_n dX12_go_58 rfl ?_
      refine g_getR dX12_go_59 fd_X12_13 sh_208 rfl ?_
      refine g_sipush dX12_go_62 ⟨by decide, by decide⟩ ?_
      refine g_iald dX12_go_65 sh_209 (by decide) (by decide) ?_
      obtain ⟨hc, hF⟩ := hF
      refine g_isub dX12_go_66 hc ?_
      refine gw_istore_n (L' := [some (g_R 208), some (g_I v1), some (g_I x4), some (g_I (x4 - (D4 209 147)))]) dX12_go_67 (by decide) rfl ?_
      refine g_iload_n dX12_go_68 rfl ?_
      refine g_ifne dX12_go_69 rfl (fun q => ?_) (fun q => ?_)
      · have hF := hF.1 q
        refine g_aload_n dX12_go_74 rfl ?_
        refine gw_cVv (b := 208) (As := []) (rest := []) dX12_go_75 mv_X12_285 sh_208 rfl (Nat.le_of_ble_eq_true rfl) (by decide) rfl hF ?_
        intro D5 hF
        refine g_aload_n dX12_go_78 rfl ?_
        refine gw_cVv (b := 208) (As := []) (rest := []) dX12_go_79 mv_X12_374 sh_208 rfl (Nat.le_of_ble_eq_true rfl) (by decide) rfl hF ?_
        intro D6 hF
        refine g_aload_n dX12_go_82 rfl ?_
        refine g_aload_n dX12_go_83 rfl ?_
        refine g_getR dX12_go_84 fd_X12_13 sh_208 rfl ?_
        refine g_sipush dX12_go_87 ⟨by decide, by decide⟩ ?_
        refine g_iald dX12_go_90 sh_209 (by decide) (by decide) ?_
        refine g_iload_n dX12_go_91 rfl ?_
        refine gw_cVv (b := 208) (As := [g_I (D6 209 147), g_I x4]) (rest := []) dX12_go_92 mv_X12_377 sh_208 rfl (Nat.le_of_ble_eq_true rfl) (by decide) rfl hF ?_
        intro D7 hF
        refine g_aload_n dX12_go_95 rfl ?_
        refine gw_cVv (b := 208) (As := []) (rest := []) dX12_go_96 mv_X12_380 sh_208 rfl (Nat.le_of_ble_eq_true rfl) (by decide) rfl hF ?_
        intro D8 hF
        refine g_aload_n dX12_go_99 rfl ?_
        refine g_getR dX12_go_100 fd_X12_13 sh_208 rfl ?_
        refine g_sipush dX12_go_103 ⟨by decide, by decide⟩ ?_
        refine g_iload_n dX12_go_106 rfl ?_
        let D9 : g_D := g_up D8 209 147 x4
        have hF := hF D9 rfl
        refine g_iast dX12_go_107 sh_209 (by decide) (by decide) ?_
        refine g_iload_n dX12_go_108 rfl ?_
        exact gw_iret dX12_go_109 rfl hF
      · have hF := hF.2 q
        refine g_iconst dX12_go_72 ⟨by decide, by decide⟩ ?_
        exact gw_iret dX12_go_73 rfl hF
    · have hF := hF.2 q
      refine g_bipush dX12_go_31 ⟨by decide, by decide⟩ ?_
      exact gw_iret dX12_go_33 rfl hF
  · have hF := hF.2 q
    refine g_bipush dX12_go_17 ⟨by decide, by decide⟩ ?_
    exact gw_iret dX12_go_19 rfl hF
theorem dX12_isWritten_0 : decode cX12_isWritten 0 = .ok (.iconst 0, 1) := by decide +kernel
theorem dX12_isWritten_1 : decode cX12_isWritten 1 = .ok (.istore_n 3, 1) := by decide +kernel
theorem dX12_isWritten_2 : decode cX12_isWritten 2 = .ok (.iload_n 3, 1) := by decide +kernel
theorem dX12_isWritten_3 : decode cX12_isWritten 3 = .ok (.iload_n 1, 1) := by decide +kernel
theorem dX12_isWritten_4 : decode cX12_isWritten 4 = .ok (.if_icmp .ge 20, 3) := by decide +kernel
theorem dX12_isWritten_7 : decode cX12_isWritten 7 = .ok (.aload_n 0, 1) := by decide +kernel
theorem dX12_isWritten_8 : decode cX12_isWritten 8 = .ok (.iload_n 3, 1) := by decide +kernel
theorem dX12_isWritten_9 : decode cX12_isWritten 9 = .ok (.iload_n 2, 1) := by decide +kernel
theorem dX12_isWritten_10 : decode cX12_isWritten 10 = .ok (.invokevirtual 339, 3) := by decide +kernel
theorem dX12_isWritten_13 : decode cX12_isWritten 13 = .ok (.ifCond .eq 5, 3) := by decide +kernel
theorem dX12_isWritten_16 : decode cX12_isWritten 16 = .ok (.iconst 1, 1) := by decide +kernel
theorem dX12_isWritten_17 : decode cX12_isWritten 17 = .ok (.ireturn, 1) := by decide +kernel
theorem dX12_isWritten_18 : decode cX12_isWritten 18 = .ok (.iinc 3 1, 3) := by decide +kernel
theorem dX12_isWritten_21 : decode cX12_isWritten 21 = .ok (.goto (-19), 3) := by decide +kernel
theorem dX12_isWritten_24 : decode cX12_isWritten 24 = .ok (.iconst 0, 1) := by decide +kernel
theorem dX12_isWritten_25 : decode cX12_isWritten 25 = .ok (.ireturn, 1) := by decide +kernel
abbrev k_X12_isWritten (E : g_E) (l : Launch) (D : g_D) (v1 : Int) (v2 : Int) (K : Int → g_D → Prop) : Prop := g_Ki E l m_X12_isWritten 2 [g_R 208, g_I v1, g_I v2] g_SH D K
abbrev n_X12_isWritten (E : g_E) (l : Launch) (D : g_D) (pc : Nat) (L : List (Option g_V)) (K : Int → g_D → Prop) : Prop := g_N E l m_X12_isWritten 2 pc L [] g_SH D (g_Ri g_SH K)
theorem s_X12_isWritten {E : g_E} {l : Launch} {D : g_D} {K : Int → g_D → Prop} {v1 : Int} {v2 : Int}  (hF : g_okD D → g_r v1 → g_r v2 → n_X12_isWritten E l D 2 [some (g_R 208), some (g_I v1), some (g_I v2), some (g_I 0)] K) : k_X12_isWritten E l D v1 v2 K := by
  refine g_enter (by decide) (Nat.le_of_ble_eq_true rfl) ?_
  show g_N E l m_X12_isWritten 2 0 [some (g_R 208), some (g_I v1), some (g_I v2), none] [] g_SH D (g_Ri g_SH K)
  refine g_use (fun ok => ?_)
  have hF := hF ok.2.1 (ok.loc (i := 1) rfl) (ok.loc (i := 2) rfl)
  refine g_iconst dX12_isWritten_0 ⟨by decide, by decide⟩ ?_
  refine gw_istore_n (L' := [some (g_R 208), some (g_I v1), some (g_I v2), some (g_I 0)]) dX12_isWritten_1 (by decide) rfl ?_
  exact hF
theorem s_X12_isWritten_2 {E : g_E} {l : Launch} {D : g_D} {K : Int → g_D → Prop} {v1 : Int} {v2 : Int} {v3 : Int}  (hF : g_okD D → g_r v1 → g_r v2 → g_r v3 → (v1 ≤ v3 → K 0 D) ∧ (¬ v1 ≤ v3 → k_X12_writes E l D v3 v2 (fun x1 D1 => g_r x1 → (x1 = 0 → (g_r (v3 + 1)) ∧ (n_X12_isWritten E l D1 2 [some (g_R 208), some (g_I v1), some (g_I v2), some (g_I (v3 + 1))] K)) ∧ (¬ x1 = 0 → K 1 D1)))) : n_X12_isWritten E l D 2 [some (g_R 208), some (g_I v1), some (g_I v2), some (g_I v3)] K := by
  refine g_use (fun ok => ?_)
  have hF := hF ok.2.1 (ok.loc (i := 1) rfl) (ok.loc (i := 2) rfl) (ok.loc (i := 3) rfl)
  refine g_iload_n dX12_isWritten_2 rfl ?_
  refine g_iload_n dX12_isWritten_3 rfl ?_
  refine g_cge dX12_isWritten_4 rfl (fun q => ?_) (fun q => ?_)
  · have hF := hF.1 q
    refine g_iconst dX12_isWritten_24 ⟨by decide, by decide⟩ ?_
    exact gw_zret dX12_isWritten_25 rfl (by decide) hF
  · have hF := hF.2 q
    refine g_aload_n dX12_isWritten_7 rfl ?_
    refine g_iload_n dX12_isWritten_8 rfl ?_
    refine g_iload_n dX12_isWritten_9 rfl ?_
    refine gw_cVi (b := 208) (As := [g_I v3, g_I v2]) (rest := []) dX12_isWritten_10 mv_X12_339 sh_208 rfl (Nat.le_of_ble_eq_true rfl) (by decide) rfl hF ?_
    intro x1 D1 hx1 hF
    have hF := hF hx1
    refine g_ifeq dX12_isWritten_13 rfl (fun q => ?_) (fun q => ?_)
    · have hF := hF.1 q
      obtain ⟨hc, hF⟩ := hF
      refine gw_iinc (L' := [some (g_R 208), some (g_I v1), some (g_I v2), some (g_I (v3 + 1))]) dX12_isWritten_18 rfl hc (by decide) rfl ?_
      refine g_goto dX12_isWritten_21 rfl ?_
      exact hF
    · have hF := hF.2 q
      refine g_iconst dX12_isWritten_16 ⟨by decide, by decide⟩ ?_
      exact gw_zret dX12_isWritten_17 rfl (by decide) hF
theorem dX12_hazard_0 : decode cX12_hazard 0 = .ok (.aload_n 0, 1) := by decide +kernel
theorem dX12_hazard_1 : decode cX12_hazard 1 = .ok (.iconst 0, 1) := by decide +kernel
theorem dX12_hazard_2 : decode cX12_hazard 2 = .ok (.putfield 1, 3) := by decide +kernel
theorem dX12_hazard_5 : decode cX12_hazard 5 = .ok (.iload_n 1, 1) := by decide +kernel
theorem dX12_hazard_6 : decode cX12_hazard 6 = .ok (.i2l, 1) := by decide +kernel
theorem dX12_hazard_7 : decode cX12_hazard 7 = .ok (.lconst 0, 1) := by decide +kernel
theorem dX12_hazard_8 : decode cX12_hazard 8 = .ok (.lconst 1, 1) := by decide +kernel
theorem dX12_hazard_9 : decode cX12_hazard 9 = .ok (.invokestatic 131, 3) := by decide +kernel
theorem dX12_hazard_12 : decode cX12_hazard 12 = .ok (.ifCond .ne 6, 3) := by decide +kernel
theorem dX12_hazard_15 : decode cX12_hazard 15 = .ok (.bipush (-2), 2) := by decide +kernel
theorem dX12_hazard_17 : decode cX12_hazard 17 = .ok (.ireturn, 1) := by decide +kernel
theorem dX12_hazard_18 : decode cX12_hazard 18 = .ok (.iconst 0, 1) := by decide +kernel
theorem dX12_hazard_19 : decode cX12_hazard 19 = .ok (.istore_n 2, 1) := by decide +kernel
theorem dX12_hazard_20 : decode cX12_hazard 20 = .ok (.iload_n 2, 1) := by decide +kernel
theorem dX12_hazard_21 : decode cX12_hazard 21 = .ok (.aload_n 0, 1) := by decide +kernel
theorem dX12_hazard_22 : decode cX12_hazard 22 = .ok (.getfield 13, 3) := by decide +kernel
theorem dX12_hazard_25 : decode cX12_hazard 25 = .ok (.sipush 213, 3) := by decide +kernel
theorem dX12_hazard_28 : decode cX12_hazard 28 = .ok (.iaload, 1) := by decide +kernel
theorem dX12_hazard_29 : decode cX12_hazard 29 = .ok (.if_icmp .ge 71, 3) := by decide +kernel
theorem dX12_hazard_32 : decode cX12_hazard 32 = .ok (.aload_n 0, 1) := by decide +kernel
theorem dX12_hazard_33 : decode cX12_hazard 33 = .ok (.iload_n 2, 1) := by decide +kernel
theorem dX12_hazard_34 : decode cX12_hazard 34 = .ok (.iconst 0, 1) := by decide +kernel
theorem dX12_hazard_35 : decode cX12_hazard 35 = .ok (.invokevirtual 336, 3) := by decide +kernel
theorem dX12_hazard_38 : decode cX12_hazard 38 = .ok (.iconst 2, 1) := by decide +kernel
theorem dX12_hazard_39 : decode cX12_hazard 39 = .ok (.if_icmp .le 6, 3) := by decide +kernel
theorem dX12_hazard_42 : decode cX12_hazard 42 = .ok (.goto 52, 3) := by decide +kernel
theorem dX12_hazard_45 : decode cX12_hazard 45 = .ok (.iconst 0, 1) := by decide +kernel
theorem dX12_hazard_46 : decode cX12_hazard 46 = .ok (.istore_n 3, 1) := by decide +kernel
theorem dX12_hazard_47 : decode cX12_hazard 47 = .ok (.iload_n 3, 1) := by decide +kernel
theorem dX12_hazard_48 : decode cX12_hazard 48 = .ok (.aload_n 0, 1) := by decide +kernel
theorem dX12_hazard_49 : decode cX12_hazard 49 = .ok (.iload_n 2, 1) := by decide +kernel
theorem dX12_hazard_50 : decode cX12_hazard 50 = .ok (.iconst 3, 1) := by decide +kernel
theorem dX12_hazard_51 : decode cX12_hazard 51 = .ok (.invokevirtual 336, 3) := by decide +kernel
theorem dX12_hazard_54 : decode cX12_hazard 54 = .ok (.if_icmp .ge 40, 3) := by decide +kernel
theorem dX12_hazard_57 : decode cX12_hazard 57 = .ok (.aload_n 0, 1) := by decide +kernel
theorem dX12_hazard_58 : decode cX12_hazard 58 = .ok (.iload_n 2, 1) := by decide +kernel
theorem dX12_hazard_59 : decode cX12_hazard 59 = .ok (.iconst 2, 1) := by decide +kernel
theorem dX12_hazard_60 : decode cX12_hazard 60 = .ok (.invokevirtual 336, 3) := by decide +kernel
theorem dX12_hazard_63 : decode cX12_hazard 63 = .ok (.iload_n 3, 1) := by decide +kernel
theorem dX12_hazard_64 : decode cX12_hazard 64 = .ok (.iadd, 1) := by decide +kernel
theorem dX12_hazard_65 : decode cX12_hazard 65 = .ok (.istore 4, 2) := by decide +kernel
theorem dX12_hazard_67 : decode cX12_hazard 67 = .ok (.aload_n 0, 1) := by decide +kernel
theorem dX12_hazard_68 : decode cX12_hazard 68 = .ok (.iload_n 2, 1) := by decide +kernel
theorem dX12_hazard_69 : decode cX12_hazard 69 = .ok (.iload 4, 2) := by decide +kernel
theorem dX12_hazard_71 : decode cX12_hazard 71 = .ok (.invokevirtual 417, 3) := by decide +kernel
theorem dX12_hazard_74 : decode cX12_hazard 74 = .ok (.ifCond .eq 14, 3) := by decide +kernel
theorem dX12_hazard_77 : decode cX12_hazard 77 = .ok (.iload_n 1, 1) := by decide +kernel
theorem dX12_hazard_78 : decode cX12_hazard 78 = .ok (.ifCond .ne 7, 3) := by decide +kernel
theorem dX12_hazard_81 : decode cX12_hazard 81 = .ok (.iload_n 2, 1) := by decide +kernel
theorem dX12_hazard_82 : decode cX12_hazard 82 = .ok (.goto 5, 3) := by decide +kernel
theorem dX12_hazard_85 : decode cX12_hazard 85 = .ok (.iload 4, 2) := by decide +kernel
theorem dX12_hazard_87 : decode cX12_hazard 87 = .ok (.ireturn, 1) := by decide +kernel
theorem dX12_hazard_88 : decode cX12_hazard 88 = .ok (.iinc 3 1, 3) := by decide +kernel
theorem dX12_hazard_91 : decode cX12_hazard 91 = .ok (.goto (-44), 3) := by decide +kernel
theorem dX12_hazard_94 : decode cX12_hazard 94 = .ok (.iinc 2 1, 3) := by decide +kernel
theorem dX12_hazard_97 : decode cX12_hazard 97 = .ok (.goto (-77), 3) := by decide +kernel
theorem dX12_hazard_100 : decode cX12_hazard 100 = .ok (.iconst (-1), 1) := by decide +kernel
theorem dX12_hazard_101 : decode cX12_hazard 101 = .ok (.ireturn, 1) := by decide +kernel
abbrev k_X12_hazard (E : g_E) (l : Launch) (D : g_D) (v1 : Int) (K : Int → g_D → Prop) : Prop := g_Ki E l m_X12_hazard 3 [g_R 208, g_I v1] g_SH D K
abbrev n_X12_hazard (E : g_E) (l : Launch) (D : g_D) (pc : Nat) (L : List (Option g_V)) (K : Int → g_D → Prop) : Prop := g_N E l m_X12_hazard 3 pc L [] g_SH D (g_Ri g_SH K)
theorem s_X12_hazard {E : g_E} {l : Launch} {D : g_D} {K : Int → g_D → Prop} {v1 : Int}  (hF : g_okD D → g_r v1 → ∀ D1, D1 = g_up D 208 0 0 → (k_X12_within E l g_SH D1 v1 0 1 (fun x2 D2 => g_r x2 → (¬ x2 = 0 → n_X12_hazard E l D2 20 [some (g_R 208), some (g_I v1), some (g_I 0), none, none] K) ∧ (x2 = 0 → K (-2) D2)))) : k_X12_hazard E l D v1 K := by
  refine g_enter (by decide) (Nat.le_of_ble_eq_true rfl) ?_
  show g_N E l m_X12_hazard 3 0 [some (g_R 208), some (g_I v1), none, none, none] [] g_SH D (g_Ri g_SH K)
  refine g_use (fun ok => ?_)
  have hF := hF ok.2.1 (ok.loc (i := 1) rfl)
  refine g_aload_n dX12_hazard_0 rfl ?_
  refine g_iconst dX12_hazard_1 ⟨by decide, by decide⟩ ?_
  let D1 : g_D := g_up D 208 0 0
  have hF := hF D1 rfl
  refine g_put dX12_hazard_2 fd_X12_1 (g_ftyI (C := RX12) (T := TX12) (N := 51) rfl rfl (by decide +kernel)) sh_208 rfl ?_
  refine g_iload_n dX12_hazard_5 rfl ?_
  refine g_i2l dX12_hazard_6 ?_
  refine g_lconst dX12_hazard_7 ?_
  refine g_lconst dX12_hazard_8 ?_
  refine gw_cSi (As := [g_J v1, g_J 0, g_J 1]) (rest := []) dX12_hazard_9 ms_X12_131 rfl (Nat.le_of_ble_eq_true rfl) (by decide) rfl hF ?_
  intro x2 D2 hx2 hF
  have hF := hF hx2
  refine g_ifne dX12_hazard_12 rfl (fun q => ?_) (fun q => ?_)
  · have hF := hF.1 q
    refine g_iconst dX12_hazard_18 ⟨by decide, by decide⟩ ?_
    refine gw_istore_n (L' := [some (g_R 208), some (g_I v1), some (g_I 0), none, none]) dX12_hazard_19 (by decide) rfl ?_
    exact hF
  · have hF := hF.2 q
    refine g_bipush dX12_hazard_15 ⟨by decide, by decide⟩ ?_
    exact gw_iret dX12_hazard_17 rfl hF
theorem s_X12_hazard_20 {E : g_E} {l : Launch} {D : g_D} {K : Int → g_D → Prop} {v1 : Int} {v2 : Int}  (hF : g_okD D → g_r v1 → g_r v2 → ((D 209 213) ≤ v2 → K (-1) D) ∧ (¬ (D 209 213) ≤ v2 → k_X12_actNow E l D v2 0 (fun x1 D1 => g_r x1 → (x1 ≤ 2 → n_X12_hazard E l D1 47 [some (g_R 208), some (g_I v1), some (g_I v2), some (g_I 0), none] K) ∧ (¬ x1 ≤ 2 → (g_r (v2 + 1)) ∧ (n_X12_hazard E l D1 20 [some (g_R 208), some (g_I v1), some (g_I (v2 + 1)), none, none] K))))) : n_X12_hazard E l D 20 [some (g_R 208), some (g_I v1), some (g_I v2), none, none] K := by
  refine g_use (fun ok => ?_)
  have hF := hF ok.2.1 (ok.loc (i := 1) rfl) (ok.loc (i := 2) rfl)
  refine g_iload_n dX12_hazard_20 rfl ?_
  refine g_aload_n dX12_hazard_21 rfl ?_
  refine g_getR dX12_hazard_22 fd_X12_13 sh_208 rfl ?_
  refine g_sipush dX12_hazard_25 ⟨by decide, by decide⟩ ?_
  refine g_iald dX12_hazard_28 sh_209 (by decide) (by decide) ?_
  refine g_cge dX12_hazard_29 rfl (fun q => ?_) (fun q => ?_)
  · have hF := hF.1 q
    refine g_iconst dX12_hazard_100 ⟨by decide, by decide⟩ ?_
    exact gw_iret dX12_hazard_101 rfl hF
  · have hF := hF.2 q
    refine g_aload_n dX12_hazard_32 rfl ?_
    refine g_iload_n dX12_hazard_33 rfl ?_
    refine g_iconst dX12_hazard_34 ⟨by decide, by decide⟩ ?_
    refine gw_cVi (b := 208) (As := [g_I v2, g_I 0]) (rest := []) dX12_hazard_35 mv_X12_336 sh_208 rfl (Nat.le_of_ble_eq_true rfl) (by decide) rfl hF ?_
    intro x1 D1 hx1 hF
    have hF := hF hx1
    refine g_iconst dX12_hazard_38 ⟨by decide, by decide⟩ ?_
    refine g_cle dX12_hazard_39 rfl (fun q => ?_) (fun q => ?_)
    · have hF := hF.1 q
      refine g_iconst dX12_hazard_45 ⟨by decide, by decide⟩ ?_
      refine gw_istore_n (L' := [some (g_R 208), some (g_I v1), some (g_I v2), some (g_I 0), none]) dX12_hazard_46 (by decide) rfl ?_
      exact hF
    · have hF := hF.2 q
      refine g_goto dX12_hazard_42 rfl ?_
      obtain ⟨hc, hF⟩ := hF
      refine gw_iinc (L' := [some (g_R 208), some (g_I v1), some (g_I (v2 + 1)), none, none]) dX12_hazard_94 rfl hc (by decide) rfl ?_
      refine g_goto dX12_hazard_97 rfl ?_
      exact hF
theorem s_X12_hazard_47 {E : g_E} {l : Launch} {D : g_D} {K : Int → g_D → Prop} {v1 : Int} {v2 : Int} {v3 : Int}  (hF : g_okD D → g_r v1 → g_r v2 → g_r v3 → k_X12_actNow E l D v2 3 (fun x1 D1 => g_r x1 → (x1 ≤ v3 → (g_r (v2 + 1)) ∧ (n_X12_hazard E l D1 20 [some (g_R 208), some (g_I v1), some (g_I (v2 + 1)), none, none] K)) ∧ (¬ x1 ≤ v3 → k_X12_actNow E l D1 v2 2 (fun x2 D2 => g_r x2 → (g_r (x2 + v3)) ∧ (k_X12_isWritten E l D2 v2 (x2 + v3) (fun x3 D3 => g_r x3 → (x3 = 0 → (g_r (v3 + 1)) ∧ (n_X12_hazard E l D3 47 [some (g_R 208), some (g_I v1), some (g_I v2), some (g_I (v3 + 1)), none] K)) ∧ (¬ x3 = 0 → (¬ v1 = 0 → K (x2 + v3) D3) ∧ (v1 = 0 → K v2 D3)))))))) : n_X12_hazard E l D 47 [some (g_R 208), some (g_I v1), some (g_I v2), some (g_I v3), none] K := by
  refine g_use (fun ok => ?_)
  have hF := hF ok.2.1 (ok.loc (i := 1) rfl) (ok.loc (i := 2) rfl) (ok.loc (i := 3) rfl)
  refine g_iload_n dX12_hazard_47 rfl ?_
  refine g_aload_n dX12_hazard_48 rfl ?_
  refine g_iload_n dX12_hazard_49 rfl ?_
  refine g_iconst dX12_hazard_50 ⟨by decide, by decide⟩ ?_
  refine gw_cVi (b := 208) (As := [g_I v2, g_I 3]) (rest := [g_I v3]) dX12_hazard_51 mv_X12_336 sh_208 rfl (Nat.le_of_ble_eq_true rfl) (by decide) rfl hF ?_
  intro x1 D1 hx1 hF
  have hF := hF hx1
  refine g_cge dX12_hazard_54 rfl (fun q => ?_) (fun q => ?_)
  · have hF := hF.1 q
    obtain ⟨hc, hF⟩ := hF
    refine gw_iinc (L' := [some (g_R 208), some (g_I v1), some (g_I (v2 + 1)), some (g_I v3), none]) dX12_hazard_94 rfl hc (by decide) rfl ?_
    refine g_goto dX12_hazard_97 rfl ?_
    exact g_forget (L' := [some (g_R 208), some (g_I v1), some (g_I (v2 + 1)), none, none]) ⟨rfl, ⟨rfl, ⟨rfl, trivial⟩⟩⟩ hF
  · have hF := hF.2 q
    refine g_aload_n dX12_hazard_57 rfl ?_
    refine g_iload_n dX12_hazard_58 rfl ?_
    refine g_iconst dX12_hazard_59 ⟨by decide, by decide⟩ ?_
    refine gw_cVi (b := 208) (As := [g_I v2, g_I 2]) (rest := []) dX12_hazard_60 mv_X12_336 sh_208 rfl (Nat.le_of_ble_eq_true rfl) (by decide) rfl hF ?_
    intro x2 D2 hx2 hF
    have hF := hF hx2
    refine g_iload_n dX12_hazard_63 rfl ?_
    obtain ⟨hc, hF⟩ := hF
    refine g_iadd dX12_hazard_64 hc ?_
    refine gw_istore (L' := [some (g_R 208), some (g_I v1), some (g_I v2), some (g_I v3), some (g_I (x2 + v3))]) dX12_hazard_65 (by decide) rfl ?_
    refine g_aload_n dX12_hazard_67 rfl ?_
    refine g_iload_n dX12_hazard_68 rfl ?_
    refine g_iload dX12_hazard_69 rfl ?_
    refine gw_cVi (b := 208) (As := [g_I v2, g_I (x2 + v3)]) (rest := []) dX12_hazard_71 mv_X12_417 sh_208 rfl (Nat.le_of_ble_eq_true rfl) (by decide) rfl hF ?_
    intro x3 D3 hx3 hF
    have hF := hF hx3
    refine g_ifeq dX12_hazard_74 rfl (fun q => ?_) (fun q => ?_)
    · have hF := hF.1 q
      obtain ⟨hc, hF⟩ := hF
      refine gw_iinc (L' := [some (g_R 208), some (g_I v1), some (g_I v2), some (g_I (v3 + 1)), some (g_I (x2 + v3))]) dX12_hazard_88 rfl hc (by decide) rfl ?_
      refine g_goto dX12_hazard_91 rfl ?_
      exact g_forget (L' := [some (g_R 208), some (g_I v1), some (g_I v2), some (g_I (v3 + 1)), none]) ⟨rfl, ⟨rfl, ⟨rfl, ⟨rfl, trivial⟩⟩⟩⟩ hF
    · have hF := hF.2 q
      refine g_iload_n dX12_hazard_77 rfl ?_
      refine g_ifne dX12_hazard_78 rfl (fun q => ?_) (fun q => ?_)
      · have hF := hF.1 q
        refine g_iload dX12_hazard_85 rfl ?_
        exact gw_iret dX12_hazard_87 rfl hF
      · have hF := hF.2 q
        refine g_iload_n dX12_hazard_81 rfl ?_
        refine g_goto dX12_hazard_82 rfl ?_
        exact gw_iret dX12_hazard_87 rfl hF
theorem dX12_image_0 : decode cX12_image 0 = .ok (.aload_n 0, 1) := by decide +kernel
theorem dX12_image_1 : decode cX12_image 1 = .ok (.iconst 0, 1) := by decide +kernel
theorem dX12_image_2 : decode cX12_image 2 = .ok (.putfield 1, 3) := by decide +kernel
theorem dX12_image_5 : decode cX12_image 5 = .ok (.iload_n 1, 1) := by decide +kernel
theorem dX12_image_6 : decode cX12_image 6 = .ok (.i2l, 1) := by decide +kernel
theorem dX12_image_7 : decode cX12_image 7 = .ok (.lconst 0, 1) := by decide +kernel
theorem dX12_image_8 : decode cX12_image 8 = .ok (.lconst 1, 1) := by decide +kernel
theorem dX12_image_9 : decode cX12_image 9 = .ok (.invokestatic 131, 3) := by decide +kernel
theorem dX12_image_12 : decode cX12_image 12 = .ok (.ifCond .ne 6, 3) := by decide +kernel
theorem dX12_image_15 : decode cX12_image 15 = .ok (.bipush (-2), 2) := by decide +kernel
theorem dX12_image_17 : decode cX12_image 17 = .ok (.ireturn, 1) := by decide +kernel
theorem dX12_image_18 : decode cX12_image 18 = .ok (.iconst 0, 1) := by decide +kernel
theorem dX12_image_19 : decode cX12_image 19 = .ok (.istore_n 2, 1) := by decide +kernel
theorem dX12_image_20 : decode cX12_image 20 = .ok (.iload_n 2, 1) := by decide +kernel
theorem dX12_image_21 : decode cX12_image 21 = .ok (.sipush 519, 3) := by decide +kernel
theorem dX12_image_24 : decode cX12_image 24 = .ok (.if_icmp .ge 29, 3) := by decide +kernel
theorem dX12_image_27 : decode cX12_image 27 = .ok (.aload_n 0, 1) := by decide +kernel
theorem dX12_image_28 : decode cX12_image 28 = .ok (.getfield 13, 3) := by decide +kernel
theorem dX12_image_31 : decode cX12_image 31 = .ok (.sipush 519, 3) := by decide +kernel
theorem dX12_image_34 : decode cX12_image 34 = .ok (.iload_n 1, 1) := by decide +kernel
theorem dX12_image_35 : decode cX12_image 35 = .ok (.iconst 1, 1) := by decide +kernel
theorem dX12_image_36 : decode cX12_image 36 = .ok (.iadd, 1) := by decide +kernel
theorem dX12_image_37 : decode cX12_image 37 = .ok (.imul, 1) := by decide +kernel
theorem dX12_image_38 : decode cX12_image 38 = .ok (.iload_n 2, 1) := by decide +kernel
theorem dX12_image_39 : decode cX12_image 39 = .ok (.iadd, 1) := by decide +kernel
theorem dX12_image_40 : decode cX12_image 40 = .ok (.aload_n 0, 1) := by decide +kernel
theorem dX12_image_41 : decode cX12_image 41 = .ok (.getfield 13, 3) := by decide +kernel
theorem dX12_image_44 : decode cX12_image 44 = .ok (.iload_n 2, 1) := by decide +kernel
theorem dX12_image_45 : decode cX12_image 45 = .ok (.iaload, 1) := by decide +kernel
theorem dX12_image_46 : decode cX12_image 46 = .ok (.iastore, 1) := by decide +kernel
theorem dX12_image_47 : decode cX12_image 47 = .ok (.iinc 2 1, 3) := by decide +kernel
theorem dX12_image_50 : decode cX12_image 50 = .ok (.goto (-30), 3) := by decide +kernel
theorem dX12_image_53 : decode cX12_image 53 = .ok (.aload_n 0, 1) := by decide +kernel
theorem dX12_image_54 : decode cX12_image 54 = .ok (.getfield 20, 3) := by decide +kernel
theorem dX12_image_57 : decode cX12_image 57 = .ok (.iload_n 1, 1) := by decide +kernel
theorem dX12_image_58 : decode cX12_image 58 = .ok (.iconst 1, 1) := by decide +kernel
theorem dX12_image_59 : decode cX12_image 59 = .ok (.bastore, 1) := by decide +kernel
theorem dX12_image_60 : decode cX12_image 60 = .ok (.iconst 0, 1) := by decide +kernel
theorem dX12_image_61 : decode cX12_image 61 = .ok (.ireturn, 1) := by decide +kernel
abbrev k_X12_image (E : g_E) (l : Launch) (D : g_D) (v1 : Int) (K : Int → g_D → Prop) : Prop := g_Ki E l m_X12_image 1 [g_R 208, g_I v1] g_SH D K
abbrev n_X12_image (E : g_E) (l : Launch) (D : g_D) (pc : Nat) (L : List (Option g_V)) (K : Int → g_D → Prop) : Prop := g_N E l m_X12_image 1 pc L [] g_SH D (g_Ri g_SH K)
theorem s_X12_image {E : g_E} {l : Launch} {D : g_D} {K : Int → g_D → Prop} {v1 : Int}  (hF : g_okD D → g_r v1 → ∀ D1, D1 = g_up D 208 0 0 → (k_X12_within E l g_SH D1 v1 0 1 (fun x2 D2 => g_r x2 → (¬ x2 = 0 → n_X12_image E l D2 20 [some (g_R 208), some (g_I v1), some (g_I 0)] K) ∧ (x2 = 0 → K (-2) D2)))) : k_X12_image E l D v1 K := by
  refine g_enter (by decide) (Nat.le_of_ble_eq_true rfl) ?_
  show g_N E l m_X12_image 1 0 [some (g_R 208), some (g_I v1), none] [] g_SH D (g_Ri g_SH K)
  refine g_use (fun ok => ?_)
  have hF := hF ok.2.1 (ok.loc (i := 1) rfl)
  refine g_aload_n dX12_image_0 rfl ?_
  refine g_iconst dX12_image_1 ⟨by decide, by decide⟩ ?_
  let D1 : g_D := g_up D 208 0 0
  have hF := hF D1 rfl
  refine g_put dX12_image_2 fd_X12_1 (g_ftyI (C := RX12) (T := TX12) (N := 51) rfl rfl (by decide +kernel)) sh_208 rfl ?_
  refine g_iload_n dX12_image_5 rfl ?_
  refine g_i2l dX12_image_6 ?_
  refine g_lconst dX12_image_7 ?_
  refine g_lconst dX12_image_8 ?_
  refine gw_cSi (As := [g_J v1, g_J 0, g_J 1]) (rest := []) dX12_image_9 ms_X12_131 rfl (Nat.le_of_ble_eq_true rfl) (by decide) rfl hF ?_
  intro x2 D2 hx2 hF
  have hF := hF hx2
  refine g_ifne dX12_image_12 rfl (fun q => ?_) (fun q => ?_)
  · have hF := hF.1 q
    refine g_iconst dX12_image_18 ⟨by decide, by decide⟩ ?_
    refine gw_istore_n (L' := [some (g_R 208), some (g_I v1), some (g_I 0)]) dX12_image_19 (by decide) rfl ?_
    exact hF
  · have hF := hF.2 q
    refine g_bipush dX12_image_15 ⟨by decide, by decide⟩ ?_
    exact gw_iret dX12_image_17 rfl hF
theorem s_X12_image_20 {E : g_E} {l : Launch} {D : g_D} {K : Int → g_D → Prop} {v1 : Int} {v2 : Int}  (hF : g_okD D → g_r v1 → g_r v2 → (519 ≤ v2 → (0 ≤ v1 ∧ v1 < 2) ∧ (∀ D1, D1 = g_up D 211 v1.toNat 1 → (K 0 D1))) ∧ (¬ 519 ≤ v2 → (g_r (v1 + 1)) ∧ ((g_r (519 * (v1 + 1))) ∧ ((g_r ((519 * (v1 + 1)) + v2)) ∧ ((0 ≤ v2 ∧ v2 < 1557) ∧ ((0 ≤ ((519 * (v1 + 1)) + v2) ∧ ((519 * (v1 + 1)) + v2) < 1557) ∧ (∀ D2, D2 = g_up D 209 ((519 * (v1 + 1)) + v2).toNat (D 209 v2.toNat) → ((g_r (v2 + 1)) ∧ (n_X12_image E l D2 20 [some (g_R 208), some (g_I v1), some (g_I (v2 + 1))] K))))))))) : n_X12_image E l D 20 [some (g_R 208), some (g_I v1), some (g_I v2)] K := by
  refine g_use (fun ok => ?_)
  have hF := hF ok.2.1 (ok.loc (i := 1) rfl) (ok.loc (i := 2) rfl)
  refine g_iload_n dX12_image_20 rfl ?_
  refine g_sipush dX12_image_21 ⟨by decide, by decide⟩ ?_
  refine g_cge dX12_image_24 rfl (fun q => ?_) (fun q => ?_)
  · have hF := hF.1 q
    refine g_aload_n dX12_image_53 rfl ?_
    refine g_getR dX12_image_54 fd_X12_20 sh_208 rfl ?_
    refine g_iload_n dX12_image_57 rfl ?_
    refine g_iconst dX12_image_58 ⟨by decide, by decide⟩ ?_
    obtain ⟨hc, hF⟩ := hF
    let D1 : g_D := g_up D 211 v1.toNat 1
    have hF := hF D1 rfl
    refine g_bast dX12_image_59 sh_211 hc.1 hc.2 (by decide) ?_
    refine g_iconst dX12_image_60 ⟨by decide, by decide⟩ ?_
    exact gw_iret dX12_image_61 rfl hF
  · have hF := hF.2 q
    refine g_aload_n dX12_image_27 rfl ?_
    refine g_getR dX12_image_28 fd_X12_13 sh_208 rfl ?_
    refine g_sipush dX12_image_31 ⟨by decide, by decide⟩ ?_
    refine g_iload_n dX12_image_34 rfl ?_
    refine g_iconst dX12_image_35 ⟨by decide, by decide⟩ ?_
    obtain ⟨hc, hF⟩ := hF
    refine g_iadd dX12_image_36 hc ?_
    obtain ⟨hc, hF⟩ := hF
    refine g_imul dX12_image_37 hc ?_
    refine g_iload_n dX12_image_38 rfl ?_
    obtain ⟨hc, hF⟩ := hF
    refine g_iadd dX12_image_39 hc ?_
    refine g_aload_n dX12_image_40 rfl ?_
    refine g_getR dX12_image_41 fd_X12_13 sh_208 rfl ?_
    refine g_iload_n dX12_image_44 rfl ?_
    obtain ⟨hc, hF⟩ := hF
    refine g_iald dX12_image_45 sh_209 hc.1 hc.2 ?_
    obtain ⟨hc, hF⟩ := hF
    let D2 : g_D := g_up D 209 ((519 * (v1 + 1)) + v2).toNat (D 209 v2.toNat)
    have hF := hF D2 rfl
    refine g_iast dX12_image_46 sh_209 hc.1 hc.2 ?_
    obtain ⟨hc, hF⟩ := hF
    refine gw_iinc (L' := [some (g_R 208), some (g_I v1), some (g_I (v2 + 1))]) dX12_image_47 rfl hc (by decide) rfl ?_
    refine g_goto dX12_image_50 rfl ?_
    exact hF
theorem dX12_isAheadSuffix_0 : decode cX12_isAheadSuffix 0 = .ok (.aload_n 0, 1) := by decide +kernel
theorem dX12_isAheadSuffix_1 : decode cX12_isAheadSuffix 1 = .ok (.iload_n 1, 1) := by decide +kernel
theorem dX12_isAheadSuffix_2 : decode cX12_isAheadSuffix 2 = .ok (.iload_n 2, 1) := by decide +kernel
theorem dX12_isAheadSuffix_3 : decode cX12_isAheadSuffix 3 = .ok (.invokevirtual 155, 3) := by decide +kernel
theorem dX12_isAheadSuffix_6 : decode cX12_isAheadSuffix 6 = .ok (.istore_n 3, 1) := by decide +kernel
theorem dX12_isAheadSuffix_7 : decode cX12_isAheadSuffix 7 = .ok (.iload_n 1, 1) := by decide +kernel
theorem dX12_isAheadSuffix_8 : decode cX12_isAheadSuffix 8 = .ok (.iload_n 3, 1) := by decide +kernel
theorem dX12_isAheadSuffix_9 : decode cX12_isAheadSuffix 9 = .ok (.iadd, 1) := by decide +kernel
theorem dX12_isAheadSuffix_10 : decode cX12_isAheadSuffix 10 = .ok (.aload_n 0, 1) := by decide +kernel
theorem dX12_isAheadSuffix_11 : decode cX12_isAheadSuffix 11 = .ok (.getfield 13, 3) := by decide +kernel
theorem dX12_isAheadSuffix_14 : decode cX12_isAheadSuffix 14 = .ok (.iconst 0, 1) := by decide +kernel
theorem dX12_isAheadSuffix_15 : decode cX12_isAheadSuffix 15 = .ok (.iaload, 1) := by decide +kernel
theorem dX12_isAheadSuffix_16 : decode cX12_isAheadSuffix 16 = .ok (.if_icmp .eq 15, 3) := by decide +kernel
theorem dX12_isAheadSuffix_19 : decode cX12_isAheadSuffix 19 = .ok (.iload_n 2, 1) := by decide +kernel
theorem dX12_isAheadSuffix_20 : decode cX12_isAheadSuffix 20 = .ok (.iload_n 3, 1) := by decide +kernel
theorem dX12_isAheadSuffix_21 : decode cX12_isAheadSuffix 21 = .ok (.iadd, 1) := by decide +kernel
theorem dX12_isAheadSuffix_22 : decode cX12_isAheadSuffix 22 = .ok (.aload_n 0, 1) := by decide +kernel
theorem dX12_isAheadSuffix_23 : decode cX12_isAheadSuffix 23 = .ok (.getfield 13, 3) := by decide +kernel
theorem dX12_isAheadSuffix_26 : decode cX12_isAheadSuffix 26 = .ok (.iconst 0, 1) := by decide +kernel
theorem dX12_isAheadSuffix_27 : decode cX12_isAheadSuffix 27 = .ok (.iaload, 1) := by decide +kernel
theorem dX12_isAheadSuffix_28 : decode cX12_isAheadSuffix 28 = .ok (.if_icmp .ne 14, 3) := by decide +kernel
theorem dX12_isAheadSuffix_31 : decode cX12_isAheadSuffix 31 = .ok (.iload_n 1, 1) := by decide +kernel
theorem dX12_isAheadSuffix_32 : decode cX12_isAheadSuffix 32 = .ok (.iload_n 2, 1) := by decide +kernel
theorem dX12_isAheadSuffix_33 : decode cX12_isAheadSuffix 33 = .ok (.if_icmp .le 7, 3) := by decide +kernel
theorem dX12_isAheadSuffix_36 : decode cX12_isAheadSuffix 36 = .ok (.iconst 1, 1) := by decide +kernel
theorem dX12_isAheadSuffix_37 : decode cX12_isAheadSuffix 37 = .ok (.goto 4, 3) := by decide +kernel
theorem dX12_isAheadSuffix_40 : decode cX12_isAheadSuffix 40 = .ok (.iconst 0, 1) := by decide +kernel
theorem dX12_isAheadSuffix_41 : decode cX12_isAheadSuffix 41 = .ok (.ireturn, 1) := by decide +kernel
theorem dX12_isAheadSuffix_42 : decode cX12_isAheadSuffix 42 = .ok (.aload_n 0, 1) := by decide +kernel
theorem dX12_isAheadSuffix_43 : decode cX12_isAheadSuffix 43 = .ok (.getfield 13, 3) := by decide +kernel
theorem dX12_isAheadSuffix_46 : decode cX12_isAheadSuffix 46 = .ok (.bipush 6, 2) := by decide +kernel
theorem dX12_isAheadSuffix_48 : decode cX12_isAheadSuffix 48 = .ok (.iload_n 1, 1) := by decide +kernel
theorem dX12_isAheadSuffix_49 : decode cX12_isAheadSuffix 49 = .ok (.iadd, 1) := by decide +kernel
theorem dX12_isAheadSuffix_50 : decode cX12_isAheadSuffix 50 = .ok (.iload_n 3, 1) := by decide +kernel
theorem dX12_isAheadSuffix_51 : decode cX12_isAheadSuffix 51 = .ok (.iadd, 1) := by decide +kernel
theorem dX12_isAheadSuffix_52 : decode cX12_isAheadSuffix 52 = .ok (.iaload, 1) := by decide +kernel
theorem dX12_isAheadSuffix_53 : decode cX12_isAheadSuffix 53 = .ok (.aload_n 0, 1) := by decide +kernel
theorem dX12_isAheadSuffix_54 : decode cX12_isAheadSuffix 54 = .ok (.getfield 13, 3) := by decide +kernel
theorem dX12_isAheadSuffix_57 : decode cX12_isAheadSuffix 57 = .ok (.bipush 6, 2) := by decide +kernel
theorem dX12_isAheadSuffix_59 : decode cX12_isAheadSuffix 59 = .ok (.iload_n 2, 1) := by decide +kernel
theorem dX12_isAheadSuffix_60 : decode cX12_isAheadSuffix 60 = .ok (.iadd, 1) := by decide +kernel
theorem dX12_isAheadSuffix_61 : decode cX12_isAheadSuffix 61 = .ok (.iload_n 3, 1) := by decide +kernel
theorem dX12_isAheadSuffix_62 : decode cX12_isAheadSuffix 62 = .ok (.iadd, 1) := by decide +kernel
theorem dX12_isAheadSuffix_63 : decode cX12_isAheadSuffix 63 = .ok (.iaload, 1) := by decide +kernel
theorem dX12_isAheadSuffix_64 : decode cX12_isAheadSuffix 64 = .ok (.if_icmp .ge 7, 3) := by decide +kernel
theorem dX12_isAheadSuffix_67 : decode cX12_isAheadSuffix 67 = .ok (.iconst 1, 1) := by decide +kernel
theorem dX12_isAheadSuffix_68 : decode cX12_isAheadSuffix 68 = .ok (.goto 4, 3) := by decide +kernel
theorem dX12_isAheadSuffix_71 : decode cX12_isAheadSuffix 71 = .ok (.iconst 0, 1) := by decide +kernel
theorem dX12_isAheadSuffix_72 : decode cX12_isAheadSuffix 72 = .ok (.ireturn, 1) := by decide +kernel
abbrev k_X12_isAheadSuffix (E : g_E) (l : Launch) (D : g_D) (v1 : Int) (v2 : Int) (K : Int → g_D → Prop) : Prop := g_Ki E l m_X12_isAheadSuffix 1 [g_R 208, g_I v1, g_I v2] g_SH D K
abbrev n_X12_isAheadSuffix (E : g_E) (l : Launch) (D : g_D) (pc : Nat) (L : List (Option g_V)) (K : Int → g_D → Prop) : Prop := g_N E l m_X12_isAheadSuffix 1 pc L [] g_SH D (g_Ri g_SH K)
theorem s_X12_isAheadSuffix {E : g_E} {l : Launch} {D : g_D} {K : Int → g_D → Prop} {v1 : Int} {v2 : Int}  (hF : g_okD D → g_r v1 → g_r v2 → k_X12_common E l D v1 v2 (fun x1 D1 => g_r x1 → (g_r (v1 + x1)) ∧ (((v1 + x1) = (D1 209 0) → (v1 ≤ v2 → K 0 D1) ∧ (¬ v1 ≤ v2 → K 1 D1)) ∧ (¬ (v1 + x1) = (D1 209 0) → (g_r (v2 + x1)) ∧ ((¬ (v2 + x1) = (D1 209 0) → (g_r (6 + v1)) ∧ ((g_r ((6 + v1) + x1)) ∧ ((0 ≤ ((6 + v1) + x1) ∧ ((6 + v1) + x1) < 1557) ∧ ((g_r (6 + v2)) ∧ ((g_r ((6 + v2) + x1)) ∧ ((0 ≤ ((6 + v2) + x1) ∧ ((6 + v2) + x1) < 1557) ∧ (((D1 209 ((6 + v2) + x1).toNat) ≤ (D1 209 ((6 + v1) + x1).toNat) → K 0 D1) ∧ (¬ (D1 209 ((6 + v2) + x1).toNat) ≤ (D1 209 ((6 + v1) + x1).toNat) → K 1 D1)))))))) ∧ ((v2 + x1) = (D1 209 0) → (v1 ≤ v2 → K 0 D1) ∧ (¬ v1 ≤ v2 → K 1 D1))))))) : k_X12_isAheadSuffix E l D v1 v2 K := by
  refine g_enter (by decide) (Nat.le_of_ble_eq_true rfl) ?_
  show g_N E l m_X12_isAheadSuffix 1 0 [some (g_R 208), some (g_I v1), some (g_I v2), none] [] g_SH D (g_Ri g_SH K)
  refine g_use (fun ok => ?_)
  have hF := hF ok.2.1 (ok.loc (i := 1) rfl) (ok.loc (i := 2) rfl)
  refine g_aload_n dX12_isAheadSuffix_0 rfl ?_
  refine g_iload_n dX12_isAheadSuffix_1 rfl ?_
  refine g_iload_n dX12_isAheadSuffix_2 rfl ?_
  refine gw_cVi (b := 208) (As := [g_I v1, g_I v2]) (rest := []) dX12_isAheadSuffix_3 mv_X12_155 sh_208 rfl (Nat.le_of_ble_eq_true rfl) (by decide) rfl hF ?_
  intro x1 D1 hx1 hF
  have hF := hF hx1
  refine gw_istore_n (L' := [some (g_R 208), some (g_I v1), some (g_I v2), some (g_I x1)]) dX12_isAheadSuffix_6 (by decide) rfl ?_
  refine g_iload_n dX12_isAheadSuffix_7 rfl ?_
  refine g_iload_n dX12_isAheadSuffix_8 rfl ?_
  obtain ⟨hc, hF⟩ := hF
  refine g_iadd dX12_isAheadSuffix_9 hc ?_
  refine g_aload_n dX12_isAheadSuffix_10 rfl ?_
  refine g_getR dX12_isAheadSuffix_11 fd_X12_13 sh_208 rfl ?_
  refine g_iconst dX12_isAheadSuffix_14 ⟨by decide, by decide⟩ ?_
  refine g_iald dX12_isAheadSuffix_15 sh_209 (by decide) (by decide) ?_
  refine g_ceq dX12_isAheadSuffix_16 rfl (fun q => ?_) (fun q => ?_)
  · have hF := hF.1 q
    refine g_iload_n dX12_isAheadSuffix_31 rfl ?_
    refine g_iload_n dX12_isAheadSuffix_32 rfl ?_
    refine g_cle dX12_isAheadSuffix_33 rfl (fun q => ?_) (fun q => ?_)
    · have hF := hF.1 q
      refine g_iconst dX12_isAheadSuffix_40 ⟨by decide, by decide⟩ ?_
      exact gw_zret dX12_isAheadSuffix_41 rfl (by decide) hF
    · have hF := hF.2 q
      refine g_iconst dX12_isAheadSuffix_36 ⟨by decide, by decide⟩ ?_
      refine g_goto dX12_isAheadSuffix_37 rfl ?_
      exact gw_zret dX12_isAheadSuffix_41 rfl (by decide) hF
  · have hF := hF.2 q
    refine g_iload_n dX12_isAheadSuffix_19 rfl ?_
    refine g_iload_n dX12_isAheadSuffix_20 rfl ?_
    obtain ⟨hc, hF⟩ := hF
    refine g_iadd dX12_isAheadSuffix_21 hc ?_
    refine g_aload_n dX12_isAheadSuffix_22 rfl ?_
    refine g_getR dX12_isAheadSuffix_23 fd_X12_13 sh_208 rfl ?_
    refine g_iconst dX12_isAheadSuffix_26 ⟨by decide, by decide⟩ ?_
    refine g_iald dX12_isAheadSuffix_27 sh_209 (by decide) (by decide) ?_
    refine g_cne dX12_isAheadSuffix_28 rfl (fun q => ?_) (fun q => ?_)
    · have hF := hF.1 q
      refine g_aload_n dX12_isAheadSuffix_42 rfl ?_
      refine g_getR dX12_isAheadSuffix_43 fd_X12_13 sh_208 rfl ?_
      refine g_bipush dX12_isAheadSuffix_46 ⟨by decide, by decide⟩ ?_
      refine g_iload_n dX12_isAheadSuffix_48 rfl ?_
      obtain ⟨hc, hF⟩ := hF
      refine g_iadd dX12_isAheadSuffix_49 hc ?_
      refine g_iload_n dX12_isAheadSuffix_50 rfl ?_
      obtain ⟨hc, hF⟩ := hF
      refine g_iadd dX12_isAheadSuffix_51 hc ?_
      obtain ⟨hc, hF⟩ := hF
      refine g_iald dX12_isAheadSuffix_52 sh_209 hc.1 hc.2 ?_
      refine g_aload_n dX12_isAheadSuffix_53 rfl ?_
      refine g_getR dX12_isAheadSuffix_54 fd_X12_13 sh_208 rfl ?_
      refine g_bipush dX12_isAheadSuffix_57 ⟨by decide, by decide⟩ ?_
      refine g_iload_n dX12_isAheadSuffix_59 rfl ?_
      obtain ⟨hc, hF⟩ := hF
      refine g_iadd dX12_isAheadSuffix_60 hc ?_
      refine g_iload_n dX12_isAheadSuffix_61 rfl ?_
      obtain ⟨hc, hF⟩ := hF
      refine g_iadd dX12_isAheadSuffix_62 hc ?_
      obtain ⟨hc, hF⟩ := hF
      refine g_iald dX12_isAheadSuffix_63 sh_209 hc.1 hc.2 ?_
      refine g_cge dX12_isAheadSuffix_64 rfl (fun q => ?_) (fun q => ?_)
      · have hF := hF.1 q
        refine g_iconst dX12_isAheadSuffix_71 ⟨by decide, by decide⟩ ?_
        exact gw_zret dX12_isAheadSuffix_72 rfl (by decide) hF
      · have hF := hF.2 q
        refine g_iconst dX12_isAheadSuffix_67 ⟨by decide, by decide⟩ ?_
        refine g_goto dX12_isAheadSuffix_68 rfl ?_
        exact gw_zret dX12_isAheadSuffix_72 rfl (by decide) hF
    · have hF := hF.2 q
      refine g_iload_n dX12_isAheadSuffix_31 rfl ?_
      refine g_iload_n dX12_isAheadSuffix_32 rfl ?_
      refine g_cle dX12_isAheadSuffix_33 rfl (fun q => ?_) (fun q => ?_)
      · have hF := hF.1 q
        refine g_iconst dX12_isAheadSuffix_40 ⟨by decide, by decide⟩ ?_
        exact gw_zret dX12_isAheadSuffix_41 rfl (by decide) hF
      · have hF := hF.2 q
        refine g_iconst dX12_isAheadSuffix_36 ⟨by decide, by decide⟩ ?_
        refine g_goto dX12_isAheadSuffix_37 rfl ?_
        exact gw_zret dX12_isAheadSuffix_41 rfl (by decide) hF
theorem dX12_isHealedTwice_0 : decode cX12_isHealedTwice 0 = .ok (.aload_n 0, 1) := by decide +kernel
theorem dX12_isHealedTwice_1 : decode cX12_isHealedTwice 1 = .ok (.iload_n 1, 1) := by decide +kernel
theorem dX12_isHealedTwice_2 : decode cX12_isHealedTwice 2 = .ok (.invokevirtual 420, 3) := by decide +kernel
theorem dX12_isHealedTwice_5 : decode cX12_isHealedTwice 5 = .ok (.aload_n 0, 1) := by decide +kernel
theorem dX12_isHealedTwice_6 : decode cX12_isHealedTwice 6 = .ok (.iload_n 1, 1) := by decide +kernel
theorem dX12_isHealedTwice_7 : decode cX12_isHealedTwice 7 = .ok (.iload_n 2, 1) := by decide +kernel
theorem dX12_isHealedTwice_8 : decode cX12_isHealedTwice 8 = .ok (.iconst 2, 1) := by decide +kernel
theorem dX12_isHealedTwice_9 : decode cX12_isHealedTwice 9 = .ok (.invokevirtual 383, 3) := by decide +kernel
theorem dX12_isHealedTwice_12 : decode cX12_isHealedTwice 12 = .ok (.aload_n 0, 1) := by decide +kernel
theorem dX12_isHealedTwice_13 : decode cX12_isHealedTwice 13 = .ok (.invokevirtual 387, 3) := by decide +kernel
theorem dX12_isHealedTwice_16 : decode cX12_isHealedTwice 16 = .ok (.aload_n 0, 1) := by decide +kernel
theorem dX12_isHealedTwice_17 : decode cX12_isHealedTwice 17 = .ok (.getfield 117, 3) := by decide +kernel
theorem dX12_isHealedTwice_20 : decode cX12_isHealedTwice 20 = .ok (.iconst (-1), 1) := by decide +kernel
theorem dX12_isHealedTwice_21 : decode cX12_isHealedTwice 21 = .ok (.if_icmp .ne 7, 3) := by decide +kernel
theorem dX12_isHealedTwice_24 : decode cX12_isHealedTwice 24 = .ok (.iload_n 1, 1) := by decide +kernel
theorem dX12_isHealedTwice_25 : decode cX12_isHealedTwice 25 = .ok (.goto 6, 3) := by decide +kernel
theorem dX12_isHealedTwice_28 : decode cX12_isHealedTwice 28 = .ok (.iload_n 1, 1) := by decide +kernel
theorem dX12_isHealedTwice_29 : decode cX12_isHealedTwice 29 = .ok (.iconst 1, 1) := by decide +kernel
theorem dX12_isHealedTwice_30 : decode cX12_isHealedTwice 30 = .ok (.iadd, 1) := by decide +kernel
theorem dX12_isHealedTwice_31 : decode cX12_isHealedTwice 31 = .ok (.istore 4, 2) := by decide +kernel
theorem dX12_isHealedTwice_33 : decode cX12_isHealedTwice 33 = .ok (.iload 4, 2) := by decide +kernel
theorem dX12_isHealedTwice_35 : decode cX12_isHealedTwice 35 = .ok (.aload_n 0, 1) := by decide +kernel
theorem dX12_isHealedTwice_36 : decode cX12_isHealedTwice 36 = .ok (.getfield 342, 3) := by decide +kernel
theorem dX12_isHealedTwice_39 : decode cX12_isHealedTwice 39 = .ok (.if_icmp .ge 33, 3) := by decide +kernel
theorem dX12_isHealedTwice_42 : decode cX12_isHealedTwice 42 = .ok (.aload_n 0, 1) := by decide +kernel
theorem dX12_isHealedTwice_43 : decode cX12_isHealedTwice 43 = .ok (.iload 4, 2) := by decide +kernel
theorem dX12_isHealedTwice_45 : decode cX12_isHealedTwice 45 = .ok (.iload_n 3, 1) := by decide +kernel
theorem dX12_isHealedTwice_46 : decode cX12_isHealedTwice 46 = .ok (.iconst 2, 1) := by decide +kernel
theorem dX12_isHealedTwice_47 : decode cX12_isHealedTwice 47 = .ok (.invokevirtual 383, 3) := by decide +kernel
theorem dX12_isHealedTwice_50 : decode cX12_isHealedTwice 50 = .ok (.aload_n 0, 1) := by decide +kernel
theorem dX12_isHealedTwice_51 : decode cX12_isHealedTwice 51 = .ok (.invokevirtual 387, 3) := by decide +kernel
theorem dX12_isHealedTwice_54 : decode cX12_isHealedTwice 54 = .ok (.iload 4, 2) := by decide +kernel
theorem dX12_isHealedTwice_56 : decode cX12_isHealedTwice 56 = .ok (.aload_n 0, 1) := by decide +kernel
theorem dX12_isHealedTwice_57 : decode cX12_isHealedTwice 57 = .ok (.getfield 117, 3) := by decide +kernel
theorem dX12_isHealedTwice_60 : decode cX12_isHealedTwice 60 = .ok (.iconst (-1), 1) := by decide +kernel
theorem dX12_isHealedTwice_61 : decode cX12_isHealedTwice 61 = .ok (.if_icmp .ne 7, 3) := by decide +kernel
theorem dX12_isHealedTwice_64 : decode cX12_isHealedTwice 64 = .ok (.iconst 0, 1) := by decide +kernel
theorem dX12_isHealedTwice_65 : decode cX12_isHealedTwice 65 = .ok (.goto 4, 3) := by decide +kernel
theorem dX12_isHealedTwice_68 : decode cX12_isHealedTwice 68 = .ok (.iconst 1, 1) := by decide +kernel
theorem dX12_isHealedTwice_69 : decode cX12_isHealedTwice 69 = .ok (.iadd, 1) := by decide +kernel
theorem dX12_isHealedTwice_70 : decode cX12_isHealedTwice 70 = .ok (.istore 4, 2) := by decide +kernel
theorem dX12_isHealedTwice_72 : decode cX12_isHealedTwice 72 = .ok (.aload_n 0, 1) := by decide +kernel
theorem dX12_isHealedTwice_73 : decode cX12_isHealedTwice 73 = .ok (.iload 4, 2) := by decide +kernel
theorem dX12_isHealedTwice_75 : decode cX12_isHealedTwice 75 = .ok (.aload_n 0, 1) := by decide +kernel
theorem dX12_isHealedTwice_76 : decode cX12_isHealedTwice 76 = .ok (.getfield 342, 3) := by decide +kernel
theorem dX12_isHealedTwice_79 : decode cX12_isHealedTwice 79 = .ok (.invokevirtual 377, 3) := by decide +kernel
theorem dX12_isHealedTwice_82 : decode cX12_isHealedTwice 82 = .ok (.aload_n 0, 1) := by decide +kernel
theorem dX12_isHealedTwice_83 : decode cX12_isHealedTwice 83 = .ok (.invokevirtual 423, 3) := by decide +kernel
theorem dX12_isHealedTwice_86 : decode cX12_isHealedTwice 86 = .ok (.ireturn, 1) := by decide +kernel
abbrev k_X12_isHealedTwice (E : g_E) (l : Launch) (D : g_D) (v1 : Int) (v2 : Int) (v3 : Int) (K : Int → g_D → Prop) : Prop := g_Ki E l m_X12_isHealedTwice 5 [g_R 208, g_I v1, g_I v2, g_I v3] g_SH D K
abbrev n_X12_isHealedTwice (E : g_E) (l : Launch) (D : g_D) (pc : Nat) (L : List (Option g_V)) (K : Int → g_D → Prop) : Prop := g_N E l m_X12_isHealedTwice 5 pc L [] g_SH D (g_Ri g_SH K)
theorem s_X12_isHealedTwice {E : g_E} {l : Launch} {D : g_D} {K : Int → g_D → Prop} {v1 : Int} {v2 : Int} {v3 : Int}  (hF : g_okD D → g_r v1 → g_r v2 → g_r v3 → k_X12_worksFrom E l D v1 (fun D1 => k_X12_cuts1 E l D1 v1 v2 2 (fun D2 => k_X12_writesJournal E l D2 (fun D3 => (¬ (D3 208 50) = (-1) → (g_r (v1 + 1)) ∧ (((D3 208 46) ≤ (v1 + 1) → k_X12_doesSteps E l D3 (v1 + 1) (D3 208 46) (fun D4 => k_X12_isRight E l D4 (fun x5 D5 => g_r x5 → (x5 = 0 ∨ x5 = 1) ∧ K x5 D5))) ∧ (¬ (D3 208 46) ≤ (v1 + 1) → k_X12_cuts1 E l D3 (v1 + 1) v3 2 (fun D6 => k_X12_writesJournal E l D6 (fun D7 => (¬ (D7 208 50) = (-1) → (g_r ((v1 + 1) + 1)) ∧ (k_X12_doesSteps E l D7 ((v1 + 1) + 1) (D7 208 46) (fun D8 => k_X12_isRight E l D8 (fun x9 D9 => g_r x9 → (x9 = 0 ∨ x9 = 1) ∧ K x9 D9)))) ∧ ((D7 208 50) = (-1) → (g_r ((v1 + 1) + 0)) ∧ (k_X12_doesSteps E l D7 ((v1 + 1) + 0) (D7 208 46) (fun D10 => k_X12_isRight E l D10 (fun x11 D11 => g_r x11 → (x11 = 0 ∨ x11 = 1) ∧ K x11 D11))))))))) ∧ ((D3 208 50) = (-1) → ((D3 208 46) ≤ v1 → k_X12_doesSteps E l D3 v1 (D3 208 46) (fun D12 => k_X12_isRight E l D12 (fun x13 D13 => g_r x13 → (x13 = 0 ∨ x13 = 1) ∧ K x13 D13))) ∧ (¬ (D3 208 46) ≤ v1 → k_X12_cuts1 E l D3 v1 v3 2 (fun D14 => k_X12_writesJournal E l D14 (fun D15 => (¬ (D15 208 50) = (-1) → (g_r (v1 + 1)) ∧ (k_X12_doesSteps E l D15 (v1 + 1) (D15 208 46) (fun D16 => k_X12_isRight E l D16 (fun x17 D17 => g_r x17 → (x17 = 0 ∨ x17 = 1) ∧ K x17 D17)))) ∧ ((D15 208 50) = (-1) → (g_r (v1 + 0)) ∧ (k_X12_doesSteps E l D15 (v1 + 0) (D15 208 46) (fun D18 => k_X12_isRight E l D18 (fun x19 D19 => g_r x19 → (x19 = 0 ∨ x19 = 1) ∧ K x19 D19)))))))))))) : k_X12_isHealedTwice E l D v1 v2 v3 K := by
  refine g_enter (by decide) (Nat.le_of_ble_eq_true rfl) ?_
  show g_N E l m_X12_isHealedTwice 5 0 [some (g_R 208), some (g_I v1), some (g_I v2), some (g_I v3), none] [] g_SH D (g_Ri g_SH K)
  refine g_use (fun ok => ?_)
  have hF := hF ok.2.1 (ok.loc (i := 1) rfl) (ok.loc (i := 2) rfl) (ok.loc (i := 3) rfl)
  refine g_aload_n dX12_isHealedTwice_0 rfl ?_
  refine g_iload_n dX12_isHealedTwice_1 rfl ?_
  refine gw_cVv (b := 208) (As := [g_I v1]) (rest := []) dX12_isHealedTwice_2 mv_X12_420 sh_208 rfl (Nat.le_of_ble_eq_true rfl) (by decide) rfl hF ?_
  intro D1 hF
  refine g_aload_n dX12_isHealedTwice_5 rfl ?_
  refine g_iload_n dX12_isHealedTwice_6 rfl ?_
  refine g_iload_n dX12_isHealedTwice_7 rfl ?_
  refine g_iconst dX12_isHealedTwice_8 ⟨by decide, by decide⟩ ?_
  refine gw_cVv (b := 208) (As := [g_I v1, g_I v2, g_I 2]) (rest := []) dX12_isHealedTwice_9 mv_X12_383 sh_208 rfl (Nat.le_of_ble_eq_true rfl) (by decide) rfl hF ?_
  intro D2 hF
  refine g_aload_n dX12_isHealedTwice_12 rfl ?_
  refine gw_cVv (b := 208) (As := []) (rest := []) dX12_isHealedTwice_13 mv_X12_387 sh_208 rfl (Nat.le_of_ble_eq_true rfl) (by decide) rfl hF ?_
  intro D3 hF
  refine g_aload_n dX12_isHealedTwice_16 rfl ?_
  refine g_getI dX12_isHealedTwice_17 fd_X12_117 sh_208 rfl ?_
  refine g_iconst dX12_isHealedTwice_20 ⟨by decide, by decide⟩ ?_
  refine g_cne dX12_isHealedTwice_21 rfl (fun q => ?_) (fun q => ?_)
  · have hF := hF.1 q
    refine g_iload_n dX12_isHealedTwice_28 rfl ?_
    refine g_iconst dX12_isHealedTwice_29 ⟨by decide, by decide⟩ ?_
    obtain ⟨hc, hF⟩ := hF
    refine g_iadd dX12_isHealedTwice_30 hc ?_
    refine gw_istore (L' := [some (g_R 208), some (g_I v1), some (g_I v2), some (g_I v3), some (g_I (v1 + 1))]) dX12_isHealedTwice_31 (by decide) rfl ?_
    refine g_iload dX12_isHealedTwice_33 rfl ?_
    refine g_aload_n dX12_isHealedTwice_35 rfl ?_
    refine g_getI dX12_isHealedTwice_36 fd_X12_342 sh_208 rfl ?_
    refine g_cge dX12_isHealedTwice_39 rfl (fun q => ?_) (fun q => ?_)
    · have hF := hF.1 q
      refine g_aload_n dX12_isHealedTwice_72 rfl ?_
      refine g_iload dX12_isHealedTwice_73 rfl ?_
      refine g_aload_n dX12_isHealedTwice_75 rfl ?_
      refine g_getI dX12_isHealedTwice_76 fd_X12_342 sh_208 rfl ?_
      refine gw_cVv (b := 208) (As := [g_I (v1 + 1), g_I (D3 208 46)]) (rest := []) dX12_isHealedTwice_79 mv_X12_377 sh_208 rfl (Nat.le_of_ble_eq_true rfl) (by decide) rfl hF ?_
      intro D4 hF
      refine g_aload_n dX12_isHealedTwice_82 rfl ?_
      refine gw_cVi (b := 208) (As := []) (rest := []) dX12_isHealedTwice_83 mv_X12_423 sh_208 rfl (Nat.le_of_ble_eq_true rfl) (by decide) rfl hF ?_
      intro x5 D5 hx5 hF
      have hF := hF hx5
      exact gw_zret dX12_isHealedTwice_86 rfl hF.1 hF.2
    · have hF := hF.2 q
      refine g_aload_n dX12_isHealedTwice_42 rfl ?_
      refine g_iload dX12_isHealedTwice_43 rfl ?_
      refine g_iload_n dX12_isHealedTwice_45 rfl ?_
      refine g_iconst dX12_isHealedTwice_46 ⟨by decide, by decide⟩ ?_
      refine gw_cVv (b := 208) (As := [g_I (v1 + 1), g_I v3, g_I 2]) (rest := []) dX12_isHealedTwice_47 mv_X12_383 sh_208 rfl (Nat.le_of_ble_eq_true rfl) (by decide) rfl hF ?_
      intro D6 hF
      refine g_aload_n dX12_isHealedTwice_50 rfl ?_
      refine gw_cVv (b := 208) (As := []) (rest := []) dX12_isHealedTwice_51 mv_X12_387 sh_208 rfl (Nat.le_of_ble_eq_true rfl) (by decide) rfl hF ?_
      intro D7 hF
      refine g_iload dX12_isHealedTwice_54 rfl ?_
      refine g_aload_n dX12_isHealedTwice_56 rfl ?_
      refine g_getI dX12_isHealedTwice_57 fd_X12_117 sh_208 rfl ?_
      refine g_iconst dX12_isHealedTwice_60 ⟨by decide, by decide⟩ ?_
      refine g_cne dX12_isHealedTwice_61 rfl (fun q => ?_) (fun q => ?_)
      · have hF := hF.1 q
        refine g_iconst dX12_isHealedTwice_68 ⟨by decide, by decide⟩ ?_
        obtain ⟨hc, hF⟩ := hF
        refine g_iadd dX12_isHealedTwice_69 hc ?_
        refine gw_istore (L' := [some (g_R 208), some (g_I v1), some (g_I v2), some (g_I v3), some (g_I ((v1 + 1) + 1))]) dX12_isHealedTwice_70 (by decide) rfl ?_
        refine g_aload_n dX12_isHealedTwice_72 rfl ?_
        refine g_iload dX12_isHealedTwice_73 rfl ?_
        refine g_aload_n dX12_isHealedTwice_75 rfl ?_
        refine g_getI dX12_isHealedTwice_76 fd_X12_342 sh_208 rfl ?_
        refine gw_cVv (b := 208) (As := [g_I ((v1 + 1) + 1), g_I (D7 208 46)]) (rest := []) dX12_isHealedTwice_79 mv_X12_377 sh_208 rfl (Nat.le_of_ble_eq_true rfl) (by decide) rfl hF ?_
        intro D8 hF
        refine g_aload_n dX12_isHealedTwice_82 rfl ?_
        refine gw_cVi (b := 208) (As := []) (rest := []) dX12_isHealedTwice_83 mv_X12_423 sh_208 rfl (Nat.le_of_ble_eq_true rfl) (by decide) rfl hF ?_
        intro x9 D9 hx9 hF
        have hF := hF hx9
        exact gw_zret dX12_isHealedTwice_86 rfl hF.1 hF.2
      · have hF := hF.2 q
        refine g_iconst dX12_isHealedTwice_64 ⟨by decide, by decide⟩ ?_
        refine g_goto dX12_isHealedTwice_65 rfl ?_
        obtain ⟨hc, hF⟩ := hF
        refine g_iadd dX12_isHealedTwice_69 hc ?_
        refine gw_istore (L' := [some (g_R 208), some (g_I v1), some (g_I v2), some (g_I v3), some (g_I ((v1 + 1) + 0))]) dX12_isHealedTwice_70 (by decide) rfl ?_
        refine g_aload_n dX12_isHealedTwice_72 rfl ?_
        refine g_iload dX12_isHealedTwice_73 rfl ?_
        refine g_aload_n dX12_isHealedTwice_75 rfl ?_
        refine g_getI dX12_isHealedTwice_76 fd_X12_342 sh_208 rfl ?_
        refine gw_cVv (b := 208) (As := [g_I ((v1 + 1) + 0), g_I (D7 208 46)]) (rest := []) dX12_isHealedTwice_79 mv_X12_377 sh_208 rfl (Nat.le_of_ble_eq_true rfl) (by decide) rfl hF ?_
        intro D10 hF
        refine g_aload_n dX12_isHealedTwice_82 rfl ?_
        refine gw_cVi (b := 208) (As := []) (rest := []) dX12_isHealedTwice_83 mv_X12_423 sh_208 rfl (Nat.le_of_ble_eq_true rfl) (by decide) rfl hF ?_
        intro x11 D11 hx11 hF
        have hF := hF hx11
        exact gw_zret dX12_isHealedTwice_86 rfl hF.1 hF.2
  · have hF := hF.2 q
    refine g_iload_n dX12_isHealedTwice_24 rfl ?_
    refine g_goto dX12_isHealedTwice_25 rfl ?_
    refine gw_istore (L' := [some (g_R 208), some (g_I v1), some (g_I v2), some (g_I v3), some (g_I v1)]) dX12_isHealedTwice_31 (by decide) rfl ?_
    refine g_iload dX12_isHealedTwice_33 rfl ?_
    refine g_aload_n dX12_isHealedTwice_35 rfl ?_
    refine g_getI dX12_isHealedTwice_36 fd_X12_342 sh_208 rfl ?_
    refine g_cge dX12_isHealedTwice_39 rfl (fun q => ?_) (fun q => ?_)
    · have hF := hF.1 q
      refine g_aload_n dX12_isHealedTwice_72 rfl ?_
      refine g_iload dX12_isHealedTwice_73 rfl ?_
      refine g_aload_n dX12_isHealedTwice_75 rfl ?_
      refine g_getI dX12_isHealedTwice_76 fd_X12_342 sh_208 rfl ?_
      refine gw_cVv (b := 208) (As := [g_I v1, g_I (D3 208 46)]) (rest := []) dX12_isHealedTwice_79 mv_X12_377 sh_208 rfl (Nat.le_of_ble_eq_true rfl) (by decide) rfl hF ?_
      intro D12 hF
      refine g_aload_n dX12_isHealedTwice_82 rfl ?_
      refine gw_cVi (b := 208) (As := []) (rest := []) dX12_isHealedTwice_83 mv_X12_423 sh_208 rfl (Nat.le_of_ble_eq_true rfl) (by decide) rfl hF ?_
      intro x13 D13 hx13 hF
      have hF := hF hx13
      exact gw_zret dX12_isHealedTwice_86 rfl hF.1 hF.2
    · have hF := hF.2 q
      refine g_aload_n dX12_isHealedTwice_42 rfl ?_
      refine g_iload dX12_isHealedTwice_43 rfl ?_
      refine g_iload_n dX12_isHealedTwice_45 rfl ?_
      refine g_iconst dX12_isHealedTwice_46 ⟨by decide, by decide⟩ ?_
      refine gw_cVv (b := 208) (As := [g_I v1, g_I v3, g_I 2]) (rest := []) dX12_isHealedTwice_47 mv_X12_383 sh_208 rfl (Nat.le_of_ble_eq_true rfl) (by decide) rfl hF ?_
      intro D14 hF
      refine g_aload_n dX12_isHealedTwice_50 rfl ?_
      refine gw_cVv (b := 208) (As := []) (rest := []) dX12_isHealedTwice_51 mv_X12_387 sh_208 rfl (Nat.le_of_ble_eq_true rfl) (by decide) rfl hF ?_
      intro D15 hF
      refine g_iload dX12_isHealedTwice_54 rfl ?_
      refine g_aload_n dX12_isHealedTwice_56 rfl ?_
      refine g_getI dX12_isHealedTwice_57 fd_X12_117 sh_208 rfl ?_
      refine g_iconst dX12_isHealedTwice_60 ⟨by decide, by decide⟩ ?_
      refine g_cne dX12_isHealedTwice_61 rfl (fun q => ?_) (fun q => ?_)
      · have hF := hF.1 q
        refine g_iconst dX12_isHealedTwice_68 ⟨by decide, by decide⟩ ?_
        obtain ⟨hc, hF⟩ := hF
        refine g_iadd dX12_isHealedTwice_69 hc ?_
        refine gw_istore (L' := [some (g_R 208), some (g_I v1), some (g_I v2), some (g_I v3), some (g_I (v1 + 1))]) dX12_isHealedTwice_70 (by decide) rfl ?_
        refine g_aload_n dX12_isHealedTwice_72 rfl ?_
        refine g_iload dX12_isHealedTwice_73 rfl ?_
        refine g_aload_n dX12_isHealedTwice_75 rfl ?_
        refine g_getI dX12_isHealedTwice_76 fd_X12_342 sh_208 rfl ?_
        refine gw_cVv (b := 208) (As := [g_I (v1 + 1), g_I (D15 208 46)]) (rest := []) dX12_isHealedTwice_79 mv_X12_377 sh_208 rfl (Nat.le_of_ble_eq_true rfl) (by decide) rfl hF ?_
        intro D16 hF
        refine g_aload_n dX12_isHealedTwice_82 rfl ?_
        refine gw_cVi (b := 208) (As := []) (rest := []) dX12_isHealedTwice_83 mv_X12_423 sh_208 rfl (Nat.le_of_ble_eq_true rfl) (by decide) rfl hF ?_
        intro x17 D17 hx17 hF
        have hF := hF hx17
        exact gw_zret dX12_isHealedTwice_86 rfl hF.1 hF.2
      · have hF := hF.2 q
        refine g_iconst dX12_isHealedTwice_64 ⟨by decide, by decide⟩ ?_
        refine g_goto dX12_isHealedTwice_65 rfl ?_
        obtain ⟨hc, hF⟩ := hF
        refine g_iadd dX12_isHealedTwice_69 hc ?_
        refine gw_istore (L' := [some (g_R 208), some (g_I v1), some (g_I v2), some (g_I v3), some (g_I (v1 + 0))]) dX12_isHealedTwice_70 (by decide) rfl ?_
        refine g_aload_n dX12_isHealedTwice_72 rfl ?_
        refine g_iload dX12_isHealedTwice_73 rfl ?_
        refine g_aload_n dX12_isHealedTwice_75 rfl ?_
        refine g_getI dX12_isHealedTwice_76 fd_X12_342 sh_208 rfl ?_
        refine gw_cVv (b := 208) (As := [g_I (v1 + 0), g_I (D15 208 46)]) (rest := []) dX12_isHealedTwice_79 mv_X12_377 sh_208 rfl (Nat.le_of_ble_eq_true rfl) (by decide) rfl hF ?_
        intro D18 hF
        refine g_aload_n dX12_isHealedTwice_82 rfl ?_
        refine gw_cVi (b := 208) (As := []) (rest := []) dX12_isHealedTwice_83 mv_X12_423 sh_208 rfl (Nat.le_of_ble_eq_true rfl) (by decide) rfl hF ?_
        intro x19 D19 hx19 hF
        have hF := hF hx19
        exact gw_zret dX12_isHealedTwice_86 rfl hF.1 hF.2
theorem dX12_isTerm_0 : decode cX12_isTerm 0 = .ok (.iload_n 0, 1) := by decide +kernel
theorem dX12_isTerm_1 : decode cX12_isTerm 1 = .ok (.lookupswitch 49 #[(0, 27), (3, 39)], 27) := by decide +kernel
theorem dX12_isTerm_28 : decode cX12_isTerm 28 = .ok (.iload_n 1, 1) := by decide +kernel
theorem dX12_isTerm_29 : decode cX12_isTerm 29 = .ok (.i2l, 1) := by decide +kernel
theorem dX12_isTerm_30 : decode cX12_isTerm 30 = .ok (.ldc2_w 143, 3) := by decide +kernel
theorem dX12_isTerm_33 : decode cX12_isTerm 33 = .ok (.ldc2_w 145, 3) := by decide +kernel
theorem dX12_isTerm_36 : decode cX12_isTerm 36 = .ok (.invokestatic 131, 3) := by decide +kernel
theorem dX12_isTerm_39 : decode cX12_isTerm 39 = .ok (.ireturn, 1) := by decide +kernel
theorem dX12_isTerm_40 : decode cX12_isTerm 40 = .ok (.iload_n 1, 1) := by decide +kernel
theorem dX12_isTerm_41 : decode cX12_isTerm 41 = .ok (.i2l, 1) := by decide +kernel
theorem dX12_isTerm_42 : decode cX12_isTerm 42 = .ok (.lconst 0, 1) := by decide +kernel
theorem dX12_isTerm_43 : decode cX12_isTerm 43 = .ok (.ldc2_w 147, 3) := by decide +kernel
theorem dX12_isTerm_46 : decode cX12_isTerm 46 = .ok (.invokestatic 131, 3) := by decide +kernel
theorem dX12_isTerm_49 : decode cX12_isTerm 49 = .ok (.ireturn, 1) := by decide +kernel
theorem dX12_isTerm_50 : decode cX12_isTerm 50 = .ok (.iload_n 1, 1) := by decide +kernel
theorem dX12_isTerm_51 : decode cX12_isTerm 51 = .ok (.i2l, 1) := by decide +kernel
theorem dX12_isTerm_52 : decode cX12_isTerm 52 = .ok (.lconst 0, 1) := by decide +kernel
theorem dX12_isTerm_53 : decode cX12_isTerm 53 = .ok (.ldc2_w 149, 3) := by decide +kernel
theorem dX12_isTerm_56 : decode cX12_isTerm 56 = .ok (.invokestatic 131, 3) := by decide +kernel
theorem dX12_isTerm_59 : decode cX12_isTerm 59 = .ok (.ireturn, 1) := by decide +kernel
abbrev k_X12_isTerm (E : g_E) (l : Launch) (sh : List g_Sh) (D : g_D) (v0 : Int) (v1 : Int) (K : Int → g_D → Prop) : Prop := g_Ki E l m_X12_isTerm 1 [g_I v0, g_I v1] sh D K
abbrev n_X12_isTerm (E : g_E) (l : Launch) (sh : List g_Sh) (D : g_D) (pc : Nat) (L : List (Option g_V)) (K : Int → g_D → Prop) : Prop := g_N E l m_X12_isTerm 1 pc L [] sh D (g_Ri sh K)
theorem s_X12_isTerm {E : g_E} {l : Launch} {sh : List g_Sh} {D : g_D} {K : Int → g_D → Prop} {v0 : Int} {v1 : Int}  (hF : g_okD D → g_r v0 → g_r v1 → (v0 = 0 → k_X12_within E l sh D v1 3 8 (fun x1 D1 => g_r x1 → (x1 = 0 ∨ x1 = 1) ∧ K x1 D1)) ∧ (v0 = 3 → k_X12_within E l sh D v1 0 20 (fun x2 D2 => g_r x2 → (x2 = 0 ∨ x2 = 1) ∧ K x2 D2)) ∧ ((¬ v0 = 0 ∧ ¬ v0 = 3) → k_X12_within E l sh D v1 0 2 (fun x3 D3 => g_r x3 → (x3 = 0 ∨ x3 = 1) ∧ K x3 D3))) : k_X12_isTerm E l sh D v0 v1 K := by
  refine g_enter (by decide) (Nat.le_of_ble_eq_true rfl) ?_
  show g_N E l m_X12_isTerm 1 0 [some (g_I v0), some (g_I v1)] [] sh D (g_Ri sh K)
  refine g_use (fun ok => ?_)
  have hF := hF ok.2.1 (ok.loc (i := 0) rfl) (ok.loc (i := 1) rfl)
  refine g_iload_n dX12_isTerm_0 rfl ?_
  rcases Decidable.em (v0 = 0) with q1_0 | q1_0
  · have hF := hF.1 q1_0
    refine g_ls dX12_isTerm_1 (by decide) (by rw [q1_0] <;> rfl) rfl ?_
    refine g_iload_n dX12_isTerm_28 rfl ?_
    refine g_i2l dX12_isTerm_29 ?_
    refine g_ldc2 dX12_isTerm_30 ⟨by decide, by decide⟩ kl_X12_143 ?_
    refine g_ldc2 dX12_isTerm_33 ⟨by decide, by decide⟩ kl_X12_145 ?_
    refine gw_cSi (As := [g_J v1, g_J 3, g_J 8]) (rest := []) dX12_isTerm_36 ms_X12_131 rfl (Nat.le_of_ble_eq_true rfl) (by decide) rfl hF ?_
    intro x1 D1 hx1 hF
    have hF := hF hx1
    exact gw_zret dX12_isTerm_39 rfl hF.1 hF.2
  rcases Decidable.em (v0 = 3) with q1_1 | q1_1
  · have hF := hF.2.1 q1_1
    refine g_ls dX12_isTerm_1 (by decide) (by rw [q1_1] <;> rfl) rfl ?_
    refine g_iload_n dX12_isTerm_40 rfl ?_
    refine g_i2l dX12_isTerm_41 ?_
    refine g_lconst dX12_isTerm_42 ?_
    refine g_ldc2 dX12_isTerm_43 ⟨by decide, by decide⟩ kl_X12_147 ?_
    refine gw_cSi (As := [g_J v1, g_J 0, g_J 20]) (rest := []) dX12_isTerm_46 ms_X12_131 rfl (Nat.le_of_ble_eq_true rfl) (by decide) rfl hF ?_
    intro x2 D2 hx2 hF
    have hF := hF hx2
    exact gw_zret dX12_isTerm_49 rfl hF.1 hF.2
  have hF := hF.2.2 ⟨q1_0, q1_1⟩
  refine g_ls (off := 49) dX12_isTerm_1 (by decide) (by simp [Op.lookupswitch.offset, q1_0, Ne.symm q1_0, q1_1, Ne.symm q1_1]) rfl ?_
  refine g_iload_n dX12_isTerm_50 rfl ?_
  refine g_i2l dX12_isTerm_51 ?_
  refine g_lconst dX12_isTerm_52 ?_
  refine g_ldc2 dX12_isTerm_53 ⟨by decide, by decide⟩ kl_X12_149 ?_
  refine gw_cSi (As := [g_J v1, g_J 0, g_J 2]) (rest := []) dX12_isTerm_56 ms_X12_131 rfl (Nat.le_of_ble_eq_true rfl) (by decide) rfl hF ?_
  intro x3 D3 hx3 hF
  have hF := hF hx3
  exact gw_zret dX12_isTerm_59 rfl hF.1 hF.2
theorem dX12_laysSuffixes_0 : decode cX12_laysSuffixes 0 = .ok (.iconst 0, 1) := by decide +kernel
theorem dX12_laysSuffixes_1 : decode cX12_laysSuffixes 1 = .ok (.istore_n 1, 1) := by decide +kernel
theorem dX12_laysSuffixes_2 : decode cX12_laysSuffixes 2 = .ok (.iload_n 1, 1) := by decide +kernel
theorem dX12_laysSuffixes_3 : decode cX12_laysSuffixes 3 = .ok (.aload_n 0, 1) := by decide +kernel
theorem dX12_laysSuffixes_4 : decode cX12_laysSuffixes 4 = .ok (.getfield 13, 3) := by decide +kernel
theorem dX12_laysSuffixes_7 : decode cX12_laysSuffixes 7 = .ok (.iconst 0, 1) := by decide +kernel
theorem dX12_laysSuffixes_8 : decode cX12_laysSuffixes 8 = .ok (.iaload, 1) := by decide +kernel
theorem dX12_laysSuffixes_9 : decode cX12_laysSuffixes 9 = .ok (.if_icmp .ge 58, 3) := by decide +kernel
theorem dX12_laysSuffixes_12 : decode cX12_laysSuffixes 12 = .ok (.iconst 0, 1) := by decide +kernel
theorem dX12_laysSuffixes_13 : decode cX12_laysSuffixes 13 = .ok (.istore_n 2, 1) := by decide +kernel
theorem dX12_laysSuffixes_14 : decode cX12_laysSuffixes 14 = .ok (.iconst 0, 1) := by decide +kernel
theorem dX12_laysSuffixes_15 : decode cX12_laysSuffixes 15 = .ok (.istore_n 3, 1) := by decide +kernel
theorem dX12_laysSuffixes_16 : decode cX12_laysSuffixes 16 = .ok (.iload_n 3, 1) := by decide +kernel
theorem dX12_laysSuffixes_17 : decode cX12_laysSuffixes 17 = .ok (.aload_n 0, 1) := by decide +kernel
theorem dX12_laysSuffixes_18 : decode cX12_laysSuffixes 18 = .ok (.getfield 13, 3) := by decide +kernel
theorem dX12_laysSuffixes_21 : decode cX12_laysSuffixes 21 = .ok (.iconst 0, 1) := by decide +kernel
theorem dX12_laysSuffixes_22 : decode cX12_laysSuffixes 22 = .ok (.iaload, 1) := by decide +kernel
theorem dX12_laysSuffixes_23 : decode cX12_laysSuffixes 23 = .ok (.if_icmp .ge 31, 3) := by decide +kernel
theorem dX12_laysSuffixes_26 : decode cX12_laysSuffixes 26 = .ok (.iload_n 2, 1) := by decide +kernel
theorem dX12_laysSuffixes_27 : decode cX12_laysSuffixes 27 = .ok (.iload_n 3, 1) := by decide +kernel
theorem dX12_laysSuffixes_28 : decode cX12_laysSuffixes 28 = .ok (.iload_n 1, 1) := by decide +kernel
theorem dX12_laysSuffixes_29 : decode cX12_laysSuffixes 29 = .ok (.if_icmp .eq 16, 3) := by decide +kernel
theorem dX12_laysSuffixes_32 : decode cX12_laysSuffixes 32 = .ok (.aload_n 0, 1) := by decide +kernel
theorem dX12_laysSuffixes_33 : decode cX12_laysSuffixes 33 = .ok (.iload_n 3, 1) := by decide +kernel
theorem dX12_laysSuffixes_34 : decode cX12_laysSuffixes 34 = .ok (.iload_n 1, 1) := by decide +kernel
theorem dX12_laysSuffixes_35 : decode cX12_laysSuffixes 35 = .ok (.invokevirtual 159, 3) := by decide +kernel
theorem dX12_laysSuffixes_38 : decode cX12_laysSuffixes 38 = .ok (.ifCond .eq 7, 3) := by decide +kernel
theorem dX12_laysSuffixes_41 : decode cX12_laysSuffixes 41 = .ok (.iconst 1, 1) := by decide +kernel
theorem dX12_laysSuffixes_42 : decode cX12_laysSuffixes 42 = .ok (.goto 4, 3) := by decide +kernel
theorem dX12_laysSuffixes_45 : decode cX12_laysSuffixes 45 = .ok (.iconst 0, 1) := by decide +kernel
theorem dX12_laysSuffixes_46 : decode cX12_laysSuffixes 46 = .ok (.iadd, 1) := by decide +kernel
theorem dX12_laysSuffixes_47 : decode cX12_laysSuffixes 47 = .ok (.istore_n 2, 1) := by decide +kernel
theorem dX12_laysSuffixes_48 : decode cX12_laysSuffixes 48 = .ok (.iinc 3 1, 3) := by decide +kernel
theorem dX12_laysSuffixes_51 : decode cX12_laysSuffixes 51 = .ok (.goto (-35), 3) := by decide +kernel
theorem dX12_laysSuffixes_54 : decode cX12_laysSuffixes 54 = .ok (.aload_n 0, 1) := by decide +kernel
theorem dX12_laysSuffixes_55 : decode cX12_laysSuffixes 55 = .ok (.getfield 27, 3) := by decide +kernel
theorem dX12_laysSuffixes_58 : decode cX12_laysSuffixes 58 = .ok (.iload_n 2, 1) := by decide +kernel
theorem dX12_laysSuffixes_59 : decode cX12_laysSuffixes 59 = .ok (.iload_n 1, 1) := by decide +kernel
theorem dX12_laysSuffixes_60 : decode cX12_laysSuffixes 60 = .ok (.iastore, 1) := by decide +kernel
theorem dX12_laysSuffixes_61 : decode cX12_laysSuffixes 61 = .ok (.iinc 1 1, 3) := by decide +kernel
theorem dX12_laysSuffixes_64 : decode cX12_laysSuffixes 64 = .ok (.goto (-62), 3) := by decide +kernel
theorem dX12_laysSuffixes_67 : decode cX12_laysSuffixes 67 = .ok (.return_, 1) := by decide +kernel
abbrev k_X12_laysSuffixes (E : g_E) (l : Launch) (D : g_D) (K : g_D → Prop) : Prop := g_Kv E l m_X12_laysSuffixes 2 [g_R 208] g_SH D K
abbrev n_X12_laysSuffixes (E : g_E) (l : Launch) (D : g_D) (pc : Nat) (L : List (Option g_V)) (K : g_D → Prop) : Prop := g_N E l m_X12_laysSuffixes 2 pc L [] g_SH D (g_Rv g_SH K)
theorem s_X12_laysSuffixes {E : g_E} {l : Launch} {D : g_D} {K : g_D → Prop}   (hF : g_okD D → n_X12_laysSuffixes E l D 2 [some (g_R 208), some (g_I 0), none, none] K) : k_X12_laysSuffixes E l D K := by
  refine g_enter (by decide) (Nat.le_of_ble_eq_true rfl) ?_
  show g_N E l m_X12_laysSuffixes 2 0 [some (g_R 208), none, none, none] [] g_SH D (g_Rv g_SH K)
  refine g_use (fun ok => ?_)
  have hF := hF ok.2.1
  refine g_iconst dX12_laysSuffixes_0 ⟨by decide, by decide⟩ ?_
  refine gw_istore_n (L' := [some (g_R 208), some (g_I 0), none, none]) dX12_laysSuffixes_1 (by decide) rfl ?_
  exact hF
theorem s_X12_laysSuffixes_2 {E : g_E} {l : Launch} {D : g_D} {K : g_D → Prop} {v1 : Int}  (hF : g_okD D → g_r v1 → ((D 209 0) ≤ v1 → K D) ∧ (¬ (D 209 0) ≤ v1 → n_X12_laysSuffixes E l D 16 [some (g_R 208), some (g_I v1), some (g_I 0), some (g_I 0)] K)) : n_X12_laysSuffixes E l D 2 [some (g_R 208), some (g_I v1), none, none] K := by
  refine g_use (fun ok => ?_)
  have hF := hF ok.2.1 (ok.loc (i := 1) rfl)
  refine g_iload_n dX12_laysSuffixes_2 rfl ?_
  refine g_aload_n dX12_laysSuffixes_3 rfl ?_
  refine g_getR dX12_laysSuffixes_4 fd_X12_13 sh_208 rfl ?_
  refine g_iconst dX12_laysSuffixes_7 ⟨by decide, by decide⟩ ?_
  refine g_iald dX12_laysSuffixes_8 sh_209 (by decide) (by decide) ?_
  refine g_cge dX12_laysSuffixes_9 rfl (fun q => ?_) (fun q => ?_)
  · have hF := hF.1 q
    exact gw_vret dX12_laysSuffixes_67 rfl hF
  · have hF := hF.2 q
    refine g_iconst dX12_laysSuffixes_12 ⟨by decide, by decide⟩ ?_
    refine gw_istore_n (L' := [some (g_R 208), some (g_I v1), some (g_I 0), none]) dX12_laysSuffixes_13 (by decide) rfl ?_
    refine g_iconst dX12_laysSuffixes_14 ⟨by decide, by decide⟩ ?_
    refine gw_istore_n (L' := [some (g_R 208), some (g_I v1), some (g_I 0), some (g_I 0)]) dX12_laysSuffixes_15 (by decide) rfl ?_
    exact hF
theorem s_X12_laysSuffixes_16 {E : g_E} {l : Launch} {D : g_D} {K : g_D → Prop} {v1 : Int} {v2 : Int} {v3 : Int}  (hF : g_okD D → g_r v1 → g_r v2 → g_r v3 → ((D 209 0) ≤ v3 → (0 ≤ v2 ∧ v2 < 40) ∧ (∀ D1, D1 = g_up D 213 v2.toNat v1 → ((g_r (v1 + 1)) ∧ (n_X12_laysSuffixes E l D1 2 [some (g_R 208), some (g_I (v1 + 1)), none, none] K)))) ∧ (¬ (D 209 0) ≤ v3 → (v3 = v1 → (g_r (v2 + 0)) ∧ ((g_r (v3 + 1)) ∧ (n_X12_laysSuffixes E l D 16 [some (g_R 208), some (g_I v1), some (g_I (v2 + 0)), some (g_I (v3 + 1))] K))) ∧ (¬ v3 = v1 → k_X12_isAheadSuffix E l D v3 v1 (fun x2 D2 => g_r x2 → (x2 = 0 → (g_r (v2 + 0)) ∧ ((g_r (v3 + 1)) ∧ (n_X12_laysSuffixes E l D2 16 [some (g_R 208), some (g_I v1), some (g_I (v2 + 0)), some (g_I (v3 + 1))] K))) ∧ (¬ x2 = 0 → (g_r (v2 + 1)) ∧ ((g_r (v3 + 1)) ∧ (n_X12_laysSuffixes E l D2 16 [some (g_R 208), some (g_I v1), some (g_I (v2 + 1)), some (g_I (v3 + 1))] K))))))) : n_X12_laysSuffixes E l D 16 [some (g_R 208), some (g_I v1), some (g_I v2), some (g_I v3)] K := by
  refine g_use (fun ok => ?_)
  have hF := hF ok.2.1 (ok.loc (i := 1) rfl) (ok.loc (i := 2) rfl) (ok.loc (i := 3) rfl)
  refine g_iload_n dX12_laysSuffixes_16 rfl ?_
  refine g_aload_n dX12_laysSuffixes_17 rfl ?_
  refine g_getR dX12_laysSuffixes_18 fd_X12_13 sh_208 rfl ?_
  refine g_iconst dX12_laysSuffixes_21 ⟨by decide, by decide⟩ ?_
  refine g_iald dX12_laysSuffixes_22 sh_209 (by decide) (by decide) ?_
  refine g_cge dX12_laysSuffixes_23 rfl (fun q => ?_) (fun q => ?_)
  · have hF := hF.1 q
    refine g_aload_n dX12_laysSuffixes_54 rfl ?_
    refine g_getR dX12_laysSuffixes_55 fd_X12_27 sh_208 rfl ?_
    refine g_iload_n dX12_laysSuffixes_58 rfl ?_
    refine g_iload_n dX12_laysSuffixes_59 rfl ?_
    obtain ⟨hc, hF⟩ := hF
    let D1 : g_D := g_up D 213 v2.toNat v1
    have hF := hF D1 rfl
    refine g_iast dX12_laysSuffixes_60 sh_213 hc.1 hc.2 ?_
    obtain ⟨hc, hF⟩ := hF
    refine gw_iinc (L' := [some (g_R 208), some (g_I (v1 + 1)), some (g_I v2), some (g_I v3)]) dX12_laysSuffixes_61 rfl hc (by decide) rfl ?_
    refine g_goto dX12_laysSuffixes_64 rfl ?_
    exact g_forget (L' := [some (g_R 208), some (g_I (v1 + 1)), none, none]) ⟨rfl, ⟨rfl, trivial⟩⟩ hF
  · have hF := hF.2 q
    refine g_iload_n dX12_laysSuffixes_26 rfl ?_
    refine g_iload_n dX12_laysSuffixes_27 rfl ?_
    refine g_iload_n dX12_laysSuffixes_28 rfl ?_
    refine g_ceq dX12_laysSuffixes_29 rfl (fun q => ?_) (fun q => ?_)
    · have hF := hF.1 q
      refine g_iconst dX12_laysSuffixes_45 ⟨by decide, by decide⟩ ?_
      obtain ⟨hc, hF⟩ := hF
      refine g_iadd dX12_laysSuffixes_46 hc ?_
      refine gw_istore_n (L' := [some (g_R 208), some (g_I v1), some (g_I (v2 + 0)), some (g_I v3)]) dX12_laysSuffixes_47 (by decide) rfl ?_
      obtain ⟨hc, hF⟩ := hF
      refine gw_iinc (L' := [some (g_R 208), some (g_I v1), some (g_I (v2 + 0)), some (g_I (v3 + 1))]) dX12_laysSuffixes_48 rfl hc (by decide) rfl ?_
      refine g_goto dX12_laysSuffixes_51 rfl ?_
      exact hF
    · have hF := hF.2 q
      refine g_aload_n dX12_laysSuffixes_32 rfl ?_
      refine g_iload_n dX12_laysSuffixes_33 rfl ?_
      refine g_iload_n dX12_laysSuffixes_34 rfl ?_
      refine gw_cVi (b := 208) (As := [g_I v3, g_I v1]) (rest := [g_I v2]) dX12_laysSuffixes_35 mv_X12_159 sh_208 rfl (Nat.le_of_ble_eq_true rfl) (by decide) rfl hF ?_
      intro x2 D2 hx2 hF
      have hF := hF hx2
      refine g_ifeq dX12_laysSuffixes_38 rfl (fun q => ?_) (fun q => ?_)
      · have hF := hF.1 q
        refine g_iconst dX12_laysSuffixes_45 ⟨by decide, by decide⟩ ?_
        obtain ⟨hc, hF⟩ := hF
        refine g_iadd dX12_laysSuffixes_46 hc ?_
        refine gw_istore_n (L' := [some (g_R 208), some (g_I v1), some (g_I (v2 + 0)), some (g_I v3)]) dX12_laysSuffixes_47 (by decide) rfl ?_
        obtain ⟨hc, hF⟩ := hF
        refine gw_iinc (L' := [some (g_R 208), some (g_I v1), some (g_I (v2 + 0)), some (g_I (v3 + 1))]) dX12_laysSuffixes_48 rfl hc (by decide) rfl ?_
        refine g_goto dX12_laysSuffixes_51 rfl ?_
        exact hF
      · have hF := hF.2 q
        refine g_iconst dX12_laysSuffixes_41 ⟨by decide, by decide⟩ ?_
        refine g_goto dX12_laysSuffixes_42 rfl ?_
        obtain ⟨hc, hF⟩ := hF
        refine g_iadd dX12_laysSuffixes_46 hc ?_
        refine gw_istore_n (L' := [some (g_R 208), some (g_I v1), some (g_I (v2 + 1)), some (g_I v3)]) dX12_laysSuffixes_47 (by decide) rfl ?_
        obtain ⟨hc, hF⟩ := hF
        refine gw_iinc (L' := [some (g_R 208), some (g_I v1), some (g_I (v2 + 1)), some (g_I (v3 + 1))]) dX12_laysSuffixes_48 rfl hc (by decide) rfl ?_
        refine g_goto dX12_laysSuffixes_51 rfl ?_
        exact hF
theorem dX12_least_0 : decode cX12_least 0 = .ok (.aload_n 0, 1) := by decide +kernel
theorem dX12_least_1 : decode cX12_least 1 = .ok (.iconst 0, 1) := by decide +kernel
theorem dX12_least_2 : decode cX12_least 2 = .ok (.putfield 1, 3) := by decide +kernel
theorem dX12_least_5 : decode cX12_least 5 = .ok (.aload_n 0, 1) := by decide +kernel
theorem dX12_least_6 : decode cX12_least 6 = .ok (.getfield 13, 3) := by decide +kernel
theorem dX12_least_9 : decode cX12_least 9 = .ok (.iconst 1, 1) := by decide +kernel
theorem dX12_least_10 : decode cX12_least 10 = .ok (.iaload, 1) := by decide +kernel
theorem dX12_least_11 : decode cX12_least 11 = .ok (.istore_n 1, 1) := by decide +kernel
theorem dX12_least_12 : decode cX12_least 12 = .ok (.aload_n 0, 1) := by decide +kernel
theorem dX12_least_13 : decode cX12_least 13 = .ok (.getfield 30, 3) := by decide +kernel
theorem dX12_least_16 : decode cX12_least 16 = .ok (.iload_n 1, 1) := by decide +kernel
theorem dX12_least_17 : decode cX12_least 17 = .ok (.iconst 0, 1) := by decide +kernel
theorem dX12_least_18 : decode cX12_least 18 = .ok (.iastore, 1) := by decide +kernel
theorem dX12_least_19 : decode cX12_least 19 = .ok (.aload_n 0, 1) := by decide +kernel
theorem dX12_least_20 : decode cX12_least 20 = .ok (.getfield 33, 3) := by decide +kernel
theorem dX12_least_23 : decode cX12_least 23 = .ok (.iload_n 1, 1) := by decide +kernel
theorem dX12_least_24 : decode cX12_least 24 = .ok (.iconst 0, 1) := by decide +kernel
theorem dX12_least_25 : decode cX12_least 25 = .ok (.iastore, 1) := by decide +kernel
theorem dX12_least_26 : decode cX12_least 26 = .ok (.iload_n 1, 1) := by decide +kernel
theorem dX12_least_27 : decode cX12_least 27 = .ok (.iconst 1, 1) := by decide +kernel
theorem dX12_least_28 : decode cX12_least 28 = .ok (.isub, 1) := by decide +kernel
theorem dX12_least_29 : decode cX12_least 29 = .ok (.istore_n 2, 1) := by decide +kernel
theorem dX12_least_30 : decode cX12_least 30 = .ok (.iload_n 2, 1) := by decide +kernel
theorem dX12_least_31 : decode cX12_least 31 = .ok (.ifCond .lt 121, 3) := by decide +kernel
theorem dX12_least_34 : decode cX12_least 34 = .ok (.ldc 178, 2) := by decide +kernel
theorem dX12_least_36 : decode cX12_least 36 = .ok (.istore_n 3, 1) := by decide +kernel
theorem dX12_least_37 : decode cX12_least 37 = .ok (.aload_n 0, 1) := by decide +kernel
theorem dX12_least_38 : decode cX12_least 38 = .ok (.iload_n 2, 1) := by decide +kernel
theorem dX12_least_39 : decode cX12_least 39 = .ok (.iload_n 2, 1) := by decide +kernel
theorem dX12_least_40 : decode cX12_least 40 = .ok (.invokevirtual 165, 3) := by decide +kernel
theorem dX12_least_43 : decode cX12_least 43 = .ok (.istore 4, 2) := by decide +kernel
theorem dX12_least_45 : decode cX12_least 45 = .ok (.aload_n 0, 1) := by decide +kernel
theorem dX12_least_46 : decode cX12_least 46 = .ok (.getfield 13, 3) := by decide +kernel
theorem dX12_least_49 : decode cX12_least 49 = .ok (.iconst 2, 1) := by decide +kernel
theorem dX12_least_50 : decode cX12_least 50 = .ok (.iaload, 1) := by decide +kernel
theorem dX12_least_51 : decode cX12_least 51 = .ok (.istore 5, 2) := by decide +kernel
theorem dX12_least_53 : decode cX12_least 53 = .ok (.iload 5, 2) := by decide +kernel
theorem dX12_least_55 : decode cX12_least 55 = .ok (.aload_n 0, 1) := by decide +kernel
theorem dX12_least_56 : decode cX12_least 56 = .ok (.iload_n 2, 1) := by decide +kernel
theorem dX12_least_57 : decode cX12_least 57 = .ok (.invokevirtual 168, 3) := by decide +kernel
theorem dX12_least_60 : decode cX12_least 60 = .ok (.if_icmp .gt 36, 3) := by decide +kernel
theorem dX12_least_63 : decode cX12_least 63 = .ok (.iload_n 3, 1) := by decide +kernel
theorem dX12_least_64 : decode cX12_least 64 = .ok (.aload_n 0, 1) := by decide +kernel
theorem dX12_least_65 : decode cX12_least 65 = .ok (.getfield 30, 3) := by decide +kernel
theorem dX12_least_68 : decode cX12_least 68 = .ok (.iload_n 2, 1) := by decide +kernel
theorem dX12_least_69 : decode cX12_least 69 = .ok (.iload 5, 2) := by decide +kernel
theorem dX12_least_71 : decode cX12_least 71 = .ok (.iadd, 1) := by decide +kernel
theorem dX12_least_72 : decode cX12_least 72 = .ok (.iaload, 1) := by decide +kernel
theorem dX12_least_73 : decode cX12_least 73 = .ok (.iload 5, 2) := by decide +kernel
theorem dX12_least_75 : decode cX12_least 75 = .ok (.iload 4, 2) := by decide +kernel
theorem dX12_least_77 : decode cX12_least 77 = .ok (.if_icmp .gt 7, 3) := by decide +kernel
theorem dX12_least_80 : decode cX12_least 80 = .ok (.iconst 0, 1) := by decide +kernel
theorem dX12_least_81 : decode cX12_least 81 = .ok (.goto 4, 3) := by decide +kernel
theorem dX12_least_84 : decode cX12_least 84 = .ok (.iconst 4, 1) := by decide +kernel
theorem dX12_least_85 : decode cX12_least 85 = .ok (.iadd, 1) := by decide +kernel
theorem dX12_least_86 : decode cX12_least 86 = .ok (.invokestatic 179, 3) := by decide +kernel
theorem dX12_least_89 : decode cX12_least 89 = .ok (.istore_n 3, 1) := by decide +kernel
theorem dX12_least_90 : decode cX12_least 90 = .ok (.iinc 5 1, 3) := by decide +kernel
theorem dX12_least_93 : decode cX12_least 93 = .ok (.goto (-40), 3) := by decide +kernel
theorem dX12_least_96 : decode cX12_least 96 = .ok (.aload_n 0, 1) := by decide +kernel
theorem dX12_least_97 : decode cX12_least 97 = .ok (.getfield 33, 3) := by decide +kernel
theorem dX12_least_100 : decode cX12_least 100 = .ok (.iload_n 2, 1) := by decide +kernel
theorem dX12_least_101 : decode cX12_least 101 = .ok (.iload_n 3, 1) := by decide +kernel
theorem dX12_least_102 : decode cX12_least 102 = .ok (.iastore, 1) := by decide +kernel
theorem dX12_least_103 : decode cX12_least 103 = .ok (.iconst 1, 1) := by decide +kernel
theorem dX12_least_104 : decode cX12_least 104 = .ok (.istore 5, 2) := by decide +kernel
theorem dX12_least_106 : decode cX12_least 106 = .ok (.iload_n 2, 1) := by decide +kernel
theorem dX12_least_107 : decode cX12_least 107 = .ok (.iload 5, 2) := by decide +kernel
theorem dX12_least_109 : decode cX12_least 109 = .ok (.iadd, 1) := by decide +kernel
theorem dX12_least_110 : decode cX12_least 110 = .ok (.iload_n 1, 1) := by decide +kernel
theorem dX12_least_111 : decode cX12_least 111 = .ok (.if_icmp .gt 28, 3) := by decide +kernel
theorem dX12_least_114 : decode cX12_least 114 = .ok (.iload_n 3, 1) := by decide +kernel
theorem dX12_least_115 : decode cX12_least 115 = .ok (.aload_n 0, 1) := by decide +kernel
theorem dX12_least_116 : decode cX12_least 116 = .ok (.getfield 33, 3) := by decide +kernel
theorem dX12_least_119 : decode cX12_least 119 = .ok (.iload_n 2, 1) := by decide +kernel
theorem dX12_least_120 : decode cX12_least 120 = .ok (.iload 5, 2) := by decide +kernel
theorem dX12_least_122 : decode cX12_least 122 = .ok (.iadd, 1) := by decide +kernel
theorem dX12_least_123 : decode cX12_least 123 = .ok (.iaload, 1) := by decide +kernel
theorem dX12_least_124 : decode cX12_least 124 = .ok (.iconst 3, 1) := by decide +kernel
theorem dX12_least_125 : decode cX12_least 125 = .ok (.iadd, 1) := by decide +kernel
theorem dX12_least_126 : decode cX12_least 126 = .ok (.iload 5, 2) := by decide +kernel
theorem dX12_least_128 : decode cX12_least 128 = .ok (.iadd, 1) := by decide +kernel
theorem dX12_least_129 : decode cX12_least 129 = .ok (.invokestatic 179, 3) := by decide +kernel
theorem dX12_least_132 : decode cX12_least 132 = .ok (.istore_n 3, 1) := by decide +kernel
theorem dX12_least_133 : decode cX12_least 133 = .ok (.iinc 5 1, 3) := by decide +kernel
theorem dX12_least_136 : decode cX12_least 136 = .ok (.goto (-30), 3) := by decide +kernel
theorem dX12_least_139 : decode cX12_least 139 = .ok (.aload_n 0, 1) := by decide +kernel
theorem dX12_least_140 : decode cX12_least 140 = .ok (.getfield 30, 3) := by decide +kernel
theorem dX12_least_143 : decode cX12_least 143 = .ok (.iload_n 2, 1) := by decide +kernel
theorem dX12_least_144 : decode cX12_least 144 = .ok (.iload_n 3, 1) := by decide +kernel
theorem dX12_least_145 : decode cX12_least 145 = .ok (.iastore, 1) := by decide +kernel
theorem dX12_least_146 : decode cX12_least 146 = .ok (.iinc 2 (-1), 3) := by decide +kernel
theorem dX12_least_149 : decode cX12_least 149 = .ok (.goto (-119), 3) := by decide +kernel
theorem dX12_least_152 : decode cX12_least 152 = .ok (.iconst 1, 1) := by decide +kernel
theorem dX12_least_153 : decode cX12_least 153 = .ok (.aload_n 0, 1) := by decide +kernel
theorem dX12_least_154 : decode cX12_least 154 = .ok (.getfield 30, 3) := by decide +kernel
theorem dX12_least_157 : decode cX12_least 157 = .ok (.iconst 0, 1) := by decide +kernel
theorem dX12_least_158 : decode cX12_least 158 = .ok (.iaload, 1) := by decide +kernel
theorem dX12_least_159 : decode cX12_least 159 = .ok (.iadd, 1) := by decide +kernel
theorem dX12_least_160 : decode cX12_least 160 = .ok (.ireturn, 1) := by decide +kernel
abbrev k_X12_least (E : g_E) (l : Launch) (D : g_D) (K : Int → g_D → Prop) : Prop := g_Ki E l m_X12_least 2 [g_R 208] g_SH D K
abbrev n_X12_least (E : g_E) (l : Launch) (D : g_D) (pc : Nat) (L : List (Option g_V)) (K : Int → g_D → Prop) : Prop := g_N E l m_X12_least 2 pc L [] g_SH D (g_Ri g_SH K)
theorem s_X12_least {E : g_E} {l : Launch} {D : g_D} {K : Int → g_D → Prop}   (hF : g_okD D → ∀ D1, D1 = g_up D 208 0 0 → ((0 ≤ (D 209 1) ∧ (D 209 1) < 41) ∧ (∀ D2, D2 = g_up D1 214 (D 209 1).toNat 0 → ((0 ≤ (D 209 1) ∧ (D 209 1) < 41) ∧ (∀ D3, D3 = g_up D2 215 (D 209 1).toNat 0 → ((g_r ((D 209 1) - 1)) ∧ (n_X12_least E l D3 30 [some (g_R 208), some (g_I (D 209 1)), some (g_I ((D 209 1) - 1)), none, none, none] K))))))) : k_X12_least E l D K := by
  refine g_enter (by decide) (Nat.le_of_ble_eq_true rfl) ?_
  show g_N E l m_X12_least 2 0 [some (g_R 208), none, none, none, none, none] [] g_SH D (g_Ri g_SH K)
  refine g_use (fun ok => ?_)
  have hF := hF ok.2.1
  refine g_aload_n dX12_least_0 rfl ?_
  refine g_iconst dX12_least_1 ⟨by decide, by decide⟩ ?_
  let D1 : g_D := g_up D 208 0 0
  have hF := hF D1 rfl
  refine g_put dX12_least_2 fd_X12_1 (g_ftyI (C := RX12) (T := TX12) (N := 51) rfl rfl (by decide +kernel)) sh_208 rfl ?_
  refine g_aload_n dX12_least_5 rfl ?_
  refine g_getR dX12_least_6 fd_X12_13 sh_208 rfl ?_
  refine g_iconst dX12_least_9 ⟨by decide, by decide⟩ ?_
  refine g_iald dX12_least_10 sh_209 (by decide) (by decide) ?_
  refine gw_istore_n (L' := [some (g_R 208), some (g_I (D 209 1)), none, none, none, none]) dX12_least_11 (by decide) rfl ?_
  refine g_aload_n dX12_least_12 rfl ?_
  refine g_getR dX12_least_13 fd_X12_30 sh_208 rfl ?_
  refine g_iload_n dX12_least_16 rfl ?_
  refine g_iconst dX12_least_17 ⟨by decide, by decide⟩ ?_
  obtain ⟨hc, hF⟩ := hF
  let D2 : g_D := g_up D1 214 (D 209 1).toNat 0
  have hF := hF D2 rfl
  refine g_iast dX12_least_18 sh_214 hc.1 hc.2 ?_
  refine g_aload_n dX12_least_19 rfl ?_
  refine g_getR dX12_least_20 fd_X12_33 sh_208 rfl ?_
  refine g_iload_n dX12_least_23 rfl ?_
  refine g_iconst dX12_least_24 ⟨by decide, by decide⟩ ?_
  obtain ⟨hc, hF⟩ := hF
  let D3 : g_D := g_up D2 215 (D 209 1).toNat 0
  have hF := hF D3 rfl
  refine g_iast dX12_least_25 sh_215 hc.1 hc.2 ?_
  refine g_iload_n dX12_least_26 rfl ?_
  refine g_iconst dX12_least_27 ⟨by decide, by decide⟩ ?_
  obtain ⟨hc, hF⟩ := hF
  refine g_isub dX12_least_28 hc ?_
  refine gw_istore_n (L' := [some (g_R 208), some (g_I (D 209 1)), some (g_I ((D 209 1) - 1)), none, none, none]) dX12_least_29 (by decide) rfl ?_
  exact hF
theorem s_X12_least_30 {E : g_E} {l : Launch} {D : g_D} {K : Int → g_D → Prop} {v1 : Int} {v2 : Int}  (hF : g_okD D → g_r v1 → g_r v2 → (v2 < 0 → (g_r (1 + (D 214 0))) ∧ (K (1 + (D 214 0)) D)) ∧ (¬ v2 < 0 → k_X12_runAt E l D v2 v2 (fun x1 D1 => g_r x1 → n_X12_least E l D1 53 [some (g_R 208), some (g_I v1), some (g_I v2), some (g_I 268435456), some (g_I x1), some (g_I (D1 209 2))] K))) : n_X12_least E l D 30 [some (g_R 208), some (g_I v1), some (g_I v2), none, none, none] K := by
  refine g_use (fun ok => ?_)
  have hF := hF ok.2.1 (ok.loc (i := 1) rfl) (ok.loc (i := 2) rfl)
  refine g_iload_n dX12_least_30 rfl ?_
  refine g_iflt dX12_least_31 rfl (fun q => ?_) (fun q => ?_)
  · have hF := hF.1 q
    refine g_iconst dX12_least_152 ⟨by decide, by decide⟩ ?_
    refine g_aload_n dX12_least_153 rfl ?_
    refine g_getR dX12_least_154 fd_X12_30 sh_208 rfl ?_
    refine g_iconst dX12_least_157 ⟨by decide, by decide⟩ ?_
    refine g_iald dX12_least_158 sh_214 (by decide) (by decide) ?_
    obtain ⟨hc, hF⟩ := hF
    refine g_iadd dX12_least_159 hc ?_
    exact gw_iret dX12_least_160 rfl hF
  · have hF := hF.2 q
    refine g_ldc dX12_least_34 ⟨by decide, by decide⟩ kc_X12_178 ?_
    refine gw_istore_n (L' := [some (g_R 208), some (g_I v1), some (g_I v2), some (g_I 268435456), none, none]) dX12_least_36 (by decide) rfl ?_
    refine g_aload_n dX12_least_37 rfl ?_
    refine g_iload_n dX12_least_38 rfl ?_
    refine g_iload_n dX12_least_39 rfl ?_
    refine gw_cVi (b := 208) (As := [g_I v2, g_I v2]) (rest := []) dX12_least_40 mv_X12_165 sh_208 rfl (Nat.le_of_ble_eq_true rfl) (by decide) rfl hF ?_
    intro x1 D1 hx1 hF
    have hF := hF hx1
    refine gw_istore (L' := [some (g_R 208), some (g_I v1), some (g_I v2), some (g_I 268435456), some (g_I x1), none]) dX12_least_43 (by decide) rfl ?_
    refine g_aload_n dX12_least_45 rfl ?_
    refine g_getR dX12_least_46 fd_X12_13 sh_208 rfl ?_
    refine g_iconst dX12_least_49 ⟨by decide, by decide⟩ ?_
    refine g_iald dX12_least_50 sh_209 (by decide) (by decide) ?_
    refine gw_istore (L' := [some (g_R 208), some (g_I v1), some (g_I v2), some (g_I 268435456), some (g_I x1), some (g_I (D1 209 2))]) dX12_least_51 (by decide) rfl ?_
    exact hF
theorem s_X12_least_53 {E : g_E} {l : Launch} {D : g_D} {K : Int → g_D → Prop} {v1 : Int} {v2 : Int} {v3 : Int} {v4 : Int} {v5 : Int}  (hF : g_okD D → g_r v1 → g_r v2 → g_r v3 → g_r v4 → g_r v5 → k_X12_longestAt E l D v2 (fun x1 D1 => g_r x1 → (x1 < v5 → (0 ≤ v2 ∧ v2 < 41) ∧ (∀ D2, D2 = g_up D1 215 v2.toNat v3 → (n_X12_least E l D2 106 [some (g_R 208), some (g_I v1), some (g_I v2), some (g_I v3), none, some (g_I 1)] K))) ∧ (¬ x1 < v5 → (g_r (v2 + v5)) ∧ ((0 ≤ (v2 + v5) ∧ (v2 + v5) < 41) ∧ ((v4 < v5 → (g_r ((D1 214 (v2 + v5).toNat) + 4)) ∧ (k_X12_lesser E l g_SH D1 v3 ((D1 214 (v2 + v5).toNat) + 4) (fun x3 D3 => g_r x3 → (g_r (v5 + 1)) ∧ (n_X12_least E l D3 53 [some (g_R 208), some (g_I v1), some (g_I v2), some (g_I x3), some (g_I v4), some (g_I (v5 + 1))] K)))) ∧ (¬ v4 < v5 → (g_r ((D1 214 (v2 + v5).toNat) + 0)) ∧ (k_X12_lesser E l g_SH D1 v3 ((D1 214 (v2 + v5).toNat) + 0) (fun x4 D4 => g_r x4 → (g_r (v5 + 1)) ∧ (n_X12_least E l D4 53 [some (g_R 208), some (g_I v1), some (g_I v2), some (g_I x4), some (g_I v4), some (g_I (v5 + 1))] K))))))))) : n_X12_least E l D 53 [some (g_R 208), some (g_I v1), some (g_I v2), some (g_I v3), some (g_I v4), some (g_I v5)] K := by
  refine g_use (fun ok => ?_)
  have hF := hF ok.2.1 (ok.loc (i := 1) rfl) (ok.loc (i := 2) rfl) (ok.loc (i := 3) rfl) (ok.loc (i := 4) rfl) (ok.loc (i := 5) rfl)
  refine g_iload dX12_least_53 rfl ?_
  refine g_aload_n dX12_least_55 rfl ?_
  refine g_iload_n dX12_least_56 rfl ?_
  refine gw_cVi (b := 208) (As := [g_I v2]) (rest := [g_I v5]) dX12_least_57 mv_X12_168 sh_208 rfl (Nat.le_of_ble_eq_true rfl) (by decide) rfl hF ?_
  intro x1 D1 hx1 hF
  have hF := hF hx1
  refine g_cgt dX12_least_60 rfl (fun q => ?_) (fun q => ?_)
  · have hF := hF.1 q
    refine g_aload_n dX12_least_96 rfl ?_
    refine g_getR dX12_least_97 fd_X12_33 sh_208 rfl ?_
    refine g_iload_n dX12_least_100 rfl ?_
    refine g_iload_n dX12_least_101 rfl ?_
    obtain ⟨hc, hF⟩ := hF
    let D2 : g_D := g_up D1 215 v2.toNat v3
    have hF := hF D2 rfl
    refine g_iast dX12_least_102 sh_215 hc.1 hc.2 ?_
    refine g_iconst dX12_least_103 ⟨by decide, by decide⟩ ?_
    refine gw_istore (L' := [some (g_R 208), some (g_I v1), some (g_I v2), some (g_I v3), some (g_I v4), some (g_I 1)]) dX12_least_104 (by decide) rfl ?_
    exact g_forget (L' := [some (g_R 208), some (g_I v1), some (g_I v2), some (g_I v3), none, some (g_I 1)]) ⟨rfl, ⟨rfl, ⟨rfl, ⟨rfl, ⟨rfl, trivial⟩⟩⟩⟩⟩ hF
  · have hF := hF.2 q
    refine g_iload_n dX12_least_63 rfl ?_
    refine g_aload_n dX12_least_64 rfl ?_
    refine g_getR dX12_least_65 fd_X12_30 sh_208 rfl ?_
    refine g_iload_n dX12_least_68 rfl ?_
    refine g_iload dX12_least_69 rfl ?_
    obtain ⟨hc, hF⟩ := hF
    refine g_iadd dX12_least_71 hc ?_
    obtain ⟨hc, hF⟩ := hF
    refine g_iald dX12_least_72 sh_214 hc.1 hc.2 ?_
    refine g_iload dX12_least_73 rfl ?_
    refine g_iload dX12_least_75 rfl ?_
    refine g_cgt dX12_least_77 rfl (fun q => ?_) (fun q => ?_)
    · have hF := hF.1 q
      refine g_iconst dX12_least_84 ⟨by decide, by decide⟩ ?_
      obtain ⟨hc, hF⟩ := hF
      refine g_iadd dX12_least_85 hc ?_
      refine gw_cSi (As := [g_I v3, g_I ((D1 214 (v2 + v5).toNat) + 4)]) (rest := []) dX12_least_86 ms_X12_179 rfl (Nat.le_of_ble_eq_true rfl) (by decide) rfl hF ?_
      intro x3 D3 hx3 hF
      have hF := hF hx3
      refine gw_istore_n (L' := [some (g_R 208), some (g_I v1), some (g_I v2), some (g_I x3), some (g_I v4), some (g_I v5)]) dX12_least_89 (by decide) rfl ?_
      obtain ⟨hc, hF⟩ := hF
      refine gw_iinc (L' := [some (g_R 208), some (g_I v1), some (g_I v2), some (g_I x3), some (g_I v4), some (g_I (v5 + 1))]) dX12_least_90 rfl hc (by decide) rfl ?_
      refine g_goto dX12_least_93 rfl ?_
      exact hF
    · have hF := hF.2 q
      refine g_iconst dX12_least_80 ⟨by decide, by decide⟩ ?_
      refine g_goto dX12_least_81 rfl ?_
      obtain ⟨hc, hF⟩ := hF
      refine g_iadd dX12_least_85 hc ?_
      refine gw_cSi (As := [g_I v3, g_I ((D1 214 (v2 + v5).toNat) + 0)]) (rest := []) dX12_least_86 ms_X12_179 rfl (Nat.le_of_ble_eq_true rfl) (by decide) rfl hF ?_
      intro x4 D4 hx4 hF
      have hF := hF hx4
      refine gw_istore_n (L' := [some (g_R 208), some (g_I v1), some (g_I v2), some (g_I x4), some (g_I v4), some (g_I v5)]) dX12_least_89 (by decide) rfl ?_
      obtain ⟨hc, hF⟩ := hF
      refine gw_iinc (L' := [some (g_R 208), some (g_I v1), some (g_I v2), some (g_I x4), some (g_I v4), some (g_I (v5 + 1))]) dX12_least_90 rfl hc (by decide) rfl ?_
      refine g_goto dX12_least_93 rfl ?_
      exact hF
theorem s_X12_least_106 {E : g_E} {l : Launch} {D : g_D} {K : Int → g_D → Prop} {v1 : Int} {v2 : Int} {v3 : Int} {v5 : Int}  (hF : g_okD D → g_r v1 → g_r v2 → g_r v3 → g_r v5 → (g_r (v2 + v5)) ∧ ((v1 < (v2 + v5) → (0 ≤ v2 ∧ v2 < 41) ∧ (∀ D1, D1 = g_up D 214 v2.toNat v3 → ((g_r (v2 + (-1))) ∧ (n_X12_least E l D1 30 [some (g_R 208), some (g_I v1), some (g_I (v2 + (-1))), none, none, none] K)))) ∧ (¬ v1 < (v2 + v5) → (g_r (v2 + v5)) ∧ ((0 ≤ (v2 + v5) ∧ (v2 + v5) < 41) ∧ ((g_r ((D 215 (v2 + v5).toNat) + 3)) ∧ ((g_r (((D 215 (v2 + v5).toNat) + 3) + v5)) ∧ (k_X12_lesser E l g_SH D v3 (((D 215 (v2 + v5).toNat) + 3) + v5) (fun x2 D2 => g_r x2 → (g_r (v5 + 1)) ∧ (n_X12_least E l D2 106 [some (g_R 208), some (g_I v1), some (g_I v2), some (g_I x2), none, some (g_I (v5 + 1))] K))))))))) : n_X12_least E l D 106 [some (g_R 208), some (g_I v1), some (g_I v2), some (g_I v3), none, some (g_I v5)] K := by
  refine g_use (fun ok => ?_)
  have hF := hF ok.2.1 (ok.loc (i := 1) rfl) (ok.loc (i := 2) rfl) (ok.loc (i := 3) rfl) (ok.loc (i := 5) rfl)
  refine g_iload_n dX12_least_106 rfl ?_
  refine g_iload dX12_least_107 rfl ?_
  obtain ⟨hc, hF⟩ := hF
  refine g_iadd dX12_least_109 hc ?_
  refine g_iload_n dX12_least_110 rfl ?_
  refine g_cgt dX12_least_111 rfl (fun q => ?_) (fun q => ?_)
  · have hF := hF.1 q
    refine g_aload_n dX12_least_139 rfl ?_
    refine g_getR dX12_least_140 fd_X12_30 sh_208 rfl ?_
    refine g_iload_n dX12_least_143 rfl ?_
    refine g_iload_n dX12_least_144 rfl ?_
    obtain ⟨hc, hF⟩ := hF
    let D1 : g_D := g_up D 214 v2.toNat v3
    have hF := hF D1 rfl
    refine g_iast dX12_least_145 sh_214 hc.1 hc.2 ?_
    obtain ⟨hc, hF⟩ := hF
    refine gw_iinc (L' := [some (g_R 208), some (g_I v1), some (g_I (v2 + (-1))), some (g_I v3), none, some (g_I v5)]) dX12_least_146 rfl hc (by decide) rfl ?_
    refine g_goto dX12_least_149 rfl ?_
    exact g_forget (L' := [some (g_R 208), some (g_I v1), some (g_I (v2 + (-1))), none, none, none]) ⟨rfl, ⟨rfl, ⟨rfl, trivial⟩⟩⟩ hF
  · have hF := hF.2 q
    refine g_iload_n dX12_least_114 rfl ?_
    refine g_aload_n dX12_least_115 rfl ?_
    refine g_getR dX12_least_116 fd_X12_33 sh_208 rfl ?_
    refine g_iload_n dX12_least_119 rfl ?_
    refine g_iload dX12_least_120 rfl ?_
    obtain ⟨hc, hF⟩ := hF
    refine g_iadd dX12_least_122 hc ?_
    obtain ⟨hc, hF⟩ := hF
    refine g_iald dX12_least_123 sh_215 hc.1 hc.2 ?_
    refine g_iconst dX12_least_124 ⟨by decide, by decide⟩ ?_
    obtain ⟨hc, hF⟩ := hF
    refine g_iadd dX12_least_125 hc ?_
    refine g_iload dX12_least_126 rfl ?_
    obtain ⟨hc, hF⟩ := hF
    refine g_iadd dX12_least_128 hc ?_
    refine gw_cSi (As := [g_I v3, g_I (((D 215 (v2 + v5).toNat) + 3) + v5)]) (rest := []) dX12_least_129 ms_X12_179 rfl (Nat.le_of_ble_eq_true rfl) (by decide) rfl hF ?_
    intro x2 D2 hx2 hF
    have hF := hF hx2
    refine gw_istore_n (L' := [some (g_R 208), some (g_I v1), some (g_I v2), some (g_I x2), none, some (g_I v5)]) dX12_least_132 (by decide) rfl ?_
    obtain ⟨hc, hF⟩ := hF
    refine gw_iinc (L' := [some (g_R 208), some (g_I v1), some (g_I v2), some (g_I x2), none, some (g_I (v5 + 1))]) dX12_least_133 rfl hc (by decide) rfl ?_
    refine g_goto dX12_least_136 rfl ?_
    exact hF
theorem dX12_readByte_0 : decode cX12_readByte 0 = .ok (.aload_n 0, 1) := by decide +kernel
theorem dX12_readByte_1 : decode cX12_readByte 1 = .ok (.getfield 288, 3) := by decide +kernel
theorem dX12_readByte_4 : decode cX12_readByte 4 = .ok (.ifCond .eq 5, 3) := by decide +kernel
theorem dX12_readByte_7 : decode cX12_readByte 7 = .ok (.iconst 0, 1) := by decide +kernel
theorem dX12_readByte_8 : decode cX12_readByte 8 = .ok (.ireturn, 1) := by decide +kernel
theorem dX12_readByte_9 : decode cX12_readByte 9 = .ok (.aload_n 0, 1) := by decide +kernel
theorem dX12_readByte_10 : decode cX12_readByte 10 = .ok (.getfield 294, 3) := by decide +kernel
theorem dX12_readByte_13 : decode cX12_readByte 13 = .ok (.aload_n 0, 1) := by decide +kernel
theorem dX12_readByte_14 : decode cX12_readByte 14 = .ok (.getfield 297, 3) := by decide +kernel
theorem dX12_readByte_17 : decode cX12_readByte 17 = .ok (.if_icmp .ne 15, 3) := by decide +kernel
theorem dX12_readByte_20 : decode cX12_readByte 20 = .ok (.aload_n 0, 1) := by decide +kernel
theorem dX12_readByte_21 : decode cX12_readByte 21 = .ok (.iconst 2, 1) := by decide +kernel
theorem dX12_readByte_22 : decode cX12_readByte 22 = .ok (.aload_n 0, 1) := by decide +kernel
theorem dX12_readByte_23 : decode cX12_readByte 23 = .ok (.getfield 297, 3) := by decide +kernel
theorem dX12_readByte_26 : decode cX12_readByte 26 = .ok (.invokevirtual 300, 3) := by decide +kernel
theorem dX12_readByte_29 : decode cX12_readByte 29 = .ok (.goto 25, 3) := by decide +kernel
theorem dX12_readByte_32 : decode cX12_readByte 32 = .ok (.aload_n 0, 1) := by decide +kernel
theorem dX12_readByte_33 : decode cX12_readByte 33 = .ok (.getfield 90, 3) := by decide +kernel
theorem dX12_readByte_36 : decode cX12_readByte 36 = .ok (.aload_n 0, 1) := by decide +kernel
theorem dX12_readByte_37 : decode cX12_readByte 37 = .ok (.getfield 294, 3) := by decide +kernel
theorem dX12_readByte_40 : decode cX12_readByte 40 = .ok (.iaload, 1) := by decide +kernel
theorem dX12_readByte_41 : decode cX12_readByte 41 = .ok (.iload_n 1, 1) := by decide +kernel
theorem dX12_readByte_42 : decode cX12_readByte 42 = .ok (.if_icmp .le 12, 3) := by decide +kernel
theorem dX12_readByte_45 : decode cX12_readByte 45 = .ok (.aload_n 0, 1) := by decide +kernel
theorem dX12_readByte_46 : decode cX12_readByte 46 = .ok (.iconst 3, 1) := by decide +kernel
theorem dX12_readByte_47 : decode cX12_readByte 47 = .ok (.aload_n 0, 1) := by decide +kernel
theorem dX12_readByte_48 : decode cX12_readByte 48 = .ok (.getfield 294, 3) := by decide +kernel
theorem dX12_readByte_51 : decode cX12_readByte 51 = .ok (.invokevirtual 300, 3) := by decide +kernel
theorem dX12_readByte_54 : decode cX12_readByte 54 = .ok (.aload_n 0, 1) := by decide +kernel
theorem dX12_readByte_55 : decode cX12_readByte 55 = .ok (.getfield 288, 3) := by decide +kernel
theorem dX12_readByte_58 : decode cX12_readByte 58 = .ok (.ifCond .eq 5, 3) := by decide +kernel
theorem dX12_readByte_61 : decode cX12_readByte 61 = .ok (.iconst 0, 1) := by decide +kernel
theorem dX12_readByte_62 : decode cX12_readByte 62 = .ok (.ireturn, 1) := by decide +kernel
theorem dX12_readByte_63 : decode cX12_readByte 63 = .ok (.aload_n 0, 1) := by decide +kernel
theorem dX12_readByte_64 : decode cX12_readByte 64 = .ok (.dup, 1) := by decide +kernel
theorem dX12_readByte_65 : decode cX12_readByte 65 = .ok (.getfield 294, 3) := by decide +kernel
theorem dX12_readByte_68 : decode cX12_readByte 68 = .ok (.iconst 1, 1) := by decide +kernel
theorem dX12_readByte_69 : decode cX12_readByte 69 = .ok (.iadd, 1) := by decide +kernel
theorem dX12_readByte_70 : decode cX12_readByte 70 = .ok (.putfield 294, 3) := by decide +kernel
theorem dX12_readByte_73 : decode cX12_readByte 73 = .ok (.aload_n 0, 1) := by decide +kernel
theorem dX12_readByte_74 : decode cX12_readByte 74 = .ok (.getfield 90, 3) := by decide +kernel
theorem dX12_readByte_77 : decode cX12_readByte 77 = .ok (.aload_n 0, 1) := by decide +kernel
theorem dX12_readByte_78 : decode cX12_readByte 78 = .ok (.getfield 294, 3) := by decide +kernel
theorem dX12_readByte_81 : decode cX12_readByte 81 = .ok (.iconst 1, 1) := by decide +kernel
theorem dX12_readByte_82 : decode cX12_readByte 82 = .ok (.isub, 1) := by decide +kernel
theorem dX12_readByte_83 : decode cX12_readByte 83 = .ok (.iaload, 1) := by decide +kernel
theorem dX12_readByte_84 : decode cX12_readByte 84 = .ok (.ireturn, 1) := by decide +kernel
abbrev k_X12_readByte (E : g_E) (l : Launch) (D : g_D) (v1 : Int) (K : Int → g_D → Prop) : Prop := g_Ki E l m_X12_readByte 1 [g_R 208, g_I v1] g_SH D K
abbrev n_X12_readByte (E : g_E) (l : Launch) (D : g_D) (pc : Nat) (L : List (Option g_V)) (K : Int → g_D → Prop) : Prop := g_N E l m_X12_readByte 1 pc L [] g_SH D (g_Ri g_SH K)
theorem s_X12_readByte {E : g_E} {l : Launch} {D : g_D} {K : Int → g_D → Prop} {v1 : Int}  (hF : g_okD D → g_r v1 → ((D 208 38) = 0 → (¬ (D 208 37) = (D 208 36) → (0 ≤ (D 208 37) ∧ (D 208 37) < 400) ∧ (((D 234 (D 208 37).toNat) ≤ v1 → ((D 208 38) = 0 → (g_r ((D 208 37) + 1)) ∧ (∀ D1, D1 = g_up D 208 37 ((D 208 37) + 1) → ((g_r (((D 208 37) + 1) - 1)) ∧ ((0 ≤ (((D 208 37) + 1) - 1) ∧ (((D 208 37) + 1) - 1) < 400) ∧ (K (D 234 (((D 208 37) + 1) - 1).toNat) D1))))) ∧ (¬ (D 208 38) = 0 → K 0 D)) ∧ (¬ (D 234 (D 208 37).toNat) ≤ v1 → k_X12_fails E l D 3 (D 208 37) (fun D2 => ((D2 208 38) = 0 → (g_r ((D2 208 37) + 1)) ∧ (∀ D3, D3 = g_up D2 208 37 ((D2 208 37) + 1) → ((g_r (((D2 208 37) + 1) - 1)) ∧ ((0 ≤ (((D2 208 37) + 1) - 1) ∧ (((D2 208 37) + 1) - 1) < 400) ∧ (K (D2 234 (((D2 208 37) + 1) - 1).toNat) D3))))) ∧ (¬ (D2 208 38) = 0 → K 0 D2))))) ∧ ((D 208 37) = (D 208 36) → k_X12_fails E l D 2 (D 208 36) (fun D4 => ((D4 208 38) = 0 → (g_r ((D4 208 37) + 1)) ∧ (∀ D5, D5 = g_up D4 208 37 ((D4 208 37) + 1) → ((g_r (((D4 208 37) + 1) - 1)) ∧ ((0 ≤ (((D4 208 37) + 1) - 1) ∧ (((D4 208 37) + 1) - 1) < 400) ∧ (K (D4 234 (((D4 208 37) + 1) - 1).toNat) D5))))) ∧ (¬ (D4 208 38) = 0 → K 0 D4)))) ∧ (¬ (D 208 38) = 0 → K 0 D)) : k_X12_readByte E l D v1 K := by
  refine g_enter (by decide) (Nat.le_of_ble_eq_true rfl) ?_
  show g_N E l m_X12_readByte 1 0 [some (g_R 208), some (g_I v1)] [] g_SH D (g_Ri g_SH K)
  refine g_use (fun ok => ?_)
  have hF := hF ok.2.1 (ok.loc (i := 1) rfl)
  refine g_aload_n dX12_readByte_0 rfl ?_
  refine g_getI dX12_readByte_1 fd_X12_288 sh_208 rfl ?_
  refine g_ifeq dX12_readByte_4 rfl (fun q => ?_) (fun q => ?_)
  · have hF := hF.1 q
    refine g_aload_n dX12_readByte_9 rfl ?_
    refine g_getI dX12_readByte_10 fd_X12_294 sh_208 rfl ?_
    refine g_aload_n dX12_readByte_13 rfl ?_
    refine g_getI dX12_readByte_14 fd_X12_297 sh_208 rfl ?_
    refine g_cne dX12_readByte_17 rfl (fun q => ?_) (fun q => ?_)
    · have hF := hF.1 q
      refine g_aload_n dX12_readByte_32 rfl ?_
      refine g_getR dX12_readByte_33 fd_X12_90 sh_208 rfl ?_
      refine g_aload_n dX12_readByte_36 rfl ?_
      refine g_getI dX12_readByte_37 fd_X12_294 sh_208 rfl ?_
      obtain ⟨hc, hF⟩ := hF
      refine g_iald dX12_readByte_40 sh_234 hc.1 hc.2 ?_
      refine g_iload_n dX12_readByte_41 rfl ?_
      refine g_cle dX12_readByte_42 rfl (fun q => ?_) (fun q => ?_)
      · have hF := hF.1 q
        refine g_aload_n dX12_readByte_54 rfl ?_
        refine g_getI dX12_readByte_55 fd_X12_288 sh_208 rfl ?_
        refine g_ifeq dX12_readByte_58 rfl (fun q => ?_) (fun q => ?_)
        · have hF := hF.1 q
          refine g_aload_n dX12_readByte_63 rfl ?_
          refine g_dup dX12_readByte_64 rfl ?_
          refine g_getI dX12_readByte_65 fd_X12_294 sh_208 rfl ?_
          refine g_iconst dX12_readByte_68 ⟨by decide, by decide⟩ ?_
          obtain ⟨hc, hF⟩ := hF
          refine g_iadd dX12_readByte_69 hc ?_
          let D1 : g_D := g_up D 208 37 ((D 208 37) + 1)
          have hF := hF D1 rfl
          refine g_put dX12_readByte_70 fd_X12_294 (g_ftyI (C := RX12) (T := TX12) (N := 51) rfl rfl (by decide +kernel)) sh_208 rfl ?_
          refine g_aload_n dX12_readByte_73 rfl ?_
          refine g_getR dX12_readByte_74 fd_X12_90 sh_208 rfl ?_
          refine g_aload_n dX12_readByte_77 rfl ?_
          refine g_getI dX12_readByte_78 fd_X12_294 sh_208 rfl ?_
          refine g_iconst dX12_readByte_81 ⟨by decide, by decide⟩ ?_
          obtain ⟨hc, hF⟩ := hF
          refine g_isub dX12_readByte_82 hc ?_
          obtain ⟨hc, hF⟩ := hF
          refine g_iald dX12_readByte_83 sh_234 hc.1 hc.2 ?_
          exact gw_iret dX12_readByte_84 rfl hF
        · have hF := hF.2 q
          refine g_iconst dX12_readByte_61 ⟨by decide, by decide⟩ ?_
          exact gw_iret dX12_readByte_62 rfl hF
      · have hF := hF.2 q
        refine g_aload_n dX12_readByte_45 rfl ?_
        refine g_iconst dX12_readByte_46 ⟨by decide, by decide⟩ ?_
        refine g_aload_n dX12_readByte_47 rfl ?_
        refine g_getI dX12_readByte_48 fd_X12_294 sh_208 rfl ?_
        refine gw_cVv (b := 208) (As := [g_I 3, g_I (D 208 37)]) (rest := []) dX12_readByte_51 mv_X12_300 sh_208 rfl (Nat.le_of_ble_eq_true rfl) (by decide) rfl hF ?_
        intro D2 hF
        refine g_aload_n dX12_readByte_54 rfl ?_
        refine g_getI dX12_readByte_55 fd_X12_288 sh_208 rfl ?_
        refine g_ifeq dX12_readByte_58 rfl (fun q => ?_) (fun q => ?_)
        · have hF := hF.1 q
          refine g_aload_n dX12_readByte_63 rfl ?_
          refine g_dup dX12_readByte_64 rfl ?_
          refine g_getI dX12_readByte_65 fd_X12_294 sh_208 rfl ?_
          refine g_iconst dX12_readByte_68 ⟨by decide, by decide⟩ ?_
          obtain ⟨hc, hF⟩ := hF
          refine g_iadd dX12_readByte_69 hc ?_
          let D3 : g_D := g_up D2 208 37 ((D2 208 37) + 1)
          have hF := hF D3 rfl
          refine g_put dX12_readByte_70 fd_X12_294 (g_ftyI (C := RX12) (T := TX12) (N := 51) rfl rfl (by decide +kernel)) sh_208 rfl ?_
          refine g_aload_n dX12_readByte_73 rfl ?_
          refine g_getR dX12_readByte_74 fd_X12_90 sh_208 rfl ?_
          refine g_aload_n dX12_readByte_77 rfl ?_
          refine g_getI dX12_readByte_78 fd_X12_294 sh_208 rfl ?_
          refine g_iconst dX12_readByte_81 ⟨by decide, by decide⟩ ?_
          obtain ⟨hc, hF⟩ := hF
          refine g_isub dX12_readByte_82 hc ?_
          obtain ⟨hc, hF⟩ := hF
          refine g_iald dX12_readByte_83 sh_234 hc.1 hc.2 ?_
          exact gw_iret dX12_readByte_84 rfl hF
        · have hF := hF.2 q
          refine g_iconst dX12_readByte_61 ⟨by decide, by decide⟩ ?_
          exact gw_iret dX12_readByte_62 rfl hF
    · have hF := hF.2 q
      refine g_aload_n dX12_readByte_20 rfl ?_
      refine g_iconst dX12_readByte_21 ⟨by decide, by decide⟩ ?_
      refine g_aload_n dX12_readByte_22 rfl ?_
      refine g_getI dX12_readByte_23 fd_X12_297 sh_208 rfl ?_
      refine gw_cVv (b := 208) (As := [g_I 2, g_I (D 208 36)]) (rest := []) dX12_readByte_26 mv_X12_300 sh_208 rfl (Nat.le_of_ble_eq_true rfl) (by decide) rfl hF ?_
      intro D4 hF
      refine g_goto dX12_readByte_29 rfl ?_
      refine g_aload_n dX12_readByte_54 rfl ?_
      refine g_getI dX12_readByte_55 fd_X12_288 sh_208 rfl ?_
      refine g_ifeq dX12_readByte_58 rfl (fun q => ?_) (fun q => ?_)
      · have hF := hF.1 q
        refine g_aload_n dX12_readByte_63 rfl ?_
        refine g_dup dX12_readByte_64 rfl ?_
        refine g_getI dX12_readByte_65 fd_X12_294 sh_208 rfl ?_
        refine g_iconst dX12_readByte_68 ⟨by decide, by decide⟩ ?_
        obtain ⟨hc, hF⟩ := hF
        refine g_iadd dX12_readByte_69 hc ?_
        let D5 : g_D := g_up D4 208 37 ((D4 208 37) + 1)
        have hF := hF D5 rfl
        refine g_put dX12_readByte_70 fd_X12_294 (g_ftyI (C := RX12) (T := TX12) (N := 51) rfl rfl (by decide +kernel)) sh_208 rfl ?_
        refine g_aload_n dX12_readByte_73 rfl ?_
        refine g_getR dX12_readByte_74 fd_X12_90 sh_208 rfl ?_
        refine g_aload_n dX12_readByte_77 rfl ?_
        refine g_getI dX12_readByte_78 fd_X12_294 sh_208 rfl ?_
        refine g_iconst dX12_readByte_81 ⟨by decide, by decide⟩ ?_
        obtain ⟨hc, hF⟩ := hF
        refine g_isub dX12_readByte_82 hc ?_
        obtain ⟨hc, hF⟩ := hF
        refine g_iald dX12_readByte_83 sh_234 hc.1 hc.2 ?_
        exact gw_iret dX12_readByte_84 rfl hF
      · have hF := hF.2 q
        refine g_iconst dX12_readByte_61 ⟨by decide, by decide⟩ ?_
        exact gw_iret dX12_readByte_62 rfl hF
  · have hF := hF.2 q
    refine g_iconst dX12_readByte_7 ⟨by decide, by decide⟩ ?_
    exact gw_iret dX12_readByte_8 rfl hF
theorem dX12_roomAt_0 : decode cX12_roomAt 0 = .ok (.iload_n 1, 1) := by decide +kernel
theorem dX12_roomAt_1 : decode cX12_roomAt 1 = .ok (.iload_n 0, 1) := by decide +kernel
theorem dX12_roomAt_2 : decode cX12_roomAt 2 = .ok (.isub, 1) := by decide +kernel
theorem dX12_roomAt_3 : decode cX12_roomAt 3 = .ok (.ireturn, 1) := by decide +kernel
abbrev k_X12_roomAt (E : g_E) (l : Launch) (sh : List g_Sh) (D : g_D) (v0 : Int) (v1 : Int) (K : Int → g_D → Prop) : Prop := g_Ki E l m_X12_roomAt 0 [g_I v0, g_I v1] sh D K
abbrev n_X12_roomAt (E : g_E) (l : Launch) (sh : List g_Sh) (D : g_D) (pc : Nat) (L : List (Option g_V)) (K : Int → g_D → Prop) : Prop := g_N E l m_X12_roomAt 0 pc L [] sh D (g_Ri sh K)
theorem s_X12_roomAt {E : g_E} {l : Launch} {sh : List g_Sh} {D : g_D} {K : Int → g_D → Prop} {v0 : Int} {v1 : Int}  (hF : g_okD D → g_r v0 → g_r v1 → (g_r (v1 - v0)) ∧ (K (v1 - v0) D)) : k_X12_roomAt E l sh D v0 v1 K := by
  refine g_enter (by decide) (Nat.le_of_ble_eq_true rfl) ?_
  show g_N E l m_X12_roomAt 0 0 [some (g_I v0), some (g_I v1)] [] sh D (g_Ri sh K)
  refine g_use (fun ok => ?_)
  have hF := hF ok.2.1 (ok.loc (i := 0) rfl) (ok.loc (i := 1) rfl)
  refine g_iload_n dX12_roomAt_0 rfl ?_
  refine g_iload_n dX12_roomAt_1 rfl ?_
  obtain ⟨hc, hF⟩ := hF
  refine g_isub dX12_roomAt_2 hc ?_
  exact gw_iret dX12_roomAt_3 rfl hF
theorem dX12_readLength_0 : decode cX12_readLength 0 = .ok (.aload_n 0, 1) := by decide +kernel
theorem dX12_readLength_1 : decode cX12_readLength 1 = .ok (.iload_n 1, 1) := by decide +kernel
theorem dX12_readLength_2 : decode cX12_readLength 2 = .ok (.invokevirtual 303, 3) := by decide +kernel
theorem dX12_readLength_5 : decode cX12_readLength 5 = .ok (.istore_n 2, 1) := by decide +kernel
theorem dX12_readLength_6 : decode cX12_readLength 6 = .ok (.aload_n 0, 1) := by decide +kernel
theorem dX12_readLength_7 : decode cX12_readLength 7 = .ok (.getfield 288, 3) := by decide +kernel
theorem dX12_readLength_10 : decode cX12_readLength 10 = .ok (.ifCond .ne 18, 3) := by decide +kernel
theorem dX12_readLength_13 : decode cX12_readLength 13 = .ok (.iload_n 2, 1) := by decide +kernel
theorem dX12_readLength_14 : decode cX12_readLength 14 = .ok (.ifCond .ne 14, 3) := by decide +kernel
theorem dX12_readLength_17 : decode cX12_readLength 17 = .ok (.aload_n 0, 1) := by decide +kernel
theorem dX12_readLength_18 : decode cX12_readLength 18 = .ok (.iconst 3, 1) := by decide +kernel
theorem dX12_readLength_19 : decode cX12_readLength 19 = .ok (.aload_n 0, 1) := by decide +kernel
theorem dX12_readLength_20 : decode cX12_readLength 20 = .ok (.getfield 294, 3) := by decide +kernel
theorem dX12_readLength_23 : decode cX12_readLength 23 = .ok (.iconst 1, 1) := by decide +kernel
theorem dX12_readLength_24 : decode cX12_readLength 24 = .ok (.isub, 1) := by decide +kernel
theorem dX12_readLength_25 : decode cX12_readLength 25 = .ok (.invokevirtual 300, 3) := by decide +kernel
theorem dX12_readLength_28 : decode cX12_readLength 28 = .ok (.iload_n 2, 1) := by decide +kernel
theorem dX12_readLength_29 : decode cX12_readLength 29 = .ok (.ireturn, 1) := by decide +kernel
abbrev k_X12_readLength (E : g_E) (l : Launch) (D : g_D) (v1 : Int) (K : Int → g_D → Prop) : Prop := g_Ki E l m_X12_readLength 2 [g_R 208, g_I v1] g_SH D K
abbrev n_X12_readLength (E : g_E) (l : Launch) (D : g_D) (pc : Nat) (L : List (Option g_V)) (K : Int → g_D → Prop) : Prop := g_N E l m_X12_readLength 2 pc L [] g_SH D (g_Ri g_SH K)
theorem s_X12_readLength {E : g_E} {l : Launch} {D : g_D} {K : Int → g_D → Prop} {v1 : Int}  (hF : g_okD D → g_r v1 → k_X12_readByte E l D v1 (fun x1 D1 => g_r x1 → (¬ (D1 208 38) = 0 → K x1 D1) ∧ ((D1 208 38) = 0 → (¬ x1 = 0 → K x1 D1) ∧ (x1 = 0 → (g_r ((D1 208 37) - 1)) ∧ (k_X12_fails E l D1 3 ((D1 208 37) - 1) (fun D2 => K x1 D2)))))) : k_X12_readLength E l D v1 K := by
  refine g_enter (by decide) (Nat.le_of_ble_eq_true rfl) ?_
  show g_N E l m_X12_readLength 2 0 [some (g_R 208), some (g_I v1), none] [] g_SH D (g_Ri g_SH K)
  refine g_use (fun ok => ?_)
  have hF := hF ok.2.1 (ok.loc (i := 1) rfl)
  refine g_aload_n dX12_readLength_0 rfl ?_
  refine g_iload_n dX12_readLength_1 rfl ?_
  refine gw_cVi (b := 208) (As := [g_I v1]) (rest := []) dX12_readLength_2 mv_X12_303 sh_208 rfl (Nat.le_of_ble_eq_true rfl) (by decide) rfl hF ?_
  intro x1 D1 hx1 hF
  have hF := hF hx1
  refine gw_istore_n (L' := [some (g_R 208), some (g_I v1), some (g_I x1)]) dX12_readLength_5 (by decide) rfl ?_
  refine g_aload_n dX12_readLength_6 rfl ?_
  refine g_getI dX12_readLength_7 fd_X12_288 sh_208 rfl ?_
  refine g_ifne dX12_readLength_10 rfl (fun q => ?_) (fun q => ?_)
  · have hF := hF.1 q
    refine g_iload_n dX12_readLength_28 rfl ?_
    exact gw_iret dX12_readLength_29 rfl hF
  · have hF := hF.2 q
    refine g_iload_n dX12_readLength_13 rfl ?_
    refine g_ifne dX12_readLength_14 rfl (fun q => ?_) (fun q => ?_)
    · have hF := hF.1 q
      refine g_iload_n dX12_readLength_28 rfl ?_
      exact gw_iret dX12_readLength_29 rfl hF
    · have hF := hF.2 q
      refine g_aload_n dX12_readLength_17 rfl ?_
      refine g_iconst dX12_readLength_18 ⟨by decide, by decide⟩ ?_
      refine g_aload_n dX12_readLength_19 rfl ?_
      refine g_getI dX12_readLength_20 fd_X12_294 sh_208 rfl ?_
      refine g_iconst dX12_readLength_23 ⟨by decide, by decide⟩ ?_
      obtain ⟨hc, hF⟩ := hF
      refine g_isub dX12_readLength_24 hc ?_
      refine gw_cVv (b := 208) (As := [g_I 3, g_I ((D1 208 37) - 1)]) (rest := []) dX12_readLength_25 mv_X12_300 sh_208 rfl (Nat.le_of_ble_eq_true rfl) (by decide) rfl hF ?_
      intro D2 hF
      refine g_iload_n dX12_readLength_28 rfl ?_
      exact gw_iret dX12_readLength_29 rfl hF
theorem dX12_readPlace_0 : decode cX12_readPlace 0 = .ok (.aload_n 0, 1) := by decide +kernel
theorem dX12_readPlace_1 : decode cX12_readPlace 1 = .ok (.bipush 19, 2) := by decide +kernel
theorem dX12_readPlace_3 : decode cX12_readPlace 3 = .ok (.invokevirtual 303, 3) := by decide +kernel
theorem dX12_readPlace_6 : decode cX12_readPlace 6 = .ok (.istore_n 2, 1) := by decide +kernel
theorem dX12_readPlace_7 : decode cX12_readPlace 7 = .ok (.aload_n 0, 1) := by decide +kernel
theorem dX12_readPlace_8 : decode cX12_readPlace 8 = .ok (.getfield 288, 3) := by decide +kernel
theorem dX12_readPlace_11 : decode cX12_readPlace 11 = .ok (.ifCond .ne 22, 3) := by decide +kernel
theorem dX12_readPlace_14 : decode cX12_readPlace 14 = .ok (.iload_n 2, 1) := by decide +kernel
theorem dX12_readPlace_15 : decode cX12_readPlace 15 = .ok (.iload_n 1, 1) := by decide +kernel
theorem dX12_readPlace_16 : decode cX12_readPlace 16 = .ok (.iadd, 1) := by decide +kernel
theorem dX12_readPlace_17 : decode cX12_readPlace 17 = .ok (.bipush 20, 2) := by decide +kernel
theorem dX12_readPlace_19 : decode cX12_readPlace 19 = .ok (.if_icmp .le 14, 3) := by decide +kernel
theorem dX12_readPlace_22 : decode cX12_readPlace 22 = .ok (.aload_n 0, 1) := by decide +kernel
theorem dX12_readPlace_23 : decode cX12_readPlace 23 = .ok (.iconst 3, 1) := by decide +kernel
theorem dX12_readPlace_24 : decode cX12_readPlace 24 = .ok (.aload_n 0, 1) := by decide +kernel
theorem dX12_readPlace_25 : decode cX12_readPlace 25 = .ok (.getfield 294, 3) := by decide +kernel
theorem dX12_readPlace_28 : decode cX12_readPlace 28 = .ok (.iconst 1, 1) := by decide +kernel
theorem dX12_readPlace_29 : decode cX12_readPlace 29 = .ok (.isub, 1) := by decide +kernel
theorem dX12_readPlace_30 : decode cX12_readPlace 30 = .ok (.invokevirtual 300, 3) := by decide +kernel
theorem dX12_readPlace_33 : decode cX12_readPlace 33 = .ok (.iload_n 2, 1) := by decide +kernel
theorem dX12_readPlace_34 : decode cX12_readPlace 34 = .ok (.ireturn, 1) := by decide +kernel
abbrev k_X12_readPlace (E : g_E) (l : Launch) (D : g_D) (v1 : Int) (K : Int → g_D → Prop) : Prop := g_Ki E l m_X12_readPlace 2 [g_R 208, g_I v1] g_SH D K
abbrev n_X12_readPlace (E : g_E) (l : Launch) (D : g_D) (pc : Nat) (L : List (Option g_V)) (K : Int → g_D → Prop) : Prop := g_N E l m_X12_readPlace 2 pc L [] g_SH D (g_Ri g_SH K)
theorem s_X12_readPlace {E : g_E} {l : Launch} {D : g_D} {K : Int → g_D → Prop} {v1 : Int}  (hF : g_okD D → g_r v1 → k_X12_readByte E l D 19 (fun x1 D1 => g_r x1 → (¬ (D1 208 38) = 0 → K x1 D1) ∧ ((D1 208 38) = 0 → (g_r (x1 + v1)) ∧ (((x1 + v1) ≤ 20 → K x1 D1) ∧ (¬ (x1 + v1) ≤ 20 → (g_r ((D1 208 37) - 1)) ∧ (k_X12_fails E l D1 3 ((D1 208 37) - 1) (fun D2 => K x1 D2))))))) : k_X12_readPlace E l D v1 K := by
  refine g_enter (by decide) (Nat.le_of_ble_eq_true rfl) ?_
  show g_N E l m_X12_readPlace 2 0 [some (g_R 208), some (g_I v1), none] [] g_SH D (g_Ri g_SH K)
  refine g_use (fun ok => ?_)
  have hF := hF ok.2.1 (ok.loc (i := 1) rfl)
  refine g_aload_n dX12_readPlace_0 rfl ?_
  refine g_bipush dX12_readPlace_1 ⟨by decide, by decide⟩ ?_
  refine gw_cVi (b := 208) (As := [g_I 19]) (rest := []) dX12_readPlace_3 mv_X12_303 sh_208 rfl (Nat.le_of_ble_eq_true rfl) (by decide) rfl hF ?_
  intro x1 D1 hx1 hF
  have hF := hF hx1
  refine gw_istore_n (L' := [some (g_R 208), some (g_I v1), some (g_I x1)]) dX12_readPlace_6 (by decide) rfl ?_
  refine g_aload_n dX12_readPlace_7 rfl ?_
  refine g_getI dX12_readPlace_8 fd_X12_288 sh_208 rfl ?_
  refine g_ifne dX12_readPlace_11 rfl (fun q => ?_) (fun q => ?_)
  · have hF := hF.1 q
    refine g_iload_n dX12_readPlace_33 rfl ?_
    exact gw_iret dX12_readPlace_34 rfl hF
  · have hF := hF.2 q
    refine g_iload_n dX12_readPlace_14 rfl ?_
    refine g_iload_n dX12_readPlace_15 rfl ?_
    obtain ⟨hc, hF⟩ := hF
    refine g_iadd dX12_readPlace_16 hc ?_
    refine g_bipush dX12_readPlace_17 ⟨by decide, by decide⟩ ?_
    refine g_cle dX12_readPlace_19 rfl (fun q => ?_) (fun q => ?_)
    · have hF := hF.1 q
      refine g_iload_n dX12_readPlace_33 rfl ?_
      exact gw_iret dX12_readPlace_34 rfl hF
    · have hF := hF.2 q
      refine g_aload_n dX12_readPlace_22 rfl ?_
      refine g_iconst dX12_readPlace_23 ⟨by decide, by decide⟩ ?_
      refine g_aload_n dX12_readPlace_24 rfl ?_
      refine g_getI dX12_readPlace_25 fd_X12_294 sh_208 rfl ?_
      refine g_iconst dX12_readPlace_28 ⟨by decide, by decide⟩ ?_
      obtain ⟨hc, hF⟩ := hF
      refine g_isub dX12_readPlace_29 hc ?_
      refine gw_cVv (b := 208) (As := [g_I 3, g_I ((D1 208 37) - 1)]) (rest := []) dX12_readPlace_30 mv_X12_300 sh_208 rfl (Nat.le_of_ble_eq_true rfl) (by decide) rfl hF ?_
      intro D2 hF
      refine g_iload_n dX12_readPlace_33 rfl ?_
      exact gw_iret dX12_readPlace_34 rfl hF
theorem dX12_readAct_0 : decode cX12_readAct 0 = .ok (.aload_n 0, 1) := by decide +kernel
theorem dX12_readAct_1 : decode cX12_readAct 1 = .ok (.getfield 90, 3) := by decide +kernel
theorem dX12_readAct_4 : decode cX12_readAct 4 = .ok (.aload_n 0, 1) := by decide +kernel
theorem dX12_readAct_5 : decode cX12_readAct 5 = .ok (.getfield 294, 3) := by decide +kernel
theorem dX12_readAct_8 : decode cX12_readAct 8 = .ok (.iaload, 1) := by decide +kernel
theorem dX12_readAct_9 : decode cX12_readAct 9 = .ok (.istore_n 1, 1) := by decide +kernel
theorem dX12_readAct_10 : decode cX12_readAct 10 = .ok (.iload_n 1, 1) := by decide +kernel
theorem dX12_readAct_11 : decode cX12_readAct 11 = .ok (.i2l, 1) := by decide +kernel
theorem dX12_readAct_12 : decode cX12_readAct 12 = .ok (.lconst 1, 1) := by decide +kernel
theorem dX12_readAct_13 : decode cX12_readAct 13 = .ok (.ldc2_w 200, 3) := by decide +kernel
theorem dX12_readAct_16 : decode cX12_readAct 16 = .ok (.invokestatic 131, 3) := by decide +kernel
theorem dX12_readAct_19 : decode cX12_readAct 19 = .ok (.ifCond .ne 15, 3) := by decide +kernel
theorem dX12_readAct_22 : decode cX12_readAct 22 = .ok (.aload_n 0, 1) := by decide +kernel
theorem dX12_readAct_23 : decode cX12_readAct 23 = .ok (.iconst 1, 1) := by decide +kernel
theorem dX12_readAct_24 : decode cX12_readAct 24 = .ok (.aload_n 0, 1) := by decide +kernel
theorem dX12_readAct_25 : decode cX12_readAct 25 = .ok (.getfield 294, 3) := by decide +kernel
theorem dX12_readAct_28 : decode cX12_readAct 28 = .ok (.invokevirtual 300, 3) := by decide +kernel
theorem dX12_readAct_31 : decode cX12_readAct 31 = .ok (.goto 21, 3) := by decide +kernel
theorem dX12_readAct_34 : decode cX12_readAct 34 = .ok (.aload_n 0, 1) := by decide +kernel
theorem dX12_readAct_35 : decode cX12_readAct 35 = .ok (.getfield 306, 3) := by decide +kernel
theorem dX12_readAct_38 : decode cX12_readAct 38 = .ok (.bipush 36, 2) := by decide +kernel
theorem dX12_readAct_40 : decode cX12_readAct 40 = .ok (.if_icmp .ne 12, 3) := by decide +kernel
theorem dX12_readAct_43 : decode cX12_readAct 43 = .ok (.aload_n 0, 1) := by decide +kernel
theorem dX12_readAct_44 : decode cX12_readAct 44 = .ok (.iconst 4, 1) := by decide +kernel
theorem dX12_readAct_45 : decode cX12_readAct 45 = .ok (.aload_n 0, 1) := by decide +kernel
theorem dX12_readAct_46 : decode cX12_readAct 46 = .ok (.getfield 294, 3) := by decide +kernel
theorem dX12_readAct_49 : decode cX12_readAct 49 = .ok (.invokevirtual 300, 3) := by decide +kernel
theorem dX12_readAct_52 : decode cX12_readAct 52 = .ok (.aload_n 0, 1) := by decide +kernel
theorem dX12_readAct_53 : decode cX12_readAct 53 = .ok (.getfield 288, 3) := by decide +kernel
theorem dX12_readAct_56 : decode cX12_readAct 56 = .ok (.ifCond .eq 4, 3) := by decide +kernel
theorem dX12_readAct_59 : decode cX12_readAct 59 = .ok (.return_, 1) := by decide +kernel
theorem dX12_readAct_60 : decode cX12_readAct 60 = .ok (.aload_n 0, 1) := by decide +kernel
theorem dX12_readAct_61 : decode cX12_readAct 61 = .ok (.dup, 1) := by decide +kernel
theorem dX12_readAct_62 : decode cX12_readAct 62 = .ok (.getfield 294, 3) := by decide +kernel
theorem dX12_readAct_65 : decode cX12_readAct 65 = .ok (.iconst 1, 1) := by decide +kernel
theorem dX12_readAct_66 : decode cX12_readAct 66 = .ok (.iadd, 1) := by decide +kernel
theorem dX12_readAct_67 : decode cX12_readAct 67 = .ok (.putfield 294, 3) := by decide +kernel
theorem dX12_readAct_70 : decode cX12_readAct 70 = .ok (.iload_n 1, 1) := by decide +kernel
theorem dX12_readAct_71 : decode cX12_readAct 71 = .ok (.iconst 1, 1) := by decide +kernel
theorem dX12_readAct_72 : decode cX12_readAct 72 = .ok (.if_icmp .ne 7, 3) := by decide +kernel
theorem dX12_readAct_75 : decode cX12_readAct 75 = .ok (.iconst 0, 1) := by decide +kernel
theorem dX12_readAct_76 : decode cX12_readAct 76 = .ok (.goto 9, 3) := by decide +kernel
theorem dX12_readAct_79 : decode cX12_readAct 79 = .ok (.aload_n 0, 1) := by decide +kernel
theorem dX12_readAct_80 : decode cX12_readAct 80 = .ok (.bipush 39, 2) := by decide +kernel
theorem dX12_readAct_82 : decode cX12_readAct 82 = .ok (.invokevirtual 303, 3) := by decide +kernel
theorem dX12_readAct_85 : decode cX12_readAct 85 = .ok (.istore_n 2, 1) := by decide +kernel
theorem dX12_readAct_86 : decode cX12_readAct 86 = .ok (.iload_n 1, 1) := by decide +kernel
theorem dX12_readAct_87 : decode cX12_readAct 87 = .ok (.iconst 4, 1) := by decide +kernel
theorem dX12_readAct_88 : decode cX12_readAct 88 = .ok (.if_icmp .ne 10, 3) := by decide +kernel
theorem dX12_readAct_91 : decode cX12_readAct 91 = .ok (.aload_n 0, 1) := by decide +kernel
theorem dX12_readAct_92 : decode cX12_readAct 92 = .ok (.getfield 309, 3) := by decide +kernel
theorem dX12_readAct_95 : decode cX12_readAct 95 = .ok (.goto 23, 3) := by decide +kernel
theorem dX12_readAct_98 : decode cX12_readAct 98 = .ok (.iload_n 1, 1) := by decide +kernel
theorem dX12_readAct_99 : decode cX12_readAct 99 = .ok (.iconst 3, 1) := by decide +kernel
theorem dX12_readAct_100 : decode cX12_readAct 100 = .ok (.if_icmp .ne 12, 3) := by decide +kernel
theorem dX12_readAct_103 : decode cX12_readAct 103 = .ok (.aload_n 0, 1) := by decide +kernel
theorem dX12_readAct_104 : decode cX12_readAct 104 = .ok (.bipush 19, 2) := by decide +kernel
theorem dX12_readAct_106 : decode cX12_readAct 106 = .ok (.invokevirtual 303, 3) := by decide +kernel
theorem dX12_readAct_109 : decode cX12_readAct 109 = .ok (.goto 9, 3) := by decide +kernel
theorem dX12_readAct_112 : decode cX12_readAct 112 = .ok (.aload_n 0, 1) := by decide +kernel
theorem dX12_readAct_113 : decode cX12_readAct 113 = .ok (.bipush 39, 2) := by decide +kernel
theorem dX12_readAct_115 : decode cX12_readAct 115 = .ok (.invokevirtual 303, 3) := by decide +kernel
theorem dX12_readAct_118 : decode cX12_readAct 118 = .ok (.istore_n 3, 1) := by decide +kernel
theorem dX12_readAct_119 : decode cX12_readAct 119 = .ok (.iload_n 1, 1) := by decide +kernel
theorem dX12_readAct_120 : decode cX12_readAct 120 = .ok (.iconst 1, 1) := by decide +kernel
theorem dX12_readAct_121 : decode cX12_readAct 121 = .ok (.if_icmp .ne 17, 3) := by decide +kernel
theorem dX12_readAct_124 : decode cX12_readAct 124 = .ok (.iload_n 3, 1) := by decide +kernel
theorem dX12_readAct_125 : decode cX12_readAct 125 = .ok (.bipush 40, 2) := by decide +kernel
theorem dX12_readAct_127 : decode cX12_readAct 127 = .ok (.invokestatic 312, 3) := by decide +kernel
theorem dX12_readAct_130 : decode cX12_readAct 130 = .ok (.bipush 20, 2) := by decide +kernel
theorem dX12_readAct_132 : decode cX12_readAct 132 = .ok (.invokestatic 179, 3) := by decide +kernel
theorem dX12_readAct_135 : decode cX12_readAct 135 = .ok (.goto 9, 3) := by decide +kernel
theorem dX12_readAct_138 : decode cX12_readAct 138 = .ok (.iload_n 2, 1) := by decide +kernel
theorem dX12_readAct_139 : decode cX12_readAct 139 = .ok (.bipush 40, 2) := by decide +kernel
theorem dX12_readAct_141 : decode cX12_readAct 141 = .ok (.invokestatic 312, 3) := by decide +kernel
theorem dX12_readAct_144 : decode cX12_readAct 144 = .ok (.istore 4, 2) := by decide +kernel
theorem dX12_readAct_146 : decode cX12_readAct 146 = .ok (.iload_n 1, 1) := by decide +kernel
theorem dX12_readAct_147 : decode cX12_readAct 147 = .ok (.iconst 2, 1) := by decide +kernel
theorem dX12_readAct_148 : decode cX12_readAct 148 = .ok (.if_icmp .ne 16, 3) := by decide +kernel
theorem dX12_readAct_151 : decode cX12_readAct 151 = .ok (.iload 4, 2) := by decide +kernel
theorem dX12_readAct_153 : decode cX12_readAct 153 = .ok (.iload_n 3, 1) := by decide +kernel
theorem dX12_readAct_154 : decode cX12_readAct 154 = .ok (.bipush 40, 2) := by decide +kernel
theorem dX12_readAct_156 : decode cX12_readAct 156 = .ok (.invokestatic 312, 3) := by decide +kernel
theorem dX12_readAct_159 : decode cX12_readAct 159 = .ok (.invokestatic 179, 3) := by decide +kernel
theorem dX12_readAct_162 : decode cX12_readAct 162 = .ok (.istore 4, 2) := by decide +kernel
theorem dX12_readAct_164 : decode cX12_readAct 164 = .ok (.iload_n 1, 1) := by decide +kernel
theorem dX12_readAct_165 : decode cX12_readAct 165 = .ok (.iconst 3, 1) := by decide +kernel
theorem dX12_readAct_166 : decode cX12_readAct 166 = .ok (.if_icmp .ne 16, 3) := by decide +kernel
theorem dX12_readAct_169 : decode cX12_readAct 169 = .ok (.iload 4, 2) := by decide +kernel
theorem dX12_readAct_171 : decode cX12_readAct 171 = .ok (.iload_n 3, 1) := by decide +kernel
theorem dX12_readAct_172 : decode cX12_readAct 172 = .ok (.bipush 20, 2) := by decide +kernel
theorem dX12_readAct_174 : decode cX12_readAct 174 = .ok (.invokestatic 312, 3) := by decide +kernel
theorem dX12_readAct_177 : decode cX12_readAct 177 = .ok (.invokestatic 179, 3) := by decide +kernel
theorem dX12_readAct_180 : decode cX12_readAct 180 = .ok (.istore 4, 2) := by decide +kernel
theorem dX12_readAct_182 : decode cX12_readAct 182 = .ok (.aload_n 0, 1) := by decide +kernel
theorem dX12_readAct_183 : decode cX12_readAct 183 = .ok (.iload 4, 2) := by decide +kernel
theorem dX12_readAct_185 : decode cX12_readAct 185 = .ok (.invokevirtual 315, 3) := by decide +kernel
theorem dX12_readAct_188 : decode cX12_readAct 188 = .ok (.istore 5, 2) := by decide +kernel
theorem dX12_readAct_190 : decode cX12_readAct 190 = .ok (.iload_n 1, 1) := by decide +kernel
theorem dX12_readAct_191 : decode cX12_readAct 191 = .ok (.iconst 1, 1) := by decide +kernel
theorem dX12_readAct_192 : decode cX12_readAct 192 = .ok (.if_icmp .ne 10, 3) := by decide +kernel
theorem dX12_readAct_195 : decode cX12_readAct 195 = .ok (.aload_n 0, 1) := by decide +kernel
theorem dX12_readAct_196 : decode cX12_readAct 196 = .ok (.iload 5, 2) := by decide +kernel
theorem dX12_readAct_198 : decode cX12_readAct 198 = .ok (.invokevirtual 318, 3) := by decide +kernel
theorem dX12_readAct_201 : decode cX12_readAct 201 = .ok (.istore_n 2, 1) := by decide +kernel
theorem dX12_readAct_202 : decode cX12_readAct 202 = .ok (.iconst 0, 1) := by decide +kernel
theorem dX12_readAct_203 : decode cX12_readAct 203 = .ok (.istore 6, 2) := by decide +kernel
theorem dX12_readAct_205 : decode cX12_readAct 205 = .ok (.iload 6, 2) := by decide +kernel
theorem dX12_readAct_207 : decode cX12_readAct 207 = .ok (.iload 5, 2) := by decide +kernel
theorem dX12_readAct_209 : decode cX12_readAct 209 = .ok (.if_icmp .ge 52, 3) := by decide +kernel
theorem dX12_readAct_212 : decode cX12_readAct 212 = .ok (.iload_n 1, 1) := by decide +kernel
theorem dX12_readAct_213 : decode cX12_readAct 213 = .ok (.iconst 4, 1) := by decide +kernel
theorem dX12_readAct_214 : decode cX12_readAct 214 = .ok (.if_icmp .ne 47, 3) := by decide +kernel
theorem dX12_readAct_217 : decode cX12_readAct 217 = .ok (.aload_n 0, 1) := by decide +kernel
theorem dX12_readAct_218 : decode cX12_readAct 218 = .ok (.sipush 255, 3) := by decide +kernel
theorem dX12_readAct_221 : decode cX12_readAct 221 = .ok (.invokevirtual 303, 3) := by decide +kernel
theorem dX12_readAct_224 : decode cX12_readAct 224 = .ok (.istore 7, 2) := by decide +kernel
theorem dX12_readAct_226 : decode cX12_readAct 226 = .ok (.aload_n 0, 1) := by decide +kernel
theorem dX12_readAct_227 : decode cX12_readAct 227 = .ok (.getfield 288, 3) := by decide +kernel
theorem dX12_readAct_230 : decode cX12_readAct 230 = .ok (.ifCond .eq 4, 3) := by decide +kernel
theorem dX12_readAct_233 : decode cX12_readAct 233 = .ok (.return_, 1) := by decide +kernel
theorem dX12_readAct_234 : decode cX12_readAct 234 = .ok (.aload_n 0, 1) := by decide +kernel
theorem dX12_readAct_235 : decode cX12_readAct 235 = .ok (.getfield 87, 3) := by decide +kernel
theorem dX12_readAct_238 : decode cX12_readAct 238 = .ok (.aload_n 0, 1) := by decide +kernel
theorem dX12_readAct_239 : decode cX12_readAct 239 = .ok (.getfield 309, 3) := by decide +kernel
theorem dX12_readAct_242 : decode cX12_readAct 242 = .ok (.iload 7, 2) := by decide +kernel
theorem dX12_readAct_244 : decode cX12_readAct 244 = .ok (.iastore, 1) := by decide +kernel
theorem dX12_readAct_245 : decode cX12_readAct 245 = .ok (.aload_n 0, 1) := by decide +kernel
theorem dX12_readAct_246 : decode cX12_readAct 246 = .ok (.dup, 1) := by decide +kernel
theorem dX12_readAct_247 : decode cX12_readAct 247 = .ok (.getfield 309, 3) := by decide +kernel
theorem dX12_readAct_250 : decode cX12_readAct 250 = .ok (.iconst 1, 1) := by decide +kernel
theorem dX12_readAct_251 : decode cX12_readAct 251 = .ok (.iadd, 1) := by decide +kernel
theorem dX12_readAct_252 : decode cX12_readAct 252 = .ok (.putfield 309, 3) := by decide +kernel
theorem dX12_readAct_255 : decode cX12_readAct 255 = .ok (.iinc 6 1, 3) := by decide +kernel
theorem dX12_readAct_258 : decode cX12_readAct 258 = .ok (.goto (-53), 3) := by decide +kernel
theorem dX12_readAct_261 : decode cX12_readAct 261 = .ok (.aload_n 0, 1) := by decide +kernel
theorem dX12_readAct_262 : decode cX12_readAct 262 = .ok (.getfield 84, 3) := by decide +kernel
theorem dX12_readAct_265 : decode cX12_readAct 265 = .ok (.iconst 4, 1) := by decide +kernel
theorem dX12_readAct_266 : decode cX12_readAct 266 = .ok (.aload_n 0, 1) := by decide +kernel
theorem dX12_readAct_267 : decode cX12_readAct 267 = .ok (.getfield 306, 3) := by decide +kernel
theorem dX12_readAct_270 : decode cX12_readAct 270 = .ok (.imul, 1) := by decide +kernel
theorem dX12_readAct_271 : decode cX12_readAct 271 = .ok (.iconst 0, 1) := by decide +kernel
theorem dX12_readAct_272 : decode cX12_readAct 272 = .ok (.iadd, 1) := by decide +kernel
theorem dX12_readAct_273 : decode cX12_readAct 273 = .ok (.iload_n 1, 1) := by decide +kernel
theorem dX12_readAct_274 : decode cX12_readAct 274 = .ok (.iastore, 1) := by decide +kernel
theorem dX12_readAct_275 : decode cX12_readAct 275 = .ok (.aload_n 0, 1) := by decide +kernel
theorem dX12_readAct_276 : decode cX12_readAct 276 = .ok (.getfield 84, 3) := by decide +kernel
theorem dX12_readAct_279 : decode cX12_readAct 279 = .ok (.iconst 4, 1) := by decide +kernel
theorem dX12_readAct_280 : decode cX12_readAct 280 = .ok (.aload_n 0, 1) := by decide +kernel
theorem dX12_readAct_281 : decode cX12_readAct 281 = .ok (.getfield 306, 3) := by decide +kernel
theorem dX12_readAct_284 : decode cX12_readAct 284 = .ok (.imul, 1) := by decide +kernel
theorem dX12_readAct_285 : decode cX12_readAct 285 = .ok (.iconst 1, 1) := by decide +kernel
theorem dX12_readAct_286 : decode cX12_readAct 286 = .ok (.iadd, 1) := by decide +kernel
theorem dX12_readAct_287 : decode cX12_readAct 287 = .ok (.iload_n 2, 1) := by decide +kernel
theorem dX12_readAct_288 : decode cX12_readAct 288 = .ok (.iastore, 1) := by decide +kernel
theorem dX12_readAct_289 : decode cX12_readAct 289 = .ok (.aload_n 0, 1) := by decide +kernel
theorem dX12_readAct_290 : decode cX12_readAct 290 = .ok (.getfield 84, 3) := by decide +kernel
theorem dX12_readAct_293 : decode cX12_readAct 293 = .ok (.iconst 4, 1) := by decide +kernel
theorem dX12_readAct_294 : decode cX12_readAct 294 = .ok (.aload_n 0, 1) := by decide +kernel
theorem dX12_readAct_295 : decode cX12_readAct 295 = .ok (.getfield 306, 3) := by decide +kernel
theorem dX12_readAct_298 : decode cX12_readAct 298 = .ok (.imul, 1) := by decide +kernel
theorem dX12_readAct_299 : decode cX12_readAct 299 = .ok (.iconst 2, 1) := by decide +kernel
theorem dX12_readAct_300 : decode cX12_readAct 300 = .ok (.iadd, 1) := by decide +kernel
theorem dX12_readAct_301 : decode cX12_readAct 301 = .ok (.iload_n 3, 1) := by decide +kernel
theorem dX12_readAct_302 : decode cX12_readAct 302 = .ok (.iastore, 1) := by decide +kernel
theorem dX12_readAct_303 : decode cX12_readAct 303 = .ok (.aload_n 0, 1) := by decide +kernel
theorem dX12_readAct_304 : decode cX12_readAct 304 = .ok (.getfield 84, 3) := by decide +kernel
theorem dX12_readAct_307 : decode cX12_readAct 307 = .ok (.iconst 4, 1) := by decide +kernel
theorem dX12_readAct_308 : decode cX12_readAct 308 = .ok (.aload_n 0, 1) := by decide +kernel
theorem dX12_readAct_309 : decode cX12_readAct 309 = .ok (.getfield 306, 3) := by decide +kernel
theorem dX12_readAct_312 : decode cX12_readAct 312 = .ok (.imul, 1) := by decide +kernel
theorem dX12_readAct_313 : decode cX12_readAct 313 = .ok (.iconst 3, 1) := by decide +kernel
theorem dX12_readAct_314 : decode cX12_readAct 314 = .ok (.iadd, 1) := by decide +kernel
theorem dX12_readAct_315 : decode cX12_readAct 315 = .ok (.iload 5, 2) := by decide +kernel
theorem dX12_readAct_317 : decode cX12_readAct 317 = .ok (.iastore, 1) := by decide +kernel
theorem dX12_readAct_318 : decode cX12_readAct 318 = .ok (.aload_n 0, 1) := by decide +kernel
theorem dX12_readAct_319 : decode cX12_readAct 319 = .ok (.dup, 1) := by decide +kernel
theorem dX12_readAct_320 : decode cX12_readAct 320 = .ok (.getfield 306, 3) := by decide +kernel
theorem dX12_readAct_323 : decode cX12_readAct 323 = .ok (.iconst 1, 1) := by decide +kernel
theorem dX12_readAct_324 : decode cX12_readAct 324 = .ok (.iadd, 1) := by decide +kernel
theorem dX12_readAct_325 : decode cX12_readAct 325 = .ok (.putfield 306, 3) := by decide +kernel
theorem dX12_readAct_328 : decode cX12_readAct 328 = .ok (.return_, 1) := by decide +kernel
abbrev k_X12_readAct (E : g_E) (l : Launch) (D : g_D) (K : g_D → Prop) : Prop := g_Kv E l m_X12_readAct 3 [g_R 208] g_SH D K
abbrev n_X12_readAct (E : g_E) (l : Launch) (D : g_D) (pc : Nat) (L : List (Option g_V)) (K : g_D → Prop) : Prop := g_N E l m_X12_readAct 3 pc L [] g_SH D (g_Rv g_SH K)
theorem s_X12_readAct {E : g_E} {l : Launch} {D : g_D} {K : g_D → Prop}   (hF : g_okD D → (0 ≤ (D 208 37) ∧ (D 208 37) < 400) ∧ (k_X12_within E l g_SH D (D 234 (D 208 37).toNat) 1 4 (fun x1 D1 => g_r x1 → (¬ x1 = 0 → (¬ (D1 208 34) = 36 → n_X12_readAct E l D1 52 [some (g_R 208), some (g_I (D 234 (D 208 37).toNat)), none, none, none, none, none, none] K) ∧ ((D1 208 34) = 36 → k_X12_fails E l D1 4 (D1 208 37) (fun D2 => n_X12_readAct E l D2 52 [some (g_R 208), some (g_I (D 234 (D 208 37).toNat)), none, none, none, none, none, none] K))) ∧ (x1 = 0 → k_X12_fails E l D1 1 (D1 208 37) (fun D3 => n_X12_readAct E l D3 52 [some (g_R 208), some (g_I (D 234 (D 208 37).toNat)), none, none, none, none, none, none] K))))) : k_X12_readAct E l D K := by
  refine g_enter (by decide) (Nat.le_of_ble_eq_true rfl) ?_
  show g_N E l m_X12_readAct 3 0 [some (g_R 208), none, none, none, none, none, none, none] [] g_SH D (g_Rv g_SH K)
  refine g_use (fun ok => ?_)
  have hF := hF ok.2.1
  refine g_aload_n dX12_readAct_0 rfl ?_
  refine g_getR dX12_readAct_1 fd_X12_90 sh_208 rfl ?_
  refine g_aload_n dX12_readAct_4 rfl ?_
  refine g_getI dX12_readAct_5 fd_X12_294 sh_208 rfl ?_
  obtain ⟨hc, hF⟩ := hF
  refine g_iald dX12_readAct_8 sh_234 hc.1 hc.2 ?_
  refine gw_istore_n (L' := [some (g_R 208), some (g_I (D 234 (D 208 37).toNat)), none, none, none, none, none, none]) dX12_readAct_9 (by decide) rfl ?_
  refine g_iload_n dX12_readAct_10 rfl ?_
  refine g_i2l dX12_readAct_11 ?_
  refine g_lconst dX12_readAct_12 ?_
  refine g_ldc2 dX12_readAct_13 ⟨by decide, by decide⟩ kl_X12_200 ?_
  refine gw_cSi (As := [g_J (D 234 (D 208 37).toNat), g_J 1, g_J 4]) (rest := []) dX12_readAct_16 ms_X12_131 rfl (Nat.le_of_ble_eq_true rfl) (by decide) rfl hF ?_
  intro x1 D1 hx1 hF
  have hF := hF hx1
  refine g_ifne dX12_readAct_19 rfl (fun q => ?_) (fun q => ?_)
  · have hF := hF.1 q
    refine g_aload_n dX12_readAct_34 rfl ?_
    refine g_getI dX12_readAct_35 fd_X12_306 sh_208 rfl ?_
    refine g_bipush dX12_readAct_38 ⟨by decide, by decide⟩ ?_
    refine g_cne dX12_readAct_40 rfl (fun q => ?_) (fun q => ?_)
    · have hF := hF.1 q
      exact hF
    · have hF := hF.2 q
      refine g_aload_n dX12_readAct_43 rfl ?_
      refine g_iconst dX12_readAct_44 ⟨by decide, by decide⟩ ?_
      refine g_aload_n dX12_readAct_45 rfl ?_
      refine g_getI dX12_readAct_46 fd_X12_294 sh_208 rfl ?_
      refine gw_cVv (b := 208) (As := [g_I 4, g_I (D1 208 37)]) (rest := []) dX12_readAct_49 mv_X12_300 sh_208 rfl (Nat.le_of_ble_eq_true rfl) (by decide) rfl hF ?_
      intro D2 hF
      exact hF
  · have hF := hF.2 q
    refine g_aload_n dX12_readAct_22 rfl ?_
    refine g_iconst dX12_readAct_23 ⟨by decide, by decide⟩ ?_
    refine g_aload_n dX12_readAct_24 rfl ?_
    refine g_getI dX12_readAct_25 fd_X12_294 sh_208 rfl ?_
    refine gw_cVv (b := 208) (As := [g_I 1, g_I (D1 208 37)]) (rest := []) dX12_readAct_28 mv_X12_300 sh_208 rfl (Nat.le_of_ble_eq_true rfl) (by decide) rfl hF ?_
    intro D3 hF
    refine g_goto dX12_readAct_31 rfl ?_
    exact hF
theorem s_X12_readAct_52 {E : g_E} {l : Launch} {D : g_D} {K : g_D → Prop} {v1 : Int}  (hF : g_okD D → g_r v1 → ((D 208 38) = 0 → (g_r ((D 208 37) + 1)) ∧ (∀ D1, D1 = g_up D 208 37 ((D 208 37) + 1) → ((¬ v1 = 1 → k_X12_readByte E l D1 39 (fun x2 D2 => g_r x2 → n_X12_readAct E l D2 86 [some (g_R 208), some (g_I v1), some (g_I x2), none, none, none, none, none] K)) ∧ (v1 = 1 → n_X12_readAct E l D1 86 [some (g_R 208), some (g_I v1), some (g_I 0), none, none, none, none, none] K)))) ∧ (¬ (D 208 38) = 0 → K D)) : n_X12_readAct E l D 52 [some (g_R 208), some (g_I v1), none, none, none, none, none, none] K := by
  refine g_use (fun ok => ?_)
  have hF := hF ok.2.1 (ok.loc (i := 1) rfl)
  refine g_aload_n dX12_readAct_52 rfl ?_
  refine g_getI dX12_readAct_53 fd_X12_288 sh_208 rfl ?_
  refine g_ifeq dX12_readAct_56 rfl (fun q => ?_) (fun q => ?_)
  · have hF := hF.1 q
    refine g_aload_n dX12_readAct_60 rfl ?_
    refine g_dup dX12_readAct_61 rfl ?_
    refine g_getI dX12_readAct_62 fd_X12_294 sh_208 rfl ?_
    refine g_iconst dX12_readAct_65 ⟨by decide, by decide⟩ ?_
    obtain ⟨hc, hF⟩ := hF
    refine g_iadd dX12_readAct_66 hc ?_
    let D1 : g_D := g_up D 208 37 ((D 208 37) + 1)
    have hF := hF D1 rfl
    refine g_put dX12_readAct_67 fd_X12_294 (g_ftyI (C := RX12) (T := TX12) (N := 51) rfl rfl (by decide +kernel)) sh_208 rfl ?_
    refine g_iload_n dX12_readAct_70 rfl ?_
    refine g_iconst dX12_readAct_71 ⟨by decide, by decide⟩ ?_
    refine g_cne dX12_readAct_72 rfl (fun q => ?_) (fun q => ?_)
    · have hF := hF.1 q
      refine g_aload_n dX12_readAct_79 rfl ?_
      refine g_bipush dX12_readAct_80 ⟨by decide, by decide⟩ ?_
      refine gw_cVi (b := 208) (As := [g_I 39]) (rest := []) dX12_readAct_82 mv_X12_303 sh_208 rfl (Nat.le_of_ble_eq_true rfl) (by decide) rfl hF ?_
      intro x2 D2 hx2 hF
      have hF := hF hx2
      refine gw_istore_n (L' := [some (g_R 208), some (g_I v1), some (g_I x2), none, none, none, none, none]) dX12_readAct_85 (by decide) rfl ?_
      exact hF
    · have hF := hF.2 q
      refine g_iconst dX12_readAct_75 ⟨by decide, by decide⟩ ?_
      refine g_goto dX12_readAct_76 rfl ?_
      refine gw_istore_n (L' := [some (g_R 208), some (g_I v1), some (g_I 0), none, none, none, none, none]) dX12_readAct_85 (by decide) rfl ?_
      exact hF
  · have hF := hF.2 q
    exact gw_vret dX12_readAct_59 rfl hF
theorem s_X12_readAct_86 {E : g_E} {l : Launch} {D : g_D} {K : g_D → Prop} {v1 : Int} {v2 : Int}  (hF : g_okD D → g_r v1 → g_r v2 → (¬ v1 = 4 → (¬ v1 = 3 → k_X12_readByte E l D 39 (fun x1 D1 => g_r x1 → n_X12_readAct E l D1 119 [some (g_R 208), some (g_I v1), some (g_I v2), some (g_I x1), none, none, none, none] K)) ∧ (v1 = 3 → k_X12_readByte E l D 19 (fun x2 D2 => g_r x2 → n_X12_readAct E l D2 119 [some (g_R 208), some (g_I v1), some (g_I v2), some (g_I x2), none, none, none, none] K))) ∧ (v1 = 4 → n_X12_readAct E l D 119 [some (g_R 208), some (g_I v1), some (g_I v2), some (g_I (D 208 35)), none, none, none, none] K)) : n_X12_readAct E l D 86 [some (g_R 208), some (g_I v1), some (g_I v2), none, none, none, none, none] K := by
  refine g_use (fun ok => ?_)
  have hF := hF ok.2.1 (ok.loc (i := 1) rfl) (ok.loc (i := 2) rfl)
  refine g_iload_n dX12_readAct_86 rfl ?_
  refine g_iconst dX12_readAct_87 ⟨by decide, by decide⟩ ?_
  refine g_cne dX12_readAct_88 rfl (fun q => ?_) (fun q => ?_)
  · have hF := hF.1 q
    refine g_iload_n dX12_readAct_98 rfl ?_
    refine g_iconst dX12_readAct_99 ⟨by decide, by decide⟩ ?_
    refine g_cne dX12_readAct_100 rfl (fun q => ?_) (fun q => ?_)
    · have hF := hF.1 q
      refine g_aload_n dX12_readAct_112 rfl ?_
      refine g_bipush dX12_readAct_113 ⟨by decide, by decide⟩ ?_
      refine gw_cVi (b := 208) (As := [g_I 39]) (rest := []) dX12_readAct_115 mv_X12_303 sh_208 rfl (Nat.le_of_ble_eq_true rfl) (by decide) rfl hF ?_
      intro x1 D1 hx1 hF
      have hF := hF hx1
      refine gw_istore_n (L' := [some (g_R 208), some (g_I v1), some (g_I v2), some (g_I x1), none, none, none, none]) dX12_readAct_118 (by decide) rfl ?_
      exact hF
    · have hF := hF.2 q
      refine g_aload_n dX12_readAct_103 rfl ?_
      refine g_bipush dX12_readAct_104 ⟨by decide, by decide⟩ ?_
      refine gw_cVi (b := 208) (As := [g_I 19]) (rest := []) dX12_readAct_106 mv_X12_303 sh_208 rfl (Nat.le_of_ble_eq_true rfl) (by decide) rfl hF ?_
      intro x2 D2 hx2 hF
      have hF := hF hx2
      refine g_goto dX12_readAct_109 rfl ?_
      refine gw_istore_n (L' := [some (g_R 208), some (g_I v1), some (g_I v2), some (g_I x2), none, none, none, none]) dX12_readAct_118 (by decide) rfl ?_
      exact hF
  · have hF := hF.2 q
    refine g_aload_n dX12_readAct_91 rfl ?_
    refine g_getI dX12_readAct_92 fd_X12_309 sh_208 rfl ?_
    refine g_goto dX12_readAct_95 rfl ?_
    refine gw_istore_n (L' := [some (g_R 208), some (g_I v1), some (g_I v2), some (g_I (D 208 35)), none, none, none, none]) dX12_readAct_118 (by decide) rfl ?_
    exact hF
theorem s_X12_readAct_119 {E : g_E} {l : Launch} {D : g_D} {K : g_D → Prop} {v1 : Int} {v2 : Int} {v3 : Int}  (hF : g_okD D → g_r v1 → g_r v2 → g_r v3 → (¬ v1 = 1 → k_X12_roomAt E l g_SH D v2 40 (fun x1 D1 => g_r x1 → n_X12_readAct E l D1 146 [some (g_R 208), some (g_I v1), some (g_I v2), some (g_I v3), some (g_I x1), none, none, none] K)) ∧ (v1 = 1 → k_X12_roomAt E l g_SH D v3 40 (fun x2 D2 => g_r x2 → k_X12_lesser E l g_SH D2 x2 20 (fun x3 D3 => g_r x3 → n_X12_readAct E l D3 146 [some (g_R 208), some (g_I v1), some (g_I v2), some (g_I v3), some (g_I x3), none, none, none] K)))) : n_X12_readAct E l D 119 [some (g_R 208), some (g_I v1), some (g_I v2), some (g_I v3), none, none, none, none] K := by
  refine g_use (fun ok => ?_)
  have hF := hF ok.2.1 (ok.loc (i := 1) rfl) (ok.loc (i := 2) rfl) (ok.loc (i := 3) rfl)
  refine g_iload_n dX12_readAct_119 rfl ?_
  refine g_iconst dX12_readAct_120 ⟨by decide, by decide⟩ ?_
  refine g_cne dX12_readAct_121 rfl (fun q => ?_) (fun q => ?_)
  · have hF := hF.1 q
    refine g_iload_n dX12_readAct_138 rfl ?_
    refine g_bipush dX12_readAct_139 ⟨by decide, by decide⟩ ?_
    refine gw_cSi (As := [g_I v2, g_I 40]) (rest := []) dX12_readAct_141 ms_X12_312 rfl (Nat.le_of_ble_eq_true rfl) (by decide) rfl hF ?_
    intro x1 D1 hx1 hF
    have hF := hF hx1
    refine gw_istore (L' := [some (g_R 208), some (g_I v1), some (g_I v2), some (g_I v3), some (g_I x1), none, none, none]) dX12_readAct_144 (by decide) rfl ?_
    exact hF
  · have hF := hF.2 q
    refine g_iload_n dX12_readAct_124 rfl ?_
    refine g_bipush dX12_readAct_125 ⟨by decide, by decide⟩ ?_
    refine gw_cSi (As := [g_I v3, g_I 40]) (rest := []) dX12_readAct_127 ms_X12_312 rfl (Nat.le_of_ble_eq_true rfl) (by decide) rfl hF ?_
    intro x2 D2 hx2 hF
    have hF := hF hx2
    refine g_bipush dX12_readAct_130 ⟨by decide, by decide⟩ ?_
    refine gw_cSi (As := [g_I x2, g_I 20]) (rest := []) dX12_readAct_132 ms_X12_179 rfl (Nat.le_of_ble_eq_true rfl) (by decide) rfl hF ?_
    intro x3 D3 hx3 hF
    have hF := hF hx3
    refine g_goto dX12_readAct_135 rfl ?_
    refine gw_istore (L' := [some (g_R 208), some (g_I v1), some (g_I v2), some (g_I v3), some (g_I x3), none, none, none]) dX12_readAct_144 (by decide) rfl ?_
    exact hF
theorem s_X12_readAct_146 {E : g_E} {l : Launch} {D : g_D} {K : g_D → Prop} {v1 : Int} {v2 : Int} {v3 : Int} {v4 : Int}  (hF : g_okD D → g_r v1 → g_r v2 → g_r v3 → g_r v4 → (¬ v1 = 2 → n_X12_readAct E l D 164 [some (g_R 208), some (g_I v1), some (g_I v2), some (g_I v3), some (g_I v4), none, none, none] K) ∧ (v1 = 2 → k_X12_roomAt E l g_SH D v3 40 (fun x1 D1 => g_r x1 → k_X12_lesser E l g_SH D1 v4 x1 (fun x2 D2 => g_r x2 → n_X12_readAct E l D2 164 [some (g_R 208), some (g_I v1), some (g_I v2), some (g_I v3), some (g_I x2), none, none, none] K)))) : n_X12_readAct E l D 146 [some (g_R 208), some (g_I v1), some (g_I v2), some (g_I v3), some (g_I v4), none, none, none] K := by
  refine g_use (fun ok => ?_)
  have hF := hF ok.2.1 (ok.loc (i := 1) rfl) (ok.loc (i := 2) rfl) (ok.loc (i := 3) rfl) (ok.loc (i := 4) rfl)
  refine g_iload_n dX12_readAct_146 rfl ?_
  refine g_iconst dX12_readAct_147 ⟨by decide, by decide⟩ ?_
  refine g_cne dX12_readAct_148 rfl (fun q => ?_) (fun q => ?_)
  · have hF := hF.1 q
    exact hF
  · have hF := hF.2 q
    refine g_iload dX12_readAct_151 rfl ?_
    refine g_iload_n dX12_readAct_153 rfl ?_
    refine g_bipush dX12_readAct_154 ⟨by decide, by decide⟩ ?_
    refine gw_cSi (As := [g_I v3, g_I 40]) (rest := [g_I v4]) dX12_readAct_156 ms_X12_312 rfl (Nat.le_of_ble_eq_true rfl) (by decide) rfl hF ?_
    intro x1 D1 hx1 hF
    have hF := hF hx1
    refine gw_cSi (As := [g_I v4, g_I x1]) (rest := []) dX12_readAct_159 ms_X12_179 rfl (Nat.le_of_ble_eq_true rfl) (by decide) rfl hF ?_
    intro x2 D2 hx2 hF
    have hF := hF hx2
    refine gw_istore (L' := [some (g_R 208), some (g_I v1), some (g_I v2), some (g_I v3), some (g_I x2), none, none, none]) dX12_readAct_162 (by decide) rfl ?_
    exact hF
theorem s_X12_readAct_164 {E : g_E} {l : Launch} {D : g_D} {K : g_D → Prop} {v1 : Int} {v2 : Int} {v3 : Int} {v4 : Int}  (hF : g_okD D → g_r v1 → g_r v2 → g_r v3 → g_r v4 → (¬ v1 = 3 → n_X12_readAct E l D 182 [some (g_R 208), some (g_I v1), some (g_I v2), some (g_I v3), some (g_I v4), none, none, none] K) ∧ (v1 = 3 → k_X12_roomAt E l g_SH D v3 20 (fun x1 D1 => g_r x1 → k_X12_lesser E l g_SH D1 v4 x1 (fun x2 D2 => g_r x2 → n_X12_readAct E l D2 182 [some (g_R 208), some (g_I v1), some (g_I v2), some (g_I v3), some (g_I x2), none, none, none] K)))) : n_X12_readAct E l D 164 [some (g_R 208), some (g_I v1), some (g_I v2), some (g_I v3), some (g_I v4), none, none, none] K := by
  refine g_use (fun ok => ?_)
  have hF := hF ok.2.1 (ok.loc (i := 1) rfl) (ok.loc (i := 2) rfl) (ok.loc (i := 3) rfl) (ok.loc (i := 4) rfl)
  refine g_iload_n dX12_readAct_164 rfl ?_
  refine g_iconst dX12_readAct_165 ⟨by decide, by decide⟩ ?_
  refine g_cne dX12_readAct_166 rfl (fun q => ?_) (fun q => ?_)
  · have hF := hF.1 q
    exact hF
  · have hF := hF.2 q
    refine g_iload dX12_readAct_169 rfl ?_
    refine g_iload_n dX12_readAct_171 rfl ?_
    refine g_bipush dX12_readAct_172 ⟨by decide, by decide⟩ ?_
    refine gw_cSi (As := [g_I v3, g_I 20]) (rest := [g_I v4]) dX12_readAct_174 ms_X12_312 rfl (Nat.le_of_ble_eq_true rfl) (by decide) rfl hF ?_
    intro x1 D1 hx1 hF
    have hF := hF hx1
    refine gw_cSi (As := [g_I v4, g_I x1]) (rest := []) dX12_readAct_177 ms_X12_179 rfl (Nat.le_of_ble_eq_true rfl) (by decide) rfl hF ?_
    intro x2 D2 hx2 hF
    have hF := hF hx2
    refine gw_istore (L' := [some (g_R 208), some (g_I v1), some (g_I v2), some (g_I v3), some (g_I x2), none, none, none]) dX12_readAct_180 (by decide) rfl ?_
    exact hF
theorem s_X12_readAct_182 {E : g_E} {l : Launch} {D : g_D} {K : g_D → Prop} {v1 : Int} {v2 : Int} {v3 : Int} {v4 : Int}  (hF : g_okD D → g_r v1 → g_r v2 → g_r v3 → g_r v4 → k_X12_readLength E l D v4 (fun x1 D1 => g_r x1 → (¬ v1 = 1 → n_X12_readAct E l D1 202 [some (g_R 208), some (g_I v1), some (g_I v2), some (g_I v3), none, some (g_I x1), none, none] K) ∧ (v1 = 1 → k_X12_readPlace E l D1 x1 (fun x2 D2 => g_r x2 → n_X12_readAct E l D2 202 [some (g_R 208), some (g_I v1), some (g_I x2), some (g_I v3), none, some (g_I x1), none, none] K)))) : n_X12_readAct E l D 182 [some (g_R 208), some (g_I v1), some (g_I v2), some (g_I v3), some (g_I v4), none, none, none] K := by
  refine g_use (fun ok => ?_)
  have hF := hF ok.2.1 (ok.loc (i := 1) rfl) (ok.loc (i := 2) rfl) (ok.loc (i := 3) rfl) (ok.loc (i := 4) rfl)
  refine g_aload_n dX12_readAct_182 rfl ?_
  refine g_iload dX12_readAct_183 rfl ?_
  refine gw_cVi (b := 208) (As := [g_I v4]) (rest := []) dX12_readAct_185 mv_X12_315 sh_208 rfl (Nat.le_of_ble_eq_true rfl) (by decide) rfl hF ?_
  intro x1 D1 hx1 hF
  have hF := hF hx1
  refine gw_istore (L' := [some (g_R 208), some (g_I v1), some (g_I v2), some (g_I v3), some (g_I v4), some (g_I x1), none, none]) dX12_readAct_188 (by decide) rfl ?_
  refine g_iload_n dX12_readAct_190 rfl ?_
  refine g_iconst dX12_readAct_191 ⟨by decide, by decide⟩ ?_
  refine g_cne dX12_readAct_192 rfl (fun q => ?_) (fun q => ?_)
  · have hF := hF.1 q
    exact g_forget (L' := [some (g_R 208), some (g_I v1), some (g_I v2), some (g_I v3), none, some (g_I x1), none, none]) ⟨rfl, ⟨rfl, ⟨rfl, ⟨rfl, ⟨rfl, trivial⟩⟩⟩⟩⟩ hF
  · have hF := hF.2 q
    refine g_aload_n dX12_readAct_195 rfl ?_
    refine g_iload dX12_readAct_196 rfl ?_
    refine gw_cVi (b := 208) (As := [g_I x1]) (rest := []) dX12_readAct_198 mv_X12_318 sh_208 rfl (Nat.le_of_ble_eq_true rfl) (by decide) rfl hF ?_
    intro x2 D2 hx2 hF
    have hF := hF hx2
    refine gw_istore_n (L' := [some (g_R 208), some (g_I v1), some (g_I x2), some (g_I v3), some (g_I v4), some (g_I x1), none, none]) dX12_readAct_201 (by decide) rfl ?_
    exact g_forget (L' := [some (g_R 208), some (g_I v1), some (g_I x2), some (g_I v3), none, some (g_I x1), none, none]) ⟨rfl, ⟨rfl, ⟨rfl, ⟨rfl, ⟨rfl, trivial⟩⟩⟩⟩⟩ hF
theorem s_X12_readAct_202 {E : g_E} {l : Launch} {D : g_D} {K : g_D → Prop} {v1 : Int} {v2 : Int} {v3 : Int} {v5 : Int}  (hF : g_okD D → g_r v1 → g_r v2 → g_r v3 → g_r v5 → n_X12_readAct E l D 205 [some (g_R 208), some (g_I v1), some (g_I v2), some (g_I v3), none, some (g_I v5), some (g_I 0), none] K) : n_X12_readAct E l D 202 [some (g_R 208), some (g_I v1), some (g_I v2), some (g_I v3), none, some (g_I v5), none, none] K := by
  refine g_use (fun ok => ?_)
  have hF := hF ok.2.1 (ok.loc (i := 1) rfl) (ok.loc (i := 2) rfl) (ok.loc (i := 3) rfl) (ok.loc (i := 5) rfl)
  refine g_iconst dX12_readAct_202 ⟨by decide, by decide⟩ ?_
  refine gw_istore (L' := [some (g_R 208), some (g_I v1), some (g_I v2), some (g_I v3), none, some (g_I v5), some (g_I 0), none]) dX12_readAct_203 (by decide) rfl ?_
  exact hF
theorem s_X12_readAct_205 {E : g_E} {l : Launch} {D : g_D} {K : g_D → Prop} {v1 : Int} {v2 : Int} {v3 : Int} {v5 : Int} {v6 : Int}  (hF : g_okD D → g_r v1 → g_r v2 → g_r v3 → g_r v5 → g_r v6 → (v5 ≤ v6 → (g_r (4 * (D 208 34))) ∧ ((g_r ((4 * (D 208 34)) + 0)) ∧ ((0 ≤ ((4 * (D 208 34)) + 0) ∧ ((4 * (D 208 34)) + 0) < 144) ∧ (∀ D1, D1 = g_up D 232 ((4 * (D 208 34)) + 0).toNat v1 → ((g_r (4 * (D 208 34))) ∧ ((g_r ((4 * (D 208 34)) + 1)) ∧ ((0 ≤ ((4 * (D 208 34)) + 1) ∧ ((4 * (D 208 34)) + 1) < 144) ∧ (∀ D2, D2 = g_up D1 232 ((4 * (D 208 34)) + 1).toNat v2 → ((g_r (4 * (D 208 34))) ∧ ((g_r ((4 * (D 208 34)) + 2)) ∧ ((0 ≤ ((4 * (D 208 34)) + 2) ∧ ((4 * (D 208 34)) + 2) < 144) ∧ (∀ D3, D3 = g_up D2 232 ((4 * (D 208 34)) + 2).toNat v3 → ((g_r (4 * (D 208 34))) ∧ ((g_r ((4 * (D 208 34)) + 3)) ∧ ((0 ≤ ((4 * (D 208 34)) + 3) ∧ ((4 * (D 208 34)) + 3) < 144) ∧ (∀ D4, D4 = g_up D3 232 ((4 * (D 208 34)) + 3).toNat v5 → ((g_r ((D 208 34) + 1)) ∧ (∀ D5, D5 = g_up D4 208 34 ((D 208 34) + 1) → (K D5))))))))))))))))))) ∧ (¬ v5 ≤ v6 → (¬ v1 = 4 → (g_r (4 * (D 208 34))) ∧ ((g_r ((4 * (D 208 34)) + 0)) ∧ ((0 ≤ ((4 * (D 208 34)) + 0) ∧ ((4 * (D 208 34)) + 0) < 144) ∧ (∀ D6, D6 = g_up D 232 ((4 * (D 208 34)) + 0).toNat v1 → ((g_r (4 * (D 208 34))) ∧ ((g_r ((4 * (D 208 34)) + 1)) ∧ ((0 ≤ ((4 * (D 208 34)) + 1) ∧ ((4 * (D 208 34)) + 1) < 144) ∧ (∀ D7, D7 = g_up D6 232 ((4 * (D 208 34)) + 1).toNat v2 → ((g_r (4 * (D 208 34))) ∧ ((g_r ((4 * (D 208 34)) + 2)) ∧ ((0 ≤ ((4 * (D 208 34)) + 2) ∧ ((4 * (D 208 34)) + 2) < 144) ∧ (∀ D8, D8 = g_up D7 232 ((4 * (D 208 34)) + 2).toNat v3 → ((g_r (4 * (D 208 34))) ∧ ((g_r ((4 * (D 208 34)) + 3)) ∧ ((0 ≤ ((4 * (D 208 34)) + 3) ∧ ((4 * (D 208 34)) + 3) < 144) ∧ (∀ D9, D9 = g_up D8 232 ((4 * (D 208 34)) + 3).toNat v5 → ((g_r ((D 208 34) + 1)) ∧ (∀ D10, D10 = g_up D9 208 34 ((D 208 34) + 1) → (K D10))))))))))))))))))) ∧ (v1 = 4 → k_X12_readByte E l D 255 (fun x11 D11 => g_r x11 → ((D11 208 38) = 0 → (0 ≤ (D11 208 35) ∧ (D11 208 35) < 160) ∧ (∀ D12, D12 = g_up D11 233 (D11 208 35).toNat x11 → ((g_r ((D11 208 35) + 1)) ∧ (∀ D13, D13 = g_up D12 208 35 ((D11 208 35) + 1) → ((g_r (v6 + 1)) ∧ (n_X12_readAct E l D13 205 [some (g_R 208), some (g_I v1), some (g_I v2), some (g_I v3), none, some (g_I v5), some (g_I (v6 + 1)), none] K)))))) ∧ (¬ (D11 208 38) = 0 → K D11))))) : n_X12_readAct E l D 205 [some (g_R 208), some (g_I v1), some (g_I v2), some (g_I v3), none, some (g_I v5), some (g_I v6), none] K := by
  refine g_use (fun ok => ?_)
  have hF := hF ok.2.1 (ok.loc (i := 1) rfl) (ok.loc (i := 2) rfl) (ok.loc (i := 3) rfl) (ok.loc (i := 5) rfl) (ok.loc (i := 6) rfl)
  refine g_iload dX12_readAct_205 rfl ?_
  refine g_iload dX12_readAct_207 rfl ?_
  refine g_cge dX12_readAct_209 rfl (fun q => ?_) (fun q => ?_)
  · have hF := hF.1 q
    refine g_aload_n dX12_readAct_261 rfl ?_
    refine g_getR dX12_readAct_262 fd_X12_84 sh_208 rfl ?_
    refine g_iconst dX12_readAct_265 ⟨by decide, by decide⟩ ?_
    refine g_aload_n dX12_readAct_266 rfl ?_
    refine g_getI dX12_readAct_267 fd_X12_306 sh_208 rfl ?_
    obtain ⟨hc, hF⟩ := hF
    refine g_imul dX12_readAct_270 hc ?_
    refine g_iconst dX12_readAct_271 ⟨by decide, by decide⟩ ?_
    obtain ⟨hc, hF⟩ := hF
    refine g_iadd dX12_readAct_272 hc ?_
    refine g_iload_n dX12_readAct_273 rfl ?_
    obtain ⟨hc, hF⟩ := hF
    let D1 : g_D := g_up D 232 ((4 * (D 208 34)) + 0).toNat v1
    have hF := hF D1 rfl
    refine g_iast dX12_readAct_274 sh_232 hc.1 hc.2 ?_
    refine g_aload_n dX12_readAct_275 rfl ?_
    refine g_getR dX12_readAct_276 fd_X12_84 sh_208 rfl ?_
    refine g_iconst dX12_readAct_279 ⟨by decide, by decide⟩ ?_
    refine g_aload_n dX12_readAct_280 rfl ?_
    refine g_getI dX12_readAct_281 fd_X12_306 sh_208 rfl ?_
    obtain ⟨hc, hF⟩ := hF
    refine g_imul dX12_readAct_284 hc ?_
    refine g_iconst dX12_readAct_285 ⟨by decide, by decide⟩ ?_
    obtain ⟨hc, hF⟩ := hF
    refine g_iadd dX12_readAct_286 hc ?_
    refine g_iload_n dX12_readAct_287 rfl ?_
    obtain ⟨hc, hF⟩ := hF
    let D2 : g_D := g_up D1 232 ((4 * (D 208 34)) + 1).toNat v2
    have hF := hF D2 rfl
    refine g_iast dX12_readAct_288 sh_232 hc.1 hc.2 ?_
    refine g_aload_n dX12_readAct_289 rfl ?_
    refine g_getR dX12_readAct_290 fd_X12_84 sh_208 rfl ?_
    refine g_iconst dX12_readAct_293 ⟨by decide, by decide⟩ ?_
    refine g_aload_n dX12_readAct_294 rfl ?_
    refine g_getI dX12_readAct_295 fd_X12_306 sh_208 rfl ?_
    obtain ⟨hc, hF⟩ := hF
    refine g_imul dX12_readAct_298 hc ?_
    refine g_iconst dX12_readAct_299 ⟨by decide, by decide⟩ ?_
    obtain ⟨hc, hF⟩ := hF
    refine g_iadd dX12_readAct_300 hc ?_
    refine g_iload_n dX12_readAct_301 rfl ?_
    obtain ⟨hc, hF⟩ := hF
    let D3 : g_D := g_up D2 232 ((4 * (D 208 34)) + 2).toNat v3
    have hF := hF D3 rfl
    refine g_iast dX12_readAct_302 sh_232 hc.1 hc.2 ?_
    refine g_aload_n dX12_readAct_303 rfl ?_
    refine g_getR dX12_readAct_304 fd_X12_84 sh_208 rfl ?_
    refine g_iconst dX12_readAct_307 ⟨by decide, by decide⟩ ?_
    refine g_aload_n dX12_readAct_308 rfl ?_
    refine g_getI dX12_readAct_309 fd_X12_306 sh_208 rfl ?_
    obtain ⟨hc, hF⟩ := hF
    refine g_imul dX12_readAct_312 hc ?_
    refine g_iconst dX12_readAct_313 ⟨by decide, by decide⟩ ?_
    obtain ⟨hc, hF⟩ := hF
    refine g_iadd dX12_readAct_314 hc ?_
    refine g_iload dX12_readAct_315 rfl ?_
    obtain ⟨hc, hF⟩ := hF
    let D4 : g_D := g_up D3 232 ((4 * (D 208 34)) + 3).toNat v5
    have hF := hF D4 rfl
    refine g_iast dX12_readAct_317 sh_232 hc.1 hc.2 ?_
    refine g_aload_n dX12_readAct_318 rfl ?_
    refine g_dup dX12_readAct_319 rfl ?_
    refine g_getI dX12_readAct_320 fd_X12_306 sh_208 rfl ?_
    refine g_iconst dX12_readAct_323 ⟨by decide, by decide⟩ ?_
    obtain ⟨hc, hF⟩ := hF
    refine g_iadd dX12_readAct_324 hc ?_
    let D5 : g_D := g_up D4 208 34 ((D 208 34) + 1)
    have hF := hF D5 rfl
    refine g_put dX12_readAct_325 fd_X12_306 (g_ftyI (C := RX12) (T := TX12) (N := 51) rfl rfl (by decide +kernel)) sh_208 rfl ?_
    exact gw_vret dX12_readAct_328 rfl hF
  · have hF := hF.2 q
    refine g_iload_n dX12_readAct_212 rfl ?_
    refine g_iconst dX12_readAct_213 ⟨by decide, by decide⟩ ?_
    refine g_cne dX12_readAct_214 rfl (fun q => ?_) (fun q => ?_)
    · have hF := hF.1 q
      refine g_aload_n dX12_readAct_261 rfl ?_
      refine g_getR dX12_readAct_262 fd_X12_84 sh_208 rfl ?_
      refine g_iconst dX12_readAct_265 ⟨by decide, by decide⟩ ?_
      refine g_aload_n dX12_readAct_266 rfl ?_
      refine g_getI dX12_readAct_267 fd_X12_306 sh_208 rfl ?_
      obtain ⟨hc, hF⟩ := hF
      refine g_imul dX12_readAct_270 hc ?_
      refine g_iconst dX12_readAct_271 ⟨by decide, by decide⟩ ?_
      obtain ⟨hc, hF⟩ := hF
      refine g_iadd dX12_readAct_272 hc ?_
      refine g_iload_n dX12_readAct_273 rfl ?_
      obtain ⟨hc, hF⟩ := hF
      let D6 : g_D := g_up D 232 ((4 * (D 208 34)) + 0).toNat v1
      have hF := hF D6 rfl
      refine g_iast dX12_readAct_274 sh_232 hc.1 hc.2 ?_
      refine g_aload_n dX12_readAct_275 rfl ?_
      refine g_getR dX12_readAct_276 fd_X12_84 sh_208 rfl ?_
      refine g_iconst dX12_readAct_279 ⟨by decide, by decide⟩ ?_
      refine g_aload_n dX12_readAct_280 rfl ?_
      refine g_getI dX12_readAct_281 fd_X12_306 sh_208 rfl ?_
      obtain ⟨hc, hF⟩ := hF
      refine g_imul dX12_readAct_284 hc ?_
      refine g_iconst dX12_readAct_285 ⟨by decide, by decide⟩ ?_
      obtain ⟨hc, hF⟩ := hF
      refine g_iadd dX12_readAct_286 hc ?_
      refine g_iload_n dX12_readAct_287 rfl ?_
      obtain ⟨hc, hF⟩ := hF
      let D7 : g_D := g_up D6 232 ((4 * (D 208 34)) + 1).toNat v2
      have hF := hF D7 rfl
      refine g_iast dX12_readAct_288 sh_232 hc.1 hc.2 ?_
      refine g_aload_n dX12_readAct_289 rfl ?_
      refine g_getR dX12_readAct_290 fd_X12_84 sh_208 rfl ?_
      refine g_iconst dX12_readAct_293 ⟨by decide, by decide⟩ ?_
      refine g_aload_n dX12_readAct_294 rfl ?_
      refine g_getI dX12_readAct_295 fd_X12_306 sh_208 rfl ?_
      obtain ⟨hc, hF⟩ := hF
      refine g_imul dX12_readAct_298 hc ?_
      refine g_iconst dX12_readAct_299 ⟨by decide, by decide⟩ ?_
      obtain ⟨hc, hF⟩ := hF
      refine g_iadd dX12_readAct_300 hc ?_
      refine g_iload_n dX12_readAct_301 rfl ?_
      obtain ⟨hc, hF⟩ := hF
      let D8 : g_D := g_up D7 232 ((4 * (D 208 34)) + 2).toNat v3
      have hF := hF D8 rfl
      refine g_iast dX12_readAct_302 sh_232 hc.1 hc.2 ?_
      refine g_aload_n dX12_readAct_303 rfl ?_
      refine g_getR dX12_readAct_304 fd_X12_84 sh_208 rfl ?_
      refine g_iconst dX12_readAct_307 ⟨by decide, by decide⟩ ?_
      refine g_aload_n dX12_readAct_308 rfl ?_
      refine g_getI dX12_readAct_309 fd_X12_306 sh_208 rfl ?_
      obtain ⟨hc, hF⟩ := hF
      refine g_imul dX12_readAct_312 hc ?_
      refine g_iconst dX12_readAct_313 ⟨by decide, by decide⟩ ?_
      obtain ⟨hc, hF⟩ := hF
      refine g_iadd dX12_readAct_314 hc ?_
      refine g_iload dX12_readAct_315 rfl ?_
      obtain ⟨hc, hF⟩ := hF
      let D9 : g_D := g_up D8 232 ((4 * (D 208 34)) + 3).toNat v5
      have hF := hF D9 rfl
      refine g_iast dX12_readAct_317 sh_232 hc.1 hc.2 ?_
      refine g_aload_n dX12_readAct_318 rfl ?_
      refine g_dup dX12_readAct_319 rfl ?_
      refine g_getI dX12_readAct_320 fd_X12_306 sh_208 rfl ?_
      refine g_iconst dX12_readAct_323 ⟨by decide, by decide⟩ ?_
      obtain ⟨hc, hF⟩ := hF
      refine g_iadd dX12_readAct_324 hc ?_
      let D10 : g_D := g_up D9 208 34 ((D 208 34) + 1)
      have hF := hF D10 rfl
      refine g_put dX12_readAct_325 fd_X12_306 (g_ftyI (C := RX12) (T := TX12) (N := 51) rfl rfl (by decide +kernel)) sh_208 rfl ?_
      exact gw_vret dX12_readAct_328 rfl hF
    · have hF := hF.2 q
      refine g_aload_n dX12_readAct_217 rfl ?_
      refine g_sipush dX12_readAct_218 ⟨by decide, by decide⟩ ?_
      refine gw_cVi (b := 208) (As := [g_I 255]) (rest := []) dX12_readAct_221 mv_X12_303 sh_208 rfl (Nat.le_of_ble_eq_true rfl) (by decide) rfl hF ?_
      intro x11 D11 hx11 hF
      have hF := hF hx11
      refine gw_istore (L' := [some (g_R 208), some (g_I v1), some (g_I v2), some (g_I v3), none, some (g_I v5), some (g_I v6), some (g_I x11)]) dX12_readAct_224 (by decide) rfl ?_
      refine g_aload_n dX12_readAct_226 rfl ?_
      refine g_getI dX12_readAct_227 fd_X12_288 sh_208 rfl ?_
      refine g_ifeq dX12_readAct_230 rfl (fun q => ?_) (fun q => ?_)
      · have hF := hF.1 q
        refine g_aload_n dX12_readAct_234 rfl ?_
        refine g_getR dX12_readAct_235 fd_X12_87 sh_208 rfl ?_
        refine g_aload_n dX12_readAct_238 rfl ?_
        refine g_getI dX12_readAct_239 fd_X12_309 sh_208 rfl ?_
        refine g_iload dX12_readAct_242 rfl ?_
        obtain ⟨hc, hF⟩ := hF
        let D12 : g_D := g_up D11 233 (D11 208 35).toNat x11
        have hF := hF D12 rfl
        refine g_iast dX12_readAct_244 sh_233 hc.1 hc.2 ?_
        refine g_aload_n dX12_readAct_245 rfl ?_
        refine g_dup dX12_readAct_246 rfl ?_
        refine g_getI dX12_readAct_247 fd_X12_309 sh_208 rfl ?_
        refine g_iconst dX12_readAct_250 ⟨by decide, by decide⟩ ?_
        obtain ⟨hc, hF⟩ := hF
        refine g_iadd dX12_readAct_251 hc ?_
        let D13 : g_D := g_up D12 208 35 ((D11 208 35) + 1)
        have hF := hF D13 rfl
        refine g_put dX12_readAct_252 fd_X12_309 (g_ftyI (C := RX12) (T := TX12) (N := 51) rfl rfl (by decide +kernel)) sh_208 rfl ?_
        obtain ⟨hc, hF⟩ := hF
        refine gw_iinc (L' := [some (g_R 208), some (g_I v1), some (g_I v2), some (g_I v3), none, some (g_I v5), some (g_I (v6 + 1)), some (g_I x11)]) dX12_readAct_255 rfl hc (by decide) rfl ?_
        refine g_goto dX12_readAct_258 rfl ?_
        exact g_forget (L' := [some (g_R 208), some (g_I v1), some (g_I v2), some (g_I v3), none, some (g_I v5), some (g_I (v6 + 1)), none]) ⟨rfl, ⟨rfl, ⟨rfl, ⟨rfl, ⟨rfl, ⟨rfl, trivial⟩⟩⟩⟩⟩⟩ hF
      · have hF := hF.2 q
        exact gw_vret dX12_readAct_233 rfl hF
theorem dX12_readsPatch_0 : decode cX12_readsPatch 0 = .ok (.aload_n 0, 1) := by decide +kernel
theorem dX12_readsPatch_1 : decode cX12_readsPatch 1 = .ok (.iload_n 1, 1) := by decide +kernel
theorem dX12_readsPatch_2 : decode cX12_readsPatch 2 = .ok (.putfield 297, 3) := by decide +kernel
theorem dX12_readsPatch_5 : decode cX12_readsPatch 5 = .ok (.aload_n 0, 1) := by decide +kernel
theorem dX12_readsPatch_6 : decode cX12_readsPatch 6 = .ok (.iconst 0, 1) := by decide +kernel
theorem dX12_readsPatch_7 : decode cX12_readsPatch 7 = .ok (.putfield 294, 3) := by decide +kernel
theorem dX12_readsPatch_10 : decode cX12_readsPatch 10 = .ok (.aload_n 0, 1) := by decide +kernel
theorem dX12_readsPatch_11 : decode cX12_readsPatch 11 = .ok (.iconst 0, 1) := by decide +kernel
theorem dX12_readsPatch_12 : decode cX12_readsPatch 12 = .ok (.putfield 306, 3) := by decide +kernel
theorem dX12_readsPatch_15 : decode cX12_readsPatch 15 = .ok (.aload_n 0, 1) := by decide +kernel
theorem dX12_readsPatch_16 : decode cX12_readsPatch 16 = .ok (.iconst 0, 1) := by decide +kernel
theorem dX12_readsPatch_17 : decode cX12_readsPatch 17 = .ok (.putfield 309, 3) := by decide +kernel
theorem dX12_readsPatch_20 : decode cX12_readsPatch 20 = .ok (.aload_n 0, 1) := by decide +kernel
theorem dX12_readsPatch_21 : decode cX12_readsPatch 21 = .ok (.iconst 0, 1) := by decide +kernel
theorem dX12_readsPatch_22 : decode cX12_readsPatch 22 = .ok (.putfield 288, 3) := by decide +kernel
theorem dX12_readsPatch_25 : decode cX12_readsPatch 25 = .ok (.aload_n 0, 1) := by decide +kernel
theorem dX12_readsPatch_26 : decode cX12_readsPatch 26 = .ok (.bipush 40, 2) := by decide +kernel
theorem dX12_readsPatch_28 : decode cX12_readsPatch 28 = .ok (.invokevirtual 303, 3) := by decide +kernel
theorem dX12_readsPatch_31 : decode cX12_readsPatch 31 = .ok (.pop, 1) := by decide +kernel
theorem dX12_readsPatch_32 : decode cX12_readsPatch 32 = .ok (.aload_n 0, 1) := by decide +kernel
theorem dX12_readsPatch_33 : decode cX12_readsPatch 33 = .ok (.getfield 288, 3) := by decide +kernel
theorem dX12_readsPatch_36 : decode cX12_readsPatch 36 = .ok (.ifCond .ne 21, 3) := by decide +kernel
theorem dX12_readsPatch_39 : decode cX12_readsPatch 39 = .ok (.aload_n 0, 1) := by decide +kernel
theorem dX12_readsPatch_40 : decode cX12_readsPatch 40 = .ok (.getfield 294, 3) := by decide +kernel
theorem dX12_readsPatch_43 : decode cX12_readsPatch 43 = .ok (.aload_n 0, 1) := by decide +kernel
theorem dX12_readsPatch_44 : decode cX12_readsPatch 44 = .ok (.getfield 297, 3) := by decide +kernel
theorem dX12_readsPatch_47 : decode cX12_readsPatch 47 = .ok (.if_icmp .ge 10, 3) := by decide +kernel
theorem dX12_readsPatch_50 : decode cX12_readsPatch 50 = .ok (.aload_n 0, 1) := by decide +kernel
theorem dX12_readsPatch_51 : decode cX12_readsPatch 51 = .ok (.invokevirtual 321, 3) := by decide +kernel
theorem dX12_readsPatch_54 : decode cX12_readsPatch 54 = .ok (.goto (-22), 3) := by decide +kernel
theorem dX12_readsPatch_57 : decode cX12_readsPatch 57 = .ok (.return_, 1) := by decide +kernel
abbrev k_X12_readsPatch (E : g_E) (l : Launch) (D : g_D) (v1 : Int) (K : g_D → Prop) : Prop := g_Kv E l m_X12_readsPatch 4 [g_R 208, g_I v1] g_SH D K
abbrev n_X12_readsPatch (E : g_E) (l : Launch) (D : g_D) (pc : Nat) (L : List (Option g_V)) (K : g_D → Prop) : Prop := g_N E l m_X12_readsPatch 4 pc L [] g_SH D (g_Rv g_SH K)
theorem s_X12_readsPatch {E : g_E} {l : Launch} {D : g_D} {K : g_D → Prop} {v1 : Int}  (hF : g_okD D → g_r v1 → ∀ D1, D1 = g_up D 208 36 v1 → (∀ D2, D2 = g_up D1 208 37 0 → (∀ D3, D3 = g_up D2 208 34 0 → (∀ D4, D4 = g_up D3 208 35 0 → (∀ D5, D5 = g_up D4 208 38 0 → (k_X12_readByte E l D5 40 (fun x6 D6 => g_r x6 → n_X12_readsPatch E l D6 32 [some (g_R 208), none] K))))))) : k_X12_readsPatch E l D v1 K := by
  refine g_enter (by decide) (Nat.le_of_ble_eq_true rfl) ?_
  show g_N E l m_X12_readsPatch 4 0 [some (g_R 208), some (g_I v1)] [] g_SH D (g_Rv g_SH K)
  refine g_use (fun ok => ?_)
  have hF := hF ok.2.1 (ok.loc (i := 1) rfl)
  refine g_aload_n dX12_readsPatch_0 rfl ?_
  refine g_iload_n dX12_readsPatch_1 rfl ?_
  let D1 : g_D := g_up D 208 36 v1
  have hF := hF D1 rfl
  refine g_put dX12_readsPatch_2 fd_X12_297 (g_ftyI (C := RX12) (T := TX12) (N := 51) rfl rfl (by decide +kernel)) sh_208 rfl ?_
  refine g_aload_n dX12_readsPatch_5 rfl ?_
  refine g_iconst dX12_readsPatch_6 ⟨by decide, by decide⟩ ?_
  let D2 : g_D := g_up D1 208 37 0
  have hF := hF D2 rfl
  refine g_put dX12_readsPatch_7 fd_X12_294 (g_ftyI (C := RX12) (T := TX12) (N := 51) rfl rfl (by decide +kernel)) sh_208 rfl ?_
  refine g_aload_n dX12_readsPatch_10 rfl ?_
  refine g_iconst dX12_readsPatch_11 ⟨by decide, by decide⟩ ?_
  let D3 : g_D := g_up D2 208 34 0
  have hF := hF D3 rfl
  refine g_put dX12_readsPatch_12 fd_X12_306 (g_ftyI (C := RX12) (T := TX12) (N := 51) rfl rfl (by decide +kernel)) sh_208 rfl ?_
  refine g_aload_n dX12_readsPatch_15 rfl ?_
  refine g_iconst dX12_readsPatch_16 ⟨by decide, by decide⟩ ?_
  let D4 : g_D := g_up D3 208 35 0
  have hF := hF D4 rfl
  refine g_put dX12_readsPatch_17 fd_X12_309 (g_ftyI (C := RX12) (T := TX12) (N := 51) rfl rfl (by decide +kernel)) sh_208 rfl ?_
  refine g_aload_n dX12_readsPatch_20 rfl ?_
  refine g_iconst dX12_readsPatch_21 ⟨by decide, by decide⟩ ?_
  let D5 : g_D := g_up D4 208 38 0
  have hF := hF D5 rfl
  refine g_put dX12_readsPatch_22 fd_X12_288 (g_ftyI (C := RX12) (T := TX12) (N := 51) rfl rfl (by decide +kernel)) sh_208 rfl ?_
  refine g_aload_n dX12_readsPatch_25 rfl ?_
  refine g_bipush dX12_readsPatch_26 ⟨by decide, by decide⟩ ?_
  refine gw_cVi (b := 208) (As := [g_I 40]) (rest := []) dX12_readsPatch_28 mv_X12_303 sh_208 rfl (Nat.le_of_ble_eq_true rfl) (by decide) rfl hF ?_
  intro x6 D6 hx6 hF
  have hF := hF hx6
  refine g_pop dX12_readsPatch_31 rfl ?_
  exact g_forget (L' := [some (g_R 208), none]) ⟨rfl, trivial⟩ hF
theorem s_X12_readsPatch_32 {E : g_E} {l : Launch} {D : g_D} {K : g_D → Prop}   (hF : g_okD D → (¬ (D 208 38) = 0 → K D) ∧ ((D 208 38) = 0 → ((D 208 36) ≤ (D 208 37) → K D) ∧ (¬ (D 208 36) ≤ (D 208 37) → k_X12_readAct E l D (fun D1 => n_X12_readsPatch E l D1 32 [some (g_R 208), none] K)))) : n_X12_readsPatch E l D 32 [some (g_R 208), none] K := by
  refine g_use (fun ok => ?_)
  have hF := hF ok.2.1
  refine g_aload_n dX12_readsPatch_32 rfl ?_
  refine g_getI dX12_readsPatch_33 fd_X12_288 sh_208 rfl ?_
  refine g_ifne dX12_readsPatch_36 rfl (fun q => ?_) (fun q => ?_)
  · have hF := hF.1 q
    exact gw_vret dX12_readsPatch_57 rfl hF
  · have hF := hF.2 q
    refine g_aload_n dX12_readsPatch_39 rfl ?_
    refine g_getI dX12_readsPatch_40 fd_X12_294 sh_208 rfl ?_
    refine g_aload_n dX12_readsPatch_43 rfl ?_
    refine g_getI dX12_readsPatch_44 fd_X12_297 sh_208 rfl ?_
    refine g_cge dX12_readsPatch_47 rfl (fun q => ?_) (fun q => ?_)
    · have hF := hF.1 q
      exact gw_vret dX12_readsPatch_57 rfl hF
    · have hF := hF.2 q
      refine g_aload_n dX12_readsPatch_50 rfl ?_
      refine gw_cVv (b := 208) (As := []) (rest := []) dX12_readsPatch_51 mv_X12_321 sh_208 rfl (Nat.le_of_ble_eq_true rfl) (by decide) rfl hF ?_
      intro D1 hF
      refine g_goto dX12_readsPatch_54 rfl ?_
      exact hF
theorem dX12_takesPatch_0 : decode cX12_takesPatch 0 = .ok (.aload_n 0, 1) := by decide +kernel
theorem dX12_takesPatch_1 : decode cX12_takesPatch 1 = .ok (.invokevirtual 285, 3) := by decide +kernel
theorem dX12_takesPatch_4 : decode cX12_takesPatch 4 = .ok (.aload_n 0, 1) := by decide +kernel
theorem dX12_takesPatch_5 : decode cX12_takesPatch 5 = .ok (.getfield 13, 3) := by decide +kernel
theorem dX12_takesPatch_8 : decode cX12_takesPatch 8 = .ok (.sipush 213, 3) := by decide +kernel
theorem dX12_takesPatch_11 : decode cX12_takesPatch 11 = .ok (.aload_n 0, 1) := by decide +kernel
theorem dX12_takesPatch_12 : decode cX12_takesPatch 12 = .ok (.getfield 306, 3) := by decide +kernel
theorem dX12_takesPatch_15 : decode cX12_takesPatch 15 = .ok (.iastore, 1) := by decide +kernel
theorem dX12_takesPatch_16 : decode cX12_takesPatch 16 = .ok (.iconst 0, 1) := by decide +kernel
theorem dX12_takesPatch_17 : decode cX12_takesPatch 17 = .ok (.istore_n 1, 1) := by decide +kernel
theorem dX12_takesPatch_18 : decode cX12_takesPatch 18 = .ok (.iload_n 1, 1) := by decide +kernel
theorem dX12_takesPatch_19 : decode cX12_takesPatch 19 = .ok (.iconst 4, 1) := by decide +kernel
theorem dX12_takesPatch_20 : decode cX12_takesPatch 20 = .ok (.aload_n 0, 1) := by decide +kernel
theorem dX12_takesPatch_21 : decode cX12_takesPatch 21 = .ok (.getfield 306, 3) := by decide +kernel
theorem dX12_takesPatch_24 : decode cX12_takesPatch 24 = .ok (.imul, 1) := by decide +kernel
theorem dX12_takesPatch_25 : decode cX12_takesPatch 25 = .ok (.if_icmp .ge 25, 3) := by decide +kernel
theorem dX12_takesPatch_28 : decode cX12_takesPatch 28 = .ok (.aload_n 0, 1) := by decide +kernel
theorem dX12_takesPatch_29 : decode cX12_takesPatch 29 = .ok (.getfield 13, 3) := by decide +kernel
theorem dX12_takesPatch_32 : decode cX12_takesPatch 32 = .ok (.sipush 214, 3) := by decide +kernel
theorem dX12_takesPatch_35 : decode cX12_takesPatch 35 = .ok (.iload_n 1, 1) := by decide +kernel
theorem dX12_takesPatch_36 : decode cX12_takesPatch 36 = .ok (.iadd, 1) := by decide +kernel
theorem dX12_takesPatch_37 : decode cX12_takesPatch 37 = .ok (.aload_n 0, 1) := by decide +kernel
theorem dX12_takesPatch_38 : decode cX12_takesPatch 38 = .ok (.getfield 84, 3) := by decide +kernel
theorem dX12_takesPatch_41 : decode cX12_takesPatch 41 = .ok (.iload_n 1, 1) := by decide +kernel
theorem dX12_takesPatch_42 : decode cX12_takesPatch 42 = .ok (.iaload, 1) := by decide +kernel
theorem dX12_takesPatch_43 : decode cX12_takesPatch 43 = .ok (.iastore, 1) := by decide +kernel
theorem dX12_takesPatch_44 : decode cX12_takesPatch 44 = .ok (.iinc 1 1, 3) := by decide +kernel
theorem dX12_takesPatch_47 : decode cX12_takesPatch 47 = .ok (.goto (-29), 3) := by decide +kernel
theorem dX12_takesPatch_50 : decode cX12_takesPatch 50 = .ok (.iconst 0, 1) := by decide +kernel
theorem dX12_takesPatch_51 : decode cX12_takesPatch 51 = .ok (.istore_n 1, 1) := by decide +kernel
theorem dX12_takesPatch_52 : decode cX12_takesPatch 52 = .ok (.iload_n 1, 1) := by decide +kernel
theorem dX12_takesPatch_53 : decode cX12_takesPatch 53 = .ok (.aload_n 0, 1) := by decide +kernel
theorem dX12_takesPatch_54 : decode cX12_takesPatch 54 = .ok (.getfield 309, 3) := by decide +kernel
theorem dX12_takesPatch_57 : decode cX12_takesPatch 57 = .ok (.if_icmp .ge 25, 3) := by decide +kernel
theorem dX12_takesPatch_60 : decode cX12_takesPatch 60 = .ok (.aload_n 0, 1) := by decide +kernel
theorem dX12_takesPatch_61 : decode cX12_takesPatch 61 = .ok (.getfield 13, 3) := by decide +kernel
theorem dX12_takesPatch_64 : decode cX12_takesPatch 64 = .ok (.sipush 358, 3) := by decide +kernel
theorem dX12_takesPatch_67 : decode cX12_takesPatch 67 = .ok (.iload_n 1, 1) := by decide +kernel
theorem dX12_takesPatch_68 : decode cX12_takesPatch 68 = .ok (.iadd, 1) := by decide +kernel
theorem dX12_takesPatch_69 : decode cX12_takesPatch 69 = .ok (.aload_n 0, 1) := by decide +kernel
theorem dX12_takesPatch_70 : decode cX12_takesPatch 70 = .ok (.getfield 87, 3) := by decide +kernel
theorem dX12_takesPatch_73 : decode cX12_takesPatch 73 = .ok (.iload_n 1, 1) := by decide +kernel
theorem dX12_takesPatch_74 : decode cX12_takesPatch 74 = .ok (.iaload, 1) := by decide +kernel
theorem dX12_takesPatch_75 : decode cX12_takesPatch 75 = .ok (.iastore, 1) := by decide +kernel
theorem dX12_takesPatch_76 : decode cX12_takesPatch 76 = .ok (.iinc 1 1, 3) := by decide +kernel
theorem dX12_takesPatch_79 : decode cX12_takesPatch 79 = .ok (.goto (-27), 3) := by decide +kernel
theorem dX12_takesPatch_82 : decode cX12_takesPatch 82 = .ok (.aload_n 0, 1) := by decide +kernel
theorem dX12_takesPatch_83 : decode cX12_takesPatch 83 = .ok (.invokevirtual 123, 3) := by decide +kernel
theorem dX12_takesPatch_86 : decode cX12_takesPatch 86 = .ok (.aload_n 0, 1) := by decide +kernel
theorem dX12_takesPatch_87 : decode cX12_takesPatch 87 = .ok (.invokevirtual 324, 3) := by decide +kernel
theorem dX12_takesPatch_90 : decode cX12_takesPatch 90 = .ok (.ireturn, 1) := by decide +kernel
abbrev k_X12_takesPatch (E : g_E) (l : Launch) (D : g_D) (K : Int → g_D → Prop) : Prop := g_Ki E l m_X12_takesPatch 4 [g_R 208] g_SH D K
abbrev n_X12_takesPatch (E : g_E) (l : Launch) (D : g_D) (pc : Nat) (L : List (Option g_V)) (K : Int → g_D → Prop) : Prop := g_N E l m_X12_takesPatch 4 pc L [] g_SH D (g_Ri g_SH K)
theorem s_X12_takesPatch {E : g_E} {l : Launch} {D : g_D} {K : Int → g_D → Prop}   (hF : g_okD D → k_X12_notes E l D (fun D1 => ∀ D2, D2 = g_up D1 209 213 (D1 208 34) → (n_X12_takesPatch E l D2 18 [some (g_R 208), some (g_I 0)] K))) : k_X12_takesPatch E l D K := by
  refine g_enter (by decide) (Nat.le_of_ble_eq_true rfl) ?_
  show g_N E l m_X12_takesPatch 4 0 [some (g_R 208), none] [] g_SH D (g_Ri g_SH K)
  refine g_use (fun ok => ?_)
  have hF := hF ok.2.1
  refine g_aload_n dX12_takesPatch_0 rfl ?_
  refine gw_cVv (b := 208) (As := []) (rest := []) dX12_takesPatch_1 mv_X12_285 sh_208 rfl (Nat.le_of_ble_eq_true rfl) (by decide) rfl hF ?_
  intro D1 hF
  refine g_aload_n dX12_takesPatch_4 rfl ?_
  refine g_getR dX12_takesPatch_5 fd_X12_13 sh_208 rfl ?_
  refine g_sipush dX12_takesPatch_8 ⟨by decide, by decide⟩ ?_
  refine g_aload_n dX12_takesPatch_11 rfl ?_
  refine g_getI dX12_takesPatch_12 fd_X12_306 sh_208 rfl ?_
  let D2 : g_D := g_up D1 209 213 (D1 208 34)
  have hF := hF D2 rfl
  refine g_iast dX12_takesPatch_15 sh_209 (by decide) (by decide) ?_
  refine g_iconst dX12_takesPatch_16 ⟨by decide, by decide⟩ ?_
  refine gw_istore_n (L' := [some (g_R 208), some (g_I 0)]) dX12_takesPatch_17 (by decide) rfl ?_
  exact hF
theorem s_X12_takesPatch_18 {E : g_E} {l : Launch} {D : g_D} {K : Int → g_D → Prop} {v1 : Int}  (hF : g_okD D → g_r v1 → (g_r (4 * (D 208 34))) ∧ (((4 * (D 208 34)) ≤ v1 → n_X12_takesPatch E l D 52 [some (g_R 208), some (g_I 0)] K) ∧ (¬ (4 * (D 208 34)) ≤ v1 → (g_r (214 + v1)) ∧ ((0 ≤ v1 ∧ v1 < 144) ∧ ((0 ≤ (214 + v1) ∧ (214 + v1) < 1557) ∧ (∀ D1, D1 = g_up D 209 (214 + v1).toNat (D 232 v1.toNat) → ((g_r (v1 + 1)) ∧ (n_X12_takesPatch E l D1 18 [some (g_R 208), some (g_I (v1 + 1))] K)))))))) : n_X12_takesPatch E l D 18 [some (g_R 208), some (g_I v1)] K := by
  refine g_use (fun ok => ?_)
  have hF := hF ok.2.1 (ok.loc (i := 1) rfl)
  refine g_iload_n dX12_takesPatch_18 rfl ?_
  refine g_iconst dX12_takesPatch_19 ⟨by decide, by decide⟩ ?_
  refine g_aload_n dX12_takesPatch_20 rfl ?_
  refine g_getI dX12_takesPatch_21 fd_X12_306 sh_208 rfl ?_
  obtain ⟨hc, hF⟩ := hF
  refine g_imul dX12_takesPatch_24 hc ?_
  refine g_cge dX12_takesPatch_25 rfl (fun q => ?_) (fun q => ?_)
  · have hF := hF.1 q
    refine g_iconst dX12_takesPatch_50 ⟨by decide, by decide⟩ ?_
    refine gw_istore_n (L' := [some (g_R 208), some (g_I 0)]) dX12_takesPatch_51 (by decide) rfl ?_
    exact hF
  · have hF := hF.2 q
    refine g_aload_n dX12_takesPatch_28 rfl ?_
    refine g_getR dX12_takesPatch_29 fd_X12_13 sh_208 rfl ?_
    refine g_sipush dX12_takesPatch_32 ⟨by decide, by decide⟩ ?_
    refine g_iload_n dX12_takesPatch_35 rfl ?_
    obtain ⟨hc, hF⟩ := hF
    refine g_iadd dX12_takesPatch_36 hc ?_
    refine g_aload_n dX12_takesPatch_37 rfl ?_
    refine g_getR dX12_takesPatch_38 fd_X12_84 sh_208 rfl ?_
    refine g_iload_n dX12_takesPatch_41 rfl ?_
    obtain ⟨hc, hF⟩ := hF
    refine g_iald dX12_takesPatch_42 sh_232 hc.1 hc.2 ?_
    obtain ⟨hc, hF⟩ := hF
    let D1 : g_D := g_up D 209 (214 + v1).toNat (D 232 v1.toNat)
    have hF := hF D1 rfl
    refine g_iast dX12_takesPatch_43 sh_209 hc.1 hc.2 ?_
    obtain ⟨hc, hF⟩ := hF
    refine gw_iinc (L' := [some (g_R 208), some (g_I (v1 + 1))]) dX12_takesPatch_44 rfl hc (by decide) rfl ?_
    refine g_goto dX12_takesPatch_47 rfl ?_
    exact hF
theorem s_X12_takesPatch_52 {E : g_E} {l : Launch} {D : g_D} {K : Int → g_D → Prop} {v1 : Int}  (hF : g_okD D → g_r v1 → ((D 208 35) ≤ v1 → k_X12_begins E l D (fun D1 => k_X12_laysSteps E l D1 (fun x2 D2 => g_r x2 → K x2 D2))) ∧ (¬ (D 208 35) ≤ v1 → (g_r (358 + v1)) ∧ ((0 ≤ v1 ∧ v1 < 160) ∧ ((0 ≤ (358 + v1) ∧ (358 + v1) < 1557) ∧ (∀ D3, D3 = g_up D 209 (358 + v1).toNat (D 233 v1.toNat) → ((g_r (v1 + 1)) ∧ (n_X12_takesPatch E l D3 52 [some (g_R 208), some (g_I (v1 + 1))] K))))))) : n_X12_takesPatch E l D 52 [some (g_R 208), some (g_I v1)] K := by
  refine g_use (fun ok => ?_)
  have hF := hF ok.2.1 (ok.loc (i := 1) rfl)
  refine g_iload_n dX12_takesPatch_52 rfl ?_
  refine g_aload_n dX12_takesPatch_53 rfl ?_
  refine g_getI dX12_takesPatch_54 fd_X12_309 sh_208 rfl ?_
  refine g_cge dX12_takesPatch_57 rfl (fun q => ?_) (fun q => ?_)
  · have hF := hF.1 q
    refine g_aload_n dX12_takesPatch_82 rfl ?_
    refine gw_cVv (b := 208) (As := []) (rest := []) dX12_takesPatch_83 mv_X12_123 sh_208 rfl (Nat.le_of_ble_eq_true rfl) (by decide) rfl hF ?_
    intro D1 hF
    refine g_aload_n dX12_takesPatch_86 rfl ?_
    refine gw_cVi (b := 208) (As := []) (rest := []) dX12_takesPatch_87 mv_X12_324 sh_208 rfl (Nat.le_of_ble_eq_true rfl) (by decide) rfl hF ?_
    intro x2 D2 hx2 hF
    have hF := hF hx2
    exact gw_iret dX12_takesPatch_90 rfl hF
  · have hF := hF.2 q
    refine g_aload_n dX12_takesPatch_60 rfl ?_
    refine g_getR dX12_takesPatch_61 fd_X12_13 sh_208 rfl ?_
    refine g_sipush dX12_takesPatch_64 ⟨by decide, by decide⟩ ?_
    refine g_iload_n dX12_takesPatch_67 rfl ?_
    obtain ⟨hc, hF⟩ := hF
    refine g_iadd dX12_takesPatch_68 hc ?_
    refine g_aload_n dX12_takesPatch_69 rfl ?_
    refine g_getR dX12_takesPatch_70 fd_X12_87 sh_208 rfl ?_
    refine g_iload_n dX12_takesPatch_73 rfl ?_
    obtain ⟨hc, hF⟩ := hF
    refine g_iald dX12_takesPatch_74 sh_233 hc.1 hc.2 ?_
    obtain ⟨hc, hF⟩ := hF
    let D3 : g_D := g_up D 209 (358 + v1).toNat (D 233 v1.toNat)
    have hF := hF D3 rfl
    refine g_iast dX12_takesPatch_75 sh_209 hc.1 hc.2 ?_
    obtain ⟨hc, hF⟩ := hF
    refine gw_iinc (L' := [some (g_R 208), some (g_I (v1 + 1))]) dX12_takesPatch_76 rfl hc (by decide) rfl ?_
    refine g_goto dX12_takesPatch_79 rfl ?_
    exact hF
theorem dX12_load_0 : decode cX12_load 0 = .ok (.aload_n 0, 1) := by decide +kernel
theorem dX12_load_1 : decode cX12_load 1 = .ok (.iconst 0, 1) := by decide +kernel
theorem dX12_load_2 : decode cX12_load 2 = .ok (.putfield 1, 3) := by decide +kernel
theorem dX12_load_5 : decode cX12_load 5 = .ok (.iload_n 1, 1) := by decide +kernel
theorem dX12_load_6 : decode cX12_load 6 = .ok (.i2l, 1) := by decide +kernel
theorem dX12_load_7 : decode cX12_load 7 = .ok (.lconst 0, 1) := by decide +kernel
theorem dX12_load_8 : decode cX12_load 8 = .ok (.aload_n 0, 1) := by decide +kernel
theorem dX12_load_9 : decode cX12_load 9 = .ok (.getfield 126, 3) := by decide +kernel
theorem dX12_load_12 : decode cX12_load 12 = .ok (.i2l, 1) := by decide +kernel
theorem dX12_load_13 : decode cX12_load 13 = .ok (.invokestatic 131, 3) := by decide +kernel
theorem dX12_load_16 : decode cX12_load 16 = .ok (.ifCond .ne 6, 3) := by decide +kernel
theorem dX12_load_19 : decode cX12_load 19 = .ok (.bipush (-3), 2) := by decide +kernel
theorem dX12_load_21 : decode cX12_load 21 = .ok (.ireturn, 1) := by decide +kernel
theorem dX12_load_22 : decode cX12_load 22 = .ok (.aload_n 0, 1) := by decide +kernel
theorem dX12_load_23 : decode cX12_load 23 = .ok (.getfield 13, 3) := by decide +kernel
theorem dX12_load_26 : decode cX12_load 26 = .ok (.sipush 146, 3) := by decide +kernel
theorem dX12_load_29 : decode cX12_load 29 = .ok (.iaload, 1) := by decide +kernel
theorem dX12_load_30 : decode cX12_load 30 = .ok (.ifCond .ne 6, 3) := by decide +kernel
theorem dX12_load_33 : decode cX12_load 33 = .ok (.bipush (-5), 2) := by decide +kernel
theorem dX12_load_35 : decode cX12_load 35 = .ok (.ireturn, 1) := by decide +kernel
theorem dX12_load_36 : decode cX12_load 36 = .ok (.iconst 0, 1) := by decide +kernel
theorem dX12_load_37 : decode cX12_load 37 = .ok (.istore_n 2, 1) := by decide +kernel
theorem dX12_load_38 : decode cX12_load 38 = .ok (.iload_n 2, 1) := by decide +kernel
theorem dX12_load_39 : decode cX12_load 39 = .ok (.iload_n 1, 1) := by decide +kernel
theorem dX12_load_40 : decode cX12_load 40 = .ok (.if_icmp .ge 21, 3) := by decide +kernel
theorem dX12_load_43 : decode cX12_load 43 = .ok (.aload_n 0, 1) := by decide +kernel
theorem dX12_load_44 : decode cX12_load 44 = .ok (.getfield 90, 3) := by decide +kernel
theorem dX12_load_47 : decode cX12_load 47 = .ok (.iload_n 2, 1) := by decide +kernel
theorem dX12_load_48 : decode cX12_load 48 = .ok (.aload_n 0, 1) := by decide +kernel
theorem dX12_load_49 : decode cX12_load 49 = .ok (.getfield 24, 3) := by decide +kernel
theorem dX12_load_52 : decode cX12_load 52 = .ok (.iload_n 2, 1) := by decide +kernel
theorem dX12_load_53 : decode cX12_load 53 = .ok (.iaload, 1) := by decide +kernel
theorem dX12_load_54 : decode cX12_load 54 = .ok (.iastore, 1) := by decide +kernel
theorem dX12_load_55 : decode cX12_load 55 = .ok (.iinc 2 1, 3) := by decide +kernel
theorem dX12_load_58 : decode cX12_load 58 = .ok (.goto (-20), 3) := by decide +kernel
theorem dX12_load_61 : decode cX12_load 61 = .ok (.aload_n 0, 1) := by decide +kernel
theorem dX12_load_62 : decode cX12_load 62 = .ok (.iconst 0, 1) := by decide +kernel
theorem dX12_load_63 : decode cX12_load 63 = .ok (.putfield 126, 3) := by decide +kernel
theorem dX12_load_66 : decode cX12_load 66 = .ok (.aload_n 0, 1) := by decide +kernel
theorem dX12_load_67 : decode cX12_load 67 = .ok (.iload_n 1, 1) := by decide +kernel
theorem dX12_load_68 : decode cX12_load 68 = .ok (.invokevirtual 327, 3) := by decide +kernel
theorem dX12_load_71 : decode cX12_load 71 = .ok (.aload_n 0, 1) := by decide +kernel
theorem dX12_load_72 : decode cX12_load 72 = .ok (.aload_n 0, 1) := by decide +kernel
theorem dX12_load_73 : decode cX12_load 73 = .ok (.getfield 288, 3) := by decide +kernel
theorem dX12_load_76 : decode cX12_load 76 = .ok (.putfield 333, 3) := by decide +kernel
theorem dX12_load_79 : decode cX12_load 79 = .ok (.aload_n 0, 1) := by decide +kernel
theorem dX12_load_80 : decode cX12_load 80 = .ok (.aload_n 0, 1) := by decide +kernel
theorem dX12_load_81 : decode cX12_load 81 = .ok (.getfield 288, 3) := by decide +kernel
theorem dX12_load_84 : decode cX12_load 84 = .ok (.ifCond .ne 7, 3) := by decide +kernel
theorem dX12_load_87 : decode cX12_load 87 = .ok (.iconst (-1), 1) := by decide +kernel
theorem dX12_load_88 : decode cX12_load 88 = .ok (.goto 7, 3) := by decide +kernel
theorem dX12_load_91 : decode cX12_load 91 = .ok (.aload_n 0, 1) := by decide +kernel
theorem dX12_load_92 : decode cX12_load 92 = .ok (.getfield 291, 3) := by decide +kernel
theorem dX12_load_95 : decode cX12_load 95 = .ok (.putfield 93, 3) := by decide +kernel
theorem dX12_load_98 : decode cX12_load 98 = .ok (.aload_n 0, 1) := by decide +kernel
theorem dX12_load_99 : decode cX12_load 99 = .ok (.getfield 288, 3) := by decide +kernel
theorem dX12_load_102 : decode cX12_load 102 = .ok (.ifCond .eq 13, 3) := by decide +kernel
theorem dX12_load_105 : decode cX12_load 105 = .ok (.bipush (-30), 2) := by decide +kernel
theorem dX12_load_107 : decode cX12_load 107 = .ok (.aload_n 0, 1) := by decide +kernel
theorem dX12_load_108 : decode cX12_load 108 = .ok (.getfield 288, 3) := by decide +kernel
theorem dX12_load_111 : decode cX12_load 111 = .ok (.isub, 1) := by decide +kernel
theorem dX12_load_112 : decode cX12_load 112 = .ok (.goto 7, 3) := by decide +kernel
theorem dX12_load_115 : decode cX12_load 115 = .ok (.aload_n 0, 1) := by decide +kernel
theorem dX12_load_116 : decode cX12_load 116 = .ok (.invokevirtual 330, 3) := by decide +kernel
theorem dX12_load_119 : decode cX12_load 119 = .ok (.ireturn, 1) := by decide +kernel
abbrev k_X12_load (E : g_E) (l : Launch) (D : g_D) (v1 : Int) (K : Int → g_D → Prop) : Prop := g_Ki E l m_X12_load 5 [g_R 208, g_I v1] g_SH D K
abbrev n_X12_load (E : g_E) (l : Launch) (D : g_D) (pc : Nat) (L : List (Option g_V)) (K : Int → g_D → Prop) : Prop := g_N E l m_X12_load 5 pc L [] g_SH D (g_Ri g_SH K)
theorem s_X12_load {E : g_E} {l : Launch} {D : g_D} {K : Int → g_D → Prop} {v1 : Int}  (hF : g_okD D → g_r v1 → ∀ D1, D1 = g_up D 208 0 0 → (k_X12_within E l g_SH D1 v1 0 (D 208 5) (fun x2 D2 => g_r x2 → (¬ x2 = 0 → (¬ (D2 209 146) = 0 → n_X12_load E l D2 38 [some (g_R 208), some (g_I v1), some (g_I 0)] K) ∧ ((D2 209 146) = 0 → K (-5) D2)) ∧ (x2 = 0 → K (-3) D2)))) : k_X12_load E l D v1 K := by
  refine g_enter (by decide) (Nat.le_of_ble_eq_true rfl) ?_
  show g_N E l m_X12_load 5 0 [some (g_R 208), some (g_I v1), none] [] g_SH D (g_Ri g_SH K)
  refine g_use (fun ok => ?_)
  have hF := hF ok.2.1 (ok.loc (i := 1) rfl)
  refine g_aload_n dX12_load_0 rfl ?_
  refine g_iconst dX12_load_1 ⟨by decide, by decide⟩ ?_
  let D1 : g_D := g_up D 208 0 0
  have hF := hF D1 rfl
  refine g_put dX12_load_2 fd_X12_1 (g_ftyI (C := RX12) (T := TX12) (N := 51) rfl rfl (by decide +kernel)) sh_208 rfl ?_
  refine g_iload_n dX12_load_5 rfl ?_
  refine g_i2l dX12_load_6 ?_
  refine g_lconst dX12_load_7 ?_
  refine g_aload_n dX12_load_8 rfl ?_
  refine g_getI dX12_load_9 fd_X12_126 sh_208 rfl ?_
  refine g_i2l dX12_load_12 ?_
  refine gw_cSi (As := [g_J v1, g_J 0, g_J (D 208 5)]) (rest := []) dX12_load_13 ms_X12_131 rfl (Nat.le_of_ble_eq_true rfl) (by decide) rfl hF ?_
  intro x2 D2 hx2 hF
  have hF := hF hx2
  refine g_ifne dX12_load_16 rfl (fun q => ?_) (fun q => ?_)
  · have hF := hF.1 q
    refine g_aload_n dX12_load_22 rfl ?_
    refine g_getR dX12_load_23 fd_X12_13 sh_208 rfl ?_
    refine g_sipush dX12_load_26 ⟨by decide, by decide⟩ ?_
    refine g_iald dX12_load_29 sh_209 (by decide) (by decide) ?_
    refine g_ifne dX12_load_30 rfl (fun q => ?_) (fun q => ?_)
    · have hF := hF.1 q
      refine g_iconst dX12_load_36 ⟨by decide, by decide⟩ ?_
      refine gw_istore_n (L' := [some (g_R 208), some (g_I v1), some (g_I 0)]) dX12_load_37 (by decide) rfl ?_
      exact hF
    · have hF := hF.2 q
      refine g_bipush dX12_load_33 ⟨by decide, by decide⟩ ?_
      exact gw_iret dX12_load_35 rfl hF
  · have hF := hF.2 q
    refine g_bipush dX12_load_19 ⟨by decide, by decide⟩ ?_
    exact gw_iret dX12_load_21 rfl hF
theorem s_X12_load_38 {E : g_E} {l : Launch} {D : g_D} {K : Int → g_D → Prop} {v1 : Int} {v2 : Int}  (hF : g_okD D → g_r v1 → g_r v2 → (v1 ≤ v2 → ∀ D1, D1 = g_up D 208 5 0 → (k_X12_readsPatch E l D1 v1 (fun D2 => ∀ D3, D3 = g_up D2 208 40 (D2 208 38) → ((¬ (D2 208 38) = 0 → ∀ D4, D4 = g_up D3 208 41 (D2 208 39) → (((D2 208 38) = 0 → k_X12_takesPatch E l D4 (fun x5 D5 => g_r x5 → K x5 D5)) ∧ (¬ (D2 208 38) = 0 → (g_r ((-30) - (D2 208 38))) ∧ (K ((-30) - (D2 208 38)) D4)))) ∧ ((D2 208 38) = 0 → ∀ D6, D6 = g_up D3 208 41 (-1) → (((D2 208 38) = 0 → k_X12_takesPatch E l D6 (fun x7 D7 => g_r x7 → K x7 D7)) ∧ (¬ (D2 208 38) = 0 → (g_r ((-30) - (D2 208 38))) ∧ (K ((-30) - (D2 208 38)) D6)))))))) ∧ (¬ v1 ≤ v2 → (0 ≤ v2 ∧ v2 < 160) ∧ ((0 ≤ v2 ∧ v2 < 400) ∧ (∀ D8, D8 = g_up D 234 v2.toNat (D 212 v2.toNat) → ((g_r (v2 + 1)) ∧ (n_X12_load E l D8 38 [some (g_R 208), some (g_I v1), some (g_I (v2 + 1))] K)))))) : n_X12_load E l D 38 [some (g_R 208), some (g_I v1), some (g_I v2)] K := by
  refine g_use (fun ok => ?_)
  have hF := hF ok.2.1 (ok.loc (i := 1) rfl) (ok.loc (i := 2) rfl)
  refine g_iload_n dX12_load_38 rfl ?_
  refine g_iload_n dX12_load_39 rfl ?_
  refine g_cge dX12_load_40 rfl (fun q => ?_) (fun q => ?_)
  · have hF := hF.1 q
    refine g_aload_n dX12_load_61 rfl ?_
    refine g_iconst dX12_load_62 ⟨by decide, by decide⟩ ?_
    let D1 : g_D := g_up D 208 5 0
    have hF := hF D1 rfl
    refine g_put dX12_load_63 fd_X12_126 (g_ftyI (C := RX12) (T := TX12) (N := 51) rfl rfl (by decide +kernel)) sh_208 rfl ?_
    refine g_aload_n dX12_load_66 rfl ?_
    refine g_iload_n dX12_load_67 rfl ?_
    refine gw_cVv (b := 208) (As := [g_I v1]) (rest := []) dX12_load_68 mv_X12_327 sh_208 rfl (Nat.le_of_ble_eq_true rfl) (by decide) rfl hF ?_
    intro D2 hF
    refine g_aload_n dX12_load_71 rfl ?_
    refine g_aload_n dX12_load_72 rfl ?_
    refine g_getI dX12_load_73 fd_X12_288 sh_208 rfl ?_
    let D3 : g_D := g_up D2 208 40 (D2 208 38)
    have hF := hF D3 rfl
    refine g_put dX12_load_76 fd_X12_333 (g_ftyI (C := RX12) (T := TX12) (N := 51) rfl rfl (by decide +kernel)) sh_208 rfl ?_
    refine g_aload_n dX12_load_79 rfl ?_
    refine g_aload_n dX12_load_80 rfl ?_
    refine g_getI dX12_load_81 fd_X12_288 sh_208 rfl ?_
    refine g_ifne dX12_load_84 rfl (fun q => ?_) (fun q => ?_)
    · have hF := hF.1 q
      refine g_aload_n dX12_load_91 rfl ?_
      refine g_getI dX12_load_92 fd_X12_291 sh_208 rfl ?_
      let D4 : g_D := g_up D3 208 41 (D2 208 39)
      have hF := hF D4 rfl
      refine g_put dX12_load_95 fd_X12_93 (g_ftyI (C := RX12) (T := TX12) (N := 51) rfl rfl (by decide +kernel)) sh_208 rfl ?_
      refine g_aload_n dX12_load_98 rfl ?_
      refine g_getI dX12_load_99 fd_X12_288 sh_208 rfl ?_
      refine g_ifeq dX12_load_102 rfl (fun q => ?_) (fun q => ?_)
      · have hF := hF.1 q
        refine g_aload_n dX12_load_115 rfl ?_
        refine gw_cVi (b := 208) (As := []) (rest := []) dX12_load_116 mv_X12_330 sh_208 rfl (Nat.le_of_ble_eq_true rfl) (by decide) rfl hF ?_
        intro x5 D5 hx5 hF
        have hF := hF hx5
        exact gw_iret dX12_load_119 rfl hF
      · have hF := hF.2 q
        refine g_bipush dX12_load_105 ⟨by decide, by decide⟩ ?_
        refine g_aload_n dX12_load_107 rfl ?_
        refine g_getI dX12_load_108 fd_X12_288 sh_208 rfl ?_
        obtain ⟨hc, hF⟩ := hF
        refine g_isub dX12_load_111 hc ?_
        refine g_goto dX12_load_112 rfl ?_
        exact gw_iret dX12_load_119 rfl hF
    · have hF := hF.2 q
      refine g_iconst dX12_load_87 ⟨by decide, by decide⟩ ?_
      refine g_goto dX12_load_88 rfl ?_
      let D6 : g_D := g_up D3 208 41 (-1)
      have hF := hF D6 rfl
      refine g_put dX12_load_95 fd_X12_93 (g_ftyI (C := RX12) (T := TX12) (N := 51) rfl rfl (by decide +kernel)) sh_208 rfl ?_
      refine g_aload_n dX12_load_98 rfl ?_
      refine g_getI dX12_load_99 fd_X12_288 sh_208 rfl ?_
      refine g_ifeq dX12_load_102 rfl (fun q => ?_) (fun q => ?_)
      · have hF := hF.1 q
        refine g_aload_n dX12_load_115 rfl ?_
        refine gw_cVi (b := 208) (As := []) (rest := []) dX12_load_116 mv_X12_330 sh_208 rfl (Nat.le_of_ble_eq_true rfl) (by decide) rfl hF ?_
        intro x7 D7 hx7 hF
        have hF := hF hx7
        exact gw_iret dX12_load_119 rfl hF
      · have hF := hF.2 q
        refine g_bipush dX12_load_105 ⟨by decide, by decide⟩ ?_
        refine g_aload_n dX12_load_107 rfl ?_
        refine g_getI dX12_load_108 fd_X12_288 sh_208 rfl ?_
        obtain ⟨hc, hF⟩ := hF
        refine g_isub dX12_load_111 hc ?_
        refine g_goto dX12_load_112 rfl ?_
        exact gw_iret dX12_load_119 rfl hF
  · have hF := hF.2 q
    refine g_aload_n dX12_load_43 rfl ?_
    refine g_getR dX12_load_44 fd_X12_90 sh_208 rfl ?_
    refine g_iload_n dX12_load_47 rfl ?_
    refine g_aload_n dX12_load_48 rfl ?_
    refine g_getR dX12_load_49 fd_X12_24 sh_208 rfl ?_
    refine g_iload_n dX12_load_52 rfl ?_
    obtain ⟨hc, hF⟩ := hF
    refine g_iald dX12_load_53 sh_212 hc.1 hc.2 ?_
    obtain ⟨hc, hF⟩ := hF
    let D8 : g_D := g_up D 234 v2.toNat (D 212 v2.toNat)
    have hF := hF D8 rfl
    refine g_iast dX12_load_54 sh_234 hc.1 hc.2 ?_
    obtain ⟨hc, hF⟩ := hF
    refine gw_iinc (L' := [some (g_R 208), some (g_I v1), some (g_I (v2 + 1))]) dX12_load_55 rfl hc (by decide) rfl ?_
    refine g_goto dX12_load_58 rfl ?_
    exact hF
