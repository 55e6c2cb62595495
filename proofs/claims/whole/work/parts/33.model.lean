theorem dX12_needs_0 : decode cX12_needs 0 = .ok (.aload_n 0, 1) := by decide +kernel
theorem dX12_needs_1 : decode cX12_needs 1 = .ok (.iconst 0, 1) := by decide +kernel
theorem dX12_needs_2 : decode cX12_needs 2 = .ok (.putfield 1, 3) := by decide +kernel
theorem dX12_needs_5 : decode cX12_needs 5 = .ok (.aload_n 0, 1) := by decide +kernel
theorem dX12_needs_6 : decode cX12_needs 6 = .ok (.getfield 13, 3) := by decide +kernel
theorem dX12_needs_9 : decode cX12_needs 9 = .ok (.iconst 5, 1) := by decide +kernel
theorem dX12_needs_10 : decode cX12_needs 10 = .ok (.iaload, 1) := by decide +kernel
theorem dX12_needs_11 : decode cX12_needs 11 = .ok (.istore_n 1, 1) := by decide +kernel
theorem dX12_needs_12 : decode cX12_needs 12 = .ok (.iconst (-1), 1) := by decide +kernel
theorem dX12_needs_13 : decode cX12_needs 13 = .ok (.istore_n 2, 1) := by decide +kernel
theorem dX12_needs_14 : decode cX12_needs 14 = .ok (.aload_n 0, 1) := by decide +kernel
theorem dX12_needs_15 : decode cX12_needs 15 = .ok (.invokevirtual 193, 3) := by decide +kernel
theorem dX12_needs_18 : decode cX12_needs 18 = .ok (.bipush 20, 2) := by decide +kernel
theorem dX12_needs_20 : decode cX12_needs 20 = .ok (.istore_n 3, 1) := by decide +kernel
theorem dX12_needs_21 : decode cX12_needs 21 = .ok (.iload_n 3, 1) := by decide +kernel
theorem dX12_needs_22 : decode cX12_needs 22 = .ok (.ifCond .lt 33, 3) := by decide +kernel
theorem dX12_needs_25 : decode cX12_needs 25 = .ok (.aload_n 0, 1) := by decide +kernel
theorem dX12_needs_26 : decode cX12_needs 26 = .ok (.getfield 13, 3) := by decide +kernel
theorem dX12_needs_29 : decode cX12_needs 29 = .ok (.iconst 5, 1) := by decide +kernel
theorem dX12_needs_30 : decode cX12_needs 30 = .ok (.iload_n 3, 1) := by decide +kernel
theorem dX12_needs_31 : decode cX12_needs 31 = .ok (.iastore, 1) := by decide +kernel
theorem dX12_needs_32 : decode cX12_needs 32 = .ok (.aload_n 0, 1) := by decide +kernel
theorem dX12_needs_33 : decode cX12_needs 33 = .ok (.invokevirtual 202, 3) := by decide +kernel
theorem dX12_needs_36 : decode cX12_needs 36 = .ok (.aload_n 0, 1) := by decide +kernel
theorem dX12_needs_37 : decode cX12_needs 37 = .ok (.getfield 248, 3) := by decide +kernel
theorem dX12_needs_40 : decode cX12_needs 40 = .ok (.ifCond .ne 7, 3) := by decide +kernel
theorem dX12_needs_43 : decode cX12_needs 43 = .ok (.iload_n 3, 1) := by decide +kernel
theorem dX12_needs_44 : decode cX12_needs 44 = .ok (.goto 4, 3) := by decide +kernel
theorem dX12_needs_47 : decode cX12_needs 47 = .ok (.iload_n 2, 1) := by decide +kernel
theorem dX12_needs_48 : decode cX12_needs 48 = .ok (.istore_n 2, 1) := by decide +kernel
theorem dX12_needs_49 : decode cX12_needs 49 = .ok (.iinc 3 (-1), 3) := by decide +kernel
theorem dX12_needs_52 : decode cX12_needs 52 = .ok (.goto (-31), 3) := by decide +kernel
theorem dX12_needs_55 : decode cX12_needs 55 = .ok (.aload_n 0, 1) := by decide +kernel
theorem dX12_needs_56 : decode cX12_needs 56 = .ok (.getfield 13, 3) := by decide +kernel
theorem dX12_needs_59 : decode cX12_needs 59 = .ok (.iconst 5, 1) := by decide +kernel
theorem dX12_needs_60 : decode cX12_needs 60 = .ok (.iload_n 1, 1) := by decide +kernel
theorem dX12_needs_61 : decode cX12_needs 61 = .ok (.iastore, 1) := by decide +kernel
theorem dX12_needs_62 : decode cX12_needs 62 = .ok (.iload_n 2, 1) := by decide +kernel
theorem dX12_needs_63 : decode cX12_needs 63 = .ok (.ireturn, 1) := by decide +kernel
abbrev k_X12_needs (E : g_E) (l : Launch) (D : g_D) (K : Int → g_D → Prop) : Prop := g_Ki E l m_X12_needs 4 [g_R 208] g_SH D K
abbrev n_X12_needs (E : g_E) (l : Launch) (D : g_D) (pc : Nat) (L : List (Option g_V)) (K : Int → g_D → Prop) : Prop := g_N E l m_X12_needs 4 pc L [] g_SH D (g_Ri g_SH K)
theorem s_X12_needs {E : g_E} {l : Launch} {D : g_D} {K : Int → g_D → Prop}   (hF : g_okD D → ∀ D1, D1 = g_up D 208 0 0 → (k_X12_laysCommands E l D1 (fun D2 => n_X12_needs E l D2 21 [some (g_R 208), some (g_I (D 209 5)), some (g_I (-1)), some (g_I 20)] K))) : k_X12_needs E l D K := by
  refine g_enter (by decide) (Nat.le_of_ble_eq_true rfl) ?_
  show g_N E l m_X12_needs 4 0 [some (g_R 208), none, none, none] [] g_SH D (g_Ri g_SH K)
  refine g_use (fun ok => ?_)
  have hF := hF ok.2.1
  refine g_aload_n dX12_needs_0 rfl ?_
  refine g_iconst dX12_needs_1 ⟨by decide, by decide⟩ ?_
  let D1 : g_D := g_up D 208 0 0
  have hF := hF D1 rfl
  refine g_put dX12_needs_2 fd_X12_1 (g_ftyI (C := RX12) (T := TX12) (N := 51) rfl rfl (by decide +kernel)) sh_208 rfl ?_
  refine g_aload_n dX12_needs_5 rfl ?_
  refine g_getR dX12_needs_6 fd_X12_13 sh_208 rfl ?_
  refine g_iconst dX12_needs_9 ⟨by decide, by decide⟩ ?_
  refine g_iald dX12_needs_10 sh_209 (by decide) (by decide) ?_
  refine gw_istore_n (L' := [some (g_R 208), some (g_I (D 209 5)), none, none]) dX12_needs_11 (by decide) rfl ?_
  refine g_iconst dX12_needs_12 ⟨by decide, by decide⟩ ?_
  refine gw_istore_n (L' := [some (g_R 208), some (g_I (D 209 5)), some (g_I (-1)), none]) dX12_needs_13 (by decide) rfl ?_
  refine g_aload_n dX12_needs_14 rfl ?_
  refine gw_cVv (b := 208) (As := []) (rest := []) dX12_needs_15 mv_X12_193 sh_208 rfl (Nat.le_of_ble_eq_true rfl) (by decide) rfl hF ?_
  intro D2 hF
  refine g_bipush dX12_needs_18 ⟨by decide, by decide⟩ ?_
  refine gw_istore_n (L' := [some (g_R 208), some (g_I (D 209 5)), some (g_I (-1)), some (g_I 20)]) dX12_needs_20 (by decide) rfl ?_
  exact hF
theorem s_X12_needs_21 {E : g_E} {l : Launch} {D : g_D} {K : Int → g_D → Prop} {v1 : Int} {v2 : Int} {v3 : Int}  (hF : g_okD D → g_r v1 → g_r v2 → g_r v3 → (v3 < 0 → ∀ D1, D1 = g_up D 209 5 v1 → (K v2 D1)) ∧ (¬ v3 < 0 → ∀ D2, D2 = g_up D 209 5 v3 → (k_X12_laysPlan E l D2 (fun D3 => (¬ (D3 208 29) = 0 → (g_r (v3 + (-1))) ∧ (n_X12_needs E l D3 21 [some (g_R 208), some (g_I v1), some (g_I v2), some (g_I (v3 + (-1)))] K)) ∧ ((D3 208 29) = 0 → (g_r (v3 + (-1))) ∧ (n_X12_needs E l D3 21 [some (g_R 208), some (g_I v1), some (g_I v3), some (g_I (v3 + (-1)))] K)))))) : n_X12_needs E l D 21 [some (g_R 208), some (g_I v1), some (g_I v2), some (g_I v3)] K := by
  refine g_use (fun ok => ?_)
  have hF := hF ok.2.1 (ok.loc (i := 1) rfl) (ok.loc (i := 2) rfl) (ok.loc (i := 3) rfl)
  refine g_iload_n dX12_needs_21 rfl ?_
  refine g_iflt dX12_needs_22 rfl (fun q => ?_) (fun q => ?_)
  · have hF := hF.1 q
    refine g_aload_n dX12_needs_55 rfl ?_
    refine g_getR dX12_needs_56 fd_X12_13 sh_208 rfl ?_
    refine g_iconst dX12_needs_59 ⟨by decide, by decide⟩ ?_
    refine g_iload_n dX12_needs_60 rfl ?_
    let D1 : g_D := g_up D 209 5 v1
    have hF := hF D1 rfl
    refine g_iast dX12_needs_61 sh_209 (by decide) (by decide) ?_
    refine g_iload_n dX12_needs_62 rfl ?_
    exact gw_iret dX12_needs_63 rfl hF
  · have hF := hF.2 q
    refine g_aload_n dX12_needs_25 rfl ?_
    refine g_getR dX12_needs_26 fd_X12_13 sh_208 rfl ?_
    refine g_iconst dX12_needs_29 ⟨by decide, by decide⟩ ?_
    refine g_iload_n dX12_needs_30 rfl ?_
    let D2 : g_D := g_up D 209 5 v3
    have hF := hF D2 rfl
    refine g_iast dX12_needs_31 sh_209 (by decide) (by decide) ?_
    refine g_aload_n dX12_needs_32 rfl ?_
    refine gw_cVv (b := 208) (As := []) (rest := []) dX12_needs_33 mv_X12_202 sh_208 rfl (Nat.le_of_ble_eq_true rfl) (by decide) rfl hF ?_
    intro D3 hF
    refine g_aload_n dX12_needs_36 rfl ?_
    refine g_getI dX12_needs_37 fd_X12_248 sh_208 rfl ?_
    refine g_ifne dX12_needs_40 rfl (fun q => ?_) (fun q => ?_)
    · have hF := hF.1 q
      refine g_iload_n dX12_needs_47 rfl ?_
      refine gw_istore_n (L' := [some (g_R 208), some (g_I v1), some (g_I v2), some (g_I v3)]) dX12_needs_48 (by decide) rfl ?_
      obtain ⟨hc, hF⟩ := hF
      refine gw_iinc (L' := [some (g_R 208), some (g_I v1), some (g_I v2), some (g_I (v3 + (-1)))]) dX12_needs_49 rfl hc (by decide) rfl ?_
      refine g_goto dX12_needs_52 rfl ?_
      exact hF
    · have hF := hF.2 q
      refine g_iload_n dX12_needs_43 rfl ?_
      refine g_goto dX12_needs_44 rfl ?_
      refine gw_istore_n (L' := [some (g_R 208), some (g_I v1), some (g_I v3), some (g_I v3)]) dX12_needs_48 (by decide) rfl ?_
      obtain ⟨hc, hF⟩ := hF
      refine gw_iinc (L' := [some (g_R 208), some (g_I v1), some (g_I v3), some (g_I (v3 + (-1)))]) dX12_needs_49 rfl hc (by decide) rfl ?_
      refine g_goto dX12_needs_52 rfl ?_
      exact hF
theorem dX12_odds_0 : decode cX12_odds 0 = .ok (.aload_n 0, 1) := by decide +kernel
theorem dX12_odds_1 : decode cX12_odds 1 = .ok (.iconst 0, 1) := by decide +kernel
theorem dX12_odds_2 : decode cX12_odds 2 = .ok (.putfield 1, 3) := by decide +kernel
theorem dX12_odds_5 : decode cX12_odds 5 = .ok (.iload_n 1, 1) := by decide +kernel
theorem dX12_odds_6 : decode cX12_odds 6 = .ok (.i2l, 1) := by decide +kernel
theorem dX12_odds_7 : decode cX12_odds 7 = .ok (.lconst 1, 1) := by decide +kernel
theorem dX12_odds_8 : decode cX12_odds 8 = .ok (.ldc2_w 143, 3) := by decide +kernel
theorem dX12_odds_11 : decode cX12_odds 11 = .ok (.invokestatic 131, 3) := by decide +kernel
theorem dX12_odds_14 : decode cX12_odds 14 = .ok (.ifCond .eq 13, 3) := by decide +kernel
theorem dX12_odds_17 : decode cX12_odds 17 = .ok (.iload_n 2, 1) := by decide +kernel
theorem dX12_odds_18 : decode cX12_odds 18 = .ok (.i2l, 1) := by decide +kernel
theorem dX12_odds_19 : decode cX12_odds 19 = .ok (.lconst 0, 1) := by decide +kernel
theorem dX12_odds_20 : decode cX12_odds 20 = .ok (.lconst 1, 1) := by decide +kernel
theorem dX12_odds_21 : decode cX12_odds 21 = .ok (.invokestatic 131, 3) := by decide +kernel
theorem dX12_odds_24 : decode cX12_odds 24 = .ok (.ifCond .ne 6, 3) := by decide +kernel
theorem dX12_odds_27 : decode cX12_odds 27 = .ok (.bipush (-2), 2) := by decide +kernel
theorem dX12_odds_29 : decode cX12_odds 29 = .ok (.ireturn, 1) := by decide +kernel
theorem dX12_odds_30 : decode cX12_odds 30 = .ok (.aload_n 0, 1) := by decide +kernel
theorem dX12_odds_31 : decode cX12_odds 31 = .ok (.iconst 0, 1) := by decide +kernel
theorem dX12_odds_32 : decode cX12_odds 32 = .ok (.invokevirtual 431, 3) := by decide +kernel
theorem dX12_odds_35 : decode cX12_odds 35 = .ok (.istore_n 3, 1) := by decide +kernel
theorem dX12_odds_36 : decode cX12_odds 36 = .ok (.iload_n 3, 1) := by decide +kernel
theorem dX12_odds_37 : decode cX12_odds 37 = .ok (.ifCond .ne 5, 3) := by decide +kernel
theorem dX12_odds_40 : decode cX12_odds 40 = .ok (.iconst (-1), 1) := by decide +kernel
theorem dX12_odds_41 : decode cX12_odds 41 = .ok (.ireturn, 1) := by decide +kernel
theorem dX12_odds_42 : decode cX12_odds 42 = .ok (.aload_n 0, 1) := by decide +kernel
theorem dX12_odds_43 : decode cX12_odds 43 = .ok (.iload_n 1, 1) := by decide +kernel
theorem dX12_odds_44 : decode cX12_odds 44 = .ok (.invokevirtual 431, 3) := by decide +kernel
theorem dX12_odds_47 : decode cX12_odds 47 = .ok (.istore 4, 2) := by decide +kernel
theorem dX12_odds_49 : decode cX12_odds 49 = .ok (.iload_n 2, 1) := by decide +kernel
theorem dX12_odds_50 : decode cX12_odds 50 = .ok (.ifCond .ne 8, 3) := by decide +kernel
theorem dX12_odds_53 : decode cX12_odds 53 = .ok (.iload 4, 2) := by decide +kernel
theorem dX12_odds_55 : decode cX12_odds 55 = .ok (.goto 4, 3) := by decide +kernel
theorem dX12_odds_58 : decode cX12_odds 58 = .ok (.iload_n 3, 1) := by decide +kernel
theorem dX12_odds_59 : decode cX12_odds 59 = .ok (.iload 4, 2) := by decide +kernel
theorem dX12_odds_61 : decode cX12_odds 61 = .ok (.iload_n 3, 1) := by decide +kernel
theorem dX12_odds_62 : decode cX12_odds 62 = .ok (.invokestatic 437, 3) := by decide +kernel
theorem dX12_odds_65 : decode cX12_odds 65 = .ok (.idiv, 1) := by decide +kernel
theorem dX12_odds_66 : decode cX12_odds 66 = .ok (.ireturn, 1) := by decide +kernel
abbrev k_X12_odds (E : g_E) (l : Launch) (D : g_D) (v1 : Int) (v2 : Int) (K : Int → g_D → Prop) : Prop := g_Ki E l m_X12_odds 61 [g_R 208, g_I v1, g_I v2] g_SH D K
abbrev n_X12_odds (E : g_E) (l : Launch) (D : g_D) (pc : Nat) (L : List (Option g_V)) (K : Int → g_D → Prop) : Prop := g_N E l m_X12_odds 61 pc L [] g_SH D (g_Ri g_SH K)
theorem s_X12_odds {E : g_E} {l : Launch} {D : g_D} {K : Int → g_D → Prop} {v1 : Int} {v2 : Int}  (hF : g_okD D → g_r v1 → g_r v2 → ∀ D1, D1 = g_up D 208 0 0 → (k_X12_within E l g_SH D1 v1 1 3 (fun x2 D2 => g_r x2 → (x2 = 0 → K (-2) D2) ∧ (¬ x2 = 0 → k_X12_within E l g_SH D2 v2 0 1 (fun x3 D3 => g_r x3 → (¬ x3 = 0 → k_X12_healed E l D3 0 (fun x4 D4 => g_r x4 → (¬ x4 = 0 → k_X12_healed E l D4 v1 (fun x5 D5 => g_r x5 → (¬ v2 = 0 → k_X12_common1 E l g_SH D5 60 x5 x4 (fun x6 D6 => g_r x6 → (0 ≤ x4 ∧ 0 < x6) ∧ (K (x4 / x6) D6))) ∧ (v2 = 0 → k_X12_common1 E l g_SH D5 60 x5 x4 (fun x7 D7 => g_r x7 → (0 ≤ x5 ∧ 0 < x7) ∧ (K (x5 / x7) D7))))) ∧ (x4 = 0 → K (-1) D4))) ∧ (x3 = 0 → K (-2) D3)))))) : k_X12_odds E l D v1 v2 K := by
  refine g_enter (by decide) (Nat.le_of_ble_eq_true rfl) ?_
  show g_N E l m_X12_odds 61 0 [some (g_R 208), some (g_I v1), some (g_I v2), none, none] [] g_SH D (g_Ri g_SH K)
  refine g_use (fun ok => ?_)
  have hF := hF ok.2.1 (ok.loc (i := 1) rfl) (ok.loc (i := 2) rfl)
  refine g_aload_n dX12_odds_0 rfl ?_
  refine g_iconst dX12_odds_1 ⟨by decide, by decide⟩ ?_
  let D1 : g_D := g_up D 208 0 0
  have hF := hF D1 rfl
  refine g_put dX12_odds_2 fd_X12_1 (g_ftyI (C := RX12) (T := TX12) (N := 51) rfl rfl (by decide +kernel)) sh_208 rfl ?_
  refine g_iload_n dX12_odds_5 rfl ?_
  refine g_i2l dX12_odds_6 ?_
  refine g_lconst dX12_odds_7 ?_
  refine g_ldc2 dX12_odds_8 ⟨by decide, by decide⟩ kl_X12_143 ?_
  refine gw_cSi (As := [g_J v1, g_J 1, g_J 3]) (rest := []) dX12_odds_11 ms_X12_131 rfl (Nat.le_of_ble_eq_true rfl) (by decide) rfl hF ?_
  intro x2 D2 hx2 hF
  have hF := hF hx2
  refine g_ifeq dX12_odds_14 rfl (fun q => ?_) (fun q => ?_)
  · have hF := hF.1 q
    refine g_bipush dX12_odds_27 ⟨by decide, by decide⟩ ?_
    exact gw_iret dX12_odds_29 rfl hF
  · have hF := hF.2 q
    refine g_iload_n dX12_odds_17 rfl ?_
    refine g_i2l dX12_odds_18 ?_
    refine g_lconst dX12_odds_19 ?_
    refine g_lconst dX12_odds_20 ?_
    refine gw_cSi (As := [g_J v2, g_J 0, g_J 1]) (rest := []) dX12_odds_21 ms_X12_131 rfl (Nat.le_of_ble_eq_true rfl) (by decide) rfl hF ?_
    intro x3 D3 hx3 hF
    have hF := hF hx3
    refine g_ifne dX12_odds_24 rfl (fun q => ?_) (fun q => ?_)
    · have hF := hF.1 q
      refine g_aload_n dX12_odds_30 rfl ?_
      refine g_iconst dX12_odds_31 ⟨by decide, by decide⟩ ?_
      refine gw_cVi (b := 208) (As := [g_I 0]) (rest := []) dX12_odds_32 mv_X12_431 sh_208 rfl (Nat.le_of_ble_eq_true rfl) (by decide) rfl hF ?_
      intro x4 D4 hx4 hF
      have hF := hF hx4
      refine gw_istore_n (L' := [some (g_R 208), some (g_I v1), some (g_I v2), some (g_I x4), none]) dX12_odds_35 (by decide) rfl ?_
      refine g_iload_n dX12_odds_36 rfl ?_
      refine g_ifne dX12_odds_37 rfl (fun q => ?_) (fun q => ?_)
      · have hF := hF.1 q
        refine g_aload_n dX12_odds_42 rfl ?_
        refine g_iload_n dX12_odds_43 rfl ?_
        refine gw_cVi (b := 208) (As := [g_I v1]) (rest := []) dX12_odds_44 mv_X12_431 sh_208 rfl (Nat.le_of_ble_eq_true rfl) (by decide) rfl hF ?_
        intro x5 D5 hx5 hF
        have hF := hF hx5
        refine gw_istore (L' := [some (g_R 208), some (g_I v1), some (g_I v2), some (g_I x4), some (g_I x5)]) dX12_odds_47 (by decide) rfl ?_
        refine g_iload_n dX12_odds_49 rfl ?_
        refine g_ifne dX12_odds_50 rfl (fun q => ?_) (fun q => ?_)
        · have hF := hF.1 q
          refine g_iload_n dX12_odds_58 rfl ?_
          refine g_iload dX12_odds_59 rfl ?_
          refine g_iload_n dX12_odds_61 rfl ?_
          refine gw_cSi (As := [g_I x5, g_I x4]) (rest := [g_I x4]) dX12_odds_62 ms_X12_437 rfl (Nat.le_of_ble_eq_true rfl) (by decide) rfl hF ?_
          intro x6 D6 hx6 hF
          have hF := hF hx6
          obtain ⟨hc, hF⟩ := hF
          refine g_idiv dX12_odds_65 hc.1 hc.2 ?_
          exact gw_iret dX12_odds_66 rfl hF
        · have hF := hF.2 q
          refine g_iload dX12_odds_53 rfl ?_
          refine g_goto dX12_odds_55 rfl ?_
          refine g_iload dX12_odds_59 rfl ?_
          refine g_iload_n dX12_odds_61 rfl ?_
          refine gw_cSi (As := [g_I x5, g_I x4]) (rest := [g_I x5]) dX12_odds_62 ms_X12_437 rfl (Nat.le_of_ble_eq_true rfl) (by decide) rfl hF ?_
          intro x7 D7 hx7 hF
          have hF := hF hx7
          obtain ⟨hc, hF⟩ := hF
          refine g_idiv dX12_odds_65 hc.1 hc.2 ?_
          exact gw_iret dX12_odds_66 rfl hF
      · have hF := hF.2 q
        refine g_iconst dX12_odds_40 ⟨by decide, by decide⟩ ?_
        exact gw_iret dX12_odds_41 rfl hF
    · have hF := hF.2 q
      refine g_bipush dX12_odds_27 ⟨by decide, by decide⟩ ?_
      exact gw_iret dX12_odds_29 rfl hF
theorem dX12_old_0 : decode cX12_old 0 = .ok (.aload_n 0, 1) := by decide +kernel
theorem dX12_old_1 : decode cX12_old 1 = .ok (.iconst 0, 1) := by decide +kernel
theorem dX12_old_2 : decode cX12_old 2 = .ok (.putfield 1, 3) := by decide +kernel
theorem dX12_old_5 : decode cX12_old 5 = .ok (.aload_n 0, 1) := by decide +kernel
theorem dX12_old_6 : decode cX12_old 6 = .ok (.iload_n 1, 1) := by decide +kernel
theorem dX12_old_7 : decode cX12_old 7 = .ok (.iconst 0, 1) := by decide +kernel
theorem dX12_old_8 : decode cX12_old 8 = .ok (.bipush 6, 2) := by decide +kernel
theorem dX12_old_10 : decode cX12_old 10 = .ok (.invokevirtual 135, 3) := by decide +kernel
theorem dX12_old_13 : decode cX12_old 13 = .ok (.ireturn, 1) := by decide +kernel
abbrev k_X12_old (E : g_E) (l : Launch) (D : g_D) (v1 : Int) (K : Int → g_D → Prop) : Prop := g_Ki E l m_X12_old 2 [g_R 208, g_I v1] g_SH D K
abbrev n_X12_old (E : g_E) (l : Launch) (D : g_D) (pc : Nat) (L : List (Option g_V)) (K : Int → g_D → Prop) : Prop := g_N E l m_X12_old 2 pc L [] g_SH D (g_Ri g_SH K)
theorem s_X12_old {E : g_E} {l : Launch} {D : g_D} {K : Int → g_D → Prop} {v1 : Int}  (hF : g_okD D → g_r v1 → ∀ D1, D1 = g_up D 208 0 0 → (k_X12_takesCells E l D1 v1 0 6 (fun x2 D2 => g_r x2 → K x2 D2))) : k_X12_old E l D v1 K := by
  refine g_enter (by decide) (Nat.le_of_ble_eq_true rfl) ?_
  show g_N E l m_X12_old 2 0 [some (g_R 208), some (g_I v1)] [] g_SH D (g_Ri g_SH K)
  refine g_use (fun ok => ?_)
  have hF := hF ok.2.1 (ok.loc (i := 1) rfl)
  refine g_aload_n dX12_old_0 rfl ?_
  refine g_iconst dX12_old_1 ⟨by decide, by decide⟩ ?_
  let D1 : g_D := g_up D 208 0 0
  have hF := hF D1 rfl
  refine g_put dX12_old_2 fd_X12_1 (g_ftyI (C := RX12) (T := TX12) (N := 51) rfl rfl (by decide +kernel)) sh_208 rfl ?_
  refine g_aload_n dX12_old_5 rfl ?_
  refine g_iload_n dX12_old_6 rfl ?_
  refine g_iconst dX12_old_7 ⟨by decide, by decide⟩ ?_
  refine g_bipush dX12_old_8 ⟨by decide, by decide⟩ ?_
  refine gw_cVi (b := 208) (As := [g_I v1, g_I 0, g_I 6]) (rest := []) dX12_old_10 mv_X12_135 sh_208 rfl (Nat.le_of_ble_eq_true rfl) (by decide) rfl hF ?_
  intro x2 D2 hx2 hF
  have hF := hF hx2
  exact gw_iret dX12_old_13 rfl hF
theorem dX12_patch_0 : decode cX12_patch 0 = .ok (.aload_n 0, 1) := by decide +kernel
theorem dX12_patch_1 : decode cX12_patch 1 = .ok (.iconst 0, 1) := by decide +kernel
theorem dX12_patch_2 : decode cX12_patch 2 = .ok (.putfield 1, 3) := by decide +kernel
theorem dX12_patch_5 : decode cX12_patch 5 = .ok (.aload_n 0, 1) := by decide +kernel
theorem dX12_patch_6 : decode cX12_patch 6 = .ok (.invokevirtual 272, 3) := by decide +kernel
theorem dX12_patch_9 : decode cX12_patch 9 = .ok (.iload_n 1, 1) := by decide +kernel
theorem dX12_patch_10 : decode cX12_patch 10 = .ok (.i2l, 1) := by decide +kernel
theorem dX12_patch_11 : decode cX12_patch 11 = .ok (.lconst 0, 1) := by decide +kernel
theorem dX12_patch_12 : decode cX12_patch 12 = .ok (.aload_n 0, 1) := by decide +kernel
theorem dX12_patch_13 : decode cX12_patch 13 = .ok (.getfield 266, 3) := by decide +kernel
theorem dX12_patch_16 : decode cX12_patch 16 = .ok (.iconst 1, 1) := by decide +kernel
theorem dX12_patch_17 : decode cX12_patch 17 = .ok (.isub, 1) := by decide +kernel
theorem dX12_patch_18 : decode cX12_patch 18 = .ok (.i2l, 1) := by decide +kernel
theorem dX12_patch_19 : decode cX12_patch 19 = .ok (.invokestatic 131, 3) := by decide +kernel
theorem dX12_patch_22 : decode cX12_patch 22 = .ok (.ifCond .eq 12, 3) := by decide +kernel
theorem dX12_patch_25 : decode cX12_patch 25 = .ok (.aload_n 0, 1) := by decide +kernel
theorem dX12_patch_26 : decode cX12_patch 26 = .ok (.getfield 81, 3) := by decide +kernel
theorem dX12_patch_29 : decode cX12_patch 29 = .ok (.iload_n 1, 1) := by decide +kernel
theorem dX12_patch_30 : decode cX12_patch 30 = .ok (.iaload, 1) := by decide +kernel
theorem dX12_patch_31 : decode cX12_patch 31 = .ok (.goto 4, 3) := by decide +kernel
theorem dX12_patch_34 : decode cX12_patch 34 = .ok (.iconst (-1), 1) := by decide +kernel
theorem dX12_patch_35 : decode cX12_patch 35 = .ok (.ireturn, 1) := by decide +kernel
abbrev k_X12_patch (E : g_E) (l : Launch) (D : g_D) (v1 : Int) (K : Int → g_D → Prop) : Prop := g_Ki E l m_X12_patch 5 [g_R 208, g_I v1] g_SH D K
abbrev n_X12_patch (E : g_E) (l : Launch) (D : g_D) (pc : Nat) (L : List (Option g_V)) (K : Int → g_D → Prop) : Prop := g_N E l m_X12_patch 5 pc L [] g_SH D (g_Ri g_SH K)
theorem s_X12_patch {E : g_E} {l : Launch} {D : g_D} {K : Int → g_D → Prop} {v1 : Int}  (hF : g_okD D → g_r v1 → ∀ D1, D1 = g_up D 208 0 0 → (k_X12_laysAll E l D1 (fun D2 => (g_r ((D2 208 27) - 1)) ∧ (k_X12_within E l g_SH D2 v1 0 ((D2 208 27) - 1) (fun x3 D3 => g_r x3 → (x3 = 0 → K (-1) D3) ∧ (¬ x3 = 0 → (0 ≤ v1 ∧ v1 < 400) ∧ (K (D3 231 v1.toNat) D3))))))) : k_X12_patch E l D v1 K := by
  refine g_enter (by decide) (Nat.le_of_ble_eq_true rfl) ?_
  show g_N E l m_X12_patch 5 0 [some (g_R 208), some (g_I v1)] [] g_SH D (g_Ri g_SH K)
  refine g_use (fun ok => ?_)
  have hF := hF ok.2.1 (ok.loc (i := 1) rfl)
  refine g_aload_n dX12_patch_0 rfl ?_
  refine g_iconst dX12_patch_1 ⟨by decide, by decide⟩ ?_
  let D1 : g_D := g_up D 208 0 0
  have hF := hF D1 rfl
  refine g_put dX12_patch_2 fd_X12_1 (g_ftyI (C := RX12) (T := TX12) (N := 51) rfl rfl (by decide +kernel)) sh_208 rfl ?_
  refine g_aload_n dX12_patch_5 rfl ?_
  refine gw_cVv (b := 208) (As := []) (rest := []) dX12_patch_6 mv_X12_272 sh_208 rfl (Nat.le_of_ble_eq_true rfl) (by decide) rfl hF ?_
  intro D2 hF
  refine g_iload_n dX12_patch_9 rfl ?_
  refine g_i2l dX12_patch_10 ?_
  refine g_lconst dX12_patch_11 ?_
  refine g_aload_n dX12_patch_12 rfl ?_
  refine g_getI dX12_patch_13 fd_X12_266 sh_208 rfl ?_
  refine g_iconst dX12_patch_16 ⟨by decide, by decide⟩ ?_
  obtain ⟨hc, hF⟩ := hF
  refine g_isub dX12_patch_17 hc ?_
  refine g_i2l dX12_patch_18 ?_
  refine gw_cSi (As := [g_J v1, g_J 0, g_J ((D2 208 27) - 1)]) (rest := []) dX12_patch_19 ms_X12_131 rfl (Nat.le_of_ble_eq_true rfl) (by decide) rfl hF ?_
  intro x3 D3 hx3 hF
  have hF := hF hx3
  refine g_ifeq dX12_patch_22 rfl (fun q => ?_) (fun q => ?_)
  · have hF := hF.1 q
    refine g_iconst dX12_patch_34 ⟨by decide, by decide⟩ ?_
    exact gw_iret dX12_patch_35 rfl hF
  · have hF := hF.2 q
    refine g_aload_n dX12_patch_25 rfl ?_
    refine g_getR dX12_patch_26 fd_X12_81 sh_208 rfl ?_
    refine g_iload_n dX12_patch_29 rfl ?_
    obtain ⟨hc, hF⟩ := hF
    refine g_iald dX12_patch_30 sh_231 hc.1 hc.2 ?_
    refine g_goto dX12_patch_31 rfl ?_
    exact gw_iret dX12_patch_35 rfl hF
theorem dX12_plan_0 : decode cX12_plan 0 = .ok (.aload_n 0, 1) := by decide +kernel
theorem dX12_plan_1 : decode cX12_plan 1 = .ok (.iconst 0, 1) := by decide +kernel
theorem dX12_plan_2 : decode cX12_plan 2 = .ok (.putfield 1, 3) := by decide +kernel
theorem dX12_plan_5 : decode cX12_plan 5 = .ok (.iload_n 1, 1) := by decide +kernel
theorem dX12_plan_6 : decode cX12_plan 6 = .ok (.i2l, 1) := by decide +kernel
theorem dX12_plan_7 : decode cX12_plan 7 = .ok (.lconst 0, 1) := by decide +kernel
theorem dX12_plan_8 : decode cX12_plan 8 = .ok (.ldc2_w 143, 3) := by decide +kernel
theorem dX12_plan_11 : decode cX12_plan 11 = .ok (.invokestatic 131, 3) := by decide +kernel
theorem dX12_plan_14 : decode cX12_plan 14 = .ok (.ifCond .ne 6, 3) := by decide +kernel
theorem dX12_plan_17 : decode cX12_plan 17 = .ok (.bipush (-2), 2) := by decide +kernel
theorem dX12_plan_19 : decode cX12_plan 19 = .ok (.ireturn, 1) := by decide +kernel
theorem dX12_plan_20 : decode cX12_plan 20 = .ok (.aload_n 0, 1) := by decide +kernel
theorem dX12_plan_21 : decode cX12_plan 21 = .ok (.invokevirtual 272, 3) := by decide +kernel
theorem dX12_plan_24 : decode cX12_plan 24 = .ok (.iload_n 1, 1) := by decide +kernel
theorem dX12_plan_25 : decode cX12_plan 25 = .ok (.ifCond .ne 10, 3) := by decide +kernel
theorem dX12_plan_28 : decode cX12_plan 28 = .ok (.aload_n 0, 1) := by decide +kernel
theorem dX12_plan_29 : decode cX12_plan 29 = .ok (.getfield 251, 3) := by decide +kernel
theorem dX12_plan_32 : decode cX12_plan 32 = .ok (.goto 31, 3) := by decide +kernel
theorem dX12_plan_35 : decode cX12_plan 35 = .ok (.iload_n 1, 1) := by decide +kernel
theorem dX12_plan_36 : decode cX12_plan 36 = .ok (.iconst 1, 1) := by decide +kernel
theorem dX12_plan_37 : decode cX12_plan 37 = .ok (.if_icmp .ne 10, 3) := by decide +kernel
theorem dX12_plan_40 : decode cX12_plan 40 = .ok (.aload_n 0, 1) := by decide +kernel
theorem dX12_plan_41 : decode cX12_plan 41 = .ok (.getfield 248, 3) := by decide +kernel
theorem dX12_plan_44 : decode cX12_plan 44 = .ok (.goto 19, 3) := by decide +kernel
theorem dX12_plan_47 : decode cX12_plan 47 = .ok (.iload_n 1, 1) := by decide +kernel
theorem dX12_plan_48 : decode cX12_plan 48 = .ok (.iconst 2, 1) := by decide +kernel
theorem dX12_plan_49 : decode cX12_plan 49 = .ok (.if_icmp .ne 10, 3) := by decide +kernel
theorem dX12_plan_52 : decode cX12_plan 52 = .ok (.aload_n 0, 1) := by decide +kernel
theorem dX12_plan_53 : decode cX12_plan 53 = .ok (.getfield 231, 3) := by decide +kernel
theorem dX12_plan_56 : decode cX12_plan 56 = .ok (.goto 7, 3) := by decide +kernel
theorem dX12_plan_59 : decode cX12_plan 59 = .ok (.aload_n 0, 1) := by decide +kernel
theorem dX12_plan_60 : decode cX12_plan 60 = .ok (.getfield 266, 3) := by decide +kernel
theorem dX12_plan_63 : decode cX12_plan 63 = .ok (.ireturn, 1) := by decide +kernel
abbrev k_X12_plan (E : g_E) (l : Launch) (D : g_D) (v1 : Int) (K : Int → g_D → Prop) : Prop := g_Ki E l m_X12_plan 5 [g_R 208, g_I v1] g_SH D K
abbrev n_X12_plan (E : g_E) (l : Launch) (D : g_D) (pc : Nat) (L : List (Option g_V)) (K : Int → g_D → Prop) : Prop := g_N E l m_X12_plan 5 pc L [] g_SH D (g_Ri g_SH K)
theorem s_X12_plan {E : g_E} {l : Launch} {D : g_D} {K : Int → g_D → Prop} {v1 : Int}  (hF : g_okD D → g_r v1 → ∀ D1, D1 = g_up D 208 0 0 → (k_X12_within E l g_SH D1 v1 0 3 (fun x2 D2 => g_r x2 → (¬ x2 = 0 → k_X12_laysAll E l D2 (fun D3 => (¬ v1 = 0 → (¬ v1 = 1 → (¬ v1 = 2 → K (D3 208 27) D3) ∧ (v1 = 2 → K (D3 208 30) D3)) ∧ (v1 = 1 → K (D3 208 29) D3)) ∧ (v1 = 0 → K (D3 208 28) D3))) ∧ (x2 = 0 → K (-2) D2)))) : k_X12_plan E l D v1 K := by
  refine g_enter (by decide) (Nat.le_of_ble_eq_true rfl) ?_
  show g_N E l m_X12_plan 5 0 [some (g_R 208), some (g_I v1)] [] g_SH D (g_Ri g_SH K)
  refine g_use (fun ok => ?_)
  have hF := hF ok.2.1 (ok.loc (i := 1) rfl)
  refine g_aload_n dX12_plan_0 rfl ?_
  refine g_iconst dX12_plan_1 ⟨by decide, by decide⟩ ?_
  let D1 : g_D := g_up D 208 0 0
  have hF := hF D1 rfl
  refine g_put dX12_plan_2 fd_X12_1 (g_ftyI (C := RX12) (T := TX12) (N := 51) rfl rfl (by decide +kernel)) sh_208 rfl ?_
  refine g_iload_n dX12_plan_5 rfl ?_
  refine g_i2l dX12_plan_6 ?_
  refine g_lconst dX12_plan_7 ?_
  refine g_ldc2 dX12_plan_8 ⟨by decide, by decide⟩ kl_X12_143 ?_
  refine gw_cSi (As := [g_J v1, g_J 0, g_J 3]) (rest := []) dX12_plan_11 ms_X12_131 rfl (Nat.le_of_ble_eq_true rfl) (by decide) rfl hF ?_
  intro x2 D2 hx2 hF
  have hF := hF hx2
  refine g_ifne dX12_plan_14 rfl (fun q => ?_) (fun q => ?_)
  · have hF := hF.1 q
    refine g_aload_n dX12_plan_20 rfl ?_
    refine gw_cVv (b := 208) (As := []) (rest := []) dX12_plan_21 mv_X12_272 sh_208 rfl (Nat.le_of_ble_eq_true rfl) (by decide) rfl hF ?_
    intro D3 hF
    refine g_iload_n dX12_plan_24 rfl ?_
    refine g_ifne dX12_plan_25 rfl (fun q => ?_) (fun q => ?_)
    · have hF := hF.1 q
      refine g_iload_n dX12_plan_35 rfl ?_
      refine g_iconst dX12_plan_36 ⟨by decide, by decide⟩ ?_
      refine g_cne dX12_plan_37 rfl (fun q => ?_) (fun q => ?_)
      · have hF := hF.1 q
        refine g_iload_n dX12_plan_47 rfl ?_
        refine g_iconst dX12_plan_48 ⟨by decide, by decide⟩ ?_
        refine g_cne dX12_plan_49 rfl (fun q => ?_) (fun q => ?_)
        · have hF := hF.1 q
          refine g_aload_n dX12_plan_59 rfl ?_
          refine g_getI dX12_plan_60 fd_X12_266 sh_208 rfl ?_
          exact gw_iret dX12_plan_63 rfl hF
        · have hF := hF.2 q
          refine g_aload_n dX12_plan_52 rfl ?_
          refine g_getI dX12_plan_53 fd_X12_231 sh_208 rfl ?_
          refine g_goto dX12_plan_56 rfl ?_
          exact gw_iret dX12_plan_63 rfl hF
      · have hF := hF.2 q
        refine g_aload_n dX12_plan_40 rfl ?_
        refine g_getI dX12_plan_41 fd_X12_248 sh_208 rfl ?_
        refine g_goto dX12_plan_44 rfl ?_
        exact gw_iret dX12_plan_63 rfl hF
    · have hF := hF.2 q
      refine g_aload_n dX12_plan_28 rfl ?_
      refine g_getI dX12_plan_29 fd_X12_251 sh_208 rfl ?_
      refine g_goto dX12_plan_32 rfl ?_
      exact gw_iret dX12_plan_63 rfl hF
  · have hF := hF.2 q
    refine g_bipush dX12_plan_17 ⟨by decide, by decide⟩ ?_
    exact gw_iret dX12_plan_19 rfl hF
theorem dX12_restore_0 : decode cX12_restore 0 = .ok (.aload_n 0, 1) := by decide +kernel
theorem dX12_restore_1 : decode cX12_restore 1 = .ok (.iconst 0, 1) := by decide +kernel
theorem dX12_restore_2 : decode cX12_restore 2 = .ok (.putfield 1, 3) := by decide +kernel
theorem dX12_restore_5 : decode cX12_restore 5 = .ok (.iload_n 1, 1) := by decide +kernel
theorem dX12_restore_6 : decode cX12_restore 6 = .ok (.i2l, 1) := by decide +kernel
theorem dX12_restore_7 : decode cX12_restore 7 = .ok (.lconst 0, 1) := by decide +kernel
theorem dX12_restore_8 : decode cX12_restore 8 = .ok (.lconst 1, 1) := by decide +kernel
theorem dX12_restore_9 : decode cX12_restore 9 = .ok (.invokestatic 131, 3) := by decide +kernel
theorem dX12_restore_12 : decode cX12_restore 12 = .ok (.ifCond .ne 6, 3) := by decide +kernel
theorem dX12_restore_15 : decode cX12_restore 15 = .ok (.bipush (-2), 2) := by decide +kernel
theorem dX12_restore_17 : decode cX12_restore 17 = .ok (.ireturn, 1) := by decide +kernel
theorem dX12_restore_18 : decode cX12_restore 18 = .ok (.aload_n 0, 1) := by decide +kernel
theorem dX12_restore_19 : decode cX12_restore 19 = .ok (.getfield 20, 3) := by decide +kernel
theorem dX12_restore_22 : decode cX12_restore 22 = .ok (.iload_n 1, 1) := by decide +kernel
theorem dX12_restore_23 : decode cX12_restore 23 = .ok (.baload, 1) := by decide +kernel
theorem dX12_restore_24 : decode cX12_restore 24 = .ok (.ifCond .ne 6, 3) := by decide +kernel
theorem dX12_restore_27 : decode cX12_restore 27 = .ok (.bipush (-5), 2) := by decide +kernel
theorem dX12_restore_29 : decode cX12_restore 29 = .ok (.ireturn, 1) := by decide +kernel
theorem dX12_restore_30 : decode cX12_restore 30 = .ok (.iconst 0, 1) := by decide +kernel
theorem dX12_restore_31 : decode cX12_restore 31 = .ok (.istore_n 2, 1) := by decide +kernel
theorem dX12_restore_32 : decode cX12_restore 32 = .ok (.iload_n 2, 1) := by decide +kernel
theorem dX12_restore_33 : decode cX12_restore 33 = .ok (.sipush 519, 3) := by decide +kernel
theorem dX12_restore_36 : decode cX12_restore 36 = .ok (.if_icmp .ge 29, 3) := by decide +kernel
theorem dX12_restore_39 : decode cX12_restore 39 = .ok (.aload_n 0, 1) := by decide +kernel
theorem dX12_restore_40 : decode cX12_restore 40 = .ok (.getfield 13, 3) := by decide +kernel
theorem dX12_restore_43 : decode cX12_restore 43 = .ok (.iload_n 2, 1) := by decide +kernel
theorem dX12_restore_44 : decode cX12_restore 44 = .ok (.aload_n 0, 1) := by decide +kernel
theorem dX12_restore_45 : decode cX12_restore 45 = .ok (.getfield 13, 3) := by decide +kernel
theorem dX12_restore_48 : decode cX12_restore 48 = .ok (.sipush 519, 3) := by decide +kernel
theorem dX12_restore_51 : decode cX12_restore 51 = .ok (.iload_n 1, 1) := by decide +kernel
theorem dX12_restore_52 : decode cX12_restore 52 = .ok (.iconst 1, 1) := by decide +kernel
theorem dX12_restore_53 : decode cX12_restore 53 = .ok (.iadd, 1) := by decide +kernel
theorem dX12_restore_54 : decode cX12_restore 54 = .ok (.imul, 1) := by decide +kernel
theorem dX12_restore_55 : decode cX12_restore 55 = .ok (.iload_n 2, 1) := by decide +kernel
theorem dX12_restore_56 : decode cX12_restore 56 = .ok (.iadd, 1) := by decide +kernel
theorem dX12_restore_57 : decode cX12_restore 57 = .ok (.iaload, 1) := by decide +kernel
theorem dX12_restore_58 : decode cX12_restore 58 = .ok (.iastore, 1) := by decide +kernel
theorem dX12_restore_59 : decode cX12_restore 59 = .ok (.iinc 2 1, 3) := by decide +kernel
theorem dX12_restore_62 : decode cX12_restore 62 = .ok (.goto (-30), 3) := by decide +kernel
theorem dX12_restore_65 : decode cX12_restore 65 = .ok (.aload_n 0, 1) := by decide +kernel
theorem dX12_restore_66 : decode cX12_restore 66 = .ok (.getfield 13, 3) := by decide +kernel
theorem dX12_restore_69 : decode cX12_restore 69 = .ok (.sipush 518, 3) := by decide +kernel
theorem dX12_restore_72 : decode cX12_restore 72 = .ok (.iconst 0, 1) := by decide +kernel
theorem dX12_restore_73 : decode cX12_restore 73 = .ok (.iastore, 1) := by decide +kernel
theorem dX12_restore_74 : decode cX12_restore 74 = .ok (.iconst 0, 1) := by decide +kernel
theorem dX12_restore_75 : decode cX12_restore 75 = .ok (.ireturn, 1) := by decide +kernel
abbrev k_X12_restore (E : g_E) (l : Launch) (D : g_D) (v1 : Int) (K : Int → g_D → Prop) : Prop := g_Ki E l m_X12_restore 1 [g_R 208, g_I v1] g_SH D K
abbrev n_X12_restore (E : g_E) (l : Launch) (D : g_D) (pc : Nat) (L : List (Option g_V)) (K : Int → g_D → Prop) : Prop := g_N E l m_X12_restore 1 pc L [] g_SH D (g_Ri g_SH K)
theorem s_X12_restore {E : g_E} {l : Launch} {D : g_D} {K : Int → g_D → Prop} {v1 : Int}  (hF : g_okD D → g_r v1 → ∀ D1, D1 = g_up D 208 0 0 → (k_X12_within E l g_SH D1 v1 0 1 (fun x2 D2 => g_r x2 → (¬ x2 = 0 → (0 ≤ v1 ∧ v1 < 2) ∧ ((¬ (D2 211 v1.toNat) = 0 → n_X12_restore E l D2 32 [some (g_R 208), some (g_I v1), some (g_I 0)] K) ∧ ((D2 211 v1.toNat) = 0 → K (-5) D2))) ∧ (x2 = 0 → K (-2) D2)))) : k_X12_restore E l D v1 K := by
  refine g_enter (by decide) (Nat.le_of_ble_eq_true rfl) ?_
  show g_N E l m_X12_restore 1 0 [some (g_R 208), some (g_I v1), none] [] g_SH D (g_Ri g_SH K)
  refine g_use (fun ok => ?_)
  have hF := hF ok.2.1 (ok.loc (i := 1) rfl)
  refine g_aload_n dX12_restore_0 rfl ?_
  refine g_iconst dX12_restore_1 ⟨by decide, by decide⟩ ?_
  let D1 : g_D := g_up D 208 0 0
  have hF := hF D1 rfl
  refine g_put dX12_restore_2 fd_X12_1 (g_ftyI (C := RX12) (T := TX12) (N := 51) rfl rfl (by decide +kernel)) sh_208 rfl ?_
  refine g_iload_n dX12_restore_5 rfl ?_
  refine g_i2l dX12_restore_6 ?_
  refine g_lconst dX12_restore_7 ?_
  refine g_lconst dX12_restore_8 ?_
  refine gw_cSi (As := [g_J v1, g_J 0, g_J 1]) (rest := []) dX12_restore_9 ms_X12_131 rfl (Nat.le_of_ble_eq_true rfl) (by decide) rfl hF ?_
  intro x2 D2 hx2 hF
  have hF := hF hx2
  refine g_ifne dX12_restore_12 rfl (fun q => ?_) (fun q => ?_)
  · have hF := hF.1 q
    refine g_aload_n dX12_restore_18 rfl ?_
    refine g_getR dX12_restore_19 fd_X12_20 sh_208 rfl ?_
    refine g_iload_n dX12_restore_22 rfl ?_
    obtain ⟨hc, hF⟩ := hF
    refine g_bald dX12_restore_23 sh_211 hc.1 hc.2 ?_
    refine g_ifne dX12_restore_24 rfl (fun q => ?_) (fun q => ?_)
    · have hF := hF.1 q
      refine g_iconst dX12_restore_30 ⟨by decide, by decide⟩ ?_
      refine gw_istore_n (L' := [some (g_R 208), some (g_I v1), some (g_I 0)]) dX12_restore_31 (by decide) rfl ?_
      exact hF
    · have hF := hF.2 q
      refine g_bipush dX12_restore_27 ⟨by decide, by decide⟩ ?_
      exact gw_iret dX12_restore_29 rfl hF
  · have hF := hF.2 q
    refine g_bipush dX12_restore_15 ⟨by decide, by decide⟩ ?_
    exact gw_iret dX12_restore_17 rfl hF
theorem s_X12_restore_32 {E : g_E} {l : Launch} {D : g_D} {K : Int → g_D → Prop} {v1 : Int} {v2 : Int}  (hF : g_okD D → g_r v1 → g_r v2 → (519 ≤ v2 → ∀ D1, D1 = g_up D 209 518 0 → (K 0 D1)) ∧ (¬ 519 ≤ v2 → (g_r (v1 + 1)) ∧ ((g_r (519 * (v1 + 1))) ∧ ((g_r ((519 * (v1 + 1)) + v2)) ∧ ((0 ≤ ((519 * (v1 + 1)) + v2) ∧ ((519 * (v1 + 1)) + v2) < 1557) ∧ ((0 ≤ v2 ∧ v2 < 1557) ∧ (∀ D2, D2 = g_up D 209 v2.toNat (D 209 ((519 * (v1 + 1)) + v2).toNat) → ((g_r (v2 + 1)) ∧ (n_X12_restore E l D2 32 [some (g_R 208), some (g_I v1), some (g_I (v2 + 1))] K))))))))) : n_X12_restore E l D 32 [some (g_R 208), some (g_I v1), some (g_I v2)] K := by
  refine g_use (fun ok => ?_)
  have hF := hF ok.2.1 (ok.loc (i := 1) rfl) (ok.loc (i := 2) rfl)
  refine g_iload_n dX12_restore_32 rfl ?_
  refine g_sipush dX12_restore_33 ⟨by decide, by decide⟩ ?_
  refine g_cge dX12_restore_36 rfl (fun q => ?_) (fun q => ?_)
  · have hF := hF.1 q
    refine g_aload_n dX12_restore_65 rfl ?_
    refine g_getR dX12_restore_66 fd_X12_13 sh_208 rfl ?_
    refine g_sipush dX12_restore_69 ⟨by decide, by decide⟩ ?_
    refine g_iconst dX12_restore_72 ⟨by decide, by decide⟩ ?_
    let D1 : g_D := g_up D 209 518 0
    have hF := hF D1 rfl
    refine g_iast dX12_restore_73 sh_209 (by decide) (by decide) ?_
    refine g_iconst dX12_restore_74 ⟨by decide, by decide⟩ ?_
    exact gw_iret dX12_restore_75 rfl hF
  · have hF := hF.2 q
    refine g_aload_n dX12_restore_39 rfl ?_
    refine g_getR dX12_restore_40 fd_X12_13 sh_208 rfl ?_
    refine g_iload_n dX12_restore_43 rfl ?_
    refine g_aload_n dX12_restore_44 rfl ?_
    refine g_getR dX12_restore_45 fd_X12_13 sh_208 rfl ?_
    refine g_sipush dX12_restore_48 ⟨by decide, by decide⟩ ?_
    refine g_iload_n dX12_restore_51 rfl ?_
    refine g_iconst dX12_restore_52 ⟨by decide, by decide⟩ ?_
    obtain ⟨hc, hF⟩ := hF
    refine g_iadd dX12_restore_53 hc ?_
    obtain ⟨hc, hF⟩ := hF
    refine g_imul dX12_restore_54 hc ?_
    refine g_iload_n dX12_restore_55 rfl ?_
    obtain ⟨hc, hF⟩ := hF
    refine g_iadd dX12_restore_56 hc ?_
    obtain ⟨hc, hF⟩ := hF
    refine g_iald dX12_restore_57 sh_209 hc.1 hc.2 ?_
    obtain ⟨hc, hF⟩ := hF
    let D2 : g_D := g_up D 209 v2.toNat (D 209 ((519 * (v1 + 1)) + v2).toNat)
    have hF := hF D2 rfl
    refine g_iast dX12_restore_58 sh_209 hc.1 hc.2 ?_
    obtain ⟨hc, hF⟩ := hF
    refine gw_iinc (L' := [some (g_R 208), some (g_I v1), some (g_I (v2 + 1))]) dX12_restore_59 rfl hc (by decide) rfl ?_
    refine g_goto dX12_restore_62 rfl ?_
    exact hF
theorem dX12_right_0 : decode cX12_right 0 = .ok (.aload_n 0, 1) := by decide +kernel
theorem dX12_right_1 : decode cX12_right 1 = .ok (.iconst 0, 1) := by decide +kernel
theorem dX12_right_2 : decode cX12_right 2 = .ok (.putfield 1, 3) := by decide +kernel
theorem dX12_right_5 : decode cX12_right 5 = .ok (.iconst 0, 1) := by decide +kernel
theorem dX12_right_6 : decode cX12_right 6 = .ok (.istore_n 1, 1) := by decide +kernel
theorem dX12_right_7 : decode cX12_right 7 = .ok (.iconst 0, 1) := by decide +kernel
theorem dX12_right_8 : decode cX12_right 8 = .ok (.istore_n 2, 1) := by decide +kernel
theorem dX12_right_9 : decode cX12_right 9 = .ok (.iload_n 2, 1) := by decide +kernel
theorem dX12_right_10 : decode cX12_right 10 = .ok (.aload_n 0, 1) := by decide +kernel
theorem dX12_right_11 : decode cX12_right 11 = .ok (.getfield 13, 3) := by decide +kernel
theorem dX12_right_14 : decode cX12_right 14 = .ok (.iconst 1, 1) := by decide +kernel
theorem dX12_right_15 : decode cX12_right 15 = .ok (.iaload, 1) := by decide +kernel
theorem dX12_right_16 : decode cX12_right 16 = .ok (.if_icmp .ge 38, 3) := by decide +kernel
theorem dX12_right_19 : decode cX12_right 19 = .ok (.iload_n 1, 1) := by decide +kernel
theorem dX12_right_20 : decode cX12_right 20 = .ok (.aload_n 0, 1) := by decide +kernel
theorem dX12_right_21 : decode cX12_right 21 = .ok (.getfield 13, 3) := by decide +kernel
theorem dX12_right_24 : decode cX12_right 24 = .ok (.bipush 86, 2) := by decide +kernel
theorem dX12_right_26 : decode cX12_right 26 = .ok (.iload_n 2, 1) := by decide +kernel
theorem dX12_right_27 : decode cX12_right 27 = .ok (.iadd, 1) := by decide +kernel
theorem dX12_right_28 : decode cX12_right 28 = .ok (.iaload, 1) := by decide +kernel
theorem dX12_right_29 : decode cX12_right 29 = .ok (.aload_n 0, 1) := by decide +kernel
theorem dX12_right_30 : decode cX12_right 30 = .ok (.getfield 13, 3) := by decide +kernel
theorem dX12_right_33 : decode cX12_right 33 = .ok (.bipush 46, 2) := by decide +kernel
theorem dX12_right_35 : decode cX12_right 35 = .ok (.iload_n 2, 1) := by decide +kernel
theorem dX12_right_36 : decode cX12_right 36 = .ok (.iadd, 1) := by decide +kernel
theorem dX12_right_37 : decode cX12_right 37 = .ok (.iaload, 1) := by decide +kernel
theorem dX12_right_38 : decode cX12_right 38 = .ok (.if_icmp .ne 7, 3) := by decide +kernel
theorem dX12_right_41 : decode cX12_right 41 = .ok (.iconst 1, 1) := by decide +kernel
theorem dX12_right_42 : decode cX12_right 42 = .ok (.goto 4, 3) := by decide +kernel
theorem dX12_right_45 : decode cX12_right 45 = .ok (.iconst 0, 1) := by decide +kernel
theorem dX12_right_46 : decode cX12_right 46 = .ok (.iadd, 1) := by decide +kernel
theorem dX12_right_47 : decode cX12_right 47 = .ok (.istore_n 1, 1) := by decide +kernel
theorem dX12_right_48 : decode cX12_right 48 = .ok (.iinc 2 1, 3) := by decide +kernel
theorem dX12_right_51 : decode cX12_right 51 = .ok (.goto (-42), 3) := by decide +kernel
theorem dX12_right_54 : decode cX12_right 54 = .ok (.iload_n 1, 1) := by decide +kernel
theorem dX12_right_55 : decode cX12_right 55 = .ok (.ireturn, 1) := by decide +kernel
abbrev k_X12_right (E : g_E) (l : Launch) (D : g_D) (K : Int → g_D → Prop) : Prop := g_Ki E l m_X12_right 0 [g_R 208] g_SH D K
abbrev n_X12_right (E : g_E) (l : Launch) (D : g_D) (pc : Nat) (L : List (Option g_V)) (K : Int → g_D → Prop) : Prop := g_N E l m_X12_right 0 pc L [] g_SH D (g_Ri g_SH K)
theorem s_X12_right {E : g_E} {l : Launch} {D : g_D} {K : Int → g_D → Prop}   (hF : g_okD D → ∀ D1, D1 = g_up D 208 0 0 → (n_X12_right E l D1 9 [some (g_R 208), some (g_I 0), some (g_I 0)] K)) : k_X12_right E l D K := by
  refine g_enter (by decide) (Nat.le_of_ble_eq_true rfl) ?_
  show g_N E l m_X12_right 0 0 [some (g_R 208), none, none] [] g_SH D (g_Ri g_SH K)
  refine g_use (fun ok => ?_)
  have hF := hF ok.2.1
  refine g_aload_n dX12_right_0 rfl ?_
  refine g_iconst dX12_right_1 ⟨by decide, by decide⟩ ?_
  let D1 : g_D := g_up D 208 0 0
  have hF := hF D1 rfl
  refine g_put dX12_right_2 fd_X12_1 (g_ftyI (C := RX12) (T := TX12) (N := 51) rfl rfl (by decide +kernel)) sh_208 rfl ?_
  refine g_iconst dX12_right_5 ⟨by decide, by decide⟩ ?_
  refine gw_istore_n (L' := [some (g_R 208), some (g_I 0), none]) dX12_right_6 (by decide) rfl ?_
  refine g_iconst dX12_right_7 ⟨by decide, by decide⟩ ?_
  refine gw_istore_n (L' := [some (g_R 208), some (g_I 0), some (g_I 0)]) dX12_right_8 (by decide) rfl ?_
  exact hF
theorem s_X12_right_9 {E : g_E} {l : Launch} {D : g_D} {K : Int → g_D → Prop} {v1 : Int} {v2 : Int}  (hF : g_okD D → g_r v1 → g_r v2 → ((D 209 1) ≤ v2 → K v1 D) ∧ (¬ (D 209 1) ≤ v2 → (g_r (86 + v2)) ∧ ((0 ≤ (86 + v2) ∧ (86 + v2) < 1557) ∧ ((g_r (46 + v2)) ∧ ((0 ≤ (46 + v2) ∧ (46 + v2) < 1557) ∧ ((¬ (D 209 (86 + v2).toNat) = (D 209 (46 + v2).toNat) → (g_r (v1 + 0)) ∧ ((g_r (v2 + 1)) ∧ (n_X12_right E l D 9 [some (g_R 208), some (g_I (v1 + 0)), some (g_I (v2 + 1))] K))) ∧ ((D 209 (86 + v2).toNat) = (D 209 (46 + v2).toNat) → (g_r (v1 + 1)) ∧ ((g_r (v2 + 1)) ∧ (n_X12_right E l D 9 [some (g_R 208), some (g_I (v1 + 1)), some (g_I (v2 + 1))] K))))))))) : n_X12_right E l D 9 [some (g_R 208), some (g_I v1), some (g_I v2)] K := by
  refine g_use (fun ok => ?_)
  have hF := hF ok.2.1 (ok.loc (i := 1) rfl) (ok.loc (i := 2) rfl)
  refine g_iload_n dX12_right_9 rfl ?_
  refine g_aload_n dX12_right_10 rfl ?_
  refine g_getR dX12_right_11 fd_X12_13 sh_208 rfl ?_
  refine g_iconst dX12_right_14 ⟨by decide, by decide⟩ ?_
  refine g_iald dX12_right_15 sh_209 (by decide) (by decide) ?_
  refine g_cge dX12_right_16 rfl (fun q => ?_) (fun q => ?_)
  · have hF := hF.1 q
    refine g_iload_n dX12_right_54 rfl ?_
    exact gw_iret dX12_right_55 rfl hF
  · have hF := hF.2 q
    refine g_iload_n dX12_right_19 rfl ?_
    refine g_aload_n dX12_right_20 rfl ?_
    refine g_getR dX12_right_21 fd_X12_13 sh_208 rfl ?_
    refine g_bipush dX12_right_24 ⟨by decide, by decide⟩ ?_
    refine g_iload_n dX12_right_26 rfl ?_
    obtain ⟨hc, hF⟩ := hF
    refine g_iadd dX12_right_27 hc ?_
    obtain ⟨hc, hF⟩ := hF
    refine g_iald dX12_right_28 sh_209 hc.1 hc.2 ?_
    refine g_aload_n dX12_right_29 rfl ?_
    refine g_getR dX12_right_30 fd_X12_13 sh_208 rfl ?_
    refine g_bipush dX12_right_33 ⟨by decide, by decide⟩ ?_
    refine g_iload_n dX12_right_35 rfl ?_
    obtain ⟨hc, hF⟩ := hF
    refine g_iadd dX12_right_36 hc ?_
    obtain ⟨hc, hF⟩ := hF
    refine g_iald dX12_right_37 sh_209 hc.1 hc.2 ?_
    refine g_cne dX12_right_38 rfl (fun q => ?_) (fun q => ?_)
    · have hF := hF.1 q
      refine g_iconst dX12_right_45 ⟨by decide, by decide⟩ ?_
      obtain ⟨hc, hF⟩ := hF
      refine g_iadd dX12_right_46 hc ?_
      refine gw_istore_n (L' := [some (g_R 208), some (g_I (v1 + 0)), some (g_I v2)]) dX12_right_47 (by decide) rfl ?_
      obtain ⟨hc, hF⟩ := hF
      refine gw_iinc (L' := [some (g_R 208), some (g_I (v1 + 0)), some (g_I (v2 + 1))]) dX12_right_48 rfl hc (by decide) rfl ?_
      refine g_goto dX12_right_51 rfl ?_
      exact hF
    · have hF := hF.2 q
      refine g_iconst dX12_right_41 ⟨by decide, by decide⟩ ?_
      refine g_goto dX12_right_42 rfl ?_
      obtain ⟨hc, hF⟩ := hF
      refine g_iadd dX12_right_46 hc ?_
      refine gw_istore_n (L' := [some (g_R 208), some (g_I (v1 + 1)), some (g_I v2)]) dX12_right_47 (by decide) rfl ?_
      obtain ⟨hc, hF⟩ := hF
      refine gw_iinc (L' := [some (g_R 208), some (g_I (v1 + 1)), some (g_I (v2 + 1))]) dX12_right_48 rfl hc (by decide) rfl ?_
      refine g_goto dX12_right_51 rfl ?_
      exact hF
theorem dX12_ring_0 : decode cX12_ring 0 = .ok (.aload_n 0, 1) := by decide +kernel
theorem dX12_ring_1 : decode cX12_ring 1 = .ok (.iconst 0, 1) := by decide +kernel
theorem dX12_ring_2 : decode cX12_ring 2 = .ok (.putfield 1, 3) := by decide +kernel
theorem dX12_ring_5 : decode cX12_ring 5 = .ok (.aload_n 0, 1) := by decide +kernel
theorem dX12_ring_6 : decode cX12_ring 6 = .ok (.invokevirtual 193, 3) := by decide +kernel
theorem dX12_ring_9 : decode cX12_ring 9 = .ok (.aload_n 0, 1) := by decide +kernel
theorem dX12_ring_10 : decode cX12_ring 10 = .ok (.iload_n 1, 1) := by decide +kernel
theorem dX12_ring_11 : decode cX12_ring 11 = .ok (.invokevirtual 196, 3) := by decide +kernel
theorem dX12_ring_14 : decode cX12_ring 14 = .ok (.ifCond .ne 6, 3) := by decide +kernel
theorem dX12_ring_17 : decode cX12_ring 17 = .ok (.bipush (-2), 2) := by decide +kernel
theorem dX12_ring_19 : decode cX12_ring 19 = .ok (.ireturn, 1) := by decide +kernel
theorem dX12_ring_20 : decode cX12_ring 20 = .ok (.iload_n 2, 1) := by decide +kernel
theorem dX12_ring_21 : decode cX12_ring 21 = .ok (.iconst (-1), 1) := by decide +kernel
theorem dX12_ring_22 : decode cX12_ring 22 = .ok (.if_icmp .ge 6, 3) := by decide +kernel
theorem dX12_ring_25 : decode cX12_ring 25 = .ok (.bipush (-3), 2) := by decide +kernel
theorem dX12_ring_27 : decode cX12_ring 27 = .ok (.ireturn, 1) := by decide +kernel
theorem dX12_ring_28 : decode cX12_ring 28 = .ok (.aload_n 0, 1) := by decide +kernel
theorem dX12_ring_29 : decode cX12_ring 29 = .ok (.iconst 0, 1) := by decide +kernel
theorem dX12_ring_30 : decode cX12_ring 30 = .ok (.invokevirtual 209, 3) := by decide +kernel
theorem dX12_ring_33 : decode cX12_ring 33 = .ok (.aload_n 0, 1) := by decide +kernel
theorem dX12_ring_34 : decode cX12_ring 34 = .ok (.iload_n 1, 1) := by decide +kernel
theorem dX12_ring_35 : decode cX12_ring 35 = .ok (.invokevirtual 212, 3) := by decide +kernel
theorem dX12_ring_38 : decode cX12_ring 38 = .ok (.ifCond .ne 5, 3) := by decide +kernel
theorem dX12_ring_41 : decode cX12_ring 41 = .ok (.iconst (-1), 1) := by decide +kernel
theorem dX12_ring_42 : decode cX12_ring 42 = .ok (.ireturn, 1) := by decide +kernel
theorem dX12_ring_43 : decode cX12_ring 43 = .ok (.aload_n 0, 1) := by decide +kernel
theorem dX12_ring_44 : decode cX12_ring 44 = .ok (.getfield 51, 3) := by decide +kernel
theorem dX12_ring_47 : decode cX12_ring 47 = .ok (.iload_n 1, 1) := by decide +kernel
theorem dX12_ring_48 : decode cX12_ring 48 = .ok (.iaload, 1) := by decide +kernel
theorem dX12_ring_49 : decode cX12_ring 49 = .ok (.istore_n 3, 1) := by decide +kernel
theorem dX12_ring_50 : decode cX12_ring 50 = .ok (.iload_n 2, 1) := by decide +kernel
theorem dX12_ring_51 : decode cX12_ring 51 = .ok (.iconst (-1), 1) := by decide +kernel
theorem dX12_ring_52 : decode cX12_ring 52 = .ok (.if_icmp .ne 5, 3) := by decide +kernel
theorem dX12_ring_55 : decode cX12_ring 55 = .ok (.iload_n 3, 1) := by decide +kernel
theorem dX12_ring_56 : decode cX12_ring 56 = .ok (.ireturn, 1) := by decide +kernel
theorem dX12_ring_57 : decode cX12_ring 57 = .ok (.iload_n 2, 1) := by decide +kernel
theorem dX12_ring_58 : decode cX12_ring 58 = .ok (.iload_n 3, 1) := by decide +kernel
theorem dX12_ring_59 : decode cX12_ring 59 = .ok (.if_icmp .lt 5, 3) := by decide +kernel
theorem dX12_ring_62 : decode cX12_ring 62 = .ok (.iconst (-1), 1) := by decide +kernel
theorem dX12_ring_63 : decode cX12_ring 63 = .ok (.ireturn, 1) := by decide +kernel
theorem dX12_ring_64 : decode cX12_ring 64 = .ok (.iload_n 1, 1) := by decide +kernel
theorem dX12_ring_65 : decode cX12_ring 65 = .ok (.istore 4, 2) := by decide +kernel
theorem dX12_ring_67 : decode cX12_ring 67 = .ok (.iconst 0, 1) := by decide +kernel
theorem dX12_ring_68 : decode cX12_ring 68 = .ok (.istore 5, 2) := by decide +kernel
theorem dX12_ring_70 : decode cX12_ring 70 = .ok (.iload 5, 2) := by decide +kernel
theorem dX12_ring_72 : decode cX12_ring 72 = .ok (.iload_n 2, 1) := by decide +kernel
theorem dX12_ring_73 : decode cX12_ring 73 = .ok (.if_icmp .ge 70, 3) := by decide +kernel
theorem dX12_ring_76 : decode cX12_ring 76 = .ok (.iconst 0, 1) := by decide +kernel
theorem dX12_ring_77 : decode cX12_ring 77 = .ok (.istore 6, 2) := by decide +kernel
theorem dX12_ring_79 : decode cX12_ring 79 = .ok (.aload_n 0, 1) := by decide +kernel
theorem dX12_ring_80 : decode cX12_ring 80 = .ok (.getfield 54, 3) := by decide +kernel
theorem dX12_ring_83 : decode cX12_ring 83 = .ok (.iload 6, 2) := by decide +kernel
theorem dX12_ring_85 : decode cX12_ring 85 = .ok (.baload, 1) := by decide +kernel
theorem dX12_ring_86 : decode cX12_ring 86 = .ok (.ifCond .eq 41, 3) := by decide +kernel
theorem dX12_ring_89 : decode cX12_ring 89 = .ok (.aload_n 0, 1) := by decide +kernel
theorem dX12_ring_90 : decode cX12_ring 90 = .ok (.getfield 48, 3) := by decide +kernel
theorem dX12_ring_93 : decode cX12_ring 93 = .ok (.bipush 40, 2) := by decide +kernel
theorem dX12_ring_95 : decode cX12_ring 95 = .ok (.iload 4, 2) := by decide +kernel
theorem dX12_ring_97 : decode cX12_ring 97 = .ok (.imul, 1) := by decide +kernel
theorem dX12_ring_98 : decode cX12_ring 98 = .ok (.iload 6, 2) := by decide +kernel
theorem dX12_ring_100 : decode cX12_ring 100 = .ok (.iadd, 1) := by decide +kernel
theorem dX12_ring_101 : decode cX12_ring 101 = .ok (.baload, 1) := by decide +kernel
theorem dX12_ring_102 : decode cX12_ring 102 = .ok (.ifCond .eq 25, 3) := by decide +kernel
theorem dX12_ring_105 : decode cX12_ring 105 = .ok (.iload 6, 2) := by decide +kernel
theorem dX12_ring_107 : decode cX12_ring 107 = .ok (.iload_n 1, 1) := by decide +kernel
theorem dX12_ring_108 : decode cX12_ring 108 = .ok (.if_icmp .eq 19, 3) := by decide +kernel
theorem dX12_ring_111 : decode cX12_ring 111 = .ok (.aload_n 0, 1) := by decide +kernel
theorem dX12_ring_112 : decode cX12_ring 112 = .ok (.getfield 51, 3) := by decide +kernel
theorem dX12_ring_115 : decode cX12_ring 115 = .ok (.iload 6, 2) := by decide +kernel
theorem dX12_ring_117 : decode cX12_ring 117 = .ok (.iaload, 1) := by decide +kernel
theorem dX12_ring_118 : decode cX12_ring 118 = .ok (.iload_n 3, 1) := by decide +kernel
theorem dX12_ring_119 : decode cX12_ring 119 = .ok (.iload 5, 2) := by decide +kernel
theorem dX12_ring_121 : decode cX12_ring 121 = .ok (.isub, 1) := by decide +kernel
theorem dX12_ring_122 : decode cX12_ring 122 = .ok (.iconst 1, 1) := by decide +kernel
theorem dX12_ring_123 : decode cX12_ring 123 = .ok (.isub, 1) := by decide +kernel
theorem dX12_ring_124 : decode cX12_ring 124 = .ok (.if_icmp .eq 9, 3) := by decide +kernel
theorem dX12_ring_127 : decode cX12_ring 127 = .ok (.iinc 6 1, 3) := by decide +kernel
theorem dX12_ring_130 : decode cX12_ring 130 = .ok (.goto (-51), 3) := by decide +kernel
theorem dX12_ring_133 : decode cX12_ring 133 = .ok (.iload 6, 2) := by decide +kernel
theorem dX12_ring_135 : decode cX12_ring 135 = .ok (.istore 4, 2) := by decide +kernel
theorem dX12_ring_137 : decode cX12_ring 137 = .ok (.iinc 5 1, 3) := by decide +kernel
theorem dX12_ring_140 : decode cX12_ring 140 = .ok (.goto (-70), 3) := by decide +kernel
theorem dX12_ring_143 : decode cX12_ring 143 = .ok (.iload 4, 2) := by decide +kernel
theorem dX12_ring_145 : decode cX12_ring 145 = .ok (.ireturn, 1) := by decide +kernel
abbrev k_X12_ring (E : g_E) (l : Launch) (D : g_D) (v1 : Int) (v2 : Int) (K : Int → g_D → Prop) : Prop := g_Ki E l m_X12_ring 4 [g_R 208, g_I v1, g_I v2] g_SH D K
abbrev n_X12_ring (E : g_E) (l : Launch) (D : g_D) (pc : Nat) (L : List (Option g_V)) (K : Int → g_D → Prop) : Prop := g_N E l m_X12_ring 4 pc L [] g_SH D (g_Ri g_SH K)
theorem s_X12_ring {E : g_E} {l : Launch} {D : g_D} {K : Int → g_D → Prop} {v1 : Int} {v2 : Int}  (hF : g_okD D → g_r v1 → g_r v2 → ∀ D1, D1 = g_up D 208 0 0 → (k_X12_laysCommands E l D1 (fun D2 => k_X12_isCommand E l D2 v1 (fun x3 D3 => g_r x3 → (¬ x3 = 0 → ((-1) ≤ v2 → k_X12_isAmongCopies E l D3 0 (fun D4 => k_X12_isRinged E l D4 v1 (fun x5 D5 => g_r x5 → (¬ x5 = 0 → (0 ≤ v1 ∧ v1 < 40) ∧ ((¬ v2 = (-1) → (v2 < (D5 221 v1.toNat) → n_X12_ring E l D5 70 [some (g_R 208), some (g_I v1), some (g_I v2), some (g_I (D5 221 v1.toNat)), some (g_I v1), some (g_I 0), none] K) ∧ (¬ v2 < (D5 221 v1.toNat) → K (-1) D5)) ∧ (v2 = (-1) → K (D5 221 v1.toNat) D5))) ∧ (x5 = 0 → K (-1) D5)))) ∧ (¬ (-1) ≤ v2 → K (-3) D3)) ∧ (x3 = 0 → K (-2) D3))))) : k_X12_ring E l D v1 v2 K := by
  refine g_enter (by decide) (Nat.le_of_ble_eq_true rfl) ?_
  show g_N E l m_X12_ring 4 0 [some (g_R 208), some (g_I v1), some (g_I v2), none, none, none, none] [] g_SH D (g_Ri g_SH K)
  refine g_use (fun ok => ?_)
  have hF := hF ok.2.1 (ok.loc (i := 1) rfl) (ok.loc (i := 2) rfl)
  refine g_aload_n dX12_ring_0 rfl ?_
  refine g_iconst dX12_ring_1 ⟨by decide, by decide⟩ ?_
  let D1 : g_D := g_up D 208 0 0
  have hF := hF D1 rfl
  refine g_put dX12_ring_2 fd_X12_1 (g_ftyI (C := RX12) (T := TX12) (N := 51) rfl rfl (by decide +kernel)) sh_208 rfl ?_
  refine g_aload_n dX12_ring_5 rfl ?_
  refine gw_cVv (b := 208) (As := []) (rest := []) dX12_ring_6 mv_X12_193 sh_208 rfl (Nat.le_of_ble_eq_true rfl) (by decide) rfl hF ?_
  intro D2 hF
  refine g_aload_n dX12_ring_9 rfl ?_
  refine g_iload_n dX12_ring_10 rfl ?_
  refine gw_cVi (b := 208) (As := [g_I v1]) (rest := []) dX12_ring_11 mv_X12_196 sh_208 rfl (Nat.le_of_ble_eq_true rfl) (by decide) rfl hF ?_
  intro x3 D3 hx3 hF
  have hF := hF hx3
  refine g_ifne dX12_ring_14 rfl (fun q => ?_) (fun q => ?_)
  · have hF := hF.1 q
    refine g_iload_n dX12_ring_20 rfl ?_
    refine g_iconst dX12_ring_21 ⟨by decide, by decide⟩ ?_
    refine g_cge dX12_ring_22 rfl (fun q => ?_) (fun q => ?_)
    · have hF := hF.1 q
      refine g_aload_n dX12_ring_28 rfl ?_
      refine g_iconst dX12_ring_29 ⟨by decide, by decide⟩ ?_
      refine gw_cVv (b := 208) (As := [g_I 0]) (rest := []) dX12_ring_30 mv_X12_209 sh_208 rfl (Nat.le_of_ble_eq_true rfl) (by decide) rfl hF ?_
      intro D4 hF
      refine g_aload_n dX12_ring_33 rfl ?_
      refine g_iload_n dX12_ring_34 rfl ?_
      refine gw_cVi (b := 208) (As := [g_I v1]) (rest := []) dX12_ring_35 mv_X12_212 sh_208 rfl (Nat.le_of_ble_eq_true rfl) (by decide) rfl hF ?_
      intro x5 D5 hx5 hF
      have hF := hF hx5
      refine g_ifne dX12_ring_38 rfl (fun q => ?_) (fun q => ?_)
      · have hF := hF.1 q
        refine g_aload_n dX12_ring_43 rfl ?_
        refine g_getR dX12_ring_44 fd_X12_51 sh_208 rfl ?_
        refine g_iload_n dX12_ring_47 rfl ?_
        obtain ⟨hc, hF⟩ := hF
        refine g_iald dX12_ring_48 sh_221 hc.1 hc.2 ?_
        refine gw_istore_n (L' := [some (g_R 208), some (g_I v1), some (g_I v2), some (g_I (D5 221 v1.toNat)), none, none, none]) dX12_ring_49 (by decide) rfl ?_
        refine g_iload_n dX12_ring_50 rfl ?_
        refine g_iconst dX12_ring_51 ⟨by decide, by decide⟩ ?_
        refine g_cne dX12_ring_52 rfl (fun q => ?_) (fun q => ?_)
        · have hF := hF.1 q
          refine g_iload_n dX12_ring_57 rfl ?_
          refine g_iload_n dX12_ring_58 rfl ?_
          refine g_clt dX12_ring_59 rfl (fun q => ?_) (fun q => ?_)
          · have hF := hF.1 q
            refine g_iload_n dX12_ring_64 rfl ?_
            refine gw_istore (L' := [some (g_R 208), some (g_I v1), some (g_I v2), some (g_I (D5 221 v1.toNat)), some (g_I v1), none, none]) dX12_ring_65 (by decide) rfl ?_
            refine g_iconst dX12_ring_67 ⟨by decide, by decide⟩ ?_
            refine gw_istore (L' := [some (g_R 208), some (g_I v1), some (g_I v2), some (g_I (D5 221 v1.toNat)), some (g_I v1), some (g_I 0), none]) dX12_ring_68 (by decide) rfl ?_
            exact hF
          · have hF := hF.2 q
            refine g_iconst dX12_ring_62 ⟨by decide, by decide⟩ ?_
            exact gw_iret dX12_ring_63 rfl hF
        · have hF := hF.2 q
          refine g_iload_n dX12_ring_55 rfl ?_
          exact gw_iret dX12_ring_56 rfl hF
      · have hF := hF.2 q
        refine g_iconst dX12_ring_41 ⟨by decide, by decide⟩ ?_
        exact gw_iret dX12_ring_42 rfl hF
    · have hF := hF.2 q
      refine g_bipush dX12_ring_25 ⟨by decide, by decide⟩ ?_
      exact gw_iret dX12_ring_27 rfl hF
  · have hF := hF.2 q
    refine g_bipush dX12_ring_17 ⟨by decide, by decide⟩ ?_
    exact gw_iret dX12_ring_19 rfl hF
theorem s_X12_ring_70 {E : g_E} {l : Launch} {D : g_D} {K : Int → g_D → Prop} {v1 : Int} {v2 : Int} {v3 : Int} {v4 : Int} {v5 : Int}  (hF : g_okD D → g_r v1 → g_r v2 → g_r v3 → g_r v4 → g_r v5 → (v2 ≤ v5 → K v4 D) ∧ (¬ v2 ≤ v5 → n_X12_ring E l D 79 [some (g_R 208), some (g_I v1), some (g_I v2), some (g_I v3), some (g_I v4), some (g_I v5), some (g_I 0)] K)) : n_X12_ring E l D 70 [some (g_R 208), some (g_I v1), some (g_I v2), some (g_I v3), some (g_I v4), some (g_I v5), none] K := by
  refine g_use (fun ok => ?_)
  have hF := hF ok.2.1 (ok.loc (i := 1) rfl) (ok.loc (i := 2) rfl) (ok.loc (i := 3) rfl) (ok.loc (i := 4) rfl) (ok.loc (i := 5) rfl)
  refine g_iload dX12_ring_70 rfl ?_
  refine g_iload_n dX12_ring_72 rfl ?_
  refine g_cge dX12_ring_73 rfl (fun q => ?_) (fun q => ?_)
  · have hF := hF.1 q
    refine g_iload dX12_ring_143 rfl ?_
    exact gw_iret dX12_ring_145 rfl hF
  · have hF := hF.2 q
    refine g_iconst dX12_ring_76 ⟨by decide, by decide⟩ ?_
    refine gw_istore (L' := [some (g_R 208), some (g_I v1), some (g_I v2), some (g_I v3), some (g_I v4), some (g_I v5), some (g_I 0)]) dX12_ring_77 (by decide) rfl ?_
    exact hF
theorem s_X12_ring_79 {E : g_E} {l : Launch} {D : g_D} {K : Int → g_D → Prop} {v1 : Int} {v2 : Int} {v3 : Int} {v4 : Int} {v5 : Int} {v6 : Int}  (hF : g_okD D → g_r v1 → g_r v2 → g_r v3 → g_r v4 → g_r v5 → g_r v6 → (0 ≤ v6 ∧ v6 < 40) ∧ (((D 222 v6.toNat) = 0 → (g_r (v6 + 1)) ∧ (n_X12_ring E l D 79 [some (g_R 208), some (g_I v1), some (g_I v2), some (g_I v3), some (g_I v4), some (g_I v5), some (g_I (v6 + 1))] K)) ∧ (¬ (D 222 v6.toNat) = 0 → (g_r (40 * v4)) ∧ ((g_r ((40 * v4) + v6)) ∧ ((0 ≤ ((40 * v4) + v6) ∧ ((40 * v4) + v6) < 1600) ∧ (((D 220 ((40 * v4) + v6).toNat) = 0 → (g_r (v6 + 1)) ∧ (n_X12_ring E l D 79 [some (g_R 208), some (g_I v1), some (g_I v2), some (g_I v3), some (g_I v4), some (g_I v5), some (g_I (v6 + 1))] K)) ∧ (¬ (D 220 ((40 * v4) + v6).toNat) = 0 → (v6 = v1 → (g_r (v6 + 1)) ∧ (n_X12_ring E l D 79 [some (g_R 208), some (g_I v1), some (g_I v2), some (g_I v3), some (g_I v4), some (g_I v5), some (g_I (v6 + 1))] K)) ∧ (¬ v6 = v1 → (0 ≤ v6 ∧ v6 < 40) ∧ ((g_r (v3 - v5)) ∧ ((g_r ((v3 - v5) - 1)) ∧ (((D 221 v6.toNat) = ((v3 - v5) - 1) → (g_r (v5 + 1)) ∧ (n_X12_ring E l D 70 [some (g_R 208), some (g_I v1), some (g_I v2), some (g_I v3), some (g_I v6), some (g_I (v5 + 1)), none] K)) ∧ (¬ (D 221 v6.toNat) = ((v3 - v5) - 1) → (g_r (v6 + 1)) ∧ (n_X12_ring E l D 79 [some (g_R 208), some (g_I v1), some (g_I v2), some (g_I v3), some (g_I v4), some (g_I v5), some (g_I (v6 + 1))] K))))))))))))) : n_X12_ring E l D 79 [some (g_R 208), some (g_I v1), some (g_I v2), some (g_I v3), some (g_I v4), some (g_I v5), some (g_I v6)] K := by
  refine g_use (fun ok => ?_)
  have hF := hF ok.2.1 (ok.loc (i := 1) rfl) (ok.loc (i := 2) rfl) (ok.loc (i := 3) rfl) (ok.loc (i := 4) rfl) (ok.loc (i := 5) rfl) (ok.loc (i := 6) rfl)
  refine g_aload_n dX12_ring_79 rfl ?_
  refine g_getR dX12_ring_80 fd_X12_54 sh_208 rfl ?_
  refine g_iload dX12_ring_83 rfl ?_
  obtain ⟨hc, hF⟩ := hF
  refine g_bald dX12_ring_85 sh_222 hc.1 hc.2 ?_
  refine g_ifeq dX12_ring_86 rfl (fun q => ?_) (fun q => ?_)
  · have hF := hF.1 q
    obtain ⟨hc, hF⟩ := hF
    refine gw_iinc (L' := [some (g_R 208), some (g_I v1), some (g_I v2), some (g_I v3), some (g_I v4), some (g_I v5), some (g_I (v6 + 1))]) dX12_ring_127 rfl hc (by decide) rfl ?_
    refine g_goto dX12_ring_130 rfl ?_
    exact hF
  · have hF := hF.2 q
    refine g_aload_n dX12_ring_89 rfl ?_
    refine g_getR dX12_ring_90 fd_X12_48 sh_208 rfl ?_
    refine g_bipush dX12_ring_93 ⟨by decide, by decide⟩ ?_
    refine g_iload dX12_ring_95 rfl ?_
    obtain ⟨hc, hF⟩ := hF
    refine g_imul dX12_ring_97 hc ?_
    refine g_iload dX12_ring_98 rfl ?_
    obtain ⟨hc, hF⟩ := hF
    refine g_iadd dX12_ring_100 hc ?_
    obtain ⟨hc, hF⟩ := hF
    refine g_bald dX12_ring_101 sh_220 hc.1 hc.2 ?_
    refine g_ifeq dX12_ring_102 rfl (fun q => ?_) (fun q => ?_)
    · have hF := hF.1 q
      obtain ⟨hc, hF⟩ := hF
      refine gw_iinc (L' := [some (g_R 208), some (g_I v1), some (g_I v2), some (g_I v3), some (g_I v4), some (g_I v5), some (g_I (v6 + 1))]) dX12_ring_127 rfl hc (by decide) rfl ?_
      refine g_goto dX12_ring_130 rfl ?_
      exact hF
    · have hF := hF.2 q
      refine g_iload dX12_ring_105 rfl ?_
      refine g_iload_n dX12_ring_107 rfl ?_
      refine g_ceq dX12_ring_108 rfl (fun q => ?_) (fun q => ?_)
      · have hF := hF.1 q
        obtain ⟨hc, hF⟩ := hF
        refine gw_iinc (L' := [some (g_R 208), some (g_I v1), some (g_I v2), some (g_I v3), some (g_I v4), some (g_I v5), some (g_I (v6 + 1))]) dX12_ring_127 rfl hc (by decide) rfl ?_
        refine g_goto dX12_ring_130 rfl ?_
        exact hF
      · have hF := hF.2 q
        refine g_aload_n dX12_ring_111 rfl ?_
        refine g_getR dX12_ring_112 fd_X12_51 sh_208 rfl ?_
        refine g_iload dX12_ring_115 rfl ?_
        obtain ⟨hc, hF⟩ := hF
        refine g_iald dX12_ring_117 sh_221 hc.1 hc.2 ?_
        refine g_iload_n dX12_ring_118 rfl ?_
        refine g_iload dX12_ring_119 rfl ?_
        obtain ⟨hc, hF⟩ := hF
        refine g_isub dX12_ring_121 hc ?_
        refine g_iconst dX12_ring_122 ⟨by decide, by decide⟩ ?_
        obtain ⟨hc, hF⟩ := hF
        refine g_isub dX12_ring_123 hc ?_
        refine g_ceq dX12_ring_124 rfl (fun q => ?_) (fun q => ?_)
        · have hF := hF.1 q
          refine g_iload dX12_ring_133 rfl ?_
          refine gw_istore (L' := [some (g_R 208), some (g_I v1), some (g_I v2), some (g_I v3), some (g_I v6), some (g_I v5), some (g_I v6)]) dX12_ring_135 (by decide) rfl ?_
          obtain ⟨hc, hF⟩ := hF
          refine gw_iinc (L' := [some (g_R 208), some (g_I v1), some (g_I v2), some (g_I v3), some (g_I v6), some (g_I (v5 + 1)), some (g_I v6)]) dX12_ring_137 rfl hc (by decide) rfl ?_
          refine g_goto dX12_ring_140 rfl ?_
          exact g_forget (L' := [some (g_R 208), some (g_I v1), some (g_I v2), some (g_I v3), some (g_I v6), some (g_I (v5 + 1)), none]) ⟨rfl, ⟨rfl, ⟨rfl, ⟨rfl, ⟨rfl, ⟨rfl, trivial⟩⟩⟩⟩⟩⟩ hF
        · have hF := hF.2 q
          obtain ⟨hc, hF⟩ := hF
          refine gw_iinc (L' := [some (g_R 208), some (g_I v1), some (g_I v2), some (g_I v3), some (g_I v4), some (g_I v5), some (g_I (v6 + 1))]) dX12_ring_127 rfl hc (by decide) rfl ?_
          refine g_goto dX12_ring_130 rfl ?_
          exact hF
theorem dX12_ringed_0 : decode cX12_ringed 0 = .ok (.aload_n 0, 1) := by decide +kernel
theorem dX12_ringed_1 : decode cX12_ringed 1 = .ok (.iconst 0, 1) := by decide +kernel
theorem dX12_ringed_2 : decode cX12_ringed 2 = .ok (.putfield 1, 3) := by decide +kernel
theorem dX12_ringed_5 : decode cX12_ringed 5 = .ok (.aload_n 0, 1) := by decide +kernel
theorem dX12_ringed_6 : decode cX12_ringed 6 = .ok (.invokevirtual 193, 3) := by decide +kernel
theorem dX12_ringed_9 : decode cX12_ringed 9 = .ok (.aload_n 0, 1) := by decide +kernel
theorem dX12_ringed_10 : decode cX12_ringed 10 = .ok (.iconst 0, 1) := by decide +kernel
theorem dX12_ringed_11 : decode cX12_ringed 11 = .ok (.invokevirtual 209, 3) := by decide +kernel
theorem dX12_ringed_14 : decode cX12_ringed 14 = .ok (.iconst 0, 1) := by decide +kernel
theorem dX12_ringed_15 : decode cX12_ringed 15 = .ok (.istore_n 1, 1) := by decide +kernel
theorem dX12_ringed_16 : decode cX12_ringed 16 = .ok (.iconst 0, 1) := by decide +kernel
theorem dX12_ringed_17 : decode cX12_ringed 17 = .ok (.istore_n 2, 1) := by decide +kernel
theorem dX12_ringed_18 : decode cX12_ringed 18 = .ok (.iload_n 2, 1) := by decide +kernel
theorem dX12_ringed_19 : decode cX12_ringed 19 = .ok (.aload_n 0, 1) := by decide +kernel
theorem dX12_ringed_20 : decode cX12_ringed 20 = .ok (.getfield 182, 3) := by decide +kernel
theorem dX12_ringed_23 : decode cX12_ringed 23 = .ok (.if_icmp .ge 27, 3) := by decide +kernel
theorem dX12_ringed_26 : decode cX12_ringed 26 = .ok (.iload_n 1, 1) := by decide +kernel
theorem dX12_ringed_27 : decode cX12_ringed 27 = .ok (.aload_n 0, 1) := by decide +kernel
theorem dX12_ringed_28 : decode cX12_ringed 28 = .ok (.iload_n 2, 1) := by decide +kernel
theorem dX12_ringed_29 : decode cX12_ringed 29 = .ok (.invokevirtual 212, 3) := by decide +kernel
theorem dX12_ringed_32 : decode cX12_ringed 32 = .ok (.ifCond .eq 9, 3) := by decide +kernel
theorem dX12_ringed_35 : decode cX12_ringed 35 = .ok (.iconst 1, 1) := by decide +kernel
theorem dX12_ringed_36 : decode cX12_ringed 36 = .ok (.iload_n 2, 1) := by decide +kernel
theorem dX12_ringed_37 : decode cX12_ringed 37 = .ok (.ishl, 1) := by decide +kernel
theorem dX12_ringed_38 : decode cX12_ringed 38 = .ok (.goto 4, 3) := by decide +kernel
theorem dX12_ringed_41 : decode cX12_ringed 41 = .ok (.iconst 0, 1) := by decide +kernel
theorem dX12_ringed_42 : decode cX12_ringed 42 = .ok (.ior, 1) := by decide +kernel
theorem dX12_ringed_43 : decode cX12_ringed 43 = .ok (.istore_n 1, 1) := by decide +kernel
theorem dX12_ringed_44 : decode cX12_ringed 44 = .ok (.iinc 2 1, 3) := by decide +kernel
theorem dX12_ringed_47 : decode cX12_ringed 47 = .ok (.goto (-29), 3) := by decide +kernel
theorem dX12_ringed_50 : decode cX12_ringed 50 = .ok (.iload_n 1, 1) := by decide +kernel
theorem dX12_ringed_51 : decode cX12_ringed 51 = .ok (.ireturn, 1) := by decide +kernel
abbrev k_X12_ringed (E : g_E) (l : Launch) (D : g_D) (K : Int → g_D → Prop) : Prop := g_Ki E l m_X12_ringed 4 [g_R 208] g_SH D K
abbrev n_X12_ringed (E : g_E) (l : Launch) (D : g_D) (pc : Nat) (L : List (Option g_V)) (K : Int → g_D → Prop) : Prop := g_N E l m_X12_ringed 4 pc L [] g_SH D (g_Ri g_SH K)
theorem s_X12_ringed {E : g_E} {l : Launch} {D : g_D} {K : Int → g_D → Prop}   (hF : g_okD D → ∀ D1, D1 = g_up D 208 0 0 → (k_X12_laysCommands E l D1 (fun D2 => k_X12_isAmongCopies E l D2 0 (fun D3 => n_X12_ringed E l D3 18 [some (g_R 208), some (g_I 0), some (g_I 0)] K)))) : k_X12_ringed E l D K := by
  refine g_enter (by decide) (Nat.le_of_ble_eq_true rfl) ?_
  show g_N E l m_X12_ringed 4 0 [some (g_R 208), none, none] [] g_SH D (g_Ri g_SH K)
  refine g_use (fun ok => ?_)
  have hF := hF ok.2.1
  refine g_aload_n dX12_ringed_0 rfl ?_
  refine g_iconst dX12_ringed_1 ⟨by decide, by decide⟩ ?_
  let D1 : g_D := g_up D 208 0 0
  have hF := hF D1 rfl
  refine g_put dX12_ringed_2 fd_X12_1 (g_ftyI (C := RX12) (T := TX12) (N := 51) rfl rfl (by decide +kernel)) sh_208 rfl ?_
  refine g_aload_n dX12_ringed_5 rfl ?_
  refine gw_cVv (b := 208) (As := []) (rest := []) dX12_ringed_6 mv_X12_193 sh_208 rfl (Nat.le_of_ble_eq_true rfl) (by decide) rfl hF ?_
  intro D2 hF
  refine g_aload_n dX12_ringed_9 rfl ?_
  refine g_iconst dX12_ringed_10 ⟨by decide, by decide⟩ ?_
  refine gw_cVv (b := 208) (As := [g_I 0]) (rest := []) dX12_ringed_11 mv_X12_209 sh_208 rfl (Nat.le_of_ble_eq_true rfl) (by decide) rfl hF ?_
  intro D3 hF
  refine g_iconst dX12_ringed_14 ⟨by decide, by decide⟩ ?_
  refine gw_istore_n (L' := [some (g_R 208), some (g_I 0), none]) dX12_ringed_15 (by decide) rfl ?_
  refine g_iconst dX12_ringed_16 ⟨by decide, by decide⟩ ?_
  refine gw_istore_n (L' := [some (g_R 208), some (g_I 0), some (g_I 0)]) dX12_ringed_17 (by decide) rfl ?_
  exact hF
theorem s_X12_ringed_18 {E : g_E} {l : Launch} {D : g_D} {K : Int → g_D → Prop} {v1 : Int} {v2 : Int}  (hF : g_okD D → g_r v1 → g_r v2 → ((D 208 14) ≤ v2 → K v1 D) ∧ (¬ (D 208 14) ≤ v2 → k_X12_isRinged E l D v2 (fun x1 D1 => g_r x1 → (x1 = 0 → (g_r (v2 + 1)) ∧ (n_X12_ringed E l D1 18 [some (g_R 208), some (g_I (g_or v1 0)), some (g_I (v2 + 1))] K)) ∧ (¬ x1 = 0 → (g_r (v2 + 1)) ∧ (n_X12_ringed E l D1 18 [some (g_R 208), some (g_I (g_or v1 (g_shl 1 v2))), some (g_I (v2 + 1))] K))))) : n_X12_ringed E l D 18 [some (g_R 208), some (g_I v1), some (g_I v2)] K := by
  refine g_use (fun ok => ?_)
  have hF := hF ok.2.1 (ok.loc (i := 1) rfl) (ok.loc (i := 2) rfl)
  refine g_iload_n dX12_ringed_18 rfl ?_
  refine g_aload_n dX12_ringed_19 rfl ?_
  refine g_getI dX12_ringed_20 fd_X12_182 sh_208 rfl ?_
  refine g_cge dX12_ringed_23 rfl (fun q => ?_) (fun q => ?_)
  · have hF := hF.1 q
    refine g_iload_n dX12_ringed_50 rfl ?_
    exact gw_iret dX12_ringed_51 rfl hF
  · have hF := hF.2 q
    refine g_iload_n dX12_ringed_26 rfl ?_
    refine g_aload_n dX12_ringed_27 rfl ?_
    refine g_iload_n dX12_ringed_28 rfl ?_
    refine gw_cVi (b := 208) (As := [g_I v2]) (rest := [g_I v1]) dX12_ringed_29 mv_X12_212 sh_208 rfl (Nat.le_of_ble_eq_true rfl) (by decide) rfl hF ?_
    intro x1 D1 hx1 hF
    have hF := hF hx1
    refine g_ifeq dX12_ringed_32 rfl (fun q => ?_) (fun q => ?_)
    · have hF := hF.1 q
      refine g_iconst dX12_ringed_41 ⟨by decide, by decide⟩ ?_
      refine g_ior dX12_ringed_42 ?_
      refine gw_istore_n (L' := [some (g_R 208), some (g_I (g_or v1 0)), some (g_I v2)]) dX12_ringed_43 (by decide) rfl ?_
      obtain ⟨hc, hF⟩ := hF
      refine gw_iinc (L' := [some (g_R 208), some (g_I (g_or v1 0)), some (g_I (v2 + 1))]) dX12_ringed_44 rfl hc (by decide) rfl ?_
      refine g_goto dX12_ringed_47 rfl ?_
      exact hF
    · have hF := hF.2 q
      refine g_iconst dX12_ringed_35 ⟨by decide, by decide⟩ ?_
      refine g_iload_n dX12_ringed_36 rfl ?_
      refine g_ishl dX12_ringed_37 ?_
      refine g_goto dX12_ringed_38 rfl ?_
      refine g_ior dX12_ringed_42 ?_
      refine gw_istore_n (L' := [some (g_R 208), some (g_I (g_or v1 (g_shl 1 v2))), some (g_I v2)]) dX12_ringed_43 (by decide) rfl ?_
      obtain ⟨hc, hF⟩ := hF
      refine gw_iinc (L' := [some (g_R 208), some (g_I (g_or v1 (g_shl 1 v2))), some (g_I (v2 + 1))]) dX12_ringed_44 rfl hc (by decide) rfl ?_
      refine g_goto dX12_ringed_47 rfl ?_
      exact hF
theorem dX12_run_0 : decode cX12_run 0 = .ok (.aload_n 0, 1) := by decide +kernel
theorem dX12_run_1 : decode cX12_run 1 = .ok (.iconst 0, 1) := by decide +kernel
theorem dX12_run_2 : decode cX12_run 2 = .ok (.putfield 1, 3) := by decide +kernel
theorem dX12_run_5 : decode cX12_run 5 = .ok (.iload_n 1, 1) := by decide +kernel
theorem dX12_run_6 : decode cX12_run 6 = .ok (.i2l, 1) := by decide +kernel
theorem dX12_run_7 : decode cX12_run 7 = .ok (.lconst 0, 1) := by decide +kernel
theorem dX12_run_8 : decode cX12_run 8 = .ok (.aload_n 0, 1) := by decide +kernel
theorem dX12_run_9 : decode cX12_run 9 = .ok (.getfield 13, 3) := by decide +kernel
theorem dX12_run_12 : decode cX12_run 12 = .ok (.iconst 1, 1) := by decide +kernel
theorem dX12_run_13 : decode cX12_run 13 = .ok (.iaload, 1) := by decide +kernel
theorem dX12_run_14 : decode cX12_run 14 = .ok (.iconst 1, 1) := by decide +kernel
theorem dX12_run_15 : decode cX12_run 15 = .ok (.isub, 1) := by decide +kernel
theorem dX12_run_16 : decode cX12_run 16 = .ok (.i2l, 1) := by decide +kernel
theorem dX12_run_17 : decode cX12_run 17 = .ok (.invokestatic 131, 3) := by decide +kernel
theorem dX12_run_20 : decode cX12_run 20 = .ok (.ifCond .eq 15, 3) := by decide +kernel
theorem dX12_run_23 : decode cX12_run 23 = .ok (.iload_n 2, 1) := by decide +kernel
theorem dX12_run_24 : decode cX12_run 24 = .ok (.i2l, 1) := by decide +kernel
theorem dX12_run_25 : decode cX12_run 25 = .ok (.lconst 0, 1) := by decide +kernel
theorem dX12_run_26 : decode cX12_run 26 = .ok (.ldc2_w 149, 3) := by decide +kernel
theorem dX12_run_29 : decode cX12_run 29 = .ok (.invokestatic 131, 3) := by decide +kernel
theorem dX12_run_32 : decode cX12_run 32 = .ok (.ifCond .ne 6, 3) := by decide +kernel
theorem dX12_run_35 : decode cX12_run 35 = .ok (.bipush (-2), 2) := by decide +kernel
theorem dX12_run_37 : decode cX12_run 37 = .ok (.ireturn, 1) := by decide +kernel
theorem dX12_run_38 : decode cX12_run 38 = .ok (.aload_n 0, 1) := by decide +kernel
theorem dX12_run_39 : decode cX12_run 39 = .ok (.iload_n 1, 1) := by decide +kernel
theorem dX12_run_40 : decode cX12_run 40 = .ok (.invokevirtual 168, 3) := by decide +kernel
theorem dX12_run_43 : decode cX12_run 43 = .ok (.istore_n 3, 1) := by decide +kernel
theorem dX12_run_44 : decode cX12_run 44 = .ok (.iload_n 2, 1) := by decide +kernel
theorem dX12_run_45 : decode cX12_run 45 = .ok (.ifCond .ne 5, 3) := by decide +kernel
theorem dX12_run_48 : decode cX12_run 48 = .ok (.iload_n 3, 1) := by decide +kernel
theorem dX12_run_49 : decode cX12_run 49 = .ok (.ireturn, 1) := by decide +kernel
theorem dX12_run_50 : decode cX12_run 50 = .ok (.iload_n 2, 1) := by decide +kernel
theorem dX12_run_51 : decode cX12_run 51 = .ok (.iconst 1, 1) := by decide +kernel
theorem dX12_run_52 : decode cX12_run 52 = .ok (.if_icmp .ne 9, 3) := by decide +kernel
theorem dX12_run_55 : decode cX12_run 55 = .ok (.aload_n 0, 1) := by decide +kernel
theorem dX12_run_56 : decode cX12_run 56 = .ok (.iload_n 1, 1) := by decide +kernel
theorem dX12_run_57 : decode cX12_run 57 = .ok (.invokevirtual 175, 3) := by decide +kernel
theorem dX12_run_60 : decode cX12_run 60 = .ok (.ireturn, 1) := by decide +kernel
theorem dX12_run_61 : decode cX12_run 61 = .ok (.iconst 0, 1) := by decide +kernel
theorem dX12_run_62 : decode cX12_run 62 = .ok (.istore 4, 2) := by decide +kernel
theorem dX12_run_64 : decode cX12_run 64 = .ok (.iconst 0, 1) := by decide +kernel
theorem dX12_run_65 : decode cX12_run 65 = .ok (.istore 5, 2) := by decide +kernel
theorem dX12_run_67 : decode cX12_run 67 = .ok (.iload 5, 2) := by decide +kernel
theorem dX12_run_69 : decode cX12_run 69 = .ok (.aload_n 0, 1) := by decide +kernel
theorem dX12_run_70 : decode cX12_run 70 = .ok (.getfield 13, 3) := by decide +kernel
theorem dX12_run_73 : decode cX12_run 73 = .ok (.iconst 0, 1) := by decide +kernel
theorem dX12_run_74 : decode cX12_run 74 = .ok (.iaload, 1) := by decide +kernel
theorem dX12_run_75 : decode cX12_run 75 = .ok (.if_icmp .ge 34, 3) := by decide +kernel
theorem dX12_run_78 : decode cX12_run 78 = .ok (.iload 4, 2) := by decide +kernel
theorem dX12_run_80 : decode cX12_run 80 = .ok (.iload_n 3, 1) := by decide +kernel
theorem dX12_run_81 : decode cX12_run 81 = .ok (.ifCond .le 18, 3) := by decide +kernel
theorem dX12_run_84 : decode cX12_run 84 = .ok (.aload_n 0, 1) := by decide +kernel
theorem dX12_run_85 : decode cX12_run 85 = .ok (.iload 5, 2) := by decide +kernel
theorem dX12_run_87 : decode cX12_run 87 = .ok (.iload_n 1, 1) := by decide +kernel
theorem dX12_run_88 : decode cX12_run 88 = .ok (.invokevirtual 165, 3) := by decide +kernel
theorem dX12_run_91 : decode cX12_run 91 = .ok (.iload_n 3, 1) := by decide +kernel
theorem dX12_run_92 : decode cX12_run 92 = .ok (.if_icmp .ne 7, 3) := by decide +kernel
theorem dX12_run_95 : decode cX12_run 95 = .ok (.iconst 1, 1) := by decide +kernel
theorem dX12_run_96 : decode cX12_run 96 = .ok (.goto 4, 3) := by decide +kernel
theorem dX12_run_99 : decode cX12_run 99 = .ok (.iconst 0, 1) := by decide +kernel
theorem dX12_run_100 : decode cX12_run 100 = .ok (.iadd, 1) := by decide +kernel
theorem dX12_run_101 : decode cX12_run 101 = .ok (.istore 4, 2) := by decide +kernel
theorem dX12_run_103 : decode cX12_run 103 = .ok (.iinc 5 1, 3) := by decide +kernel
theorem dX12_run_106 : decode cX12_run 106 = .ok (.goto (-39), 3) := by decide +kernel
theorem dX12_run_109 : decode cX12_run 109 = .ok (.iload 4, 2) := by decide +kernel
theorem dX12_run_111 : decode cX12_run 111 = .ok (.ireturn, 1) := by decide +kernel
abbrev k_X12_run (E : g_E) (l : Launch) (D : g_D) (v1 : Int) (v2 : Int) (K : Int → g_D → Prop) : Prop := g_Ki E l m_X12_run 3 [g_R 208, g_I v1, g_I v2] g_SH D K
abbrev n_X12_run (E : g_E) (l : Launch) (D : g_D) (pc : Nat) (L : List (Option g_V)) (K : Int → g_D → Prop) : Prop := g_N E l m_X12_run 3 pc L [] g_SH D (g_Ri g_SH K)
theorem s_X12_run {E : g_E} {l : Launch} {D : g_D} {K : Int → g_D → Prop} {v1 : Int} {v2 : Int}  (hF : g_okD D → g_r v1 → g_r v2 → ∀ D1, D1 = g_up D 208 0 0 → ((g_r ((D 209 1) - 1)) ∧ (k_X12_within E l g_SH D1 v1 0 ((D 209 1) - 1) (fun x2 D2 => g_r x2 → (x2 = 0 → K (-2) D2) ∧ (¬ x2 = 0 → k_X12_within E l g_SH D2 v2 0 2 (fun x3 D3 => g_r x3 → (¬ x3 = 0 → k_X12_longestAt E l D3 v1 (fun x4 D4 => g_r x4 → (¬ v2 = 0 → (¬ v2 = 1 → n_X12_run E l D4 67 [some (g_R 208), some (g_I v1), none, some (g_I x4), some (g_I 0), some (g_I 0)] K) ∧ (v2 = 1 → k_X12_chosenAt E l D4 v1 (fun x5 D5 => g_r x5 → K x5 D5))) ∧ (v2 = 0 → K x4 D4))) ∧ (x3 = 0 → K (-2) D3))))))) : k_X12_run E l D v1 v2 K := by
  refine g_enter (by decide) (Nat.le_of_ble_eq_true rfl) ?_
  show g_N E l m_X12_run 3 0 [some (g_R 208), some (g_I v1), some (g_I v2), none, none, none] [] g_SH D (g_Ri g_SH K)
  refine g_use (fun ok => ?_)
  have hF := hF ok.2.1 (ok.loc (i := 1) rfl) (ok.loc (i := 2) rfl)
  refine g_aload_n dX12_run_0 rfl ?_
  refine g_iconst dX12_run_1 ⟨by decide, by decide⟩ ?_
  let D1 : g_D := g_up D 208 0 0
  have hF := hF D1 rfl
  refine g_put dX12_run_2 fd_X12_1 (g_ftyI (C := RX12) (T := TX12) (N := 51) rfl rfl (by decide +kernel)) sh_208 rfl ?_
  refine g_iload_n dX12_run_5 rfl ?_
  refine g_i2l dX12_run_6 ?_
  refine g_lconst dX12_run_7 ?_
  refine g_aload_n dX12_run_8 rfl ?_
  refine g_getR dX12_run_9 fd_X12_13 sh_208 rfl ?_
  refine g_iconst dX12_run_12 ⟨by decide, by decide⟩ ?_
  refine g_iald dX12_run_13 sh_209 (by decide) (by decide) ?_
  refine g_iconst dX12_run_14 ⟨by decide, by decide⟩ ?_
  obtain ⟨hc, hF⟩ := hF
  refine g_isub dX12_run_15 hc ?_
  refine g_i2l dX12_run_16 ?_
  refine gw_cSi (As := [g_J v1, g_J 0, g_J ((D 209 1) - 1)]) (rest := []) dX12_run_17 ms_X12_131 rfl (Nat.le_of_ble_eq_true rfl) (by decide) rfl hF ?_
  intro x2 D2 hx2 hF
  have hF := hF hx2
  refine g_ifeq dX12_run_20 rfl (fun q => ?_) (fun q => ?_)
  · have hF := hF.1 q
    refine g_bipush dX12_run_35 ⟨by decide, by decide⟩ ?_
    exact gw_iret dX12_run_37 rfl hF
  · have hF := hF.2 q
    refine g_iload_n dX12_run_23 rfl ?_
    refine g_i2l dX12_run_24 ?_
    refine g_lconst dX12_run_25 ?_
    refine g_ldc2 dX12_run_26 ⟨by decide, by decide⟩ kl_X12_149 ?_
    refine gw_cSi (As := [g_J v2, g_J 0, g_J 2]) (rest := []) dX12_run_29 ms_X12_131 rfl (Nat.le_of_ble_eq_true rfl) (by decide) rfl hF ?_
    intro x3 D3 hx3 hF
    have hF := hF hx3
    refine g_ifne dX12_run_32 rfl (fun q => ?_) (fun q => ?_)
    · have hF := hF.1 q
      refine g_aload_n dX12_run_38 rfl ?_
      refine g_iload_n dX12_run_39 rfl ?_
      refine gw_cVi (b := 208) (As := [g_I v1]) (rest := []) dX12_run_40 mv_X12_168 sh_208 rfl (Nat.le_of_ble_eq_true rfl) (by decide) rfl hF ?_
      intro x4 D4 hx4 hF
      have hF := hF hx4
      refine gw_istore_n (L' := [some (g_R 208), some (g_I v1), some (g_I v2), some (g_I x4), none, none]) dX12_run_43 (by decide) rfl ?_
      refine g_iload_n dX12_run_44 rfl ?_
      refine g_ifne dX12_run_45 rfl (fun q => ?_) (fun q => ?_)
      · have hF := hF.1 q
        refine g_iload_n dX12_run_50 rfl ?_
        refine g_iconst dX12_run_51 ⟨by decide, by decide⟩ ?_
        refine g_cne dX12_run_52 rfl (fun q => ?_) (fun q => ?_)
        · have hF := hF.1 q
          refine g_iconst dX12_run_61 ⟨by decide, by decide⟩ ?_
          refine gw_istore (L' := [some (g_R 208), some (g_I v1), some (g_I v2), some (g_I x4), some (g_I 0), none]) dX12_run_62 (by decide) rfl ?_
          refine g_iconst dX12_run_64 ⟨by decide, by decide⟩ ?_
          refine gw_istore (L' := [some (g_R 208), some (g_I v1), some (g_I v2), some (g_I x4), some (g_I 0), some (g_I 0)]) dX12_run_65 (by decide) rfl ?_
          exact g_forget (L' := [some (g_R 208), some (g_I v1), none, some (g_I x4), some (g_I 0), some (g_I 0)]) ⟨rfl, ⟨rfl, ⟨rfl, ⟨rfl, ⟨rfl, trivial⟩⟩⟩⟩⟩ hF
        · have hF := hF.2 q
          refine g_aload_n dX12_run_55 rfl ?_
          refine g_iload_n dX12_run_56 rfl ?_
          refine gw_cVi (b := 208) (As := [g_I v1]) (rest := []) dX12_run_57 mv_X12_175 sh_208 rfl (Nat.le_of_ble_eq_true rfl) (by decide) rfl hF ?_
          intro x5 D5 hx5 hF
          have hF := hF hx5
          exact gw_iret dX12_run_60 rfl hF
      · have hF := hF.2 q
        refine g_iload_n dX12_run_48 rfl ?_
        exact gw_iret dX12_run_49 rfl hF
    · have hF := hF.2 q
      refine g_bipush dX12_run_35 ⟨by decide, by decide⟩ ?_
      exact gw_iret dX12_run_37 rfl hF
theorem s_X12_run_67 {E : g_E} {l : Launch} {D : g_D} {K : Int → g_D → Prop} {v1 : Int} {v3 : Int} {v4 : Int} {v5 : Int}  (hF : g_okD D → g_r v1 → g_r v3 → g_r v4 → g_r v5 → ((D 209 0) ≤ v5 → K v4 D) ∧ (¬ (D 209 0) ≤ v5 → (v3 ≤ 0 → (g_r (v4 + 0)) ∧ ((g_r (v5 + 1)) ∧ (n_X12_run E l D 67 [some (g_R 208), some (g_I v1), none, some (g_I v3), some (g_I (v4 + 0)), some (g_I (v5 + 1))] K))) ∧ (¬ v3 ≤ 0 → k_X12_runAt E l D v5 v1 (fun x1 D1 => g_r x1 → (¬ x1 = v3 → (g_r (v4 + 0)) ∧ ((g_r (v5 + 1)) ∧ (n_X12_run E l D1 67 [some (g_R 208), some (g_I v1), none, some (g_I v3), some (g_I (v4 + 0)), some (g_I (v5 + 1))] K))) ∧ (x1 = v3 → (g_r (v4 + 1)) ∧ ((g_r (v5 + 1)) ∧ (n_X12_run E l D1 67 [some (g_R 208), some (g_I v1), none, some (g_I v3), some (g_I (v4 + 1)), some (g_I (v5 + 1))] K))))))) : n_X12_run E l D 67 [some (g_R 208), some (g_I v1), none, some (g_I v3), some (g_I v4), some (g_I v5)] K := by
  refine g_use (fun ok => ?_)
  have hF := hF ok.2.1 (ok.loc (i := 1) rfl) (ok.loc (i := 3) rfl) (ok.loc (i := 4) rfl) (ok.loc (i := 5) rfl)
  refine g_iload dX12_run_67 rfl ?_
  refine g_aload_n dX12_run_69 rfl ?_
  refine g_getR dX12_run_70 fd_X12_13 sh_208 rfl ?_
  refine g_iconst dX12_run_73 ⟨by decide, by decide⟩ ?_
  refine g_iald dX12_run_74 sh_209 (by decide) (by decide) ?_
  refine g_cge dX12_run_75 rfl (fun q => ?_) (fun q => ?_)
  · have hF := hF.1 q
    refine g_iload dX12_run_109 rfl ?_
    exact gw_iret dX12_run_111 rfl hF
  · have hF := hF.2 q
    refine g_iload dX12_run_78 rfl ?_
    refine g_iload_n dX12_run_80 rfl ?_
    refine g_ifle dX12_run_81 rfl (fun q => ?_) (fun q => ?_)
    · have hF := hF.1 q
      refine g_iconst dX12_run_99 ⟨by decide, by decide⟩ ?_
      obtain ⟨hc, hF⟩ := hF
      refine g_iadd dX12_run_100 hc ?_
      refine gw_istore (L' := [some (g_R 208), some (g_I v1), none, some (g_I v3), some (g_I (v4 + 0)), some (g_I v5)]) dX12_run_101 (by decide) rfl ?_
      obtain ⟨hc, hF⟩ := hF
      refine gw_iinc (L' := [some (g_R 208), some (g_I v1), none, some (g_I v3), some (g_I (v4 + 0)), some (g_I (v5 + 1))]) dX12_run_103 rfl hc (by decide) rfl ?_
      refine g_goto dX12_run_106 rfl ?_
      exact hF
    · have hF := hF.2 q
      refine g_aload_n dX12_run_84 rfl ?_
      refine g_iload dX12_run_85 rfl ?_
      refine g_iload_n dX12_run_87 rfl ?_
      refine gw_cVi (b := 208) (As := [g_I v5, g_I v1]) (rest := [g_I v4]) dX12_run_88 mv_X12_165 sh_208 rfl (Nat.le_of_ble_eq_true rfl) (by decide) rfl hF ?_
      intro x1 D1 hx1 hF
      have hF := hF hx1
      refine g_iload_n dX12_run_91 rfl ?_
      refine g_cne dX12_run_92 rfl (fun q => ?_) (fun q => ?_)
      · have hF := hF.1 q
        refine g_iconst dX12_run_99 ⟨by decide, by decide⟩ ?_
        obtain ⟨hc, hF⟩ := hF
        refine g_iadd dX12_run_100 hc ?_
        refine gw_istore (L' := [some (g_R 208), some (g_I v1), none, some (g_I v3), some (g_I (v4 + 0)), some (g_I v5)]) dX12_run_101 (by decide) rfl ?_
        obtain ⟨hc, hF⟩ := hF
        refine gw_iinc (L' := [some (g_R 208), some (g_I v1), none, some (g_I v3), some (g_I (v4 + 0)), some (g_I (v5 + 1))]) dX12_run_103 rfl hc (by decide) rfl ?_
        refine g_goto dX12_run_106 rfl ?_
        exact hF
      · have hF := hF.2 q
        refine g_iconst dX12_run_95 ⟨by decide, by decide⟩ ?_
        refine g_goto dX12_run_96 rfl ?_
        obtain ⟨hc, hF⟩ := hF
        refine g_iadd dX12_run_100 hc ?_
        refine gw_istore (L' := [some (g_R 208), some (g_I v1), none, some (g_I v3), some (g_I (v4 + 1)), some (g_I v5)]) dX12_run_101 (by decide) rfl ?_
        obtain ⟨hc, hF⟩ := hF
        refine gw_iinc (L' := [some (g_R 208), some (g_I v1), none, some (g_I v3), some (g_I (v4 + 1)), some (g_I (v5 + 1))]) dX12_run_103 rfl hc (by decide) rfl ?_
        refine g_goto dX12_run_106 rfl ?_
        exact hF
theorem dX12_share_0 : decode cX12_share 0 = .ok (.aload_n 0, 1) := by decide +kernel
theorem dX12_share_1 : decode cX12_share 1 = .ok (.iconst 0, 1) := by decide +kernel
theorem dX12_share_2 : decode cX12_share 2 = .ok (.putfield 1, 3) := by decide +kernel
theorem dX12_share_5 : decode cX12_share 5 = .ok (.iload_n 1, 1) := by decide +kernel
theorem dX12_share_6 : decode cX12_share 6 = .ok (.i2l, 1) := by decide +kernel
theorem dX12_share_7 : decode cX12_share 7 = .ok (.lconst 0, 1) := by decide +kernel
theorem dX12_share_8 : decode cX12_share 8 = .ok (.ldc2_w 149, 3) := by decide +kernel
theorem dX12_share_11 : decode cX12_share 11 = .ok (.invokestatic 131, 3) := by decide +kernel
theorem dX12_share_14 : decode cX12_share 14 = .ok (.ifCond .ne 6, 3) := by decide +kernel
theorem dX12_share_17 : decode cX12_share 17 = .ok (.bipush (-2), 2) := by decide +kernel
theorem dX12_share_19 : decode cX12_share 19 = .ok (.ireturn, 1) := by decide +kernel
theorem dX12_share_20 : decode cX12_share 20 = .ok (.aload_n 0, 1) := by decide +kernel
theorem dX12_share_21 : decode cX12_share 21 = .ok (.getfield 13, 3) := by decide +kernel
theorem dX12_share_24 : decode cX12_share 24 = .ok (.iconst 1, 1) := by decide +kernel
theorem dX12_share_25 : decode cX12_share 25 = .ok (.iaload, 1) := by decide +kernel
theorem dX12_share_26 : decode cX12_share 26 = .ok (.ifCond .ne 5, 3) := by decide +kernel
theorem dX12_share_29 : decode cX12_share 29 = .ok (.iconst 0, 1) := by decide +kernel
theorem dX12_share_30 : decode cX12_share 30 = .ok (.ireturn, 1) := by decide +kernel
theorem dX12_share_31 : decode cX12_share 31 = .ok (.aload_n 0, 1) := by decide +kernel
theorem dX12_share_32 : decode cX12_share 32 = .ok (.invokevirtual 272, 3) := by decide +kernel
theorem dX12_share_35 : decode cX12_share 35 = .ok (.iconst 0, 1) := by decide +kernel
theorem dX12_share_36 : decode cX12_share 36 = .ok (.istore_n 2, 1) := by decide +kernel
theorem dX12_share_37 : decode cX12_share 37 = .ok (.iconst 0, 1) := by decide +kernel
theorem dX12_share_38 : decode cX12_share 38 = .ok (.istore_n 3, 1) := by decide +kernel
theorem dX12_share_39 : decode cX12_share 39 = .ok (.iload_n 3, 1) := by decide +kernel
theorem dX12_share_40 : decode cX12_share 40 = .ok (.aload_n 0, 1) := by decide +kernel
theorem dX12_share_41 : decode cX12_share 41 = .ok (.getfield 182, 3) := by decide +kernel
theorem dX12_share_44 : decode cX12_share 44 = .ok (.if_icmp .ge 68, 3) := by decide +kernel
theorem dX12_share_47 : decode cX12_share 47 = .ok (.aload_n 0, 1) := by decide +kernel
theorem dX12_share_48 : decode cX12_share 48 = .ok (.getfield 36, 3) := by decide +kernel
theorem dX12_share_51 : decode cX12_share 51 = .ok (.iload_n 3, 1) := by decide +kernel
theorem dX12_share_52 : decode cX12_share 52 = .ok (.iaload, 1) := by decide +kernel
theorem dX12_share_53 : decode cX12_share 53 = .ok (.iconst 2, 1) := by decide +kernel
theorem dX12_share_54 : decode cX12_share 54 = .ok (.if_icmp .ne 7, 3) := by decide +kernel
theorem dX12_share_57 : decode cX12_share 57 = .ok (.iconst 0, 1) := by decide +kernel
theorem dX12_share_58 : decode cX12_share 58 = .ok (.goto 27, 3) := by decide +kernel
theorem dX12_share_61 : decode cX12_share 61 = .ok (.aload_n 0, 1) := by decide +kernel
theorem dX12_share_62 : decode cX12_share 62 = .ok (.getfield 36, 3) := by decide +kernel
theorem dX12_share_65 : decode cX12_share 65 = .ok (.iload_n 3, 1) := by decide +kernel
theorem dX12_share_66 : decode cX12_share 66 = .ok (.iaload, 1) := by decide +kernel
theorem dX12_share_67 : decode cX12_share 67 = .ok (.iconst 1, 1) := by decide +kernel
theorem dX12_share_68 : decode cX12_share 68 = .ok (.if_icmp .ne 16, 3) := by decide +kernel
theorem dX12_share_71 : decode cX12_share 71 = .ok (.aload_n 0, 1) := by decide +kernel
theorem dX12_share_72 : decode cX12_share 72 = .ok (.getfield 66, 3) := by decide +kernel
theorem dX12_share_75 : decode cX12_share 75 = .ok (.iload_n 3, 1) := by decide +kernel
theorem dX12_share_76 : decode cX12_share 76 = .ok (.baload, 1) := by decide +kernel
theorem dX12_share_77 : decode cX12_share 77 = .ok (.ifCond .ne 7, 3) := by decide +kernel
theorem dX12_share_80 : decode cX12_share 80 = .ok (.iconst 1, 1) := by decide +kernel
theorem dX12_share_81 : decode cX12_share 81 = .ok (.goto 4, 3) := by decide +kernel
theorem dX12_share_84 : decode cX12_share 84 = .ok (.iconst 2, 1) := by decide +kernel
theorem dX12_share_85 : decode cX12_share 85 = .ok (.istore 4, 2) := by decide +kernel
theorem dX12_share_87 : decode cX12_share 87 = .ok (.iload_n 2, 1) := by decide +kernel
theorem dX12_share_88 : decode cX12_share 88 = .ok (.iload 4, 2) := by decide +kernel
theorem dX12_share_90 : decode cX12_share 90 = .ok (.iload_n 1, 1) := by decide +kernel
theorem dX12_share_91 : decode cX12_share 91 = .ok (.if_icmp .ne 12, 3) := by decide +kernel
theorem dX12_share_94 : decode cX12_share 94 = .ok (.aload_n 0, 1) := by decide +kernel
theorem dX12_share_95 : decode cX12_share 95 = .ok (.getfield 45, 3) := by decide +kernel
theorem dX12_share_98 : decode cX12_share 98 = .ok (.iload_n 3, 1) := by decide +kernel
theorem dX12_share_99 : decode cX12_share 99 = .ok (.iaload, 1) := by decide +kernel
theorem dX12_share_100 : decode cX12_share 100 = .ok (.goto 4, 3) := by decide +kernel
theorem dX12_share_103 : decode cX12_share 103 = .ok (.iconst 0, 1) := by decide +kernel
theorem dX12_share_104 : decode cX12_share 104 = .ok (.iadd, 1) := by decide +kernel
theorem dX12_share_105 : decode cX12_share 105 = .ok (.istore_n 2, 1) := by decide +kernel
theorem dX12_share_106 : decode cX12_share 106 = .ok (.iinc 3 1, 3) := by decide +kernel
theorem dX12_share_109 : decode cX12_share 109 = .ok (.goto (-70), 3) := by decide +kernel
theorem dX12_share_112 : decode cX12_share 112 = .ok (.iload_n 2, 1) := by decide +kernel
theorem dX12_share_113 : decode cX12_share 113 = .ok (.aload_n 0, 1) := by decide +kernel
theorem dX12_share_114 : decode cX12_share 114 = .ok (.getfield 13, 3) := by decide +kernel
theorem dX12_share_117 : decode cX12_share 117 = .ok (.iconst 1, 1) := by decide +kernel
theorem dX12_share_118 : decode cX12_share 118 = .ok (.iaload, 1) := by decide +kernel
theorem dX12_share_119 : decode cX12_share 119 = .ok (.invokestatic 282, 3) := by decide +kernel
theorem dX12_share_122 : decode cX12_share 122 = .ok (.ireturn, 1) := by decide +kernel
abbrev k_X12_share (E : g_E) (l : Launch) (D : g_D) (v1 : Int) (K : Int → g_D → Prop) : Prop := g_Ki E l m_X12_share 5 [g_R 208, g_I v1] g_SH D K
abbrev n_X12_share (E : g_E) (l : Launch) (D : g_D) (pc : Nat) (L : List (Option g_V)) (K : Int → g_D → Prop) : Prop := g_N E l m_X12_share 5 pc L [] g_SH D (g_Ri g_SH K)
theorem s_X12_share {E : g_E} {l : Launch} {D : g_D} {K : Int → g_D → Prop} {v1 : Int}  (hF : g_okD D → g_r v1 → ∀ D1, D1 = g_up D 208 0 0 → (k_X12_within E l g_SH D1 v1 0 2 (fun x2 D2 => g_r x2 → (¬ x2 = 0 → (¬ (D2 209 1) = 0 → k_X12_laysAll E l D2 (fun D3 => n_X12_share E l D3 39 [some (g_R 208), some (g_I v1), some (g_I 0), some (g_I 0), none] K)) ∧ ((D2 209 1) = 0 → K 0 D2)) ∧ (x2 = 0 → K (-2) D2)))) : k_X12_share E l D v1 K := by
  refine g_enter (by decide) (Nat.le_of_ble_eq_true rfl) ?_
  show g_N E l m_X12_share 5 0 [some (g_R 208), some (g_I v1), none, none, none] [] g_SH D (g_Ri g_SH K)
  refine g_use (fun ok => ?_)
  have hF := hF ok.2.1 (ok.loc (i := 1) rfl)
  refine g_aload_n dX12_share_0 rfl ?_
  refine g_iconst dX12_share_1 ⟨by decide, by decide⟩ ?_
  let D1 : g_D := g_up D 208 0 0
  have hF := hF D1 rfl
  refine g_put dX12_share_2 fd_X12_1 (g_ftyI (C := RX12) (T := TX12) (N := 51) rfl rfl (by decide +kernel)) sh_208 rfl ?_
  refine g_iload_n dX12_share_5 rfl ?_
  refine g_i2l dX12_share_6 ?_
  refine g_lconst dX12_share_7 ?_
  refine g_ldc2 dX12_share_8 ⟨by decide, by decide⟩ kl_X12_149 ?_
  refine gw_cSi (As := [g_J v1, g_J 0, g_J 2]) (rest := []) dX12_share_11 ms_X12_131 rfl (Nat.le_of_ble_eq_true rfl) (by decide) rfl hF ?_
  intro x2 D2 hx2 hF
  have hF := hF hx2
  refine g_ifne dX12_share_14 rfl (fun q => ?_) (fun q => ?_)
  · have hF := hF.1 q
    refine g_aload_n dX12_share_20 rfl ?_
    refine g_getR dX12_share_21 fd_X12_13 sh_208 rfl ?_
    refine g_iconst dX12_share_24 ⟨by decide, by decide⟩ ?_
    refine g_iald dX12_share_25 sh_209 (by decide) (by decide) ?_
    refine g_ifne dX12_share_26 rfl (fun q => ?_) (fun q => ?_)
    · have hF := hF.1 q
      refine g_aload_n dX12_share_31 rfl ?_
      refine gw_cVv (b := 208) (As := []) (rest := []) dX12_share_32 mv_X12_272 sh_208 rfl (Nat.le_of_ble_eq_true rfl) (by decide) rfl hF ?_
      intro D3 hF
      refine g_iconst dX12_share_35 ⟨by decide, by decide⟩ ?_
      refine gw_istore_n (L' := [some (g_R 208), some (g_I v1), some (g_I 0), none, none]) dX12_share_36 (by decide) rfl ?_
      refine g_iconst dX12_share_37 ⟨by decide, by decide⟩ ?_
      refine gw_istore_n (L' := [some (g_R 208), some (g_I v1), some (g_I 0), some (g_I 0), none]) dX12_share_38 (by decide) rfl ?_
      exact hF
    · have hF := hF.2 q
      refine g_iconst dX12_share_29 ⟨by decide, by decide⟩ ?_
      exact gw_iret dX12_share_30 rfl hF
  · have hF := hF.2 q
    refine g_bipush dX12_share_17 ⟨by decide, by decide⟩ ?_
    exact gw_iret dX12_share_19 rfl hF
theorem s_X12_share_39 {E : g_E} {l : Launch} {D : g_D} {K : Int → g_D → Prop} {v1 : Int} {v2 : Int} {v3 : Int}  (hF : g_okD D → g_r v1 → g_r v2 → g_r v3 → ((D 208 14) ≤ v3 → k_X12_floatBits E l g_SH D v2 (D 209 1) (fun x1 D1 => g_r x1 → K x1 D1)) ∧ (¬ (D 208 14) ≤ v3 → (0 ≤ v3 ∧ v3 < 40) ∧ ((¬ (D 216 v3.toNat) = 2 → (0 ≤ v3 ∧ v3 < 40) ∧ ((¬ (D 216 v3.toNat) = 1 → (¬ 2 = v1 → (g_r (v2 + 0)) ∧ ((g_r (v3 + 1)) ∧ (n_X12_share E l D 39 [some (g_R 208), some (g_I v1), some (g_I (v2 + 0)), some (g_I (v3 + 1)), none] K))) ∧ (2 = v1 → (0 ≤ v3 ∧ v3 < 40) ∧ ((g_r (v2 + (D 219 v3.toNat))) ∧ ((g_r (v3 + 1)) ∧ (n_X12_share E l D 39 [some (g_R 208), some (g_I v1), some (g_I (v2 + (D 219 v3.toNat))), some (g_I (v3 + 1)), none] K))))) ∧ ((D 216 v3.toNat) = 1 → (0 ≤ v3 ∧ v3 < 40) ∧ ((¬ (D 226 v3.toNat) = 0 → (¬ 2 = v1 → (g_r (v2 + 0)) ∧ ((g_r (v3 + 1)) ∧ (n_X12_share E l D 39 [some (g_R 208), some (g_I v1), some (g_I (v2 + 0)), some (g_I (v3 + 1)), none] K))) ∧ (2 = v1 → (0 ≤ v3 ∧ v3 < 40) ∧ ((g_r (v2 + (D 219 v3.toNat))) ∧ ((g_r (v3 + 1)) ∧ (n_X12_share E l D 39 [some (g_R 208), some (g_I v1), some (g_I (v2 + (D 219 v3.toNat))), some (g_I (v3 + 1)), none] K))))) ∧ ((D 226 v3.toNat) = 0 → (¬ 1 = v1 → (g_r (v2 + 0)) ∧ ((g_r (v3 + 1)) ∧ (n_X12_share E l D 39 [some (g_R 208), some (g_I v1), some (g_I (v2 + 0)), some (g_I (v3 + 1)), none] K))) ∧ (1 = v1 → (0 ≤ v3 ∧ v3 < 40) ∧ ((g_r (v2 + (D 219 v3.toNat))) ∧ ((g_r (v3 + 1)) ∧ (n_X12_share E l D 39 [some (g_R 208), some (g_I v1), some (g_I (v2 + (D 219 v3.toNat))), some (g_I (v3 + 1)), none] K))))))))) ∧ ((D 216 v3.toNat) = 2 → (¬ 0 = v1 → (g_r (v2 + 0)) ∧ ((g_r (v3 + 1)) ∧ (n_X12_share E l D 39 [some (g_R 208), some (g_I v1), some (g_I (v2 + 0)), some (g_I (v3 + 1)), none] K))) ∧ (0 = v1 → (0 ≤ v3 ∧ v3 < 40) ∧ ((g_r (v2 + (D 219 v3.toNat))) ∧ ((g_r (v3 + 1)) ∧ (n_X12_share E l D 39 [some (g_R 208), some (g_I v1), some (g_I (v2 + (D 219 v3.toNat))), some (g_I (v3 + 1)), none] K)))))))) : n_X12_share E l D 39 [some (g_R 208), some (g_I v1), some (g_I v2), some (g_I v3), none] K := by
  refine g_use (fun ok => ?_)
  have hF := hF ok.2.1 (ok.loc (i := 1) rfl) (ok.loc (i := 2) rfl) (ok.loc (i := 3) rfl)
  refine g_iload_n dX12_share_39 rfl ?_
  refine g_aload_n dX12_share_40 rfl ?_
  refine g_getI dX12_share_41 fd_X12_182 sh_208 rfl ?_
  refine g_cge dX12_share_44 rfl (fun q => ?_) (fun q => ?_)
  · have hF := hF.1 q
    refine g_iload_n dX12_share_112 rfl ?_
    refine g_aload_n dX12_share_113 rfl ?_
    refine g_getR dX12_share_114 fd_X12_13 sh_208 rfl ?_
    refine g_iconst dX12_share_117 ⟨by decide, by decide⟩ ?_
    refine g_iald dX12_share_118 sh_209 (by decide) (by decide) ?_
    refine gw_cSi (As := [g_I v2, g_I (D 209 1)]) (rest := []) dX12_share_119 ms_X12_282 rfl (Nat.le_of_ble_eq_true rfl) (by decide) rfl hF ?_
    intro x1 D1 hx1 hF
    have hF := hF hx1
    exact gw_iret dX12_share_122 rfl hF
  · have hF := hF.2 q
    refine g_aload_n dX12_share_47 rfl ?_
    refine g_getR dX12_share_48 fd_X12_36 sh_208 rfl ?_
    refine g_iload_n dX12_share_51 rfl ?_
    obtain ⟨hc, hF⟩ := hF
    refine g_iald dX12_share_52 sh_216 hc.1 hc.2 ?_
    refine g_iconst dX12_share_53 ⟨by decide, by decide⟩ ?_
    refine g_cne dX12_share_54 rfl (fun q => ?_) (fun q => ?_)
    · have hF := hF.1 q
      refine g_aload_n dX12_share_61 rfl ?_
      refine g_getR dX12_share_62 fd_X12_36 sh_208 rfl ?_
      refine g_iload_n dX12_share_65 rfl ?_
      obtain ⟨hc, hF⟩ := hF
      refine g_iald dX12_share_66 sh_216 hc.1 hc.2 ?_
      refine g_iconst dX12_share_67 ⟨by decide, by decide⟩ ?_
      refine g_cne dX12_share_68 rfl (fun q => ?_) (fun q => ?_)
      · have hF := hF.1 q
        refine g_iconst dX12_share_84 ⟨by decide, by decide⟩ ?_
        refine gw_istore (L' := [some (g_R 208), some (g_I v1), some (g_I v2), some (g_I v3), some (g_I 2)]) dX12_share_85 (by decide) rfl ?_
        refine g_iload_n dX12_share_87 rfl ?_
        refine g_iload dX12_share_88 rfl ?_
        refine g_iload_n dX12_share_90 rfl ?_
        refine g_cne dX12_share_91 rfl (fun q => ?_) (fun q => ?_)
        · have hF := hF.1 q
          refine g_iconst dX12_share_103 ⟨by decide, by decide⟩ ?_
          obtain ⟨hc, hF⟩ := hF
          refine g_iadd dX12_share_104 hc ?_
          refine gw_istore_n (L' := [some (g_R 208), some (g_I v1), some (g_I (v2 + 0)), some (g_I v3), some (g_I 2)]) dX12_share_105 (by decide) rfl ?_
          obtain ⟨hc, hF⟩ := hF
          refine gw_iinc (L' := [some (g_R 208), some (g_I v1), some (g_I (v2 + 0)), some (g_I (v3 + 1)), some (g_I 2)]) dX12_share_106 rfl hc (by decide) rfl ?_
          refine g_goto dX12_share_109 rfl ?_
          exact g_forget (L' := [some (g_R 208), some (g_I v1), some (g_I (v2 + 0)), some (g_I (v3 + 1)), none]) ⟨rfl, ⟨rfl, ⟨rfl, ⟨rfl, trivial⟩⟩⟩⟩ hF
        · have hF := hF.2 q
          refine g_aload_n dX12_share_94 rfl ?_
          refine g_getR dX12_share_95 fd_X12_45 sh_208 rfl ?_
          refine g_iload_n dX12_share_98 rfl ?_
          obtain ⟨hc, hF⟩ := hF
          refine g_iald dX12_share_99 sh_219 hc.1 hc.2 ?_
          refine g_goto dX12_share_100 rfl ?_
          obtain ⟨hc, hF⟩ := hF
          refine g_iadd dX12_share_104 hc ?_
          refine gw_istore_n (L' := [some (g_R 208), some (g_I v1), some (g_I (v2 + (D 219 v3.toNat))), some (g_I v3), some (g_I 2)]) dX12_share_105 (by decide) rfl ?_
          obtain ⟨hc, hF⟩ := hF
          refine gw_iinc (L' := [some (g_R 208), some (g_I v1), some (g_I (v2 + (D 219 v3.toNat))), some (g_I (v3 + 1)), some (g_I 2)]) dX12_share_106 rfl hc (by decide) rfl ?_
          refine g_goto dX12_share_109 rfl ?_
          exact g_forget (L' := [some (g_R 208), some (g_I v1), some (g_I (v2 + (D 219 v3.toNat))), some (g_I (v3 + 1)), none]) ⟨rfl, ⟨rfl, ⟨rfl, ⟨rfl, trivial⟩⟩⟩⟩ hF
      · have hF := hF.2 q
        refine g_aload_n dX12_share_71 rfl ?_
        refine g_getR dX12_share_72 fd_X12_66 sh_208 rfl ?_
        refine g_iload_n dX12_share_75 rfl ?_
        obtain ⟨hc, hF⟩ := hF
        refine g_bald dX12_share_76 sh_226 hc.1 hc.2 ?_
        refine g_ifne dX12_share_77 rfl (fun q => ?_) (fun q => ?_)
        · have hF := hF.1 q
          refine g_iconst dX12_share_84 ⟨by decide, by decide⟩ ?_
          refine gw_istore (L' := [some (g_R 208), some (g_I v1), some (g_I v2), some (g_I v3), some (g_I 2)]) dX12_share_85 (by decide) rfl ?_
          refine g_iload_n dX12_share_87 rfl ?_
          refine g_iload dX12_share_88 rfl ?_
          refine g_iload_n dX12_share_90 rfl ?_
          refine g_cne dX12_share_91 rfl (fun q => ?_) (fun q => ?_)
          · have hF := hF.1 q
            refine g_iconst dX12_share_103 ⟨by decide, by decide⟩ ?_
            obtain ⟨hc, hF⟩ := hF
            refine g_iadd dX12_share_104 hc ?_
            refine gw_istore_n (L' := [some (g_R 208), some (g_I v1), some (g_I (v2 + 0)), some (g_I v3), some (g_I 2)]) dX12_share_105 (by decide) rfl ?_
            obtain ⟨hc, hF⟩ := hF
            refine gw_iinc (L' := [some (g_R 208), some (g_I v1), some (g_I (v2 + 0)), some (g_I (v3 + 1)), some (g_I 2)]) dX12_share_106 rfl hc (by decide) rfl ?_
            refine g_goto dX12_share_109 rfl ?_
            exact g_forget (L' := [some (g_R 208), some (g_I v1), some (g_I (v2 + 0)), some (g_I (v3 + 1)), none]) ⟨rfl, ⟨rfl, ⟨rfl, ⟨rfl, trivial⟩⟩⟩⟩ hF
          · have hF := hF.2 q
            refine g_aload_n dX12_share_94 rfl ?_
            refine g_getR dX12_share_95 fd_X12_45 sh_208 rfl ?_
            refine g_iload_n dX12_share_98 rfl ?_
            obtain ⟨hc, hF⟩ := hF
            refine g_iald dX12_share_99 sh_219 hc.1 hc.2 ?_
            refine g_goto dX12_share_100 rfl ?_
            obtain ⟨hc, hF⟩ := hF
            refine g_iadd dX12_share_104 hc ?_
            refine gw_istore_n (L' := [some (g_R 208), some (g_I v1), some (g_I (v2 + (D 219 v3.toNat))), some (g_I v3), some (g_I 2)]) dX12_share_105 (by decide) rfl ?_
            obtain ⟨hc, hF⟩ := hF
            refine gw_iinc (L' := [some (g_R 208), some (g_I v1), some (g_I (v2 + (D 219 v3.toNat))), some (g_I (v3 + 1)), some (g_I 2)]) dX12_share_106 rfl hc (by decide) rfl ?_
            refine g_goto dX12_share_109 rfl ?_
            exact g_forget (L' := [some (g_R 208), some (g_I v1), some (g_I (v2 + (D 219 v3.toNat))), some (g_I (v3 + 1)), none]) ⟨rfl, ⟨rfl, ⟨rfl, ⟨rfl, trivial⟩⟩⟩⟩ hF
        · have hF := hF.2 q
          refine g_iconst dX12_share_80 ⟨by decide, by decide⟩ ?_
          refine g_goto dX12_share_81 rfl ?_
          refine gw_istore (L' := [some (g_R 208), some (g_I v1), some (g_I v2), some (g_I v3), some (g_I 1)]) dX12_share_85 (by decide) rfl ?_
          refine g_iload_n dX12_share_87 rfl ?_
          refine g_iload dX12_share_88 rfl ?_
          refine g_iload_n dX12_share_90 rfl ?_
          refine g_cne dX12_share_91 rfl (fun q => ?_) (fun q => ?_)
          · have hF := hF.1 q
            refine g_iconst dX12_share_103 ⟨by decide, by decide⟩ ?_
            obtain ⟨hc, hF⟩ := hF
            refine g_iadd dX12_share_104 hc ?_
            refine gw_istore_n (L' := [some (g_R 208), some (g_I v1), some (g_I (v2 + 0)), some (g_I v3), some (g_I 1)]) dX12_share_105 (by decide) rfl ?_
            obtain ⟨hc, hF⟩ := hF
            refine gw_iinc (L' := [some (g_R 208), some (g_I v1), some (g_I (v2 + 0)), some (g_I (v3 + 1)), some (g_I 1)]) dX12_share_106 rfl hc (by decide) rfl ?_
            refine g_goto dX12_share_109 rfl ?_
            exact g_forget (L' := [some (g_R 208), some (g_I v1), some (g_I (v2 + 0)), some (g_I (v3 + 1)), none]) ⟨rfl, ⟨rfl, ⟨rfl, ⟨rfl, trivial⟩⟩⟩⟩ hF
          · have hF := hF.2 q
            refine g_aload_n dX12_share_94 rfl ?_
            refine g_getR dX12_share_95 fd_X12_45 sh_208 rfl ?_
            refine g_iload_n dX12_share_98 rfl ?_
            obtain ⟨hc, hF⟩ := hF
            refine g_iald dX12_share_99 sh_219 hc.1 hc.2 ?_
            refine g_goto dX12_share_100 rfl ?_
            obtain ⟨hc, hF⟩ := hF
            refine g_iadd dX12_share_104 hc ?_
            refine gw_istore_n (L' := [some (g_R 208), some (g_I v1), some (g_I (v2 + (D 219 v3.toNat))), some (g_I v3), some (g_I 1)]) dX12_share_105 (by decide) rfl ?_
            obtain ⟨hc, hF⟩ := hF
            refine gw_iinc (L' := [some (g_R 208), some (g_I v1), some (g_I (v2 + (D 219 v3.toNat))), some (g_I (v3 + 1)), some (g_I 1)]) dX12_share_106 rfl hc (by decide) rfl ?_
            refine g_goto dX12_share_109 rfl ?_
            exact g_forget (L' := [some (g_R 208), some (g_I v1), some (g_I (v2 + (D 219 v3.toNat))), some (g_I (v3 + 1)), none]) ⟨rfl, ⟨rfl, ⟨rfl, ⟨rfl, trivial⟩⟩⟩⟩ hF
    · have hF := hF.2 q
      refine g_iconst dX12_share_57 ⟨by decide, by decide⟩ ?_
      refine g_goto dX12_share_58 rfl ?_
      refine gw_istore (L' := [some (g_R 208), some (g_I v1), some (g_I v2), some (g_I v3), some (g_I 0)]) dX12_share_85 (by decide) rfl ?_
      refine g_iload_n dX12_share_87 rfl ?_
      refine g_iload dX12_share_88 rfl ?_
      refine g_iload_n dX12_share_90 rfl ?_
      refine g_cne dX12_share_91 rfl (fun q => ?_) (fun q => ?_)
      · have hF := hF.1 q
        refine g_iconst dX12_share_103 ⟨by decide, by decide⟩ ?_
        obtain ⟨hc, hF⟩ := hF
        refine g_iadd dX12_share_104 hc ?_
        refine gw_istore_n (L' := [some (g_R 208), some (g_I v1), some (g_I (v2 + 0)), some (g_I v3), some (g_I 0)]) dX12_share_105 (by decide) rfl ?_
        obtain ⟨hc, hF⟩ := hF
        refine gw_iinc (L' := [some (g_R 208), some (g_I v1), some (g_I (v2 + 0)), some (g_I (v3 + 1)), some (g_I 0)]) dX12_share_106 rfl hc (by decide) rfl ?_
        refine g_goto dX12_share_109 rfl ?_
        exact g_forget (L' := [some (g_R 208), some (g_I v1), some (g_I (v2 + 0)), some (g_I (v3 + 1)), none]) ⟨rfl, ⟨rfl, ⟨rfl, ⟨rfl, trivial⟩⟩⟩⟩ hF
      · have hF := hF.2 q
        refine g_aload_n dX12_share_94 rfl ?_
        refine g_getR dX12_share_95 fd_X12_45 sh_208 rfl ?_
        refine g_iload_n dX12_share_98 rfl ?_
        obtain ⟨hc, hF⟩ := hF
        refine g_iald dX12_share_99 sh_219 hc.1 hc.2 ?_
        refine g_goto dX12_share_100 rfl ?_
        obtain ⟨hc, hF⟩ := hF
        refine g_iadd dX12_share_104 hc ?_
        refine gw_istore_n (L' := [some (g_R 208), some (g_I v1), some (g_I (v2 + (D 219 v3.toNat))), some (g_I v3), some (g_I 0)]) dX12_share_105 (by decide) rfl ?_
        obtain ⟨hc, hF⟩ := hF
        refine gw_iinc (L' := [some (g_R 208), some (g_I v1), some (g_I (v2 + (D 219 v3.toNat))), some (g_I (v3 + 1)), some (g_I 0)]) dX12_share_106 rfl hc (by decide) rfl ?_
        refine g_goto dX12_share_109 rfl ?_
        exact g_forget (L' := [some (g_R 208), some (g_I v1), some (g_I (v2 + (D 219 v3.toNat))), some (g_I (v3 + 1)), none]) ⟨rfl, ⟨rfl, ⟨rfl, ⟨rfl, trivial⟩⟩⟩⟩ hF
theorem dX12_shared_0 : decode cX12_shared 0 = .ok (.aload_n 0, 1) := by decide +kernel
theorem dX12_shared_1 : decode cX12_shared 1 = .ok (.iconst 0, 1) := by decide +kernel
theorem dX12_shared_2 : decode cX12_shared 2 = .ok (.putfield 1, 3) := by decide +kernel
theorem dX12_shared_5 : decode cX12_shared 5 = .ok (.iload_n 1, 1) := by decide +kernel
theorem dX12_shared_6 : decode cX12_shared 6 = .ok (.i2l, 1) := by decide +kernel
theorem dX12_shared_7 : decode cX12_shared 7 = .ok (.lconst 0, 1) := by decide +kernel
theorem dX12_shared_8 : decode cX12_shared 8 = .ok (.aload_n 0, 1) := by decide +kernel
theorem dX12_shared_9 : decode cX12_shared 9 = .ok (.getfield 13, 3) := by decide +kernel
theorem dX12_shared_12 : decode cX12_shared 12 = .ok (.iconst 0, 1) := by decide +kernel
theorem dX12_shared_13 : decode cX12_shared 13 = .ok (.iaload, 1) := by decide +kernel
theorem dX12_shared_14 : decode cX12_shared 14 = .ok (.iconst 2, 1) := by decide +kernel
theorem dX12_shared_15 : decode cX12_shared 15 = .ok (.isub, 1) := by decide +kernel
theorem dX12_shared_16 : decode cX12_shared 16 = .ok (.i2l, 1) := by decide +kernel
theorem dX12_shared_17 : decode cX12_shared 17 = .ok (.invokestatic 131, 3) := by decide +kernel
theorem dX12_shared_20 : decode cX12_shared 20 = .ok (.ifCond .ne 5, 3) := by decide +kernel
theorem dX12_shared_23 : decode cX12_shared 23 = .ok (.iconst (-1), 1) := by decide +kernel
theorem dX12_shared_24 : decode cX12_shared 24 = .ok (.ireturn, 1) := by decide +kernel
theorem dX12_shared_25 : decode cX12_shared 25 = .ok (.aload_n 0, 1) := by decide +kernel
theorem dX12_shared_26 : decode cX12_shared 26 = .ok (.invokevirtual 162, 3) := by decide +kernel
theorem dX12_shared_29 : decode cX12_shared 29 = .ok (.aload_n 0, 1) := by decide +kernel
theorem dX12_shared_30 : decode cX12_shared 30 = .ok (.aload_n 0, 1) := by decide +kernel
theorem dX12_shared_31 : decode cX12_shared 31 = .ok (.getfield 27, 3) := by decide +kernel
theorem dX12_shared_34 : decode cX12_shared 34 = .ok (.iload_n 1, 1) := by decide +kernel
theorem dX12_shared_35 : decode cX12_shared 35 = .ok (.iaload, 1) := by decide +kernel
theorem dX12_shared_36 : decode cX12_shared 36 = .ok (.aload_n 0, 1) := by decide +kernel
theorem dX12_shared_37 : decode cX12_shared 37 = .ok (.getfield 27, 3) := by decide +kernel
theorem dX12_shared_40 : decode cX12_shared 40 = .ok (.iload_n 1, 1) := by decide +kernel
theorem dX12_shared_41 : decode cX12_shared 41 = .ok (.iconst 1, 1) := by decide +kernel
theorem dX12_shared_42 : decode cX12_shared 42 = .ok (.iadd, 1) := by decide +kernel
theorem dX12_shared_43 : decode cX12_shared 43 = .ok (.iaload, 1) := by decide +kernel
theorem dX12_shared_44 : decode cX12_shared 44 = .ok (.invokevirtual 155, 3) := by decide +kernel
theorem dX12_shared_47 : decode cX12_shared 47 = .ok (.ireturn, 1) := by decide +kernel
abbrev k_X12_shared (E : g_E) (l : Launch) (D : g_D) (v1 : Int) (K : Int → g_D → Prop) : Prop := g_Ki E l m_X12_shared 3 [g_R 208, g_I v1] g_SH D K
abbrev n_X12_shared (E : g_E) (l : Launch) (D : g_D) (pc : Nat) (L : List (Option g_V)) (K : Int → g_D → Prop) : Prop := g_N E l m_X12_shared 3 pc L [] g_SH D (g_Ri g_SH K)
theorem s_X12_shared {E : g_E} {l : Launch} {D : g_D} {K : Int → g_D → Prop} {v1 : Int}  (hF : g_okD D → g_r v1 → ∀ D1, D1 = g_up D 208 0 0 → ((g_r ((D 209 0) - 2)) ∧ (k_X12_within E l g_SH D1 v1 0 ((D 209 0) - 2) (fun x2 D2 => g_r x2 → (¬ x2 = 0 → k_X12_laysSuffixes E l D2 (fun D3 => (0 ≤ v1 ∧ v1 < 40) ∧ ((g_r (v1 + 1)) ∧ ((0 ≤ (v1 + 1) ∧ (v1 + 1) < 40) ∧ (k_X12_common E l D3 (D3 213 v1.toNat) (D3 213 (v1 + 1).toNat) (fun x4 D4 => g_r x4 → K x4 D4)))))) ∧ (x2 = 0 → K (-1) D2))))) : k_X12_shared E l D v1 K := by
  refine g_enter (by decide) (Nat.le_of_ble_eq_true rfl) ?_
  show g_N E l m_X12_shared 3 0 [some (g_R 208), some (g_I v1)] [] g_SH D (g_Ri g_SH K)
  refine g_use (fun ok => ?_)
  have hF := hF ok.2.1 (ok.loc (i := 1) rfl)
  refine g_aload_n dX12_shared_0 rfl ?_
  refine g_iconst dX12_shared_1 ⟨by decide, by decide⟩ ?_
  let D1 : g_D := g_up D 208 0 0
  have hF := hF D1 rfl
  refine g_put dX12_shared_2 fd_X12_1 (g_ftyI (C := RX12) (T := TX12) (N := 51) rfl rfl (by decide +kernel)) sh_208 rfl ?_
  refine g_iload_n dX12_shared_5 rfl ?_
  refine g_i2l dX12_shared_6 ?_
  refine g_lconst dX12_shared_7 ?_
  refine g_aload_n dX12_shared_8 rfl ?_
  refine g_getR dX12_shared_9 fd_X12_13 sh_208 rfl ?_
  refine g_iconst dX12_shared_12 ⟨by decide, by decide⟩ ?_
  refine g_iald dX12_shared_13 sh_209 (by decide) (by decide) ?_
  refine g_iconst dX12_shared_14 ⟨by decide, by decide⟩ ?_
  obtain ⟨hc, hF⟩ := hF
  refine g_isub dX12_shared_15 hc ?_
  refine g_i2l dX12_shared_16 ?_
  refine gw_cSi (As := [g_J v1, g_J 0, g_J ((D 209 0) - 2)]) (rest := []) dX12_shared_17 ms_X12_131 rfl (Nat.le_of_ble_eq_true rfl) (by decide) rfl hF ?_
  intro x2 D2 hx2 hF
  have hF := hF hx2
  refine g_ifne dX12_shared_20 rfl (fun q => ?_) (fun q => ?_)
  · have hF := hF.1 q
    refine g_aload_n dX12_shared_25 rfl ?_
    refine gw_cVv (b := 208) (As := []) (rest := []) dX12_shared_26 mv_X12_162 sh_208 rfl (Nat.le_of_ble_eq_true rfl) (by decide) rfl hF ?_
    intro D3 hF
    refine g_aload_n dX12_shared_29 rfl ?_
    refine g_aload_n dX12_shared_30 rfl ?_
    refine g_getR dX12_shared_31 fd_X12_27 sh_208 rfl ?_
    refine g_iload_n dX12_shared_34 rfl ?_
    obtain ⟨hc, hF⟩ := hF
    refine g_iald dX12_shared_35 sh_213 hc.1 hc.2 ?_
    refine g_aload_n dX12_shared_36 rfl ?_
    refine g_getR dX12_shared_37 fd_X12_27 sh_208 rfl ?_
    refine g_iload_n dX12_shared_40 rfl ?_
    refine g_iconst dX12_shared_41 ⟨by decide, by decide⟩ ?_
    obtain ⟨hc, hF⟩ := hF
    refine g_iadd dX12_shared_42 hc ?_
    obtain ⟨hc, hF⟩ := hF
    refine g_iald dX12_shared_43 sh_213 hc.1 hc.2 ?_
    refine gw_cVi (b := 208) (As := [g_I (D3 213 v1.toNat), g_I (D3 213 (v1 + 1).toNat)]) (rest := []) dX12_shared_44 mv_X12_155 sh_208 rfl (Nat.le_of_ble_eq_true rfl) (by decide) rfl hF ?_
    intro x4 D4 hx4 hF
    have hF := hF hx4
    exact gw_iret dX12_shared_47 rfl hF
  · have hF := hF.2 q
    refine g_iconst dX12_shared_23 ⟨by decide, by decide⟩ ?_
    exact gw_iret dX12_shared_24 rfl hF
theorem dX12_sized_0 : decode cX12_sized 0 = .ok (.aload_n 0, 1) := by decide +kernel
theorem dX12_sized_1 : decode cX12_sized 1 = .ok (.iconst 0, 1) := by decide +kernel
theorem dX12_sized_2 : decode cX12_sized 2 = .ok (.putfield 1, 3) := by decide +kernel
theorem dX12_sized_5 : decode cX12_sized 5 = .ok (.iload_n 1, 1) := by decide +kernel
theorem dX12_sized_6 : decode cX12_sized 6 = .ok (.i2l, 1) := by decide +kernel
theorem dX12_sized_7 : decode cX12_sized 7 = .ok (.lconst 0, 1) := by decide +kernel
theorem dX12_sized_8 : decode cX12_sized 8 = .ok (.ldc2_w 147, 3) := by decide +kernel
theorem dX12_sized_11 : decode cX12_sized 11 = .ok (.invokestatic 131, 3) := by decide +kernel
theorem dX12_sized_14 : decode cX12_sized 14 = .ok (.ifCond .ne 6, 3) := by decide +kernel
theorem dX12_sized_17 : decode cX12_sized 17 = .ok (.bipush (-3), 2) := by decide +kernel
theorem dX12_sized_19 : decode cX12_sized 19 = .ok (.ireturn, 1) := by decide +kernel
theorem dX12_sized_20 : decode cX12_sized 20 = .ok (.aload_n 0, 1) := by decide +kernel
theorem dX12_sized_21 : decode cX12_sized 21 = .ok (.getfield 13, 3) := by decide +kernel
theorem dX12_sized_24 : decode cX12_sized 24 = .ok (.iconst 5, 1) := by decide +kernel
theorem dX12_sized_25 : decode cX12_sized 25 = .ok (.iaload, 1) := by decide +kernel
theorem dX12_sized_26 : decode cX12_sized 26 = .ok (.istore_n 2, 1) := by decide +kernel
theorem dX12_sized_27 : decode cX12_sized 27 = .ok (.aload_n 0, 1) := by decide +kernel
theorem dX12_sized_28 : decode cX12_sized 28 = .ok (.getfield 13, 3) := by decide +kernel
theorem dX12_sized_31 : decode cX12_sized 31 = .ok (.iconst 5, 1) := by decide +kernel
theorem dX12_sized_32 : decode cX12_sized 32 = .ok (.iload_n 1, 1) := by decide +kernel
theorem dX12_sized_33 : decode cX12_sized 33 = .ok (.iastore, 1) := by decide +kernel
theorem dX12_sized_34 : decode cX12_sized 34 = .ok (.aload_n 0, 1) := by decide +kernel
theorem dX12_sized_35 : decode cX12_sized 35 = .ok (.invokevirtual 272, 3) := by decide +kernel
theorem dX12_sized_38 : decode cX12_sized 38 = .ok (.aload_n 0, 1) := by decide +kernel
theorem dX12_sized_39 : decode cX12_sized 39 = .ok (.getfield 13, 3) := by decide +kernel
theorem dX12_sized_42 : decode cX12_sized 42 = .ok (.iconst 5, 1) := by decide +kernel
theorem dX12_sized_43 : decode cX12_sized 43 = .ok (.iload_n 2, 1) := by decide +kernel
theorem dX12_sized_44 : decode cX12_sized 44 = .ok (.iastore, 1) := by decide +kernel
theorem dX12_sized_45 : decode cX12_sized 45 = .ok (.aload_n 0, 1) := by decide +kernel
theorem dX12_sized_46 : decode cX12_sized 46 = .ok (.getfield 266, 3) := by decide +kernel
theorem dX12_sized_49 : decode cX12_sized 49 = .ok (.ireturn, 1) := by decide +kernel
abbrev k_X12_sized (E : g_E) (l : Launch) (D : g_D) (v1 : Int) (K : Int → g_D → Prop) : Prop := g_Ki E l m_X12_sized 5 [g_R 208, g_I v1] g_SH D K
abbrev n_X12_sized (E : g_E) (l : Launch) (D : g_D) (pc : Nat) (L : List (Option g_V)) (K : Int → g_D → Prop) : Prop := g_N E l m_X12_sized 5 pc L [] g_SH D (g_Ri g_SH K)
theorem s_X12_sized {E : g_E} {l : Launch} {D : g_D} {K : Int → g_D → Prop} {v1 : Int}  (hF : g_okD D → g_r v1 → ∀ D1, D1 = g_up D 208 0 0 → (k_X12_within E l g_SH D1 v1 0 20 (fun x2 D2 => g_r x2 → (¬ x2 = 0 → ∀ D3, D3 = g_up D2 209 5 v1 → (k_X12_laysAll E l D3 (fun D4 => ∀ D5, D5 = g_up D4 209 5 (D2 209 5) → (K (D4 208 27) D5)))) ∧ (x2 = 0 → K (-3) D2)))) : k_X12_sized E l D v1 K := by
  refine g_enter (by decide) (Nat.le_of_ble_eq_true rfl) ?_
  show g_N E l m_X12_sized 5 0 [some (g_R 208), some (g_I v1), none] [] g_SH D (g_Ri g_SH K)
  refine g_use (fun ok => ?_)
  have hF := hF ok.2.1 (ok.loc (i := 1) rfl)
  refine g_aload_n dX12_sized_0 rfl ?_
  refine g_iconst dX12_sized_1 ⟨by decide, by decide⟩ ?_
  let D1 : g_D := g_up D 208 0 0
  have hF := hF D1 rfl
  refine g_put dX12_sized_2 fd_X12_1 (g_ftyI (C := RX12) (T := TX12) (N := 51) rfl rfl (by decide +kernel)) sh_208 rfl ?_
  refine g_iload_n dX12_sized_5 rfl ?_
  refine g_i2l dX12_sized_6 ?_
  refine g_lconst dX12_sized_7 ?_
  refine g_ldc2 dX12_sized_8 ⟨by decide, by decide⟩ kl_X12_147 ?_
  refine gw_cSi (As := [g_J v1, g_J 0, g_J 20]) (rest := []) dX12_sized_11 ms_X12_131 rfl (Nat.le_of_ble_eq_true rfl) (by decide) rfl hF ?_
  intro x2 D2 hx2 hF
  have hF := hF hx2
  refine g_ifne dX12_sized_14 rfl (fun q => ?_) (fun q => ?_)
  · have hF := hF.1 q
    refine g_aload_n dX12_sized_20 rfl ?_
    refine g_getR dX12_sized_21 fd_X12_13 sh_208 rfl ?_
    refine g_iconst dX12_sized_24 ⟨by decide, by decide⟩ ?_
    refine g_iald dX12_sized_25 sh_209 (by decide) (by decide) ?_
    refine gw_istore_n (L' := [some (g_R 208), some (g_I v1), some (g_I (D2 209 5))]) dX12_sized_26 (by decide) rfl ?_
    refine g_aload_n dX12_sized_27 rfl ?_
    refine g_getR dX12_sized_28 fd_X12_13 sh_208 rfl ?_
    refine g_iconst dX12_sized_31 ⟨by decide, by decide⟩ ?_
    refine g_iload_n dX12_sized_32 rfl ?_
    let D3 : g_D := g_up D2 209 5 v1
    have hF := hF D3 rfl
    refine g_iast dX12_sized_33 sh_209 (by decide) (by decide) ?_
    refine g_aload_n dX12_sized_34 rfl ?_
    refine gw_cVv (b := 208) (As := []) (rest := []) dX12_sized_35 mv_X12_272 sh_208 rfl (Nat.le_of_ble_eq_true rfl) (by decide) rfl hF ?_
    intro D4 hF
    refine g_aload_n dX12_sized_38 rfl ?_
    refine g_getR dX12_sized_39 fd_X12_13 sh_208 rfl ?_
    refine g_iconst dX12_sized_42 ⟨by decide, by decide⟩ ?_
    refine g_iload_n dX12_sized_43 rfl ?_
    let D5 : g_D := g_up D4 209 5 (D2 209 5)
    have hF := hF D5 rfl
    refine g_iast dX12_sized_44 sh_209 (by decide) (by decide) ?_
    refine g_aload_n dX12_sized_45 rfl ?_
    refine g_getI dX12_sized_46 fd_X12_266 sh_208 rfl ?_
    exact gw_iret dX12_sized_49 rfl hF
  · have hF := hF.2 q
    refine g_bipush dX12_sized_17 ⟨by decide, by decide⟩ ?_
    exact gw_iret dX12_sized_19 rfl hF
theorem dX12_spoil_0 : decode cX12_spoil 0 = .ok (.aload_n 0, 1) := by decide +kernel
theorem dX12_spoil_1 : decode cX12_spoil 1 = .ok (.iconst 0, 1) := by decide +kernel
theorem dX12_spoil_2 : decode cX12_spoil 2 = .ok (.putfield 1, 3) := by decide +kernel
theorem dX12_spoil_5 : decode cX12_spoil 5 = .ok (.iload_n 1, 1) := by decide +kernel
theorem dX12_spoil_6 : decode cX12_spoil 6 = .ok (.i2l, 1) := by decide +kernel
theorem dX12_spoil_7 : decode cX12_spoil 7 = .ok (.lconst 0, 1) := by decide +kernel
theorem dX12_spoil_8 : decode cX12_spoil 8 = .ok (.ldc2_w 139, 3) := by decide +kernel
theorem dX12_spoil_11 : decode cX12_spoil 11 = .ok (.invokestatic 131, 3) := by decide +kernel
theorem dX12_spoil_14 : decode cX12_spoil 14 = .ok (.ifCond .ne 6, 3) := by decide +kernel
theorem dX12_spoil_17 : decode cX12_spoil 17 = .ok (.bipush (-2), 2) := by decide +kernel
theorem dX12_spoil_19 : decode cX12_spoil 19 = .ok (.ireturn, 1) := by decide +kernel
theorem dX12_spoil_20 : decode cX12_spoil 20 = .ok (.iload_n 2, 1) := by decide +kernel
theorem dX12_spoil_21 : decode cX12_spoil 21 = .ok (.i2l, 1) := by decide +kernel
theorem dX12_spoil_22 : decode cX12_spoil 22 = .ok (.lconst 0, 1) := by decide +kernel
theorem dX12_spoil_23 : decode cX12_spoil 23 = .ok (.ldc2_w 393, 3) := by decide +kernel
theorem dX12_spoil_26 : decode cX12_spoil 26 = .ok (.invokestatic 131, 3) := by decide +kernel
theorem dX12_spoil_29 : decode cX12_spoil 29 = .ok (.ifCond .ne 6, 3) := by decide +kernel
theorem dX12_spoil_32 : decode cX12_spoil 32 = .ok (.bipush (-3), 2) := by decide +kernel
theorem dX12_spoil_34 : decode cX12_spoil 34 = .ok (.ireturn, 1) := by decide +kernel
theorem dX12_spoil_35 : decode cX12_spoil 35 = .ok (.aload_n 0, 1) := by decide +kernel
theorem dX12_spoil_36 : decode cX12_spoil 36 = .ok (.invokevirtual 285, 3) := by decide +kernel
theorem dX12_spoil_39 : decode cX12_spoil 39 = .ok (.aload_n 0, 1) := by decide +kernel
theorem dX12_spoil_40 : decode cX12_spoil 40 = .ok (.getfield 13, 3) := by decide +kernel
theorem dX12_spoil_43 : decode cX12_spoil 43 = .ok (.bipush 86, 2) := by decide +kernel
theorem dX12_spoil_45 : decode cX12_spoil 45 = .ok (.iload_n 1, 1) := by decide +kernel
theorem dX12_spoil_46 : decode cX12_spoil 46 = .ok (.iadd, 1) := by decide +kernel
theorem dX12_spoil_47 : decode cX12_spoil 47 = .ok (.iaload, 1) := by decide +kernel
theorem dX12_spoil_48 : decode cX12_spoil 48 = .ok (.istore_n 3, 1) := by decide +kernel
theorem dX12_spoil_49 : decode cX12_spoil 49 = .ok (.aload_n 0, 1) := by decide +kernel
theorem dX12_spoil_50 : decode cX12_spoil 50 = .ok (.getfield 13, 3) := by decide +kernel
theorem dX12_spoil_53 : decode cX12_spoil 53 = .ok (.bipush 86, 2) := by decide +kernel
theorem dX12_spoil_55 : decode cX12_spoil 55 = .ok (.iload_n 1, 1) := by decide +kernel
theorem dX12_spoil_56 : decode cX12_spoil 56 = .ok (.iadd, 1) := by decide +kernel
theorem dX12_spoil_57 : decode cX12_spoil 57 = .ok (.iload_n 2, 1) := by decide +kernel
theorem dX12_spoil_58 : decode cX12_spoil 58 = .ok (.iastore, 1) := by decide +kernel
theorem dX12_spoil_59 : decode cX12_spoil 59 = .ok (.iload_n 3, 1) := by decide +kernel
theorem dX12_spoil_60 : decode cX12_spoil 60 = .ok (.ireturn, 1) := by decide +kernel
abbrev k_X12_spoil (E : g_E) (l : Launch) (D : g_D) (v1 : Int) (v2 : Int) (K : Int → g_D → Prop) : Prop := g_Ki E l m_X12_spoil 1 [g_R 208, g_I v1, g_I v2] g_SH D K
abbrev n_X12_spoil (E : g_E) (l : Launch) (D : g_D) (pc : Nat) (L : List (Option g_V)) (K : Int → g_D → Prop) : Prop := g_N E l m_X12_spoil 1 pc L [] g_SH D (g_Ri g_SH K)
theorem s_X12_spoil {E : g_E} {l : Launch} {D : g_D} {K : Int → g_D → Prop} {v1 : Int} {v2 : Int}  (hF : g_okD D → g_r v1 → g_r v2 → ∀ D1, D1 = g_up D 208 0 0 → (k_X12_within E l g_SH D1 v1 0 39 (fun x2 D2 => g_r x2 → (¬ x2 = 0 → k_X12_within E l g_SH D2 v2 0 255 (fun x3 D3 => g_r x3 → (¬ x3 = 0 → k_X12_notes E l D3 (fun D4 => (g_r (86 + v1)) ∧ ((0 ≤ (86 + v1) ∧ (86 + v1) < 1557) ∧ ((g_r (86 + v1)) ∧ ((0 ≤ (86 + v1) ∧ (86 + v1) < 1557) ∧ (∀ D5, D5 = g_up D4 209 (86 + v1).toNat v2 → (K (D4 209 (86 + v1).toNat) D5))))))) ∧ (x3 = 0 → K (-3) D3))) ∧ (x2 = 0 → K (-2) D2)))) : k_X12_spoil E l D v1 v2 K := by
  refine g_enter (by decide) (Nat.le_of_ble_eq_true rfl) ?_
  show g_N E l m_X12_spoil 1 0 [some (g_R 208), some (g_I v1), some (g_I v2), none] [] g_SH D (g_Ri g_SH K)
  refine g_use (fun ok => ?_)
  have hF := hF ok.2.1 (ok.loc (i := 1) rfl) (ok.loc (i := 2) rfl)
  refine g_aload_n dX12_spoil_0 rfl ?_
  refine g_iconst dX12_spoil_1 ⟨by decide, by decide⟩ ?_
  let D1 : g_D := g_up D 208 0 0
  have hF := hF D1 rfl
  refine g_put dX12_spoil_2 fd_X12_1 (g_ftyI (C := RX12) (T := TX12) (N := 51) rfl rfl (by decide +kernel)) sh_208 rfl ?_
  refine g_iload_n dX12_spoil_5 rfl ?_
  refine g_i2l dX12_spoil_6 ?_
  refine g_lconst dX12_spoil_7 ?_
  refine g_ldc2 dX12_spoil_8 ⟨by decide, by decide⟩ kl_X12_139 ?_
  refine gw_cSi (As := [g_J v1, g_J 0, g_J 39]) (rest := []) dX12_spoil_11 ms_X12_131 rfl (Nat.le_of_ble_eq_true rfl) (by decide) rfl hF ?_
  intro x2 D2 hx2 hF
  have hF := hF hx2
  refine g_ifne dX12_spoil_14 rfl (fun q => ?_) (fun q => ?_)
  · have hF := hF.1 q
    refine g_iload_n dX12_spoil_20 rfl ?_
    refine g_i2l dX12_spoil_21 ?_
    refine g_lconst dX12_spoil_22 ?_
    refine g_ldc2 dX12_spoil_23 ⟨by decide, by decide⟩ kl_X12_393 ?_
    refine gw_cSi (As := [g_J v2, g_J 0, g_J 255]) (rest := []) dX12_spoil_26 ms_X12_131 rfl (Nat.le_of_ble_eq_true rfl) (by decide) rfl hF ?_
    intro x3 D3 hx3 hF
    have hF := hF hx3
    refine g_ifne dX12_spoil_29 rfl (fun q => ?_) (fun q => ?_)
    · have hF := hF.1 q
      refine g_aload_n dX12_spoil_35 rfl ?_
      refine gw_cVv (b := 208) (As := []) (rest := []) dX12_spoil_36 mv_X12_285 sh_208 rfl (Nat.le_of_ble_eq_true rfl) (by decide) rfl hF ?_
      intro D4 hF
      refine g_aload_n dX12_spoil_39 rfl ?_
      refine g_getR dX12_spoil_40 fd_X12_13 sh_208 rfl ?_
      refine g_bipush dX12_spoil_43 ⟨by decide, by decide⟩ ?_
      refine g_iload_n dX12_spoil_45 rfl ?_
      obtain ⟨hc, hF⟩ := hF
      refine g_iadd dX12_spoil_46 hc ?_
      obtain ⟨hc, hF⟩ := hF
      refine g_iald dX12_spoil_47 sh_209 hc.1 hc.2 ?_
      refine gw_istore_n (L' := [some (g_R 208), some (g_I v1), some (g_I v2), some (g_I (D4 209 (86 + v1).toNat))]) dX12_spoil_48 (by decide) rfl ?_
      refine g_aload_n dX12_spoil_49 rfl ?_
      refine g_getR dX12_spoil_50 fd_X12_13 sh_208 rfl ?_
      refine g_bipush dX12_spoil_53 ⟨by decide, by decide⟩ ?_
      refine g_iload_n dX12_spoil_55 rfl ?_
      obtain ⟨hc, hF⟩ := hF
      refine g_iadd dX12_spoil_56 hc ?_
      refine g_iload_n dX12_spoil_57 rfl ?_
      obtain ⟨hc, hF⟩ := hF
      let D5 : g_D := g_up D4 209 (86 + v1).toNat v2
      have hF := hF D5 rfl
      refine g_iast dX12_spoil_58 sh_209 hc.1 hc.2 ?_
      refine g_iload_n dX12_spoil_59 rfl ?_
      exact gw_iret dX12_spoil_60 rfl hF
    · have hF := hF.2 q
      refine g_bipush dX12_spoil_32 ⟨by decide, by decide⟩ ?_
      exact gw_iret dX12_spoil_34 rfl hF
  · have hF := hF.2 q
    refine g_bipush dX12_spoil_17 ⟨by decide, by decide⟩ ?_
    exact gw_iret dX12_spoil_19 rfl hF
theorem dX12_step_0 : decode cX12_step 0 = .ok (.aload_n 0, 1) := by decide +kernel
theorem dX12_step_1 : decode cX12_step 1 = .ok (.iconst 0, 1) := by decide +kernel
theorem dX12_step_2 : decode cX12_step 2 = .ok (.putfield 1, 3) := by decide +kernel
theorem dX12_step_5 : decode cX12_step 5 = .ok (.aload_n 0, 1) := by decide +kernel
theorem dX12_step_6 : decode cX12_step 6 = .ok (.invokevirtual 369, 3) := by decide +kernel
theorem dX12_step_9 : decode cX12_step 9 = .ok (.iload_n 1, 1) := by decide +kernel
theorem dX12_step_10 : decode cX12_step 10 = .ok (.i2l, 1) := by decide +kernel
theorem dX12_step_11 : decode cX12_step 11 = .ok (.lconst 0, 1) := by decide +kernel
theorem dX12_step_12 : decode cX12_step 12 = .ok (.aload_n 0, 1) := by decide +kernel
theorem dX12_step_13 : decode cX12_step 13 = .ok (.getfield 342, 3) := by decide +kernel
theorem dX12_step_16 : decode cX12_step 16 = .ok (.iconst 1, 1) := by decide +kernel
theorem dX12_step_17 : decode cX12_step 17 = .ok (.isub, 1) := by decide +kernel
theorem dX12_step_18 : decode cX12_step 18 = .ok (.i2l, 1) := by decide +kernel
theorem dX12_step_19 : decode cX12_step 19 = .ok (.invokestatic 131, 3) := by decide +kernel
theorem dX12_step_22 : decode cX12_step 22 = .ok (.ifCond .eq 15, 3) := by decide +kernel
theorem dX12_step_25 : decode cX12_step 25 = .ok (.iload_n 2, 1) := by decide +kernel
theorem dX12_step_26 : decode cX12_step 26 = .ok (.i2l, 1) := by decide +kernel
theorem dX12_step_27 : decode cX12_step 27 = .ok (.lconst 0, 1) := by decide +kernel
theorem dX12_step_28 : decode cX12_step 28 = .ok (.ldc2_w 149, 3) := by decide +kernel
theorem dX12_step_31 : decode cX12_step 31 = .ok (.invokestatic 131, 3) := by decide +kernel
theorem dX12_step_34 : decode cX12_step 34 = .ok (.ifCond .ne 6, 3) := by decide +kernel
theorem dX12_step_37 : decode cX12_step 37 = .ok (.bipush (-2), 2) := by decide +kernel
theorem dX12_step_39 : decode cX12_step 39 = .ok (.ireturn, 1) := by decide +kernel
theorem dX12_step_40 : decode cX12_step 40 = .ok (.iload_n 2, 1) := by decide +kernel
theorem dX12_step_41 : decode cX12_step 41 = .ok (.ifCond .ne 10, 3) := by decide +kernel
theorem dX12_step_44 : decode cX12_step 44 = .ok (.aload_n 0, 1) := by decide +kernel
theorem dX12_step_45 : decode cX12_step 45 = .ok (.getfield 96, 3) := by decide +kernel
theorem dX12_step_48 : decode cX12_step 48 = .ok (.iload_n 1, 1) := by decide +kernel
theorem dX12_step_49 : decode cX12_step 49 = .ok (.iaload, 1) := by decide +kernel
theorem dX12_step_50 : decode cX12_step 50 = .ok (.ireturn, 1) := by decide +kernel
theorem dX12_step_51 : decode cX12_step 51 = .ok (.iload_n 2, 1) := by decide +kernel
theorem dX12_step_52 : decode cX12_step 52 = .ok (.iconst 1, 1) := by decide +kernel
theorem dX12_step_53 : decode cX12_step 53 = .ok (.if_icmp .eq 13, 3) := by decide +kernel
theorem dX12_step_56 : decode cX12_step 56 = .ok (.aload_n 0, 1) := by decide +kernel
theorem dX12_step_57 : decode cX12_step 57 = .ok (.getfield 99, 3) := by decide +kernel
theorem dX12_step_60 : decode cX12_step 60 = .ok (.iload_n 1, 1) := by decide +kernel
theorem dX12_step_61 : decode cX12_step 61 = .ok (.iaload, 1) := by decide +kernel
theorem dX12_step_62 : decode cX12_step 62 = .ok (.iconst (-1), 1) := by decide +kernel
theorem dX12_step_63 : decode cX12_step 63 = .ok (.if_icmp .ne 10, 3) := by decide +kernel
theorem dX12_step_66 : decode cX12_step 66 = .ok (.aload_n 0, 1) := by decide +kernel
theorem dX12_step_67 : decode cX12_step 67 = .ok (.getfield 99, 3) := by decide +kernel
theorem dX12_step_70 : decode cX12_step 70 = .ok (.iload_n 1, 1) := by decide +kernel
theorem dX12_step_71 : decode cX12_step 71 = .ok (.iaload, 1) := by decide +kernel
theorem dX12_step_72 : decode cX12_step 72 = .ok (.ireturn, 1) := by decide +kernel
theorem dX12_step_73 : decode cX12_step 73 = .ok (.iconst 0, 1) := by decide +kernel
theorem dX12_step_74 : decode cX12_step 74 = .ok (.istore_n 3, 1) := by decide +kernel
theorem dX12_step_75 : decode cX12_step 75 = .ok (.iconst 4, 1) := by decide +kernel
theorem dX12_step_76 : decode cX12_step 76 = .ok (.aload_n 0, 1) := by decide +kernel
theorem dX12_step_77 : decode cX12_step 77 = .ok (.getfield 99, 3) := by decide +kernel
theorem dX12_step_80 : decode cX12_step 80 = .ok (.iload_n 1, 1) := by decide +kernel
theorem dX12_step_81 : decode cX12_step 81 = .ok (.iaload, 1) := by decide +kernel
theorem dX12_step_82 : decode cX12_step 82 = .ok (.imul, 1) := by decide +kernel
theorem dX12_step_83 : decode cX12_step 83 = .ok (.istore 4, 2) := by decide +kernel
theorem dX12_step_85 : decode cX12_step 85 = .ok (.iload 4, 2) := by decide +kernel
theorem dX12_step_87 : decode cX12_step 87 = .ok (.iconst 4, 1) := by decide +kernel
theorem dX12_step_88 : decode cX12_step 88 = .ok (.aload_n 0, 1) := by decide +kernel
theorem dX12_step_89 : decode cX12_step 89 = .ok (.getfield 99, 3) := by decide +kernel
theorem dX12_step_92 : decode cX12_step 92 = .ok (.iload_n 1, 1) := by decide +kernel
theorem dX12_step_93 : decode cX12_step 93 = .ok (.iaload, 1) := by decide +kernel
theorem dX12_step_94 : decode cX12_step 94 = .ok (.imul, 1) := by decide +kernel
theorem dX12_step_95 : decode cX12_step 95 = .ok (.iconst 4, 1) := by decide +kernel
theorem dX12_step_96 : decode cX12_step 96 = .ok (.iadd, 1) := by decide +kernel
theorem dX12_step_97 : decode cX12_step 97 = .ok (.if_icmp .ge 47, 3) := by decide +kernel
theorem dX12_step_100 : decode cX12_step 100 = .ok (.iload_n 3, 1) := by decide +kernel
theorem dX12_step_101 : decode cX12_step 101 = .ok (.aload_n 0, 1) := by decide +kernel
theorem dX12_step_102 : decode cX12_step 102 = .ok (.getfield 102, 3) := by decide +kernel
theorem dX12_step_105 : decode cX12_step 105 = .ok (.bipush 60, 2) := by decide +kernel
theorem dX12_step_107 : decode cX12_step 107 = .ok (.iload_n 1, 1) := by decide +kernel
theorem dX12_step_108 : decode cX12_step 108 = .ok (.imul, 1) := by decide +kernel
theorem dX12_step_109 : decode cX12_step 109 = .ok (.iload 4, 2) := by decide +kernel
theorem dX12_step_111 : decode cX12_step 111 = .ok (.iadd, 1) := by decide +kernel
theorem dX12_step_112 : decode cX12_step 112 = .ok (.iaload, 1) := by decide +kernel
theorem dX12_step_113 : decode cX12_step 113 = .ok (.aload_n 0, 1) := by decide +kernel
theorem dX12_step_114 : decode cX12_step 114 = .ok (.getfield 102, 3) := by decide +kernel
theorem dX12_step_117 : decode cX12_step 117 = .ok (.bipush 60, 2) := by decide +kernel
theorem dX12_step_119 : decode cX12_step 119 = .ok (.iload_n 1, 1) := by decide +kernel
theorem dX12_step_120 : decode cX12_step 120 = .ok (.imul, 1) := by decide +kernel
theorem dX12_step_121 : decode cX12_step 121 = .ok (.bipush 60, 2) := by decide +kernel
theorem dX12_step_123 : decode cX12_step 123 = .ok (.iadd, 1) := by decide +kernel
theorem dX12_step_124 : decode cX12_step 124 = .ok (.iload 4, 2) := by decide +kernel
theorem dX12_step_126 : decode cX12_step 126 = .ok (.iadd, 1) := by decide +kernel
theorem dX12_step_127 : decode cX12_step 127 = .ok (.iaload, 1) := by decide +kernel
theorem dX12_step_128 : decode cX12_step 128 = .ok (.if_icmp .eq 7, 3) := by decide +kernel
theorem dX12_step_131 : decode cX12_step 131 = .ok (.iconst 1, 1) := by decide +kernel
theorem dX12_step_132 : decode cX12_step 132 = .ok (.goto 4, 3) := by decide +kernel
theorem dX12_step_135 : decode cX12_step 135 = .ok (.iconst 0, 1) := by decide +kernel
theorem dX12_step_136 : decode cX12_step 136 = .ok (.ior, 1) := by decide +kernel
theorem dX12_step_137 : decode cX12_step 137 = .ok (.istore_n 3, 1) := by decide +kernel
theorem dX12_step_138 : decode cX12_step 138 = .ok (.iinc 4 1, 3) := by decide +kernel
theorem dX12_step_141 : decode cX12_step 141 = .ok (.goto (-56), 3) := by decide +kernel
theorem dX12_step_144 : decode cX12_step 144 = .ok (.iload_n 3, 1) := by decide +kernel
theorem dX12_step_145 : decode cX12_step 145 = .ok (.ifCond .eq 7, 3) := by decide +kernel
theorem dX12_step_148 : decode cX12_step 148 = .ok (.iconst 1, 1) := by decide +kernel
theorem dX12_step_149 : decode cX12_step 149 = .ok (.goto 4, 3) := by decide +kernel
theorem dX12_step_152 : decode cX12_step 152 = .ok (.iconst 0, 1) := by decide +kernel
theorem dX12_step_153 : decode cX12_step 153 = .ok (.ireturn, 1) := by decide +kernel
abbrev k_X12_step (E : g_E) (l : Launch) (D : g_D) (v1 : Int) (v2 : Int) (K : Int → g_D → Prop) : Prop := g_Ki E l m_X12_step 5 [g_R 208, g_I v1, g_I v2] g_SH D K
abbrev n_X12_step (E : g_E) (l : Launch) (D : g_D) (pc : Nat) (L : List (Option g_V)) (K : Int → g_D → Prop) : Prop := g_N E l m_X12_step 5 pc L [] g_SH D (g_Ri g_SH K)
theorem s_X12_step {E : g_E} {l : Launch} {D : g_D} {K : Int → g_D → Prop} {v1 : Int} {v2 : Int}  (hF : g_okD D → g_r v1 → g_r v2 → ∀ D1, D1 = g_up D 208 0 0 → (k_X12_laysDue E l D1 (fun D2 => (g_r ((D2 208 46) - 1)) ∧ (k_X12_within E l g_SH D2 v1 0 ((D2 208 46) - 1) (fun x3 D3 => g_r x3 → (x3 = 0 → K (-2) D3) ∧ (¬ x3 = 0 → k_X12_within E l g_SH D3 v2 0 2 (fun x4 D4 => g_r x4 → (¬ x4 = 0 → (¬ v2 = 0 → (v2 = 1 → (0 ≤ v1 ∧ v1 < 400) ∧ (K (D4 236 v1.toNat) D4)) ∧ (¬ v2 = 1 → (0 ≤ v1 ∧ v1 < 400) ∧ ((¬ (D4 236 v1.toNat) = (-1) → (0 ≤ v1 ∧ v1 < 400) ∧ ((g_r (4 * (D4 236 v1.toNat))) ∧ (n_X12_step E l D4 85 [some (g_R 208), some (g_I v1), none, some (g_I 0), some (g_I (4 * (D4 236 v1.toNat)))] K))) ∧ ((D4 236 v1.toNat) = (-1) → (0 ≤ v1 ∧ v1 < 400) ∧ (K (D4 236 v1.toNat) D4))))) ∧ (v2 = 0 → (0 ≤ v1 ∧ v1 < 400) ∧ (K (D4 235 v1.toNat) D4))) ∧ (x4 = 0 → K (-2) D4)))))))) : k_X12_step E l D v1 v2 K := by
  refine g_enter (by decide) (Nat.le_of_ble_eq_true rfl) ?_
  show g_N E l m_X12_step 5 0 [some (g_R 208), some (g_I v1), some (g_I v2), none, none] [] g_SH D (g_Ri g_SH K)
  refine g_use (fun ok => ?_)
  have hF := hF ok.2.1 (ok.loc (i := 1) rfl) (ok.loc (i := 2) rfl)
  refine g_aload_n dX12_step_0 rfl ?_
  refine g_iconst dX12_step_1 ⟨by decide, by decide⟩ ?_
  let D1 : g_D := g_up D 208 0 0
  have hF := hF D1 rfl
  refine g_put dX12_step_2 fd_X12_1 (g_ftyI (C := RX12) (T := TX12) (N := 51) rfl rfl (by decide +kernel)) sh_208 rfl ?_
  refine g_aload_n dX12_step_5 rfl ?_
  refine gw_cVv (b := 208) (As := []) (rest := []) dX12_step_6 mv_X12_369 sh_208 rfl (Nat.le_of_ble_eq_true rfl) (by decide) rfl hF ?_
  intro D2 hF
  refine g_iload_n dX12_step_9 rfl ?_
  refine g_i2l dX12_step_10 ?_
  refine g_lconst dX12_step_11 ?_
  refine g_aload_n dX12_step_12 rfl ?_
  refine g_getI dX12_step_13 fd_X12_342 sh_208 rfl ?_
  refine g_iconst dX12_step_16 ⟨by decide, by decide⟩ ?_
  obtain ⟨hc, hF⟩ := hF
  refine g_isub dX12_step_17 hc ?_
  refine g_i2l dX12_step_18 ?_
  refine gw_cSi (As := [g_J v1, g_J 0, g_J ((D2 208 46) - 1)]) (rest := []) dX12_step_19 ms_X12_131 rfl (Nat.le_of_ble_eq_true rfl) (by decide) rfl hF ?_
  intro x3 D3 hx3 hF
  have hF := hF hx3
  refine g_ifeq dX12_step_22 rfl (fun q => ?_) (fun q => ?_)
  · have hF := hF.1 q
    refine g_bipush dX12_step_37 ⟨by decide, by decide⟩ ?_
    exact gw_iret dX12_step_39 rfl hF
  · have hF := hF.2 q
    refine g_iload_n dX12_step_25 rfl ?_
    refine g_i2l dX12_step_26 ?_
    refine g_lconst dX12_step_27 ?_
    refine g_ldc2 dX12_step_28 ⟨by decide, by decide⟩ kl_X12_149 ?_
    refine gw_cSi (As := [g_J v2, g_J 0, g_J 2]) (rest := []) dX12_step_31 ms_X12_131 rfl (Nat.le_of_ble_eq_true rfl) (by decide) rfl hF ?_
    intro x4 D4 hx4 hF
    have hF := hF hx4
    refine g_ifne dX12_step_34 rfl (fun q => ?_) (fun q => ?_)
    · have hF := hF.1 q
      refine g_iload_n dX12_step_40 rfl ?_
      refine g_ifne dX12_step_41 rfl (fun q => ?_) (fun q => ?_)
      · have hF := hF.1 q
        refine g_iload_n dX12_step_51 rfl ?_
        refine g_iconst dX12_step_52 ⟨by decide, by decide⟩ ?_
        refine g_ceq dX12_step_53 rfl (fun q => ?_) (fun q => ?_)
        · have hF := hF.1 q
          refine g_aload_n dX12_step_66 rfl ?_
          refine g_getR dX12_step_67 fd_X12_99 sh_208 rfl ?_
          refine g_iload_n dX12_step_70 rfl ?_
          obtain ⟨hc, hF⟩ := hF
          refine g_iald dX12_step_71 sh_236 hc.1 hc.2 ?_
          exact gw_iret dX12_step_72 rfl hF
        · have hF := hF.2 q
          refine g_aload_n dX12_step_56 rfl ?_
          refine g_getR dX12_step_57 fd_X12_99 sh_208 rfl ?_
          refine g_iload_n dX12_step_60 rfl ?_
          obtain ⟨hc, hF⟩ := hF
          refine g_iald dX12_step_61 sh_236 hc.1 hc.2 ?_
          refine g_iconst dX12_step_62 ⟨by decide, by decide⟩ ?_
          refine g_cne dX12_step_63 rfl (fun q => ?_) (fun q => ?_)
          · have hF := hF.1 q
            refine g_iconst dX12_step_73 ⟨by decide, by decide⟩ ?_
            refine gw_istore_n (L' := [some (g_R 208), some (g_I v1), some (g_I v2), some (g_I 0), none]) dX12_step_74 (by decide) rfl ?_
            refine g_iconst dX12_step_75 ⟨by decide, by decide⟩ ?_
            refine g_aload_n dX12_step_76 rfl ?_
            refine g_getR dX12_step_77 fd_X12_99 sh_208 rfl ?_
            refine g_iload_n dX12_step_80 rfl ?_
            obtain ⟨hc, hF⟩ := hF
            refine g_iald dX12_step_81 sh_236 hc.1 hc.2 ?_
            obtain ⟨hc, hF⟩ := hF
            refine g_imul dX12_step_82 hc ?_
            refine gw_istore (L' := [some (g_R 208), some (g_I v1), some (g_I v2), some (g_I 0), some (g_I (4 * (D4 236 v1.toNat)))]) dX12_step_83 (by decide) rfl ?_
            exact g_forget (L' := [some (g_R 208), some (g_I v1), none, some (g_I 0), some (g_I (4 * (D4 236 v1.toNat)))]) ⟨rfl, ⟨rfl, ⟨rfl, ⟨rfl, trivial⟩⟩⟩⟩ hF
          · have hF := hF.2 q
            refine g_aload_n dX12_step_66 rfl ?_
            refine g_getR dX12_step_67 fd_X12_99 sh_208 rfl ?_
            refine g_iload_n dX12_step_70 rfl ?_
            obtain ⟨hc, hF⟩ := hF
            refine g_iald dX12_step_71 sh_236 hc.1 hc.2 ?_
            exact gw_iret dX12_step_72 rfl hF
      · have hF := hF.2 q
        refine g_aload_n dX12_step_44 rfl ?_
        refine g_getR dX12_step_45 fd_X12_96 sh_208 rfl ?_
        refine g_iload_n dX12_step_48 rfl ?_
        obtain ⟨hc, hF⟩ := hF
        refine g_iald dX12_step_49 sh_235 hc.1 hc.2 ?_
        exact gw_iret dX12_step_50 rfl hF
    · have hF := hF.2 q
      refine g_bipush dX12_step_37 ⟨by decide, by decide⟩ ?_
      exact gw_iret dX12_step_39 rfl hF
theorem s_X12_step_85 {E : g_E} {l : Launch} {D : g_D} {K : Int → g_D → Prop} {v1 : Int} {v3 : Int} {v4 : Int}  (hF : g_okD D → g_r v1 → g_r v3 → g_r v4 → (0 ≤ v1 ∧ v1 < 400) ∧ ((g_r (4 * (D 236 v1.toNat))) ∧ ((g_r ((4 * (D 236 v1.toNat)) + 4)) ∧ ((((4 * (D 236 v1.toNat)) + 4) ≤ v4 → (v3 = 0 → K 0 D) ∧ (¬ v3 = 0 → K 1 D)) ∧ (¬ ((4 * (D 236 v1.toNat)) + 4) ≤ v4 → (g_r (60 * v1)) ∧ ((g_r ((60 * v1) + v4)) ∧ ((0 ≤ ((60 * v1) + v4) ∧ ((60 * v1) + v4) < 24060) ∧ ((g_r (60 * v1)) ∧ ((g_r ((60 * v1) + 60)) ∧ ((g_r (((60 * v1) + 60) + v4)) ∧ ((0 ≤ (((60 * v1) + 60) + v4) ∧ (((60 * v1) + 60) + v4) < 24060) ∧ (((D 237 ((60 * v1) + v4).toNat) = (D 237 (((60 * v1) + 60) + v4).toNat) → (g_r (v4 + 1)) ∧ (n_X12_step E l D 85 [some (g_R 208), some (g_I v1), none, some (g_I (g_or v3 0)), some (g_I (v4 + 1))] K)) ∧ (¬ (D 237 ((60 * v1) + v4).toNat) = (D 237 (((60 * v1) + 60) + v4).toNat) → (g_r (v4 + 1)) ∧ (n_X12_step E l D 85 [some (g_R 208), some (g_I v1), none, some (g_I (g_or v3 1)), some (g_I (v4 + 1))] K)))))))))))))) : n_X12_step E l D 85 [some (g_R 208), some (g_I v1), none, some (g_I v3), some (g_I v4)] K := by
  refine g_use (fun ok => ?_)
  have hF := hF ok.2.1 (ok.loc (i := 1) rfl) (ok.loc (i := 3) rfl) (ok.loc (i := 4) rfl)
  refine g_iload dX12_step_85 rfl ?_
  refine g_iconst dX12_step_87 ⟨by decide, by decide⟩ ?_
  refine g_aload_n dX12_step_88 rfl ?_
  refine g_getR dX12_step_89 fd_X12_99 sh_208 rfl ?_
  refine g_iload_n dX12_step_92 rfl ?_
  obtain ⟨hc, hF⟩ := hF
  refine g_iald dX12_step_93 sh_236 hc.1 hc.2 ?_
  obtain ⟨hc, hF⟩ := hF
  refine g_imul dX12_step_94 hc ?_
  refine g_iconst dX12_step_95 ⟨by decide, by decide⟩ ?_
  obtain ⟨hc, hF⟩ := hF
  refine g_iadd dX12_step_96 hc ?_
  refine g_cge dX12_step_97 rfl (fun q => ?_) (fun q => ?_)
  · have hF := hF.1 q
    refine g_iload_n dX12_step_144 rfl ?_
    refine g_ifeq dX12_step_145 rfl (fun q => ?_) (fun q => ?_)
    · have hF := hF.1 q
      refine g_iconst dX12_step_152 ⟨by decide, by decide⟩ ?_
      exact gw_iret dX12_step_153 rfl hF
    · have hF := hF.2 q
      refine g_iconst dX12_step_148 ⟨by decide, by decide⟩ ?_
      refine g_goto dX12_step_149 rfl ?_
      exact gw_iret dX12_step_153 rfl hF
  · have hF := hF.2 q
    refine g_iload_n dX12_step_100 rfl ?_
    refine g_aload_n dX12_step_101 rfl ?_
    refine g_getR dX12_step_102 fd_X12_102 sh_208 rfl ?_
    refine g_bipush dX12_step_105 ⟨by decide, by decide⟩ ?_
    refine g_iload_n dX12_step_107 rfl ?_
    obtain ⟨hc, hF⟩ := hF
    refine g_imul dX12_step_108 hc ?_
    refine g_iload dX12_step_109 rfl ?_
    obtain ⟨hc, hF⟩ := hF
    refine g_iadd dX12_step_111 hc ?_
    obtain ⟨hc, hF⟩ := hF
    refine g_iald dX12_step_112 sh_237 hc.1 hc.2 ?_
    refine g_aload_n dX12_step_113 rfl ?_
    refine g_getR dX12_step_114 fd_X12_102 sh_208 rfl ?_
    refine g_bipush dX12_step_117 ⟨by decide, by decide⟩ ?_
    refine g_iload_n dX12_step_119 rfl ?_
    obtain ⟨hc, hF⟩ := hF
    refine g_imul dX12_step_120 hc ?_
    refine g_bipush dX12_step_121 ⟨by decide, by decide⟩ ?_
    obtain ⟨hc, hF⟩ := hF
    refine g_iadd dX12_step_123 hc ?_
    refine g_iload dX12_step_124 rfl ?_
    obtain ⟨hc, hF⟩ := hF
    refine g_iadd dX12_step_126 hc ?_
    obtain ⟨hc, hF⟩ := hF
    refine g_iald dX12_step_127 sh_237 hc.1 hc.2 ?_
    refine g_ceq dX12_step_128 rfl (fun q => ?_) (fun q => ?_)
    · have hF := hF.1 q
      refine g_iconst dX12_step_135 ⟨by decide, by decide⟩ ?_
      refine g_ior dX12_step_136 ?_
      refine gw_istore_n (L' := [some (g_R 208), some (g_I v1), none, some (g_I (g_or v3 0)), some (g_I v4)]) dX12_step_137 (by decide) rfl ?_
      obtain ⟨hc, hF⟩ := hF
      refine gw_iinc (L' := [some (g_R 208), some (g_I v1), none, some (g_I (g_or v3 0)), some (g_I (v4 + 1))]) dX12_step_138 rfl hc (by decide) rfl ?_
      refine g_goto dX12_step_141 rfl ?_
      exact hF
    · have hF := hF.2 q
      refine g_iconst dX12_step_131 ⟨by decide, by decide⟩ ?_
      refine g_goto dX12_step_132 rfl ?_
      refine g_ior dX12_step_136 ?_
      refine gw_istore_n (L' := [some (g_R 208), some (g_I v1), none, some (g_I (g_or v3 1)), some (g_I v4)]) dX12_step_137 (by decide) rfl ?_
      obtain ⟨hc, hF⟩ := hF
      refine gw_iinc (L' := [some (g_R 208), some (g_I v1), none, some (g_I (g_or v3 1)), some (g_I (v4 + 1))]) dX12_step_138 rfl hc (by decide) rfl ?_
      refine g_goto dX12_step_141 rfl ?_
      exact hF
theorem dX12_steps_0 : decode cX12_steps 0 = .ok (.aload_n 0, 1) := by decide +kernel
theorem dX12_steps_1 : decode cX12_steps 1 = .ok (.iconst 0, 1) := by decide +kernel
theorem dX12_steps_2 : decode cX12_steps 2 = .ok (.putfield 1, 3) := by decide +kernel
theorem dX12_steps_5 : decode cX12_steps 5 = .ok (.aload_n 0, 1) := by decide +kernel
theorem dX12_steps_6 : decode cX12_steps 6 = .ok (.invokevirtual 324, 3) := by decide +kernel
theorem dX12_steps_9 : decode cX12_steps 9 = .ok (.ireturn, 1) := by decide +kernel
abbrev k_X12_steps (E : g_E) (l : Launch) (D : g_D) (K : Int → g_D → Prop) : Prop := g_Ki E l m_X12_steps 4 [g_R 208] g_SH D K
abbrev n_X12_steps (E : g_E) (l : Launch) (D : g_D) (pc : Nat) (L : List (Option g_V)) (K : Int → g_D → Prop) : Prop := g_N E l m_X12_steps 4 pc L [] g_SH D (g_Ri g_SH K)
theorem s_X12_steps {E : g_E} {l : Launch} {D : g_D} {K : Int → g_D → Prop}   (hF : g_okD D → ∀ D1, D1 = g_up D 208 0 0 → (k_X12_laysSteps E l D1 (fun x2 D2 => g_r x2 → K x2 D2))) : k_X12_steps E l D K := by
  refine g_enter (by decide) (Nat.le_of_ble_eq_true rfl) ?_
  show g_N E l m_X12_steps 4 0 [some (g_R 208)] [] g_SH D (g_Ri g_SH K)
  refine g_use (fun ok => ?_)
  have hF := hF ok.2.1
  refine g_aload_n dX12_steps_0 rfl ?_
  refine g_iconst dX12_steps_1 ⟨by decide, by decide⟩ ?_
  let D1 : g_D := g_up D 208 0 0
  have hF := hF D1 rfl
  refine g_put dX12_steps_2 fd_X12_1 (g_ftyI (C := RX12) (T := TX12) (N := 51) rfl rfl (by decide +kernel)) sh_208 rfl ?_
  refine g_aload_n dX12_steps_5 rfl ?_
  refine gw_cVi (b := 208) (As := []) (rest := []) dX12_steps_6 mv_X12_324 sh_208 rfl (Nat.le_of_ble_eq_true rfl) (by decide) rfl hF ?_
  intro x2 D2 hx2 hF
  have hF := hF hx2
  exact gw_iret dX12_steps_9 rfl hF
theorem dX12_suffix_0 : decode cX12_suffix 0 = .ok (.aload_n 0, 1) := by decide +kernel
theorem dX12_suffix_1 : decode cX12_suffix 1 = .ok (.iconst 0, 1) := by decide +kernel
theorem dX12_suffix_2 : decode cX12_suffix 2 = .ok (.putfield 1, 3) := by decide +kernel
theorem dX12_suffix_5 : decode cX12_suffix 5 = .ok (.iload_n 1, 1) := by decide +kernel
theorem dX12_suffix_6 : decode cX12_suffix 6 = .ok (.i2l, 1) := by decide +kernel
theorem dX12_suffix_7 : decode cX12_suffix 7 = .ok (.lconst 0, 1) := by decide +kernel
theorem dX12_suffix_8 : decode cX12_suffix 8 = .ok (.aload_n 0, 1) := by decide +kernel
theorem dX12_suffix_9 : decode cX12_suffix 9 = .ok (.getfield 13, 3) := by decide +kernel
theorem dX12_suffix_12 : decode cX12_suffix 12 = .ok (.iconst 0, 1) := by decide +kernel
theorem dX12_suffix_13 : decode cX12_suffix 13 = .ok (.iaload, 1) := by decide +kernel
theorem dX12_suffix_14 : decode cX12_suffix 14 = .ok (.iconst 1, 1) := by decide +kernel
theorem dX12_suffix_15 : decode cX12_suffix 15 = .ok (.isub, 1) := by decide +kernel
theorem dX12_suffix_16 : decode cX12_suffix 16 = .ok (.i2l, 1) := by decide +kernel
theorem dX12_suffix_17 : decode cX12_suffix 17 = .ok (.invokestatic 131, 3) := by decide +kernel
theorem dX12_suffix_20 : decode cX12_suffix 20 = .ok (.ifCond .ne 5, 3) := by decide +kernel
theorem dX12_suffix_23 : decode cX12_suffix 23 = .ok (.iconst (-1), 1) := by decide +kernel
theorem dX12_suffix_24 : decode cX12_suffix 24 = .ok (.ireturn, 1) := by decide +kernel
theorem dX12_suffix_25 : decode cX12_suffix 25 = .ok (.aload_n 0, 1) := by decide +kernel
theorem dX12_suffix_26 : decode cX12_suffix 26 = .ok (.invokevirtual 162, 3) := by decide +kernel
theorem dX12_suffix_29 : decode cX12_suffix 29 = .ok (.aload_n 0, 1) := by decide +kernel
theorem dX12_suffix_30 : decode cX12_suffix 30 = .ok (.getfield 27, 3) := by decide +kernel
theorem dX12_suffix_33 : decode cX12_suffix 33 = .ok (.iload_n 1, 1) := by decide +kernel
theorem dX12_suffix_34 : decode cX12_suffix 34 = .ok (.iaload, 1) := by decide +kernel
theorem dX12_suffix_35 : decode cX12_suffix 35 = .ok (.ireturn, 1) := by decide +kernel
abbrev k_X12_suffix (E : g_E) (l : Launch) (D : g_D) (v1 : Int) (K : Int → g_D → Prop) : Prop := g_Ki E l m_X12_suffix 3 [g_R 208, g_I v1] g_SH D K
abbrev n_X12_suffix (E : g_E) (l : Launch) (D : g_D) (pc : Nat) (L : List (Option g_V)) (K : Int → g_D → Prop) : Prop := g_N E l m_X12_suffix 3 pc L [] g_SH D (g_Ri g_SH K)
theorem s_X12_suffix {E : g_E} {l : Launch} {D : g_D} {K : Int → g_D → Prop} {v1 : Int}  (hF : g_okD D → g_r v1 → ∀ D1, D1 = g_up D 208 0 0 → ((g_r ((D 209 0) - 1)) ∧ (k_X12_within E l g_SH D1 v1 0 ((D 209 0) - 1) (fun x2 D2 => g_r x2 → (¬ x2 = 0 → k_X12_laysSuffixes E l D2 (fun D3 => (0 ≤ v1 ∧ v1 < 40) ∧ (K (D3 213 v1.toNat) D3))) ∧ (x2 = 0 → K (-1) D2))))) : k_X12_suffix E l D v1 K := by
  refine g_enter (by decide) (Nat.le_of_ble_eq_true rfl) ?_
  show g_N E l m_X12_suffix 3 0 [some (g_R 208), some (g_I v1)] [] g_SH D (g_Ri g_SH K)
  refine g_use (fun ok => ?_)
  have hF := hF ok.2.1 (ok.loc (i := 1) rfl)
  refine g_aload_n dX12_suffix_0 rfl ?_
  refine g_iconst dX12_suffix_1 ⟨by decide, by decide⟩ ?_
  let D1 : g_D := g_up D 208 0 0
  have hF := hF D1 rfl
  refine g_put dX12_suffix_2 fd_X12_1 (g_ftyI (C := RX12) (T := TX12) (N := 51) rfl rfl (by decide +kernel)) sh_208 rfl ?_
  refine g_iload_n dX12_suffix_5 rfl ?_
  refine g_i2l dX12_suffix_6 ?_
  refine g_lconst dX12_suffix_7 ?_
  refine g_aload_n dX12_suffix_8 rfl ?_
  refine g_getR dX12_suffix_9 fd_X12_13 sh_208 rfl ?_
  refine g_iconst dX12_suffix_12 ⟨by decide, by decide⟩ ?_
  refine g_iald dX12_suffix_13 sh_209 (by decide) (by decide) ?_
  refine g_iconst dX12_suffix_14 ⟨by decide, by decide⟩ ?_
  obtain ⟨hc, hF⟩ := hF
  refine g_isub dX12_suffix_15 hc ?_
  refine g_i2l dX12_suffix_16 ?_
  refine gw_cSi (As := [g_J v1, g_J 0, g_J ((D 209 0) - 1)]) (rest := []) dX12_suffix_17 ms_X12_131 rfl (Nat.le_of_ble_eq_true rfl) (by decide) rfl hF ?_
  intro x2 D2 hx2 hF
  have hF := hF hx2
  refine g_ifne dX12_suffix_20 rfl (fun q => ?_) (fun q => ?_)
  · have hF := hF.1 q
    refine g_aload_n dX12_suffix_25 rfl ?_
    refine gw_cVv (b := 208) (As := []) (rest := []) dX12_suffix_26 mv_X12_162 sh_208 rfl (Nat.le_of_ble_eq_true rfl) (by decide) rfl hF ?_
    intro D3 hF
    refine g_aload_n dX12_suffix_29 rfl ?_
    refine g_getR dX12_suffix_30 fd_X12_27 sh_208 rfl ?_
    refine g_iload_n dX12_suffix_33 rfl ?_
    obtain ⟨hc, hF⟩ := hF
    refine g_iald dX12_suffix_34 sh_213 hc.1 hc.2 ?_
    exact gw_iret dX12_suffix_35 rfl hF
  · have hF := hF.2 q
    refine g_iconst dX12_suffix_23 ⟨by decide, by decide⟩ ?_
    exact gw_iret dX12_suffix_24 rfl hF
theorem dX12_take_0 : decode cX12_take 0 = .ok (.aload_n 0, 1) := by decide +kernel
theorem dX12_take_1 : decode cX12_take 1 = .ok (.iconst 0, 1) := by decide +kernel
theorem dX12_take_2 : decode cX12_take 2 = .ok (.putfield 1, 3) := by decide +kernel
theorem dX12_take_5 : decode cX12_take 5 = .ok (.aload_n 0, 1) := by decide +kernel
theorem dX12_take_6 : decode cX12_take 6 = .ok (.getfield 13, 3) := by decide +kernel
theorem dX12_take_9 : decode cX12_take 9 = .ok (.sipush 146, 3) := by decide +kernel
theorem dX12_take_12 : decode cX12_take 12 = .ok (.iaload, 1) := by decide +kernel
theorem dX12_take_13 : decode cX12_take 13 = .ok (.ifCond .ne 6, 3) := by decide +kernel
theorem dX12_take_16 : decode cX12_take 16 = .ok (.bipush (-5), 2) := by decide +kernel
theorem dX12_take_18 : decode cX12_take 18 = .ok (.ireturn, 1) := by decide +kernel
theorem dX12_take_19 : decode cX12_take 19 = .ok (.aload_n 0, 1) := by decide +kernel
theorem dX12_take_20 : decode cX12_take 20 = .ok (.invokevirtual 272, 3) := by decide +kernel
theorem dX12_take_23 : decode cX12_take 23 = .ok (.iconst 0, 1) := by decide +kernel
theorem dX12_take_24 : decode cX12_take 24 = .ok (.istore_n 1, 1) := by decide +kernel
theorem dX12_take_25 : decode cX12_take 25 = .ok (.iload_n 1, 1) := by decide +kernel
theorem dX12_take_26 : decode cX12_take 26 = .ok (.aload_n 0, 1) := by decide +kernel
theorem dX12_take_27 : decode cX12_take 27 = .ok (.getfield 266, 3) := by decide +kernel
theorem dX12_take_30 : decode cX12_take 30 = .ok (.if_icmp .ge 21, 3) := by decide +kernel
theorem dX12_take_33 : decode cX12_take 33 = .ok (.aload_n 0, 1) := by decide +kernel
theorem dX12_take_34 : decode cX12_take 34 = .ok (.getfield 90, 3) := by decide +kernel
theorem dX12_take_37 : decode cX12_take 37 = .ok (.iload_n 1, 1) := by decide +kernel
theorem dX12_take_38 : decode cX12_take 38 = .ok (.aload_n 0, 1) := by decide +kernel
theorem dX12_take_39 : decode cX12_take 39 = .ok (.getfield 81, 3) := by decide +kernel
theorem dX12_take_42 : decode cX12_take 42 = .ok (.iload_n 1, 1) := by decide +kernel
theorem dX12_take_43 : decode cX12_take 43 = .ok (.iaload, 1) := by decide +kernel
theorem dX12_take_44 : decode cX12_take 44 = .ok (.iastore, 1) := by decide +kernel
theorem dX12_take_45 : decode cX12_take 45 = .ok (.iinc 1 1, 3) := by decide +kernel
theorem dX12_take_48 : decode cX12_take 48 = .ok (.goto (-23), 3) := by decide +kernel
theorem dX12_take_51 : decode cX12_take 51 = .ok (.aload_n 0, 1) := by decide +kernel
theorem dX12_take_52 : decode cX12_take 52 = .ok (.aload_n 0, 1) := by decide +kernel
theorem dX12_take_53 : decode cX12_take 53 = .ok (.getfield 266, 3) := by decide +kernel
theorem dX12_take_56 : decode cX12_take 56 = .ok (.invokevirtual 327, 3) := by decide +kernel
theorem dX12_take_59 : decode cX12_take 59 = .ok (.aload_n 0, 1) := by decide +kernel
theorem dX12_take_60 : decode cX12_take 60 = .ok (.invokevirtual 330, 3) := by decide +kernel
theorem dX12_take_63 : decode cX12_take 63 = .ok (.ireturn, 1) := by decide +kernel
abbrev k_X12_take (E : g_E) (l : Launch) (D : g_D) (K : Int → g_D → Prop) : Prop := g_Ki E l m_X12_take 5 [g_R 208] g_SH D K
abbrev n_X12_take (E : g_E) (l : Launch) (D : g_D) (pc : Nat) (L : List (Option g_V)) (K : Int → g_D → Prop) : Prop := g_N E l m_X12_take 5 pc L [] g_SH D (g_Ri g_SH K)
theorem s_X12_take {E : g_E} {l : Launch} {D : g_D} {K : Int → g_D → Prop}   (hF : g_okD D → ∀ D1, D1 = g_up D 208 0 0 → ((¬ (D 209 146) = 0 → k_X12_laysAll E l D1 (fun D2 => n_X12_take E l D2 25 [some (g_R 208), some (g_I 0)] K)) ∧ ((D 209 146) = 0 → K (-5) D1))) : k_X12_take E l D K := by
  refine g_enter (by decide) (Nat.le_of_ble_eq_true rfl) ?_
  show g_N E l m_X12_take 5 0 [some (g_R 208), none] [] g_SH D (g_Ri g_SH K)
  refine g_use (fun ok => ?_)
  have hF := hF ok.2.1
  refine g_aload_n dX12_take_0 rfl ?_
  refine g_iconst dX12_take_1 ⟨by decide, by decide⟩ ?_
  let D1 : g_D := g_up D 208 0 0
  have hF := hF D1 rfl
  refine g_put dX12_take_2 fd_X12_1 (g_ftyI (C := RX12) (T := TX12) (N := 51) rfl rfl (by decide +kernel)) sh_208 rfl ?_
  refine g_aload_n dX12_take_5 rfl ?_
  refine g_getR dX12_take_6 fd_X12_13 sh_208 rfl ?_
  refine g_sipush dX12_take_9 ⟨by decide, by decide⟩ ?_
  refine g_iald dX12_take_12 sh_209 (by decide) (by decide) ?_
  refine g_ifne dX12_take_13 rfl (fun q => ?_) (fun q => ?_)
  · have hF := hF.1 q
    refine g_aload_n dX12_take_19 rfl ?_
    refine gw_cVv (b := 208) (As := []) (rest := []) dX12_take_20 mv_X12_272 sh_208 rfl (Nat.le_of_ble_eq_true rfl) (by decide) rfl hF ?_
    intro D2 hF
    refine g_iconst dX12_take_23 ⟨by decide, by decide⟩ ?_
    refine gw_istore_n (L' := [some (g_R 208), some (g_I 0)]) dX12_take_24 (by decide) rfl ?_
    exact hF
  · have hF := hF.2 q
    refine g_bipush dX12_take_16 ⟨by decide, by decide⟩ ?_
    exact gw_iret dX12_take_18 rfl hF
theorem s_X12_take_25 {E : g_E} {l : Launch} {D : g_D} {K : Int → g_D → Prop} {v1 : Int}  (hF : g_okD D → g_r v1 → ((D 208 27) ≤ v1 → k_X12_readsPatch E l D (D 208 27) (fun D1 => k_X12_takesPatch E l D1 (fun x2 D2 => g_r x2 → K x2 D2))) ∧ (¬ (D 208 27) ≤ v1 → (0 ≤ v1 ∧ v1 < 400) ∧ ((0 ≤ v1 ∧ v1 < 400) ∧ (∀ D3, D3 = g_up D 234 v1.toNat (D 231 v1.toNat) → ((g_r (v1 + 1)) ∧ (n_X12_take E l D3 25 [some (g_R 208), some (g_I (v1 + 1))] K)))))) : n_X12_take E l D 25 [some (g_R 208), some (g_I v1)] K := by
  refine g_use (fun ok => ?_)
  have hF := hF ok.2.1 (ok.loc (i := 1) rfl)
  refine g_iload_n dX12_take_25 rfl ?_
  refine g_aload_n dX12_take_26 rfl ?_
  refine g_getI dX12_take_27 fd_X12_266 sh_208 rfl ?_
  refine g_cge dX12_take_30 rfl (fun q => ?_) (fun q => ?_)
  · have hF := hF.1 q
    refine g_aload_n dX12_take_51 rfl ?_
    refine g_aload_n dX12_take_52 rfl ?_
    refine g_getI dX12_take_53 fd_X12_266 sh_208 rfl ?_
    refine gw_cVv (b := 208) (As := [g_I (D 208 27)]) (rest := []) dX12_take_56 mv_X12_327 sh_208 rfl (Nat.le_of_ble_eq_true rfl) (by decide) rfl hF ?_
    intro D1 hF
    refine g_aload_n dX12_take_59 rfl ?_
    refine gw_cVi (b := 208) (As := []) (rest := []) dX12_take_60 mv_X12_330 sh_208 rfl (Nat.le_of_ble_eq_true rfl) (by decide) rfl hF ?_
    intro x2 D2 hx2 hF
    have hF := hF hx2
    exact gw_iret dX12_take_63 rfl hF
  · have hF := hF.2 q
    refine g_aload_n dX12_take_33 rfl ?_
    refine g_getR dX12_take_34 fd_X12_90 sh_208 rfl ?_
    refine g_iload_n dX12_take_37 rfl ?_
    refine g_aload_n dX12_take_38 rfl ?_
    refine g_getR dX12_take_39 fd_X12_81 sh_208 rfl ?_
    refine g_iload_n dX12_take_42 rfl ?_
    obtain ⟨hc, hF⟩ := hF
    refine g_iald dX12_take_43 sh_231 hc.1 hc.2 ?_
    obtain ⟨hc, hF⟩ := hF
    let D3 : g_D := g_up D 234 v1.toNat (D 231 v1.toNat)
    have hF := hF D3 rfl
    refine g_iast dX12_take_44 sh_234 hc.1 hc.2 ?_
    obtain ⟨hc, hF⟩ := hF
    refine gw_iinc (L' := [some (g_R 208), some (g_I (v1 + 1))]) dX12_take_45 rfl hc (by decide) rfl ?_
    refine g_goto dX12_take_48 rfl ?_
    exact hF
theorem dX12_terms_0 : decode cX12_terms 0 = .ok (.aload_n 0, 1) := by decide +kernel
theorem dX12_terms_1 : decode cX12_terms 1 = .ok (.iconst 0, 1) := by decide +kernel
theorem dX12_terms_2 : decode cX12_terms 2 = .ok (.putfield 1, 3) := by decide +kernel
theorem dX12_terms_5 : decode cX12_terms 5 = .ok (.iload_n 1, 1) := by decide +kernel
theorem dX12_terms_6 : decode cX12_terms 6 = .ok (.i2l, 1) := by decide +kernel
theorem dX12_terms_7 : decode cX12_terms 7 = .ok (.lconst 0, 1) := by decide +kernel
theorem dX12_terms_8 : decode cX12_terms 8 = .ok (.ldc2_w 143, 3) := by decide +kernel
theorem dX12_terms_11 : decode cX12_terms 11 = .ok (.invokestatic 131, 3) := by decide +kernel
theorem dX12_terms_14 : decode cX12_terms 14 = .ok (.ifCond .ne 6, 3) := by decide +kernel
theorem dX12_terms_17 : decode cX12_terms 17 = .ok (.bipush (-2), 2) := by decide +kernel
theorem dX12_terms_19 : decode cX12_terms 19 = .ok (.ireturn, 1) := by decide +kernel
theorem dX12_terms_20 : decode cX12_terms 20 = .ok (.iload_n 1, 1) := by decide +kernel
theorem dX12_terms_21 : decode cX12_terms 21 = .ok (.iload_n 2, 1) := by decide +kernel
theorem dX12_terms_22 : decode cX12_terms 22 = .ok (.invokestatic 151, 3) := by decide +kernel
theorem dX12_terms_25 : decode cX12_terms 25 = .ok (.ifCond .ne 6, 3) := by decide +kernel
theorem dX12_terms_28 : decode cX12_terms 28 = .ok (.bipush (-3), 2) := by decide +kernel
theorem dX12_terms_30 : decode cX12_terms 30 = .ok (.ireturn, 1) := by decide +kernel
theorem dX12_terms_31 : decode cX12_terms 31 = .ok (.aload_n 0, 1) := by decide +kernel
theorem dX12_terms_32 : decode cX12_terms 32 = .ok (.getfield 13, 3) := by decide +kernel
theorem dX12_terms_35 : decode cX12_terms 35 = .ok (.iconst 2, 1) := by decide +kernel
theorem dX12_terms_36 : decode cX12_terms 36 = .ok (.iload_n 1, 1) := by decide +kernel
theorem dX12_terms_37 : decode cX12_terms 37 = .ok (.iadd, 1) := by decide +kernel
theorem dX12_terms_38 : decode cX12_terms 38 = .ok (.iaload, 1) := by decide +kernel
theorem dX12_terms_39 : decode cX12_terms 39 = .ok (.istore_n 3, 1) := by decide +kernel
theorem dX12_terms_40 : decode cX12_terms 40 = .ok (.aload_n 0, 1) := by decide +kernel
theorem dX12_terms_41 : decode cX12_terms 41 = .ok (.getfield 13, 3) := by decide +kernel
theorem dX12_terms_44 : decode cX12_terms 44 = .ok (.iconst 2, 1) := by decide +kernel
theorem dX12_terms_45 : decode cX12_terms 45 = .ok (.iload_n 1, 1) := by decide +kernel
theorem dX12_terms_46 : decode cX12_terms 46 = .ok (.iadd, 1) := by decide +kernel
theorem dX12_terms_47 : decode cX12_terms 47 = .ok (.iload_n 2, 1) := by decide +kernel
theorem dX12_terms_48 : decode cX12_terms 48 = .ok (.iastore, 1) := by decide +kernel
theorem dX12_terms_49 : decode cX12_terms 49 = .ok (.iload_n 3, 1) := by decide +kernel
theorem dX12_terms_50 : decode cX12_terms 50 = .ok (.ireturn, 1) := by decide +kernel
abbrev k_X12_terms (E : g_E) (l : Launch) (D : g_D) (v1 : Int) (v2 : Int) (K : Int → g_D → Prop) : Prop := g_Ki E l m_X12_terms 2 [g_R 208, g_I v1, g_I v2] g_SH D K
abbrev n_X12_terms (E : g_E) (l : Launch) (D : g_D) (pc : Nat) (L : List (Option g_V)) (K : Int → g_D → Prop) : Prop := g_N E l m_X12_terms 2 pc L [] g_SH D (g_Ri g_SH K)
theorem s_X12_terms {E : g_E} {l : Launch} {D : g_D} {K : Int → g_D → Prop} {v1 : Int} {v2 : Int}  (hF : g_okD D → g_r v1 → g_r v2 → ∀ D1, D1 = g_up D 208 0 0 → (k_X12_within E l g_SH D1 v1 0 3 (fun x2 D2 => g_r x2 → (¬ x2 = 0 → k_X12_isTerm E l g_SH D2 v1 v2 (fun x3 D3 => g_r x3 → (¬ x3 = 0 → (g_r (2 + v1)) ∧ ((0 ≤ (2 + v1) ∧ (2 + v1) < 1557) ∧ ((g_r (2 + v1)) ∧ ((0 ≤ (2 + v1) ∧ (2 + v1) < 1557) ∧ (∀ D4, D4 = g_up D3 209 (2 + v1).toNat v2 → (K (D3 209 (2 + v1).toNat) D4)))))) ∧ (x3 = 0 → K (-3) D3))) ∧ (x2 = 0 → K (-2) D2)))) : k_X12_terms E l D v1 v2 K := by
  refine g_enter (by decide) (Nat.le_of_ble_eq_true rfl) ?_
  show g_N E l m_X12_terms 2 0 [some (g_R 208), some (g_I v1), some (g_I v2), none] [] g_SH D (g_Ri g_SH K)
  refine g_use (fun ok => ?_)
  have hF := hF ok.2.1 (ok.loc (i := 1) rfl) (ok.loc (i := 2) rfl)
  refine g_aload_n dX12_terms_0 rfl ?_
  refine g_iconst dX12_terms_1 ⟨by decide, by decide⟩ ?_
  let D1 : g_D := g_up D 208 0 0
  have hF := hF D1 rfl
  refine g_put dX12_terms_2 fd_X12_1 (g_ftyI (C := RX12) (T := TX12) (N := 51) rfl rfl (by decide +kernel)) sh_208 rfl ?_
  refine g_iload_n dX12_terms_5 rfl ?_
  refine g_i2l dX12_terms_6 ?_
  refine g_lconst dX12_terms_7 ?_
  refine g_ldc2 dX12_terms_8 ⟨by decide, by decide⟩ kl_X12_143 ?_
  refine gw_cSi (As := [g_J v1, g_J 0, g_J 3]) (rest := []) dX12_terms_11 ms_X12_131 rfl (Nat.le_of_ble_eq_true rfl) (by decide) rfl hF ?_
  intro x2 D2 hx2 hF
  have hF := hF hx2
  refine g_ifne dX12_terms_14 rfl (fun q => ?_) (fun q => ?_)
  · have hF := hF.1 q
    refine g_iload_n dX12_terms_20 rfl ?_
    refine g_iload_n dX12_terms_21 rfl ?_
    refine gw_cSi (As := [g_I v1, g_I v2]) (rest := []) dX12_terms_22 ms_X12_151 rfl (Nat.le_of_ble_eq_true rfl) (by decide) rfl hF ?_
    intro x3 D3 hx3 hF
    have hF := hF hx3
    refine g_ifne dX12_terms_25 rfl (fun q => ?_) (fun q => ?_)
    · have hF := hF.1 q
      refine g_aload_n dX12_terms_31 rfl ?_
      refine g_getR dX12_terms_32 fd_X12_13 sh_208 rfl ?_
      refine g_iconst dX12_terms_35 ⟨by decide, by decide⟩ ?_
      refine g_iload_n dX12_terms_36 rfl ?_
      obtain ⟨hc, hF⟩ := hF
      refine g_iadd dX12_terms_37 hc ?_
      obtain ⟨hc, hF⟩ := hF
      refine g_iald dX12_terms_38 sh_209 hc.1 hc.2 ?_
      refine gw_istore_n (L' := [some (g_R 208), some (g_I v1), some (g_I v2), some (g_I (D3 209 (2 + v1).toNat))]) dX12_terms_39 (by decide) rfl ?_
      refine g_aload_n dX12_terms_40 rfl ?_
      refine g_getR dX12_terms_41 fd_X12_13 sh_208 rfl ?_
      refine g_iconst dX12_terms_44 ⟨by decide, by decide⟩ ?_
      refine g_iload_n dX12_terms_45 rfl ?_
      obtain ⟨hc, hF⟩ := hF
      refine g_iadd dX12_terms_46 hc ?_
      refine g_iload_n dX12_terms_47 rfl ?_
      obtain ⟨hc, hF⟩ := hF
      let D4 : g_D := g_up D3 209 (2 + v1).toNat v2
      have hF := hF D4 rfl
      refine g_iast dX12_terms_48 sh_209 hc.1 hc.2 ?_
      refine g_iload_n dX12_terms_49 rfl ?_
      exact gw_iret dX12_terms_50 rfl hF
    · have hF := hF.2 q
      refine g_bipush dX12_terms_28 ⟨by decide, by decide⟩ ?_
      exact gw_iret dX12_terms_30 rfl hF
  · have hF := hF.2 q
    refine g_bipush dX12_terms_17 ⟨by decide, by decide⟩ ?_
    exact gw_iret dX12_terms_19 rfl hF
theorem dX12_turns_0 : decode cX12_turns 0 = .ok (.aload_n 0, 1) := by decide +kernel
theorem dX12_turns_1 : decode cX12_turns 1 = .ok (.getfield 13, 3) := by decide +kernel
theorem dX12_turns_4 : decode cX12_turns 4 = .ok (.iconst 0, 1) := by decide +kernel
theorem dX12_turns_5 : decode cX12_turns 5 = .ok (.iaload, 1) := by decide +kernel
theorem dX12_turns_6 : decode cX12_turns 6 = .ok (.istore_n 1, 1) := by decide +kernel
theorem dX12_turns_7 : decode cX12_turns 7 = .ok (.aload_n 0, 1) := by decide +kernel
theorem dX12_turns_8 : decode cX12_turns 8 = .ok (.getfield 13, 3) := by decide +kernel
theorem dX12_turns_11 : decode cX12_turns 11 = .ok (.iconst 0, 1) := by decide +kernel
theorem dX12_turns_12 : decode cX12_turns 12 = .ok (.aload_n 0, 1) := by decide +kernel
theorem dX12_turns_13 : decode cX12_turns 13 = .ok (.getfield 13, 3) := by decide +kernel
theorem dX12_turns_16 : decode cX12_turns 16 = .ok (.iconst 1, 1) := by decide +kernel
theorem dX12_turns_17 : decode cX12_turns 17 = .ok (.iaload, 1) := by decide +kernel
theorem dX12_turns_18 : decode cX12_turns 18 = .ok (.iastore, 1) := by decide +kernel
theorem dX12_turns_19 : decode cX12_turns 19 = .ok (.aload_n 0, 1) := by decide +kernel
theorem dX12_turns_20 : decode cX12_turns 20 = .ok (.getfield 13, 3) := by decide +kernel
theorem dX12_turns_23 : decode cX12_turns 23 = .ok (.iconst 1, 1) := by decide +kernel
theorem dX12_turns_24 : decode cX12_turns 24 = .ok (.iload_n 1, 1) := by decide +kernel
theorem dX12_turns_25 : decode cX12_turns 25 = .ok (.iastore, 1) := by decide +kernel
theorem dX12_turns_26 : decode cX12_turns 26 = .ok (.iconst 0, 1) := by decide +kernel
theorem dX12_turns_27 : decode cX12_turns 27 = .ok (.istore_n 2, 1) := by decide +kernel
theorem dX12_turns_28 : decode cX12_turns 28 = .ok (.iload_n 2, 1) := by decide +kernel
theorem dX12_turns_29 : decode cX12_turns 29 = .ok (.bipush 40, 2) := by decide +kernel
theorem dX12_turns_31 : decode cX12_turns 31 = .ok (.if_icmp .ge 47, 3) := by decide +kernel
theorem dX12_turns_34 : decode cX12_turns 34 = .ok (.aload_n 0, 1) := by decide +kernel
theorem dX12_turns_35 : decode cX12_turns 35 = .ok (.getfield 13, 3) := by decide +kernel
theorem dX12_turns_38 : decode cX12_turns 38 = .ok (.bipush 6, 2) := by decide +kernel
theorem dX12_turns_40 : decode cX12_turns 40 = .ok (.iload_n 2, 1) := by decide +kernel
theorem dX12_turns_41 : decode cX12_turns 41 = .ok (.iadd, 1) := by decide +kernel
theorem dX12_turns_42 : decode cX12_turns 42 = .ok (.iaload, 1) := by decide +kernel
theorem dX12_turns_43 : decode cX12_turns 43 = .ok (.istore_n 3, 1) := by decide +kernel
theorem dX12_turns_44 : decode cX12_turns 44 = .ok (.aload_n 0, 1) := by decide +kernel
theorem dX12_turns_45 : decode cX12_turns 45 = .ok (.getfield 13, 3) := by decide +kernel
theorem dX12_turns_48 : decode cX12_turns 48 = .ok (.bipush 6, 2) := by decide +kernel
theorem dX12_turns_50 : decode cX12_turns 50 = .ok (.iload_n 2, 1) := by decide +kernel
theorem dX12_turns_51 : decode cX12_turns 51 = .ok (.iadd, 1) := by decide +kernel
theorem dX12_turns_52 : decode cX12_turns 52 = .ok (.aload_n 0, 1) := by decide +kernel
theorem dX12_turns_53 : decode cX12_turns 53 = .ok (.getfield 13, 3) := by decide +kernel
theorem dX12_turns_56 : decode cX12_turns 56 = .ok (.bipush 46, 2) := by decide +kernel
theorem dX12_turns_58 : decode cX12_turns 58 = .ok (.iload_n 2, 1) := by decide +kernel
theorem dX12_turns_59 : decode cX12_turns 59 = .ok (.iadd, 1) := by decide +kernel
theorem dX12_turns_60 : decode cX12_turns 60 = .ok (.iaload, 1) := by decide +kernel
theorem dX12_turns_61 : decode cX12_turns 61 = .ok (.iastore, 1) := by decide +kernel
theorem dX12_turns_62 : decode cX12_turns 62 = .ok (.aload_n 0, 1) := by decide +kernel
theorem dX12_turns_63 : decode cX12_turns 63 = .ok (.getfield 13, 3) := by decide +kernel
theorem dX12_turns_66 : decode cX12_turns 66 = .ok (.bipush 46, 2) := by decide +kernel
theorem dX12_turns_68 : decode cX12_turns 68 = .ok (.iload_n 2, 1) := by decide +kernel
theorem dX12_turns_69 : decode cX12_turns 69 = .ok (.iadd, 1) := by decide +kernel
theorem dX12_turns_70 : decode cX12_turns 70 = .ok (.iload_n 3, 1) := by decide +kernel
theorem dX12_turns_71 : decode cX12_turns 71 = .ok (.iastore, 1) := by decide +kernel
theorem dX12_turns_72 : decode cX12_turns 72 = .ok (.iinc 2 1, 3) := by decide +kernel
theorem dX12_turns_75 : decode cX12_turns 75 = .ok (.goto (-47), 3) := by decide +kernel
theorem dX12_turns_78 : decode cX12_turns 78 = .ok (.return_, 1) := by decide +kernel
abbrev k_X12_turns (E : g_E) (l : Launch) (D : g_D) (K : g_D → Prop) : Prop := g_Kv E l m_X12_turns 0 [g_R 208] g_SH D K
abbrev n_X12_turns (E : g_E) (l : Launch) (D : g_D) (pc : Nat) (L : List (Option g_V)) (K : g_D → Prop) : Prop := g_N E l m_X12_turns 0 pc L [] g_SH D (g_Rv g_SH K)
theorem s_X12_turns {E : g_E} {l : Launch} {D : g_D} {K : g_D → Prop}   (hF : g_okD D → ∀ D1, D1 = g_up D 209 0 (D 209 1) → (∀ D2, D2 = g_up D1 209 1 (D 209 0) → (n_X12_turns E l D2 28 [some (g_R 208), none, some (g_I 0), none] K))) : k_X12_turns E l D K := by
  refine g_enter (by decide) (Nat.le_of_ble_eq_true rfl) ?_
  show g_N E l m_X12_turns 0 0 [some (g_R 208), none, none, none] [] g_SH D (g_Rv g_SH K)
  refine g_use (fun ok => ?_)
  have hF := hF ok.2.1
  refine g_aload_n dX12_turns_0 rfl ?_
  refine g_getR dX12_turns_1 fd_X12_13 sh_208 rfl ?_
  refine g_iconst dX12_turns_4 ⟨by decide, by decide⟩ ?_
  refine g_iald dX12_turns_5 sh_209 (by decide) (by decide) ?_
  refine gw_istore_n (L' := [some (g_R 208), some (g_I (D 209 0)), none, none]) dX12_turns_6 (by decide) rfl ?_
  refine g_aload_n dX12_turns_7 rfl ?_
  refine g_getR dX12_turns_8 fd_X12_13 sh_208 rfl ?_
  refine g_iconst dX12_turns_11 ⟨by decide, by decide⟩ ?_
  refine g_aload_n dX12_turns_12 rfl ?_
  refine g_getR dX12_turns_13 fd_X12_13 sh_208 rfl ?_
  refine g_iconst dX12_turns_16 ⟨by decide, by decide⟩ ?_
  refine g_iald dX12_turns_17 sh_209 (by decide) (by decide) ?_
  let D1 : g_D := g_up D 209 0 (D 209 1)
  have hF := hF D1 rfl
  refine g_iast dX12_turns_18 sh_209 (by decide) (by decide) ?_
  refine g_aload_n dX12_turns_19 rfl ?_
  refine g_getR dX12_turns_20 fd_X12_13 sh_208 rfl ?_
  refine g_iconst dX12_turns_23 ⟨by decide, by decide⟩ ?_
  refine g_iload_n dX12_turns_24 rfl ?_
  let D2 : g_D := g_up D1 209 1 (D 209 0)
  have hF := hF D2 rfl
  refine g_iast dX12_turns_25 sh_209 (by decide) (by decide) ?_
  refine g_iconst dX12_turns_26 ⟨by decide, by decide⟩ ?_
  refine gw_istore_n (L' := [some (g_R 208), some (g_I (D 209 0)), some (g_I 0), none]) dX12_turns_27 (by decide) rfl ?_
  exact g_forget (L' := [some (g_R 208), none, some (g_I 0), none]) ⟨rfl, ⟨rfl, trivial⟩⟩ hF
theorem s_X12_turns_28 {E : g_E} {l : Launch} {D : g_D} {K : g_D → Prop} {v2 : Int}  (hF : g_okD D → g_r v2 → (40 ≤ v2 → K D) ∧ (¬ 40 ≤ v2 → (g_r (6 + v2)) ∧ ((0 ≤ (6 + v2) ∧ (6 + v2) < 1557) ∧ ((g_r (6 + v2)) ∧ ((g_r (46 + v2)) ∧ ((0 ≤ (46 + v2) ∧ (46 + v2) < 1557) ∧ ((0 ≤ (6 + v2) ∧ (6 + v2) < 1557) ∧ (∀ D1, D1 = g_up D 209 (6 + v2).toNat (D 209 (46 + v2).toNat) → ((g_r (46 + v2)) ∧ ((0 ≤ (46 + v2) ∧ (46 + v2) < 1557) ∧ (∀ D2, D2 = g_up D1 209 (46 + v2).toNat (D 209 (6 + v2).toNat) → ((g_r (v2 + 1)) ∧ (n_X12_turns E l D2 28 [some (g_R 208), none, some (g_I (v2 + 1)), none] K))))))))))))) : n_X12_turns E l D 28 [some (g_R 208), none, some (g_I v2), none] K := by
  refine g_use (fun ok => ?_)
  have hF := hF ok.2.1 (ok.loc (i := 2) rfl)
  refine g_iload_n dX12_turns_28 rfl ?_
  refine g_bipush dX12_turns_29 ⟨by decide, by decide⟩ ?_
  refine g_cge dX12_turns_31 rfl (fun q => ?_) (fun q => ?_)
  · have hF := hF.1 q
    exact gw_vret dX12_turns_78 rfl hF
  · have hF := hF.2 q
    refine g_aload_n dX12_turns_34 rfl ?_
    refine g_getR dX12_turns_35 fd_X12_13 sh_208 rfl ?_
    refine g_bipush dX12_turns_38 ⟨by decide, by decide⟩ ?_
    refine g_iload_n dX12_turns_40 rfl ?_
    obtain ⟨hc, hF⟩ := hF
    refine g_iadd dX12_turns_41 hc ?_
    obtain ⟨hc, hF⟩ := hF
    refine g_iald dX12_turns_42 sh_209 hc.1 hc.2 ?_
    refine gw_istore_n (L' := [some (g_R 208), none, some (g_I v2), some (g_I (D 209 (6 + v2).toNat))]) dX12_turns_43 (by decide) rfl ?_
    refine g_aload_n dX12_turns_44 rfl ?_
    refine g_getR dX12_turns_45 fd_X12_13 sh_208 rfl ?_
    refine g_bipush dX12_turns_48 ⟨by decide, by decide⟩ ?_
    refine g_iload_n dX12_turns_50 rfl ?_
    obtain ⟨hc, hF⟩ := hF
    refine g_iadd dX12_turns_51 hc ?_
    refine g_aload_n dX12_turns_52 rfl ?_
    refine g_getR dX12_turns_53 fd_X12_13 sh_208 rfl ?_
    refine g_bipush dX12_turns_56 ⟨by decide, by decide⟩ ?_
    refine g_iload_n dX12_turns_58 rfl ?_
    obtain ⟨hc, hF⟩ := hF
    refine g_iadd dX12_turns_59 hc ?_
    obtain ⟨hc, hF⟩ := hF
    refine g_iald dX12_turns_60 sh_209 hc.1 hc.2 ?_
    obtain ⟨hc, hF⟩ := hF
    let D1 : g_D := g_up D 209 (6 + v2).toNat (D 209 (46 + v2).toNat)
    have hF := hF D1 rfl
    refine g_iast dX12_turns_61 sh_209 hc.1 hc.2 ?_
    refine g_aload_n dX12_turns_62 rfl ?_
    refine g_getR dX12_turns_63 fd_X12_13 sh_208 rfl ?_
    refine g_bipush dX12_turns_66 ⟨by decide, by decide⟩ ?_
    refine g_iload_n dX12_turns_68 rfl ?_
    obtain ⟨hc, hF⟩ := hF
    refine g_iadd dX12_turns_69 hc ?_
    refine g_iload_n dX12_turns_70 rfl ?_
    obtain ⟨hc, hF⟩ := hF
    let D2 : g_D := g_up D1 209 (46 + v2).toNat (D 209 (6 + v2).toNat)
    have hF := hF D2 rfl
    refine g_iast dX12_turns_71 sh_209 hc.1 hc.2 ?_
    obtain ⟨hc, hF⟩ := hF
    refine gw_iinc (L' := [some (g_R 208), none, some (g_I (v2 + 1)), some (g_I (D 209 (6 + v2).toNat))]) dX12_turns_72 rfl hc (by decide) rfl ?_
    refine g_goto dX12_turns_75 rfl ?_
    exact g_forget (L' := [some (g_R 208), none, some (g_I (v2 + 1)), none]) ⟨rfl, ⟨rfl, trivial⟩⟩ hF
theorem dX12_turned_0 : decode cX12_turned 0 = .ok (.aload_n 0, 1) := by decide +kernel
theorem dX12_turned_1 : decode cX12_turned 1 = .ok (.iconst 0, 1) := by decide +kernel
theorem dX12_turned_2 : decode cX12_turned 2 = .ok (.putfield 1, 3) := by decide +kernel
theorem dX12_turned_5 : decode cX12_turned 5 = .ok (.aload_n 0, 1) := by decide +kernel
theorem dX12_turned_6 : decode cX12_turned 6 = .ok (.invokevirtual 275, 3) := by decide +kernel
theorem dX12_turned_9 : decode cX12_turned 9 = .ok (.aload_n 0, 1) := by decide +kernel
theorem dX12_turned_10 : decode cX12_turned 10 = .ok (.invokevirtual 272, 3) := by decide +kernel
theorem dX12_turned_13 : decode cX12_turned 13 = .ok (.aload_n 0, 1) := by decide +kernel
theorem dX12_turned_14 : decode cX12_turned 14 = .ok (.invokevirtual 275, 3) := by decide +kernel
theorem dX12_turned_17 : decode cX12_turned 17 = .ok (.aload_n 0, 1) := by decide +kernel
theorem dX12_turned_18 : decode cX12_turned 18 = .ok (.getfield 266, 3) := by decide +kernel
theorem dX12_turned_21 : decode cX12_turned 21 = .ok (.ireturn, 1) := by decide +kernel
abbrev k_X12_turned (E : g_E) (l : Launch) (D : g_D) (K : Int → g_D → Prop) : Prop := g_Ki E l m_X12_turned 5 [g_R 208] g_SH D K
abbrev n_X12_turned (E : g_E) (l : Launch) (D : g_D) (pc : Nat) (L : List (Option g_V)) (K : Int → g_D → Prop) : Prop := g_N E l m_X12_turned 5 pc L [] g_SH D (g_Ri g_SH K)
theorem s_X12_turned {E : g_E} {l : Launch} {D : g_D} {K : Int → g_D → Prop}   (hF : g_okD D → ∀ D1, D1 = g_up D 208 0 0 → (k_X12_turns E l D1 (fun D2 => k_X12_laysAll E l D2 (fun D3 => k_X12_turns E l D3 (fun D4 => K (D4 208 27) D4))))) : k_X12_turned E l D K := by
  refine g_enter (by decide) (Nat.le_of_ble_eq_true rfl) ?_
  show g_N E l m_X12_turned 5 0 [some (g_R 208)] [] g_SH D (g_Ri g_SH K)
  refine g_use (fun ok => ?_)
  have hF := hF ok.2.1
  refine g_aload_n dX12_turned_0 rfl ?_
  refine g_iconst dX12_turned_1 ⟨by decide, by decide⟩ ?_
  let D1 : g_D := g_up D 208 0 0
  have hF := hF D1 rfl
  refine g_put dX12_turned_2 fd_X12_1 (g_ftyI (C := RX12) (T := TX12) (N := 51) rfl rfl (by decide +kernel)) sh_208 rfl ?_
  refine g_aload_n dX12_turned_5 rfl ?_
  refine gw_cVv (b := 208) (As := []) (rest := []) dX12_turned_6 mv_X12_275 sh_208 rfl (Nat.le_of_ble_eq_true rfl) (by decide) rfl hF ?_
  intro D2 hF
  refine g_aload_n dX12_turned_9 rfl ?_
  refine gw_cVv (b := 208) (As := []) (rest := []) dX12_turned_10 mv_X12_272 sh_208 rfl (Nat.le_of_ble_eq_true rfl) (by decide) rfl hF ?_
  intro D3 hF
  refine g_aload_n dX12_turned_13 rfl ?_
  refine gw_cVv (b := 208) (As := []) (rest := []) dX12_turned_14 mv_X12_275 sh_208 rfl (Nat.le_of_ble_eq_true rfl) (by decide) rfl hF ?_
  intro D4 hF
  refine g_aload_n dX12_turned_17 rfl ?_
  refine g_getI dX12_turned_18 fd_X12_266 sh_208 rfl ?_
  exact gw_iret dX12_turned_21 rfl hF
theorem dX12_twice_0 : decode cX12_twice 0 = .ok (.aload_n 0, 1) := by decide +kernel
theorem dX12_twice_1 : decode cX12_twice 1 = .ok (.iconst 0, 1) := by decide +kernel
theorem dX12_twice_2 : decode cX12_twice 2 = .ok (.putfield 1, 3) := by decide +kernel
theorem dX12_twice_5 : decode cX12_twice 5 = .ok (.iload_n 1, 1) := by decide +kernel
theorem dX12_twice_6 : decode cX12_twice 6 = .ok (.i2l, 1) := by decide +kernel
theorem dX12_twice_7 : decode cX12_twice 7 = .ok (.lconst 0, 1) := by decide +kernel
theorem dX12_twice_8 : decode cX12_twice 8 = .ok (.ldc2_w 143, 3) := by decide +kernel
theorem dX12_twice_11 : decode cX12_twice 11 = .ok (.invokestatic 131, 3) := by decide +kernel
theorem dX12_twice_14 : decode cX12_twice 14 = .ok (.ifCond .eq 15, 3) := by decide +kernel
theorem dX12_twice_17 : decode cX12_twice 17 = .ok (.iload_n 2, 1) := by decide +kernel
theorem dX12_twice_18 : decode cX12_twice 18 = .ok (.i2l, 1) := by decide +kernel
theorem dX12_twice_19 : decode cX12_twice 19 = .ok (.lconst 0, 1) := by decide +kernel
theorem dX12_twice_20 : decode cX12_twice 20 = .ok (.ldc2_w 143, 3) := by decide +kernel
theorem dX12_twice_23 : decode cX12_twice 23 = .ok (.invokestatic 131, 3) := by decide +kernel
theorem dX12_twice_26 : decode cX12_twice 26 = .ok (.ifCond .ne 6, 3) := by decide +kernel
theorem dX12_twice_29 : decode cX12_twice 29 = .ok (.bipush (-3), 2) := by decide +kernel
theorem dX12_twice_31 : decode cX12_twice 31 = .ok (.ireturn, 1) := by decide +kernel
theorem dX12_twice_32 : decode cX12_twice 32 = .ok (.aload_n 0, 1) := by decide +kernel
theorem dX12_twice_33 : decode cX12_twice 33 = .ok (.invokevirtual 369, 3) := by decide +kernel
theorem dX12_twice_36 : decode cX12_twice 36 = .ok (.iconst 0, 1) := by decide +kernel
theorem dX12_twice_37 : decode cX12_twice 37 = .ok (.istore_n 3, 1) := by decide +kernel
theorem dX12_twice_38 : decode cX12_twice 38 = .ok (.iconst 0, 1) := by decide +kernel
theorem dX12_twice_39 : decode cX12_twice 39 = .ok (.istore 4, 2) := by decide +kernel
theorem dX12_twice_41 : decode cX12_twice 41 = .ok (.iload 4, 2) := by decide +kernel
theorem dX12_twice_43 : decode cX12_twice 43 = .ok (.aload_n 0, 1) := by decide +kernel
theorem dX12_twice_44 : decode cX12_twice 44 = .ok (.getfield 342, 3) := by decide +kernel
theorem dX12_twice_47 : decode cX12_twice 47 = .ok (.if_icmp .ge 28, 3) := by decide +kernel
theorem dX12_twice_50 : decode cX12_twice 50 = .ok (.iload_n 3, 1) := by decide +kernel
theorem dX12_twice_51 : decode cX12_twice 51 = .ok (.aload_n 0, 1) := by decide +kernel
theorem dX12_twice_52 : decode cX12_twice 52 = .ok (.iload 4, 2) := by decide +kernel
theorem dX12_twice_54 : decode cX12_twice 54 = .ok (.iload_n 1, 1) := by decide +kernel
theorem dX12_twice_55 : decode cX12_twice 55 = .ok (.iload_n 2, 1) := by decide +kernel
theorem dX12_twice_56 : decode cX12_twice 56 = .ok (.invokevirtual 434, 3) := by decide +kernel
theorem dX12_twice_59 : decode cX12_twice 59 = .ok (.ifCond .eq 7, 3) := by decide +kernel
theorem dX12_twice_62 : decode cX12_twice 62 = .ok (.iconst 1, 1) := by decide +kernel
theorem dX12_twice_63 : decode cX12_twice 63 = .ok (.goto 4, 3) := by decide +kernel
theorem dX12_twice_66 : decode cX12_twice 66 = .ok (.iconst 0, 1) := by decide +kernel
theorem dX12_twice_67 : decode cX12_twice 67 = .ok (.iadd, 1) := by decide +kernel
theorem dX12_twice_68 : decode cX12_twice 68 = .ok (.istore_n 3, 1) := by decide +kernel
theorem dX12_twice_69 : decode cX12_twice 69 = .ok (.iinc 4 1, 3) := by decide +kernel
theorem dX12_twice_72 : decode cX12_twice 72 = .ok (.goto (-31), 3) := by decide +kernel
theorem dX12_twice_75 : decode cX12_twice 75 = .ok (.iload_n 3, 1) := by decide +kernel
theorem dX12_twice_76 : decode cX12_twice 76 = .ok (.ireturn, 1) := by decide +kernel
abbrev k_X12_twice (E : g_E) (l : Launch) (D : g_D) (v1 : Int) (v2 : Int) (K : Int → g_D → Prop) : Prop := g_Ki E l m_X12_twice 6 [g_R 208, g_I v1, g_I v2] g_SH D K
abbrev n_X12_twice (E : g_E) (l : Launch) (D : g_D) (pc : Nat) (L : List (Option g_V)) (K : Int → g_D → Prop) : Prop := g_N E l m_X12_twice 6 pc L [] g_SH D (g_Ri g_SH K)
theorem s_X12_twice {E : g_E} {l : Launch} {D : g_D} {K : Int → g_D → Prop} {v1 : Int} {v2 : Int}  (hF : g_okD D → g_r v1 → g_r v2 → ∀ D1, D1 = g_up D 208 0 0 → (k_X12_within E l g_SH D1 v1 0 3 (fun x2 D2 => g_r x2 → (x2 = 0 → K (-3) D2) ∧ (¬ x2 = 0 → k_X12_within E l g_SH D2 v2 0 3 (fun x3 D3 => g_r x3 → (¬ x3 = 0 → k_X12_laysDue E l D3 (fun D4 => n_X12_twice E l D4 41 [some (g_R 208), some (g_I v1), some (g_I v2), some (g_I 0), some (g_I 0)] K)) ∧ (x3 = 0 → K (-3) D3)))))) : k_X12_twice E l D v1 v2 K := by
  refine g_enter (by decide) (Nat.le_of_ble_eq_true rfl) ?_
  show g_N E l m_X12_twice 6 0 [some (g_R 208), some (g_I v1), some (g_I v2), none, none] [] g_SH D (g_Ri g_SH K)
  refine g_use (fun ok => ?_)
  have hF := hF ok.2.1 (ok.loc (i := 1) rfl) (ok.loc (i := 2) rfl)
  refine g_aload_n dX12_twice_0 rfl ?_
  refine g_iconst dX12_twice_1 ⟨by decide, by decide⟩ ?_
  let D1 : g_D := g_up D 208 0 0
  have hF := hF D1 rfl
  refine g_put dX12_twice_2 fd_X12_1 (g_ftyI (C := RX12) (T := TX12) (N := 51) rfl rfl (by decide +kernel)) sh_208 rfl ?_
  refine g_iload_n dX12_twice_5 rfl ?_
  refine g_i2l dX12_twice_6 ?_
  refine g_lconst dX12_twice_7 ?_
  refine g_ldc2 dX12_twice_8 ⟨by decide, by decide⟩ kl_X12_143 ?_
  refine gw_cSi (As := [g_J v1, g_J 0, g_J 3]) (rest := []) dX12_twice_11 ms_X12_131 rfl (Nat.le_of_ble_eq_true rfl) (by decide) rfl hF ?_
  intro x2 D2 hx2 hF
  have hF := hF hx2
  refine g_ifeq dX12_twice_14 rfl (fun q => ?_) (fun q => ?_)
  · have hF := hF.1 q
    refine g_bipush dX12_twice_29 ⟨by decide, by decide⟩ ?_
    exact gw_iret dX12_twice_31 rfl hF
  · have hF := hF.2 q
    refine g_iload_n dX12_twice_17 rfl ?_
    refine g_i2l dX12_twice_18 ?_
    refine g_lconst dX12_twice_19 ?_
    refine g_ldc2 dX12_twice_20 ⟨by decide, by decide⟩ kl_X12_143 ?_
    refine gw_cSi (As := [g_J v2, g_J 0, g_J 3]) (rest := []) dX12_twice_23 ms_X12_131 rfl (Nat.le_of_ble_eq_true rfl) (by decide) rfl hF ?_
    intro x3 D3 hx3 hF
    have hF := hF hx3
    refine g_ifne dX12_twice_26 rfl (fun q => ?_) (fun q => ?_)
    · have hF := hF.1 q
      refine g_aload_n dX12_twice_32 rfl ?_
      refine gw_cVv (b := 208) (As := []) (rest := []) dX12_twice_33 mv_X12_369 sh_208 rfl (Nat.le_of_ble_eq_true rfl) (by decide) rfl hF ?_
      intro D4 hF
      refine g_iconst dX12_twice_36 ⟨by decide, by decide⟩ ?_
      refine gw_istore_n (L' := [some (g_R 208), some (g_I v1), some (g_I v2), some (g_I 0), none]) dX12_twice_37 (by decide) rfl ?_
      refine g_iconst dX12_twice_38 ⟨by decide, by decide⟩ ?_
      refine gw_istore (L' := [some (g_R 208), some (g_I v1), some (g_I v2), some (g_I 0), some (g_I 0)]) dX12_twice_39 (by decide) rfl ?_
      exact hF
    · have hF := hF.2 q
      refine g_bipush dX12_twice_29 ⟨by decide, by decide⟩ ?_
      exact gw_iret dX12_twice_31 rfl hF
theorem s_X12_twice_41 {E : g_E} {l : Launch} {D : g_D} {K : Int → g_D → Prop} {v1 : Int} {v2 : Int} {v3 : Int} {v4 : Int}  (hF : g_okD D → g_r v1 → g_r v2 → g_r v3 → g_r v4 → ((D 208 46) ≤ v4 → K v3 D) ∧ (¬ (D 208 46) ≤ v4 → k_X12_isHealedTwice E l D v4 v1 v2 (fun x1 D1 => g_r x1 → (x1 = 0 → (g_r (v3 + 0)) ∧ ((g_r (v4 + 1)) ∧ (n_X12_twice E l D1 41 [some (g_R 208), some (g_I v1), some (g_I v2), some (g_I (v3 + 0)), some (g_I (v4 + 1))] K))) ∧ (¬ x1 = 0 → (g_r (v3 + 1)) ∧ ((g_r (v4 + 1)) ∧ (n_X12_twice E l D1 41 [some (g_R 208), some (g_I v1), some (g_I v2), some (g_I (v3 + 1)), some (g_I (v4 + 1))] K)))))) : n_X12_twice E l D 41 [some (g_R 208), some (g_I v1), some (g_I v2), some (g_I v3), some (g_I v4)] K := by
  refine g_use (fun ok => ?_)
  have hF := hF ok.2.1 (ok.loc (i := 1) rfl) (ok.loc (i := 2) rfl) (ok.loc (i := 3) rfl) (ok.loc (i := 4) rfl)
  refine g_iload dX12_twice_41 rfl ?_
  refine g_aload_n dX12_twice_43 rfl ?_
  refine g_getI dX12_twice_44 fd_X12_342 sh_208 rfl ?_
  refine g_cge dX12_twice_47 rfl (fun q => ?_) (fun q => ?_)
  · have hF := hF.1 q
    refine g_iload_n dX12_twice_75 rfl ?_
    exact gw_iret dX12_twice_76 rfl hF
  · have hF := hF.2 q
    refine g_iload_n dX12_twice_50 rfl ?_
    refine g_aload_n dX12_twice_51 rfl ?_
    refine g_iload dX12_twice_52 rfl ?_
    refine g_iload_n dX12_twice_54 rfl ?_
    refine g_iload_n dX12_twice_55 rfl ?_
    refine gw_cVi (b := 208) (As := [g_I v4, g_I v1, g_I v2]) (rest := [g_I v3]) dX12_twice_56 mv_X12_434 sh_208 rfl (Nat.le_of_ble_eq_true rfl) (by decide) rfl hF ?_
    intro x1 D1 hx1 hF
    have hF := hF hx1
    refine g_ifeq dX12_twice_59 rfl (fun q => ?_) (fun q => ?_)
    · have hF := hF.1 q
      refine g_iconst dX12_twice_66 ⟨by decide, by decide⟩ ?_
      obtain ⟨hc, hF⟩ := hF
      refine g_iadd dX12_twice_67 hc ?_
      refine gw_istore_n (L' := [some (g_R 208), some (g_I v1), some (g_I v2), some (g_I (v3 + 0)), some (g_I v4)]) dX12_twice_68 (by decide) rfl ?_
      obtain ⟨hc, hF⟩ := hF
      refine gw_iinc (L' := [some (g_R 208), some (g_I v1), some (g_I v2), some (g_I (v3 + 0)), some (g_I (v4 + 1))]) dX12_twice_69 rfl hc (by decide) rfl ?_
      refine g_goto dX12_twice_72 rfl ?_
      exact hF
    · have hF := hF.2 q
      refine g_iconst dX12_twice_62 ⟨by decide, by decide⟩ ?_
      refine g_goto dX12_twice_63 rfl ?_
      obtain ⟨hc, hF⟩ := hF
      refine g_iadd dX12_twice_67 hc ?_
      refine gw_istore_n (L' := [some (g_R 208), some (g_I v1), some (g_I v2), some (g_I (v3 + 1)), some (g_I v4)]) dX12_twice_68 (by decide) rfl ?_
      obtain ⟨hc, hF⟩ := hF
      refine gw_iinc (L' := [some (g_R 208), some (g_I v1), some (g_I v2), some (g_I (v3 + 1)), some (g_I (v4 + 1))]) dX12_twice_69 rfl hc (by decide) rfl ?_
      refine g_goto dX12_twice_72 rfl ?_
      exact hF
theorem dX12_undo_0 : decode cX12_undo 0 = .ok (.aload_n 0, 1) := by decide +kernel
theorem dX12_undo_1 : decode cX12_undo 1 = .ok (.iconst 0, 1) := by decide +kernel
theorem dX12_undo_2 : decode cX12_undo 2 = .ok (.putfield 1, 3) := by decide +kernel
theorem dX12_undo_5 : decode cX12_undo 5 = .ok (.iload_n 1, 1) := by decide +kernel
theorem dX12_undo_6 : decode cX12_undo 6 = .ok (.i2l, 1) := by decide +kernel
theorem dX12_undo_7 : decode cX12_undo 7 = .ok (.lconst 1, 1) := by decide +kernel
theorem dX12_undo_8 : decode cX12_undo 8 = .ok (.ldc2_w 395, 3) := by decide +kernel
theorem dX12_undo_11 : decode cX12_undo 11 = .ok (.invokestatic 131, 3) := by decide +kernel
theorem dX12_undo_14 : decode cX12_undo 14 = .ok (.ifCond .eq 15, 3) := by decide +kernel
theorem dX12_undo_17 : decode cX12_undo 17 = .ok (.iload_n 1, 1) := by decide +kernel
theorem dX12_undo_18 : decode cX12_undo 18 = .ok (.aload_n 0, 1) := by decide +kernel
theorem dX12_undo_19 : decode cX12_undo 19 = .ok (.getfield 13, 3) := by decide +kernel
theorem dX12_undo_22 : decode cX12_undo 22 = .ok (.sipush 518, 3) := by decide +kernel
theorem dX12_undo_25 : decode cX12_undo 25 = .ok (.iaload, 1) := by decide +kernel
theorem dX12_undo_26 : decode cX12_undo 26 = .ok (.if_icmp .le 6, 3) := by decide +kernel
theorem dX12_undo_29 : decode cX12_undo 29 = .ok (.bipush (-3), 2) := by decide +kernel
theorem dX12_undo_31 : decode cX12_undo 31 = .ok (.ireturn, 1) := by decide +kernel
theorem dX12_undo_32 : decode cX12_undo 32 = .ok (.aload_n 0, 1) := by decide +kernel
theorem dX12_undo_33 : decode cX12_undo 33 = .ok (.getfield 13, 3) := by decide +kernel
theorem dX12_undo_36 : decode cX12_undo 36 = .ok (.sipush 518, 3) := by decide +kernel
theorem dX12_undo_39 : decode cX12_undo 39 = .ok (.dup2, 1) := by decide +kernel
theorem dX12_undo_40 : decode cX12_undo 40 = .ok (.iaload, 1) := by decide +kernel
theorem dX12_undo_41 : decode cX12_undo 41 = .ok (.iload_n 1, 1) := by decide +kernel
theorem dX12_undo_42 : decode cX12_undo 42 = .ok (.isub, 1) := by decide +kernel
theorem dX12_undo_43 : decode cX12_undo 43 = .ok (.iastore, 1) := by decide +kernel
theorem dX12_undo_44 : decode cX12_undo 44 = .ok (.iconst 0, 1) := by decide +kernel
theorem dX12_undo_45 : decode cX12_undo 45 = .ok (.istore_n 2, 1) := by decide +kernel
theorem dX12_undo_46 : decode cX12_undo 46 = .ok (.iload_n 2, 1) := by decide +kernel
theorem dX12_undo_47 : decode cX12_undo 47 = .ok (.sipush 432, 3) := by decide +kernel
theorem dX12_undo_50 : decode cX12_undo 50 = .ok (.if_icmp .ge 37, 3) := by decide +kernel
theorem dX12_undo_53 : decode cX12_undo 53 = .ok (.aload_n 0, 1) := by decide +kernel
theorem dX12_undo_54 : decode cX12_undo 54 = .ok (.getfield 13, 3) := by decide +kernel
theorem dX12_undo_57 : decode cX12_undo 57 = .ok (.bipush 86, 2) := by decide +kernel
theorem dX12_undo_59 : decode cX12_undo 59 = .ok (.iload_n 2, 1) := by decide +kernel
theorem dX12_undo_60 : decode cX12_undo 60 = .ok (.iadd, 1) := by decide +kernel
theorem dX12_undo_61 : decode cX12_undo 61 = .ok (.aload_n 0, 1) := by decide +kernel
theorem dX12_undo_62 : decode cX12_undo 62 = .ok (.getfield 17, 3) := by decide +kernel
theorem dX12_undo_65 : decode cX12_undo 65 = .ok (.sipush 432, 3) := by decide +kernel
theorem dX12_undo_68 : decode cX12_undo 68 = .ok (.aload_n 0, 1) := by decide +kernel
theorem dX12_undo_69 : decode cX12_undo 69 = .ok (.getfield 13, 3) := by decide +kernel
theorem dX12_undo_72 : decode cX12_undo 72 = .ok (.sipush 518, 3) := by decide +kernel
theorem dX12_undo_75 : decode cX12_undo 75 = .ok (.iaload, 1) := by decide +kernel
theorem dX12_undo_76 : decode cX12_undo 76 = .ok (.imul, 1) := by decide +kernel
theorem dX12_undo_77 : decode cX12_undo 77 = .ok (.iload_n 2, 1) := by decide +kernel
theorem dX12_undo_78 : decode cX12_undo 78 = .ok (.iadd, 1) := by decide +kernel
theorem dX12_undo_79 : decode cX12_undo 79 = .ok (.iaload, 1) := by decide +kernel
theorem dX12_undo_80 : decode cX12_undo 80 = .ok (.iastore, 1) := by decide +kernel
theorem dX12_undo_81 : decode cX12_undo 81 = .ok (.iinc 2 1, 3) := by decide +kernel
theorem dX12_undo_84 : decode cX12_undo 84 = .ok (.goto (-38), 3) := by decide +kernel
theorem dX12_undo_87 : decode cX12_undo 87 = .ok (.aload_n 0, 1) := by decide +kernel
theorem dX12_undo_88 : decode cX12_undo 88 = .ok (.getfield 13, 3) := by decide +kernel
theorem dX12_undo_91 : decode cX12_undo 91 = .ok (.sipush 518, 3) := by decide +kernel
theorem dX12_undo_94 : decode cX12_undo 94 = .ok (.iaload, 1) := by decide +kernel
theorem dX12_undo_95 : decode cX12_undo 95 = .ok (.ireturn, 1) := by decide +kernel
abbrev k_X12_undo (E : g_E) (l : Launch) (D : g_D) (v1 : Int) (K : Int → g_D → Prop) : Prop := g_Ki E l m_X12_undo 1 [g_R 208, g_I v1] g_SH D K
abbrev n_X12_undo (E : g_E) (l : Launch) (D : g_D) (pc : Nat) (L : List (Option g_V)) (K : Int → g_D → Prop) : Prop := g_N E l m_X12_undo 1 pc L [] g_SH D (g_Ri g_SH K)
theorem s_X12_undo {E : g_E} {l : Launch} {D : g_D} {K : Int → g_D → Prop} {v1 : Int}  (hF : g_okD D → g_r v1 → ∀ D1, D1 = g_up D 208 0 0 → (k_X12_within E l g_SH D1 v1 1 10 (fun x2 D2 => g_r x2 → (x2 = 0 → K (-3) D2) ∧ (¬ x2 = 0 → (v1 ≤ (D2 209 518) → (g_r ((D2 209 518) - v1)) ∧ (∀ D3, D3 = g_up D2 209 518 ((D2 209 518) - v1) → (n_X12_undo E l D3 46 [some (g_R 208), none, some (g_I 0)] K))) ∧ (¬ v1 ≤ (D2 209 518) → K (-3) D2))))) : k_X12_undo E l D v1 K := by
  refine g_enter (by decide) (Nat.le_of_ble_eq_true rfl) ?_
  show g_N E l m_X12_undo 1 0 [some (g_R 208), some (g_I v1), none] [] g_SH D (g_Ri g_SH K)
  refine g_use (fun ok => ?_)
  have hF := hF ok.2.1 (ok.loc (i := 1) rfl)
  refine g_aload_n dX12_undo_0 rfl ?_
  refine g_iconst dX12_undo_1 ⟨by decide, by decide⟩ ?_
  let D1 : g_D := g_up D 208 0 0
  have hF := hF D1 rfl
  refine g_put dX12_undo_2 fd_X12_1 (g_ftyI (C := RX12) (T := TX12) (N := 51) rfl rfl (by decide +kernel)) sh_208 rfl ?_
  refine g_iload_n dX12_undo_5 rfl ?_
  refine g_i2l dX12_undo_6 ?_
  refine g_lconst dX12_undo_7 ?_
  refine g_ldc2 dX12_undo_8 ⟨by decide, by decide⟩ kl_X12_395 ?_
  refine gw_cSi (As := [g_J v1, g_J 1, g_J 10]) (rest := []) dX12_undo_11 ms_X12_131 rfl (Nat.le_of_ble_eq_true rfl) (by decide) rfl hF ?_
  intro x2 D2 hx2 hF
  have hF := hF hx2
  refine g_ifeq dX12_undo_14 rfl (fun q => ?_) (fun q => ?_)
  · have hF := hF.1 q
    refine g_bipush dX12_undo_29 ⟨by decide, by decide⟩ ?_
    exact gw_iret dX12_undo_31 rfl hF
  · have hF := hF.2 q
    refine g_iload_n dX12_undo_17 rfl ?_
    refine g_aload_n dX12_undo_18 rfl ?_
    refine g_getR dX12_undo_19 fd_X12_13 sh_208 rfl ?_
    refine g_sipush dX12_undo_22 ⟨by decide, by decide⟩ ?_
    refine g_iald dX12_undo_25 sh_209 (by decide) (by decide) ?_
    refine g_cle dX12_undo_26 rfl (fun q => ?_) (fun q => ?_)
    · have hF := hF.1 q
      refine g_aload_n dX12_undo_32 rfl ?_
      refine g_getR dX12_undo_33 fd_X12_13 sh_208 rfl ?_
      refine g_sipush dX12_undo_36 ⟨by decide, by decide⟩ ?_
      refine g_dup2 dX12_undo_39 rfl rfl ?_
      refine g_iald dX12_undo_40 sh_209 (by decide) (by decide) ?_
      refine g_iload_n dX12_undo_41 rfl ?_
      obtain ⟨hc, hF⟩ := hF
      refine g_isub dX12_undo_42 hc ?_
      let D3 : g_D := g_up D2 209 518 ((D2 209 518) - v1)
      have hF := hF D3 rfl
      refine g_iast dX12_undo_43 sh_209 (by decide) (by decide) ?_
      refine g_iconst dX12_undo_44 ⟨by decide, by decide⟩ ?_
      refine gw_istore_n (L' := [some (g_R 208), some (g_I v1), some (g_I 0)]) dX12_undo_45 (by decide) rfl ?_
      exact g_forget (L' := [some (g_R 208), none, some (g_I 0)]) ⟨rfl, ⟨rfl, trivial⟩⟩ hF
    · have hF := hF.2 q
      refine g_bipush dX12_undo_29 ⟨by decide, by decide⟩ ?_
      exact gw_iret dX12_undo_31 rfl hF
theorem s_X12_undo_46 {E : g_E} {l : Launch} {D : g_D} {K : Int → g_D → Prop} {v2 : Int}  (hF : g_okD D → g_r v2 → (432 ≤ v2 → K (D 209 518) D) ∧ (¬ 432 ≤ v2 → (g_r (86 + v2)) ∧ ((g_r (432 * (D 209 518))) ∧ ((g_r ((432 * (D 209 518)) + v2)) ∧ ((0 ≤ ((432 * (D 209 518)) + v2) ∧ ((432 * (D 209 518)) + v2) < 4320) ∧ ((0 ≤ (86 + v2) ∧ (86 + v2) < 1557) ∧ (∀ D1, D1 = g_up D 209 (86 + v2).toNat (D 210 ((432 * (D 209 518)) + v2).toNat) → ((g_r (v2 + 1)) ∧ (n_X12_undo E l D1 46 [some (g_R 208), none, some (g_I (v2 + 1))] K))))))))) : n_X12_undo E l D 46 [some (g_R 208), none, some (g_I v2)] K := by
  refine g_use (fun ok => ?_)
  have hF := hF ok.2.1 (ok.loc (i := 2) rfl)
  refine g_iload_n dX12_undo_46 rfl ?_
  refine g_sipush dX12_undo_47 ⟨by decide, by decide⟩ ?_
  refine g_cge dX12_undo_50 rfl (fun q => ?_) (fun q => ?_)
  · have hF := hF.1 q
    refine g_aload_n dX12_undo_87 rfl ?_
    refine g_getR dX12_undo_88 fd_X12_13 sh_208 rfl ?_
    refine g_sipush dX12_undo_91 ⟨by decide, by decide⟩ ?_
    refine g_iald dX12_undo_94 sh_209 (by decide) (by decide) ?_
    exact gw_iret dX12_undo_95 rfl hF
  · have hF := hF.2 q
    refine g_aload_n dX12_undo_53 rfl ?_
    refine g_getR dX12_undo_54 fd_X12_13 sh_208 rfl ?_
    refine g_bipush dX12_undo_57 ⟨by decide, by decide⟩ ?_
    refine g_iload_n dX12_undo_59 rfl ?_
    obtain ⟨hc, hF⟩ := hF
    refine g_iadd dX12_undo_60 hc ?_
    refine g_aload_n dX12_undo_61 rfl ?_
    refine g_getR dX12_undo_62 fd_X12_17 sh_208 rfl ?_
    refine g_sipush dX12_undo_65 ⟨by decide, by decide⟩ ?_
    refine g_aload_n dX12_undo_68 rfl ?_
    refine g_getR dX12_undo_69 fd_X12_13 sh_208 rfl ?_
    refine g_sipush dX12_undo_72 ⟨by decide, by decide⟩ ?_
    refine g_iald dX12_undo_75 sh_209 (by decide) (by decide) ?_
    obtain ⟨hc, hF⟩ := hF
    refine g_imul dX12_undo_76 hc ?_
    refine g_iload_n dX12_undo_77 rfl ?_
    obtain ⟨hc, hF⟩ := hF
    refine g_iadd dX12_undo_78 hc ?_
    obtain ⟨hc, hF⟩ := hF
    refine g_iald dX12_undo_79 sh_210 hc.1 hc.2 ?_
    obtain ⟨hc, hF⟩ := hF
    let D1 : g_D := g_up D 209 (86 + v2).toNat (D 210 ((432 * (D 209 518)) + v2).toNat)
    have hF := hF D1 rfl
    refine g_iast dX12_undo_80 sh_209 hc.1 hc.2 ?_
    obtain ⟨hc, hF⟩ := hF
    refine gw_iinc (L' := [some (g_R 208), none, some (g_I (v2 + 1))]) dX12_undo_81 rfl hc (by decide) rfl ?_
    refine g_goto dX12_undo_84 rfl ?_
    exact hF
theorem dX12_unlike_0 : decode cX12_unlike 0 = .ok (.aload_n 0, 1) := by decide +kernel
theorem dX12_unlike_1 : decode cX12_unlike 1 = .ok (.iconst 0, 1) := by decide +kernel
theorem dX12_unlike_2 : decode cX12_unlike 2 = .ok (.putfield 1, 3) := by decide +kernel
theorem dX12_unlike_5 : decode cX12_unlike 5 = .ok (.iload_n 1, 1) := by decide +kernel
theorem dX12_unlike_6 : decode cX12_unlike 6 = .ok (.i2l, 1) := by decide +kernel
theorem dX12_unlike_7 : decode cX12_unlike 7 = .ok (.lconst 1, 1) := by decide +kernel
theorem dX12_unlike_8 : decode cX12_unlike 8 = .ok (.ldc2_w 129, 3) := by decide +kernel
theorem dX12_unlike_11 : decode cX12_unlike 11 = .ok (.invokestatic 131, 3) := by decide +kernel
theorem dX12_unlike_14 : decode cX12_unlike 14 = .ok (.ifCond .ne 6, 3) := by decide +kernel
theorem dX12_unlike_17 : decode cX12_unlike 17 = .ok (.bipush (-3), 2) := by decide +kernel
theorem dX12_unlike_19 : decode cX12_unlike 19 = .ok (.ireturn, 1) := by decide +kernel
theorem dX12_unlike_20 : decode cX12_unlike 20 = .ok (.iconst 0, 1) := by decide +kernel
theorem dX12_unlike_21 : decode cX12_unlike 21 = .ok (.istore_n 2, 1) := by decide +kernel
theorem dX12_unlike_22 : decode cX12_unlike 22 = .ok (.iconst 0, 1) := by decide +kernel
theorem dX12_unlike_23 : decode cX12_unlike 23 = .ok (.istore_n 3, 1) := by decide +kernel
theorem dX12_unlike_24 : decode cX12_unlike 24 = .ok (.iload_n 3, 1) := by decide +kernel
theorem dX12_unlike_25 : decode cX12_unlike 25 = .ok (.iload_n 1, 1) := by decide +kernel
theorem dX12_unlike_26 : decode cX12_unlike 26 = .ok (.iadd, 1) := by decide +kernel
theorem dX12_unlike_27 : decode cX12_unlike 27 = .ok (.aload_n 0, 1) := by decide +kernel
theorem dX12_unlike_28 : decode cX12_unlike 28 = .ok (.getfield 13, 3) := by decide +kernel
theorem dX12_unlike_31 : decode cX12_unlike 31 = .ok (.iconst 0, 1) := by decide +kernel
theorem dX12_unlike_32 : decode cX12_unlike 32 = .ok (.iaload, 1) := by decide +kernel
theorem dX12_unlike_33 : decode cX12_unlike 33 = .ok (.if_icmp .gt 61, 3) := by decide +kernel
theorem dX12_unlike_36 : decode cX12_unlike 36 = .ok (.iconst 1, 1) := by decide +kernel
theorem dX12_unlike_37 : decode cX12_unlike 37 = .ok (.istore 4, 2) := by decide +kernel
theorem dX12_unlike_39 : decode cX12_unlike 39 = .ok (.iconst 0, 1) := by decide +kernel
theorem dX12_unlike_40 : decode cX12_unlike 40 = .ok (.istore 5, 2) := by decide +kernel
theorem dX12_unlike_42 : decode cX12_unlike 42 = .ok (.iload 5, 2) := by decide +kernel
theorem dX12_unlike_44 : decode cX12_unlike 44 = .ok (.iload_n 3, 1) := by decide +kernel
theorem dX12_unlike_45 : decode cX12_unlike 45 = .ok (.if_icmp .ge 30, 3) := by decide +kernel
theorem dX12_unlike_48 : decode cX12_unlike 48 = .ok (.iload 4, 2) := by decide +kernel
theorem dX12_unlike_50 : decode cX12_unlike 50 = .ok (.aload_n 0, 1) := by decide +kernel
theorem dX12_unlike_51 : decode cX12_unlike 51 = .ok (.iload_n 3, 1) := by decide +kernel
theorem dX12_unlike_52 : decode cX12_unlike 52 = .ok (.iload 5, 2) := by decide +kernel
theorem dX12_unlike_54 : decode cX12_unlike 54 = .ok (.invokevirtual 155, 3) := by decide +kernel
theorem dX12_unlike_57 : decode cX12_unlike 57 = .ok (.iload_n 1, 1) := by decide +kernel
theorem dX12_unlike_58 : decode cX12_unlike 58 = .ok (.if_icmp .ge 7, 3) := by decide +kernel
theorem dX12_unlike_61 : decode cX12_unlike 61 = .ok (.iconst 1, 1) := by decide +kernel
theorem dX12_unlike_62 : decode cX12_unlike 62 = .ok (.goto 4, 3) := by decide +kernel
theorem dX12_unlike_65 : decode cX12_unlike 65 = .ok (.iconst 0, 1) := by decide +kernel
theorem dX12_unlike_66 : decode cX12_unlike 66 = .ok (.iand, 1) := by decide +kernel
theorem dX12_unlike_67 : decode cX12_unlike 67 = .ok (.istore 4, 2) := by decide +kernel
theorem dX12_unlike_69 : decode cX12_unlike 69 = .ok (.iinc 5 1, 3) := by decide +kernel
theorem dX12_unlike_72 : decode cX12_unlike 72 = .ok (.goto (-30), 3) := by decide +kernel
theorem dX12_unlike_75 : decode cX12_unlike 75 = .ok (.iload_n 2, 1) := by decide +kernel
theorem dX12_unlike_76 : decode cX12_unlike 76 = .ok (.iload 4, 2) := by decide +kernel
theorem dX12_unlike_78 : decode cX12_unlike 78 = .ok (.ifCond .eq 7, 3) := by decide +kernel
theorem dX12_unlike_81 : decode cX12_unlike 81 = .ok (.iconst 1, 1) := by decide +kernel
theorem dX12_unlike_82 : decode cX12_unlike 82 = .ok (.goto 4, 3) := by decide +kernel
theorem dX12_unlike_85 : decode cX12_unlike 85 = .ok (.iconst 0, 1) := by decide +kernel
theorem dX12_unlike_86 : decode cX12_unlike 86 = .ok (.iadd, 1) := by decide +kernel
theorem dX12_unlike_87 : decode cX12_unlike 87 = .ok (.istore_n 2, 1) := by decide +kernel
theorem dX12_unlike_88 : decode cX12_unlike 88 = .ok (.iinc 3 1, 3) := by decide +kernel
theorem dX12_unlike_91 : decode cX12_unlike 91 = .ok (.goto (-67), 3) := by decide +kernel
theorem dX12_unlike_94 : decode cX12_unlike 94 = .ok (.iload_n 2, 1) := by decide +kernel
theorem dX12_unlike_95 : decode cX12_unlike 95 = .ok (.ireturn, 1) := by decide +kernel
abbrev k_X12_unlike (E : g_E) (l : Launch) (D : g_D) (v1 : Int) (K : Int → g_D → Prop) : Prop := g_Ki E l m_X12_unlike 1 [g_R 208, g_I v1] g_SH D K
abbrev n_X12_unlike (E : g_E) (l : Launch) (D : g_D) (pc : Nat) (L : List (Option g_V)) (K : Int → g_D → Prop) : Prop := g_N E l m_X12_unlike 1 pc L [] g_SH D (g_Ri g_SH K)
theorem s_X12_unlike {E : g_E} {l : Launch} {D : g_D} {K : Int → g_D → Prop} {v1 : Int}  (hF : g_okD D → g_r v1 → ∀ D1, D1 = g_up D 208 0 0 → (k_X12_within E l g_SH D1 v1 1 40 (fun x2 D2 => g_r x2 → (¬ x2 = 0 → n_X12_unlike E l D2 24 [some (g_R 208), some (g_I v1), some (g_I 0), some (g_I 0), none, none] K) ∧ (x2 = 0 → K (-3) D2)))) : k_X12_unlike E l D v1 K := by
  refine g_enter (by decide) (Nat.le_of_ble_eq_true rfl) ?_
  show g_N E l m_X12_unlike 1 0 [some (g_R 208), some (g_I v1), none, none, none, none] [] g_SH D (g_Ri g_SH K)
  refine g_use (fun ok => ?_)
  have hF := hF ok.2.1 (ok.loc (i := 1) rfl)
  refine g_aload_n dX12_unlike_0 rfl ?_
  refine g_iconst dX12_unlike_1 ⟨by decide, by decide⟩ ?_
  let D1 : g_D := g_up D 208 0 0
  have hF := hF D1 rfl
  refine g_put dX12_unlike_2 fd_X12_1 (g_ftyI (C := RX12) (T := TX12) (N := 51) rfl rfl (by decide +kernel)) sh_208 rfl ?_
  refine g_iload_n dX12_unlike_5 rfl ?_
  refine g_i2l dX12_unlike_6 ?_
  refine g_lconst dX12_unlike_7 ?_
  refine g_ldc2 dX12_unlike_8 ⟨by decide, by decide⟩ kl_X12_129 ?_
  refine gw_cSi (As := [g_J v1, g_J 1, g_J 40]) (rest := []) dX12_unlike_11 ms_X12_131 rfl (Nat.le_of_ble_eq_true rfl) (by decide) rfl hF ?_
  intro x2 D2 hx2 hF
  have hF := hF hx2
  refine g_ifne dX12_unlike_14 rfl (fun q => ?_) (fun q => ?_)
  · have hF := hF.1 q
    refine g_iconst dX12_unlike_20 ⟨by decide, by decide⟩ ?_
    refine gw_istore_n (L' := [some (g_R 208), some (g_I v1), some (g_I 0), none, none, none]) dX12_unlike_21 (by decide) rfl ?_
    refine g_iconst dX12_unlike_22 ⟨by decide, by decide⟩ ?_
    refine gw_istore_n (L' := [some (g_R 208), some (g_I v1), some (g_I 0), some (g_I 0), none, none]) dX12_unlike_23 (by decide) rfl ?_
    exact hF
  · have hF := hF.2 q
    refine g_bipush dX12_unlike_17 ⟨by decide, by decide⟩ ?_
    exact gw_iret dX12_unlike_19 rfl hF
theorem s_X12_unlike_24 {E : g_E} {l : Launch} {D : g_D} {K : Int → g_D → Prop} {v1 : Int} {v2 : Int} {v3 : Int}  (hF : g_okD D → g_r v1 → g_r v2 → g_r v3 → (g_r (v3 + v1)) ∧ (((D 209 0) < (v3 + v1) → K v2 D) ∧ (¬ (D 209 0) < (v3 + v1) → n_X12_unlike E l D 42 [some (g_R 208), some (g_I v1), some (g_I v2), some (g_I v3), some (g_I 1), some (g_I 0)] K))) : n_X12_unlike E l D 24 [some (g_R 208), some (g_I v1), some (g_I v2), some (g_I v3), none, none] K := by
  refine g_use (fun ok => ?_)
  have hF := hF ok.2.1 (ok.loc (i := 1) rfl) (ok.loc (i := 2) rfl) (ok.loc (i := 3) rfl)
  refine g_iload_n dX12_unlike_24 rfl ?_
  refine g_iload_n dX12_unlike_25 rfl ?_
  obtain ⟨hc, hF⟩ := hF
  refine g_iadd dX12_unlike_26 hc ?_
  refine g_aload_n dX12_unlike_27 rfl ?_
  refine g_getR dX12_unlike_28 fd_X12_13 sh_208 rfl ?_
  refine g_iconst dX12_unlike_31 ⟨by decide, by decide⟩ ?_
  refine g_iald dX12_unlike_32 sh_209 (by decide) (by decide) ?_
  refine g_cgt dX12_unlike_33 rfl (fun q => ?_) (fun q => ?_)
  · have hF := hF.1 q
    refine g_iload_n dX12_unlike_94 rfl ?_
    exact gw_iret dX12_unlike_95 rfl hF
  · have hF := hF.2 q
    refine g_iconst dX12_unlike_36 ⟨by decide, by decide⟩ ?_
    refine gw_istore (L' := [some (g_R 208), some (g_I v1), some (g_I v2), some (g_I v3), some (g_I 1), none]) dX12_unlike_37 (by decide) rfl ?_
    refine g_iconst dX12_unlike_39 ⟨by decide, by decide⟩ ?_
    refine gw_istore (L' := [some (g_R 208), some (g_I v1), some (g_I v2), some (g_I v3), some (g_I 1), some (g_I 0)]) dX12_unlike_40 (by decide) rfl ?_
    exact hF
theorem s_X12_unlike_42 {E : g_E} {l : Launch} {D : g_D} {K : Int → g_D → Prop} {v1 : Int} {v2 : Int} {v3 : Int} {v4 : Int} {v5 : Int}  (hF : g_okD D → g_r v1 → g_r v2 → g_r v3 → g_r v4 → g_r v5 → (v3 ≤ v5 → (v4 = 0 → (g_r (v2 + 0)) ∧ ((g_r (v3 + 1)) ∧ (n_X12_unlike E l D 24 [some (g_R 208), some (g_I v1), some (g_I (v2 + 0)), some (g_I (v3 + 1)), none, none] K))) ∧ (¬ v4 = 0 → (g_r (v2 + 1)) ∧ ((g_r (v3 + 1)) ∧ (n_X12_unlike E l D 24 [some (g_R 208), some (g_I v1), some (g_I (v2 + 1)), some (g_I (v3 + 1)), none, none] K)))) ∧ (¬ v3 ≤ v5 → k_X12_common E l D v3 v5 (fun x1 D1 => g_r x1 → (v1 ≤ x1 → (g_r (v5 + 1)) ∧ (n_X12_unlike E l D1 42 [some (g_R 208), some (g_I v1), some (g_I v2), some (g_I v3), some (g_I (g_and v4 0)), some (g_I (v5 + 1))] K)) ∧ (¬ v1 ≤ x1 → (g_r (v5 + 1)) ∧ (n_X12_unlike E l D1 42 [some (g_R 208), some (g_I v1), some (g_I v2), some (g_I v3), some (g_I (g_and v4 1)), some (g_I (v5 + 1))] K))))) : n_X12_unlike E l D 42 [some (g_R 208), some (g_I v1), some (g_I v2), some (g_I v3), some (g_I v4), some (g_I v5)] K := by
  refine g_use (fun ok => ?_)
  have hF := hF ok.2.1 (ok.loc (i := 1) rfl) (ok.loc (i := 2) rfl) (ok.loc (i := 3) rfl) (ok.loc (i := 4) rfl) (ok.loc (i := 5) rfl)
  refine g_iload dX12_unlike_42 rfl ?_
  refine g_iload_n dX12_unlike_44 rfl ?_
  refine g_cge dX12_unlike_45 rfl (fun q => ?_) (fun q => ?_)
  · have hF := hF.1 q
    refine g_iload_n dX12_unlike_75 rfl ?_
    refine g_iload dX12_unlike_76 rfl ?_
    refine g_ifeq dX12_unlike_78 rfl (fun q => ?_) (fun q => ?_)
    · have hF := hF.1 q
      refine g_iconst dX12_unlike_85 ⟨by decide, by decide⟩ ?_
      obtain ⟨hc, hF⟩ := hF
      refine g_iadd dX12_unlike_86 hc ?_
      refine gw_istore_n (L' := [some (g_R 208), some (g_I v1), some (g_I (v2 + 0)), some (g_I v3), some (g_I v4), some (g_I v5)]) dX12_unlike_87 (by decide) rfl ?_
      obtain ⟨hc, hF⟩ := hF
      refine gw_iinc (L' := [some (g_R 208), some (g_I v1), some (g_I (v2 + 0)), some (g_I (v3 + 1)), some (g_I v4), some (g_I v5)]) dX12_unlike_88 rfl hc (by decide) rfl ?_
      refine g_goto dX12_unlike_91 rfl ?_
      exact g_forget (L' := [some (g_R 208), some (g_I v1), some (g_I (v2 + 0)), some (g_I (v3 + 1)), none, none]) ⟨rfl, ⟨rfl, ⟨rfl, ⟨rfl, trivial⟩⟩⟩⟩ hF
    · have hF := hF.2 q
      refine g_iconst dX12_unlike_81 ⟨by decide, by decide⟩ ?_
      refine g_goto dX12_unlike_82 rfl ?_
      obtain ⟨hc, hF⟩ := hF
      refine g_iadd dX12_unlike_86 hc ?_
      refine gw_istore_n (L' := [some (g_R 208), some (g_I v1), some (g_I (v2 + 1)), some (g_I v3), some (g_I v4), some (g_I v5)]) dX12_unlike_87 (by decide) rfl ?_
      obtain ⟨hc, hF⟩ := hF
      refine gw_iinc (L' := [some (g_R 208), some (g_I v1), some (g_I (v2 + 1)), some (g_I (v3 + 1)), some (g_I v4), some (g_I v5)]) dX12_unlike_88 rfl hc (by decide) rfl ?_
      refine g_goto dX12_unlike_91 rfl ?_
      exact g_forget (L' := [some (g_R 208), some (g_I v1), some (g_I (v2 + 1)), some (g_I (v3 + 1)), none, none]) ⟨rfl, ⟨rfl, ⟨rfl, ⟨rfl, trivial⟩⟩⟩⟩ hF
  · have hF := hF.2 q
    refine g_iload dX12_unlike_48 rfl ?_
    refine g_aload_n dX12_unlike_50 rfl ?_
    refine g_iload_n dX12_unlike_51 rfl ?_
    refine g_iload dX12_unlike_52 rfl ?_
    refine gw_cVi (b := 208) (As := [g_I v3, g_I v5]) (rest := [g_I v4]) dX12_unlike_54 mv_X12_155 sh_208 rfl (Nat.le_of_ble_eq_true rfl) (by decide) rfl hF ?_
    intro x1 D1 hx1 hF
    have hF := hF hx1
    refine g_iload_n dX12_unlike_57 rfl ?_
    refine g_cge dX12_unlike_58 rfl (fun q => ?_) (fun q => ?_)
    · have hF := hF.1 q
      refine g_iconst dX12_unlike_65 ⟨by decide, by decide⟩ ?_
      refine g_iand dX12_unlike_66 ?_
      refine gw_istore (L' := [some (g_R 208), some (g_I v1), some (g_I v2), some (g_I v3), some (g_I (g_and v4 0)), some (g_I v5)]) dX12_unlike_67 (by decide) rfl ?_
      obtain ⟨hc, hF⟩ := hF
      refine gw_iinc (L' := [some (g_R 208), some (g_I v1), some (g_I v2), some (g_I v3), some (g_I (g_and v4 0)), some (g_I (v5 + 1))]) dX12_unlike_69 rfl hc (by decide) rfl ?_
      refine g_goto dX12_unlike_72 rfl ?_
      exact hF
    · have hF := hF.2 q
      refine g_iconst dX12_unlike_61 ⟨by decide, by decide⟩ ?_
      refine g_goto dX12_unlike_62 rfl ?_
      refine g_iand dX12_unlike_66 ?_
      refine gw_istore (L' := [some (g_R 208), some (g_I v1), some (g_I v2), some (g_I v3), some (g_I (g_and v4 1)), some (g_I v5)]) dX12_unlike_67 (by decide) rfl ?_
      obtain ⟨hc, hF⟩ := hF
      refine gw_iinc (L' := [some (g_R 208), some (g_I v1), some (g_I v2), some (g_I v3), some (g_I (g_and v4 1)), some (g_I (v5 + 1))]) dX12_unlike_69 rfl hc (by decide) rfl ?_
      refine g_goto dX12_unlike_72 rfl ?_
      exact hF
theorem dX12_wear_0 : decode cX12_wear 0 = .ok (.aload_n 0, 1) := by decide +kernel
theorem dX12_wear_1 : decode cX12_wear 1 = .ok (.iconst 0, 1) := by decide +kernel
theorem dX12_wear_2 : decode cX12_wear 2 = .ok (.putfield 1, 3) := by decide +kernel
theorem dX12_wear_5 : decode cX12_wear 5 = .ok (.iload_n 1, 1) := by decide +kernel
theorem dX12_wear_6 : decode cX12_wear 6 = .ok (.i2l, 1) := by decide +kernel
theorem dX12_wear_7 : decode cX12_wear 7 = .ok (.lconst 0, 1) := by decide +kernel
theorem dX12_wear_8 : decode cX12_wear 8 = .ok (.ldc2_w 409, 3) := by decide +kernel
theorem dX12_wear_11 : decode cX12_wear 11 = .ok (.invokestatic 131, 3) := by decide +kernel
theorem dX12_wear_14 : decode cX12_wear 14 = .ok (.ifCond .ne 6, 3) := by decide +kernel
theorem dX12_wear_17 : decode cX12_wear 17 = .ok (.bipush (-2), 2) := by decide +kernel
theorem dX12_wear_19 : decode cX12_wear 19 = .ok (.ireturn, 1) := by decide +kernel
theorem dX12_wear_20 : decode cX12_wear 20 = .ok (.aload_n 0, 1) := by decide +kernel
theorem dX12_wear_21 : decode cX12_wear 21 = .ok (.invokevirtual 324, 3) := by decide +kernel
theorem dX12_wear_24 : decode cX12_wear 24 = .ok (.pop, 1) := by decide +kernel
theorem dX12_wear_25 : decode cX12_wear 25 = .ok (.iconst 0, 1) := by decide +kernel
theorem dX12_wear_26 : decode cX12_wear 26 = .ok (.istore_n 2, 1) := by decide +kernel
theorem dX12_wear_27 : decode cX12_wear 27 = .ok (.iconst 0, 1) := by decide +kernel
theorem dX12_wear_28 : decode cX12_wear 28 = .ok (.istore_n 3, 1) := by decide +kernel
theorem dX12_wear_29 : decode cX12_wear 29 = .ok (.iload_n 3, 1) := by decide +kernel
theorem dX12_wear_30 : decode cX12_wear 30 = .ok (.aload_n 0, 1) := by decide +kernel
theorem dX12_wear_31 : decode cX12_wear 31 = .ok (.getfield 342, 3) := by decide +kernel
theorem dX12_wear_34 : decode cX12_wear 34 = .ok (.if_icmp .ge 27, 3) := by decide +kernel
theorem dX12_wear_37 : decode cX12_wear 37 = .ok (.iload_n 2, 1) := by decide +kernel
theorem dX12_wear_38 : decode cX12_wear 38 = .ok (.aload_n 0, 1) := by decide +kernel
theorem dX12_wear_39 : decode cX12_wear 39 = .ok (.getfield 99, 3) := by decide +kernel
theorem dX12_wear_42 : decode cX12_wear 42 = .ok (.iload_n 3, 1) := by decide +kernel
theorem dX12_wear_43 : decode cX12_wear 43 = .ok (.iaload, 1) := by decide +kernel
theorem dX12_wear_44 : decode cX12_wear 44 = .ok (.iload_n 1, 1) := by decide +kernel
theorem dX12_wear_45 : decode cX12_wear 45 = .ok (.if_icmp .ne 7, 3) := by decide +kernel
theorem dX12_wear_48 : decode cX12_wear 48 = .ok (.iconst 1, 1) := by decide +kernel
theorem dX12_wear_49 : decode cX12_wear 49 = .ok (.goto 4, 3) := by decide +kernel
theorem dX12_wear_52 : decode cX12_wear 52 = .ok (.iconst 0, 1) := by decide +kernel
theorem dX12_wear_53 : decode cX12_wear 53 = .ok (.iadd, 1) := by decide +kernel
theorem dX12_wear_54 : decode cX12_wear 54 = .ok (.istore_n 2, 1) := by decide +kernel
theorem dX12_wear_55 : decode cX12_wear 55 = .ok (.iinc 3 1, 3) := by decide +kernel
theorem dX12_wear_58 : decode cX12_wear 58 = .ok (.goto (-29), 3) := by decide +kernel
theorem dX12_wear_61 : decode cX12_wear 61 = .ok (.iload_n 2, 1) := by decide +kernel
theorem dX12_wear_62 : decode cX12_wear 62 = .ok (.ireturn, 1) := by decide +kernel
abbrev k_X12_wear (E : g_E) (l : Launch) (D : g_D) (v1 : Int) (K : Int → g_D → Prop) : Prop := g_Ki E l m_X12_wear 4 [g_R 208, g_I v1] g_SH D K
abbrev n_X12_wear (E : g_E) (l : Launch) (D : g_D) (pc : Nat) (L : List (Option g_V)) (K : Int → g_D → Prop) : Prop := g_N E l m_X12_wear 4 pc L [] g_SH D (g_Ri g_SH K)
theorem s_X12_wear {E : g_E} {l : Launch} {D : g_D} {K : Int → g_D → Prop} {v1 : Int}  (hF : g_okD D → g_r v1 → ∀ D1, D1 = g_up D 208 0 0 → (k_X12_within E l g_SH D1 v1 0 9 (fun x2 D2 => g_r x2 → (¬ x2 = 0 → k_X12_laysSteps E l D2 (fun x3 D3 => g_r x3 → n_X12_wear E l D3 29 [some (g_R 208), some (g_I v1), some (g_I 0), some (g_I 0)] K)) ∧ (x2 = 0 → K (-2) D2)))) : k_X12_wear E l D v1 K := by
  refine g_enter (by decide) (Nat.le_of_ble_eq_true rfl) ?_
  show g_N E l m_X12_wear 4 0 [some (g_R 208), some (g_I v1), none, none] [] g_SH D (g_Ri g_SH K)
  refine g_use (fun ok => ?_)
  have hF := hF ok.2.1 (ok.loc (i := 1) rfl)
  refine g_aload_n dX12_wear_0 rfl ?_
  refine g_iconst dX12_wear_1 ⟨by decide, by decide⟩ ?_
  let D1 : g_D := g_up D 208 0 0
  have hF := hF D1 rfl
  refine g_put dX12_wear_2 fd_X12_1 (g_ftyI (C := RX12) (T := TX12) (N := 51) rfl rfl (by decide +kernel)) sh_208 rfl ?_
  refine g_iload_n dX12_wear_5 rfl ?_
  refine g_i2l dX12_wear_6 ?_
  refine g_lconst dX12_wear_7 ?_
  refine g_ldc2 dX12_wear_8 ⟨by decide, by decide⟩ kl_X12_409 ?_
  refine gw_cSi (As := [g_J v1, g_J 0, g_J 9]) (rest := []) dX12_wear_11 ms_X12_131 rfl (Nat.le_of_ble_eq_true rfl) (by decide) rfl hF ?_
  intro x2 D2 hx2 hF
  have hF := hF hx2
  refine g_ifne dX12_wear_14 rfl (fun q => ?_) (fun q => ?_)
  · have hF := hF.1 q
    refine g_aload_n dX12_wear_20 rfl ?_
    refine gw_cVi (b := 208) (As := []) (rest := []) dX12_wear_21 mv_X12_324 sh_208 rfl (Nat.le_of_ble_eq_true rfl) (by decide) rfl hF ?_
    intro x3 D3 hx3 hF
    have hF := hF hx3
    refine g_pop dX12_wear_24 rfl ?_
    refine g_iconst dX12_wear_25 ⟨by decide, by decide⟩ ?_
    refine gw_istore_n (L' := [some (g_R 208), some (g_I v1), some (g_I 0), none]) dX12_wear_26 (by decide) rfl ?_
    refine g_iconst dX12_wear_27 ⟨by decide, by decide⟩ ?_
    refine gw_istore_n (L' := [some (g_R 208), some (g_I v1), some (g_I 0), some (g_I 0)]) dX12_wear_28 (by decide) rfl ?_
    exact hF
  · have hF := hF.2 q
    refine g_bipush dX12_wear_17 ⟨by decide, by decide⟩ ?_
    exact gw_iret dX12_wear_19 rfl hF
theorem s_X12_wear_29 {E : g_E} {l : Launch} {D : g_D} {K : Int → g_D → Prop} {v1 : Int} {v2 : Int} {v3 : Int}  (hF : g_okD D → g_r v1 → g_r v2 → g_r v3 → ((D 208 46) ≤ v3 → K v2 D) ∧ (¬ (D 208 46) ≤ v3 → (0 ≤ v3 ∧ v3 < 400) ∧ ((¬ (D 236 v3.toNat) = v1 → (g_r (v2 + 0)) ∧ ((g_r (v3 + 1)) ∧ (n_X12_wear E l D 29 [some (g_R 208), some (g_I v1), some (g_I (v2 + 0)), some (g_I (v3 + 1))] K))) ∧ ((D 236 v3.toNat) = v1 → (g_r (v2 + 1)) ∧ ((g_r (v3 + 1)) ∧ (n_X12_wear E l D 29 [some (g_R 208), some (g_I v1), some (g_I (v2 + 1)), some (g_I (v3 + 1))] K)))))) : n_X12_wear E l D 29 [some (g_R 208), some (g_I v1), some (g_I v2), some (g_I v3)] K := by
  refine g_use (fun ok => ?_)
  have hF := hF ok.2.1 (ok.loc (i := 1) rfl) (ok.loc (i := 2) rfl) (ok.loc (i := 3) rfl)
  refine g_iload_n dX12_wear_29 rfl ?_
  refine g_aload_n dX12_wear_30 rfl ?_
  refine g_getI dX12_wear_31 fd_X12_342 sh_208 rfl ?_
  refine g_cge dX12_wear_34 rfl (fun q => ?_) (fun q => ?_)
  · have hF := hF.1 q
    refine g_iload_n dX12_wear_61 rfl ?_
    exact gw_iret dX12_wear_62 rfl hF
  · have hF := hF.2 q
    refine g_iload_n dX12_wear_37 rfl ?_
    refine g_aload_n dX12_wear_38 rfl ?_
    refine g_getR dX12_wear_39 fd_X12_99 sh_208 rfl ?_
    refine g_iload_n dX12_wear_42 rfl ?_
    obtain ⟨hc, hF⟩ := hF
    refine g_iald dX12_wear_43 sh_236 hc.1 hc.2 ?_
    refine g_iload_n dX12_wear_44 rfl ?_
    refine g_cne dX12_wear_45 rfl (fun q => ?_) (fun q => ?_)
    · have hF := hF.1 q
      refine g_iconst dX12_wear_52 ⟨by decide, by decide⟩ ?_
      obtain ⟨hc, hF⟩ := hF
      refine g_iadd dX12_wear_53 hc ?_
      refine gw_istore_n (L' := [some (g_R 208), some (g_I v1), some (g_I (v2 + 0)), some (g_I v3)]) dX12_wear_54 (by decide) rfl ?_
      obtain ⟨hc, hF⟩ := hF
      refine gw_iinc (L' := [some (g_R 208), some (g_I v1), some (g_I (v2 + 0)), some (g_I (v3 + 1))]) dX12_wear_55 rfl hc (by decide) rfl ?_
      refine g_goto dX12_wear_58 rfl ?_
      exact hF
    · have hF := hF.2 q
      refine g_iconst dX12_wear_48 ⟨by decide, by decide⟩ ?_
      refine g_goto dX12_wear_49 rfl ?_
      obtain ⟨hc, hF⟩ := hF
      refine g_iadd dX12_wear_53 hc ?_
      refine gw_istore_n (L' := [some (g_R 208), some (g_I v1), some (g_I (v2 + 1)), some (g_I v3)]) dX12_wear_54 (by decide) rfl ?_
      obtain ⟨hc, hF⟩ := hF
      refine gw_iinc (L' := [some (g_R 208), some (g_I v1), some (g_I (v2 + 1)), some (g_I (v3 + 1))]) dX12_wear_55 rfl hc (by decide) rfl ?_
      refine g_goto dX12_wear_58 rfl ?_
      exact hF
theorem dX12_widest_0 : decode cX12_widest 0 = .ok (.aload_n 0, 1) := by decide +kernel
theorem dX12_widest_1 : decode cX12_widest 1 = .ok (.iconst 0, 1) := by decide +kernel
theorem dX12_widest_2 : decode cX12_widest 2 = .ok (.putfield 1, 3) := by decide +kernel
theorem dX12_widest_5 : decode cX12_widest 5 = .ok (.iload_n 1, 1) := by decide +kernel
theorem dX12_widest_6 : decode cX12_widest 6 = .ok (.i2l, 1) := by decide +kernel
theorem dX12_widest_7 : decode cX12_widest 7 = .ok (.lconst 0, 1) := by decide +kernel
theorem dX12_widest_8 : decode cX12_widest 8 = .ok (.ldc2_w 149, 3) := by decide +kernel
theorem dX12_widest_11 : decode cX12_widest 11 = .ok (.invokestatic 131, 3) := by decide +kernel
theorem dX12_widest_14 : decode cX12_widest 14 = .ok (.ifCond .ne 6, 3) := by decide +kernel
theorem dX12_widest_17 : decode cX12_widest 17 = .ok (.bipush (-2), 2) := by decide +kernel
theorem dX12_widest_19 : decode cX12_widest 19 = .ok (.ireturn, 1) := by decide +kernel
theorem dX12_widest_20 : decode cX12_widest 20 = .ok (.iconst (-1), 1) := by decide +kernel
theorem dX12_widest_21 : decode cX12_widest 21 = .ok (.istore_n 2, 1) := by decide +kernel
theorem dX12_widest_22 : decode cX12_widest 22 = .ok (.iconst 0, 1) := by decide +kernel
theorem dX12_widest_23 : decode cX12_widest 23 = .ok (.istore_n 3, 1) := by decide +kernel
theorem dX12_widest_24 : decode cX12_widest 24 = .ok (.iconst 0, 1) := by decide +kernel
theorem dX12_widest_25 : decode cX12_widest 25 = .ok (.istore 4, 2) := by decide +kernel
theorem dX12_widest_27 : decode cX12_widest 27 = .ok (.iload 4, 2) := by decide +kernel
theorem dX12_widest_29 : decode cX12_widest 29 = .ok (.aload_n 0, 1) := by decide +kernel
theorem dX12_widest_30 : decode cX12_widest 30 = .ok (.getfield 13, 3) := by decide +kernel
theorem dX12_widest_33 : decode cX12_widest 33 = .ok (.iconst 1, 1) := by decide +kernel
theorem dX12_widest_34 : decode cX12_widest 34 = .ok (.iaload, 1) := by decide +kernel
theorem dX12_widest_35 : decode cX12_widest 35 = .ok (.if_icmp .ge 32, 3) := by decide +kernel
theorem dX12_widest_38 : decode cX12_widest 38 = .ok (.aload_n 0, 1) := by decide +kernel
theorem dX12_widest_39 : decode cX12_widest 39 = .ok (.iload 4, 2) := by decide +kernel
theorem dX12_widest_41 : decode cX12_widest 41 = .ok (.invokevirtual 168, 3) := by decide +kernel
theorem dX12_widest_44 : decode cX12_widest 44 = .ok (.istore 5, 2) := by decide +kernel
theorem dX12_widest_46 : decode cX12_widest 46 = .ok (.iload 5, 2) := by decide +kernel
theorem dX12_widest_48 : decode cX12_widest 48 = .ok (.iload_n 3, 1) := by decide +kernel
theorem dX12_widest_49 : decode cX12_widest 49 = .ok (.if_icmp .gt 6, 3) := by decide +kernel
theorem dX12_widest_52 : decode cX12_widest 52 = .ok (.goto 9, 3) := by decide +kernel
theorem dX12_widest_55 : decode cX12_widest 55 = .ok (.iload 4, 2) := by decide +kernel
theorem dX12_widest_57 : decode cX12_widest 57 = .ok (.istore_n 2, 1) := by decide +kernel
theorem dX12_widest_58 : decode cX12_widest 58 = .ok (.iload 5, 2) := by decide +kernel
theorem dX12_widest_60 : decode cX12_widest 60 = .ok (.istore_n 3, 1) := by decide +kernel
theorem dX12_widest_61 : decode cX12_widest 61 = .ok (.iinc 4 1, 3) := by decide +kernel
theorem dX12_widest_64 : decode cX12_widest 64 = .ok (.goto (-37), 3) := by decide +kernel
theorem dX12_widest_67 : decode cX12_widest 67 = .ok (.iload_n 1, 1) := by decide +kernel
theorem dX12_widest_68 : decode cX12_widest 68 = .ok (.ifCond .ne 7, 3) := by decide +kernel
theorem dX12_widest_71 : decode cX12_widest 71 = .ok (.iload_n 3, 1) := by decide +kernel
theorem dX12_widest_72 : decode cX12_widest 72 = .ok (.goto 22, 3) := by decide +kernel
theorem dX12_widest_75 : decode cX12_widest 75 = .ok (.iload_n 2, 1) := by decide +kernel
theorem dX12_widest_76 : decode cX12_widest 76 = .ok (.iconst (-1), 1) := by decide +kernel
theorem dX12_widest_77 : decode cX12_widest 77 = .ok (.if_icmp .eq 8, 3) := by decide +kernel
theorem dX12_widest_80 : decode cX12_widest 80 = .ok (.iload_n 1, 1) := by decide +kernel
theorem dX12_widest_81 : decode cX12_widest 81 = .ok (.iconst 1, 1) := by decide +kernel
theorem dX12_widest_82 : decode cX12_widest 82 = .ok (.if_icmp .ne 7, 3) := by decide +kernel
theorem dX12_widest_85 : decode cX12_widest 85 = .ok (.iload_n 2, 1) := by decide +kernel
theorem dX12_widest_86 : decode cX12_widest 86 = .ok (.goto 8, 3) := by decide +kernel
theorem dX12_widest_89 : decode cX12_widest 89 = .ok (.aload_n 0, 1) := by decide +kernel
theorem dX12_widest_90 : decode cX12_widest 90 = .ok (.iload_n 2, 1) := by decide +kernel
theorem dX12_widest_91 : decode cX12_widest 91 = .ok (.invokevirtual 175, 3) := by decide +kernel
theorem dX12_widest_94 : decode cX12_widest 94 = .ok (.ireturn, 1) := by decide +kernel
abbrev k_X12_widest (E : g_E) (l : Launch) (D : g_D) (v1 : Int) (K : Int → g_D → Prop) : Prop := g_Ki E l m_X12_widest 3 [g_R 208, g_I v1] g_SH D K
abbrev n_X12_widest (E : g_E) (l : Launch) (D : g_D) (pc : Nat) (L : List (Option g_V)) (K : Int → g_D → Prop) : Prop := g_N E l m_X12_widest 3 pc L [] g_SH D (g_Ri g_SH K)
theorem s_X12_widest {E : g_E} {l : Launch} {D : g_D} {K : Int → g_D → Prop} {v1 : Int}  (hF : g_okD D → g_r v1 → ∀ D1, D1 = g_up D 208 0 0 → (k_X12_within E l g_SH D1 v1 0 2 (fun x2 D2 => g_r x2 → (¬ x2 = 0 → n_X12_widest E l D2 27 [some (g_R 208), some (g_I v1), some (g_I (-1)), some (g_I 0), some (g_I 0), none] K) ∧ (x2 = 0 → K (-2) D2)))) : k_X12_widest E l D v1 K := by
  refine g_enter (by decide) (Nat.le_of_ble_eq_true rfl) ?_
  show g_N E l m_X12_widest 3 0 [some (g_R 208), some (g_I v1), none, none, none, none] [] g_SH D (g_Ri g_SH K)
  refine g_use (fun ok => ?_)
  have hF := hF ok.2.1 (ok.loc (i := 1) rfl)
  refine g_aload_n dX12_widest_0 rfl ?_
  refine g_iconst dX12_widest_1 ⟨by decide, by decide⟩ ?_
  let D1 : g_D := g_up D 208 0 0
  have hF := hF D1 rfl
  refine g_put dX12_widest_2 fd_X12_1 (g_ftyI (C := RX12) (T := TX12) (N := 51) rfl rfl (by decide +kernel)) sh_208 rfl ?_
  refine g_iload_n dX12_widest_5 rfl ?_
  refine g_i2l dX12_widest_6 ?_
  refine g_lconst dX12_widest_7 ?_
  refine g_ldc2 dX12_widest_8 ⟨by decide, by decide⟩ kl_X12_149 ?_
  refine gw_cSi (As := [g_J v1, g_J 0, g_J 2]) (rest := []) dX12_widest_11 ms_X12_131 rfl (Nat.le_of_ble_eq_true rfl) (by decide) rfl hF ?_
  intro x2 D2 hx2 hF
  have hF := hF hx2
  refine g_ifne dX12_widest_14 rfl (fun q => ?_) (fun q => ?_)
  · have hF := hF.1 q
    refine g_iconst dX12_widest_20 ⟨by decide, by decide⟩ ?_
    refine gw_istore_n (L' := [some (g_R 208), some (g_I v1), some (g_I (-1)), none, none, none]) dX12_widest_21 (by decide) rfl ?_
    refine g_iconst dX12_widest_22 ⟨by decide, by decide⟩ ?_
    refine gw_istore_n (L' := [some (g_R 208), some (g_I v1), some (g_I (-1)), some (g_I 0), none, none]) dX12_widest_23 (by decide) rfl ?_
    refine g_iconst dX12_widest_24 ⟨by decide, by decide⟩ ?_
    refine gw_istore (L' := [some (g_R 208), some (g_I v1), some (g_I (-1)), some (g_I 0), some (g_I 0), none]) dX12_widest_25 (by decide) rfl ?_
    exact hF
  · have hF := hF.2 q
    refine g_bipush dX12_widest_17 ⟨by decide, by decide⟩ ?_
    exact gw_iret dX12_widest_19 rfl hF
theorem s_X12_widest_27 {E : g_E} {l : Launch} {D : g_D} {K : Int → g_D → Prop} {v1 : Int} {v2 : Int} {v3 : Int} {v4 : Int}  (hF : g_okD D → g_r v1 → g_r v2 → g_r v3 → g_r v4 → ((D 209 1) ≤ v4 → (¬ v1 = 0 → (v2 = (-1) → K v2 D) ∧ (¬ v2 = (-1) → (¬ v1 = 1 → k_X12_chosenAt E l D v2 (fun x1 D1 => g_r x1 → K x1 D1)) ∧ (v1 = 1 → K v2 D))) ∧ (v1 = 0 → K v3 D)) ∧ (¬ (D 209 1) ≤ v4 → k_X12_longestAt E l D v4 (fun x2 D2 => g_r x2 → (v3 < x2 → (g_r (v4 + 1)) ∧ (n_X12_widest E l D2 27 [some (g_R 208), some (g_I v1), some (g_I v4), some (g_I x2), some (g_I (v4 + 1)), none] K)) ∧ (¬ v3 < x2 → (g_r (v4 + 1)) ∧ (n_X12_widest E l D2 27 [some (g_R 208), some (g_I v1), some (g_I v2), some (g_I v3), some (g_I (v4 + 1)), none] K))))) : n_X12_widest E l D 27 [some (g_R 208), some (g_I v1), some (g_I v2), some (g_I v3), some (g_I v4), none] K := by
  refine g_use (fun ok => ?_)
  have hF := hF ok.2.1 (ok.loc (i := 1) rfl) (ok.loc (i := 2) rfl) (ok.loc (i := 3) rfl) (ok.loc (i := 4) rfl)
  refine g_iload dX12_widest_27 rfl ?_
  refine g_aload_n dX12_widest_29 rfl ?_
  refine g_getR dX12_widest_30 fd_X12_13 sh_208 rfl ?_
  refine g_iconst dX12_widest_33 ⟨by decide, by decide⟩ ?_
  refine g_iald dX12_widest_34 sh_209 (by decide) (by decide) ?_
  refine g_cge dX12_widest_35 rfl (fun q => ?_) (fun q => ?_)
  · have hF := hF.1 q
    refine g_iload_n dX12_widest_67 rfl ?_
    refine g_ifne dX12_widest_68 rfl (fun q => ?_) (fun q => ?_)
    · have hF := hF.1 q
      refine g_iload_n dX12_widest_75 rfl ?_
      refine g_iconst dX12_widest_76 ⟨by decide, by decide⟩ ?_
      refine g_ceq dX12_widest_77 rfl (fun q => ?_) (fun q => ?_)
      · have hF := hF.1 q
        refine g_iload_n dX12_widest_85 rfl ?_
        refine g_goto dX12_widest_86 rfl ?_
        exact gw_iret dX12_widest_94 rfl hF
      · have hF := hF.2 q
        refine g_iload_n dX12_widest_80 rfl ?_
        refine g_iconst dX12_widest_81 ⟨by decide, by decide⟩ ?_
        refine g_cne dX12_widest_82 rfl (fun q => ?_) (fun q => ?_)
        · have hF := hF.1 q
          refine g_aload_n dX12_widest_89 rfl ?_
          refine g_iload_n dX12_widest_90 rfl ?_
          refine gw_cVi (b := 208) (As := [g_I v2]) (rest := []) dX12_widest_91 mv_X12_175 sh_208 rfl (Nat.le_of_ble_eq_true rfl) (by decide) rfl hF ?_
          intro x1 D1 hx1 hF
          have hF := hF hx1
          exact gw_iret dX12_widest_94 rfl hF
        · have hF := hF.2 q
          refine g_iload_n dX12_widest_85 rfl ?_
          refine g_goto dX12_widest_86 rfl ?_
          exact gw_iret dX12_widest_94 rfl hF
    · have hF := hF.2 q
      refine g_iload_n dX12_widest_71 rfl ?_
      refine g_goto dX12_widest_72 rfl ?_
      exact gw_iret dX12_widest_94 rfl hF
  · have hF := hF.2 q
    refine g_aload_n dX12_widest_38 rfl ?_
    refine g_iload dX12_widest_39 rfl ?_
    refine gw_cVi (b := 208) (As := [g_I v4]) (rest := []) dX12_widest_41 mv_X12_168 sh_208 rfl (Nat.le_of_ble_eq_true rfl) (by decide) rfl hF ?_
    intro x2 D2 hx2 hF
    have hF := hF hx2
    refine gw_istore (L' := [some (g_R 208), some (g_I v1), some (g_I v2), some (g_I v3), some (g_I v4), some (g_I x2)]) dX12_widest_44 (by decide) rfl ?_
    refine g_iload dX12_widest_46 rfl ?_
    refine g_iload_n dX12_widest_48 rfl ?_
    refine g_cgt dX12_widest_49 rfl (fun q => ?_) (fun q => ?_)
    · have hF := hF.1 q
      refine g_iload dX12_widest_55 rfl ?_
      refine gw_istore_n (L' := [some (g_R 208), some (g_I v1), some (g_I v4), some (g_I v3), some (g_I v4), some (g_I x2)]) dX12_widest_57 (by decide) rfl ?_
      refine g_iload dX12_widest_58 rfl ?_
      refine gw_istore_n (L' := [some (g_R 208), some (g_I v1), some (g_I v4), some (g_I x2), some (g_I v4), some (g_I x2)]) dX12_widest_60 (by decide) rfl ?_
      obtain ⟨hc, hF⟩ := hF
      refine gw_iinc (L' := [some (g_R 208), some (g_I v1), some (g_I v4), some (g_I x2), some (g_I (v4 + 1)), some (g_I x2)]) dX12_widest_61 rfl hc (by decide) rfl ?_
      refine g_goto dX12_widest_64 rfl ?_
      exact g_forget (L' := [some (g_R 208), some (g_I v1), some (g_I v4), some (g_I x2), some (g_I (v4 + 1)), none]) ⟨rfl, ⟨rfl, ⟨rfl, ⟨rfl, ⟨rfl, trivial⟩⟩⟩⟩⟩ hF
    · have hF := hF.2 q
      refine g_goto dX12_widest_52 rfl ?_
      obtain ⟨hc, hF⟩ := hF
      refine gw_iinc (L' := [some (g_R 208), some (g_I v1), some (g_I v2), some (g_I v3), some (g_I (v4 + 1)), some (g_I x2)]) dX12_widest_61 rfl hc (by decide) rfl ?_
      refine g_goto dX12_widest_64 rfl ?_
      exact g_forget (L' := [some (g_R 208), some (g_I v1), some (g_I v2), some (g_I v3), some (g_I (v4 + 1)), none]) ⟨rfl, ⟨rfl, ⟨rfl, ⟨rfl, ⟨rfl, trivial⟩⟩⟩⟩⟩ hF
