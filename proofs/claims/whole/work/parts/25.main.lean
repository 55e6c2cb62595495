theorem dX11_makePlan_0 : decode cX11_makePlan 0 = .ok (.aload_n 0, 1) := by decide +kernel
theorem dX11_makePlan_1 : decode cX11_makePlan 1 = .ok (.getfield 92, 3) := by decide +kernel
theorem dX11_makePlan_4 : decode cX11_makePlan 4 = .ok (.ifCond .eq 94, 3) := by decide +kernel
theorem dX11_makePlan_7 : decode cX11_makePlan 7 = .ok (.aload_n 0, 1) := by decide +kernel
theorem dX11_makePlan_8 : decode cX11_makePlan 8 = .ok (.getfield 57, 3) := by decide +kernel
theorem dX11_makePlan_11 : decode cX11_makePlan 11 = .ok (.aload_n 0, 1) := by decide +kernel
theorem dX11_makePlan_12 : decode cX11_makePlan 12 = .ok (.getfield 12, 3) := by decide +kernel
theorem dX11_makePlan_15 : decode cX11_makePlan 15 = .ok (.getfield 105, 3) := by decide +kernel
theorem dX11_makePlan_18 : decode cX11_makePlan 18 = .ok (.aload_n 0, 1) := by decide +kernel
theorem dX11_makePlan_19 : decode cX11_makePlan 19 = .ok (.getfield 12, 3) := by decide +kernel
theorem dX11_makePlan_22 : decode cX11_makePlan 22 = .ok (.getfield 112, 3) := by decide +kernel
theorem dX11_makePlan_25 : decode cX11_makePlan 25 = .ok (.aload_n 0, 1) := by decide +kernel
theorem dX11_makePlan_26 : decode cX11_makePlan 26 = .ok (.getfield 12, 3) := by decide +kernel
theorem dX11_makePlan_29 : decode cX11_makePlan 29 = .ok (.getfield 142, 3) := by decide +kernel
theorem dX11_makePlan_32 : decode cX11_makePlan 32 = .ok (.iconst 0, 1) := by decide +kernel
theorem dX11_makePlan_33 : decode cX11_makePlan 33 = .ok (.iaload, 1) := by decide +kernel
theorem dX11_makePlan_34 : decode cX11_makePlan 34 = .ok (.aload_n 0, 1) := by decide +kernel
theorem dX11_makePlan_35 : decode cX11_makePlan 35 = .ok (.getfield 12, 3) := by decide +kernel
theorem dX11_makePlan_38 : decode cX11_makePlan 38 = .ok (.getfield 142, 3) := by decide +kernel
theorem dX11_makePlan_41 : decode cX11_makePlan 41 = .ok (.iconst 1, 1) := by decide +kernel
theorem dX11_makePlan_42 : decode cX11_makePlan 42 = .ok (.iaload, 1) := by decide +kernel
theorem dX11_makePlan_43 : decode cX11_makePlan 43 = .ok (.invokevirtual 280, 3) := by decide +kernel
theorem dX11_makePlan_46 : decode cX11_makePlan 46 = .ok (.aload_n 0, 1) := by decide +kernel
theorem dX11_makePlan_47 : decode cX11_makePlan 47 = .ok (.getfield 64, 3) := by decide +kernel
theorem dX11_makePlan_50 : decode cX11_makePlan 50 = .ok (.aload_n 0, 1) := by decide +kernel
theorem dX11_makePlan_51 : decode cX11_makePlan 51 = .ok (.getfield 57, 3) := by decide +kernel
theorem dX11_makePlan_54 : decode cX11_makePlan 54 = .ok (.aload_n 0, 1) := by decide +kernel
theorem dX11_makePlan_55 : decode cX11_makePlan 55 = .ok (.getfield 12, 3) := by decide +kernel
theorem dX11_makePlan_58 : decode cX11_makePlan 58 = .ok (.getfield 142, 3) := by decide +kernel
theorem dX11_makePlan_61 : decode cX11_makePlan 61 = .ok (.iconst 2, 1) := by decide +kernel
theorem dX11_makePlan_62 : decode cX11_makePlan 62 = .ok (.iaload, 1) := by decide +kernel
theorem dX11_makePlan_63 : decode cX11_makePlan 63 = .ok (.aload_n 0, 1) := by decide +kernel
theorem dX11_makePlan_64 : decode cX11_makePlan 64 = .ok (.getfield 12, 3) := by decide +kernel
theorem dX11_makePlan_67 : decode cX11_makePlan 67 = .ok (.getfield 142, 3) := by decide +kernel
theorem dX11_makePlan_70 : decode cX11_makePlan 70 = .ok (.iconst 3, 1) := by decide +kernel
theorem dX11_makePlan_71 : decode cX11_makePlan 71 = .ok (.iaload, 1) := by decide +kernel
theorem dX11_makePlan_72 : decode cX11_makePlan 72 = .ok (.invokevirtual 276, 3) := by decide +kernel
theorem dX11_makePlan_75 : decode cX11_makePlan 75 = .ok (.aload_n 0, 1) := by decide +kernel
theorem dX11_makePlan_76 : decode cX11_makePlan 76 = .ok (.getfield 64, 3) := by decide +kernel
theorem dX11_makePlan_79 : decode cX11_makePlan 79 = .ok (.aload_n 0, 1) := by decide +kernel
theorem dX11_makePlan_80 : decode cX11_makePlan 80 = .ok (.getfield 57, 3) := by decide +kernel
theorem dX11_makePlan_83 : decode cX11_makePlan 83 = .ok (.aload_n 0, 1) := by decide +kernel
theorem dX11_makePlan_84 : decode cX11_makePlan 84 = .ok (.getfield 12, 3) := by decide +kernel
theorem dX11_makePlan_87 : decode cX11_makePlan 87 = .ok (.getfield 112, 3) := by decide +kernel
theorem dX11_makePlan_90 : decode cX11_makePlan 90 = .ok (.invokevirtual 428, 3) := by decide +kernel
theorem dX11_makePlan_93 : decode cX11_makePlan 93 = .ok (.aload_n 0, 1) := by decide +kernel
theorem dX11_makePlan_94 : decode cX11_makePlan 94 = .ok (.iconst 0, 1) := by decide +kernel
theorem dX11_makePlan_95 : decode cX11_makePlan 95 = .ok (.putfield 92, 3) := by decide +kernel
theorem dX11_makePlan_98 : decode cX11_makePlan 98 = .ok (.return_, 1) := by decide +kernel
abbrev k_X11_makePlan (E : g_E) (l : Launch) (D : g_D) (K : g_D → Prop) : Prop := g_Kv E l m_X11_makePlan 5 [g_R 0] g_SH D K
abbrev n_X11_makePlan (E : g_E) (l : Launch) (D : g_D) (pc : Nat) (L : List (Option g_V)) (K : g_D → Prop) : Prop := g_N E l m_X11_makePlan 5 pc L [] g_SH D (g_Rv g_SH K)
theorem s_X11_makePlan {E : g_E} {l : Launch} {D : g_D} {K : g_D → Prop}   (hF : g_okD D → ((D 0 14) = 0 → K D) ∧ (¬ (D 0 14) = 0 → k_X7_build E l D 137 2 4 (D 6 0) (D 6 1) (fun D1 => k_X4_build E l D1 149 137 (D1 6 2) (D1 6 3) (fun D2 => k_X4_write E l D2 149 137 4 (fun D3 => ∀ D4, D4 = g_up D3 0 14 0 → (K D4)))))) : k_X11_makePlan E l D K := by
  refine g_enter (by decide) (Nat.le_of_ble_eq_true rfl) ?_
  show g_N E l m_X11_makePlan 5 0 [some (g_R 0)] [] g_SH D (g_Rv g_SH K)
  refine g_use (fun ok => ?_)
  have hF := hF ok.2.1
  refine g_aload_n dX11_makePlan_0 rfl ?_
  refine g_getI dX11_makePlan_1 fd_X11_92 sh_0 rfl ?_
  refine g_ifeq dX11_makePlan_4 rfl (fun q => ?_) (fun q => ?_)
  · have hF := hF.1 q
    exact gw_vret dX11_makePlan_98 rfl hF
  · have hF := hF.2 q
    refine g_aload_n dX11_makePlan_7 rfl ?_
    refine g_getR dX11_makePlan_8 fd_X11_57 sh_0 rfl ?_
    refine g_aload_n dX11_makePlan_11 rfl ?_
    refine g_getR dX11_makePlan_12 fd_X11_12 sh_0 rfl ?_
    refine g_getR dX11_makePlan_15 fd_X11_105 sh_1 rfl ?_
    refine g_aload_n dX11_makePlan_18 rfl ?_
    refine g_getR dX11_makePlan_19 fd_X11_12 sh_0 rfl ?_
    refine g_getR dX11_makePlan_22 fd_X11_112 sh_1 rfl ?_
    refine g_aload_n dX11_makePlan_25 rfl ?_
    refine g_getR dX11_makePlan_26 fd_X11_12 sh_0 rfl ?_
    refine g_getR dX11_makePlan_29 fd_X11_142 sh_1 rfl ?_
    refine g_iconst dX11_makePlan_32 ⟨by decide, by decide⟩ ?_
    refine g_iald dX11_makePlan_33 sh_6 (by decide) (by decide) ?_
    refine g_aload_n dX11_makePlan_34 rfl ?_
    refine g_getR dX11_makePlan_35 fd_X11_12 sh_0 rfl ?_
    refine g_getR dX11_makePlan_38 fd_X11_142 sh_1 rfl ?_
    refine g_iconst dX11_makePlan_41 ⟨by decide, by decide⟩ ?_
    refine g_iald dX11_makePlan_42 sh_6 (by decide) (by decide) ?_
    refine gw_cVv (b := 137) (As := [g_R 2, g_R 4, g_I (D 6 0), g_I (D 6 1)]) (rest := []) dX11_makePlan_43 mv_X11_280 sh_137 rfl (Nat.le_of_ble_eq_true rfl) (by decide) rfl hF ?_
    intro D1 hF
    refine g_aload_n dX11_makePlan_46 rfl ?_
    refine g_getR dX11_makePlan_47 fd_X11_64 sh_0 rfl ?_
    refine g_aload_n dX11_makePlan_50 rfl ?_
    refine g_getR dX11_makePlan_51 fd_X11_57 sh_0 rfl ?_
    refine g_aload_n dX11_makePlan_54 rfl ?_
    refine g_getR dX11_makePlan_55 fd_X11_12 sh_0 rfl ?_
    refine g_getR dX11_makePlan_58 fd_X11_142 sh_1 rfl ?_
    refine g_iconst dX11_makePlan_61 ⟨by decide, by decide⟩ ?_
    refine g_iald dX11_makePlan_62 sh_6 (by decide) (by decide) ?_
    refine g_aload_n dX11_makePlan_63 rfl ?_
    refine g_getR dX11_makePlan_64 fd_X11_12 sh_0 rfl ?_
    refine g_getR dX11_makePlan_67 fd_X11_142 sh_1 rfl ?_
    refine g_iconst dX11_makePlan_70 ⟨by decide, by decide⟩ ?_
    refine g_iald dX11_makePlan_71 sh_6 (by decide) (by decide) ?_
    refine gw_cVv (b := 149) (As := [g_R 137, g_I (D1 6 2), g_I (D1 6 3)]) (rest := []) dX11_makePlan_72 mv_X11_276 sh_149 rfl (Nat.le_of_ble_eq_true rfl) (by decide) rfl hF ?_
    intro D2 hF
    refine g_aload_n dX11_makePlan_75 rfl ?_
    refine g_getR dX11_makePlan_76 fd_X11_64 sh_0 rfl ?_
    refine g_aload_n dX11_makePlan_79 rfl ?_
    refine g_getR dX11_makePlan_80 fd_X11_57 sh_0 rfl ?_
    refine g_aload_n dX11_makePlan_83 rfl ?_
    refine g_getR dX11_makePlan_84 fd_X11_12 sh_0 rfl ?_
    refine g_getR dX11_makePlan_87 fd_X11_112 sh_1 rfl ?_
    refine gw_cVv (b := 149) (As := [g_R 137, g_R 4]) (rest := []) dX11_makePlan_90 mv_X11_428 sh_149 rfl (Nat.le_of_ble_eq_true rfl) (by decide) rfl hF ?_
    intro D3 hF
    refine g_aload_n dX11_makePlan_93 rfl ?_
    refine g_iconst dX11_makePlan_94 ⟨by decide, by decide⟩ ?_
    let D4 : g_D := g_up D3 0 14 0
    have hF := hF D4 rfl
    refine g_put dX11_makePlan_95 fd_X11_92 (g_ftyZ (C := RX11) (T := TX11) (N := 16) rfl rfl (by decide +kernel) (by decide)) sh_0 rfl ?_
    exact gw_vret dX11_makePlan_98 rfl hF
theorem dX11_act_0 : decode cX11_act 0 = .ok (.aload_n 0, 1) := by decide +kernel
theorem dX11_act_1 : decode cX11_act 1 = .ok (.invokevirtual 175, 3) := by decide +kernel
theorem dX11_act_4 : decode cX11_act 4 = .ok (.iload_n 1, 1) := by decide +kernel
theorem dX11_act_5 : decode cX11_act 5 = .ok (.ifCond .lt 14, 3) := by decide +kernel
theorem dX11_act_8 : decode cX11_act 8 = .ok (.iload_n 1, 1) := by decide +kernel
theorem dX11_act_9 : decode cX11_act 9 = .ok (.aload_n 0, 1) := by decide +kernel
theorem dX11_act_10 : decode cX11_act 10 = .ok (.getfield 64, 3) := by decide +kernel
theorem dX11_act_13 : decode cX11_act 13 = .ok (.getfield 244, 3) := by decide +kernel
theorem dX11_act_16 : decode cX11_act 16 = .ok (.if_icmp .lt 6, 3) := by decide +kernel
theorem dX11_act_19 : decode cX11_act 19 = .ok (.bipush (-2), 2) := by decide +kernel
theorem dX11_act_21 : decode cX11_act 21 = .ok (.ireturn, 1) := by decide +kernel
theorem dX11_act_22 : decode cX11_act 22 = .ok (.iload_n 2, 1) := by decide +kernel
theorem dX11_act_23 : decode cX11_act 23 = .ok (.tableswitch 55 0 2 #[25, 35, 45], 25) := by decide +kernel
theorem dX11_act_48 : decode cX11_act 48 = .ok (.aload_n 0, 1) := by decide +kernel
theorem dX11_act_49 : decode cX11_act 49 = .ok (.getfield 64, 3) := by decide +kernel
theorem dX11_act_52 : decode cX11_act 52 = .ok (.getfield 247, 3) := by decide +kernel
theorem dX11_act_55 : decode cX11_act 55 = .ok (.iload_n 1, 1) := by decide +kernel
theorem dX11_act_56 : decode cX11_act 56 = .ok (.iaload, 1) := by decide +kernel
theorem dX11_act_57 : decode cX11_act 57 = .ok (.ireturn, 1) := by decide +kernel
theorem dX11_act_58 : decode cX11_act 58 = .ok (.aload_n 0, 1) := by decide +kernel
theorem dX11_act_59 : decode cX11_act 59 = .ok (.getfield 64, 3) := by decide +kernel
theorem dX11_act_62 : decode cX11_act 62 = .ok (.getfield 250, 3) := by decide +kernel
theorem dX11_act_65 : decode cX11_act 65 = .ok (.iload_n 1, 1) := by decide +kernel
theorem dX11_act_66 : decode cX11_act 66 = .ok (.iaload, 1) := by decide +kernel
theorem dX11_act_67 : decode cX11_act 67 = .ok (.ireturn, 1) := by decide +kernel
theorem dX11_act_68 : decode cX11_act 68 = .ok (.aload_n 0, 1) := by decide +kernel
theorem dX11_act_69 : decode cX11_act 69 = .ok (.getfield 64, 3) := by decide +kernel
theorem dX11_act_72 : decode cX11_act 72 = .ok (.getfield 253, 3) := by decide +kernel
theorem dX11_act_75 : decode cX11_act 75 = .ok (.iload_n 1, 1) := by decide +kernel
theorem dX11_act_76 : decode cX11_act 76 = .ok (.iaload, 1) := by decide +kernel
theorem dX11_act_77 : decode cX11_act 77 = .ok (.ireturn, 1) := by decide +kernel
theorem dX11_act_78 : decode cX11_act 78 = .ok (.bipush (-2), 2) := by decide +kernel
theorem dX11_act_80 : decode cX11_act 80 = .ok (.ireturn, 1) := by decide +kernel
abbrev k_X11_act (E : g_E) (l : Launch) (D : g_D) (v1 : Int) (v2 : Int) (K : Int → g_D → Prop) : Prop := g_Ki E l m_X11_act 6 [g_R 0, g_I v1, g_I v2] g_SH D K
abbrev n_X11_act (E : g_E) (l : Launch) (D : g_D) (pc : Nat) (L : List (Option g_V)) (K : Int → g_D → Prop) : Prop := g_N E l m_X11_act 6 pc L [] g_SH D (g_Ri g_SH K)
theorem s_X11_act {E : g_E} {l : Launch} {D : g_D} {K : Int → g_D → Prop} {v1 : Int} {v2 : Int}  (hF : g_okD D → g_r v1 → g_r v2 → k_X11_makePlan E l D (fun D1 => (v1 < 0 → K (-2) D1) ∧ (¬ v1 < 0 → (v1 < (D1 149 5) → (v2 = 0 → (0 ≤ v1 ∧ v1 < 40) ∧ (K (D1 150 v1.toNat) D1)) ∧ (v2 = 1 → (0 ≤ v1 ∧ v1 < 40) ∧ (K (D1 151 v1.toNat) D1)) ∧ (v2 = 2 → (0 ≤ v1 ∧ v1 < 40) ∧ (K (D1 152 v1.toNat) D1)) ∧ ((v2 < 0 ∨ 2 < v2) → K (-2) D1)) ∧ (¬ v1 < (D1 149 5) → K (-2) D1)))) : k_X11_act E l D v1 v2 K := by
  refine g_enter (by decide) (Nat.le_of_ble_eq_true rfl) ?_
  show g_N E l m_X11_act 6 0 [some (g_R 0), some (g_I v1), some (g_I v2)] [] g_SH D (g_Ri g_SH K)
  refine g_use (fun ok => ?_)
  have hF := hF ok.2.1 (ok.loc (i := 1) rfl) (ok.loc (i := 2) rfl)
  refine g_aload_n dX11_act_0 rfl ?_
  refine gw_cVv (b := 0) (As := []) (rest := []) dX11_act_1 mv_X11_175 sh_0 rfl (Nat.le_of_ble_eq_true rfl) (by decide) rfl hF ?_
  intro D1 hF
  refine g_iload_n dX11_act_4 rfl ?_
  refine g_iflt dX11_act_5 rfl (fun q => ?_) (fun q => ?_)
  · have hF := hF.1 q
    refine g_bipush dX11_act_19 ⟨by decide, by decide⟩ ?_
    exact gw_iret dX11_act_21 rfl hF
  · have hF := hF.2 q
    refine g_iload_n dX11_act_8 rfl ?_
    refine g_aload_n dX11_act_9 rfl ?_
    refine g_getR dX11_act_10 fd_X11_64 sh_0 rfl ?_
    refine g_getI dX11_act_13 fd_X11_244 sh_149 rfl ?_
    refine g_clt dX11_act_16 rfl (fun q => ?_) (fun q => ?_)
    · have hF := hF.1 q
      refine g_iload_n dX11_act_22 rfl ?_
      rcases Decidable.em (v2 = 0) with q23_0 | q23_0
      · have hF := hF.1 q23_0
        refine g_tsIn dX11_act_23 (by omega) (by omega) (by rw [q23_0] <;> rfl) rfl ?_
        refine g_aload_n dX11_act_48 rfl ?_
        refine g_getR dX11_act_49 fd_X11_64 sh_0 rfl ?_
        refine g_getR dX11_act_52 fd_X11_247 sh_149 rfl ?_
        refine g_iload_n dX11_act_55 rfl ?_
        obtain ⟨hc, hF⟩ := hF
        refine g_iald dX11_act_56 sh_150 hc.1 hc.2 ?_
        exact gw_iret dX11_act_57 rfl hF
      rcases Decidable.em (v2 = 1) with q23_1 | q23_1
      · have hF := hF.2.1 q23_1
        refine g_tsIn dX11_act_23 (by omega) (by omega) (by rw [q23_1] <;> rfl) rfl ?_
        refine g_aload_n dX11_act_58 rfl ?_
        refine g_getR dX11_act_59 fd_X11_64 sh_0 rfl ?_
        refine g_getR dX11_act_62 fd_X11_250 sh_149 rfl ?_
        refine g_iload_n dX11_act_65 rfl ?_
        obtain ⟨hc, hF⟩ := hF
        refine g_iald dX11_act_66 sh_151 hc.1 hc.2 ?_
        exact gw_iret dX11_act_67 rfl hF
      rcases Decidable.em (v2 = 2) with q23_2 | q23_2
      · have hF := hF.2.2.1 q23_2
        refine g_tsIn dX11_act_23 (by omega) (by omega) (by rw [q23_2] <;> rfl) rfl ?_
        refine g_aload_n dX11_act_68 rfl ?_
        refine g_getR dX11_act_69 fd_X11_64 sh_0 rfl ?_
        refine g_getR dX11_act_72 fd_X11_253 sh_149 rfl ?_
        refine g_iload_n dX11_act_75 rfl ?_
        obtain ⟨hc, hF⟩ := hF
        refine g_iald dX11_act_76 sh_152 hc.1 hc.2 ?_
        exact gw_iret dX11_act_77 rfl hF
      have q23 : v2 < 0 ∨ 2 < v2 := by omega
      have hF := hF.2.2.2 q23
      refine g_tsOut dX11_act_23 q23 rfl ?_
      refine g_bipush dX11_act_78 ⟨by decide, by decide⟩ ?_
      exact gw_iret dX11_act_80 rfl hF
    · have hF := hF.2 q
      refine g_bipush dX11_act_19 ⟨by decide, by decide⟩ ?_
      exact gw_iret dX11_act_21 rfl hF
theorem dX11_acts_0 : decode cX11_acts 0 = .ok (.aload_n 0, 1) := by decide +kernel
theorem dX11_acts_1 : decode cX11_acts 1 = .ok (.invokevirtual 175, 3) := by decide +kernel
theorem dX11_acts_4 : decode cX11_acts 4 = .ok (.aload_n 0, 1) := by decide +kernel
theorem dX11_acts_5 : decode cX11_acts 5 = .ok (.getfield 64, 3) := by decide +kernel
theorem dX11_acts_8 : decode cX11_acts 8 = .ok (.getfield 244, 3) := by decide +kernel
theorem dX11_acts_11 : decode cX11_acts 11 = .ok (.ireturn, 1) := by decide +kernel
abbrev k_X11_acts (E : g_E) (l : Launch) (D : g_D) (K : Int → g_D → Prop) : Prop := g_Ki E l m_X11_acts 6 [g_R 0] g_SH D K
abbrev n_X11_acts (E : g_E) (l : Launch) (D : g_D) (pc : Nat) (L : List (Option g_V)) (K : Int → g_D → Prop) : Prop := g_N E l m_X11_acts 6 pc L [] g_SH D (g_Ri g_SH K)
theorem s_X11_acts {E : g_E} {l : Launch} {D : g_D} {K : Int → g_D → Prop}   (hF : g_okD D → k_X11_makePlan E l D (fun D1 => K (D1 149 5) D1)) : k_X11_acts E l D K := by
  refine g_enter (by decide) (Nat.le_of_ble_eq_true rfl) ?_
  show g_N E l m_X11_acts 6 0 [some (g_R 0)] [] g_SH D (g_Ri g_SH K)
  refine g_use (fun ok => ?_)
  have hF := hF ok.2.1
  refine g_aload_n dX11_acts_0 rfl ?_
  refine gw_cVv (b := 0) (As := []) (rest := []) dX11_acts_1 mv_X11_175 sh_0 rfl (Nat.le_of_ble_eq_true rfl) (by decide) rfl hF ?_
  intro D1 hF
  refine g_aload_n dX11_acts_4 rfl ?_
  refine g_getR dX11_acts_5 fd_X11_64 sh_0 rfl ?_
  refine g_getI dX11_acts_8 fd_X11_244 sh_149 rfl ?_
  exact gw_iret dX11_acts_11 rfl hF
theorem dX11_ahead_0 : decode cX11_ahead 0 = .ok (.aload_n 0, 1) := by decide +kernel
theorem dX11_ahead_1 : decode cX11_ahead 1 = .ok (.invokevirtual 175, 3) := by decide +kernel
theorem dX11_ahead_4 : decode cX11_ahead 4 = .ok (.aload_n 0, 1) := by decide +kernel
theorem dX11_ahead_5 : decode cX11_ahead 5 = .ok (.getfield 57, 3) := by decide +kernel
theorem dX11_ahead_8 : decode cX11_ahead 8 = .ok (.iload_n 1, 1) := by decide +kernel
theorem dX11_ahead_9 : decode cX11_ahead 9 = .ok (.invokevirtual 179, 3) := by decide +kernel
theorem dX11_ahead_12 : decode cX11_ahead 12 = .ok (.ifCond .eq 19, 3) := by decide +kernel
theorem dX11_ahead_15 : decode cX11_ahead 15 = .ok (.aload_n 0, 1) := by decide +kernel
theorem dX11_ahead_16 : decode cX11_ahead 16 = .ok (.getfield 57, 3) := by decide +kernel
theorem dX11_ahead_19 : decode cX11_ahead 19 = .ok (.iload_n 2, 1) := by decide +kernel
theorem dX11_ahead_20 : decode cX11_ahead 20 = .ok (.invokevirtual 179, 3) := by decide +kernel
theorem dX11_ahead_23 : decode cX11_ahead 23 = .ok (.ifCond .eq 8, 3) := by decide +kernel
theorem dX11_ahead_26 : decode cX11_ahead 26 = .ok (.iload_n 1, 1) := by decide +kernel
theorem dX11_ahead_27 : decode cX11_ahead 27 = .ok (.iload_n 2, 1) := by decide +kernel
theorem dX11_ahead_28 : decode cX11_ahead 28 = .ok (.if_icmp .ne 6, 3) := by decide +kernel
theorem dX11_ahead_31 : decode cX11_ahead 31 = .ok (.bipush (-2), 2) := by decide +kernel
theorem dX11_ahead_33 : decode cX11_ahead 33 = .ok (.ireturn, 1) := by decide +kernel
theorem dX11_ahead_34 : decode cX11_ahead 34 = .ok (.aload_n 0, 1) := by decide +kernel
theorem dX11_ahead_35 : decode cX11_ahead 35 = .ok (.getfield 57, 3) := by decide +kernel
theorem dX11_ahead_38 : decode cX11_ahead 38 = .ok (.getfield 198, 3) := by decide +kernel
theorem dX11_ahead_41 : decode cX11_ahead 41 = .ok (.iload_n 1, 1) := by decide +kernel
theorem dX11_ahead_42 : decode cX11_ahead 42 = .ok (.iaload, 1) := by decide +kernel
theorem dX11_ahead_43 : decode cX11_ahead 43 = .ok (.iload_n 2, 1) := by decide +kernel
theorem dX11_ahead_44 : decode cX11_ahead 44 = .ok (.invokestatic 201, 3) := by decide +kernel
theorem dX11_ahead_47 : decode cX11_ahead 47 = .ok (.ifCond .eq 7, 3) := by decide +kernel
theorem dX11_ahead_50 : decode cX11_ahead 50 = .ok (.iconst 1, 1) := by decide +kernel
theorem dX11_ahead_51 : decode cX11_ahead 51 = .ok (.goto 4, 3) := by decide +kernel
theorem dX11_ahead_54 : decode cX11_ahead 54 = .ok (.iconst 0, 1) := by decide +kernel
theorem dX11_ahead_55 : decode cX11_ahead 55 = .ok (.ireturn, 1) := by decide +kernel
abbrev k_X11_ahead (E : g_E) (l : Launch) (D : g_D) (v1 : Int) (v2 : Int) (K : Int → g_D → Prop) : Prop := g_Ki E l m_X11_ahead 6 [g_R 0, g_I v1, g_I v2] g_SH D K
abbrev n_X11_ahead (E : g_E) (l : Launch) (D : g_D) (pc : Nat) (L : List (Option g_V)) (K : Int → g_D → Prop) : Prop := g_N E l m_X11_ahead 6 pc L [] g_SH D (g_Ri g_SH K)
theorem s_X11_ahead {E : g_E} {l : Launch} {D : g_D} {K : Int → g_D → Prop} {v1 : Int} {v2 : Int}  (hF : g_okD D → g_r v1 → g_r v2 → k_X11_makePlan E l D (fun D1 => k_X7_has E l D1 137 v1 (fun x2 D2 => g_r x2 → (x2 = 0 → K (-2) D2) ∧ (¬ x2 = 0 → k_X7_has E l D2 137 v2 (fun x3 D3 => g_r x3 → (x3 = 0 → K (-2) D3) ∧ (¬ x3 = 0 → (¬ v1 = v2 → (0 ≤ v1 ∧ v1 < 20) ∧ (k_X11_hasBit E l g_SH D3 (D3 142 v1.toNat) v2 (fun x4 D4 => g_r x4 → (x4 = 0 → K 0 D4) ∧ (¬ x4 = 0 → K 1 D4)))) ∧ (v1 = v2 → K (-2) D3))))))) : k_X11_ahead E l D v1 v2 K := by
  refine g_enter (by decide) (Nat.le_of_ble_eq_true rfl) ?_
  show g_N E l m_X11_ahead 6 0 [some (g_R 0), some (g_I v1), some (g_I v2)] [] g_SH D (g_Ri g_SH K)
  refine g_use (fun ok => ?_)
  have hF := hF ok.2.1 (ok.loc (i := 1) rfl) (ok.loc (i := 2) rfl)
  refine g_aload_n dX11_ahead_0 rfl ?_
  refine gw_cVv (b := 0) (As := []) (rest := []) dX11_ahead_1 mv_X11_175 sh_0 rfl (Nat.le_of_ble_eq_true rfl) (by decide) rfl hF ?_
  intro D1 hF
  refine g_aload_n dX11_ahead_4 rfl ?_
  refine g_getR dX11_ahead_5 fd_X11_57 sh_0 rfl ?_
  refine g_iload_n dX11_ahead_8 rfl ?_
  refine gw_cVi (b := 137) (As := [g_I v1]) (rest := []) dX11_ahead_9 mv_X11_179 sh_137 rfl (Nat.le_of_ble_eq_true rfl) (by decide) rfl hF ?_
  intro x2 D2 hx2 hF
  have hF := hF hx2
  refine g_ifeq dX11_ahead_12 rfl (fun q => ?_) (fun q => ?_)
  · have hF := hF.1 q
    refine g_bipush dX11_ahead_31 ⟨by decide, by decide⟩ ?_
    exact gw_iret dX11_ahead_33 rfl hF
  · have hF := hF.2 q
    refine g_aload_n dX11_ahead_15 rfl ?_
    refine g_getR dX11_ahead_16 fd_X11_57 sh_0 rfl ?_
    refine g_iload_n dX11_ahead_19 rfl ?_
    refine gw_cVi (b := 137) (As := [g_I v2]) (rest := []) dX11_ahead_20 mv_X11_179 sh_137 rfl (Nat.le_of_ble_eq_true rfl) (by decide) rfl hF ?_
    intro x3 D3 hx3 hF
    have hF := hF hx3
    refine g_ifeq dX11_ahead_23 rfl (fun q => ?_) (fun q => ?_)
    · have hF := hF.1 q
      refine g_bipush dX11_ahead_31 ⟨by decide, by decide⟩ ?_
      exact gw_iret dX11_ahead_33 rfl hF
    · have hF := hF.2 q
      refine g_iload_n dX11_ahead_26 rfl ?_
      refine g_iload_n dX11_ahead_27 rfl ?_
      refine g_cne dX11_ahead_28 rfl (fun q => ?_) (fun q => ?_)
      · have hF := hF.1 q
        refine g_aload_n dX11_ahead_34 rfl ?_
        refine g_getR dX11_ahead_35 fd_X11_57 sh_0 rfl ?_
        refine g_getR dX11_ahead_38 fd_X11_198 sh_137 rfl ?_
        refine g_iload_n dX11_ahead_41 rfl ?_
        obtain ⟨hc, hF⟩ := hF
        refine g_iald dX11_ahead_42 sh_142 hc.1 hc.2 ?_
        refine g_iload_n dX11_ahead_43 rfl ?_
        refine gw_cSi (As := [g_I (D3 142 v1.toNat), g_I v2]) (rest := []) dX11_ahead_44 ms_X11_201 rfl (Nat.le_of_ble_eq_true rfl) (by decide) rfl hF ?_
        intro x4 D4 hx4 hF
        have hF := hF hx4
        refine g_ifeq dX11_ahead_47 rfl (fun q => ?_) (fun q => ?_)
        · have hF := hF.1 q
          refine g_iconst dX11_ahead_54 ⟨by decide, by decide⟩ ?_
          exact gw_iret dX11_ahead_55 rfl hF
        · have hF := hF.2 q
          refine g_iconst dX11_ahead_50 ⟨by decide, by decide⟩ ?_
          refine g_goto dX11_ahead_51 rfl ?_
          exact gw_iret dX11_ahead_55 rfl hF
      · have hF := hF.2 q
        refine g_bipush dX11_ahead_31 ⟨by decide, by decide⟩ ?_
        exact gw_iret dX11_ahead_33 rfl hF
theorem dX11_bestRule_0 : decode cX11_bestRule 0 = .ok (.iconst 0, 1) := by decide +kernel
theorem dX11_bestRule_1 : decode cX11_bestRule 1 = .ok (.istore_n 1, 1) := by decide +kernel
theorem dX11_bestRule_2 : decode cX11_bestRule 2 = .ok (.iconst 0, 1) := by decide +kernel
theorem dX11_bestRule_3 : decode cX11_bestRule 3 = .ok (.istore_n 2, 1) := by decide +kernel
theorem dX11_bestRule_4 : decode cX11_bestRule 4 = .ok (.iconst 0, 1) := by decide +kernel
theorem dX11_bestRule_5 : decode cX11_bestRule 5 = .ok (.istore_n 3, 1) := by decide +kernel
theorem dX11_bestRule_6 : decode cX11_bestRule 6 = .ok (.iload_n 3, 1) := by decide +kernel
theorem dX11_bestRule_7 : decode cX11_bestRule 7 = .ok (.iconst 3, 1) := by decide +kernel
theorem dX11_bestRule_8 : decode cX11_bestRule 8 = .ok (.if_icmp .ge 55, 3) := by decide +kernel
theorem dX11_bestRule_11 : decode cX11_bestRule 11 = .ok (.aload_n 0, 1) := by decide +kernel
theorem dX11_bestRule_12 : decode cX11_bestRule 12 = .ok (.getfield 71, 3) := by decide +kernel
theorem dX11_bestRule_15 : decode cX11_bestRule 15 = .ok (.aload_n 0, 1) := by decide +kernel
theorem dX11_bestRule_16 : decode cX11_bestRule 16 = .ok (.getfield 57, 3) := by decide +kernel
theorem dX11_bestRule_19 : decode cX11_bestRule 19 = .ok (.iload_n 3, 1) := by decide +kernel
theorem dX11_bestRule_20 : decode cX11_bestRule 20 = .ok (.aload_n 0, 1) := by decide +kernel
theorem dX11_bestRule_21 : decode cX11_bestRule 21 = .ok (.getfield 12, 3) := by decide +kernel
theorem dX11_bestRule_24 : decode cX11_bestRule 24 = .ok (.getfield 142, 3) := by decide +kernel
theorem dX11_bestRule_27 : decode cX11_bestRule 27 = .ok (.iconst 3, 1) := by decide +kernel
theorem dX11_bestRule_28 : decode cX11_bestRule 28 = .ok (.iaload, 1) := by decide +kernel
theorem dX11_bestRule_29 : decode cX11_bestRule 29 = .ok (.invokevirtual 276, 3) := by decide +kernel
theorem dX11_bestRule_32 : decode cX11_bestRule 32 = .ok (.iload_n 3, 1) := by decide +kernel
theorem dX11_bestRule_33 : decode cX11_bestRule 33 = .ok (.ifCond .eq 14, 3) := by decide +kernel
theorem dX11_bestRule_36 : decode cX11_bestRule 36 = .ok (.aload_n 0, 1) := by decide +kernel
theorem dX11_bestRule_37 : decode cX11_bestRule 37 = .ok (.getfield 71, 3) := by decide +kernel
theorem dX11_bestRule_40 : decode cX11_bestRule 40 = .ok (.getfield 270, 3) := by decide +kernel
theorem dX11_bestRule_43 : decode cX11_bestRule 43 = .ok (.iload_n 2, 1) := by decide +kernel
theorem dX11_bestRule_44 : decode cX11_bestRule 44 = .ok (.if_icmp .ge 13, 3) := by decide +kernel
theorem dX11_bestRule_47 : decode cX11_bestRule 47 = .ok (.iload_n 3, 1) := by decide +kernel
theorem dX11_bestRule_48 : decode cX11_bestRule 48 = .ok (.istore_n 1, 1) := by decide +kernel
theorem dX11_bestRule_49 : decode cX11_bestRule 49 = .ok (.aload_n 0, 1) := by decide +kernel
theorem dX11_bestRule_50 : decode cX11_bestRule 50 = .ok (.getfield 71, 3) := by decide +kernel
theorem dX11_bestRule_53 : decode cX11_bestRule 53 = .ok (.getfield 270, 3) := by decide +kernel
theorem dX11_bestRule_56 : decode cX11_bestRule 56 = .ok (.istore_n 2, 1) := by decide +kernel
theorem dX11_bestRule_57 : decode cX11_bestRule 57 = .ok (.iinc 3 1, 3) := by decide +kernel
theorem dX11_bestRule_60 : decode cX11_bestRule 60 = .ok (.goto (-54), 3) := by decide +kernel
theorem dX11_bestRule_63 : decode cX11_bestRule 63 = .ok (.iload_n 1, 1) := by decide +kernel
theorem dX11_bestRule_64 : decode cX11_bestRule 64 = .ok (.ireturn, 1) := by decide +kernel
abbrev k_X11_bestRule (E : g_E) (l : Launch) (D : g_D) (K : Int → g_D → Prop) : Prop := g_Ki E l m_X11_bestRule 5 [g_R 0] g_SH D K
abbrev n_X11_bestRule (E : g_E) (l : Launch) (D : g_D) (pc : Nat) (L : List (Option g_V)) (K : Int → g_D → Prop) : Prop := g_N E l m_X11_bestRule 5 pc L [] g_SH D (g_Ri g_SH K)
theorem s_X11_bestRule {E : g_E} {l : Launch} {D : g_D} {K : Int → g_D → Prop}   (hF : g_okD D → n_X11_bestRule E l D 6 [some (g_R 0), some (g_I 0), some (g_I 0), some (g_I 0)] K) : k_X11_bestRule E l D K := by
  refine g_enter (by decide) (Nat.le_of_ble_eq_true rfl) ?_
  show g_N E l m_X11_bestRule 5 0 [some (g_R 0), none, none, none] [] g_SH D (g_Ri g_SH K)
  refine g_use (fun ok => ?_)
  have hF := hF ok.2.1
  refine g_iconst dX11_bestRule_0 ⟨by decide, by decide⟩ ?_
  refine gw_istore_n (L' := [some (g_R 0), some (g_I 0), none, none]) dX11_bestRule_1 (by decide) rfl ?_
  refine g_iconst dX11_bestRule_2 ⟨by decide, by decide⟩ ?_
  refine gw_istore_n (L' := [some (g_R 0), some (g_I 0), some (g_I 0), none]) dX11_bestRule_3 (by decide) rfl ?_
  refine g_iconst dX11_bestRule_4 ⟨by decide, by decide⟩ ?_
  refine gw_istore_n (L' := [some (g_R 0), some (g_I 0), some (g_I 0), some (g_I 0)]) dX11_bestRule_5 (by decide) rfl ?_
  exact hF
theorem s_X11_bestRule_6 {E : g_E} {l : Launch} {D : g_D} {K : Int → g_D → Prop} {v1 : Int} {v2 : Int} {v3 : Int}  (hF : g_okD D → g_r v1 → g_r v2 → g_r v3 → (3 ≤ v3 → K v1 D) ∧ (¬ 3 ≤ v3 → k_X4_build E l D 168 137 v3 (D 6 3) (fun D1 => (v3 = 0 → (g_r (v3 + 1)) ∧ (n_X11_bestRule E l D1 6 [some (g_R 0), some (g_I v3), some (g_I (D1 168 6)), some (g_I (v3 + 1))] K)) ∧ (¬ v3 = 0 → (v2 ≤ (D1 168 6) → (g_r (v3 + 1)) ∧ (n_X11_bestRule E l D1 6 [some (g_R 0), some (g_I v1), some (g_I v2), some (g_I (v3 + 1))] K)) ∧ (¬ v2 ≤ (D1 168 6) → (g_r (v3 + 1)) ∧ (n_X11_bestRule E l D1 6 [some (g_R 0), some (g_I v3), some (g_I (D1 168 6)), some (g_I (v3 + 1))] K)))))) : n_X11_bestRule E l D 6 [some (g_R 0), some (g_I v1), some (g_I v2), some (g_I v3)] K := by
  refine g_use (fun ok => ?_)
  have hF := hF ok.2.1 (ok.loc (i := 1) rfl) (ok.loc (i := 2) rfl) (ok.loc (i := 3) rfl)
  refine g_iload_n dX11_bestRule_6 rfl ?_
  refine g_iconst dX11_bestRule_7 ⟨by decide, by decide⟩ ?_
  refine g_cge dX11_bestRule_8 rfl (fun q => ?_) (fun q => ?_)
  · have hF := hF.1 q
    refine g_iload_n dX11_bestRule_63 rfl ?_
    exact gw_iret dX11_bestRule_64 rfl hF
  · have hF := hF.2 q
    refine g_aload_n dX11_bestRule_11 rfl ?_
    refine g_getR dX11_bestRule_12 fd_X11_71 sh_0 rfl ?_
    refine g_aload_n dX11_bestRule_15 rfl ?_
    refine g_getR dX11_bestRule_16 fd_X11_57 sh_0 rfl ?_
    refine g_iload_n dX11_bestRule_19 rfl ?_
    refine g_aload_n dX11_bestRule_20 rfl ?_
    refine g_getR dX11_bestRule_21 fd_X11_12 sh_0 rfl ?_
    refine g_getR dX11_bestRule_24 fd_X11_142 sh_1 rfl ?_
    refine g_iconst dX11_bestRule_27 ⟨by decide, by decide⟩ ?_
    refine g_iald dX11_bestRule_28 sh_6 (by decide) (by decide) ?_
    refine gw_cVv (b := 168) (As := [g_R 137, g_I v3, g_I (D 6 3)]) (rest := []) dX11_bestRule_29 mv_X11_276 sh_168 rfl (Nat.le_of_ble_eq_true rfl) (by decide) rfl hF ?_
    intro D1 hF
    refine g_iload_n dX11_bestRule_32 rfl ?_
    refine g_ifeq dX11_bestRule_33 rfl (fun q => ?_) (fun q => ?_)
    · have hF := hF.1 q
      refine g_iload_n dX11_bestRule_47 rfl ?_
      refine gw_istore_n (L' := [some (g_R 0), some (g_I v3), some (g_I v2), some (g_I v3)]) dX11_bestRule_48 (by decide) rfl ?_
      refine g_aload_n dX11_bestRule_49 rfl ?_
      refine g_getR dX11_bestRule_50 fd_X11_71 sh_0 rfl ?_
      refine g_getI dX11_bestRule_53 fd_X11_270 sh_168 rfl ?_
      refine gw_istore_n (L' := [some (g_R 0), some (g_I v3), some (g_I (D1 168 6)), some (g_I v3)]) dX11_bestRule_56 (by decide) rfl ?_
      obtain ⟨hc, hF⟩ := hF
      refine gw_iinc (L' := [some (g_R 0), some (g_I v3), some (g_I (D1 168 6)), some (g_I (v3 + 1))]) dX11_bestRule_57 rfl hc (by decide) rfl ?_
      refine g_goto dX11_bestRule_60 rfl ?_
      exact hF
    · have hF := hF.2 q
      refine g_aload_n dX11_bestRule_36 rfl ?_
      refine g_getR dX11_bestRule_37 fd_X11_71 sh_0 rfl ?_
      refine g_getI dX11_bestRule_40 fd_X11_270 sh_168 rfl ?_
      refine g_iload_n dX11_bestRule_43 rfl ?_
      refine g_cge dX11_bestRule_44 rfl (fun q => ?_) (fun q => ?_)
      · have hF := hF.1 q
        obtain ⟨hc, hF⟩ := hF
        refine gw_iinc (L' := [some (g_R 0), some (g_I v1), some (g_I v2), some (g_I (v3 + 1))]) dX11_bestRule_57 rfl hc (by decide) rfl ?_
        refine g_goto dX11_bestRule_60 rfl ?_
        exact hF
      · have hF := hF.2 q
        refine g_iload_n dX11_bestRule_47 rfl ?_
        refine gw_istore_n (L' := [some (g_R 0), some (g_I v3), some (g_I v2), some (g_I v3)]) dX11_bestRule_48 (by decide) rfl ?_
        refine g_aload_n dX11_bestRule_49 rfl ?_
        refine g_getR dX11_bestRule_50 fd_X11_71 sh_0 rfl ?_
        refine g_getI dX11_bestRule_53 fd_X11_270 sh_168 rfl ?_
        refine gw_istore_n (L' := [some (g_R 0), some (g_I v3), some (g_I (D1 168 6)), some (g_I v3)]) dX11_bestRule_56 (by decide) rfl ?_
        obtain ⟨hc, hF⟩ := hF
        refine gw_iinc (L' := [some (g_R 0), some (g_I v3), some (g_I (D1 168 6)), some (g_I (v3 + 1))]) dX11_bestRule_57 rfl hc (by decide) rfl ?_
        refine g_goto dX11_bestRule_60 rfl ?_
        exact hF
theorem dX11_bestChoice_0 : decode cX11_bestChoice 0 = .ok (.iconst 0, 1) := by decide +kernel
theorem dX11_bestChoice_1 : decode cX11_bestChoice 1 = .ok (.istore_n 1, 1) := by decide +kernel
theorem dX11_bestChoice_2 : decode cX11_bestChoice 2 = .ok (.iconst 0, 1) := by decide +kernel
theorem dX11_bestChoice_3 : decode cX11_bestChoice 3 = .ok (.istore_n 2, 1) := by decide +kernel
theorem dX11_bestChoice_4 : decode cX11_bestChoice 4 = .ok (.iconst 0, 1) := by decide +kernel
theorem dX11_bestChoice_5 : decode cX11_bestChoice 5 = .ok (.istore_n 3, 1) := by decide +kernel
theorem dX11_bestChoice_6 : decode cX11_bestChoice 6 = .ok (.iload_n 3, 1) := by decide +kernel
theorem dX11_bestChoice_7 : decode cX11_bestChoice 7 = .ok (.iconst 3, 1) := by decide +kernel
theorem dX11_bestChoice_8 : decode cX11_bestChoice 8 = .ok (.if_icmp .ge 94, 3) := by decide +kernel
theorem dX11_bestChoice_11 : decode cX11_bestChoice 11 = .ok (.aload_n 0, 1) := by decide +kernel
theorem dX11_bestChoice_12 : decode cX11_bestChoice 12 = .ok (.getfield 68, 3) := by decide +kernel
theorem dX11_bestChoice_15 : decode cX11_bestChoice 15 = .ok (.aload_n 0, 1) := by decide +kernel
theorem dX11_bestChoice_16 : decode cX11_bestChoice 16 = .ok (.getfield 12, 3) := by decide +kernel
theorem dX11_bestChoice_19 : decode cX11_bestChoice 19 = .ok (.getfield 105, 3) := by decide +kernel
theorem dX11_bestChoice_22 : decode cX11_bestChoice 22 = .ok (.aload_n 0, 1) := by decide +kernel
theorem dX11_bestChoice_23 : decode cX11_bestChoice 23 = .ok (.getfield 12, 3) := by decide +kernel
theorem dX11_bestChoice_26 : decode cX11_bestChoice 26 = .ok (.getfield 112, 3) := by decide +kernel
theorem dX11_bestChoice_29 : decode cX11_bestChoice 29 = .ok (.aload_n 0, 1) := by decide +kernel
theorem dX11_bestChoice_30 : decode cX11_bestChoice 30 = .ok (.getfield 12, 3) := by decide +kernel
theorem dX11_bestChoice_33 : decode cX11_bestChoice 33 = .ok (.getfield 142, 3) := by decide +kernel
theorem dX11_bestChoice_36 : decode cX11_bestChoice 36 = .ok (.iconst 0, 1) := by decide +kernel
theorem dX11_bestChoice_37 : decode cX11_bestChoice 37 = .ok (.iaload, 1) := by decide +kernel
theorem dX11_bestChoice_38 : decode cX11_bestChoice 38 = .ok (.iload_n 3, 1) := by decide +kernel
theorem dX11_bestChoice_39 : decode cX11_bestChoice 39 = .ok (.invokevirtual 280, 3) := by decide +kernel
theorem dX11_bestChoice_42 : decode cX11_bestChoice 42 = .ok (.aload_n 0, 1) := by decide +kernel
theorem dX11_bestChoice_43 : decode cX11_bestChoice 43 = .ok (.getfield 71, 3) := by decide +kernel
theorem dX11_bestChoice_46 : decode cX11_bestChoice 46 = .ok (.aload_n 0, 1) := by decide +kernel
theorem dX11_bestChoice_47 : decode cX11_bestChoice 47 = .ok (.getfield 68, 3) := by decide +kernel
theorem dX11_bestChoice_50 : decode cX11_bestChoice 50 = .ok (.aload_n 0, 1) := by decide +kernel
theorem dX11_bestChoice_51 : decode cX11_bestChoice 51 = .ok (.getfield 12, 3) := by decide +kernel
theorem dX11_bestChoice_54 : decode cX11_bestChoice 54 = .ok (.getfield 142, 3) := by decide +kernel
theorem dX11_bestChoice_57 : decode cX11_bestChoice 57 = .ok (.iconst 2, 1) := by decide +kernel
theorem dX11_bestChoice_58 : decode cX11_bestChoice 58 = .ok (.iaload, 1) := by decide +kernel
theorem dX11_bestChoice_59 : decode cX11_bestChoice 59 = .ok (.aload_n 0, 1) := by decide +kernel
theorem dX11_bestChoice_60 : decode cX11_bestChoice 60 = .ok (.getfield 12, 3) := by decide +kernel
theorem dX11_bestChoice_63 : decode cX11_bestChoice 63 = .ok (.getfield 142, 3) := by decide +kernel
theorem dX11_bestChoice_66 : decode cX11_bestChoice 66 = .ok (.iconst 3, 1) := by decide +kernel
theorem dX11_bestChoice_67 : decode cX11_bestChoice 67 = .ok (.iaload, 1) := by decide +kernel
theorem dX11_bestChoice_68 : decode cX11_bestChoice 68 = .ok (.invokevirtual 276, 3) := by decide +kernel
theorem dX11_bestChoice_71 : decode cX11_bestChoice 71 = .ok (.iload_n 3, 1) := by decide +kernel
theorem dX11_bestChoice_72 : decode cX11_bestChoice 72 = .ok (.ifCond .eq 14, 3) := by decide +kernel
theorem dX11_bestChoice_75 : decode cX11_bestChoice 75 = .ok (.aload_n 0, 1) := by decide +kernel
theorem dX11_bestChoice_76 : decode cX11_bestChoice 76 = .ok (.getfield 71, 3) := by decide +kernel
theorem dX11_bestChoice_79 : decode cX11_bestChoice 79 = .ok (.getfield 270, 3) := by decide +kernel
theorem dX11_bestChoice_82 : decode cX11_bestChoice 82 = .ok (.iload_n 2, 1) := by decide +kernel
theorem dX11_bestChoice_83 : decode cX11_bestChoice 83 = .ok (.if_icmp .ge 13, 3) := by decide +kernel
theorem dX11_bestChoice_86 : decode cX11_bestChoice 86 = .ok (.iload_n 3, 1) := by decide +kernel
theorem dX11_bestChoice_87 : decode cX11_bestChoice 87 = .ok (.istore_n 1, 1) := by decide +kernel
theorem dX11_bestChoice_88 : decode cX11_bestChoice 88 = .ok (.aload_n 0, 1) := by decide +kernel
theorem dX11_bestChoice_89 : decode cX11_bestChoice 89 = .ok (.getfield 71, 3) := by decide +kernel
theorem dX11_bestChoice_92 : decode cX11_bestChoice 92 = .ok (.getfield 270, 3) := by decide +kernel
theorem dX11_bestChoice_95 : decode cX11_bestChoice 95 = .ok (.istore_n 2, 1) := by decide +kernel
theorem dX11_bestChoice_96 : decode cX11_bestChoice 96 = .ok (.iinc 3 1, 3) := by decide +kernel
theorem dX11_bestChoice_99 : decode cX11_bestChoice 99 = .ok (.goto (-93), 3) := by decide +kernel
theorem dX11_bestChoice_102 : decode cX11_bestChoice 102 = .ok (.iload_n 1, 1) := by decide +kernel
theorem dX11_bestChoice_103 : decode cX11_bestChoice 103 = .ok (.ireturn, 1) := by decide +kernel
abbrev k_X11_bestChoice (E : g_E) (l : Launch) (D : g_D) (K : Int → g_D → Prop) : Prop := g_Ki E l m_X11_bestChoice 5 [g_R 0] g_SH D K
abbrev n_X11_bestChoice (E : g_E) (l : Launch) (D : g_D) (pc : Nat) (L : List (Option g_V)) (K : Int → g_D → Prop) : Prop := g_N E l m_X11_bestChoice 5 pc L [] g_SH D (g_Ri g_SH K)
theorem s_X11_bestChoice {E : g_E} {l : Launch} {D : g_D} {K : Int → g_D → Prop}   (hF : g_okD D → n_X11_bestChoice E l D 6 [some (g_R 0), some (g_I 0), some (g_I 0), some (g_I 0)] K) : k_X11_bestChoice E l D K := by
  refine g_enter (by decide) (Nat.le_of_ble_eq_true rfl) ?_
  show g_N E l m_X11_bestChoice 5 0 [some (g_R 0), none, none, none] [] g_SH D (g_Ri g_SH K)
  refine g_use (fun ok => ?_)
  have hF := hF ok.2.1
  refine g_iconst dX11_bestChoice_0 ⟨by decide, by decide⟩ ?_
  refine gw_istore_n (L' := [some (g_R 0), some (g_I 0), none, none]) dX11_bestChoice_1 (by decide) rfl ?_
  refine g_iconst dX11_bestChoice_2 ⟨by decide, by decide⟩ ?_
  refine gw_istore_n (L' := [some (g_R 0), some (g_I 0), some (g_I 0), none]) dX11_bestChoice_3 (by decide) rfl ?_
  refine g_iconst dX11_bestChoice_4 ⟨by decide, by decide⟩ ?_
  refine gw_istore_n (L' := [some (g_R 0), some (g_I 0), some (g_I 0), some (g_I 0)]) dX11_bestChoice_5 (by decide) rfl ?_
  exact hF
theorem s_X11_bestChoice_6 {E : g_E} {l : Launch} {D : g_D} {K : Int → g_D → Prop} {v1 : Int} {v2 : Int} {v3 : Int}  (hF : g_okD D → g_r v1 → g_r v2 → g_r v3 → (3 ≤ v3 → K v1 D) ∧ (¬ 3 ≤ v3 → k_X7_build E l D 156 2 4 (D 6 0) v3 (fun D1 => k_X4_build E l D1 168 156 (D1 6 2) (D1 6 3) (fun D2 => (v3 = 0 → (g_r (v3 + 1)) ∧ (n_X11_bestChoice E l D2 6 [some (g_R 0), some (g_I v3), some (g_I (D2 168 6)), some (g_I (v3 + 1))] K)) ∧ (¬ v3 = 0 → (v2 ≤ (D2 168 6) → (g_r (v3 + 1)) ∧ (n_X11_bestChoice E l D2 6 [some (g_R 0), some (g_I v1), some (g_I v2), some (g_I (v3 + 1))] K)) ∧ (¬ v2 ≤ (D2 168 6) → (g_r (v3 + 1)) ∧ (n_X11_bestChoice E l D2 6 [some (g_R 0), some (g_I v3), some (g_I (D2 168 6)), some (g_I (v3 + 1))] K))))))) : n_X11_bestChoice E l D 6 [some (g_R 0), some (g_I v1), some (g_I v2), some (g_I v3)] K := by
  refine g_use (fun ok => ?_)
  have hF := hF ok.2.1 (ok.loc (i := 1) rfl) (ok.loc (i := 2) rfl) (ok.loc (i := 3) rfl)
  refine g_iload_n dX11_bestChoice_6 rfl ?_
  refine g_iconst dX11_bestChoice_7 ⟨by decide, by decide⟩ ?_
  refine g_cge dX11_bestChoice_8 rfl (fun q => ?_) (fun q => ?_)
  · have hF := hF.1 q
    refine g_iload_n dX11_bestChoice_102 rfl ?_
    exact gw_iret dX11_bestChoice_103 rfl hF
  · have hF := hF.2 q
    refine g_aload_n dX11_bestChoice_11 rfl ?_
    refine g_getR dX11_bestChoice_12 fd_X11_68 sh_0 rfl ?_
    refine g_aload_n dX11_bestChoice_15 rfl ?_
    refine g_getR dX11_bestChoice_16 fd_X11_12 sh_0 rfl ?_
    refine g_getR dX11_bestChoice_19 fd_X11_105 sh_1 rfl ?_
    refine g_aload_n dX11_bestChoice_22 rfl ?_
    refine g_getR dX11_bestChoice_23 fd_X11_12 sh_0 rfl ?_
    refine g_getR dX11_bestChoice_26 fd_X11_112 sh_1 rfl ?_
    refine g_aload_n dX11_bestChoice_29 rfl ?_
    refine g_getR dX11_bestChoice_30 fd_X11_12 sh_0 rfl ?_
    refine g_getR dX11_bestChoice_33 fd_X11_142 sh_1 rfl ?_
    refine g_iconst dX11_bestChoice_36 ⟨by decide, by decide⟩ ?_
    refine g_iald dX11_bestChoice_37 sh_6 (by decide) (by decide) ?_
    refine g_iload_n dX11_bestChoice_38 rfl ?_
    refine gw_cVv (b := 156) (As := [g_R 2, g_R 4, g_I (D 6 0), g_I v3]) (rest := []) dX11_bestChoice_39 mv_X11_280 sh_156 rfl (Nat.le_of_ble_eq_true rfl) (by decide) rfl hF ?_
    intro D1 hF
    refine g_aload_n dX11_bestChoice_42 rfl ?_
    refine g_getR dX11_bestChoice_43 fd_X11_71 sh_0 rfl ?_
    refine g_aload_n dX11_bestChoice_46 rfl ?_
    refine g_getR dX11_bestChoice_47 fd_X11_68 sh_0 rfl ?_
    refine g_aload_n dX11_bestChoice_50 rfl ?_
    refine g_getR dX11_bestChoice_51 fd_X11_12 sh_0 rfl ?_
    refine g_getR dX11_bestChoice_54 fd_X11_142 sh_1 rfl ?_
    refine g_iconst dX11_bestChoice_57 ⟨by decide, by decide⟩ ?_
    refine g_iald dX11_bestChoice_58 sh_6 (by decide) (by decide) ?_
    refine g_aload_n dX11_bestChoice_59 rfl ?_
    refine g_getR dX11_bestChoice_60 fd_X11_12 sh_0 rfl ?_
    refine g_getR dX11_bestChoice_63 fd_X11_142 sh_1 rfl ?_
    refine g_iconst dX11_bestChoice_66 ⟨by decide, by decide⟩ ?_
    refine g_iald dX11_bestChoice_67 sh_6 (by decide) (by decide) ?_
    refine gw_cVv (b := 168) (As := [g_R 156, g_I (D1 6 2), g_I (D1 6 3)]) (rest := []) dX11_bestChoice_68 mv_X11_276 sh_168 rfl (Nat.le_of_ble_eq_true rfl) (by decide) rfl hF ?_
    intro D2 hF
    refine g_iload_n dX11_bestChoice_71 rfl ?_
    refine g_ifeq dX11_bestChoice_72 rfl (fun q => ?_) (fun q => ?_)
    · have hF := hF.1 q
      refine g_iload_n dX11_bestChoice_86 rfl ?_
      refine gw_istore_n (L' := [some (g_R 0), some (g_I v3), some (g_I v2), some (g_I v3)]) dX11_bestChoice_87 (by decide) rfl ?_
      refine g_aload_n dX11_bestChoice_88 rfl ?_
      refine g_getR dX11_bestChoice_89 fd_X11_71 sh_0 rfl ?_
      refine g_getI dX11_bestChoice_92 fd_X11_270 sh_168 rfl ?_
      refine gw_istore_n (L' := [some (g_R 0), some (g_I v3), some (g_I (D2 168 6)), some (g_I v3)]) dX11_bestChoice_95 (by decide) rfl ?_
      obtain ⟨hc, hF⟩ := hF
      refine gw_iinc (L' := [some (g_R 0), some (g_I v3), some (g_I (D2 168 6)), some (g_I (v3 + 1))]) dX11_bestChoice_96 rfl hc (by decide) rfl ?_
      refine g_goto dX11_bestChoice_99 rfl ?_
      exact hF
    · have hF := hF.2 q
      refine g_aload_n dX11_bestChoice_75 rfl ?_
      refine g_getR dX11_bestChoice_76 fd_X11_71 sh_0 rfl ?_
      refine g_getI dX11_bestChoice_79 fd_X11_270 sh_168 rfl ?_
      refine g_iload_n dX11_bestChoice_82 rfl ?_
      refine g_cge dX11_bestChoice_83 rfl (fun q => ?_) (fun q => ?_)
      · have hF := hF.1 q
        obtain ⟨hc, hF⟩ := hF
        refine gw_iinc (L' := [some (g_R 0), some (g_I v1), some (g_I v2), some (g_I (v3 + 1))]) dX11_bestChoice_96 rfl hc (by decide) rfl ?_
        refine g_goto dX11_bestChoice_99 rfl ?_
        exact hF
      · have hF := hF.2 q
        refine g_iload_n dX11_bestChoice_86 rfl ?_
        refine gw_istore_n (L' := [some (g_R 0), some (g_I v3), some (g_I v2), some (g_I v3)]) dX11_bestChoice_87 (by decide) rfl ?_
        refine g_aload_n dX11_bestChoice_88 rfl ?_
        refine g_getR dX11_bestChoice_89 fd_X11_71 sh_0 rfl ?_
        refine g_getI dX11_bestChoice_92 fd_X11_270 sh_168 rfl ?_
        refine gw_istore_n (L' := [some (g_R 0), some (g_I v3), some (g_I (D2 168 6)), some (g_I v3)]) dX11_bestChoice_95 (by decide) rfl ?_
        obtain ⟨hc, hF⟩ := hF
        refine gw_iinc (L' := [some (g_R 0), some (g_I v3), some (g_I (D2 168 6)), some (g_I (v3 + 1))]) dX11_bestChoice_96 rfl hc (by decide) rfl ?_
        refine g_goto dX11_bestChoice_99 rfl ?_
        exact hF
theorem dX11_best_0 : decode cX11_best 0 = .ok (.iload_n 1, 1) := by decide +kernel
theorem dX11_best_1 : decode cX11_best 1 = .ok (.ifCond .lt 8, 3) := by decide +kernel
theorem dX11_best_4 : decode cX11_best 4 = .ok (.iload_n 1, 1) := by decide +kernel
theorem dX11_best_5 : decode cX11_best 5 = .ok (.iconst 1, 1) := by decide +kernel
theorem dX11_best_6 : decode cX11_best 6 = .ok (.if_icmp .le 6, 3) := by decide +kernel
theorem dX11_best_9 : decode cX11_best 9 = .ok (.bipush (-2), 2) := by decide +kernel
theorem dX11_best_11 : decode cX11_best 11 = .ok (.ireturn, 1) := by decide +kernel
theorem dX11_best_12 : decode cX11_best 12 = .ok (.aload_n 0, 1) := by decide +kernel
theorem dX11_best_13 : decode cX11_best 13 = .ok (.invokevirtual 175, 3) := by decide +kernel
theorem dX11_best_16 : decode cX11_best 16 = .ok (.iload_n 1, 1) := by decide +kernel
theorem dX11_best_17 : decode cX11_best 17 = .ok (.ifCond .ne 10, 3) := by decide +kernel
theorem dX11_best_20 : decode cX11_best 20 = .ok (.aload_n 0, 1) := by decide +kernel
theorem dX11_best_21 : decode cX11_best 21 = .ok (.invokevirtual 282, 3) := by decide +kernel
theorem dX11_best_24 : decode cX11_best 24 = .ok (.goto 7, 3) := by decide +kernel
theorem dX11_best_27 : decode cX11_best 27 = .ok (.aload_n 0, 1) := by decide +kernel
theorem dX11_best_28 : decode cX11_best 28 = .ok (.invokevirtual 285, 3) := by decide +kernel
theorem dX11_best_31 : decode cX11_best 31 = .ok (.ireturn, 1) := by decide +kernel
abbrev k_X11_best (E : g_E) (l : Launch) (D : g_D) (v1 : Int) (K : Int → g_D → Prop) : Prop := g_Ki E l m_X11_best 6 [g_R 0, g_I v1] g_SH D K
abbrev n_X11_best (E : g_E) (l : Launch) (D : g_D) (pc : Nat) (L : List (Option g_V)) (K : Int → g_D → Prop) : Prop := g_N E l m_X11_best 6 pc L [] g_SH D (g_Ri g_SH K)
theorem s_X11_best {E : g_E} {l : Launch} {D : g_D} {K : Int → g_D → Prop} {v1 : Int}  (hF : g_okD D → g_r v1 → (v1 < 0 → K (-2) D) ∧ (¬ v1 < 0 → (v1 ≤ 1 → k_X11_makePlan E l D (fun D1 => (¬ v1 = 0 → k_X11_bestChoice E l D1 (fun x2 D2 => g_r x2 → K x2 D2)) ∧ (v1 = 0 → k_X11_bestRule E l D1 (fun x3 D3 => g_r x3 → K x3 D3)))) ∧ (¬ v1 ≤ 1 → K (-2) D))) : k_X11_best E l D v1 K := by
  refine g_enter (by decide) (Nat.le_of_ble_eq_true rfl) ?_
  show g_N E l m_X11_best 6 0 [some (g_R 0), some (g_I v1)] [] g_SH D (g_Ri g_SH K)
  refine g_use (fun ok => ?_)
  have hF := hF ok.2.1 (ok.loc (i := 1) rfl)
  refine g_iload_n dX11_best_0 rfl ?_
  refine g_iflt dX11_best_1 rfl (fun q => ?_) (fun q => ?_)
  · have hF := hF.1 q
    refine g_bipush dX11_best_9 ⟨by decide, by decide⟩ ?_
    exact gw_iret dX11_best_11 rfl hF
  · have hF := hF.2 q
    refine g_iload_n dX11_best_4 rfl ?_
    refine g_iconst dX11_best_5 ⟨by decide, by decide⟩ ?_
    refine g_cle dX11_best_6 rfl (fun q => ?_) (fun q => ?_)
    · have hF := hF.1 q
      refine g_aload_n dX11_best_12 rfl ?_
      refine gw_cVv (b := 0) (As := []) (rest := []) dX11_best_13 mv_X11_175 sh_0 rfl (Nat.le_of_ble_eq_true rfl) (by decide) rfl hF ?_
      intro D1 hF
      refine g_iload_n dX11_best_16 rfl ?_
      refine g_ifne dX11_best_17 rfl (fun q => ?_) (fun q => ?_)
      · have hF := hF.1 q
        refine g_aload_n dX11_best_27 rfl ?_
        refine gw_cVi (b := 0) (As := []) (rest := []) dX11_best_28 mv_X11_285 sh_0 rfl (Nat.le_of_ble_eq_true rfl) (by decide) rfl hF ?_
        intro x2 D2 hx2 hF
        have hF := hF hx2
        exact gw_iret dX11_best_31 rfl hF
      · have hF := hF.2 q
        refine g_aload_n dX11_best_20 rfl ?_
        refine gw_cVi (b := 0) (As := []) (rest := []) dX11_best_21 mv_X11_282 sh_0 rfl (Nat.le_of_ble_eq_true rfl) (by decide) rfl hF ?_
        intro x3 D3 hx3 hF
        have hF := hF hx3
        refine g_goto dX11_best_24 rfl ?_
        exact gw_iret dX11_best_31 rfl hF
    · have hF := hF.2 q
      refine g_bipush dX11_best_9 ⟨by decide, by decide⟩ ?_
      exact gw_iret dX11_best_11 rfl hF
theorem dX11_makeCourse_0 : decode cX11_makeCourse 0 = .ok (.aload_n 0, 1) := by decide +kernel
theorem dX11_makeCourse_1 : decode cX11_makeCourse 1 = .ok (.getfield 95, 3) := by decide +kernel
theorem dX11_makeCourse_4 : decode cX11_makeCourse 4 = .ok (.ifCond .eq 29, 3) := by decide +kernel
theorem dX11_makeCourse_7 : decode cX11_makeCourse 7 = .ok (.aload_n 0, 1) := by decide +kernel
theorem dX11_makeCourse_8 : decode cX11_makeCourse 8 = .ok (.getfield 77, 3) := by decide +kernel
theorem dX11_makeCourse_11 : decode cX11_makeCourse 11 = .ok (.aload_n 0, 1) := by decide +kernel
theorem dX11_makeCourse_12 : decode cX11_makeCourse 12 = .ok (.getfield 12, 3) := by decide +kernel
theorem dX11_makeCourse_15 : decode cX11_makeCourse 15 = .ok (.getfield 119, 3) := by decide +kernel
theorem dX11_makeCourse_18 : decode cX11_makeCourse 18 = .ok (.invokevirtual 432, 3) := by decide +kernel
theorem dX11_makeCourse_21 : decode cX11_makeCourse 21 = .ok (.aload_n 0, 1) := by decide +kernel
theorem dX11_makeCourse_22 : decode cX11_makeCourse 22 = .ok (.getfield 84, 3) := by decide +kernel
theorem dX11_makeCourse_25 : decode cX11_makeCourse 25 = .ok (.invokevirtual 434, 3) := by decide +kernel
theorem dX11_makeCourse_28 : decode cX11_makeCourse 28 = .ok (.aload_n 0, 1) := by decide +kernel
theorem dX11_makeCourse_29 : decode cX11_makeCourse 29 = .ok (.iconst 0, 1) := by decide +kernel
theorem dX11_makeCourse_30 : decode cX11_makeCourse 30 = .ok (.putfield 95, 3) := by decide +kernel
theorem dX11_makeCourse_33 : decode cX11_makeCourse 33 = .ok (.return_, 1) := by decide +kernel
abbrev k_X11_makeCourse (E : g_E) (l : Launch) (D : g_D) (K : g_D → Prop) : Prop := g_Kv E l m_X11_makeCourse 5 [g_R 0] g_SH D K
abbrev n_X11_makeCourse (E : g_E) (l : Launch) (D : g_D) (pc : Nat) (L : List (Option g_V)) (K : g_D → Prop) : Prop := g_N E l m_X11_makeCourse 5 pc L [] g_SH D (g_Rv g_SH K)
theorem s_X11_makeCourse {E : g_E} {l : Launch} {D : g_D} {K : g_D → Prop}   (hF : g_okD D → ((D 0 15) = 0 → K D) ∧ (¬ (D 0 15) = 0 → k_X1_build E l D 7 (fun D1 => k_X10_clear E l D1 (fun D2 => ∀ D3, D3 = g_up D2 0 15 0 → (K D3))))) : k_X11_makeCourse E l D K := by
  refine g_enter (by decide) (Nat.le_of_ble_eq_true rfl) ?_
  show g_N E l m_X11_makeCourse 5 0 [some (g_R 0)] [] g_SH D (g_Rv g_SH K)
  refine g_use (fun ok => ?_)
  have hF := hF ok.2.1
  refine g_aload_n dX11_makeCourse_0 rfl ?_
  refine g_getI dX11_makeCourse_1 fd_X11_95 sh_0 rfl ?_
  refine g_ifeq dX11_makeCourse_4 rfl (fun q => ?_) (fun q => ?_)
  · have hF := hF.1 q
    exact gw_vret dX11_makeCourse_33 rfl hF
  · have hF := hF.2 q
    refine g_aload_n dX11_makeCourse_7 rfl ?_
    refine g_getR dX11_makeCourse_8 fd_X11_77 sh_0 rfl ?_
    refine g_aload_n dX11_makeCourse_11 rfl ?_
    refine g_getR dX11_makeCourse_12 fd_X11_12 sh_0 rfl ?_
    refine g_getR dX11_makeCourse_15 fd_X11_119 sh_1 rfl ?_
    refine gw_cVv (b := 175) (As := [g_R 7]) (rest := []) dX11_makeCourse_18 mv_X11_432 sh_175 rfl (Nat.le_of_ble_eq_true rfl) (by decide) rfl hF ?_
    intro D1 hF
    refine g_aload_n dX11_makeCourse_21 rfl ?_
    refine g_getR dX11_makeCourse_22 fd_X11_84 sh_0 rfl ?_
    refine gw_cVv (b := 198) (As := []) (rest := []) dX11_makeCourse_25 mv_X11_434 sh_198 rfl (Nat.le_of_ble_eq_true rfl) (by decide) rfl hF ?_
    intro D2 hF
    refine g_aload_n dX11_makeCourse_28 rfl ?_
    refine g_iconst dX11_makeCourse_29 ⟨by decide, by decide⟩ ?_
    let D3 : g_D := g_up D2 0 15 0
    have hF := hF D3 rfl
    refine g_put dX11_makeCourse_30 fd_X11_95 (g_ftyZ (C := RX11) (T := TX11) (N := 16) rfl rfl (by decide +kernel) (by decide)) sh_0 rfl ?_
    exact gw_vret dX11_makeCourse_33 rfl hF
theorem dX11_boot_0 : decode cX11_boot 0 = .ok (.aload_n 0, 1) := by decide +kernel
theorem dX11_boot_1 : decode cX11_boot 1 = .ok (.getfield 12, 3) := by decide +kernel
theorem dX11_boot_4 : decode cX11_boot 4 = .ok (.getfield 119, 3) := by decide +kernel
theorem dX11_boot_7 : decode cX11_boot 7 = .ok (.astore_n 1, 1) := by decide +kernel
theorem dX11_boot_8 : decode cX11_boot 8 = .ok (.aload_n 0, 1) := by decide +kernel
theorem dX11_boot_9 : decode cX11_boot 9 = .ok (.invokevirtual 310, 3) := by decide +kernel
theorem dX11_boot_12 : decode cX11_boot 12 = .ok (.aload_n 1, 1) := by decide +kernel
theorem dX11_boot_13 : decode cX11_boot 13 = .ok (.getfield 303, 3) := by decide +kernel
theorem dX11_boot_16 : decode cX11_boot 16 = .ok (.ifCond .ne 14, 3) := by decide +kernel
theorem dX11_boot_19 : decode cX11_boot 19 = .ok (.aload_n 0, 1) := by decide +kernel
theorem dX11_boot_20 : decode cX11_boot 20 = .ok (.getfield 77, 3) := by decide +kernel
theorem dX11_boot_23 : decode cX11_boot 23 = .ok (.aload_n 1, 1) := by decide +kernel
theorem dX11_boot_24 : decode cX11_boot 24 = .ok (.invokevirtual 352, 3) := by decide +kernel
theorem dX11_boot_27 : decode cX11_boot 27 = .ok (.ifCond .ne 6, 3) := by decide +kernel
theorem dX11_boot_30 : decode cX11_boot 30 = .ok (.bipush (-5), 2) := by decide +kernel
theorem dX11_boot_32 : decode cX11_boot 32 = .ok (.ireturn, 1) := by decide +kernel
theorem dX11_boot_33 : decode cX11_boot 33 = .ok (.aload_n 0, 1) := by decide +kernel
theorem dX11_boot_34 : decode cX11_boot 34 = .ok (.getfield 43, 3) := by decide +kernel
theorem dX11_boot_37 : decode cX11_boot 37 = .ok (.aload_n 1, 1) := by decide +kernel
theorem dX11_boot_38 : decode cX11_boot 38 = .ok (.invokevirtual 295, 3) := by decide +kernel
theorem dX11_boot_41 : decode cX11_boot 41 = .ok (.aload_n 0, 1) := by decide +kernel
theorem dX11_boot_42 : decode cX11_boot 42 = .ok (.getfield 77, 3) := by decide +kernel
theorem dX11_boot_45 : decode cX11_boot 45 = .ok (.aload_n 1, 1) := by decide +kernel
theorem dX11_boot_46 : decode cX11_boot 46 = .ok (.invokevirtual 356, 3) := by decide +kernel
theorem dX11_boot_49 : decode cX11_boot 49 = .ok (.aload_n 1, 1) := by decide +kernel
theorem dX11_boot_50 : decode cX11_boot 50 = .ok (.getfield 334, 3) := by decide +kernel
theorem dX11_boot_53 : decode cX11_boot 53 = .ok (.ireturn, 1) := by decide +kernel
abbrev k_X11_boot (E : g_E) (l : Launch) (D : g_D) (K : Int → g_D → Prop) : Prop := g_Ki E l m_X11_boot 6 [g_R 0] g_SH D K
abbrev n_X11_boot (E : g_E) (l : Launch) (D : g_D) (pc : Nat) (L : List (Option g_V)) (K : Int → g_D → Prop) : Prop := g_N E l m_X11_boot 6 pc L [] g_SH D (g_Ri g_SH K)
theorem s_X11_boot {E : g_E} {l : Launch} {D : g_D} {K : Int → g_D → Prop}   (hF : g_okD D → k_X11_makeCourse E l D (fun D1 => (¬ (D1 7 9) = 0 → K (-5) D1) ∧ ((D1 7 9) = 0 → k_X1_canBoot E l D1 7 (fun x2 D2 => g_r x2 → (¬ x2 = 0 → k_X3_keep E l D2 7 (fun D3 => k_X1_bootUp E l D3 7 (fun D4 => K (D4 7 7) D4))) ∧ (x2 = 0 → K (-5) D2))))) : k_X11_boot E l D K := by
  refine g_enter (by decide) (Nat.le_of_ble_eq_true rfl) ?_
  show g_N E l m_X11_boot 6 0 [some (g_R 0), none] [] g_SH D (g_Ri g_SH K)
  refine g_use (fun ok => ?_)
  have hF := hF ok.2.1
  refine g_aload_n dX11_boot_0 rfl ?_
  refine g_getR dX11_boot_1 fd_X11_12 sh_0 rfl ?_
  refine g_getR dX11_boot_4 fd_X11_119 sh_1 rfl ?_
  refine gw_astore_n (L' := [some (g_R 0), some (g_R 7)]) dX11_boot_7 (by decide) rfl ?_
  refine g_aload_n dX11_boot_8 rfl ?_
  refine gw_cVv (b := 0) (As := []) (rest := []) dX11_boot_9 mv_X11_310 sh_0 rfl (Nat.le_of_ble_eq_true rfl) (by decide) rfl hF ?_
  intro D1 hF
  refine g_aload_n dX11_boot_12 rfl ?_
  refine g_getI dX11_boot_13 fd_X11_303 sh_7 rfl ?_
  refine g_ifne dX11_boot_16 rfl (fun q => ?_) (fun q => ?_)
  · have hF := hF.1 q
    refine g_bipush dX11_boot_30 ⟨by decide, by decide⟩ ?_
    exact gw_iret dX11_boot_32 rfl hF
  · have hF := hF.2 q
    refine g_aload_n dX11_boot_19 rfl ?_
    refine g_getR dX11_boot_20 fd_X11_77 sh_0 rfl ?_
    refine g_aload_n dX11_boot_23 rfl ?_
    refine gw_cVi (b := 175) (As := [g_R 7]) (rest := []) dX11_boot_24 mv_X11_352 sh_175 rfl (Nat.le_of_ble_eq_true rfl) (by decide) rfl hF ?_
    intro x2 D2 hx2 hF
    have hF := hF hx2
    refine g_ifne dX11_boot_27 rfl (fun q => ?_) (fun q => ?_)
    · have hF := hF.1 q
      refine g_aload_n dX11_boot_33 rfl ?_
      refine g_getR dX11_boot_34 fd_X11_43 sh_0 rfl ?_
      refine g_aload_n dX11_boot_37 rfl ?_
      refine gw_cVv (b := 52) (As := [g_R 7]) (rest := []) dX11_boot_38 mv_X11_295 sh_52 rfl (Nat.le_of_ble_eq_true rfl) (by decide) rfl hF ?_
      intro D3 hF
      refine g_aload_n dX11_boot_41 rfl ?_
      refine g_getR dX11_boot_42 fd_X11_77 sh_0 rfl ?_
      refine g_aload_n dX11_boot_45 rfl ?_
      refine gw_cVv (b := 175) (As := [g_R 7]) (rest := []) dX11_boot_46 mv_X11_356 sh_175 rfl (Nat.le_of_ble_eq_true rfl) (by decide) rfl hF ?_
      intro D4 hF
      refine g_aload_n dX11_boot_49 rfl ?_
      refine g_getI dX11_boot_50 fd_X11_334 sh_7 rfl ?_
      exact gw_iret dX11_boot_53 rfl hF
    · have hF := hF.2 q
      refine g_bipush dX11_boot_30 ⟨by decide, by decide⟩ ?_
      exact gw_iret dX11_boot_32 rfl hF
theorem dX11_burn_0 : decode cX11_burn 0 = .ok (.aload_n 0, 1) := by decide +kernel
theorem dX11_burn_1 : decode cX11_burn 1 = .ok (.getfield 43, 3) := by decide +kernel
theorem dX11_burn_4 : decode cX11_burn 4 = .ok (.aload_n 0, 1) := by decide +kernel
theorem dX11_burn_5 : decode cX11_burn 5 = .ok (.getfield 12, 3) := by decide +kernel
theorem dX11_burn_8 : decode cX11_burn 8 = .ok (.getfield 119, 3) := by decide +kernel
theorem dX11_burn_11 : decode cX11_burn 11 = .ok (.invokevirtual 295, 3) := by decide +kernel
theorem dX11_burn_14 : decode cX11_burn 14 = .ok (.aload_n 0, 1) := by decide +kernel
theorem dX11_burn_15 : decode cX11_burn 15 = .ok (.getfield 12, 3) := by decide +kernel
theorem dX11_burn_18 : decode cX11_burn 18 = .ok (.getfield 119, 3) := by decide +kernel
theorem dX11_burn_21 : decode cX11_burn 21 = .ok (.aload_n 0, 1) := by decide +kernel
theorem dX11_burn_22 : decode cX11_burn 22 = .ok (.getfield 12, 3) := by decide +kernel
theorem dX11_burn_25 : decode cX11_burn 25 = .ok (.getfield 105, 3) := by decide +kernel
theorem dX11_burn_28 : decode cX11_burn 28 = .ok (.invokevirtual 299, 3) := by decide +kernel
theorem dX11_burn_31 : decode cX11_burn 31 = .ok (.aload_n 0, 1) := by decide +kernel
theorem dX11_burn_32 : decode cX11_burn 32 = .ok (.iconst 1, 1) := by decide +kernel
theorem dX11_burn_33 : decode cX11_burn 33 = .ok (.putfield 95, 3) := by decide +kernel
theorem dX11_burn_36 : decode cX11_burn 36 = .ok (.iconst 0, 1) := by decide +kernel
theorem dX11_burn_37 : decode cX11_burn 37 = .ok (.ireturn, 1) := by decide +kernel
abbrev k_X11_burn (E : g_E) (l : Launch) (D : g_D) (K : Int → g_D → Prop) : Prop := g_Ki E l m_X11_burn 4 [g_R 0] g_SH D K
abbrev n_X11_burn (E : g_E) (l : Launch) (D : g_D) (pc : Nat) (L : List (Option g_V)) (K : Int → g_D → Prop) : Prop := g_N E l m_X11_burn 4 pc L [] g_SH D (g_Ri g_SH K)
theorem s_X11_burn {E : g_E} {l : Launch} {D : g_D} {K : Int → g_D → Prop}   (hF : g_okD D → k_X3_keep E l D 7 (fun D1 => k_X2_burnCells E l D1 7 2 (fun D2 => ∀ D3, D3 = g_up D2 0 15 1 → (K 0 D3)))) : k_X11_burn E l D K := by
  refine g_enter (by decide) (Nat.le_of_ble_eq_true rfl) ?_
  show g_N E l m_X11_burn 4 0 [some (g_R 0)] [] g_SH D (g_Ri g_SH K)
  refine g_use (fun ok => ?_)
  have hF := hF ok.2.1
  refine g_aload_n dX11_burn_0 rfl ?_
  refine g_getR dX11_burn_1 fd_X11_43 sh_0 rfl ?_
  refine g_aload_n dX11_burn_4 rfl ?_
  refine g_getR dX11_burn_5 fd_X11_12 sh_0 rfl ?_
  refine g_getR dX11_burn_8 fd_X11_119 sh_1 rfl ?_
  refine gw_cVv (b := 52) (As := [g_R 7]) (rest := []) dX11_burn_11 mv_X11_295 sh_52 rfl (Nat.le_of_ble_eq_true rfl) (by decide) rfl hF ?_
  intro D1 hF
  refine g_aload_n dX11_burn_14 rfl ?_
  refine g_getR dX11_burn_15 fd_X11_12 sh_0 rfl ?_
  refine g_getR dX11_burn_18 fd_X11_119 sh_1 rfl ?_
  refine g_aload_n dX11_burn_21 rfl ?_
  refine g_getR dX11_burn_22 fd_X11_12 sh_0 rfl ?_
  refine g_getR dX11_burn_25 fd_X11_105 sh_1 rfl ?_
  refine gw_cVv (b := 7) (As := [g_R 2]) (rest := []) dX11_burn_28 mv_X11_299 sh_7 rfl (Nat.le_of_ble_eq_true rfl) (by decide) rfl hF ?_
  intro D2 hF
  refine g_aload_n dX11_burn_31 rfl ?_
  refine g_iconst dX11_burn_32 ⟨by decide, by decide⟩ ?_
  let D3 : g_D := g_up D2 0 15 1
  have hF := hF D3 rfl
  refine g_put dX11_burn_33 fd_X11_95 (g_ftyZ (C := RX11) (T := TX11) (N := 16) rfl rfl (by decide +kernel) (by decide)) sh_0 rfl ?_
  refine g_iconst dX11_burn_36 ⟨by decide, by decide⟩ ?_
  exact gw_iret dX11_burn_37 rfl hF
theorem dX11_cell_0 : decode cX11_cell 0 = .ok (.iload_n 1, 1) := by decide +kernel
theorem dX11_cell_1 : decode cX11_cell 1 = .ok (.tableswitch 85 0 3 #[31, 43, 55, 70], 31) := by decide +kernel
theorem dX11_cell_32 : decode cX11_cell 32 = .ok (.aload_n 0, 1) := by decide +kernel
theorem dX11_cell_33 : decode cX11_cell 33 = .ok (.getfield 12, 3) := by decide +kernel
theorem dX11_cell_36 : decode cX11_cell 36 = .ok (.getfield 105, 3) := by decide +kernel
theorem dX11_cell_39 : decode cX11_cell 39 = .ok (.iload_n 2, 1) := by decide +kernel
theorem dX11_cell_40 : decode cX11_cell 40 = .ok (.invokevirtual 115, 3) := by decide +kernel
theorem dX11_cell_43 : decode cX11_cell 43 = .ok (.ireturn, 1) := by decide +kernel
theorem dX11_cell_44 : decode cX11_cell 44 = .ok (.aload_n 0, 1) := by decide +kernel
theorem dX11_cell_45 : decode cX11_cell 45 = .ok (.getfield 12, 3) := by decide +kernel
theorem dX11_cell_48 : decode cX11_cell 48 = .ok (.getfield 112, 3) := by decide +kernel
theorem dX11_cell_51 : decode cX11_cell 51 = .ok (.iload_n 2, 1) := by decide +kernel
theorem dX11_cell_52 : decode cX11_cell 52 = .ok (.invokevirtual 115, 3) := by decide +kernel
theorem dX11_cell_55 : decode cX11_cell 55 = .ok (.ireturn, 1) := by decide +kernel
theorem dX11_cell_56 : decode cX11_cell 56 = .ok (.aload_n 0, 1) := by decide +kernel
theorem dX11_cell_57 : decode cX11_cell 57 = .ok (.getfield 12, 3) := by decide +kernel
theorem dX11_cell_60 : decode cX11_cell 60 = .ok (.getfield 119, 3) := by decide +kernel
theorem dX11_cell_63 : decode cX11_cell 63 = .ok (.getfield 123, 3) := by decide +kernel
theorem dX11_cell_66 : decode cX11_cell 66 = .ok (.iload_n 2, 1) := by decide +kernel
theorem dX11_cell_67 : decode cX11_cell 67 = .ok (.invokestatic 129, 3) := by decide +kernel
theorem dX11_cell_70 : decode cX11_cell 70 = .ok (.ireturn, 1) := by decide +kernel
theorem dX11_cell_71 : decode cX11_cell 71 = .ok (.aload_n 0, 1) := by decide +kernel
theorem dX11_cell_72 : decode cX11_cell 72 = .ok (.getfield 12, 3) := by decide +kernel
theorem dX11_cell_75 : decode cX11_cell 75 = .ok (.getfield 119, 3) := by decide +kernel
theorem dX11_cell_78 : decode cX11_cell 78 = .ok (.getfield 133, 3) := by decide +kernel
theorem dX11_cell_81 : decode cX11_cell 81 = .ok (.iload_n 2, 1) := by decide +kernel
theorem dX11_cell_82 : decode cX11_cell 82 = .ok (.invokestatic 129, 3) := by decide +kernel
theorem dX11_cell_85 : decode cX11_cell 85 = .ok (.ireturn, 1) := by decide +kernel
theorem dX11_cell_86 : decode cX11_cell 86 = .ok (.bipush (-2), 2) := by decide +kernel
theorem dX11_cell_88 : decode cX11_cell 88 = .ok (.ireturn, 1) := by decide +kernel
abbrev k_X11_cell (E : g_E) (l : Launch) (D : g_D) (v1 : Int) (v2 : Int) (K : Int → g_D → Prop) : Prop := g_Ki E l m_X11_cell 1 [g_R 0, g_I v1, g_I v2] g_SH D K
abbrev n_X11_cell (E : g_E) (l : Launch) (D : g_D) (pc : Nat) (L : List (Option g_V)) (K : Int → g_D → Prop) : Prop := g_N E l m_X11_cell 1 pc L [] g_SH D (g_Ri g_SH K)
theorem s_X11_cell {E : g_E} {l : Launch} {D : g_D} {K : Int → g_D → Prop} {v1 : Int} {v2 : Int}  (hF : g_okD D → g_r v1 → g_r v2 → (v1 = 0 → k_X0_at E l g_SH D 2 v2 (fun x1 D1 => g_r x1 → K x1 D1)) ∧ (v1 = 1 → k_X0_at E l g_SH D 4 v2 (fun x2 D2 => g_r x2 → K x2 D2)) ∧ (v1 = 2 → k_X11_elementOf E l g_SH D 8 v2 (fun x3 D3 => g_r x3 → K x3 D3)) ∧ (v1 = 3 → k_X11_elementOf E l g_SH D 9 v2 (fun x4 D4 => g_r x4 → K x4 D4)) ∧ ((v1 < 0 ∨ 3 < v1) → K (-2) D)) : k_X11_cell E l D v1 v2 K := by
  refine g_enter (by decide) (Nat.le_of_ble_eq_true rfl) ?_
  show g_N E l m_X11_cell 1 0 [some (g_R 0), some (g_I v1), some (g_I v2)] [] g_SH D (g_Ri g_SH K)
  refine g_use (fun ok => ?_)
  have hF := hF ok.2.1 (ok.loc (i := 1) rfl) (ok.loc (i := 2) rfl)
  refine g_iload_n dX11_cell_0 rfl ?_
  rcases Decidable.em (v1 = 0) with q1_0 | q1_0
  · have hF := hF.1 q1_0
    refine g_tsIn dX11_cell_1 (by omega) (by omega) (by rw [q1_0] <;> rfl) rfl ?_
    refine g_aload_n dX11_cell_32 rfl ?_
    refine g_getR dX11_cell_33 fd_X11_12 sh_0 rfl ?_
    refine g_getR dX11_cell_36 fd_X11_105 sh_1 rfl ?_
    refine g_iload_n dX11_cell_39 rfl ?_
    refine gw_cVi (b := 2) (As := [g_I v2]) (rest := []) dX11_cell_40 mv_X11_115 sh_2 rfl (Nat.le_of_ble_eq_true rfl) (by decide) rfl hF ?_
    intro x1 D1 hx1 hF
    have hF := hF hx1
    exact gw_iret dX11_cell_43 rfl hF
  rcases Decidable.em (v1 = 1) with q1_1 | q1_1
  · have hF := hF.2.1 q1_1
    refine g_tsIn dX11_cell_1 (by omega) (by omega) (by rw [q1_1] <;> rfl) rfl ?_
    refine g_aload_n dX11_cell_44 rfl ?_
    refine g_getR dX11_cell_45 fd_X11_12 sh_0 rfl ?_
    refine g_getR dX11_cell_48 fd_X11_112 sh_1 rfl ?_
    refine g_iload_n dX11_cell_51 rfl ?_
    refine gw_cVi (b := 4) (As := [g_I v2]) (rest := []) dX11_cell_52 mv_X11_115 sh_4 rfl (Nat.le_of_ble_eq_true rfl) (by decide) rfl hF ?_
    intro x2 D2 hx2 hF
    have hF := hF hx2
    exact gw_iret dX11_cell_55 rfl hF
  rcases Decidable.em (v1 = 2) with q1_2 | q1_2
  · have hF := hF.2.2.1 q1_2
    refine g_tsIn dX11_cell_1 (by omega) (by omega) (by rw [q1_2] <;> rfl) rfl ?_
    refine g_aload_n dX11_cell_56 rfl ?_
    refine g_getR dX11_cell_57 fd_X11_12 sh_0 rfl ?_
    refine g_getR dX11_cell_60 fd_X11_119 sh_1 rfl ?_
    refine g_getR dX11_cell_63 fd_X11_123 sh_7 rfl ?_
    refine g_iload_n dX11_cell_66 rfl ?_
    refine gw_cSi (As := [g_R 8, g_I v2]) (rest := []) dX11_cell_67 ms_X11_129 rfl (Nat.le_of_ble_eq_true rfl) (by decide) rfl hF ?_
    intro x3 D3 hx3 hF
    have hF := hF hx3
    exact gw_iret dX11_cell_70 rfl hF
  rcases Decidable.em (v1 = 3) with q1_3 | q1_3
  · have hF := hF.2.2.2.1 q1_3
    refine g_tsIn dX11_cell_1 (by omega) (by omega) (by rw [q1_3] <;> rfl) rfl ?_
    refine g_aload_n dX11_cell_71 rfl ?_
    refine g_getR dX11_cell_72 fd_X11_12 sh_0 rfl ?_
    refine g_getR dX11_cell_75 fd_X11_119 sh_1 rfl ?_
    refine g_getR dX11_cell_78 fd_X11_133 sh_7 rfl ?_
    refine g_iload_n dX11_cell_81 rfl ?_
    refine gw_cSi (As := [g_R 9, g_I v2]) (rest := []) dX11_cell_82 ms_X11_129 rfl (Nat.le_of_ble_eq_true rfl) (by decide) rfl hF ?_
    intro x4 D4 hx4 hF
    have hF := hF hx4
    exact gw_iret dX11_cell_85 rfl hF
  have q1 : v1 < 0 ∨ 3 < v1 := by omega
  have hF := hF.2.2.2.2 q1
  refine g_tsOut dX11_cell_1 q1 rfl ?_
  refine g_bipush dX11_cell_86 ⟨by decide, by decide⟩ ?_
  exact gw_iret dX11_cell_88 rfl hF
theorem dX11_command_0 : decode cX11_command 0 = .ok (.aload_n 0, 1) := by decide +kernel
theorem dX11_command_1 : decode cX11_command 1 = .ok (.invokevirtual 175, 3) := by decide +kernel
theorem dX11_command_4 : decode cX11_command 4 = .ok (.aload_n 0, 1) := by decide +kernel
theorem dX11_command_5 : decode cX11_command 5 = .ok (.getfield 57, 3) := by decide +kernel
theorem dX11_command_8 : decode cX11_command 8 = .ok (.iload_n 1, 1) := by decide +kernel
theorem dX11_command_9 : decode cX11_command 9 = .ok (.invokevirtual 179, 3) := by decide +kernel
theorem dX11_command_12 : decode cX11_command 12 = .ok (.ifCond .ne 6, 3) := by decide +kernel
theorem dX11_command_15 : decode cX11_command 15 = .ok (.bipush (-2), 2) := by decide +kernel
theorem dX11_command_17 : decode cX11_command 17 = .ok (.ireturn, 1) := by decide +kernel
theorem dX11_command_18 : decode cX11_command 18 = .ok (.iload_n 2, 1) := by decide +kernel
theorem dX11_command_19 : decode cX11_command 19 = .ok (.tableswitch 82 0 4 #[33, 43, 53, 63, 73], 33) := by decide +kernel
theorem dX11_command_52 : decode cX11_command 52 = .ok (.aload_n 0, 1) := by decide +kernel
theorem dX11_command_53 : decode cX11_command 53 = .ok (.getfield 57, 3) := by decide +kernel
theorem dX11_command_56 : decode cX11_command 56 = .ok (.getfield 183, 3) := by decide +kernel
theorem dX11_command_59 : decode cX11_command 59 = .ok (.iload_n 1, 1) := by decide +kernel
theorem dX11_command_60 : decode cX11_command 60 = .ok (.iaload, 1) := by decide +kernel
theorem dX11_command_61 : decode cX11_command 61 = .ok (.ireturn, 1) := by decide +kernel
theorem dX11_command_62 : decode cX11_command 62 = .ok (.aload_n 0, 1) := by decide +kernel
theorem dX11_command_63 : decode cX11_command 63 = .ok (.getfield 57, 3) := by decide +kernel
theorem dX11_command_66 : decode cX11_command 66 = .ok (.getfield 186, 3) := by decide +kernel
theorem dX11_command_69 : decode cX11_command 69 = .ok (.iload_n 1, 1) := by decide +kernel
theorem dX11_command_70 : decode cX11_command 70 = .ok (.iaload, 1) := by decide +kernel
theorem dX11_command_71 : decode cX11_command 71 = .ok (.ireturn, 1) := by decide +kernel
theorem dX11_command_72 : decode cX11_command 72 = .ok (.aload_n 0, 1) := by decide +kernel
theorem dX11_command_73 : decode cX11_command 73 = .ok (.getfield 57, 3) := by decide +kernel
theorem dX11_command_76 : decode cX11_command 76 = .ok (.getfield 189, 3) := by decide +kernel
theorem dX11_command_79 : decode cX11_command 79 = .ok (.iload_n 1, 1) := by decide +kernel
theorem dX11_command_80 : decode cX11_command 80 = .ok (.iaload, 1) := by decide +kernel
theorem dX11_command_81 : decode cX11_command 81 = .ok (.ireturn, 1) := by decide +kernel
theorem dX11_command_82 : decode cX11_command 82 = .ok (.aload_n 0, 1) := by decide +kernel
theorem dX11_command_83 : decode cX11_command 83 = .ok (.getfield 57, 3) := by decide +kernel
theorem dX11_command_86 : decode cX11_command 86 = .ok (.getfield 192, 3) := by decide +kernel
theorem dX11_command_89 : decode cX11_command 89 = .ok (.iload_n 1, 1) := by decide +kernel
theorem dX11_command_90 : decode cX11_command 90 = .ok (.iaload, 1) := by decide +kernel
theorem dX11_command_91 : decode cX11_command 91 = .ok (.ireturn, 1) := by decide +kernel
theorem dX11_command_92 : decode cX11_command 92 = .ok (.aload_n 0, 1) := by decide +kernel
theorem dX11_command_93 : decode cX11_command 93 = .ok (.getfield 64, 3) := by decide +kernel
theorem dX11_command_96 : decode cX11_command 96 = .ok (.iload_n 1, 1) := by decide +kernel
theorem dX11_command_97 : decode cX11_command 97 = .ok (.invokevirtual 195, 3) := by decide +kernel
theorem dX11_command_100 : decode cX11_command 100 = .ok (.ireturn, 1) := by decide +kernel
theorem dX11_command_101 : decode cX11_command 101 = .ok (.bipush (-2), 2) := by decide +kernel
theorem dX11_command_103 : decode cX11_command 103 = .ok (.ireturn, 1) := by decide +kernel
abbrev k_X11_command (E : g_E) (l : Launch) (D : g_D) (v1 : Int) (v2 : Int) (K : Int → g_D → Prop) : Prop := g_Ki E l m_X11_command 6 [g_R 0, g_I v1, g_I v2] g_SH D K
abbrev n_X11_command (E : g_E) (l : Launch) (D : g_D) (pc : Nat) (L : List (Option g_V)) (K : Int → g_D → Prop) : Prop := g_N E l m_X11_command 6 pc L [] g_SH D (g_Ri g_SH K)
theorem s_X11_command {E : g_E} {l : Launch} {D : g_D} {K : Int → g_D → Prop} {v1 : Int} {v2 : Int}  (hF : g_okD D → g_r v1 → g_r v2 → k_X11_makePlan E l D (fun D1 => k_X7_has E l D1 137 v1 (fun x2 D2 => g_r x2 → (¬ x2 = 0 → (v2 = 0 → (0 ≤ v1 ∧ v1 < 20) ∧ (K (D2 138 v1.toNat) D2)) ∧ (v2 = 1 → (0 ≤ v1 ∧ v1 < 20) ∧ (K (D2 139 v1.toNat) D2)) ∧ (v2 = 2 → (0 ≤ v1 ∧ v1 < 20) ∧ (K (D2 140 v1.toNat) D2)) ∧ (v2 = 3 → (0 ≤ v1 ∧ v1 < 20) ∧ (K (D2 141 v1.toNat) D2)) ∧ (v2 = 4 → k_X4_fateOf E l D2 149 v1 (fun x3 D3 => g_r x3 → K x3 D3)) ∧ ((v2 < 0 ∨ 4 < v2) → K (-2) D2)) ∧ (x2 = 0 → K (-2) D2)))) : k_X11_command E l D v1 v2 K := by
  refine g_enter (by decide) (Nat.le_of_ble_eq_true rfl) ?_
  show g_N E l m_X11_command 6 0 [some (g_R 0), some (g_I v1), some (g_I v2)] [] g_SH D (g_Ri g_SH K)
  refine g_use (fun ok => ?_)
  have hF := hF ok.2.1 (ok.loc (i := 1) rfl) (ok.loc (i := 2) rfl)
  refine g_aload_n dX11_command_0 rfl ?_
  refine gw_cVv (b := 0) (As := []) (rest := []) dX11_command_1 mv_X11_175 sh_0 rfl (Nat.le_of_ble_eq_true rfl) (by decide) rfl hF ?_
  intro D1 hF
  refine g_aload_n dX11_command_4 rfl ?_
  refine g_getR dX11_command_5 fd_X11_57 sh_0 rfl ?_
  refine g_iload_n dX11_command_8 rfl ?_
  refine gw_cVi (b := 137) (As := [g_I v1]) (rest := []) dX11_command_9 mv_X11_179 sh_137 rfl (Nat.le_of_ble_eq_true rfl) (by decide) rfl hF ?_
  intro x2 D2 hx2 hF
  have hF := hF hx2
  refine g_ifne dX11_command_12 rfl (fun q => ?_) (fun q => ?_)
  · have hF := hF.1 q
    refine g_iload_n dX11_command_18 rfl ?_
    rcases Decidable.em (v2 = 0) with q19_0 | q19_0
    · have hF := hF.1 q19_0
      refine g_tsIn dX11_command_19 (by omega) (by omega) (by rw [q19_0] <;> rfl) rfl ?_
      refine g_aload_n dX11_command_52 rfl ?_
      refine g_getR dX11_command_53 fd_X11_57 sh_0 rfl ?_
      refine g_getR dX11_command_56 fd_X11_183 sh_137 rfl ?_
      refine g_iload_n dX11_command_59 rfl ?_
      obtain ⟨hc, hF⟩ := hF
      refine g_iald dX11_command_60 sh_138 hc.1 hc.2 ?_
      exact gw_iret dX11_command_61 rfl hF
    rcases Decidable.em (v2 = 1) with q19_1 | q19_1
    · have hF := hF.2.1 q19_1
      refine g_tsIn dX11_command_19 (by omega) (by omega) (by rw [q19_1] <;> rfl) rfl ?_
      refine g_aload_n dX11_command_62 rfl ?_
      refine g_getR dX11_command_63 fd_X11_57 sh_0 rfl ?_
      refine g_getR dX11_command_66 fd_X11_186 sh_137 rfl ?_
      refine g_iload_n dX11_command_69 rfl ?_
      obtain ⟨hc, hF⟩ := hF
      refine g_iald dX11_command_70 sh_139 hc.1 hc.2 ?_
      exact gw_iret dX11_command_71 rfl hF
    rcases Decidable.em (v2 = 2) with q19_2 | q19_2
    · have hF := hF.2.2.1 q19_2
      refine g_tsIn dX11_command_19 (by omega) (by omega) (by rw [q19_2] <;> rfl) rfl ?_
      refine g_aload_n dX11_command_72 rfl ?_
      refine g_getR dX11_command_73 fd_X11_57 sh_0 rfl ?_
      refine g_getR dX11_command_76 fd_X11_189 sh_137 rfl ?_
      refine g_iload_n dX11_command_79 rfl ?_
      obtain ⟨hc, hF⟩ := hF
      refine g_iald dX11_command_80 sh_140 hc.1 hc.2 ?_
      exact gw_iret dX11_command_81 rfl hF
    rcases Decidable.em (v2 = 3) with q19_3 | q19_3
    · have hF := hF.2.2.2.1 q19_3
      refine g_tsIn dX11_command_19 (by omega) (by omega) (by rw [q19_3] <;> rfl) rfl ?_
      refine g_aload_n dX11_command_82 rfl ?_
      refine g_getR dX11_command_83 fd_X11_57 sh_0 rfl ?_
      refine g_getR dX11_command_86 fd_X11_192 sh_137 rfl ?_
      refine g_iload_n dX11_command_89 rfl ?_
      obtain ⟨hc, hF⟩ := hF
      refine g_iald dX11_command_90 sh_141 hc.1 hc.2 ?_
      exact gw_iret dX11_command_91 rfl hF
    rcases Decidable.em (v2 = 4) with q19_4 | q19_4
    · have hF := hF.2.2.2.2.1 q19_4
      refine g_tsIn dX11_command_19 (by omega) (by omega) (by rw [q19_4] <;> rfl) rfl ?_
      refine g_aload_n dX11_command_92 rfl ?_
      refine g_getR dX11_command_93 fd_X11_64 sh_0 rfl ?_
      refine g_iload_n dX11_command_96 rfl ?_
      refine gw_cVi (b := 149) (As := [g_I v1]) (rest := []) dX11_command_97 mv_X11_195 sh_149 rfl (Nat.le_of_ble_eq_true rfl) (by decide) rfl hF ?_
      intro x3 D3 hx3 hF
      have hF := hF hx3
      exact gw_iret dX11_command_100 rfl hF
    have q19 : v2 < 0 ∨ 4 < v2 := by omega
    have hF := hF.2.2.2.2.2 q19
    refine g_tsOut dX11_command_19 q19 rfl ?_
    refine g_bipush dX11_command_101 ⟨by decide, by decide⟩ ?_
    exact gw_iret dX11_command_103 rfl hF
  · have hF := hF.2 q
    refine g_bipush dX11_command_15 ⟨by decide, by decide⟩ ?_
    exact gw_iret dX11_command_17 rfl hF
theorem dX11_commands_0 : decode cX11_commands 0 = .ok (.aload_n 0, 1) := by decide +kernel
theorem dX11_commands_1 : decode cX11_commands 1 = .ok (.invokevirtual 175, 3) := by decide +kernel
theorem dX11_commands_4 : decode cX11_commands 4 = .ok (.aload_n 0, 1) := by decide +kernel
theorem dX11_commands_5 : decode cX11_commands 5 = .ok (.getfield 57, 3) := by decide +kernel
theorem dX11_commands_8 : decode cX11_commands 8 = .ok (.getfield 178, 3) := by decide +kernel
theorem dX11_commands_11 : decode cX11_commands 11 = .ok (.ireturn, 1) := by decide +kernel
abbrev k_X11_commands (E : g_E) (l : Launch) (D : g_D) (K : Int → g_D → Prop) : Prop := g_Ki E l m_X11_commands 6 [g_R 0] g_SH D K
abbrev n_X11_commands (E : g_E) (l : Launch) (D : g_D) (pc : Nat) (L : List (Option g_V)) (K : Int → g_D → Prop) : Prop := g_N E l m_X11_commands 6 pc L [] g_SH D (g_Ri g_SH K)
theorem s_X11_commands {E : g_E} {l : Launch} {D : g_D} {K : Int → g_D → Prop}   (hF : g_okD D → k_X11_makePlan E l D (fun D1 => K (D1 137 8) D1)) : k_X11_commands E l D K := by
  refine g_enter (by decide) (Nat.le_of_ble_eq_true rfl) ?_
  show g_N E l m_X11_commands 6 0 [some (g_R 0)] [] g_SH D (g_Ri g_SH K)
  refine g_use (fun ok => ?_)
  have hF := hF ok.2.1
  refine g_aload_n dX11_commands_0 rfl ?_
  refine gw_cVv (b := 0) (As := []) (rest := []) dX11_commands_1 mv_X11_175 sh_0 rfl (Nat.le_of_ble_eq_true rfl) (by decide) rfl hF ?_
  intro D1 hF
  refine g_aload_n dX11_commands_4 rfl ?_
  refine g_getR dX11_commands_5 fd_X11_57 sh_0 rfl ?_
  refine g_getI dX11_commands_8 fd_X11_178 sh_137 rfl ?_
  exact gw_iret dX11_commands_11 rfl hF
theorem dX11_count_0 : decode cX11_count 0 = .ok (.iload_n 1, 1) := by decide +kernel
theorem dX11_count_1 : decode cX11_count 1 = .ok (.tableswitch 186 0 11 #[63, 74, 85, 85, 85, 85, 97, 112, 140, 159, 170, 178], 63) := by decide +kernel
theorem dX11_count_64 : decode cX11_count 64 = .ok (.aload_n 0, 1) := by decide +kernel
theorem dX11_count_65 : decode cX11_count 65 = .ok (.getfield 12, 3) := by decide +kernel
theorem dX11_count_68 : decode cX11_count 68 = .ok (.getfield 105, 3) := by decide +kernel
theorem dX11_count_71 : decode cX11_count 71 = .ok (.getfield 98, 3) := by decide +kernel
theorem dX11_count_74 : decode cX11_count 74 = .ok (.ireturn, 1) := by decide +kernel
theorem dX11_count_75 : decode cX11_count 75 = .ok (.aload_n 0, 1) := by decide +kernel
theorem dX11_count_76 : decode cX11_count 76 = .ok (.getfield 12, 3) := by decide +kernel
theorem dX11_count_79 : decode cX11_count 79 = .ok (.getfield 112, 3) := by decide +kernel
theorem dX11_count_82 : decode cX11_count 82 = .ok (.getfield 98, 3) := by decide +kernel
theorem dX11_count_85 : decode cX11_count 85 = .ok (.ireturn, 1) := by decide +kernel
theorem dX11_count_86 : decode cX11_count 86 = .ok (.aload_n 0, 1) := by decide +kernel
theorem dX11_count_87 : decode cX11_count 87 = .ok (.getfield 12, 3) := by decide +kernel
theorem dX11_count_90 : decode cX11_count 90 = .ok (.getfield 142, 3) := by decide +kernel
theorem dX11_count_93 : decode cX11_count 93 = .ok (.iload_n 1, 1) := by decide +kernel
theorem dX11_count_94 : decode cX11_count 94 = .ok (.iconst 2, 1) := by decide +kernel
theorem dX11_count_95 : decode cX11_count 95 = .ok (.isub, 1) := by decide +kernel
theorem dX11_count_96 : decode cX11_count 96 = .ok (.iaload, 1) := by decide +kernel
theorem dX11_count_97 : decode cX11_count 97 = .ok (.ireturn, 1) := by decide +kernel
theorem dX11_count_98 : decode cX11_count 98 = .ok (.aload_n 0, 1) := by decide +kernel
theorem dX11_count_99 : decode cX11_count 99 = .ok (.invokevirtual 310, 3) := by decide +kernel
theorem dX11_count_102 : decode cX11_count 102 = .ok (.aload_n 0, 1) := by decide +kernel
theorem dX11_count_103 : decode cX11_count 103 = .ok (.getfield 77, 3) := by decide +kernel
theorem dX11_count_106 : decode cX11_count 106 = .ok (.getfield 388, 3) := by decide +kernel
theorem dX11_count_109 : decode cX11_count 109 = .ok (.getfield 391, 3) := by decide +kernel
theorem dX11_count_112 : decode cX11_count 112 = .ok (.ireturn, 1) := by decide +kernel
theorem dX11_count_113 : decode cX11_count 113 = .ok (.aload_n 0, 1) := by decide +kernel
theorem dX11_count_114 : decode cX11_count 114 = .ok (.getfield 12, 3) := by decide +kernel
theorem dX11_count_117 : decode cX11_count 117 = .ok (.getfield 119, 3) := by decide +kernel
theorem dX11_count_120 : decode cX11_count 120 = .ok (.getfield 349, 3) := by decide +kernel
theorem dX11_count_123 : decode cX11_count 123 = .ok (.ifCond .eq 16, 3) := by decide +kernel
theorem dX11_count_126 : decode cX11_count 126 = .ok (.aload_n 0, 1) := by decide +kernel
theorem dX11_count_127 : decode cX11_count 127 = .ok (.getfield 12, 3) := by decide +kernel
theorem dX11_count_130 : decode cX11_count 130 = .ok (.getfield 119, 3) := by decide +kernel
theorem dX11_count_133 : decode cX11_count 133 = .ok (.getfield 334, 3) := by decide +kernel
theorem dX11_count_136 : decode cX11_count 136 = .ok (.goto 4, 3) := by decide +kernel
theorem dX11_count_139 : decode cX11_count 139 = .ok (.iconst (-1), 1) := by decide +kernel
theorem dX11_count_140 : decode cX11_count 140 = .ok (.ireturn, 1) := by decide +kernel
theorem dX11_count_141 : decode cX11_count 141 = .ok (.aload_n 0, 1) := by decide +kernel
theorem dX11_count_142 : decode cX11_count 142 = .ok (.getfield 12, 3) := by decide +kernel
theorem dX11_count_145 : decode cX11_count 145 = .ok (.getfield 119, 3) := by decide +kernel
theorem dX11_count_148 : decode cX11_count 148 = .ok (.getfield 303, 3) := by decide +kernel
theorem dX11_count_151 : decode cX11_count 151 = .ok (.ifCond .eq 7, 3) := by decide +kernel
theorem dX11_count_154 : decode cX11_count 154 = .ok (.iconst 1, 1) := by decide +kernel
theorem dX11_count_155 : decode cX11_count 155 = .ok (.goto 4, 3) := by decide +kernel
theorem dX11_count_158 : decode cX11_count 158 = .ok (.iconst 0, 1) := by decide +kernel
theorem dX11_count_159 : decode cX11_count 159 = .ok (.ireturn, 1) := by decide +kernel
theorem dX11_count_160 : decode cX11_count 160 = .ok (.aload_n 0, 1) := by decide +kernel
theorem dX11_count_161 : decode cX11_count 161 = .ok (.getfield 12, 3) := by decide +kernel
theorem dX11_count_164 : decode cX11_count 164 = .ok (.getfield 119, 3) := by decide +kernel
theorem dX11_count_167 : decode cX11_count 167 = .ok (.getfield 413, 3) := by decide +kernel
theorem dX11_count_170 : decode cX11_count 170 = .ok (.ireturn, 1) := by decide +kernel
theorem dX11_count_171 : decode cX11_count 171 = .ok (.aload_n 0, 1) := by decide +kernel
theorem dX11_count_172 : decode cX11_count 172 = .ok (.getfield 43, 3) := by decide +kernel
theorem dX11_count_175 : decode cX11_count 175 = .ok (.getfield 359, 3) := by decide +kernel
theorem dX11_count_178 : decode cX11_count 178 = .ok (.ireturn, 1) := by decide +kernel
theorem dX11_count_179 : decode cX11_count 179 = .ok (.aload_n 0, 1) := by decide +kernel
theorem dX11_count_180 : decode cX11_count 180 = .ok (.getfield 29, 3) := by decide +kernel
theorem dX11_count_183 : decode cX11_count 183 = .ok (.getfield 98, 3) := by decide +kernel
theorem dX11_count_186 : decode cX11_count 186 = .ok (.ireturn, 1) := by decide +kernel
theorem dX11_count_187 : decode cX11_count 187 = .ok (.iconst (-1), 1) := by decide +kernel
theorem dX11_count_188 : decode cX11_count 188 = .ok (.ireturn, 1) := by decide +kernel
abbrev k_X11_count (E : g_E) (l : Launch) (D : g_D) (v1 : Int) (K : Int → g_D → Prop) : Prop := g_Ki E l m_X11_count 6 [g_R 0, g_I v1] g_SH D K
abbrev n_X11_count (E : g_E) (l : Launch) (D : g_D) (pc : Nat) (L : List (Option g_V)) (K : Int → g_D → Prop) : Prop := g_N E l m_X11_count 6 pc L [] g_SH D (g_Ri g_SH K)
theorem s_X11_count {E : g_E} {l : Launch} {D : g_D} {K : Int → g_D → Prop} {v1 : Int}  (hF : g_okD D → g_r v1 → (v1 = 0 → K (D 2 1) D) ∧ (v1 = 1 → K (D 4 1) D) ∧ (v1 = 2 → (g_r (v1 - 2)) ∧ ((0 ≤ (v1 - 2) ∧ (v1 - 2) < 4) ∧ (K (D 6 (v1 - 2).toNat) D))) ∧ (v1 = 3 → (g_r (v1 - 2)) ∧ ((0 ≤ (v1 - 2) ∧ (v1 - 2) < 4) ∧ (K (D 6 (v1 - 2).toNat) D))) ∧ (v1 = 4 → (g_r (v1 - 2)) ∧ ((0 ≤ (v1 - 2) ∧ (v1 - 2) < 4) ∧ (K (D 6 (v1 - 2).toNat) D))) ∧ (v1 = 5 → (g_r (v1 - 2)) ∧ ((0 ≤ (v1 - 2) ∧ (v1 - 2) < 4) ∧ (K (D 6 (v1 - 2).toNat) D))) ∧ (v1 = 6 → k_X11_makeCourse E l D (fun D1 => K (D1 176 4) D1)) ∧ (v1 = 7 → ((D 7 8) = 0 → K (-1) D) ∧ (¬ (D 7 8) = 0 → K (D 7 7) D)) ∧ (v1 = 8 → ((D 7 9) = 0 → K 0 D) ∧ (¬ (D 7 9) = 0 → K 1 D)) ∧ (v1 = 9 → K (D 7 6) D) ∧ (v1 = 10 → K (D 52 2) D) ∧ (v1 = 11 → K (D 45 1) D) ∧ ((v1 < 0 ∨ 11 < v1) → K (-1) D)) : k_X11_count E l D v1 K := by
  refine g_enter (by decide) (Nat.le_of_ble_eq_true rfl) ?_
  show g_N E l m_X11_count 6 0 [some (g_R 0), some (g_I v1)] [] g_SH D (g_Ri g_SH K)
  refine g_use (fun ok => ?_)
  have hF := hF ok.2.1 (ok.loc (i := 1) rfl)
  refine g_iload_n dX11_count_0 rfl ?_
  rcases Decidable.em (v1 = 0) with q1_0 | q1_0
  · have hF := hF.1 q1_0
    refine g_tsIn dX11_count_1 (by omega) (by omega) (by rw [q1_0] <;> rfl) rfl ?_
    refine g_aload_n dX11_count_64 rfl ?_
    refine g_getR dX11_count_65 fd_X11_12 sh_0 rfl ?_
    refine g_getR dX11_count_68 fd_X11_105 sh_1 rfl ?_
    refine g_getI dX11_count_71 fd_X11_98 sh_2 rfl ?_
    exact gw_iret dX11_count_74 rfl hF
  rcases Decidable.em (v1 = 1) with q1_1 | q1_1
  · have hF := hF.2.1 q1_1
    refine g_tsIn dX11_count_1 (by omega) (by omega) (by rw [q1_1] <;> rfl) rfl ?_
    refine g_aload_n dX11_count_75 rfl ?_
    refine g_getR dX11_count_76 fd_X11_12 sh_0 rfl ?_
    refine g_getR dX11_count_79 fd_X11_112 sh_1 rfl ?_
    refine g_getI dX11_count_82 fd_X11_98 sh_4 rfl ?_
    exact gw_iret dX11_count_85 rfl hF
  rcases Decidable.em (v1 = 2) with q1_2 | q1_2
  · have hF := hF.2.2.1 q1_2
    refine g_tsIn dX11_count_1 (by omega) (by omega) (by rw [q1_2] <;> rfl) rfl ?_
    refine g_aload_n dX11_count_86 rfl ?_
    refine g_getR dX11_count_87 fd_X11_12 sh_0 rfl ?_
    refine g_getR dX11_count_90 fd_X11_142 sh_1 rfl ?_
    refine g_iload_n dX11_count_93 rfl ?_
    refine g_iconst dX11_count_94 ⟨by decide, by decide⟩ ?_
    obtain ⟨hc, hF⟩ := hF
    refine g_isub dX11_count_95 hc ?_
    obtain ⟨hc, hF⟩ := hF
    refine g_iald dX11_count_96 sh_6 hc.1 hc.2 ?_
    exact gw_iret dX11_count_97 rfl hF
  rcases Decidable.em (v1 = 3) with q1_3 | q1_3
  · have hF := hF.2.2.2.1 q1_3
    refine g_tsIn dX11_count_1 (by omega) (by omega) (by rw [q1_3] <;> rfl) rfl ?_
    refine g_aload_n dX11_count_86 rfl ?_
    refine g_getR dX11_count_87 fd_X11_12 sh_0 rfl ?_
    refine g_getR dX11_count_90 fd_X11_142 sh_1 rfl ?_
    refine g_iload_n dX11_count_93 rfl ?_
    refine g_iconst dX11_count_94 ⟨by decide, by decide⟩ ?_
    obtain ⟨hc, hF⟩ := hF
    refine g_isub dX11_count_95 hc ?_
    obtain ⟨hc, hF⟩ := hF
    refine g_iald dX11_count_96 sh_6 hc.1 hc.2 ?_
    exact gw_iret dX11_count_97 rfl hF
  rcases Decidable.em (v1 = 4) with q1_4 | q1_4
  · have hF := hF.2.2.2.2.1 q1_4
    refine g_tsIn dX11_count_1 (by omega) (by omega) (by rw [q1_4] <;> rfl) rfl ?_
    refine g_aload_n dX11_count_86 rfl ?_
    refine g_getR dX11_count_87 fd_X11_12 sh_0 rfl ?_
    refine g_getR dX11_count_90 fd_X11_142 sh_1 rfl ?_
    refine g_iload_n dX11_count_93 rfl ?_
    refine g_iconst dX11_count_94 ⟨by decide, by decide⟩ ?_
    obtain ⟨hc, hF⟩ := hF
    refine g_isub dX11_count_95 hc ?_
    obtain ⟨hc, hF⟩ := hF
    refine g_iald dX11_count_96 sh_6 hc.1 hc.2 ?_
    exact gw_iret dX11_count_97 rfl hF
  rcases Decidable.em (v1 = 5) with q1_5 | q1_5
  · have hF := hF.2.2.2.2.2.1 q1_5
    refine g_tsIn dX11_count_1 (by omega) (by omega) (by rw [q1_5] <;> rfl) rfl ?_
    refine g_aload_n dX11_count_86 rfl ?_
    refine g_getR dX11_count_87 fd_X11_12 sh_0 rfl ?_
    refine g_getR dX11_count_90 fd_X11_142 sh_1 rfl ?_
    refine g_iload_n dX11_count_93 rfl ?_
    refine g_iconst dX11_count_94 ⟨by decide, by decide⟩ ?_
    obtain ⟨hc, hF⟩ := hF
    refine g_isub dX11_count_95 hc ?_
    obtain ⟨hc, hF⟩ := hF
    refine g_iald dX11_count_96 sh_6 hc.1 hc.2 ?_
    exact gw_iret dX11_count_97 rfl hF
  rcases Decidable.em (v1 = 6) with q1_6 | q1_6
  · have hF := hF.2.2.2.2.2.2.1 q1_6
    refine g_tsIn dX11_count_1 (by omega) (by omega) (by rw [q1_6] <;> rfl) rfl ?_
    refine g_aload_n dX11_count_98 rfl ?_
    refine gw_cVv (b := 0) (As := []) (rest := []) dX11_count_99 mv_X11_310 sh_0 rfl (Nat.le_of_ble_eq_true rfl) (by decide) rfl hF ?_
    intro D1 hF
    refine g_aload_n dX11_count_102 rfl ?_
    refine g_getR dX11_count_103 fd_X11_77 sh_0 rfl ?_
    refine g_getR dX11_count_106 fd_X11_388 sh_175 rfl ?_
    refine g_getI dX11_count_109 fd_X11_391 sh_176 rfl ?_
    exact gw_iret dX11_count_112 rfl hF
  rcases Decidable.em (v1 = 7) with q1_7 | q1_7
  · have hF := hF.2.2.2.2.2.2.2.1 q1_7
    refine g_tsIn dX11_count_1 (by omega) (by omega) (by rw [q1_7] <;> rfl) rfl ?_
    refine g_aload_n dX11_count_113 rfl ?_
    refine g_getR dX11_count_114 fd_X11_12 sh_0 rfl ?_
    refine g_getR dX11_count_117 fd_X11_119 sh_1 rfl ?_
    refine g_getI dX11_count_120 fd_X11_349 sh_7 rfl ?_
    refine g_ifeq dX11_count_123 rfl (fun q => ?_) (fun q => ?_)
    · have hF := hF.1 q
      refine g_iconst dX11_count_139 ⟨by decide, by decide⟩ ?_
      exact gw_iret dX11_count_140 rfl hF
    · have hF := hF.2 q
      refine g_aload_n dX11_count_126 rfl ?_
      refine g_getR dX11_count_127 fd_X11_12 sh_0 rfl ?_
      refine g_getR dX11_count_130 fd_X11_119 sh_1 rfl ?_
      refine g_getI dX11_count_133 fd_X11_334 sh_7 rfl ?_
      refine g_goto dX11_count_136 rfl ?_
      exact gw_iret dX11_count_140 rfl hF
  rcases Decidable.em (v1 = 8) with q1_8 | q1_8
  · have hF := hF.2.2.2.2.2.2.2.2.1 q1_8
    refine g_tsIn dX11_count_1 (by omega) (by omega) (by rw [q1_8] <;> rfl) rfl ?_
    refine g_aload_n dX11_count_141 rfl ?_
    refine g_getR dX11_count_142 fd_X11_12 sh_0 rfl ?_
    refine g_getR dX11_count_145 fd_X11_119 sh_1 rfl ?_
    refine g_getI dX11_count_148 fd_X11_303 sh_7 rfl ?_
    refine g_ifeq dX11_count_151 rfl (fun q => ?_) (fun q => ?_)
    · have hF := hF.1 q
      refine g_iconst dX11_count_158 ⟨by decide, by decide⟩ ?_
      exact gw_iret dX11_count_159 rfl hF
    · have hF := hF.2 q
      refine g_iconst dX11_count_154 ⟨by decide, by decide⟩ ?_
      refine g_goto dX11_count_155 rfl ?_
      exact gw_iret dX11_count_159 rfl hF
  rcases Decidable.em (v1 = 9) with q1_9 | q1_9
  · have hF := hF.2.2.2.2.2.2.2.2.2.1 q1_9
    refine g_tsIn dX11_count_1 (by omega) (by omega) (by rw [q1_9] <;> rfl) rfl ?_
    refine g_aload_n dX11_count_160 rfl ?_
    refine g_getR dX11_count_161 fd_X11_12 sh_0 rfl ?_
    refine g_getR dX11_count_164 fd_X11_119 sh_1 rfl ?_
    refine g_getI dX11_count_167 fd_X11_413 sh_7 rfl ?_
    exact gw_iret dX11_count_170 rfl hF
  rcases Decidable.em (v1 = 10) with q1_10 | q1_10
  · have hF := hF.2.2.2.2.2.2.2.2.2.2.1 q1_10
    refine g_tsIn dX11_count_1 (by omega) (by omega) (by rw [q1_10] <;> rfl) rfl ?_
    refine g_aload_n dX11_count_171 rfl ?_
    refine g_getR dX11_count_172 fd_X11_43 sh_0 rfl ?_
    refine g_getI dX11_count_175 fd_X11_359 sh_52 rfl ?_
    exact gw_iret dX11_count_178 rfl hF
  rcases Decidable.em (v1 = 11) with q1_11 | q1_11
  · have hF := hF.2.2.2.2.2.2.2.2.2.2.2.1 q1_11
    refine g_tsIn dX11_count_1 (by omega) (by omega) (by rw [q1_11] <;> rfl) rfl ?_
    refine g_aload_n dX11_count_179 rfl ?_
    refine g_getR dX11_count_180 fd_X11_29 sh_0 rfl ?_
    refine g_getI dX11_count_183 fd_X11_98 sh_45 rfl ?_
    exact gw_iret dX11_count_186 rfl hF
  have q1 : v1 < 0 ∨ 11 < v1 := by omega
  have hF := hF.2.2.2.2.2.2.2.2.2.2.2.2 q1
  refine g_tsOut dX11_count_1 q1 rfl ?_
  refine g_iconst dX11_count_187 ⟨by decide, by decide⟩ ?_
  exact gw_iret dX11_count_188 rfl hF
theorem dX11_cut_0 : decode cX11_cut 0 = .ok (.iload_n 1, 1) := by decide +kernel
theorem dX11_cut_1 : decode cX11_cut 1 = .ok (.ifCond .lt 17, 3) := by decide +kernel
theorem dX11_cut_4 : decode cX11_cut 4 = .ok (.iload_n 1, 1) := by decide +kernel
theorem dX11_cut_5 : decode cX11_cut 5 = .ok (.iconst 4, 1) := by decide +kernel
theorem dX11_cut_6 : decode cX11_cut 6 = .ok (.if_icmp .ge 12, 3) := by decide +kernel
theorem dX11_cut_9 : decode cX11_cut 9 = .ok (.iload_n 2, 1) := by decide +kernel
theorem dX11_cut_10 : decode cX11_cut 10 = .ok (.ifCond .lt 8, 3) := by decide +kernel
theorem dX11_cut_13 : decode cX11_cut 13 = .ok (.iload_n 2, 1) := by decide +kernel
theorem dX11_cut_14 : decode cX11_cut 14 = .ok (.iconst 4, 1) := by decide +kernel
theorem dX11_cut_15 : decode cX11_cut 15 = .ok (.if_icmp .lt 6, 3) := by decide +kernel
theorem dX11_cut_18 : decode cX11_cut 18 = .ok (.bipush (-3), 2) := by decide +kernel
theorem dX11_cut_20 : decode cX11_cut 20 = .ok (.ireturn, 1) := by decide +kernel
theorem dX11_cut_21 : decode cX11_cut 21 = .ok (.aload_n 0, 1) := by decide +kernel
theorem dX11_cut_22 : decode cX11_cut 22 = .ok (.invokevirtual 310, 3) := by decide +kernel
theorem dX11_cut_25 : decode cX11_cut 25 = .ok (.aload_n 0, 1) := by decide +kernel
theorem dX11_cut_26 : decode cX11_cut 26 = .ok (.getfield 12, 3) := by decide +kernel
theorem dX11_cut_29 : decode cX11_cut 29 = .ok (.getfield 119, 3) := by decide +kernel
theorem dX11_cut_32 : decode cX11_cut 32 = .ok (.astore_n 3, 1) := by decide +kernel
theorem dX11_cut_33 : decode cX11_cut 33 = .ok (.aload_n 3, 1) := by decide +kernel
theorem dX11_cut_34 : decode cX11_cut 34 = .ok (.getfield 303, 3) := by decide +kernel
theorem dX11_cut_37 : decode cX11_cut 37 = .ok (.ifCond .eq 17, 3) := by decide +kernel
theorem dX11_cut_40 : decode cX11_cut 40 = .ok (.aload_n 3, 1) := by decide +kernel
theorem dX11_cut_41 : decode cX11_cut 41 = .ok (.getfield 334, 3) := by decide +kernel
theorem dX11_cut_44 : decode cX11_cut 44 = .ok (.aload_n 0, 1) := by decide +kernel
theorem dX11_cut_45 : decode cX11_cut 45 = .ok (.getfield 77, 3) := by decide +kernel
theorem dX11_cut_48 : decode cX11_cut 48 = .ok (.getfield 313, 3) := by decide +kernel
theorem dX11_cut_51 : decode cX11_cut 51 = .ok (.if_icmp .lt 6, 3) := by decide +kernel
theorem dX11_cut_54 : decode cX11_cut 54 = .ok (.bipush (-5), 2) := by decide +kernel
theorem dX11_cut_56 : decode cX11_cut 56 = .ok (.ireturn, 1) := by decide +kernel
theorem dX11_cut_57 : decode cX11_cut 57 = .ok (.aload_n 0, 1) := by decide +kernel
theorem dX11_cut_58 : decode cX11_cut 58 = .ok (.getfield 43, 3) := by decide +kernel
theorem dX11_cut_61 : decode cX11_cut 61 = .ok (.aload_n 3, 1) := by decide +kernel
theorem dX11_cut_62 : decode cX11_cut 62 = .ok (.invokevirtual 295, 3) := by decide +kernel
theorem dX11_cut_65 : decode cX11_cut 65 = .ok (.aload_n 0, 1) := by decide +kernel
theorem dX11_cut_66 : decode cX11_cut 66 = .ok (.getfield 77, 3) := by decide +kernel
theorem dX11_cut_69 : decode cX11_cut 69 = .ok (.aload_n 3, 1) := by decide +kernel
theorem dX11_cut_70 : decode cX11_cut 70 = .ok (.iload_n 1, 1) := by decide +kernel
theorem dX11_cut_71 : decode cX11_cut 71 = .ok (.iload_n 2, 1) := by decide +kernel
theorem dX11_cut_72 : decode cX11_cut 72 = .ok (.invokevirtual 345, 3) := by decide +kernel
theorem dX11_cut_75 : decode cX11_cut 75 = .ok (.aload_n 3, 1) := by decide +kernel
theorem dX11_cut_76 : decode cX11_cut 76 = .ok (.getfield 334, 3) := by decide +kernel
theorem dX11_cut_79 : decode cX11_cut 79 = .ok (.ireturn, 1) := by decide +kernel
abbrev k_X11_cut (E : g_E) (l : Launch) (D : g_D) (v1 : Int) (v2 : Int) (K : Int → g_D → Prop) : Prop := g_Ki E l m_X11_cut 6 [g_R 0, g_I v1, g_I v2] g_SH D K
abbrev n_X11_cut (E : g_E) (l : Launch) (D : g_D) (pc : Nat) (L : List (Option g_V)) (K : Int → g_D → Prop) : Prop := g_N E l m_X11_cut 6 pc L [] g_SH D (g_Ri g_SH K)
theorem s_X11_cut {E : g_E} {l : Launch} {D : g_D} {K : Int → g_D → Prop} {v1 : Int} {v2 : Int}  (hF : g_okD D → g_r v1 → g_r v2 → (v1 < 0 → K (-3) D) ∧ (¬ v1 < 0 → (4 ≤ v1 → K (-3) D) ∧ (¬ 4 ≤ v1 → (v2 < 0 → K (-3) D) ∧ (¬ v2 < 0 → (v2 < 4 → k_X11_makeCourse E l D (fun D1 => ((D1 7 9) = 0 → K (-5) D1) ∧ (¬ (D1 7 9) = 0 → ((D1 7 7) < (D1 175 4) → k_X3_keep E l D1 7 (fun D2 => k_X1_cutPower E l D2 7 v1 v2 (fun D3 => K (D3 7 7) D3))) ∧ (¬ (D1 7 7) < (D1 175 4) → K (-5) D1)))) ∧ (¬ v2 < 4 → K (-3) D))))) : k_X11_cut E l D v1 v2 K := by
  refine g_enter (by decide) (Nat.le_of_ble_eq_true rfl) ?_
  show g_N E l m_X11_cut 6 0 [some (g_R 0), some (g_I v1), some (g_I v2), none] [] g_SH D (g_Ri g_SH K)
  refine g_use (fun ok => ?_)
  have hF := hF ok.2.1 (ok.loc (i := 1) rfl) (ok.loc (i := 2) rfl)
  refine g_iload_n dX11_cut_0 rfl ?_
  refine g_iflt dX11_cut_1 rfl (fun q => ?_) (fun q => ?_)
  · have hF := hF.1 q
    refine g_bipush dX11_cut_18 ⟨by decide, by decide⟩ ?_
    exact gw_iret dX11_cut_20 rfl hF
  · have hF := hF.2 q
    refine g_iload_n dX11_cut_4 rfl ?_
    refine g_iconst dX11_cut_5 ⟨by decide, by decide⟩ ?_
    refine g_cge dX11_cut_6 rfl (fun q => ?_) (fun q => ?_)
    · have hF := hF.1 q
      refine g_bipush dX11_cut_18 ⟨by decide, by decide⟩ ?_
      exact gw_iret dX11_cut_20 rfl hF
    · have hF := hF.2 q
      refine g_iload_n dX11_cut_9 rfl ?_
      refine g_iflt dX11_cut_10 rfl (fun q => ?_) (fun q => ?_)
      · have hF := hF.1 q
        refine g_bipush dX11_cut_18 ⟨by decide, by decide⟩ ?_
        exact gw_iret dX11_cut_20 rfl hF
      · have hF := hF.2 q
        refine g_iload_n dX11_cut_13 rfl ?_
        refine g_iconst dX11_cut_14 ⟨by decide, by decide⟩ ?_
        refine g_clt dX11_cut_15 rfl (fun q => ?_) (fun q => ?_)
        · have hF := hF.1 q
          refine g_aload_n dX11_cut_21 rfl ?_
          refine gw_cVv (b := 0) (As := []) (rest := []) dX11_cut_22 mv_X11_310 sh_0 rfl (Nat.le_of_ble_eq_true rfl) (by decide) rfl hF ?_
          intro D1 hF
          refine g_aload_n dX11_cut_25 rfl ?_
          refine g_getR dX11_cut_26 fd_X11_12 sh_0 rfl ?_
          refine g_getR dX11_cut_29 fd_X11_119 sh_1 rfl ?_
          refine gw_astore_n (L' := [some (g_R 0), some (g_I v1), some (g_I v2), some (g_R 7)]) dX11_cut_32 (by decide) rfl ?_
          refine g_aload_n dX11_cut_33 rfl ?_
          refine g_getI dX11_cut_34 fd_X11_303 sh_7 rfl ?_
          refine g_ifeq dX11_cut_37 rfl (fun q => ?_) (fun q => ?_)
          · have hF := hF.1 q
            refine g_bipush dX11_cut_54 ⟨by decide, by decide⟩ ?_
            exact gw_iret dX11_cut_56 rfl hF
          · have hF := hF.2 q
            refine g_aload_n dX11_cut_40 rfl ?_
            refine g_getI dX11_cut_41 fd_X11_334 sh_7 rfl ?_
            refine g_aload_n dX11_cut_44 rfl ?_
            refine g_getR dX11_cut_45 fd_X11_77 sh_0 rfl ?_
            refine g_getI dX11_cut_48 fd_X11_313 sh_175 rfl ?_
            refine g_clt dX11_cut_51 rfl (fun q => ?_) (fun q => ?_)
            · have hF := hF.1 q
              refine g_aload_n dX11_cut_57 rfl ?_
              refine g_getR dX11_cut_58 fd_X11_43 sh_0 rfl ?_
              refine g_aload_n dX11_cut_61 rfl ?_
              refine gw_cVv (b := 52) (As := [g_R 7]) (rest := []) dX11_cut_62 mv_X11_295 sh_52 rfl (Nat.le_of_ble_eq_true rfl) (by decide) rfl hF ?_
              intro D2 hF
              refine g_aload_n dX11_cut_65 rfl ?_
              refine g_getR dX11_cut_66 fd_X11_77 sh_0 rfl ?_
              refine g_aload_n dX11_cut_69 rfl ?_
              refine g_iload_n dX11_cut_70 rfl ?_
              refine g_iload_n dX11_cut_71 rfl ?_
              refine gw_cVv (b := 175) (As := [g_R 7, g_I v1, g_I v2]) (rest := []) dX11_cut_72 mv_X11_345 sh_175 rfl (Nat.le_of_ble_eq_true rfl) (by decide) rfl hF ?_
              intro D3 hF
              refine g_aload_n dX11_cut_75 rfl ?_
              refine g_getI dX11_cut_76 fd_X11_334 sh_7 rfl ?_
              exact gw_iret dX11_cut_79 rfl hF
            · have hF := hF.2 q
              refine g_bipush dX11_cut_54 ⟨by decide, by decide⟩ ?_
              exact gw_iret dX11_cut_56 rfl hF
        · have hF := hF.2 q
          refine g_bipush dX11_cut_18 ⟨by decide, by decide⟩ ?_
          exact gw_iret dX11_cut_20 rfl hF
theorem dX11_cuts_0 : decode cX11_cuts 0 = .ok (.iload_n 1, 1) := by decide +kernel
theorem dX11_cuts_1 : decode cX11_cuts 1 = .ok (.ifCond .lt 8, 3) := by decide +kernel
theorem dX11_cuts_4 : decode cX11_cuts 4 = .ok (.iload_n 1, 1) := by decide +kernel
theorem dX11_cuts_5 : decode cX11_cuts 5 = .ok (.iconst 4, 1) := by decide +kernel
theorem dX11_cuts_6 : decode cX11_cuts 6 = .ok (.if_icmp .lt 6, 3) := by decide +kernel
theorem dX11_cuts_9 : decode cX11_cuts 9 = .ok (.bipush (-2), 2) := by decide +kernel
theorem dX11_cuts_11 : decode cX11_cuts 11 = .ok (.ireturn, 1) := by decide +kernel
theorem dX11_cuts_12 : decode cX11_cuts 12 = .ok (.aload_n 0, 1) := by decide +kernel
theorem dX11_cuts_13 : decode cX11_cuts 13 = .ok (.invokevirtual 310, 3) := by decide +kernel
theorem dX11_cuts_16 : decode cX11_cuts 16 = .ok (.aload_n 0, 1) := by decide +kernel
theorem dX11_cuts_17 : decode cX11_cuts 17 = .ok (.getfield 84, 3) := by decide +kernel
theorem dX11_cuts_20 : decode cX11_cuts 20 = .ok (.aload_n 0, 1) := by decide +kernel
theorem dX11_cuts_21 : decode cX11_cuts 21 = .ok (.getfield 77, 3) := by decide +kernel
theorem dX11_cuts_24 : decode cX11_cuts 24 = .ok (.iload_n 1, 1) := by decide +kernel
theorem dX11_cuts_25 : decode cX11_cuts 25 = .ok (.invokevirtual 395, 3) := by decide +kernel
theorem dX11_cuts_28 : decode cX11_cuts 28 = .ok (.ireturn, 1) := by decide +kernel
abbrev k_X11_cuts (E : g_E) (l : Launch) (D : g_D) (v1 : Int) (K : Int → g_D → Prop) : Prop := g_Ki E l m_X11_cuts 7 [g_R 0, g_I v1] g_SH D K
abbrev n_X11_cuts (E : g_E) (l : Launch) (D : g_D) (pc : Nat) (L : List (Option g_V)) (K : Int → g_D → Prop) : Prop := g_N E l m_X11_cuts 7 pc L [] g_SH D (g_Ri g_SH K)
theorem s_X11_cuts {E : g_E} {l : Launch} {D : g_D} {K : Int → g_D → Prop} {v1 : Int}  (hF : g_okD D → g_r v1 → (v1 < 0 → K (-2) D) ∧ (¬ v1 < 0 → (v1 < 4 → k_X11_makeCourse E l D (fun D1 => k_X10_survived E l D1 v1 (fun x2 D2 => g_r x2 → K x2 D2))) ∧ (¬ v1 < 4 → K (-2) D))) : k_X11_cuts E l D v1 K := by
  refine g_enter (by decide) (Nat.le_of_ble_eq_true rfl) ?_
  show g_N E l m_X11_cuts 7 0 [some (g_R 0), some (g_I v1)] [] g_SH D (g_Ri g_SH K)
  refine g_use (fun ok => ?_)
  have hF := hF ok.2.1 (ok.loc (i := 1) rfl)
  refine g_iload_n dX11_cuts_0 rfl ?_
  refine g_iflt dX11_cuts_1 rfl (fun q => ?_) (fun q => ?_)
  · have hF := hF.1 q
    refine g_bipush dX11_cuts_9 ⟨by decide, by decide⟩ ?_
    exact gw_iret dX11_cuts_11 rfl hF
  · have hF := hF.2 q
    refine g_iload_n dX11_cuts_4 rfl ?_
    refine g_iconst dX11_cuts_5 ⟨by decide, by decide⟩ ?_
    refine g_clt dX11_cuts_6 rfl (fun q => ?_) (fun q => ?_)
    · have hF := hF.1 q
      refine g_aload_n dX11_cuts_12 rfl ?_
      refine gw_cVv (b := 0) (As := []) (rest := []) dX11_cuts_13 mv_X11_310 sh_0 rfl (Nat.le_of_ble_eq_true rfl) (by decide) rfl hF ?_
      intro D1 hF
      refine g_aload_n dX11_cuts_16 rfl ?_
      refine g_getR dX11_cuts_17 fd_X11_84 sh_0 rfl ?_
      refine g_aload_n dX11_cuts_20 rfl ?_
      refine g_getR dX11_cuts_21 fd_X11_77 sh_0 rfl ?_
      refine g_iload_n dX11_cuts_24 rfl ?_
      refine gw_cVi (b := 198) (As := [g_R 175, g_I v1]) (rest := []) dX11_cuts_25 mv_X11_395 sh_198 rfl (Nat.le_of_ble_eq_true rfl) (by decide) rfl hF ?_
      intro x2 D2 hx2 hF
      have hF := hF hx2
      exact gw_iret dX11_cuts_28 rfl hF
    · have hF := hF.2 q
      refine g_bipush dX11_cuts_9 ⟨by decide, by decide⟩ ?_
      exact gw_iret dX11_cuts_11 rfl hF
theorem dX11_digest_0 : decode cX11_digest 0 = .ok (.iload_n 1, 1) := by decide +kernel
theorem dX11_digest_1 : decode cX11_digest 1 = .ok (.ifCond .lt 9, 3) := by decide +kernel
theorem dX11_digest_4 : decode cX11_digest 4 = .ok (.iload_n 1, 1) := by decide +kernel
theorem dX11_digest_5 : decode cX11_digest 5 = .ok (.bipush 10, 2) := by decide +kernel
theorem dX11_digest_7 : decode cX11_digest 7 = .ok (.if_icmp .lt 7, 3) := by decide +kernel
theorem dX11_digest_10 : decode cX11_digest 10 = .ok (.ldc2_w 364, 3) := by decide +kernel
theorem dX11_digest_13 : decode cX11_digest 13 = .ok (.lreturn, 1) := by decide +kernel
theorem dX11_digest_14 : decode cX11_digest 14 = .ok (.aload_n 0, 1) := by decide +kernel
theorem dX11_digest_15 : decode cX11_digest 15 = .ok (.getfield 12, 3) := by decide +kernel
theorem dX11_digest_18 : decode cX11_digest 18 = .ok (.getfield 119, 3) := by decide +kernel
theorem dX11_digest_21 : decode cX11_digest 21 = .ok (.getfield 123, 3) := by decide +kernel
theorem dX11_digest_24 : decode cX11_digest 24 = .ok (.iload_n 1, 1) := by decide +kernel
theorem dX11_digest_25 : decode cX11_digest 25 = .ok (.iconst 4, 1) := by decide +kernel
theorem dX11_digest_26 : decode cX11_digest 26 = .ok (.imul, 1) := by decide +kernel
theorem dX11_digest_27 : decode cX11_digest 27 = .ok (.invokestatic 366, 3) := by decide +kernel
theorem dX11_digest_30 : decode cX11_digest 30 = .ok (.invokestatic 369, 3) := by decide +kernel
theorem dX11_digest_33 : decode cX11_digest 33 = .ok (.lreturn, 1) := by decide +kernel
abbrev k_X11_digest (E : g_E) (l : Launch) (D : g_D) (v1 : Int) (K : Int → g_D → Prop) : Prop := g_Kl E l m_X11_digest 1 [g_R 0, g_I v1] g_SH D K
abbrev n_X11_digest (E : g_E) (l : Launch) (D : g_D) (pc : Nat) (L : List (Option g_V)) (K : Int → g_D → Prop) : Prop := g_N E l m_X11_digest 1 pc L [] g_SH D (g_Rl g_SH K)
theorem s_X11_digest {E : g_E} {l : Launch} {D : g_D} {K : Int → g_D → Prop} {v1 : Int}  (hF : g_okD D → g_r v1 → (v1 < 0 → K (-2) D) ∧ (¬ v1 < 0 → (v1 < 10 → (g_r (v1 * 4)) ∧ (k_X11_packed E l g_SH D 8 (v1 * 4) (fun x1 D1 => g_r x1 → k_X11_digestOf E l g_SH D1 x1 (fun x2 D2 => g_r8 x2 → K x2 D2)))) ∧ (¬ v1 < 10 → K (-2) D))) : k_X11_digest E l D v1 K := by
  refine g_enter (by decide) (Nat.le_of_ble_eq_true rfl) ?_
  show g_N E l m_X11_digest 1 0 [some (g_R 0), some (g_I v1)] [] g_SH D (g_Rl g_SH K)
  refine g_use (fun ok => ?_)
  have hF := hF ok.2.1 (ok.loc (i := 1) rfl)
  refine g_iload_n dX11_digest_0 rfl ?_
  refine g_iflt dX11_digest_1 rfl (fun q => ?_) (fun q => ?_)
  · have hF := hF.1 q
    refine g_ldc2 dX11_digest_10 ⟨by decide, by decide⟩ kl_X11_364 ?_
    exact gw_lret dX11_digest_13 rfl hF
  · have hF := hF.2 q
    refine g_iload_n dX11_digest_4 rfl ?_
    refine g_bipush dX11_digest_5 ⟨by decide, by decide⟩ ?_
    refine g_clt dX11_digest_7 rfl (fun q => ?_) (fun q => ?_)
    · have hF := hF.1 q
      refine g_aload_n dX11_digest_14 rfl ?_
      refine g_getR dX11_digest_15 fd_X11_12 sh_0 rfl ?_
      refine g_getR dX11_digest_18 fd_X11_119 sh_1 rfl ?_
      refine g_getR dX11_digest_21 fd_X11_123 sh_7 rfl ?_
      refine g_iload_n dX11_digest_24 rfl ?_
      refine g_iconst dX11_digest_25 ⟨by decide, by decide⟩ ?_
      obtain ⟨hc, hF⟩ := hF
      refine g_imul dX11_digest_26 hc ?_
      refine gw_cSi (As := [g_R 8, g_I (v1 * 4)]) (rest := []) dX11_digest_27 ms_X11_366 rfl (Nat.le_of_ble_eq_true rfl) (by decide) rfl hF ?_
      intro x1 D1 hx1 hF
      have hF := hF hx1
      refine gw_cSl (As := [g_I x1]) (rest := []) dX11_digest_30 ms_X11_369 rfl (Nat.le_of_ble_eq_true rfl) (by decide) rfl hF ?_
      intro x2 D2 hx2 hF
      have hF := hF hx2
      exact gw_lret dX11_digest_33 rfl hF
    · have hF := hF.2 q
      refine g_ldc2 dX11_digest_10 ⟨by decide, by decide⟩ kl_X11_364 ?_
      exact gw_lret dX11_digest_13 rfl hF
theorem dX11_due_0 : decode cX11_due 0 = .ok (.aload_n 0, 1) := by decide +kernel
theorem dX11_due_1 : decode cX11_due 1 = .ok (.invokevirtual 310, 3) := by decide +kernel
theorem dX11_due_4 : decode cX11_due 4 = .ok (.iload_n 1, 1) := by decide +kernel
theorem dX11_due_5 : decode cX11_due 5 = .ok (.ifCond .lt 24, 3) := by decide +kernel
theorem dX11_due_8 : decode cX11_due 8 = .ok (.iload_n 1, 1) := by decide +kernel
theorem dX11_due_9 : decode cX11_due 9 = .ok (.aload_n 0, 1) := by decide +kernel
theorem dX11_due_10 : decode cX11_due 10 = .ok (.getfield 77, 3) := by decide +kernel
theorem dX11_due_13 : decode cX11_due 13 = .ok (.getfield 313, 3) := by decide +kernel
theorem dX11_due_16 : decode cX11_due 16 = .ok (.if_icmp .gt 13, 3) := by decide +kernel
theorem dX11_due_19 : decode cX11_due 19 = .ok (.iload_n 2, 1) := by decide +kernel
theorem dX11_due_20 : decode cX11_due 20 = .ok (.ifCond .lt 9, 3) := by decide +kernel
theorem dX11_due_23 : decode cX11_due 23 = .ok (.iload_n 2, 1) := by decide +kernel
theorem dX11_due_24 : decode cX11_due 24 = .ok (.bipush 10, 2) := by decide +kernel
theorem dX11_due_26 : decode cX11_due 26 = .ok (.if_icmp .lt 7, 3) := by decide +kernel
theorem dX11_due_29 : decode cX11_due 29 = .ok (.ldc2_w 364, 3) := by decide +kernel
theorem dX11_due_32 : decode cX11_due 32 = .ok (.lreturn, 1) := by decide +kernel
theorem dX11_due_33 : decode cX11_due 33 = .ok (.aload_n 0, 1) := by decide +kernel
theorem dX11_due_34 : decode cX11_due 34 = .ok (.getfield 77, 3) := by decide +kernel
theorem dX11_due_37 : decode cX11_due 37 = .ok (.iload_n 1, 1) := by decide +kernel
theorem dX11_due_38 : decode cX11_due 38 = .ok (.iload_n 2, 1) := by decide +kernel
theorem dX11_due_39 : decode cX11_due 39 = .ok (.invokevirtual 331, 3) := by decide +kernel
theorem dX11_due_42 : decode cX11_due 42 = .ok (.invokestatic 369, 3) := by decide +kernel
theorem dX11_due_45 : decode cX11_due 45 = .ok (.lreturn, 1) := by decide +kernel
abbrev k_X11_due (E : g_E) (l : Launch) (D : g_D) (v1 : Int) (v2 : Int) (K : Int → g_D → Prop) : Prop := g_Kl E l m_X11_due 6 [g_R 0, g_I v1, g_I v2] g_SH D K
abbrev n_X11_due (E : g_E) (l : Launch) (D : g_D) (pc : Nat) (L : List (Option g_V)) (K : Int → g_D → Prop) : Prop := g_N E l m_X11_due 6 pc L [] g_SH D (g_Rl g_SH K)
theorem s_X11_due {E : g_E} {l : Launch} {D : g_D} {K : Int → g_D → Prop} {v1 : Int} {v2 : Int}  (hF : g_okD D → g_r v1 → g_r v2 → k_X11_makeCourse E l D (fun D1 => (v1 < 0 → K (-2) D1) ∧ (¬ v1 < 0 → ((D1 175 4) < v1 → K (-2) D1) ∧ (¬ (D1 175 4) < v1 → (v2 < 0 → K (-2) D1) ∧ (¬ v2 < 0 → (v2 < 10 → k_X1_dueBlock E l D1 v1 v2 (fun x2 D2 => g_r x2 → k_X11_digestOf E l g_SH D2 x2 (fun x3 D3 => g_r8 x3 → K x3 D3))) ∧ (¬ v2 < 10 → K (-2) D1)))))) : k_X11_due E l D v1 v2 K := by
  refine g_enter (by decide) (Nat.le_of_ble_eq_true rfl) ?_
  show g_N E l m_X11_due 6 0 [some (g_R 0), some (g_I v1), some (g_I v2)] [] g_SH D (g_Rl g_SH K)
  refine g_use (fun ok => ?_)
  have hF := hF ok.2.1 (ok.loc (i := 1) rfl) (ok.loc (i := 2) rfl)
  refine g_aload_n dX11_due_0 rfl ?_
  refine gw_cVv (b := 0) (As := []) (rest := []) dX11_due_1 mv_X11_310 sh_0 rfl (Nat.le_of_ble_eq_true rfl) (by decide) rfl hF ?_
  intro D1 hF
  refine g_iload_n dX11_due_4 rfl ?_
  refine g_iflt dX11_due_5 rfl (fun q => ?_) (fun q => ?_)
  · have hF := hF.1 q
    refine g_ldc2 dX11_due_29 ⟨by decide, by decide⟩ kl_X11_364 ?_
    exact gw_lret dX11_due_32 rfl hF
  · have hF := hF.2 q
    refine g_iload_n dX11_due_8 rfl ?_
    refine g_aload_n dX11_due_9 rfl ?_
    refine g_getR dX11_due_10 fd_X11_77 sh_0 rfl ?_
    refine g_getI dX11_due_13 fd_X11_313 sh_175 rfl ?_
    refine g_cgt dX11_due_16 rfl (fun q => ?_) (fun q => ?_)
    · have hF := hF.1 q
      refine g_ldc2 dX11_due_29 ⟨by decide, by decide⟩ kl_X11_364 ?_
      exact gw_lret dX11_due_32 rfl hF
    · have hF := hF.2 q
      refine g_iload_n dX11_due_19 rfl ?_
      refine g_iflt dX11_due_20 rfl (fun q => ?_) (fun q => ?_)
      · have hF := hF.1 q
        refine g_ldc2 dX11_due_29 ⟨by decide, by decide⟩ kl_X11_364 ?_
        exact gw_lret dX11_due_32 rfl hF
      · have hF := hF.2 q
        refine g_iload_n dX11_due_23 rfl ?_
        refine g_bipush dX11_due_24 ⟨by decide, by decide⟩ ?_
        refine g_clt dX11_due_26 rfl (fun q => ?_) (fun q => ?_)
        · have hF := hF.1 q
          refine g_aload_n dX11_due_33 rfl ?_
          refine g_getR dX11_due_34 fd_X11_77 sh_0 rfl ?_
          refine g_iload_n dX11_due_37 rfl ?_
          refine g_iload_n dX11_due_38 rfl ?_
          refine gw_cVi (b := 175) (As := [g_I v1, g_I v2]) (rest := []) dX11_due_39 mv_X11_331 sh_175 rfl (Nat.le_of_ble_eq_true rfl) (by decide) rfl hF ?_
          intro x2 D2 hx2 hF
          have hF := hF hx2
          refine gw_cSl (As := [g_I x2]) (rest := []) dX11_due_42 ms_X11_369 rfl (Nat.le_of_ble_eq_true rfl) (by decide) rfl hF ?_
          intro x3 D3 hx3 hF
          have hF := hF hx3
          exact gw_lret dX11_due_45 rfl hF
        · have hF := hF.2 q
          refine g_ldc2 dX11_due_29 ⟨by decide, by decide⟩ kl_X11_364 ?_
          exact gw_lret dX11_due_32 rfl hF
theorem dX11_fault_0 : decode cX11_fault 0 = .ok (.iload_n 1, 1) := by decide +kernel
theorem dX11_fault_1 : decode cX11_fault 1 = .ok (.ifCond .ne 11, 3) := by decide +kernel
theorem dX11_fault_4 : decode cX11_fault 4 = .ok (.aload_n 0, 1) := by decide +kernel
theorem dX11_fault_5 : decode cX11_fault 5 = .ok (.getfield 36, 3) := by decide +kernel
theorem dX11_fault_8 : decode cX11_fault 8 = .ok (.getfield 319, 3) := by decide +kernel
theorem dX11_fault_11 : decode cX11_fault 11 = .ok (.ireturn, 1) := by decide +kernel
theorem dX11_fault_12 : decode cX11_fault 12 = .ok (.iload_n 1, 1) := by decide +kernel
theorem dX11_fault_13 : decode cX11_fault 13 = .ok (.iconst 1, 1) := by decide +kernel
theorem dX11_fault_14 : decode cX11_fault 14 = .ok (.if_icmp .ne 13, 3) := by decide +kernel
theorem dX11_fault_17 : decode cX11_fault 17 = .ok (.aload_n 0, 1) := by decide +kernel
theorem dX11_fault_18 : decode cX11_fault 18 = .ok (.getfield 36, 3) := by decide +kernel
theorem dX11_fault_21 : decode cX11_fault 21 = .ok (.getfield 322, 3) := by decide +kernel
theorem dX11_fault_24 : decode cX11_fault 24 = .ok (.goto 4, 3) := by decide +kernel
theorem dX11_fault_27 : decode cX11_fault 27 = .ok (.iconst (-1), 1) := by decide +kernel
theorem dX11_fault_28 : decode cX11_fault 28 = .ok (.ireturn, 1) := by decide +kernel
abbrev k_X11_fault (E : g_E) (l : Launch) (D : g_D) (v1 : Int) (K : Int → g_D → Prop) : Prop := g_Ki E l m_X11_fault 0 [g_R 0, g_I v1] g_SH D K
abbrev n_X11_fault (E : g_E) (l : Launch) (D : g_D) (pc : Nat) (L : List (Option g_V)) (K : Int → g_D → Prop) : Prop := g_N E l m_X11_fault 0 pc L [] g_SH D (g_Ri g_SH K)
theorem s_X11_fault {E : g_E} {l : Launch} {D : g_D} {K : Int → g_D → Prop} {v1 : Int}  (hF : g_okD D → g_r v1 → (¬ v1 = 0 → (¬ v1 = 1 → K (-1) D) ∧ (v1 = 1 → K (D 47 6) D)) ∧ (v1 = 0 → K (D 47 5) D)) : k_X11_fault E l D v1 K := by
  refine g_enter (by decide) (Nat.le_of_ble_eq_true rfl) ?_
  show g_N E l m_X11_fault 0 0 [some (g_R 0), some (g_I v1)] [] g_SH D (g_Ri g_SH K)
  refine g_use (fun ok => ?_)
  have hF := hF ok.2.1 (ok.loc (i := 1) rfl)
  refine g_iload_n dX11_fault_0 rfl ?_
  refine g_ifne dX11_fault_1 rfl (fun q => ?_) (fun q => ?_)
  · have hF := hF.1 q
    refine g_iload_n dX11_fault_12 rfl ?_
    refine g_iconst dX11_fault_13 ⟨by decide, by decide⟩ ?_
    refine g_cne dX11_fault_14 rfl (fun q => ?_) (fun q => ?_)
    · have hF := hF.1 q
      refine g_iconst dX11_fault_27 ⟨by decide, by decide⟩ ?_
      exact gw_iret dX11_fault_28 rfl hF
    · have hF := hF.2 q
      refine g_aload_n dX11_fault_17 rfl ?_
      refine g_getR dX11_fault_18 fd_X11_36 sh_0 rfl ?_
      refine g_getI dX11_fault_21 fd_X11_322 sh_47 rfl ?_
      refine g_goto dX11_fault_24 rfl ?_
      exact gw_iret dX11_fault_28 rfl hF
  · have hF := hF.2 q
    refine g_aload_n dX11_fault_4 rfl ?_
    refine g_getR dX11_fault_5 fd_X11_36 sh_0 rfl ?_
    refine g_getI dX11_fault_8 fd_X11_319 sh_47 rfl ?_
    exact gw_iret dX11_fault_11 rfl hF
theorem dX11_feedWord_0 : decode cX11_feedWord 0 = .ok (.bipush 24, 2) := by decide +kernel
theorem dX11_feedWord_2 : decode cX11_feedWord 2 = .ok (.istore_n 2, 1) := by decide +kernel
theorem dX11_feedWord_3 : decode cX11_feedWord 3 = .ok (.iload_n 2, 1) := by decide +kernel
theorem dX11_feedWord_4 : decode cX11_feedWord 4 = .ok (.ifCond .lt 23, 3) := by decide +kernel
theorem dX11_feedWord_7 : decode cX11_feedWord 7 = .ok (.aload_n 0, 1) := by decide +kernel
theorem dX11_feedWord_8 : decode cX11_feedWord 8 = .ok (.getfield 29, 3) := by decide +kernel
theorem dX11_feedWord_11 : decode cX11_feedWord 11 = .ok (.iload_n 1, 1) := by decide +kernel
theorem dX11_feedWord_12 : decode cX11_feedWord 12 = .ok (.iload_n 2, 1) := by decide +kernel
theorem dX11_feedWord_13 : decode cX11_feedWord 13 = .ok (.iushr, 1) := by decide +kernel
theorem dX11_feedWord_14 : decode cX11_feedWord 14 = .ok (.sipush 255, 3) := by decide +kernel
theorem dX11_feedWord_17 : decode cX11_feedWord 17 = .ok (.iand, 1) := by decide +kernel
theorem dX11_feedWord_18 : decode cX11_feedWord 18 = .ok (.invokevirtual 416, 3) := by decide +kernel
theorem dX11_feedWord_21 : decode cX11_feedWord 21 = .ok (.iinc 2 (-8), 3) := by decide +kernel
theorem dX11_feedWord_24 : decode cX11_feedWord 24 = .ok (.goto (-21), 3) := by decide +kernel
theorem dX11_feedWord_27 : decode cX11_feedWord 27 = .ok (.return_, 1) := by decide +kernel
abbrev k_X11_feedWord (E : g_E) (l : Launch) (D : g_D) (v1 : Int) (K : g_D → Prop) : Prop := g_Kv E l m_X11_feedWord 1 [g_R 0, g_I v1] g_SH D K
abbrev n_X11_feedWord (E : g_E) (l : Launch) (D : g_D) (pc : Nat) (L : List (Option g_V)) (K : g_D → Prop) : Prop := g_N E l m_X11_feedWord 1 pc L [] g_SH D (g_Rv g_SH K)
theorem s_X11_feedWord {E : g_E} {l : Launch} {D : g_D} {K : g_D → Prop} {v1 : Int}  (hF : g_okD D → g_r v1 → n_X11_feedWord E l D 3 [some (g_R 0), some (g_I v1), some (g_I 24)] K) : k_X11_feedWord E l D v1 K := by
  refine g_enter (by decide) (Nat.le_of_ble_eq_true rfl) ?_
  show g_N E l m_X11_feedWord 1 0 [some (g_R 0), some (g_I v1), none] [] g_SH D (g_Rv g_SH K)
  refine g_use (fun ok => ?_)
  have hF := hF ok.2.1 (ok.loc (i := 1) rfl)
  refine g_bipush dX11_feedWord_0 ⟨by decide, by decide⟩ ?_
  refine gw_istore_n (L' := [some (g_R 0), some (g_I v1), some (g_I 24)]) dX11_feedWord_2 (by decide) rfl ?_
  exact hF
theorem s_X11_feedWord_3 {E : g_E} {l : Launch} {D : g_D} {K : g_D → Prop} {v1 : Int} {v2 : Int}  (hF : g_okD D → g_r v1 → g_r v2 → (v2 < 0 → K D) ∧ (¬ v2 < 0 → k_X0_push E l g_SH D 45 (g_and (g_ushr v1 v2) 255) (fun D1 => (g_r (v2 + (-8))) ∧ (n_X11_feedWord E l D1 3 [some (g_R 0), some (g_I v1), some (g_I (v2 + (-8)))] K)))) : n_X11_feedWord E l D 3 [some (g_R 0), some (g_I v1), some (g_I v2)] K := by
  refine g_use (fun ok => ?_)
  have hF := hF ok.2.1 (ok.loc (i := 1) rfl) (ok.loc (i := 2) rfl)
  refine g_iload_n dX11_feedWord_3 rfl ?_
  refine g_iflt dX11_feedWord_4 rfl (fun q => ?_) (fun q => ?_)
  · have hF := hF.1 q
    exact gw_vret dX11_feedWord_27 rfl hF
  · have hF := hF.2 q
    refine g_aload_n dX11_feedWord_7 rfl ?_
    refine g_getR dX11_feedWord_8 fd_X11_29 sh_0 rfl ?_
    refine g_iload_n dX11_feedWord_11 rfl ?_
    refine g_iload_n dX11_feedWord_12 rfl ?_
    refine g_iushr dX11_feedWord_13 ?_
    refine g_sipush dX11_feedWord_14 ⟨by decide, by decide⟩ ?_
    refine g_iand dX11_feedWord_17 ?_
    refine gw_cVv (b := 45) (As := [g_I (g_and (g_ushr v1 v2) 255)]) (rest := []) dX11_feedWord_18 mv_X11_416 sh_45 rfl (Nat.le_of_ble_eq_true rfl) (by decide) rfl hF ?_
    intro D1 hF
    obtain ⟨hc, hF⟩ := hF
    refine gw_iinc (L' := [some (g_R 0), some (g_I v1), some (g_I (v2 + (-8)))]) dX11_feedWord_21 rfl hc (by decide) rfl ?_
    refine g_goto dX11_feedWord_24 rfl ?_
    exact hF
theorem dX11_feed_0 : decode cX11_feed 0 = .ok (.aload_n 0, 1) := by decide +kernel
theorem dX11_feed_1 : decode cX11_feed 1 = .ok (.getfield 29, 3) := by decide +kernel
theorem dX11_feed_4 : decode cX11_feed 4 = .ok (.getfield 98, 3) := by decide +kernel
theorem dX11_feed_7 : decode cX11_feed 7 = .ok (.bipush 20, 2) := by decide +kernel
theorem dX11_feed_9 : decode cX11_feed 9 = .ok (.iadd, 1) := by decide +kernel
theorem dX11_feed_10 : decode cX11_feed 10 = .ok (.sipush 160, 3) := by decide +kernel
theorem dX11_feed_13 : decode cX11_feed 13 = .ok (.if_icmp .le 6, 3) := by decide +kernel
theorem dX11_feed_16 : decode cX11_feed 16 = .ok (.bipush (-5), 2) := by decide +kernel
theorem dX11_feed_18 : decode cX11_feed 18 = .ok (.ireturn, 1) := by decide +kernel
theorem dX11_feed_19 : decode cX11_feed 19 = .ok (.aload_n 0, 1) := by decide +kernel
theorem dX11_feed_20 : decode cX11_feed 20 = .ok (.iload_n 1, 1) := by decide +kernel
theorem dX11_feed_21 : decode cX11_feed 21 = .ok (.invokevirtual 102, 3) := by decide +kernel
theorem dX11_feed_24 : decode cX11_feed 24 = .ok (.aload_n 0, 1) := by decide +kernel
theorem dX11_feed_25 : decode cX11_feed 25 = .ok (.iload_n 2, 1) := by decide +kernel
theorem dX11_feed_26 : decode cX11_feed 26 = .ok (.invokevirtual 102, 3) := by decide +kernel
theorem dX11_feed_29 : decode cX11_feed 29 = .ok (.aload_n 0, 1) := by decide +kernel
theorem dX11_feed_30 : decode cX11_feed 30 = .ok (.iload_n 3, 1) := by decide +kernel
theorem dX11_feed_31 : decode cX11_feed 31 = .ok (.invokevirtual 102, 3) := by decide +kernel
theorem dX11_feed_34 : decode cX11_feed 34 = .ok (.aload_n 0, 1) := by decide +kernel
theorem dX11_feed_35 : decode cX11_feed 35 = .ok (.iload 4, 2) := by decide +kernel
theorem dX11_feed_37 : decode cX11_feed 37 = .ok (.invokevirtual 102, 3) := by decide +kernel
theorem dX11_feed_40 : decode cX11_feed 40 = .ok (.aload_n 0, 1) := by decide +kernel
theorem dX11_feed_41 : decode cX11_feed 41 = .ok (.iload 5, 2) := by decide +kernel
theorem dX11_feed_43 : decode cX11_feed 43 = .ok (.invokevirtual 102, 3) := by decide +kernel
theorem dX11_feed_46 : decode cX11_feed 46 = .ok (.aload_n 0, 1) := by decide +kernel
theorem dX11_feed_47 : decode cX11_feed 47 = .ok (.getfield 29, 3) := by decide +kernel
theorem dX11_feed_50 : decode cX11_feed 50 = .ok (.getfield 98, 3) := by decide +kernel
theorem dX11_feed_53 : decode cX11_feed 53 = .ok (.ireturn, 1) := by decide +kernel
abbrev k_X11_feed (E : g_E) (l : Launch) (D : g_D) (v1 : Int) (v2 : Int) (v3 : Int) (v4 : Int) (v5 : Int) (K : Int → g_D → Prop) : Prop := g_Ki E l m_X11_feed 2 [g_R 0, g_I v1, g_I v2, g_I v3, g_I v4, g_I v5] g_SH D K
abbrev n_X11_feed (E : g_E) (l : Launch) (D : g_D) (pc : Nat) (L : List (Option g_V)) (K : Int → g_D → Prop) : Prop := g_N E l m_X11_feed 2 pc L [] g_SH D (g_Ri g_SH K)
theorem s_X11_feed {E : g_E} {l : Launch} {D : g_D} {K : Int → g_D → Prop} {v1 : Int} {v2 : Int} {v3 : Int} {v4 : Int} {v5 : Int}  (hF : g_okD D → g_r v1 → g_r v2 → g_r v3 → g_r v4 → g_r v5 → (g_r ((D 45 1) + 20)) ∧ ((((D 45 1) + 20) ≤ 160 → k_X11_feedWord E l D v1 (fun D1 => k_X11_feedWord E l D1 v2 (fun D2 => k_X11_feedWord E l D2 v3 (fun D3 => k_X11_feedWord E l D3 v4 (fun D4 => k_X11_feedWord E l D4 v5 (fun D5 => K (D5 45 1) D5)))))) ∧ (¬ ((D 45 1) + 20) ≤ 160 → K (-5) D))) : k_X11_feed E l D v1 v2 v3 v4 v5 K := by
  refine g_enter (by decide) (Nat.le_of_ble_eq_true rfl) ?_
  show g_N E l m_X11_feed 2 0 [some (g_R 0), some (g_I v1), some (g_I v2), some (g_I v3), some (g_I v4), some (g_I v5)] [] g_SH D (g_Ri g_SH K)
  refine g_use (fun ok => ?_)
  have hF := hF ok.2.1 (ok.loc (i := 1) rfl) (ok.loc (i := 2) rfl) (ok.loc (i := 3) rfl) (ok.loc (i := 4) rfl) (ok.loc (i := 5) rfl)
  refine g_aload_n dX11_feed_0 rfl ?_
  refine g_getR dX11_feed_1 fd_X11_29 sh_0 rfl ?_
  refine g_getI dX11_feed_4 fd_X11_98 sh_45 rfl ?_
  refine g_bipush dX11_feed_7 ⟨by decide, by decide⟩ ?_
  obtain ⟨hc, hF⟩ := hF
  refine g_iadd dX11_feed_9 hc ?_
  refine g_sipush dX11_feed_10 ⟨by decide, by decide⟩ ?_
  refine g_cle dX11_feed_13 rfl (fun q => ?_) (fun q => ?_)
  · have hF := hF.1 q
    refine g_aload_n dX11_feed_19 rfl ?_
    refine g_iload_n dX11_feed_20 rfl ?_
    refine gw_cVv (b := 0) (As := [g_I v1]) (rest := []) dX11_feed_21 mv_X11_102 sh_0 rfl (Nat.le_of_ble_eq_true rfl) (by decide) rfl hF ?_
    intro D1 hF
    refine g_aload_n dX11_feed_24 rfl ?_
    refine g_iload_n dX11_feed_25 rfl ?_
    refine gw_cVv (b := 0) (As := [g_I v2]) (rest := []) dX11_feed_26 mv_X11_102 sh_0 rfl (Nat.le_of_ble_eq_true rfl) (by decide) rfl hF ?_
    intro D2 hF
    refine g_aload_n dX11_feed_29 rfl ?_
    refine g_iload_n dX11_feed_30 rfl ?_
    refine gw_cVv (b := 0) (As := [g_I v3]) (rest := []) dX11_feed_31 mv_X11_102 sh_0 rfl (Nat.le_of_ble_eq_true rfl) (by decide) rfl hF ?_
    intro D3 hF
    refine g_aload_n dX11_feed_34 rfl ?_
    refine g_iload dX11_feed_35 rfl ?_
    refine gw_cVv (b := 0) (As := [g_I v4]) (rest := []) dX11_feed_37 mv_X11_102 sh_0 rfl (Nat.le_of_ble_eq_true rfl) (by decide) rfl hF ?_
    intro D4 hF
    refine g_aload_n dX11_feed_40 rfl ?_
    refine g_iload dX11_feed_41 rfl ?_
    refine gw_cVv (b := 0) (As := [g_I v5]) (rest := []) dX11_feed_43 mv_X11_102 sh_0 rfl (Nat.le_of_ble_eq_true rfl) (by decide) rfl hF ?_
    intro D5 hF
    refine g_aload_n dX11_feed_46 rfl ?_
    refine g_getR dX11_feed_47 fd_X11_29 sh_0 rfl ?_
    refine g_getI dX11_feed_50 fd_X11_98 sh_45 rfl ?_
    exact gw_iret dX11_feed_53 rfl hF
  · have hF := hF.2 q
    refine g_bipush dX11_feed_16 ⟨by decide, by decide⟩ ?_
    exact gw_iret dX11_feed_18 rfl hF
theorem dX11_fewest_0 : decode cX11_fewest 0 = .ok (.iload_n 1, 1) := by decide +kernel
theorem dX11_fewest_1 : decode cX11_fewest 1 = .ok (.ifCond .lt 8, 3) := by decide +kernel
theorem dX11_fewest_4 : decode cX11_fewest 4 = .ok (.iload_n 1, 1) := by decide +kernel
theorem dX11_fewest_5 : decode cX11_fewest 5 = .ok (.iconst 3, 1) := by decide +kernel
theorem dX11_fewest_6 : decode cX11_fewest 6 = .ok (.if_icmp .le 6, 3) := by decide +kernel
theorem dX11_fewest_9 : decode cX11_fewest 9 = .ok (.bipush (-2), 2) := by decide +kernel
theorem dX11_fewest_11 : decode cX11_fewest 11 = .ok (.ireturn, 1) := by decide +kernel
theorem dX11_fewest_12 : decode cX11_fewest 12 = .ok (.aload_n 0, 1) := by decide +kernel
theorem dX11_fewest_13 : decode cX11_fewest 13 = .ok (.invokevirtual 175, 3) := by decide +kernel
theorem dX11_fewest_16 : decode cX11_fewest 16 = .ok (.aload_n 0, 1) := by decide +kernel
theorem dX11_fewest_17 : decode cX11_fewest 17 = .ok (.getfield 57, 3) := by decide +kernel
theorem dX11_fewest_20 : decode cX11_fewest 20 = .ok (.getfield 205, 3) := by decide +kernel
theorem dX11_fewest_23 : decode cX11_fewest 23 = .ok (.astore_n 2, 1) := by decide +kernel
theorem dX11_fewest_24 : decode cX11_fewest 24 = .ok (.aload_n 2, 1) := by decide +kernel
theorem dX11_fewest_25 : decode cX11_fewest 25 = .ok (.aload_n 0, 1) := by decide +kernel
theorem dX11_fewest_26 : decode cX11_fewest 26 = .ok (.getfield 57, 3) := by decide +kernel
theorem dX11_fewest_29 : decode cX11_fewest 29 = .ok (.invokevirtual 228, 3) := by decide +kernel
theorem dX11_fewest_32 : decode cX11_fewest 32 = .ok (.iload_n 1, 1) := by decide +kernel
theorem dX11_fewest_33 : decode cX11_fewest 33 = .ok (.tableswitch 42 0 2 #[27, 32, 37], 27) := by decide +kernel
theorem dX11_fewest_60 : decode cX11_fewest 60 = .ok (.aload_n 2, 1) := by decide +kernel
theorem dX11_fewest_61 : decode cX11_fewest 61 = .ok (.getfield 232, 3) := by decide +kernel
theorem dX11_fewest_64 : decode cX11_fewest 64 = .ok (.ireturn, 1) := by decide +kernel
theorem dX11_fewest_65 : decode cX11_fewest 65 = .ok (.aload_n 2, 1) := by decide +kernel
theorem dX11_fewest_66 : decode cX11_fewest 66 = .ok (.getfield 235, 3) := by decide +kernel
theorem dX11_fewest_69 : decode cX11_fewest 69 = .ok (.ireturn, 1) := by decide +kernel
theorem dX11_fewest_70 : decode cX11_fewest 70 = .ok (.aload_n 2, 1) := by decide +kernel
theorem dX11_fewest_71 : decode cX11_fewest 71 = .ok (.getfield 238, 3) := by decide +kernel
theorem dX11_fewest_74 : decode cX11_fewest 74 = .ok (.ireturn, 1) := by decide +kernel
theorem dX11_fewest_75 : decode cX11_fewest 75 = .ok (.aload_n 2, 1) := by decide +kernel
theorem dX11_fewest_76 : decode cX11_fewest 76 = .ok (.getfield 241, 3) := by decide +kernel
theorem dX11_fewest_79 : decode cX11_fewest 79 = .ok (.ireturn, 1) := by decide +kernel
abbrev k_X11_fewest (E : g_E) (l : Launch) (D : g_D) (v1 : Int) (K : Int → g_D → Prop) : Prop := g_Ki E l m_X11_fewest 6 [g_R 0, g_I v1] g_SH D K
abbrev n_X11_fewest (E : g_E) (l : Launch) (D : g_D) (pc : Nat) (L : List (Option g_V)) (K : Int → g_D → Prop) : Prop := g_N E l m_X11_fewest 6 pc L [] g_SH D (g_Ri g_SH K)
theorem s_X11_fewest {E : g_E} {l : Launch} {D : g_D} {K : Int → g_D → Prop} {v1 : Int}  (hF : g_okD D → g_r v1 → (v1 < 0 → K (-2) D) ∧ (¬ v1 < 0 → (v1 ≤ 3 → k_X11_makePlan E l D (fun D1 => k_X6_weigh E l D1 143 137 (fun D2 => (v1 = 0 → K (D2 143 5) D2) ∧ (v1 = 1 → K (D2 143 6) D2) ∧ (v1 = 2 → K (D2 143 7) D2) ∧ ((v1 < 0 ∨ 2 < v1) → K (D2 143 8) D2)))) ∧ (¬ v1 ≤ 3 → K (-2) D))) : k_X11_fewest E l D v1 K := by
  refine g_enter (by decide) (Nat.le_of_ble_eq_true rfl) ?_
  show g_N E l m_X11_fewest 6 0 [some (g_R 0), some (g_I v1), none] [] g_SH D (g_Ri g_SH K)
  refine g_use (fun ok => ?_)
  have hF := hF ok.2.1 (ok.loc (i := 1) rfl)
  refine g_iload_n dX11_fewest_0 rfl ?_
  refine g_iflt dX11_fewest_1 rfl (fun q => ?_) (fun q => ?_)
  · have hF := hF.1 q
    refine g_bipush dX11_fewest_9 ⟨by decide, by decide⟩ ?_
    exact gw_iret dX11_fewest_11 rfl hF
  · have hF := hF.2 q
    refine g_iload_n dX11_fewest_4 rfl ?_
    refine g_iconst dX11_fewest_5 ⟨by decide, by decide⟩ ?_
    refine g_cle dX11_fewest_6 rfl (fun q => ?_) (fun q => ?_)
    · have hF := hF.1 q
      refine g_aload_n dX11_fewest_12 rfl ?_
      refine gw_cVv (b := 0) (As := []) (rest := []) dX11_fewest_13 mv_X11_175 sh_0 rfl (Nat.le_of_ble_eq_true rfl) (by decide) rfl hF ?_
      intro D1 hF
      refine g_aload_n dX11_fewest_16 rfl ?_
      refine g_getR dX11_fewest_17 fd_X11_57 sh_0 rfl ?_
      refine g_getR dX11_fewest_20 fd_X11_205 sh_137 rfl ?_
      refine gw_astore_n (L' := [some (g_R 0), some (g_I v1), some (g_R 143)]) dX11_fewest_23 (by decide) rfl ?_
      refine g_aload_n dX11_fewest_24 rfl ?_
      refine g_aload_n dX11_fewest_25 rfl ?_
      refine g_getR dX11_fewest_26 fd_X11_57 sh_0 rfl ?_
      refine gw_cVv (b := 143) (As := [g_R 137]) (rest := []) dX11_fewest_29 mv_X11_228 sh_143 rfl (Nat.le_of_ble_eq_true rfl) (by decide) rfl hF ?_
      intro D2 hF
      refine g_iload_n dX11_fewest_32 rfl ?_
      rcases Decidable.em (v1 = 0) with q33_0 | q33_0
      · have hF := hF.1 q33_0
        refine g_tsIn dX11_fewest_33 (by omega) (by omega) (by rw [q33_0] <;> rfl) rfl ?_
        refine g_aload_n dX11_fewest_60 rfl ?_
        refine g_getI dX11_fewest_61 fd_X11_232 sh_143 rfl ?_
        exact gw_iret dX11_fewest_64 rfl hF
      rcases Decidable.em (v1 = 1) with q33_1 | q33_1
      · have hF := hF.2.1 q33_1
        refine g_tsIn dX11_fewest_33 (by omega) (by omega) (by rw [q33_1] <;> rfl) rfl ?_
        refine g_aload_n dX11_fewest_65 rfl ?_
        refine g_getI dX11_fewest_66 fd_X11_235 sh_143 rfl ?_
        exact gw_iret dX11_fewest_69 rfl hF
      rcases Decidable.em (v1 = 2) with q33_2 | q33_2
      · have hF := hF.2.2.1 q33_2
        refine g_tsIn dX11_fewest_33 (by omega) (by omega) (by rw [q33_2] <;> rfl) rfl ?_
        refine g_aload_n dX11_fewest_70 rfl ?_
        refine g_getI dX11_fewest_71 fd_X11_238 sh_143 rfl ?_
        exact gw_iret dX11_fewest_74 rfl hF
      have q33 : v1 < 0 ∨ 2 < v1 := by omega
      have hF := hF.2.2.2 q33
      refine g_tsOut dX11_fewest_33 q33 rfl ?_
      refine g_aload_n dX11_fewest_75 rfl ?_
      refine g_getI dX11_fewest_76 fd_X11_241 sh_143 rfl ?_
      exact gw_iret dX11_fewest_79 rfl hF
    · have hF := hF.2 q
      refine g_bipush dX11_fewest_9 ⟨by decide, by decide⟩ ?_
      exact gw_iret dX11_fewest_11 rfl hF
theorem dX11_fits_0 : decode cX11_fits 0 = .ok (.iload_n 1, 1) := by decide +kernel
theorem dX11_fits_1 : decode cX11_fits 1 = .ok (.ifCond .lt 8, 3) := by decide +kernel
theorem dX11_fits_4 : decode cX11_fits 4 = .ok (.iload_n 1, 1) := by decide +kernel
theorem dX11_fits_5 : decode cX11_fits 5 = .ok (.iconst 2, 1) := by decide +kernel
theorem dX11_fits_6 : decode cX11_fits 6 = .ok (.if_icmp .le 6, 3) := by decide +kernel
theorem dX11_fits_9 : decode cX11_fits 9 = .ok (.bipush (-2), 2) := by decide +kernel
theorem dX11_fits_11 : decode cX11_fits 11 = .ok (.ireturn, 1) := by decide +kernel
theorem dX11_fits_12 : decode cX11_fits 12 = .ok (.aload_n 0, 1) := by decide +kernel
theorem dX11_fits_13 : decode cX11_fits 13 = .ok (.invokevirtual 310, 3) := by decide +kernel
theorem dX11_fits_16 : decode cX11_fits 16 = .ok (.aload_n 0, 1) := by decide +kernel
theorem dX11_fits_17 : decode cX11_fits 17 = .ok (.getfield 77, 3) := by decide +kernel
theorem dX11_fits_20 : decode cX11_fits 20 = .ok (.aload_n 0, 1) := by decide +kernel
theorem dX11_fits_21 : decode cX11_fits 21 = .ok (.getfield 12, 3) := by decide +kernel
theorem dX11_fits_24 : decode cX11_fits 24 = .ok (.getfield 119, 3) := by decide +kernel
theorem dX11_fits_27 : decode cX11_fits 27 = .ok (.iconst 0, 1) := by decide +kernel
theorem dX11_fits_28 : decode cX11_fits 28 = .ok (.invokevirtual 373, 3) := by decide +kernel
theorem dX11_fits_31 : decode cX11_fits 31 = .ok (.iload_n 1, 1) := by decide +kernel
theorem dX11_fits_32 : decode cX11_fits 32 = .ok (.ifCond .ne 21, 3) := by decide +kernel
theorem dX11_fits_35 : decode cX11_fits 35 = .ok (.aload_n 0, 1) := by decide +kernel
theorem dX11_fits_36 : decode cX11_fits 36 = .ok (.getfield 77, 3) := by decide +kernel
theorem dX11_fits_39 : decode cX11_fits 39 = .ok (.aload_n 0, 1) := by decide +kernel
theorem dX11_fits_40 : decode cX11_fits 40 = .ok (.getfield 12, 3) := by decide +kernel
theorem dX11_fits_43 : decode cX11_fits 43 = .ok (.getfield 119, 3) := by decide +kernel
theorem dX11_fits_46 : decode cX11_fits 46 = .ok (.getfield 133, 3) := by decide +kernel
theorem dX11_fits_49 : decode cX11_fits 49 = .ok (.invokevirtual 377, 3) := by decide +kernel
theorem dX11_fits_52 : decode cX11_fits 52 = .ok (.ireturn, 1) := by decide +kernel
theorem dX11_fits_53 : decode cX11_fits 53 = .ok (.iload_n 1, 1) := by decide +kernel
theorem dX11_fits_54 : decode cX11_fits 54 = .ok (.iconst 1, 1) := by decide +kernel
theorem dX11_fits_55 : decode cX11_fits 55 = .ok (.if_icmp .ne 23, 3) := by decide +kernel
theorem dX11_fits_58 : decode cX11_fits 58 = .ok (.aload_n 0, 1) := by decide +kernel
theorem dX11_fits_59 : decode cX11_fits 59 = .ok (.getfield 77, 3) := by decide +kernel
theorem dX11_fits_62 : decode cX11_fits 62 = .ok (.aload_n 0, 1) := by decide +kernel
theorem dX11_fits_63 : decode cX11_fits 63 = .ok (.getfield 12, 3) := by decide +kernel
theorem dX11_fits_66 : decode cX11_fits 66 = .ok (.getfield 119, 3) := by decide +kernel
theorem dX11_fits_69 : decode cX11_fits 69 = .ok (.getfield 133, 3) := by decide +kernel
theorem dX11_fits_72 : decode cX11_fits 72 = .ok (.invokevirtual 381, 3) := by decide +kernel
theorem dX11_fits_75 : decode cX11_fits 75 = .ok (.goto 20, 3) := by decide +kernel
theorem dX11_fits_78 : decode cX11_fits 78 = .ok (.aload_n 0, 1) := by decide +kernel
theorem dX11_fits_79 : decode cX11_fits 79 = .ok (.getfield 77, 3) := by decide +kernel
theorem dX11_fits_82 : decode cX11_fits 82 = .ok (.aload_n 0, 1) := by decide +kernel
theorem dX11_fits_83 : decode cX11_fits 83 = .ok (.getfield 12, 3) := by decide +kernel
theorem dX11_fits_86 : decode cX11_fits 86 = .ok (.getfield 119, 3) := by decide +kernel
theorem dX11_fits_89 : decode cX11_fits 89 = .ok (.getfield 133, 3) := by decide +kernel
theorem dX11_fits_92 : decode cX11_fits 92 = .ok (.invokevirtual 384, 3) := by decide +kernel
theorem dX11_fits_95 : decode cX11_fits 95 = .ok (.ireturn, 1) := by decide +kernel
abbrev k_X11_fits (E : g_E) (l : Launch) (D : g_D) (v1 : Int) (K : Int → g_D → Prop) : Prop := g_Ki E l m_X11_fits 6 [g_R 0, g_I v1] g_SH D K
abbrev n_X11_fits (E : g_E) (l : Launch) (D : g_D) (pc : Nat) (L : List (Option g_V)) (K : Int → g_D → Prop) : Prop := g_N E l m_X11_fits 6 pc L [] g_SH D (g_Ri g_SH K)
theorem s_X11_fits {E : g_E} {l : Launch} {D : g_D} {K : Int → g_D → Prop} {v1 : Int}  (hF : g_okD D → g_r v1 → (v1 < 0 → K (-2) D) ∧ (¬ v1 < 0 → (v1 ≤ 2 → k_X11_makeCourse E l D (fun D1 => k_X1_look E l D1 7 0 (fun D2 => (¬ v1 = 0 → (¬ v1 = 1 → k_X1_countFits E l D2 9 (fun x3 D3 => g_r x3 → K x3 D3)) ∧ (v1 = 1 → k_X1_lastFit E l D2 9 (fun x4 D4 => g_r x4 → K x4 D4))) ∧ (v1 = 0 → k_X1_firstFit E l D2 9 (fun x5 D5 => g_r x5 → K x5 D5))))) ∧ (¬ v1 ≤ 2 → K (-2) D))) : k_X11_fits E l D v1 K := by
  refine g_enter (by decide) (Nat.le_of_ble_eq_true rfl) ?_
  show g_N E l m_X11_fits 6 0 [some (g_R 0), some (g_I v1)] [] g_SH D (g_Ri g_SH K)
  refine g_use (fun ok => ?_)
  have hF := hF ok.2.1 (ok.loc (i := 1) rfl)
  refine g_iload_n dX11_fits_0 rfl ?_
  refine g_iflt dX11_fits_1 rfl (fun q => ?_) (fun q => ?_)
  · have hF := hF.1 q
    refine g_bipush dX11_fits_9 ⟨by decide, by decide⟩ ?_
    exact gw_iret dX11_fits_11 rfl hF
  · have hF := hF.2 q
    refine g_iload_n dX11_fits_4 rfl ?_
    refine g_iconst dX11_fits_5 ⟨by decide, by decide⟩ ?_
    refine g_cle dX11_fits_6 rfl (fun q => ?_) (fun q => ?_)
    · have hF := hF.1 q
      refine g_aload_n dX11_fits_12 rfl ?_
      refine gw_cVv (b := 0) (As := []) (rest := []) dX11_fits_13 mv_X11_310 sh_0 rfl (Nat.le_of_ble_eq_true rfl) (by decide) rfl hF ?_
      intro D1 hF
      refine g_aload_n dX11_fits_16 rfl ?_
      refine g_getR dX11_fits_17 fd_X11_77 sh_0 rfl ?_
      refine g_aload_n dX11_fits_20 rfl ?_
      refine g_getR dX11_fits_21 fd_X11_12 sh_0 rfl ?_
      refine g_getR dX11_fits_24 fd_X11_119 sh_1 rfl ?_
      refine g_iconst dX11_fits_27 ⟨by decide, by decide⟩ ?_
      refine gw_cVv (b := 175) (As := [g_R 7, g_I 0]) (rest := []) dX11_fits_28 mv_X11_373 sh_175 rfl (Nat.le_of_ble_eq_true rfl) (by decide) rfl hF ?_
      intro D2 hF
      refine g_iload_n dX11_fits_31 rfl ?_
      refine g_ifne dX11_fits_32 rfl (fun q => ?_) (fun q => ?_)
      · have hF := hF.1 q
        refine g_iload_n dX11_fits_53 rfl ?_
        refine g_iconst dX11_fits_54 ⟨by decide, by decide⟩ ?_
        refine g_cne dX11_fits_55 rfl (fun q => ?_) (fun q => ?_)
        · have hF := hF.1 q
          refine g_aload_n dX11_fits_78 rfl ?_
          refine g_getR dX11_fits_79 fd_X11_77 sh_0 rfl ?_
          refine g_aload_n dX11_fits_82 rfl ?_
          refine g_getR dX11_fits_83 fd_X11_12 sh_0 rfl ?_
          refine g_getR dX11_fits_86 fd_X11_119 sh_1 rfl ?_
          refine g_getR dX11_fits_89 fd_X11_133 sh_7 rfl ?_
          refine gw_cVi (b := 175) (As := [g_R 9]) (rest := []) dX11_fits_92 mv_X11_384 sh_175 rfl (Nat.le_of_ble_eq_true rfl) (by decide) rfl hF ?_
          intro x3 D3 hx3 hF
          have hF := hF hx3
          exact gw_iret dX11_fits_95 rfl hF
        · have hF := hF.2 q
          refine g_aload_n dX11_fits_58 rfl ?_
          refine g_getR dX11_fits_59 fd_X11_77 sh_0 rfl ?_
          refine g_aload_n dX11_fits_62 rfl ?_
          refine g_getR dX11_fits_63 fd_X11_12 sh_0 rfl ?_
          refine g_getR dX11_fits_66 fd_X11_119 sh_1 rfl ?_
          refine g_getR dX11_fits_69 fd_X11_133 sh_7 rfl ?_
          refine gw_cVi (b := 175) (As := [g_R 9]) (rest := []) dX11_fits_72 mv_X11_381 sh_175 rfl (Nat.le_of_ble_eq_true rfl) (by decide) rfl hF ?_
          intro x4 D4 hx4 hF
          have hF := hF hx4
          refine g_goto dX11_fits_75 rfl ?_
          exact gw_iret dX11_fits_95 rfl hF
      · have hF := hF.2 q
        refine g_aload_n dX11_fits_35 rfl ?_
        refine g_getR dX11_fits_36 fd_X11_77 sh_0 rfl ?_
        refine g_aload_n dX11_fits_39 rfl ?_
        refine g_getR dX11_fits_40 fd_X11_12 sh_0 rfl ?_
        refine g_getR dX11_fits_43 fd_X11_119 sh_1 rfl ?_
        refine g_getR dX11_fits_46 fd_X11_133 sh_7 rfl ?_
        refine gw_cVi (b := 175) (As := [g_R 9]) (rest := []) dX11_fits_49 mv_X11_377 sh_175 rfl (Nat.le_of_ble_eq_true rfl) (by decide) rfl hF ?_
        intro x5 D5 hx5 hF
        have hF := hF hx5
        exact gw_iret dX11_fits_52 rfl hF
    · have hF := hF.2 q
      refine g_bipush dX11_fits_9 ⟨by decide, by decide⟩ ?_
      exact gw_iret dX11_fits_11 rfl hF
theorem dX11_forget_0 : decode cX11_forget 0 = .ok (.aload_n 0, 1) := by decide +kernel
theorem dX11_forget_1 : decode cX11_forget 1 = .ok (.getfield 12, 3) := by decide +kernel
theorem dX11_forget_4 : decode cX11_forget 4 = .ok (.getfield 119, 3) := by decide +kernel
theorem dX11_forget_7 : decode cX11_forget 7 = .ok (.astore_n 1, 1) := by decide +kernel
theorem dX11_forget_8 : decode cX11_forget 8 = .ok (.aload_n 1, 1) := by decide +kernel
theorem dX11_forget_9 : decode cX11_forget 9 = .ok (.getfield 303, 3) := by decide +kernel
theorem dX11_forget_12 : decode cX11_forget 12 = .ok (.ifCond .ne 10, 3) := by decide +kernel
theorem dX11_forget_15 : decode cX11_forget 15 = .ok (.aload_n 1, 1) := by decide +kernel
theorem dX11_forget_16 : decode cX11_forget 16 = .ok (.getfield 349, 3) := by decide +kernel
theorem dX11_forget_19 : decode cX11_forget 19 = .ok (.ifCond .ne 6, 3) := by decide +kernel
theorem dX11_forget_22 : decode cX11_forget 22 = .ok (.bipush (-5), 2) := by decide +kernel
theorem dX11_forget_24 : decode cX11_forget 24 = .ok (.ireturn, 1) := by decide +kernel
theorem dX11_forget_25 : decode cX11_forget 25 = .ok (.aload_n 0, 1) := by decide +kernel
theorem dX11_forget_26 : decode cX11_forget 26 = .ok (.getfield 43, 3) := by decide +kernel
theorem dX11_forget_29 : decode cX11_forget 29 = .ok (.aload_n 1, 1) := by decide +kernel
theorem dX11_forget_30 : decode cX11_forget 30 = .ok (.invokevirtual 295, 3) := by decide +kernel
theorem dX11_forget_33 : decode cX11_forget 33 = .ok (.aload_n 1, 1) := by decide +kernel
theorem dX11_forget_34 : decode cX11_forget 34 = .ok (.iconst 0, 1) := by decide +kernel
theorem dX11_forget_35 : decode cX11_forget 35 = .ok (.putfield 349, 3) := by decide +kernel
theorem dX11_forget_38 : decode cX11_forget 38 = .ok (.iconst 0, 1) := by decide +kernel
theorem dX11_forget_39 : decode cX11_forget 39 = .ok (.ireturn, 1) := by decide +kernel
abbrev k_X11_forget (E : g_E) (l : Launch) (D : g_D) (K : Int → g_D → Prop) : Prop := g_Ki E l m_X11_forget 4 [g_R 0] g_SH D K
abbrev n_X11_forget (E : g_E) (l : Launch) (D : g_D) (pc : Nat) (L : List (Option g_V)) (K : Int → g_D → Prop) : Prop := g_N E l m_X11_forget 4 pc L [] g_SH D (g_Ri g_SH K)
theorem s_X11_forget {E : g_E} {l : Launch} {D : g_D} {K : Int → g_D → Prop}   (hF : g_okD D → (¬ (D 7 9) = 0 → K (-5) D) ∧ ((D 7 9) = 0 → (¬ (D 7 8) = 0 → k_X3_keep E l D 7 (fun D1 => ∀ D2, D2 = g_up D1 7 8 0 → (K 0 D2))) ∧ ((D 7 8) = 0 → K (-5) D))) : k_X11_forget E l D K := by
  refine g_enter (by decide) (Nat.le_of_ble_eq_true rfl) ?_
  show g_N E l m_X11_forget 4 0 [some (g_R 0), none] [] g_SH D (g_Ri g_SH K)
  refine g_use (fun ok => ?_)
  have hF := hF ok.2.1
  refine g_aload_n dX11_forget_0 rfl ?_
  refine g_getR dX11_forget_1 fd_X11_12 sh_0 rfl ?_
  refine g_getR dX11_forget_4 fd_X11_119 sh_1 rfl ?_
  refine gw_astore_n (L' := [some (g_R 0), some (g_R 7)]) dX11_forget_7 (by decide) rfl ?_
  refine g_aload_n dX11_forget_8 rfl ?_
  refine g_getI dX11_forget_9 fd_X11_303 sh_7 rfl ?_
  refine g_ifne dX11_forget_12 rfl (fun q => ?_) (fun q => ?_)
  · have hF := hF.1 q
    refine g_bipush dX11_forget_22 ⟨by decide, by decide⟩ ?_
    exact gw_iret dX11_forget_24 rfl hF
  · have hF := hF.2 q
    refine g_aload_n dX11_forget_15 rfl ?_
    refine g_getI dX11_forget_16 fd_X11_349 sh_7 rfl ?_
    refine g_ifne dX11_forget_19 rfl (fun q => ?_) (fun q => ?_)
    · have hF := hF.1 q
      refine g_aload_n dX11_forget_25 rfl ?_
      refine g_getR dX11_forget_26 fd_X11_43 sh_0 rfl ?_
      refine g_aload_n dX11_forget_29 rfl ?_
      refine gw_cVv (b := 52) (As := [g_R 7]) (rest := []) dX11_forget_30 mv_X11_295 sh_52 rfl (Nat.le_of_ble_eq_true rfl) (by decide) rfl hF ?_
      intro D1 hF
      refine g_aload_n dX11_forget_33 rfl ?_
      refine g_iconst dX11_forget_34 ⟨by decide, by decide⟩ ?_
      let D2 : g_D := g_up D1 7 8 0
      have hF := hF D2 rfl
      refine g_put dX11_forget_35 fd_X11_349 (g_ftyZ (C := RX2) (T := TX2) (N := 10) rfl rfl (by decide +kernel) (by decide)) sh_7 rfl ?_
      refine g_iconst dX11_forget_38 ⟨by decide, by decide⟩ ?_
      exact gw_iret dX11_forget_39 rfl hF
    · have hF := hF.2 q
      refine g_bipush dX11_forget_22 ⟨by decide, by decide⟩ ?_
      exact gw_iret dX11_forget_24 rfl hF
theorem dX11_takeCells_0 : decode cX11_takeCells 0 = .ok (.iload_n 2, 1) := by decide +kernel
theorem dX11_takeCells_1 : decode cX11_takeCells 1 = .ok (.ifCond .lt 20, 3) := by decide +kernel
theorem dX11_takeCells_4 : decode cX11_takeCells 4 = .ok (.iload_n 2, 1) := by decide +kernel
theorem dX11_takeCells_5 : decode cX11_takeCells 5 = .ok (.bipush 40, 2) := by decide +kernel
theorem dX11_takeCells_7 : decode cX11_takeCells 7 = .ok (.if_icmp .gt 14, 3) := by decide +kernel
theorem dX11_takeCells_10 : decode cX11_takeCells 10 = .ok (.iload_n 2, 1) := by decide +kernel
theorem dX11_takeCells_11 : decode cX11_takeCells 11 = .ok (.aload_n 0, 1) := by decide +kernel
theorem dX11_takeCells_12 : decode cX11_takeCells 12 = .ok (.getfield 29, 3) := by decide +kernel
theorem dX11_takeCells_15 : decode cX11_takeCells 15 = .ok (.getfield 98, 3) := by decide +kernel
theorem dX11_takeCells_18 : decode cX11_takeCells 18 = .ok (.if_icmp .le 6, 3) := by decide +kernel
theorem dX11_takeCells_21 : decode cX11_takeCells 21 = .ok (.bipush (-3), 2) := by decide +kernel
theorem dX11_takeCells_23 : decode cX11_takeCells 23 = .ok (.ireturn, 1) := by decide +kernel
theorem dX11_takeCells_24 : decode cX11_takeCells 24 = .ok (.aload_n 1, 1) := by decide +kernel
theorem dX11_takeCells_25 : decode cX11_takeCells 25 = .ok (.aload_n 0, 1) := by decide +kernel
theorem dX11_takeCells_26 : decode cX11_takeCells 26 = .ok (.getfield 29, 3) := by decide +kernel
theorem dX11_takeCells_29 : decode cX11_takeCells 29 = .ok (.iload_n 2, 1) := by decide +kernel
theorem dX11_takeCells_30 : decode cX11_takeCells 30 = .ok (.invokevirtual 419, 3) := by decide +kernel
theorem dX11_takeCells_33 : decode cX11_takeCells 33 = .ok (.aload_n 0, 1) := by decide +kernel
theorem dX11_takeCells_34 : decode cX11_takeCells 34 = .ok (.getfield 29, 3) := by decide +kernel
theorem dX11_takeCells_37 : decode cX11_takeCells 37 = .ok (.iconst 0, 1) := by decide +kernel
theorem dX11_takeCells_38 : decode cX11_takeCells 38 = .ok (.putfield 98, 3) := by decide +kernel
theorem dX11_takeCells_41 : decode cX11_takeCells 41 = .ok (.aload_n 0, 1) := by decide +kernel
theorem dX11_takeCells_42 : decode cX11_takeCells 42 = .ok (.iconst 1, 1) := by decide +kernel
theorem dX11_takeCells_43 : decode cX11_takeCells 43 = .ok (.putfield 88, 3) := by decide +kernel
theorem dX11_takeCells_46 : decode cX11_takeCells 46 = .ok (.aload_n 0, 1) := by decide +kernel
theorem dX11_takeCells_47 : decode cX11_takeCells 47 = .ok (.iconst 1, 1) := by decide +kernel
theorem dX11_takeCells_48 : decode cX11_takeCells 48 = .ok (.putfield 92, 3) := by decide +kernel
theorem dX11_takeCells_51 : decode cX11_takeCells 51 = .ok (.iload_n 2, 1) := by decide +kernel
theorem dX11_takeCells_52 : decode cX11_takeCells 52 = .ok (.ireturn, 1) := by decide +kernel
abbrev k_X11_takeCells (E : g_E) (l : Launch) (D : g_D) (r1 : Nat) (v2 : Int) (K : Int → g_D → Prop) : Prop := g_Ki E l m_X11_takeCells 2 [g_R 0, g_R r1, g_I v2] g_SH D K
abbrev n_X11_takeCells (E : g_E) (l : Launch) (D : g_D) (pc : Nat) (L : List (Option g_V)) (K : Int → g_D → Prop) : Prop := g_N E l m_X11_takeCells 2 pc L [] g_SH D (g_Ri g_SH K)
theorem s_X11_takeCells {E : g_E} {l : Launch} {D : g_D} {K : Int → g_D → Prop} {nr1 : Nat} {r1 : Nat} {v2 : Int} (hr1 : is_Cells g_SH r1 nr1) (hF : g_okD D → g_r v2 → (v2 < 0 → K (-3) D) ∧ (¬ v2 < 0 → (40 < v2 → K (-3) D) ∧ (¬ 40 < v2 → (v2 ≤ (D 45 1) → k_X0_copyFirst E l g_SH D r1 45 v2 (fun D1 => ∀ D2, D2 = g_up D1 45 1 0 → (∀ D3, D3 = g_up D2 0 13 1 → (∀ D4, D4 = g_up D3 0 14 1 → (K v2 D4))))) ∧ (¬ v2 ≤ (D 45 1) → K (-3) D)))) : k_X11_takeCells E l D r1 v2 K := by
  refine g_enter (by decide) (Nat.le_of_ble_eq_true rfl) ?_
  show g_N E l m_X11_takeCells 2 0 [some (g_R 0), some (g_R r1), some (g_I v2)] [] g_SH D (g_Ri g_SH K)
  refine g_use (fun ok => ?_)
  have hF := hF ok.2.1 (ok.loc (i := 2) rfl)
  refine g_iload_n dX11_takeCells_0 rfl ?_
  refine g_iflt dX11_takeCells_1 rfl (fun q => ?_) (fun q => ?_)
  · have hF := hF.1 q
    refine g_bipush dX11_takeCells_21 ⟨by decide, by decide⟩ ?_
    exact gw_iret dX11_takeCells_23 rfl hF
  · have hF := hF.2 q
    refine g_iload_n dX11_takeCells_4 rfl ?_
    refine g_bipush dX11_takeCells_5 ⟨by decide, by decide⟩ ?_
    refine g_cgt dX11_takeCells_7 rfl (fun q => ?_) (fun q => ?_)
    · have hF := hF.1 q
      refine g_bipush dX11_takeCells_21 ⟨by decide, by decide⟩ ?_
      exact gw_iret dX11_takeCells_23 rfl hF
    · have hF := hF.2 q
      refine g_iload_n dX11_takeCells_10 rfl ?_
      refine g_aload_n dX11_takeCells_11 rfl ?_
      refine g_getR dX11_takeCells_12 fd_X11_29 sh_0 rfl ?_
      refine g_getI dX11_takeCells_15 fd_X11_98 sh_45 rfl ?_
      refine g_cle dX11_takeCells_18 rfl (fun q => ?_) (fun q => ?_)
      · have hF := hF.1 q
        refine g_aload_n dX11_takeCells_24 rfl ?_
        refine g_aload_n dX11_takeCells_25 rfl ?_
        refine g_getR dX11_takeCells_26 fd_X11_29 sh_0 rfl ?_
        refine g_iload_n dX11_takeCells_29 rfl ?_
        refine gw_cVv (b := r1) (As := [g_R 45, g_I v2]) (rest := []) dX11_takeCells_30 mv_X11_419 hr1.1 rfl (Nat.le_of_ble_eq_true rfl) (by decide) rfl hF ?_
        intro D1 hF
        refine g_aload_n dX11_takeCells_33 rfl ?_
        refine g_getR dX11_takeCells_34 fd_X11_29 sh_0 rfl ?_
        refine g_iconst dX11_takeCells_37 ⟨by decide, by decide⟩ ?_
        let D2 : g_D := g_up D1 45 1 0
        have hF := hF D2 rfl
        refine g_put dX11_takeCells_38 fd_X11_98 (g_ftyI (C := RX0) (T := TX0) (N := 2) rfl rfl (by decide +kernel)) sh_45 rfl ?_
        refine g_aload_n dX11_takeCells_41 rfl ?_
        refine g_iconst dX11_takeCells_42 ⟨by decide, by decide⟩ ?_
        let D3 : g_D := g_up D2 0 13 1
        have hF := hF D3 rfl
        refine g_put dX11_takeCells_43 fd_X11_88 (g_ftyZ (C := RX11) (T := TX11) (N := 16) rfl rfl (by decide +kernel) (by decide)) sh_0 rfl ?_
        refine g_aload_n dX11_takeCells_46 rfl ?_
        refine g_iconst dX11_takeCells_47 ⟨by decide, by decide⟩ ?_
        let D4 : g_D := g_up D3 0 14 1
        have hF := hF D4 rfl
        refine g_put dX11_takeCells_48 fd_X11_92 (g_ftyZ (C := RX11) (T := TX11) (N := 16) rfl rfl (by decide +kernel) (by decide)) sh_0 rfl ?_
        refine g_iload_n dX11_takeCells_51 rfl ?_
        exact gw_iret dX11_takeCells_52 rfl hF
      · have hF := hF.2 q
        refine g_bipush dX11_takeCells_21 ⟨by decide, by decide⟩ ?_
        exact gw_iret dX11_takeCells_23 rfl hF
theorem dX11_fresh_0 : decode cX11_fresh 0 = .ok (.aload_n 0, 1) := by decide +kernel
theorem dX11_fresh_1 : decode cX11_fresh 1 = .ok (.aload_n 0, 1) := by decide +kernel
theorem dX11_fresh_2 : decode cX11_fresh 2 = .ok (.getfield 12, 3) := by decide +kernel
theorem dX11_fresh_5 : decode cX11_fresh 5 = .ok (.getfield 112, 3) := by decide +kernel
theorem dX11_fresh_8 : decode cX11_fresh 8 = .ok (.iload_n 1, 1) := by decide +kernel
theorem dX11_fresh_9 : decode cX11_fresh 9 = .ok (.invokevirtual 108, 3) := by decide +kernel
theorem dX11_fresh_12 : decode cX11_fresh 12 = .ok (.ireturn, 1) := by decide +kernel
abbrev k_X11_fresh (E : g_E) (l : Launch) (D : g_D) (v1 : Int) (K : Int → g_D → Prop) : Prop := g_Ki E l m_X11_fresh 3 [g_R 0, g_I v1] g_SH D K
abbrev n_X11_fresh (E : g_E) (l : Launch) (D : g_D) (pc : Nat) (L : List (Option g_V)) (K : Int → g_D → Prop) : Prop := g_N E l m_X11_fresh 3 pc L [] g_SH D (g_Ri g_SH K)
theorem s_X11_fresh {E : g_E} {l : Launch} {D : g_D} {K : Int → g_D → Prop} {v1 : Int}  (hF : g_okD D → g_r v1 → k_X11_takeCells E l D 4 v1 (fun x1 D1 => g_r x1 → K x1 D1)) : k_X11_fresh E l D v1 K := by
  refine g_enter (by decide) (Nat.le_of_ble_eq_true rfl) ?_
  show g_N E l m_X11_fresh 3 0 [some (g_R 0), some (g_I v1)] [] g_SH D (g_Ri g_SH K)
  refine g_use (fun ok => ?_)
  have hF := hF ok.2.1 (ok.loc (i := 1) rfl)
  refine g_aload_n dX11_fresh_0 rfl ?_
  refine g_aload_n dX11_fresh_1 rfl ?_
  refine g_getR dX11_fresh_2 fd_X11_12 sh_0 rfl ?_
  refine g_getR dX11_fresh_5 fd_X11_112 sh_1 rfl ?_
  refine g_iload_n dX11_fresh_8 rfl ?_
  refine gw_cVi (b := 0) (As := [g_R 4, g_I v1]) (rest := []) dX11_fresh_9 mv_X11_108 sh_0 rfl (Nat.le_of_ble_eq_true rfl) (by decide) rfl hF ?_
  intro x1 D1 hx1 hF
  have hF := hF hx1
  exact gw_iret dX11_fresh_12 rfl hF
theorem dX11_go_0 : decode cX11_go 0 = .ok (.iload_n 1, 1) := by decide +kernel
theorem dX11_go_1 : decode cX11_go 1 = .ok (.iconst 1, 1) := by decide +kernel
theorem dX11_go_2 : decode cX11_go 2 = .ok (.if_icmp .lt 10, 3) := by decide +kernel
theorem dX11_go_5 : decode cX11_go 5 = .ok (.iload_n 1, 1) := by decide +kernel
theorem dX11_go_6 : decode cX11_go 6 = .ok (.sipush 400, 3) := by decide +kernel
theorem dX11_go_9 : decode cX11_go 9 = .ok (.if_icmp .le 6, 3) := by decide +kernel
theorem dX11_go_12 : decode cX11_go 12 = .ok (.bipush (-3), 2) := by decide +kernel
theorem dX11_go_14 : decode cX11_go 14 = .ok (.ireturn, 1) := by decide +kernel
theorem dX11_go_15 : decode cX11_go 15 = .ok (.aload_n 0, 1) := by decide +kernel
theorem dX11_go_16 : decode cX11_go 16 = .ok (.getfield 12, 3) := by decide +kernel
theorem dX11_go_19 : decode cX11_go 19 = .ok (.getfield 119, 3) := by decide +kernel
theorem dX11_go_22 : decode cX11_go 22 = .ok (.getfield 303, 3) := by decide +kernel
theorem dX11_go_25 : decode cX11_go 25 = .ok (.ifCond .ne 6, 3) := by decide +kernel
theorem dX11_go_28 : decode cX11_go 28 = .ok (.bipush (-5), 2) := by decide +kernel
theorem dX11_go_30 : decode cX11_go 30 = .ok (.ireturn, 1) := by decide +kernel
theorem dX11_go_31 : decode cX11_go 31 = .ok (.aload_n 0, 1) := by decide +kernel
theorem dX11_go_32 : decode cX11_go 32 = .ok (.invokevirtual 310, 3) := by decide +kernel
theorem dX11_go_35 : decode cX11_go 35 = .ok (.iload_n 1, 1) := by decide +kernel
theorem dX11_go_36 : decode cX11_go 36 = .ok (.aload_n 0, 1) := by decide +kernel
theorem dX11_go_37 : decode cX11_go 37 = .ok (.getfield 77, 3) := by decide +kernel
theorem dX11_go_40 : decode cX11_go 40 = .ok (.getfield 313, 3) := by decide +kernel
theorem dX11_go_43 : decode cX11_go 43 = .ok (.aload_n 0, 1) := by decide +kernel
theorem dX11_go_44 : decode cX11_go 44 = .ok (.getfield 12, 3) := by decide +kernel
theorem dX11_go_47 : decode cX11_go 47 = .ok (.getfield 119, 3) := by decide +kernel
theorem dX11_go_50 : decode cX11_go 50 = .ok (.getfield 334, 3) := by decide +kernel
theorem dX11_go_53 : decode cX11_go 53 = .ok (.isub, 1) := by decide +kernel
theorem dX11_go_54 : decode cX11_go 54 = .ok (.invokestatic 337, 3) := by decide +kernel
theorem dX11_go_57 : decode cX11_go 57 = .ok (.istore_n 2, 1) := by decide +kernel
theorem dX11_go_58 : decode cX11_go 58 = .ok (.iload_n 2, 1) := by decide +kernel
theorem dX11_go_59 : decode cX11_go 59 = .ok (.iconst 1, 1) := by decide +kernel
theorem dX11_go_60 : decode cX11_go 60 = .ok (.if_icmp .ge 5, 3) := by decide +kernel
theorem dX11_go_63 : decode cX11_go 63 = .ok (.iconst 0, 1) := by decide +kernel
theorem dX11_go_64 : decode cX11_go 64 = .ok (.ireturn, 1) := by decide +kernel
theorem dX11_go_65 : decode cX11_go 65 = .ok (.aload_n 0, 1) := by decide +kernel
theorem dX11_go_66 : decode cX11_go 66 = .ok (.getfield 43, 3) := by decide +kernel
theorem dX11_go_69 : decode cX11_go 69 = .ok (.aload_n 0, 1) := by decide +kernel
theorem dX11_go_70 : decode cX11_go 70 = .ok (.getfield 12, 3) := by decide +kernel
theorem dX11_go_73 : decode cX11_go 73 = .ok (.getfield 119, 3) := by decide +kernel
theorem dX11_go_76 : decode cX11_go 76 = .ok (.invokevirtual 295, 3) := by decide +kernel
theorem dX11_go_79 : decode cX11_go 79 = .ok (.iconst 0, 1) := by decide +kernel
theorem dX11_go_80 : decode cX11_go 80 = .ok (.istore_n 3, 1) := by decide +kernel
theorem dX11_go_81 : decode cX11_go 81 = .ok (.iload_n 3, 1) := by decide +kernel
theorem dX11_go_82 : decode cX11_go 82 = .ok (.iload_n 2, 1) := by decide +kernel
theorem dX11_go_83 : decode cX11_go 83 = .ok (.if_icmp .ge 23, 3) := by decide +kernel
theorem dX11_go_86 : decode cX11_go 86 = .ok (.aload_n 0, 1) := by decide +kernel
theorem dX11_go_87 : decode cX11_go 87 = .ok (.getfield 77, 3) := by decide +kernel
theorem dX11_go_90 : decode cX11_go 90 = .ok (.aload_n 0, 1) := by decide +kernel
theorem dX11_go_91 : decode cX11_go 91 = .ok (.getfield 12, 3) := by decide +kernel
theorem dX11_go_94 : decode cX11_go 94 = .ok (.getfield 119, 3) := by decide +kernel
theorem dX11_go_97 : decode cX11_go 97 = .ok (.invokevirtual 342, 3) := by decide +kernel
theorem dX11_go_100 : decode cX11_go 100 = .ok (.iinc 3 1, 3) := by decide +kernel
theorem dX11_go_103 : decode cX11_go 103 = .ok (.goto (-22), 3) := by decide +kernel
theorem dX11_go_106 : decode cX11_go 106 = .ok (.iload_n 2, 1) := by decide +kernel
theorem dX11_go_107 : decode cX11_go 107 = .ok (.ireturn, 1) := by decide +kernel
abbrev k_X11_go (E : g_E) (l : Launch) (D : g_D) (v1 : Int) (K : Int → g_D → Prop) : Prop := g_Ki E l m_X11_go 6 [g_R 0, g_I v1] g_SH D K
abbrev n_X11_go (E : g_E) (l : Launch) (D : g_D) (pc : Nat) (L : List (Option g_V)) (K : Int → g_D → Prop) : Prop := g_N E l m_X11_go 6 pc L [] g_SH D (g_Ri g_SH K)
theorem s_X11_go {E : g_E} {l : Launch} {D : g_D} {K : Int → g_D → Prop} {v1 : Int}  (hF : g_okD D → g_r v1 → (v1 < 1 → K (-3) D) ∧ (¬ v1 < 1 → (v1 ≤ 400 → (¬ (D 7 9) = 0 → k_X11_makeCourse E l D (fun D1 => (g_r ((D1 175 4) - (D1 7 7))) ∧ ((1 ≤ (min v1 ((D1 175 4) - (D1 7 7))) → k_X3_keep E l D1 7 (fun D2 => n_X11_go E l D2 81 [some (g_R 0), none, some (g_I (min v1 ((D1 175 4) - (D1 7 7)))), some (g_I 0)] K)) ∧ (¬ 1 ≤ (min v1 ((D1 175 4) - (D1 7 7))) → K 0 D1)))) ∧ ((D 7 9) = 0 → K (-5) D)) ∧ (¬ v1 ≤ 400 → K (-3) D))) : k_X11_go E l D v1 K := by
  refine g_enter (by decide) (Nat.le_of_ble_eq_true rfl) ?_
  show g_N E l m_X11_go 6 0 [some (g_R 0), some (g_I v1), none, none] [] g_SH D (g_Ri g_SH K)
  refine g_use (fun ok => ?_)
  have hF := hF ok.2.1 (ok.loc (i := 1) rfl)
  refine g_iload_n dX11_go_0 rfl ?_
  refine g_iconst dX11_go_1 ⟨by decide, by decide⟩ ?_
  refine g_clt dX11_go_2 rfl (fun q => ?_) (fun q => ?_)
  · have hF := hF.1 q
    refine g_bipush dX11_go_12 ⟨by decide, by decide⟩ ?_
    exact gw_iret dX11_go_14 rfl hF
  · have hF := hF.2 q
    refine g_iload_n dX11_go_5 rfl ?_
    refine g_sipush dX11_go_6 ⟨by decide, by decide⟩ ?_
    refine g_cle dX11_go_9 rfl (fun q => ?_) (fun q => ?_)
    · have hF := hF.1 q
      refine g_aload_n dX11_go_15 rfl ?_
      refine g_getR dX11_go_16 fd_X11_12 sh_0 rfl ?_
      refine g_getR dX11_go_19 fd_X11_119 sh_1 rfl ?_
      refine g_getI dX11_go_22 fd_X11_303 sh_7 rfl ?_
      refine g_ifne dX11_go_25 rfl (fun q => ?_) (fun q => ?_)
      · have hF := hF.1 q
        refine g_aload_n dX11_go_31 rfl ?_
        refine gw_cVv (b := 0) (As := []) (rest := []) dX11_go_32 mv_X11_310 sh_0 rfl (Nat.le_of_ble_eq_true rfl) (by decide) rfl hF ?_
        intro D1 hF
        refine g_iload_n dX11_go_35 rfl ?_
        refine g_aload_n dX11_go_36 rfl ?_
        refine g_getR dX11_go_37 fd_X11_77 sh_0 rfl ?_
        refine g_getI dX11_go_40 fd_X11_313 sh_175 rfl ?_
        refine g_aload_n dX11_go_43 rfl ?_
        refine g_getR dX11_go_44 fd_X11_12 sh_0 rfl ?_
        refine g_getR dX11_go_47 fd_X11_119 sh_1 rfl ?_
        refine g_getI dX11_go_50 fd_X11_334 sh_7 rfl ?_
        obtain ⟨hc, hF⟩ := hF
        refine g_isub dX11_go_53 hc ?_
        refine g_min dX11_go_54 mw_X11_337 (by decide) (Nat.le_refl _) (Nat.le_refl _) (Nat.le_of_ble_eq_true rfl) ?_
        refine gw_istore_n (L' := [some (g_R 0), some (g_I v1), some (g_I (min v1 ((D1 175 4) - (D1 7 7)))), none]) dX11_go_57 (by decide) rfl ?_
        refine g_iload_n dX11_go_58 rfl ?_
        refine g_iconst dX11_go_59 ⟨by decide, by decide⟩ ?_
        refine g_cge dX11_go_60 rfl (fun q => ?_) (fun q => ?_)
        · have hF := hF.1 q
          refine g_aload_n dX11_go_65 rfl ?_
          refine g_getR dX11_go_66 fd_X11_43 sh_0 rfl ?_
          refine g_aload_n dX11_go_69 rfl ?_
          refine g_getR dX11_go_70 fd_X11_12 sh_0 rfl ?_
          refine g_getR dX11_go_73 fd_X11_119 sh_1 rfl ?_
          refine gw_cVv (b := 52) (As := [g_R 7]) (rest := []) dX11_go_76 mv_X11_295 sh_52 rfl (Nat.le_of_ble_eq_true rfl) (by decide) rfl hF ?_
          intro D2 hF
          refine g_iconst dX11_go_79 ⟨by decide, by decide⟩ ?_
          refine gw_istore_n (L' := [some (g_R 0), some (g_I v1), some (g_I (min v1 ((D1 175 4) - (D1 7 7)))), some (g_I 0)]) dX11_go_80 (by decide) rfl ?_
          exact g_forget (L' := [some (g_R 0), none, some (g_I (min v1 ((D1 175 4) - (D1 7 7)))), some (g_I 0)]) ⟨rfl, ⟨rfl, ⟨rfl, trivial⟩⟩⟩ hF
        · have hF := hF.2 q
          refine g_iconst dX11_go_63 ⟨by decide, by decide⟩ ?_
          exact gw_iret dX11_go_64 rfl hF
      · have hF := hF.2 q
        refine g_bipush dX11_go_28 ⟨by decide, by decide⟩ ?_
        exact gw_iret dX11_go_30 rfl hF
    · have hF := hF.2 q
      refine g_bipush dX11_go_12 ⟨by decide, by decide⟩ ?_
      exact gw_iret dX11_go_14 rfl hF
theorem s_X11_go_81 {E : g_E} {l : Launch} {D : g_D} {K : Int → g_D → Prop} {v2 : Int} {v3 : Int}  (hF : g_okD D → g_r v2 → g_r v3 → (v2 ≤ v3 → K v2 D) ∧ (¬ v2 ≤ v3 → k_X1_doStep E l D 7 (fun D1 => (g_r (v3 + 1)) ∧ (n_X11_go E l D1 81 [some (g_R 0), none, some (g_I v2), some (g_I (v3 + 1))] K)))) : n_X11_go E l D 81 [some (g_R 0), none, some (g_I v2), some (g_I v3)] K := by
  refine g_use (fun ok => ?_)
  have hF := hF ok.2.1 (ok.loc (i := 2) rfl) (ok.loc (i := 3) rfl)
  refine g_iload_n dX11_go_81 rfl ?_
  refine g_iload_n dX11_go_82 rfl ?_
  refine g_cge dX11_go_83 rfl (fun q => ?_) (fun q => ?_)
  · have hF := hF.1 q
    refine g_iload_n dX11_go_106 rfl ?_
    exact gw_iret dX11_go_107 rfl hF
  · have hF := hF.2 q
    refine g_aload_n dX11_go_86 rfl ?_
    refine g_getR dX11_go_87 fd_X11_77 sh_0 rfl ?_
    refine g_aload_n dX11_go_90 rfl ?_
    refine g_getR dX11_go_91 fd_X11_12 sh_0 rfl ?_
    refine g_getR dX11_go_94 fd_X11_119 sh_1 rfl ?_
    refine gw_cVv (b := 175) (As := [g_R 7]) (rest := []) dX11_go_97 mv_X11_342 sh_175 rfl (Nat.le_of_ble_eq_true rfl) (by decide) rfl hF ?_
    intro D1 hF
    obtain ⟨hc, hF⟩ := hF
    refine gw_iinc (L' := [some (g_R 0), none, some (g_I v2), some (g_I (v3 + 1))]) dX11_go_100 rfl hc (by decide) rfl ?_
    refine g_goto dX11_go_103 rfl ?_
    exact hF
theorem dX11_hazard_0 : decode cX11_hazard 0 = .ok (.iload_n 1, 1) := by decide +kernel
theorem dX11_hazard_1 : decode cX11_hazard 1 = .ok (.ifCond .lt 8, 3) := by decide +kernel
theorem dX11_hazard_4 : decode cX11_hazard 4 = .ok (.iload_n 1, 1) := by decide +kernel
theorem dX11_hazard_5 : decode cX11_hazard 5 = .ok (.iconst 1, 1) := by decide +kernel
theorem dX11_hazard_6 : decode cX11_hazard 6 = .ok (.if_icmp .le 6, 3) := by decide +kernel
theorem dX11_hazard_9 : decode cX11_hazard 9 = .ok (.bipush (-2), 2) := by decide +kernel
theorem dX11_hazard_11 : decode cX11_hazard 11 = .ok (.ireturn, 1) := by decide +kernel
theorem dX11_hazard_12 : decode cX11_hazard 12 = .ok (.aload_n 0, 1) := by decide +kernel
theorem dX11_hazard_13 : decode cX11_hazard 13 = .ok (.invokevirtual 310, 3) := by decide +kernel
theorem dX11_hazard_16 : decode cX11_hazard 16 = .ok (.aload_n 0, 1) := by decide +kernel
theorem dX11_hazard_17 : decode cX11_hazard 17 = .ok (.getfield 77, 3) := by decide +kernel
theorem dX11_hazard_20 : decode cX11_hazard 20 = .ok (.getfield 388, 3) := by decide +kernel
theorem dX11_hazard_23 : decode cX11_hazard 23 = .ok (.astore_n 2, 1) := by decide +kernel
theorem dX11_hazard_24 : decode cX11_hazard 24 = .ok (.iconst 0, 1) := by decide +kernel
theorem dX11_hazard_25 : decode cX11_hazard 25 = .ok (.istore_n 3, 1) := by decide +kernel
theorem dX11_hazard_26 : decode cX11_hazard 26 = .ok (.iload_n 3, 1) := by decide +kernel
theorem dX11_hazard_27 : decode cX11_hazard 27 = .ok (.aload_n 2, 1) := by decide +kernel
theorem dX11_hazard_28 : decode cX11_hazard 28 = .ok (.getfield 391, 3) := by decide +kernel
theorem dX11_hazard_31 : decode cX11_hazard 31 = .ok (.if_icmp .ge 33, 3) := by decide +kernel
theorem dX11_hazard_34 : decode cX11_hazard 34 = .ok (.aload_n 2, 1) := by decide +kernel
theorem dX11_hazard_35 : decode cX11_hazard 35 = .ok (.iload_n 3, 1) := by decide +kernel
theorem dX11_hazard_36 : decode cX11_hazard 36 = .ok (.invokevirtual 392, 3) := by decide +kernel
theorem dX11_hazard_39 : decode cX11_hazard 39 = .ok (.istore 4, 2) := by decide +kernel
theorem dX11_hazard_41 : decode cX11_hazard 41 = .ok (.iload 4, 2) := by decide +kernel
theorem dX11_hazard_43 : decode cX11_hazard 43 = .ok (.iconst (-1), 1) := by decide +kernel
theorem dX11_hazard_44 : decode cX11_hazard 44 = .ok (.if_icmp .eq 14, 3) := by decide +kernel
theorem dX11_hazard_47 : decode cX11_hazard 47 = .ok (.iload_n 1, 1) := by decide +kernel
theorem dX11_hazard_48 : decode cX11_hazard 48 = .ok (.ifCond .ne 7, 3) := by decide +kernel
theorem dX11_hazard_51 : decode cX11_hazard 51 = .ok (.iload_n 3, 1) := by decide +kernel
theorem dX11_hazard_52 : decode cX11_hazard 52 = .ok (.goto 5, 3) := by decide +kernel
theorem dX11_hazard_55 : decode cX11_hazard 55 = .ok (.iload 4, 2) := by decide +kernel
theorem dX11_hazard_57 : decode cX11_hazard 57 = .ok (.ireturn, 1) := by decide +kernel
theorem dX11_hazard_58 : decode cX11_hazard 58 = .ok (.iinc 3 1, 3) := by decide +kernel
theorem dX11_hazard_61 : decode cX11_hazard 61 = .ok (.goto (-35), 3) := by decide +kernel
theorem dX11_hazard_64 : decode cX11_hazard 64 = .ok (.iconst (-1), 1) := by decide +kernel
theorem dX11_hazard_65 : decode cX11_hazard 65 = .ok (.ireturn, 1) := by decide +kernel
abbrev k_X11_hazard (E : g_E) (l : Launch) (D : g_D) (v1 : Int) (K : Int → g_D → Prop) : Prop := g_Ki E l m_X11_hazard 6 [g_R 0, g_I v1] g_SH D K
abbrev n_X11_hazard (E : g_E) (l : Launch) (D : g_D) (pc : Nat) (L : List (Option g_V)) (K : Int → g_D → Prop) : Prop := g_N E l m_X11_hazard 6 pc L [] g_SH D (g_Ri g_SH K)
theorem s_X11_hazard {E : g_E} {l : Launch} {D : g_D} {K : Int → g_D → Prop} {v1 : Int}  (hF : g_okD D → g_r v1 → (v1 < 0 → K (-2) D) ∧ (¬ v1 < 0 → (v1 ≤ 1 → k_X11_makeCourse E l D (fun D1 => n_X11_hazard E l D1 26 [none, some (g_I v1), some (g_R 176), some (g_I 0), none] K)) ∧ (¬ v1 ≤ 1 → K (-2) D))) : k_X11_hazard E l D v1 K := by
  refine g_enter (by decide) (Nat.le_of_ble_eq_true rfl) ?_
  show g_N E l m_X11_hazard 6 0 [some (g_R 0), some (g_I v1), none, none, none] [] g_SH D (g_Ri g_SH K)
  refine g_use (fun ok => ?_)
  have hF := hF ok.2.1 (ok.loc (i := 1) rfl)
  refine g_iload_n dX11_hazard_0 rfl ?_
  refine g_iflt dX11_hazard_1 rfl (fun q => ?_) (fun q => ?_)
  · have hF := hF.1 q
    refine g_bipush dX11_hazard_9 ⟨by decide, by decide⟩ ?_
    exact gw_iret dX11_hazard_11 rfl hF
  · have hF := hF.2 q
    refine g_iload_n dX11_hazard_4 rfl ?_
    refine g_iconst dX11_hazard_5 ⟨by decide, by decide⟩ ?_
    refine g_cle dX11_hazard_6 rfl (fun q => ?_) (fun q => ?_)
    · have hF := hF.1 q
      refine g_aload_n dX11_hazard_12 rfl ?_
      refine gw_cVv (b := 0) (As := []) (rest := []) dX11_hazard_13 mv_X11_310 sh_0 rfl (Nat.le_of_ble_eq_true rfl) (by decide) rfl hF ?_
      intro D1 hF
      refine g_aload_n dX11_hazard_16 rfl ?_
      refine g_getR dX11_hazard_17 fd_X11_77 sh_0 rfl ?_
      refine g_getR dX11_hazard_20 fd_X11_388 sh_175 rfl ?_
      refine gw_astore_n (L' := [some (g_R 0), some (g_I v1), some (g_R 176), none, none]) dX11_hazard_23 (by decide) rfl ?_
      refine g_iconst dX11_hazard_24 ⟨by decide, by decide⟩ ?_
      refine gw_istore_n (L' := [some (g_R 0), some (g_I v1), some (g_R 176), some (g_I 0), none]) dX11_hazard_25 (by decide) rfl ?_
      exact g_forget (L' := [none, some (g_I v1), some (g_R 176), some (g_I 0), none]) ⟨rfl, ⟨rfl, ⟨rfl, trivial⟩⟩⟩ hF
    · have hF := hF.2 q
      refine g_bipush dX11_hazard_9 ⟨by decide, by decide⟩ ?_
      exact gw_iret dX11_hazard_11 rfl hF
theorem s_X11_hazard_26 {E : g_E} {l : Launch} {D : g_D} {K : Int → g_D → Prop} {v1 : Int} {v3 : Int}  (hF : g_okD D → g_r v1 → g_r v3 → ((D 176 4) ≤ v3 → K (-1) D) ∧ (¬ (D 176 4) ≤ v3 → k_X5_firstOverwritten E l D 176 v3 (fun x1 D1 => g_r x1 → (x1 = (-1) → (g_r (v3 + 1)) ∧ (n_X11_hazard E l D1 26 [none, some (g_I v1), some (g_R 176), some (g_I (v3 + 1)), none] K)) ∧ (¬ x1 = (-1) → (¬ v1 = 0 → K x1 D1) ∧ (v1 = 0 → K v3 D1))))) : n_X11_hazard E l D 26 [none, some (g_I v1), some (g_R 176), some (g_I v3), none] K := by
  refine g_use (fun ok => ?_)
  have hF := hF ok.2.1 (ok.loc (i := 1) rfl) (ok.loc (i := 3) rfl)
  refine g_iload_n dX11_hazard_26 rfl ?_
  refine g_aload_n dX11_hazard_27 rfl ?_
  refine g_getI dX11_hazard_28 fd_X11_391 sh_176 rfl ?_
  refine g_cge dX11_hazard_31 rfl (fun q => ?_) (fun q => ?_)
  · have hF := hF.1 q
    refine g_iconst dX11_hazard_64 ⟨by decide, by decide⟩ ?_
    exact gw_iret dX11_hazard_65 rfl hF
  · have hF := hF.2 q
    refine g_aload_n dX11_hazard_34 rfl ?_
    refine g_iload_n dX11_hazard_35 rfl ?_
    refine gw_cVi (b := 176) (As := [g_I v3]) (rest := []) dX11_hazard_36 mv_X11_392 sh_176 rfl (Nat.le_of_ble_eq_true rfl) (by decide) rfl hF ?_
    intro x1 D1 hx1 hF
    have hF := hF hx1
    refine gw_istore (L' := [none, some (g_I v1), some (g_R 176), some (g_I v3), some (g_I x1)]) dX11_hazard_39 (by decide) rfl ?_
    refine g_iload dX11_hazard_41 rfl ?_
    refine g_iconst dX11_hazard_43 ⟨by decide, by decide⟩ ?_
    refine g_ceq dX11_hazard_44 rfl (fun q => ?_) (fun q => ?_)
    · have hF := hF.1 q
      obtain ⟨hc, hF⟩ := hF
      refine gw_iinc (L' := [none, some (g_I v1), some (g_R 176), some (g_I (v3 + 1)), some (g_I x1)]) dX11_hazard_58 rfl hc (by decide) rfl ?_
      refine g_goto dX11_hazard_61 rfl ?_
      exact g_forget (L' := [none, some (g_I v1), some (g_R 176), some (g_I (v3 + 1)), none]) ⟨rfl, ⟨rfl, ⟨rfl, trivial⟩⟩⟩ hF
    · have hF := hF.2 q
      refine g_iload_n dX11_hazard_47 rfl ?_
      refine g_ifne dX11_hazard_48 rfl (fun q => ?_) (fun q => ?_)
      · have hF := hF.1 q
        refine g_iload dX11_hazard_55 rfl ?_
        exact gw_iret dX11_hazard_57 rfl hF
      · have hF := hF.2 q
        refine g_iload_n dX11_hazard_51 rfl ?_
        refine g_goto dX11_hazard_52 rfl ?_
        exact gw_iret dX11_hazard_57 rfl hF
theorem dX11_image_0 : decode cX11_image 0 = .ok (.iload_n 1, 1) := by decide +kernel
theorem dX11_image_1 : decode cX11_image 1 = .ok (.ifCond .lt 8, 3) := by decide +kernel
theorem dX11_image_4 : decode cX11_image 4 = .ok (.iload_n 1, 1) := by decide +kernel
theorem dX11_image_5 : decode cX11_image 5 = .ok (.iconst 2, 1) := by decide +kernel
theorem dX11_image_6 : decode cX11_image 6 = .ok (.if_icmp .lt 6, 3) := by decide +kernel
theorem dX11_image_9 : decode cX11_image 9 = .ok (.bipush (-2), 2) := by decide +kernel
theorem dX11_image_11 : decode cX11_image 11 = .ok (.ireturn, 1) := by decide +kernel
theorem dX11_image_12 : decode cX11_image 12 = .ok (.aload_n 0, 1) := by decide +kernel
theorem dX11_image_13 : decode cX11_image 13 = .ok (.getfield 16, 3) := by decide +kernel
theorem dX11_image_16 : decode cX11_image 16 = .ok (.iload_n 1, 1) := by decide +kernel
theorem dX11_image_17 : decode cX11_image 17 = .ok (.aaload, 1) := by decide +kernel
theorem dX11_image_18 : decode cX11_image 18 = .ok (.aload_n 0, 1) := by decide +kernel
theorem dX11_image_19 : decode cX11_image 19 = .ok (.getfield 12, 3) := by decide +kernel
theorem dX11_image_22 : decode cX11_image 22 = .ok (.invokevirtual 406, 3) := by decide +kernel
theorem dX11_image_25 : decode cX11_image 25 = .ok (.aload_n 0, 1) := by decide +kernel
theorem dX11_image_26 : decode cX11_image 26 = .ok (.getfield 20, 3) := by decide +kernel
theorem dX11_image_29 : decode cX11_image 29 = .ok (.iload_n 1, 1) := by decide +kernel
theorem dX11_image_30 : decode cX11_image 30 = .ok (.iconst 1, 1) := by decide +kernel
theorem dX11_image_31 : decode cX11_image 31 = .ok (.bastore, 1) := by decide +kernel
theorem dX11_image_32 : decode cX11_image 32 = .ok (.iconst 0, 1) := by decide +kernel
theorem dX11_image_33 : decode cX11_image 33 = .ok (.ireturn, 1) := by decide +kernel
abbrev k_X11_image (E : g_E) (l : Launch) (D : g_D) (v1 : Int) (K : Int → g_D → Prop) : Prop := g_Ki E l m_X11_image 4 [g_R 0, g_I v1] g_SH D K
abbrev n_X11_image (E : g_E) (l : Launch) (D : g_D) (pc : Nat) (L : List (Option g_V)) (K : Int → g_D → Prop) : Prop := g_N E l m_X11_image 4 pc L [] g_SH D (g_Ri g_SH K)
theorem s_X11_image {E : g_E} {l : Launch} {D : g_D} {K : Int → g_D → Prop} {v1 : Int}  (hF : g_okD D → g_r v1 → (v1 < 0 → K (-2) D) ∧ (¬ v1 < 0 → (v1 < 2 → (0 ≤ v1 ∧ v1 < 2) ∧ (k_X8_copyFrom E l D (16 + 14 * v1.toNat) 1 (fun D2 => (0 ≤ v1 ∧ v1 < 2) ∧ (∀ D3, D3 = g_up D2 44 v1.toNat 1 → (K 0 D3))))) ∧ (¬ v1 < 2 → K (-2) D))) : k_X11_image E l D v1 K := by
  refine g_enter (by decide) (Nat.le_of_ble_eq_true rfl) ?_
  show g_N E l m_X11_image 4 0 [some (g_R 0), some (g_I v1)] [] g_SH D (g_Ri g_SH K)
  refine g_use (fun ok => ?_)
  have hF := hF ok.2.1 (ok.loc (i := 1) rfl)
  refine g_iload_n dX11_image_0 rfl ?_
  refine g_iflt dX11_image_1 rfl (fun q => ?_) (fun q => ?_)
  · have hF := hF.1 q
    refine g_bipush dX11_image_9 ⟨by decide, by decide⟩ ?_
    exact gw_iret dX11_image_11 rfl hF
  · have hF := hF.2 q
    refine g_iload_n dX11_image_4 rfl ?_
    refine g_iconst dX11_image_5 ⟨by decide, by decide⟩ ?_
    refine g_clt dX11_image_6 rfl (fun q => ?_) (fun q => ?_)
    · have hF := hF.1 q
      refine g_aload_n dX11_image_12 rfl ?_
      refine g_getR dX11_image_13 fd_X11_16 sh_0 rfl ?_
      refine g_iload_n dX11_image_16 rfl ?_
      obtain ⟨hc, hF⟩ := hF
      have hi1 : is_State g_SH (16 + 14 * v1.toNat) := ix_State v1.toNat (by omega)
      refine g_aald dX11_image_17 sh_15 (by decide) hc.1 hc.2 (if_pos (by omega)) ?_
      refine g_aload_n dX11_image_18 rfl ?_
      refine g_getR dX11_image_19 fd_X11_12 sh_0 rfl ?_
      refine gw_cVv (b := (16 + 14 * v1.toNat)) (As := [g_R 1]) (rest := []) dX11_image_22 mv_X11_406 hi1.1 rfl (Nat.le_of_ble_eq_true rfl) (by decide) rfl hF ?_
      intro D2 hF
      refine g_aload_n dX11_image_25 rfl ?_
      refine g_getR dX11_image_26 fd_X11_20 sh_0 rfl ?_
      refine g_iload_n dX11_image_29 rfl ?_
      refine g_iconst dX11_image_30 ⟨by decide, by decide⟩ ?_
      obtain ⟨hc, hF⟩ := hF
      let D3 : g_D := g_up D2 44 v1.toNat 1
      have hF := hF D3 rfl
      refine g_bast dX11_image_31 sh_44 hc.1 hc.2 (by decide) ?_
      refine g_iconst dX11_image_32 ⟨by decide, by decide⟩ ?_
      exact gw_iret dX11_image_33 rfl hF
    · have hF := hF.2 q
      refine g_bipush dX11_image_9 ⟨by decide, by decide⟩ ?_
      exact gw_iret dX11_image_11 rfl hF
theorem dX11_least_0 : decode cX11_least 0 = .ok (.aload_n 0, 1) := by decide +kernel
theorem dX11_least_1 : decode cX11_least 1 = .ok (.getfield 68, 3) := by decide +kernel
theorem dX11_least_4 : decode cX11_least 4 = .ok (.aload_n 0, 1) := by decide +kernel
theorem dX11_least_5 : decode cX11_least 5 = .ok (.getfield 12, 3) := by decide +kernel
theorem dX11_least_8 : decode cX11_least 8 = .ok (.getfield 105, 3) := by decide +kernel
theorem dX11_least_11 : decode cX11_least 11 = .ok (.aload_n 0, 1) := by decide +kernel
theorem dX11_least_12 : decode cX11_least 12 = .ok (.getfield 12, 3) := by decide +kernel
theorem dX11_least_15 : decode cX11_least 15 = .ok (.getfield 112, 3) := by decide +kernel
theorem dX11_least_18 : decode cX11_least 18 = .ok (.aload_n 0, 1) := by decide +kernel
theorem dX11_least_19 : decode cX11_least 19 = .ok (.getfield 12, 3) := by decide +kernel
theorem dX11_least_22 : decode cX11_least 22 = .ok (.getfield 142, 3) := by decide +kernel
theorem dX11_least_25 : decode cX11_least 25 = .ok (.iconst 0, 1) := by decide +kernel
theorem dX11_least_26 : decode cX11_least 26 = .ok (.iaload, 1) := by decide +kernel
theorem dX11_least_27 : decode cX11_least 27 = .ok (.invokevirtual 171, 3) := by decide +kernel
theorem dX11_least_30 : decode cX11_least 30 = .ok (.ireturn, 1) := by decide +kernel
abbrev k_X11_least (E : g_E) (l : Launch) (D : g_D) (K : Int → g_D → Prop) : Prop := g_Ki E l m_X11_least 4 [g_R 0] g_SH D K
abbrev n_X11_least (E : g_E) (l : Launch) (D : g_D) (pc : Nat) (L : List (Option g_V)) (K : Int → g_D → Prop) : Prop := g_N E l m_X11_least 4 pc L [] g_SH D (g_Ri g_SH K)
theorem s_X11_least {E : g_E} {l : Launch} {D : g_D} {K : Int → g_D → Prop}   (hF : g_okD D → k_X7_leastSize E l D 156 2 4 (D 6 0) (fun x1 D1 => g_r x1 → K x1 D1)) : k_X11_least E l D K := by
  refine g_enter (by decide) (Nat.le_of_ble_eq_true rfl) ?_
  show g_N E l m_X11_least 4 0 [some (g_R 0)] [] g_SH D (g_Ri g_SH K)
  refine g_use (fun ok => ?_)
  have hF := hF ok.2.1
  refine g_aload_n dX11_least_0 rfl ?_
  refine g_getR dX11_least_1 fd_X11_68 sh_0 rfl ?_
  refine g_aload_n dX11_least_4 rfl ?_
  refine g_getR dX11_least_5 fd_X11_12 sh_0 rfl ?_
  refine g_getR dX11_least_8 fd_X11_105 sh_1 rfl ?_
  refine g_aload_n dX11_least_11 rfl ?_
  refine g_getR dX11_least_12 fd_X11_12 sh_0 rfl ?_
  refine g_getR dX11_least_15 fd_X11_112 sh_1 rfl ?_
  refine g_aload_n dX11_least_18 rfl ?_
  refine g_getR dX11_least_19 fd_X11_12 sh_0 rfl ?_
  refine g_getR dX11_least_22 fd_X11_142 sh_1 rfl ?_
  refine g_iconst dX11_least_25 ⟨by decide, by decide⟩ ?_
  refine g_iald dX11_least_26 sh_6 (by decide) (by decide) ?_
  refine gw_cVi (b := 156) (As := [g_R 2, g_R 4, g_I (D 6 0)]) (rest := []) dX11_least_27 mv_X11_171 sh_156 rfl (Nat.le_of_ble_eq_true rfl) (by decide) rfl hF ?_
  intro x1 D1 hx1 hF
  have hF := hF hx1
  exact gw_iret dX11_least_30 rfl hF
theorem dX11_takePatch_0 : decode cX11_takePatch 0 = .ok (.aload_n 0, 1) := by decide +kernel
theorem dX11_takePatch_1 : decode cX11_takePatch 1 = .ok (.getfield 43, 3) := by decide +kernel
theorem dX11_takePatch_4 : decode cX11_takePatch 4 = .ok (.aload_n 0, 1) := by decide +kernel
theorem dX11_takePatch_5 : decode cX11_takePatch 5 = .ok (.getfield 12, 3) := by decide +kernel
theorem dX11_takePatch_8 : decode cX11_takePatch 8 = .ok (.getfield 119, 3) := by decide +kernel
theorem dX11_takePatch_11 : decode cX11_takePatch 11 = .ok (.invokevirtual 295, 3) := by decide +kernel
theorem dX11_takePatch_14 : decode cX11_takePatch 14 = .ok (.aload_n 0, 1) := by decide +kernel
theorem dX11_takePatch_15 : decode cX11_takePatch 15 = .ok (.getfield 12, 3) := by decide +kernel
theorem dX11_takePatch_18 : decode cX11_takePatch 18 = .ok (.getfield 119, 3) := by decide +kernel
theorem dX11_takePatch_21 : decode cX11_takePatch 21 = .ok (.aload_n 1, 1) := by decide +kernel
theorem dX11_takePatch_22 : decode cX11_takePatch 22 = .ok (.iload_n 2, 1) := by decide +kernel
theorem dX11_takePatch_23 : decode cX11_takePatch 23 = .ok (.invokevirtual 422, 3) := by decide +kernel
theorem dX11_takePatch_26 : decode cX11_takePatch 26 = .ok (.aload_n 0, 1) := by decide +kernel
theorem dX11_takePatch_27 : decode cX11_takePatch 27 = .ok (.iconst 1, 1) := by decide +kernel
theorem dX11_takePatch_28 : decode cX11_takePatch 28 = .ok (.putfield 95, 3) := by decide +kernel
theorem dX11_takePatch_31 : decode cX11_takePatch 31 = .ok (.return_, 1) := by decide +kernel
abbrev k_X11_takePatch (E : g_E) (l : Launch) (D : g_D) (r1 : Nat) (v2 : Int) (K : g_D → Prop) : Prop := g_Kv E l m_X11_takePatch 4 [g_R 0, g_R r1, g_I v2] g_SH D K
abbrev n_X11_takePatch (E : g_E) (l : Launch) (D : g_D) (pc : Nat) (L : List (Option g_V)) (K : g_D → Prop) : Prop := g_N E l m_X11_takePatch 4 pc L [] g_SH D (g_Rv g_SH K)
theorem s_X11_takePatch {E : g_E} {l : Launch} {D : g_D} {K : g_D → Prop} {nr1 : Nat} {r1 : Nat} {v2 : Int} (hr1 : is_Cells g_SH r1 nr1) (hF : g_okD D → g_r v2 → k_X3_keep E l D 7 (fun D1 => k_X2_start E l D1 7 r1 v2 (fun D2 => ∀ D3, D3 = g_up D2 0 15 1 → (K D3)))) : k_X11_takePatch E l D r1 v2 K := by
  refine g_enter (by decide) (Nat.le_of_ble_eq_true rfl) ?_
  show g_N E l m_X11_takePatch 4 0 [some (g_R 0), some (g_R r1), some (g_I v2)] [] g_SH D (g_Rv g_SH K)
  refine g_use (fun ok => ?_)
  have hF := hF ok.2.1 (ok.loc (i := 2) rfl)
  refine g_aload_n dX11_takePatch_0 rfl ?_
  refine g_getR dX11_takePatch_1 fd_X11_43 sh_0 rfl ?_
  refine g_aload_n dX11_takePatch_4 rfl ?_
  refine g_getR dX11_takePatch_5 fd_X11_12 sh_0 rfl ?_
  refine g_getR dX11_takePatch_8 fd_X11_119 sh_1 rfl ?_
  refine gw_cVv (b := 52) (As := [g_R 7]) (rest := []) dX11_takePatch_11 mv_X11_295 sh_52 rfl (Nat.le_of_ble_eq_true rfl) (by decide) rfl hF ?_
  intro D1 hF
  refine g_aload_n dX11_takePatch_14 rfl ?_
  refine g_getR dX11_takePatch_15 fd_X11_12 sh_0 rfl ?_
  refine g_getR dX11_takePatch_18 fd_X11_119 sh_1 rfl ?_
  refine g_aload_n dX11_takePatch_21 rfl ?_
  refine g_iload_n dX11_takePatch_22 rfl ?_
  refine gw_cVv (b := 7) (As := [g_R r1, g_I v2]) (rest := []) dX11_takePatch_23 mv_X11_422 sh_7 rfl (Nat.le_of_ble_eq_true rfl) (by decide) rfl hF ?_
  intro D2 hF
  refine g_aload_n dX11_takePatch_26 rfl ?_
  refine g_iconst dX11_takePatch_27 ⟨by decide, by decide⟩ ?_
  let D3 : g_D := g_up D2 0 15 1
  have hF := hF D3 rfl
  refine g_put dX11_takePatch_28 fd_X11_95 (g_ftyZ (C := RX11) (T := TX11) (N := 16) rfl rfl (by decide +kernel) (by decide)) sh_0 rfl ?_
  exact gw_vret dX11_takePatch_31 rfl hF
theorem dX11_load_0 : decode cX11_load 0 = .ok (.iload_n 1, 1) := by decide +kernel
theorem dX11_load_1 : decode cX11_load 1 = .ok (.ifCond .lt 14, 3) := by decide +kernel
theorem dX11_load_4 : decode cX11_load 4 = .ok (.iload_n 1, 1) := by decide +kernel
theorem dX11_load_5 : decode cX11_load 5 = .ok (.aload_n 0, 1) := by decide +kernel
theorem dX11_load_6 : decode cX11_load 6 = .ok (.getfield 29, 3) := by decide +kernel
theorem dX11_load_9 : decode cX11_load 9 = .ok (.getfield 98, 3) := by decide +kernel
theorem dX11_load_12 : decode cX11_load 12 = .ok (.if_icmp .le 6, 3) := by decide +kernel
theorem dX11_load_15 : decode cX11_load 15 = .ok (.bipush (-3), 2) := by decide +kernel
theorem dX11_load_17 : decode cX11_load 17 = .ok (.ireturn, 1) := by decide +kernel
theorem dX11_load_18 : decode cX11_load 18 = .ok (.aload_n 0, 1) := by decide +kernel
theorem dX11_load_19 : decode cX11_load 19 = .ok (.getfield 12, 3) := by decide +kernel
theorem dX11_load_22 : decode cX11_load 22 = .ok (.getfield 119, 3) := by decide +kernel
theorem dX11_load_25 : decode cX11_load 25 = .ok (.getfield 303, 3) := by decide +kernel
theorem dX11_load_28 : decode cX11_load 28 = .ok (.ifCond .ne 6, 3) := by decide +kernel
theorem dX11_load_31 : decode cX11_load 31 = .ok (.bipush (-5), 2) := by decide +kernel
theorem dX11_load_33 : decode cX11_load 33 = .ok (.ireturn, 1) := by decide +kernel
theorem dX11_load_34 : decode cX11_load 34 = .ok (.aload_n 0, 1) := by decide +kernel
theorem dX11_load_35 : decode cX11_load 35 = .ok (.getfield 36, 3) := by decide +kernel
theorem dX11_load_38 : decode cX11_load 38 = .ok (.aload_n 0, 1) := by decide +kernel
theorem dX11_load_39 : decode cX11_load 39 = .ok (.getfield 29, 3) := by decide +kernel
theorem dX11_load_42 : decode cX11_load 42 = .ok (.iload_n 1, 1) := by decide +kernel
theorem dX11_load_43 : decode cX11_load 43 = .ok (.invokevirtual 316, 3) := by decide +kernel
theorem dX11_load_46 : decode cX11_load 46 = .ok (.aload_n 0, 1) := by decide +kernel
theorem dX11_load_47 : decode cX11_load 47 = .ok (.getfield 36, 3) := by decide +kernel
theorem dX11_load_50 : decode cX11_load 50 = .ok (.getfield 319, 3) := by decide +kernel
theorem dX11_load_53 : decode cX11_load 53 = .ok (.ifCond .ne 12, 3) := by decide +kernel
theorem dX11_load_56 : decode cX11_load 56 = .ok (.aload_n 0, 1) := by decide +kernel
theorem dX11_load_57 : decode cX11_load 57 = .ok (.aload_n 0, 1) := by decide +kernel
theorem dX11_load_58 : decode cX11_load 58 = .ok (.getfield 29, 3) := by decide +kernel
theorem dX11_load_61 : decode cX11_load 61 = .ok (.iload_n 1, 1) := by decide +kernel
theorem dX11_load_62 : decode cX11_load 62 = .ok (.invokevirtual 306, 3) := by decide +kernel
theorem dX11_load_65 : decode cX11_load 65 = .ok (.aload_n 0, 1) := by decide +kernel
theorem dX11_load_66 : decode cX11_load 66 = .ok (.getfield 29, 3) := by decide +kernel
theorem dX11_load_69 : decode cX11_load 69 = .ok (.iconst 0, 1) := by decide +kernel
theorem dX11_load_70 : decode cX11_load 70 = .ok (.putfield 98, 3) := by decide +kernel
theorem dX11_load_73 : decode cX11_load 73 = .ok (.aload_n 0, 1) := by decide +kernel
theorem dX11_load_74 : decode cX11_load 74 = .ok (.invokevirtual 310, 3) := by decide +kernel
theorem dX11_load_77 : decode cX11_load 77 = .ok (.aload_n 0, 1) := by decide +kernel
theorem dX11_load_78 : decode cX11_load 78 = .ok (.getfield 36, 3) := by decide +kernel
theorem dX11_load_81 : decode cX11_load 81 = .ok (.getfield 319, 3) := by decide +kernel
theorem dX11_load_84 : decode cX11_load 84 = .ok (.ifCond .ne 13, 3) := by decide +kernel
theorem dX11_load_87 : decode cX11_load 87 = .ok (.aload_n 0, 1) := by decide +kernel
theorem dX11_load_88 : decode cX11_load 88 = .ok (.getfield 77, 3) := by decide +kernel
theorem dX11_load_91 : decode cX11_load 91 = .ok (.getfield 313, 3) := by decide +kernel
theorem dX11_load_94 : decode cX11_load 94 = .ok (.goto 13, 3) := by decide +kernel
theorem dX11_load_97 : decode cX11_load 97 = .ok (.bipush (-30), 2) := by decide +kernel
theorem dX11_load_99 : decode cX11_load 99 = .ok (.aload_n 0, 1) := by decide +kernel
theorem dX11_load_100 : decode cX11_load 100 = .ok (.getfield 36, 3) := by decide +kernel
theorem dX11_load_103 : decode cX11_load 103 = .ok (.getfield 319, 3) := by decide +kernel
theorem dX11_load_106 : decode cX11_load 106 = .ok (.isub, 1) := by decide +kernel
theorem dX11_load_107 : decode cX11_load 107 = .ok (.ireturn, 1) := by decide +kernel
abbrev k_X11_load (E : g_E) (l : Launch) (D : g_D) (v1 : Int) (K : Int → g_D → Prop) : Prop := g_Ki E l m_X11_load 6 [g_R 0, g_I v1] g_SH D K
abbrev n_X11_load (E : g_E) (l : Launch) (D : g_D) (pc : Nat) (L : List (Option g_V)) (K : Int → g_D → Prop) : Prop := g_N E l m_X11_load 6 pc L [] g_SH D (g_Ri g_SH K)
theorem s_X11_load {E : g_E} {l : Launch} {D : g_D} {K : Int → g_D → Prop} {v1 : Int}  (hF : g_okD D → g_r v1 → (v1 < 0 → K (-3) D) ∧ (¬ v1 < 0 → (v1 ≤ (D 45 1) → (¬ (D 7 9) = 0 → k_X5_readActs E l D 47 45 v1 (fun D1 => (¬ (D1 47 5) = 0 → ∀ D2, D2 = g_up D1 45 1 0 → (k_X11_makeCourse E l D2 (fun D3 => (¬ (D3 47 5) = 0 → (g_r ((-30) - (D3 47 5))) ∧ (K ((-30) - (D3 47 5)) D3)) ∧ ((D3 47 5) = 0 → K (D3 175 4) D3)))) ∧ ((D1 47 5) = 0 → k_X11_takePatch E l D1 45 v1 (fun D4 => ∀ D5, D5 = g_up D4 45 1 0 → (k_X11_makeCourse E l D5 (fun D6 => (¬ (D6 47 5) = 0 → (g_r ((-30) - (D6 47 5))) ∧ (K ((-30) - (D6 47 5)) D6)) ∧ ((D6 47 5) = 0 → K (D6 175 4) D6))))))) ∧ ((D 7 9) = 0 → K (-5) D)) ∧ (¬ v1 ≤ (D 45 1) → K (-3) D))) : k_X11_load E l D v1 K := by
  refine g_enter (by decide) (Nat.le_of_ble_eq_true rfl) ?_
  show g_N E l m_X11_load 6 0 [some (g_R 0), some (g_I v1)] [] g_SH D (g_Ri g_SH K)
  refine g_use (fun ok => ?_)
  have hF := hF ok.2.1 (ok.loc (i := 1) rfl)
  refine g_iload_n dX11_load_0 rfl ?_
  refine g_iflt dX11_load_1 rfl (fun q => ?_) (fun q => ?_)
  · have hF := hF.1 q
    refine g_bipush dX11_load_15 ⟨by decide, by decide⟩ ?_
    exact gw_iret dX11_load_17 rfl hF
  · have hF := hF.2 q
    refine g_iload_n dX11_load_4 rfl ?_
    refine g_aload_n dX11_load_5 rfl ?_
    refine g_getR dX11_load_6 fd_X11_29 sh_0 rfl ?_
    refine g_getI dX11_load_9 fd_X11_98 sh_45 rfl ?_
    refine g_cle dX11_load_12 rfl (fun q => ?_) (fun q => ?_)
    · have hF := hF.1 q
      refine g_aload_n dX11_load_18 rfl ?_
      refine g_getR dX11_load_19 fd_X11_12 sh_0 rfl ?_
      refine g_getR dX11_load_22 fd_X11_119 sh_1 rfl ?_
      refine g_getI dX11_load_25 fd_X11_303 sh_7 rfl ?_
      refine g_ifne dX11_load_28 rfl (fun q => ?_) (fun q => ?_)
      · have hF := hF.1 q
        refine g_aload_n dX11_load_34 rfl ?_
        refine g_getR dX11_load_35 fd_X11_36 sh_0 rfl ?_
        refine g_aload_n dX11_load_38 rfl ?_
        refine g_getR dX11_load_39 fd_X11_29 sh_0 rfl ?_
        refine g_iload_n dX11_load_42 rfl ?_
        refine gw_cVv (b := 47) (As := [g_R 45, g_I v1]) (rest := []) dX11_load_43 mv_X11_316 sh_47 rfl (Nat.le_of_ble_eq_true rfl) (by decide) rfl hF ?_
        intro D1 hF
        refine g_aload_n dX11_load_46 rfl ?_
        refine g_getR dX11_load_47 fd_X11_36 sh_0 rfl ?_
        refine g_getI dX11_load_50 fd_X11_319 sh_47 rfl ?_
        refine g_ifne dX11_load_53 rfl (fun q => ?_) (fun q => ?_)
        · have hF := hF.1 q
          refine g_aload_n dX11_load_65 rfl ?_
          refine g_getR dX11_load_66 fd_X11_29 sh_0 rfl ?_
          refine g_iconst dX11_load_69 ⟨by decide, by decide⟩ ?_
          let D2 : g_D := g_up D1 45 1 0
          have hF := hF D2 rfl
          refine g_put dX11_load_70 fd_X11_98 (g_ftyI (C := RX0) (T := TX0) (N := 2) rfl rfl (by decide +kernel)) sh_45 rfl ?_
          refine g_aload_n dX11_load_73 rfl ?_
          refine gw_cVv (b := 0) (As := []) (rest := []) dX11_load_74 mv_X11_310 sh_0 rfl (Nat.le_of_ble_eq_true rfl) (by decide) rfl hF ?_
          intro D3 hF
          refine g_aload_n dX11_load_77 rfl ?_
          refine g_getR dX11_load_78 fd_X11_36 sh_0 rfl ?_
          refine g_getI dX11_load_81 fd_X11_319 sh_47 rfl ?_
          refine g_ifne dX11_load_84 rfl (fun q => ?_) (fun q => ?_)
          · have hF := hF.1 q
            refine g_bipush dX11_load_97 ⟨by decide, by decide⟩ ?_
            refine g_aload_n dX11_load_99 rfl ?_
            refine g_getR dX11_load_100 fd_X11_36 sh_0 rfl ?_
            refine g_getI dX11_load_103 fd_X11_319 sh_47 rfl ?_
            obtain ⟨hc, hF⟩ := hF
            refine g_isub dX11_load_106 hc ?_
            exact gw_iret dX11_load_107 rfl hF
          · have hF := hF.2 q
            refine g_aload_n dX11_load_87 rfl ?_
            refine g_getR dX11_load_88 fd_X11_77 sh_0 rfl ?_
            refine g_getI dX11_load_91 fd_X11_313 sh_175 rfl ?_
            refine g_goto dX11_load_94 rfl ?_
            exact gw_iret dX11_load_107 rfl hF
        · have hF := hF.2 q
          refine g_aload_n dX11_load_56 rfl ?_
          refine g_aload_n dX11_load_57 rfl ?_
          refine g_getR dX11_load_58 fd_X11_29 sh_0 rfl ?_
          refine g_iload_n dX11_load_61 rfl ?_
          refine gw_cVv (b := 0) (As := [g_R 45, g_I v1]) (rest := []) dX11_load_62 mv_X11_306 sh_0 rfl (Nat.le_of_ble_eq_true rfl) (by decide) rfl hF ?_
          intro D4 hF
          refine g_aload_n dX11_load_65 rfl ?_
          refine g_getR dX11_load_66 fd_X11_29 sh_0 rfl ?_
          refine g_iconst dX11_load_69 ⟨by decide, by decide⟩ ?_
          let D5 : g_D := g_up D4 45 1 0
          have hF := hF D5 rfl
          refine g_put dX11_load_70 fd_X11_98 (g_ftyI (C := RX0) (T := TX0) (N := 2) rfl rfl (by decide +kernel)) sh_45 rfl ?_
          refine g_aload_n dX11_load_73 rfl ?_
          refine gw_cVv (b := 0) (As := []) (rest := []) dX11_load_74 mv_X11_310 sh_0 rfl (Nat.le_of_ble_eq_true rfl) (by decide) rfl hF ?_
          intro D6 hF
          refine g_aload_n dX11_load_77 rfl ?_
          refine g_getR dX11_load_78 fd_X11_36 sh_0 rfl ?_
          refine g_getI dX11_load_81 fd_X11_319 sh_47 rfl ?_
          refine g_ifne dX11_load_84 rfl (fun q => ?_) (fun q => ?_)
          · have hF := hF.1 q
            refine g_bipush dX11_load_97 ⟨by decide, by decide⟩ ?_
            refine g_aload_n dX11_load_99 rfl ?_
            refine g_getR dX11_load_100 fd_X11_36 sh_0 rfl ?_
            refine g_getI dX11_load_103 fd_X11_319 sh_47 rfl ?_
            obtain ⟨hc, hF⟩ := hF
            refine g_isub dX11_load_106 hc ?_
            exact gw_iret dX11_load_107 rfl hF
          · have hF := hF.2 q
            refine g_aload_n dX11_load_87 rfl ?_
            refine g_getR dX11_load_88 fd_X11_77 sh_0 rfl ?_
            refine g_getI dX11_load_91 fd_X11_313 sh_175 rfl ?_
            refine g_goto dX11_load_94 rfl ?_
            exact gw_iret dX11_load_107 rfl hF
      · have hF := hF.2 q
        refine g_bipush dX11_load_31 ⟨by decide, by decide⟩ ?_
        exact gw_iret dX11_load_33 rfl hF
    · have hF := hF.2 q
      refine g_bipush dX11_load_15 ⟨by decide, by decide⟩ ?_
      exact gw_iret dX11_load_17 rfl hF
theorem dX11_needs_0 : decode cX11_needs 0 = .ok (.aload_n 0, 1) := by decide +kernel
theorem dX11_needs_1 : decode cX11_needs 1 = .ok (.invokevirtual 175, 3) := by decide +kernel
theorem dX11_needs_4 : decode cX11_needs 4 = .ok (.iconst 0, 1) := by decide +kernel
theorem dX11_needs_5 : decode cX11_needs 5 = .ok (.istore_n 1, 1) := by decide +kernel
theorem dX11_needs_6 : decode cX11_needs 6 = .ok (.iload_n 1, 1) := by decide +kernel
theorem dX11_needs_7 : decode cX11_needs 7 = .ok (.getstatic 139, 3) := by decide +kernel
theorem dX11_needs_10 : decode cX11_needs 10 = .ok (.iconst 3, 1) := by decide +kernel
theorem dX11_needs_11 : decode cX11_needs 11 = .ok (.iaload, 1) := by decide +kernel
theorem dX11_needs_12 : decode cX11_needs 12 = .ok (.if_icmp .gt 42, 3) := by decide +kernel
theorem dX11_needs_15 : decode cX11_needs 15 = .ok (.aload_n 0, 1) := by decide +kernel
theorem dX11_needs_16 : decode cX11_needs 16 = .ok (.getfield 71, 3) := by decide +kernel
theorem dX11_needs_19 : decode cX11_needs 19 = .ok (.aload_n 0, 1) := by decide +kernel
theorem dX11_needs_20 : decode cX11_needs 20 = .ok (.getfield 57, 3) := by decide +kernel
theorem dX11_needs_23 : decode cX11_needs 23 = .ok (.aload_n 0, 1) := by decide +kernel
theorem dX11_needs_24 : decode cX11_needs 24 = .ok (.getfield 12, 3) := by decide +kernel
theorem dX11_needs_27 : decode cX11_needs 27 = .ok (.getfield 142, 3) := by decide +kernel
theorem dX11_needs_30 : decode cX11_needs 30 = .ok (.iconst 2, 1) := by decide +kernel
theorem dX11_needs_31 : decode cX11_needs 31 = .ok (.iaload, 1) := by decide +kernel
theorem dX11_needs_32 : decode cX11_needs 32 = .ok (.iload_n 1, 1) := by decide +kernel
theorem dX11_needs_33 : decode cX11_needs 33 = .ok (.invokevirtual 276, 3) := by decide +kernel
theorem dX11_needs_36 : decode cX11_needs 36 = .ok (.aload_n 0, 1) := by decide +kernel
theorem dX11_needs_37 : decode cX11_needs 37 = .ok (.getfield 71, 3) := by decide +kernel
theorem dX11_needs_40 : decode cX11_needs 40 = .ok (.getfield 264, 3) := by decide +kernel
theorem dX11_needs_43 : decode cX11_needs 43 = .ok (.ifCond .ne 5, 3) := by decide +kernel
theorem dX11_needs_46 : decode cX11_needs 46 = .ok (.iload_n 1, 1) := by decide +kernel
theorem dX11_needs_47 : decode cX11_needs 47 = .ok (.ireturn, 1) := by decide +kernel
theorem dX11_needs_48 : decode cX11_needs 48 = .ok (.iinc 1 1, 3) := by decide +kernel
theorem dX11_needs_51 : decode cX11_needs 51 = .ok (.goto (-45), 3) := by decide +kernel
theorem dX11_needs_54 : decode cX11_needs 54 = .ok (.iconst (-1), 1) := by decide +kernel
theorem dX11_needs_55 : decode cX11_needs 55 = .ok (.ireturn, 1) := by decide +kernel
abbrev k_X11_needs (E : g_E) (l : Launch) (D : g_D) (K : Int → g_D → Prop) : Prop := g_Ki E l m_X11_needs 6 [g_R 0] g_SH D K
abbrev n_X11_needs (E : g_E) (l : Launch) (D : g_D) (pc : Nat) (L : List (Option g_V)) (K : Int → g_D → Prop) : Prop := g_N E l m_X11_needs 6 pc L [] g_SH D (g_Ri g_SH K)
theorem s_X11_needs {E : g_E} {l : Launch} {D : g_D} {K : Int → g_D → Prop}   (hF : g_okD D → k_X11_makePlan E l D (fun D1 => n_X11_needs E l D1 6 [some (g_R 0), some (g_I 0)] K)) : k_X11_needs E l D K := by
  refine g_enter (by decide) (Nat.le_of_ble_eq_true rfl) ?_
  show g_N E l m_X11_needs 6 0 [some (g_R 0), none] [] g_SH D (g_Ri g_SH K)
  refine g_use (fun ok => ?_)
  have hF := hF ok.2.1
  refine g_aload_n dX11_needs_0 rfl ?_
  refine gw_cVv (b := 0) (As := []) (rest := []) dX11_needs_1 mv_X11_175 sh_0 rfl (Nat.le_of_ble_eq_true rfl) (by decide) rfl hF ?_
  intro D1 hF
  refine g_iconst dX11_needs_4 ⟨by decide, by decide⟩ ?_
  refine gw_istore_n (L' := [some (g_R 0), some (g_I 0)]) dX11_needs_5 (by decide) rfl ?_
  exact hF
theorem s_X11_needs_6 {E : g_E} {l : Launch} {D : g_D} {K : Int → g_D → Prop} {v1 : Int}  (hF : g_okD D → g_r v1 → (0 ≤ (3 : Int) ∧ (3 : Int) < g_fl E 3 ∧ g_r (g_fx E 3 3)) ∧ (((g_fx E 3 3) < v1 → K (-1) D) ∧ (¬ (g_fx E 3 3) < v1 → k_X4_build E l D 168 137 (D 6 2) v1 (fun D1 => (¬ (D1 168 9) = 0 → (g_r (v1 + 1)) ∧ (n_X11_needs E l D1 6 [some (g_R 0), some (g_I (v1 + 1))] K)) ∧ ((D1 168 9) = 0 → K v1 D1))))) : n_X11_needs E l D 6 [some (g_R 0), some (g_I v1)] K := by
  refine g_use (fun ok => ?_)
  have hF := hF ok.2.1 (ok.loc (i := 1) rfl)
  refine g_iload_n dX11_needs_6 rfl ?_
  refine g_gets3 dX11_needs_7 gs_X11_139 ?_
  refine g_iconst dX11_needs_10 ⟨by decide, by decide⟩ ?_
  obtain ⟨hc, hF⟩ := hF
  refine g_ialdF dX11_needs_11 (by decide) hc.1 hc.2.1 hc.2.2 ?_
  refine g_cgt dX11_needs_12 rfl (fun q => ?_) (fun q => ?_)
  · have hF := hF.1 q
    refine g_iconst dX11_needs_54 ⟨by decide, by decide⟩ ?_
    exact gw_iret dX11_needs_55 rfl hF
  · have hF := hF.2 q
    refine g_aload_n dX11_needs_15 rfl ?_
    refine g_getR dX11_needs_16 fd_X11_71 sh_0 rfl ?_
    refine g_aload_n dX11_needs_19 rfl ?_
    refine g_getR dX11_needs_20 fd_X11_57 sh_0 rfl ?_
    refine g_aload_n dX11_needs_23 rfl ?_
    refine g_getR dX11_needs_24 fd_X11_12 sh_0 rfl ?_
    refine g_getR dX11_needs_27 fd_X11_142 sh_1 rfl ?_
    refine g_iconst dX11_needs_30 ⟨by decide, by decide⟩ ?_
    refine g_iald dX11_needs_31 sh_6 (by decide) (by decide) ?_
    refine g_iload_n dX11_needs_32 rfl ?_
    refine gw_cVv (b := 168) (As := [g_R 137, g_I (D 6 2), g_I v1]) (rest := []) dX11_needs_33 mv_X11_276 sh_168 rfl (Nat.le_of_ble_eq_true rfl) (by decide) rfl hF ?_
    intro D1 hF
    refine g_aload_n dX11_needs_36 rfl ?_
    refine g_getR dX11_needs_37 fd_X11_71 sh_0 rfl ?_
    refine g_getI dX11_needs_40 fd_X11_264 sh_168 rfl ?_
    refine g_ifne dX11_needs_43 rfl (fun q => ?_) (fun q => ?_)
    · have hF := hF.1 q
      obtain ⟨hc, hF⟩ := hF
      refine gw_iinc (L' := [some (g_R 0), some (g_I (v1 + 1))]) dX11_needs_48 rfl hc (by decide) rfl ?_
      refine g_goto dX11_needs_51 rfl ?_
      exact hF
    · have hF := hF.2 q
      refine g_iload_n dX11_needs_46 rfl ?_
      exact gw_iret dX11_needs_47 rfl hF
theorem dX11_odds_0 : decode cX11_odds 0 = .ok (.iload_n 1, 1) := by decide +kernel
theorem dX11_odds_1 : decode cX11_odds 1 = .ok (.iconst 1, 1) := by decide +kernel
theorem dX11_odds_2 : decode cX11_odds 2 = .ok (.if_icmp .lt 17, 3) := by decide +kernel
theorem dX11_odds_5 : decode cX11_odds 5 = .ok (.iload_n 1, 1) := by decide +kernel
theorem dX11_odds_6 : decode cX11_odds 6 = .ok (.iconst 4, 1) := by decide +kernel
theorem dX11_odds_7 : decode cX11_odds 7 = .ok (.if_icmp .ge 12, 3) := by decide +kernel
theorem dX11_odds_10 : decode cX11_odds 10 = .ok (.iload_n 2, 1) := by decide +kernel
theorem dX11_odds_11 : decode cX11_odds 11 = .ok (.ifCond .lt 8, 3) := by decide +kernel
theorem dX11_odds_14 : decode cX11_odds 14 = .ok (.iload_n 2, 1) := by decide +kernel
theorem dX11_odds_15 : decode cX11_odds 15 = .ok (.iconst 1, 1) := by decide +kernel
theorem dX11_odds_16 : decode cX11_odds 16 = .ok (.if_icmp .le 6, 3) := by decide +kernel
theorem dX11_odds_19 : decode cX11_odds 19 = .ok (.bipush (-2), 2) := by decide +kernel
theorem dX11_odds_21 : decode cX11_odds 21 = .ok (.ireturn, 1) := by decide +kernel
theorem dX11_odds_22 : decode cX11_odds 22 = .ok (.aload_n 0, 1) := by decide +kernel
theorem dX11_odds_23 : decode cX11_odds 23 = .ok (.invokevirtual 310, 3) := by decide +kernel
theorem dX11_odds_26 : decode cX11_odds 26 = .ok (.aload_n 0, 1) := by decide +kernel
theorem dX11_odds_27 : decode cX11_odds 27 = .ok (.getfield 84, 3) := by decide +kernel
theorem dX11_odds_30 : decode cX11_odds 30 = .ok (.aload_n 0, 1) := by decide +kernel
theorem dX11_odds_31 : decode cX11_odds 31 = .ok (.getfield 77, 3) := by decide +kernel
theorem dX11_odds_34 : decode cX11_odds 34 = .ok (.iload_n 1, 1) := by decide +kernel
theorem dX11_odds_35 : decode cX11_odds 35 = .ok (.invokevirtual 395, 3) := by decide +kernel
theorem dX11_odds_38 : decode cX11_odds 38 = .ok (.istore_n 3, 1) := by decide +kernel
theorem dX11_odds_39 : decode cX11_odds 39 = .ok (.aload_n 0, 1) := by decide +kernel
theorem dX11_odds_40 : decode cX11_odds 40 = .ok (.getfield 84, 3) := by decide +kernel
theorem dX11_odds_43 : decode cX11_odds 43 = .ok (.aload_n 0, 1) := by decide +kernel
theorem dX11_odds_44 : decode cX11_odds 44 = .ok (.getfield 77, 3) := by decide +kernel
theorem dX11_odds_47 : decode cX11_odds 47 = .ok (.iconst 0, 1) := by decide +kernel
theorem dX11_odds_48 : decode cX11_odds 48 = .ok (.invokevirtual 395, 3) := by decide +kernel
theorem dX11_odds_51 : decode cX11_odds 51 = .ok (.istore 4, 2) := by decide +kernel
theorem dX11_odds_53 : decode cX11_odds 53 = .ok (.iload 4, 2) := by decide +kernel
theorem dX11_odds_55 : decode cX11_odds 55 = .ok (.ifCond .ne 5, 3) := by decide +kernel
theorem dX11_odds_58 : decode cX11_odds 58 = .ok (.iconst (-1), 1) := by decide +kernel
theorem dX11_odds_59 : decode cX11_odds 59 = .ok (.ireturn, 1) := by decide +kernel
theorem dX11_odds_60 : decode cX11_odds 60 = .ok (.iload_n 3, 1) := by decide +kernel
theorem dX11_odds_61 : decode cX11_odds 61 = .ok (.iload 4, 2) := by decide +kernel
theorem dX11_odds_63 : decode cX11_odds 63 = .ok (.invokestatic 403, 3) := by decide +kernel
theorem dX11_odds_66 : decode cX11_odds 66 = .ok (.istore 5, 2) := by decide +kernel
theorem dX11_odds_68 : decode cX11_odds 68 = .ok (.iload 5, 2) := by decide +kernel
theorem dX11_odds_70 : decode cX11_odds 70 = .ok (.iconst 1, 1) := by decide +kernel
theorem dX11_odds_71 : decode cX11_odds 71 = .ok (.if_icmp .ge 5, 3) := by decide +kernel
theorem dX11_odds_74 : decode cX11_odds 74 = .ok (.iconst (-1), 1) := by decide +kernel
theorem dX11_odds_75 : decode cX11_odds 75 = .ok (.ireturn, 1) := by decide +kernel
theorem dX11_odds_76 : decode cX11_odds 76 = .ok (.iload_n 2, 1) := by decide +kernel
theorem dX11_odds_77 : decode cX11_odds 77 = .ok (.ifCond .ne 7, 3) := by decide +kernel
theorem dX11_odds_80 : decode cX11_odds 80 = .ok (.iload_n 3, 1) := by decide +kernel
theorem dX11_odds_81 : decode cX11_odds 81 = .ok (.goto 5, 3) := by decide +kernel
theorem dX11_odds_84 : decode cX11_odds 84 = .ok (.iload 4, 2) := by decide +kernel
theorem dX11_odds_86 : decode cX11_odds 86 = .ok (.iload 5, 2) := by decide +kernel
theorem dX11_odds_88 : decode cX11_odds 88 = .ok (.idiv, 1) := by decide +kernel
theorem dX11_odds_89 : decode cX11_odds 89 = .ok (.ireturn, 1) := by decide +kernel
abbrev k_X11_odds (E : g_E) (l : Launch) (D : g_D) (v1 : Int) (v2 : Int) (K : Int → g_D → Prop) : Prop := g_Ki E l m_X11_odds 7 [g_R 0, g_I v1, g_I v2] g_SH D K
abbrev n_X11_odds (E : g_E) (l : Launch) (D : g_D) (pc : Nat) (L : List (Option g_V)) (K : Int → g_D → Prop) : Prop := g_N E l m_X11_odds 7 pc L [] g_SH D (g_Ri g_SH K)
theorem s_X11_odds {E : g_E} {l : Launch} {D : g_D} {K : Int → g_D → Prop} {v1 : Int} {v2 : Int}  (hF : g_okD D → g_r v1 → g_r v2 → (v1 < 1 → K (-2) D) ∧ (¬ v1 < 1 → (4 ≤ v1 → K (-2) D) ∧ (¬ 4 ≤ v1 → (v2 < 0 → K (-2) D) ∧ (¬ v2 < 0 → (v2 ≤ 1 → k_X11_makeCourse E l D (fun D1 => k_X10_survived E l D1 v1 (fun x2 D2 => g_r x2 → k_X10_survived E l D2 0 (fun x3 D3 => g_r x3 → (¬ x3 = 0 → k_X11_commonDivisor E l g_SH D3 x2 x3 (fun x4 D4 => g_r x4 → (1 ≤ x4 → (¬ v2 = 0 → (0 ≤ x3 ∧ 0 < x4) ∧ (K (x3 / x4) D4)) ∧ (v2 = 0 → (0 ≤ x2 ∧ 0 < x4) ∧ (K (x2 / x4) D4))) ∧ (¬ 1 ≤ x4 → K (-1) D4))) ∧ (x3 = 0 → K (-1) D3))))) ∧ (¬ v2 ≤ 1 → K (-2) D))))) : k_X11_odds E l D v1 v2 K := by
  refine g_enter (by decide) (Nat.le_of_ble_eq_true rfl) ?_
  show g_N E l m_X11_odds 7 0 [some (g_R 0), some (g_I v1), some (g_I v2), none, none, none] [] g_SH D (g_Ri g_SH K)
  refine g_use (fun ok => ?_)
  have hF := hF ok.2.1 (ok.loc (i := 1) rfl) (ok.loc (i := 2) rfl)
  refine g_iload_n dX11_odds_0 rfl ?_
  refine g_iconst dX11_odds_1 ⟨by decide, by decide⟩ ?_
  refine g_clt dX11_odds_2 rfl (fun q => ?_) (fun q => ?_)
  · have hF := hF.1 q
    refine g_bipush dX11_odds_19 ⟨by decide, by decide⟩ ?_
    exact gw_iret dX11_odds_21 rfl hF
  · have hF := hF.2 q
    refine g_iload_n dX11_odds_5 rfl ?_
    refine g_iconst dX11_odds_6 ⟨by decide, by decide⟩ ?_
    refine g_cge dX11_odds_7 rfl (fun q => ?_) (fun q => ?_)
    · have hF := hF.1 q
      refine g_bipush dX11_odds_19 ⟨by decide, by decide⟩ ?_
      exact gw_iret dX11_odds_21 rfl hF
    · have hF := hF.2 q
      refine g_iload_n dX11_odds_10 rfl ?_
      refine g_iflt dX11_odds_11 rfl (fun q => ?_) (fun q => ?_)
      · have hF := hF.1 q
        refine g_bipush dX11_odds_19 ⟨by decide, by decide⟩ ?_
        exact gw_iret dX11_odds_21 rfl hF
      · have hF := hF.2 q
        refine g_iload_n dX11_odds_14 rfl ?_
        refine g_iconst dX11_odds_15 ⟨by decide, by decide⟩ ?_
        refine g_cle dX11_odds_16 rfl (fun q => ?_) (fun q => ?_)
        · have hF := hF.1 q
          refine g_aload_n dX11_odds_22 rfl ?_
          refine gw_cVv (b := 0) (As := []) (rest := []) dX11_odds_23 mv_X11_310 sh_0 rfl (Nat.le_of_ble_eq_true rfl) (by decide) rfl hF ?_
          intro D1 hF
          refine g_aload_n dX11_odds_26 rfl ?_
          refine g_getR dX11_odds_27 fd_X11_84 sh_0 rfl ?_
          refine g_aload_n dX11_odds_30 rfl ?_
          refine g_getR dX11_odds_31 fd_X11_77 sh_0 rfl ?_
          refine g_iload_n dX11_odds_34 rfl ?_
          refine gw_cVi (b := 198) (As := [g_R 175, g_I v1]) (rest := []) dX11_odds_35 mv_X11_395 sh_198 rfl (Nat.le_of_ble_eq_true rfl) (by decide) rfl hF ?_
          intro x2 D2 hx2 hF
          have hF := hF hx2
          refine gw_istore_n (L' := [some (g_R 0), some (g_I v1), some (g_I v2), some (g_I x2), none, none]) dX11_odds_38 (by decide) rfl ?_
          refine g_aload_n dX11_odds_39 rfl ?_
          refine g_getR dX11_odds_40 fd_X11_84 sh_0 rfl ?_
          refine g_aload_n dX11_odds_43 rfl ?_
          refine g_getR dX11_odds_44 fd_X11_77 sh_0 rfl ?_
          refine g_iconst dX11_odds_47 ⟨by decide, by decide⟩ ?_
          refine gw_cVi (b := 198) (As := [g_R 175, g_I 0]) (rest := []) dX11_odds_48 mv_X11_395 sh_198 rfl (Nat.le_of_ble_eq_true rfl) (by decide) rfl hF ?_
          intro x3 D3 hx3 hF
          have hF := hF hx3
          refine gw_istore (L' := [some (g_R 0), some (g_I v1), some (g_I v2), some (g_I x2), some (g_I x3), none]) dX11_odds_51 (by decide) rfl ?_
          refine g_iload dX11_odds_53 rfl ?_
          refine g_ifne dX11_odds_55 rfl (fun q => ?_) (fun q => ?_)
          · have hF := hF.1 q
            refine g_iload_n dX11_odds_60 rfl ?_
            refine g_iload dX11_odds_61 rfl ?_
            refine gw_cSi (As := [g_I x2, g_I x3]) (rest := []) dX11_odds_63 ms_X11_403 rfl (Nat.le_of_ble_eq_true rfl) (by decide) rfl hF ?_
            intro x4 D4 hx4 hF
            have hF := hF hx4
            refine gw_istore (L' := [some (g_R 0), some (g_I v1), some (g_I v2), some (g_I x2), some (g_I x3), some (g_I x4)]) dX11_odds_66 (by decide) rfl ?_
            refine g_iload dX11_odds_68 rfl ?_
            refine g_iconst dX11_odds_70 ⟨by decide, by decide⟩ ?_
            refine g_cge dX11_odds_71 rfl (fun q => ?_) (fun q => ?_)
            · have hF := hF.1 q
              refine g_iload_n dX11_odds_76 rfl ?_
              refine g_ifne dX11_odds_77 rfl (fun q => ?_) (fun q => ?_)
              · have hF := hF.1 q
                refine g_iload dX11_odds_84 rfl ?_
                refine g_iload dX11_odds_86 rfl ?_
                obtain ⟨hc, hF⟩ := hF
                refine g_idiv dX11_odds_88 hc.1 hc.2 ?_
                exact gw_iret dX11_odds_89 rfl hF
              · have hF := hF.2 q
                refine g_iload_n dX11_odds_80 rfl ?_
                refine g_goto dX11_odds_81 rfl ?_
                refine g_iload dX11_odds_86 rfl ?_
                obtain ⟨hc, hF⟩ := hF
                refine g_idiv dX11_odds_88 hc.1 hc.2 ?_
                exact gw_iret dX11_odds_89 rfl hF
            · have hF := hF.2 q
              refine g_iconst dX11_odds_74 ⟨by decide, by decide⟩ ?_
              exact gw_iret dX11_odds_75 rfl hF
          · have hF := hF.2 q
            refine g_iconst dX11_odds_58 ⟨by decide, by decide⟩ ?_
            exact gw_iret dX11_odds_59 rfl hF
        · have hF := hF.2 q
          refine g_bipush dX11_odds_19 ⟨by decide, by decide⟩ ?_
          exact gw_iret dX11_odds_21 rfl hF
theorem dX11_old_0 : decode cX11_old 0 = .ok (.aload_n 0, 1) := by decide +kernel
theorem dX11_old_1 : decode cX11_old 1 = .ok (.aload_n 0, 1) := by decide +kernel
theorem dX11_old_2 : decode cX11_old 2 = .ok (.getfield 12, 3) := by decide +kernel
theorem dX11_old_5 : decode cX11_old 5 = .ok (.getfield 105, 3) := by decide +kernel
theorem dX11_old_8 : decode cX11_old 8 = .ok (.iload_n 1, 1) := by decide +kernel
theorem dX11_old_9 : decode cX11_old 9 = .ok (.invokevirtual 108, 3) := by decide +kernel
theorem dX11_old_12 : decode cX11_old 12 = .ok (.ireturn, 1) := by decide +kernel
abbrev k_X11_old (E : g_E) (l : Launch) (D : g_D) (v1 : Int) (K : Int → g_D → Prop) : Prop := g_Ki E l m_X11_old 3 [g_R 0, g_I v1] g_SH D K
abbrev n_X11_old (E : g_E) (l : Launch) (D : g_D) (pc : Nat) (L : List (Option g_V)) (K : Int → g_D → Prop) : Prop := g_N E l m_X11_old 3 pc L [] g_SH D (g_Ri g_SH K)
theorem s_X11_old {E : g_E} {l : Launch} {D : g_D} {K : Int → g_D → Prop} {v1 : Int}  (hF : g_okD D → g_r v1 → k_X11_takeCells E l D 2 v1 (fun x1 D1 => g_r x1 → K x1 D1)) : k_X11_old E l D v1 K := by
  refine g_enter (by decide) (Nat.le_of_ble_eq_true rfl) ?_
  show g_N E l m_X11_old 3 0 [some (g_R 0), some (g_I v1)] [] g_SH D (g_Ri g_SH K)
  refine g_use (fun ok => ?_)
  have hF := hF ok.2.1 (ok.loc (i := 1) rfl)
  refine g_aload_n dX11_old_0 rfl ?_
  refine g_aload_n dX11_old_1 rfl ?_
  refine g_getR dX11_old_2 fd_X11_12 sh_0 rfl ?_
  refine g_getR dX11_old_5 fd_X11_105 sh_1 rfl ?_
  refine g_iload_n dX11_old_8 rfl ?_
  refine gw_cVi (b := 0) (As := [g_R 2, g_I v1]) (rest := []) dX11_old_9 mv_X11_108 sh_0 rfl (Nat.le_of_ble_eq_true rfl) (by decide) rfl hF ?_
  intro x1 D1 hx1 hF
  have hF := hF hx1
  exact gw_iret dX11_old_12 rfl hF
theorem dX11_patch_0 : decode cX11_patch 0 = .ok (.aload_n 0, 1) := by decide +kernel
theorem dX11_patch_1 : decode cX11_patch 1 = .ok (.invokevirtual 175, 3) := by decide +kernel
theorem dX11_patch_4 : decode cX11_patch 4 = .ok (.aload_n 0, 1) := by decide +kernel
theorem dX11_patch_5 : decode cX11_patch 5 = .ok (.getfield 64, 3) := by decide +kernel
theorem dX11_patch_8 : decode cX11_patch 8 = .ok (.getfield 273, 3) := by decide +kernel
theorem dX11_patch_11 : decode cX11_patch 11 = .ok (.iload_n 1, 1) := by decide +kernel
theorem dX11_patch_12 : decode cX11_patch 12 = .ok (.invokevirtual 115, 3) := by decide +kernel
theorem dX11_patch_15 : decode cX11_patch 15 = .ok (.ireturn, 1) := by decide +kernel
abbrev k_X11_patch (E : g_E) (l : Launch) (D : g_D) (v1 : Int) (K : Int → g_D → Prop) : Prop := g_Ki E l m_X11_patch 6 [g_R 0, g_I v1] g_SH D K
abbrev n_X11_patch (E : g_E) (l : Launch) (D : g_D) (pc : Nat) (L : List (Option g_V)) (K : Int → g_D → Prop) : Prop := g_N E l m_X11_patch 6 pc L [] g_SH D (g_Ri g_SH K)
theorem s_X11_patch {E : g_E} {l : Launch} {D : g_D} {K : Int → g_D → Prop} {v1 : Int}  (hF : g_okD D → g_r v1 → k_X11_makePlan E l D (fun D1 => k_X0_at E l g_SH D1 154 v1 (fun x2 D2 => g_r x2 → K x2 D2))) : k_X11_patch E l D v1 K := by
  refine g_enter (by decide) (Nat.le_of_ble_eq_true rfl) ?_
  show g_N E l m_X11_patch 6 0 [some (g_R 0), some (g_I v1)] [] g_SH D (g_Ri g_SH K)
  refine g_use (fun ok => ?_)
  have hF := hF ok.2.1 (ok.loc (i := 1) rfl)
  refine g_aload_n dX11_patch_0 rfl ?_
  refine gw_cVv (b := 0) (As := []) (rest := []) dX11_patch_1 mv_X11_175 sh_0 rfl (Nat.le_of_ble_eq_true rfl) (by decide) rfl hF ?_
  intro D1 hF
  refine g_aload_n dX11_patch_4 rfl ?_
  refine g_getR dX11_patch_5 fd_X11_64 sh_0 rfl ?_
  refine g_getR dX11_patch_8 fd_X11_273 sh_149 rfl ?_
  refine g_iload_n dX11_patch_11 rfl ?_
  refine gw_cVi (b := 154) (As := [g_I v1]) (rest := []) dX11_patch_12 mv_X11_115 sh_154 rfl (Nat.le_of_ble_eq_true rfl) (by decide) rfl hF ?_
  intro x2 D2 hx2 hF
  have hF := hF hx2
  exact gw_iret dX11_patch_15 rfl hF
theorem dX11_plan_0 : decode cX11_plan 0 = .ok (.aload_n 0, 1) := by decide +kernel
theorem dX11_plan_1 : decode cX11_plan 1 = .ok (.invokevirtual 175, 3) := by decide +kernel
theorem dX11_plan_4 : decode cX11_plan 4 = .ok (.iload_n 1, 1) := by decide +kernel
theorem dX11_plan_5 : decode cX11_plan 5 = .ok (.tableswitch 69 0 3 #[31, 42, 53, 61], 31) := by decide +kernel
theorem dX11_plan_36 : decode cX11_plan 36 = .ok (.aload_n 0, 1) := by decide +kernel
theorem dX11_plan_37 : decode cX11_plan 37 = .ok (.getfield 64, 3) := by decide +kernel
theorem dX11_plan_40 : decode cX11_plan 40 = .ok (.getfield 256, 3) := by decide +kernel
theorem dX11_plan_43 : decode cX11_plan 43 = .ok (.invokestatic 259, 3) := by decide +kernel
theorem dX11_plan_46 : decode cX11_plan 46 = .ok (.ireturn, 1) := by decide +kernel
theorem dX11_plan_47 : decode cX11_plan 47 = .ok (.aload_n 0, 1) := by decide +kernel
theorem dX11_plan_48 : decode cX11_plan 48 = .ok (.getfield 64, 3) := by decide +kernel
theorem dX11_plan_51 : decode cX11_plan 51 = .ok (.getfield 264, 3) := by decide +kernel
theorem dX11_plan_54 : decode cX11_plan 54 = .ok (.invokestatic 259, 3) := by decide +kernel
theorem dX11_plan_57 : decode cX11_plan 57 = .ok (.ireturn, 1) := by decide +kernel
theorem dX11_plan_58 : decode cX11_plan 58 = .ok (.aload_n 0, 1) := by decide +kernel
theorem dX11_plan_59 : decode cX11_plan 59 = .ok (.getfield 64, 3) := by decide +kernel
theorem dX11_plan_62 : decode cX11_plan 62 = .ok (.getfield 267, 3) := by decide +kernel
theorem dX11_plan_65 : decode cX11_plan 65 = .ok (.ireturn, 1) := by decide +kernel
theorem dX11_plan_66 : decode cX11_plan 66 = .ok (.aload_n 0, 1) := by decide +kernel
theorem dX11_plan_67 : decode cX11_plan 67 = .ok (.getfield 64, 3) := by decide +kernel
theorem dX11_plan_70 : decode cX11_plan 70 = .ok (.getfield 270, 3) := by decide +kernel
theorem dX11_plan_73 : decode cX11_plan 73 = .ok (.ireturn, 1) := by decide +kernel
theorem dX11_plan_74 : decode cX11_plan 74 = .ok (.bipush (-2), 2) := by decide +kernel
theorem dX11_plan_76 : decode cX11_plan 76 = .ok (.ireturn, 1) := by decide +kernel
abbrev k_X11_plan (E : g_E) (l : Launch) (D : g_D) (v1 : Int) (K : Int → g_D → Prop) : Prop := g_Ki E l m_X11_plan 6 [g_R 0, g_I v1] g_SH D K
abbrev n_X11_plan (E : g_E) (l : Launch) (D : g_D) (pc : Nat) (L : List (Option g_V)) (K : Int → g_D → Prop) : Prop := g_N E l m_X11_plan 6 pc L [] g_SH D (g_Ri g_SH K)
theorem s_X11_plan {E : g_E} {l : Launch} {D : g_D} {K : Int → g_D → Prop} {v1 : Int}  (hF : g_okD D → g_r v1 → k_X11_makePlan E l D (fun D1 => (v1 = 0 → k_J6_bitCount_0f7a4 E l g_SH D1 (D1 149 8) (fun x2 D2 => g_r x2 → K x2 D2)) ∧ (v1 = 1 → k_J6_bitCount_0f7a4 E l g_SH D1 (D1 149 9) (fun x3 D3 => g_r x3 → K x3 D3)) ∧ (v1 = 2 → K (D1 149 11) D1) ∧ (v1 = 3 → K (D1 149 6) D1) ∧ ((v1 < 0 ∨ 3 < v1) → K (-2) D1))) : k_X11_plan E l D v1 K := by
  refine g_enter (by decide) (Nat.le_of_ble_eq_true rfl) ?_
  show g_N E l m_X11_plan 6 0 [some (g_R 0), some (g_I v1)] [] g_SH D (g_Ri g_SH K)
  refine g_use (fun ok => ?_)
  have hF := hF ok.2.1 (ok.loc (i := 1) rfl)
  refine g_aload_n dX11_plan_0 rfl ?_
  refine gw_cVv (b := 0) (As := []) (rest := []) dX11_plan_1 mv_X11_175 sh_0 rfl (Nat.le_of_ble_eq_true rfl) (by decide) rfl hF ?_
  intro D1 hF
  refine g_iload_n dX11_plan_4 rfl ?_
  rcases Decidable.em (v1 = 0) with q5_0 | q5_0
  · have hF := hF.1 q5_0
    refine g_tsIn dX11_plan_5 (by omega) (by omega) (by rw [q5_0] <;> rfl) rfl ?_
    refine g_aload_n dX11_plan_36 rfl ?_
    refine g_getR dX11_plan_37 fd_X11_64 sh_0 rfl ?_
    refine g_getI dX11_plan_40 fd_X11_256 sh_149 rfl ?_
    refine gw_cSi (As := [g_I (D1 149 8)]) (rest := []) dX11_plan_43 ms_X11_259 rfl (Nat.le_of_ble_eq_true rfl) (by decide) rfl hF ?_
    intro x2 D2 hx2 hF
    have hF := hF hx2
    exact gw_iret dX11_plan_46 rfl hF
  rcases Decidable.em (v1 = 1) with q5_1 | q5_1
  · have hF := hF.2.1 q5_1
    refine g_tsIn dX11_plan_5 (by omega) (by omega) (by rw [q5_1] <;> rfl) rfl ?_
    refine g_aload_n dX11_plan_47 rfl ?_
    refine g_getR dX11_plan_48 fd_X11_64 sh_0 rfl ?_
    refine g_getI dX11_plan_51 fd_X11_264 sh_149 rfl ?_
    refine gw_cSi (As := [g_I (D1 149 9)]) (rest := []) dX11_plan_54 ms_X11_259 rfl (Nat.le_of_ble_eq_true rfl) (by decide) rfl hF ?_
    intro x3 D3 hx3 hF
    have hF := hF hx3
    exact gw_iret dX11_plan_57 rfl hF
  rcases Decidable.em (v1 = 2) with q5_2 | q5_2
  · have hF := hF.2.2.1 q5_2
    refine g_tsIn dX11_plan_5 (by omega) (by omega) (by rw [q5_2] <;> rfl) rfl ?_
    refine g_aload_n dX11_plan_58 rfl ?_
    refine g_getR dX11_plan_59 fd_X11_64 sh_0 rfl ?_
    refine g_getI dX11_plan_62 fd_X11_267 sh_149 rfl ?_
    exact gw_iret dX11_plan_65 rfl hF
  rcases Decidable.em (v1 = 3) with q5_3 | q5_3
  · have hF := hF.2.2.2.1 q5_3
    refine g_tsIn dX11_plan_5 (by omega) (by omega) (by rw [q5_3] <;> rfl) rfl ?_
    refine g_aload_n dX11_plan_66 rfl ?_
    refine g_getR dX11_plan_67 fd_X11_64 sh_0 rfl ?_
    refine g_getI dX11_plan_70 fd_X11_270 sh_149 rfl ?_
    exact gw_iret dX11_plan_73 rfl hF
  have q5 : v1 < 0 ∨ 3 < v1 := by omega
  have hF := hF.2.2.2.2 q5
  refine g_tsOut dX11_plan_5 q5 rfl ?_
  refine g_bipush dX11_plan_74 ⟨by decide, by decide⟩ ?_
  exact gw_iret dX11_plan_76 rfl hF
theorem dX11_restore_0 : decode cX11_restore 0 = .ok (.iload_n 1, 1) := by decide +kernel
theorem dX11_restore_1 : decode cX11_restore 1 = .ok (.ifCond .lt 8, 3) := by decide +kernel
theorem dX11_restore_4 : decode cX11_restore 4 = .ok (.iload_n 1, 1) := by decide +kernel
theorem dX11_restore_5 : decode cX11_restore 5 = .ok (.iconst 2, 1) := by decide +kernel
theorem dX11_restore_6 : decode cX11_restore 6 = .ok (.if_icmp .lt 6, 3) := by decide +kernel
theorem dX11_restore_9 : decode cX11_restore 9 = .ok (.bipush (-2), 2) := by decide +kernel
theorem dX11_restore_11 : decode cX11_restore 11 = .ok (.ireturn, 1) := by decide +kernel
theorem dX11_restore_12 : decode cX11_restore 12 = .ok (.aload_n 0, 1) := by decide +kernel
theorem dX11_restore_13 : decode cX11_restore 13 = .ok (.getfield 20, 3) := by decide +kernel
theorem dX11_restore_16 : decode cX11_restore 16 = .ok (.iload_n 1, 1) := by decide +kernel
theorem dX11_restore_17 : decode cX11_restore 17 = .ok (.baload, 1) := by decide +kernel
theorem dX11_restore_18 : decode cX11_restore 18 = .ok (.ifCond .ne 6, 3) := by decide +kernel
theorem dX11_restore_21 : decode cX11_restore 21 = .ok (.bipush (-5), 2) := by decide +kernel
theorem dX11_restore_23 : decode cX11_restore 23 = .ok (.ireturn, 1) := by decide +kernel
theorem dX11_restore_24 : decode cX11_restore 24 = .ok (.aload_n 0, 1) := by decide +kernel
theorem dX11_restore_25 : decode cX11_restore 25 = .ok (.getfield 12, 3) := by decide +kernel
theorem dX11_restore_28 : decode cX11_restore 28 = .ok (.aload_n 0, 1) := by decide +kernel
theorem dX11_restore_29 : decode cX11_restore 29 = .ok (.getfield 16, 3) := by decide +kernel
theorem dX11_restore_32 : decode cX11_restore 32 = .ok (.iload_n 1, 1) := by decide +kernel
theorem dX11_restore_33 : decode cX11_restore 33 = .ok (.aaload, 1) := by decide +kernel
theorem dX11_restore_34 : decode cX11_restore 34 = .ok (.invokevirtual 406, 3) := by decide +kernel
theorem dX11_restore_37 : decode cX11_restore 37 = .ok (.aload_n 0, 1) := by decide +kernel
theorem dX11_restore_38 : decode cX11_restore 38 = .ok (.getfield 43, 3) := by decide +kernel
theorem dX11_restore_41 : decode cX11_restore 41 = .ok (.invokevirtual 410, 3) := by decide +kernel
theorem dX11_restore_44 : decode cX11_restore 44 = .ok (.aload_n 0, 1) := by decide +kernel
theorem dX11_restore_45 : decode cX11_restore 45 = .ok (.iconst 1, 1) := by decide +kernel
theorem dX11_restore_46 : decode cX11_restore 46 = .ok (.putfield 88, 3) := by decide +kernel
theorem dX11_restore_49 : decode cX11_restore 49 = .ok (.aload_n 0, 1) := by decide +kernel
theorem dX11_restore_50 : decode cX11_restore 50 = .ok (.iconst 1, 1) := by decide +kernel
theorem dX11_restore_51 : decode cX11_restore 51 = .ok (.putfield 92, 3) := by decide +kernel
theorem dX11_restore_54 : decode cX11_restore 54 = .ok (.aload_n 0, 1) := by decide +kernel
theorem dX11_restore_55 : decode cX11_restore 55 = .ok (.iconst 1, 1) := by decide +kernel
theorem dX11_restore_56 : decode cX11_restore 56 = .ok (.putfield 95, 3) := by decide +kernel
theorem dX11_restore_59 : decode cX11_restore 59 = .ok (.iconst 0, 1) := by decide +kernel
theorem dX11_restore_60 : decode cX11_restore 60 = .ok (.ireturn, 1) := by decide +kernel
abbrev k_X11_restore (E : g_E) (l : Launch) (D : g_D) (v1 : Int) (K : Int → g_D → Prop) : Prop := g_Ki E l m_X11_restore 4 [g_R 0, g_I v1] g_SH D K
abbrev n_X11_restore (E : g_E) (l : Launch) (D : g_D) (pc : Nat) (L : List (Option g_V)) (K : Int → g_D → Prop) : Prop := g_N E l m_X11_restore 4 pc L [] g_SH D (g_Ri g_SH K)
theorem s_X11_restore {E : g_E} {l : Launch} {D : g_D} {K : Int → g_D → Prop} {v1 : Int}  (hF : g_okD D → g_r v1 → (v1 < 0 → K (-2) D) ∧ (¬ v1 < 0 → (v1 < 2 → (0 ≤ v1 ∧ v1 < 2) ∧ ((¬ (D 44 v1.toNat) = 0 → (0 ≤ v1 ∧ v1 < 2) ∧ (k_X8_copyFrom E l D 1 (16 + 14 * v1.toNat) (fun D2 => k_X3_clear E l D2 (fun D3 => ∀ D4, D4 = g_up D3 0 13 1 → (∀ D5, D5 = g_up D4 0 14 1 → (∀ D6, D6 = g_up D5 0 15 1 → (K 0 D6))))))) ∧ ((D 44 v1.toNat) = 0 → K (-5) D))) ∧ (¬ v1 < 2 → K (-2) D))) : k_X11_restore E l D v1 K := by
  refine g_enter (by decide) (Nat.le_of_ble_eq_true rfl) ?_
  show g_N E l m_X11_restore 4 0 [some (g_R 0), some (g_I v1)] [] g_SH D (g_Ri g_SH K)
  refine g_use (fun ok => ?_)
  have hF := hF ok.2.1 (ok.loc (i := 1) rfl)
  refine g_iload_n dX11_restore_0 rfl ?_
  refine g_iflt dX11_restore_1 rfl (fun q => ?_) (fun q => ?_)
  · have hF := hF.1 q
    refine g_bipush dX11_restore_9 ⟨by decide, by decide⟩ ?_
    exact gw_iret dX11_restore_11 rfl hF
  · have hF := hF.2 q
    refine g_iload_n dX11_restore_4 rfl ?_
    refine g_iconst dX11_restore_5 ⟨by decide, by decide⟩ ?_
    refine g_clt dX11_restore_6 rfl (fun q => ?_) (fun q => ?_)
    · have hF := hF.1 q
      refine g_aload_n dX11_restore_12 rfl ?_
      refine g_getR dX11_restore_13 fd_X11_20 sh_0 rfl ?_
      refine g_iload_n dX11_restore_16 rfl ?_
      obtain ⟨hc, hF⟩ := hF
      refine g_bald dX11_restore_17 sh_44 hc.1 hc.2 ?_
      refine g_ifne dX11_restore_18 rfl (fun q => ?_) (fun q => ?_)
      · have hF := hF.1 q
        refine g_aload_n dX11_restore_24 rfl ?_
        refine g_getR dX11_restore_25 fd_X11_12 sh_0 rfl ?_
        refine g_aload_n dX11_restore_28 rfl ?_
        refine g_getR dX11_restore_29 fd_X11_16 sh_0 rfl ?_
        refine g_iload_n dX11_restore_32 rfl ?_
        obtain ⟨hc, hF⟩ := hF
        have hi1 : is_State g_SH (16 + 14 * v1.toNat) := ix_State v1.toNat (by omega)
        refine g_aald dX11_restore_33 sh_15 (by decide) hc.1 hc.2 (if_pos (by omega)) ?_
        refine gw_cVv (b := 1) (As := [g_R (16 + 14 * v1.toNat)]) (rest := []) dX11_restore_34 mv_X11_406 sh_1 rfl (Nat.le_of_ble_eq_true rfl) (by decide) rfl hF ?_
        intro D2 hF
        refine g_aload_n dX11_restore_37 rfl ?_
        refine g_getR dX11_restore_38 fd_X11_43 sh_0 rfl ?_
        refine gw_cVv (b := 52) (As := []) (rest := []) dX11_restore_41 mv_X11_410 sh_52 rfl (Nat.le_of_ble_eq_true rfl) (by decide) rfl hF ?_
        intro D3 hF
        refine g_aload_n dX11_restore_44 rfl ?_
        refine g_iconst dX11_restore_45 ⟨by decide, by decide⟩ ?_
        let D4 : g_D := g_up D3 0 13 1
        have hF := hF D4 rfl
        refine g_put dX11_restore_46 fd_X11_88 (g_ftyZ (C := RX11) (T := TX11) (N := 16) rfl rfl (by decide +kernel) (by decide)) sh_0 rfl ?_
        refine g_aload_n dX11_restore_49 rfl ?_
        refine g_iconst dX11_restore_50 ⟨by decide, by decide⟩ ?_
        let D5 : g_D := g_up D4 0 14 1
        have hF := hF D5 rfl
        refine g_put dX11_restore_51 fd_X11_92 (g_ftyZ (C := RX11) (T := TX11) (N := 16) rfl rfl (by decide +kernel) (by decide)) sh_0 rfl ?_
        refine g_aload_n dX11_restore_54 rfl ?_
        refine g_iconst dX11_restore_55 ⟨by decide, by decide⟩ ?_
        let D6 : g_D := g_up D5 0 15 1
        have hF := hF D6 rfl
        refine g_put dX11_restore_56 fd_X11_95 (g_ftyZ (C := RX11) (T := TX11) (N := 16) rfl rfl (by decide +kernel) (by decide)) sh_0 rfl ?_
        refine g_iconst dX11_restore_59 ⟨by decide, by decide⟩ ?_
        exact gw_iret dX11_restore_60 rfl hF
      · have hF := hF.2 q
        refine g_bipush dX11_restore_21 ⟨by decide, by decide⟩ ?_
        exact gw_iret dX11_restore_23 rfl hF
    · have hF := hF.2 q
      refine g_bipush dX11_restore_9 ⟨by decide, by decide⟩ ?_
      exact gw_iret dX11_restore_11 rfl hF
theorem dX11_right_0 : decode cX11_right 0 = .ok (.iconst 0, 1) := by decide +kernel
theorem dX11_right_1 : decode cX11_right 1 = .ok (.istore_n 1, 1) := by decide +kernel
theorem dX11_right_2 : decode cX11_right 2 = .ok (.iconst 0, 1) := by decide +kernel
theorem dX11_right_3 : decode cX11_right 3 = .ok (.istore_n 2, 1) := by decide +kernel
theorem dX11_right_4 : decode cX11_right 4 = .ok (.iload_n 2, 1) := by decide +kernel
theorem dX11_right_5 : decode cX11_right 5 = .ok (.aload_n 0, 1) := by decide +kernel
theorem dX11_right_6 : decode cX11_right 6 = .ok (.getfield 12, 3) := by decide +kernel
theorem dX11_right_9 : decode cX11_right 9 = .ok (.getfield 112, 3) := by decide +kernel
theorem dX11_right_12 : decode cX11_right 12 = .ok (.getfield 98, 3) := by decide +kernel
theorem dX11_right_15 : decode cX11_right 15 = .ok (.if_icmp .ge 45, 3) := by decide +kernel
theorem dX11_right_18 : decode cX11_right 18 = .ok (.iload_n 2, 1) := by decide +kernel
theorem dX11_right_19 : decode cX11_right 19 = .ok (.bipush 40, 2) := by decide +kernel
theorem dX11_right_21 : decode cX11_right 21 = .ok (.if_icmp .ge 39, 3) := by decide +kernel
theorem dX11_right_24 : decode cX11_right 24 = .ok (.aload_n 0, 1) := by decide +kernel
theorem dX11_right_25 : decode cX11_right 25 = .ok (.getfield 12, 3) := by decide +kernel
theorem dX11_right_28 : decode cX11_right 28 = .ok (.getfield 112, 3) := by decide +kernel
theorem dX11_right_31 : decode cX11_right 31 = .ok (.getfield 387, 3) := by decide +kernel
theorem dX11_right_34 : decode cX11_right 34 = .ok (.iload_n 2, 1) := by decide +kernel
theorem dX11_right_35 : decode cX11_right 35 = .ok (.iaload, 1) := by decide +kernel
theorem dX11_right_36 : decode cX11_right 36 = .ok (.aload_n 0, 1) := by decide +kernel
theorem dX11_right_37 : decode cX11_right 37 = .ok (.getfield 12, 3) := by decide +kernel
theorem dX11_right_40 : decode cX11_right 40 = .ok (.getfield 119, 3) := by decide +kernel
theorem dX11_right_43 : decode cX11_right 43 = .ok (.getfield 123, 3) := by decide +kernel
theorem dX11_right_46 : decode cX11_right 46 = .ok (.iload_n 2, 1) := by decide +kernel
theorem dX11_right_47 : decode cX11_right 47 = .ok (.iaload, 1) := by decide +kernel
theorem dX11_right_48 : decode cX11_right 48 = .ok (.if_icmp .ne 6, 3) := by decide +kernel
theorem dX11_right_51 : decode cX11_right 51 = .ok (.iinc 1 1, 3) := by decide +kernel
theorem dX11_right_54 : decode cX11_right 54 = .ok (.iinc 2 1, 3) := by decide +kernel
theorem dX11_right_57 : decode cX11_right 57 = .ok (.goto (-53), 3) := by decide +kernel
theorem dX11_right_60 : decode cX11_right 60 = .ok (.iload_n 1, 1) := by decide +kernel
theorem dX11_right_61 : decode cX11_right 61 = .ok (.ireturn, 1) := by decide +kernel
abbrev k_X11_right (E : g_E) (l : Launch) (D : g_D) (K : Int → g_D → Prop) : Prop := g_Ki E l m_X11_right 0 [g_R 0] g_SH D K
abbrev n_X11_right (E : g_E) (l : Launch) (D : g_D) (pc : Nat) (L : List (Option g_V)) (K : Int → g_D → Prop) : Prop := g_N E l m_X11_right 0 pc L [] g_SH D (g_Ri g_SH K)
theorem s_X11_right {E : g_E} {l : Launch} {D : g_D} {K : Int → g_D → Prop}   (hF : g_okD D → n_X11_right E l D 4 [some (g_R 0), some (g_I 0), some (g_I 0)] K) : k_X11_right E l D K := by
  refine g_enter (by decide) (Nat.le_of_ble_eq_true rfl) ?_
  show g_N E l m_X11_right 0 0 [some (g_R 0), none, none] [] g_SH D (g_Ri g_SH K)
  refine g_use (fun ok => ?_)
  have hF := hF ok.2.1
  refine g_iconst dX11_right_0 ⟨by decide, by decide⟩ ?_
  refine gw_istore_n (L' := [some (g_R 0), some (g_I 0), none]) dX11_right_1 (by decide) rfl ?_
  refine g_iconst dX11_right_2 ⟨by decide, by decide⟩ ?_
  refine gw_istore_n (L' := [some (g_R 0), some (g_I 0), some (g_I 0)]) dX11_right_3 (by decide) rfl ?_
  exact hF
theorem s_X11_right_4 {E : g_E} {l : Launch} {D : g_D} {K : Int → g_D → Prop} {v1 : Int} {v2 : Int}  (hF : g_okD D → g_r v1 → g_r v2 → ((D 4 1) ≤ v2 → K v1 D) ∧ (¬ (D 4 1) ≤ v2 → (40 ≤ v2 → K v1 D) ∧ (¬ 40 ≤ v2 → (0 ≤ v2 ∧ v2 < 40) ∧ ((0 ≤ v2 ∧ v2 < 40) ∧ ((¬ (D 5 v2.toNat) = (D 8 v2.toNat) → (g_r (v2 + 1)) ∧ (n_X11_right E l D 4 [some (g_R 0), some (g_I v1), some (g_I (v2 + 1))] K)) ∧ ((D 5 v2.toNat) = (D 8 v2.toNat) → (g_r (v1 + 1)) ∧ ((g_r (v2 + 1)) ∧ (n_X11_right E l D 4 [some (g_R 0), some (g_I (v1 + 1)), some (g_I (v2 + 1))] K)))))))) : n_X11_right E l D 4 [some (g_R 0), some (g_I v1), some (g_I v2)] K := by
  refine g_use (fun ok => ?_)
  have hF := hF ok.2.1 (ok.loc (i := 1) rfl) (ok.loc (i := 2) rfl)
  refine g_iload_n dX11_right_4 rfl ?_
  refine g_aload_n dX11_right_5 rfl ?_
  refine g_getR dX11_right_6 fd_X11_12 sh_0 rfl ?_
  refine g_getR dX11_right_9 fd_X11_112 sh_1 rfl ?_
  refine g_getI dX11_right_12 fd_X11_98 sh_4 rfl ?_
  refine g_cge dX11_right_15 rfl (fun q => ?_) (fun q => ?_)
  · have hF := hF.1 q
    refine g_iload_n dX11_right_60 rfl ?_
    exact gw_iret dX11_right_61 rfl hF
  · have hF := hF.2 q
    refine g_iload_n dX11_right_18 rfl ?_
    refine g_bipush dX11_right_19 ⟨by decide, by decide⟩ ?_
    refine g_cge dX11_right_21 rfl (fun q => ?_) (fun q => ?_)
    · have hF := hF.1 q
      refine g_iload_n dX11_right_60 rfl ?_
      exact gw_iret dX11_right_61 rfl hF
    · have hF := hF.2 q
      refine g_aload_n dX11_right_24 rfl ?_
      refine g_getR dX11_right_25 fd_X11_12 sh_0 rfl ?_
      refine g_getR dX11_right_28 fd_X11_112 sh_1 rfl ?_
      refine g_getR dX11_right_31 fd_X11_387 sh_4 rfl ?_
      refine g_iload_n dX11_right_34 rfl ?_
      obtain ⟨hc, hF⟩ := hF
      refine g_iald dX11_right_35 sh_5 hc.1 hc.2 ?_
      refine g_aload_n dX11_right_36 rfl ?_
      refine g_getR dX11_right_37 fd_X11_12 sh_0 rfl ?_
      refine g_getR dX11_right_40 fd_X11_119 sh_1 rfl ?_
      refine g_getR dX11_right_43 fd_X11_123 sh_7 rfl ?_
      refine g_iload_n dX11_right_46 rfl ?_
      obtain ⟨hc, hF⟩ := hF
      refine g_iald dX11_right_47 sh_8 hc.1 hc.2 ?_
      refine g_cne dX11_right_48 rfl (fun q => ?_) (fun q => ?_)
      · have hF := hF.1 q
        obtain ⟨hc, hF⟩ := hF
        refine gw_iinc (L' := [some (g_R 0), some (g_I v1), some (g_I (v2 + 1))]) dX11_right_54 rfl hc (by decide) rfl ?_
        refine g_goto dX11_right_57 rfl ?_
        exact hF
      · have hF := hF.2 q
        obtain ⟨hc, hF⟩ := hF
        refine gw_iinc (L' := [some (g_R 0), some (g_I (v1 + 1)), some (g_I v2)]) dX11_right_51 rfl hc (by decide) rfl ?_
        obtain ⟨hc, hF⟩ := hF
        refine gw_iinc (L' := [some (g_R 0), some (g_I (v1 + 1)), some (g_I (v2 + 1))]) dX11_right_54 rfl hc (by decide) rfl ?_
        refine g_goto dX11_right_57 rfl ?_
        exact hF
theorem dX11_ring_0 : decode cX11_ring 0 = .ok (.aload_n 0, 1) := by decide +kernel
theorem dX11_ring_1 : decode cX11_ring 1 = .ok (.invokevirtual 175, 3) := by decide +kernel
theorem dX11_ring_4 : decode cX11_ring 4 = .ok (.aload_n 0, 1) := by decide +kernel
theorem dX11_ring_5 : decode cX11_ring 5 = .ok (.getfield 57, 3) := by decide +kernel
theorem dX11_ring_8 : decode cX11_ring 8 = .ok (.iload_n 1, 1) := by decide +kernel
theorem dX11_ring_9 : decode cX11_ring 9 = .ok (.invokevirtual 179, 3) := by decide +kernel
theorem dX11_ring_12 : decode cX11_ring 12 = .ok (.ifCond .ne 6, 3) := by decide +kernel
theorem dX11_ring_15 : decode cX11_ring 15 = .ok (.bipush (-2), 2) := by decide +kernel
theorem dX11_ring_17 : decode cX11_ring 17 = .ok (.ireturn, 1) := by decide +kernel
theorem dX11_ring_18 : decode cX11_ring 18 = .ok (.iload_n 2, 1) := by decide +kernel
theorem dX11_ring_19 : decode cX11_ring 19 = .ok (.iconst (-1), 1) := by decide +kernel
theorem dX11_ring_20 : decode cX11_ring 20 = .ok (.if_icmp .ge 6, 3) := by decide +kernel
theorem dX11_ring_23 : decode cX11_ring 23 = .ok (.bipush (-3), 2) := by decide +kernel
theorem dX11_ring_25 : decode cX11_ring 25 = .ok (.ireturn, 1) := by decide +kernel
theorem dX11_ring_26 : decode cX11_ring 26 = .ok (.aload_n 0, 1) := by decide +kernel
theorem dX11_ring_27 : decode cX11_ring 27 = .ok (.getfield 57, 3) := by decide +kernel
theorem dX11_ring_30 : decode cX11_ring 30 = .ok (.getfield 205, 3) := by decide +kernel
theorem dX11_ring_33 : decode cX11_ring 33 = .ok (.astore_n 3, 1) := by decide +kernel
theorem dX11_ring_34 : decode cX11_ring 34 = .ok (.aload_n 3, 1) := by decide +kernel
theorem dX11_ring_35 : decode cX11_ring 35 = .ok (.aload_n 0, 1) := by decide +kernel
theorem dX11_ring_36 : decode cX11_ring 36 = .ok (.getfield 57, 3) := by decide +kernel
theorem dX11_ring_39 : decode cX11_ring 39 = .ok (.getfield 198, 3) := by decide +kernel
theorem dX11_ring_42 : decode cX11_ring 42 = .ok (.iload_n 1, 1) := by decide +kernel
theorem dX11_ring_43 : decode cX11_ring 43 = .ok (.invokevirtual 218, 3) := by decide +kernel
theorem dX11_ring_46 : decode cX11_ring 46 = .ok (.aload_n 3, 1) := by decide +kernel
theorem dX11_ring_47 : decode cX11_ring 47 = .ok (.getfield 222, 3) := by decide +kernel
theorem dX11_ring_50 : decode cX11_ring 50 = .ok (.ifCond .ne 5, 3) := by decide +kernel
theorem dX11_ring_53 : decode cX11_ring 53 = .ok (.iconst (-1), 1) := by decide +kernel
theorem dX11_ring_54 : decode cX11_ring 54 = .ok (.ireturn, 1) := by decide +kernel
theorem dX11_ring_55 : decode cX11_ring 55 = .ok (.iload_n 2, 1) := by decide +kernel
theorem dX11_ring_56 : decode cX11_ring 56 = .ok (.iconst (-1), 1) := by decide +kernel
theorem dX11_ring_57 : decode cX11_ring 57 = .ok (.if_icmp .ne 8, 3) := by decide +kernel
theorem dX11_ring_60 : decode cX11_ring 60 = .ok (.aload_n 3, 1) := by decide +kernel
theorem dX11_ring_61 : decode cX11_ring 61 = .ok (.getfield 222, 3) := by decide +kernel
theorem dX11_ring_64 : decode cX11_ring 64 = .ok (.ireturn, 1) := by decide +kernel
theorem dX11_ring_65 : decode cX11_ring 65 = .ok (.iload_n 2, 1) := by decide +kernel
theorem dX11_ring_66 : decode cX11_ring 66 = .ok (.aload_n 3, 1) := by decide +kernel
theorem dX11_ring_67 : decode cX11_ring 67 = .ok (.getfield 222, 3) := by decide +kernel
theorem dX11_ring_70 : decode cX11_ring 70 = .ok (.if_icmp .ge 12, 3) := by decide +kernel
theorem dX11_ring_73 : decode cX11_ring 73 = .ok (.aload_n 3, 1) := by decide +kernel
theorem dX11_ring_74 : decode cX11_ring 74 = .ok (.getfield 225, 3) := by decide +kernel
theorem dX11_ring_77 : decode cX11_ring 77 = .ok (.iload_n 2, 1) := by decide +kernel
theorem dX11_ring_78 : decode cX11_ring 78 = .ok (.iaload, 1) := by decide +kernel
theorem dX11_ring_79 : decode cX11_ring 79 = .ok (.goto 4, 3) := by decide +kernel
theorem dX11_ring_82 : decode cX11_ring 82 = .ok (.iconst (-1), 1) := by decide +kernel
theorem dX11_ring_83 : decode cX11_ring 83 = .ok (.ireturn, 1) := by decide +kernel
abbrev k_X11_ring (E : g_E) (l : Launch) (D : g_D) (v1 : Int) (v2 : Int) (K : Int → g_D → Prop) : Prop := g_Ki E l m_X11_ring 6 [g_R 0, g_I v1, g_I v2] g_SH D K
abbrev n_X11_ring (E : g_E) (l : Launch) (D : g_D) (pc : Nat) (L : List (Option g_V)) (K : Int → g_D → Prop) : Prop := g_N E l m_X11_ring 6 pc L [] g_SH D (g_Ri g_SH K)
theorem s_X11_ring {E : g_E} {l : Launch} {D : g_D} {K : Int → g_D → Prop} {v1 : Int} {v2 : Int}  (hF : g_okD D → g_r v1 → g_r v2 → k_X11_makePlan E l D (fun D1 => k_X7_has E l D1 137 v1 (fun x2 D2 => g_r x2 → (¬ x2 = 0 → ((-1) ≤ v2 → k_X6_findShortest E l D2 143 142 v1 (fun D3 => (¬ (D3 143 3) = 0 → (¬ v2 = (-1) → ((D3 143 3) ≤ v2 → K (-1) D3) ∧ (¬ (D3 143 3) ≤ v2 → (0 ≤ v2 ∧ v2 < 20) ∧ (K (D3 146 v2.toNat) D3))) ∧ (v2 = (-1) → K (D3 143 3) D3)) ∧ ((D3 143 3) = 0 → K (-1) D3))) ∧ (¬ (-1) ≤ v2 → K (-3) D2)) ∧ (x2 = 0 → K (-2) D2)))) : k_X11_ring E l D v1 v2 K := by
  refine g_enter (by decide) (Nat.le_of_ble_eq_true rfl) ?_
  show g_N E l m_X11_ring 6 0 [some (g_R 0), some (g_I v1), some (g_I v2), none] [] g_SH D (g_Ri g_SH K)
  refine g_use (fun ok => ?_)
  have hF := hF ok.2.1 (ok.loc (i := 1) rfl) (ok.loc (i := 2) rfl)
  refine g_aload_n dX11_ring_0 rfl ?_
  refine gw_cVv (b := 0) (As := []) (rest := []) dX11_ring_1 mv_X11_175 sh_0 rfl (Nat.le_of_ble_eq_true rfl) (by decide) rfl hF ?_
  intro D1 hF
  refine g_aload_n dX11_ring_4 rfl ?_
  refine g_getR dX11_ring_5 fd_X11_57 sh_0 rfl ?_
  refine g_iload_n dX11_ring_8 rfl ?_
  refine gw_cVi (b := 137) (As := [g_I v1]) (rest := []) dX11_ring_9 mv_X11_179 sh_137 rfl (Nat.le_of_ble_eq_true rfl) (by decide) rfl hF ?_
  intro x2 D2 hx2 hF
  have hF := hF hx2
  refine g_ifne dX11_ring_12 rfl (fun q => ?_) (fun q => ?_)
  · have hF := hF.1 q
    refine g_iload_n dX11_ring_18 rfl ?_
    refine g_iconst dX11_ring_19 ⟨by decide, by decide⟩ ?_
    refine g_cge dX11_ring_20 rfl (fun q => ?_) (fun q => ?_)
    · have hF := hF.1 q
      refine g_aload_n dX11_ring_26 rfl ?_
      refine g_getR dX11_ring_27 fd_X11_57 sh_0 rfl ?_
      refine g_getR dX11_ring_30 fd_X11_205 sh_137 rfl ?_
      refine gw_astore_n (L' := [some (g_R 0), some (g_I v1), some (g_I v2), some (g_R 143)]) dX11_ring_33 (by decide) rfl ?_
      refine g_aload_n dX11_ring_34 rfl ?_
      refine g_aload_n dX11_ring_35 rfl ?_
      refine g_getR dX11_ring_36 fd_X11_57 sh_0 rfl ?_
      refine g_getR dX11_ring_39 fd_X11_198 sh_137 rfl ?_
      refine g_iload_n dX11_ring_42 rfl ?_
      refine gw_cVv (b := 143) (As := [g_R 142, g_I v1]) (rest := []) dX11_ring_43 mv_X11_218 sh_143 rfl (Nat.le_of_ble_eq_true rfl) (by decide) rfl hF ?_
      intro D3 hF
      refine g_aload_n dX11_ring_46 rfl ?_
      refine g_getI dX11_ring_47 fd_X11_222 sh_143 rfl ?_
      refine g_ifne dX11_ring_50 rfl (fun q => ?_) (fun q => ?_)
      · have hF := hF.1 q
        refine g_iload_n dX11_ring_55 rfl ?_
        refine g_iconst dX11_ring_56 ⟨by decide, by decide⟩ ?_
        refine g_cne dX11_ring_57 rfl (fun q => ?_) (fun q => ?_)
        · have hF := hF.1 q
          refine g_iload_n dX11_ring_65 rfl ?_
          refine g_aload_n dX11_ring_66 rfl ?_
          refine g_getI dX11_ring_67 fd_X11_222 sh_143 rfl ?_
          refine g_cge dX11_ring_70 rfl (fun q => ?_) (fun q => ?_)
          · have hF := hF.1 q
            refine g_iconst dX11_ring_82 ⟨by decide, by decide⟩ ?_
            exact gw_iret dX11_ring_83 rfl hF
          · have hF := hF.2 q
            refine g_aload_n dX11_ring_73 rfl ?_
            refine g_getR dX11_ring_74 fd_X11_225 sh_143 rfl ?_
            refine g_iload_n dX11_ring_77 rfl ?_
            obtain ⟨hc, hF⟩ := hF
            refine g_iald dX11_ring_78 sh_146 hc.1 hc.2 ?_
            refine g_goto dX11_ring_79 rfl ?_
            exact gw_iret dX11_ring_83 rfl hF
        · have hF := hF.2 q
          refine g_aload_n dX11_ring_60 rfl ?_
          refine g_getI dX11_ring_61 fd_X11_222 sh_143 rfl ?_
          exact gw_iret dX11_ring_64 rfl hF
      · have hF := hF.2 q
        refine g_iconst dX11_ring_53 ⟨by decide, by decide⟩ ?_
        exact gw_iret dX11_ring_54 rfl hF
    · have hF := hF.2 q
      refine g_bipush dX11_ring_23 ⟨by decide, by decide⟩ ?_
      exact gw_iret dX11_ring_25 rfl hF
  · have hF := hF.2 q
    refine g_bipush dX11_ring_15 ⟨by decide, by decide⟩ ?_
    exact gw_iret dX11_ring_17 rfl hF
theorem dX11_ringed_0 : decode cX11_ringed 0 = .ok (.aload_n 0, 1) := by decide +kernel
theorem dX11_ringed_1 : decode cX11_ringed 1 = .ok (.invokevirtual 175, 3) := by decide +kernel
theorem dX11_ringed_4 : decode cX11_ringed 4 = .ok (.aload_n 0, 1) := by decide +kernel
theorem dX11_ringed_5 : decode cX11_ringed 5 = .ok (.getfield 57, 3) := by decide +kernel
theorem dX11_ringed_8 : decode cX11_ringed 8 = .ok (.getfield 205, 3) := by decide +kernel
theorem dX11_ringed_11 : decode cX11_ringed 11 = .ok (.aload_n 0, 1) := by decide +kernel
theorem dX11_ringed_12 : decode cX11_ringed 12 = .ok (.getfield 57, 3) := by decide +kernel
theorem dX11_ringed_15 : decode cX11_ringed 15 = .ok (.getfield 198, 3) := by decide +kernel
theorem dX11_ringed_18 : decode cX11_ringed 18 = .ok (.aload_n 0, 1) := by decide +kernel
theorem dX11_ringed_19 : decode cX11_ringed 19 = .ok (.getfield 57, 3) := by decide +kernel
theorem dX11_ringed_22 : decode cX11_ringed 22 = .ok (.invokevirtual 209, 3) := by decide +kernel
theorem dX11_ringed_25 : decode cX11_ringed 25 = .ok (.invokevirtual 213, 3) := by decide +kernel
theorem dX11_ringed_28 : decode cX11_ringed 28 = .ok (.ireturn, 1) := by decide +kernel
abbrev k_X11_ringed (E : g_E) (l : Launch) (D : g_D) (K : Int → g_D → Prop) : Prop := g_Ki E l m_X11_ringed 6 [g_R 0] g_SH D K
abbrev n_X11_ringed (E : g_E) (l : Launch) (D : g_D) (pc : Nat) (L : List (Option g_V)) (K : Int → g_D → Prop) : Prop := g_N E l m_X11_ringed 6 pc L [] g_SH D (g_Ri g_SH K)
theorem s_X11_ringed {E : g_E} {l : Launch} {D : g_D} {K : Int → g_D → Prop}   (hF : g_okD D → k_X11_makePlan E l D (fun D1 => k_X7_movers E l D1 137 (fun x2 D2 => g_r x2 → k_X6_members E l D2 143 142 x2 (fun x3 D3 => g_r x3 → K x3 D3)))) : k_X11_ringed E l D K := by
  refine g_enter (by decide) (Nat.le_of_ble_eq_true rfl) ?_
  show g_N E l m_X11_ringed 6 0 [some (g_R 0)] [] g_SH D (g_Ri g_SH K)
  refine g_use (fun ok => ?_)
  have hF := hF ok.2.1
  refine g_aload_n dX11_ringed_0 rfl ?_
  refine gw_cVv (b := 0) (As := []) (rest := []) dX11_ringed_1 mv_X11_175 sh_0 rfl (Nat.le_of_ble_eq_true rfl) (by decide) rfl hF ?_
  intro D1 hF
  refine g_aload_n dX11_ringed_4 rfl ?_
  refine g_getR dX11_ringed_5 fd_X11_57 sh_0 rfl ?_
  refine g_getR dX11_ringed_8 fd_X11_205 sh_137 rfl ?_
  refine g_aload_n dX11_ringed_11 rfl ?_
  refine g_getR dX11_ringed_12 fd_X11_57 sh_0 rfl ?_
  refine g_getR dX11_ringed_15 fd_X11_198 sh_137 rfl ?_
  refine g_aload_n dX11_ringed_18 rfl ?_
  refine g_getR dX11_ringed_19 fd_X11_57 sh_0 rfl ?_
  refine gw_cVi (b := 137) (As := []) (rest := [g_R 142, g_R 143]) dX11_ringed_22 mv_X11_209 sh_137 rfl (Nat.le_of_ble_eq_true rfl) (by decide) rfl hF ?_
  intro x2 D2 hx2 hF
  have hF := hF hx2
  refine gw_cVi (b := 143) (As := [g_R 142, g_I x2]) (rest := []) dX11_ringed_25 mv_X11_213 sh_143 rfl (Nat.le_of_ble_eq_true rfl) (by decide) rfl hF ?_
  intro x3 D3 hx3 hF
  have hF := hF hx3
  exact gw_iret dX11_ringed_28 rfl hF
theorem dX11_run_0 : decode cX11_run 0 = .ok (.iload_n 1, 1) := by decide +kernel
theorem dX11_run_1 : decode cX11_run 1 = .ok (.ifCond .lt 26, 3) := by decide +kernel
theorem dX11_run_4 : decode cX11_run 4 = .ok (.iload_n 1, 1) := by decide +kernel
theorem dX11_run_5 : decode cX11_run 5 = .ok (.aload_n 0, 1) := by decide +kernel
theorem dX11_run_6 : decode cX11_run 6 = .ok (.getfield 12, 3) := by decide +kernel
theorem dX11_run_9 : decode cX11_run 9 = .ok (.getfield 112, 3) := by decide +kernel
theorem dX11_run_12 : decode cX11_run 12 = .ok (.getfield 98, 3) := by decide +kernel
theorem dX11_run_15 : decode cX11_run 15 = .ok (.if_icmp .ge 12, 3) := by decide +kernel
theorem dX11_run_18 : decode cX11_run 18 = .ok (.iload_n 2, 1) := by decide +kernel
theorem dX11_run_19 : decode cX11_run 19 = .ok (.ifCond .lt 8, 3) := by decide +kernel
theorem dX11_run_22 : decode cX11_run 22 = .ok (.iload_n 2, 1) := by decide +kernel
theorem dX11_run_23 : decode cX11_run 23 = .ok (.iconst 2, 1) := by decide +kernel
theorem dX11_run_24 : decode cX11_run 24 = .ok (.if_icmp .le 6, 3) := by decide +kernel
theorem dX11_run_27 : decode cX11_run 27 = .ok (.bipush (-2), 2) := by decide +kernel
theorem dX11_run_29 : decode cX11_run 29 = .ok (.ireturn, 1) := by decide +kernel
theorem dX11_run_30 : decode cX11_run 30 = .ok (.aload_n 0, 1) := by decide +kernel
theorem dX11_run_31 : decode cX11_run 31 = .ok (.getfield 68, 3) := by decide +kernel
theorem dX11_run_34 : decode cX11_run 34 = .ok (.aload_n 0, 1) := by decide +kernel
theorem dX11_run_35 : decode cX11_run 35 = .ok (.getfield 12, 3) := by decide +kernel
theorem dX11_run_38 : decode cX11_run 38 = .ok (.getfield 105, 3) := by decide +kernel
theorem dX11_run_41 : decode cX11_run 41 = .ok (.aload_n 0, 1) := by decide +kernel
theorem dX11_run_42 : decode cX11_run 42 = .ok (.getfield 12, 3) := by decide +kernel
theorem dX11_run_45 : decode cX11_run 45 = .ok (.getfield 112, 3) := by decide +kernel
theorem dX11_run_48 : decode cX11_run 48 = .ok (.iload_n 1, 1) := by decide +kernel
theorem dX11_run_49 : decode cX11_run 49 = .ok (.aload_n 0, 1) := by decide +kernel
theorem dX11_run_50 : decode cX11_run 50 = .ok (.getfield 12, 3) := by decide +kernel
theorem dX11_run_53 : decode cX11_run 53 = .ok (.getfield 142, 3) := by decide +kernel
theorem dX11_run_56 : decode cX11_run 56 = .ok (.iconst 1, 1) := by decide +kernel
theorem dX11_run_57 : decode cX11_run 57 = .ok (.iaload, 1) := by decide +kernel
theorem dX11_run_58 : decode cX11_run 58 = .ok (.invokevirtual 158, 3) := by decide +kernel
theorem dX11_run_61 : decode cX11_run 61 = .ok (.iload_n 2, 1) := by decide +kernel
theorem dX11_run_62 : decode cX11_run 62 = .ok (.ifCond .ne 11, 3) := by decide +kernel
theorem dX11_run_65 : decode cX11_run 65 = .ok (.aload_n 0, 1) := by decide +kernel
theorem dX11_run_66 : decode cX11_run 66 = .ok (.getfield 68, 3) := by decide +kernel
theorem dX11_run_69 : decode cX11_run 69 = .ok (.getfield 162, 3) := by decide +kernel
theorem dX11_run_72 : decode cX11_run 72 = .ok (.ireturn, 1) := by decide +kernel
theorem dX11_run_73 : decode cX11_run 73 = .ok (.iload_n 2, 1) := by decide +kernel
theorem dX11_run_74 : decode cX11_run 74 = .ok (.iconst 1, 1) := by decide +kernel
theorem dX11_run_75 : decode cX11_run 75 = .ok (.if_icmp .ne 13, 3) := by decide +kernel
theorem dX11_run_78 : decode cX11_run 78 = .ok (.aload_n 0, 1) := by decide +kernel
theorem dX11_run_79 : decode cX11_run 79 = .ok (.getfield 68, 3) := by decide +kernel
theorem dX11_run_82 : decode cX11_run 82 = .ok (.getfield 165, 3) := by decide +kernel
theorem dX11_run_85 : decode cX11_run 85 = .ok (.goto 10, 3) := by decide +kernel
theorem dX11_run_88 : decode cX11_run 88 = .ok (.aload_n 0, 1) := by decide +kernel
theorem dX11_run_89 : decode cX11_run 89 = .ok (.getfield 68, 3) := by decide +kernel
theorem dX11_run_92 : decode cX11_run 92 = .ok (.getfield 168, 3) := by decide +kernel
theorem dX11_run_95 : decode cX11_run 95 = .ok (.ireturn, 1) := by decide +kernel
abbrev k_X11_run (E : g_E) (l : Launch) (D : g_D) (v1 : Int) (v2 : Int) (K : Int → g_D → Prop) : Prop := g_Ki E l m_X11_run 3 [g_R 0, g_I v1, g_I v2] g_SH D K
abbrev n_X11_run (E : g_E) (l : Launch) (D : g_D) (pc : Nat) (L : List (Option g_V)) (K : Int → g_D → Prop) : Prop := g_N E l m_X11_run 3 pc L [] g_SH D (g_Ri g_SH K)
theorem s_X11_run {E : g_E} {l : Launch} {D : g_D} {K : Int → g_D → Prop} {v1 : Int} {v2 : Int}  (hF : g_okD D → g_r v1 → g_r v2 → (v1 < 0 → K (-2) D) ∧ (¬ v1 < 0 → ((D 4 1) ≤ v1 → K (-2) D) ∧ (¬ (D 4 1) ≤ v1 → (v2 < 0 → K (-2) D) ∧ (¬ v2 < 0 → (v2 ≤ 2 → k_X7_findRun E l D 156 2 4 v1 (D 6 1) (fun D1 => (¬ v2 = 0 → (¬ v2 = 1 → K (D1 156 11) D1) ∧ (v2 = 1 → K (D1 156 10) D1)) ∧ (v2 = 0 → K (D1 156 9) D1))) ∧ (¬ v2 ≤ 2 → K (-2) D))))) : k_X11_run E l D v1 v2 K := by
  refine g_enter (by decide) (Nat.le_of_ble_eq_true rfl) ?_
  show g_N E l m_X11_run 3 0 [some (g_R 0), some (g_I v1), some (g_I v2)] [] g_SH D (g_Ri g_SH K)
  refine g_use (fun ok => ?_)
  have hF := hF ok.2.1 (ok.loc (i := 1) rfl) (ok.loc (i := 2) rfl)
  refine g_iload_n dX11_run_0 rfl ?_
  refine g_iflt dX11_run_1 rfl (fun q => ?_) (fun q => ?_)
  · have hF := hF.1 q
    refine g_bipush dX11_run_27 ⟨by decide, by decide⟩ ?_
    exact gw_iret dX11_run_29 rfl hF
  · have hF := hF.2 q
    refine g_iload_n dX11_run_4 rfl ?_
    refine g_aload_n dX11_run_5 rfl ?_
    refine g_getR dX11_run_6 fd_X11_12 sh_0 rfl ?_
    refine g_getR dX11_run_9 fd_X11_112 sh_1 rfl ?_
    refine g_getI dX11_run_12 fd_X11_98 sh_4 rfl ?_
    refine g_cge dX11_run_15 rfl (fun q => ?_) (fun q => ?_)
    · have hF := hF.1 q
      refine g_bipush dX11_run_27 ⟨by decide, by decide⟩ ?_
      exact gw_iret dX11_run_29 rfl hF
    · have hF := hF.2 q
      refine g_iload_n dX11_run_18 rfl ?_
      refine g_iflt dX11_run_19 rfl (fun q => ?_) (fun q => ?_)
      · have hF := hF.1 q
        refine g_bipush dX11_run_27 ⟨by decide, by decide⟩ ?_
        exact gw_iret dX11_run_29 rfl hF
      · have hF := hF.2 q
        refine g_iload_n dX11_run_22 rfl ?_
        refine g_iconst dX11_run_23 ⟨by decide, by decide⟩ ?_
        refine g_cle dX11_run_24 rfl (fun q => ?_) (fun q => ?_)
        · have hF := hF.1 q
          refine g_aload_n dX11_run_30 rfl ?_
          refine g_getR dX11_run_31 fd_X11_68 sh_0 rfl ?_
          refine g_aload_n dX11_run_34 rfl ?_
          refine g_getR dX11_run_35 fd_X11_12 sh_0 rfl ?_
          refine g_getR dX11_run_38 fd_X11_105 sh_1 rfl ?_
          refine g_aload_n dX11_run_41 rfl ?_
          refine g_getR dX11_run_42 fd_X11_12 sh_0 rfl ?_
          refine g_getR dX11_run_45 fd_X11_112 sh_1 rfl ?_
          refine g_iload_n dX11_run_48 rfl ?_
          refine g_aload_n dX11_run_49 rfl ?_
          refine g_getR dX11_run_50 fd_X11_12 sh_0 rfl ?_
          refine g_getR dX11_run_53 fd_X11_142 sh_1 rfl ?_
          refine g_iconst dX11_run_56 ⟨by decide, by decide⟩ ?_
          refine g_iald dX11_run_57 sh_6 (by decide) (by decide) ?_
          refine gw_cVv (b := 156) (As := [g_R 2, g_R 4, g_I v1, g_I (D 6 1)]) (rest := []) dX11_run_58 mv_X11_158 sh_156 rfl (Nat.le_of_ble_eq_true rfl) (by decide) rfl hF ?_
          intro D1 hF
          refine g_iload_n dX11_run_61 rfl ?_
          refine g_ifne dX11_run_62 rfl (fun q => ?_) (fun q => ?_)
          · have hF := hF.1 q
            refine g_iload_n dX11_run_73 rfl ?_
            refine g_iconst dX11_run_74 ⟨by decide, by decide⟩ ?_
            refine g_cne dX11_run_75 rfl (fun q => ?_) (fun q => ?_)
            · have hF := hF.1 q
              refine g_aload_n dX11_run_88 rfl ?_
              refine g_getR dX11_run_89 fd_X11_68 sh_0 rfl ?_
              refine g_getI dX11_run_92 fd_X11_168 sh_156 rfl ?_
              exact gw_iret dX11_run_95 rfl hF
            · have hF := hF.2 q
              refine g_aload_n dX11_run_78 rfl ?_
              refine g_getR dX11_run_79 fd_X11_68 sh_0 rfl ?_
              refine g_getI dX11_run_82 fd_X11_165 sh_156 rfl ?_
              refine g_goto dX11_run_85 rfl ?_
              exact gw_iret dX11_run_95 rfl hF
          · have hF := hF.2 q
            refine g_aload_n dX11_run_65 rfl ?_
            refine g_getR dX11_run_66 fd_X11_68 sh_0 rfl ?_
            refine g_getI dX11_run_69 fd_X11_162 sh_156 rfl ?_
            exact gw_iret dX11_run_72 rfl hF
        · have hF := hF.2 q
          refine g_bipush dX11_run_27 ⟨by decide, by decide⟩ ?_
          exact gw_iret dX11_run_29 rfl hF
theorem dX11_shareOf_0 : decode cX11_shareOf 0 = .ok (.aload_n 0, 1) := by decide +kernel
theorem dX11_shareOf_1 : decode cX11_shareOf 1 = .ok (.getfield 57, 3) := by decide +kernel
theorem dX11_shareOf_4 : decode cX11_shareOf 4 = .ok (.getfield 183, 3) := by decide +kernel
theorem dX11_shareOf_7 : decode cX11_shareOf 7 = .ok (.iload_n 1, 1) := by decide +kernel
theorem dX11_shareOf_8 : decode cX11_shareOf 8 = .ok (.iaload, 1) := by decide +kernel
theorem dX11_shareOf_9 : decode cX11_shareOf 9 = .ok (.iconst 2, 1) := by decide +kernel
theorem dX11_shareOf_10 : decode cX11_shareOf 10 = .ok (.if_icmp .ne 5, 3) := by decide +kernel
theorem dX11_shareOf_13 : decode cX11_shareOf 13 = .ok (.iconst 0, 1) := by decide +kernel
theorem dX11_shareOf_14 : decode cX11_shareOf 14 = .ok (.ireturn, 1) := by decide +kernel
theorem dX11_shareOf_15 : decode cX11_shareOf 15 = .ok (.aload_n 0, 1) := by decide +kernel
theorem dX11_shareOf_16 : decode cX11_shareOf 16 = .ok (.getfield 57, 3) := by decide +kernel
theorem dX11_shareOf_19 : decode cX11_shareOf 19 = .ok (.getfield 183, 3) := by decide +kernel
theorem dX11_shareOf_22 : decode cX11_shareOf 22 = .ok (.iload_n 1, 1) := by decide +kernel
theorem dX11_shareOf_23 : decode cX11_shareOf 23 = .ok (.iaload, 1) := by decide +kernel
theorem dX11_shareOf_24 : decode cX11_shareOf 24 = .ok (.iconst 1, 1) := by decide +kernel
theorem dX11_shareOf_25 : decode cX11_shareOf 25 = .ok (.if_icmp .ne 19, 3) := by decide +kernel
theorem dX11_shareOf_28 : decode cX11_shareOf 28 = .ok (.aload_n 0, 1) := by decide +kernel
theorem dX11_shareOf_29 : decode cX11_shareOf 29 = .ok (.getfield 64, 3) := by decide +kernel
theorem dX11_shareOf_32 : decode cX11_shareOf 32 = .ok (.iload_n 1, 1) := by decide +kernel
theorem dX11_shareOf_33 : decode cX11_shareOf 33 = .ok (.invokevirtual 195, 3) := by decide +kernel
theorem dX11_shareOf_36 : decode cX11_shareOf 36 = .ok (.iconst 2, 1) := by decide +kernel
theorem dX11_shareOf_37 : decode cX11_shareOf 37 = .ok (.if_icmp .eq 7, 3) := by decide +kernel
theorem dX11_shareOf_40 : decode cX11_shareOf 40 = .ok (.iconst 1, 1) := by decide +kernel
theorem dX11_shareOf_41 : decode cX11_shareOf 41 = .ok (.goto 4, 3) := by decide +kernel
theorem dX11_shareOf_44 : decode cX11_shareOf 44 = .ok (.iconst 2, 1) := by decide +kernel
theorem dX11_shareOf_45 : decode cX11_shareOf 45 = .ok (.ireturn, 1) := by decide +kernel
abbrev k_X11_shareOf (E : g_E) (l : Launch) (D : g_D) (v1 : Int) (K : Int → g_D → Prop) : Prop := g_Ki E l m_X11_shareOf 2 [g_R 0, g_I v1] g_SH D K
abbrev n_X11_shareOf (E : g_E) (l : Launch) (D : g_D) (pc : Nat) (L : List (Option g_V)) (K : Int → g_D → Prop) : Prop := g_N E l m_X11_shareOf 2 pc L [] g_SH D (g_Ri g_SH K)
theorem s_X11_shareOf {E : g_E} {l : Launch} {D : g_D} {K : Int → g_D → Prop} {v1 : Int}  (hF : g_okD D → g_r v1 → (0 ≤ v1 ∧ v1 < 20) ∧ ((¬ (D 138 v1.toNat) = 2 → (0 ≤ v1 ∧ v1 < 20) ∧ ((¬ (D 138 v1.toNat) = 1 → K 2 D) ∧ ((D 138 v1.toNat) = 1 → k_X4_fateOf E l D 149 v1 (fun x1 D1 => g_r x1 → (x1 = 2 → K 2 D1) ∧ (¬ x1 = 2 → K 1 D1))))) ∧ ((D 138 v1.toNat) = 2 → K 0 D))) : k_X11_shareOf E l D v1 K := by
  refine g_enter (by decide) (Nat.le_of_ble_eq_true rfl) ?_
  show g_N E l m_X11_shareOf 2 0 [some (g_R 0), some (g_I v1)] [] g_SH D (g_Ri g_SH K)
  refine g_use (fun ok => ?_)
  have hF := hF ok.2.1 (ok.loc (i := 1) rfl)
  refine g_aload_n dX11_shareOf_0 rfl ?_
  refine g_getR dX11_shareOf_1 fd_X11_57 sh_0 rfl ?_
  refine g_getR dX11_shareOf_4 fd_X11_183 sh_137 rfl ?_
  refine g_iload_n dX11_shareOf_7 rfl ?_
  obtain ⟨hc, hF⟩ := hF
  refine g_iald dX11_shareOf_8 sh_138 hc.1 hc.2 ?_
  refine g_iconst dX11_shareOf_9 ⟨by decide, by decide⟩ ?_
  refine g_cne dX11_shareOf_10 rfl (fun q => ?_) (fun q => ?_)
  · have hF := hF.1 q
    refine g_aload_n dX11_shareOf_15 rfl ?_
    refine g_getR dX11_shareOf_16 fd_X11_57 sh_0 rfl ?_
    refine g_getR dX11_shareOf_19 fd_X11_183 sh_137 rfl ?_
    refine g_iload_n dX11_shareOf_22 rfl ?_
    obtain ⟨hc, hF⟩ := hF
    refine g_iald dX11_shareOf_23 sh_138 hc.1 hc.2 ?_
    refine g_iconst dX11_shareOf_24 ⟨by decide, by decide⟩ ?_
    refine g_cne dX11_shareOf_25 rfl (fun q => ?_) (fun q => ?_)
    · have hF := hF.1 q
      refine g_iconst dX11_shareOf_44 ⟨by decide, by decide⟩ ?_
      exact gw_iret dX11_shareOf_45 rfl hF
    · have hF := hF.2 q
      refine g_aload_n dX11_shareOf_28 rfl ?_
      refine g_getR dX11_shareOf_29 fd_X11_64 sh_0 rfl ?_
      refine g_iload_n dX11_shareOf_32 rfl ?_
      refine gw_cVi (b := 149) (As := [g_I v1]) (rest := []) dX11_shareOf_33 mv_X11_195 sh_149 rfl (Nat.le_of_ble_eq_true rfl) (by decide) rfl hF ?_
      intro x1 D1 hx1 hF
      have hF := hF hx1
      refine g_iconst dX11_shareOf_36 ⟨by decide, by decide⟩ ?_
      refine g_ceq dX11_shareOf_37 rfl (fun q => ?_) (fun q => ?_)
      · have hF := hF.1 q
        refine g_iconst dX11_shareOf_44 ⟨by decide, by decide⟩ ?_
        exact gw_iret dX11_shareOf_45 rfl hF
      · have hF := hF.2 q
        refine g_iconst dX11_shareOf_40 ⟨by decide, by decide⟩ ?_
        refine g_goto dX11_shareOf_41 rfl ?_
        exact gw_iret dX11_shareOf_45 rfl hF
  · have hF := hF.2 q
    refine g_iconst dX11_shareOf_13 ⟨by decide, by decide⟩ ?_
    exact gw_iret dX11_shareOf_14 rfl hF
theorem dX11_share_0 : decode cX11_share 0 = .ok (.iload_n 1, 1) := by decide +kernel
theorem dX11_share_1 : decode cX11_share 1 = .ok (.ifCond .lt 8, 3) := by decide +kernel
theorem dX11_share_4 : decode cX11_share 4 = .ok (.iload_n 1, 1) := by decide +kernel
theorem dX11_share_5 : decode cX11_share 5 = .ok (.iconst 2, 1) := by decide +kernel
theorem dX11_share_6 : decode cX11_share 6 = .ok (.if_icmp .le 6, 3) := by decide +kernel
theorem dX11_share_9 : decode cX11_share 9 = .ok (.bipush (-2), 2) := by decide +kernel
theorem dX11_share_11 : decode cX11_share 11 = .ok (.ireturn, 1) := by decide +kernel
theorem dX11_share_12 : decode cX11_share 12 = .ok (.aload_n 0, 1) := by decide +kernel
theorem dX11_share_13 : decode cX11_share 13 = .ok (.invokevirtual 175, 3) := by decide +kernel
theorem dX11_share_16 : decode cX11_share 16 = .ok (.iconst 0, 1) := by decide +kernel
theorem dX11_share_17 : decode cX11_share 17 = .ok (.istore_n 2, 1) := by decide +kernel
theorem dX11_share_18 : decode cX11_share 18 = .ok (.iconst 0, 1) := by decide +kernel
theorem dX11_share_19 : decode cX11_share 19 = .ok (.istore_n 3, 1) := by decide +kernel
theorem dX11_share_20 : decode cX11_share 20 = .ok (.iload_n 3, 1) := by decide +kernel
theorem dX11_share_21 : decode cX11_share 21 = .ok (.aload_n 0, 1) := by decide +kernel
theorem dX11_share_22 : decode cX11_share 22 = .ok (.getfield 57, 3) := by decide +kernel
theorem dX11_share_25 : decode cX11_share 25 = .ok (.getfield 178, 3) := by decide +kernel
theorem dX11_share_28 : decode cX11_share 28 = .ok (.if_icmp .ge 30, 3) := by decide +kernel
theorem dX11_share_31 : decode cX11_share 31 = .ok (.aload_n 0, 1) := by decide +kernel
theorem dX11_share_32 : decode cX11_share 32 = .ok (.iload_n 3, 1) := by decide +kernel
theorem dX11_share_33 : decode cX11_share 33 = .ok (.invokevirtual 288, 3) := by decide +kernel
theorem dX11_share_36 : decode cX11_share 36 = .ok (.iload_n 1, 1) := by decide +kernel
theorem dX11_share_37 : decode cX11_share 37 = .ok (.if_icmp .ne 15, 3) := by decide +kernel
theorem dX11_share_40 : decode cX11_share 40 = .ok (.iload_n 2, 1) := by decide +kernel
theorem dX11_share_41 : decode cX11_share 41 = .ok (.aload_n 0, 1) := by decide +kernel
theorem dX11_share_42 : decode cX11_share 42 = .ok (.getfield 57, 3) := by decide +kernel
theorem dX11_share_45 : decode cX11_share 45 = .ok (.getfield 192, 3) := by decide +kernel
theorem dX11_share_48 : decode cX11_share 48 = .ok (.iload_n 3, 1) := by decide +kernel
theorem dX11_share_49 : decode cX11_share 49 = .ok (.iaload, 1) := by decide +kernel
theorem dX11_share_50 : decode cX11_share 50 = .ok (.iadd, 1) := by decide +kernel
theorem dX11_share_51 : decode cX11_share 51 = .ok (.istore_n 2, 1) := by decide +kernel
theorem dX11_share_52 : decode cX11_share 52 = .ok (.iinc 3 1, 3) := by decide +kernel
theorem dX11_share_55 : decode cX11_share 55 = .ok (.goto (-35), 3) := by decide +kernel
theorem dX11_share_58 : decode cX11_share 58 = .ok (.iload_n 2, 1) := by decide +kernel
theorem dX11_share_59 : decode cX11_share 59 = .ok (.aload_n 0, 1) := by decide +kernel
theorem dX11_share_60 : decode cX11_share 60 = .ok (.getfield 12, 3) := by decide +kernel
theorem dX11_share_63 : decode cX11_share 63 = .ok (.getfield 112, 3) := by decide +kernel
theorem dX11_share_66 : decode cX11_share 66 = .ok (.getfield 98, 3) := by decide +kernel
theorem dX11_share_69 : decode cX11_share 69 = .ok (.invokestatic 291, 3) := by decide +kernel
theorem dX11_share_72 : decode cX11_share 72 = .ok (.ireturn, 1) := by decide +kernel
abbrev k_X11_share (E : g_E) (l : Launch) (D : g_D) (v1 : Int) (K : Int → g_D → Prop) : Prop := g_Ki E l m_X11_share 6 [g_R 0, g_I v1] g_SH D K
abbrev n_X11_share (E : g_E) (l : Launch) (D : g_D) (pc : Nat) (L : List (Option g_V)) (K : Int → g_D → Prop) : Prop := g_N E l m_X11_share 6 pc L [] g_SH D (g_Ri g_SH K)
theorem s_X11_share {E : g_E} {l : Launch} {D : g_D} {K : Int → g_D → Prop} {v1 : Int}  (hF : g_okD D → g_r v1 → (v1 < 0 → K (-2) D) ∧ (¬ v1 < 0 → (v1 ≤ 2 → k_X11_makePlan E l D (fun D1 => n_X11_share E l D1 20 [some (g_R 0), some (g_I v1), some (g_I 0), some (g_I 0)] K)) ∧ (¬ v1 ≤ 2 → K (-2) D))) : k_X11_share E l D v1 K := by
  refine g_enter (by decide) (Nat.le_of_ble_eq_true rfl) ?_
  show g_N E l m_X11_share 6 0 [some (g_R 0), some (g_I v1), none, none] [] g_SH D (g_Ri g_SH K)
  refine g_use (fun ok => ?_)
  have hF := hF ok.2.1 (ok.loc (i := 1) rfl)
  refine g_iload_n dX11_share_0 rfl ?_
  refine g_iflt dX11_share_1 rfl (fun q => ?_) (fun q => ?_)
  · have hF := hF.1 q
    refine g_bipush dX11_share_9 ⟨by decide, by decide⟩ ?_
    exact gw_iret dX11_share_11 rfl hF
  · have hF := hF.2 q
    refine g_iload_n dX11_share_4 rfl ?_
    refine g_iconst dX11_share_5 ⟨by decide, by decide⟩ ?_
    refine g_cle dX11_share_6 rfl (fun q => ?_) (fun q => ?_)
    · have hF := hF.1 q
      refine g_aload_n dX11_share_12 rfl ?_
      refine gw_cVv (b := 0) (As := []) (rest := []) dX11_share_13 mv_X11_175 sh_0 rfl (Nat.le_of_ble_eq_true rfl) (by decide) rfl hF ?_
      intro D1 hF
      refine g_iconst dX11_share_16 ⟨by decide, by decide⟩ ?_
      refine gw_istore_n (L' := [some (g_R 0), some (g_I v1), some (g_I 0), none]) dX11_share_17 (by decide) rfl ?_
      refine g_iconst dX11_share_18 ⟨by decide, by decide⟩ ?_
      refine gw_istore_n (L' := [some (g_R 0), some (g_I v1), some (g_I 0), some (g_I 0)]) dX11_share_19 (by decide) rfl ?_
      exact hF
    · have hF := hF.2 q
      refine g_bipush dX11_share_9 ⟨by decide, by decide⟩ ?_
      exact gw_iret dX11_share_11 rfl hF
theorem s_X11_share_20 {E : g_E} {l : Launch} {D : g_D} {K : Int → g_D → Prop} {v1 : Int} {v2 : Int} {v3 : Int}  (hF : g_okD D → g_r v1 → g_r v2 → g_r v3 → ((D 137 8) ≤ v3 → k_X11_floatBits E l g_SH D v2 (D 4 1) (fun x1 D1 => g_r x1 → K x1 D1)) ∧ (¬ (D 137 8) ≤ v3 → k_X11_shareOf E l D v3 (fun x2 D2 => g_r x2 → (¬ x2 = v1 → (g_r (v3 + 1)) ∧ (n_X11_share E l D2 20 [some (g_R 0), some (g_I v1), some (g_I v2), some (g_I (v3 + 1))] K)) ∧ (x2 = v1 → (0 ≤ v3 ∧ v3 < 20) ∧ ((g_r (v2 + (D2 141 v3.toNat))) ∧ ((g_r (v3 + 1)) ∧ (n_X11_share E l D2 20 [some (g_R 0), some (g_I v1), some (g_I (v2 + (D2 141 v3.toNat))), some (g_I (v3 + 1))] K))))))) : n_X11_share E l D 20 [some (g_R 0), some (g_I v1), some (g_I v2), some (g_I v3)] K := by
  refine g_use (fun ok => ?_)
  have hF := hF ok.2.1 (ok.loc (i := 1) rfl) (ok.loc (i := 2) rfl) (ok.loc (i := 3) rfl)
  refine g_iload_n dX11_share_20 rfl ?_
  refine g_aload_n dX11_share_21 rfl ?_
  refine g_getR dX11_share_22 fd_X11_57 sh_0 rfl ?_
  refine g_getI dX11_share_25 fd_X11_178 sh_137 rfl ?_
  refine g_cge dX11_share_28 rfl (fun q => ?_) (fun q => ?_)
  · have hF := hF.1 q
    refine g_iload_n dX11_share_58 rfl ?_
    refine g_aload_n dX11_share_59 rfl ?_
    refine g_getR dX11_share_60 fd_X11_12 sh_0 rfl ?_
    refine g_getR dX11_share_63 fd_X11_112 sh_1 rfl ?_
    refine g_getI dX11_share_66 fd_X11_98 sh_4 rfl ?_
    refine gw_cSi (As := [g_I v2, g_I (D 4 1)]) (rest := []) dX11_share_69 ms_X11_291 rfl (Nat.le_of_ble_eq_true rfl) (by decide) rfl hF ?_
    intro x1 D1 hx1 hF
    have hF := hF hx1
    exact gw_iret dX11_share_72 rfl hF
  · have hF := hF.2 q
    refine g_aload_n dX11_share_31 rfl ?_
    refine g_iload_n dX11_share_32 rfl ?_
    refine gw_cVi (b := 0) (As := [g_I v3]) (rest := []) dX11_share_33 mv_X11_288 sh_0 rfl (Nat.le_of_ble_eq_true rfl) (by decide) rfl hF ?_
    intro x2 D2 hx2 hF
    have hF := hF hx2
    refine g_iload_n dX11_share_36 rfl ?_
    refine g_cne dX11_share_37 rfl (fun q => ?_) (fun q => ?_)
    · have hF := hF.1 q
      obtain ⟨hc, hF⟩ := hF
      refine gw_iinc (L' := [some (g_R 0), some (g_I v1), some (g_I v2), some (g_I (v3 + 1))]) dX11_share_52 rfl hc (by decide) rfl ?_
      refine g_goto dX11_share_55 rfl ?_
      exact hF
    · have hF := hF.2 q
      refine g_iload_n dX11_share_40 rfl ?_
      refine g_aload_n dX11_share_41 rfl ?_
      refine g_getR dX11_share_42 fd_X11_57 sh_0 rfl ?_
      refine g_getR dX11_share_45 fd_X11_192 sh_137 rfl ?_
      refine g_iload_n dX11_share_48 rfl ?_
      obtain ⟨hc, hF⟩ := hF
      refine g_iald dX11_share_49 sh_141 hc.1 hc.2 ?_
      obtain ⟨hc, hF⟩ := hF
      refine g_iadd dX11_share_50 hc ?_
      refine gw_istore_n (L' := [some (g_R 0), some (g_I v1), some (g_I (v2 + (D2 141 v3.toNat))), some (g_I v3)]) dX11_share_51 (by decide) rfl ?_
      obtain ⟨hc, hF⟩ := hF
      refine gw_iinc (L' := [some (g_R 0), some (g_I v1), some (g_I (v2 + (D2 141 v3.toNat))), some (g_I (v3 + 1))]) dX11_share_52 rfl hc (by decide) rfl ?_
      refine g_goto dX11_share_55 rfl ?_
      exact hF
theorem dX11_sortSuffixes_0 : decode cX11_sortSuffixes 0 = .ok (.aload_n 0, 1) := by decide +kernel
theorem dX11_sortSuffixes_1 : decode cX11_sortSuffixes 1 = .ok (.getfield 88, 3) := by decide +kernel
theorem dX11_sortSuffixes_4 : decode cX11_sortSuffixes 4 = .ok (.ifCond .eq 22, 3) := by decide +kernel
theorem dX11_sortSuffixes_7 : decode cX11_sortSuffixes 7 = .ok (.aload_n 0, 1) := by decide +kernel
theorem dX11_sortSuffixes_8 : decode cX11_sortSuffixes 8 = .ok (.getfield 50, 3) := by decide +kernel
theorem dX11_sortSuffixes_11 : decode cX11_sortSuffixes 11 = .ok (.aload_n 0, 1) := by decide +kernel
theorem dX11_sortSuffixes_12 : decode cX11_sortSuffixes 12 = .ok (.getfield 12, 3) := by decide +kernel
theorem dX11_sortSuffixes_15 : decode cX11_sortSuffixes 15 = .ok (.getfield 105, 3) := by decide +kernel
theorem dX11_sortSuffixes_18 : decode cX11_sortSuffixes 18 = .ok (.invokevirtual 425, 3) := by decide +kernel
theorem dX11_sortSuffixes_21 : decode cX11_sortSuffixes 21 = .ok (.aload_n 0, 1) := by decide +kernel
theorem dX11_sortSuffixes_22 : decode cX11_sortSuffixes 22 = .ok (.iconst 0, 1) := by decide +kernel
theorem dX11_sortSuffixes_23 : decode cX11_sortSuffixes 23 = .ok (.putfield 88, 3) := by decide +kernel
theorem dX11_sortSuffixes_26 : decode cX11_sortSuffixes 26 = .ok (.return_, 1) := by decide +kernel
abbrev k_X11_sortSuffixes (E : g_E) (l : Launch) (D : g_D) (K : g_D → Prop) : Prop := g_Kv E l m_X11_sortSuffixes 5 [g_R 0] g_SH D K
abbrev n_X11_sortSuffixes (E : g_E) (l : Launch) (D : g_D) (pc : Nat) (L : List (Option g_V)) (K : g_D → Prop) : Prop := g_N E l m_X11_sortSuffixes 5 pc L [] g_SH D (g_Rv g_SH K)
theorem s_X11_sortSuffixes {E : g_E} {l : Launch} {D : g_D} {K : g_D → Prop}   (hF : g_okD D → ((D 0 13) = 0 → K D) ∧ (¬ (D 0 13) = 0 → k_X9_sort E l D 2 (fun D1 => ∀ D2, D2 = g_up D1 0 13 0 → (K D2)))) : k_X11_sortSuffixes E l D K := by
  refine g_enter (by decide) (Nat.le_of_ble_eq_true rfl) ?_
  show g_N E l m_X11_sortSuffixes 5 0 [some (g_R 0)] [] g_SH D (g_Rv g_SH K)
  refine g_use (fun ok => ?_)
  have hF := hF ok.2.1
  refine g_aload_n dX11_sortSuffixes_0 rfl ?_
  refine g_getI dX11_sortSuffixes_1 fd_X11_88 sh_0 rfl ?_
  refine g_ifeq dX11_sortSuffixes_4 rfl (fun q => ?_) (fun q => ?_)
  · have hF := hF.1 q
    exact gw_vret dX11_sortSuffixes_26 rfl hF
  · have hF := hF.2 q
    refine g_aload_n dX11_sortSuffixes_7 rfl ?_
    refine g_getR dX11_sortSuffixes_8 fd_X11_50 sh_0 rfl ?_
    refine g_aload_n dX11_sortSuffixes_11 rfl ?_
    refine g_getR dX11_sortSuffixes_12 fd_X11_12 sh_0 rfl ?_
    refine g_getR dX11_sortSuffixes_15 fd_X11_105 sh_1 rfl ?_
    refine gw_cVv (b := 134) (As := [g_R 2]) (rest := []) dX11_sortSuffixes_18 mv_X11_425 sh_134 rfl (Nat.le_of_ble_eq_true rfl) (by decide) rfl hF ?_
    intro D1 hF
    refine g_aload_n dX11_sortSuffixes_21 rfl ?_
    refine g_iconst dX11_sortSuffixes_22 ⟨by decide, by decide⟩ ?_
    let D2 : g_D := g_up D1 0 13 0
    have hF := hF D2 rfl
    refine g_put dX11_sortSuffixes_23 fd_X11_88 (g_ftyZ (C := RX11) (T := TX11) (N := 16) rfl rfl (by decide +kernel) (by decide)) sh_0 rfl ?_
    exact gw_vret dX11_sortSuffixes_26 rfl hF
theorem dX11_shared_0 : decode cX11_shared 0 = .ok (.aload_n 0, 1) := by decide +kernel
theorem dX11_shared_1 : decode cX11_shared 1 = .ok (.invokevirtual 145, 3) := by decide +kernel
theorem dX11_shared_4 : decode cX11_shared 4 = .ok (.iload_n 1, 1) := by decide +kernel
theorem dX11_shared_5 : decode cX11_shared 5 = .ok (.ifCond .lt 28, 3) := by decide +kernel
theorem dX11_shared_8 : decode cX11_shared 8 = .ok (.iload_n 1, 1) := by decide +kernel
theorem dX11_shared_9 : decode cX11_shared 9 = .ok (.aload_n 0, 1) := by decide +kernel
theorem dX11_shared_10 : decode cX11_shared 10 = .ok (.getfield 50, 3) := by decide +kernel
theorem dX11_shared_13 : decode cX11_shared 13 = .ok (.getfield 148, 3) := by decide +kernel
theorem dX11_shared_16 : decode cX11_shared 16 = .ok (.iconst 1, 1) := by decide +kernel
theorem dX11_shared_17 : decode cX11_shared 17 = .ok (.isub, 1) := by decide +kernel
theorem dX11_shared_18 : decode cX11_shared 18 = .ok (.if_icmp .ge 15, 3) := by decide +kernel
theorem dX11_shared_21 : decode cX11_shared 21 = .ok (.aload_n 0, 1) := by decide +kernel
theorem dX11_shared_22 : decode cX11_shared 22 = .ok (.getfield 50, 3) := by decide +kernel
theorem dX11_shared_25 : decode cX11_shared 25 = .ok (.getfield 152, 3) := by decide +kernel
theorem dX11_shared_28 : decode cX11_shared 28 = .ok (.iload_n 1, 1) := by decide +kernel
theorem dX11_shared_29 : decode cX11_shared 29 = .ok (.iaload, 1) := by decide +kernel
theorem dX11_shared_30 : decode cX11_shared 30 = .ok (.goto 4, 3) := by decide +kernel
theorem dX11_shared_33 : decode cX11_shared 33 = .ok (.iconst (-1), 1) := by decide +kernel
theorem dX11_shared_34 : decode cX11_shared 34 = .ok (.ireturn, 1) := by decide +kernel
abbrev k_X11_shared (E : g_E) (l : Launch) (D : g_D) (v1 : Int) (K : Int → g_D → Prop) : Prop := g_Ki E l m_X11_shared 6 [g_R 0, g_I v1] g_SH D K
abbrev n_X11_shared (E : g_E) (l : Launch) (D : g_D) (pc : Nat) (L : List (Option g_V)) (K : Int → g_D → Prop) : Prop := g_N E l m_X11_shared 6 pc L [] g_SH D (g_Ri g_SH K)
theorem s_X11_shared {E : g_E} {l : Launch} {D : g_D} {K : Int → g_D → Prop} {v1 : Int}  (hF : g_okD D → g_r v1 → k_X11_sortSuffixes E l D (fun D1 => (v1 < 0 → K (-1) D1) ∧ (¬ v1 < 0 → (g_r ((D1 134 2) - 1)) ∧ ((((D1 134 2) - 1) ≤ v1 → K (-1) D1) ∧ (¬ ((D1 134 2) - 1) ≤ v1 → (0 ≤ v1 ∧ v1 < 40) ∧ (K (D1 136 v1.toNat) D1)))))) : k_X11_shared E l D v1 K := by
  refine g_enter (by decide) (Nat.le_of_ble_eq_true rfl) ?_
  show g_N E l m_X11_shared 6 0 [some (g_R 0), some (g_I v1)] [] g_SH D (g_Ri g_SH K)
  refine g_use (fun ok => ?_)
  have hF := hF ok.2.1 (ok.loc (i := 1) rfl)
  refine g_aload_n dX11_shared_0 rfl ?_
  refine gw_cVv (b := 0) (As := []) (rest := []) dX11_shared_1 mv_X11_145 sh_0 rfl (Nat.le_of_ble_eq_true rfl) (by decide) rfl hF ?_
  intro D1 hF
  refine g_iload_n dX11_shared_4 rfl ?_
  refine g_iflt dX11_shared_5 rfl (fun q => ?_) (fun q => ?_)
  · have hF := hF.1 q
    refine g_iconst dX11_shared_33 ⟨by decide, by decide⟩ ?_
    exact gw_iret dX11_shared_34 rfl hF
  · have hF := hF.2 q
    refine g_iload_n dX11_shared_8 rfl ?_
    refine g_aload_n dX11_shared_9 rfl ?_
    refine g_getR dX11_shared_10 fd_X11_50 sh_0 rfl ?_
    refine g_getI dX11_shared_13 fd_X11_148 sh_134 rfl ?_
    refine g_iconst dX11_shared_16 ⟨by decide, by decide⟩ ?_
    obtain ⟨hc, hF⟩ := hF
    refine g_isub dX11_shared_17 hc ?_
    refine g_cge dX11_shared_18 rfl (fun q => ?_) (fun q => ?_)
    · have hF := hF.1 q
      refine g_iconst dX11_shared_33 ⟨by decide, by decide⟩ ?_
      exact gw_iret dX11_shared_34 rfl hF
    · have hF := hF.2 q
      refine g_aload_n dX11_shared_21 rfl ?_
      refine g_getR dX11_shared_22 fd_X11_50 sh_0 rfl ?_
      refine g_getR dX11_shared_25 fd_X11_152 sh_134 rfl ?_
      refine g_iload_n dX11_shared_28 rfl ?_
      obtain ⟨hc, hF⟩ := hF
      refine g_iald dX11_shared_29 sh_136 hc.1 hc.2 ?_
      refine g_goto dX11_shared_30 rfl ?_
      exact gw_iret dX11_shared_34 rfl hF
theorem dX11_sized_0 : decode cX11_sized 0 = .ok (.iload_n 1, 1) := by decide +kernel
theorem dX11_sized_1 : decode cX11_sized 1 = .ok (.ifCond .lt 12, 3) := by decide +kernel
theorem dX11_sized_4 : decode cX11_sized 4 = .ok (.iload_n 1, 1) := by decide +kernel
theorem dX11_sized_5 : decode cX11_sized 5 = .ok (.getstatic 139, 3) := by decide +kernel
theorem dX11_sized_8 : decode cX11_sized 8 = .ok (.iconst 3, 1) := by decide +kernel
theorem dX11_sized_9 : decode cX11_sized 9 = .ok (.iaload, 1) := by decide +kernel
theorem dX11_sized_10 : decode cX11_sized 10 = .ok (.if_icmp .le 6, 3) := by decide +kernel
theorem dX11_sized_13 : decode cX11_sized 13 = .ok (.bipush (-3), 2) := by decide +kernel
theorem dX11_sized_15 : decode cX11_sized 15 = .ok (.ireturn, 1) := by decide +kernel
theorem dX11_sized_16 : decode cX11_sized 16 = .ok (.aload_n 0, 1) := by decide +kernel
theorem dX11_sized_17 : decode cX11_sized 17 = .ok (.invokevirtual 175, 3) := by decide +kernel
theorem dX11_sized_20 : decode cX11_sized 20 = .ok (.aload_n 0, 1) := by decide +kernel
theorem dX11_sized_21 : decode cX11_sized 21 = .ok (.getfield 71, 3) := by decide +kernel
theorem dX11_sized_24 : decode cX11_sized 24 = .ok (.aload_n 0, 1) := by decide +kernel
theorem dX11_sized_25 : decode cX11_sized 25 = .ok (.getfield 57, 3) := by decide +kernel
theorem dX11_sized_28 : decode cX11_sized 28 = .ok (.aload_n 0, 1) := by decide +kernel
theorem dX11_sized_29 : decode cX11_sized 29 = .ok (.getfield 12, 3) := by decide +kernel
theorem dX11_sized_32 : decode cX11_sized 32 = .ok (.getfield 142, 3) := by decide +kernel
theorem dX11_sized_35 : decode cX11_sized 35 = .ok (.iconst 2, 1) := by decide +kernel
theorem dX11_sized_36 : decode cX11_sized 36 = .ok (.iaload, 1) := by decide +kernel
theorem dX11_sized_37 : decode cX11_sized 37 = .ok (.iload_n 1, 1) := by decide +kernel
theorem dX11_sized_38 : decode cX11_sized 38 = .ok (.invokevirtual 276, 3) := by decide +kernel
theorem dX11_sized_41 : decode cX11_sized 41 = .ok (.aload_n 0, 1) := by decide +kernel
theorem dX11_sized_42 : decode cX11_sized 42 = .ok (.getfield 71, 3) := by decide +kernel
theorem dX11_sized_45 : decode cX11_sized 45 = .ok (.getfield 270, 3) := by decide +kernel
theorem dX11_sized_48 : decode cX11_sized 48 = .ok (.ireturn, 1) := by decide +kernel
abbrev k_X11_sized (E : g_E) (l : Launch) (D : g_D) (v1 : Int) (K : Int → g_D → Prop) : Prop := g_Ki E l m_X11_sized 6 [g_R 0, g_I v1] g_SH D K
abbrev n_X11_sized (E : g_E) (l : Launch) (D : g_D) (pc : Nat) (L : List (Option g_V)) (K : Int → g_D → Prop) : Prop := g_N E l m_X11_sized 6 pc L [] g_SH D (g_Ri g_SH K)
theorem s_X11_sized {E : g_E} {l : Launch} {D : g_D} {K : Int → g_D → Prop} {v1 : Int}  (hF : g_okD D → g_r v1 → (v1 < 0 → K (-3) D) ∧ (¬ v1 < 0 → (0 ≤ (3 : Int) ∧ (3 : Int) < g_fl E 3 ∧ g_r (g_fx E 3 3)) ∧ ((v1 ≤ (g_fx E 3 3) → k_X11_makePlan E l D (fun D1 => k_X4_build E l D1 168 137 (D1 6 2) v1 (fun D2 => K (D2 168 6) D2))) ∧ (¬ v1 ≤ (g_fx E 3 3) → K (-3) D)))) : k_X11_sized E l D v1 K := by
  refine g_enter (by decide) (Nat.le_of_ble_eq_true rfl) ?_
  show g_N E l m_X11_sized 6 0 [some (g_R 0), some (g_I v1)] [] g_SH D (g_Ri g_SH K)
  refine g_use (fun ok => ?_)
  have hF := hF ok.2.1 (ok.loc (i := 1) rfl)
  refine g_iload_n dX11_sized_0 rfl ?_
  refine g_iflt dX11_sized_1 rfl (fun q => ?_) (fun q => ?_)
  · have hF := hF.1 q
    refine g_bipush dX11_sized_13 ⟨by decide, by decide⟩ ?_
    exact gw_iret dX11_sized_15 rfl hF
  · have hF := hF.2 q
    refine g_iload_n dX11_sized_4 rfl ?_
    refine g_gets3 dX11_sized_5 gs_X11_139 ?_
    refine g_iconst dX11_sized_8 ⟨by decide, by decide⟩ ?_
    obtain ⟨hc, hF⟩ := hF
    refine g_ialdF dX11_sized_9 (by decide) hc.1 hc.2.1 hc.2.2 ?_
    refine g_cle dX11_sized_10 rfl (fun q => ?_) (fun q => ?_)
    · have hF := hF.1 q
      refine g_aload_n dX11_sized_16 rfl ?_
      refine gw_cVv (b := 0) (As := []) (rest := []) dX11_sized_17 mv_X11_175 sh_0 rfl (Nat.le_of_ble_eq_true rfl) (by decide) rfl hF ?_
      intro D1 hF
      refine g_aload_n dX11_sized_20 rfl ?_
      refine g_getR dX11_sized_21 fd_X11_71 sh_0 rfl ?_
      refine g_aload_n dX11_sized_24 rfl ?_
      refine g_getR dX11_sized_25 fd_X11_57 sh_0 rfl ?_
      refine g_aload_n dX11_sized_28 rfl ?_
      refine g_getR dX11_sized_29 fd_X11_12 sh_0 rfl ?_
      refine g_getR dX11_sized_32 fd_X11_142 sh_1 rfl ?_
      refine g_iconst dX11_sized_35 ⟨by decide, by decide⟩ ?_
      refine g_iald dX11_sized_36 sh_6 (by decide) (by decide) ?_
      refine g_iload_n dX11_sized_37 rfl ?_
      refine gw_cVv (b := 168) (As := [g_R 137, g_I (D1 6 2), g_I v1]) (rest := []) dX11_sized_38 mv_X11_276 sh_168 rfl (Nat.le_of_ble_eq_true rfl) (by decide) rfl hF ?_
      intro D2 hF
      refine g_aload_n dX11_sized_41 rfl ?_
      refine g_getR dX11_sized_42 fd_X11_71 sh_0 rfl ?_
      refine g_getI dX11_sized_45 fd_X11_270 sh_168 rfl ?_
      exact gw_iret dX11_sized_48 rfl hF
    · have hF := hF.2 q
      refine g_bipush dX11_sized_13 ⟨by decide, by decide⟩ ?_
      exact gw_iret dX11_sized_15 rfl hF
theorem dX11_spoil_0 : decode cX11_spoil 0 = .ok (.iload_n 1, 1) := by decide +kernel
theorem dX11_spoil_1 : decode cX11_spoil 1 = .ok (.ifCond .lt 9, 3) := by decide +kernel
theorem dX11_spoil_4 : decode cX11_spoil 4 = .ok (.iload_n 1, 1) := by decide +kernel
theorem dX11_spoil_5 : decode cX11_spoil 5 = .ok (.bipush 40, 2) := by decide +kernel
theorem dX11_spoil_7 : decode cX11_spoil 7 = .ok (.if_icmp .lt 6, 3) := by decide +kernel
theorem dX11_spoil_10 : decode cX11_spoil 10 = .ok (.bipush (-2), 2) := by decide +kernel
theorem dX11_spoil_12 : decode cX11_spoil 12 = .ok (.ireturn, 1) := by decide +kernel
theorem dX11_spoil_13 : decode cX11_spoil 13 = .ok (.iload_n 2, 1) := by decide +kernel
theorem dX11_spoil_14 : decode cX11_spoil 14 = .ok (.ifCond .lt 10, 3) := by decide +kernel
theorem dX11_spoil_17 : decode cX11_spoil 17 = .ok (.iload_n 2, 1) := by decide +kernel
theorem dX11_spoil_18 : decode cX11_spoil 18 = .ok (.sipush 255, 3) := by decide +kernel
theorem dX11_spoil_21 : decode cX11_spoil 21 = .ok (.if_icmp .le 6, 3) := by decide +kernel
theorem dX11_spoil_24 : decode cX11_spoil 24 = .ok (.bipush (-3), 2) := by decide +kernel
theorem dX11_spoil_26 : decode cX11_spoil 26 = .ok (.ireturn, 1) := by decide +kernel
theorem dX11_spoil_27 : decode cX11_spoil 27 = .ok (.aload_n 0, 1) := by decide +kernel
theorem dX11_spoil_28 : decode cX11_spoil 28 = .ok (.getfield 43, 3) := by decide +kernel
theorem dX11_spoil_31 : decode cX11_spoil 31 = .ok (.aload_n 0, 1) := by decide +kernel
theorem dX11_spoil_32 : decode cX11_spoil 32 = .ok (.getfield 12, 3) := by decide +kernel
theorem dX11_spoil_35 : decode cX11_spoil 35 = .ok (.getfield 119, 3) := by decide +kernel
theorem dX11_spoil_38 : decode cX11_spoil 38 = .ok (.invokevirtual 295, 3) := by decide +kernel
theorem dX11_spoil_41 : decode cX11_spoil 41 = .ok (.aload_n 0, 1) := by decide +kernel
theorem dX11_spoil_42 : decode cX11_spoil 42 = .ok (.getfield 12, 3) := by decide +kernel
theorem dX11_spoil_45 : decode cX11_spoil 45 = .ok (.getfield 119, 3) := by decide +kernel
theorem dX11_spoil_48 : decode cX11_spoil 48 = .ok (.getfield 123, 3) := by decide +kernel
theorem dX11_spoil_51 : decode cX11_spoil 51 = .ok (.iload_n 1, 1) := by decide +kernel
theorem dX11_spoil_52 : decode cX11_spoil 52 = .ok (.iaload, 1) := by decide +kernel
theorem dX11_spoil_53 : decode cX11_spoil 53 = .ok (.istore_n 3, 1) := by decide +kernel
theorem dX11_spoil_54 : decode cX11_spoil 54 = .ok (.aload_n 0, 1) := by decide +kernel
theorem dX11_spoil_55 : decode cX11_spoil 55 = .ok (.getfield 12, 3) := by decide +kernel
theorem dX11_spoil_58 : decode cX11_spoil 58 = .ok (.getfield 119, 3) := by decide +kernel
theorem dX11_spoil_61 : decode cX11_spoil 61 = .ok (.getfield 123, 3) := by decide +kernel
theorem dX11_spoil_64 : decode cX11_spoil 64 = .ok (.iload_n 1, 1) := by decide +kernel
theorem dX11_spoil_65 : decode cX11_spoil 65 = .ok (.iload_n 2, 1) := by decide +kernel
theorem dX11_spoil_66 : decode cX11_spoil 66 = .ok (.iastore, 1) := by decide +kernel
theorem dX11_spoil_67 : decode cX11_spoil 67 = .ok (.iload_n 3, 1) := by decide +kernel
theorem dX11_spoil_68 : decode cX11_spoil 68 = .ok (.ireturn, 1) := by decide +kernel
abbrev k_X11_spoil (E : g_E) (l : Launch) (D : g_D) (v1 : Int) (v2 : Int) (K : Int → g_D → Prop) : Prop := g_Ki E l m_X11_spoil 4 [g_R 0, g_I v1, g_I v2] g_SH D K
abbrev n_X11_spoil (E : g_E) (l : Launch) (D : g_D) (pc : Nat) (L : List (Option g_V)) (K : Int → g_D → Prop) : Prop := g_N E l m_X11_spoil 4 pc L [] g_SH D (g_Ri g_SH K)
theorem s_X11_spoil {E : g_E} {l : Launch} {D : g_D} {K : Int → g_D → Prop} {v1 : Int} {v2 : Int}  (hF : g_okD D → g_r v1 → g_r v2 → (v1 < 0 → K (-2) D) ∧ (¬ v1 < 0 → (v1 < 40 → (v2 < 0 → K (-3) D) ∧ (¬ v2 < 0 → (v2 ≤ 255 → k_X3_keep E l D 7 (fun D1 => (0 ≤ v1 ∧ v1 < 40) ∧ ((0 ≤ v1 ∧ v1 < 40) ∧ (∀ D2, D2 = g_up D1 8 v1.toNat v2 → (K (D1 8 v1.toNat) D2))))) ∧ (¬ v2 ≤ 255 → K (-3) D))) ∧ (¬ v1 < 40 → K (-2) D))) : k_X11_spoil E l D v1 v2 K := by
  refine g_enter (by decide) (Nat.le_of_ble_eq_true rfl) ?_
  show g_N E l m_X11_spoil 4 0 [some (g_R 0), some (g_I v1), some (g_I v2), none] [] g_SH D (g_Ri g_SH K)
  refine g_use (fun ok => ?_)
  have hF := hF ok.2.1 (ok.loc (i := 1) rfl) (ok.loc (i := 2) rfl)
  refine g_iload_n dX11_spoil_0 rfl ?_
  refine g_iflt dX11_spoil_1 rfl (fun q => ?_) (fun q => ?_)
  · have hF := hF.1 q
    refine g_bipush dX11_spoil_10 ⟨by decide, by decide⟩ ?_
    exact gw_iret dX11_spoil_12 rfl hF
  · have hF := hF.2 q
    refine g_iload_n dX11_spoil_4 rfl ?_
    refine g_bipush dX11_spoil_5 ⟨by decide, by decide⟩ ?_
    refine g_clt dX11_spoil_7 rfl (fun q => ?_) (fun q => ?_)
    · have hF := hF.1 q
      refine g_iload_n dX11_spoil_13 rfl ?_
      refine g_iflt dX11_spoil_14 rfl (fun q => ?_) (fun q => ?_)
      · have hF := hF.1 q
        refine g_bipush dX11_spoil_24 ⟨by decide, by decide⟩ ?_
        exact gw_iret dX11_spoil_26 rfl hF
      · have hF := hF.2 q
        refine g_iload_n dX11_spoil_17 rfl ?_
        refine g_sipush dX11_spoil_18 ⟨by decide, by decide⟩ ?_
        refine g_cle dX11_spoil_21 rfl (fun q => ?_) (fun q => ?_)
        · have hF := hF.1 q
          refine g_aload_n dX11_spoil_27 rfl ?_
          refine g_getR dX11_spoil_28 fd_X11_43 sh_0 rfl ?_
          refine g_aload_n dX11_spoil_31 rfl ?_
          refine g_getR dX11_spoil_32 fd_X11_12 sh_0 rfl ?_
          refine g_getR dX11_spoil_35 fd_X11_119 sh_1 rfl ?_
          refine gw_cVv (b := 52) (As := [g_R 7]) (rest := []) dX11_spoil_38 mv_X11_295 sh_52 rfl (Nat.le_of_ble_eq_true rfl) (by decide) rfl hF ?_
          intro D1 hF
          refine g_aload_n dX11_spoil_41 rfl ?_
          refine g_getR dX11_spoil_42 fd_X11_12 sh_0 rfl ?_
          refine g_getR dX11_spoil_45 fd_X11_119 sh_1 rfl ?_
          refine g_getR dX11_spoil_48 fd_X11_123 sh_7 rfl ?_
          refine g_iload_n dX11_spoil_51 rfl ?_
          obtain ⟨hc, hF⟩ := hF
          refine g_iald dX11_spoil_52 sh_8 hc.1 hc.2 ?_
          refine gw_istore_n (L' := [some (g_R 0), some (g_I v1), some (g_I v2), some (g_I (D1 8 v1.toNat))]) dX11_spoil_53 (by decide) rfl ?_
          refine g_aload_n dX11_spoil_54 rfl ?_
          refine g_getR dX11_spoil_55 fd_X11_12 sh_0 rfl ?_
          refine g_getR dX11_spoil_58 fd_X11_119 sh_1 rfl ?_
          refine g_getR dX11_spoil_61 fd_X11_123 sh_7 rfl ?_
          refine g_iload_n dX11_spoil_64 rfl ?_
          refine g_iload_n dX11_spoil_65 rfl ?_
          obtain ⟨hc, hF⟩ := hF
          let D2 : g_D := g_up D1 8 v1.toNat v2
          have hF := hF D2 rfl
          refine g_iast dX11_spoil_66 sh_8 hc.1 hc.2 ?_
          refine g_iload_n dX11_spoil_67 rfl ?_
          exact gw_iret dX11_spoil_68 rfl hF
        · have hF := hF.2 q
          refine g_bipush dX11_spoil_24 ⟨by decide, by decide⟩ ?_
          exact gw_iret dX11_spoil_26 rfl hF
    · have hF := hF.2 q
      refine g_bipush dX11_spoil_10 ⟨by decide, by decide⟩ ?_
      exact gw_iret dX11_spoil_12 rfl hF
theorem dX11_step_0 : decode cX11_step 0 = .ok (.aload_n 0, 1) := by decide +kernel
theorem dX11_step_1 : decode cX11_step 1 = .ok (.invokevirtual 310, 3) := by decide +kernel
theorem dX11_step_4 : decode cX11_step 4 = .ok (.iload_n 1, 1) := by decide +kernel
theorem dX11_step_5 : decode cX11_step 5 = .ok (.ifCond .lt 23, 3) := by decide +kernel
theorem dX11_step_8 : decode cX11_step 8 = .ok (.iload_n 1, 1) := by decide +kernel
theorem dX11_step_9 : decode cX11_step 9 = .ok (.aload_n 0, 1) := by decide +kernel
theorem dX11_step_10 : decode cX11_step 10 = .ok (.getfield 77, 3) := by decide +kernel
theorem dX11_step_13 : decode cX11_step 13 = .ok (.getfield 313, 3) := by decide +kernel
theorem dX11_step_16 : decode cX11_step 16 = .ok (.if_icmp .ge 12, 3) := by decide +kernel
theorem dX11_step_19 : decode cX11_step 19 = .ok (.iload_n 2, 1) := by decide +kernel
theorem dX11_step_20 : decode cX11_step 20 = .ok (.ifCond .lt 8, 3) := by decide +kernel
theorem dX11_step_23 : decode cX11_step 23 = .ok (.iload_n 2, 1) := by decide +kernel
theorem dX11_step_24 : decode cX11_step 24 = .ok (.iconst 2, 1) := by decide +kernel
theorem dX11_step_25 : decode cX11_step 25 = .ok (.if_icmp .le 6, 3) := by decide +kernel
theorem dX11_step_28 : decode cX11_step 28 = .ok (.bipush (-2), 2) := by decide +kernel
theorem dX11_step_30 : decode cX11_step 30 = .ok (.ireturn, 1) := by decide +kernel
theorem dX11_step_31 : decode cX11_step 31 = .ok (.iload_n 2, 1) := by decide +kernel
theorem dX11_step_32 : decode cX11_step 32 = .ok (.ifCond .ne 13, 3) := by decide +kernel
theorem dX11_step_35 : decode cX11_step 35 = .ok (.aload_n 0, 1) := by decide +kernel
theorem dX11_step_36 : decode cX11_step 36 = .ok (.getfield 77, 3) := by decide +kernel
theorem dX11_step_39 : decode cX11_step 39 = .ok (.getfield 325, 3) := by decide +kernel
theorem dX11_step_42 : decode cX11_step 42 = .ok (.iload_n 1, 1) := by decide +kernel
theorem dX11_step_43 : decode cX11_step 43 = .ok (.iaload, 1) := by decide +kernel
theorem dX11_step_44 : decode cX11_step 44 = .ok (.ireturn, 1) := by decide +kernel
theorem dX11_step_45 : decode cX11_step 45 = .ok (.aload_n 0, 1) := by decide +kernel
theorem dX11_step_46 : decode cX11_step 46 = .ok (.getfield 77, 3) := by decide +kernel
theorem dX11_step_49 : decode cX11_step 49 = .ok (.getfield 328, 3) := by decide +kernel
theorem dX11_step_52 : decode cX11_step 52 = .ok (.iload_n 1, 1) := by decide +kernel
theorem dX11_step_53 : decode cX11_step 53 = .ok (.iaload, 1) := by decide +kernel
theorem dX11_step_54 : decode cX11_step 54 = .ok (.istore_n 3, 1) := by decide +kernel
theorem dX11_step_55 : decode cX11_step 55 = .ok (.iload_n 2, 1) := by decide +kernel
theorem dX11_step_56 : decode cX11_step 56 = .ok (.iconst 1, 1) := by decide +kernel
theorem dX11_step_57 : decode cX11_step 57 = .ok (.if_icmp .eq 8, 3) := by decide +kernel
theorem dX11_step_60 : decode cX11_step 60 = .ok (.iload_n 3, 1) := by decide +kernel
theorem dX11_step_61 : decode cX11_step 61 = .ok (.iconst (-1), 1) := by decide +kernel
theorem dX11_step_62 : decode cX11_step 62 = .ok (.if_icmp .ne 5, 3) := by decide +kernel
theorem dX11_step_65 : decode cX11_step 65 = .ok (.iload_n 3, 1) := by decide +kernel
theorem dX11_step_66 : decode cX11_step 66 = .ok (.ireturn, 1) := by decide +kernel
theorem dX11_step_67 : decode cX11_step 67 = .ok (.aload_n 0, 1) := by decide +kernel
theorem dX11_step_68 : decode cX11_step 68 = .ok (.getfield 77, 3) := by decide +kernel
theorem dX11_step_71 : decode cX11_step 71 = .ok (.iload_n 1, 1) := by decide +kernel
theorem dX11_step_72 : decode cX11_step 72 = .ok (.iload_n 3, 1) := by decide +kernel
theorem dX11_step_73 : decode cX11_step 73 = .ok (.invokevirtual 331, 3) := by decide +kernel
theorem dX11_step_76 : decode cX11_step 76 = .ok (.aload_n 0, 1) := by decide +kernel
theorem dX11_step_77 : decode cX11_step 77 = .ok (.getfield 77, 3) := by decide +kernel
theorem dX11_step_80 : decode cX11_step 80 = .ok (.iload_n 1, 1) := by decide +kernel
theorem dX11_step_81 : decode cX11_step 81 = .ok (.iconst 1, 1) := by decide +kernel
theorem dX11_step_82 : decode cX11_step 82 = .ok (.iadd, 1) := by decide +kernel
theorem dX11_step_83 : decode cX11_step 83 = .ok (.iload_n 3, 1) := by decide +kernel
theorem dX11_step_84 : decode cX11_step 84 = .ok (.invokevirtual 331, 3) := by decide +kernel
theorem dX11_step_87 : decode cX11_step 87 = .ok (.if_icmp .ne 7, 3) := by decide +kernel
theorem dX11_step_90 : decode cX11_step 90 = .ok (.iconst 0, 1) := by decide +kernel
theorem dX11_step_91 : decode cX11_step 91 = .ok (.goto 4, 3) := by decide +kernel
theorem dX11_step_94 : decode cX11_step 94 = .ok (.iconst 1, 1) := by decide +kernel
theorem dX11_step_95 : decode cX11_step 95 = .ok (.ireturn, 1) := by decide +kernel
abbrev k_X11_step (E : g_E) (l : Launch) (D : g_D) (v1 : Int) (v2 : Int) (K : Int → g_D → Prop) : Prop := g_Ki E l m_X11_step 6 [g_R 0, g_I v1, g_I v2] g_SH D K
abbrev n_X11_step (E : g_E) (l : Launch) (D : g_D) (pc : Nat) (L : List (Option g_V)) (K : Int → g_D → Prop) : Prop := g_N E l m_X11_step 6 pc L [] g_SH D (g_Ri g_SH K)
theorem s_X11_step {E : g_E} {l : Launch} {D : g_D} {K : Int → g_D → Prop} {v1 : Int} {v2 : Int}  (hF : g_okD D → g_r v1 → g_r v2 → k_X11_makeCourse E l D (fun D1 => (v1 < 0 → K (-2) D1) ∧ (¬ v1 < 0 → ((D1 175 4) ≤ v1 → K (-2) D1) ∧ (¬ (D1 175 4) ≤ v1 → (v2 < 0 → K (-2) D1) ∧ (¬ v2 < 0 → (v2 ≤ 2 → (¬ v2 = 0 → (0 ≤ v1 ∧ v1 < 360) ∧ ((v2 = 1 → K (D1 184 v1.toNat) D1) ∧ (¬ v2 = 1 → (¬ (D1 184 v1.toNat) = (-1) → k_X1_dueBlock E l D1 v1 (D1 184 v1.toNat) (fun x2 D2 => g_r x2 → (g_r (v1 + 1)) ∧ (k_X1_dueBlock E l D2 (v1 + 1) (D1 184 v1.toNat) (fun x3 D3 => g_r x3 → (¬ x2 = x3 → K 1 D3) ∧ (x2 = x3 → K 0 D3))))) ∧ ((D1 184 v1.toNat) = (-1) → K (D1 184 v1.toNat) D1)))) ∧ (v2 = 0 → (0 ≤ v1 ∧ v1 < 360) ∧ (K (D1 183 v1.toNat) D1))) ∧ (¬ v2 ≤ 2 → K (-2) D1)))))) : k_X11_step E l D v1 v2 K := by
  refine g_enter (by decide) (Nat.le_of_ble_eq_true rfl) ?_
  show g_N E l m_X11_step 6 0 [some (g_R 0), some (g_I v1), some (g_I v2), none] [] g_SH D (g_Ri g_SH K)
  refine g_use (fun ok => ?_)
  have hF := hF ok.2.1 (ok.loc (i := 1) rfl) (ok.loc (i := 2) rfl)
  refine g_aload_n dX11_step_0 rfl ?_
  refine gw_cVv (b := 0) (As := []) (rest := []) dX11_step_1 mv_X11_310 sh_0 rfl (Nat.le_of_ble_eq_true rfl) (by decide) rfl hF ?_
  intro D1 hF
  refine g_iload_n dX11_step_4 rfl ?_
  refine g_iflt dX11_step_5 rfl (fun q => ?_) (fun q => ?_)
  · have hF := hF.1 q
    refine g_bipush dX11_step_28 ⟨by decide, by decide⟩ ?_
    exact gw_iret dX11_step_30 rfl hF
  · have hF := hF.2 q
    refine g_iload_n dX11_step_8 rfl ?_
    refine g_aload_n dX11_step_9 rfl ?_
    refine g_getR dX11_step_10 fd_X11_77 sh_0 rfl ?_
    refine g_getI dX11_step_13 fd_X11_313 sh_175 rfl ?_
    refine g_cge dX11_step_16 rfl (fun q => ?_) (fun q => ?_)
    · have hF := hF.1 q
      refine g_bipush dX11_step_28 ⟨by decide, by decide⟩ ?_
      exact gw_iret dX11_step_30 rfl hF
    · have hF := hF.2 q
      refine g_iload_n dX11_step_19 rfl ?_
      refine g_iflt dX11_step_20 rfl (fun q => ?_) (fun q => ?_)
      · have hF := hF.1 q
        refine g_bipush dX11_step_28 ⟨by decide, by decide⟩ ?_
        exact gw_iret dX11_step_30 rfl hF
      · have hF := hF.2 q
        refine g_iload_n dX11_step_23 rfl ?_
        refine g_iconst dX11_step_24 ⟨by decide, by decide⟩ ?_
        refine g_cle dX11_step_25 rfl (fun q => ?_) (fun q => ?_)
        · have hF := hF.1 q
          refine g_iload_n dX11_step_31 rfl ?_
          refine g_ifne dX11_step_32 rfl (fun q => ?_) (fun q => ?_)
          · have hF := hF.1 q
            refine g_aload_n dX11_step_45 rfl ?_
            refine g_getR dX11_step_46 fd_X11_77 sh_0 rfl ?_
            refine g_getR dX11_step_49 fd_X11_328 sh_175 rfl ?_
            refine g_iload_n dX11_step_52 rfl ?_
            obtain ⟨hc, hF⟩ := hF
            refine g_iald dX11_step_53 sh_184 hc.1 hc.2 ?_
            refine gw_istore_n (L' := [some (g_R 0), some (g_I v1), some (g_I v2), some (g_I (D1 184 v1.toNat))]) dX11_step_54 (by decide) rfl ?_
            refine g_iload_n dX11_step_55 rfl ?_
            refine g_iconst dX11_step_56 ⟨by decide, by decide⟩ ?_
            refine g_ceq dX11_step_57 rfl (fun q => ?_) (fun q => ?_)
            · have hF := hF.1 q
              refine g_iload_n dX11_step_65 rfl ?_
              exact gw_iret dX11_step_66 rfl hF
            · have hF := hF.2 q
              refine g_iload_n dX11_step_60 rfl ?_
              refine g_iconst dX11_step_61 ⟨by decide, by decide⟩ ?_
              refine g_cne dX11_step_62 rfl (fun q => ?_) (fun q => ?_)
              · have hF := hF.1 q
                refine g_aload_n dX11_step_67 rfl ?_
                refine g_getR dX11_step_68 fd_X11_77 sh_0 rfl ?_
                refine g_iload_n dX11_step_71 rfl ?_
                refine g_iload_n dX11_step_72 rfl ?_
                refine gw_cVi (b := 175) (As := [g_I v1, g_I (D1 184 v1.toNat)]) (rest := []) dX11_step_73 mv_X11_331 sh_175 rfl (Nat.le_of_ble_eq_true rfl) (by decide) rfl hF ?_
                intro x2 D2 hx2 hF
                have hF := hF hx2
                refine g_aload_n dX11_step_76 rfl ?_
                refine g_getR dX11_step_77 fd_X11_77 sh_0 rfl ?_
                refine g_iload_n dX11_step_80 rfl ?_
                refine g_iconst dX11_step_81 ⟨by decide, by decide⟩ ?_
                obtain ⟨hc, hF⟩ := hF
                refine g_iadd dX11_step_82 hc ?_
                refine g_iload_n dX11_step_83 rfl ?_
                refine gw_cVi (b := 175) (As := [g_I (v1 + 1), g_I (D1 184 v1.toNat)]) (rest := [g_I x2]) dX11_step_84 mv_X11_331 sh_175 rfl (Nat.le_of_ble_eq_true rfl) (by decide) rfl hF ?_
                intro x3 D3 hx3 hF
                have hF := hF hx3
                refine g_cne dX11_step_87 rfl (fun q => ?_) (fun q => ?_)
                · have hF := hF.1 q
                  refine g_iconst dX11_step_94 ⟨by decide, by decide⟩ ?_
                  exact gw_iret dX11_step_95 rfl hF
                · have hF := hF.2 q
                  refine g_iconst dX11_step_90 ⟨by decide, by decide⟩ ?_
                  refine g_goto dX11_step_91 rfl ?_
                  exact gw_iret dX11_step_95 rfl hF
              · have hF := hF.2 q
                refine g_iload_n dX11_step_65 rfl ?_
                exact gw_iret dX11_step_66 rfl hF
          · have hF := hF.2 q
            refine g_aload_n dX11_step_35 rfl ?_
            refine g_getR dX11_step_36 fd_X11_77 sh_0 rfl ?_
            refine g_getR dX11_step_39 fd_X11_325 sh_175 rfl ?_
            refine g_iload_n dX11_step_42 rfl ?_
            obtain ⟨hc, hF⟩ := hF
            refine g_iald dX11_step_43 sh_183 hc.1 hc.2 ?_
            exact gw_iret dX11_step_44 rfl hF
        · have hF := hF.2 q
          refine g_bipush dX11_step_28 ⟨by decide, by decide⟩ ?_
          exact gw_iret dX11_step_30 rfl hF
theorem dX11_steps_0 : decode cX11_steps 0 = .ok (.aload_n 0, 1) := by decide +kernel
theorem dX11_steps_1 : decode cX11_steps 1 = .ok (.invokevirtual 310, 3) := by decide +kernel
theorem dX11_steps_4 : decode cX11_steps 4 = .ok (.aload_n 0, 1) := by decide +kernel
theorem dX11_steps_5 : decode cX11_steps 5 = .ok (.getfield 77, 3) := by decide +kernel
theorem dX11_steps_8 : decode cX11_steps 8 = .ok (.getfield 313, 3) := by decide +kernel
theorem dX11_steps_11 : decode cX11_steps 11 = .ok (.ireturn, 1) := by decide +kernel
abbrev k_X11_steps (E : g_E) (l : Launch) (D : g_D) (K : Int → g_D → Prop) : Prop := g_Ki E l m_X11_steps 6 [g_R 0] g_SH D K
abbrev n_X11_steps (E : g_E) (l : Launch) (D : g_D) (pc : Nat) (L : List (Option g_V)) (K : Int → g_D → Prop) : Prop := g_N E l m_X11_steps 6 pc L [] g_SH D (g_Ri g_SH K)
theorem s_X11_steps {E : g_E} {l : Launch} {D : g_D} {K : Int → g_D → Prop}   (hF : g_okD D → k_X11_makeCourse E l D (fun D1 => K (D1 175 4) D1)) : k_X11_steps E l D K := by
  refine g_enter (by decide) (Nat.le_of_ble_eq_true rfl) ?_
  show g_N E l m_X11_steps 6 0 [some (g_R 0)] [] g_SH D (g_Ri g_SH K)
  refine g_use (fun ok => ?_)
  have hF := hF ok.2.1
  refine g_aload_n dX11_steps_0 rfl ?_
  refine gw_cVv (b := 0) (As := []) (rest := []) dX11_steps_1 mv_X11_310 sh_0 rfl (Nat.le_of_ble_eq_true rfl) (by decide) rfl hF ?_
  intro D1 hF
  refine g_aload_n dX11_steps_4 rfl ?_
  refine g_getR dX11_steps_5 fd_X11_77 sh_0 rfl ?_
  refine g_getI dX11_steps_8 fd_X11_313 sh_175 rfl ?_
  exact gw_iret dX11_steps_11 rfl hF
theorem dX11_suffix_0 : decode cX11_suffix 0 = .ok (.aload_n 0, 1) := by decide +kernel
theorem dX11_suffix_1 : decode cX11_suffix 1 = .ok (.invokevirtual 145, 3) := by decide +kernel
theorem dX11_suffix_4 : decode cX11_suffix 4 = .ok (.iload_n 1, 1) := by decide +kernel
theorem dX11_suffix_5 : decode cX11_suffix 5 = .ok (.ifCond .lt 26, 3) := by decide +kernel
theorem dX11_suffix_8 : decode cX11_suffix 8 = .ok (.iload_n 1, 1) := by decide +kernel
theorem dX11_suffix_9 : decode cX11_suffix 9 = .ok (.aload_n 0, 1) := by decide +kernel
theorem dX11_suffix_10 : decode cX11_suffix 10 = .ok (.getfield 50, 3) := by decide +kernel
theorem dX11_suffix_13 : decode cX11_suffix 13 = .ok (.getfield 148, 3) := by decide +kernel
theorem dX11_suffix_16 : decode cX11_suffix 16 = .ok (.if_icmp .ge 15, 3) := by decide +kernel
theorem dX11_suffix_19 : decode cX11_suffix 19 = .ok (.aload_n 0, 1) := by decide +kernel
theorem dX11_suffix_20 : decode cX11_suffix 20 = .ok (.getfield 50, 3) := by decide +kernel
theorem dX11_suffix_23 : decode cX11_suffix 23 = .ok (.getfield 149, 3) := by decide +kernel
theorem dX11_suffix_26 : decode cX11_suffix 26 = .ok (.iload_n 1, 1) := by decide +kernel
theorem dX11_suffix_27 : decode cX11_suffix 27 = .ok (.iaload, 1) := by decide +kernel
theorem dX11_suffix_28 : decode cX11_suffix 28 = .ok (.goto 4, 3) := by decide +kernel
theorem dX11_suffix_31 : decode cX11_suffix 31 = .ok (.iconst (-1), 1) := by decide +kernel
theorem dX11_suffix_32 : decode cX11_suffix 32 = .ok (.ireturn, 1) := by decide +kernel
abbrev k_X11_suffix (E : g_E) (l : Launch) (D : g_D) (v1 : Int) (K : Int → g_D → Prop) : Prop := g_Ki E l m_X11_suffix 6 [g_R 0, g_I v1] g_SH D K
abbrev n_X11_suffix (E : g_E) (l : Launch) (D : g_D) (pc : Nat) (L : List (Option g_V)) (K : Int → g_D → Prop) : Prop := g_N E l m_X11_suffix 6 pc L [] g_SH D (g_Ri g_SH K)
theorem s_X11_suffix {E : g_E} {l : Launch} {D : g_D} {K : Int → g_D → Prop} {v1 : Int}  (hF : g_okD D → g_r v1 → k_X11_sortSuffixes E l D (fun D1 => (v1 < 0 → K (-1) D1) ∧ (¬ v1 < 0 → ((D1 134 2) ≤ v1 → K (-1) D1) ∧ (¬ (D1 134 2) ≤ v1 → (0 ≤ v1 ∧ v1 < 40) ∧ (K (D1 135 v1.toNat) D1))))) : k_X11_suffix E l D v1 K := by
  refine g_enter (by decide) (Nat.le_of_ble_eq_true rfl) ?_
  show g_N E l m_X11_suffix 6 0 [some (g_R 0), some (g_I v1)] [] g_SH D (g_Ri g_SH K)
  refine g_use (fun ok => ?_)
  have hF := hF ok.2.1 (ok.loc (i := 1) rfl)
  refine g_aload_n dX11_suffix_0 rfl ?_
  refine gw_cVv (b := 0) (As := []) (rest := []) dX11_suffix_1 mv_X11_145 sh_0 rfl (Nat.le_of_ble_eq_true rfl) (by decide) rfl hF ?_
  intro D1 hF
  refine g_iload_n dX11_suffix_4 rfl ?_
  refine g_iflt dX11_suffix_5 rfl (fun q => ?_) (fun q => ?_)
  · have hF := hF.1 q
    refine g_iconst dX11_suffix_31 ⟨by decide, by decide⟩ ?_
    exact gw_iret dX11_suffix_32 rfl hF
  · have hF := hF.2 q
    refine g_iload_n dX11_suffix_8 rfl ?_
    refine g_aload_n dX11_suffix_9 rfl ?_
    refine g_getR dX11_suffix_10 fd_X11_50 sh_0 rfl ?_
    refine g_getI dX11_suffix_13 fd_X11_148 sh_134 rfl ?_
    refine g_cge dX11_suffix_16 rfl (fun q => ?_) (fun q => ?_)
    · have hF := hF.1 q
      refine g_iconst dX11_suffix_31 ⟨by decide, by decide⟩ ?_
      exact gw_iret dX11_suffix_32 rfl hF
    · have hF := hF.2 q
      refine g_aload_n dX11_suffix_19 rfl ?_
      refine g_getR dX11_suffix_20 fd_X11_50 sh_0 rfl ?_
      refine g_getR dX11_suffix_23 fd_X11_149 sh_134 rfl ?_
      refine g_iload_n dX11_suffix_26 rfl ?_
      obtain ⟨hc, hF⟩ := hF
      refine g_iald dX11_suffix_27 sh_135 hc.1 hc.2 ?_
      refine g_goto dX11_suffix_28 rfl ?_
      exact gw_iret dX11_suffix_32 rfl hF
theorem dX11_take_0 : decode cX11_take 0 = .ok (.aload_n 0, 1) := by decide +kernel
theorem dX11_take_1 : decode cX11_take 1 = .ok (.getfield 12, 3) := by decide +kernel
theorem dX11_take_4 : decode cX11_take 4 = .ok (.getfield 119, 3) := by decide +kernel
theorem dX11_take_7 : decode cX11_take 7 = .ok (.getfield 303, 3) := by decide +kernel
theorem dX11_take_10 : decode cX11_take 10 = .ok (.ifCond .ne 6, 3) := by decide +kernel
theorem dX11_take_13 : decode cX11_take 13 = .ok (.bipush (-5), 2) := by decide +kernel
theorem dX11_take_15 : decode cX11_take 15 = .ok (.ireturn, 1) := by decide +kernel
theorem dX11_take_16 : decode cX11_take 16 = .ok (.aload_n 0, 1) := by decide +kernel
theorem dX11_take_17 : decode cX11_take 17 = .ok (.invokevirtual 175, 3) := by decide +kernel
theorem dX11_take_20 : decode cX11_take 20 = .ok (.aload_n 0, 1) := by decide +kernel
theorem dX11_take_21 : decode cX11_take 21 = .ok (.aload_n 0, 1) := by decide +kernel
theorem dX11_take_22 : decode cX11_take 22 = .ok (.getfield 64, 3) := by decide +kernel
theorem dX11_take_25 : decode cX11_take 25 = .ok (.getfield 273, 3) := by decide +kernel
theorem dX11_take_28 : decode cX11_take 28 = .ok (.aload_n 0, 1) := by decide +kernel
theorem dX11_take_29 : decode cX11_take 29 = .ok (.getfield 64, 3) := by decide +kernel
theorem dX11_take_32 : decode cX11_take 32 = .ok (.getfield 273, 3) := by decide +kernel
theorem dX11_take_35 : decode cX11_take 35 = .ok (.getfield 98, 3) := by decide +kernel
theorem dX11_take_38 : decode cX11_take 38 = .ok (.invokevirtual 306, 3) := by decide +kernel
theorem dX11_take_41 : decode cX11_take 41 = .ok (.aload_n 0, 1) := by decide +kernel
theorem dX11_take_42 : decode cX11_take 42 = .ok (.invokevirtual 310, 3) := by decide +kernel
theorem dX11_take_45 : decode cX11_take 45 = .ok (.aload_n 0, 1) := by decide +kernel
theorem dX11_take_46 : decode cX11_take 46 = .ok (.getfield 77, 3) := by decide +kernel
theorem dX11_take_49 : decode cX11_take 49 = .ok (.getfield 313, 3) := by decide +kernel
theorem dX11_take_52 : decode cX11_take 52 = .ok (.ireturn, 1) := by decide +kernel
abbrev k_X11_take (E : g_E) (l : Launch) (D : g_D) (K : Int → g_D → Prop) : Prop := g_Ki E l m_X11_take 6 [g_R 0] g_SH D K
abbrev n_X11_take (E : g_E) (l : Launch) (D : g_D) (pc : Nat) (L : List (Option g_V)) (K : Int → g_D → Prop) : Prop := g_N E l m_X11_take 6 pc L [] g_SH D (g_Ri g_SH K)
theorem s_X11_take {E : g_E} {l : Launch} {D : g_D} {K : Int → g_D → Prop}   (hF : g_okD D → (¬ (D 7 9) = 0 → k_X11_makePlan E l D (fun D1 => k_X11_takePatch E l D1 154 (D1 154 1) (fun D2 => k_X11_makeCourse E l D2 (fun D3 => K (D3 175 4) D3)))) ∧ ((D 7 9) = 0 → K (-5) D)) : k_X11_take E l D K := by
  refine g_enter (by decide) (Nat.le_of_ble_eq_true rfl) ?_
  show g_N E l m_X11_take 6 0 [some (g_R 0)] [] g_SH D (g_Ri g_SH K)
  refine g_use (fun ok => ?_)
  have hF := hF ok.2.1
  refine g_aload_n dX11_take_0 rfl ?_
  refine g_getR dX11_take_1 fd_X11_12 sh_0 rfl ?_
  refine g_getR dX11_take_4 fd_X11_119 sh_1 rfl ?_
  refine g_getI dX11_take_7 fd_X11_303 sh_7 rfl ?_
  refine g_ifne dX11_take_10 rfl (fun q => ?_) (fun q => ?_)
  · have hF := hF.1 q
    refine g_aload_n dX11_take_16 rfl ?_
    refine gw_cVv (b := 0) (As := []) (rest := []) dX11_take_17 mv_X11_175 sh_0 rfl (Nat.le_of_ble_eq_true rfl) (by decide) rfl hF ?_
    intro D1 hF
    refine g_aload_n dX11_take_20 rfl ?_
    refine g_aload_n dX11_take_21 rfl ?_
    refine g_getR dX11_take_22 fd_X11_64 sh_0 rfl ?_
    refine g_getR dX11_take_25 fd_X11_273 sh_149 rfl ?_
    refine g_aload_n dX11_take_28 rfl ?_
    refine g_getR dX11_take_29 fd_X11_64 sh_0 rfl ?_
    refine g_getR dX11_take_32 fd_X11_273 sh_149 rfl ?_
    refine g_getI dX11_take_35 fd_X11_98 sh_154 rfl ?_
    refine gw_cVv (b := 0) (As := [g_R 154, g_I (D1 154 1)]) (rest := []) dX11_take_38 mv_X11_306 sh_0 rfl (Nat.le_of_ble_eq_true rfl) (by decide) rfl hF ?_
    intro D2 hF
    refine g_aload_n dX11_take_41 rfl ?_
    refine gw_cVv (b := 0) (As := []) (rest := []) dX11_take_42 mv_X11_310 sh_0 rfl (Nat.le_of_ble_eq_true rfl) (by decide) rfl hF ?_
    intro D3 hF
    refine g_aload_n dX11_take_45 rfl ?_
    refine g_getR dX11_take_46 fd_X11_77 sh_0 rfl ?_
    refine g_getI dX11_take_49 fd_X11_313 sh_175 rfl ?_
    exact gw_iret dX11_take_52 rfl hF
  · have hF := hF.2 q
    refine g_bipush dX11_take_13 ⟨by decide, by decide⟩ ?_
    exact gw_iret dX11_take_15 rfl hF
theorem dX11_terms_0 : decode cX11_terms 0 = .ok (.iload_n 1, 1) := by decide +kernel
theorem dX11_terms_1 : decode cX11_terms 1 = .ok (.ifCond .lt 8, 3) := by decide +kernel
theorem dX11_terms_4 : decode cX11_terms 4 = .ok (.iload_n 1, 1) := by decide +kernel
theorem dX11_terms_5 : decode cX11_terms 5 = .ok (.iconst 4, 1) := by decide +kernel
theorem dX11_terms_6 : decode cX11_terms 6 = .ok (.if_icmp .lt 6, 3) := by decide +kernel
theorem dX11_terms_9 : decode cX11_terms 9 = .ok (.bipush (-2), 2) := by decide +kernel
theorem dX11_terms_11 : decode cX11_terms 11 = .ok (.ireturn, 1) := by decide +kernel
theorem dX11_terms_12 : decode cX11_terms 12 = .ok (.iload_n 2, 1) := by decide +kernel
theorem dX11_terms_13 : decode cX11_terms 13 = .ok (.getstatic 136, 3) := by decide +kernel
theorem dX11_terms_16 : decode cX11_terms 16 = .ok (.iload_n 1, 1) := by decide +kernel
theorem dX11_terms_17 : decode cX11_terms 17 = .ok (.iaload, 1) := by decide +kernel
theorem dX11_terms_18 : decode cX11_terms 18 = .ok (.if_icmp .lt 12, 3) := by decide +kernel
theorem dX11_terms_21 : decode cX11_terms 21 = .ok (.iload_n 2, 1) := by decide +kernel
theorem dX11_terms_22 : decode cX11_terms 22 = .ok (.getstatic 139, 3) := by decide +kernel
theorem dX11_terms_25 : decode cX11_terms 25 = .ok (.iload_n 1, 1) := by decide +kernel
theorem dX11_terms_26 : decode cX11_terms 26 = .ok (.iaload, 1) := by decide +kernel
theorem dX11_terms_27 : decode cX11_terms 27 = .ok (.if_icmp .le 6, 3) := by decide +kernel
theorem dX11_terms_30 : decode cX11_terms 30 = .ok (.bipush (-3), 2) := by decide +kernel
theorem dX11_terms_32 : decode cX11_terms 32 = .ok (.ireturn, 1) := by decide +kernel
theorem dX11_terms_33 : decode cX11_terms 33 = .ok (.aload_n 0, 1) := by decide +kernel
theorem dX11_terms_34 : decode cX11_terms 34 = .ok (.getfield 12, 3) := by decide +kernel
theorem dX11_terms_37 : decode cX11_terms 37 = .ok (.getfield 142, 3) := by decide +kernel
theorem dX11_terms_40 : decode cX11_terms 40 = .ok (.iload_n 1, 1) := by decide +kernel
theorem dX11_terms_41 : decode cX11_terms 41 = .ok (.iaload, 1) := by decide +kernel
theorem dX11_terms_42 : decode cX11_terms 42 = .ok (.istore_n 3, 1) := by decide +kernel
theorem dX11_terms_43 : decode cX11_terms 43 = .ok (.aload_n 0, 1) := by decide +kernel
theorem dX11_terms_44 : decode cX11_terms 44 = .ok (.getfield 12, 3) := by decide +kernel
theorem dX11_terms_47 : decode cX11_terms 47 = .ok (.getfield 142, 3) := by decide +kernel
theorem dX11_terms_50 : decode cX11_terms 50 = .ok (.iload_n 1, 1) := by decide +kernel
theorem dX11_terms_51 : decode cX11_terms 51 = .ok (.iload_n 2, 1) := by decide +kernel
theorem dX11_terms_52 : decode cX11_terms 52 = .ok (.iastore, 1) := by decide +kernel
theorem dX11_terms_53 : decode cX11_terms 53 = .ok (.aload_n 0, 1) := by decide +kernel
theorem dX11_terms_54 : decode cX11_terms 54 = .ok (.iconst 1, 1) := by decide +kernel
theorem dX11_terms_55 : decode cX11_terms 55 = .ok (.putfield 92, 3) := by decide +kernel
theorem dX11_terms_58 : decode cX11_terms 58 = .ok (.iload_n 3, 1) := by decide +kernel
theorem dX11_terms_59 : decode cX11_terms 59 = .ok (.ireturn, 1) := by decide +kernel
abbrev k_X11_terms (E : g_E) (l : Launch) (D : g_D) (v1 : Int) (v2 : Int) (K : Int → g_D → Prop) : Prop := g_Ki E l m_X11_terms 0 [g_R 0, g_I v1, g_I v2] g_SH D K
abbrev n_X11_terms (E : g_E) (l : Launch) (D : g_D) (pc : Nat) (L : List (Option g_V)) (K : Int → g_D → Prop) : Prop := g_N E l m_X11_terms 0 pc L [] g_SH D (g_Ri g_SH K)
theorem s_X11_terms {E : g_E} {l : Launch} {D : g_D} {K : Int → g_D → Prop} {v1 : Int} {v2 : Int}  (hF : g_okD D → g_r v1 → g_r v2 → (v1 < 0 → K (-2) D) ∧ (¬ v1 < 0 → (v1 < 4 → (0 ≤ (v1 : Int) ∧ (v1 : Int) < g_fl E 2 ∧ g_r (g_fx E 2 v1.toNat)) ∧ ((v2 < (g_fx E 2 v1.toNat) → K (-3) D) ∧ (¬ v2 < (g_fx E 2 v1.toNat) → (0 ≤ (v1 : Int) ∧ (v1 : Int) < g_fl E 3 ∧ g_r (g_fx E 3 v1.toNat)) ∧ ((v2 ≤ (g_fx E 3 v1.toNat) → (0 ≤ v1 ∧ v1 < 4) ∧ ((0 ≤ v1 ∧ v1 < 4) ∧ (∀ D1, D1 = g_up D 6 v1.toNat v2 → (∀ D2, D2 = g_up D1 0 14 1 → (K (D 6 v1.toNat) D2))))) ∧ (¬ v2 ≤ (g_fx E 3 v1.toNat) → K (-3) D))))) ∧ (¬ v1 < 4 → K (-2) D))) : k_X11_terms E l D v1 v2 K := by
  refine g_enter (by decide) (Nat.le_of_ble_eq_true rfl) ?_
  show g_N E l m_X11_terms 0 0 [some (g_R 0), some (g_I v1), some (g_I v2), none] [] g_SH D (g_Ri g_SH K)
  refine g_use (fun ok => ?_)
  have hF := hF ok.2.1 (ok.loc (i := 1) rfl) (ok.loc (i := 2) rfl)
  refine g_iload_n dX11_terms_0 rfl ?_
  refine g_iflt dX11_terms_1 rfl (fun q => ?_) (fun q => ?_)
  · have hF := hF.1 q
    refine g_bipush dX11_terms_9 ⟨by decide, by decide⟩ ?_
    exact gw_iret dX11_terms_11 rfl hF
  · have hF := hF.2 q
    refine g_iload_n dX11_terms_4 rfl ?_
    refine g_iconst dX11_terms_5 ⟨by decide, by decide⟩ ?_
    refine g_clt dX11_terms_6 rfl (fun q => ?_) (fun q => ?_)
    · have hF := hF.1 q
      refine g_iload_n dX11_terms_12 rfl ?_
      refine g_gets2 dX11_terms_13 gs_X11_136 ?_
      refine g_iload_n dX11_terms_16 rfl ?_
      obtain ⟨hc, hF⟩ := hF
      refine g_ialdF dX11_terms_17 (by decide) hc.1 hc.2.1 hc.2.2 ?_
      refine g_clt dX11_terms_18 rfl (fun q => ?_) (fun q => ?_)
      · have hF := hF.1 q
        refine g_bipush dX11_terms_30 ⟨by decide, by decide⟩ ?_
        exact gw_iret dX11_terms_32 rfl hF
      · have hF := hF.2 q
        refine g_iload_n dX11_terms_21 rfl ?_
        refine g_gets3 dX11_terms_22 gs_X11_139 ?_
        refine g_iload_n dX11_terms_25 rfl ?_
        obtain ⟨hc, hF⟩ := hF
        refine g_ialdF dX11_terms_26 (by decide) hc.1 hc.2.1 hc.2.2 ?_
        refine g_cle dX11_terms_27 rfl (fun q => ?_) (fun q => ?_)
        · have hF := hF.1 q
          refine g_aload_n dX11_terms_33 rfl ?_
          refine g_getR dX11_terms_34 fd_X11_12 sh_0 rfl ?_
          refine g_getR dX11_terms_37 fd_X11_142 sh_1 rfl ?_
          refine g_iload_n dX11_terms_40 rfl ?_
          obtain ⟨hc, hF⟩ := hF
          refine g_iald dX11_terms_41 sh_6 hc.1 hc.2 ?_
          refine gw_istore_n (L' := [some (g_R 0), some (g_I v1), some (g_I v2), some (g_I (D 6 v1.toNat))]) dX11_terms_42 (by decide) rfl ?_
          refine g_aload_n dX11_terms_43 rfl ?_
          refine g_getR dX11_terms_44 fd_X11_12 sh_0 rfl ?_
          refine g_getR dX11_terms_47 fd_X11_142 sh_1 rfl ?_
          refine g_iload_n dX11_terms_50 rfl ?_
          refine g_iload_n dX11_terms_51 rfl ?_
          obtain ⟨hc, hF⟩ := hF
          let D1 : g_D := g_up D 6 v1.toNat v2
          have hF := hF D1 rfl
          refine g_iast dX11_terms_52 sh_6 hc.1 hc.2 ?_
          refine g_aload_n dX11_terms_53 rfl ?_
          refine g_iconst dX11_terms_54 ⟨by decide, by decide⟩ ?_
          let D2 : g_D := g_up D1 0 14 1
          have hF := hF D2 rfl
          refine g_put dX11_terms_55 fd_X11_92 (g_ftyZ (C := RX11) (T := TX11) (N := 16) rfl rfl (by decide +kernel) (by decide)) sh_0 rfl ?_
          refine g_iload_n dX11_terms_58 rfl ?_
          exact gw_iret dX11_terms_59 rfl hF
        · have hF := hF.2 q
          refine g_bipush dX11_terms_30 ⟨by decide, by decide⟩ ?_
          exact gw_iret dX11_terms_32 rfl hF
    · have hF := hF.2 q
      refine g_bipush dX11_terms_9 ⟨by decide, by decide⟩ ?_
      exact gw_iret dX11_terms_11 rfl hF
theorem dX11_turned_0 : decode cX11_turned 0 = .ok (.aload_n 0, 1) := by decide +kernel
theorem dX11_turned_1 : decode cX11_turned 1 = .ok (.getfield 68, 3) := by decide +kernel
theorem dX11_turned_4 : decode cX11_turned 4 = .ok (.aload_n 0, 1) := by decide +kernel
theorem dX11_turned_5 : decode cX11_turned 5 = .ok (.getfield 12, 3) := by decide +kernel
theorem dX11_turned_8 : decode cX11_turned 8 = .ok (.getfield 112, 3) := by decide +kernel
theorem dX11_turned_11 : decode cX11_turned 11 = .ok (.aload_n 0, 1) := by decide +kernel
theorem dX11_turned_12 : decode cX11_turned 12 = .ok (.getfield 12, 3) := by decide +kernel
theorem dX11_turned_15 : decode cX11_turned 15 = .ok (.getfield 105, 3) := by decide +kernel
theorem dX11_turned_18 : decode cX11_turned 18 = .ok (.aload_n 0, 1) := by decide +kernel
theorem dX11_turned_19 : decode cX11_turned 19 = .ok (.getfield 12, 3) := by decide +kernel
theorem dX11_turned_22 : decode cX11_turned 22 = .ok (.getfield 142, 3) := by decide +kernel
theorem dX11_turned_25 : decode cX11_turned 25 = .ok (.iconst 0, 1) := by decide +kernel
theorem dX11_turned_26 : decode cX11_turned 26 = .ok (.iaload, 1) := by decide +kernel
theorem dX11_turned_27 : decode cX11_turned 27 = .ok (.aload_n 0, 1) := by decide +kernel
theorem dX11_turned_28 : decode cX11_turned 28 = .ok (.getfield 12, 3) := by decide +kernel
theorem dX11_turned_31 : decode cX11_turned 31 = .ok (.getfield 142, 3) := by decide +kernel
theorem dX11_turned_34 : decode cX11_turned 34 = .ok (.iconst 1, 1) := by decide +kernel
theorem dX11_turned_35 : decode cX11_turned 35 = .ok (.iaload, 1) := by decide +kernel
theorem dX11_turned_36 : decode cX11_turned 36 = .ok (.invokevirtual 280, 3) := by decide +kernel
theorem dX11_turned_39 : decode cX11_turned 39 = .ok (.aload_n 0, 1) := by decide +kernel
theorem dX11_turned_40 : decode cX11_turned 40 = .ok (.getfield 71, 3) := by decide +kernel
theorem dX11_turned_43 : decode cX11_turned 43 = .ok (.aload_n 0, 1) := by decide +kernel
theorem dX11_turned_44 : decode cX11_turned 44 = .ok (.getfield 68, 3) := by decide +kernel
theorem dX11_turned_47 : decode cX11_turned 47 = .ok (.aload_n 0, 1) := by decide +kernel
theorem dX11_turned_48 : decode cX11_turned 48 = .ok (.getfield 12, 3) := by decide +kernel
theorem dX11_turned_51 : decode cX11_turned 51 = .ok (.getfield 142, 3) := by decide +kernel
theorem dX11_turned_54 : decode cX11_turned 54 = .ok (.iconst 2, 1) := by decide +kernel
theorem dX11_turned_55 : decode cX11_turned 55 = .ok (.iaload, 1) := by decide +kernel
theorem dX11_turned_56 : decode cX11_turned 56 = .ok (.aload_n 0, 1) := by decide +kernel
theorem dX11_turned_57 : decode cX11_turned 57 = .ok (.getfield 12, 3) := by decide +kernel
theorem dX11_turned_60 : decode cX11_turned 60 = .ok (.getfield 142, 3) := by decide +kernel
theorem dX11_turned_63 : decode cX11_turned 63 = .ok (.iconst 3, 1) := by decide +kernel
theorem dX11_turned_64 : decode cX11_turned 64 = .ok (.iaload, 1) := by decide +kernel
theorem dX11_turned_65 : decode cX11_turned 65 = .ok (.invokevirtual 276, 3) := by decide +kernel
theorem dX11_turned_68 : decode cX11_turned 68 = .ok (.aload_n 0, 1) := by decide +kernel
theorem dX11_turned_69 : decode cX11_turned 69 = .ok (.getfield 71, 3) := by decide +kernel
theorem dX11_turned_72 : decode cX11_turned 72 = .ok (.getfield 270, 3) := by decide +kernel
theorem dX11_turned_75 : decode cX11_turned 75 = .ok (.ireturn, 1) := by decide +kernel
abbrev k_X11_turned (E : g_E) (l : Launch) (D : g_D) (K : Int → g_D → Prop) : Prop := g_Ki E l m_X11_turned 5 [g_R 0] g_SH D K
abbrev n_X11_turned (E : g_E) (l : Launch) (D : g_D) (pc : Nat) (L : List (Option g_V)) (K : Int → g_D → Prop) : Prop := g_N E l m_X11_turned 5 pc L [] g_SH D (g_Ri g_SH K)
theorem s_X11_turned {E : g_E} {l : Launch} {D : g_D} {K : Int → g_D → Prop}   (hF : g_okD D → k_X7_build E l D 156 4 2 (D 6 0) (D 6 1) (fun D1 => k_X4_build E l D1 168 156 (D1 6 2) (D1 6 3) (fun D2 => K (D2 168 6) D2))) : k_X11_turned E l D K := by
  refine g_enter (by decide) (Nat.le_of_ble_eq_true rfl) ?_
  show g_N E l m_X11_turned 5 0 [some (g_R 0)] [] g_SH D (g_Ri g_SH K)
  refine g_use (fun ok => ?_)
  have hF := hF ok.2.1
  refine g_aload_n dX11_turned_0 rfl ?_
  refine g_getR dX11_turned_1 fd_X11_68 sh_0 rfl ?_
  refine g_aload_n dX11_turned_4 rfl ?_
  refine g_getR dX11_turned_5 fd_X11_12 sh_0 rfl ?_
  refine g_getR dX11_turned_8 fd_X11_112 sh_1 rfl ?_
  refine g_aload_n dX11_turned_11 rfl ?_
  refine g_getR dX11_turned_12 fd_X11_12 sh_0 rfl ?_
  refine g_getR dX11_turned_15 fd_X11_105 sh_1 rfl ?_
  refine g_aload_n dX11_turned_18 rfl ?_
  refine g_getR dX11_turned_19 fd_X11_12 sh_0 rfl ?_
  refine g_getR dX11_turned_22 fd_X11_142 sh_1 rfl ?_
  refine g_iconst dX11_turned_25 ⟨by decide, by decide⟩ ?_
  refine g_iald dX11_turned_26 sh_6 (by decide) (by decide) ?_
  refine g_aload_n dX11_turned_27 rfl ?_
  refine g_getR dX11_turned_28 fd_X11_12 sh_0 rfl ?_
  refine g_getR dX11_turned_31 fd_X11_142 sh_1 rfl ?_
  refine g_iconst dX11_turned_34 ⟨by decide, by decide⟩ ?_
  refine g_iald dX11_turned_35 sh_6 (by decide) (by decide) ?_
  refine gw_cVv (b := 156) (As := [g_R 4, g_R 2, g_I (D 6 0), g_I (D 6 1)]) (rest := []) dX11_turned_36 mv_X11_280 sh_156 rfl (Nat.le_of_ble_eq_true rfl) (by decide) rfl hF ?_
  intro D1 hF
  refine g_aload_n dX11_turned_39 rfl ?_
  refine g_getR dX11_turned_40 fd_X11_71 sh_0 rfl ?_
  refine g_aload_n dX11_turned_43 rfl ?_
  refine g_getR dX11_turned_44 fd_X11_68 sh_0 rfl ?_
  refine g_aload_n dX11_turned_47 rfl ?_
  refine g_getR dX11_turned_48 fd_X11_12 sh_0 rfl ?_
  refine g_getR dX11_turned_51 fd_X11_142 sh_1 rfl ?_
  refine g_iconst dX11_turned_54 ⟨by decide, by decide⟩ ?_
  refine g_iald dX11_turned_55 sh_6 (by decide) (by decide) ?_
  refine g_aload_n dX11_turned_56 rfl ?_
  refine g_getR dX11_turned_57 fd_X11_12 sh_0 rfl ?_
  refine g_getR dX11_turned_60 fd_X11_142 sh_1 rfl ?_
  refine g_iconst dX11_turned_63 ⟨by decide, by decide⟩ ?_
  refine g_iald dX11_turned_64 sh_6 (by decide) (by decide) ?_
  refine gw_cVv (b := 168) (As := [g_R 156, g_I (D1 6 2), g_I (D1 6 3)]) (rest := []) dX11_turned_65 mv_X11_276 sh_168 rfl (Nat.le_of_ble_eq_true rfl) (by decide) rfl hF ?_
  intro D2 hF
  refine g_aload_n dX11_turned_68 rfl ?_
  refine g_getR dX11_turned_69 fd_X11_71 sh_0 rfl ?_
  refine g_getI dX11_turned_72 fd_X11_270 sh_168 rfl ?_
  exact gw_iret dX11_turned_75 rfl hF
theorem dX11_twice_0 : decode cX11_twice 0 = .ok (.iload_n 1, 1) := by decide +kernel
theorem dX11_twice_1 : decode cX11_twice 1 = .ok (.ifCond .lt 17, 3) := by decide +kernel
theorem dX11_twice_4 : decode cX11_twice 4 = .ok (.iload_n 1, 1) := by decide +kernel
theorem dX11_twice_5 : decode cX11_twice 5 = .ok (.iconst 4, 1) := by decide +kernel
theorem dX11_twice_6 : decode cX11_twice 6 = .ok (.if_icmp .ge 12, 3) := by decide +kernel
theorem dX11_twice_9 : decode cX11_twice 9 = .ok (.iload_n 2, 1) := by decide +kernel
theorem dX11_twice_10 : decode cX11_twice 10 = .ok (.ifCond .lt 8, 3) := by decide +kernel
theorem dX11_twice_13 : decode cX11_twice 13 = .ok (.iload_n 2, 1) := by decide +kernel
theorem dX11_twice_14 : decode cX11_twice 14 = .ok (.iconst 4, 1) := by decide +kernel
theorem dX11_twice_15 : decode cX11_twice 15 = .ok (.if_icmp .lt 6, 3) := by decide +kernel
theorem dX11_twice_18 : decode cX11_twice 18 = .ok (.bipush (-3), 2) := by decide +kernel
theorem dX11_twice_20 : decode cX11_twice 20 = .ok (.ireturn, 1) := by decide +kernel
theorem dX11_twice_21 : decode cX11_twice 21 = .ok (.aload_n 0, 1) := by decide +kernel
theorem dX11_twice_22 : decode cX11_twice 22 = .ok (.invokevirtual 310, 3) := by decide +kernel
theorem dX11_twice_25 : decode cX11_twice 25 = .ok (.aload_n 0, 1) := by decide +kernel
theorem dX11_twice_26 : decode cX11_twice 26 = .ok (.getfield 84, 3) := by decide +kernel
theorem dX11_twice_29 : decode cX11_twice 29 = .ok (.aload_n 0, 1) := by decide +kernel
theorem dX11_twice_30 : decode cX11_twice 30 = .ok (.getfield 77, 3) := by decide +kernel
theorem dX11_twice_33 : decode cX11_twice 33 = .ok (.iload_n 1, 1) := by decide +kernel
theorem dX11_twice_34 : decode cX11_twice 34 = .ok (.iload_n 2, 1) := by decide +kernel
theorem dX11_twice_35 : decode cX11_twice 35 = .ok (.invokevirtual 399, 3) := by decide +kernel
theorem dX11_twice_38 : decode cX11_twice 38 = .ok (.ireturn, 1) := by decide +kernel
abbrev k_X11_twice (E : g_E) (l : Launch) (D : g_D) (v1 : Int) (v2 : Int) (K : Int → g_D → Prop) : Prop := g_Ki E l m_X11_twice 7 [g_R 0, g_I v1, g_I v2] g_SH D K
abbrev n_X11_twice (E : g_E) (l : Launch) (D : g_D) (pc : Nat) (L : List (Option g_V)) (K : Int → g_D → Prop) : Prop := g_N E l m_X11_twice 7 pc L [] g_SH D (g_Ri g_SH K)
theorem s_X11_twice {E : g_E} {l : Launch} {D : g_D} {K : Int → g_D → Prop} {v1 : Int} {v2 : Int}  (hF : g_okD D → g_r v1 → g_r v2 → (v1 < 0 → K (-3) D) ∧ (¬ v1 < 0 → (4 ≤ v1 → K (-3) D) ∧ (¬ 4 ≤ v1 → (v2 < 0 → K (-3) D) ∧ (¬ v2 < 0 → (v2 < 4 → k_X11_makeCourse E l D (fun D1 => k_X10_survivedTwice E l D1 v1 v2 (fun x2 D2 => g_r x2 → K x2 D2))) ∧ (¬ v2 < 4 → K (-3) D))))) : k_X11_twice E l D v1 v2 K := by
  refine g_enter (by decide) (Nat.le_of_ble_eq_true rfl) ?_
  show g_N E l m_X11_twice 7 0 [some (g_R 0), some (g_I v1), some (g_I v2)] [] g_SH D (g_Ri g_SH K)
  refine g_use (fun ok => ?_)
  have hF := hF ok.2.1 (ok.loc (i := 1) rfl) (ok.loc (i := 2) rfl)
  refine g_iload_n dX11_twice_0 rfl ?_
  refine g_iflt dX11_twice_1 rfl (fun q => ?_) (fun q => ?_)
  · have hF := hF.1 q
    refine g_bipush dX11_twice_18 ⟨by decide, by decide⟩ ?_
    exact gw_iret dX11_twice_20 rfl hF
  · have hF := hF.2 q
    refine g_iload_n dX11_twice_4 rfl ?_
    refine g_iconst dX11_twice_5 ⟨by decide, by decide⟩ ?_
    refine g_cge dX11_twice_6 rfl (fun q => ?_) (fun q => ?_)
    · have hF := hF.1 q
      refine g_bipush dX11_twice_18 ⟨by decide, by decide⟩ ?_
      exact gw_iret dX11_twice_20 rfl hF
    · have hF := hF.2 q
      refine g_iload_n dX11_twice_9 rfl ?_
      refine g_iflt dX11_twice_10 rfl (fun q => ?_) (fun q => ?_)
      · have hF := hF.1 q
        refine g_bipush dX11_twice_18 ⟨by decide, by decide⟩ ?_
        exact gw_iret dX11_twice_20 rfl hF
      · have hF := hF.2 q
        refine g_iload_n dX11_twice_13 rfl ?_
        refine g_iconst dX11_twice_14 ⟨by decide, by decide⟩ ?_
        refine g_clt dX11_twice_15 rfl (fun q => ?_) (fun q => ?_)
        · have hF := hF.1 q
          refine g_aload_n dX11_twice_21 rfl ?_
          refine gw_cVv (b := 0) (As := []) (rest := []) dX11_twice_22 mv_X11_310 sh_0 rfl (Nat.le_of_ble_eq_true rfl) (by decide) rfl hF ?_
          intro D1 hF
          refine g_aload_n dX11_twice_25 rfl ?_
          refine g_getR dX11_twice_26 fd_X11_84 sh_0 rfl ?_
          refine g_aload_n dX11_twice_29 rfl ?_
          refine g_getR dX11_twice_30 fd_X11_77 sh_0 rfl ?_
          refine g_iload_n dX11_twice_33 rfl ?_
          refine g_iload_n dX11_twice_34 rfl ?_
          refine gw_cVi (b := 198) (As := [g_R 175, g_I v1, g_I v2]) (rest := []) dX11_twice_35 mv_X11_399 sh_198 rfl (Nat.le_of_ble_eq_true rfl) (by decide) rfl hF ?_
          intro x2 D2 hx2 hF
          have hF := hF hx2
          exact gw_iret dX11_twice_38 rfl hF
        · have hF := hF.2 q
          refine g_bipush dX11_twice_18 ⟨by decide, by decide⟩ ?_
          exact gw_iret dX11_twice_20 rfl hF
theorem dX11_undo_0 : decode cX11_undo 0 = .ok (.iload_n 1, 1) := by decide +kernel
theorem dX11_undo_1 : decode cX11_undo 1 = .ok (.iconst 1, 1) := by decide +kernel
theorem dX11_undo_2 : decode cX11_undo 2 = .ok (.if_icmp .lt 20, 3) := by decide +kernel
theorem dX11_undo_5 : decode cX11_undo 5 = .ok (.iload_n 1, 1) := by decide +kernel
theorem dX11_undo_6 : decode cX11_undo 6 = .ok (.bipush 10, 2) := by decide +kernel
theorem dX11_undo_8 : decode cX11_undo 8 = .ok (.if_icmp .gt 14, 3) := by decide +kernel
theorem dX11_undo_11 : decode cX11_undo 11 = .ok (.iload_n 1, 1) := by decide +kernel
theorem dX11_undo_12 : decode cX11_undo 12 = .ok (.aload_n 0, 1) := by decide +kernel
theorem dX11_undo_13 : decode cX11_undo 13 = .ok (.getfield 43, 3) := by decide +kernel
theorem dX11_undo_16 : decode cX11_undo 16 = .ok (.getfield 359, 3) := by decide +kernel
theorem dX11_undo_19 : decode cX11_undo 19 = .ok (.if_icmp .le 6, 3) := by decide +kernel
theorem dX11_undo_22 : decode cX11_undo 22 = .ok (.bipush (-3), 2) := by decide +kernel
theorem dX11_undo_24 : decode cX11_undo 24 = .ok (.ireturn, 1) := by decide +kernel
theorem dX11_undo_25 : decode cX11_undo 25 = .ok (.aload_n 0, 1) := by decide +kernel
theorem dX11_undo_26 : decode cX11_undo 26 = .ok (.getfield 43, 3) := by decide +kernel
theorem dX11_undo_29 : decode cX11_undo 29 = .ok (.iload_n 1, 1) := by decide +kernel
theorem dX11_undo_30 : decode cX11_undo 30 = .ok (.aload_n 0, 1) := by decide +kernel
theorem dX11_undo_31 : decode cX11_undo 31 = .ok (.getfield 12, 3) := by decide +kernel
theorem dX11_undo_34 : decode cX11_undo 34 = .ok (.getfield 119, 3) := by decide +kernel
theorem dX11_undo_37 : decode cX11_undo 37 = .ok (.invokevirtual 360, 3) := by decide +kernel
theorem dX11_undo_40 : decode cX11_undo 40 = .ok (.aload_n 0, 1) := by decide +kernel
theorem dX11_undo_41 : decode cX11_undo 41 = .ok (.iconst 1, 1) := by decide +kernel
theorem dX11_undo_42 : decode cX11_undo 42 = .ok (.putfield 95, 3) := by decide +kernel
theorem dX11_undo_45 : decode cX11_undo 45 = .ok (.aload_n 0, 1) := by decide +kernel
theorem dX11_undo_46 : decode cX11_undo 46 = .ok (.getfield 43, 3) := by decide +kernel
theorem dX11_undo_49 : decode cX11_undo 49 = .ok (.getfield 359, 3) := by decide +kernel
theorem dX11_undo_52 : decode cX11_undo 52 = .ok (.ireturn, 1) := by decide +kernel
abbrev k_X11_undo (E : g_E) (l : Launch) (D : g_D) (v1 : Int) (K : Int → g_D → Prop) : Prop := g_Ki E l m_X11_undo 4 [g_R 0, g_I v1] g_SH D K
abbrev n_X11_undo (E : g_E) (l : Launch) (D : g_D) (pc : Nat) (L : List (Option g_V)) (K : Int → g_D → Prop) : Prop := g_N E l m_X11_undo 4 pc L [] g_SH D (g_Ri g_SH K)
theorem s_X11_undo {E : g_E} {l : Launch} {D : g_D} {K : Int → g_D → Prop} {v1 : Int}  (hF : g_okD D → g_r v1 → (v1 < 1 → K (-3) D) ∧ (¬ v1 < 1 → (10 < v1 → K (-3) D) ∧ (¬ 10 < v1 → (v1 ≤ (D 52 2) → k_X3_goBack E l D v1 7 (fun D1 => ∀ D2, D2 = g_up D1 0 15 1 → (K (D1 52 2) D2))) ∧ (¬ v1 ≤ (D 52 2) → K (-3) D)))) : k_X11_undo E l D v1 K := by
  refine g_enter (by decide) (Nat.le_of_ble_eq_true rfl) ?_
  show g_N E l m_X11_undo 4 0 [some (g_R 0), some (g_I v1)] [] g_SH D (g_Ri g_SH K)
  refine g_use (fun ok => ?_)
  have hF := hF ok.2.1 (ok.loc (i := 1) rfl)
  refine g_iload_n dX11_undo_0 rfl ?_
  refine g_iconst dX11_undo_1 ⟨by decide, by decide⟩ ?_
  refine g_clt dX11_undo_2 rfl (fun q => ?_) (fun q => ?_)
  · have hF := hF.1 q
    refine g_bipush dX11_undo_22 ⟨by decide, by decide⟩ ?_
    exact gw_iret dX11_undo_24 rfl hF
  · have hF := hF.2 q
    refine g_iload_n dX11_undo_5 rfl ?_
    refine g_bipush dX11_undo_6 ⟨by decide, by decide⟩ ?_
    refine g_cgt dX11_undo_8 rfl (fun q => ?_) (fun q => ?_)
    · have hF := hF.1 q
      refine g_bipush dX11_undo_22 ⟨by decide, by decide⟩ ?_
      exact gw_iret dX11_undo_24 rfl hF
    · have hF := hF.2 q
      refine g_iload_n dX11_undo_11 rfl ?_
      refine g_aload_n dX11_undo_12 rfl ?_
      refine g_getR dX11_undo_13 fd_X11_43 sh_0 rfl ?_
      refine g_getI dX11_undo_16 fd_X11_359 sh_52 rfl ?_
      refine g_cle dX11_undo_19 rfl (fun q => ?_) (fun q => ?_)
      · have hF := hF.1 q
        refine g_aload_n dX11_undo_25 rfl ?_
        refine g_getR dX11_undo_26 fd_X11_43 sh_0 rfl ?_
        refine g_iload_n dX11_undo_29 rfl ?_
        refine g_aload_n dX11_undo_30 rfl ?_
        refine g_getR dX11_undo_31 fd_X11_12 sh_0 rfl ?_
        refine g_getR dX11_undo_34 fd_X11_119 sh_1 rfl ?_
        refine gw_cVv (b := 52) (As := [g_I v1, g_R 7]) (rest := []) dX11_undo_37 mv_X11_360 sh_52 rfl (Nat.le_of_ble_eq_true rfl) (by decide) rfl hF ?_
        intro D1 hF
        refine g_aload_n dX11_undo_40 rfl ?_
        refine g_iconst dX11_undo_41 ⟨by decide, by decide⟩ ?_
        let D2 : g_D := g_up D1 0 15 1
        have hF := hF D2 rfl
        refine g_put dX11_undo_42 fd_X11_95 (g_ftyZ (C := RX11) (T := TX11) (N := 16) rfl rfl (by decide +kernel) (by decide)) sh_0 rfl ?_
        refine g_aload_n dX11_undo_45 rfl ?_
        refine g_getR dX11_undo_46 fd_X11_43 sh_0 rfl ?_
        refine g_getI dX11_undo_49 fd_X11_359 sh_52 rfl ?_
        exact gw_iret dX11_undo_52 rfl hF
      · have hF := hF.2 q
        refine g_bipush dX11_undo_22 ⟨by decide, by decide⟩ ?_
        exact gw_iret dX11_undo_24 rfl hF
theorem dX11_unlike_0 : decode cX11_unlike 0 = .ok (.iload_n 1, 1) := by decide +kernel
theorem dX11_unlike_1 : decode cX11_unlike 1 = .ok (.iconst 1, 1) := by decide +kernel
theorem dX11_unlike_2 : decode cX11_unlike 2 = .ok (.if_icmp .lt 9, 3) := by decide +kernel
theorem dX11_unlike_5 : decode cX11_unlike 5 = .ok (.iload_n 1, 1) := by decide +kernel
theorem dX11_unlike_6 : decode cX11_unlike 6 = .ok (.bipush 40, 2) := by decide +kernel
theorem dX11_unlike_8 : decode cX11_unlike 8 = .ok (.if_icmp .le 6, 3) := by decide +kernel
theorem dX11_unlike_11 : decode cX11_unlike 11 = .ok (.bipush (-3), 2) := by decide +kernel
theorem dX11_unlike_13 : decode cX11_unlike 13 = .ok (.ireturn, 1) := by decide +kernel
theorem dX11_unlike_14 : decode cX11_unlike 14 = .ok (.aload_n 0, 1) := by decide +kernel
theorem dX11_unlike_15 : decode cX11_unlike 15 = .ok (.invokevirtual 145, 3) := by decide +kernel
theorem dX11_unlike_18 : decode cX11_unlike 18 = .ok (.aload_n 0, 1) := by decide +kernel
theorem dX11_unlike_19 : decode cX11_unlike 19 = .ok (.getfield 50, 3) := by decide +kernel
theorem dX11_unlike_22 : decode cX11_unlike 22 = .ok (.iload_n 1, 1) := by decide +kernel
theorem dX11_unlike_23 : decode cX11_unlike 23 = .ok (.invokevirtual 155, 3) := by decide +kernel
theorem dX11_unlike_26 : decode cX11_unlike 26 = .ok (.ireturn, 1) := by decide +kernel
abbrev k_X11_unlike (E : g_E) (l : Launch) (D : g_D) (v1 : Int) (K : Int → g_D → Prop) : Prop := g_Ki E l m_X11_unlike 6 [g_R 0, g_I v1] g_SH D K
abbrev n_X11_unlike (E : g_E) (l : Launch) (D : g_D) (pc : Nat) (L : List (Option g_V)) (K : Int → g_D → Prop) : Prop := g_N E l m_X11_unlike 6 pc L [] g_SH D (g_Ri g_SH K)
theorem s_X11_unlike {E : g_E} {l : Launch} {D : g_D} {K : Int → g_D → Prop} {v1 : Int}  (hF : g_okD D → g_r v1 → (v1 < 1 → K (-3) D) ∧ (¬ v1 < 1 → (v1 ≤ 40 → k_X11_sortSuffixes E l D (fun D1 => k_X9_unlikeRows E l D1 v1 (fun x2 D2 => g_r x2 → K x2 D2))) ∧ (¬ v1 ≤ 40 → K (-3) D))) : k_X11_unlike E l D v1 K := by
  refine g_enter (by decide) (Nat.le_of_ble_eq_true rfl) ?_
  show g_N E l m_X11_unlike 6 0 [some (g_R 0), some (g_I v1)] [] g_SH D (g_Ri g_SH K)
  refine g_use (fun ok => ?_)
  have hF := hF ok.2.1 (ok.loc (i := 1) rfl)
  refine g_iload_n dX11_unlike_0 rfl ?_
  refine g_iconst dX11_unlike_1 ⟨by decide, by decide⟩ ?_
  refine g_clt dX11_unlike_2 rfl (fun q => ?_) (fun q => ?_)
  · have hF := hF.1 q
    refine g_bipush dX11_unlike_11 ⟨by decide, by decide⟩ ?_
    exact gw_iret dX11_unlike_13 rfl hF
  · have hF := hF.2 q
    refine g_iload_n dX11_unlike_5 rfl ?_
    refine g_bipush dX11_unlike_6 ⟨by decide, by decide⟩ ?_
    refine g_cle dX11_unlike_8 rfl (fun q => ?_) (fun q => ?_)
    · have hF := hF.1 q
      refine g_aload_n dX11_unlike_14 rfl ?_
      refine gw_cVv (b := 0) (As := []) (rest := []) dX11_unlike_15 mv_X11_145 sh_0 rfl (Nat.le_of_ble_eq_true rfl) (by decide) rfl hF ?_
      intro D1 hF
      refine g_aload_n dX11_unlike_18 rfl ?_
      refine g_getR dX11_unlike_19 fd_X11_50 sh_0 rfl ?_
      refine g_iload_n dX11_unlike_22 rfl ?_
      refine gw_cVi (b := 134) (As := [g_I v1]) (rest := []) dX11_unlike_23 mv_X11_155 sh_134 rfl (Nat.le_of_ble_eq_true rfl) (by decide) rfl hF ?_
      intro x2 D2 hx2 hF
      have hF := hF hx2
      exact gw_iret dX11_unlike_26 rfl hF
    · have hF := hF.2 q
      refine g_bipush dX11_unlike_11 ⟨by decide, by decide⟩ ?_
      exact gw_iret dX11_unlike_13 rfl hF
theorem dX11_wear_0 : decode cX11_wear 0 = .ok (.iload_n 1, 1) := by decide +kernel
theorem dX11_wear_1 : decode cX11_wear 1 = .ok (.ifCond .lt 9, 3) := by decide +kernel
theorem dX11_wear_4 : decode cX11_wear 4 = .ok (.iload_n 1, 1) := by decide +kernel
theorem dX11_wear_5 : decode cX11_wear 5 = .ok (.bipush 10, 2) := by decide +kernel
theorem dX11_wear_7 : decode cX11_wear 7 = .ok (.if_icmp .lt 6, 3) := by decide +kernel
theorem dX11_wear_10 : decode cX11_wear 10 = .ok (.bipush (-2), 2) := by decide +kernel
theorem dX11_wear_12 : decode cX11_wear 12 = .ok (.ireturn, 1) := by decide +kernel
theorem dX11_wear_13 : decode cX11_wear 13 = .ok (.aload_n 0, 1) := by decide +kernel
theorem dX11_wear_14 : decode cX11_wear 14 = .ok (.invokevirtual 310, 3) := by decide +kernel
theorem dX11_wear_17 : decode cX11_wear 17 = .ok (.iconst 0, 1) := by decide +kernel
theorem dX11_wear_18 : decode cX11_wear 18 = .ok (.istore_n 2, 1) := by decide +kernel
theorem dX11_wear_19 : decode cX11_wear 19 = .ok (.iconst 0, 1) := by decide +kernel
theorem dX11_wear_20 : decode cX11_wear 20 = .ok (.istore_n 3, 1) := by decide +kernel
theorem dX11_wear_21 : decode cX11_wear 21 = .ok (.iload_n 3, 1) := by decide +kernel
theorem dX11_wear_22 : decode cX11_wear 22 = .ok (.aload_n 0, 1) := by decide +kernel
theorem dX11_wear_23 : decode cX11_wear 23 = .ok (.getfield 77, 3) := by decide +kernel
theorem dX11_wear_26 : decode cX11_wear 26 = .ok (.getfield 313, 3) := by decide +kernel
theorem dX11_wear_29 : decode cX11_wear 29 = .ok (.if_icmp .ge 25, 3) := by decide +kernel
theorem dX11_wear_32 : decode cX11_wear 32 = .ok (.aload_n 0, 1) := by decide +kernel
theorem dX11_wear_33 : decode cX11_wear 33 = .ok (.getfield 77, 3) := by decide +kernel
theorem dX11_wear_36 : decode cX11_wear 36 = .ok (.getfield 328, 3) := by decide +kernel
theorem dX11_wear_39 : decode cX11_wear 39 = .ok (.iload_n 3, 1) := by decide +kernel
theorem dX11_wear_40 : decode cX11_wear 40 = .ok (.iaload, 1) := by decide +kernel
theorem dX11_wear_41 : decode cX11_wear 41 = .ok (.iload_n 1, 1) := by decide +kernel
theorem dX11_wear_42 : decode cX11_wear 42 = .ok (.if_icmp .ne 6, 3) := by decide +kernel
theorem dX11_wear_45 : decode cX11_wear 45 = .ok (.iinc 2 1, 3) := by decide +kernel
theorem dX11_wear_48 : decode cX11_wear 48 = .ok (.iinc 3 1, 3) := by decide +kernel
theorem dX11_wear_51 : decode cX11_wear 51 = .ok (.goto (-30), 3) := by decide +kernel
theorem dX11_wear_54 : decode cX11_wear 54 = .ok (.iload_n 2, 1) := by decide +kernel
theorem dX11_wear_55 : decode cX11_wear 55 = .ok (.ireturn, 1) := by decide +kernel
abbrev k_X11_wear (E : g_E) (l : Launch) (D : g_D) (v1 : Int) (K : Int → g_D → Prop) : Prop := g_Ki E l m_X11_wear 6 [g_R 0, g_I v1] g_SH D K
abbrev n_X11_wear (E : g_E) (l : Launch) (D : g_D) (pc : Nat) (L : List (Option g_V)) (K : Int → g_D → Prop) : Prop := g_N E l m_X11_wear 6 pc L [] g_SH D (g_Ri g_SH K)
theorem s_X11_wear {E : g_E} {l : Launch} {D : g_D} {K : Int → g_D → Prop} {v1 : Int}  (hF : g_okD D → g_r v1 → (v1 < 0 → K (-2) D) ∧ (¬ v1 < 0 → (v1 < 10 → k_X11_makeCourse E l D (fun D1 => n_X11_wear E l D1 21 [some (g_R 0), some (g_I v1), some (g_I 0), some (g_I 0)] K)) ∧ (¬ v1 < 10 → K (-2) D))) : k_X11_wear E l D v1 K := by
  refine g_enter (by decide) (Nat.le_of_ble_eq_true rfl) ?_
  show g_N E l m_X11_wear 6 0 [some (g_R 0), some (g_I v1), none, none] [] g_SH D (g_Ri g_SH K)
  refine g_use (fun ok => ?_)
  have hF := hF ok.2.1 (ok.loc (i := 1) rfl)
  refine g_iload_n dX11_wear_0 rfl ?_
  refine g_iflt dX11_wear_1 rfl (fun q => ?_) (fun q => ?_)
  · have hF := hF.1 q
    refine g_bipush dX11_wear_10 ⟨by decide, by decide⟩ ?_
    exact gw_iret dX11_wear_12 rfl hF
  · have hF := hF.2 q
    refine g_iload_n dX11_wear_4 rfl ?_
    refine g_bipush dX11_wear_5 ⟨by decide, by decide⟩ ?_
    refine g_clt dX11_wear_7 rfl (fun q => ?_) (fun q => ?_)
    · have hF := hF.1 q
      refine g_aload_n dX11_wear_13 rfl ?_
      refine gw_cVv (b := 0) (As := []) (rest := []) dX11_wear_14 mv_X11_310 sh_0 rfl (Nat.le_of_ble_eq_true rfl) (by decide) rfl hF ?_
      intro D1 hF
      refine g_iconst dX11_wear_17 ⟨by decide, by decide⟩ ?_
      refine gw_istore_n (L' := [some (g_R 0), some (g_I v1), some (g_I 0), none]) dX11_wear_18 (by decide) rfl ?_
      refine g_iconst dX11_wear_19 ⟨by decide, by decide⟩ ?_
      refine gw_istore_n (L' := [some (g_R 0), some (g_I v1), some (g_I 0), some (g_I 0)]) dX11_wear_20 (by decide) rfl ?_
      exact hF
    · have hF := hF.2 q
      refine g_bipush dX11_wear_10 ⟨by decide, by decide⟩ ?_
      exact gw_iret dX11_wear_12 rfl hF
theorem s_X11_wear_21 {E : g_E} {l : Launch} {D : g_D} {K : Int → g_D → Prop} {v1 : Int} {v2 : Int} {v3 : Int}  (hF : g_okD D → g_r v1 → g_r v2 → g_r v3 → ((D 175 4) ≤ v3 → K v2 D) ∧ (¬ (D 175 4) ≤ v3 → (0 ≤ v3 ∧ v3 < 360) ∧ ((¬ (D 184 v3.toNat) = v1 → (g_r (v3 + 1)) ∧ (n_X11_wear E l D 21 [some (g_R 0), some (g_I v1), some (g_I v2), some (g_I (v3 + 1))] K)) ∧ ((D 184 v3.toNat) = v1 → (g_r (v2 + 1)) ∧ ((g_r (v3 + 1)) ∧ (n_X11_wear E l D 21 [some (g_R 0), some (g_I v1), some (g_I (v2 + 1)), some (g_I (v3 + 1))] K)))))) : n_X11_wear E l D 21 [some (g_R 0), some (g_I v1), some (g_I v2), some (g_I v3)] K := by
  refine g_use (fun ok => ?_)
  have hF := hF ok.2.1 (ok.loc (i := 1) rfl) (ok.loc (i := 2) rfl) (ok.loc (i := 3) rfl)
  refine g_iload_n dX11_wear_21 rfl ?_
  refine g_aload_n dX11_wear_22 rfl ?_
  refine g_getR dX11_wear_23 fd_X11_77 sh_0 rfl ?_
  refine g_getI dX11_wear_26 fd_X11_313 sh_175 rfl ?_
  refine g_cge dX11_wear_29 rfl (fun q => ?_) (fun q => ?_)
  · have hF := hF.1 q
    refine g_iload_n dX11_wear_54 rfl ?_
    exact gw_iret dX11_wear_55 rfl hF
  · have hF := hF.2 q
    refine g_aload_n dX11_wear_32 rfl ?_
    refine g_getR dX11_wear_33 fd_X11_77 sh_0 rfl ?_
    refine g_getR dX11_wear_36 fd_X11_328 sh_175 rfl ?_
    refine g_iload_n dX11_wear_39 rfl ?_
    obtain ⟨hc, hF⟩ := hF
    refine g_iald dX11_wear_40 sh_184 hc.1 hc.2 ?_
    refine g_iload_n dX11_wear_41 rfl ?_
    refine g_cne dX11_wear_42 rfl (fun q => ?_) (fun q => ?_)
    · have hF := hF.1 q
      obtain ⟨hc, hF⟩ := hF
      refine gw_iinc (L' := [some (g_R 0), some (g_I v1), some (g_I v2), some (g_I (v3 + 1))]) dX11_wear_48 rfl hc (by decide) rfl ?_
      refine g_goto dX11_wear_51 rfl ?_
      exact hF
    · have hF := hF.2 q
      obtain ⟨hc, hF⟩ := hF
      refine gw_iinc (L' := [some (g_R 0), some (g_I v1), some (g_I (v2 + 1)), some (g_I v3)]) dX11_wear_45 rfl hc (by decide) rfl ?_
      obtain ⟨hc, hF⟩ := hF
      refine gw_iinc (L' := [some (g_R 0), some (g_I v1), some (g_I (v2 + 1)), some (g_I (v3 + 1))]) dX11_wear_48 rfl hc (by decide) rfl ?_
      refine g_goto dX11_wear_51 rfl ?_
      exact hF
theorem dX11_widest_0 : decode cX11_widest 0 = .ok (.iload_n 1, 1) := by decide +kernel
theorem dX11_widest_1 : decode cX11_widest 1 = .ok (.ifCond .lt 8, 3) := by decide +kernel
theorem dX11_widest_4 : decode cX11_widest 4 = .ok (.iload_n 1, 1) := by decide +kernel
theorem dX11_widest_5 : decode cX11_widest 5 = .ok (.iconst 2, 1) := by decide +kernel
theorem dX11_widest_6 : decode cX11_widest 6 = .ok (.if_icmp .le 6, 3) := by decide +kernel
theorem dX11_widest_9 : decode cX11_widest 9 = .ok (.bipush (-2), 2) := by decide +kernel
theorem dX11_widest_11 : decode cX11_widest 11 = .ok (.ireturn, 1) := by decide +kernel
theorem dX11_widest_12 : decode cX11_widest 12 = .ok (.iconst 0, 1) := by decide +kernel
theorem dX11_widest_13 : decode cX11_widest 13 = .ok (.istore_n 2, 1) := by decide +kernel
theorem dX11_widest_14 : decode cX11_widest 14 = .ok (.iconst (-1), 1) := by decide +kernel
theorem dX11_widest_15 : decode cX11_widest 15 = .ok (.istore_n 3, 1) := by decide +kernel
theorem dX11_widest_16 : decode cX11_widest 16 = .ok (.iconst (-1), 1) := by decide +kernel
theorem dX11_widest_17 : decode cX11_widest 17 = .ok (.istore 4, 2) := by decide +kernel
theorem dX11_widest_19 : decode cX11_widest 19 = .ok (.iconst 0, 1) := by decide +kernel
theorem dX11_widest_20 : decode cX11_widest 20 = .ok (.istore 5, 2) := by decide +kernel
theorem dX11_widest_22 : decode cX11_widest 22 = .ok (.iload 5, 2) := by decide +kernel
theorem dX11_widest_24 : decode cX11_widest 24 = .ok (.aload_n 0, 1) := by decide +kernel
theorem dX11_widest_25 : decode cX11_widest 25 = .ok (.getfield 12, 3) := by decide +kernel
theorem dX11_widest_28 : decode cX11_widest 28 = .ok (.getfield 112, 3) := by decide +kernel
theorem dX11_widest_31 : decode cX11_widest 31 = .ok (.getfield 98, 3) := by decide +kernel
theorem dX11_widest_34 : decode cX11_widest 34 = .ok (.if_icmp .ge 72, 3) := by decide +kernel
theorem dX11_widest_37 : decode cX11_widest 37 = .ok (.aload_n 0, 1) := by decide +kernel
theorem dX11_widest_38 : decode cX11_widest 38 = .ok (.getfield 68, 3) := by decide +kernel
theorem dX11_widest_41 : decode cX11_widest 41 = .ok (.aload_n 0, 1) := by decide +kernel
theorem dX11_widest_42 : decode cX11_widest 42 = .ok (.getfield 12, 3) := by decide +kernel
theorem dX11_widest_45 : decode cX11_widest 45 = .ok (.getfield 105, 3) := by decide +kernel
theorem dX11_widest_48 : decode cX11_widest 48 = .ok (.aload_n 0, 1) := by decide +kernel
theorem dX11_widest_49 : decode cX11_widest 49 = .ok (.getfield 12, 3) := by decide +kernel
theorem dX11_widest_52 : decode cX11_widest 52 = .ok (.getfield 112, 3) := by decide +kernel
theorem dX11_widest_55 : decode cX11_widest 55 = .ok (.iload 5, 2) := by decide +kernel
theorem dX11_widest_57 : decode cX11_widest 57 = .ok (.aload_n 0, 1) := by decide +kernel
theorem dX11_widest_58 : decode cX11_widest 58 = .ok (.getfield 12, 3) := by decide +kernel
theorem dX11_widest_61 : decode cX11_widest 61 = .ok (.getfield 142, 3) := by decide +kernel
theorem dX11_widest_64 : decode cX11_widest 64 = .ok (.iconst 1, 1) := by decide +kernel
theorem dX11_widest_65 : decode cX11_widest 65 = .ok (.iaload, 1) := by decide +kernel
theorem dX11_widest_66 : decode cX11_widest 66 = .ok (.invokevirtual 158, 3) := by decide +kernel
theorem dX11_widest_69 : decode cX11_widest 69 = .ok (.aload_n 0, 1) := by decide +kernel
theorem dX11_widest_70 : decode cX11_widest 70 = .ok (.getfield 68, 3) := by decide +kernel
theorem dX11_widest_73 : decode cX11_widest 73 = .ok (.getfield 162, 3) := by decide +kernel
theorem dX11_widest_76 : decode cX11_widest 76 = .ok (.iload_n 2, 1) := by decide +kernel
theorem dX11_widest_77 : decode cX11_widest 77 = .ok (.if_icmp .le 23, 3) := by decide +kernel
theorem dX11_widest_80 : decode cX11_widest 80 = .ok (.aload_n 0, 1) := by decide +kernel
theorem dX11_widest_81 : decode cX11_widest 81 = .ok (.getfield 68, 3) := by decide +kernel
theorem dX11_widest_84 : decode cX11_widest 84 = .ok (.getfield 162, 3) := by decide +kernel
theorem dX11_widest_87 : decode cX11_widest 87 = .ok (.istore_n 2, 1) := by decide +kernel
theorem dX11_widest_88 : decode cX11_widest 88 = .ok (.iload 5, 2) := by decide +kernel
theorem dX11_widest_90 : decode cX11_widest 90 = .ok (.istore_n 3, 1) := by decide +kernel
theorem dX11_widest_91 : decode cX11_widest 91 = .ok (.aload_n 0, 1) := by decide +kernel
theorem dX11_widest_92 : decode cX11_widest 92 = .ok (.getfield 68, 3) := by decide +kernel
theorem dX11_widest_95 : decode cX11_widest 95 = .ok (.getfield 165, 3) := by decide +kernel
theorem dX11_widest_98 : decode cX11_widest 98 = .ok (.istore 4, 2) := by decide +kernel
theorem dX11_widest_100 : decode cX11_widest 100 = .ok (.iinc 5 1, 3) := by decide +kernel
theorem dX11_widest_103 : decode cX11_widest 103 = .ok (.goto (-81), 3) := by decide +kernel
theorem dX11_widest_106 : decode cX11_widest 106 = .ok (.iload_n 1, 1) := by decide +kernel
theorem dX11_widest_107 : decode cX11_widest 107 = .ok (.ifCond .ne 5, 3) := by decide +kernel
theorem dX11_widest_110 : decode cX11_widest 110 = .ok (.iload_n 2, 1) := by decide +kernel
theorem dX11_widest_111 : decode cX11_widest 111 = .ok (.ireturn, 1) := by decide +kernel
theorem dX11_widest_112 : decode cX11_widest 112 = .ok (.iload_n 1, 1) := by decide +kernel
theorem dX11_widest_113 : decode cX11_widest 113 = .ok (.iconst 1, 1) := by decide +kernel
theorem dX11_widest_114 : decode cX11_widest 114 = .ok (.if_icmp .ne 7, 3) := by decide +kernel
theorem dX11_widest_117 : decode cX11_widest 117 = .ok (.iload_n 3, 1) := by decide +kernel
theorem dX11_widest_118 : decode cX11_widest 118 = .ok (.goto 5, 3) := by decide +kernel
theorem dX11_widest_121 : decode cX11_widest 121 = .ok (.iload 4, 2) := by decide +kernel
theorem dX11_widest_123 : decode cX11_widest 123 = .ok (.ireturn, 1) := by decide +kernel
abbrev k_X11_widest (E : g_E) (l : Launch) (D : g_D) (v1 : Int) (K : Int → g_D → Prop) : Prop := g_Ki E l m_X11_widest 3 [g_R 0, g_I v1] g_SH D K
abbrev n_X11_widest (E : g_E) (l : Launch) (D : g_D) (pc : Nat) (L : List (Option g_V)) (K : Int → g_D → Prop) : Prop := g_N E l m_X11_widest 3 pc L [] g_SH D (g_Ri g_SH K)
theorem s_X11_widest {E : g_E} {l : Launch} {D : g_D} {K : Int → g_D → Prop} {v1 : Int}  (hF : g_okD D → g_r v1 → (v1 < 0 → K (-2) D) ∧ (¬ v1 < 0 → (v1 ≤ 2 → n_X11_widest E l D 22 [some (g_R 0), some (g_I v1), some (g_I 0), some (g_I (-1)), some (g_I (-1)), some (g_I 0)] K) ∧ (¬ v1 ≤ 2 → K (-2) D))) : k_X11_widest E l D v1 K := by
  refine g_enter (by decide) (Nat.le_of_ble_eq_true rfl) ?_
  show g_N E l m_X11_widest 3 0 [some (g_R 0), some (g_I v1), none, none, none, none] [] g_SH D (g_Ri g_SH K)
  refine g_use (fun ok => ?_)
  have hF := hF ok.2.1 (ok.loc (i := 1) rfl)
  refine g_iload_n dX11_widest_0 rfl ?_
  refine g_iflt dX11_widest_1 rfl (fun q => ?_) (fun q => ?_)
  · have hF := hF.1 q
    refine g_bipush dX11_widest_9 ⟨by decide, by decide⟩ ?_
    exact gw_iret dX11_widest_11 rfl hF
  · have hF := hF.2 q
    refine g_iload_n dX11_widest_4 rfl ?_
    refine g_iconst dX11_widest_5 ⟨by decide, by decide⟩ ?_
    refine g_cle dX11_widest_6 rfl (fun q => ?_) (fun q => ?_)
    · have hF := hF.1 q
      refine g_iconst dX11_widest_12 ⟨by decide, by decide⟩ ?_
      refine gw_istore_n (L' := [some (g_R 0), some (g_I v1), some (g_I 0), none, none, none]) dX11_widest_13 (by decide) rfl ?_
      refine g_iconst dX11_widest_14 ⟨by decide, by decide⟩ ?_
      refine gw_istore_n (L' := [some (g_R 0), some (g_I v1), some (g_I 0), some (g_I (-1)), none, none]) dX11_widest_15 (by decide) rfl ?_
      refine g_iconst dX11_widest_16 ⟨by decide, by decide⟩ ?_
      refine gw_istore (L' := [some (g_R 0), some (g_I v1), some (g_I 0), some (g_I (-1)), some (g_I (-1)), none]) dX11_widest_17 (by decide) rfl ?_
      refine g_iconst dX11_widest_19 ⟨by decide, by decide⟩ ?_
      refine gw_istore (L' := [some (g_R 0), some (g_I v1), some (g_I 0), some (g_I (-1)), some (g_I (-1)), some (g_I 0)]) dX11_widest_20 (by decide) rfl ?_
      exact hF
    · have hF := hF.2 q
      refine g_bipush dX11_widest_9 ⟨by decide, by decide⟩ ?_
      exact gw_iret dX11_widest_11 rfl hF
theorem s_X11_widest_22 {E : g_E} {l : Launch} {D : g_D} {K : Int → g_D → Prop} {v1 : Int} {v2 : Int} {v3 : Int} {v4 : Int} {v5 : Int}  (hF : g_okD D → g_r v1 → g_r v2 → g_r v3 → g_r v4 → g_r v5 → ((D 4 1) ≤ v5 → (¬ v1 = 0 → (¬ v1 = 1 → K v4 D) ∧ (v1 = 1 → K v3 D)) ∧ (v1 = 0 → K v2 D)) ∧ (¬ (D 4 1) ≤ v5 → k_X7_findRun E l D 156 2 4 v5 (D 6 1) (fun D1 => ((D1 156 9) ≤ v2 → (g_r (v5 + 1)) ∧ (n_X11_widest E l D1 22 [some (g_R 0), some (g_I v1), some (g_I v2), some (g_I v3), some (g_I v4), some (g_I (v5 + 1))] K)) ∧ (¬ (D1 156 9) ≤ v2 → (g_r (v5 + 1)) ∧ (n_X11_widest E l D1 22 [some (g_R 0), some (g_I v1), some (g_I (D1 156 9)), some (g_I v5), some (g_I (D1 156 10)), some (g_I (v5 + 1))] K))))) : n_X11_widest E l D 22 [some (g_R 0), some (g_I v1), some (g_I v2), some (g_I v3), some (g_I v4), some (g_I v5)] K := by
  refine g_use (fun ok => ?_)
  have hF := hF ok.2.1 (ok.loc (i := 1) rfl) (ok.loc (i := 2) rfl) (ok.loc (i := 3) rfl) (ok.loc (i := 4) rfl) (ok.loc (i := 5) rfl)
  refine g_iload dX11_widest_22 rfl ?_
  refine g_aload_n dX11_widest_24 rfl ?_
  refine g_getR dX11_widest_25 fd_X11_12 sh_0 rfl ?_
  refine g_getR dX11_widest_28 fd_X11_112 sh_1 rfl ?_
  refine g_getI dX11_widest_31 fd_X11_98 sh_4 rfl ?_
  refine g_cge dX11_widest_34 rfl (fun q => ?_) (fun q => ?_)
  · have hF := hF.1 q
    refine g_iload_n dX11_widest_106 rfl ?_
    refine g_ifne dX11_widest_107 rfl (fun q => ?_) (fun q => ?_)
    · have hF := hF.1 q
      refine g_iload_n dX11_widest_112 rfl ?_
      refine g_iconst dX11_widest_113 ⟨by decide, by decide⟩ ?_
      refine g_cne dX11_widest_114 rfl (fun q => ?_) (fun q => ?_)
      · have hF := hF.1 q
        refine g_iload dX11_widest_121 rfl ?_
        exact gw_iret dX11_widest_123 rfl hF
      · have hF := hF.2 q
        refine g_iload_n dX11_widest_117 rfl ?_
        refine g_goto dX11_widest_118 rfl ?_
        exact gw_iret dX11_widest_123 rfl hF
    · have hF := hF.2 q
      refine g_iload_n dX11_widest_110 rfl ?_
      exact gw_iret dX11_widest_111 rfl hF
  · have hF := hF.2 q
    refine g_aload_n dX11_widest_37 rfl ?_
    refine g_getR dX11_widest_38 fd_X11_68 sh_0 rfl ?_
    refine g_aload_n dX11_widest_41 rfl ?_
    refine g_getR dX11_widest_42 fd_X11_12 sh_0 rfl ?_
    refine g_getR dX11_widest_45 fd_X11_105 sh_1 rfl ?_
    refine g_aload_n dX11_widest_48 rfl ?_
    refine g_getR dX11_widest_49 fd_X11_12 sh_0 rfl ?_
    refine g_getR dX11_widest_52 fd_X11_112 sh_1 rfl ?_
    refine g_iload dX11_widest_55 rfl ?_
    refine g_aload_n dX11_widest_57 rfl ?_
    refine g_getR dX11_widest_58 fd_X11_12 sh_0 rfl ?_
    refine g_getR dX11_widest_61 fd_X11_142 sh_1 rfl ?_
    refine g_iconst dX11_widest_64 ⟨by decide, by decide⟩ ?_
    refine g_iald dX11_widest_65 sh_6 (by decide) (by decide) ?_
    refine gw_cVv (b := 156) (As := [g_R 2, g_R 4, g_I v5, g_I (D 6 1)]) (rest := []) dX11_widest_66 mv_X11_158 sh_156 rfl (Nat.le_of_ble_eq_true rfl) (by decide) rfl hF ?_
    intro D1 hF
    refine g_aload_n dX11_widest_69 rfl ?_
    refine g_getR dX11_widest_70 fd_X11_68 sh_0 rfl ?_
    refine g_getI dX11_widest_73 fd_X11_162 sh_156 rfl ?_
    refine g_iload_n dX11_widest_76 rfl ?_
    refine g_cle dX11_widest_77 rfl (fun q => ?_) (fun q => ?_)
    · have hF := hF.1 q
      obtain ⟨hc, hF⟩ := hF
      refine gw_iinc (L' := [some (g_R 0), some (g_I v1), some (g_I v2), some (g_I v3), some (g_I v4), some (g_I (v5 + 1))]) dX11_widest_100 rfl hc (by decide) rfl ?_
      refine g_goto dX11_widest_103 rfl ?_
      exact hF
    · have hF := hF.2 q
      refine g_aload_n dX11_widest_80 rfl ?_
      refine g_getR dX11_widest_81 fd_X11_68 sh_0 rfl ?_
      refine g_getI dX11_widest_84 fd_X11_162 sh_156 rfl ?_
      refine gw_istore_n (L' := [some (g_R 0), some (g_I v1), some (g_I (D1 156 9)), some (g_I v3), some (g_I v4), some (g_I v5)]) dX11_widest_87 (by decide) rfl ?_
      refine g_iload dX11_widest_88 rfl ?_
      refine gw_istore_n (L' := [some (g_R 0), some (g_I v1), some (g_I (D1 156 9)), some (g_I v5), some (g_I v4), some (g_I v5)]) dX11_widest_90 (by decide) rfl ?_
      refine g_aload_n dX11_widest_91 rfl ?_
      refine g_getR dX11_widest_92 fd_X11_68 sh_0 rfl ?_
      refine g_getI dX11_widest_95 fd_X11_165 sh_156 rfl ?_
      refine gw_istore (L' := [some (g_R 0), some (g_I v1), some (g_I (D1 156 9)), some (g_I v5), some (g_I (D1 156 10)), some (g_I v5)]) dX11_widest_98 (by decide) rfl ?_
      obtain ⟨hc, hF⟩ := hF
      refine gw_iinc (L' := [some (g_R 0), some (g_I v1), some (g_I (D1 156 9)), some (g_I v5), some (g_I (D1 156 10)), some (g_I (v5 + 1))]) dX11_widest_100 rfl hc (by decide) rfl ?_
      refine g_goto dX11_widest_103 rfl ?_
      exact hF
