theorem dX12_writesBlock_0 : decode cX12_writesBlock 0 = .ok (.iconst 0, 1) := by decide +kernel
theorem dX12_writesBlock_1 : decode cX12_writesBlock 1 = .ok (.istore_n 3, 1) := by decide +kernel
theorem dX12_writesBlock_2 : decode cX12_writesBlock 2 = .ok (.iconst 0, 1) := by decide +kernel
theorem dX12_writesBlock_3 : decode cX12_writesBlock 3 = .ok (.istore 4, 2) := by decide +kernel
theorem dX12_writesBlock_5 : decode cX12_writesBlock 5 = .ok (.iload 4, 2) := by decide +kernel
theorem dX12_writesBlock_7 : decode cX12_writesBlock 7 = .ok (.iconst 4, 1) := by decide +kernel
theorem dX12_writesBlock_8 : decode cX12_writesBlock 8 = .ok (.if_icmp .ge 23, 3) := by decide +kernel
theorem dX12_writesBlock_11 : decode cX12_writesBlock 11 = .ok (.iload_n 3, 1) := by decide +kernel
theorem dX12_writesBlock_12 : decode cX12_writesBlock 12 = .ok (.aload_n 0, 1) := by decide +kernel
theorem dX12_writesBlock_13 : decode cX12_writesBlock 13 = .ok (.iload_n 1, 1) := by decide +kernel
theorem dX12_writesBlock_14 : decode cX12_writesBlock 14 = .ok (.iconst 4, 1) := by decide +kernel
theorem dX12_writesBlock_15 : decode cX12_writesBlock 15 = .ok (.iload_n 2, 1) := by decide +kernel
theorem dX12_writesBlock_16 : decode cX12_writesBlock 16 = .ok (.imul, 1) := by decide +kernel
theorem dX12_writesBlock_17 : decode cX12_writesBlock 17 = .ok (.iload 4, 2) := by decide +kernel
theorem dX12_writesBlock_19 : decode cX12_writesBlock 19 = .ok (.iadd, 1) := by decide +kernel
theorem dX12_writesBlock_20 : decode cX12_writesBlock 20 = .ok (.invokevirtual 339, 3) := by decide +kernel
theorem dX12_writesBlock_23 : decode cX12_writesBlock 23 = .ok (.ior, 1) := by decide +kernel
theorem dX12_writesBlock_24 : decode cX12_writesBlock 24 = .ok (.istore_n 3, 1) := by decide +kernel
theorem dX12_writesBlock_25 : decode cX12_writesBlock 25 = .ok (.iinc 4 1, 3) := by decide +kernel
theorem dX12_writesBlock_28 : decode cX12_writesBlock 28 = .ok (.goto (-23), 3) := by decide +kernel
theorem dX12_writesBlock_31 : decode cX12_writesBlock 31 = .ok (.iload_n 3, 1) := by decide +kernel
theorem dX12_writesBlock_32 : decode cX12_writesBlock 32 = .ok (.ireturn, 1) := by decide +kernel
abbrev k_X12_writesBlock (E : g_E) (l : Launch) (D : g_D) (v1 : Int) (v2 : Int) (K : Int → g_D → Prop) : Prop := g_Ki E l m_X12_writesBlock 2 [g_R 208, g_I v1, g_I v2] g_SH D K
abbrev n_X12_writesBlock (E : g_E) (l : Launch) (D : g_D) (pc : Nat) (L : List (Option g_V)) (K : Int → g_D → Prop) : Prop := g_N E l m_X12_writesBlock 2 pc L [] g_SH D (g_Ri g_SH K)
theorem s_X12_writesBlock {E : g_E} {l : Launch} {D : g_D} {K : Int → g_D → Prop} {v1 : Int} {v2 : Int}  (hF : g_okD D → g_r v1 → g_r v2 → n_X12_writesBlock E l D 5 [some (g_R 208), some (g_I v1), some (g_I v2), some (g_I 0), some (g_I 0)] K) : k_X12_writesBlock E l D v1 v2 K := by
  refine g_enter (by decide) (Nat.le_of_ble_eq_true rfl) ?_
  show g_N E l m_X12_writesBlock 2 0 [some (g_R 208), some (g_I v1), some (g_I v2), none, none] [] g_SH D (g_Ri g_SH K)
  refine g_use (fun ok => ?_)
  have hF := hF ok.2.1 (ok.loc (i := 1) rfl) (ok.loc (i := 2) rfl)
  refine g_iconst dX12_writesBlock_0 ⟨by decide, by decide⟩ ?_
  refine gw_istore_n (L' := [some (g_R 208), some (g_I v1), some (g_I v2), some (g_I 0), none]) dX12_writesBlock_1 (by decide) rfl ?_
  refine g_iconst dX12_writesBlock_2 ⟨by decide, by decide⟩ ?_
  refine gw_istore (L' := [some (g_R 208), some (g_I v1), some (g_I v2), some (g_I 0), some (g_I 0)]) dX12_writesBlock_3 (by decide) rfl ?_
  exact hF
theorem s_X12_writesBlock_5 {E : g_E} {l : Launch} {D : g_D} {K : Int → g_D → Prop} {v1 : Int} {v2 : Int} {v3 : Int} {v4 : Int}  (hF : g_okD D → g_r v1 → g_r v2 → g_r v3 → g_r v4 → (4 ≤ v4 → (v3 = 0 ∨ v3 = 1) ∧ K v3 D) ∧ (¬ 4 ≤ v4 → (g_r (4 * v2)) ∧ ((g_r ((4 * v2) + v4)) ∧ (k_X12_writes E l D v1 ((4 * v2) + v4) (fun x1 D1 => g_r x1 → (g_r (v4 + 1)) ∧ (n_X12_writesBlock E l D1 5 [some (g_R 208), some (g_I v1), some (g_I v2), some (g_I (g_or v3 x1)), some (g_I (v4 + 1))] K)))))) : n_X12_writesBlock E l D 5 [some (g_R 208), some (g_I v1), some (g_I v2), some (g_I v3), some (g_I v4)] K := by
  refine g_use (fun ok => ?_)
  have hF := hF ok.2.1 (ok.loc (i := 1) rfl) (ok.loc (i := 2) rfl) (ok.loc (i := 3) rfl) (ok.loc (i := 4) rfl)
  refine g_iload dX12_writesBlock_5 rfl ?_
  refine g_iconst dX12_writesBlock_7 ⟨by decide, by decide⟩ ?_
  refine g_cge dX12_writesBlock_8 rfl (fun q => ?_) (fun q => ?_)
  · have hF := hF.1 q
    refine g_iload_n dX12_writesBlock_31 rfl ?_
    exact gw_zret dX12_writesBlock_32 rfl hF.1 hF.2
  · have hF := hF.2 q
    refine g_iload_n dX12_writesBlock_11 rfl ?_
    refine g_aload_n dX12_writesBlock_12 rfl ?_
    refine g_iload_n dX12_writesBlock_13 rfl ?_
    refine g_iconst dX12_writesBlock_14 ⟨by decide, by decide⟩ ?_
    refine g_iload_n dX12_writesBlock_15 rfl ?_
    obtain ⟨hc, hF⟩ := hF
    refine g_imul dX12_writesBlock_16 hc ?_
    refine g_iload dX12_writesBlock_17 rfl ?_
    obtain ⟨hc, hF⟩ := hF
    refine g_iadd dX12_writesBlock_19 hc ?_
    refine gw_cVi (b := 208) (As := [g_I v1, g_I ((4 * v2) + v4)]) (rest := [g_I v3]) dX12_writesBlock_20 mv_X12_339 sh_208 rfl (Nat.le_of_ble_eq_true rfl) (by decide) rfl hF ?_
    intro x1 D1 hx1 hF
    have hF := hF hx1
    refine g_ior dX12_writesBlock_23 ?_
    refine gw_istore_n (L' := [some (g_R 208), some (g_I v1), some (g_I v2), some (g_I (g_or v3 x1)), some (g_I v4)]) dX12_writesBlock_24 (by decide) rfl ?_
    obtain ⟨hc, hF⟩ := hF
    refine gw_iinc (L' := [some (g_R 208), some (g_I v1), some (g_I v2), some (g_I (g_or v3 x1)), some (g_I (v4 + 1))]) dX12_writesBlock_25 rfl hc (by decide) rfl ?_
    refine g_goto dX12_writesBlock_28 rfl ?_
    exact hF
theorem dX12_laysSteps_0 : decode cX12_laysSteps 0 = .ok (.aload_n 0, 1) := by decide +kernel
theorem dX12_laysSteps_1 : decode cX12_laysSteps 1 = .ok (.iconst 0, 1) := by decide +kernel
theorem dX12_laysSteps_2 : decode cX12_laysSteps 2 = .ok (.putfield 342, 3) := by decide +kernel
theorem dX12_laysSteps_5 : decode cX12_laysSteps 5 = .ok (.iconst 0, 1) := by decide +kernel
theorem dX12_laysSteps_6 : decode cX12_laysSteps 6 = .ok (.istore_n 1, 1) := by decide +kernel
theorem dX12_laysSteps_7 : decode cX12_laysSteps 7 = .ok (.iload_n 1, 1) := by decide +kernel
theorem dX12_laysSteps_8 : decode cX12_laysSteps 8 = .ok (.aload_n 0, 1) := by decide +kernel
theorem dX12_laysSteps_9 : decode cX12_laysSteps 9 = .ok (.getfield 13, 3) := by decide +kernel
theorem dX12_laysSteps_12 : decode cX12_laysSteps 12 = .ok (.sipush 213, 3) := by decide +kernel
theorem dX12_laysSteps_15 : decode cX12_laysSteps 15 = .ok (.iaload, 1) := by decide +kernel
theorem dX12_laysSteps_16 : decode cX12_laysSteps 16 = .ok (.if_icmp .ge 101, 3) := by decide +kernel
theorem dX12_laysSteps_19 : decode cX12_laysSteps 19 = .ok (.aload_n 0, 1) := by decide +kernel
theorem dX12_laysSteps_20 : decode cX12_laysSteps 20 = .ok (.iload_n 1, 1) := by decide +kernel
theorem dX12_laysSteps_21 : decode cX12_laysSteps 21 = .ok (.iconst 0, 1) := by decide +kernel
theorem dX12_laysSteps_22 : decode cX12_laysSteps 22 = .ok (.invokevirtual 336, 3) := by decide +kernel
theorem dX12_laysSteps_25 : decode cX12_laysSteps 25 = .ok (.iconst 2, 1) := by decide +kernel
theorem dX12_laysSteps_26 : decode cX12_laysSteps 26 = .ok (.if_icmp .ne 22, 3) := by decide +kernel
theorem dX12_laysSteps_29 : decode cX12_laysSteps 29 = .ok (.aload_n 0, 1) := by decide +kernel
theorem dX12_laysSteps_30 : decode cX12_laysSteps 30 = .ok (.iload_n 1, 1) := by decide +kernel
theorem dX12_laysSteps_31 : decode cX12_laysSteps 31 = .ok (.iconst 1, 1) := by decide +kernel
theorem dX12_laysSteps_32 : decode cX12_laysSteps 32 = .ok (.invokevirtual 336, 3) := by decide +kernel
theorem dX12_laysSteps_35 : decode cX12_laysSteps 35 = .ok (.aload_n 0, 1) := by decide +kernel
theorem dX12_laysSteps_36 : decode cX12_laysSteps 36 = .ok (.iload_n 1, 1) := by decide +kernel
theorem dX12_laysSteps_37 : decode cX12_laysSteps 37 = .ok (.iconst 2, 1) := by decide +kernel
theorem dX12_laysSteps_38 : decode cX12_laysSteps 38 = .ok (.invokevirtual 336, 3) := by decide +kernel
theorem dX12_laysSteps_41 : decode cX12_laysSteps 41 = .ok (.if_icmp .le 7, 3) := by decide +kernel
theorem dX12_laysSteps_44 : decode cX12_laysSteps 44 = .ok (.iconst 1, 1) := by decide +kernel
theorem dX12_laysSteps_45 : decode cX12_laysSteps 45 = .ok (.goto 4, 3) := by decide +kernel
theorem dX12_laysSteps_48 : decode cX12_laysSteps 48 = .ok (.iconst 0, 1) := by decide +kernel
theorem dX12_laysSteps_49 : decode cX12_laysSteps 49 = .ok (.istore_n 2, 1) := by decide +kernel
theorem dX12_laysSteps_50 : decode cX12_laysSteps 50 = .ok (.aload_n 0, 1) := by decide +kernel
theorem dX12_laysSteps_51 : decode cX12_laysSteps 51 = .ok (.iload_n 1, 1) := by decide +kernel
theorem dX12_laysSteps_52 : decode cX12_laysSteps 52 = .ok (.iconst 0, 1) := by decide +kernel
theorem dX12_laysSteps_53 : decode cX12_laysSteps 53 = .ok (.invokevirtual 336, 3) := by decide +kernel
theorem dX12_laysSteps_56 : decode cX12_laysSteps 56 = .ok (.iconst 1, 1) := by decide +kernel
theorem dX12_laysSteps_57 : decode cX12_laysSteps 57 = .ok (.if_icmp .ne 9, 3) := by decide +kernel
theorem dX12_laysSteps_60 : decode cX12_laysSteps 60 = .ok (.aload_n 0, 1) := by decide +kernel
theorem dX12_laysSteps_61 : decode cX12_laysSteps 61 = .ok (.iload_n 1, 1) := by decide +kernel
theorem dX12_laysSteps_62 : decode cX12_laysSteps 62 = .ok (.iconst (-1), 1) := by decide +kernel
theorem dX12_laysSteps_63 : decode cX12_laysSteps 63 = .ok (.invokevirtual 345, 3) := by decide +kernel
theorem dX12_laysSteps_66 : decode cX12_laysSteps 66 = .ok (.iconst 0, 1) := by decide +kernel
theorem dX12_laysSteps_67 : decode cX12_laysSteps 67 = .ok (.istore_n 3, 1) := by decide +kernel
theorem dX12_laysSteps_68 : decode cX12_laysSteps 68 = .ok (.iload_n 3, 1) := by decide +kernel
theorem dX12_laysSteps_69 : decode cX12_laysSteps 69 = .ok (.bipush 10, 2) := by decide +kernel
theorem dX12_laysSteps_71 : decode cX12_laysSteps 71 = .ok (.if_icmp .ge 40, 3) := by decide +kernel
theorem dX12_laysSteps_74 : decode cX12_laysSteps 74 = .ok (.iload_n 2, 1) := by decide +kernel
theorem dX12_laysSteps_75 : decode cX12_laysSteps 75 = .ok (.ifCond .eq 10, 3) := by decide +kernel
theorem dX12_laysSteps_78 : decode cX12_laysSteps 78 = .ok (.bipush 9, 2) := by decide +kernel
theorem dX12_laysSteps_80 : decode cX12_laysSteps 80 = .ok (.iload_n 3, 1) := by decide +kernel
theorem dX12_laysSteps_81 : decode cX12_laysSteps 81 = .ok (.isub, 1) := by decide +kernel
theorem dX12_laysSteps_82 : decode cX12_laysSteps 82 = .ok (.goto 4, 3) := by decide +kernel
theorem dX12_laysSteps_85 : decode cX12_laysSteps 85 = .ok (.iload_n 3, 1) := by decide +kernel
theorem dX12_laysSteps_86 : decode cX12_laysSteps 86 = .ok (.istore 4, 2) := by decide +kernel
theorem dX12_laysSteps_88 : decode cX12_laysSteps 88 = .ok (.aload_n 0, 1) := by decide +kernel
theorem dX12_laysSteps_89 : decode cX12_laysSteps 89 = .ok (.iload_n 1, 1) := by decide +kernel
theorem dX12_laysSteps_90 : decode cX12_laysSteps 90 = .ok (.iload 4, 2) := by decide +kernel
theorem dX12_laysSteps_92 : decode cX12_laysSteps 92 = .ok (.invokevirtual 348, 3) := by decide +kernel
theorem dX12_laysSteps_95 : decode cX12_laysSteps 95 = .ok (.ifCond .eq 10, 3) := by decide +kernel
theorem dX12_laysSteps_98 : decode cX12_laysSteps 98 = .ok (.aload_n 0, 1) := by decide +kernel
theorem dX12_laysSteps_99 : decode cX12_laysSteps 99 = .ok (.iload_n 1, 1) := by decide +kernel
theorem dX12_laysSteps_100 : decode cX12_laysSteps 100 = .ok (.iload 4, 2) := by decide +kernel
theorem dX12_laysSteps_102 : decode cX12_laysSteps 102 = .ok (.invokevirtual 345, 3) := by decide +kernel
theorem dX12_laysSteps_105 : decode cX12_laysSteps 105 = .ok (.iinc 3 1, 3) := by decide +kernel
theorem dX12_laysSteps_108 : decode cX12_laysSteps 108 = .ok (.goto (-40), 3) := by decide +kernel
theorem dX12_laysSteps_111 : decode cX12_laysSteps 111 = .ok (.iinc 1 1, 3) := by decide +kernel
theorem dX12_laysSteps_114 : decode cX12_laysSteps 114 = .ok (.goto (-107), 3) := by decide +kernel
theorem dX12_laysSteps_117 : decode cX12_laysSteps 117 = .ok (.aload_n 0, 1) := by decide +kernel
theorem dX12_laysSteps_118 : decode cX12_laysSteps 118 = .ok (.getfield 342, 3) := by decide +kernel
theorem dX12_laysSteps_121 : decode cX12_laysSteps 121 = .ok (.ireturn, 1) := by decide +kernel
abbrev k_X12_laysSteps (E : g_E) (l : Launch) (D : g_D) (K : Int → g_D → Prop) : Prop := g_Ki E l m_X12_laysSteps 3 [g_R 208] g_SH D K
abbrev n_X12_laysSteps (E : g_E) (l : Launch) (D : g_D) (pc : Nat) (L : List (Option g_V)) (K : Int → g_D → Prop) : Prop := g_N E l m_X12_laysSteps 3 pc L [] g_SH D (g_Ri g_SH K)
theorem s_X12_laysSteps {E : g_E} {l : Launch} {D : g_D} {K : Int → g_D → Prop}   (hF : g_okD D → ∀ D1, D1 = g_up D 208 46 0 → (n_X12_laysSteps E l D1 7 [some (g_R 208), some (g_I 0), none, none, none] K)) : k_X12_laysSteps E l D K := by
  refine g_enter (by decide) (Nat.le_of_ble_eq_true rfl) ?_
  show g_N E l m_X12_laysSteps 3 0 [some (g_R 208), none, none, none, none] [] g_SH D (g_Ri g_SH K)
  refine g_use (fun ok => ?_)
  have hF := hF ok.2.1
  refine g_aload_n dX12_laysSteps_0 rfl ?_
  refine g_iconst dX12_laysSteps_1 ⟨by decide, by decide⟩ ?_
  let D1 : g_D := g_up D 208 46 0
  have hF := hF D1 rfl
  refine g_put dX12_laysSteps_2 fd_X12_342 (g_ftyI (C := RX12) (T := TX12) (N := 51) rfl rfl (by decide +kernel)) sh_208 rfl ?_
  refine g_iconst dX12_laysSteps_5 ⟨by decide, by decide⟩ ?_
  refine gw_istore_n (L' := [some (g_R 208), some (g_I 0), none, none, none]) dX12_laysSteps_6 (by decide) rfl ?_
  exact hF
theorem s_X12_laysSteps_7 {E : g_E} {l : Launch} {D : g_D} {K : Int → g_D → Prop} {v1 : Int}  (hF : g_okD D → g_r v1 → ((D 209 213) ≤ v1 → K (D 208 46) D) ∧ (¬ (D 209 213) ≤ v1 → k_X12_actNow E l D v1 0 (fun x1 D1 => g_r x1 → (¬ x1 = 2 → k_X12_actNow E l D1 v1 0 (fun x2 D2 => g_r x2 → (¬ x2 = 1 → n_X12_laysSteps E l D2 68 [some (g_R 208), some (g_I v1), some (g_I 0), some (g_I 0), none] K) ∧ (x2 = 1 → k_X12_laysStep E l D2 v1 (-1) (fun D3 => n_X12_laysSteps E l D3 68 [some (g_R 208), some (g_I v1), some (g_I 0), some (g_I 0), none] K)))) ∧ (x1 = 2 → k_X12_actNow E l D1 v1 1 (fun x4 D4 => g_r x4 → k_X12_actNow E l D4 v1 2 (fun x5 D5 => g_r x5 → (x4 ≤ x5 → k_X12_actNow E l D5 v1 0 (fun x6 D6 => g_r x6 → (¬ x6 = 1 → n_X12_laysSteps E l D6 68 [some (g_R 208), some (g_I v1), some (g_I 0), some (g_I 0), none] K) ∧ (x6 = 1 → k_X12_laysStep E l D6 v1 (-1) (fun D7 => n_X12_laysSteps E l D7 68 [some (g_R 208), some (g_I v1), some (g_I 0), some (g_I 0), none] K)))) ∧ (¬ x4 ≤ x5 → k_X12_actNow E l D5 v1 0 (fun x8 D8 => g_r x8 → (¬ x8 = 1 → n_X12_laysSteps E l D8 68 [some (g_R 208), some (g_I v1), some (g_I 1), some (g_I 0), none] K) ∧ (x8 = 1 → k_X12_laysStep E l D8 v1 (-1) (fun D9 => n_X12_laysSteps E l D9 68 [some (g_R 208), some (g_I v1), some (g_I 1), some (g_I 0), none] K)))))))))) : n_X12_laysSteps E l D 7 [some (g_R 208), some (g_I v1), none, none, none] K := by
  refine g_use (fun ok => ?_)
  have hF := hF ok.2.1 (ok.loc (i := 1) rfl)
  refine g_iload_n dX12_laysSteps_7 rfl ?_
  refine g_aload_n dX12_laysSteps_8 rfl ?_
  refine g_getR dX12_laysSteps_9 fd_X12_13 sh_208 rfl ?_
  refine g_sipush dX12_laysSteps_12 ⟨by decide, by decide⟩ ?_
  refine g_iald dX12_laysSteps_15 sh_209 (by decide) (by decide) ?_
  refine g_cge dX12_laysSteps_16 rfl (fun q => ?_) (fun q => ?_)
  · have hF := hF.1 q
    refine g_aload_n dX12_laysSteps_117 rfl ?_
    refine g_getI dX12_laysSteps_118 fd_X12_342 sh_208 rfl ?_
    exact gw_iret dX12_laysSteps_121 rfl hF
  · have hF := hF.2 q
    refine g_aload_n dX12_laysSteps_19 rfl ?_
    refine g_iload_n dX12_laysSteps_20 rfl ?_
    refine g_iconst dX12_laysSteps_21 ⟨by decide, by decide⟩ ?_
    refine gw_cVi (b := 208) (As := [g_I v1, g_I 0]) (rest := []) dX12_laysSteps_22 mv_X12_336 sh_208 rfl (Nat.le_of_ble_eq_true rfl) (by decide) rfl hF ?_
    intro x1 D1 hx1 hF
    have hF := hF hx1
    refine g_iconst dX12_laysSteps_25 ⟨by decide, by decide⟩ ?_
    refine g_cne dX12_laysSteps_26 rfl (fun q => ?_) (fun q => ?_)
    · have hF := hF.1 q
      refine g_iconst dX12_laysSteps_48 ⟨by decide, by decide⟩ ?_
      refine gw_istore_n (L' := [some (g_R 208), some (g_I v1), some (g_I 0), none, none]) dX12_laysSteps_49 (by decide) rfl ?_
      refine g_aload_n dX12_laysSteps_50 rfl ?_
      refine g_iload_n dX12_laysSteps_51 rfl ?_
      refine g_iconst dX12_laysSteps_52 ⟨by decide, by decide⟩ ?_
      refine gw_cVi (b := 208) (As := [g_I v1, g_I 0]) (rest := []) dX12_laysSteps_53 mv_X12_336 sh_208 rfl (Nat.le_of_ble_eq_true rfl) (by decide) rfl hF ?_
      intro x2 D2 hx2 hF
      have hF := hF hx2
      refine g_iconst dX12_laysSteps_56 ⟨by decide, by decide⟩ ?_
      refine g_cne dX12_laysSteps_57 rfl (fun q => ?_) (fun q => ?_)
      · have hF := hF.1 q
        refine g_iconst dX12_laysSteps_66 ⟨by decide, by decide⟩ ?_
        refine gw_istore_n (L' := [some (g_R 208), some (g_I v1), some (g_I 0), some (g_I 0), none]) dX12_laysSteps_67 (by decide) rfl ?_
        exact hF
      · have hF := hF.2 q
        refine g_aload_n dX12_laysSteps_60 rfl ?_
        refine g_iload_n dX12_laysSteps_61 rfl ?_
        refine g_iconst dX12_laysSteps_62 ⟨by decide, by decide⟩ ?_
        refine gw_cVv (b := 208) (As := [g_I v1, g_I (-1)]) (rest := []) dX12_laysSteps_63 mv_X12_345 sh_208 rfl (Nat.le_of_ble_eq_true rfl) (by decide) rfl hF ?_
        intro D3 hF
        refine g_iconst dX12_laysSteps_66 ⟨by decide, by decide⟩ ?_
        refine gw_istore_n (L' := [some (g_R 208), some (g_I v1), some (g_I 0), some (g_I 0), none]) dX12_laysSteps_67 (by decide) rfl ?_
        exact hF
    · have hF := hF.2 q
      refine g_aload_n dX12_laysSteps_29 rfl ?_
      refine g_iload_n dX12_laysSteps_30 rfl ?_
      refine g_iconst dX12_laysSteps_31 ⟨by decide, by decide⟩ ?_
      refine gw_cVi (b := 208) (As := [g_I v1, g_I 1]) (rest := []) dX12_laysSteps_32 mv_X12_336 sh_208 rfl (Nat.le_of_ble_eq_true rfl) (by decide) rfl hF ?_
      intro x4 D4 hx4 hF
      have hF := hF hx4
      refine g_aload_n dX12_laysSteps_35 rfl ?_
      refine g_iload_n dX12_laysSteps_36 rfl ?_
      refine g_iconst dX12_laysSteps_37 ⟨by decide, by decide⟩ ?_
      refine gw_cVi (b := 208) (As := [g_I v1, g_I 2]) (rest := [g_I x4]) dX12_laysSteps_38 mv_X12_336 sh_208 rfl (Nat.le_of_ble_eq_true rfl) (by decide) rfl hF ?_
      intro x5 D5 hx5 hF
      have hF := hF hx5
      refine g_cle dX12_laysSteps_41 rfl (fun q => ?_) (fun q => ?_)
      · have hF := hF.1 q
        refine g_iconst dX12_laysSteps_48 ⟨by decide, by decide⟩ ?_
        refine gw_istore_n (L' := [some (g_R 208), some (g_I v1), some (g_I 0), none, none]) dX12_laysSteps_49 (by decide) rfl ?_
        refine g_aload_n dX12_laysSteps_50 rfl ?_
        refine g_iload_n dX12_laysSteps_51 rfl ?_
        refine g_iconst dX12_laysSteps_52 ⟨by decide, by decide⟩ ?_
        refine gw_cVi (b := 208) (As := [g_I v1, g_I 0]) (rest := []) dX12_laysSteps_53 mv_X12_336 sh_208 rfl (Nat.le_of_ble_eq_true rfl) (by decide) rfl hF ?_
        intro x6 D6 hx6 hF
        have hF := hF hx6
        refine g_iconst dX12_laysSteps_56 ⟨by decide, by decide⟩ ?_
        refine g_cne dX12_laysSteps_57 rfl (fun q => ?_) (fun q => ?_)
        · have hF := hF.1 q
          refine g_iconst dX12_laysSteps_66 ⟨by decide, by decide⟩ ?_
          refine gw_istore_n (L' := [some (g_R 208), some (g_I v1), some (g_I 0), some (g_I 0), none]) dX12_laysSteps_67 (by decide) rfl ?_
          exact hF
        · have hF := hF.2 q
          refine g_aload_n dX12_laysSteps_60 rfl ?_
          refine g_iload_n dX12_laysSteps_61 rfl ?_
          refine g_iconst dX12_laysSteps_62 ⟨by decide, by decide⟩ ?_
          refine gw_cVv (b := 208) (As := [g_I v1, g_I (-1)]) (rest := []) dX12_laysSteps_63 mv_X12_345 sh_208 rfl (Nat.le_of_ble_eq_true rfl) (by decide) rfl hF ?_
          intro D7 hF
          refine g_iconst dX12_laysSteps_66 ⟨by decide, by decide⟩ ?_
          refine gw_istore_n (L' := [some (g_R 208), some (g_I v1), some (g_I 0), some (g_I 0), none]) dX12_laysSteps_67 (by decide) rfl ?_
          exact hF
      · have hF := hF.2 q
        refine g_iconst dX12_laysSteps_44 ⟨by decide, by decide⟩ ?_
        refine g_goto dX12_laysSteps_45 rfl ?_
        refine gw_istore_n (L' := [some (g_R 208), some (g_I v1), some (g_I 1), none, none]) dX12_laysSteps_49 (by decide) rfl ?_
        refine g_aload_n dX12_laysSteps_50 rfl ?_
        refine g_iload_n dX12_laysSteps_51 rfl ?_
        refine g_iconst dX12_laysSteps_52 ⟨by decide, by decide⟩ ?_
        refine gw_cVi (b := 208) (As := [g_I v1, g_I 0]) (rest := []) dX12_laysSteps_53 mv_X12_336 sh_208 rfl (Nat.le_of_ble_eq_true rfl) (by decide) rfl hF ?_
        intro x8 D8 hx8 hF
        have hF := hF hx8
        refine g_iconst dX12_laysSteps_56 ⟨by decide, by decide⟩ ?_
        refine g_cne dX12_laysSteps_57 rfl (fun q => ?_) (fun q => ?_)
        · have hF := hF.1 q
          refine g_iconst dX12_laysSteps_66 ⟨by decide, by decide⟩ ?_
          refine gw_istore_n (L' := [some (g_R 208), some (g_I v1), some (g_I 1), some (g_I 0), none]) dX12_laysSteps_67 (by decide) rfl ?_
          exact hF
        · have hF := hF.2 q
          refine g_aload_n dX12_laysSteps_60 rfl ?_
          refine g_iload_n dX12_laysSteps_61 rfl ?_
          refine g_iconst dX12_laysSteps_62 ⟨by decide, by decide⟩ ?_
          refine gw_cVv (b := 208) (As := [g_I v1, g_I (-1)]) (rest := []) dX12_laysSteps_63 mv_X12_345 sh_208 rfl (Nat.le_of_ble_eq_true rfl) (by decide) rfl hF ?_
          intro D9 hF
          refine g_iconst dX12_laysSteps_66 ⟨by decide, by decide⟩ ?_
          refine gw_istore_n (L' := [some (g_R 208), some (g_I v1), some (g_I 1), some (g_I 0), none]) dX12_laysSteps_67 (by decide) rfl ?_
          exact hF
theorem s_X12_laysSteps_68 {E : g_E} {l : Launch} {D : g_D} {K : Int → g_D → Prop} {v1 : Int} {v2 : Int} {v3 : Int}  (hF : g_okD D → g_r v1 → g_r v2 → g_r v3 → (10 ≤ v3 → (g_r (v1 + 1)) ∧ (n_X12_laysSteps E l D 7 [some (g_R 208), some (g_I (v1 + 1)), none, none, none] K)) ∧ (¬ 10 ≤ v3 → (v2 = 0 → k_X12_writesBlock E l D v1 v3 (fun x1 D1 => g_r x1 → (x1 = 0 → (g_r (v3 + 1)) ∧ (n_X12_laysSteps E l D1 68 [some (g_R 208), some (g_I v1), some (g_I v2), some (g_I (v3 + 1)), none] K)) ∧ (¬ x1 = 0 → k_X12_laysStep E l D1 v1 v3 (fun D2 => (g_r (v3 + 1)) ∧ (n_X12_laysSteps E l D2 68 [some (g_R 208), some (g_I v1), some (g_I v2), some (g_I (v3 + 1)), none] K))))) ∧ (¬ v2 = 0 → (g_r (9 - v3)) ∧ (k_X12_writesBlock E l D v1 (9 - v3) (fun x3 D3 => g_r x3 → (x3 = 0 → (g_r (v3 + 1)) ∧ (n_X12_laysSteps E l D3 68 [some (g_R 208), some (g_I v1), some (g_I v2), some (g_I (v3 + 1)), none] K)) ∧ (¬ x3 = 0 → k_X12_laysStep E l D3 v1 (9 - v3) (fun D4 => (g_r (v3 + 1)) ∧ (n_X12_laysSteps E l D4 68 [some (g_R 208), some (g_I v1), some (g_I v2), some (g_I (v3 + 1)), none] K)))))))) : n_X12_laysSteps E l D 68 [some (g_R 208), some (g_I v1), some (g_I v2), some (g_I v3), none] K := by
  refine g_use (fun ok => ?_)
  have hF := hF ok.2.1 (ok.loc (i := 1) rfl) (ok.loc (i := 2) rfl) (ok.loc (i := 3) rfl)
  refine g_iload_n dX12_laysSteps_68 rfl ?_
  refine g_bipush dX12_laysSteps_69 ⟨by decide, by decide⟩ ?_
  refine g_cge dX12_laysSteps_71 rfl (fun q => ?_) (fun q => ?_)
  · have hF := hF.1 q
    obtain ⟨hc, hF⟩ := hF
    refine gw_iinc (L' := [some (g_R 208), some (g_I (v1 + 1)), some (g_I v2), some (g_I v3), none]) dX12_laysSteps_111 rfl hc (by decide) rfl ?_
    refine g_goto dX12_laysSteps_114 rfl ?_
    exact g_forget (L' := [some (g_R 208), some (g_I (v1 + 1)), none, none, none]) ⟨rfl, ⟨rfl, trivial⟩⟩ hF
  · have hF := hF.2 q
    refine g_iload_n dX12_laysSteps_74 rfl ?_
    refine g_ifeq dX12_laysSteps_75 rfl (fun q => ?_) (fun q => ?_)
    · have hF := hF.1 q
      refine g_iload_n dX12_laysSteps_85 rfl ?_
      refine gw_istore (L' := [some (g_R 208), some (g_I v1), some (g_I v2), some (g_I v3), some (g_I v3)]) dX12_laysSteps_86 (by decide) rfl ?_
      refine g_aload_n dX12_laysSteps_88 rfl ?_
      refine g_iload_n dX12_laysSteps_89 rfl ?_
      refine g_iload dX12_laysSteps_90 rfl ?_
      refine gw_cVi (b := 208) (As := [g_I v1, g_I v3]) (rest := []) dX12_laysSteps_92 mv_X12_348 sh_208 rfl (Nat.le_of_ble_eq_true rfl) (by decide) rfl hF ?_
      intro x1 D1 hx1 hF
      have hF := hF hx1
      refine g_ifeq dX12_laysSteps_95 rfl (fun q => ?_) (fun q => ?_)
      · have hF := hF.1 q
        obtain ⟨hc, hF⟩ := hF
        refine gw_iinc (L' := [some (g_R 208), some (g_I v1), some (g_I v2), some (g_I (v3 + 1)), some (g_I v3)]) dX12_laysSteps_105 rfl hc (by decide) rfl ?_
        refine g_goto dX12_laysSteps_108 rfl ?_
        exact g_forget (L' := [some (g_R 208), some (g_I v1), some (g_I v2), some (g_I (v3 + 1)), none]) ⟨rfl, ⟨rfl, ⟨rfl, ⟨rfl, trivial⟩⟩⟩⟩ hF
      · have hF := hF.2 q
        refine g_aload_n dX12_laysSteps_98 rfl ?_
        refine g_iload_n dX12_laysSteps_99 rfl ?_
        refine g_iload dX12_laysSteps_100 rfl ?_
        refine gw_cVv (b := 208) (As := [g_I v1, g_I v3]) (rest := []) dX12_laysSteps_102 mv_X12_345 sh_208 rfl (Nat.le_of_ble_eq_true rfl) (by decide) rfl hF ?_
        intro D2 hF
        obtain ⟨hc, hF⟩ := hF
        refine gw_iinc (L' := [some (g_R 208), some (g_I v1), some (g_I v2), some (g_I (v3 + 1)), some (g_I v3)]) dX12_laysSteps_105 rfl hc (by decide) rfl ?_
        refine g_goto dX12_laysSteps_108 rfl ?_
        exact g_forget (L' := [some (g_R 208), some (g_I v1), some (g_I v2), some (g_I (v3 + 1)), none]) ⟨rfl, ⟨rfl, ⟨rfl, ⟨rfl, trivial⟩⟩⟩⟩ hF
    · have hF := hF.2 q
      refine g_bipush dX12_laysSteps_78 ⟨by decide, by decide⟩ ?_
      refine g_iload_n dX12_laysSteps_80 rfl ?_
      obtain ⟨hc, hF⟩ := hF
      refine g_isub dX12_laysSteps_81 hc ?_
      refine g_goto dX12_laysSteps_82 rfl ?_
      refine gw_istore (L' := [some (g_R 208), some (g_I v1), some (g_I v2), some (g_I v3), some (g_I (9 - v3))]) dX12_laysSteps_86 (by decide) rfl ?_
      refine g_aload_n dX12_laysSteps_88 rfl ?_
      refine g_iload_n dX12_laysSteps_89 rfl ?_
      refine g_iload dX12_laysSteps_90 rfl ?_
      refine gw_cVi (b := 208) (As := [g_I v1, g_I (9 - v3)]) (rest := []) dX12_laysSteps_92 mv_X12_348 sh_208 rfl (Nat.le_of_ble_eq_true rfl) (by decide) rfl hF ?_
      intro x3 D3 hx3 hF
      have hF := hF hx3
      refine g_ifeq dX12_laysSteps_95 rfl (fun q => ?_) (fun q => ?_)
      · have hF := hF.1 q
        obtain ⟨hc, hF⟩ := hF
        refine gw_iinc (L' := [some (g_R 208), some (g_I v1), some (g_I v2), some (g_I (v3 + 1)), some (g_I (9 - v3))]) dX12_laysSteps_105 rfl hc (by decide) rfl ?_
        refine g_goto dX12_laysSteps_108 rfl ?_
        exact g_forget (L' := [some (g_R 208), some (g_I v1), some (g_I v2), some (g_I (v3 + 1)), none]) ⟨rfl, ⟨rfl, ⟨rfl, ⟨rfl, trivial⟩⟩⟩⟩ hF
      · have hF := hF.2 q
        refine g_aload_n dX12_laysSteps_98 rfl ?_
        refine g_iload_n dX12_laysSteps_99 rfl ?_
        refine g_iload dX12_laysSteps_100 rfl ?_
        refine gw_cVv (b := 208) (As := [g_I v1, g_I (9 - v3)]) (rest := []) dX12_laysSteps_102 mv_X12_345 sh_208 rfl (Nat.le_of_ble_eq_true rfl) (by decide) rfl hF ?_
        intro D4 hF
        obtain ⟨hc, hF⟩ := hF
        refine gw_iinc (L' := [some (g_R 208), some (g_I v1), some (g_I v2), some (g_I (v3 + 1)), some (g_I (9 - v3))]) dX12_laysSteps_105 rfl hc (by decide) rfl ?_
        refine g_goto dX12_laysSteps_108 rfl ?_
        exact g_forget (L' := [some (g_R 208), some (g_I v1), some (g_I v2), some (g_I (v3 + 1)), none]) ⟨rfl, ⟨rfl, ⟨rfl, ⟨rfl, trivial⟩⟩⟩⟩ hF
theorem dX12_savesCells_0 : decode cX12_savesCells 0 = .ok (.aload_n 0, 1) := by decide +kernel
theorem dX12_savesCells_1 : decode cX12_savesCells 1 = .ok (.getfield 96, 3) := by decide +kernel
theorem dX12_savesCells_4 : decode cX12_savesCells 4 = .ok (.iload_n 1, 1) := by decide +kernel
theorem dX12_savesCells_5 : decode cX12_savesCells 5 = .ok (.iaload, 1) := by decide +kernel
theorem dX12_savesCells_6 : decode cX12_savesCells 6 = .ok (.istore_n 3, 1) := by decide +kernel
theorem dX12_savesCells_7 : decode cX12_savesCells 7 = .ok (.iconst 0, 1) := by decide +kernel
theorem dX12_savesCells_8 : decode cX12_savesCells 8 = .ok (.istore 4, 2) := by decide +kernel
theorem dX12_savesCells_10 : decode cX12_savesCells 10 = .ok (.iload 4, 2) := by decide +kernel
theorem dX12_savesCells_12 : decode cX12_savesCells 12 = .ok (.iload_n 2, 1) := by decide +kernel
theorem dX12_savesCells_13 : decode cX12_savesCells 13 = .ok (.if_icmp .ge 51, 3) := by decide +kernel
theorem dX12_savesCells_16 : decode cX12_savesCells 16 = .ok (.iload 4, 2) := by decide +kernel
theorem dX12_savesCells_18 : decode cX12_savesCells 18 = .ok (.aload_n 0, 1) := by decide +kernel
theorem dX12_savesCells_19 : decode cX12_savesCells 19 = .ok (.iload_n 3, 1) := by decide +kernel
theorem dX12_savesCells_20 : decode cX12_savesCells 20 = .ok (.iconst 3, 1) := by decide +kernel
theorem dX12_savesCells_21 : decode cX12_savesCells 21 = .ok (.invokevirtual 336, 3) := by decide +kernel
theorem dX12_savesCells_24 : decode cX12_savesCells 24 = .ok (.if_icmp .ge 40, 3) := by decide +kernel
theorem dX12_savesCells_27 : decode cX12_savesCells 27 = .ok (.aload_n 0, 1) := by decide +kernel
theorem dX12_savesCells_28 : decode cX12_savesCells 28 = .ok (.getfield 108, 3) := by decide +kernel
theorem dX12_savesCells_31 : decode cX12_savesCells 31 = .ok (.bipush 40, 2) := by decide +kernel
theorem dX12_savesCells_33 : decode cX12_savesCells 33 = .ok (.aload_n 0, 1) := by decide +kernel
theorem dX12_savesCells_34 : decode cX12_savesCells 34 = .ok (.iload_n 3, 1) := by decide +kernel
theorem dX12_savesCells_35 : decode cX12_savesCells 35 = .ok (.iconst 1, 1) := by decide +kernel
theorem dX12_savesCells_36 : decode cX12_savesCells 36 = .ok (.invokevirtual 336, 3) := by decide +kernel
theorem dX12_savesCells_39 : decode cX12_savesCells 39 = .ok (.iadd, 1) := by decide +kernel
theorem dX12_savesCells_40 : decode cX12_savesCells 40 = .ok (.iload 4, 2) := by decide +kernel
theorem dX12_savesCells_42 : decode cX12_savesCells 42 = .ok (.iadd, 1) := by decide +kernel
theorem dX12_savesCells_43 : decode cX12_savesCells 43 = .ok (.aload_n 0, 1) := by decide +kernel
theorem dX12_savesCells_44 : decode cX12_savesCells 44 = .ok (.getfield 108, 3) := by decide +kernel
theorem dX12_savesCells_47 : decode cX12_savesCells 47 = .ok (.aload_n 0, 1) := by decide +kernel
theorem dX12_savesCells_48 : decode cX12_savesCells 48 = .ok (.iload_n 3, 1) := by decide +kernel
theorem dX12_savesCells_49 : decode cX12_savesCells 49 = .ok (.iconst 2, 1) := by decide +kernel
theorem dX12_savesCells_50 : decode cX12_savesCells 50 = .ok (.invokevirtual 336, 3) := by decide +kernel
theorem dX12_savesCells_53 : decode cX12_savesCells 53 = .ok (.iload 4, 2) := by decide +kernel
theorem dX12_savesCells_55 : decode cX12_savesCells 55 = .ok (.iadd, 1) := by decide +kernel
theorem dX12_savesCells_56 : decode cX12_savesCells 56 = .ok (.iaload, 1) := by decide +kernel
theorem dX12_savesCells_57 : decode cX12_savesCells 57 = .ok (.iastore, 1) := by decide +kernel
theorem dX12_savesCells_58 : decode cX12_savesCells 58 = .ok (.iinc 4 1, 3) := by decide +kernel
theorem dX12_savesCells_61 : decode cX12_savesCells 61 = .ok (.goto (-51), 3) := by decide +kernel
theorem dX12_savesCells_64 : decode cX12_savesCells 64 = .ok (.return_, 1) := by decide +kernel
abbrev k_X12_savesCells (E : g_E) (l : Launch) (D : g_D) (v1 : Int) (v2 : Int) (K : g_D → Prop) : Prop := g_Kv E l m_X12_savesCells 1 [g_R 208, g_I v1, g_I v2] g_SH D K
abbrev n_X12_savesCells (E : g_E) (l : Launch) (D : g_D) (pc : Nat) (L : List (Option g_V)) (K : g_D → Prop) : Prop := g_N E l m_X12_savesCells 1 pc L [] g_SH D (g_Rv g_SH K)
theorem s_X12_savesCells {E : g_E} {l : Launch} {D : g_D} {K : g_D → Prop} {v1 : Int} {v2 : Int}  (hF : g_okD D → g_r v1 → g_r v2 → (0 ≤ v1 ∧ v1 < 400) ∧ (n_X12_savesCells E l D 10 [some (g_R 208), none, some (g_I v2), some (g_I (D 235 v1.toNat)), some (g_I 0)] K)) : k_X12_savesCells E l D v1 v2 K := by
  refine g_enter (by decide) (Nat.le_of_ble_eq_true rfl) ?_
  show g_N E l m_X12_savesCells 1 0 [some (g_R 208), some (g_I v1), some (g_I v2), none, none] [] g_SH D (g_Rv g_SH K)
  refine g_use (fun ok => ?_)
  have hF := hF ok.2.1 (ok.loc (i := 1) rfl) (ok.loc (i := 2) rfl)
  refine g_aload_n dX12_savesCells_0 rfl ?_
  refine g_getR dX12_savesCells_1 fd_X12_96 sh_208 rfl ?_
  refine g_iload_n dX12_savesCells_4 rfl ?_
  obtain ⟨hc, hF⟩ := hF
  refine g_iald dX12_savesCells_5 sh_235 hc.1 hc.2 ?_
  refine gw_istore_n (L' := [some (g_R 208), some (g_I v1), some (g_I v2), some (g_I (D 235 v1.toNat)), none]) dX12_savesCells_6 (by decide) rfl ?_
  refine g_iconst dX12_savesCells_7 ⟨by decide, by decide⟩ ?_
  refine gw_istore (L' := [some (g_R 208), some (g_I v1), some (g_I v2), some (g_I (D 235 v1.toNat)), some (g_I 0)]) dX12_savesCells_8 (by decide) rfl ?_
  exact g_forget (L' := [some (g_R 208), none, some (g_I v2), some (g_I (D 235 v1.toNat)), some (g_I 0)]) ⟨rfl, ⟨rfl, ⟨rfl, ⟨rfl, trivial⟩⟩⟩⟩ hF
theorem s_X12_savesCells_10 {E : g_E} {l : Launch} {D : g_D} {K : g_D → Prop} {v2 : Int} {v3 : Int} {v4 : Int}  (hF : g_okD D → g_r v2 → g_r v3 → g_r v4 → (v2 ≤ v4 → K D) ∧ (¬ v2 ≤ v4 → k_X12_actNow E l D v3 3 (fun x1 D1 => g_r x1 → (x1 ≤ v4 → K D1) ∧ (¬ x1 ≤ v4 → k_X12_actNow E l D1 v3 1 (fun x2 D2 => g_r x2 → (g_r (40 + x2)) ∧ ((g_r ((40 + x2) + v4)) ∧ (k_X12_actNow E l D2 v3 2 (fun x3 D3 => g_r x3 → (g_r (x3 + v4)) ∧ ((0 ≤ (x3 + v4) ∧ (x3 + v4) < 60) ∧ ((0 ≤ ((40 + x2) + v4) ∧ ((40 + x2) + v4) < 60) ∧ (∀ D4, D4 = g_up D3 239 ((40 + x2) + v4).toNat (D3 239 (x3 + v4).toNat) → ((g_r (v4 + 1)) ∧ (n_X12_savesCells E l D4 10 [some (g_R 208), none, some (g_I v2), some (g_I v3), some (g_I (v4 + 1))] K))))))))))))) : n_X12_savesCells E l D 10 [some (g_R 208), none, some (g_I v2), some (g_I v3), some (g_I v4)] K := by
  refine g_use (fun ok => ?_)
  have hF := hF ok.2.1 (ok.loc (i := 2) rfl) (ok.loc (i := 3) rfl) (ok.loc (i := 4) rfl)
  refine g_iload dX12_savesCells_10 rfl ?_
  refine g_iload_n dX12_savesCells_12 rfl ?_
  refine g_cge dX12_savesCells_13 rfl (fun q => ?_) (fun q => ?_)
  · have hF := hF.1 q
    exact gw_vret dX12_savesCells_64 rfl hF
  · have hF := hF.2 q
    refine g_iload dX12_savesCells_16 rfl ?_
    refine g_aload_n dX12_savesCells_18 rfl ?_
    refine g_iload_n dX12_savesCells_19 rfl ?_
    refine g_iconst dX12_savesCells_20 ⟨by decide, by decide⟩ ?_
    refine gw_cVi (b := 208) (As := [g_I v3, g_I 3]) (rest := [g_I v4]) dX12_savesCells_21 mv_X12_336 sh_208 rfl (Nat.le_of_ble_eq_true rfl) (by decide) rfl hF ?_
    intro x1 D1 hx1 hF
    have hF := hF hx1
    refine g_cge dX12_savesCells_24 rfl (fun q => ?_) (fun q => ?_)
    · have hF := hF.1 q
      exact gw_vret dX12_savesCells_64 rfl hF
    · have hF := hF.2 q
      refine g_aload_n dX12_savesCells_27 rfl ?_
      refine g_getR dX12_savesCells_28 fd_X12_108 sh_208 rfl ?_
      refine g_bipush dX12_savesCells_31 ⟨by decide, by decide⟩ ?_
      refine g_aload_n dX12_savesCells_33 rfl ?_
      refine g_iload_n dX12_savesCells_34 rfl ?_
      refine g_iconst dX12_savesCells_35 ⟨by decide, by decide⟩ ?_
      refine gw_cVi (b := 208) (As := [g_I v3, g_I 1]) (rest := [g_I 40, g_R 239]) dX12_savesCells_36 mv_X12_336 sh_208 rfl (Nat.le_of_ble_eq_true rfl) (by decide) rfl hF ?_
      intro x2 D2 hx2 hF
      have hF := hF hx2
      obtain ⟨hc, hF⟩ := hF
      refine g_iadd dX12_savesCells_39 hc ?_
      refine g_iload dX12_savesCells_40 rfl ?_
      obtain ⟨hc, hF⟩ := hF
      refine g_iadd dX12_savesCells_42 hc ?_
      refine g_aload_n dX12_savesCells_43 rfl ?_
      refine g_getR dX12_savesCells_44 fd_X12_108 sh_208 rfl ?_
      refine g_aload_n dX12_savesCells_47 rfl ?_
      refine g_iload_n dX12_savesCells_48 rfl ?_
      refine g_iconst dX12_savesCells_49 ⟨by decide, by decide⟩ ?_
      refine gw_cVi (b := 208) (As := [g_I v3, g_I 2]) (rest := [g_R 239, g_I ((40 + x2) + v4), g_R 239]) dX12_savesCells_50 mv_X12_336 sh_208 rfl (Nat.le_of_ble_eq_true rfl) (by decide) rfl hF ?_
      intro x3 D3 hx3 hF
      have hF := hF hx3
      refine g_iload dX12_savesCells_53 rfl ?_
      obtain ⟨hc, hF⟩ := hF
      refine g_iadd dX12_savesCells_55 hc ?_
      obtain ⟨hc, hF⟩ := hF
      refine g_iald dX12_savesCells_56 sh_239 hc.1 hc.2 ?_
      obtain ⟨hc, hF⟩ := hF
      let D4 : g_D := g_up D3 239 ((40 + x2) + v4).toNat (D3 239 (x3 + v4).toNat)
      have hF := hF D4 rfl
      refine g_iast dX12_savesCells_57 sh_239 hc.1 hc.2 ?_
      obtain ⟨hc, hF⟩ := hF
      refine gw_iinc (L' := [some (g_R 208), none, some (g_I v2), some (g_I v3), some (g_I (v4 + 1))]) dX12_savesCells_58 rfl hc (by decide) rfl ?_
      refine g_goto dX12_savesCells_61 rfl ?_
      exact hF
theorem dX12_readsNow_0 : decode cX12_readsNow 0 = .ok (.iload_n 2, 1) := by decide +kernel
theorem dX12_readsNow_1 : decode cX12_readsNow 1 = .ok (.aload_n 0, 1) := by decide +kernel
theorem dX12_readsNow_2 : decode cX12_readsNow 2 = .ok (.iload_n 1, 1) := by decide +kernel
theorem dX12_readsNow_3 : decode cX12_readsNow 3 = .ok (.iconst 1, 1) := by decide +kernel
theorem dX12_readsNow_4 : decode cX12_readsNow 4 = .ok (.invokevirtual 336, 3) := by decide +kernel
theorem dX12_readsNow_7 : decode cX12_readsNow 7 = .ok (.isub, 1) := by decide +kernel
theorem dX12_readsNow_8 : decode cX12_readsNow 8 = .ok (.istore_n 3, 1) := by decide +kernel
theorem dX12_readsNow_9 : decode cX12_readsNow 9 = .ok (.aload_n 0, 1) := by decide +kernel
theorem dX12_readsNow_10 : decode cX12_readsNow 10 = .ok (.iload_n 1, 1) := by decide +kernel
theorem dX12_readsNow_11 : decode cX12_readsNow 11 = .ok (.iconst 2, 1) := by decide +kernel
theorem dX12_readsNow_12 : decode cX12_readsNow 12 = .ok (.invokevirtual 336, 3) := by decide +kernel
theorem dX12_readsNow_15 : decode cX12_readsNow 15 = .ok (.iload_n 3, 1) := by decide +kernel
theorem dX12_readsNow_16 : decode cX12_readsNow 16 = .ok (.iadd, 1) := by decide +kernel
theorem dX12_readsNow_17 : decode cX12_readsNow 17 = .ok (.istore 4, 2) := by decide +kernel
theorem dX12_readsNow_19 : decode cX12_readsNow 19 = .ok (.aload_n 0, 1) := by decide +kernel
theorem dX12_readsNow_20 : decode cX12_readsNow 20 = .ok (.iload_n 1, 1) := by decide +kernel
theorem dX12_readsNow_21 : decode cX12_readsNow 21 = .ok (.iconst 0, 1) := by decide +kernel
theorem dX12_readsNow_22 : decode cX12_readsNow 22 = .ok (.invokevirtual 336, 3) := by decide +kernel
theorem dX12_readsNow_25 : decode cX12_readsNow 25 = .ok (.iconst 2, 1) := by decide +kernel
theorem dX12_readsNow_26 : decode cX12_readsNow 26 = .ok (.if_icmp .ne 13, 3) := by decide +kernel
theorem dX12_readsNow_29 : decode cX12_readsNow 29 = .ok (.aload_n 0, 1) := by decide +kernel
theorem dX12_readsNow_30 : decode cX12_readsNow 30 = .ok (.getfield 108, 3) := by decide +kernel
theorem dX12_readsNow_33 : decode cX12_readsNow 33 = .ok (.iload 4, 2) := by decide +kernel
theorem dX12_readsNow_35 : decode cX12_readsNow 35 = .ok (.iaload, 1) := by decide +kernel
theorem dX12_readsNow_36 : decode cX12_readsNow 36 = .ok (.goto 37, 3) := by decide +kernel
theorem dX12_readsNow_39 : decode cX12_readsNow 39 = .ok (.aload_n 0, 1) := by decide +kernel
theorem dX12_readsNow_40 : decode cX12_readsNow 40 = .ok (.iload_n 1, 1) := by decide +kernel
theorem dX12_readsNow_41 : decode cX12_readsNow 41 = .ok (.iconst 0, 1) := by decide +kernel
theorem dX12_readsNow_42 : decode cX12_readsNow 42 = .ok (.invokevirtual 336, 3) := by decide +kernel
theorem dX12_readsNow_45 : decode cX12_readsNow 45 = .ok (.iconst 3, 1) := by decide +kernel
theorem dX12_readsNow_46 : decode cX12_readsNow 46 = .ok (.if_icmp .ne 16, 3) := by decide +kernel
theorem dX12_readsNow_49 : decode cX12_readsNow 49 = .ok (.aload_n 0, 1) := by decide +kernel
theorem dX12_readsNow_50 : decode cX12_readsNow 50 = .ok (.getfield 108, 3) := by decide +kernel
theorem dX12_readsNow_53 : decode cX12_readsNow 53 = .ok (.bipush 40, 2) := by decide +kernel
theorem dX12_readsNow_55 : decode cX12_readsNow 55 = .ok (.iload 4, 2) := by decide +kernel
theorem dX12_readsNow_57 : decode cX12_readsNow 57 = .ok (.iadd, 1) := by decide +kernel
theorem dX12_readsNow_58 : decode cX12_readsNow 58 = .ok (.iaload, 1) := by decide +kernel
theorem dX12_readsNow_59 : decode cX12_readsNow 59 = .ok (.goto 14, 3) := by decide +kernel
theorem dX12_readsNow_62 : decode cX12_readsNow 62 = .ok (.aload_n 0, 1) := by decide +kernel
theorem dX12_readsNow_63 : decode cX12_readsNow 63 = .ok (.getfield 13, 3) := by decide +kernel
theorem dX12_readsNow_66 : decode cX12_readsNow 66 = .ok (.sipush 358, 3) := by decide +kernel
theorem dX12_readsNow_69 : decode cX12_readsNow 69 = .ok (.iload 4, 2) := by decide +kernel
theorem dX12_readsNow_71 : decode cX12_readsNow 71 = .ok (.iadd, 1) := by decide +kernel
theorem dX12_readsNow_72 : decode cX12_readsNow 72 = .ok (.iaload, 1) := by decide +kernel
theorem dX12_readsNow_73 : decode cX12_readsNow 73 = .ok (.ireturn, 1) := by decide +kernel
abbrev k_X12_readsNow (E : g_E) (l : Launch) (D : g_D) (v1 : Int) (v2 : Int) (K : Int → g_D → Prop) : Prop := g_Ki E l m_X12_readsNow 1 [g_R 208, g_I v1, g_I v2] g_SH D K
abbrev n_X12_readsNow (E : g_E) (l : Launch) (D : g_D) (pc : Nat) (L : List (Option g_V)) (K : Int → g_D → Prop) : Prop := g_N E l m_X12_readsNow 1 pc L [] g_SH D (g_Ri g_SH K)
theorem s_X12_readsNow {E : g_E} {l : Launch} {D : g_D} {K : Int → g_D → Prop} {v1 : Int} {v2 : Int}  (hF : g_okD D → g_r v1 → g_r v2 → k_X12_actNow E l D v1 1 (fun x1 D1 => g_r x1 → (g_r (v2 - x1)) ∧ (k_X12_actNow E l D1 v1 2 (fun x2 D2 => g_r x2 → (g_r (x2 + (v2 - x1))) ∧ (k_X12_actNow E l D2 v1 0 (fun x3 D3 => g_r x3 → (¬ x3 = 2 → k_X12_actNow E l D3 v1 0 (fun x4 D4 => g_r x4 → (¬ x4 = 3 → (g_r (358 + (x2 + (v2 - x1)))) ∧ ((0 ≤ (358 + (x2 + (v2 - x1))) ∧ (358 + (x2 + (v2 - x1))) < 1557) ∧ (K (D4 209 (358 + (x2 + (v2 - x1))).toNat) D4))) ∧ (x4 = 3 → (g_r (40 + (x2 + (v2 - x1)))) ∧ ((0 ≤ (40 + (x2 + (v2 - x1))) ∧ (40 + (x2 + (v2 - x1))) < 60) ∧ (K (D4 239 (40 + (x2 + (v2 - x1))).toNat) D4))))) ∧ (x3 = 2 → (0 ≤ (x2 + (v2 - x1)) ∧ (x2 + (v2 - x1)) < 60) ∧ (K (D3 239 (x2 + (v2 - x1)).toNat) D3)))))))) : k_X12_readsNow E l D v1 v2 K := by
  refine g_enter (by decide) (Nat.le_of_ble_eq_true rfl) ?_
  show g_N E l m_X12_readsNow 1 0 [some (g_R 208), some (g_I v1), some (g_I v2), none, none] [] g_SH D (g_Ri g_SH K)
  refine g_use (fun ok => ?_)
  have hF := hF ok.2.1 (ok.loc (i := 1) rfl) (ok.loc (i := 2) rfl)
  refine g_iload_n dX12_readsNow_0 rfl ?_
  refine g_aload_n dX12_readsNow_1 rfl ?_
  refine g_iload_n dX12_readsNow_2 rfl ?_
  refine g_iconst dX12_readsNow_3 ⟨by decide, by decide⟩ ?_
  refine gw_cVi (b := 208) (As := [g_I v1, g_I 1]) (rest := [g_I v2]) dX12_readsNow_4 mv_X12_336 sh_208 rfl (Nat.le_of_ble_eq_true rfl) (by decide) rfl hF ?_
  intro x1 D1 hx1 hF
  have hF := hF hx1
  obtain ⟨hc, hF⟩ := hF
  refine g_isub dX12_readsNow_7 hc ?_
  refine gw_istore_n (L' := [some (g_R 208), some (g_I v1), some (g_I v2), some (g_I (v2 - x1)), none]) dX12_readsNow_8 (by decide) rfl ?_
  refine g_aload_n dX12_readsNow_9 rfl ?_
  refine g_iload_n dX12_readsNow_10 rfl ?_
  refine g_iconst dX12_readsNow_11 ⟨by decide, by decide⟩ ?_
  refine gw_cVi (b := 208) (As := [g_I v1, g_I 2]) (rest := []) dX12_readsNow_12 mv_X12_336 sh_208 rfl (Nat.le_of_ble_eq_true rfl) (by decide) rfl hF ?_
  intro x2 D2 hx2 hF
  have hF := hF hx2
  refine g_iload_n dX12_readsNow_15 rfl ?_
  obtain ⟨hc, hF⟩ := hF
  refine g_iadd dX12_readsNow_16 hc ?_
  refine gw_istore (L' := [some (g_R 208), some (g_I v1), some (g_I v2), some (g_I (v2 - x1)), some (g_I (x2 + (v2 - x1)))]) dX12_readsNow_17 (by decide) rfl ?_
  refine g_aload_n dX12_readsNow_19 rfl ?_
  refine g_iload_n dX12_readsNow_20 rfl ?_
  refine g_iconst dX12_readsNow_21 ⟨by decide, by decide⟩ ?_
  refine gw_cVi (b := 208) (As := [g_I v1, g_I 0]) (rest := []) dX12_readsNow_22 mv_X12_336 sh_208 rfl (Nat.le_of_ble_eq_true rfl) (by decide) rfl hF ?_
  intro x3 D3 hx3 hF
  have hF := hF hx3
  refine g_iconst dX12_readsNow_25 ⟨by decide, by decide⟩ ?_
  refine g_cne dX12_readsNow_26 rfl (fun q => ?_) (fun q => ?_)
  · have hF := hF.1 q
    refine g_aload_n dX12_readsNow_39 rfl ?_
    refine g_iload_n dX12_readsNow_40 rfl ?_
    refine g_iconst dX12_readsNow_41 ⟨by decide, by decide⟩ ?_
    refine gw_cVi (b := 208) (As := [g_I v1, g_I 0]) (rest := []) dX12_readsNow_42 mv_X12_336 sh_208 rfl (Nat.le_of_ble_eq_true rfl) (by decide) rfl hF ?_
    intro x4 D4 hx4 hF
    have hF := hF hx4
    refine g_iconst dX12_readsNow_45 ⟨by decide, by decide⟩ ?_
    refine g_cne dX12_readsNow_46 rfl (fun q => ?_) (fun q => ?_)
    · have hF := hF.1 q
      refine g_aload_n dX12_readsNow_62 rfl ?_
      refine g_getR dX12_readsNow_63 fd_X12_13 sh_208 rfl ?_
      refine g_sipush dX12_readsNow_66 ⟨by decide, by decide⟩ ?_
      refine g_iload dX12_readsNow_69 rfl ?_
      obtain ⟨hc, hF⟩ := hF
      refine g_iadd dX12_readsNow_71 hc ?_
      obtain ⟨hc, hF⟩ := hF
      refine g_iald dX12_readsNow_72 sh_209 hc.1 hc.2 ?_
      exact gw_iret dX12_readsNow_73 rfl hF
    · have hF := hF.2 q
      refine g_aload_n dX12_readsNow_49 rfl ?_
      refine g_getR dX12_readsNow_50 fd_X12_108 sh_208 rfl ?_
      refine g_bipush dX12_readsNow_53 ⟨by decide, by decide⟩ ?_
      refine g_iload dX12_readsNow_55 rfl ?_
      obtain ⟨hc, hF⟩ := hF
      refine g_iadd dX12_readsNow_57 hc ?_
      obtain ⟨hc, hF⟩ := hF
      refine g_iald dX12_readsNow_58 sh_239 hc.1 hc.2 ?_
      refine g_goto dX12_readsNow_59 rfl ?_
      exact gw_iret dX12_readsNow_73 rfl hF
  · have hF := hF.2 q
    refine g_aload_n dX12_readsNow_29 rfl ?_
    refine g_getR dX12_readsNow_30 fd_X12_108 sh_208 rfl ?_
    refine g_iload dX12_readsNow_33 rfl ?_
    obtain ⟨hc, hF⟩ := hF
    refine g_iald dX12_readsNow_35 sh_239 hc.1 hc.2 ?_
    refine g_goto dX12_readsNow_36 rfl ?_
    exact gw_iret dX12_readsNow_73 rfl hF
theorem dX12_laysNewCells_0 : decode cX12_laysNewCells 0 = .ok (.iconst 0, 1) := by decide +kernel
theorem dX12_laysNewCells_1 : decode cX12_laysNewCells 1 = .ok (.istore_n 2, 1) := by decide +kernel
theorem dX12_laysNewCells_2 : decode cX12_laysNewCells 2 = .ok (.iload_n 2, 1) := by decide +kernel
theorem dX12_laysNewCells_3 : decode cX12_laysNewCells 3 = .ok (.iconst 4, 1) := by decide +kernel
theorem dX12_laysNewCells_4 : decode cX12_laysNewCells 4 = .ok (.if_icmp .ge 60, 3) := by decide +kernel
theorem dX12_laysNewCells_7 : decode cX12_laysNewCells 7 = .ok (.iconst 4, 1) := by decide +kernel
theorem dX12_laysNewCells_8 : decode cX12_laysNewCells 8 = .ok (.aload_n 0, 1) := by decide +kernel
theorem dX12_laysNewCells_9 : decode cX12_laysNewCells 9 = .ok (.getfield 99, 3) := by decide +kernel
theorem dX12_laysNewCells_12 : decode cX12_laysNewCells 12 = .ok (.iload_n 1, 1) := by decide +kernel
theorem dX12_laysNewCells_13 : decode cX12_laysNewCells 13 = .ok (.iaload, 1) := by decide +kernel
theorem dX12_laysNewCells_14 : decode cX12_laysNewCells 14 = .ok (.imul, 1) := by decide +kernel
theorem dX12_laysNewCells_15 : decode cX12_laysNewCells 15 = .ok (.iload_n 2, 1) := by decide +kernel
theorem dX12_laysNewCells_16 : decode cX12_laysNewCells 16 = .ok (.iadd, 1) := by decide +kernel
theorem dX12_laysNewCells_17 : decode cX12_laysNewCells 17 = .ok (.istore_n 3, 1) := by decide +kernel
theorem dX12_laysNewCells_18 : decode cX12_laysNewCells 18 = .ok (.aload_n 0, 1) := by decide +kernel
theorem dX12_laysNewCells_19 : decode cX12_laysNewCells 19 = .ok (.getfield 111, 3) := by decide +kernel
theorem dX12_laysNewCells_22 : decode cX12_laysNewCells 22 = .ok (.iload_n 2, 1) := by decide +kernel
theorem dX12_laysNewCells_23 : decode cX12_laysNewCells 23 = .ok (.aload_n 0, 1) := by decide +kernel
theorem dX12_laysNewCells_24 : decode cX12_laysNewCells 24 = .ok (.aload_n 0, 1) := by decide +kernel
theorem dX12_laysNewCells_25 : decode cX12_laysNewCells 25 = .ok (.getfield 96, 3) := by decide +kernel
theorem dX12_laysNewCells_28 : decode cX12_laysNewCells 28 = .ok (.iload_n 1, 1) := by decide +kernel
theorem dX12_laysNewCells_29 : decode cX12_laysNewCells 29 = .ok (.iaload, 1) := by decide +kernel
theorem dX12_laysNewCells_30 : decode cX12_laysNewCells 30 = .ok (.iload_n 3, 1) := by decide +kernel
theorem dX12_laysNewCells_31 : decode cX12_laysNewCells 31 = .ok (.invokevirtual 339, 3) := by decide +kernel
theorem dX12_laysNewCells_34 : decode cX12_laysNewCells 34 = .ok (.ifCond .eq 17, 3) := by decide +kernel
theorem dX12_laysNewCells_37 : decode cX12_laysNewCells 37 = .ok (.aload_n 0, 1) := by decide +kernel
theorem dX12_laysNewCells_38 : decode cX12_laysNewCells 38 = .ok (.aload_n 0, 1) := by decide +kernel
theorem dX12_laysNewCells_39 : decode cX12_laysNewCells 39 = .ok (.getfield 96, 3) := by decide +kernel
theorem dX12_laysNewCells_42 : decode cX12_laysNewCells 42 = .ok (.iload_n 1, 1) := by decide +kernel
theorem dX12_laysNewCells_43 : decode cX12_laysNewCells 43 = .ok (.iaload, 1) := by decide +kernel
theorem dX12_laysNewCells_44 : decode cX12_laysNewCells 44 = .ok (.iload_n 3, 1) := by decide +kernel
theorem dX12_laysNewCells_45 : decode cX12_laysNewCells 45 = .ok (.invokevirtual 351, 3) := by decide +kernel
theorem dX12_laysNewCells_48 : decode cX12_laysNewCells 48 = .ok (.goto 9, 3) := by decide +kernel
theorem dX12_laysNewCells_51 : decode cX12_laysNewCells 51 = .ok (.aload_n 0, 1) := by decide +kernel
theorem dX12_laysNewCells_52 : decode cX12_laysNewCells 52 = .ok (.getfield 108, 3) := by decide +kernel
theorem dX12_laysNewCells_55 : decode cX12_laysNewCells 55 = .ok (.iload_n 3, 1) := by decide +kernel
theorem dX12_laysNewCells_56 : decode cX12_laysNewCells 56 = .ok (.iaload, 1) := by decide +kernel
theorem dX12_laysNewCells_57 : decode cX12_laysNewCells 57 = .ok (.iastore, 1) := by decide +kernel
theorem dX12_laysNewCells_58 : decode cX12_laysNewCells 58 = .ok (.iinc 2 1, 3) := by decide +kernel
theorem dX12_laysNewCells_61 : decode cX12_laysNewCells 61 = .ok (.goto (-59), 3) := by decide +kernel
theorem dX12_laysNewCells_64 : decode cX12_laysNewCells 64 = .ok (.return_, 1) := by decide +kernel
abbrev k_X12_laysNewCells (E : g_E) (l : Launch) (D : g_D) (v1 : Int) (K : g_D → Prop) : Prop := g_Kv E l m_X12_laysNewCells 2 [g_R 208, g_I v1] g_SH D K
abbrev n_X12_laysNewCells (E : g_E) (l : Launch) (D : g_D) (pc : Nat) (L : List (Option g_V)) (K : g_D → Prop) : Prop := g_N E l m_X12_laysNewCells 2 pc L [] g_SH D (g_Rv g_SH K)
theorem s_X12_laysNewCells {E : g_E} {l : Launch} {D : g_D} {K : g_D → Prop} {v1 : Int}  (hF : g_okD D → g_r v1 → n_X12_laysNewCells E l D 2 [some (g_R 208), some (g_I v1), some (g_I 0), none] K) : k_X12_laysNewCells E l D v1 K := by
  refine g_enter (by decide) (Nat.le_of_ble_eq_true rfl) ?_
  show g_N E l m_X12_laysNewCells 2 0 [some (g_R 208), some (g_I v1), none, none] [] g_SH D (g_Rv g_SH K)
  refine g_use (fun ok => ?_)
  have hF := hF ok.2.1 (ok.loc (i := 1) rfl)
  refine g_iconst dX12_laysNewCells_0 ⟨by decide, by decide⟩ ?_
  refine gw_istore_n (L' := [some (g_R 208), some (g_I v1), some (g_I 0), none]) dX12_laysNewCells_1 (by decide) rfl ?_
  exact hF
theorem s_X12_laysNewCells_2 {E : g_E} {l : Launch} {D : g_D} {K : g_D → Prop} {v1 : Int} {v2 : Int}  (hF : g_okD D → g_r v1 → g_r v2 → (4 ≤ v2 → K D) ∧ (¬ 4 ≤ v2 → (0 ≤ v1 ∧ v1 < 400) ∧ ((g_r (4 * (D 236 v1.toNat))) ∧ ((g_r ((4 * (D 236 v1.toNat)) + v2)) ∧ ((0 ≤ v1 ∧ v1 < 400) ∧ (k_X12_writes E l D (D 235 v1.toNat) ((4 * (D 236 v1.toNat)) + v2) (fun x1 D1 => g_r x1 → (x1 = 0 → (0 ≤ ((4 * (D 236 v1.toNat)) + v2) ∧ ((4 * (D 236 v1.toNat)) + v2) < 60) ∧ ((0 ≤ v2 ∧ v2 < 4) ∧ (∀ D2, D2 = g_up D1 240 v2.toNat (D1 239 ((4 * (D 236 v1.toNat)) + v2).toNat) → ((g_r (v2 + 1)) ∧ (n_X12_laysNewCells E l D2 2 [some (g_R 208), some (g_I v1), some (g_I (v2 + 1)), none] K))))) ∧ (¬ x1 = 0 → (0 ≤ v1 ∧ v1 < 400) ∧ (k_X12_readsNow E l D1 (D1 235 v1.toNat) ((4 * (D 236 v1.toNat)) + v2) (fun x3 D3 => g_r x3 → (0 ≤ v2 ∧ v2 < 4) ∧ (∀ D4, D4 = g_up D3 240 v2.toNat x3 → ((g_r (v2 + 1)) ∧ (n_X12_laysNewCells E l D4 2 [some (g_R 208), some (g_I v1), some (g_I (v2 + 1)), none] K))))))))))))) : n_X12_laysNewCells E l D 2 [some (g_R 208), some (g_I v1), some (g_I v2), none] K := by
  refine g_use (fun ok => ?_)
  have hF := hF ok.2.1 (ok.loc (i := 1) rfl) (ok.loc (i := 2) rfl)
  refine g_iload_n dX12_laysNewCells_2 rfl ?_
  refine g_iconst dX12_laysNewCells_3 ⟨by decide, by decide⟩ ?_
  refine g_cge dX12_laysNewCells_4 rfl (fun q => ?_) (fun q => ?_)
  · have hF := hF.1 q
    exact gw_vret dX12_laysNewCells_64 rfl hF
  · have hF := hF.2 q
    refine g_iconst dX12_laysNewCells_7 ⟨by decide, by decide⟩ ?_
    refine g_aload_n dX12_laysNewCells_8 rfl ?_
    refine g_getR dX12_laysNewCells_9 fd_X12_99 sh_208 rfl ?_
    refine g_iload_n dX12_laysNewCells_12 rfl ?_
    obtain ⟨hc, hF⟩ := hF
    refine g_iald dX12_laysNewCells_13 sh_236 hc.1 hc.2 ?_
    obtain ⟨hc, hF⟩ := hF
    refine g_imul dX12_laysNewCells_14 hc ?_
    refine g_iload_n dX12_laysNewCells_15 rfl ?_
    obtain ⟨hc, hF⟩ := hF
    refine g_iadd dX12_laysNewCells_16 hc ?_
    refine gw_istore_n (L' := [some (g_R 208), some (g_I v1), some (g_I v2), some (g_I ((4 * (D 236 v1.toNat)) + v2))]) dX12_laysNewCells_17 (by decide) rfl ?_
    refine g_aload_n dX12_laysNewCells_18 rfl ?_
    refine g_getR dX12_laysNewCells_19 fd_X12_111 sh_208 rfl ?_
    refine g_iload_n dX12_laysNewCells_22 rfl ?_
    refine g_aload_n dX12_laysNewCells_23 rfl ?_
    refine g_aload_n dX12_laysNewCells_24 rfl ?_
    refine g_getR dX12_laysNewCells_25 fd_X12_96 sh_208 rfl ?_
    refine g_iload_n dX12_laysNewCells_28 rfl ?_
    obtain ⟨hc, hF⟩ := hF
    refine g_iald dX12_laysNewCells_29 sh_235 hc.1 hc.2 ?_
    refine g_iload_n dX12_laysNewCells_30 rfl ?_
    refine gw_cVi (b := 208) (As := [g_I (D 235 v1.toNat), g_I ((4 * (D 236 v1.toNat)) + v2)]) (rest := [g_I v2, g_R 240]) dX12_laysNewCells_31 mv_X12_339 sh_208 rfl (Nat.le_of_ble_eq_true rfl) (by decide) rfl hF ?_
    intro x1 D1 hx1 hF
    have hF := hF hx1
    refine g_ifeq dX12_laysNewCells_34 rfl (fun q => ?_) (fun q => ?_)
    · have hF := hF.1 q
      refine g_aload_n dX12_laysNewCells_51 rfl ?_
      refine g_getR dX12_laysNewCells_52 fd_X12_108 sh_208 rfl ?_
      refine g_iload_n dX12_laysNewCells_55 rfl ?_
      obtain ⟨hc, hF⟩ := hF
      refine g_iald dX12_laysNewCells_56 sh_239 hc.1 hc.2 ?_
      obtain ⟨hc, hF⟩ := hF
      let D2 : g_D := g_up D1 240 v2.toNat (D1 239 ((4 * (D 236 v1.toNat)) + v2).toNat)
      have hF := hF D2 rfl
      refine g_iast dX12_laysNewCells_57 sh_240 hc.1 hc.2 ?_
      obtain ⟨hc, hF⟩ := hF
      refine gw_iinc (L' := [some (g_R 208), some (g_I v1), some (g_I (v2 + 1)), some (g_I ((4 * (D 236 v1.toNat)) + v2))]) dX12_laysNewCells_58 rfl hc (by decide) rfl ?_
      refine g_goto dX12_laysNewCells_61 rfl ?_
      exact g_forget (L' := [some (g_R 208), some (g_I v1), some (g_I (v2 + 1)), none]) ⟨rfl, ⟨rfl, ⟨rfl, trivial⟩⟩⟩ hF
    · have hF := hF.2 q
      refine g_aload_n dX12_laysNewCells_37 rfl ?_
      refine g_aload_n dX12_laysNewCells_38 rfl ?_
      refine g_getR dX12_laysNewCells_39 fd_X12_96 sh_208 rfl ?_
      refine g_iload_n dX12_laysNewCells_42 rfl ?_
      obtain ⟨hc, hF⟩ := hF
      refine g_iald dX12_laysNewCells_43 sh_235 hc.1 hc.2 ?_
      refine g_iload_n dX12_laysNewCells_44 rfl ?_
      refine gw_cVi (b := 208) (As := [g_I (D1 235 v1.toNat), g_I ((4 * (D 236 v1.toNat)) + v2)]) (rest := [g_I v2, g_R 240]) dX12_laysNewCells_45 mv_X12_351 sh_208 rfl (Nat.le_of_ble_eq_true rfl) (by decide) rfl hF ?_
      intro x3 D3 hx3 hF
      have hF := hF hx3
      refine g_goto dX12_laysNewCells_48 rfl ?_
      obtain ⟨hc, hF⟩ := hF
      let D4 : g_D := g_up D3 240 v2.toNat x3
      have hF := hF D4 rfl
      refine g_iast dX12_laysNewCells_57 sh_240 hc.1 hc.2 ?_
      obtain ⟨hc, hF⟩ := hF
      refine gw_iinc (L' := [some (g_R 208), some (g_I v1), some (g_I (v2 + 1)), some (g_I ((4 * (D 236 v1.toNat)) + v2))]) dX12_laysNewCells_58 rfl hc (by decide) rfl ?_
      refine g_goto dX12_laysNewCells_61 rfl ?_
      exact g_forget (L' := [some (g_R 208), some (g_I v1), some (g_I (v2 + 1)), none]) ⟨rfl, ⟨rfl, ⟨rfl, trivial⟩⟩⟩ hF
theorem dX12_doesStep_0 : decode cX12_doesStep 0 = .ok (.aload_n 0, 1) := by decide +kernel
theorem dX12_doesStep_1 : decode cX12_doesStep 1 = .ok (.getfield 99, 3) := by decide +kernel
theorem dX12_doesStep_4 : decode cX12_doesStep 4 = .ok (.iload_n 1, 1) := by decide +kernel
theorem dX12_doesStep_5 : decode cX12_doesStep 5 = .ok (.iaload, 1) := by decide +kernel
theorem dX12_doesStep_6 : decode cX12_doesStep 6 = .ok (.iconst (-1), 1) := by decide +kernel
theorem dX12_doesStep_7 : decode cX12_doesStep 7 = .ok (.if_icmp .ne 11, 3) := by decide +kernel
theorem dX12_doesStep_10 : decode cX12_doesStep 10 = .ok (.aload_n 0, 1) := by decide +kernel
theorem dX12_doesStep_11 : decode cX12_doesStep 11 = .ok (.iload_n 1, 1) := by decide +kernel
theorem dX12_doesStep_12 : decode cX12_doesStep 12 = .ok (.bipush 40, 2) := by decide +kernel
theorem dX12_doesStep_14 : decode cX12_doesStep 14 = .ok (.invokevirtual 354, 3) := by decide +kernel
theorem dX12_doesStep_17 : decode cX12_doesStep 17 = .ok (.return_, 1) := by decide +kernel
theorem dX12_doesStep_18 : decode cX12_doesStep 18 = .ok (.aload_n 0, 1) := by decide +kernel
theorem dX12_doesStep_19 : decode cX12_doesStep 19 = .ok (.iload_n 1, 1) := by decide +kernel
theorem dX12_doesStep_20 : decode cX12_doesStep 20 = .ok (.invokevirtual 357, 3) := by decide +kernel
theorem dX12_doesStep_23 : decode cX12_doesStep 23 = .ok (.iconst 0, 1) := by decide +kernel
theorem dX12_doesStep_24 : decode cX12_doesStep 24 = .ok (.istore_n 2, 1) := by decide +kernel
theorem dX12_doesStep_25 : decode cX12_doesStep 25 = .ok (.iload_n 2, 1) := by decide +kernel
theorem dX12_doesStep_26 : decode cX12_doesStep 26 = .ok (.iconst 4, 1) := by decide +kernel
theorem dX12_doesStep_27 : decode cX12_doesStep 27 = .ok (.if_icmp .ge 30, 3) := by decide +kernel
theorem dX12_doesStep_30 : decode cX12_doesStep 30 = .ok (.aload_n 0, 1) := by decide +kernel
theorem dX12_doesStep_31 : decode cX12_doesStep 31 = .ok (.getfield 108, 3) := by decide +kernel
theorem dX12_doesStep_34 : decode cX12_doesStep 34 = .ok (.iconst 4, 1) := by decide +kernel
theorem dX12_doesStep_35 : decode cX12_doesStep 35 = .ok (.aload_n 0, 1) := by decide +kernel
theorem dX12_doesStep_36 : decode cX12_doesStep 36 = .ok (.getfield 99, 3) := by decide +kernel
theorem dX12_doesStep_39 : decode cX12_doesStep 39 = .ok (.iload_n 1, 1) := by decide +kernel
theorem dX12_doesStep_40 : decode cX12_doesStep 40 = .ok (.iaload, 1) := by decide +kernel
theorem dX12_doesStep_41 : decode cX12_doesStep 41 = .ok (.imul, 1) := by decide +kernel
theorem dX12_doesStep_42 : decode cX12_doesStep 42 = .ok (.iload_n 2, 1) := by decide +kernel
theorem dX12_doesStep_43 : decode cX12_doesStep 43 = .ok (.iadd, 1) := by decide +kernel
theorem dX12_doesStep_44 : decode cX12_doesStep 44 = .ok (.aload_n 0, 1) := by decide +kernel
theorem dX12_doesStep_45 : decode cX12_doesStep 45 = .ok (.getfield 111, 3) := by decide +kernel
theorem dX12_doesStep_48 : decode cX12_doesStep 48 = .ok (.iload_n 2, 1) := by decide +kernel
theorem dX12_doesStep_49 : decode cX12_doesStep 49 = .ok (.iaload, 1) := by decide +kernel
theorem dX12_doesStep_50 : decode cX12_doesStep 50 = .ok (.iastore, 1) := by decide +kernel
theorem dX12_doesStep_51 : decode cX12_doesStep 51 = .ok (.iinc 2 1, 3) := by decide +kernel
theorem dX12_doesStep_54 : decode cX12_doesStep 54 = .ok (.goto (-29), 3) := by decide +kernel
theorem dX12_doesStep_57 : decode cX12_doesStep 57 = .ok (.return_, 1) := by decide +kernel
abbrev k_X12_doesStep (E : g_E) (l : Launch) (D : g_D) (v1 : Int) (K : g_D → Prop) : Prop := g_Kv E l m_X12_doesStep 3 [g_R 208, g_I v1] g_SH D K
abbrev n_X12_doesStep (E : g_E) (l : Launch) (D : g_D) (pc : Nat) (L : List (Option g_V)) (K : g_D → Prop) : Prop := g_N E l m_X12_doesStep 3 pc L [] g_SH D (g_Rv g_SH K)
theorem s_X12_doesStep {E : g_E} {l : Launch} {D : g_D} {K : g_D → Prop} {v1 : Int}  (hF : g_okD D → g_r v1 → (0 ≤ v1 ∧ v1 < 400) ∧ ((¬ (D 236 v1.toNat) = (-1) → k_X12_laysNewCells E l D v1 (fun D1 => n_X12_doesStep E l D1 25 [some (g_R 208), some (g_I v1), some (g_I 0)] K)) ∧ ((D 236 v1.toNat) = (-1) → k_X12_savesCells E l D v1 40 (fun D2 => K D2)))) : k_X12_doesStep E l D v1 K := by
  refine g_enter (by decide) (Nat.le_of_ble_eq_true rfl) ?_
  show g_N E l m_X12_doesStep 3 0 [some (g_R 208), some (g_I v1), none] [] g_SH D (g_Rv g_SH K)
  refine g_use (fun ok => ?_)
  have hF := hF ok.2.1 (ok.loc (i := 1) rfl)
  refine g_aload_n dX12_doesStep_0 rfl ?_
  refine g_getR dX12_doesStep_1 fd_X12_99 sh_208 rfl ?_
  refine g_iload_n dX12_doesStep_4 rfl ?_
  obtain ⟨hc, hF⟩ := hF
  refine g_iald dX12_doesStep_5 sh_236 hc.1 hc.2 ?_
  refine g_iconst dX12_doesStep_6 ⟨by decide, by decide⟩ ?_
  refine g_cne dX12_doesStep_7 rfl (fun q => ?_) (fun q => ?_)
  · have hF := hF.1 q
    refine g_aload_n dX12_doesStep_18 rfl ?_
    refine g_iload_n dX12_doesStep_19 rfl ?_
    refine gw_cVv (b := 208) (As := [g_I v1]) (rest := []) dX12_doesStep_20 mv_X12_357 sh_208 rfl (Nat.le_of_ble_eq_true rfl) (by decide) rfl hF ?_
    intro D1 hF
    refine g_iconst dX12_doesStep_23 ⟨by decide, by decide⟩ ?_
    refine gw_istore_n (L' := [some (g_R 208), some (g_I v1), some (g_I 0)]) dX12_doesStep_24 (by decide) rfl ?_
    exact hF
  · have hF := hF.2 q
    refine g_aload_n dX12_doesStep_10 rfl ?_
    refine g_iload_n dX12_doesStep_11 rfl ?_
    refine g_bipush dX12_doesStep_12 ⟨by decide, by decide⟩ ?_
    refine gw_cVv (b := 208) (As := [g_I v1, g_I 40]) (rest := []) dX12_doesStep_14 mv_X12_354 sh_208 rfl (Nat.le_of_ble_eq_true rfl) (by decide) rfl hF ?_
    intro D2 hF
    exact gw_vret dX12_doesStep_17 rfl hF
theorem s_X12_doesStep_25 {E : g_E} {l : Launch} {D : g_D} {K : g_D → Prop} {v1 : Int} {v2 : Int}  (hF : g_okD D → g_r v1 → g_r v2 → (4 ≤ v2 → K D) ∧ (¬ 4 ≤ v2 → (0 ≤ v1 ∧ v1 < 400) ∧ ((g_r (4 * (D 236 v1.toNat))) ∧ ((g_r ((4 * (D 236 v1.toNat)) + v2)) ∧ ((0 ≤ v2 ∧ v2 < 4) ∧ ((0 ≤ ((4 * (D 236 v1.toNat)) + v2) ∧ ((4 * (D 236 v1.toNat)) + v2) < 60) ∧ (∀ D1, D1 = g_up D 239 ((4 * (D 236 v1.toNat)) + v2).toNat (D 240 v2.toNat) → ((g_r (v2 + 1)) ∧ (n_X12_doesStep E l D1 25 [some (g_R 208), some (g_I v1), some (g_I (v2 + 1))] K))))))))) : n_X12_doesStep E l D 25 [some (g_R 208), some (g_I v1), some (g_I v2)] K := by
  refine g_use (fun ok => ?_)
  have hF := hF ok.2.1 (ok.loc (i := 1) rfl) (ok.loc (i := 2) rfl)
  refine g_iload_n dX12_doesStep_25 rfl ?_
  refine g_iconst dX12_doesStep_26 ⟨by decide, by decide⟩ ?_
  refine g_cge dX12_doesStep_27 rfl (fun q => ?_) (fun q => ?_)
  · have hF := hF.1 q
    exact gw_vret dX12_doesStep_57 rfl hF
  · have hF := hF.2 q
    refine g_aload_n dX12_doesStep_30 rfl ?_
    refine g_getR dX12_doesStep_31 fd_X12_108 sh_208 rfl ?_
    refine g_iconst dX12_doesStep_34 ⟨by decide, by decide⟩ ?_
    refine g_aload_n dX12_doesStep_35 rfl ?_
    refine g_getR dX12_doesStep_36 fd_X12_99 sh_208 rfl ?_
    refine g_iload_n dX12_doesStep_39 rfl ?_
    obtain ⟨hc, hF⟩ := hF
    refine g_iald dX12_doesStep_40 sh_236 hc.1 hc.2 ?_
    obtain ⟨hc, hF⟩ := hF
    refine g_imul dX12_doesStep_41 hc ?_
    refine g_iload_n dX12_doesStep_42 rfl ?_
    obtain ⟨hc, hF⟩ := hF
    refine g_iadd dX12_doesStep_43 hc ?_
    refine g_aload_n dX12_doesStep_44 rfl ?_
    refine g_getR dX12_doesStep_45 fd_X12_111 sh_208 rfl ?_
    refine g_iload_n dX12_doesStep_48 rfl ?_
    obtain ⟨hc, hF⟩ := hF
    refine g_iald dX12_doesStep_49 sh_240 hc.1 hc.2 ?_
    obtain ⟨hc, hF⟩ := hF
    let D1 : g_D := g_up D 239 ((4 * (D 236 v1.toNat)) + v2).toNat (D 240 v2.toNat)
    have hF := hF D1 rfl
    refine g_iast dX12_doesStep_50 sh_239 hc.1 hc.2 ?_
    obtain ⟨hc, hF⟩ := hF
    refine gw_iinc (L' := [some (g_R 208), some (g_I v1), some (g_I (v2 + 1))]) dX12_doesStep_51 rfl hc (by decide) rfl ?_
    refine g_goto dX12_doesStep_54 rfl ?_
    exact hF
theorem dX12_readsStash_0 : decode cX12_readsStash 0 = .ok (.iconst 0, 1) := by decide +kernel
theorem dX12_readsStash_1 : decode cX12_readsStash 1 = .ok (.istore_n 2, 1) := by decide +kernel
theorem dX12_readsStash_2 : decode cX12_readsStash 2 = .ok (.iconst 0, 1) := by decide +kernel
theorem dX12_readsStash_3 : decode cX12_readsStash 3 = .ok (.istore_n 3, 1) := by decide +kernel
theorem dX12_readsStash_4 : decode cX12_readsStash 4 = .ok (.iload_n 3, 1) := by decide +kernel
theorem dX12_readsStash_5 : decode cX12_readsStash 5 = .ok (.iconst 4, 1) := by decide +kernel
theorem dX12_readsStash_6 : decode cX12_readsStash 6 = .ok (.if_icmp .ge 67, 3) := by decide +kernel
theorem dX12_readsStash_9 : decode cX12_readsStash 9 = .ok (.iconst 4, 1) := by decide +kernel
theorem dX12_readsStash_10 : decode cX12_readsStash 10 = .ok (.aload_n 0, 1) := by decide +kernel
theorem dX12_readsStash_11 : decode cX12_readsStash 11 = .ok (.getfield 99, 3) := by decide +kernel
theorem dX12_readsStash_14 : decode cX12_readsStash 14 = .ok (.iload_n 1, 1) := by decide +kernel
theorem dX12_readsStash_15 : decode cX12_readsStash 15 = .ok (.iaload, 1) := by decide +kernel
theorem dX12_readsStash_16 : decode cX12_readsStash 16 = .ok (.imul, 1) := by decide +kernel
theorem dX12_readsStash_17 : decode cX12_readsStash 17 = .ok (.iload_n 3, 1) := by decide +kernel
theorem dX12_readsStash_18 : decode cX12_readsStash 18 = .ok (.iadd, 1) := by decide +kernel
theorem dX12_readsStash_19 : decode cX12_readsStash 19 = .ok (.istore 4, 2) := by decide +kernel
theorem dX12_readsStash_21 : decode cX12_readsStash 21 = .ok (.aload_n 0, 1) := by decide +kernel
theorem dX12_readsStash_22 : decode cX12_readsStash 22 = .ok (.aload_n 0, 1) := by decide +kernel
theorem dX12_readsStash_23 : decode cX12_readsStash 23 = .ok (.getfield 96, 3) := by decide +kernel
theorem dX12_readsStash_26 : decode cX12_readsStash 26 = .ok (.iload_n 1, 1) := by decide +kernel
theorem dX12_readsStash_27 : decode cX12_readsStash 27 = .ok (.iaload, 1) := by decide +kernel
theorem dX12_readsStash_28 : decode cX12_readsStash 28 = .ok (.iload 4, 2) := by decide +kernel
theorem dX12_readsStash_30 : decode cX12_readsStash 30 = .ok (.invokevirtual 339, 3) := by decide +kernel
theorem dX12_readsStash_33 : decode cX12_readsStash 33 = .ok (.ifCond .eq 34, 3) := by decide +kernel
theorem dX12_readsStash_36 : decode cX12_readsStash 36 = .ok (.iload_n 2, 1) := by decide +kernel
theorem dX12_readsStash_37 : decode cX12_readsStash 37 = .ok (.iconst 1, 1) := by decide +kernel
theorem dX12_readsStash_38 : decode cX12_readsStash 38 = .ok (.aload_n 0, 1) := by decide +kernel
theorem dX12_readsStash_39 : decode cX12_readsStash 39 = .ok (.aload_n 0, 1) := by decide +kernel
theorem dX12_readsStash_40 : decode cX12_readsStash 40 = .ok (.getfield 96, 3) := by decide +kernel
theorem dX12_readsStash_43 : decode cX12_readsStash 43 = .ok (.iload_n 1, 1) := by decide +kernel
theorem dX12_readsStash_44 : decode cX12_readsStash 44 = .ok (.iaload, 1) := by decide +kernel
theorem dX12_readsStash_45 : decode cX12_readsStash 45 = .ok (.iconst 2, 1) := by decide +kernel
theorem dX12_readsStash_46 : decode cX12_readsStash 46 = .ok (.invokevirtual 336, 3) := by decide +kernel
theorem dX12_readsStash_49 : decode cX12_readsStash 49 = .ok (.iload 4, 2) := by decide +kernel
theorem dX12_readsStash_51 : decode cX12_readsStash 51 = .ok (.iadd, 1) := by decide +kernel
theorem dX12_readsStash_52 : decode cX12_readsStash 52 = .ok (.aload_n 0, 1) := by decide +kernel
theorem dX12_readsStash_53 : decode cX12_readsStash 53 = .ok (.aload_n 0, 1) := by decide +kernel
theorem dX12_readsStash_54 : decode cX12_readsStash 54 = .ok (.getfield 96, 3) := by decide +kernel
theorem dX12_readsStash_57 : decode cX12_readsStash 57 = .ok (.iload_n 1, 1) := by decide +kernel
theorem dX12_readsStash_58 : decode cX12_readsStash 58 = .ok (.iaload, 1) := by decide +kernel
theorem dX12_readsStash_59 : decode cX12_readsStash 59 = .ok (.iconst 1, 1) := by decide +kernel
theorem dX12_readsStash_60 : decode cX12_readsStash 60 = .ok (.invokevirtual 336, 3) := by decide +kernel
theorem dX12_readsStash_63 : decode cX12_readsStash 63 = .ok (.isub, 1) := by decide +kernel
theorem dX12_readsStash_64 : decode cX12_readsStash 64 = .ok (.ishl, 1) := by decide +kernel
theorem dX12_readsStash_65 : decode cX12_readsStash 65 = .ok (.ior, 1) := by decide +kernel
theorem dX12_readsStash_66 : decode cX12_readsStash 66 = .ok (.istore_n 2, 1) := by decide +kernel
theorem dX12_readsStash_67 : decode cX12_readsStash 67 = .ok (.iinc 3 1, 3) := by decide +kernel
theorem dX12_readsStash_70 : decode cX12_readsStash 70 = .ok (.goto (-66), 3) := by decide +kernel
theorem dX12_readsStash_73 : decode cX12_readsStash 73 = .ok (.iload_n 2, 1) := by decide +kernel
theorem dX12_readsStash_74 : decode cX12_readsStash 74 = .ok (.ireturn, 1) := by decide +kernel
abbrev k_X12_readsStash (E : g_E) (l : Launch) (D : g_D) (v1 : Int) (K : Int → g_D → Prop) : Prop := g_Ki E l m_X12_readsStash 2 [g_R 208, g_I v1] g_SH D K
abbrev n_X12_readsStash (E : g_E) (l : Launch) (D : g_D) (pc : Nat) (L : List (Option g_V)) (K : Int → g_D → Prop) : Prop := g_N E l m_X12_readsStash 2 pc L [] g_SH D (g_Ri g_SH K)
theorem s_X12_readsStash {E : g_E} {l : Launch} {D : g_D} {K : Int → g_D → Prop} {v1 : Int}  (hF : g_okD D → g_r v1 → n_X12_readsStash E l D 4 [some (g_R 208), some (g_I v1), some (g_I 0), some (g_I 0), none] K) : k_X12_readsStash E l D v1 K := by
  refine g_enter (by decide) (Nat.le_of_ble_eq_true rfl) ?_
  show g_N E l m_X12_readsStash 2 0 [some (g_R 208), some (g_I v1), none, none, none] [] g_SH D (g_Ri g_SH K)
  refine g_use (fun ok => ?_)
  have hF := hF ok.2.1 (ok.loc (i := 1) rfl)
  refine g_iconst dX12_readsStash_0 ⟨by decide, by decide⟩ ?_
  refine gw_istore_n (L' := [some (g_R 208), some (g_I v1), some (g_I 0), none, none]) dX12_readsStash_1 (by decide) rfl ?_
  refine g_iconst dX12_readsStash_2 ⟨by decide, by decide⟩ ?_
  refine gw_istore_n (L' := [some (g_R 208), some (g_I v1), some (g_I 0), some (g_I 0), none]) dX12_readsStash_3 (by decide) rfl ?_
  exact hF
theorem s_X12_readsStash_4 {E : g_E} {l : Launch} {D : g_D} {K : Int → g_D → Prop} {v1 : Int} {v2 : Int} {v3 : Int}  (hF : g_okD D → g_r v1 → g_r v2 → g_r v3 → (4 ≤ v3 → K v2 D) ∧ (¬ 4 ≤ v3 → (0 ≤ v1 ∧ v1 < 400) ∧ ((g_r (4 * (D 236 v1.toNat))) ∧ ((g_r ((4 * (D 236 v1.toNat)) + v3)) ∧ ((0 ≤ v1 ∧ v1 < 400) ∧ (k_X12_writes E l D (D 235 v1.toNat) ((4 * (D 236 v1.toNat)) + v3) (fun x1 D1 => g_r x1 → (x1 = 0 → (g_r (v3 + 1)) ∧ (n_X12_readsStash E l D1 4 [some (g_R 208), some (g_I v1), some (g_I v2), some (g_I (v3 + 1)), none] K)) ∧ (¬ x1 = 0 → (0 ≤ v1 ∧ v1 < 400) ∧ (k_X12_actNow E l D1 (D1 235 v1.toNat) 2 (fun x2 D2 => g_r x2 → (g_r (x2 + ((4 * (D 236 v1.toNat)) + v3))) ∧ ((0 ≤ v1 ∧ v1 < 400) ∧ (k_X12_actNow E l D2 (D2 235 v1.toNat) 1 (fun x3 D3 => g_r x3 → (g_r ((x2 + ((4 * (D 236 v1.toNat)) + v3)) - x3)) ∧ ((g_r (v3 + 1)) ∧ (n_X12_readsStash E l D3 4 [some (g_R 208), some (g_I v1), some (g_I (g_or v2 (g_shl 1 ((x2 + ((4 * (D 236 v1.toNat)) + v3)) - x3)))), some (g_I (v3 + 1)), none] K))))))))))))))) : n_X12_readsStash E l D 4 [some (g_R 208), some (g_I v1), some (g_I v2), some (g_I v3), none] K := by
  refine g_use (fun ok => ?_)
  have hF := hF ok.2.1 (ok.loc (i := 1) rfl) (ok.loc (i := 2) rfl) (ok.loc (i := 3) rfl)
  refine g_iload_n dX12_readsStash_4 rfl ?_
  refine g_iconst dX12_readsStash_5 ⟨by decide, by decide⟩ ?_
  refine g_cge dX12_readsStash_6 rfl (fun q => ?_) (fun q => ?_)
  · have hF := hF.1 q
    refine g_iload_n dX12_readsStash_73 rfl ?_
    exact gw_iret dX12_readsStash_74 rfl hF
  · have hF := hF.2 q
    refine g_iconst dX12_readsStash_9 ⟨by decide, by decide⟩ ?_
    refine g_aload_n dX12_readsStash_10 rfl ?_
    refine g_getR dX12_readsStash_11 fd_X12_99 sh_208 rfl ?_
    refine g_iload_n dX12_readsStash_14 rfl ?_
    obtain ⟨hc, hF⟩ := hF
    refine g_iald dX12_readsStash_15 sh_236 hc.1 hc.2 ?_
    obtain ⟨hc, hF⟩ := hF
    refine g_imul dX12_readsStash_16 hc ?_
    refine g_iload_n dX12_readsStash_17 rfl ?_
    obtain ⟨hc, hF⟩ := hF
    refine g_iadd dX12_readsStash_18 hc ?_
    refine gw_istore (L' := [some (g_R 208), some (g_I v1), some (g_I v2), some (g_I v3), some (g_I ((4 * (D 236 v1.toNat)) + v3))]) dX12_readsStash_19 (by decide) rfl ?_
    refine g_aload_n dX12_readsStash_21 rfl ?_
    refine g_aload_n dX12_readsStash_22 rfl ?_
    refine g_getR dX12_readsStash_23 fd_X12_96 sh_208 rfl ?_
    refine g_iload_n dX12_readsStash_26 rfl ?_
    obtain ⟨hc, hF⟩ := hF
    refine g_iald dX12_readsStash_27 sh_235 hc.1 hc.2 ?_
    refine g_iload dX12_readsStash_28 rfl ?_
    refine gw_cVi (b := 208) (As := [g_I (D 235 v1.toNat), g_I ((4 * (D 236 v1.toNat)) + v3)]) (rest := []) dX12_readsStash_30 mv_X12_339 sh_208 rfl (Nat.le_of_ble_eq_true rfl) (by decide) rfl hF ?_
    intro x1 D1 hx1 hF
    have hF := hF hx1
    refine g_ifeq dX12_readsStash_33 rfl (fun q => ?_) (fun q => ?_)
    · have hF := hF.1 q
      obtain ⟨hc, hF⟩ := hF
      refine gw_iinc (L' := [some (g_R 208), some (g_I v1), some (g_I v2), some (g_I (v3 + 1)), some (g_I ((4 * (D 236 v1.toNat)) + v3))]) dX12_readsStash_67 rfl hc (by decide) rfl ?_
      refine g_goto dX12_readsStash_70 rfl ?_
      exact g_forget (L' := [some (g_R 208), some (g_I v1), some (g_I v2), some (g_I (v3 + 1)), none]) ⟨rfl, ⟨rfl, ⟨rfl, ⟨rfl, trivial⟩⟩⟩⟩ hF
    · have hF := hF.2 q
      refine g_iload_n dX12_readsStash_36 rfl ?_
      refine g_iconst dX12_readsStash_37 ⟨by decide, by decide⟩ ?_
      refine g_aload_n dX12_readsStash_38 rfl ?_
      refine g_aload_n dX12_readsStash_39 rfl ?_
      refine g_getR dX12_readsStash_40 fd_X12_96 sh_208 rfl ?_
      refine g_iload_n dX12_readsStash_43 rfl ?_
      obtain ⟨hc, hF⟩ := hF
      refine g_iald dX12_readsStash_44 sh_235 hc.1 hc.2 ?_
      refine g_iconst dX12_readsStash_45 ⟨by decide, by decide⟩ ?_
      refine gw_cVi (b := 208) (As := [g_I (D1 235 v1.toNat), g_I 2]) (rest := [g_I 1, g_I v2]) dX12_readsStash_46 mv_X12_336 sh_208 rfl (Nat.le_of_ble_eq_true rfl) (by decide) rfl hF ?_
      intro x2 D2 hx2 hF
      have hF := hF hx2
      refine g_iload dX12_readsStash_49 rfl ?_
      obtain ⟨hc, hF⟩ := hF
      refine g_iadd dX12_readsStash_51 hc ?_
      refine g_aload_n dX12_readsStash_52 rfl ?_
      refine g_aload_n dX12_readsStash_53 rfl ?_
      refine g_getR dX12_readsStash_54 fd_X12_96 sh_208 rfl ?_
      refine g_iload_n dX12_readsStash_57 rfl ?_
      obtain ⟨hc, hF⟩ := hF
      refine g_iald dX12_readsStash_58 sh_235 hc.1 hc.2 ?_
      refine g_iconst dX12_readsStash_59 ⟨by decide, by decide⟩ ?_
      refine gw_cVi (b := 208) (As := [g_I (D2 235 v1.toNat), g_I 1]) (rest := [g_I (x2 + ((4 * (D 236 v1.toNat)) + v3)), g_I 1, g_I v2]) dX12_readsStash_60 mv_X12_336 sh_208 rfl (Nat.le_of_ble_eq_true rfl) (by decide) rfl hF ?_
      intro x3 D3 hx3 hF
      have hF := hF hx3
      obtain ⟨hc, hF⟩ := hF
      refine g_isub dX12_readsStash_63 hc ?_
      refine g_ishl dX12_readsStash_64 ?_
      refine g_ior dX12_readsStash_65 ?_
      refine gw_istore_n (L' := [some (g_R 208), some (g_I v1), some (g_I (g_or v2 (g_shl 1 ((x2 + ((4 * (D 236 v1.toNat)) + v3)) - x3)))), some (g_I v3), some (g_I ((4 * (D 236 v1.toNat)) + v3))]) dX12_readsStash_66 (by decide) rfl ?_
      obtain ⟨hc, hF⟩ := hF
      refine gw_iinc (L' := [some (g_R 208), some (g_I v1), some (g_I (g_or v2 (g_shl 1 ((x2 + ((4 * (D 236 v1.toNat)) + v3)) - x3)))), some (g_I (v3 + 1)), some (g_I ((4 * (D 236 v1.toNat)) + v3))]) dX12_readsStash_67 rfl hc (by decide) rfl ?_
      refine g_goto dX12_readsStash_70 rfl ?_
      exact g_forget (L' := [some (g_R 208), some (g_I v1), some (g_I (g_or v2 (g_shl 1 ((x2 + ((4 * (D 236 v1.toNat)) + v3)) - x3)))), some (g_I (v3 + 1)), none]) ⟨rfl, ⟨rfl, ⟨rfl, ⟨rfl, trivial⟩⟩⟩⟩ hF
theorem dX12_laysDue_0 : decode cX12_laysDue 0 = .ok (.aload_n 0, 1) := by decide +kernel
theorem dX12_laysDue_1 : decode cX12_laysDue 1 = .ok (.invokevirtual 324, 3) := by decide +kernel
theorem dX12_laysDue_4 : decode cX12_laysDue 4 = .ok (.pop, 1) := by decide +kernel
theorem dX12_laysDue_5 : decode cX12_laysDue 5 = .ok (.iconst 0, 1) := by decide +kernel
theorem dX12_laysDue_6 : decode cX12_laysDue 6 = .ok (.istore_n 1, 1) := by decide +kernel
theorem dX12_laysDue_7 : decode cX12_laysDue 7 = .ok (.iload_n 1, 1) := by decide +kernel
theorem dX12_laysDue_8 : decode cX12_laysDue 8 = .ok (.bipush 60, 2) := by decide +kernel
theorem dX12_laysDue_10 : decode cX12_laysDue 10 = .ok (.if_icmp .ge 25, 3) := by decide +kernel
theorem dX12_laysDue_13 : decode cX12_laysDue 13 = .ok (.aload_n 0, 1) := by decide +kernel
theorem dX12_laysDue_14 : decode cX12_laysDue 14 = .ok (.getfield 108, 3) := by decide +kernel
theorem dX12_laysDue_17 : decode cX12_laysDue 17 = .ok (.iload_n 1, 1) := by decide +kernel
theorem dX12_laysDue_18 : decode cX12_laysDue 18 = .ok (.aload_n 0, 1) := by decide +kernel
theorem dX12_laysDue_19 : decode cX12_laysDue 19 = .ok (.getfield 13, 3) := by decide +kernel
theorem dX12_laysDue_22 : decode cX12_laysDue 22 = .ok (.sipush 153, 3) := by decide +kernel
theorem dX12_laysDue_25 : decode cX12_laysDue 25 = .ok (.iload_n 1, 1) := by decide +kernel
theorem dX12_laysDue_26 : decode cX12_laysDue 26 = .ok (.iadd, 1) := by decide +kernel
theorem dX12_laysDue_27 : decode cX12_laysDue 27 = .ok (.iaload, 1) := by decide +kernel
theorem dX12_laysDue_28 : decode cX12_laysDue 28 = .ok (.iastore, 1) := by decide +kernel
theorem dX12_laysDue_29 : decode cX12_laysDue 29 = .ok (.iinc 1 1, 3) := by decide +kernel
theorem dX12_laysDue_32 : decode cX12_laysDue 32 = .ok (.goto (-25), 3) := by decide +kernel
theorem dX12_laysDue_35 : decode cX12_laysDue 35 = .ok (.iconst 0, 1) := by decide +kernel
theorem dX12_laysDue_36 : decode cX12_laysDue 36 = .ok (.istore_n 1, 1) := by decide +kernel
theorem dX12_laysDue_37 : decode cX12_laysDue 37 = .ok (.iload_n 1, 1) := by decide +kernel
theorem dX12_laysDue_38 : decode cX12_laysDue 38 = .ok (.aload_n 0, 1) := by decide +kernel
theorem dX12_laysDue_39 : decode cX12_laysDue 39 = .ok (.getfield 342, 3) := by decide +kernel
theorem dX12_laysDue_42 : decode cX12_laysDue 42 = .ok (.if_icmp .gt 53, 3) := by decide +kernel
theorem dX12_laysDue_45 : decode cX12_laysDue 45 = .ok (.iconst 0, 1) := by decide +kernel
theorem dX12_laysDue_46 : decode cX12_laysDue 46 = .ok (.istore_n 2, 1) := by decide +kernel
theorem dX12_laysDue_47 : decode cX12_laysDue 47 = .ok (.iload_n 2, 1) := by decide +kernel
theorem dX12_laysDue_48 : decode cX12_laysDue 48 = .ok (.bipush 60, 2) := by decide +kernel
theorem dX12_laysDue_50 : decode cX12_laysDue 50 = .ok (.if_icmp .ge 26, 3) := by decide +kernel
theorem dX12_laysDue_53 : decode cX12_laysDue 53 = .ok (.aload_n 0, 1) := by decide +kernel
theorem dX12_laysDue_54 : decode cX12_laysDue 54 = .ok (.getfield 102, 3) := by decide +kernel
theorem dX12_laysDue_57 : decode cX12_laysDue 57 = .ok (.bipush 60, 2) := by decide +kernel
theorem dX12_laysDue_59 : decode cX12_laysDue 59 = .ok (.iload_n 1, 1) := by decide +kernel
theorem dX12_laysDue_60 : decode cX12_laysDue 60 = .ok (.imul, 1) := by decide +kernel
theorem dX12_laysDue_61 : decode cX12_laysDue 61 = .ok (.iload_n 2, 1) := by decide +kernel
theorem dX12_laysDue_62 : decode cX12_laysDue 62 = .ok (.iadd, 1) := by decide +kernel
theorem dX12_laysDue_63 : decode cX12_laysDue 63 = .ok (.aload_n 0, 1) := by decide +kernel
theorem dX12_laysDue_64 : decode cX12_laysDue 64 = .ok (.getfield 108, 3) := by decide +kernel
theorem dX12_laysDue_67 : decode cX12_laysDue 67 = .ok (.iload_n 2, 1) := by decide +kernel
theorem dX12_laysDue_68 : decode cX12_laysDue 68 = .ok (.iaload, 1) := by decide +kernel
theorem dX12_laysDue_69 : decode cX12_laysDue 69 = .ok (.iastore, 1) := by decide +kernel
theorem dX12_laysDue_70 : decode cX12_laysDue 70 = .ok (.iinc 2 1, 3) := by decide +kernel
theorem dX12_laysDue_73 : decode cX12_laysDue 73 = .ok (.goto (-26), 3) := by decide +kernel
theorem dX12_laysDue_76 : decode cX12_laysDue 76 = .ok (.iload_n 1, 1) := by decide +kernel
theorem dX12_laysDue_77 : decode cX12_laysDue 77 = .ok (.aload_n 0, 1) := by decide +kernel
theorem dX12_laysDue_78 : decode cX12_laysDue 78 = .ok (.getfield 342, 3) := by decide +kernel
theorem dX12_laysDue_81 : decode cX12_laysDue 81 = .ok (.if_icmp .ge 8, 3) := by decide +kernel
theorem dX12_laysDue_84 : decode cX12_laysDue 84 = .ok (.aload_n 0, 1) := by decide +kernel
theorem dX12_laysDue_85 : decode cX12_laysDue 85 = .ok (.iload_n 1, 1) := by decide +kernel
theorem dX12_laysDue_86 : decode cX12_laysDue 86 = .ok (.invokevirtual 360, 3) := by decide +kernel
theorem dX12_laysDue_89 : decode cX12_laysDue 89 = .ok (.iinc 1 1, 3) := by decide +kernel
theorem dX12_laysDue_92 : decode cX12_laysDue 92 = .ok (.goto (-55), 3) := by decide +kernel
theorem dX12_laysDue_95 : decode cX12_laysDue 95 = .ok (.aload_n 0, 1) := by decide +kernel
theorem dX12_laysDue_96 : decode cX12_laysDue 96 = .ok (.getfield 105, 3) := by decide +kernel
theorem dX12_laysDue_99 : decode cX12_laysDue 99 = .ok (.aload_n 0, 1) := by decide +kernel
theorem dX12_laysDue_100 : decode cX12_laysDue 100 = .ok (.getfield 342, 3) := by decide +kernel
theorem dX12_laysDue_103 : decode cX12_laysDue 103 = .ok (.iconst 0, 1) := by decide +kernel
theorem dX12_laysDue_104 : decode cX12_laysDue 104 = .ok (.iastore, 1) := by decide +kernel
theorem dX12_laysDue_105 : decode cX12_laysDue 105 = .ok (.aload_n 0, 1) := by decide +kernel
theorem dX12_laysDue_106 : decode cX12_laysDue 106 = .ok (.getfield 342, 3) := by decide +kernel
theorem dX12_laysDue_109 : decode cX12_laysDue 109 = .ok (.iconst 1, 1) := by decide +kernel
theorem dX12_laysDue_110 : decode cX12_laysDue 110 = .ok (.isub, 1) := by decide +kernel
theorem dX12_laysDue_111 : decode cX12_laysDue 111 = .ok (.istore_n 1, 1) := by decide +kernel
theorem dX12_laysDue_112 : decode cX12_laysDue 112 = .ok (.iload_n 1, 1) := by decide +kernel
theorem dX12_laysDue_113 : decode cX12_laysDue 113 = .ok (.ifCond .lt 82, 3) := by decide +kernel
theorem dX12_laysDue_116 : decode cX12_laysDue 116 = .ok (.aload_n 0, 1) := by decide +kernel
theorem dX12_laysDue_117 : decode cX12_laysDue 117 = .ok (.getfield 105, 3) := by decide +kernel
theorem dX12_laysDue_120 : decode cX12_laysDue 120 = .ok (.iload_n 1, 1) := by decide +kernel
theorem dX12_laysDue_121 : decode cX12_laysDue 121 = .ok (.iconst 1, 1) := by decide +kernel
theorem dX12_laysDue_122 : decode cX12_laysDue 122 = .ok (.iadd, 1) := by decide +kernel
theorem dX12_laysDue_123 : decode cX12_laysDue 123 = .ok (.iaload, 1) := by decide +kernel
theorem dX12_laysDue_124 : decode cX12_laysDue 124 = .ok (.istore_n 2, 1) := by decide +kernel
theorem dX12_laysDue_125 : decode cX12_laysDue 125 = .ok (.aload_n 0, 1) := by decide +kernel
theorem dX12_laysDue_126 : decode cX12_laysDue 126 = .ok (.getfield 96, 3) := by decide +kernel
theorem dX12_laysDue_129 : decode cX12_laysDue 129 = .ok (.iload_n 1, 1) := by decide +kernel
theorem dX12_laysDue_130 : decode cX12_laysDue 130 = .ok (.iaload, 1) := by decide +kernel
theorem dX12_laysDue_131 : decode cX12_laysDue 131 = .ok (.istore_n 3, 1) := by decide +kernel
theorem dX12_laysDue_132 : decode cX12_laysDue 132 = .ok (.aload_n 0, 1) := by decide +kernel
theorem dX12_laysDue_133 : decode cX12_laysDue 133 = .ok (.iload_n 3, 1) := by decide +kernel
theorem dX12_laysDue_134 : decode cX12_laysDue 134 = .ok (.iconst 0, 1) := by decide +kernel
theorem dX12_laysDue_135 : decode cX12_laysDue 135 = .ok (.invokevirtual 336, 3) := by decide +kernel
theorem dX12_laysDue_138 : decode cX12_laysDue 138 = .ok (.iconst 1, 1) := by decide +kernel
theorem dX12_laysDue_139 : decode cX12_laysDue 139 = .ok (.if_icmp .ne 25, 3) := by decide +kernel
theorem dX12_laysDue_142 : decode cX12_laysDue 142 = .ok (.iload_n 2, 1) := by decide +kernel
theorem dX12_laysDue_143 : decode cX12_laysDue 143 = .ok (.iconst 1, 1) := by decide +kernel
theorem dX12_laysDue_144 : decode cX12_laysDue 144 = .ok (.aload_n 0, 1) := by decide +kernel
theorem dX12_laysDue_145 : decode cX12_laysDue 145 = .ok (.iload_n 3, 1) := by decide +kernel
theorem dX12_laysDue_146 : decode cX12_laysDue 146 = .ok (.iconst 3, 1) := by decide +kernel
theorem dX12_laysDue_147 : decode cX12_laysDue 147 = .ok (.invokevirtual 336, 3) := by decide +kernel
theorem dX12_laysDue_150 : decode cX12_laysDue 150 = .ok (.ishl, 1) := by decide +kernel
theorem dX12_laysDue_151 : decode cX12_laysDue 151 = .ok (.iconst 1, 1) := by decide +kernel
theorem dX12_laysDue_152 : decode cX12_laysDue 152 = .ok (.isub, 1) := by decide +kernel
theorem dX12_laysDue_153 : decode cX12_laysDue 153 = .ok (.aload_n 0, 1) := by decide +kernel
theorem dX12_laysDue_154 : decode cX12_laysDue 154 = .ok (.iload_n 3, 1) := by decide +kernel
theorem dX12_laysDue_155 : decode cX12_laysDue 155 = .ok (.iconst 1, 1) := by decide +kernel
theorem dX12_laysDue_156 : decode cX12_laysDue 156 = .ok (.invokevirtual 336, 3) := by decide +kernel
theorem dX12_laysDue_159 : decode cX12_laysDue 159 = .ok (.ishl, 1) := by decide +kernel
theorem dX12_laysDue_160 : decode cX12_laysDue 160 = .ok (.iconst (-1), 1) := by decide +kernel
theorem dX12_laysDue_161 : decode cX12_laysDue 161 = .ok (.ixor, 1) := by decide +kernel
theorem dX12_laysDue_162 : decode cX12_laysDue 162 = .ok (.iand, 1) := by decide +kernel
theorem dX12_laysDue_163 : decode cX12_laysDue 163 = .ok (.istore_n 2, 1) := by decide +kernel
theorem dX12_laysDue_164 : decode cX12_laysDue 164 = .ok (.aload_n 0, 1) := by decide +kernel
theorem dX12_laysDue_165 : decode cX12_laysDue 165 = .ok (.iload_n 3, 1) := by decide +kernel
theorem dX12_laysDue_166 : decode cX12_laysDue 166 = .ok (.iconst 0, 1) := by decide +kernel
theorem dX12_laysDue_167 : decode cX12_laysDue 167 = .ok (.invokevirtual 336, 3) := by decide +kernel
theorem dX12_laysDue_170 : decode cX12_laysDue 170 = .ok (.iconst 3, 1) := by decide +kernel
theorem dX12_laysDue_171 : decode cX12_laysDue 171 = .ok (.if_icmp .ne 11, 3) := by decide +kernel
theorem dX12_laysDue_174 : decode cX12_laysDue 174 = .ok (.iload_n 2, 1) := by decide +kernel
theorem dX12_laysDue_175 : decode cX12_laysDue 175 = .ok (.aload_n 0, 1) := by decide +kernel
theorem dX12_laysDue_176 : decode cX12_laysDue 176 = .ok (.iload_n 1, 1) := by decide +kernel
theorem dX12_laysDue_177 : decode cX12_laysDue 177 = .ok (.invokevirtual 363, 3) := by decide +kernel
theorem dX12_laysDue_180 : decode cX12_laysDue 180 = .ok (.ior, 1) := by decide +kernel
theorem dX12_laysDue_181 : decode cX12_laysDue 181 = .ok (.istore_n 2, 1) := by decide +kernel
theorem dX12_laysDue_182 : decode cX12_laysDue 182 = .ok (.aload_n 0, 1) := by decide +kernel
theorem dX12_laysDue_183 : decode cX12_laysDue 183 = .ok (.getfield 105, 3) := by decide +kernel
theorem dX12_laysDue_186 : decode cX12_laysDue 186 = .ok (.iload_n 1, 1) := by decide +kernel
theorem dX12_laysDue_187 : decode cX12_laysDue 187 = .ok (.iload_n 2, 1) := by decide +kernel
theorem dX12_laysDue_188 : decode cX12_laysDue 188 = .ok (.iastore, 1) := by decide +kernel
theorem dX12_laysDue_189 : decode cX12_laysDue 189 = .ok (.iinc 1 (-1), 3) := by decide +kernel
theorem dX12_laysDue_192 : decode cX12_laysDue 192 = .ok (.goto (-80), 3) := by decide +kernel
theorem dX12_laysDue_195 : decode cX12_laysDue 195 = .ok (.return_, 1) := by decide +kernel
abbrev k_X12_laysDue (E : g_E) (l : Launch) (D : g_D) (K : g_D → Prop) : Prop := g_Kv E l m_X12_laysDue 4 [g_R 208] g_SH D K
abbrev n_X12_laysDue (E : g_E) (l : Launch) (D : g_D) (pc : Nat) (L : List (Option g_V)) (K : g_D → Prop) : Prop := g_N E l m_X12_laysDue 4 pc L [] g_SH D (g_Rv g_SH K)
theorem s_X12_laysDue {E : g_E} {l : Launch} {D : g_D} {K : g_D → Prop}   (hF : g_okD D → k_X12_laysSteps E l D (fun x1 D1 => g_r x1 → n_X12_laysDue E l D1 7 [some (g_R 208), some (g_I 0), none, none] K)) : k_X12_laysDue E l D K := by
  refine g_enter (by decide) (Nat.le_of_ble_eq_true rfl) ?_
  show g_N E l m_X12_laysDue 4 0 [some (g_R 208), none, none, none] [] g_SH D (g_Rv g_SH K)
  refine g_use (fun ok => ?_)
  have hF := hF ok.2.1
  refine g_aload_n dX12_laysDue_0 rfl ?_
  refine gw_cVi (b := 208) (As := []) (rest := []) dX12_laysDue_1 mv_X12_324 sh_208 rfl (Nat.le_of_ble_eq_true rfl) (by decide) rfl hF ?_
  intro x1 D1 hx1 hF
  have hF := hF hx1
  refine g_pop dX12_laysDue_4 rfl ?_
  refine g_iconst dX12_laysDue_5 ⟨by decide, by decide⟩ ?_
  refine gw_istore_n (L' := [some (g_R 208), some (g_I 0), none, none]) dX12_laysDue_6 (by decide) rfl ?_
  exact hF
theorem s_X12_laysDue_7 {E : g_E} {l : Launch} {D : g_D} {K : g_D → Prop} {v1 : Int}  (hF : g_okD D → g_r v1 → (60 ≤ v1 → n_X12_laysDue E l D 37 [some (g_R 208), some (g_I 0), none, none] K) ∧ (¬ 60 ≤ v1 → (g_r (153 + v1)) ∧ ((0 ≤ (153 + v1) ∧ (153 + v1) < 1557) ∧ ((0 ≤ v1 ∧ v1 < 60) ∧ (∀ D1, D1 = g_up D 239 v1.toNat (D 209 (153 + v1).toNat) → ((g_r (v1 + 1)) ∧ (n_X12_laysDue E l D1 7 [some (g_R 208), some (g_I (v1 + 1)), none, none] K))))))) : n_X12_laysDue E l D 7 [some (g_R 208), some (g_I v1), none, none] K := by
  refine g_use (fun ok => ?_)
  have hF := hF ok.2.1 (ok.loc (i := 1) rfl)
  refine g_iload_n dX12_laysDue_7 rfl ?_
  refine g_bipush dX12_laysDue_8 ⟨by decide, by decide⟩ ?_
  refine g_cge dX12_laysDue_10 rfl (fun q => ?_) (fun q => ?_)
  · have hF := hF.1 q
    refine g_iconst dX12_laysDue_35 ⟨by decide, by decide⟩ ?_
    refine gw_istore_n (L' := [some (g_R 208), some (g_I 0), none, none]) dX12_laysDue_36 (by decide) rfl ?_
    exact hF
  · have hF := hF.2 q
    refine g_aload_n dX12_laysDue_13 rfl ?_
    refine g_getR dX12_laysDue_14 fd_X12_108 sh_208 rfl ?_
    refine g_iload_n dX12_laysDue_17 rfl ?_
    refine g_aload_n dX12_laysDue_18 rfl ?_
    refine g_getR dX12_laysDue_19 fd_X12_13 sh_208 rfl ?_
    refine g_sipush dX12_laysDue_22 ⟨by decide, by decide⟩ ?_
    refine g_iload_n dX12_laysDue_25 rfl ?_
    obtain ⟨hc, hF⟩ := hF
    refine g_iadd dX12_laysDue_26 hc ?_
    obtain ⟨hc, hF⟩ := hF
    refine g_iald dX12_laysDue_27 sh_209 hc.1 hc.2 ?_
    obtain ⟨hc, hF⟩ := hF
    let D1 : g_D := g_up D 239 v1.toNat (D 209 (153 + v1).toNat)
    have hF := hF D1 rfl
    refine g_iast dX12_laysDue_28 sh_239 hc.1 hc.2 ?_
    obtain ⟨hc, hF⟩ := hF
    refine gw_iinc (L' := [some (g_R 208), some (g_I (v1 + 1)), none, none]) dX12_laysDue_29 rfl hc (by decide) rfl ?_
    refine g_goto dX12_laysDue_32 rfl ?_
    exact hF
theorem s_X12_laysDue_37 {E : g_E} {l : Launch} {D : g_D} {K : g_D → Prop} {v1 : Int}  (hF : g_okD D → g_r v1 → ((D 208 46) < v1 → (0 ≤ (D 208 46) ∧ (D 208 46) < 401) ∧ (∀ D1, D1 = g_up D 238 (D 208 46).toNat 0 → ((g_r ((D 208 46) - 1)) ∧ (n_X12_laysDue E l D1 112 [some (g_R 208), some (g_I ((D 208 46) - 1)), none, none] K)))) ∧ (¬ (D 208 46) < v1 → n_X12_laysDue E l D 47 [some (g_R 208), some (g_I v1), some (g_I 0), none] K)) : n_X12_laysDue E l D 37 [some (g_R 208), some (g_I v1), none, none] K := by
  refine g_use (fun ok => ?_)
  have hF := hF ok.2.1 (ok.loc (i := 1) rfl)
  refine g_iload_n dX12_laysDue_37 rfl ?_
  refine g_aload_n dX12_laysDue_38 rfl ?_
  refine g_getI dX12_laysDue_39 fd_X12_342 sh_208 rfl ?_
  refine g_cgt dX12_laysDue_42 rfl (fun q => ?_) (fun q => ?_)
  · have hF := hF.1 q
    refine g_aload_n dX12_laysDue_95 rfl ?_
    refine g_getR dX12_laysDue_96 fd_X12_105 sh_208 rfl ?_
    refine g_aload_n dX12_laysDue_99 rfl ?_
    refine g_getI dX12_laysDue_100 fd_X12_342 sh_208 rfl ?_
    refine g_iconst dX12_laysDue_103 ⟨by decide, by decide⟩ ?_
    obtain ⟨hc, hF⟩ := hF
    let D1 : g_D := g_up D 238 (D 208 46).toNat 0
    have hF := hF D1 rfl
    refine g_iast dX12_laysDue_104 sh_238 hc.1 hc.2 ?_
    refine g_aload_n dX12_laysDue_105 rfl ?_
    refine g_getI dX12_laysDue_106 fd_X12_342 sh_208 rfl ?_
    refine g_iconst dX12_laysDue_109 ⟨by decide, by decide⟩ ?_
    obtain ⟨hc, hF⟩ := hF
    refine g_isub dX12_laysDue_110 hc ?_
    refine gw_istore_n (L' := [some (g_R 208), some (g_I ((D 208 46) - 1)), none, none]) dX12_laysDue_111 (by decide) rfl ?_
    exact hF
  · have hF := hF.2 q
    refine g_iconst dX12_laysDue_45 ⟨by decide, by decide⟩ ?_
    refine gw_istore_n (L' := [some (g_R 208), some (g_I v1), some (g_I 0), none]) dX12_laysDue_46 (by decide) rfl ?_
    exact hF
theorem s_X12_laysDue_47 {E : g_E} {l : Launch} {D : g_D} {K : g_D → Prop} {v1 : Int} {v2 : Int}  (hF : g_okD D → g_r v1 → g_r v2 → (60 ≤ v2 → ((D 208 46) ≤ v1 → (g_r (v1 + 1)) ∧ (n_X12_laysDue E l D 37 [some (g_R 208), some (g_I (v1 + 1)), none, none] K)) ∧ (¬ (D 208 46) ≤ v1 → k_X12_doesStep E l D v1 (fun D1 => (g_r (v1 + 1)) ∧ (n_X12_laysDue E l D1 37 [some (g_R 208), some (g_I (v1 + 1)), none, none] K)))) ∧ (¬ 60 ≤ v2 → (g_r (60 * v1)) ∧ ((g_r ((60 * v1) + v2)) ∧ ((0 ≤ v2 ∧ v2 < 60) ∧ ((0 ≤ ((60 * v1) + v2) ∧ ((60 * v1) + v2) < 24060) ∧ (∀ D2, D2 = g_up D 237 ((60 * v1) + v2).toNat (D 239 v2.toNat) → ((g_r (v2 + 1)) ∧ (n_X12_laysDue E l D2 47 [some (g_R 208), some (g_I v1), some (g_I (v2 + 1)), none] K)))))))) : n_X12_laysDue E l D 47 [some (g_R 208), some (g_I v1), some (g_I v2), none] K := by
  refine g_use (fun ok => ?_)
  have hF := hF ok.2.1 (ok.loc (i := 1) rfl) (ok.loc (i := 2) rfl)
  refine g_iload_n dX12_laysDue_47 rfl ?_
  refine g_bipush dX12_laysDue_48 ⟨by decide, by decide⟩ ?_
  refine g_cge dX12_laysDue_50 rfl (fun q => ?_) (fun q => ?_)
  · have hF := hF.1 q
    refine g_iload_n dX12_laysDue_76 rfl ?_
    refine g_aload_n dX12_laysDue_77 rfl ?_
    refine g_getI dX12_laysDue_78 fd_X12_342 sh_208 rfl ?_
    refine g_cge dX12_laysDue_81 rfl (fun q => ?_) (fun q => ?_)
    · have hF := hF.1 q
      obtain ⟨hc, hF⟩ := hF
      refine gw_iinc (L' := [some (g_R 208), some (g_I (v1 + 1)), some (g_I v2), none]) dX12_laysDue_89 rfl hc (by decide) rfl ?_
      refine g_goto dX12_laysDue_92 rfl ?_
      exact g_forget (L' := [some (g_R 208), some (g_I (v1 + 1)), none, none]) ⟨rfl, ⟨rfl, trivial⟩⟩ hF
    · have hF := hF.2 q
      refine g_aload_n dX12_laysDue_84 rfl ?_
      refine g_iload_n dX12_laysDue_85 rfl ?_
      refine gw_cVv (b := 208) (As := [g_I v1]) (rest := []) dX12_laysDue_86 mv_X12_360 sh_208 rfl (Nat.le_of_ble_eq_true rfl) (by decide) rfl hF ?_
      intro D1 hF
      obtain ⟨hc, hF⟩ := hF
      refine gw_iinc (L' := [some (g_R 208), some (g_I (v1 + 1)), some (g_I v2), none]) dX12_laysDue_89 rfl hc (by decide) rfl ?_
      refine g_goto dX12_laysDue_92 rfl ?_
      exact g_forget (L' := [some (g_R 208), some (g_I (v1 + 1)), none, none]) ⟨rfl, ⟨rfl, trivial⟩⟩ hF
  · have hF := hF.2 q
    refine g_aload_n dX12_laysDue_53 rfl ?_
    refine g_getR dX12_laysDue_54 fd_X12_102 sh_208 rfl ?_
    refine g_bipush dX12_laysDue_57 ⟨by decide, by decide⟩ ?_
    refine g_iload_n dX12_laysDue_59 rfl ?_
    obtain ⟨hc, hF⟩ := hF
    refine g_imul dX12_laysDue_60 hc ?_
    refine g_iload_n dX12_laysDue_61 rfl ?_
    obtain ⟨hc, hF⟩ := hF
    refine g_iadd dX12_laysDue_62 hc ?_
    refine g_aload_n dX12_laysDue_63 rfl ?_
    refine g_getR dX12_laysDue_64 fd_X12_108 sh_208 rfl ?_
    refine g_iload_n dX12_laysDue_67 rfl ?_
    obtain ⟨hc, hF⟩ := hF
    refine g_iald dX12_laysDue_68 sh_239 hc.1 hc.2 ?_
    obtain ⟨hc, hF⟩ := hF
    let D2 : g_D := g_up D 237 ((60 * v1) + v2).toNat (D 239 v2.toNat)
    have hF := hF D2 rfl
    refine g_iast dX12_laysDue_69 sh_237 hc.1 hc.2 ?_
    obtain ⟨hc, hF⟩ := hF
    refine gw_iinc (L' := [some (g_R 208), some (g_I v1), some (g_I (v2 + 1)), none]) dX12_laysDue_70 rfl hc (by decide) rfl ?_
    refine g_goto dX12_laysDue_73 rfl ?_
    exact hF
theorem s_X12_laysDue_112 {E : g_E} {l : Launch} {D : g_D} {K : g_D → Prop} {v1 : Int}  (hF : g_okD D → g_r v1 → (v1 < 0 → K D) ∧ (¬ v1 < 0 → (g_r (v1 + 1)) ∧ ((0 ≤ (v1 + 1) ∧ (v1 + 1) < 401) ∧ ((0 ≤ v1 ∧ v1 < 400) ∧ (k_X12_actNow E l D (D 235 v1.toNat) 0 (fun x1 D1 => g_r x1 → (¬ x1 = 1 → k_X12_actNow E l D1 (D 235 v1.toNat) 0 (fun x2 D2 => g_r x2 → (¬ x2 = 3 → (0 ≤ v1 ∧ v1 < 401) ∧ (∀ D3, D3 = g_up D2 238 v1.toNat (D 238 (v1 + 1).toNat) → ((g_r (v1 + (-1))) ∧ (n_X12_laysDue E l D3 112 [some (g_R 208), some (g_I (v1 + (-1))), none, none] K)))) ∧ (x2 = 3 → k_X12_readsStash E l D2 v1 (fun x4 D4 => g_r x4 → (0 ≤ v1 ∧ v1 < 401) ∧ (∀ D5, D5 = g_up D4 238 v1.toNat (g_or (D 238 (v1 + 1).toNat) x4) → ((g_r (v1 + (-1))) ∧ (n_X12_laysDue E l D5 112 [some (g_R 208), some (g_I (v1 + (-1))), none, none] K))))))) ∧ (x1 = 1 → k_X12_actNow E l D1 (D 235 v1.toNat) 3 (fun x6 D6 => g_r x6 → (g_r ((g_shl 1 x6) - 1)) ∧ (k_X12_actNow E l D6 (D 235 v1.toNat) 1 (fun x7 D7 => g_r x7 → k_X12_actNow E l D7 (D 235 v1.toNat) 0 (fun x8 D8 => g_r x8 → (¬ x8 = 3 → (0 ≤ v1 ∧ v1 < 401) ∧ (∀ D9, D9 = g_up D8 238 v1.toNat (g_and (D 238 (v1 + 1).toNat) (g_xor (g_shl ((g_shl 1 x6) - 1) x7) (-1))) → ((g_r (v1 + (-1))) ∧ (n_X12_laysDue E l D9 112 [some (g_R 208), some (g_I (v1 + (-1))), none, none] K)))) ∧ (x8 = 3 → k_X12_readsStash E l D8 v1 (fun x10 D10 => g_r x10 → (0 ≤ v1 ∧ v1 < 401) ∧ (∀ D11, D11 = g_up D10 238 v1.toNat (g_or (g_and (D 238 (v1 + 1).toNat) (g_xor (g_shl ((g_shl 1 x6) - 1) x7) (-1))) x10) → ((g_r (v1 + (-1))) ∧ (n_X12_laysDue E l D11 112 [some (g_R 208), some (g_I (v1 + (-1))), none, none] K)))))))))))))))) : n_X12_laysDue E l D 112 [some (g_R 208), some (g_I v1), none, none] K := by
  refine g_use (fun ok => ?_)
  have hF := hF ok.2.1 (ok.loc (i := 1) rfl)
  refine g_iload_n dX12_laysDue_112 rfl ?_
  refine g_iflt dX12_laysDue_113 rfl (fun q => ?_) (fun q => ?_)
  · have hF := hF.1 q
    exact gw_vret dX12_laysDue_195 rfl hF
  · have hF := hF.2 q
    refine g_aload_n dX12_laysDue_116 rfl ?_
    refine g_getR dX12_laysDue_117 fd_X12_105 sh_208 rfl ?_
    refine g_iload_n dX12_laysDue_120 rfl ?_
    refine g_iconst dX12_laysDue_121 ⟨by decide, by decide⟩ ?_
    obtain ⟨hc, hF⟩ := hF
    refine g_iadd dX12_laysDue_122 hc ?_
    obtain ⟨hc, hF⟩ := hF
    refine g_iald dX12_laysDue_123 sh_238 hc.1 hc.2 ?_
    refine gw_istore_n (L' := [some (g_R 208), some (g_I v1), some (g_I (D 238 (v1 + 1).toNat)), none]) dX12_laysDue_124 (by decide) rfl ?_
    refine g_aload_n dX12_laysDue_125 rfl ?_
    refine g_getR dX12_laysDue_126 fd_X12_96 sh_208 rfl ?_
    refine g_iload_n dX12_laysDue_129 rfl ?_
    obtain ⟨hc, hF⟩ := hF
    refine g_iald dX12_laysDue_130 sh_235 hc.1 hc.2 ?_
    refine gw_istore_n (L' := [some (g_R 208), some (g_I v1), some (g_I (D 238 (v1 + 1).toNat)), some (g_I (D 235 v1.toNat))]) dX12_laysDue_131 (by decide) rfl ?_
    refine g_aload_n dX12_laysDue_132 rfl ?_
    refine g_iload_n dX12_laysDue_133 rfl ?_
    refine g_iconst dX12_laysDue_134 ⟨by decide, by decide⟩ ?_
    refine gw_cVi (b := 208) (As := [g_I (D 235 v1.toNat), g_I 0]) (rest := []) dX12_laysDue_135 mv_X12_336 sh_208 rfl (Nat.le_of_ble_eq_true rfl) (by decide) rfl hF ?_
    intro x1 D1 hx1 hF
    have hF := hF hx1
    refine g_iconst dX12_laysDue_138 ⟨by decide, by decide⟩ ?_
    refine g_cne dX12_laysDue_139 rfl (fun q => ?_) (fun q => ?_)
    · have hF := hF.1 q
      refine g_aload_n dX12_laysDue_164 rfl ?_
      refine g_iload_n dX12_laysDue_165 rfl ?_
      refine g_iconst dX12_laysDue_166 ⟨by decide, by decide⟩ ?_
      refine gw_cVi (b := 208) (As := [g_I (D 235 v1.toNat), g_I 0]) (rest := []) dX12_laysDue_167 mv_X12_336 sh_208 rfl (Nat.le_of_ble_eq_true rfl) (by decide) rfl hF ?_
      intro x2 D2 hx2 hF
      have hF := hF hx2
      refine g_iconst dX12_laysDue_170 ⟨by decide, by decide⟩ ?_
      refine g_cne dX12_laysDue_171 rfl (fun q => ?_) (fun q => ?_)
      · have hF := hF.1 q
        refine g_aload_n dX12_laysDue_182 rfl ?_
        refine g_getR dX12_laysDue_183 fd_X12_105 sh_208 rfl ?_
        refine g_iload_n dX12_laysDue_186 rfl ?_
        refine g_iload_n dX12_laysDue_187 rfl ?_
        obtain ⟨hc, hF⟩ := hF
        let D3 : g_D := g_up D2 238 v1.toNat (D 238 (v1 + 1).toNat)
        have hF := hF D3 rfl
        refine g_iast dX12_laysDue_188 sh_238 hc.1 hc.2 ?_
        obtain ⟨hc, hF⟩ := hF
        refine gw_iinc (L' := [some (g_R 208), some (g_I (v1 + (-1))), some (g_I (D 238 (v1 + 1).toNat)), some (g_I (D 235 v1.toNat))]) dX12_laysDue_189 rfl hc (by decide) rfl ?_
        refine g_goto dX12_laysDue_192 rfl ?_
        exact g_forget (L' := [some (g_R 208), some (g_I (v1 + (-1))), none, none]) ⟨rfl, ⟨rfl, trivial⟩⟩ hF
      · have hF := hF.2 q
        refine g_iload_n dX12_laysDue_174 rfl ?_
        refine g_aload_n dX12_laysDue_175 rfl ?_
        refine g_iload_n dX12_laysDue_176 rfl ?_
        refine gw_cVi (b := 208) (As := [g_I v1]) (rest := [g_I (D 238 (v1 + 1).toNat)]) dX12_laysDue_177 mv_X12_363 sh_208 rfl (Nat.le_of_ble_eq_true rfl) (by decide) rfl hF ?_
        intro x4 D4 hx4 hF
        have hF := hF hx4
        refine g_ior dX12_laysDue_180 ?_
        refine gw_istore_n (L' := [some (g_R 208), some (g_I v1), some (g_I (g_or (D 238 (v1 + 1).toNat) x4)), some (g_I (D 235 v1.toNat))]) dX12_laysDue_181 (by decide) rfl ?_
        refine g_aload_n dX12_laysDue_182 rfl ?_
        refine g_getR dX12_laysDue_183 fd_X12_105 sh_208 rfl ?_
        refine g_iload_n dX12_laysDue_186 rfl ?_
        refine g_iload_n dX12_laysDue_187 rfl ?_
        obtain ⟨hc, hF⟩ := hF
        let D5 : g_D := g_up D4 238 v1.toNat (g_or (D 238 (v1 + 1).toNat) x4)
        have hF := hF D5 rfl
        refine g_iast dX12_laysDue_188 sh_238 hc.1 hc.2 ?_
        obtain ⟨hc, hF⟩ := hF
        refine gw_iinc (L' := [some (g_R 208), some (g_I (v1 + (-1))), some (g_I (g_or (D 238 (v1 + 1).toNat) x4)), some (g_I (D 235 v1.toNat))]) dX12_laysDue_189 rfl hc (by decide) rfl ?_
        refine g_goto dX12_laysDue_192 rfl ?_
        exact g_forget (L' := [some (g_R 208), some (g_I (v1 + (-1))), none, none]) ⟨rfl, ⟨rfl, trivial⟩⟩ hF
    · have hF := hF.2 q
      refine g_iload_n dX12_laysDue_142 rfl ?_
      refine g_iconst dX12_laysDue_143 ⟨by decide, by decide⟩ ?_
      refine g_aload_n dX12_laysDue_144 rfl ?_
      refine g_iload_n dX12_laysDue_145 rfl ?_
      refine g_iconst dX12_laysDue_146 ⟨by decide, by decide⟩ ?_
      refine gw_cVi (b := 208) (As := [g_I (D 235 v1.toNat), g_I 3]) (rest := [g_I 1, g_I (D 238 (v1 + 1).toNat)]) dX12_laysDue_147 mv_X12_336 sh_208 rfl (Nat.le_of_ble_eq_true rfl) (by decide) rfl hF ?_
      intro x6 D6 hx6 hF
      have hF := hF hx6
      refine g_ishl dX12_laysDue_150 ?_
      refine g_iconst dX12_laysDue_151 ⟨by decide, by decide⟩ ?_
      obtain ⟨hc, hF⟩ := hF
      refine g_isub dX12_laysDue_152 hc ?_
      refine g_aload_n dX12_laysDue_153 rfl ?_
      refine g_iload_n dX12_laysDue_154 rfl ?_
      refine g_iconst dX12_laysDue_155 ⟨by decide, by decide⟩ ?_
      refine gw_cVi (b := 208) (As := [g_I (D 235 v1.toNat), g_I 1]) (rest := [g_I ((g_shl 1 x6) - 1), g_I (D 238 (v1 + 1).toNat)]) dX12_laysDue_156 mv_X12_336 sh_208 rfl (Nat.le_of_ble_eq_true rfl) (by decide) rfl hF ?_
      intro x7 D7 hx7 hF
      have hF := hF hx7
      refine g_ishl dX12_laysDue_159 ?_
      refine g_iconst dX12_laysDue_160 ⟨by decide, by decide⟩ ?_
      refine g_ixor dX12_laysDue_161 ?_
      refine g_iand dX12_laysDue_162 ?_
      refine gw_istore_n (L' := [some (g_R 208), some (g_I v1), some (g_I (g_and (D 238 (v1 + 1).toNat) (g_xor (g_shl ((g_shl 1 x6) - 1) x7) (-1)))), some (g_I (D 235 v1.toNat))]) dX12_laysDue_163 (by decide) rfl ?_
      refine g_aload_n dX12_laysDue_164 rfl ?_
      refine g_iload_n dX12_laysDue_165 rfl ?_
      refine g_iconst dX12_laysDue_166 ⟨by decide, by decide⟩ ?_
      refine gw_cVi (b := 208) (As := [g_I (D 235 v1.toNat), g_I 0]) (rest := []) dX12_laysDue_167 mv_X12_336 sh_208 rfl (Nat.le_of_ble_eq_true rfl) (by decide) rfl hF ?_
      intro x8 D8 hx8 hF
      have hF := hF hx8
      refine g_iconst dX12_laysDue_170 ⟨by decide, by decide⟩ ?_
      refine g_cne dX12_laysDue_171 rfl (fun q => ?_) (fun q => ?_)
      · have hF := hF.1 q
        refine g_aload_n dX12_laysDue_182 rfl ?_
        refine g_getR dX12_laysDue_183 fd_X12_105 sh_208 rfl ?_
        refine g_iload_n dX12_laysDue_186 rfl ?_
        refine g_iload_n dX12_laysDue_187 rfl ?_
        obtain ⟨hc, hF⟩ := hF
        let D9 : g_D := g_up D8 238 v1.toNat (g_and (D 238 (v1 + 1).toNat) (g_xor (g_shl ((g_shl 1 x6) - 1) x7) (-1)))
        have hF := hF D9 rfl
        refine g_iast dX12_laysDue_188 sh_238 hc.1 hc.2 ?_
        obtain ⟨hc, hF⟩ := hF
        refine gw_iinc (L' := [some (g_R 208), some (g_I (v1 + (-1))), some (g_I (g_and (D 238 (v1 + 1).toNat) (g_xor (g_shl ((g_shl 1 x6) - 1) x7) (-1)))), some (g_I (D 235 v1.toNat))]) dX12_laysDue_189 rfl hc (by decide) rfl ?_
        refine g_goto dX12_laysDue_192 rfl ?_
        exact g_forget (L' := [some (g_R 208), some (g_I (v1 + (-1))), none, none]) ⟨rfl, ⟨rfl, trivial⟩⟩ hF
      · have hF := hF.2 q
        refine g_iload_n dX12_laysDue_174 rfl ?_
        refine g_aload_n dX12_laysDue_175 rfl ?_
        refine g_iload_n dX12_laysDue_176 rfl ?_
        refine gw_cVi (b := 208) (As := [g_I v1]) (rest := [g_I (g_and (D 238 (v1 + 1).toNat) (g_xor (g_shl ((g_shl 1 x6) - 1) x7) (-1)))]) dX12_laysDue_177 mv_X12_363 sh_208 rfl (Nat.le_of_ble_eq_true rfl) (by decide) rfl hF ?_
        intro x10 D10 hx10 hF
        have hF := hF hx10
        refine g_ior dX12_laysDue_180 ?_
        refine gw_istore_n (L' := [some (g_R 208), some (g_I v1), some (g_I (g_or (g_and (D 238 (v1 + 1).toNat) (g_xor (g_shl ((g_shl 1 x6) - 1) x7) (-1))) x10)), some (g_I (D 235 v1.toNat))]) dX12_laysDue_181 (by decide) rfl ?_
        refine g_aload_n dX12_laysDue_182 rfl ?_
        refine g_getR dX12_laysDue_183 fd_X12_105 sh_208 rfl ?_
        refine g_iload_n dX12_laysDue_186 rfl ?_
        refine g_iload_n dX12_laysDue_187 rfl ?_
        obtain ⟨hc, hF⟩ := hF
        let D11 : g_D := g_up D10 238 v1.toNat (g_or (g_and (D 238 (v1 + 1).toNat) (g_xor (g_shl ((g_shl 1 x6) - 1) x7) (-1))) x10)
        have hF := hF D11 rfl
        refine g_iast dX12_laysDue_188 sh_238 hc.1 hc.2 ?_
        obtain ⟨hc, hF⟩ := hF
        refine gw_iinc (L' := [some (g_R 208), some (g_I (v1 + (-1))), some (g_I (g_or (g_and (D 238 (v1 + 1).toNat) (g_xor (g_shl ((g_shl 1 x6) - 1) x7) (-1))) x10)), some (g_I (D 235 v1.toNat))]) dX12_laysDue_189 rfl hc (by decide) rfl ?_
        refine g_goto dX12_laysDue_192 rfl ?_
        exact g_forget (L' := [some (g_R 208), some (g_I (v1 + (-1))), none, none]) ⟨rfl, ⟨rfl, trivial⟩⟩ hF
theorem dX12_worksNow_0 : decode cX12_worksNow 0 = .ok (.iconst 0, 1) := by decide +kernel
theorem dX12_worksNow_1 : decode cX12_worksNow 1 = .ok (.istore_n 1, 1) := by decide +kernel
theorem dX12_worksNow_2 : decode cX12_worksNow 2 = .ok (.iload_n 1, 1) := by decide +kernel
theorem dX12_worksNow_3 : decode cX12_worksNow 3 = .ok (.bipush 60, 2) := by decide +kernel
theorem dX12_worksNow_5 : decode cX12_worksNow 5 = .ok (.if_icmp .ge 24, 3) := by decide +kernel
theorem dX12_worksNow_8 : decode cX12_worksNow 8 = .ok (.aload_n 0, 1) := by decide +kernel
theorem dX12_worksNow_9 : decode cX12_worksNow 9 = .ok (.getfield 108, 3) := by decide +kernel
theorem dX12_worksNow_12 : decode cX12_worksNow 12 = .ok (.iload_n 1, 1) := by decide +kernel
theorem dX12_worksNow_13 : decode cX12_worksNow 13 = .ok (.aload_n 0, 1) := by decide +kernel
theorem dX12_worksNow_14 : decode cX12_worksNow 14 = .ok (.getfield 13, 3) := by decide +kernel
theorem dX12_worksNow_17 : decode cX12_worksNow 17 = .ok (.bipush 86, 2) := by decide +kernel
theorem dX12_worksNow_19 : decode cX12_worksNow 19 = .ok (.iload_n 1, 1) := by decide +kernel
theorem dX12_worksNow_20 : decode cX12_worksNow 20 = .ok (.iadd, 1) := by decide +kernel
theorem dX12_worksNow_21 : decode cX12_worksNow 21 = .ok (.iaload, 1) := by decide +kernel
theorem dX12_worksNow_22 : decode cX12_worksNow 22 = .ok (.iastore, 1) := by decide +kernel
theorem dX12_worksNow_23 : decode cX12_worksNow 23 = .ok (.iinc 1 1, 3) := by decide +kernel
theorem dX12_worksNow_26 : decode cX12_worksNow 26 = .ok (.goto (-24), 3) := by decide +kernel
theorem dX12_worksNow_29 : decode cX12_worksNow 29 = .ok (.return_, 1) := by decide +kernel
abbrev k_X12_worksNow (E : g_E) (l : Launch) (D : g_D) (K : g_D → Prop) : Prop := g_Kv E l m_X12_worksNow 0 [g_R 208] g_SH D K
abbrev n_X12_worksNow (E : g_E) (l : Launch) (D : g_D) (pc : Nat) (L : List (Option g_V)) (K : g_D → Prop) : Prop := g_N E l m_X12_worksNow 0 pc L [] g_SH D (g_Rv g_SH K)
theorem s_X12_worksNow {E : g_E} {l : Launch} {D : g_D} {K : g_D → Prop}   (hF : g_okD D → n_X12_worksNow E l D 2 [some (g_R 208), some (g_I 0)] K) : k_X12_worksNow E l D K := by
  refine g_enter (by decide) (Nat.le_of_ble_eq_true rfl) ?_
  show g_N E l m_X12_worksNow 0 0 [some (g_R 208), none] [] g_SH D (g_Rv g_SH K)
  refine g_use (fun ok => ?_)
  have hF := hF ok.2.1
  refine g_iconst dX12_worksNow_0 ⟨by decide, by decide⟩ ?_
  refine gw_istore_n (L' := [some (g_R 208), some (g_I 0)]) dX12_worksNow_1 (by decide) rfl ?_
  exact hF
theorem s_X12_worksNow_2 {E : g_E} {l : Launch} {D : g_D} {K : g_D → Prop} {v1 : Int}  (hF : g_okD D → g_r v1 → (60 ≤ v1 → K D) ∧ (¬ 60 ≤ v1 → (g_r (86 + v1)) ∧ ((0 ≤ (86 + v1) ∧ (86 + v1) < 1557) ∧ ((0 ≤ v1 ∧ v1 < 60) ∧ (∀ D1, D1 = g_up D 239 v1.toNat (D 209 (86 + v1).toNat) → ((g_r (v1 + 1)) ∧ (n_X12_worksNow E l D1 2 [some (g_R 208), some (g_I (v1 + 1))] K))))))) : n_X12_worksNow E l D 2 [some (g_R 208), some (g_I v1)] K := by
  refine g_use (fun ok => ?_)
  have hF := hF ok.2.1 (ok.loc (i := 1) rfl)
  refine g_iload_n dX12_worksNow_2 rfl ?_
  refine g_bipush dX12_worksNow_3 ⟨by decide, by decide⟩ ?_
  refine g_cge dX12_worksNow_5 rfl (fun q => ?_) (fun q => ?_)
  · have hF := hF.1 q
    exact gw_vret dX12_worksNow_29 rfl hF
  · have hF := hF.2 q
    refine g_aload_n dX12_worksNow_8 rfl ?_
    refine g_getR dX12_worksNow_9 fd_X12_108 sh_208 rfl ?_
    refine g_iload_n dX12_worksNow_12 rfl ?_
    refine g_aload_n dX12_worksNow_13 rfl ?_
    refine g_getR dX12_worksNow_14 fd_X12_13 sh_208 rfl ?_
    refine g_bipush dX12_worksNow_17 ⟨by decide, by decide⟩ ?_
    refine g_iload_n dX12_worksNow_19 rfl ?_
    obtain ⟨hc, hF⟩ := hF
    refine g_iadd dX12_worksNow_20 hc ?_
    obtain ⟨hc, hF⟩ := hF
    refine g_iald dX12_worksNow_21 sh_209 hc.1 hc.2 ?_
    obtain ⟨hc, hF⟩ := hF
    let D1 : g_D := g_up D 239 v1.toNat (D 209 (86 + v1).toNat)
    have hF := hF D1 rfl
    refine g_iast dX12_worksNow_22 sh_239 hc.1 hc.2 ?_
    obtain ⟨hc, hF⟩ := hF
    refine gw_iinc (L' := [some (g_R 208), some (g_I (v1 + 1))]) dX12_worksNow_23 rfl hc (by decide) rfl ?_
    refine g_goto dX12_worksNow_26 rfl ?_
    exact hF
theorem dX12_writesJournal_0 : decode cX12_writesJournal 0 = .ok (.aload_n 0, 1) := by decide +kernel
theorem dX12_writesJournal_1 : decode cX12_writesJournal 1 = .ok (.getfield 117, 3) := by decide +kernel
theorem dX12_writesJournal_4 : decode cX12_writesJournal 4 = .ok (.iconst (-1), 1) := by decide +kernel
theorem dX12_writesJournal_5 : decode cX12_writesJournal 5 = .ok (.if_icmp .ne 4, 3) := by decide +kernel
theorem dX12_writesJournal_8 : decode cX12_writesJournal 8 = .ok (.return_, 1) := by decide +kernel
theorem dX12_writesJournal_9 : decode cX12_writesJournal 9 = .ok (.iconst 0, 1) := by decide +kernel
theorem dX12_writesJournal_10 : decode cX12_writesJournal 10 = .ok (.istore_n 1, 1) := by decide +kernel
theorem dX12_writesJournal_11 : decode cX12_writesJournal 11 = .ok (.iload_n 1, 1) := by decide +kernel
theorem dX12_writesJournal_12 : decode cX12_writesJournal 12 = .ok (.iconst 4, 1) := by decide +kernel
theorem dX12_writesJournal_13 : decode cX12_writesJournal 13 = .ok (.if_icmp .ge 28, 3) := by decide +kernel
theorem dX12_writesJournal_16 : decode cX12_writesJournal 16 = .ok (.aload_n 0, 1) := by decide +kernel
theorem dX12_writesJournal_17 : decode cX12_writesJournal 17 = .ok (.getfield 108, 3) := by decide +kernel
theorem dX12_writesJournal_20 : decode cX12_writesJournal 20 = .ok (.iconst 4, 1) := by decide +kernel
theorem dX12_writesJournal_21 : decode cX12_writesJournal 21 = .ok (.aload_n 0, 1) := by decide +kernel
theorem dX12_writesJournal_22 : decode cX12_writesJournal 22 = .ok (.getfield 117, 3) := by decide +kernel
theorem dX12_writesJournal_25 : decode cX12_writesJournal 25 = .ok (.imul, 1) := by decide +kernel
theorem dX12_writesJournal_26 : decode cX12_writesJournal 26 = .ok (.iload_n 1, 1) := by decide +kernel
theorem dX12_writesJournal_27 : decode cX12_writesJournal 27 = .ok (.iadd, 1) := by decide +kernel
theorem dX12_writesJournal_28 : decode cX12_writesJournal 28 = .ok (.aload_n 0, 1) := by decide +kernel
theorem dX12_writesJournal_29 : decode cX12_writesJournal 29 = .ok (.getfield 114, 3) := by decide +kernel
theorem dX12_writesJournal_32 : decode cX12_writesJournal 32 = .ok (.iload_n 1, 1) := by decide +kernel
theorem dX12_writesJournal_33 : decode cX12_writesJournal 33 = .ok (.iaload, 1) := by decide +kernel
theorem dX12_writesJournal_34 : decode cX12_writesJournal 34 = .ok (.iastore, 1) := by decide +kernel
theorem dX12_writesJournal_35 : decode cX12_writesJournal 35 = .ok (.iinc 1 1, 3) := by decide +kernel
theorem dX12_writesJournal_38 : decode cX12_writesJournal 38 = .ok (.goto (-27), 3) := by decide +kernel
theorem dX12_writesJournal_41 : decode cX12_writesJournal 41 = .ok (.return_, 1) := by decide +kernel
abbrev k_X12_writesJournal (E : g_E) (l : Launch) (D : g_D) (K : g_D → Prop) : Prop := g_Kv E l m_X12_writesJournal 0 [g_R 208] g_SH D K
abbrev n_X12_writesJournal (E : g_E) (l : Launch) (D : g_D) (pc : Nat) (L : List (Option g_V)) (K : g_D → Prop) : Prop := g_N E l m_X12_writesJournal 0 pc L [] g_SH D (g_Rv g_SH K)
theorem s_X12_writesJournal {E : g_E} {l : Launch} {D : g_D} {K : g_D → Prop}   (hF : g_okD D → (¬ (D 208 50) = (-1) → n_X12_writesJournal E l D 11 [some (g_R 208), some (g_I 0)] K) ∧ ((D 208 50) = (-1) → K D)) : k_X12_writesJournal E l D K := by
  refine g_enter (by decide) (Nat.le_of_ble_eq_true rfl) ?_
  show g_N E l m_X12_writesJournal 0 0 [some (g_R 208), none] [] g_SH D (g_Rv g_SH K)
  refine g_use (fun ok => ?_)
  have hF := hF ok.2.1
  refine g_aload_n dX12_writesJournal_0 rfl ?_
  refine g_getI dX12_writesJournal_1 fd_X12_117 sh_208 rfl ?_
  refine g_iconst dX12_writesJournal_4 ⟨by decide, by decide⟩ ?_
  refine g_cne dX12_writesJournal_5 rfl (fun q => ?_) (fun q => ?_)
  · have hF := hF.1 q
    refine g_iconst dX12_writesJournal_9 ⟨by decide, by decide⟩ ?_
    refine gw_istore_n (L' := [some (g_R 208), some (g_I 0)]) dX12_writesJournal_10 (by decide) rfl ?_
    exact hF
  · have hF := hF.2 q
    exact gw_vret dX12_writesJournal_8 rfl hF
theorem s_X12_writesJournal_11 {E : g_E} {l : Launch} {D : g_D} {K : g_D → Prop} {v1 : Int}  (hF : g_okD D → g_r v1 → (4 ≤ v1 → K D) ∧ (¬ 4 ≤ v1 → (g_r (4 * (D 208 50))) ∧ ((g_r ((4 * (D 208 50)) + v1)) ∧ ((0 ≤ v1 ∧ v1 < 4) ∧ ((0 ≤ ((4 * (D 208 50)) + v1) ∧ ((4 * (D 208 50)) + v1) < 60) ∧ (∀ D1, D1 = g_up D 239 ((4 * (D 208 50)) + v1).toNat (D 241 v1.toNat) → ((g_r (v1 + 1)) ∧ (n_X12_writesJournal E l D1 11 [some (g_R 208), some (g_I (v1 + 1))] K)))))))) : n_X12_writesJournal E l D 11 [some (g_R 208), some (g_I v1)] K := by
  refine g_use (fun ok => ?_)
  have hF := hF ok.2.1 (ok.loc (i := 1) rfl)
  refine g_iload_n dX12_writesJournal_11 rfl ?_
  refine g_iconst dX12_writesJournal_12 ⟨by decide, by decide⟩ ?_
  refine g_cge dX12_writesJournal_13 rfl (fun q => ?_) (fun q => ?_)
  · have hF := hF.1 q
    exact gw_vret dX12_writesJournal_41 rfl hF
  · have hF := hF.2 q
    refine g_aload_n dX12_writesJournal_16 rfl ?_
    refine g_getR dX12_writesJournal_17 fd_X12_108 sh_208 rfl ?_
    refine g_iconst dX12_writesJournal_20 ⟨by decide, by decide⟩ ?_
    refine g_aload_n dX12_writesJournal_21 rfl ?_
    refine g_getI dX12_writesJournal_22 fd_X12_117 sh_208 rfl ?_
    obtain ⟨hc, hF⟩ := hF
    refine g_imul dX12_writesJournal_25 hc ?_
    refine g_iload_n dX12_writesJournal_26 rfl ?_
    obtain ⟨hc, hF⟩ := hF
    refine g_iadd dX12_writesJournal_27 hc ?_
    refine g_aload_n dX12_writesJournal_28 rfl ?_
    refine g_getR dX12_writesJournal_29 fd_X12_114 sh_208 rfl ?_
    refine g_iload_n dX12_writesJournal_32 rfl ?_
    obtain ⟨hc, hF⟩ := hF
    refine g_iald dX12_writesJournal_33 sh_241 hc.1 hc.2 ?_
    obtain ⟨hc, hF⟩ := hF
    let D1 : g_D := g_up D 239 ((4 * (D 208 50)) + v1).toNat (D 241 v1.toNat)
    have hF := hF D1 rfl
    refine g_iast dX12_writesJournal_34 sh_239 hc.1 hc.2 ?_
    obtain ⟨hc, hF⟩ := hF
    refine gw_iinc (L' := [some (g_R 208), some (g_I (v1 + 1))]) dX12_writesJournal_35 rfl hc (by decide) rfl ?_
    refine g_goto dX12_writesJournal_38 rfl ?_
    exact hF
theorem dX12_isFit_0 : decode cX12_isFit 0 = .ok (.iconst 0, 1) := by decide +kernel
theorem dX12_isFit_1 : decode cX12_isFit 1 = .ok (.istore_n 2, 1) := by decide +kernel
theorem dX12_isFit_2 : decode cX12_isFit 2 = .ok (.iload_n 2, 1) := by decide +kernel
theorem dX12_isFit_3 : decode cX12_isFit 3 = .ok (.bipush 40, 2) := by decide +kernel
theorem dX12_isFit_5 : decode cX12_isFit 5 = .ok (.if_icmp .ge 31, 3) := by decide +kernel
theorem dX12_isFit_8 : decode cX12_isFit 8 = .ok (.aload_n 0, 1) := by decide +kernel
theorem dX12_isFit_9 : decode cX12_isFit 9 = .ok (.getfield 108, 3) := by decide +kernel
theorem dX12_isFit_12 : decode cX12_isFit 12 = .ok (.iload_n 2, 1) := by decide +kernel
theorem dX12_isFit_13 : decode cX12_isFit 13 = .ok (.iaload, 1) := by decide +kernel
theorem dX12_isFit_14 : decode cX12_isFit 14 = .ok (.aload_n 0, 1) := by decide +kernel
theorem dX12_isFit_15 : decode cX12_isFit 15 = .ok (.getfield 102, 3) := by decide +kernel
theorem dX12_isFit_18 : decode cX12_isFit 18 = .ok (.bipush 60, 2) := by decide +kernel
theorem dX12_isFit_20 : decode cX12_isFit 20 = .ok (.iload_n 1, 1) := by decide +kernel
theorem dX12_isFit_21 : decode cX12_isFit 21 = .ok (.imul, 1) := by decide +kernel
theorem dX12_isFit_22 : decode cX12_isFit 22 = .ok (.iload_n 2, 1) := by decide +kernel
theorem dX12_isFit_23 : decode cX12_isFit 23 = .ok (.iadd, 1) := by decide +kernel
theorem dX12_isFit_24 : decode cX12_isFit 24 = .ok (.iaload, 1) := by decide +kernel
theorem dX12_isFit_25 : decode cX12_isFit 25 = .ok (.if_icmp .eq 5, 3) := by decide +kernel
theorem dX12_isFit_28 : decode cX12_isFit 28 = .ok (.iconst 0, 1) := by decide +kernel
theorem dX12_isFit_29 : decode cX12_isFit 29 = .ok (.ireturn, 1) := by decide +kernel
theorem dX12_isFit_30 : decode cX12_isFit 30 = .ok (.iinc 2 1, 3) := by decide +kernel
theorem dX12_isFit_33 : decode cX12_isFit 33 = .ok (.goto (-31), 3) := by decide +kernel
theorem dX12_isFit_36 : decode cX12_isFit 36 = .ok (.iconst 0, 1) := by decide +kernel
theorem dX12_isFit_37 : decode cX12_isFit 37 = .ok (.istore_n 2, 1) := by decide +kernel
theorem dX12_isFit_38 : decode cX12_isFit 38 = .ok (.iload_n 2, 1) := by decide +kernel
theorem dX12_isFit_39 : decode cX12_isFit 39 = .ok (.bipush 20, 2) := by decide +kernel
theorem dX12_isFit_41 : decode cX12_isFit 41 = .ok (.if_icmp .ge 51, 3) := by decide +kernel
theorem dX12_isFit_44 : decode cX12_isFit 44 = .ok (.aload_n 0, 1) := by decide +kernel
theorem dX12_isFit_45 : decode cX12_isFit 45 = .ok (.getfield 105, 3) := by decide +kernel
theorem dX12_isFit_48 : decode cX12_isFit 48 = .ok (.iload_n 1, 1) := by decide +kernel
theorem dX12_isFit_49 : decode cX12_isFit 49 = .ok (.iaload, 1) := by decide +kernel
theorem dX12_isFit_50 : decode cX12_isFit 50 = .ok (.iload_n 2, 1) := by decide +kernel
theorem dX12_isFit_51 : decode cX12_isFit 51 = .ok (.ishr, 1) := by decide +kernel
theorem dX12_isFit_52 : decode cX12_isFit 52 = .ok (.iconst 1, 1) := by decide +kernel
theorem dX12_isFit_53 : decode cX12_isFit 53 = .ok (.iand, 1) := by decide +kernel
theorem dX12_isFit_54 : decode cX12_isFit 54 = .ok (.iconst 1, 1) := by decide +kernel
theorem dX12_isFit_55 : decode cX12_isFit 55 = .ok (.if_icmp .ne 31, 3) := by decide +kernel
theorem dX12_isFit_58 : decode cX12_isFit 58 = .ok (.aload_n 0, 1) := by decide +kernel
theorem dX12_isFit_59 : decode cX12_isFit 59 = .ok (.getfield 108, 3) := by decide +kernel
theorem dX12_isFit_62 : decode cX12_isFit 62 = .ok (.bipush 40, 2) := by decide +kernel
theorem dX12_isFit_64 : decode cX12_isFit 64 = .ok (.iload_n 2, 1) := by decide +kernel
theorem dX12_isFit_65 : decode cX12_isFit 65 = .ok (.iadd, 1) := by decide +kernel
theorem dX12_isFit_66 : decode cX12_isFit 66 = .ok (.iaload, 1) := by decide +kernel
theorem dX12_isFit_67 : decode cX12_isFit 67 = .ok (.aload_n 0, 1) := by decide +kernel
theorem dX12_isFit_68 : decode cX12_isFit 68 = .ok (.getfield 102, 3) := by decide +kernel
theorem dX12_isFit_71 : decode cX12_isFit 71 = .ok (.bipush 60, 2) := by decide +kernel
theorem dX12_isFit_73 : decode cX12_isFit 73 = .ok (.iload_n 1, 1) := by decide +kernel
theorem dX12_isFit_74 : decode cX12_isFit 74 = .ok (.imul, 1) := by decide +kernel
theorem dX12_isFit_75 : decode cX12_isFit 75 = .ok (.bipush 40, 2) := by decide +kernel
theorem dX12_isFit_77 : decode cX12_isFit 77 = .ok (.iadd, 1) := by decide +kernel
theorem dX12_isFit_78 : decode cX12_isFit 78 = .ok (.iload_n 2, 1) := by decide +kernel
theorem dX12_isFit_79 : decode cX12_isFit 79 = .ok (.iadd, 1) := by decide +kernel
theorem dX12_isFit_80 : decode cX12_isFit 80 = .ok (.iaload, 1) := by decide +kernel
theorem dX12_isFit_81 : decode cX12_isFit 81 = .ok (.if_icmp .eq 5, 3) := by decide +kernel
theorem dX12_isFit_84 : decode cX12_isFit 84 = .ok (.iconst 0, 1) := by decide +kernel
theorem dX12_isFit_85 : decode cX12_isFit 85 = .ok (.ireturn, 1) := by decide +kernel
theorem dX12_isFit_86 : decode cX12_isFit 86 = .ok (.iinc 2 1, 3) := by decide +kernel
theorem dX12_isFit_89 : decode cX12_isFit 89 = .ok (.goto (-51), 3) := by decide +kernel
theorem dX12_isFit_92 : decode cX12_isFit 92 = .ok (.iconst 1, 1) := by decide +kernel
theorem dX12_isFit_93 : decode cX12_isFit 93 = .ok (.ireturn, 1) := by decide +kernel
abbrev k_X12_isFit (E : g_E) (l : Launch) (D : g_D) (v1 : Int) (K : Int → g_D → Prop) : Prop := g_Ki E l m_X12_isFit 0 [g_R 208, g_I v1] g_SH D K
abbrev n_X12_isFit (E : g_E) (l : Launch) (D : g_D) (pc : Nat) (L : List (Option g_V)) (K : Int → g_D → Prop) : Prop := g_N E l m_X12_isFit 0 pc L [] g_SH D (g_Ri g_SH K)
theorem s_X12_isFit {E : g_E} {l : Launch} {D : g_D} {K : Int → g_D → Prop} {v1 : Int}  (hF : g_okD D → g_r v1 → n_X12_isFit E l D 2 [some (g_R 208), some (g_I v1), some (g_I 0)] K) : k_X12_isFit E l D v1 K := by
  refine g_enter (by decide) (Nat.le_of_ble_eq_true rfl) ?_
  show g_N E l m_X12_isFit 0 0 [some (g_R 208), some (g_I v1), none] [] g_SH D (g_Ri g_SH K)
  refine g_use (fun ok => ?_)
  have hF := hF ok.2.1 (ok.loc (i := 1) rfl)
  refine g_iconst dX12_isFit_0 ⟨by decide, by decide⟩ ?_
  refine gw_istore_n (L' := [some (g_R 208), some (g_I v1), some (g_I 0)]) dX12_isFit_1 (by decide) rfl ?_
  exact hF
theorem s_X12_isFit_2 {E : g_E} {l : Launch} {D : g_D} {K : Int → g_D → Prop} {v1 : Int} {v2 : Int}  (hF : g_okD D → g_r v1 → g_r v2 → (40 ≤ v2 → n_X12_isFit E l D 38 [some (g_R 208), some (g_I v1), some (g_I 0)] K) ∧ (¬ 40 ≤ v2 → (0 ≤ v2 ∧ v2 < 60) ∧ ((g_r (60 * v1)) ∧ ((g_r ((60 * v1) + v2)) ∧ ((0 ≤ ((60 * v1) + v2) ∧ ((60 * v1) + v2) < 24060) ∧ (((D 239 v2.toNat) = (D 237 ((60 * v1) + v2).toNat) → (g_r (v2 + 1)) ∧ (n_X12_isFit E l D 2 [some (g_R 208), some (g_I v1), some (g_I (v2 + 1))] K)) ∧ (¬ (D 239 v2.toNat) = (D 237 ((60 * v1) + v2).toNat) → K 0 D))))))) : n_X12_isFit E l D 2 [some (g_R 208), some (g_I v1), some (g_I v2)] K := by
  refine g_use (fun ok => ?_)
  have hF := hF ok.2.1 (ok.loc (i := 1) rfl) (ok.loc (i := 2) rfl)
  refine g_iload_n dX12_isFit_2 rfl ?_
  refine g_bipush dX12_isFit_3 ⟨by decide, by decide⟩ ?_
  refine g_cge dX12_isFit_5 rfl (fun q => ?_) (fun q => ?_)
  · have hF := hF.1 q
    refine g_iconst dX12_isFit_36 ⟨by decide, by decide⟩ ?_
    refine gw_istore_n (L' := [some (g_R 208), some (g_I v1), some (g_I 0)]) dX12_isFit_37 (by decide) rfl ?_
    exact hF
  · have hF := hF.2 q
    refine g_aload_n dX12_isFit_8 rfl ?_
    refine g_getR dX12_isFit_9 fd_X12_108 sh_208 rfl ?_
    refine g_iload_n dX12_isFit_12 rfl ?_
    obtain ⟨hc, hF⟩ := hF
    refine g_iald dX12_isFit_13 sh_239 hc.1 hc.2 ?_
    refine g_aload_n dX12_isFit_14 rfl ?_
    refine g_getR dX12_isFit_15 fd_X12_102 sh_208 rfl ?_
    refine g_bipush dX12_isFit_18 ⟨by decide, by decide⟩ ?_
    refine g_iload_n dX12_isFit_20 rfl ?_
    obtain ⟨hc, hF⟩ := hF
    refine g_imul dX12_isFit_21 hc ?_
    refine g_iload_n dX12_isFit_22 rfl ?_
    obtain ⟨hc, hF⟩ := hF
    refine g_iadd dX12_isFit_23 hc ?_
    obtain ⟨hc, hF⟩ := hF
    refine g_iald dX12_isFit_24 sh_237 hc.1 hc.2 ?_
    refine g_ceq dX12_isFit_25 rfl (fun q => ?_) (fun q => ?_)
    · have hF := hF.1 q
      obtain ⟨hc, hF⟩ := hF
      refine gw_iinc (L' := [some (g_R 208), some (g_I v1), some (g_I (v2 + 1))]) dX12_isFit_30 rfl hc (by decide) rfl ?_
      refine g_goto dX12_isFit_33 rfl ?_
      exact hF
    · have hF := hF.2 q
      refine g_iconst dX12_isFit_28 ⟨by decide, by decide⟩ ?_
      exact gw_zret dX12_isFit_29 rfl (by decide) hF
theorem s_X12_isFit_38 {E : g_E} {l : Launch} {D : g_D} {K : Int → g_D → Prop} {v1 : Int} {v2 : Int}  (hF : g_okD D → g_r v1 → g_r v2 → (20 ≤ v2 → K 1 D) ∧ (¬ 20 ≤ v2 → (0 ≤ v1 ∧ v1 < 401) ∧ ((¬ (g_and (g_shr (D 238 v1.toNat) v2) 1) = 1 → (g_r (v2 + 1)) ∧ (n_X12_isFit E l D 38 [some (g_R 208), some (g_I v1), some (g_I (v2 + 1))] K)) ∧ ((g_and (g_shr (D 238 v1.toNat) v2) 1) = 1 → (g_r (40 + v2)) ∧ ((0 ≤ (40 + v2) ∧ (40 + v2) < 60) ∧ ((g_r (60 * v1)) ∧ ((g_r ((60 * v1) + 40)) ∧ ((g_r (((60 * v1) + 40) + v2)) ∧ ((0 ≤ (((60 * v1) + 40) + v2) ∧ (((60 * v1) + 40) + v2) < 24060) ∧ (((D 239 (40 + v2).toNat) = (D 237 (((60 * v1) + 40) + v2).toNat) → (g_r (v2 + 1)) ∧ (n_X12_isFit E l D 38 [some (g_R 208), some (g_I v1), some (g_I (v2 + 1))] K)) ∧ (¬ (D 239 (40 + v2).toNat) = (D 237 (((60 * v1) + 40) + v2).toNat) → K 0 D))))))))))) : n_X12_isFit E l D 38 [some (g_R 208), some (g_I v1), some (g_I v2)] K := by
  refine g_use (fun ok => ?_)
  have hF := hF ok.2.1 (ok.loc (i := 1) rfl) (ok.loc (i := 2) rfl)
  refine g_iload_n dX12_isFit_38 rfl ?_
  refine g_bipush dX12_isFit_39 ⟨by decide, by decide⟩ ?_
  refine g_cge dX12_isFit_41 rfl (fun q => ?_) (fun q => ?_)
  · have hF := hF.1 q
    refine g_iconst dX12_isFit_92 ⟨by decide, by decide⟩ ?_
    exact gw_zret dX12_isFit_93 rfl (by decide) hF
  · have hF := hF.2 q
    refine g_aload_n dX12_isFit_44 rfl ?_
    refine g_getR dX12_isFit_45 fd_X12_105 sh_208 rfl ?_
    refine g_iload_n dX12_isFit_48 rfl ?_
    obtain ⟨hc, hF⟩ := hF
    refine g_iald dX12_isFit_49 sh_238 hc.1 hc.2 ?_
    refine g_iload_n dX12_isFit_50 rfl ?_
    refine g_ishr dX12_isFit_51 ?_
    refine g_iconst dX12_isFit_52 ⟨by decide, by decide⟩ ?_
    refine g_iand dX12_isFit_53 ?_
    refine g_iconst dX12_isFit_54 ⟨by decide, by decide⟩ ?_
    refine g_cne dX12_isFit_55 rfl (fun q => ?_) (fun q => ?_)
    · have hF := hF.1 q
      obtain ⟨hc, hF⟩ := hF
      refine gw_iinc (L' := [some (g_R 208), some (g_I v1), some (g_I (v2 + 1))]) dX12_isFit_86 rfl hc (by decide) rfl ?_
      refine g_goto dX12_isFit_89 rfl ?_
      exact hF
    · have hF := hF.2 q
      refine g_aload_n dX12_isFit_58 rfl ?_
      refine g_getR dX12_isFit_59 fd_X12_108 sh_208 rfl ?_
      refine g_bipush dX12_isFit_62 ⟨by decide, by decide⟩ ?_
      refine g_iload_n dX12_isFit_64 rfl ?_
      obtain ⟨hc, hF⟩ := hF
      refine g_iadd dX12_isFit_65 hc ?_
      obtain ⟨hc, hF⟩ := hF
      refine g_iald dX12_isFit_66 sh_239 hc.1 hc.2 ?_
      refine g_aload_n dX12_isFit_67 rfl ?_
      refine g_getR dX12_isFit_68 fd_X12_102 sh_208 rfl ?_
      refine g_bipush dX12_isFit_71 ⟨by decide, by decide⟩ ?_
      refine g_iload_n dX12_isFit_73 rfl ?_
      obtain ⟨hc, hF⟩ := hF
      refine g_imul dX12_isFit_74 hc ?_
      refine g_bipush dX12_isFit_75 ⟨by decide, by decide⟩ ?_
      obtain ⟨hc, hF⟩ := hF
      refine g_iadd dX12_isFit_77 hc ?_
      refine g_iload_n dX12_isFit_78 rfl ?_
      obtain ⟨hc, hF⟩ := hF
      refine g_iadd dX12_isFit_79 hc ?_
      obtain ⟨hc, hF⟩ := hF
      refine g_iald dX12_isFit_80 sh_237 hc.1 hc.2 ?_
      refine g_ceq dX12_isFit_81 rfl (fun q => ?_) (fun q => ?_)
      · have hF := hF.1 q
        obtain ⟨hc, hF⟩ := hF
        refine gw_iinc (L' := [some (g_R 208), some (g_I v1), some (g_I (v2 + 1))]) dX12_isFit_86 rfl hc (by decide) rfl ?_
        refine g_goto dX12_isFit_89 rfl ?_
        exact hF
      · have hF := hF.2 q
        refine g_iconst dX12_isFit_84 ⟨by decide, by decide⟩ ?_
        exact gw_zret dX12_isFit_85 rfl (by decide) hF
theorem dX12_leastFit_0 : decode cX12_leastFit 0 = .ok (.iconst 0, 1) := by decide +kernel
theorem dX12_leastFit_1 : decode cX12_leastFit 1 = .ok (.istore_n 1, 1) := by decide +kernel
theorem dX12_leastFit_2 : decode cX12_leastFit 2 = .ok (.iload_n 1, 1) := by decide +kernel
theorem dX12_leastFit_3 : decode cX12_leastFit 3 = .ok (.aload_n 0, 1) := by decide +kernel
theorem dX12_leastFit_4 : decode cX12_leastFit 4 = .ok (.getfield 342, 3) := by decide +kernel
theorem dX12_leastFit_7 : decode cX12_leastFit 7 = .ok (.if_icmp .gt 19, 3) := by decide +kernel
theorem dX12_leastFit_10 : decode cX12_leastFit 10 = .ok (.aload_n 0, 1) := by decide +kernel
theorem dX12_leastFit_11 : decode cX12_leastFit 11 = .ok (.iload_n 1, 1) := by decide +kernel
theorem dX12_leastFit_12 : decode cX12_leastFit 12 = .ok (.invokevirtual 366, 3) := by decide +kernel
theorem dX12_leastFit_15 : decode cX12_leastFit 15 = .ok (.ifCond .eq 5, 3) := by decide +kernel
theorem dX12_leastFit_18 : decode cX12_leastFit 18 = .ok (.iload_n 1, 1) := by decide +kernel
theorem dX12_leastFit_19 : decode cX12_leastFit 19 = .ok (.ireturn, 1) := by decide +kernel
theorem dX12_leastFit_20 : decode cX12_leastFit 20 = .ok (.iinc 1 1, 3) := by decide +kernel
theorem dX12_leastFit_23 : decode cX12_leastFit 23 = .ok (.goto (-21), 3) := by decide +kernel
theorem dX12_leastFit_26 : decode cX12_leastFit 26 = .ok (.iconst (-1), 1) := by decide +kernel
theorem dX12_leastFit_27 : decode cX12_leastFit 27 = .ok (.ireturn, 1) := by decide +kernel
abbrev k_X12_leastFit (E : g_E) (l : Launch) (D : g_D) (K : Int → g_D → Prop) : Prop := g_Ki E l m_X12_leastFit 1 [g_R 208] g_SH D K
abbrev n_X12_leastFit (E : g_E) (l : Launch) (D : g_D) (pc : Nat) (L : List (Option g_V)) (K : Int → g_D → Prop) : Prop := g_N E l m_X12_leastFit 1 pc L [] g_SH D (g_Ri g_SH K)
theorem s_X12_leastFit {E : g_E} {l : Launch} {D : g_D} {K : Int → g_D → Prop}   (hF : g_okD D → n_X12_leastFit E l D 2 [some (g_R 208), some (g_I 0)] K) : k_X12_leastFit E l D K := by
  refine g_enter (by decide) (Nat.le_of_ble_eq_true rfl) ?_
  show g_N E l m_X12_leastFit 1 0 [some (g_R 208), none] [] g_SH D (g_Ri g_SH K)
  refine g_use (fun ok => ?_)
  have hF := hF ok.2.1
  refine g_iconst dX12_leastFit_0 ⟨by decide, by decide⟩ ?_
  refine gw_istore_n (L' := [some (g_R 208), some (g_I 0)]) dX12_leastFit_1 (by decide) rfl ?_
  exact hF
theorem s_X12_leastFit_2 {E : g_E} {l : Launch} {D : g_D} {K : Int → g_D → Prop} {v1 : Int}  (hF : g_okD D → g_r v1 → ((D 208 46) < v1 → K (-1) D) ∧ (¬ (D 208 46) < v1 → k_X12_isFit E l D v1 (fun x1 D1 => g_r x1 → (x1 = 0 → (g_r (v1 + 1)) ∧ (n_X12_leastFit E l D1 2 [some (g_R 208), some (g_I (v1 + 1))] K)) ∧ (¬ x1 = 0 → K v1 D1)))) : n_X12_leastFit E l D 2 [some (g_R 208), some (g_I v1)] K := by
  refine g_use (fun ok => ?_)
  have hF := hF ok.2.1 (ok.loc (i := 1) rfl)
  refine g_iload_n dX12_leastFit_2 rfl ?_
  refine g_aload_n dX12_leastFit_3 rfl ?_
  refine g_getI dX12_leastFit_4 fd_X12_342 sh_208 rfl ?_
  refine g_cgt dX12_leastFit_7 rfl (fun q => ?_) (fun q => ?_)
  · have hF := hF.1 q
    refine g_iconst dX12_leastFit_26 ⟨by decide, by decide⟩ ?_
    exact gw_iret dX12_leastFit_27 rfl hF
  · have hF := hF.2 q
    refine g_aload_n dX12_leastFit_10 rfl ?_
    refine g_iload_n dX12_leastFit_11 rfl ?_
    refine gw_cVi (b := 208) (As := [g_I v1]) (rest := []) dX12_leastFit_12 mv_X12_366 sh_208 rfl (Nat.le_of_ble_eq_true rfl) (by decide) rfl hF ?_
    intro x1 D1 hx1 hF
    have hF := hF hx1
    refine g_ifeq dX12_leastFit_15 rfl (fun q => ?_) (fun q => ?_)
    · have hF := hF.1 q
      obtain ⟨hc, hF⟩ := hF
      refine gw_iinc (L' := [some (g_R 208), some (g_I (v1 + 1))]) dX12_leastFit_20 rfl hc (by decide) rfl ?_
      refine g_goto dX12_leastFit_23 rfl ?_
      exact hF
    · have hF := hF.2 q
      refine g_iload_n dX12_leastFit_18 rfl ?_
      exact gw_iret dX12_leastFit_19 rfl hF
theorem dX12_notes_0 : decode cX12_notes 0 = .ok (.aload_n 0, 1) := by decide +kernel
theorem dX12_notes_1 : decode cX12_notes 1 = .ok (.getfield 13, 3) := by decide +kernel
theorem dX12_notes_4 : decode cX12_notes 4 = .ok (.sipush 518, 3) := by decide +kernel
theorem dX12_notes_7 : decode cX12_notes 7 = .ok (.iaload, 1) := by decide +kernel
theorem dX12_notes_8 : decode cX12_notes 8 = .ok (.bipush 10, 2) := by decide +kernel
theorem dX12_notes_10 : decode cX12_notes 10 = .ok (.if_icmp .ne 46, 3) := by decide +kernel
theorem dX12_notes_13 : decode cX12_notes 13 = .ok (.iconst 0, 1) := by decide +kernel
theorem dX12_notes_14 : decode cX12_notes 14 = .ok (.istore_n 1, 1) := by decide +kernel
theorem dX12_notes_15 : decode cX12_notes 15 = .ok (.iload_n 1, 1) := by decide +kernel
theorem dX12_notes_16 : decode cX12_notes 16 = .ok (.sipush 3888, 3) := by decide +kernel
theorem dX12_notes_19 : decode cX12_notes 19 = .ok (.if_icmp .ge 25, 3) := by decide +kernel
theorem dX12_notes_22 : decode cX12_notes 22 = .ok (.aload_n 0, 1) := by decide +kernel
theorem dX12_notes_23 : decode cX12_notes 23 = .ok (.getfield 17, 3) := by decide +kernel
theorem dX12_notes_26 : decode cX12_notes 26 = .ok (.iload_n 1, 1) := by decide +kernel
theorem dX12_notes_27 : decode cX12_notes 27 = .ok (.aload_n 0, 1) := by decide +kernel
theorem dX12_notes_28 : decode cX12_notes 28 = .ok (.getfield 17, 3) := by decide +kernel
theorem dX12_notes_31 : decode cX12_notes 31 = .ok (.sipush 432, 3) := by decide +kernel
theorem dX12_notes_34 : decode cX12_notes 34 = .ok (.iload_n 1, 1) := by decide +kernel
theorem dX12_notes_35 : decode cX12_notes 35 = .ok (.iadd, 1) := by decide +kernel
theorem dX12_notes_36 : decode cX12_notes 36 = .ok (.iaload, 1) := by decide +kernel
theorem dX12_notes_37 : decode cX12_notes 37 = .ok (.iastore, 1) := by decide +kernel
theorem dX12_notes_38 : decode cX12_notes 38 = .ok (.iinc 1 1, 3) := by decide +kernel
theorem dX12_notes_41 : decode cX12_notes 41 = .ok (.goto (-26), 3) := by decide +kernel
theorem dX12_notes_44 : decode cX12_notes 44 = .ok (.aload_n 0, 1) := by decide +kernel
theorem dX12_notes_45 : decode cX12_notes 45 = .ok (.getfield 13, 3) := by decide +kernel
theorem dX12_notes_48 : decode cX12_notes 48 = .ok (.sipush 518, 3) := by decide +kernel
theorem dX12_notes_51 : decode cX12_notes 51 = .ok (.dup2, 1) := by decide +kernel
theorem dX12_notes_52 : decode cX12_notes 52 = .ok (.iaload, 1) := by decide +kernel
theorem dX12_notes_53 : decode cX12_notes 53 = .ok (.iconst 1, 1) := by decide +kernel
theorem dX12_notes_54 : decode cX12_notes 54 = .ok (.isub, 1) := by decide +kernel
theorem dX12_notes_55 : decode cX12_notes 55 = .ok (.iastore, 1) := by decide +kernel
theorem dX12_notes_56 : decode cX12_notes 56 = .ok (.iconst 0, 1) := by decide +kernel
theorem dX12_notes_57 : decode cX12_notes 57 = .ok (.istore_n 1, 1) := by decide +kernel
theorem dX12_notes_58 : decode cX12_notes 58 = .ok (.iload_n 1, 1) := by decide +kernel
theorem dX12_notes_59 : decode cX12_notes 59 = .ok (.sipush 432, 3) := by decide +kernel
theorem dX12_notes_62 : decode cX12_notes 62 = .ok (.if_icmp .ge 37, 3) := by decide +kernel
theorem dX12_notes_65 : decode cX12_notes 65 = .ok (.aload_n 0, 1) := by decide +kernel
theorem dX12_notes_66 : decode cX12_notes 66 = .ok (.getfield 17, 3) := by decide +kernel
theorem dX12_notes_69 : decode cX12_notes 69 = .ok (.sipush 432, 3) := by decide +kernel
theorem dX12_notes_72 : decode cX12_notes 72 = .ok (.aload_n 0, 1) := by decide +kernel
theorem dX12_notes_73 : decode cX12_notes 73 = .ok (.getfield 13, 3) := by decide +kernel
theorem dX12_notes_76 : decode cX12_notes 76 = .ok (.sipush 518, 3) := by decide +kernel
theorem dX12_notes_79 : decode cX12_notes 79 = .ok (.iaload, 1) := by decide +kernel
theorem dX12_notes_80 : decode cX12_notes 80 = .ok (.imul, 1) := by decide +kernel
theorem dX12_notes_81 : decode cX12_notes 81 = .ok (.iload_n 1, 1) := by decide +kernel
theorem dX12_notes_82 : decode cX12_notes 82 = .ok (.iadd, 1) := by decide +kernel
theorem dX12_notes_83 : decode cX12_notes 83 = .ok (.aload_n 0, 1) := by decide +kernel
theorem dX12_notes_84 : decode cX12_notes 84 = .ok (.getfield 13, 3) := by decide +kernel
theorem dX12_notes_87 : decode cX12_notes 87 = .ok (.bipush 86, 2) := by decide +kernel
theorem dX12_notes_89 : decode cX12_notes 89 = .ok (.iload_n 1, 1) := by decide +kernel
theorem dX12_notes_90 : decode cX12_notes 90 = .ok (.iadd, 1) := by decide +kernel
theorem dX12_notes_91 : decode cX12_notes 91 = .ok (.iaload, 1) := by decide +kernel
theorem dX12_notes_92 : decode cX12_notes 92 = .ok (.iastore, 1) := by decide +kernel
theorem dX12_notes_93 : decode cX12_notes 93 = .ok (.iinc 1 1, 3) := by decide +kernel
theorem dX12_notes_96 : decode cX12_notes 96 = .ok (.goto (-38), 3) := by decide +kernel
theorem dX12_notes_99 : decode cX12_notes 99 = .ok (.aload_n 0, 1) := by decide +kernel
theorem dX12_notes_100 : decode cX12_notes 100 = .ok (.getfield 13, 3) := by decide +kernel
theorem dX12_notes_103 : decode cX12_notes 103 = .ok (.sipush 518, 3) := by decide +kernel
theorem dX12_notes_106 : decode cX12_notes 106 = .ok (.dup2, 1) := by decide +kernel
theorem dX12_notes_107 : decode cX12_notes 107 = .ok (.iaload, 1) := by decide +kernel
theorem dX12_notes_108 : decode cX12_notes 108 = .ok (.iconst 1, 1) := by decide +kernel
theorem dX12_notes_109 : decode cX12_notes 109 = .ok (.iadd, 1) := by decide +kernel
theorem dX12_notes_110 : decode cX12_notes 110 = .ok (.iastore, 1) := by decide +kernel
theorem dX12_notes_111 : decode cX12_notes 111 = .ok (.return_, 1) := by decide +kernel
abbrev k_X12_notes (E : g_E) (l : Launch) (D : g_D) (K : g_D → Prop) : Prop := g_Kv E l m_X12_notes 0 [g_R 208] g_SH D K
abbrev n_X12_notes (E : g_E) (l : Launch) (D : g_D) (pc : Nat) (L : List (Option g_V)) (K : g_D → Prop) : Prop := g_N E l m_X12_notes 0 pc L [] g_SH D (g_Rv g_SH K)
theorem s_X12_notes {E : g_E} {l : Launch} {D : g_D} {K : g_D → Prop}   (hF : g_okD D → (¬ (D 209 518) = 10 → n_X12_notes E l D 58 [some (g_R 208), some (g_I 0)] K) ∧ ((D 209 518) = 10 → n_X12_notes E l D 15 [some (g_R 208), some (g_I 0)] K)) : k_X12_notes E l D K := by
  refine g_enter (by decide) (Nat.le_of_ble_eq_true rfl) ?_
  show g_N E l m_X12_notes 0 0 [some (g_R 208), none] [] g_SH D (g_Rv g_SH K)
  refine g_use (fun ok => ?_)
  have hF := hF ok.2.1
  refine g_aload_n dX12_notes_0 rfl ?_
  refine g_getR dX12_notes_1 fd_X12_13 sh_208 rfl ?_
  refine g_sipush dX12_notes_4 ⟨by decide, by decide⟩ ?_
  refine g_iald dX12_notes_7 sh_209 (by decide) (by decide) ?_
  refine g_bipush dX12_notes_8 ⟨by decide, by decide⟩ ?_
  refine g_cne dX12_notes_10 rfl (fun q => ?_) (fun q => ?_)
  · have hF := hF.1 q
    refine g_iconst dX12_notes_56 ⟨by decide, by decide⟩ ?_
    refine gw_istore_n (L' := [some (g_R 208), some (g_I 0)]) dX12_notes_57 (by decide) rfl ?_
    exact hF
  · have hF := hF.2 q
    refine g_iconst dX12_notes_13 ⟨by decide, by decide⟩ ?_
    refine gw_istore_n (L' := [some (g_R 208), some (g_I 0)]) dX12_notes_14 (by decide) rfl ?_
    exact hF
theorem s_X12_notes_15 {E : g_E} {l : Launch} {D : g_D} {K : g_D → Prop} {v1 : Int}  (hF : g_okD D → g_r v1 → (3888 ≤ v1 → (g_r ((D 209 518) - 1)) ∧ (∀ D1, D1 = g_up D 209 518 ((D 209 518) - 1) → (n_X12_notes E l D1 58 [some (g_R 208), some (g_I 0)] K))) ∧ (¬ 3888 ≤ v1 → (g_r (432 + v1)) ∧ ((0 ≤ (432 + v1) ∧ (432 + v1) < 4320) ∧ ((0 ≤ v1 ∧ v1 < 4320) ∧ (∀ D2, D2 = g_up D 210 v1.toNat (D 210 (432 + v1).toNat) → ((g_r (v1 + 1)) ∧ (n_X12_notes E l D2 15 [some (g_R 208), some (g_I (v1 + 1))] K))))))) : n_X12_notes E l D 15 [some (g_R 208), some (g_I v1)] K := by
  refine g_use (fun ok => ?_)
  have hF := hF ok.2.1 (ok.loc (i := 1) rfl)
  refine g_iload_n dX12_notes_15 rfl ?_
  refine g_sipush dX12_notes_16 ⟨by decide, by decide⟩ ?_
  refine g_cge dX12_notes_19 rfl (fun q => ?_) (fun q => ?_)
  · have hF := hF.1 q
    refine g_aload_n dX12_notes_44 rfl ?_
    refine g_getR dX12_notes_45 fd_X12_13 sh_208 rfl ?_
    refine g_sipush dX12_notes_48 ⟨by decide, by decide⟩ ?_
    refine g_dup2 dX12_notes_51 rfl rfl ?_
    refine g_iald dX12_notes_52 sh_209 (by decide) (by decide) ?_
    refine g_iconst dX12_notes_53 ⟨by decide, by decide⟩ ?_
    obtain ⟨hc, hF⟩ := hF
    refine g_isub dX12_notes_54 hc ?_
    let D1 : g_D := g_up D 209 518 ((D 209 518) - 1)
    have hF := hF D1 rfl
    refine g_iast dX12_notes_55 sh_209 (by decide) (by decide) ?_
    refine g_iconst dX12_notes_56 ⟨by decide, by decide⟩ ?_
    refine gw_istore_n (L' := [some (g_R 208), some (g_I 0)]) dX12_notes_57 (by decide) rfl ?_
    exact hF
  · have hF := hF.2 q
    refine g_aload_n dX12_notes_22 rfl ?_
    refine g_getR dX12_notes_23 fd_X12_17 sh_208 rfl ?_
    refine g_iload_n dX12_notes_26 rfl ?_
    refine g_aload_n dX12_notes_27 rfl ?_
    refine g_getR dX12_notes_28 fd_X12_17 sh_208 rfl ?_
    refine g_sipush dX12_notes_31 ⟨by decide, by decide⟩ ?_
    refine g_iload_n dX12_notes_34 rfl ?_
    obtain ⟨hc, hF⟩ := hF
    refine g_iadd dX12_notes_35 hc ?_
    obtain ⟨hc, hF⟩ := hF
    refine g_iald dX12_notes_36 sh_210 hc.1 hc.2 ?_
    obtain ⟨hc, hF⟩ := hF
    let D2 : g_D := g_up D 210 v1.toNat (D 210 (432 + v1).toNat)
    have hF := hF D2 rfl
    refine g_iast dX12_notes_37 sh_210 hc.1 hc.2 ?_
    obtain ⟨hc, hF⟩ := hF
    refine gw_iinc (L' := [some (g_R 208), some (g_I (v1 + 1))]) dX12_notes_38 rfl hc (by decide) rfl ?_
    refine g_goto dX12_notes_41 rfl ?_
    exact hF
theorem s_X12_notes_58 {E : g_E} {l : Launch} {D : g_D} {K : g_D → Prop} {v1 : Int}  (hF : g_okD D → g_r v1 → (432 ≤ v1 → (g_r ((D 209 518) + 1)) ∧ (∀ D1, D1 = g_up D 209 518 ((D 209 518) + 1) → (K D1))) ∧ (¬ 432 ≤ v1 → (g_r (432 * (D 209 518))) ∧ ((g_r ((432 * (D 209 518)) + v1)) ∧ ((g_r (86 + v1)) ∧ ((0 ≤ (86 + v1) ∧ (86 + v1) < 1557) ∧ ((0 ≤ ((432 * (D 209 518)) + v1) ∧ ((432 * (D 209 518)) + v1) < 4320) ∧ (∀ D2, D2 = g_up D 210 ((432 * (D 209 518)) + v1).toNat (D 209 (86 + v1).toNat) → ((g_r (v1 + 1)) ∧ (n_X12_notes E l D2 58 [some (g_R 208), some (g_I (v1 + 1))] K))))))))) : n_X12_notes E l D 58 [some (g_R 208), some (g_I v1)] K := by
  refine g_use (fun ok => ?_)
  have hF := hF ok.2.1 (ok.loc (i := 1) rfl)
  refine g_iload_n dX12_notes_58 rfl ?_
  refine g_sipush dX12_notes_59 ⟨by decide, by decide⟩ ?_
  refine g_cge dX12_notes_62 rfl (fun q => ?_) (fun q => ?_)
  · have hF := hF.1 q
    refine g_aload_n dX12_notes_99 rfl ?_
    refine g_getR dX12_notes_100 fd_X12_13 sh_208 rfl ?_
    refine g_sipush dX12_notes_103 ⟨by decide, by decide⟩ ?_
    refine g_dup2 dX12_notes_106 rfl rfl ?_
    refine g_iald dX12_notes_107 sh_209 (by decide) (by decide) ?_
    refine g_iconst dX12_notes_108 ⟨by decide, by decide⟩ ?_
    obtain ⟨hc, hF⟩ := hF
    refine g_iadd dX12_notes_109 hc ?_
    let D1 : g_D := g_up D 209 518 ((D 209 518) + 1)
    have hF := hF D1 rfl
    refine g_iast dX12_notes_110 sh_209 (by decide) (by decide) ?_
    exact gw_vret dX12_notes_111 rfl hF
  · have hF := hF.2 q
    refine g_aload_n dX12_notes_65 rfl ?_
    refine g_getR dX12_notes_66 fd_X12_17 sh_208 rfl ?_
    refine g_sipush dX12_notes_69 ⟨by decide, by decide⟩ ?_
    refine g_aload_n dX12_notes_72 rfl ?_
    refine g_getR dX12_notes_73 fd_X12_13 sh_208 rfl ?_
    refine g_sipush dX12_notes_76 ⟨by decide, by decide⟩ ?_
    refine g_iald dX12_notes_79 sh_209 (by decide) (by decide) ?_
    obtain ⟨hc, hF⟩ := hF
    refine g_imul dX12_notes_80 hc ?_
    refine g_iload_n dX12_notes_81 rfl ?_
    obtain ⟨hc, hF⟩ := hF
    refine g_iadd dX12_notes_82 hc ?_
    refine g_aload_n dX12_notes_83 rfl ?_
    refine g_getR dX12_notes_84 fd_X12_13 sh_208 rfl ?_
    refine g_bipush dX12_notes_87 ⟨by decide, by decide⟩ ?_
    refine g_iload_n dX12_notes_89 rfl ?_
    obtain ⟨hc, hF⟩ := hF
    refine g_iadd dX12_notes_90 hc ?_
    obtain ⟨hc, hF⟩ := hF
    refine g_iald dX12_notes_91 sh_209 hc.1 hc.2 ?_
    obtain ⟨hc, hF⟩ := hF
    let D2 : g_D := g_up D 210 ((432 * (D 209 518)) + v1).toNat (D 209 (86 + v1).toNat)
    have hF := hF D2 rfl
    refine g_iast dX12_notes_92 sh_210 hc.1 hc.2 ?_
    obtain ⟨hc, hF⟩ := hF
    refine gw_iinc (L' := [some (g_R 208), some (g_I (v1 + 1))]) dX12_notes_93 rfl hc (by decide) rfl ?_
    refine g_goto dX12_notes_96 rfl ?_
    exact hF
theorem dX12_keepsWork_0 : decode cX12_keepsWork 0 = .ok (.iconst 0, 1) := by decide +kernel
theorem dX12_keepsWork_1 : decode cX12_keepsWork 1 = .ok (.istore_n 1, 1) := by decide +kernel
theorem dX12_keepsWork_2 : decode cX12_keepsWork 2 = .ok (.iload_n 1, 1) := by decide +kernel
theorem dX12_keepsWork_3 : decode cX12_keepsWork 3 = .ok (.bipush 60, 2) := by decide +kernel
theorem dX12_keepsWork_5 : decode cX12_keepsWork 5 = .ok (.if_icmp .ge 24, 3) := by decide +kernel
theorem dX12_keepsWork_8 : decode cX12_keepsWork 8 = .ok (.aload_n 0, 1) := by decide +kernel
theorem dX12_keepsWork_9 : decode cX12_keepsWork 9 = .ok (.getfield 13, 3) := by decide +kernel
theorem dX12_keepsWork_12 : decode cX12_keepsWork 12 = .ok (.bipush 86, 2) := by decide +kernel
theorem dX12_keepsWork_14 : decode cX12_keepsWork 14 = .ok (.iload_n 1, 1) := by decide +kernel
theorem dX12_keepsWork_15 : decode cX12_keepsWork 15 = .ok (.iadd, 1) := by decide +kernel
theorem dX12_keepsWork_16 : decode cX12_keepsWork 16 = .ok (.aload_n 0, 1) := by decide +kernel
theorem dX12_keepsWork_17 : decode cX12_keepsWork 17 = .ok (.getfield 108, 3) := by decide +kernel
theorem dX12_keepsWork_20 : decode cX12_keepsWork 20 = .ok (.iload_n 1, 1) := by decide +kernel
theorem dX12_keepsWork_21 : decode cX12_keepsWork 21 = .ok (.iaload, 1) := by decide +kernel
theorem dX12_keepsWork_22 : decode cX12_keepsWork 22 = .ok (.iastore, 1) := by decide +kernel
theorem dX12_keepsWork_23 : decode cX12_keepsWork 23 = .ok (.iinc 1 1, 3) := by decide +kernel
theorem dX12_keepsWork_26 : decode cX12_keepsWork 26 = .ok (.goto (-24), 3) := by decide +kernel
theorem dX12_keepsWork_29 : decode cX12_keepsWork 29 = .ok (.return_, 1) := by decide +kernel
abbrev k_X12_keepsWork (E : g_E) (l : Launch) (D : g_D) (K : g_D → Prop) : Prop := g_Kv E l m_X12_keepsWork 0 [g_R 208] g_SH D K
abbrev n_X12_keepsWork (E : g_E) (l : Launch) (D : g_D) (pc : Nat) (L : List (Option g_V)) (K : g_D → Prop) : Prop := g_N E l m_X12_keepsWork 0 pc L [] g_SH D (g_Rv g_SH K)
theorem s_X12_keepsWork {E : g_E} {l : Launch} {D : g_D} {K : g_D → Prop}   (hF : g_okD D → n_X12_keepsWork E l D 2 [some (g_R 208), some (g_I 0)] K) : k_X12_keepsWork E l D K := by
  refine g_enter (by decide) (Nat.le_of_ble_eq_true rfl) ?_
  show g_N E l m_X12_keepsWork 0 0 [some (g_R 208), none] [] g_SH D (g_Rv g_SH K)
  refine g_use (fun ok => ?_)
  have hF := hF ok.2.1
  refine g_iconst dX12_keepsWork_0 ⟨by decide, by decide⟩ ?_
  refine gw_istore_n (L' := [some (g_R 208), some (g_I 0)]) dX12_keepsWork_1 (by decide) rfl ?_
  exact hF
theorem s_X12_keepsWork_2 {E : g_E} {l : Launch} {D : g_D} {K : g_D → Prop} {v1 : Int}  (hF : g_okD D → g_r v1 → (60 ≤ v1 → K D) ∧ (¬ 60 ≤ v1 → (g_r (86 + v1)) ∧ ((0 ≤ v1 ∧ v1 < 60) ∧ ((0 ≤ (86 + v1) ∧ (86 + v1) < 1557) ∧ (∀ D1, D1 = g_up D 209 (86 + v1).toNat (D 239 v1.toNat) → ((g_r (v1 + 1)) ∧ (n_X12_keepsWork E l D1 2 [some (g_R 208), some (g_I (v1 + 1))] K))))))) : n_X12_keepsWork E l D 2 [some (g_R 208), some (g_I v1)] K := by
  refine g_use (fun ok => ?_)
  have hF := hF ok.2.1 (ok.loc (i := 1) rfl)
  refine g_iload_n dX12_keepsWork_2 rfl ?_
  refine g_bipush dX12_keepsWork_3 ⟨by decide, by decide⟩ ?_
  refine g_cge dX12_keepsWork_5 rfl (fun q => ?_) (fun q => ?_)
  · have hF := hF.1 q
    exact gw_vret dX12_keepsWork_29 rfl hF
  · have hF := hF.2 q
    refine g_aload_n dX12_keepsWork_8 rfl ?_
    refine g_getR dX12_keepsWork_9 fd_X12_13 sh_208 rfl ?_
    refine g_bipush dX12_keepsWork_12 ⟨by decide, by decide⟩ ?_
    refine g_iload_n dX12_keepsWork_14 rfl ?_
    obtain ⟨hc, hF⟩ := hF
    refine g_iadd dX12_keepsWork_15 hc ?_
    refine g_aload_n dX12_keepsWork_16 rfl ?_
    refine g_getR dX12_keepsWork_17 fd_X12_108 sh_208 rfl ?_
    refine g_iload_n dX12_keepsWork_20 rfl ?_
    obtain ⟨hc, hF⟩ := hF
    refine g_iald dX12_keepsWork_21 sh_239 hc.1 hc.2 ?_
    obtain ⟨hc, hF⟩ := hF
    let D1 : g_D := g_up D 209 (86 + v1).toNat (D 239 v1.toNat)
    have hF := hF D1 rfl
    refine g_iast dX12_keepsWork_22 sh_209 hc.1 hc.2 ?_
    obtain ⟨hc, hF⟩ := hF
    refine gw_iinc (L' := [some (g_R 208), some (g_I (v1 + 1))]) dX12_keepsWork_23 rfl hc (by decide) rfl ?_
    refine g_goto dX12_keepsWork_26 rfl ?_
    exact hF
theorem dX12_boot_0 : decode cX12_boot 0 = .ok (.aload_n 0, 1) := by decide +kernel
theorem dX12_boot_1 : decode cX12_boot 1 = .ok (.iconst 0, 1) := by decide +kernel
theorem dX12_boot_2 : decode cX12_boot 2 = .ok (.putfield 1, 3) := by decide +kernel
theorem dX12_boot_5 : decode cX12_boot 5 = .ok (.aload_n 0, 1) := by decide +kernel
theorem dX12_boot_6 : decode cX12_boot 6 = .ok (.getfield 13, 3) := by decide +kernel
theorem dX12_boot_9 : decode cX12_boot 9 = .ok (.sipush 146, 3) := by decide +kernel
theorem dX12_boot_12 : decode cX12_boot 12 = .ok (.iaload, 1) := by decide +kernel
theorem dX12_boot_13 : decode cX12_boot 13 = .ok (.iconst 1, 1) := by decide +kernel
theorem dX12_boot_14 : decode cX12_boot 14 = .ok (.if_icmp .ne 6, 3) := by decide +kernel
theorem dX12_boot_17 : decode cX12_boot 17 = .ok (.bipush (-5), 2) := by decide +kernel
theorem dX12_boot_19 : decode cX12_boot 19 = .ok (.ireturn, 1) := by decide +kernel
theorem dX12_boot_20 : decode cX12_boot 20 = .ok (.aload_n 0, 1) := by decide +kernel
theorem dX12_boot_21 : decode cX12_boot 21 = .ok (.invokevirtual 369, 3) := by decide +kernel
theorem dX12_boot_24 : decode cX12_boot 24 = .ok (.aload_n 0, 1) := by decide +kernel
theorem dX12_boot_25 : decode cX12_boot 25 = .ok (.invokevirtual 374, 3) := by decide +kernel
theorem dX12_boot_28 : decode cX12_boot 28 = .ok (.aload_n 0, 1) := by decide +kernel
theorem dX12_boot_29 : decode cX12_boot 29 = .ok (.aload_n 0, 1) := by decide +kernel
theorem dX12_boot_30 : decode cX12_boot 30 = .ok (.getfield 13, 3) := by decide +kernel
theorem dX12_boot_33 : decode cX12_boot 33 = .ok (.sipush 148, 3) := by decide +kernel
theorem dX12_boot_36 : decode cX12_boot 36 = .ok (.iaload, 1) := by decide +kernel
theorem dX12_boot_37 : decode cX12_boot 37 = .ok (.putfield 117, 3) := by decide +kernel
theorem dX12_boot_40 : decode cX12_boot 40 = .ok (.iconst 0, 1) := by decide +kernel
theorem dX12_boot_41 : decode cX12_boot 41 = .ok (.istore_n 1, 1) := by decide +kernel
theorem dX12_boot_42 : decode cX12_boot 42 = .ok (.iload_n 1, 1) := by decide +kernel
theorem dX12_boot_43 : decode cX12_boot 43 = .ok (.iconst 4, 1) := by decide +kernel
theorem dX12_boot_44 : decode cX12_boot 44 = .ok (.if_icmp .ge 25, 3) := by decide +kernel
theorem dX12_boot_47 : decode cX12_boot 47 = .ok (.aload_n 0, 1) := by decide +kernel
theorem dX12_boot_48 : decode cX12_boot 48 = .ok (.getfield 114, 3) := by decide +kernel
theorem dX12_boot_51 : decode cX12_boot 51 = .ok (.iload_n 1, 1) := by decide +kernel
theorem dX12_boot_52 : decode cX12_boot 52 = .ok (.aload_n 0, 1) := by decide +kernel
theorem dX12_boot_53 : decode cX12_boot 53 = .ok (.getfield 13, 3) := by decide +kernel
theorem dX12_boot_56 : decode cX12_boot 56 = .ok (.sipush 149, 3) := by decide +kernel
theorem dX12_boot_59 : decode cX12_boot 59 = .ok (.iload_n 1, 1) := by decide +kernel
theorem dX12_boot_60 : decode cX12_boot 60 = .ok (.iadd, 1) := by decide +kernel
theorem dX12_boot_61 : decode cX12_boot 61 = .ok (.iaload, 1) := by decide +kernel
theorem dX12_boot_62 : decode cX12_boot 62 = .ok (.iastore, 1) := by decide +kernel
theorem dX12_boot_63 : decode cX12_boot 63 = .ok (.iinc 1 1, 3) := by decide +kernel
theorem dX12_boot_66 : decode cX12_boot 66 = .ok (.goto (-24), 3) := by decide +kernel
theorem dX12_boot_69 : decode cX12_boot 69 = .ok (.aload_n 0, 1) := by decide +kernel
theorem dX12_boot_70 : decode cX12_boot 70 = .ok (.invokevirtual 387, 3) := by decide +kernel
theorem dX12_boot_73 : decode cX12_boot 73 = .ok (.aload_n 0, 1) := by decide +kernel
theorem dX12_boot_74 : decode cX12_boot 74 = .ok (.getfield 13, 3) := by decide +kernel
theorem dX12_boot_77 : decode cX12_boot 77 = .ok (.sipush 147, 3) := by decide +kernel
theorem dX12_boot_80 : decode cX12_boot 80 = .ok (.iaload, 1) := by decide +kernel
theorem dX12_boot_81 : decode cX12_boot 81 = .ok (.iconst (-1), 1) := by decide +kernel
theorem dX12_boot_82 : decode cX12_boot 82 = .ok (.if_icmp .ne 10, 3) := by decide +kernel
theorem dX12_boot_85 : decode cX12_boot 85 = .ok (.aload_n 0, 1) := by decide +kernel
theorem dX12_boot_86 : decode cX12_boot 86 = .ok (.invokevirtual 390, 3) := by decide +kernel
theorem dX12_boot_89 : decode cX12_boot 89 = .ok (.goto 25, 3) := by decide +kernel
theorem dX12_boot_92 : decode cX12_boot 92 = .ok (.aload_n 0, 1) := by decide +kernel
theorem dX12_boot_93 : decode cX12_boot 93 = .ok (.getfield 13, 3) := by decide +kernel
theorem dX12_boot_96 : decode cX12_boot 96 = .ok (.sipush 147, 3) := by decide +kernel
theorem dX12_boot_99 : decode cX12_boot 99 = .ok (.iaload, 1) := by decide +kernel
theorem dX12_boot_100 : decode cX12_boot 100 = .ok (.aload_n 0, 1) := by decide +kernel
theorem dX12_boot_101 : decode cX12_boot 101 = .ok (.getfield 117, 3) := by decide +kernel
theorem dX12_boot_104 : decode cX12_boot 104 = .ok (.iconst (-1), 1) := by decide +kernel
theorem dX12_boot_105 : decode cX12_boot 105 = .ok (.if_icmp .ne 7, 3) := by decide +kernel
theorem dX12_boot_108 : decode cX12_boot 108 = .ok (.iconst 0, 1) := by decide +kernel
theorem dX12_boot_109 : decode cX12_boot 109 = .ok (.goto 4, 3) := by decide +kernel
theorem dX12_boot_112 : decode cX12_boot 112 = .ok (.iconst 1, 1) := by decide +kernel
theorem dX12_boot_113 : decode cX12_boot 113 = .ok (.iadd, 1) := by decide +kernel
theorem dX12_boot_114 : decode cX12_boot 114 = .ok (.istore_n 1, 1) := by decide +kernel
theorem dX12_boot_115 : decode cX12_boot 115 = .ok (.iload_n 1, 1) := by decide +kernel
theorem dX12_boot_116 : decode cX12_boot 116 = .ok (.iconst (-1), 1) := by decide +kernel
theorem dX12_boot_117 : decode cX12_boot 117 = .ok (.if_icmp .ne 6, 3) := by decide +kernel
theorem dX12_boot_120 : decode cX12_boot 120 = .ok (.bipush (-5), 2) := by decide +kernel
theorem dX12_boot_122 : decode cX12_boot 122 = .ok (.ireturn, 1) := by decide +kernel
theorem dX12_boot_123 : decode cX12_boot 123 = .ok (.aload_n 0, 1) := by decide +kernel
theorem dX12_boot_124 : decode cX12_boot 124 = .ok (.invokevirtual 285, 3) := by decide +kernel
theorem dX12_boot_127 : decode cX12_boot 127 = .ok (.aload_n 0, 1) := by decide +kernel
theorem dX12_boot_128 : decode cX12_boot 128 = .ok (.invokevirtual 380, 3) := by decide +kernel
theorem dX12_boot_131 : decode cX12_boot 131 = .ok (.aload_n 0, 1) := by decide +kernel
theorem dX12_boot_132 : decode cX12_boot 132 = .ok (.getfield 13, 3) := by decide +kernel
theorem dX12_boot_135 : decode cX12_boot 135 = .ok (.sipush 147, 3) := by decide +kernel
theorem dX12_boot_138 : decode cX12_boot 138 = .ok (.iload_n 1, 1) := by decide +kernel
theorem dX12_boot_139 : decode cX12_boot 139 = .ok (.iastore, 1) := by decide +kernel
theorem dX12_boot_140 : decode cX12_boot 140 = .ok (.aload_n 0, 1) := by decide +kernel
theorem dX12_boot_141 : decode cX12_boot 141 = .ok (.getfield 13, 3) := by decide +kernel
theorem dX12_boot_144 : decode cX12_boot 144 = .ok (.sipush 148, 3) := by decide +kernel
theorem dX12_boot_147 : decode cX12_boot 147 = .ok (.iconst (-1), 1) := by decide +kernel
theorem dX12_boot_148 : decode cX12_boot 148 = .ok (.iastore, 1) := by decide +kernel
theorem dX12_boot_149 : decode cX12_boot 149 = .ok (.iconst 0, 1) := by decide +kernel
theorem dX12_boot_150 : decode cX12_boot 150 = .ok (.istore_n 2, 1) := by decide +kernel
theorem dX12_boot_151 : decode cX12_boot 151 = .ok (.iload_n 2, 1) := by decide +kernel
theorem dX12_boot_152 : decode cX12_boot 152 = .ok (.iconst 4, 1) := by decide +kernel
theorem dX12_boot_153 : decode cX12_boot 153 = .ok (.if_icmp .ge 20, 3) := by decide +kernel
theorem dX12_boot_156 : decode cX12_boot 156 = .ok (.aload_n 0, 1) := by decide +kernel
theorem dX12_boot_157 : decode cX12_boot 157 = .ok (.getfield 13, 3) := by decide +kernel
theorem dX12_boot_160 : decode cX12_boot 160 = .ok (.sipush 149, 3) := by decide +kernel
theorem dX12_boot_163 : decode cX12_boot 163 = .ok (.iload_n 2, 1) := by decide +kernel
theorem dX12_boot_164 : decode cX12_boot 164 = .ok (.iadd, 1) := by decide +kernel
theorem dX12_boot_165 : decode cX12_boot 165 = .ok (.iconst 0, 1) := by decide +kernel
theorem dX12_boot_166 : decode cX12_boot 166 = .ok (.iastore, 1) := by decide +kernel
theorem dX12_boot_167 : decode cX12_boot 167 = .ok (.iinc 2 1, 3) := by decide +kernel
theorem dX12_boot_170 : decode cX12_boot 170 = .ok (.goto (-19), 3) := by decide +kernel
theorem dX12_boot_173 : decode cX12_boot 173 = .ok (.aload_n 0, 1) := by decide +kernel
theorem dX12_boot_174 : decode cX12_boot 174 = .ok (.getfield 13, 3) := by decide +kernel
theorem dX12_boot_177 : decode cX12_boot 177 = .ok (.sipush 146, 3) := by decide +kernel
theorem dX12_boot_180 : decode cX12_boot 180 = .ok (.iconst 1, 1) := by decide +kernel
theorem dX12_boot_181 : decode cX12_boot 181 = .ok (.iastore, 1) := by decide +kernel
theorem dX12_boot_182 : decode cX12_boot 182 = .ok (.iload_n 1, 1) := by decide +kernel
theorem dX12_boot_183 : decode cX12_boot 183 = .ok (.ireturn, 1) := by decide +kernel
abbrev k_X12_boot (E : g_E) (l : Launch) (D : g_D) (K : Int → g_D → Prop) : Prop := g_Ki E l m_X12_boot 5 [g_R 208] g_SH D K
abbrev n_X12_boot (E : g_E) (l : Launch) (D : g_D) (pc : Nat) (L : List (Option g_V)) (K : Int → g_D → Prop) : Prop := g_N E l m_X12_boot 5 pc L [] g_SH D (g_Ri g_SH K)
theorem s_X12_boot {E : g_E} {l : Launch} {D : g_D} {K : Int → g_D → Prop}   (hF : g_okD D → ∀ D1, D1 = g_up D 208 0 0 → ((¬ (D 209 146) = 1 → k_X12_laysDue E l D1 (fun D2 => k_X12_worksNow E l D2 (fun D3 => ∀ D4, D4 = g_up D3 208 50 (D3 209 148) → (n_X12_boot E l D4 42 [some (g_R 208), some (g_I 0), none] K)))) ∧ ((D 209 146) = 1 → K (-5) D1))) : k_X12_boot E l D K := by
  refine g_enter (by decide) (Nat.le_of_ble_eq_true rfl) ?_
  show g_N E l m_X12_boot 5 0 [some (g_R 208), none, none] [] g_SH D (g_Ri g_SH K)
  refine g_use (fun ok => ?_)
  have hF := hF ok.2.1
  refine g_aload_n dX12_boot_0 rfl ?_
  refine g_iconst dX12_boot_1 ⟨by decide, by decide⟩ ?_
  let D1 : g_D := g_up D 208 0 0
  have hF := hF D1 rfl
  refine g_put dX12_boot_2 fd_X12_1 (g_ftyI (C := RX12) (T := TX12) (N := 51) rfl rfl (by decide +kernel)) sh_208 rfl ?_
  refine g_aload_n dX12_boot_5 rfl ?_
  refine g_getR dX12_boot_6 fd_X12_13 sh_208 rfl ?_
  refine g_sipush dX12_boot_9 ⟨by decide, by decide⟩ ?_
  refine g_iald dX12_boot_12 sh_209 (by decide) (by decide) ?_
  refine g_iconst dX12_boot_13 ⟨by decide, by decide⟩ ?_
  refine g_cne dX12_boot_14 rfl (fun q => ?_) (fun q => ?_)
  · have hF := hF.1 q
    refine g_aload_n dX12_boot_20 rfl ?_
    refine gw_cVv (b := 208) (As := []) (rest := []) dX12_boot_21 mv_X12_369 sh_208 rfl (Nat.le_of_ble_eq_true rfl) (by decide) rfl hF ?_
    intro D2 hF
    refine g_aload_n dX12_boot_24 rfl ?_
    refine gw_cVv (b := 208) (As := []) (rest := []) dX12_boot_25 mv_X12_374 sh_208 rfl (Nat.le_of_ble_eq_true rfl) (by decide) rfl hF ?_
    intro D3 hF
    refine g_aload_n dX12_boot_28 rfl ?_
    refine g_aload_n dX12_boot_29 rfl ?_
    refine g_getR dX12_boot_30 fd_X12_13 sh_208 rfl ?_
    refine g_sipush dX12_boot_33 ⟨by decide, by decide⟩ ?_
    refine g_iald dX12_boot_36 sh_209 (by decide) (by decide) ?_
    let D4 : g_D := g_up D3 208 50 (D3 209 148)
    have hF := hF D4 rfl
    refine g_put dX12_boot_37 fd_X12_117 (g_ftyI (C := RX12) (T := TX12) (N := 51) rfl rfl (by decide +kernel)) sh_208 rfl ?_
    refine g_iconst dX12_boot_40 ⟨by decide, by decide⟩ ?_
    refine gw_istore_n (L' := [some (g_R 208), some (g_I 0), none]) dX12_boot_41 (by decide) rfl ?_
    exact hF
  · have hF := hF.2 q
    refine g_bipush dX12_boot_17 ⟨by decide, by decide⟩ ?_
    exact gw_iret dX12_boot_19 rfl hF
theorem s_X12_boot_42 {E : g_E} {l : Launch} {D : g_D} {K : Int → g_D → Prop} {v1 : Int}  (hF : g_okD D → g_r v1 → (4 ≤ v1 → k_X12_writesJournal E l D (fun D1 => (¬ (D1 209 147) = (-1) → (¬ (D1 208 50) = (-1) → (g_r ((D1 209 147) + 1)) ∧ ((¬ ((D1 209 147) + 1) = (-1) → k_X12_notes E l D1 (fun D2 => k_X12_keepsWork E l D2 (fun D3 => ∀ D4, D4 = g_up D3 209 147 ((D1 209 147) + 1) → (∀ D5, D5 = g_up D4 209 148 (-1) → (n_X12_boot E l D5 151 [some (g_R 208), some (g_I ((D1 209 147) + 1)), some (g_I 0)] K))))) ∧ (((D1 209 147) + 1) = (-1) → K (-5) D1))) ∧ ((D1 208 50) = (-1) → (g_r ((D1 209 147) + 0)) ∧ ((¬ ((D1 209 147) + 0) = (-1) → k_X12_notes E l D1 (fun D6 => k_X12_keepsWork E l D6 (fun D7 => ∀ D8, D8 = g_up D7 209 147 ((D1 209 147) + 0) → (∀ D9, D9 = g_up D8 209 148 (-1) → (n_X12_boot E l D9 151 [some (g_R 208), some (g_I ((D1 209 147) + 0)), some (g_I 0)] K))))) ∧ (((D1 209 147) + 0) = (-1) → K (-5) D1)))) ∧ ((D1 209 147) = (-1) → k_X12_leastFit E l D1 (fun x10 D10 => g_r x10 → (¬ x10 = (-1) → k_X12_notes E l D10 (fun D11 => k_X12_keepsWork E l D11 (fun D12 => ∀ D13, D13 = g_up D12 209 147 x10 → (∀ D14, D14 = g_up D13 209 148 (-1) → (n_X12_boot E l D14 151 [some (g_R 208), some (g_I x10), some (g_I 0)] K))))) ∧ (x10 = (-1) → K (-5) D10))))) ∧ (¬ 4 ≤ v1 → (g_r (149 + v1)) ∧ ((0 ≤ (149 + v1) ∧ (149 + v1) < 1557) ∧ ((0 ≤ v1 ∧ v1 < 4) ∧ (∀ D15, D15 = g_up D 241 v1.toNat (D 209 (149 + v1).toNat) → ((g_r (v1 + 1)) ∧ (n_X12_boot E l D15 42 [some (g_R 208), some (g_I (v1 + 1)), none] K))))))) : n_X12_boot E l D 42 [some (g_R 208), some (g_I v1), none] K := by
  refine g_use (fun ok => ?_)
  have hF := hF ok.2.1 (ok.loc (i := 1) rfl)
  refine g_iload_n dX12_boot_42 rfl ?_
  refine g_iconst dX12_boot_43 ⟨by decide, by decide⟩ ?_
  refine g_cge dX12_boot_44 rfl (fun q => ?_) (fun q => ?_)
  · have hF := hF.1 q
    refine g_aload_n dX12_boot_69 rfl ?_
    refine gw_cVv (b := 208) (As := []) (rest := []) dX12_boot_70 mv_X12_387 sh_208 rfl (Nat.le_of_ble_eq_true rfl) (by decide) rfl hF ?_
    intro D1 hF
    refine g_aload_n dX12_boot_73 rfl ?_
    refine g_getR dX12_boot_74 fd_X12_13 sh_208 rfl ?_
    refine g_sipush dX12_boot_77 ⟨by decide, by decide⟩ ?_
    refine g_iald dX12_boot_80 sh_209 (by decide) (by decide) ?_
    refine g_iconst dX12_boot_81 ⟨by decide, by decide⟩ ?_
    refine g_cne dX12_boot_82 rfl (fun q => ?_) (fun q => ?_)
    · have hF := hF.1 q
      refine g_aload_n dX12_boot_92 rfl ?_
      refine g_getR dX12_boot_93 fd_X12_13 sh_208 rfl ?_
      refine g_sipush dX12_boot_96 ⟨by decide, by decide⟩ ?_
      refine g_iald dX12_boot_99 sh_209 (by decide) (by decide) ?_
      refine g_aload_n dX12_boot_100 rfl ?_
      refine g_getI dX12_boot_101 fd_X12_117 sh_208 rfl ?_
      refine g_iconst dX12_boot_104 ⟨by decide, by decide⟩ ?_
      refine g_cne dX12_boot_105 rfl (fun q => ?_) (fun q => ?_)
      · have hF := hF.1 q
        refine g_iconst dX12_boot_112 ⟨by decide, by decide⟩ ?_
        obtain ⟨hc, hF⟩ := hF
        refine g_iadd dX12_boot_113 hc ?_
        refine gw_istore_n (L' := [some (g_R 208), some (g_I ((D1 209 147) + 1)), none]) dX12_boot_114 (by decide) rfl ?_
        refine g_iload_n dX12_boot_115 rfl ?_
        refine g_iconst dX12_boot_116 ⟨by decide, by decide⟩ ?_
        refine g_cne dX12_boot_117 rfl (fun q => ?_) (fun q => ?_)
        · have hF := hF.1 q
          refine g_aload_n dX12_boot_123 rfl ?_
          refine gw_cVv (b := 208) (As := []) (rest := []) dX12_boot_124 mv_X12_285 sh_208 rfl (Nat.le_of_ble_eq_true rfl) (by decide) rfl hF ?_
          intro D2 hF
          refine g_aload_n dX12_boot_127 rfl ?_
          refine gw_cVv (b := 208) (As := []) (rest := []) dX12_boot_128 mv_X12_380 sh_208 rfl (Nat.le_of_ble_eq_true rfl) (by decide) rfl hF ?_
          intro D3 hF
          refine g_aload_n dX12_boot_131 rfl ?_
          refine g_getR dX12_boot_132 fd_X12_13 sh_208 rfl ?_
          refine g_sipush dX12_boot_135 ⟨by decide, by decide⟩ ?_
          refine g_iload_n dX12_boot_138 rfl ?_
          let D4 : g_D := g_up D3 209 147 ((D1 209 147) + 1)
          have hF := hF D4 rfl
          refine g_iast dX12_boot_139 sh_209 (by decide) (by decide) ?_
          refine g_aload_n dX12_boot_140 rfl ?_
          refine g_getR dX12_boot_141 fd_X12_13 sh_208 rfl ?_
          refine g_sipush dX12_boot_144 ⟨by decide, by decide⟩ ?_
          refine g_iconst dX12_boot_147 ⟨by decide, by decide⟩ ?_
          let D5 : g_D := g_up D4 209 148 (-1)
          have hF := hF D5 rfl
          refine g_iast dX12_boot_148 sh_209 (by decide) (by decide) ?_
          refine g_iconst dX12_boot_149 ⟨by decide, by decide⟩ ?_
          refine gw_istore_n (L' := [some (g_R 208), some (g_I ((D1 209 147) + 1)), some (g_I 0)]) dX12_boot_150 (by decide) rfl ?_
          exact hF
        · have hF := hF.2 q
          refine g_bipush dX12_boot_120 ⟨by decide, by decide⟩ ?_
          exact gw_iret dX12_boot_122 rfl hF
      · have hF := hF.2 q
        refine g_iconst dX12_boot_108 ⟨by decide, by decide⟩ ?_
        refine g_goto dX12_boot_109 rfl ?_
        obtain ⟨hc, hF⟩ := hF
        refine g_iadd dX12_boot_113 hc ?_
        refine gw_istore_n (L' := [some (g_R 208), some (g_I ((D1 209 147) + 0)), none]) dX12_boot_114 (by decide) rfl ?_
        refine g_iload_n dX12_boot_115 rfl ?_
        refine g_iconst dX12_boot_116 ⟨by decide, by decide⟩ ?_
        refine g_cne dX12_boot_117 rfl (fun q => ?_) (fun q => ?_)
        · have hF := hF.1 q
          refine g_aload_n dX12_boot_123 rfl ?_
          refine gw_cVv (b := 208) (As := []) (rest := []) dX12_boot_124 mv_X12_285 sh_208 rfl (Nat.le_of_ble_eq_true rfl) (by decide) rfl hF ?_
          intro D6 hF
          refine g_aload_n dX12_boot_127 rfl ?_
          refine gw_cVv (b := 208) (As := []) (rest := []) dX12_boot_128 mv_X12_380 sh_208 rfl (Nat.le_of_ble_eq_true rfl) (by decide) rfl hF ?_
          intro D7 hF
          refine g_aload_n dX12_boot_131 rfl ?_
          refine g_getR dX12_boot_132 fd_X12_13 sh_208 rfl ?_
          refine g_sipush dX12_boot_135 ⟨by decide, by decide⟩ ?_
          refine g_iload_n dX12_boot_138 rfl ?_
          let D8 : g_D := g_up D7 209 147 ((D1 209 147) + 0)
          have hF := hF D8 rfl
          refine g_iast dX12_boot_139 sh_209 (by decide) (by decide) ?_
          refine g_aload_n dX12_boot_140 rfl ?_
          refine g_getR dX12_boot_141 fd_X12_13 sh_208 rfl ?_
          refine g_sipush dX12_boot_144 ⟨by decide, by decide⟩ ?_
          refine g_iconst dX12_boot_147 ⟨by decide, by decide⟩ ?_
          let D9 : g_D := g_up D8 209 148 (-1)
          have hF := hF D9 rfl
          refine g_iast dX12_boot_148 sh_209 (by decide) (by decide) ?_
          refine g_iconst dX12_boot_149 ⟨by decide, by decide⟩ ?_
          refine gw_istore_n (L' := [some (g_R 208), some (g_I ((D1 209 147) + 0)), some (g_I 0)]) dX12_boot_150 (by decide) rfl ?_
          exact hF
        · have hF := hF.2 q
          refine g_bipush dX12_boot_120 ⟨by decide, by decide⟩ ?_
          exact gw_iret dX12_boot_122 rfl hF
    · have hF := hF.2 q
      refine g_aload_n dX12_boot_85 rfl ?_
      refine gw_cVi (b := 208) (As := []) (rest := []) dX12_boot_86 mv_X12_390 sh_208 rfl (Nat.le_of_ble_eq_true rfl) (by decide) rfl hF ?_
      intro x10 D10 hx10 hF
      have hF := hF hx10
      refine g_goto dX12_boot_89 rfl ?_
      refine gw_istore_n (L' := [some (g_R 208), some (g_I x10), none]) dX12_boot_114 (by decide) rfl ?_
      refine g_iload_n dX12_boot_115 rfl ?_
      refine g_iconst dX12_boot_116 ⟨by decide, by decide⟩ ?_
      refine g_cne dX12_boot_117 rfl (fun q => ?_) (fun q => ?_)
      · have hF := hF.1 q
        refine g_aload_n dX12_boot_123 rfl ?_
        refine gw_cVv (b := 208) (As := []) (rest := []) dX12_boot_124 mv_X12_285 sh_208 rfl (Nat.le_of_ble_eq_true rfl) (by decide) rfl hF ?_
        intro D11 hF
        refine g_aload_n dX12_boot_127 rfl ?_
        refine gw_cVv (b := 208) (As := []) (rest := []) dX12_boot_128 mv_X12_380 sh_208 rfl (Nat.le_of_ble_eq_true rfl) (by decide) rfl hF ?_
        intro D12 hF
        refine g_aload_n dX12_boot_131 rfl ?_
        refine g_getR dX12_boot_132 fd_X12_13 sh_208 rfl ?_
        refine g_sipush dX12_boot_135 ⟨by decide, by decide⟩ ?_
        refine g_iload_n dX12_boot_138 rfl ?_
        let D13 : g_D := g_up D12 209 147 x10
        have hF := hF D13 rfl
        refine g_iast dX12_boot_139 sh_209 (by decide) (by decide) ?_
        refine g_aload_n dX12_boot_140 rfl ?_
        refine g_getR dX12_boot_141 fd_X12_13 sh_208 rfl ?_
        refine g_sipush dX12_boot_144 ⟨by decide, by decide⟩ ?_
        refine g_iconst dX12_boot_147 ⟨by decide, by decide⟩ ?_
        let D14 : g_D := g_up D13 209 148 (-1)
        have hF := hF D14 rfl
        refine g_iast dX12_boot_148 sh_209 (by decide) (by decide) ?_
        refine g_iconst dX12_boot_149 ⟨by decide, by decide⟩ ?_
        refine gw_istore_n (L' := [some (g_R 208), some (g_I x10), some (g_I 0)]) dX12_boot_150 (by decide) rfl ?_
        exact hF
      · have hF := hF.2 q
        refine g_bipush dX12_boot_120 ⟨by decide, by decide⟩ ?_
        exact gw_iret dX12_boot_122 rfl hF
  · have hF := hF.2 q
    refine g_aload_n dX12_boot_47 rfl ?_
    refine g_getR dX12_boot_48 fd_X12_114 sh_208 rfl ?_
    refine g_iload_n dX12_boot_51 rfl ?_
    refine g_aload_n dX12_boot_52 rfl ?_
    refine g_getR dX12_boot_53 fd_X12_13 sh_208 rfl ?_
    refine g_sipush dX12_boot_56 ⟨by decide, by decide⟩ ?_
    refine g_iload_n dX12_boot_59 rfl ?_
    obtain ⟨hc, hF⟩ := hF
    refine g_iadd dX12_boot_60 hc ?_
    obtain ⟨hc, hF⟩ := hF
    refine g_iald dX12_boot_61 sh_209 hc.1 hc.2 ?_
    obtain ⟨hc, hF⟩ := hF
    let D15 : g_D := g_up D 241 v1.toNat (D 209 (149 + v1).toNat)
    have hF := hF D15 rfl
    refine g_iast dX12_boot_62 sh_241 hc.1 hc.2 ?_
    obtain ⟨hc, hF⟩ := hF
    refine gw_iinc (L' := [some (g_R 208), some (g_I (v1 + 1)), none]) dX12_boot_63 rfl hc (by decide) rfl ?_
    refine g_goto dX12_boot_66 rfl ?_
    exact hF
theorem s_X12_boot_151 {E : g_E} {l : Launch} {D : g_D} {K : Int → g_D → Prop} {v1 : Int} {v2 : Int}  (hF : g_okD D → g_r v1 → g_r v2 → (4 ≤ v2 → ∀ D1, D1 = g_up D 209 146 1 → (K v1 D1)) ∧ (¬ 4 ≤ v2 → (g_r (149 + v2)) ∧ ((0 ≤ (149 + v2) ∧ (149 + v2) < 1557) ∧ (∀ D2, D2 = g_up D 209 (149 + v2).toNat 0 → ((g_r (v2 + 1)) ∧ (n_X12_boot E l D2 151 [some (g_R 208), some (g_I v1), some (g_I (v2 + 1))] K)))))) : n_X12_boot E l D 151 [some (g_R 208), some (g_I v1), some (g_I v2)] K := by
  refine g_use (fun ok => ?_)
  have hF := hF ok.2.1 (ok.loc (i := 1) rfl) (ok.loc (i := 2) rfl)
  refine g_iload_n dX12_boot_151 rfl ?_
  refine g_iconst dX12_boot_152 ⟨by decide, by decide⟩ ?_
  refine g_cge dX12_boot_153 rfl (fun q => ?_) (fun q => ?_)
  · have hF := hF.1 q
    refine g_aload_n dX12_boot_173 rfl ?_
    refine g_getR dX12_boot_174 fd_X12_13 sh_208 rfl ?_
    refine g_sipush dX12_boot_177 ⟨by decide, by decide⟩ ?_
    refine g_iconst dX12_boot_180 ⟨by decide, by decide⟩ ?_
    let D1 : g_D := g_up D 209 146 1
    have hF := hF D1 rfl
    refine g_iast dX12_boot_181 sh_209 (by decide) (by decide) ?_
    refine g_iload_n dX12_boot_182 rfl ?_
    exact gw_iret dX12_boot_183 rfl hF
  · have hF := hF.2 q
    refine g_aload_n dX12_boot_156 rfl ?_
    refine g_getR dX12_boot_157 fd_X12_13 sh_208 rfl ?_
    refine g_sipush dX12_boot_160 ⟨by decide, by decide⟩ ?_
    refine g_iload_n dX12_boot_163 rfl ?_
    obtain ⟨hc, hF⟩ := hF
    refine g_iadd dX12_boot_164 hc ?_
    refine g_iconst dX12_boot_165 ⟨by decide, by decide⟩ ?_
    obtain ⟨hc, hF⟩ := hF
    let D2 : g_D := g_up D 209 (149 + v2).toNat 0
    have hF := hF D2 rfl
    refine g_iast dX12_boot_166 sh_209 hc.1 hc.2 ?_
    obtain ⟨hc, hF⟩ := hF
    refine gw_iinc (L' := [some (g_R 208), some (g_I v1), some (g_I (v2 + 1))]) dX12_boot_167 rfl hc (by decide) rfl ?_
    refine g_goto dX12_boot_170 rfl ?_
    exact hF
theorem dX12_burns_0 : decode cX12_burns 0 = .ok (.iconst 0, 1) := by decide +kernel
theorem dX12_burns_1 : decode cX12_burns 1 = .ok (.istore_n 1, 1) := by decide +kernel
theorem dX12_burns_2 : decode cX12_burns 2 = .ok (.iload_n 1, 1) := by decide +kernel
theorem dX12_burns_3 : decode cX12_burns 3 = .ok (.bipush 40, 2) := by decide +kernel
theorem dX12_burns_5 : decode cX12_burns 5 = .ok (.if_icmp .ge 43, 3) := by decide +kernel
theorem dX12_burns_8 : decode cX12_burns 8 = .ok (.aload_n 0, 1) := by decide +kernel
theorem dX12_burns_9 : decode cX12_burns 9 = .ok (.getfield 13, 3) := by decide +kernel
theorem dX12_burns_12 : decode cX12_burns 12 = .ok (.bipush 86, 2) := by decide +kernel
theorem dX12_burns_14 : decode cX12_burns 14 = .ok (.iload_n 1, 1) := by decide +kernel
theorem dX12_burns_15 : decode cX12_burns 15 = .ok (.iadd, 1) := by decide +kernel
theorem dX12_burns_16 : decode cX12_burns 16 = .ok (.iload_n 1, 1) := by decide +kernel
theorem dX12_burns_17 : decode cX12_burns 17 = .ok (.aload_n 0, 1) := by decide +kernel
theorem dX12_burns_18 : decode cX12_burns 18 = .ok (.getfield 13, 3) := by decide +kernel
theorem dX12_burns_21 : decode cX12_burns 21 = .ok (.iconst 0, 1) := by decide +kernel
theorem dX12_burns_22 : decode cX12_burns 22 = .ok (.iaload, 1) := by decide +kernel
theorem dX12_burns_23 : decode cX12_burns 23 = .ok (.if_icmp .ge 15, 3) := by decide +kernel
theorem dX12_burns_26 : decode cX12_burns 26 = .ok (.aload_n 0, 1) := by decide +kernel
theorem dX12_burns_27 : decode cX12_burns 27 = .ok (.getfield 13, 3) := by decide +kernel
theorem dX12_burns_30 : decode cX12_burns 30 = .ok (.bipush 6, 2) := by decide +kernel
theorem dX12_burns_32 : decode cX12_burns 32 = .ok (.iload_n 1, 1) := by decide +kernel
theorem dX12_burns_33 : decode cX12_burns 33 = .ok (.iadd, 1) := by decide +kernel
theorem dX12_burns_34 : decode cX12_burns 34 = .ok (.iaload, 1) := by decide +kernel
theorem dX12_burns_35 : decode cX12_burns 35 = .ok (.goto 6, 3) := by decide +kernel
theorem dX12_burns_38 : decode cX12_burns 38 = .ok (.sipush 255, 3) := by decide +kernel
theorem dX12_burns_41 : decode cX12_burns 41 = .ok (.iastore, 1) := by decide +kernel
theorem dX12_burns_42 : decode cX12_burns 42 = .ok (.iinc 1 1, 3) := by decide +kernel
theorem dX12_burns_45 : decode cX12_burns 45 = .ok (.goto (-43), 3) := by decide +kernel
theorem dX12_burns_48 : decode cX12_burns 48 = .ok (.iconst 0, 1) := by decide +kernel
theorem dX12_burns_49 : decode cX12_burns 49 = .ok (.istore_n 1, 1) := by decide +kernel
theorem dX12_burns_50 : decode cX12_burns 50 = .ok (.iload_n 1, 1) := by decide +kernel
theorem dX12_burns_51 : decode cX12_burns 51 = .ok (.bipush 20, 2) := by decide +kernel
theorem dX12_burns_53 : decode cX12_burns 53 = .ok (.if_icmp .ge 21, 3) := by decide +kernel
theorem dX12_burns_56 : decode cX12_burns 56 = .ok (.aload_n 0, 1) := by decide +kernel
theorem dX12_burns_57 : decode cX12_burns 57 = .ok (.getfield 13, 3) := by decide +kernel
theorem dX12_burns_60 : decode cX12_burns 60 = .ok (.bipush 126, 2) := by decide +kernel
theorem dX12_burns_62 : decode cX12_burns 62 = .ok (.iload_n 1, 1) := by decide +kernel
theorem dX12_burns_63 : decode cX12_burns 63 = .ok (.iadd, 1) := by decide +kernel
theorem dX12_burns_64 : decode cX12_burns 64 = .ok (.sipush 255, 3) := by decide +kernel
theorem dX12_burns_67 : decode cX12_burns 67 = .ok (.iastore, 1) := by decide +kernel
theorem dX12_burns_68 : decode cX12_burns 68 = .ok (.iinc 1 1, 3) := by decide +kernel
theorem dX12_burns_71 : decode cX12_burns 71 = .ok (.goto (-21), 3) := by decide +kernel
theorem dX12_burns_74 : decode cX12_burns 74 = .ok (.aload_n 0, 1) := by decide +kernel
theorem dX12_burns_75 : decode cX12_burns 75 = .ok (.getfield 13, 3) := by decide +kernel
theorem dX12_burns_78 : decode cX12_burns 78 = .ok (.sipush 146, 3) := by decide +kernel
theorem dX12_burns_81 : decode cX12_burns 81 = .ok (.iconst 1, 1) := by decide +kernel
theorem dX12_burns_82 : decode cX12_burns 82 = .ok (.iastore, 1) := by decide +kernel
theorem dX12_burns_83 : decode cX12_burns 83 = .ok (.aload_n 0, 1) := by decide +kernel
theorem dX12_burns_84 : decode cX12_burns 84 = .ok (.getfield 13, 3) := by decide +kernel
theorem dX12_burns_87 : decode cX12_burns 87 = .ok (.sipush 213, 3) := by decide +kernel
theorem dX12_burns_90 : decode cX12_burns 90 = .ok (.iconst 0, 1) := by decide +kernel
theorem dX12_burns_91 : decode cX12_burns 91 = .ok (.iastore, 1) := by decide +kernel
theorem dX12_burns_92 : decode cX12_burns 92 = .ok (.aload_n 0, 1) := by decide +kernel
theorem dX12_burns_93 : decode cX12_burns 93 = .ok (.invokevirtual 123, 3) := by decide +kernel
theorem dX12_burns_96 : decode cX12_burns 96 = .ok (.return_, 1) := by decide +kernel
abbrev k_X12_burns (E : g_E) (l : Launch) (D : g_D) (K : g_D → Prop) : Prop := g_Kv E l m_X12_burns 1 [g_R 208] g_SH D K
abbrev n_X12_burns (E : g_E) (l : Launch) (D : g_D) (pc : Nat) (L : List (Option g_V)) (K : g_D → Prop) : Prop := g_N E l m_X12_burns 1 pc L [] g_SH D (g_Rv g_SH K)
theorem s_X12_burns {E : g_E} {l : Launch} {D : g_D} {K : g_D → Prop}   (hF : g_okD D → n_X12_burns E l D 2 [some (g_R 208), some (g_I 0)] K) : k_X12_burns E l D K := by
  refine g_enter (by decide) (Nat.le_of_ble_eq_true rfl) ?_
  show g_N E l m_X12_burns 1 0 [some (g_R 208), none] [] g_SH D (g_Rv g_SH K)
  refine g_use (fun ok => ?_)
  have hF := hF ok.2.1
  refine g_iconst dX12_burns_0 ⟨by decide, by decide⟩ ?_
  refine gw_istore_n (L' := [some (g_R 208), some (g_I 0)]) dX12_burns_1 (by decide) rfl ?_
  exact hF
theorem s_X12_burns_2 {E : g_E} {l : Launch} {D : g_D} {K : g_D → Prop} {v1 : Int}  (hF : g_okD D → g_r v1 → (40 ≤ v1 → n_X12_burns E l D 50 [some (g_R 208), some (g_I 0)] K) ∧ (¬ 40 ≤ v1 → (g_r (86 + v1)) ∧ (((D 209 0) ≤ v1 → (0 ≤ (86 + v1) ∧ (86 + v1) < 1557) ∧ (∀ D1, D1 = g_up D 209 (86 + v1).toNat 255 → ((g_r (v1 + 1)) ∧ (n_X12_burns E l D1 2 [some (g_R 208), some (g_I (v1 + 1))] K)))) ∧ (¬ (D 209 0) ≤ v1 → (g_r (6 + v1)) ∧ ((0 ≤ (6 + v1) ∧ (6 + v1) < 1557) ∧ ((0 ≤ (86 + v1) ∧ (86 + v1) < 1557) ∧ (∀ D2, D2 = g_up D 209 (86 + v1).toNat (D 209 (6 + v1).toNat) → ((g_r (v1 + 1)) ∧ (n_X12_burns E l D2 2 [some (g_R 208), some (g_I (v1 + 1))] K))))))))) : n_X12_burns E l D 2 [some (g_R 208), some (g_I v1)] K := by
  refine g_use (fun ok => ?_)
  have hF := hF ok.2.1 (ok.loc (i := 1) rfl)
  refine g_iload_n dX12_burns_2 rfl ?_
  refine g_bipush dX12_burns_3 ⟨by decide, by decide⟩ ?_
  refine g_cge dX12_burns_5 rfl (fun q => ?_) (fun q => ?_)
  · have hF := hF.1 q
    refine g_iconst dX12_burns_48 ⟨by decide, by decide⟩ ?_
    refine gw_istore_n (L' := [some (g_R 208), some (g_I 0)]) dX12_burns_49 (by decide) rfl ?_
    exact hF
  · have hF := hF.2 q
    refine g_aload_n dX12_burns_8 rfl ?_
    refine g_getR dX12_burns_9 fd_X12_13 sh_208 rfl ?_
    refine g_bipush dX12_burns_12 ⟨by decide, by decide⟩ ?_
    refine g_iload_n dX12_burns_14 rfl ?_
    obtain ⟨hc, hF⟩ := hF
    refine g_iadd dX12_burns_15 hc ?_
    refine g_iload_n dX12_burns_16 rfl ?_
    refine g_aload_n dX12_burns_17 rfl ?_
    refine g_getR dX12_burns_18 fd_X12_13 sh_208 rfl ?_
    refine g_iconst dX12_burns_21 ⟨by decide, by decide⟩ ?_
    refine g_iald dX12_burns_22 sh_209 (by decide) (by decide) ?_
    refine g_cge dX12_burns_23 rfl (fun q => ?_) (fun q => ?_)
    · have hF := hF.1 q
      refine g_sipush dX12_burns_38 ⟨by decide, by decide⟩ ?_
      obtain ⟨hc, hF⟩ := hF
      let D1 : g_D := g_up D 209 (86 + v1).toNat 255
      have hF := hF D1 rfl
      refine g_iast dX12_burns_41 sh_209 hc.1 hc.2 ?_
      obtain ⟨hc, hF⟩ := hF
      refine gw_iinc (L' := [some (g_R 208), some (g_I (v1 + 1))]) dX12_burns_42 rfl hc (by decide) rfl ?_
      refine g_goto dX12_burns_45 rfl ?_
      exact hF
    · have hF := hF.2 q
      refine g_aload_n dX12_burns_26 rfl ?_
      refine g_getR dX12_burns_27 fd_X12_13 sh_208 rfl ?_
      refine g_bipush dX12_burns_30 ⟨by decide, by decide⟩ ?_
      refine g_iload_n dX12_burns_32 rfl ?_
      obtain ⟨hc, hF⟩ := hF
      refine g_iadd dX12_burns_33 hc ?_
      obtain ⟨hc, hF⟩ := hF
      refine g_iald dX12_burns_34 sh_209 hc.1 hc.2 ?_
      refine g_goto dX12_burns_35 rfl ?_
      obtain ⟨hc, hF⟩ := hF
      let D2 : g_D := g_up D 209 (86 + v1).toNat (D 209 (6 + v1).toNat)
      have hF := hF D2 rfl
      refine g_iast dX12_burns_41 sh_209 hc.1 hc.2 ?_
      obtain ⟨hc, hF⟩ := hF
      refine gw_iinc (L' := [some (g_R 208), some (g_I (v1 + 1))]) dX12_burns_42 rfl hc (by decide) rfl ?_
      refine g_goto dX12_burns_45 rfl ?_
      exact hF
theorem s_X12_burns_50 {E : g_E} {l : Launch} {D : g_D} {K : g_D → Prop} {v1 : Int}  (hF : g_okD D → g_r v1 → (20 ≤ v1 → ∀ D1, D1 = g_up D 209 146 1 → (∀ D2, D2 = g_up D1 209 213 0 → (k_X12_begins E l D2 (fun D3 => K D3)))) ∧ (¬ 20 ≤ v1 → (g_r (126 + v1)) ∧ ((0 ≤ (126 + v1) ∧ (126 + v1) < 1557) ∧ (∀ D4, D4 = g_up D 209 (126 + v1).toNat 255 → ((g_r (v1 + 1)) ∧ (n_X12_burns E l D4 50 [some (g_R 208), some (g_I (v1 + 1))] K)))))) : n_X12_burns E l D 50 [some (g_R 208), some (g_I v1)] K := by
  refine g_use (fun ok => ?_)
  have hF := hF ok.2.1 (ok.loc (i := 1) rfl)
  refine g_iload_n dX12_burns_50 rfl ?_
  refine g_bipush dX12_burns_51 ⟨by decide, by decide⟩ ?_
  refine g_cge dX12_burns_53 rfl (fun q => ?_) (fun q => ?_)
  · have hF := hF.1 q
    refine g_aload_n dX12_burns_74 rfl ?_
    refine g_getR dX12_burns_75 fd_X12_13 sh_208 rfl ?_
    refine g_sipush dX12_burns_78 ⟨by decide, by decide⟩ ?_
    refine g_iconst dX12_burns_81 ⟨by decide, by decide⟩ ?_
    let D1 : g_D := g_up D 209 146 1
    have hF := hF D1 rfl
    refine g_iast dX12_burns_82 sh_209 (by decide) (by decide) ?_
    refine g_aload_n dX12_burns_83 rfl ?_
    refine g_getR dX12_burns_84 fd_X12_13 sh_208 rfl ?_
    refine g_sipush dX12_burns_87 ⟨by decide, by decide⟩ ?_
    refine g_iconst dX12_burns_90 ⟨by decide, by decide⟩ ?_
    let D2 : g_D := g_up D1 209 213 0
    have hF := hF D2 rfl
    refine g_iast dX12_burns_91 sh_209 (by decide) (by decide) ?_
    refine g_aload_n dX12_burns_92 rfl ?_
    refine gw_cVv (b := 208) (As := []) (rest := []) dX12_burns_93 mv_X12_123 sh_208 rfl (Nat.le_of_ble_eq_true rfl) (by decide) rfl hF ?_
    intro D3 hF
    exact gw_vret dX12_burns_96 rfl hF
  · have hF := hF.2 q
    refine g_aload_n dX12_burns_56 rfl ?_
    refine g_getR dX12_burns_57 fd_X12_13 sh_208 rfl ?_
    refine g_bipush dX12_burns_60 ⟨by decide, by decide⟩ ?_
    refine g_iload_n dX12_burns_62 rfl ?_
    obtain ⟨hc, hF⟩ := hF
    refine g_iadd dX12_burns_63 hc ?_
    refine g_sipush dX12_burns_64 ⟨by decide, by decide⟩ ?_
    obtain ⟨hc, hF⟩ := hF
    let D4 : g_D := g_up D 209 (126 + v1).toNat 255
    have hF := hF D4 rfl
    refine g_iast dX12_burns_67 sh_209 hc.1 hc.2 ?_
    obtain ⟨hc, hF⟩ := hF
    refine gw_iinc (L' := [some (g_R 208), some (g_I (v1 + 1))]) dX12_burns_68 rfl hc (by decide) rfl ?_
    refine g_goto dX12_burns_71 rfl ?_
    exact hF
theorem dX12_burn_0 : decode cX12_burn 0 = .ok (.aload_n 0, 1) := by decide +kernel
theorem dX12_burn_1 : decode cX12_burn 1 = .ok (.iconst 0, 1) := by decide +kernel
theorem dX12_burn_2 : decode cX12_burn 2 = .ok (.putfield 1, 3) := by decide +kernel
theorem dX12_burn_5 : decode cX12_burn 5 = .ok (.aload_n 0, 1) := by decide +kernel
theorem dX12_burn_6 : decode cX12_burn 6 = .ok (.invokevirtual 285, 3) := by decide +kernel
theorem dX12_burn_9 : decode cX12_burn 9 = .ok (.aload_n 0, 1) := by decide +kernel
theorem dX12_burn_10 : decode cX12_burn 10 = .ok (.invokevirtual 120, 3) := by decide +kernel
theorem dX12_burn_13 : decode cX12_burn 13 = .ok (.iconst 0, 1) := by decide +kernel
theorem dX12_burn_14 : decode cX12_burn 14 = .ok (.ireturn, 1) := by decide +kernel
abbrev k_X12_burn (E : g_E) (l : Launch) (D : g_D) (K : Int → g_D → Prop) : Prop := g_Ki E l m_X12_burn 2 [g_R 208] g_SH D K
abbrev n_X12_burn (E : g_E) (l : Launch) (D : g_D) (pc : Nat) (L : List (Option g_V)) (K : Int → g_D → Prop) : Prop := g_N E l m_X12_burn 2 pc L [] g_SH D (g_Ri g_SH K)
theorem s_X12_burn {E : g_E} {l : Launch} {D : g_D} {K : Int → g_D → Prop}   (hF : g_okD D → ∀ D1, D1 = g_up D 208 0 0 → (k_X12_notes E l D1 (fun D2 => k_X12_burns E l D2 (fun D3 => K 0 D3)))) : k_X12_burn E l D K := by
  refine g_enter (by decide) (Nat.le_of_ble_eq_true rfl) ?_
  show g_N E l m_X12_burn 2 0 [some (g_R 208)] [] g_SH D (g_Ri g_SH K)
  refine g_use (fun ok => ?_)
  have hF := hF ok.2.1
  refine g_aload_n dX12_burn_0 rfl ?_
  refine g_iconst dX12_burn_1 ⟨by decide, by decide⟩ ?_
  let D1 : g_D := g_up D 208 0 0
  have hF := hF D1 rfl
  refine g_put dX12_burn_2 fd_X12_1 (g_ftyI (C := RX12) (T := TX12) (N := 51) rfl rfl (by decide +kernel)) sh_208 rfl ?_
  refine g_aload_n dX12_burn_5 rfl ?_
  refine gw_cVv (b := 208) (As := []) (rest := []) dX12_burn_6 mv_X12_285 sh_208 rfl (Nat.le_of_ble_eq_true rfl) (by decide) rfl hF ?_
  intro D2 hF
  refine g_aload_n dX12_burn_9 rfl ?_
  refine gw_cVv (b := 208) (As := []) (rest := []) dX12_burn_10 mv_X12_120 sh_208 rfl (Nat.le_of_ble_eq_true rfl) (by decide) rfl hF ?_
  intro D3 hF
  refine g_iconst dX12_burn_13 ⟨by decide, by decide⟩ ?_
  exact gw_iret dX12_burn_14 rfl hF
theorem dX12_cell_0 : decode cX12_cell 0 = .ok (.aload_n 0, 1) := by decide +kernel
theorem dX12_cell_1 : decode cX12_cell 1 = .ok (.iconst 0, 1) := by decide +kernel
theorem dX12_cell_2 : decode cX12_cell 2 = .ok (.putfield 1, 3) := by decide +kernel
theorem dX12_cell_5 : decode cX12_cell 5 = .ok (.iload_n 1, 1) := by decide +kernel
theorem dX12_cell_6 : decode cX12_cell 6 = .ok (.tableswitch 146 0 3 #[30, 62, 94, 120], 30) := by decide +kernel
theorem dX12_cell_36 : decode cX12_cell 36 = .ok (.iload_n 2, 1) := by decide +kernel
theorem dX12_cell_37 : decode cX12_cell 37 = .ok (.i2l, 1) := by decide +kernel
theorem dX12_cell_38 : decode cX12_cell 38 = .ok (.lconst 0, 1) := by decide +kernel
theorem dX12_cell_39 : decode cX12_cell 39 = .ok (.aload_n 0, 1) := by decide +kernel
theorem dX12_cell_40 : decode cX12_cell 40 = .ok (.getfield 13, 3) := by decide +kernel
theorem dX12_cell_43 : decode cX12_cell 43 = .ok (.iconst 0, 1) := by decide +kernel
theorem dX12_cell_44 : decode cX12_cell 44 = .ok (.iaload, 1) := by decide +kernel
theorem dX12_cell_45 : decode cX12_cell 45 = .ok (.iconst 1, 1) := by decide +kernel
theorem dX12_cell_46 : decode cX12_cell 46 = .ok (.isub, 1) := by decide +kernel
theorem dX12_cell_47 : decode cX12_cell 47 = .ok (.i2l, 1) := by decide +kernel
theorem dX12_cell_48 : decode cX12_cell 48 = .ok (.invokestatic 131, 3) := by decide +kernel
theorem dX12_cell_51 : decode cX12_cell 51 = .ok (.ifCond .eq 15, 3) := by decide +kernel
theorem dX12_cell_54 : decode cX12_cell 54 = .ok (.aload_n 0, 1) := by decide +kernel
theorem dX12_cell_55 : decode cX12_cell 55 = .ok (.getfield 13, 3) := by decide +kernel
theorem dX12_cell_58 : decode cX12_cell 58 = .ok (.bipush 6, 2) := by decide +kernel
theorem dX12_cell_60 : decode cX12_cell 60 = .ok (.iload_n 2, 1) := by decide +kernel
theorem dX12_cell_61 : decode cX12_cell 61 = .ok (.iadd, 1) := by decide +kernel
theorem dX12_cell_62 : decode cX12_cell 62 = .ok (.iaload, 1) := by decide +kernel
theorem dX12_cell_63 : decode cX12_cell 63 = .ok (.goto 4, 3) := by decide +kernel
theorem dX12_cell_66 : decode cX12_cell 66 = .ok (.iconst (-1), 1) := by decide +kernel
theorem dX12_cell_67 : decode cX12_cell 67 = .ok (.ireturn, 1) := by decide +kernel
theorem dX12_cell_68 : decode cX12_cell 68 = .ok (.iload_n 2, 1) := by decide +kernel
theorem dX12_cell_69 : decode cX12_cell 69 = .ok (.i2l, 1) := by decide +kernel
theorem dX12_cell_70 : decode cX12_cell 70 = .ok (.lconst 0, 1) := by decide +kernel
theorem dX12_cell_71 : decode cX12_cell 71 = .ok (.aload_n 0, 1) := by decide +kernel
theorem dX12_cell_72 : decode cX12_cell 72 = .ok (.getfield 13, 3) := by decide +kernel
theorem dX12_cell_75 : decode cX12_cell 75 = .ok (.iconst 1, 1) := by decide +kernel
theorem dX12_cell_76 : decode cX12_cell 76 = .ok (.iaload, 1) := by decide +kernel
theorem dX12_cell_77 : decode cX12_cell 77 = .ok (.iconst 1, 1) := by decide +kernel
theorem dX12_cell_78 : decode cX12_cell 78 = .ok (.isub, 1) := by decide +kernel
theorem dX12_cell_79 : decode cX12_cell 79 = .ok (.i2l, 1) := by decide +kernel
theorem dX12_cell_80 : decode cX12_cell 80 = .ok (.invokestatic 131, 3) := by decide +kernel
theorem dX12_cell_83 : decode cX12_cell 83 = .ok (.ifCond .eq 15, 3) := by decide +kernel
theorem dX12_cell_86 : decode cX12_cell 86 = .ok (.aload_n 0, 1) := by decide +kernel
theorem dX12_cell_87 : decode cX12_cell 87 = .ok (.getfield 13, 3) := by decide +kernel
theorem dX12_cell_90 : decode cX12_cell 90 = .ok (.bipush 46, 2) := by decide +kernel
theorem dX12_cell_92 : decode cX12_cell 92 = .ok (.iload_n 2, 1) := by decide +kernel
theorem dX12_cell_93 : decode cX12_cell 93 = .ok (.iadd, 1) := by decide +kernel
theorem dX12_cell_94 : decode cX12_cell 94 = .ok (.iaload, 1) := by decide +kernel
theorem dX12_cell_95 : decode cX12_cell 95 = .ok (.goto 4, 3) := by decide +kernel
theorem dX12_cell_98 : decode cX12_cell 98 = .ok (.iconst (-1), 1) := by decide +kernel
theorem dX12_cell_99 : decode cX12_cell 99 = .ok (.ireturn, 1) := by decide +kernel
theorem dX12_cell_100 : decode cX12_cell 100 = .ok (.iload_n 2, 1) := by decide +kernel
theorem dX12_cell_101 : decode cX12_cell 101 = .ok (.i2l, 1) := by decide +kernel
theorem dX12_cell_102 : decode cX12_cell 102 = .ok (.lconst 0, 1) := by decide +kernel
theorem dX12_cell_103 : decode cX12_cell 103 = .ok (.ldc2_w 139, 3) := by decide +kernel
theorem dX12_cell_106 : decode cX12_cell 106 = .ok (.invokestatic 131, 3) := by decide +kernel
theorem dX12_cell_109 : decode cX12_cell 109 = .ok (.ifCond .eq 15, 3) := by decide +kernel
theorem dX12_cell_112 : decode cX12_cell 112 = .ok (.aload_n 0, 1) := by decide +kernel
theorem dX12_cell_113 : decode cX12_cell 113 = .ok (.getfield 13, 3) := by decide +kernel
theorem dX12_cell_116 : decode cX12_cell 116 = .ok (.bipush 86, 2) := by decide +kernel
theorem dX12_cell_118 : decode cX12_cell 118 = .ok (.iload_n 2, 1) := by decide +kernel
theorem dX12_cell_119 : decode cX12_cell 119 = .ok (.iadd, 1) := by decide +kernel
theorem dX12_cell_120 : decode cX12_cell 120 = .ok (.iaload, 1) := by decide +kernel
theorem dX12_cell_121 : decode cX12_cell 121 = .ok (.goto 4, 3) := by decide +kernel
theorem dX12_cell_124 : decode cX12_cell 124 = .ok (.iconst (-1), 1) := by decide +kernel
theorem dX12_cell_125 : decode cX12_cell 125 = .ok (.ireturn, 1) := by decide +kernel
theorem dX12_cell_126 : decode cX12_cell 126 = .ok (.iload_n 2, 1) := by decide +kernel
theorem dX12_cell_127 : decode cX12_cell 127 = .ok (.i2l, 1) := by decide +kernel
theorem dX12_cell_128 : decode cX12_cell 128 = .ok (.lconst 0, 1) := by decide +kernel
theorem dX12_cell_129 : decode cX12_cell 129 = .ok (.ldc2_w 141, 3) := by decide +kernel
theorem dX12_cell_132 : decode cX12_cell 132 = .ok (.invokestatic 131, 3) := by decide +kernel
theorem dX12_cell_135 : decode cX12_cell 135 = .ok (.ifCond .eq 15, 3) := by decide +kernel
theorem dX12_cell_138 : decode cX12_cell 138 = .ok (.aload_n 0, 1) := by decide +kernel
theorem dX12_cell_139 : decode cX12_cell 139 = .ok (.getfield 13, 3) := by decide +kernel
theorem dX12_cell_142 : decode cX12_cell 142 = .ok (.bipush 126, 2) := by decide +kernel
theorem dX12_cell_144 : decode cX12_cell 144 = .ok (.iload_n 2, 1) := by decide +kernel
theorem dX12_cell_145 : decode cX12_cell 145 = .ok (.iadd, 1) := by decide +kernel
theorem dX12_cell_146 : decode cX12_cell 146 = .ok (.iaload, 1) := by decide +kernel
theorem dX12_cell_147 : decode cX12_cell 147 = .ok (.goto 4, 3) := by decide +kernel
theorem dX12_cell_150 : decode cX12_cell 150 = .ok (.iconst (-1), 1) := by decide +kernel
theorem dX12_cell_151 : decode cX12_cell 151 = .ok (.ireturn, 1) := by decide +kernel
theorem dX12_cell_152 : decode cX12_cell 152 = .ok (.bipush (-2), 2) := by decide +kernel
theorem dX12_cell_154 : decode cX12_cell 154 = .ok (.ireturn, 1) := by decide +kernel
abbrev k_X12_cell (E : g_E) (l : Launch) (D : g_D) (v1 : Int) (v2 : Int) (K : Int → g_D → Prop) : Prop := g_Ki E l m_X12_cell 1 [g_R 208, g_I v1, g_I v2] g_SH D K
abbrev n_X12_cell (E : g_E) (l : Launch) (D : g_D) (pc : Nat) (L : List (Option g_V)) (K : Int → g_D → Prop) : Prop := g_N E l m_X12_cell 1 pc L [] g_SH D (g_Ri g_SH K)
theorem s_X12_cell {E : g_E} {l : Launch} {D : g_D} {K : Int → g_D → Prop} {v1 : Int} {v2 : Int}  (hF : g_okD D → g_r v1 → g_r v2 → ∀ D1, D1 = g_up D 208 0 0 → ((v1 = 0 → (g_r ((D 209 0) - 1)) ∧ (k_X12_within E l g_SH D1 v2 0 ((D 209 0) - 1) (fun x2 D2 => g_r x2 → (x2 = 0 → K (-1) D2) ∧ (¬ x2 = 0 → (g_r (6 + v2)) ∧ ((0 ≤ (6 + v2) ∧ (6 + v2) < 1557) ∧ (K (D2 209 (6 + v2).toNat) D2)))))) ∧ (v1 = 1 → (g_r ((D 209 1) - 1)) ∧ (k_X12_within E l g_SH D1 v2 0 ((D 209 1) - 1) (fun x3 D3 => g_r x3 → (x3 = 0 → K (-1) D3) ∧ (¬ x3 = 0 → (g_r (46 + v2)) ∧ ((0 ≤ (46 + v2) ∧ (46 + v2) < 1557) ∧ (K (D3 209 (46 + v2).toNat) D3)))))) ∧ (v1 = 2 → k_X12_within E l g_SH D1 v2 0 39 (fun x4 D4 => g_r x4 → (x4 = 0 → K (-1) D4) ∧ (¬ x4 = 0 → (g_r (86 + v2)) ∧ ((0 ≤ (86 + v2) ∧ (86 + v2) < 1557) ∧ (K (D4 209 (86 + v2).toNat) D4))))) ∧ (v1 = 3 → k_X12_within E l g_SH D1 v2 0 19 (fun x5 D5 => g_r x5 → (x5 = 0 → K (-1) D5) ∧ (¬ x5 = 0 → (g_r (126 + v2)) ∧ ((0 ≤ (126 + v2) ∧ (126 + v2) < 1557) ∧ (K (D5 209 (126 + v2).toNat) D5))))) ∧ ((v1 < 0 ∨ 3 < v1) → K (-2) D1))) : k_X12_cell E l D v1 v2 K := by
  refine g_enter (by decide) (Nat.le_of_ble_eq_true rfl) ?_
  show g_N E l m_X12_cell 1 0 [some (g_R 208), some (g_I v1), some (g_I v2)] [] g_SH D (g_Ri g_SH K)
  refine g_use (fun ok => ?_)
  have hF := hF ok.2.1 (ok.loc (i := 1) rfl) (ok.loc (i := 2) rfl)
  refine g_aload_n dX12_cell_0 rfl ?_
  refine g_iconst dX12_cell_1 ⟨by decide, by decide⟩ ?_
  let D1 : g_D := g_up D 208 0 0
  have hF := hF D1 rfl
  refine g_put dX12_cell_2 fd_X12_1 (g_ftyI (C := RX12) (T := TX12) (N := 51) rfl rfl (by decide +kernel)) sh_208 rfl ?_
  refine g_iload_n dX12_cell_5 rfl ?_
  rcases Decidable.em (v1 = 0) with q6_0 | q6_0
  · have hF := hF.1 q6_0
    refine g_tsIn dX12_cell_6 (by omega) (by omega) (by rw [q6_0] <;> rfl) rfl ?_
    refine g_iload_n dX12_cell_36 rfl ?_
    refine g_i2l dX12_cell_37 ?_
    refine g_lconst dX12_cell_38 ?_
    refine g_aload_n dX12_cell_39 rfl ?_
    refine g_getR dX12_cell_40 fd_X12_13 sh_208 rfl ?_
    refine g_iconst dX12_cell_43 ⟨by decide, by decide⟩ ?_
    refine g_iald dX12_cell_44 sh_209 (by decide) (by decide) ?_
    refine g_iconst dX12_cell_45 ⟨by decide, by decide⟩ ?_
    obtain ⟨hc, hF⟩ := hF
    refine g_isub dX12_cell_46 hc ?_
    refine g_i2l dX12_cell_47 ?_
    refine gw_cSi (As := [g_J v2, g_J 0, g_J ((D 209 0) - 1)]) (rest := []) dX12_cell_48 ms_X12_131 rfl (Nat.le_of_ble_eq_true rfl) (by decide) rfl hF ?_
    intro x2 D2 hx2 hF
    have hF := hF hx2
    refine g_ifeq dX12_cell_51 rfl (fun q => ?_) (fun q => ?_)
    · have hF := hF.1 q
      refine g_iconst dX12_cell_66 ⟨by decide, by decide⟩ ?_
      exact gw_iret dX12_cell_67 rfl hF
    · have hF := hF.2 q
      refine g_aload_n dX12_cell_54 rfl ?_
      refine g_getR dX12_cell_55 fd_X12_13 sh_208 rfl ?_
      refine g_bipush dX12_cell_58 ⟨by decide, by decide⟩ ?_
      refine g_iload_n dX12_cell_60 rfl ?_
      obtain ⟨hc, hF⟩ := hF
      refine g_iadd dX12_cell_61 hc ?_
      obtain ⟨hc, hF⟩ := hF
      refine g_iald dX12_cell_62 sh_209 hc.1 hc.2 ?_
      refine g_goto dX12_cell_63 rfl ?_
      exact gw_iret dX12_cell_67 rfl hF
  rcases Decidable.em (v1 = 1) with q6_1 | q6_1
  · have hF := hF.2.1 q6_1
    refine g_tsIn dX12_cell_6 (by omega) (by omega) (by rw [q6_1] <;> rfl) rfl ?_
    refine g_iload_n dX12_cell_68 rfl ?_
    refine g_i2l dX12_cell_69 ?_
    refine g_lconst dX12_cell_70 ?_
    refine g_aload_n dX12_cell_71 rfl ?_
    refine g_getR dX12_cell_72 fd_X12_13 sh_208 rfl ?_
    refine g_iconst dX12_cell_75 ⟨by decide, by decide⟩ ?_
    refine g_iald dX12_cell_76 sh_209 (by decide) (by decide) ?_
    refine g_iconst dX12_cell_77 ⟨by decide, by decide⟩ ?_
    obtain ⟨hc, hF⟩ := hF
    refine g_isub dX12_cell_78 hc ?_
    refine g_i2l dX12_cell_79 ?_
    refine gw_cSi (As := [g_J v2, g_J 0, g_J ((D 209 1) - 1)]) (rest := []) dX12_cell_80 ms_X12_131 rfl (Nat.le_of_ble_eq_true rfl) (by decide) rfl hF ?_
    intro x3 D3 hx3 hF
    have hF := hF hx3
    refine g_ifeq dX12_cell_83 rfl (fun q => ?_) (fun q => ?_)
    · have hF := hF.1 q
      refine g_iconst dX12_cell_98 ⟨by decide, by decide⟩ ?_
      exact gw_iret dX12_cell_99 rfl hF
    · have hF := hF.2 q
      refine g_aload_n dX12_cell_86 rfl ?_
      refine g_getR dX12_cell_87 fd_X12_13 sh_208 rfl ?_
      refine g_bipush dX12_cell_90 ⟨by decide, by decide⟩ ?_
      refine g_iload_n dX12_cell_92 rfl ?_
      obtain ⟨hc, hF⟩ := hF
      refine g_iadd dX12_cell_93 hc ?_
      obtain ⟨hc, hF⟩ := hF
      refine g_iald dX12_cell_94 sh_209 hc.1 hc.2 ?_
      refine g_goto dX12_cell_95 rfl ?_
      exact gw_iret dX12_cell_99 rfl hF
  rcases Decidable.em (v1 = 2) with q6_2 | q6_2
  · have hF := hF.2.2.1 q6_2
    refine g_tsIn dX12_cell_6 (by omega) (by omega) (by rw [q6_2] <;> rfl) rfl ?_
    refine g_iload_n dX12_cell_100 rfl ?_
    refine g_i2l dX12_cell_101 ?_
    refine g_lconst dX12_cell_102 ?_
    refine g_ldc2 dX12_cell_103 ⟨by decide, by decide⟩ kl_X12_139 ?_
    refine gw_cSi (As := [g_J v2, g_J 0, g_J 39]) (rest := []) dX12_cell_106 ms_X12_131 rfl (Nat.le_of_ble_eq_true rfl) (by decide) rfl hF ?_
    intro x4 D4 hx4 hF
    have hF := hF hx4
    refine g_ifeq dX12_cell_109 rfl (fun q => ?_) (fun q => ?_)
    · have hF := hF.1 q
      refine g_iconst dX12_cell_124 ⟨by decide, by decide⟩ ?_
      exact gw_iret dX12_cell_125 rfl hF
    · have hF := hF.2 q
      refine g_aload_n dX12_cell_112 rfl ?_
      refine g_getR dX12_cell_113 fd_X12_13 sh_208 rfl ?_
      refine g_bipush dX12_cell_116 ⟨by decide, by decide⟩ ?_
      refine g_iload_n dX12_cell_118 rfl ?_
      obtain ⟨hc, hF⟩ := hF
      refine g_iadd dX12_cell_119 hc ?_
      obtain ⟨hc, hF⟩ := hF
      refine g_iald dX12_cell_120 sh_209 hc.1 hc.2 ?_
      refine g_goto dX12_cell_121 rfl ?_
      exact gw_iret dX12_cell_125 rfl hF
  rcases Decidable.em (v1 = 3) with q6_3 | q6_3
  · have hF := hF.2.2.2.1 q6_3
    refine g_tsIn dX12_cell_6 (by omega) (by omega) (by rw [q6_3] <;> rfl) rfl ?_
    refine g_iload_n dX12_cell_126 rfl ?_
    refine g_i2l dX12_cell_127 ?_
    refine g_lconst dX12_cell_128 ?_
    refine g_ldc2 dX12_cell_129 ⟨by decide, by decide⟩ kl_X12_141 ?_
    refine gw_cSi (As := [g_J v2, g_J 0, g_J 19]) (rest := []) dX12_cell_132 ms_X12_131 rfl (Nat.le_of_ble_eq_true rfl) (by decide) rfl hF ?_
    intro x5 D5 hx5 hF
    have hF := hF hx5
    refine g_ifeq dX12_cell_135 rfl (fun q => ?_) (fun q => ?_)
    · have hF := hF.1 q
      refine g_iconst dX12_cell_150 ⟨by decide, by decide⟩ ?_
      exact gw_iret dX12_cell_151 rfl hF
    · have hF := hF.2 q
      refine g_aload_n dX12_cell_138 rfl ?_
      refine g_getR dX12_cell_139 fd_X12_13 sh_208 rfl ?_
      refine g_bipush dX12_cell_142 ⟨by decide, by decide⟩ ?_
      refine g_iload_n dX12_cell_144 rfl ?_
      obtain ⟨hc, hF⟩ := hF
      refine g_iadd dX12_cell_145 hc ?_
      obtain ⟨hc, hF⟩ := hF
      refine g_iald dX12_cell_146 sh_209 hc.1 hc.2 ?_
      refine g_goto dX12_cell_147 rfl ?_
      exact gw_iret dX12_cell_151 rfl hF
  have q6 : v1 < 0 ∨ 3 < v1 := by omega
  have hF := hF.2.2.2.2 q6
  refine g_tsOut dX12_cell_6 q6 rfl ?_
  refine g_bipush dX12_cell_152 ⟨by decide, by decide⟩ ?_
  exact gw_iret dX12_cell_154 rfl hF
theorem dX12_command_0 : decode cX12_command 0 = .ok (.aload_n 0, 1) := by decide +kernel
theorem dX12_command_1 : decode cX12_command 1 = .ok (.iconst 0, 1) := by decide +kernel
theorem dX12_command_2 : decode cX12_command 2 = .ok (.putfield 1, 3) := by decide +kernel
theorem dX12_command_5 : decode cX12_command 5 = .ok (.aload_n 0, 1) := by decide +kernel
theorem dX12_command_6 : decode cX12_command 6 = .ok (.invokevirtual 193, 3) := by decide +kernel
theorem dX12_command_9 : decode cX12_command 9 = .ok (.aload_n 0, 1) := by decide +kernel
theorem dX12_command_10 : decode cX12_command 10 = .ok (.iload_n 1, 1) := by decide +kernel
theorem dX12_command_11 : decode cX12_command 11 = .ok (.invokevirtual 196, 3) := by decide +kernel
theorem dX12_command_14 : decode cX12_command 14 = .ok (.ifCond .eq 15, 3) := by decide +kernel
theorem dX12_command_17 : decode cX12_command 17 = .ok (.iload_n 2, 1) := by decide +kernel
theorem dX12_command_18 : decode cX12_command 18 = .ok (.i2l, 1) := by decide +kernel
theorem dX12_command_19 : decode cX12_command 19 = .ok (.lconst 0, 1) := by decide +kernel
theorem dX12_command_20 : decode cX12_command 20 = .ok (.ldc2_w 200, 3) := by decide +kernel
theorem dX12_command_23 : decode cX12_command 23 = .ok (.invokestatic 131, 3) := by decide +kernel
theorem dX12_command_26 : decode cX12_command 26 = .ok (.ifCond .ne 6, 3) := by decide +kernel
theorem dX12_command_29 : decode cX12_command 29 = .ok (.bipush (-2), 2) := by decide +kernel
theorem dX12_command_31 : decode cX12_command 31 = .ok (.ireturn, 1) := by decide +kernel
theorem dX12_command_32 : decode cX12_command 32 = .ok (.iload_n 2, 1) := by decide +kernel
theorem dX12_command_33 : decode cX12_command 33 = .ok (.tableswitch 59 0 3 #[31, 38, 45, 52], 31) := by decide +kernel
theorem dX12_command_64 : decode cX12_command 64 = .ok (.aload_n 0, 1) := by decide +kernel
theorem dX12_command_65 : decode cX12_command 65 = .ok (.getfield 36, 3) := by decide +kernel
theorem dX12_command_68 : decode cX12_command 68 = .ok (.iload_n 1, 1) := by decide +kernel
theorem dX12_command_69 : decode cX12_command 69 = .ok (.iaload, 1) := by decide +kernel
theorem dX12_command_70 : decode cX12_command 70 = .ok (.ireturn, 1) := by decide +kernel
theorem dX12_command_71 : decode cX12_command 71 = .ok (.aload_n 0, 1) := by decide +kernel
theorem dX12_command_72 : decode cX12_command 72 = .ok (.getfield 39, 3) := by decide +kernel
theorem dX12_command_75 : decode cX12_command 75 = .ok (.iload_n 1, 1) := by decide +kernel
theorem dX12_command_76 : decode cX12_command 76 = .ok (.iaload, 1) := by decide +kernel
theorem dX12_command_77 : decode cX12_command 77 = .ok (.ireturn, 1) := by decide +kernel
theorem dX12_command_78 : decode cX12_command 78 = .ok (.aload_n 0, 1) := by decide +kernel
theorem dX12_command_79 : decode cX12_command 79 = .ok (.getfield 42, 3) := by decide +kernel
theorem dX12_command_82 : decode cX12_command 82 = .ok (.iload_n 1, 1) := by decide +kernel
theorem dX12_command_83 : decode cX12_command 83 = .ok (.iaload, 1) := by decide +kernel
theorem dX12_command_84 : decode cX12_command 84 = .ok (.ireturn, 1) := by decide +kernel
theorem dX12_command_85 : decode cX12_command 85 = .ok (.aload_n 0, 1) := by decide +kernel
theorem dX12_command_86 : decode cX12_command 86 = .ok (.getfield 45, 3) := by decide +kernel
theorem dX12_command_89 : decode cX12_command 89 = .ok (.iload_n 1, 1) := by decide +kernel
theorem dX12_command_90 : decode cX12_command 90 = .ok (.iaload, 1) := by decide +kernel
theorem dX12_command_91 : decode cX12_command 91 = .ok (.ireturn, 1) := by decide +kernel
theorem dX12_command_92 : decode cX12_command 92 = .ok (.aload_n 0, 1) := by decide +kernel
theorem dX12_command_93 : decode cX12_command 93 = .ok (.invokevirtual 202, 3) := by decide +kernel
theorem dX12_command_96 : decode cX12_command 96 = .ok (.aload_n 0, 1) := by decide +kernel
theorem dX12_command_97 : decode cX12_command 97 = .ok (.getfield 63, 3) := by decide +kernel
theorem dX12_command_100 : decode cX12_command 100 = .ok (.iload_n 1, 1) := by decide +kernel
theorem dX12_command_101 : decode cX12_command 101 = .ok (.baload, 1) := by decide +kernel
theorem dX12_command_102 : decode cX12_command 102 = .ok (.ifCond .eq 7, 3) := by decide +kernel
theorem dX12_command_105 : decode cX12_command 105 = .ok (.iconst 1, 1) := by decide +kernel
theorem dX12_command_106 : decode cX12_command 106 = .ok (.goto 17, 3) := by decide +kernel
theorem dX12_command_109 : decode cX12_command 109 = .ok (.aload_n 0, 1) := by decide +kernel
theorem dX12_command_110 : decode cX12_command 110 = .ok (.getfield 66, 3) := by decide +kernel
theorem dX12_command_113 : decode cX12_command 113 = .ok (.iload_n 1, 1) := by decide +kernel
theorem dX12_command_114 : decode cX12_command 114 = .ok (.baload, 1) := by decide +kernel
theorem dX12_command_115 : decode cX12_command 115 = .ok (.ifCond .eq 7, 3) := by decide +kernel
theorem dX12_command_118 : decode cX12_command 118 = .ok (.iconst 2, 1) := by decide +kernel
theorem dX12_command_119 : decode cX12_command 119 = .ok (.goto 4, 3) := by decide +kernel
theorem dX12_command_122 : decode cX12_command 122 = .ok (.iconst 0, 1) := by decide +kernel
theorem dX12_command_123 : decode cX12_command 123 = .ok (.ireturn, 1) := by decide +kernel
abbrev k_X12_command (E : g_E) (l : Launch) (D : g_D) (v1 : Int) (v2 : Int) (K : Int → g_D → Prop) : Prop := g_Ki E l m_X12_command 4 [g_R 208, g_I v1, g_I v2] g_SH D K
abbrev n_X12_command (E : g_E) (l : Launch) (D : g_D) (pc : Nat) (L : List (Option g_V)) (K : Int → g_D → Prop) : Prop := g_N E l m_X12_command 4 pc L [] g_SH D (g_Ri g_SH K)
theorem s_X12_command {E : g_E} {l : Launch} {D : g_D} {K : Int → g_D → Prop} {v1 : Int} {v2 : Int}  (hF : g_okD D → g_r v1 → g_r v2 → ∀ D1, D1 = g_up D 208 0 0 → (k_X12_laysCommands E l D1 (fun D2 => k_X12_isCommand E l D2 v1 (fun x3 D3 => g_r x3 → (x3 = 0 → K (-2) D3) ∧ (¬ x3 = 0 → k_X12_within E l g_SH D3 v2 0 4 (fun x4 D4 => g_r x4 → (¬ x4 = 0 → (v2 = 0 → (0 ≤ v1 ∧ v1 < 40) ∧ (K (D4 216 v1.toNat) D4)) ∧ (v2 = 1 → (0 ≤ v1 ∧ v1 < 40) ∧ (K (D4 217 v1.toNat) D4)) ∧ (v2 = 2 → (0 ≤ v1 ∧ v1 < 40) ∧ (K (D4 218 v1.toNat) D4)) ∧ (v2 = 3 → (0 ≤ v1 ∧ v1 < 40) ∧ (K (D4 219 v1.toNat) D4)) ∧ ((v2 < 0 ∨ 3 < v2) → k_X12_laysPlan E l D4 (fun D5 => (0 ≤ v1 ∧ v1 < 40) ∧ (((D5 225 v1.toNat) = 0 → (0 ≤ v1 ∧ v1 < 40) ∧ (((D5 226 v1.toNat) = 0 → K 0 D5) ∧ (¬ (D5 226 v1.toNat) = 0 → K 2 D5))) ∧ (¬ (D5 225 v1.toNat) = 0 → K 1 D5))))) ∧ (x4 = 0 → K (-2) D4))))))) : k_X12_command E l D v1 v2 K := by
  refine g_enter (by decide) (Nat.le_of_ble_eq_true rfl) ?_
  show g_N E l m_X12_command 4 0 [some (g_R 208), some (g_I v1), some (g_I v2)] [] g_SH D (g_Ri g_SH K)
  refine g_use (fun ok => ?_)
  have hF := hF ok.2.1 (ok.loc (i := 1) rfl) (ok.loc (i := 2) rfl)
  refine g_aload_n dX12_command_0 rfl ?_
  refine g_iconst dX12_command_1 ⟨by decide, by decide⟩ ?_
  let D1 : g_D := g_up D 208 0 0
  have hF := hF D1 rfl
  refine g_put dX12_command_2 fd_X12_1 (g_ftyI (C := RX12) (T := TX12) (N := 51) rfl rfl (by decide +kernel)) sh_208 rfl ?_
  refine g_aload_n dX12_command_5 rfl ?_
  refine gw_cVv (b := 208) (As := []) (rest := []) dX12_command_6 mv_X12_193 sh_208 rfl (Nat.le_of_ble_eq_true rfl) (by decide) rfl hF ?_
  intro D2 hF
  refine g_aload_n dX12_command_9 rfl ?_
  refine g_iload_n dX12_command_10 rfl ?_
  refine gw_cVi (b := 208) (As := [g_I v1]) (rest := []) dX12_command_11 mv_X12_196 sh_208 rfl (Nat.le_of_ble_eq_true rfl) (by decide) rfl hF ?_
  intro x3 D3 hx3 hF
  have hF := hF hx3
  refine g_ifeq dX12_command_14 rfl (fun q => ?_) (fun q => ?_)
  · have hF := hF.1 q
    refine g_bipush dX12_command_29 ⟨by decide, by decide⟩ ?_
    exact gw_iret dX12_command_31 rfl hF
  · have hF := hF.2 q
    refine g_iload_n dX12_command_17 rfl ?_
    refine g_i2l dX12_command_18 ?_
    refine g_lconst dX12_command_19 ?_
    refine g_ldc2 dX12_command_20 ⟨by decide, by decide⟩ kl_X12_200 ?_
    refine gw_cSi (As := [g_J v2, g_J 0, g_J 4]) (rest := []) dX12_command_23 ms_X12_131 rfl (Nat.le_of_ble_eq_true rfl) (by decide) rfl hF ?_
    intro x4 D4 hx4 hF
    have hF := hF hx4
    refine g_ifne dX12_command_26 rfl (fun q => ?_) (fun q => ?_)
    · have hF := hF.1 q
      refine g_iload_n dX12_command_32 rfl ?_
      rcases Decidable.em (v2 = 0) with q33_0 | q33_0
      · have hF := hF.1 q33_0
        refine g_tsIn dX12_command_33 (by omega) (by omega) (by rw [q33_0] <;> rfl) rfl ?_
        refine g_aload_n dX12_command_64 rfl ?_
        refine g_getR dX12_command_65 fd_X12_36 sh_208 rfl ?_
        refine g_iload_n dX12_command_68 rfl ?_
        obtain ⟨hc, hF⟩ := hF
        refine g_iald dX12_command_69 sh_216 hc.1 hc.2 ?_
        exact gw_iret dX12_command_70 rfl hF
      rcases Decidable.em (v2 = 1) with q33_1 | q33_1
      · have hF := hF.2.1 q33_1
        refine g_tsIn dX12_command_33 (by omega) (by omega) (by rw [q33_1] <;> rfl) rfl ?_
        refine g_aload_n dX12_command_71 rfl ?_
        refine g_getR dX12_command_72 fd_X12_39 sh_208 rfl ?_
        refine g_iload_n dX12_command_75 rfl ?_
        obtain ⟨hc, hF⟩ := hF
        refine g_iald dX12_command_76 sh_217 hc.1 hc.2 ?_
        exact gw_iret dX12_command_77 rfl hF
      rcases Decidable.em (v2 = 2) with q33_2 | q33_2
      · have hF := hF.2.2.1 q33_2
        refine g_tsIn dX12_command_33 (by omega) (by omega) (by rw [q33_2] <;> rfl) rfl ?_
        refine g_aload_n dX12_command_78 rfl ?_
        refine g_getR dX12_command_79 fd_X12_42 sh_208 rfl ?_
        refine g_iload_n dX12_command_82 rfl ?_
        obtain ⟨hc, hF⟩ := hF
        refine g_iald dX12_command_83 sh_218 hc.1 hc.2 ?_
        exact gw_iret dX12_command_84 rfl hF
      rcases Decidable.em (v2 = 3) with q33_3 | q33_3
      · have hF := hF.2.2.2.1 q33_3
        refine g_tsIn dX12_command_33 (by omega) (by omega) (by rw [q33_3] <;> rfl) rfl ?_
        refine g_aload_n dX12_command_85 rfl ?_
        refine g_getR dX12_command_86 fd_X12_45 sh_208 rfl ?_
        refine g_iload_n dX12_command_89 rfl ?_
        obtain ⟨hc, hF⟩ := hF
        refine g_iald dX12_command_90 sh_219 hc.1 hc.2 ?_
        exact gw_iret dX12_command_91 rfl hF
      have q33 : v2 < 0 ∨ 3 < v2 := by omega
      have hF := hF.2.2.2.2 q33
      refine g_tsOut dX12_command_33 q33 rfl ?_
      refine g_aload_n dX12_command_92 rfl ?_
      refine gw_cVv (b := 208) (As := []) (rest := []) dX12_command_93 mv_X12_202 sh_208 rfl (Nat.le_of_ble_eq_true rfl) (by decide) rfl hF ?_
      intro D5 hF
      refine g_aload_n dX12_command_96 rfl ?_
      refine g_getR dX12_command_97 fd_X12_63 sh_208 rfl ?_
      refine g_iload_n dX12_command_100 rfl ?_
      obtain ⟨hc, hF⟩ := hF
      refine g_bald dX12_command_101 sh_225 hc.1 hc.2 ?_
      refine g_ifeq dX12_command_102 rfl (fun q => ?_) (fun q => ?_)
      · have hF := hF.1 q
        refine g_aload_n dX12_command_109 rfl ?_
        refine g_getR dX12_command_110 fd_X12_66 sh_208 rfl ?_
        refine g_iload_n dX12_command_113 rfl ?_
        obtain ⟨hc, hF⟩ := hF
        refine g_bald dX12_command_114 sh_226 hc.1 hc.2 ?_
        refine g_ifeq dX12_command_115 rfl (fun q => ?_) (fun q => ?_)
        · have hF := hF.1 q
          refine g_iconst dX12_command_122 ⟨by decide, by decide⟩ ?_
          exact gw_iret dX12_command_123 rfl hF
        · have hF := hF.2 q
          refine g_iconst dX12_command_118 ⟨by decide, by decide⟩ ?_
          refine g_goto dX12_command_119 rfl ?_
          exact gw_iret dX12_command_123 rfl hF
      · have hF := hF.2 q
        refine g_iconst dX12_command_105 ⟨by decide, by decide⟩ ?_
        refine g_goto dX12_command_106 rfl ?_
        exact gw_iret dX12_command_123 rfl hF
    · have hF := hF.2 q
      refine g_bipush dX12_command_29 ⟨by decide, by decide⟩ ?_
      exact gw_iret dX12_command_31 rfl hF
theorem dX12_commands_0 : decode cX12_commands 0 = .ok (.aload_n 0, 1) := by decide +kernel
theorem dX12_commands_1 : decode cX12_commands 1 = .ok (.iconst 0, 1) := by decide +kernel
theorem dX12_commands_2 : decode cX12_commands 2 = .ok (.putfield 1, 3) := by decide +kernel
theorem dX12_commands_5 : decode cX12_commands 5 = .ok (.aload_n 0, 1) := by decide +kernel
theorem dX12_commands_6 : decode cX12_commands 6 = .ok (.invokevirtual 193, 3) := by decide +kernel
theorem dX12_commands_9 : decode cX12_commands 9 = .ok (.aload_n 0, 1) := by decide +kernel
theorem dX12_commands_10 : decode cX12_commands 10 = .ok (.getfield 182, 3) := by decide +kernel
theorem dX12_commands_13 : decode cX12_commands 13 = .ok (.ireturn, 1) := by decide +kernel
abbrev k_X12_commands (E : g_E) (l : Launch) (D : g_D) (K : Int → g_D → Prop) : Prop := g_Ki E l m_X12_commands 4 [g_R 208] g_SH D K
abbrev n_X12_commands (E : g_E) (l : Launch) (D : g_D) (pc : Nat) (L : List (Option g_V)) (K : Int → g_D → Prop) : Prop := g_N E l m_X12_commands 4 pc L [] g_SH D (g_Ri g_SH K)
theorem s_X12_commands {E : g_E} {l : Launch} {D : g_D} {K : Int → g_D → Prop}   (hF : g_okD D → ∀ D1, D1 = g_up D 208 0 0 → (k_X12_laysCommands E l D1 (fun D2 => K (D2 208 14) D2))) : k_X12_commands E l D K := by
  refine g_enter (by decide) (Nat.le_of_ble_eq_true rfl) ?_
  show g_N E l m_X12_commands 4 0 [some (g_R 208)] [] g_SH D (g_Ri g_SH K)
  refine g_use (fun ok => ?_)
  have hF := hF ok.2.1
  refine g_aload_n dX12_commands_0 rfl ?_
  refine g_iconst dX12_commands_1 ⟨by decide, by decide⟩ ?_
  let D1 : g_D := g_up D 208 0 0
  have hF := hF D1 rfl
  refine g_put dX12_commands_2 fd_X12_1 (g_ftyI (C := RX12) (T := TX12) (N := 51) rfl rfl (by decide +kernel)) sh_208 rfl ?_
  refine g_aload_n dX12_commands_5 rfl ?_
  refine gw_cVv (b := 208) (As := []) (rest := []) dX12_commands_6 mv_X12_193 sh_208 rfl (Nat.le_of_ble_eq_true rfl) (by decide) rfl hF ?_
  intro D2 hF
  refine g_aload_n dX12_commands_9 rfl ?_
  refine g_getI dX12_commands_10 fd_X12_182 sh_208 rfl ?_
  exact gw_iret dX12_commands_13 rfl hF
theorem dX12_common_0 : decode cX12_common 0 = .ok (.iconst 0, 1) := by decide +kernel
theorem dX12_common_1 : decode cX12_common 1 = .ok (.istore_n 3, 1) := by decide +kernel
theorem dX12_common_2 : decode cX12_common 2 = .ok (.iload_n 1, 1) := by decide +kernel
theorem dX12_common_3 : decode cX12_common 3 = .ok (.iload_n 3, 1) := by decide +kernel
theorem dX12_common_4 : decode cX12_common 4 = .ok (.iadd, 1) := by decide +kernel
theorem dX12_common_5 : decode cX12_common 5 = .ok (.aload_n 0, 1) := by decide +kernel
theorem dX12_common_6 : decode cX12_common 6 = .ok (.getfield 13, 3) := by decide +kernel
theorem dX12_common_9 : decode cX12_common 9 = .ok (.iconst 0, 1) := by decide +kernel
theorem dX12_common_10 : decode cX12_common 10 = .ok (.iaload, 1) := by decide +kernel
theorem dX12_common_11 : decode cX12_common 11 = .ok (.if_icmp .ge 46, 3) := by decide +kernel
theorem dX12_common_14 : decode cX12_common 14 = .ok (.iload_n 2, 1) := by decide +kernel
theorem dX12_common_15 : decode cX12_common 15 = .ok (.iload_n 3, 1) := by decide +kernel
theorem dX12_common_16 : decode cX12_common 16 = .ok (.iadd, 1) := by decide +kernel
theorem dX12_common_17 : decode cX12_common 17 = .ok (.aload_n 0, 1) := by decide +kernel
theorem dX12_common_18 : decode cX12_common 18 = .ok (.getfield 13, 3) := by decide +kernel
theorem dX12_common_21 : decode cX12_common 21 = .ok (.iconst 0, 1) := by decide +kernel
theorem dX12_common_22 : decode cX12_common 22 = .ok (.iaload, 1) := by decide +kernel
theorem dX12_common_23 : decode cX12_common 23 = .ok (.if_icmp .ge 34, 3) := by decide +kernel
theorem dX12_common_26 : decode cX12_common 26 = .ok (.aload_n 0, 1) := by decide +kernel
theorem dX12_common_27 : decode cX12_common 27 = .ok (.getfield 13, 3) := by decide +kernel
theorem dX12_common_30 : decode cX12_common 30 = .ok (.bipush 6, 2) := by decide +kernel
theorem dX12_common_32 : decode cX12_common 32 = .ok (.iload_n 1, 1) := by decide +kernel
theorem dX12_common_33 : decode cX12_common 33 = .ok (.iadd, 1) := by decide +kernel
theorem dX12_common_34 : decode cX12_common 34 = .ok (.iload_n 3, 1) := by decide +kernel
theorem dX12_common_35 : decode cX12_common 35 = .ok (.iadd, 1) := by decide +kernel
theorem dX12_common_36 : decode cX12_common 36 = .ok (.iaload, 1) := by decide +kernel
theorem dX12_common_37 : decode cX12_common 37 = .ok (.aload_n 0, 1) := by decide +kernel
theorem dX12_common_38 : decode cX12_common 38 = .ok (.getfield 13, 3) := by decide +kernel
theorem dX12_common_41 : decode cX12_common 41 = .ok (.bipush 6, 2) := by decide +kernel
theorem dX12_common_43 : decode cX12_common 43 = .ok (.iload_n 2, 1) := by decide +kernel
theorem dX12_common_44 : decode cX12_common 44 = .ok (.iadd, 1) := by decide +kernel
theorem dX12_common_45 : decode cX12_common 45 = .ok (.iload_n 3, 1) := by decide +kernel
theorem dX12_common_46 : decode cX12_common 46 = .ok (.iadd, 1) := by decide +kernel
theorem dX12_common_47 : decode cX12_common 47 = .ok (.iaload, 1) := by decide +kernel
theorem dX12_common_48 : decode cX12_common 48 = .ok (.if_icmp .ne 9, 3) := by decide +kernel
theorem dX12_common_51 : decode cX12_common 51 = .ok (.iinc 3 1, 3) := by decide +kernel
theorem dX12_common_54 : decode cX12_common 54 = .ok (.goto (-52), 3) := by decide +kernel
theorem dX12_common_57 : decode cX12_common 57 = .ok (.iload_n 3, 1) := by decide +kernel
theorem dX12_common_58 : decode cX12_common 58 = .ok (.ireturn, 1) := by decide +kernel
abbrev k_X12_common (E : g_E) (l : Launch) (D : g_D) (v1 : Int) (v2 : Int) (K : Int → g_D → Prop) : Prop := g_Ki E l m_X12_common 0 [g_R 208, g_I v1, g_I v2] g_SH D K
abbrev n_X12_common (E : g_E) (l : Launch) (D : g_D) (pc : Nat) (L : List (Option g_V)) (K : Int → g_D → Prop) : Prop := g_N E l m_X12_common 0 pc L [] g_SH D (g_Ri g_SH K)
theorem s_X12_common {E : g_E} {l : Launch} {D : g_D} {K : Int → g_D → Prop} {v1 : Int} {v2 : Int}  (hF : g_okD D → g_r v1 → g_r v2 → n_X12_common E l D 2 [some (g_R 208), some (g_I v1), some (g_I v2), some (g_I 0)] K) : k_X12_common E l D v1 v2 K := by
  refine g_enter (by decide) (Nat.le_of_ble_eq_true rfl) ?_
  show g_N E l m_X12_common 0 0 [some (g_R 208), some (g_I v1), some (g_I v2), none] [] g_SH D (g_Ri g_SH K)
  refine g_use (fun ok => ?_)
  have hF := hF ok.2.1 (ok.loc (i := 1) rfl) (ok.loc (i := 2) rfl)
  refine g_iconst dX12_common_0 ⟨by decide, by decide⟩ ?_
  refine gw_istore_n (L' := [some (g_R 208), some (g_I v1), some (g_I v2), some (g_I 0)]) dX12_common_1 (by decide) rfl ?_
  exact hF
theorem s_X12_common_2 {E : g_E} {l : Launch} {D : g_D} {K : Int → g_D → Prop} {v1 : Int} {v2 : Int} {v3 : Int}  (hF : g_okD D → g_r v1 → g_r v2 → g_r v3 → (g_r (v1 + v3)) ∧ (((D 209 0) ≤ (v1 + v3) → K v3 D) ∧ (¬ (D 209 0) ≤ (v1 + v3) → (g_r (v2 + v3)) ∧ (((D 209 0) ≤ (v2 + v3) → K v3 D) ∧ (¬ (D 209 0) ≤ (v2 + v3) → (g_r (6 + v1)) ∧ ((g_r ((6 + v1) + v3)) ∧ ((0 ≤ ((6 + v1) + v3) ∧ ((6 + v1) + v3) < 1557) ∧ ((g_r (6 + v2)) ∧ ((g_r ((6 + v2) + v3)) ∧ ((0 ≤ ((6 + v2) + v3) ∧ ((6 + v2) + v3) < 1557) ∧ ((¬ (D 209 ((6 + v1) + v3).toNat) = (D 209 ((6 + v2) + v3).toNat) → K v3 D) ∧ ((D 209 ((6 + v1) + v3).toNat) = (D 209 ((6 + v2) + v3).toNat) → (g_r (v3 + 1)) ∧ (n_X12_common E l D 2 [some (g_R 208), some (g_I v1), some (g_I v2), some (g_I (v3 + 1))] K))))))))))))) : n_X12_common E l D 2 [some (g_R 208), some (g_I v1), some (g_I v2), some (g_I v3)] K := by
  refine g_use (fun ok => ?_)
  have hF := hF ok.2.1 (ok.loc (i := 1) rfl) (ok.loc (i := 2) rfl) (ok.loc (i := 3) rfl)
  refine g_iload_n dX12_common_2 rfl ?_
  refine g_iload_n dX12_common_3 rfl ?_
  obtain ⟨hc, hF⟩ := hF
  refine g_iadd dX12_common_4 hc ?_
  refine g_aload_n dX12_common_5 rfl ?_
  refine g_getR dX12_common_6 fd_X12_13 sh_208 rfl ?_
  refine g_iconst dX12_common_9 ⟨by decide, by decide⟩ ?_
  refine g_iald dX12_common_10 sh_209 (by decide) (by decide) ?_
  refine g_cge dX12_common_11 rfl (fun q => ?_) (fun q => ?_)
  · have hF := hF.1 q
    refine g_iload_n dX12_common_57 rfl ?_
    exact gw_iret dX12_common_58 rfl hF
  · have hF := hF.2 q
    refine g_iload_n dX12_common_14 rfl ?_
    refine g_iload_n dX12_common_15 rfl ?_
    obtain ⟨hc, hF⟩ := hF
    refine g_iadd dX12_common_16 hc ?_
    refine g_aload_n dX12_common_17 rfl ?_
    refine g_getR dX12_common_18 fd_X12_13 sh_208 rfl ?_
    refine g_iconst dX12_common_21 ⟨by decide, by decide⟩ ?_
    refine g_iald dX12_common_22 sh_209 (by decide) (by decide) ?_
    refine g_cge dX12_common_23 rfl (fun q => ?_) (fun q => ?_)
    · have hF := hF.1 q
      refine g_iload_n dX12_common_57 rfl ?_
      exact gw_iret dX12_common_58 rfl hF
    · have hF := hF.2 q
      refine g_aload_n dX12_common_26 rfl ?_
      refine g_getR dX12_common_27 fd_X12_13 sh_208 rfl ?_
      refine g_bipush dX12_common_30 ⟨by decide, by decide⟩ ?_
      refine g_iload_n dX12_common_32 rfl ?_
      obtain ⟨hc, hF⟩ := hF
      refine g_iadd dX12_common_33 hc ?_
      refine g_iload_n dX12_common_34 rfl ?_
      obtain ⟨hc, hF⟩ := hF
      refine g_iadd dX12_common_35 hc ?_
      obtain ⟨hc, hF⟩ := hF
      refine g_iald dX12_common_36 sh_209 hc.1 hc.2 ?_
      refine g_aload_n dX12_common_37 rfl ?_
      refine g_getR dX12_common_38 fd_X12_13 sh_208 rfl ?_
      refine g_bipush dX12_common_41 ⟨by decide, by decide⟩ ?_
      refine g_iload_n dX12_common_43 rfl ?_
      obtain ⟨hc, hF⟩ := hF
      refine g_iadd dX12_common_44 hc ?_
      refine g_iload_n dX12_common_45 rfl ?_
      obtain ⟨hc, hF⟩ := hF
      refine g_iadd dX12_common_46 hc ?_
      obtain ⟨hc, hF⟩ := hF
      refine g_iald dX12_common_47 sh_209 hc.1 hc.2 ?_
      refine g_cne dX12_common_48 rfl (fun q => ?_) (fun q => ?_)
      · have hF := hF.1 q
        refine g_iload_n dX12_common_57 rfl ?_
        exact gw_iret dX12_common_58 rfl hF
      · have hF := hF.2 q
        obtain ⟨hc, hF⟩ := hF
        refine gw_iinc (L' := [some (g_R 208), some (g_I v1), some (g_I v2), some (g_I (v3 + 1))]) dX12_common_51 rfl hc (by decide) rfl ?_
        refine g_goto dX12_common_54 rfl ?_
        exact hF
theorem dX12_common1_0 : decode cX12_common1 0 = .ok (.iload_n 1, 1) := by decide +kernel
theorem dX12_common1_1 : decode cX12_common1 1 = .ok (.ifCond .ne 7, 3) := by decide +kernel
theorem dX12_common1_4 : decode cX12_common1 4 = .ok (.iload_n 0, 1) := by decide +kernel
theorem dX12_common1_5 : decode cX12_common1 5 = .ok (.goto 10, 3) := by decide +kernel
theorem dX12_common1_8 : decode cX12_common1 8 = .ok (.iload_n 1, 1) := by decide +kernel
theorem dX12_common1_9 : decode cX12_common1 9 = .ok (.iload_n 0, 1) := by decide +kernel
theorem dX12_common1_10 : decode cX12_common1 10 = .ok (.iload_n 1, 1) := by decide +kernel
theorem dX12_common1_11 : decode cX12_common1 11 = .ok (.irem, 1) := by decide +kernel
theorem dX12_common1_12 : decode cX12_common1 12 = .ok (.invokestatic 437, 3) := by decide +kernel
theorem dX12_common1_15 : decode cX12_common1 15 = .ok (.ireturn, 1) := by decide +kernel
abbrev k_X12_common1 (E : g_E) (l : Launch) (sh : List g_Sh) (D : g_D) (d : Nat) (v0 : Int) (v1 : Int) (K : Int → g_D → Prop) : Prop := g_Ki E l m_X12_common1 d [g_I v0, g_I v1] sh D K
theorem s_X12_common1 {E : g_E} {l : Launch} {sh : List g_Sh} {D : g_D} {d : Nat} {K : Int → g_D → Prop} {v0 : Int} {v1 : Int}  (hF : g_okD D → g_r v0 → g_r v1 → (¬ v1 = 0 → (0 ≤ v0 ∧ 0 < v1) ∧ (k_X12_common1 E l sh D d v1 (v0 % v1) (fun x1 D1 => g_r x1 → K x1 D1))) ∧ (v1 = 0 → K v0 D)) : k_X12_common1 E l sh D (d + 1) v0 v1 K := by
  refine g_enter (by decide) (Nat.le_of_ble_eq_true rfl) ?_
  show g_N E l m_X12_common1 (d + 1) 0 [some (g_I v0), some (g_I v1)] [] sh D (g_Ri sh K)
  refine g_use (fun ok => ?_)
  have hF := hF ok.2.1 (ok.loc (i := 0) rfl) (ok.loc (i := 1) rfl)
  refine g_iload_n dX12_common1_0 rfl ?_
  refine g_ifne dX12_common1_1 rfl (fun q => ?_) (fun q => ?_)
  · have hF := hF.1 q
    refine g_iload_n dX12_common1_8 rfl ?_
    refine g_iload_n dX12_common1_9 rfl ?_
    refine g_iload_n dX12_common1_10 rfl ?_
    obtain ⟨hc, hF⟩ := hF
    refine g_irem dX12_common1_11 hc.1 hc.2 ?_
    refine gw_cSi (As := [g_I v1, g_I (v0 % v1)]) (rest := []) dX12_common1_12 ms_X12_437 rfl (Nat.le_of_ble_eq_true rfl) (Nat.le_refl _) rfl hF ?_
    intro x1 D1 hx1 hF
    have hF := hF hx1
    exact gw_iret dX12_common1_15 rfl hF
  · have hF := hF.2 q
    refine g_iload_n dX12_common1_4 rfl ?_
    refine g_goto dX12_common1_5 rfl ?_
    exact gw_iret dX12_common1_15 rfl hF
theorem dX12_count_0 : decode cX12_count 0 = .ok (.aload_n 0, 1) := by decide +kernel
theorem dX12_count_1 : decode cX12_count 1 = .ok (.iconst 0, 1) := by decide +kernel
theorem dX12_count_2 : decode cX12_count 2 = .ok (.putfield 1, 3) := by decide +kernel
theorem dX12_count_5 : decode cX12_count 5 = .ok (.iload_n 1, 1) := by decide +kernel
theorem dX12_count_6 : decode cX12_count 6 = .ok (.tableswitch 154 0 11 #[62, 69, 76, 83, 90, 97, 104, 113, 122, 131, 140, 149], 62) := by decide +kernel
theorem dX12_count_68 : decode cX12_count 68 = .ok (.aload_n 0, 1) := by decide +kernel
theorem dX12_count_69 : decode cX12_count 69 = .ok (.getfield 13, 3) := by decide +kernel
theorem dX12_count_72 : decode cX12_count 72 = .ok (.iconst 0, 1) := by decide +kernel
theorem dX12_count_73 : decode cX12_count 73 = .ok (.iaload, 1) := by decide +kernel
theorem dX12_count_74 : decode cX12_count 74 = .ok (.ireturn, 1) := by decide +kernel
theorem dX12_count_75 : decode cX12_count 75 = .ok (.aload_n 0, 1) := by decide +kernel
theorem dX12_count_76 : decode cX12_count 76 = .ok (.getfield 13, 3) := by decide +kernel
theorem dX12_count_79 : decode cX12_count 79 = .ok (.iconst 1, 1) := by decide +kernel
theorem dX12_count_80 : decode cX12_count 80 = .ok (.iaload, 1) := by decide +kernel
theorem dX12_count_81 : decode cX12_count 81 = .ok (.ireturn, 1) := by decide +kernel
theorem dX12_count_82 : decode cX12_count 82 = .ok (.aload_n 0, 1) := by decide +kernel
theorem dX12_count_83 : decode cX12_count 83 = .ok (.getfield 13, 3) := by decide +kernel
theorem dX12_count_86 : decode cX12_count 86 = .ok (.iconst 2, 1) := by decide +kernel
theorem dX12_count_87 : decode cX12_count 87 = .ok (.iaload, 1) := by decide +kernel
theorem dX12_count_88 : decode cX12_count 88 = .ok (.ireturn, 1) := by decide +kernel
theorem dX12_count_89 : decode cX12_count 89 = .ok (.aload_n 0, 1) := by decide +kernel
theorem dX12_count_90 : decode cX12_count 90 = .ok (.getfield 13, 3) := by decide +kernel
theorem dX12_count_93 : decode cX12_count 93 = .ok (.iconst 3, 1) := by decide +kernel
theorem dX12_count_94 : decode cX12_count 94 = .ok (.iaload, 1) := by decide +kernel
theorem dX12_count_95 : decode cX12_count 95 = .ok (.ireturn, 1) := by decide +kernel
theorem dX12_count_96 : decode cX12_count 96 = .ok (.aload_n 0, 1) := by decide +kernel
theorem dX12_count_97 : decode cX12_count 97 = .ok (.getfield 13, 3) := by decide +kernel
theorem dX12_count_100 : decode cX12_count 100 = .ok (.iconst 4, 1) := by decide +kernel
theorem dX12_count_101 : decode cX12_count 101 = .ok (.iaload, 1) := by decide +kernel
theorem dX12_count_102 : decode cX12_count 102 = .ok (.ireturn, 1) := by decide +kernel
theorem dX12_count_103 : decode cX12_count 103 = .ok (.aload_n 0, 1) := by decide +kernel
theorem dX12_count_104 : decode cX12_count 104 = .ok (.getfield 13, 3) := by decide +kernel
theorem dX12_count_107 : decode cX12_count 107 = .ok (.iconst 5, 1) := by decide +kernel
theorem dX12_count_108 : decode cX12_count 108 = .ok (.iaload, 1) := by decide +kernel
theorem dX12_count_109 : decode cX12_count 109 = .ok (.ireturn, 1) := by decide +kernel
theorem dX12_count_110 : decode cX12_count 110 = .ok (.aload_n 0, 1) := by decide +kernel
theorem dX12_count_111 : decode cX12_count 111 = .ok (.getfield 13, 3) := by decide +kernel
theorem dX12_count_114 : decode cX12_count 114 = .ok (.sipush 213, 3) := by decide +kernel
theorem dX12_count_117 : decode cX12_count 117 = .ok (.iaload, 1) := by decide +kernel
theorem dX12_count_118 : decode cX12_count 118 = .ok (.ireturn, 1) := by decide +kernel
theorem dX12_count_119 : decode cX12_count 119 = .ok (.aload_n 0, 1) := by decide +kernel
theorem dX12_count_120 : decode cX12_count 120 = .ok (.getfield 13, 3) := by decide +kernel
theorem dX12_count_123 : decode cX12_count 123 = .ok (.sipush 147, 3) := by decide +kernel
theorem dX12_count_126 : decode cX12_count 126 = .ok (.iaload, 1) := by decide +kernel
theorem dX12_count_127 : decode cX12_count 127 = .ok (.ireturn, 1) := by decide +kernel
theorem dX12_count_128 : decode cX12_count 128 = .ok (.aload_n 0, 1) := by decide +kernel
theorem dX12_count_129 : decode cX12_count 129 = .ok (.getfield 13, 3) := by decide +kernel
theorem dX12_count_132 : decode cX12_count 132 = .ok (.sipush 146, 3) := by decide +kernel
theorem dX12_count_135 : decode cX12_count 135 = .ok (.iaload, 1) := by decide +kernel
theorem dX12_count_136 : decode cX12_count 136 = .ok (.ireturn, 1) := by decide +kernel
theorem dX12_count_137 : decode cX12_count 137 = .ok (.aload_n 0, 1) := by decide +kernel
theorem dX12_count_138 : decode cX12_count 138 = .ok (.getfield 13, 3) := by decide +kernel
theorem dX12_count_141 : decode cX12_count 141 = .ok (.sipush 148, 3) := by decide +kernel
theorem dX12_count_144 : decode cX12_count 144 = .ok (.iaload, 1) := by decide +kernel
theorem dX12_count_145 : decode cX12_count 145 = .ok (.ireturn, 1) := by decide +kernel
theorem dX12_count_146 : decode cX12_count 146 = .ok (.aload_n 0, 1) := by decide +kernel
theorem dX12_count_147 : decode cX12_count 147 = .ok (.getfield 13, 3) := by decide +kernel
theorem dX12_count_150 : decode cX12_count 150 = .ok (.sipush 518, 3) := by decide +kernel
theorem dX12_count_153 : decode cX12_count 153 = .ok (.iaload, 1) := by decide +kernel
theorem dX12_count_154 : decode cX12_count 154 = .ok (.ireturn, 1) := by decide +kernel
theorem dX12_count_155 : decode cX12_count 155 = .ok (.aload_n 0, 1) := by decide +kernel
theorem dX12_count_156 : decode cX12_count 156 = .ok (.getfield 126, 3) := by decide +kernel
theorem dX12_count_159 : decode cX12_count 159 = .ok (.ireturn, 1) := by decide +kernel
theorem dX12_count_160 : decode cX12_count 160 = .ok (.iconst (-1), 1) := by decide +kernel
theorem dX12_count_161 : decode cX12_count 161 = .ok (.ireturn, 1) := by decide +kernel
abbrev k_X12_count (E : g_E) (l : Launch) (D : g_D) (v1 : Int) (K : Int → g_D → Prop) : Prop := g_Ki E l m_X12_count 0 [g_R 208, g_I v1] g_SH D K
abbrev n_X12_count (E : g_E) (l : Launch) (D : g_D) (pc : Nat) (L : List (Option g_V)) (K : Int → g_D → Prop) : Prop := g_N E l m_X12_count 0 pc L [] g_SH D (g_Ri g_SH K)
theorem s_X12_count {E : g_E} {l : Launch} {D : g_D} {K : Int → g_D → Prop} {v1 : Int}  (hF : g_okD D → g_r v1 → ∀ D1, D1 = g_up D 208 0 0 → ((v1 = 0 → K (D 209 0) D1) ∧ (v1 = 1 → K (D 209 1) D1) ∧ (v1 = 2 → K (D 209 2) D1) ∧ (v1 = 3 → K (D 209 3) D1) ∧ (v1 = 4 → K (D 209 4) D1) ∧ (v1 = 5 → K (D 209 5) D1) ∧ (v1 = 6 → K (D 209 213) D1) ∧ (v1 = 7 → K (D 209 147) D1) ∧ (v1 = 8 → K (D 209 146) D1) ∧ (v1 = 9 → K (D 209 148) D1) ∧ (v1 = 10 → K (D 209 518) D1) ∧ (v1 = 11 → K (D 208 5) D1) ∧ ((v1 < 0 ∨ 11 < v1) → K (-1) D1))) : k_X12_count E l D v1 K := by
  refine g_enter (by decide) (Nat.le_of_ble_eq_true rfl) ?_
  show g_N E l m_X12_count 0 0 [some (g_R 208), some (g_I v1)] [] g_SH D (g_Ri g_SH K)
  refine g_use (fun ok => ?_)
  have hF := hF ok.2.1 (ok.loc (i := 1) rfl)
  refine g_aload_n dX12_count_0 rfl ?_
  refine g_iconst dX12_count_1 ⟨by decide, by decide⟩ ?_
  let D1 : g_D := g_up D 208 0 0
  have hF := hF D1 rfl
  refine g_put dX12_count_2 fd_X12_1 (g_ftyI (C := RX12) (T := TX12) (N := 51) rfl rfl (by decide +kernel)) sh_208 rfl ?_
  refine g_iload_n dX12_count_5 rfl ?_
  rcases Decidable.em (v1 = 0) with q6_0 | q6_0
  · have hF := hF.1 q6_0
    refine g_tsIn dX12_count_6 (by omega) (by omega) (by rw [q6_0] <;> rfl) rfl ?_
    refine g_aload_n dX12_count_68 rfl ?_
    refine g_getR dX12_count_69 fd_X12_13 sh_208 rfl ?_
    refine g_iconst dX12_count_72 ⟨by decide, by decide⟩ ?_
    refine g_iald dX12_count_73 sh_209 (by decide) (by decide) ?_
    exact gw_iret dX12_count_74 rfl hF
  rcases Decidable.em (v1 = 1) with q6_1 | q6_1
  · have hF := hF.2.1 q6_1
    refine g_tsIn dX12_count_6 (by omega) (by omega) (by rw [q6_1] <;> rfl) rfl ?_
    refine g_aload_n dX12_count_75 rfl ?_
    refine g_getR dX12_count_76 fd_X12_13 sh_208 rfl ?_
    refine g_iconst dX12_count_79 ⟨by decide, by decide⟩ ?_
    refine g_iald dX12_count_80 sh_209 (by decide) (by decide) ?_
    exact gw_iret dX12_count_81 rfl hF
  rcases Decidable.em (v1 = 2) with q6_2 | q6_2
  · have hF := hF.2.2.1 q6_2
    refine g_tsIn dX12_count_6 (by omega) (by omega) (by rw [q6_2] <;> rfl) rfl ?_
    refine g_aload_n dX12_count_82 rfl ?_
    refine g_getR dX12_count_83 fd_X12_13 sh_208 rfl ?_
    refine g_iconst dX12_count_86 ⟨by decide, by decide⟩ ?_
    refine g_iald dX12_count_87 sh_209 (by decide) (by decide) ?_
    exact gw_iret dX12_count_88 rfl hF
  rcases Decidable.em (v1 = 3) with q6_3 | q6_3
  · have hF := hF.2.2.2.1 q6_3
    refine g_tsIn dX12_count_6 (by omega) (by omega) (by rw [q6_3] <;> rfl) rfl ?_
    refine g_aload_n dX12_count_89 rfl ?_
    refine g_getR dX12_count_90 fd_X12_13 sh_208 rfl ?_
    refine g_iconst dX12_count_93 ⟨by decide, by decide⟩ ?_
    refine g_iald dX12_count_94 sh_209 (by decide) (by decide) ?_
    exact gw_iret dX12_count_95 rfl hF
  rcases Decidable.em (v1 = 4) with q6_4 | q6_4
  · have hF := hF.2.2.2.2.1 q6_4
    refine g_tsIn dX12_count_6 (by omega) (by omega) (by rw [q6_4] <;> rfl) rfl ?_
    refine g_aload_n dX12_count_96 rfl ?_
    refine g_getR dX12_count_97 fd_X12_13 sh_208 rfl ?_
    refine g_iconst dX12_count_100 ⟨by decide, by decide⟩ ?_
    refine g_iald dX12_count_101 sh_209 (by decide) (by decide) ?_
    exact gw_iret dX12_count_102 rfl hF
  rcases Decidable.em (v1 = 5) with q6_5 | q6_5
  · have hF := hF.2.2.2.2.2.1 q6_5
    refine g_tsIn dX12_count_6 (by omega) (by omega) (by rw [q6_5] <;> rfl) rfl ?_
    refine g_aload_n dX12_count_103 rfl ?_
    refine g_getR dX12_count_104 fd_X12_13 sh_208 rfl ?_
    refine g_iconst dX12_count_107 ⟨by decide, by decide⟩ ?_
    refine g_iald dX12_count_108 sh_209 (by decide) (by decide) ?_
    exact gw_iret dX12_count_109 rfl hF
  rcases Decidable.em (v1 = 6) with q6_6 | q6_6
  · have hF := hF.2.2.2.2.2.2.1 q6_6
    refine g_tsIn dX12_count_6 (by omega) (by omega) (by rw [q6_6] <;> rfl) rfl ?_
    refine g_aload_n dX12_count_110 rfl ?_
    refine g_getR dX12_count_111 fd_X12_13 sh_208 rfl ?_
    refine g_sipush dX12_count_114 ⟨by decide, by decide⟩ ?_
    refine g_iald dX12_count_117 sh_209 (by decide) (by decide) ?_
    exact gw_iret dX12_count_118 rfl hF
  rcases Decidable.em (v1 = 7) with q6_7 | q6_7
  · have hF := hF.2.2.2.2.2.2.2.1 q6_7
    refine g_tsIn dX12_count_6 (by omega) (by omega) (by rw [q6_7] <;> rfl) rfl ?_
    refine g_aload_n dX12_count_119 rfl ?_
    refine g_getR dX12_count_120 fd_X12_13 sh_208 rfl ?_
    refine g_sipush dX12_count_123 ⟨by decide, by decide⟩ ?_
    refine g_iald dX12_count_126 sh_209 (by decide) (by decide) ?_
    exact gw_iret dX12_count_127 rfl hF
  rcases Decidable.em (v1 = 8) with q6_8 | q6_8
  · have hF := hF.2.2.2.2.2.2.2.2.1 q6_8
    refine g_tsIn dX12_count_6 (by omega) (by omega) (by rw [q6_8] <;> rfl) rfl ?_
    refine g_aload_n dX12_count_128 rfl ?_
    refine g_getR dX12_count_129 fd_X12_13 sh_208 rfl ?_
    refine g_sipush dX12_count_132 ⟨by decide, by decide⟩ ?_
    refine g_iald dX12_count_135 sh_209 (by decide) (by decide) ?_
    exact gw_iret dX12_count_136 rfl hF
  rcases Decidable.em (v1 = 9) with q6_9 | q6_9
  · have hF := hF.2.2.2.2.2.2.2.2.2.1 q6_9
    refine g_tsIn dX12_count_6 (by omega) (by omega) (by rw [q6_9] <;> rfl) rfl ?_
    refine g_aload_n dX12_count_137 rfl ?_
    refine g_getR dX12_count_138 fd_X12_13 sh_208 rfl ?_
    refine g_sipush dX12_count_141 ⟨by decide, by decide⟩ ?_
    refine g_iald dX12_count_144 sh_209 (by decide) (by decide) ?_
    exact gw_iret dX12_count_145 rfl hF
  rcases Decidable.em (v1 = 10) with q6_10 | q6_10
  · have hF := hF.2.2.2.2.2.2.2.2.2.2.1 q6_10
    refine g_tsIn dX12_count_6 (by omega) (by omega) (by rw [q6_10] <;> rfl) rfl ?_
    refine g_aload_n dX12_count_146 rfl ?_
    refine g_getR dX12_count_147 fd_X12_13 sh_208 rfl ?_
    refine g_sipush dX12_count_150 ⟨by decide, by decide⟩ ?_
    refine g_iald dX12_count_153 sh_209 (by decide) (by decide) ?_
    exact gw_iret dX12_count_154 rfl hF
  rcases Decidable.em (v1 = 11) with q6_11 | q6_11
  · have hF := hF.2.2.2.2.2.2.2.2.2.2.2.1 q6_11
    refine g_tsIn dX12_count_6 (by omega) (by omega) (by rw [q6_11] <;> rfl) rfl ?_
    refine g_aload_n dX12_count_155 rfl ?_
    refine g_getI dX12_count_156 fd_X12_126 sh_208 rfl ?_
    exact gw_iret dX12_count_159 rfl hF
  have q6 : v1 < 0 ∨ 11 < v1 := by omega
  have hF := hF.2.2.2.2.2.2.2.2.2.2.2.2 q6
  refine g_tsOut dX12_count_6 q6 rfl ?_
  refine g_iconst dX12_count_160 ⟨by decide, by decide⟩ ?_
  exact gw_iret dX12_count_161 rfl hF
theorem dX12_cuts1_0 : decode cX12_cuts1 0 = .ok (.aload_n 0, 1) := by decide +kernel
theorem dX12_cuts1_1 : decode cX12_cuts1 1 = .ok (.iconst (-1), 1) := by decide +kernel
theorem dX12_cuts1_2 : decode cX12_cuts1 2 = .ok (.putfield 117, 3) := by decide +kernel
theorem dX12_cuts1_5 : decode cX12_cuts1 5 = .ok (.iload_n 2, 1) := by decide +kernel
theorem dX12_cuts1_6 : decode cX12_cuts1 6 = .ok (.ifCond .ne 4, 3) := by decide +kernel
theorem dX12_cuts1_9 : decode cX12_cuts1 9 = .ok (.return_, 1) := by decide +kernel
theorem dX12_cuts1_10 : decode cX12_cuts1 10 = .ok (.aload_n 0, 1) := by decide +kernel
theorem dX12_cuts1_11 : decode cX12_cuts1 11 = .ok (.getfield 99, 3) := by decide +kernel
theorem dX12_cuts1_14 : decode cX12_cuts1 14 = .ok (.iload_n 1, 1) := by decide +kernel
theorem dX12_cuts1_15 : decode cX12_cuts1 15 = .ok (.iaload, 1) := by decide +kernel
theorem dX12_cuts1_16 : decode cX12_cuts1 16 = .ok (.iconst (-1), 1) := by decide +kernel
theorem dX12_cuts1_17 : decode cX12_cuts1 17 = .ok (.if_icmp .ne 20, 3) := by decide +kernel
theorem dX12_cuts1_20 : decode cX12_cuts1 20 = .ok (.aload_n 0, 1) := by decide +kernel
theorem dX12_cuts1_21 : decode cX12_cuts1 21 = .ok (.iload_n 1, 1) := by decide +kernel
theorem dX12_cuts1_22 : decode cX12_cuts1 22 = .ok (.iload_n 2, 1) := by decide +kernel
theorem dX12_cuts1_23 : decode cX12_cuts1 23 = .ok (.iconst 3, 1) := by decide +kernel
theorem dX12_cuts1_24 : decode cX12_cuts1 24 = .ok (.if_icmp .ne 8, 3) := by decide +kernel
theorem dX12_cuts1_27 : decode cX12_cuts1 27 = .ok (.bipush 40, 2) := by decide +kernel
theorem dX12_cuts1_29 : decode cX12_cuts1 29 = .ok (.goto 4, 3) := by decide +kernel
theorem dX12_cuts1_32 : decode cX12_cuts1 32 = .ok (.iload_n 3, 1) := by decide +kernel
theorem dX12_cuts1_33 : decode cX12_cuts1 33 = .ok (.invokevirtual 354, 3) := by decide +kernel
theorem dX12_cuts1_36 : decode cX12_cuts1 36 = .ok (.return_, 1) := by decide +kernel
theorem dX12_cuts1_37 : decode cX12_cuts1 37 = .ok (.iload_n 2, 1) := by decide +kernel
theorem dX12_cuts1_38 : decode cX12_cuts1 38 = .ok (.iconst 1, 1) := by decide +kernel
theorem dX12_cuts1_39 : decode cX12_cuts1 39 = .ok (.if_icmp .ne 4, 3) := by decide +kernel
theorem dX12_cuts1_42 : decode cX12_cuts1 42 = .ok (.return_, 1) := by decide +kernel
theorem dX12_cuts1_43 : decode cX12_cuts1 43 = .ok (.aload_n 0, 1) := by decide +kernel
theorem dX12_cuts1_44 : decode cX12_cuts1 44 = .ok (.iload_n 1, 1) := by decide +kernel
theorem dX12_cuts1_45 : decode cX12_cuts1 45 = .ok (.invokevirtual 357, 3) := by decide +kernel
theorem dX12_cuts1_48 : decode cX12_cuts1 48 = .ok (.aload_n 0, 1) := by decide +kernel
theorem dX12_cuts1_49 : decode cX12_cuts1 49 = .ok (.aload_n 0, 1) := by decide +kernel
theorem dX12_cuts1_50 : decode cX12_cuts1 50 = .ok (.getfield 99, 3) := by decide +kernel
theorem dX12_cuts1_53 : decode cX12_cuts1 53 = .ok (.iload_n 1, 1) := by decide +kernel
theorem dX12_cuts1_54 : decode cX12_cuts1 54 = .ok (.iaload, 1) := by decide +kernel
theorem dX12_cuts1_55 : decode cX12_cuts1 55 = .ok (.putfield 117, 3) := by decide +kernel
theorem dX12_cuts1_58 : decode cX12_cuts1 58 = .ok (.iconst 0, 1) := by decide +kernel
theorem dX12_cuts1_59 : decode cX12_cuts1 59 = .ok (.istore 4, 2) := by decide +kernel
theorem dX12_cuts1_61 : decode cX12_cuts1 61 = .ok (.iload 4, 2) := by decide +kernel
theorem dX12_cuts1_63 : decode cX12_cuts1 63 = .ok (.iconst 4, 1) := by decide +kernel
theorem dX12_cuts1_64 : decode cX12_cuts1 64 = .ok (.if_icmp .ge 61, 3) := by decide +kernel
theorem dX12_cuts1_67 : decode cX12_cuts1 67 = .ok (.aload_n 0, 1) := by decide +kernel
theorem dX12_cuts1_68 : decode cX12_cuts1 68 = .ok (.getfield 114, 3) := by decide +kernel
theorem dX12_cuts1_71 : decode cX12_cuts1 71 = .ok (.iload 4, 2) := by decide +kernel
theorem dX12_cuts1_73 : decode cX12_cuts1 73 = .ok (.aload_n 0, 1) := by decide +kernel
theorem dX12_cuts1_74 : decode cX12_cuts1 74 = .ok (.getfield 111, 3) := by decide +kernel
theorem dX12_cuts1_77 : decode cX12_cuts1 77 = .ok (.iload 4, 2) := by decide +kernel
theorem dX12_cuts1_79 : decode cX12_cuts1 79 = .ok (.iaload, 1) := by decide +kernel
theorem dX12_cuts1_80 : decode cX12_cuts1 80 = .ok (.iastore, 1) := by decide +kernel
theorem dX12_cuts1_81 : decode cX12_cuts1 81 = .ok (.aload_n 0, 1) := by decide +kernel
theorem dX12_cuts1_82 : decode cX12_cuts1 82 = .ok (.getfield 108, 3) := by decide +kernel
theorem dX12_cuts1_85 : decode cX12_cuts1 85 = .ok (.iconst 4, 1) := by decide +kernel
theorem dX12_cuts1_86 : decode cX12_cuts1 86 = .ok (.aload_n 0, 1) := by decide +kernel
theorem dX12_cuts1_87 : decode cX12_cuts1 87 = .ok (.getfield 117, 3) := by decide +kernel
theorem dX12_cuts1_90 : decode cX12_cuts1 90 = .ok (.imul, 1) := by decide +kernel
theorem dX12_cuts1_91 : decode cX12_cuts1 91 = .ok (.iload 4, 2) := by decide +kernel
theorem dX12_cuts1_93 : decode cX12_cuts1 93 = .ok (.iadd, 1) := by decide +kernel
theorem dX12_cuts1_94 : decode cX12_cuts1 94 = .ok (.iload_n 2, 1) := by decide +kernel
theorem dX12_cuts1_95 : decode cX12_cuts1 95 = .ok (.iconst 3, 1) := by decide +kernel
theorem dX12_cuts1_96 : decode cX12_cuts1 96 = .ok (.if_icmp .eq 9, 3) := by decide +kernel
theorem dX12_cuts1_99 : decode cX12_cuts1 99 = .ok (.iload 4, 2) := by decide +kernel
theorem dX12_cuts1_101 : decode cX12_cuts1 101 = .ok (.iload_n 3, 1) := by decide +kernel
theorem dX12_cuts1_102 : decode cX12_cuts1 102 = .ok (.if_icmp .ge 13, 3) := by decide +kernel
theorem dX12_cuts1_105 : decode cX12_cuts1 105 = .ok (.aload_n 0, 1) := by decide +kernel
theorem dX12_cuts1_106 : decode cX12_cuts1 106 = .ok (.getfield 111, 3) := by decide +kernel
theorem dX12_cuts1_109 : decode cX12_cuts1 109 = .ok (.iload 4, 2) := by decide +kernel
theorem dX12_cuts1_111 : decode cX12_cuts1 111 = .ok (.iaload, 1) := by decide +kernel
theorem dX12_cuts1_112 : decode cX12_cuts1 112 = .ok (.goto 6, 3) := by decide +kernel
theorem dX12_cuts1_115 : decode cX12_cuts1 115 = .ok (.sipush 255, 3) := by decide +kernel
theorem dX12_cuts1_118 : decode cX12_cuts1 118 = .ok (.iastore, 1) := by decide +kernel
theorem dX12_cuts1_119 : decode cX12_cuts1 119 = .ok (.iinc 4 1, 3) := by decide +kernel
theorem dX12_cuts1_122 : decode cX12_cuts1 122 = .ok (.goto (-61), 3) := by decide +kernel
theorem dX12_cuts1_125 : decode cX12_cuts1 125 = .ok (.return_, 1) := by decide +kernel
abbrev k_X12_cuts1 (E : g_E) (l : Launch) (D : g_D) (v1 : Int) (v2 : Int) (v3 : Int) (K : g_D → Prop) : Prop := g_Kv E l m_X12_cuts1 3 [g_R 208, g_I v1, g_I v2, g_I v3] g_SH D K
abbrev n_X12_cuts1 (E : g_E) (l : Launch) (D : g_D) (pc : Nat) (L : List (Option g_V)) (K : g_D → Prop) : Prop := g_N E l m_X12_cuts1 3 pc L [] g_SH D (g_Rv g_SH K)
theorem s_X12_cuts1 {E : g_E} {l : Launch} {D : g_D} {K : g_D → Prop} {v1 : Int} {v2 : Int} {v3 : Int}  (hF : g_okD D → g_r v1 → g_r v2 → g_r v3 → ∀ D1, D1 = g_up D 208 50 (-1) → ((¬ v2 = 0 → (0 ≤ v1 ∧ v1 < 400) ∧ ((¬ (D 236 v1.toNat) = (-1) → (¬ v2 = 1 → k_X12_laysNewCells E l D1 v1 (fun D2 => (0 ≤ v1 ∧ v1 < 400) ∧ (∀ D3, D3 = g_up D2 208 50 (D2 236 v1.toNat) → (n_X12_cuts1 E l D3 61 [some (g_R 208), none, some (g_I v2), some (g_I v3), some (g_I 0)] K)))) ∧ (v2 = 1 → K D1)) ∧ ((D 236 v1.toNat) = (-1) → (¬ v2 = 3 → k_X12_savesCells E l D1 v1 v3 (fun D4 => K D4)) ∧ (v2 = 3 → k_X12_savesCells E l D1 v1 40 (fun D5 => K D5))))) ∧ (v2 = 0 → K D1))) : k_X12_cuts1 E l D v1 v2 v3 K := by
  refine g_enter (by decide) (Nat.le_of_ble_eq_true rfl) ?_
  show g_N E l m_X12_cuts1 3 0 [some (g_R 208), some (g_I v1), some (g_I v2), some (g_I v3), none] [] g_SH D (g_Rv g_SH K)
  refine g_use (fun ok => ?_)
  have hF := hF ok.2.1 (ok.loc (i := 1) rfl) (ok.loc (i := 2) rfl) (ok.loc (i := 3) rfl)
  refine g_aload_n dX12_cuts1_0 rfl ?_
  refine g_iconst dX12_cuts1_1 ⟨by decide, by decide⟩ ?_
  let D1 : g_D := g_up D 208 50 (-1)
  have hF := hF D1 rfl
  refine g_put dX12_cuts1_2 fd_X12_117 (g_ftyI (C := RX12) (T := TX12) (N := 51) rfl rfl (by decide +kernel)) sh_208 rfl ?_
  refine g_iload_n dX12_cuts1_5 rfl ?_
  refine g_ifne dX12_cuts1_6 rfl (fun q => ?_) (fun q => ?_)
  · have hF := hF.1 q
    refine g_aload_n dX12_cuts1_10 rfl ?_
    refine g_getR dX12_cuts1_11 fd_X12_99 sh_208 rfl ?_
    refine g_iload_n dX12_cuts1_14 rfl ?_
    obtain ⟨hc, hF⟩ := hF
    refine g_iald dX12_cuts1_15 sh_236 hc.1 hc.2 ?_
    refine g_iconst dX12_cuts1_16 ⟨by decide, by decide⟩ ?_
    refine g_cne dX12_cuts1_17 rfl (fun q => ?_) (fun q => ?_)
    · have hF := hF.1 q
      refine g_iload_n dX12_cuts1_37 rfl ?_
      refine g_iconst dX12_cuts1_38 ⟨by decide, by decide⟩ ?_
      refine g_cne dX12_cuts1_39 rfl (fun q => ?_) (fun q => ?_)
      · have hF := hF.1 q
        refine g_aload_n dX12_cuts1_43 rfl ?_
        refine g_iload_n dX12_cuts1_44 rfl ?_
        refine gw_cVv (b := 208) (As := [g_I v1]) (rest := []) dX12_cuts1_45 mv_X12_357 sh_208 rfl (Nat.le_of_ble_eq_true rfl) (by decide) rfl hF ?_
        intro D2 hF
        refine g_aload_n dX12_cuts1_48 rfl ?_
        refine g_aload_n dX12_cuts1_49 rfl ?_
        refine g_getR dX12_cuts1_50 fd_X12_99 sh_208 rfl ?_
        refine g_iload_n dX12_cuts1_53 rfl ?_
        obtain ⟨hc, hF⟩ := hF
        refine g_iald dX12_cuts1_54 sh_236 hc.1 hc.2 ?_
        let D3 : g_D := g_up D2 208 50 (D2 236 v1.toNat)
        have hF := hF D3 rfl
        refine g_put dX12_cuts1_55 fd_X12_117 (g_ftyI (C := RX12) (T := TX12) (N := 51) rfl rfl (by decide +kernel)) sh_208 rfl ?_
        refine g_iconst dX12_cuts1_58 ⟨by decide, by decide⟩ ?_
        refine gw_istore (L' := [some (g_R 208), some (g_I v1), some (g_I v2), some (g_I v3), some (g_I 0)]) dX12_cuts1_59 (by decide) rfl ?_
        exact g_forget (L' := [some (g_R 208), none, some (g_I v2), some (g_I v3), some (g_I 0)]) ⟨rfl, ⟨rfl, ⟨rfl, ⟨rfl, trivial⟩⟩⟩⟩ hF
      · have hF := hF.2 q
        exact gw_vret dX12_cuts1_42 rfl hF
    · have hF := hF.2 q
      refine g_aload_n dX12_cuts1_20 rfl ?_
      refine g_iload_n dX12_cuts1_21 rfl ?_
      refine g_iload_n dX12_cuts1_22 rfl ?_
      refine g_iconst dX12_cuts1_23 ⟨by decide, by decide⟩ ?_
      refine g_cne dX12_cuts1_24 rfl (fun q => ?_) (fun q => ?_)
      · have hF := hF.1 q
        refine g_iload_n dX12_cuts1_32 rfl ?_
        refine gw_cVv (b := 208) (As := [g_I v1, g_I v3]) (rest := []) dX12_cuts1_33 mv_X12_354 sh_208 rfl (Nat.le_of_ble_eq_true rfl) (by decide) rfl hF ?_
        intro D4 hF
        exact gw_vret dX12_cuts1_36 rfl hF
      · have hF := hF.2 q
        refine g_bipush dX12_cuts1_27 ⟨by decide, by decide⟩ ?_
        refine g_goto dX12_cuts1_29 rfl ?_
        refine gw_cVv (b := 208) (As := [g_I v1, g_I 40]) (rest := []) dX12_cuts1_33 mv_X12_354 sh_208 rfl (Nat.le_of_ble_eq_true rfl) (by decide) rfl hF ?_
        intro D5 hF
        exact gw_vret dX12_cuts1_36 rfl hF
  · have hF := hF.2 q
    exact gw_vret dX12_cuts1_9 rfl hF
theorem s_X12_cuts1_61 {E : g_E} {l : Launch} {D : g_D} {K : g_D → Prop} {v2 : Int} {v3 : Int} {v4 : Int}  (hF : g_okD D → g_r v2 → g_r v3 → g_r v4 → (4 ≤ v4 → K D) ∧ (¬ 4 ≤ v4 → (0 ≤ v4 ∧ v4 < 4) ∧ ((0 ≤ v4 ∧ v4 < 4) ∧ (∀ D1, D1 = g_up D 241 v4.toNat (D 240 v4.toNat) → ((g_r (4 * (D 208 50))) ∧ ((g_r ((4 * (D 208 50)) + v4)) ∧ ((v2 = 3 → (0 ≤ v4 ∧ v4 < 4) ∧ ((0 ≤ ((4 * (D 208 50)) + v4) ∧ ((4 * (D 208 50)) + v4) < 60) ∧ (∀ D2, D2 = g_up D1 239 ((4 * (D 208 50)) + v4).toNat (D 240 v4.toNat) → ((g_r (v4 + 1)) ∧ (n_X12_cuts1 E l D2 61 [some (g_R 208), none, some (g_I v2), some (g_I v3), some (g_I (v4 + 1))] K))))) ∧ (¬ v2 = 3 → (v3 ≤ v4 → (0 ≤ ((4 * (D 208 50)) + v4) ∧ ((4 * (D 208 50)) + v4) < 60) ∧ (∀ D3, D3 = g_up D1 239 ((4 * (D 208 50)) + v4).toNat 255 → ((g_r (v4 + 1)) ∧ (n_X12_cuts1 E l D3 61 [some (g_R 208), none, some (g_I v2), some (g_I v3), some (g_I (v4 + 1))] K)))) ∧ (¬ v3 ≤ v4 → (0 ≤ v4 ∧ v4 < 4) ∧ ((0 ≤ ((4 * (D 208 50)) + v4) ∧ ((4 * (D 208 50)) + v4) < 60) ∧ (∀ D4, D4 = g_up D1 239 ((4 * (D 208 50)) + v4).toNat (D 240 v4.toNat) → ((g_r (v4 + 1)) ∧ (n_X12_cuts1 E l D4 61 [some (g_R 208), none, some (g_I v2), some (g_I v3), some (g_I (v4 + 1))] K))))))))))))) : n_X12_cuts1 E l D 61 [some (g_R 208), none, some (g_I v2), some (g_I v3), some (g_I v4)] K := by
  refine g_use (fun ok => ?_)
  have hF := hF ok.2.1 (ok.loc (i := 2) rfl) (ok.loc (i := 3) rfl) (ok.loc (i := 4) rfl)
  refine g_iload dX12_cuts1_61 rfl ?_
  refine g_iconst dX12_cuts1_63 ⟨by decide, by decide⟩ ?_
  refine g_cge dX12_cuts1_64 rfl (fun q => ?_) (fun q => ?_)
  · have hF := hF.1 q
    exact gw_vret dX12_cuts1_125 rfl hF
  · have hF := hF.2 q
    refine g_aload_n dX12_cuts1_67 rfl ?_
    refine g_getR dX12_cuts1_68 fd_X12_114 sh_208 rfl ?_
    refine g_iload dX12_cuts1_71 rfl ?_
    refine g_aload_n dX12_cuts1_73 rfl ?_
    refine g_getR dX12_cuts1_74 fd_X12_111 sh_208 rfl ?_
    refine g_iload dX12_cuts1_77 rfl ?_
    obtain ⟨hc, hF⟩ := hF
    refine g_iald dX12_cuts1_79 sh_240 hc.1 hc.2 ?_
    obtain ⟨hc, hF⟩ := hF
    let D1 : g_D := g_up D 241 v4.toNat (D 240 v4.toNat)
    have hF := hF D1 rfl
    refine g_iast dX12_cuts1_80 sh_241 hc.1 hc.2 ?_
    refine g_aload_n dX12_cuts1_81 rfl ?_
    refine g_getR dX12_cuts1_82 fd_X12_108 sh_208 rfl ?_
    refine g_iconst dX12_cuts1_85 ⟨by decide, by decide⟩ ?_
    refine g_aload_n dX12_cuts1_86 rfl ?_
    refine g_getI dX12_cuts1_87 fd_X12_117 sh_208 rfl ?_
    obtain ⟨hc, hF⟩ := hF
    refine g_imul dX12_cuts1_90 hc ?_
    refine g_iload dX12_cuts1_91 rfl ?_
    obtain ⟨hc, hF⟩ := hF
    refine g_iadd dX12_cuts1_93 hc ?_
    refine g_iload_n dX12_cuts1_94 rfl ?_
    refine g_iconst dX12_cuts1_95 ⟨by decide, by decide⟩ ?_
    refine g_ceq dX12_cuts1_96 rfl (fun q => ?_) (fun q => ?_)
    · have hF := hF.1 q
      refine g_aload_n dX12_cuts1_105 rfl ?_
      refine g_getR dX12_cuts1_106 fd_X12_111 sh_208 rfl ?_
      refine g_iload dX12_cuts1_109 rfl ?_
      obtain ⟨hc, hF⟩ := hF
      refine g_iald dX12_cuts1_111 sh_240 hc.1 hc.2 ?_
      refine g_goto dX12_cuts1_112 rfl ?_
      obtain ⟨hc, hF⟩ := hF
      let D2 : g_D := g_up D1 239 ((4 * (D 208 50)) + v4).toNat (D 240 v4.toNat)
      have hF := hF D2 rfl
      refine g_iast dX12_cuts1_118 sh_239 hc.1 hc.2 ?_
      obtain ⟨hc, hF⟩ := hF
      refine gw_iinc (L' := [some (g_R 208), none, some (g_I v2), some (g_I v3), some (g_I (v4 + 1))]) dX12_cuts1_119 rfl hc (by decide) rfl ?_
      refine g_goto dX12_cuts1_122 rfl ?_
      exact hF
    · have hF := hF.2 q
      refine g_iload dX12_cuts1_99 rfl ?_
      refine g_iload_n dX12_cuts1_101 rfl ?_
      refine g_cge dX12_cuts1_102 rfl (fun q => ?_) (fun q => ?_)
      · have hF := hF.1 q
        refine g_sipush dX12_cuts1_115 ⟨by decide, by decide⟩ ?_
        obtain ⟨hc, hF⟩ := hF
        let D3 : g_D := g_up D1 239 ((4 * (D 208 50)) + v4).toNat 255
        have hF := hF D3 rfl
        refine g_iast dX12_cuts1_118 sh_239 hc.1 hc.2 ?_
        obtain ⟨hc, hF⟩ := hF
        refine gw_iinc (L' := [some (g_R 208), none, some (g_I v2), some (g_I v3), some (g_I (v4 + 1))]) dX12_cuts1_119 rfl hc (by decide) rfl ?_
        refine g_goto dX12_cuts1_122 rfl ?_
        exact hF
      · have hF := hF.2 q
        refine g_aload_n dX12_cuts1_105 rfl ?_
        refine g_getR dX12_cuts1_106 fd_X12_111 sh_208 rfl ?_
        refine g_iload dX12_cuts1_109 rfl ?_
        obtain ⟨hc, hF⟩ := hF
        refine g_iald dX12_cuts1_111 sh_240 hc.1 hc.2 ?_
        refine g_goto dX12_cuts1_112 rfl ?_
        obtain ⟨hc, hF⟩ := hF
        let D4 : g_D := g_up D1 239 ((4 * (D 208 50)) + v4).toNat (D 240 v4.toNat)
        have hF := hF D4 rfl
        refine g_iast dX12_cuts1_118 sh_239 hc.1 hc.2 ?_
        obtain ⟨hc, hF⟩ := hF
        refine gw_iinc (L' := [some (g_R 208), none, some (g_I v2), some (g_I v3), some (g_I (v4 + 1))]) dX12_cuts1_119 rfl hc (by decide) rfl ?_
        refine g_goto dX12_cuts1_122 rfl ?_
        exact hF
theorem dX12_cut_0 : decode cX12_cut 0 = .ok (.aload_n 0, 1) := by decide +kernel
theorem dX12_cut_1 : decode cX12_cut 1 = .ok (.iconst 0, 1) := by decide +kernel
theorem dX12_cut_2 : decode cX12_cut 2 = .ok (.putfield 1, 3) := by decide +kernel
theorem dX12_cut_5 : decode cX12_cut 5 = .ok (.iload_n 1, 1) := by decide +kernel
theorem dX12_cut_6 : decode cX12_cut 6 = .ok (.i2l, 1) := by decide +kernel
theorem dX12_cut_7 : decode cX12_cut 7 = .ok (.lconst 0, 1) := by decide +kernel
theorem dX12_cut_8 : decode cX12_cut 8 = .ok (.ldc2_w 143, 3) := by decide +kernel
theorem dX12_cut_11 : decode cX12_cut 11 = .ok (.invokestatic 131, 3) := by decide +kernel
theorem dX12_cut_14 : decode cX12_cut 14 = .ok (.ifCond .eq 15, 3) := by decide +kernel
theorem dX12_cut_17 : decode cX12_cut 17 = .ok (.iload_n 2, 1) := by decide +kernel
theorem dX12_cut_18 : decode cX12_cut 18 = .ok (.i2l, 1) := by decide +kernel
theorem dX12_cut_19 : decode cX12_cut 19 = .ok (.lconst 0, 1) := by decide +kernel
theorem dX12_cut_20 : decode cX12_cut 20 = .ok (.ldc2_w 143, 3) := by decide +kernel
theorem dX12_cut_23 : decode cX12_cut 23 = .ok (.invokestatic 131, 3) := by decide +kernel
theorem dX12_cut_26 : decode cX12_cut 26 = .ok (.ifCond .ne 6, 3) := by decide +kernel
theorem dX12_cut_29 : decode cX12_cut 29 = .ok (.bipush (-3), 2) := by decide +kernel
theorem dX12_cut_31 : decode cX12_cut 31 = .ok (.ireturn, 1) := by decide +kernel
theorem dX12_cut_32 : decode cX12_cut 32 = .ok (.aload_n 0, 1) := by decide +kernel
theorem dX12_cut_33 : decode cX12_cut 33 = .ok (.invokevirtual 324, 3) := by decide +kernel
theorem dX12_cut_36 : decode cX12_cut 36 = .ok (.pop, 1) := by decide +kernel
theorem dX12_cut_37 : decode cX12_cut 37 = .ok (.aload_n 0, 1) := by decide +kernel
theorem dX12_cut_38 : decode cX12_cut 38 = .ok (.getfield 13, 3) := by decide +kernel
theorem dX12_cut_41 : decode cX12_cut 41 = .ok (.sipush 146, 3) := by decide +kernel
theorem dX12_cut_44 : decode cX12_cut 44 = .ok (.iaload, 1) := by decide +kernel
theorem dX12_cut_45 : decode cX12_cut 45 = .ok (.ifCond .eq 18, 3) := by decide +kernel
theorem dX12_cut_48 : decode cX12_cut 48 = .ok (.aload_n 0, 1) := by decide +kernel
theorem dX12_cut_49 : decode cX12_cut 49 = .ok (.getfield 13, 3) := by decide +kernel
theorem dX12_cut_52 : decode cX12_cut 52 = .ok (.sipush 147, 3) := by decide +kernel
theorem dX12_cut_55 : decode cX12_cut 55 = .ok (.iaload, 1) := by decide +kernel
theorem dX12_cut_56 : decode cX12_cut 56 = .ok (.aload_n 0, 1) := by decide +kernel
theorem dX12_cut_57 : decode cX12_cut 57 = .ok (.getfield 342, 3) := by decide +kernel
theorem dX12_cut_60 : decode cX12_cut 60 = .ok (.if_icmp .ne 6, 3) := by decide +kernel
theorem dX12_cut_63 : decode cX12_cut 63 = .ok (.bipush (-5), 2) := by decide +kernel
theorem dX12_cut_65 : decode cX12_cut 65 = .ok (.ireturn, 1) := by decide +kernel
theorem dX12_cut_66 : decode cX12_cut 66 = .ok (.aload_n 0, 1) := by decide +kernel
theorem dX12_cut_67 : decode cX12_cut 67 = .ok (.invokevirtual 285, 3) := by decide +kernel
theorem dX12_cut_70 : decode cX12_cut 70 = .ok (.aload_n 0, 1) := by decide +kernel
theorem dX12_cut_71 : decode cX12_cut 71 = .ok (.invokevirtual 374, 3) := by decide +kernel
theorem dX12_cut_74 : decode cX12_cut 74 = .ok (.aload_n 0, 1) := by decide +kernel
theorem dX12_cut_75 : decode cX12_cut 75 = .ok (.aload_n 0, 1) := by decide +kernel
theorem dX12_cut_76 : decode cX12_cut 76 = .ok (.getfield 13, 3) := by decide +kernel
theorem dX12_cut_79 : decode cX12_cut 79 = .ok (.sipush 147, 3) := by decide +kernel
theorem dX12_cut_82 : decode cX12_cut 82 = .ok (.iaload, 1) := by decide +kernel
theorem dX12_cut_83 : decode cX12_cut 83 = .ok (.iload_n 1, 1) := by decide +kernel
theorem dX12_cut_84 : decode cX12_cut 84 = .ok (.iload_n 2, 1) := by decide +kernel
theorem dX12_cut_85 : decode cX12_cut 85 = .ok (.invokevirtual 383, 3) := by decide +kernel
theorem dX12_cut_88 : decode cX12_cut 88 = .ok (.aload_n 0, 1) := by decide +kernel
theorem dX12_cut_89 : decode cX12_cut 89 = .ok (.invokevirtual 380, 3) := by decide +kernel
theorem dX12_cut_92 : decode cX12_cut 92 = .ok (.aload_n 0, 1) := by decide +kernel
theorem dX12_cut_93 : decode cX12_cut 93 = .ok (.getfield 13, 3) := by decide +kernel
theorem dX12_cut_96 : decode cX12_cut 96 = .ok (.sipush 148, 3) := by decide +kernel
theorem dX12_cut_99 : decode cX12_cut 99 = .ok (.aload_n 0, 1) := by decide +kernel
theorem dX12_cut_100 : decode cX12_cut 100 = .ok (.getfield 117, 3) := by decide +kernel
theorem dX12_cut_103 : decode cX12_cut 103 = .ok (.iastore, 1) := by decide +kernel
theorem dX12_cut_104 : decode cX12_cut 104 = .ok (.iconst 0, 1) := by decide +kernel
theorem dX12_cut_105 : decode cX12_cut 105 = .ok (.istore_n 3, 1) := by decide +kernel
theorem dX12_cut_106 : decode cX12_cut 106 = .ok (.iload_n 3, 1) := by decide +kernel
theorem dX12_cut_107 : decode cX12_cut 107 = .ok (.iconst 4, 1) := by decide +kernel
theorem dX12_cut_108 : decode cX12_cut 108 = .ok (.if_icmp .ge 37, 3) := by decide +kernel
theorem dX12_cut_111 : decode cX12_cut 111 = .ok (.aload_n 0, 1) := by decide +kernel
theorem dX12_cut_112 : decode cX12_cut 112 = .ok (.getfield 13, 3) := by decide +kernel
theorem dX12_cut_115 : decode cX12_cut 115 = .ok (.sipush 149, 3) := by decide +kernel
theorem dX12_cut_118 : decode cX12_cut 118 = .ok (.iload_n 3, 1) := by decide +kernel
theorem dX12_cut_119 : decode cX12_cut 119 = .ok (.iadd, 1) := by decide +kernel
theorem dX12_cut_120 : decode cX12_cut 120 = .ok (.aload_n 0, 1) := by decide +kernel
theorem dX12_cut_121 : decode cX12_cut 121 = .ok (.getfield 117, 3) := by decide +kernel
theorem dX12_cut_124 : decode cX12_cut 124 = .ok (.iconst (-1), 1) := by decide +kernel
theorem dX12_cut_125 : decode cX12_cut 125 = .ok (.if_icmp .ne 7, 3) := by decide +kernel
theorem dX12_cut_128 : decode cX12_cut 128 = .ok (.iconst 0, 1) := by decide +kernel
theorem dX12_cut_129 : decode cX12_cut 129 = .ok (.goto 9, 3) := by decide +kernel
theorem dX12_cut_132 : decode cX12_cut 132 = .ok (.aload_n 0, 1) := by decide +kernel
theorem dX12_cut_133 : decode cX12_cut 133 = .ok (.getfield 114, 3) := by decide +kernel
theorem dX12_cut_136 : decode cX12_cut 136 = .ok (.iload_n 3, 1) := by decide +kernel
theorem dX12_cut_137 : decode cX12_cut 137 = .ok (.iaload, 1) := by decide +kernel
theorem dX12_cut_138 : decode cX12_cut 138 = .ok (.iastore, 1) := by decide +kernel
theorem dX12_cut_139 : decode cX12_cut 139 = .ok (.iinc 3 1, 3) := by decide +kernel
theorem dX12_cut_142 : decode cX12_cut 142 = .ok (.goto (-36), 3) := by decide +kernel
theorem dX12_cut_145 : decode cX12_cut 145 = .ok (.aload_n 0, 1) := by decide +kernel
theorem dX12_cut_146 : decode cX12_cut 146 = .ok (.getfield 13, 3) := by decide +kernel
theorem dX12_cut_149 : decode cX12_cut 149 = .ok (.sipush 146, 3) := by decide +kernel
theorem dX12_cut_152 : decode cX12_cut 152 = .ok (.iconst 0, 1) := by decide +kernel
theorem dX12_cut_153 : decode cX12_cut 153 = .ok (.iastore, 1) := by decide +kernel
theorem dX12_cut_154 : decode cX12_cut 154 = .ok (.aload_n 0, 1) := by decide +kernel
theorem dX12_cut_155 : decode cX12_cut 155 = .ok (.getfield 13, 3) := by decide +kernel
theorem dX12_cut_158 : decode cX12_cut 158 = .ok (.sipush 147, 3) := by decide +kernel
theorem dX12_cut_161 : decode cX12_cut 161 = .ok (.iaload, 1) := by decide +kernel
theorem dX12_cut_162 : decode cX12_cut 162 = .ok (.ireturn, 1) := by decide +kernel
abbrev k_X12_cut (E : g_E) (l : Launch) (D : g_D) (v1 : Int) (v2 : Int) (K : Int → g_D → Prop) : Prop := g_Ki E l m_X12_cut 4 [g_R 208, g_I v1, g_I v2] g_SH D K
abbrev n_X12_cut (E : g_E) (l : Launch) (D : g_D) (pc : Nat) (L : List (Option g_V)) (K : Int → g_D → Prop) : Prop := g_N E l m_X12_cut 4 pc L [] g_SH D (g_Ri g_SH K)
theorem s_X12_cut {E : g_E} {l : Launch} {D : g_D} {K : Int → g_D → Prop} {v1 : Int} {v2 : Int}  (hF : g_okD D → g_r v1 → g_r v2 → ∀ D1, D1 = g_up D 208 0 0 → (k_X12_within E l g_SH D1 v1 0 3 (fun x2 D2 => g_r x2 → (x2 = 0 → K (-3) D2) ∧ (¬ x2 = 0 → k_X12_within E l g_SH D2 v2 0 3 (fun x3 D3 => g_r x3 → (¬ x3 = 0 → k_X12_laysSteps E l D3 (fun x4 D4 => g_r x4 → ((D4 209 146) = 0 → K (-5) D4) ∧ (¬ (D4 209 146) = 0 → (¬ (D4 209 147) = (D4 208 46) → k_X12_notes E l D4 (fun D5 => k_X12_worksNow E l D5 (fun D6 => k_X12_cuts1 E l D6 (D6 209 147) v1 v2 (fun D7 => k_X12_keepsWork E l D7 (fun D8 => ∀ D9, D9 = g_up D8 209 148 (D8 208 50) → (n_X12_cut E l D9 106 [some (g_R 208), none, none, some (g_I 0)] K)))))) ∧ ((D4 209 147) = (D4 208 46) → K (-5) D4)))) ∧ (x3 = 0 → K (-3) D3)))))) : k_X12_cut E l D v1 v2 K := by
  refine g_enter (by decide) (Nat.le_of_ble_eq_true rfl) ?_
  show g_N E l m_X12_cut 4 0 [some (g_R 208), some (g_I v1), some (g_I v2), none] [] g_SH D (g_Ri g_SH K)
  refine g_use (fun ok => ?_)
  have hF := hF ok.2.1 (ok.loc (i := 1) rfl) (ok.loc (i := 2) rfl)
  refine g_aload_n dX12_cut_0 rfl ?_
  refine g_iconst dX12_cut_1 ⟨by decide, by decide⟩ ?_
  let D1 : g_D := g_up D 208 0 0
  have hF := hF D1 rfl
  refine g_put dX12_cut_2 fd_X12_1 (g_ftyI (C := RX12) (T := TX12) (N := 51) rfl rfl (by decide +kernel)) sh_208 rfl ?_
  refine g_iload_n dX12_cut_5 rfl ?_
  refine g_i2l dX12_cut_6 ?_
  refine g_lconst dX12_cut_7 ?_
  refine g_ldc2 dX12_cut_8 ⟨by decide, by decide⟩ kl_X12_143 ?_
  refine gw_cSi (As := [g_J v1, g_J 0, g_J 3]) (rest := []) dX12_cut_11 ms_X12_131 rfl (Nat.le_of_ble_eq_true rfl) (by decide) rfl hF ?_
  intro x2 D2 hx2 hF
  have hF := hF hx2
  refine g_ifeq dX12_cut_14 rfl (fun q => ?_) (fun q => ?_)
  · have hF := hF.1 q
    refine g_bipush dX12_cut_29 ⟨by decide, by decide⟩ ?_
    exact gw_iret dX12_cut_31 rfl hF
  · have hF := hF.2 q
    refine g_iload_n dX12_cut_17 rfl ?_
    refine g_i2l dX12_cut_18 ?_
    refine g_lconst dX12_cut_19 ?_
    refine g_ldc2 dX12_cut_20 ⟨by decide, by decide⟩ kl_X12_143 ?_
    refine gw_cSi (As := [g_J v2, g_J 0, g_J 3]) (rest := []) dX12_cut_23 ms_X12_131 rfl (Nat.le_of_ble_eq_true rfl) (by decide) rfl hF ?_
    intro x3 D3 hx3 hF
    have hF := hF hx3
    refine g_ifne dX12_cut_26 rfl (fun q => ?_) (fun q => ?_)
    · have hF := hF.1 q
      refine g_aload_n dX12_cut_32 rfl ?_
      refine gw_cVi (b := 208) (As := []) (rest := []) dX12_cut_33 mv_X12_324 sh_208 rfl (Nat.le_of_ble_eq_true rfl) (by decide) rfl hF ?_
      intro x4 D4 hx4 hF
      have hF := hF hx4
      refine g_pop dX12_cut_36 rfl ?_
      refine g_aload_n dX12_cut_37 rfl ?_
      refine g_getR dX12_cut_38 fd_X12_13 sh_208 rfl ?_
      refine g_sipush dX12_cut_41 ⟨by decide, by decide⟩ ?_
      refine g_iald dX12_cut_44 sh_209 (by decide) (by decide) ?_
      refine g_ifeq dX12_cut_45 rfl (fun q => ?_) (fun q => ?_)
      · have hF := hF.1 q
        refine g_bipush dX12_cut_63 ⟨by decide, by decide⟩ ?_
        exact gw_iret dX12_cut_65 rfl hF
      · have hF := hF.2 q
        refine g_aload_n dX12_cut_48 rfl ?_
        refine g_getR dX12_cut_49 fd_X12_13 sh_208 rfl ?_
        refine g_sipush dX12_cut_52 ⟨by decide, by decide⟩ ?_
        refine g_iald dX12_cut_55 sh_209 (by decide) (by decide) ?_
        refine g_aload_n dX12_cut_56 rfl ?_
        refine g_getI dX12_cut_57 fd_X12_342 sh_208 rfl ?_
        refine g_cne dX12_cut_60 rfl (fun q => ?_) (fun q => ?_)
        · have hF := hF.1 q
          refine g_aload_n dX12_cut_66 rfl ?_
          refine gw_cVv (b := 208) (As := []) (rest := []) dX12_cut_67 mv_X12_285 sh_208 rfl (Nat.le_of_ble_eq_true rfl) (by decide) rfl hF ?_
          intro D5 hF
          refine g_aload_n dX12_cut_70 rfl ?_
          refine gw_cVv (b := 208) (As := []) (rest := []) dX12_cut_71 mv_X12_374 sh_208 rfl (Nat.le_of_ble_eq_true rfl) (by decide) rfl hF ?_
          intro D6 hF
          refine g_aload_n dX12_cut_74 rfl ?_
          refine g_aload_n dX12_cut_75 rfl ?_
          refine g_getR dX12_cut_76 fd_X12_13 sh_208 rfl ?_
          refine g_sipush dX12_cut_79 ⟨by decide, by decide⟩ ?_
          refine g_iald dX12_cut_82 sh_209 (by decide) (by decide) ?_
          refine g_iload_n dX12_cut_83 rfl ?_
          refine g_iload_n dX12_cut_84 rfl ?_
          refine gw_cVv (b := 208) (As := [g_I (D6 209 147), g_I v1, g_I v2]) (rest := []) dX12_cut_85 mv_X12_383 sh_208 rfl (Nat.le_of_ble_eq_true rfl) (by decide) rfl hF ?_
          intro D7 hF
          refine g_aload_n dX12_cut_88 rfl ?_
          refine gw_cVv (b := 208) (As := []) (rest := []) dX12_cut_89 mv_X12_380 sh_208 rfl (Nat.le_of_ble_eq_true rfl) (by decide) rfl hF ?_
          intro D8 hF
          refine g_aload_n dX12_cut_92 rfl ?_
          refine g_getR dX12_cut_93 fd_X12_13 sh_208 rfl ?_
          refine g_sipush dX12_cut_96 ⟨by decide, by decide⟩ ?_
          refine g_aload_n dX12_cut_99 rfl ?_
          refine g_getI dX12_cut_100 fd_X12_117 sh_208 rfl ?_
          let D9 : g_D := g_up D8 209 148 (D8 208 50)
          have hF := hF D9 rfl
          refine g_iast dX12_cut_103 sh_209 (by decide) (by decide) ?_
          refine g_iconst dX12_cut_104 ⟨by decide, by decide⟩ ?_
          refine gw_istore_n (L' := [some (g_R 208), some (g_I v1), some (g_I v2), some (g_I 0)]) dX12_cut_105 (by decide) rfl ?_
          exact g_forget (L' := [some (g_R 208), none, none, some (g_I 0)]) ⟨rfl, ⟨rfl, trivial⟩⟩ hF
        · have hF := hF.2 q
          refine g_bipush dX12_cut_63 ⟨by decide, by decide⟩ ?_
          exact gw_iret dX12_cut_65 rfl hF
    · have hF := hF.2 q
      refine g_bipush dX12_cut_29 ⟨by decide, by decide⟩ ?_
      exact gw_iret dX12_cut_31 rfl hF
theorem s_X12_cut_106 {E : g_E} {l : Launch} {D : g_D} {K : Int → g_D → Prop} {v3 : Int}  (hF : g_okD D → g_r v3 → (4 ≤ v3 → ∀ D1, D1 = g_up D 209 146 0 → (K (D 209 147) D1)) ∧ (¬ 4 ≤ v3 → (g_r (149 + v3)) ∧ ((¬ (D 208 50) = (-1) → (0 ≤ v3 ∧ v3 < 4) ∧ ((0 ≤ (149 + v3) ∧ (149 + v3) < 1557) ∧ (∀ D2, D2 = g_up D 209 (149 + v3).toNat (D 241 v3.toNat) → ((g_r (v3 + 1)) ∧ (n_X12_cut E l D2 106 [some (g_R 208), none, none, some (g_I (v3 + 1))] K))))) ∧ ((D 208 50) = (-1) → (0 ≤ (149 + v3) ∧ (149 + v3) < 1557) ∧ (∀ D3, D3 = g_up D 209 (149 + v3).toNat 0 → ((g_r (v3 + 1)) ∧ (n_X12_cut E l D3 106 [some (g_R 208), none, none, some (g_I (v3 + 1))] K))))))) : n_X12_cut E l D 106 [some (g_R 208), none, none, some (g_I v3)] K := by
  refine g_use (fun ok => ?_)
  have hF := hF ok.2.1 (ok.loc (i := 3) rfl)
  refine g_iload_n dX12_cut_106 rfl ?_
  refine g_iconst dX12_cut_107 ⟨by decide, by decide⟩ ?_
  refine g_cge dX12_cut_108 rfl (fun q => ?_) (fun q => ?_)
  · have hF := hF.1 q
    refine g_aload_n dX12_cut_145 rfl ?_
    refine g_getR dX12_cut_146 fd_X12_13 sh_208 rfl ?_
    refine g_sipush dX12_cut_149 ⟨by decide, by decide⟩ ?_
    refine g_iconst dX12_cut_152 ⟨by decide, by decide⟩ ?_
    let D1 : g_D := g_up D 209 146 0
    have hF := hF D1 rfl
    refine g_iast dX12_cut_153 sh_209 (by decide) (by decide) ?_
    refine g_aload_n dX12_cut_154 rfl ?_
    refine g_getR dX12_cut_155 fd_X12_13 sh_208 rfl ?_
    refine g_sipush dX12_cut_158 ⟨by decide, by decide⟩ ?_
    refine g_iald dX12_cut_161 sh_209 (by decide) (by decide) ?_
    exact gw_iret dX12_cut_162 rfl hF
  · have hF := hF.2 q
    refine g_aload_n dX12_cut_111 rfl ?_
    refine g_getR dX12_cut_112 fd_X12_13 sh_208 rfl ?_
    refine g_sipush dX12_cut_115 ⟨by decide, by decide⟩ ?_
    refine g_iload_n dX12_cut_118 rfl ?_
    obtain ⟨hc, hF⟩ := hF
    refine g_iadd dX12_cut_119 hc ?_
    refine g_aload_n dX12_cut_120 rfl ?_
    refine g_getI dX12_cut_121 fd_X12_117 sh_208 rfl ?_
    refine g_iconst dX12_cut_124 ⟨by decide, by decide⟩ ?_
    refine g_cne dX12_cut_125 rfl (fun q => ?_) (fun q => ?_)
    · have hF := hF.1 q
      refine g_aload_n dX12_cut_132 rfl ?_
      refine g_getR dX12_cut_133 fd_X12_114 sh_208 rfl ?_
      refine g_iload_n dX12_cut_136 rfl ?_
      obtain ⟨hc, hF⟩ := hF
      refine g_iald dX12_cut_137 sh_241 hc.1 hc.2 ?_
      obtain ⟨hc, hF⟩ := hF
      let D2 : g_D := g_up D 209 (149 + v3).toNat (D 241 v3.toNat)
      have hF := hF D2 rfl
      refine g_iast dX12_cut_138 sh_209 hc.1 hc.2 ?_
      obtain ⟨hc, hF⟩ := hF
      refine gw_iinc (L' := [some (g_R 208), none, none, some (g_I (v3 + 1))]) dX12_cut_139 rfl hc (by decide) rfl ?_
      refine g_goto dX12_cut_142 rfl ?_
      exact hF
    · have hF := hF.2 q
      refine g_iconst dX12_cut_128 ⟨by decide, by decide⟩ ?_
      refine g_goto dX12_cut_129 rfl ?_
      obtain ⟨hc, hF⟩ := hF
      let D3 : g_D := g_up D 209 (149 + v3).toNat 0
      have hF := hF D3 rfl
      refine g_iast dX12_cut_138 sh_209 hc.1 hc.2 ?_
      obtain ⟨hc, hF⟩ := hF
      refine gw_iinc (L' := [some (g_R 208), none, none, some (g_I (v3 + 1))]) dX12_cut_139 rfl hc (by decide) rfl ?_
      refine g_goto dX12_cut_142 rfl ?_
      exact hF
theorem dX12_worksFrom_0 : decode cX12_worksFrom 0 = .ok (.iconst 0, 1) := by decide +kernel
theorem dX12_worksFrom_1 : decode cX12_worksFrom 1 = .ok (.istore_n 2, 1) := by decide +kernel
theorem dX12_worksFrom_2 : decode cX12_worksFrom 2 = .ok (.iload_n 2, 1) := by decide +kernel
theorem dX12_worksFrom_3 : decode cX12_worksFrom 3 = .ok (.bipush 60, 2) := by decide +kernel
theorem dX12_worksFrom_5 : decode cX12_worksFrom 5 = .ok (.if_icmp .ge 26, 3) := by decide +kernel
theorem dX12_worksFrom_8 : decode cX12_worksFrom 8 = .ok (.aload_n 0, 1) := by decide +kernel
theorem dX12_worksFrom_9 : decode cX12_worksFrom 9 = .ok (.getfield 108, 3) := by decide +kernel
theorem dX12_worksFrom_12 : decode cX12_worksFrom 12 = .ok (.iload_n 2, 1) := by decide +kernel
theorem dX12_worksFrom_13 : decode cX12_worksFrom 13 = .ok (.aload_n 0, 1) := by decide +kernel
theorem dX12_worksFrom_14 : decode cX12_worksFrom 14 = .ok (.getfield 102, 3) := by decide +kernel
theorem dX12_worksFrom_17 : decode cX12_worksFrom 17 = .ok (.bipush 60, 2) := by decide +kernel
theorem dX12_worksFrom_19 : decode cX12_worksFrom 19 = .ok (.iload_n 1, 1) := by decide +kernel
theorem dX12_worksFrom_20 : decode cX12_worksFrom 20 = .ok (.imul, 1) := by decide +kernel
theorem dX12_worksFrom_21 : decode cX12_worksFrom 21 = .ok (.iload_n 2, 1) := by decide +kernel
theorem dX12_worksFrom_22 : decode cX12_worksFrom 22 = .ok (.iadd, 1) := by decide +kernel
theorem dX12_worksFrom_23 : decode cX12_worksFrom 23 = .ok (.iaload, 1) := by decide +kernel
theorem dX12_worksFrom_24 : decode cX12_worksFrom 24 = .ok (.iastore, 1) := by decide +kernel
theorem dX12_worksFrom_25 : decode cX12_worksFrom 25 = .ok (.iinc 2 1, 3) := by decide +kernel
theorem dX12_worksFrom_28 : decode cX12_worksFrom 28 = .ok (.goto (-26), 3) := by decide +kernel
theorem dX12_worksFrom_31 : decode cX12_worksFrom 31 = .ok (.return_, 1) := by decide +kernel
abbrev k_X12_worksFrom (E : g_E) (l : Launch) (D : g_D) (v1 : Int) (K : g_D → Prop) : Prop := g_Kv E l m_X12_worksFrom 0 [g_R 208, g_I v1] g_SH D K
abbrev n_X12_worksFrom (E : g_E) (l : Launch) (D : g_D) (pc : Nat) (L : List (Option g_V)) (K : g_D → Prop) : Prop := g_N E l m_X12_worksFrom 0 pc L [] g_SH D (g_Rv g_SH K)
theorem s_X12_worksFrom {E : g_E} {l : Launch} {D : g_D} {K : g_D → Prop} {v1 : Int}  (hF : g_okD D → g_r v1 → n_X12_worksFrom E l D 2 [some (g_R 208), some (g_I v1), some (g_I 0)] K) : k_X12_worksFrom E l D v1 K := by
  refine g_enter (by decide) (Nat.le_of_ble_eq_true rfl) ?_
  show g_N E l m_X12_worksFrom 0 0 [some (g_R 208), some (g_I v1), none] [] g_SH D (g_Rv g_SH K)
  refine g_use (fun ok => ?_)
  have hF := hF ok.2.1 (ok.loc (i := 1) rfl)
  refine g_iconst dX12_worksFrom_0 ⟨by decide, by decide⟩ ?_
  refine gw_istore_n (L' := [some (g_R 208), some (g_I v1), some (g_I 0)]) dX12_worksFrom_1 (by decide) rfl ?_
  exact hF
theorem s_X12_worksFrom_2 {E : g_E} {l : Launch} {D : g_D} {K : g_D → Prop} {v1 : Int} {v2 : Int}  (hF : g_okD D → g_r v1 → g_r v2 → (60 ≤ v2 → K D) ∧ (¬ 60 ≤ v2 → (g_r (60 * v1)) ∧ ((g_r ((60 * v1) + v2)) ∧ ((0 ≤ ((60 * v1) + v2) ∧ ((60 * v1) + v2) < 24060) ∧ ((0 ≤ v2 ∧ v2 < 60) ∧ (∀ D1, D1 = g_up D 239 v2.toNat (D 237 ((60 * v1) + v2).toNat) → ((g_r (v2 + 1)) ∧ (n_X12_worksFrom E l D1 2 [some (g_R 208), some (g_I v1), some (g_I (v2 + 1))] K)))))))) : n_X12_worksFrom E l D 2 [some (g_R 208), some (g_I v1), some (g_I v2)] K := by
  refine g_use (fun ok => ?_)
  have hF := hF ok.2.1 (ok.loc (i := 1) rfl) (ok.loc (i := 2) rfl)
  refine g_iload_n dX12_worksFrom_2 rfl ?_
  refine g_bipush dX12_worksFrom_3 ⟨by decide, by decide⟩ ?_
  refine g_cge dX12_worksFrom_5 rfl (fun q => ?_) (fun q => ?_)
  · have hF := hF.1 q
    exact gw_vret dX12_worksFrom_31 rfl hF
  · have hF := hF.2 q
    refine g_aload_n dX12_worksFrom_8 rfl ?_
    refine g_getR dX12_worksFrom_9 fd_X12_108 sh_208 rfl ?_
    refine g_iload_n dX12_worksFrom_12 rfl ?_
    refine g_aload_n dX12_worksFrom_13 rfl ?_
    refine g_getR dX12_worksFrom_14 fd_X12_102 sh_208 rfl ?_
    refine g_bipush dX12_worksFrom_17 ⟨by decide, by decide⟩ ?_
    refine g_iload_n dX12_worksFrom_19 rfl ?_
    obtain ⟨hc, hF⟩ := hF
    refine g_imul dX12_worksFrom_20 hc ?_
    refine g_iload_n dX12_worksFrom_21 rfl ?_
    obtain ⟨hc, hF⟩ := hF
    refine g_iadd dX12_worksFrom_22 hc ?_
    obtain ⟨hc, hF⟩ := hF
    refine g_iald dX12_worksFrom_23 sh_237 hc.1 hc.2 ?_
    obtain ⟨hc, hF⟩ := hF
    let D1 : g_D := g_up D 239 v2.toNat (D 237 ((60 * v1) + v2).toNat)
    have hF := hF D1 rfl
    refine g_iast dX12_worksFrom_24 sh_239 hc.1 hc.2 ?_
    obtain ⟨hc, hF⟩ := hF
    refine gw_iinc (L' := [some (g_R 208), some (g_I v1), some (g_I (v2 + 1))]) dX12_worksFrom_25 rfl hc (by decide) rfl ?_
    refine g_goto dX12_worksFrom_28 rfl ?_
    exact hF
theorem dX12_doesSteps_0 : decode cX12_doesSteps 0 = .ok (.iload_n 1, 1) := by decide +kernel
theorem dX12_doesSteps_1 : decode cX12_doesSteps 1 = .ok (.istore_n 3, 1) := by decide +kernel
theorem dX12_doesSteps_2 : decode cX12_doesSteps 2 = .ok (.iload_n 3, 1) := by decide +kernel
theorem dX12_doesSteps_3 : decode cX12_doesSteps 3 = .ok (.iload_n 2, 1) := by decide +kernel
theorem dX12_doesSteps_4 : decode cX12_doesSteps 4 = .ok (.if_icmp .ge 14, 3) := by decide +kernel
theorem dX12_doesSteps_7 : decode cX12_doesSteps 7 = .ok (.aload_n 0, 1) := by decide +kernel
theorem dX12_doesSteps_8 : decode cX12_doesSteps 8 = .ok (.iload_n 3, 1) := by decide +kernel
theorem dX12_doesSteps_9 : decode cX12_doesSteps 9 = .ok (.invokevirtual 360, 3) := by decide +kernel
theorem dX12_doesSteps_12 : decode cX12_doesSteps 12 = .ok (.iinc 3 1, 3) := by decide +kernel
theorem dX12_doesSteps_15 : decode cX12_doesSteps 15 = .ok (.goto (-13), 3) := by decide +kernel
theorem dX12_doesSteps_18 : decode cX12_doesSteps 18 = .ok (.return_, 1) := by decide +kernel
abbrev k_X12_doesSteps (E : g_E) (l : Launch) (D : g_D) (v1 : Int) (v2 : Int) (K : g_D → Prop) : Prop := g_Kv E l m_X12_doesSteps 4 [g_R 208, g_I v1, g_I v2] g_SH D K
abbrev n_X12_doesSteps (E : g_E) (l : Launch) (D : g_D) (pc : Nat) (L : List (Option g_V)) (K : g_D → Prop) : Prop := g_N E l m_X12_doesSteps 4 pc L [] g_SH D (g_Rv g_SH K)
theorem s_X12_doesSteps {E : g_E} {l : Launch} {D : g_D} {K : g_D → Prop} {v1 : Int} {v2 : Int}  (hF : g_okD D → g_r v1 → g_r v2 → n_X12_doesSteps E l D 2 [some (g_R 208), none, some (g_I v2), some (g_I v1)] K) : k_X12_doesSteps E l D v1 v2 K := by
  refine g_enter (by decide) (Nat.le_of_ble_eq_true rfl) ?_
  show g_N E l m_X12_doesSteps 4 0 [some (g_R 208), some (g_I v1), some (g_I v2), none] [] g_SH D (g_Rv g_SH K)
  refine g_use (fun ok => ?_)
  have hF := hF ok.2.1 (ok.loc (i := 1) rfl) (ok.loc (i := 2) rfl)
  refine g_iload_n dX12_doesSteps_0 rfl ?_
  refine gw_istore_n (L' := [some (g_R 208), some (g_I v1), some (g_I v2), some (g_I v1)]) dX12_doesSteps_1 (by decide) rfl ?_
  exact g_forget (L' := [some (g_R 208), none, some (g_I v2), some (g_I v1)]) ⟨rfl, ⟨rfl, ⟨rfl, trivial⟩⟩⟩ hF
theorem s_X12_doesSteps_2 {E : g_E} {l : Launch} {D : g_D} {K : g_D → Prop} {v2 : Int} {v3 : Int}  (hF : g_okD D → g_r v2 → g_r v3 → (v2 ≤ v3 → K D) ∧ (¬ v2 ≤ v3 → k_X12_doesStep E l D v3 (fun D1 => (g_r (v3 + 1)) ∧ (n_X12_doesSteps E l D1 2 [some (g_R 208), none, some (g_I v2), some (g_I (v3 + 1))] K)))) : n_X12_doesSteps E l D 2 [some (g_R 208), none, some (g_I v2), some (g_I v3)] K := by
  refine g_use (fun ok => ?_)
  have hF := hF ok.2.1 (ok.loc (i := 2) rfl) (ok.loc (i := 3) rfl)
  refine g_iload_n dX12_doesSteps_2 rfl ?_
  refine g_iload_n dX12_doesSteps_3 rfl ?_
  refine g_cge dX12_doesSteps_4 rfl (fun q => ?_) (fun q => ?_)
  · have hF := hF.1 q
    exact gw_vret dX12_doesSteps_18 rfl hF
  · have hF := hF.2 q
    refine g_aload_n dX12_doesSteps_7 rfl ?_
    refine g_iload_n dX12_doesSteps_8 rfl ?_
    refine gw_cVv (b := 208) (As := [g_I v3]) (rest := []) dX12_doesSteps_9 mv_X12_360 sh_208 rfl (Nat.le_of_ble_eq_true rfl) (by decide) rfl hF ?_
    intro D1 hF
    obtain ⟨hc, hF⟩ := hF
    refine gw_iinc (L' := [some (g_R 208), none, some (g_I v2), some (g_I (v3 + 1))]) dX12_doesSteps_12 rfl hc (by decide) rfl ?_
    refine g_goto dX12_doesSteps_15 rfl ?_
    exact hF
theorem dX12_isRight_0 : decode cX12_isRight 0 = .ok (.iconst 0, 1) := by decide +kernel
theorem dX12_isRight_1 : decode cX12_isRight 1 = .ok (.istore_n 1, 1) := by decide +kernel
theorem dX12_isRight_2 : decode cX12_isRight 2 = .ok (.iload_n 1, 1) := by decide +kernel
theorem dX12_isRight_3 : decode cX12_isRight 3 = .ok (.bipush 40, 2) := by decide +kernel
theorem dX12_isRight_5 : decode cX12_isRight 5 = .ok (.if_icmp .ge 34, 3) := by decide +kernel
theorem dX12_isRight_8 : decode cX12_isRight 8 = .ok (.aload_n 0, 1) := by decide +kernel
theorem dX12_isRight_9 : decode cX12_isRight 9 = .ok (.getfield 108, 3) := by decide +kernel
theorem dX12_isRight_12 : decode cX12_isRight 12 = .ok (.iload_n 1, 1) := by decide +kernel
theorem dX12_isRight_13 : decode cX12_isRight 13 = .ok (.iaload, 1) := by decide +kernel
theorem dX12_isRight_14 : decode cX12_isRight 14 = .ok (.aload_n 0, 1) := by decide +kernel
theorem dX12_isRight_15 : decode cX12_isRight 15 = .ok (.getfield 102, 3) := by decide +kernel
theorem dX12_isRight_18 : decode cX12_isRight 18 = .ok (.bipush 60, 2) := by decide +kernel
theorem dX12_isRight_20 : decode cX12_isRight 20 = .ok (.aload_n 0, 1) := by decide +kernel
theorem dX12_isRight_21 : decode cX12_isRight 21 = .ok (.getfield 342, 3) := by decide +kernel
theorem dX12_isRight_24 : decode cX12_isRight 24 = .ok (.imul, 1) := by decide +kernel
theorem dX12_isRight_25 : decode cX12_isRight 25 = .ok (.iload_n 1, 1) := by decide +kernel
theorem dX12_isRight_26 : decode cX12_isRight 26 = .ok (.iadd, 1) := by decide +kernel
theorem dX12_isRight_27 : decode cX12_isRight 27 = .ok (.iaload, 1) := by decide +kernel
theorem dX12_isRight_28 : decode cX12_isRight 28 = .ok (.if_icmp .eq 5, 3) := by decide +kernel
theorem dX12_isRight_31 : decode cX12_isRight 31 = .ok (.iconst 0, 1) := by decide +kernel
theorem dX12_isRight_32 : decode cX12_isRight 32 = .ok (.ireturn, 1) := by decide +kernel
theorem dX12_isRight_33 : decode cX12_isRight 33 = .ok (.iinc 1 1, 3) := by decide +kernel
theorem dX12_isRight_36 : decode cX12_isRight 36 = .ok (.goto (-34), 3) := by decide +kernel
theorem dX12_isRight_39 : decode cX12_isRight 39 = .ok (.iconst 1, 1) := by decide +kernel
theorem dX12_isRight_40 : decode cX12_isRight 40 = .ok (.ireturn, 1) := by decide +kernel
abbrev k_X12_isRight (E : g_E) (l : Launch) (D : g_D) (K : Int → g_D → Prop) : Prop := g_Ki E l m_X12_isRight 0 [g_R 208] g_SH D K
abbrev n_X12_isRight (E : g_E) (l : Launch) (D : g_D) (pc : Nat) (L : List (Option g_V)) (K : Int → g_D → Prop) : Prop := g_N E l m_X12_isRight 0 pc L [] g_SH D (g_Ri g_SH K)
theorem s_X12_isRight {E : g_E} {l : Launch} {D : g_D} {K : Int → g_D → Prop}   (hF : g_okD D → n_X12_isRight E l D 2 [some (g_R 208), some (g_I 0)] K) : k_X12_isRight E l D K := by
  refine g_enter (by decide) (Nat.le_of_ble_eq_true rfl) ?_
  show g_N E l m_X12_isRight 0 0 [some (g_R 208), none] [] g_SH D (g_Ri g_SH K)
  refine g_use (fun ok => ?_)
  have hF := hF ok.2.1
  refine g_iconst dX12_isRight_0 ⟨by decide, by decide⟩ ?_
  refine gw_istore_n (L' := [some (g_R 208), some (g_I 0)]) dX12_isRight_1 (by decide) rfl ?_
  exact hF
theorem s_X12_isRight_2 {E : g_E} {l : Launch} {D : g_D} {K : Int → g_D → Prop} {v1 : Int}  (hF : g_okD D → g_r v1 → (40 ≤ v1 → K 1 D) ∧ (¬ 40 ≤ v1 → (0 ≤ v1 ∧ v1 < 60) ∧ ((g_r (60 * (D 208 46))) ∧ ((g_r ((60 * (D 208 46)) + v1)) ∧ ((0 ≤ ((60 * (D 208 46)) + v1) ∧ ((60 * (D 208 46)) + v1) < 24060) ∧ (((D 239 v1.toNat) = (D 237 ((60 * (D 208 46)) + v1).toNat) → (g_r (v1 + 1)) ∧ (n_X12_isRight E l D 2 [some (g_R 208), some (g_I (v1 + 1))] K)) ∧ (¬ (D 239 v1.toNat) = (D 237 ((60 * (D 208 46)) + v1).toNat) → K 0 D))))))) : n_X12_isRight E l D 2 [some (g_R 208), some (g_I v1)] K := by
  refine g_use (fun ok => ?_)
  have hF := hF ok.2.1 (ok.loc (i := 1) rfl)
  refine g_iload_n dX12_isRight_2 rfl ?_
  refine g_bipush dX12_isRight_3 ⟨by decide, by decide⟩ ?_
  refine g_cge dX12_isRight_5 rfl (fun q => ?_) (fun q => ?_)
  · have hF := hF.1 q
    refine g_iconst dX12_isRight_39 ⟨by decide, by decide⟩ ?_
    exact gw_zret dX12_isRight_40 rfl (by decide) hF
  · have hF := hF.2 q
    refine g_aload_n dX12_isRight_8 rfl ?_
    refine g_getR dX12_isRight_9 fd_X12_108 sh_208 rfl ?_
    refine g_iload_n dX12_isRight_12 rfl ?_
    obtain ⟨hc, hF⟩ := hF
    refine g_iald dX12_isRight_13 sh_239 hc.1 hc.2 ?_
    refine g_aload_n dX12_isRight_14 rfl ?_
    refine g_getR dX12_isRight_15 fd_X12_102 sh_208 rfl ?_
    refine g_bipush dX12_isRight_18 ⟨by decide, by decide⟩ ?_
    refine g_aload_n dX12_isRight_20 rfl ?_
    refine g_getI dX12_isRight_21 fd_X12_342 sh_208 rfl ?_
    obtain ⟨hc, hF⟩ := hF
    refine g_imul dX12_isRight_24 hc ?_
    refine g_iload_n dX12_isRight_25 rfl ?_
    obtain ⟨hc, hF⟩ := hF
    refine g_iadd dX12_isRight_26 hc ?_
    obtain ⟨hc, hF⟩ := hF
    refine g_iald dX12_isRight_27 sh_237 hc.1 hc.2 ?_
    refine g_ceq dX12_isRight_28 rfl (fun q => ?_) (fun q => ?_)
    · have hF := hF.1 q
      obtain ⟨hc, hF⟩ := hF
      refine gw_iinc (L' := [some (g_R 208), some (g_I (v1 + 1))]) dX12_isRight_33 rfl hc (by decide) rfl ?_
      refine g_goto dX12_isRight_36 rfl ?_
      exact hF
    · have hF := hF.2 q
      refine g_iconst dX12_isRight_31 ⟨by decide, by decide⟩ ?_
      exact gw_zret dX12_isRight_32 rfl (by decide) hF
theorem dX12_isHealed_0 : decode cX12_isHealed 0 = .ok (.aload_n 0, 1) := by decide +kernel
theorem dX12_isHealed_1 : decode cX12_isHealed 1 = .ok (.iload_n 1, 1) := by decide +kernel
theorem dX12_isHealed_2 : decode cX12_isHealed 2 = .ok (.invokevirtual 420, 3) := by decide +kernel
theorem dX12_isHealed_5 : decode cX12_isHealed 5 = .ok (.aload_n 0, 1) := by decide +kernel
theorem dX12_isHealed_6 : decode cX12_isHealed 6 = .ok (.iload_n 1, 1) := by decide +kernel
theorem dX12_isHealed_7 : decode cX12_isHealed 7 = .ok (.iload_n 2, 1) := by decide +kernel
theorem dX12_isHealed_8 : decode cX12_isHealed 8 = .ok (.iconst 2, 1) := by decide +kernel
theorem dX12_isHealed_9 : decode cX12_isHealed 9 = .ok (.invokevirtual 383, 3) := by decide +kernel
theorem dX12_isHealed_12 : decode cX12_isHealed 12 = .ok (.iload_n 3, 1) := by decide +kernel
theorem dX12_isHealed_13 : decode cX12_isHealed 13 = .ok (.iconst 3, 1) := by decide +kernel
theorem dX12_isHealed_14 : decode cX12_isHealed 14 = .ok (.if_icmp .ge 7, 3) := by decide +kernel
theorem dX12_isHealed_17 : decode cX12_isHealed 17 = .ok (.aload_n 0, 1) := by decide +kernel
theorem dX12_isHealed_18 : decode cX12_isHealed 18 = .ok (.invokevirtual 387, 3) := by decide +kernel
theorem dX12_isHealed_21 : decode cX12_isHealed 21 = .ok (.iload_n 3, 1) := by decide +kernel
theorem dX12_isHealed_22 : decode cX12_isHealed 22 = .ok (.iconst 2, 1) := by decide +kernel
theorem dX12_isHealed_23 : decode cX12_isHealed 23 = .ok (.if_icmp .ne 10, 3) := by decide +kernel
theorem dX12_isHealed_26 : decode cX12_isHealed 26 = .ok (.aload_n 0, 1) := by decide +kernel
theorem dX12_isHealed_27 : decode cX12_isHealed 27 = .ok (.invokevirtual 390, 3) := by decide +kernel
theorem dX12_isHealed_30 : decode cX12_isHealed 30 = .ok (.goto 23, 3) := by decide +kernel
theorem dX12_isHealed_33 : decode cX12_isHealed 33 = .ok (.iload_n 3, 1) := by decide +kernel
theorem dX12_isHealed_34 : decode cX12_isHealed 34 = .ok (.iconst 1, 1) := by decide +kernel
theorem dX12_isHealed_35 : decode cX12_isHealed 35 = .ok (.if_icmp .ne 17, 3) := by decide +kernel
theorem dX12_isHealed_38 : decode cX12_isHealed 38 = .ok (.aload_n 0, 1) := by decide +kernel
theorem dX12_isHealed_39 : decode cX12_isHealed 39 = .ok (.getfield 117, 3) := by decide +kernel
theorem dX12_isHealed_42 : decode cX12_isHealed 42 = .ok (.iconst (-1), 1) := by decide +kernel
theorem dX12_isHealed_43 : decode cX12_isHealed 43 = .ok (.if_icmp .eq 9, 3) := by decide +kernel
theorem dX12_isHealed_46 : decode cX12_isHealed 46 = .ok (.iload_n 1, 1) := by decide +kernel
theorem dX12_isHealed_47 : decode cX12_isHealed 47 = .ok (.iconst 1, 1) := by decide +kernel
theorem dX12_isHealed_48 : decode cX12_isHealed 48 = .ok (.iadd, 1) := by decide +kernel
theorem dX12_isHealed_49 : decode cX12_isHealed 49 = .ok (.goto 4, 3) := by decide +kernel
theorem dX12_isHealed_52 : decode cX12_isHealed 52 = .ok (.iload_n 1, 1) := by decide +kernel
theorem dX12_isHealed_53 : decode cX12_isHealed 53 = .ok (.istore 4, 2) := by decide +kernel
theorem dX12_isHealed_55 : decode cX12_isHealed 55 = .ok (.iload 4, 2) := by decide +kernel
theorem dX12_isHealed_57 : decode cX12_isHealed 57 = .ok (.iconst (-1), 1) := by decide +kernel
theorem dX12_isHealed_58 : decode cX12_isHealed 58 = .ok (.if_icmp .ne 5, 3) := by decide +kernel
theorem dX12_isHealed_61 : decode cX12_isHealed 61 = .ok (.iconst 0, 1) := by decide +kernel
theorem dX12_isHealed_62 : decode cX12_isHealed 62 = .ok (.ireturn, 1) := by decide +kernel
theorem dX12_isHealed_63 : decode cX12_isHealed 63 = .ok (.aload_n 0, 1) := by decide +kernel
theorem dX12_isHealed_64 : decode cX12_isHealed 64 = .ok (.iload 4, 2) := by decide +kernel
theorem dX12_isHealed_66 : decode cX12_isHealed 66 = .ok (.aload_n 0, 1) := by decide +kernel
theorem dX12_isHealed_67 : decode cX12_isHealed 67 = .ok (.getfield 342, 3) := by decide +kernel
theorem dX12_isHealed_70 : decode cX12_isHealed 70 = .ok (.invokevirtual 377, 3) := by decide +kernel
theorem dX12_isHealed_73 : decode cX12_isHealed 73 = .ok (.aload_n 0, 1) := by decide +kernel
theorem dX12_isHealed_74 : decode cX12_isHealed 74 = .ok (.invokevirtual 423, 3) := by decide +kernel
theorem dX12_isHealed_77 : decode cX12_isHealed 77 = .ok (.ireturn, 1) := by decide +kernel
abbrev k_X12_isHealed (E : g_E) (l : Launch) (D : g_D) (v1 : Int) (v2 : Int) (v3 : Int) (K : Int → g_D → Prop) : Prop := g_Ki E l m_X12_isHealed 5 [g_R 208, g_I v1, g_I v2, g_I v3] g_SH D K
abbrev n_X12_isHealed (E : g_E) (l : Launch) (D : g_D) (pc : Nat) (L : List (Option g_V)) (K : Int → g_D → Prop) : Prop := g_N E l m_X12_isHealed 5 pc L [] g_SH D (g_Ri g_SH K)
theorem s_X12_isHealed {E : g_E} {l : Launch} {D : g_D} {K : Int → g_D → Prop} {v1 : Int} {v2 : Int} {v3 : Int}  (hF : g_okD D → g_r v1 → g_r v2 → g_r v3 → k_X12_worksFrom E l D v1 (fun D1 => k_X12_cuts1 E l D1 v1 v2 2 (fun D2 => (3 ≤ v3 → (¬ v3 = 2 → (¬ v3 = 1 → (¬ v1 = (-1) → k_X12_doesSteps E l D2 v1 (D2 208 46) (fun D3 => k_X12_isRight E l D3 (fun x4 D4 => g_r x4 → (x4 = 0 ∨ x4 = 1) ∧ K x4 D4))) ∧ (v1 = (-1) → K 0 D2)) ∧ (v3 = 1 → ((D2 208 50) = (-1) → (¬ v1 = (-1) → k_X12_doesSteps E l D2 v1 (D2 208 46) (fun D5 => k_X12_isRight E l D5 (fun x6 D6 => g_r x6 → (x6 = 0 ∨ x6 = 1) ∧ K x6 D6))) ∧ (v1 = (-1) → K 0 D2)) ∧ (¬ (D2 208 50) = (-1) → (g_r (v1 + 1)) ∧ ((¬ (v1 + 1) = (-1) → k_X12_doesSteps E l D2 (v1 + 1) (D2 208 46) (fun D7 => k_X12_isRight E l D7 (fun x8 D8 => g_r x8 → (x8 = 0 ∨ x8 = 1) ∧ K x8 D8))) ∧ ((v1 + 1) = (-1) → K 0 D2))))) ∧ (v3 = 2 → k_X12_leastFit E l D2 (fun x9 D9 => g_r x9 → (¬ x9 = (-1) → k_X12_doesSteps E l D9 x9 (D9 208 46) (fun D10 => k_X12_isRight E l D10 (fun x11 D11 => g_r x11 → (x11 = 0 ∨ x11 = 1) ∧ K x11 D11))) ∧ (x9 = (-1) → K 0 D9)))) ∧ (¬ 3 ≤ v3 → k_X12_writesJournal E l D2 (fun D12 => (¬ v3 = 2 → (¬ v3 = 1 → (¬ v1 = (-1) → k_X12_doesSteps E l D12 v1 (D12 208 46) (fun D13 => k_X12_isRight E l D13 (fun x14 D14 => g_r x14 → (x14 = 0 ∨ x14 = 1) ∧ K x14 D14))) ∧ (v1 = (-1) → K 0 D12)) ∧ (v3 = 1 → ((D12 208 50) = (-1) → (¬ v1 = (-1) → k_X12_doesSteps E l D12 v1 (D12 208 46) (fun D15 => k_X12_isRight E l D15 (fun x16 D16 => g_r x16 → (x16 = 0 ∨ x16 = 1) ∧ K x16 D16))) ∧ (v1 = (-1) → K 0 D12)) ∧ (¬ (D12 208 50) = (-1) → (g_r (v1 + 1)) ∧ ((¬ (v1 + 1) = (-1) → k_X12_doesSteps E l D12 (v1 + 1) (D12 208 46) (fun D17 => k_X12_isRight E l D17 (fun x18 D18 => g_r x18 → (x18 = 0 ∨ x18 = 1) ∧ K x18 D18))) ∧ ((v1 + 1) = (-1) → K 0 D12))))) ∧ (v3 = 2 → k_X12_leastFit E l D12 (fun x19 D19 => g_r x19 → (¬ x19 = (-1) → k_X12_doesSteps E l D19 x19 (D19 208 46) (fun D20 => k_X12_isRight E l D20 (fun x21 D21 => g_r x21 → (x21 = 0 ∨ x21 = 1) ∧ K x21 D21))) ∧ (x19 = (-1) → K 0 D19)))))))) : k_X12_isHealed E l D v1 v2 v3 K := by
  refine g_enter (by decide) (Nat.le_of_ble_eq_true rfl) ?_
  show g_N E l m_X12_isHealed 5 0 [some (g_R 208), some (g_I v1), some (g_I v2), some (g_I v3), none] [] g_SH D (g_Ri g_SH K)
  refine g_use (fun ok => ?_)
  have hF := hF ok.2.1 (ok.loc (i := 1) rfl) (ok.loc (i := 2) rfl) (ok.loc (i := 3) rfl)
  refine g_aload_n dX12_isHealed_0 rfl ?_
  refine g_iload_n dX12_isHealed_1 rfl ?_
  refine gw_cVv (b := 208) (As := [g_I v1]) (rest := []) dX12_isHealed_2 mv_X12_420 sh_208 rfl (Nat.le_of_ble_eq_true rfl) (by decide) rfl hF ?_
  intro D1 hF
  refine g_aload_n dX12_isHealed_5 rfl ?_
  refine g_iload_n dX12_isHealed_6 rfl ?_
  refine g_iload_n dX12_isHealed_7 rfl ?_
  refine g_iconst dX12_isHealed_8 ⟨by decide, by decide⟩ ?_
  refine gw_cVv (b := 208) (As := [g_I v1, g_I v2, g_I 2]) (rest := []) dX12_isHealed_9 mv_X12_383 sh_208 rfl (Nat.le_of_ble_eq_true rfl) (by decide) rfl hF ?_
  intro D2 hF
  refine g_iload_n dX12_isHealed_12 rfl ?_
  refine g_iconst dX12_isHealed_13 ⟨by decide, by decide⟩ ?_
  refine g_cge dX12_isHealed_14 rfl (fun q => ?_) (fun q => ?_)
  · have hF := hF.1 q
    refine g_iload_n dX12_isHealed_21 rfl ?_
    refine g_iconst dX12_isHealed_22 ⟨by decide, by decide⟩ ?_
    refine g_cne dX12_isHealed_23 rfl (fun q => ?_) (fun q => ?_)
    · have hF := hF.1 q
      refine g_iload_n dX12_isHealed_33 rfl ?_
      refine g_iconst dX12_isHealed_34 ⟨by decide, by decide⟩ ?_
      refine g_cne dX12_isHealed_35 rfl (fun q => ?_) (fun q => ?_)
      · have hF := hF.1 q
        refine g_iload_n dX12_isHealed_52 rfl ?_
        refine gw_istore (L' := [some (g_R 208), some (g_I v1), some (g_I v2), some (g_I v3), some (g_I v1)]) dX12_isHealed_53 (by decide) rfl ?_
        refine g_iload dX12_isHealed_55 rfl ?_
        refine g_iconst dX12_isHealed_57 ⟨by decide, by decide⟩ ?_
        refine g_cne dX12_isHealed_58 rfl (fun q => ?_) (fun q => ?_)
        · have hF := hF.1 q
          refine g_aload_n dX12_isHealed_63 rfl ?_
          refine g_iload dX12_isHealed_64 rfl ?_
          refine g_aload_n dX12_isHealed_66 rfl ?_
          refine g_getI dX12_isHealed_67 fd_X12_342 sh_208 rfl ?_
          refine gw_cVv (b := 208) (As := [g_I v1, g_I (D2 208 46)]) (rest := []) dX12_isHealed_70 mv_X12_377 sh_208 rfl (Nat.le_of_ble_eq_true rfl) (by decide) rfl hF ?_
          intro D3 hF
          refine g_aload_n dX12_isHealed_73 rfl ?_
          refine gw_cVi (b := 208) (As := []) (rest := []) dX12_isHealed_74 mv_X12_423 sh_208 rfl (Nat.le_of_ble_eq_true rfl) (by decide) rfl hF ?_
          intro x4 D4 hx4 hF
          have hF := hF hx4
          exact gw_zret dX12_isHealed_77 rfl hF.1 hF.2
        · have hF := hF.2 q
          refine g_iconst dX12_isHealed_61 ⟨by decide, by decide⟩ ?_
          exact gw_zret dX12_isHealed_62 rfl (by decide) hF
      · have hF := hF.2 q
        refine g_aload_n dX12_isHealed_38 rfl ?_
        refine g_getI dX12_isHealed_39 fd_X12_117 sh_208 rfl ?_
        refine g_iconst dX12_isHealed_42 ⟨by decide, by decide⟩ ?_
        refine g_ceq dX12_isHealed_43 rfl (fun q => ?_) (fun q => ?_)
        · have hF := hF.1 q
          refine g_iload_n dX12_isHealed_52 rfl ?_
          refine gw_istore (L' := [some (g_R 208), some (g_I v1), some (g_I v2), some (g_I v3), some (g_I v1)]) dX12_isHealed_53 (by decide) rfl ?_
          refine g_iload dX12_isHealed_55 rfl ?_
          refine g_iconst dX12_isHealed_57 ⟨by decide, by decide⟩ ?_
          refine g_cne dX12_isHealed_58 rfl (fun q => ?_) (fun q => ?_)
          · have hF := hF.1 q
            refine g_aload_n dX12_isHealed_63 rfl ?_
            refine g_iload dX12_isHealed_64 rfl ?_
            refine g_aload_n dX12_isHealed_66 rfl ?_
            refine g_getI dX12_isHealed_67 fd_X12_342 sh_208 rfl ?_
            refine gw_cVv (b := 208) (As := [g_I v1, g_I (D2 208 46)]) (rest := []) dX12_isHealed_70 mv_X12_377 sh_208 rfl (Nat.le_of_ble_eq_true rfl) (by decide) rfl hF ?_
            intro D5 hF
            refine g_aload_n dX12_isHealed_73 rfl ?_
            refine gw_cVi (b := 208) (As := []) (rest := []) dX12_isHealed_74 mv_X12_423 sh_208 rfl (Nat.le_of_ble_eq_true rfl) (by decide) rfl hF ?_
            intro x6 D6 hx6 hF
            have hF := hF hx6
            exact gw_zret dX12_isHealed_77 rfl hF.1 hF.2
          · have hF := hF.2 q
            refine g_iconst dX12_isHealed_61 ⟨by decide, by decide⟩ ?_
            exact gw_zret dX12_isHealed_62 rfl (by decide) hF
        · have hF := hF.2 q
          refine g_iload_n dX12_isHealed_46 rfl ?_
          refine g_iconst dX12_isHealed_47 ⟨by decide, by decide⟩ ?_
          obtain ⟨hc, hF⟩ := hF
          refine g_iadd dX12_isHealed_48 hc ?_
          refine g_goto dX12_isHealed_49 rfl ?_
          refine gw_istore (L' := [some (g_R 208), some (g_I v1), some (g_I v2), some (g_I v3), some (g_I (v1 + 1))]) dX12_isHealed_53 (by decide) rfl ?_
          refine g_iload dX12_isHealed_55 rfl ?_
          refine g_iconst dX12_isHealed_57 ⟨by decide, by decide⟩ ?_
          refine g_cne dX12_isHealed_58 rfl (fun q => ?_) (fun q => ?_)
          · have hF := hF.1 q
            refine g_aload_n dX12_isHealed_63 rfl ?_
            refine g_iload dX12_isHealed_64 rfl ?_
            refine g_aload_n dX12_isHealed_66 rfl ?_
            refine g_getI dX12_isHealed_67 fd_X12_342 sh_208 rfl ?_
            refine gw_cVv (b := 208) (As := [g_I (v1 + 1), g_I (D2 208 46)]) (rest := []) dX12_isHealed_70 mv_X12_377 sh_208 rfl (Nat.le_of_ble_eq_true rfl) (by decide) rfl hF ?_
            intro D7 hF
            refine g_aload_n dX12_isHealed_73 rfl ?_
            refine gw_cVi (b := 208) (As := []) (rest := []) dX12_isHealed_74 mv_X12_423 sh_208 rfl (Nat.le_of_ble_eq_true rfl) (by decide) rfl hF ?_
            intro x8 D8 hx8 hF
            have hF := hF hx8
            exact gw_zret dX12_isHealed_77 rfl hF.1 hF.2
          · have hF := hF.2 q
            refine g_iconst dX12_isHealed_61 ⟨by decide, by decide⟩ ?_
            exact gw_zret dX12_isHealed_62 rfl (by decide) hF
    · have hF := hF.2 q
      refine g_aload_n dX12_isHealed_26 rfl ?_
      refine gw_cVi (b := 208) (As := []) (rest := []) dX12_isHealed_27 mv_X12_390 sh_208 rfl (Nat.le_of_ble_eq_true rfl) (by decide) rfl hF ?_
      intro x9 D9 hx9 hF
      have hF := hF hx9
      refine g_goto dX12_isHealed_30 rfl ?_
      refine gw_istore (L' := [some (g_R 208), some (g_I v1), some (g_I v2), some (g_I v3), some (g_I x9)]) dX12_isHealed_53 (by decide) rfl ?_
      refine g_iload dX12_isHealed_55 rfl ?_
      refine g_iconst dX12_isHealed_57 ⟨by decide, by decide⟩ ?_
      refine g_cne dX12_isHealed_58 rfl (fun q => ?_) (fun q => ?_)
      · have hF := hF.1 q
        refine g_aload_n dX12_isHealed_63 rfl ?_
        refine g_iload dX12_isHealed_64 rfl ?_
        refine g_aload_n dX12_isHealed_66 rfl ?_
        refine g_getI dX12_isHealed_67 fd_X12_342 sh_208 rfl ?_
        refine gw_cVv (b := 208) (As := [g_I x9, g_I (D9 208 46)]) (rest := []) dX12_isHealed_70 mv_X12_377 sh_208 rfl (Nat.le_of_ble_eq_true rfl) (by decide) rfl hF ?_
        intro D10 hF
        refine g_aload_n dX12_isHealed_73 rfl ?_
        refine gw_cVi (b := 208) (As := []) (rest := []) dX12_isHealed_74 mv_X12_423 sh_208 rfl (Nat.le_of_ble_eq_true rfl) (by decide) rfl hF ?_
        intro x11 D11 hx11 hF
        have hF := hF hx11
        exact gw_zret dX12_isHealed_77 rfl hF.1 hF.2
      · have hF := hF.2 q
        refine g_iconst dX12_isHealed_61 ⟨by decide, by decide⟩ ?_
        exact gw_zret dX12_isHealed_62 rfl (by decide) hF
  · have hF := hF.2 q
    refine g_aload_n dX12_isHealed_17 rfl ?_
    refine gw_cVv (b := 208) (As := []) (rest := []) dX12_isHealed_18 mv_X12_387 sh_208 rfl (Nat.le_of_ble_eq_true rfl) (by decide) rfl hF ?_
    intro D12 hF
    refine g_iload_n dX12_isHealed_21 rfl ?_
    refine g_iconst dX12_isHealed_22 ⟨by decide, by decide⟩ ?_
    refine g_cne dX12_isHealed_23 rfl (fun q => ?_) (fun q => ?_)
    · have hF := hF.1 q
      refine g_iload_n dX12_isHealed_33 rfl ?_
      refine g_iconst dX12_isHealed_34 ⟨by decide, by decide⟩ ?_
      refine g_cne dX12_isHealed_35 rfl (fun q => ?_) (fun q => ?_)
      · have hF := hF.1 q
        refine g_iload_n dX12_isHealed_52 rfl ?_
        refine gw_istore (L' := [some (g_R 208), some (g_I v1), some (g_I v2), some (g_I v3), some (g_I v1)]) dX12_isHealed_53 (by decide) rfl ?_
        refine g_iload dX12_isHealed_55 rfl ?_
        refine g_iconst dX12_isHealed_57 ⟨by decide, by decide⟩ ?_
        refine g_cne dX12_isHealed_58 rfl (fun q => ?_) (fun q => ?_)
        · have hF := hF.1 q
          refine g_aload_n dX12_isHealed_63 rfl ?_
          refine g_iload dX12_isHealed_64 rfl ?_
          refine g_aload_n dX12_isHealed_66 rfl ?_
          refine g_getI dX12_isHealed_67 fd_X12_342 sh_208 rfl ?_
          refine gw_cVv (b := 208) (As := [g_I v1, g_I (D12 208 46)]) (rest := []) dX12_isHealed_70 mv_X12_377 sh_208 rfl (Nat.le_of_ble_eq_true rfl) (by decide) rfl hF ?_
          intro D13 hF
          refine g_aload_n dX12_isHealed_73 rfl ?_
          refine gw_cVi (b := 208) (As := []) (rest := []) dX12_isHealed_74 mv_X12_423 sh_208 rfl (Nat.le_of_ble_eq_true rfl) (by decide) rfl hF ?_
          intro x14 D14 hx14 hF
          have hF := hF hx14
          exact gw_zret dX12_isHealed_77 rfl hF.1 hF.2
        · have hF := hF.2 q
          refine g_iconst dX12_isHealed_61 ⟨by decide, by decide⟩ ?_
          exact gw_zret dX12_isHealed_62 rfl (by decide) hF
      · have hF := hF.2 q
        refine g_aload_n dX12_isHealed_38 rfl ?_
        refine g_getI dX12_isHealed_39 fd_X12_117 sh_208 rfl ?_
        refine g_iconst dX12_isHealed_42 ⟨by decide, by decide⟩ ?_
        refine g_ceq dX12_isHealed_43 rfl (fun q => ?_) (fun q => ?_)
        · have hF := hF.1 q
          refine g_iload_n dX12_isHealed_52 rfl ?_
          refine gw_istore (L' := [some (g_R 208), some (g_I v1), some (g_I v2), some (g_I v3), some (g_I v1)]) dX12_isHealed_53 (by decide) rfl ?_
          refine g_iload dX12_isHealed_55 rfl ?_
          refine g_iconst dX12_isHealed_57 ⟨by decide, by decide⟩ ?_
          refine g_cne dX12_isHealed_58 rfl (fun q => ?_) (fun q => ?_)
          · have hF := hF.1 q
            refine g_aload_n dX12_isHealed_63 rfl ?_
            refine g_iload dX12_isHealed_64 rfl ?_
            refine g_aload_n dX12_isHealed_66 rfl ?_
            refine g_getI dX12_isHealed_67 fd_X12_342 sh_208 rfl ?_
            refine gw_cVv (b := 208) (As := [g_I v1, g_I (D12 208 46)]) (rest := []) dX12_isHealed_70 mv_X12_377 sh_208 rfl (Nat.le_of_ble_eq_true rfl) (by decide) rfl hF ?_
            intro D15 hF
            refine g_aload_n dX12_isHealed_73 rfl ?_
            refine gw_cVi (b := 208) (As := []) (rest := []) dX12_isHealed_74 mv_X12_423 sh_208 rfl (Nat.le_of_ble_eq_true rfl) (by decide) rfl hF ?_
            intro x16 D16 hx16 hF
            have hF := hF hx16
            exact gw_zret dX12_isHealed_77 rfl hF.1 hF.2
          · have hF := hF.2 q
            refine g_iconst dX12_isHealed_61 ⟨by decide, by decide⟩ ?_
            exact gw_zret dX12_isHealed_62 rfl (by decide) hF
        · have hF := hF.2 q
          refine g_iload_n dX12_isHealed_46 rfl ?_
          refine g_iconst dX12_isHealed_47 ⟨by decide, by decide⟩ ?_
          obtain ⟨hc, hF⟩ := hF
          refine g_iadd dX12_isHealed_48 hc ?_
          refine g_goto dX12_isHealed_49 rfl ?_
          refine gw_istore (L' := [some (g_R 208), some (g_I v1), some (g_I v2), some (g_I v3), some (g_I (v1 + 1))]) dX12_isHealed_53 (by decide) rfl ?_
          refine g_iload dX12_isHealed_55 rfl ?_
          refine g_iconst dX12_isHealed_57 ⟨by decide, by decide⟩ ?_
          refine g_cne dX12_isHealed_58 rfl (fun q => ?_) (fun q => ?_)
          · have hF := hF.1 q
            refine g_aload_n dX12_isHealed_63 rfl ?_
            refine g_iload dX12_isHealed_64 rfl ?_
            refine g_aload_n dX12_isHealed_66 rfl ?_
            refine g_getI dX12_isHealed_67 fd_X12_342 sh_208 rfl ?_
            refine gw_cVv (b := 208) (As := [g_I (v1 + 1), g_I (D12 208 46)]) (rest := []) dX12_isHealed_70 mv_X12_377 sh_208 rfl (Nat.le_of_ble_eq_true rfl) (by decide) rfl hF ?_
            intro D17 hF
            refine g_aload_n dX12_isHealed_73 rfl ?_
            refine gw_cVi (b := 208) (As := []) (rest := []) dX12_isHealed_74 mv_X12_423 sh_208 rfl (Nat.le_of_ble_eq_true rfl) (by decide) rfl hF ?_
            intro x18 D18 hx18 hF
            have hF := hF hx18
            exact gw_zret dX12_isHealed_77 rfl hF.1 hF.2
          · have hF := hF.2 q
            refine g_iconst dX12_isHealed_61 ⟨by decide, by decide⟩ ?_
            exact gw_zret dX12_isHealed_62 rfl (by decide) hF
    · have hF := hF.2 q
      refine g_aload_n dX12_isHealed_26 rfl ?_
      refine gw_cVi (b := 208) (As := []) (rest := []) dX12_isHealed_27 mv_X12_390 sh_208 rfl (Nat.le_of_ble_eq_true rfl) (by decide) rfl hF ?_
      intro x19 D19 hx19 hF
      have hF := hF hx19
      refine g_goto dX12_isHealed_30 rfl ?_
      refine gw_istore (L' := [some (g_R 208), some (g_I v1), some (g_I v2), some (g_I v3), some (g_I x19)]) dX12_isHealed_53 (by decide) rfl ?_
      refine g_iload dX12_isHealed_55 rfl ?_
      refine g_iconst dX12_isHealed_57 ⟨by decide, by decide⟩ ?_
      refine g_cne dX12_isHealed_58 rfl (fun q => ?_) (fun q => ?_)
      · have hF := hF.1 q
        refine g_aload_n dX12_isHealed_63 rfl ?_
        refine g_iload dX12_isHealed_64 rfl ?_
        refine g_aload_n dX12_isHealed_66 rfl ?_
        refine g_getI dX12_isHealed_67 fd_X12_342 sh_208 rfl ?_
        refine gw_cVv (b := 208) (As := [g_I x19, g_I (D19 208 46)]) (rest := []) dX12_isHealed_70 mv_X12_377 sh_208 rfl (Nat.le_of_ble_eq_true rfl) (by decide) rfl hF ?_
        intro D20 hF
        refine g_aload_n dX12_isHealed_73 rfl ?_
        refine gw_cVi (b := 208) (As := []) (rest := []) dX12_isHealed_74 mv_X12_423 sh_208 rfl (Nat.le_of_ble_eq_true rfl) (by decide) rfl hF ?_
        intro x21 D21 hx21 hF
        have hF := hF hx21
        exact gw_zret dX12_isHealed_77 rfl hF.1 hF.2
      · have hF := hF.2 q
        refine g_iconst dX12_isHealed_61 ⟨by decide, by decide⟩ ?_
        exact gw_zret dX12_isHealed_62 rfl (by decide) hF
theorem dX12_healed_0 : decode cX12_healed 0 = .ok (.aload_n 0, 1) := by decide +kernel
theorem dX12_healed_1 : decode cX12_healed 1 = .ok (.invokevirtual 369, 3) := by decide +kernel
theorem dX12_healed_4 : decode cX12_healed 4 = .ok (.iconst 0, 1) := by decide +kernel
theorem dX12_healed_5 : decode cX12_healed 5 = .ok (.istore_n 2, 1) := by decide +kernel
theorem dX12_healed_6 : decode cX12_healed 6 = .ok (.iconst 0, 1) := by decide +kernel
theorem dX12_healed_7 : decode cX12_healed 7 = .ok (.istore_n 3, 1) := by decide +kernel
theorem dX12_healed_8 : decode cX12_healed 8 = .ok (.iload_n 3, 1) := by decide +kernel
theorem dX12_healed_9 : decode cX12_healed 9 = .ok (.aload_n 0, 1) := by decide +kernel
theorem dX12_healed_10 : decode cX12_healed 10 = .ok (.getfield 342, 3) := by decide +kernel
theorem dX12_healed_13 : decode cX12_healed 13 = .ok (.if_icmp .ge 47, 3) := by decide +kernel
theorem dX12_healed_16 : decode cX12_healed 16 = .ok (.iconst 0, 1) := by decide +kernel
theorem dX12_healed_17 : decode cX12_healed 17 = .ok (.istore 4, 2) := by decide +kernel
theorem dX12_healed_19 : decode cX12_healed 19 = .ok (.iload 4, 2) := by decide +kernel
theorem dX12_healed_21 : decode cX12_healed 21 = .ok (.iconst 4, 1) := by decide +kernel
theorem dX12_healed_22 : decode cX12_healed 22 = .ok (.if_icmp .ge 32, 3) := by decide +kernel
theorem dX12_healed_25 : decode cX12_healed 25 = .ok (.iload_n 2, 1) := by decide +kernel
theorem dX12_healed_26 : decode cX12_healed 26 = .ok (.iload_n 1, 1) := by decide +kernel
theorem dX12_healed_27 : decode cX12_healed 27 = .ok (.ifCond .eq 14, 3) := by decide +kernel
theorem dX12_healed_30 : decode cX12_healed 30 = .ok (.aload_n 0, 1) := by decide +kernel
theorem dX12_healed_31 : decode cX12_healed 31 = .ok (.iload_n 3, 1) := by decide +kernel
theorem dX12_healed_32 : decode cX12_healed 32 = .ok (.iload 4, 2) := by decide +kernel
theorem dX12_healed_34 : decode cX12_healed 34 = .ok (.iload_n 1, 1) := by decide +kernel
theorem dX12_healed_35 : decode cX12_healed 35 = .ok (.invokevirtual 427, 3) := by decide +kernel
theorem dX12_healed_38 : decode cX12_healed 38 = .ok (.ifCond .eq 7, 3) := by decide +kernel
theorem dX12_healed_41 : decode cX12_healed 41 = .ok (.iconst 1, 1) := by decide +kernel
theorem dX12_healed_42 : decode cX12_healed 42 = .ok (.goto 4, 3) := by decide +kernel
theorem dX12_healed_45 : decode cX12_healed 45 = .ok (.iconst 0, 1) := by decide +kernel
theorem dX12_healed_46 : decode cX12_healed 46 = .ok (.iadd, 1) := by decide +kernel
theorem dX12_healed_47 : decode cX12_healed 47 = .ok (.istore_n 2, 1) := by decide +kernel
theorem dX12_healed_48 : decode cX12_healed 48 = .ok (.iinc 4 1, 3) := by decide +kernel
theorem dX12_healed_51 : decode cX12_healed 51 = .ok (.goto (-32), 3) := by decide +kernel
theorem dX12_healed_54 : decode cX12_healed 54 = .ok (.iinc 3 1, 3) := by decide +kernel
theorem dX12_healed_57 : decode cX12_healed 57 = .ok (.goto (-49), 3) := by decide +kernel
theorem dX12_healed_60 : decode cX12_healed 60 = .ok (.iload_n 2, 1) := by decide +kernel
theorem dX12_healed_61 : decode cX12_healed 61 = .ok (.ireturn, 1) := by decide +kernel
abbrev k_X12_healed (E : g_E) (l : Launch) (D : g_D) (v1 : Int) (K : Int → g_D → Prop) : Prop := g_Ki E l m_X12_healed 6 [g_R 208, g_I v1] g_SH D K
abbrev n_X12_healed (E : g_E) (l : Launch) (D : g_D) (pc : Nat) (L : List (Option g_V)) (K : Int → g_D → Prop) : Prop := g_N E l m_X12_healed 6 pc L [] g_SH D (g_Ri g_SH K)
theorem s_X12_healed {E : g_E} {l : Launch} {D : g_D} {K : Int → g_D → Prop} {v1 : Int}  (hF : g_okD D → g_r v1 → k_X12_laysDue E l D (fun D1 => n_X12_healed E l D1 8 [some (g_R 208), some (g_I v1), some (g_I 0), some (g_I 0), none] K)) : k_X12_healed E l D v1 K := by
  refine g_enter (by decide) (Nat.le_of_ble_eq_true rfl) ?_
  show g_N E l m_X12_healed 6 0 [some (g_R 208), some (g_I v1), none, none, none] [] g_SH D (g_Ri g_SH K)
  refine g_use (fun ok => ?_)
  have hF := hF ok.2.1 (ok.loc (i := 1) rfl)
  refine g_aload_n dX12_healed_0 rfl ?_
  refine gw_cVv (b := 208) (As := []) (rest := []) dX12_healed_1 mv_X12_369 sh_208 rfl (Nat.le_of_ble_eq_true rfl) (by decide) rfl hF ?_
  intro D1 hF
  refine g_iconst dX12_healed_4 ⟨by decide, by decide⟩ ?_
  refine gw_istore_n (L' := [some (g_R 208), some (g_I v1), some (g_I 0), none, none]) dX12_healed_5 (by decide) rfl ?_
  refine g_iconst dX12_healed_6 ⟨by decide, by decide⟩ ?_
  refine gw_istore_n (L' := [some (g_R 208), some (g_I v1), some (g_I 0), some (g_I 0), none]) dX12_healed_7 (by decide) rfl ?_
  exact hF
theorem s_X12_healed_8 {E : g_E} {l : Launch} {D : g_D} {K : Int → g_D → Prop} {v1 : Int} {v2 : Int} {v3 : Int}  (hF : g_okD D → g_r v1 → g_r v2 → g_r v3 → ((D 208 46) ≤ v3 → K v2 D) ∧ (¬ (D 208 46) ≤ v3 → n_X12_healed E l D 19 [some (g_R 208), some (g_I v1), some (g_I v2), some (g_I v3), some (g_I 0)] K)) : n_X12_healed E l D 8 [some (g_R 208), some (g_I v1), some (g_I v2), some (g_I v3), none] K := by
  refine g_use (fun ok => ?_)
  have hF := hF ok.2.1 (ok.loc (i := 1) rfl) (ok.loc (i := 2) rfl) (ok.loc (i := 3) rfl)
  refine g_iload_n dX12_healed_8 rfl ?_
  refine g_aload_n dX12_healed_9 rfl ?_
  refine g_getI dX12_healed_10 fd_X12_342 sh_208 rfl ?_
  refine g_cge dX12_healed_13 rfl (fun q => ?_) (fun q => ?_)
  · have hF := hF.1 q
    refine g_iload_n dX12_healed_60 rfl ?_
    exact gw_iret dX12_healed_61 rfl hF
  · have hF := hF.2 q
    refine g_iconst dX12_healed_16 ⟨by decide, by decide⟩ ?_
    refine gw_istore (L' := [some (g_R 208), some (g_I v1), some (g_I v2), some (g_I v3), some (g_I 0)]) dX12_healed_17 (by decide) rfl ?_
    exact hF
theorem s_X12_healed_19 {E : g_E} {l : Launch} {D : g_D} {K : Int → g_D → Prop} {v1 : Int} {v2 : Int} {v3 : Int} {v4 : Int}  (hF : g_okD D → g_r v1 → g_r v2 → g_r v3 → g_r v4 → (4 ≤ v4 → (g_r (v3 + 1)) ∧ (n_X12_healed E l D 8 [some (g_R 208), some (g_I v1), some (g_I v2), some (g_I (v3 + 1)), none] K)) ∧ (¬ 4 ≤ v4 → (v1 = 0 → (g_r (v2 + 1)) ∧ ((g_r (v4 + 1)) ∧ (n_X12_healed E l D 19 [some (g_R 208), some (g_I v1), some (g_I (v2 + 1)), some (g_I v3), some (g_I (v4 + 1))] K))) ∧ (¬ v1 = 0 → k_X12_isHealed E l D v3 v4 v1 (fun x1 D1 => g_r x1 → (x1 = 0 → (g_r (v2 + 0)) ∧ ((g_r (v4 + 1)) ∧ (n_X12_healed E l D1 19 [some (g_R 208), some (g_I v1), some (g_I (v2 + 0)), some (g_I v3), some (g_I (v4 + 1))] K))) ∧ (¬ x1 = 0 → (g_r (v2 + 1)) ∧ ((g_r (v4 + 1)) ∧ (n_X12_healed E l D1 19 [some (g_R 208), some (g_I v1), some (g_I (v2 + 1)), some (g_I v3), some (g_I (v4 + 1))] K))))))) : n_X12_healed E l D 19 [some (g_R 208), some (g_I v1), some (g_I v2), some (g_I v3), some (g_I v4)] K := by
  refine g_use (fun ok => ?_)
  have hF := hF ok.2.1 (ok.loc (i := 1) rfl) (ok.loc (i := 2) rfl) (ok.loc (i := 3) rfl) (ok.loc (i := 4) rfl)
  refine g_iload dX12_healed_19 rfl ?_
  refine g_iconst dX12_healed_21 ⟨by decide, by decide⟩ ?_
  refine g_cge dX12_healed_22 rfl (fun q => ?_) (fun q => ?_)
  · have hF := hF.1 q
    obtain ⟨hc, hF⟩ := hF
    refine gw_iinc (L' := [some (g_R 208), some (g_I v1), some (g_I v2), some (g_I (v3 + 1)), some (g_I v4)]) dX12_healed_54 rfl hc (by decide) rfl ?_
    refine g_goto dX12_healed_57 rfl ?_
    exact g_forget (L' := [some (g_R 208), some (g_I v1), some (g_I v2), some (g_I (v3 + 1)), none]) ⟨rfl, ⟨rfl, ⟨rfl, ⟨rfl, trivial⟩⟩⟩⟩ hF
  · have hF := hF.2 q
    refine g_iload_n dX12_healed_25 rfl ?_
    refine g_iload_n dX12_healed_26 rfl ?_
    refine g_ifeq dX12_healed_27 rfl (fun q => ?_) (fun q => ?_)
    · have hF := hF.1 q
      refine g_iconst dX12_healed_41 ⟨by decide, by decide⟩ ?_
      refine g_goto dX12_healed_42 rfl ?_
      obtain ⟨hc, hF⟩ := hF
      refine g_iadd dX12_healed_46 hc ?_
      refine gw_istore_n (L' := [some (g_R 208), some (g_I v1), some (g_I (v2 + 1)), some (g_I v3), some (g_I v4)]) dX12_healed_47 (by decide) rfl ?_
      obtain ⟨hc, hF⟩ := hF
      refine gw_iinc (L' := [some (g_R 208), some (g_I v1), some (g_I (v2 + 1)), some (g_I v3), some (g_I (v4 + 1))]) dX12_healed_48 rfl hc (by decide) rfl ?_
      refine g_goto dX12_healed_51 rfl ?_
      exact hF
    · have hF := hF.2 q
      refine g_aload_n dX12_healed_30 rfl ?_
      refine g_iload_n dX12_healed_31 rfl ?_
      refine g_iload dX12_healed_32 rfl ?_
      refine g_iload_n dX12_healed_34 rfl ?_
      refine gw_cVi (b := 208) (As := [g_I v3, g_I v4, g_I v1]) (rest := [g_I v2]) dX12_healed_35 mv_X12_427 sh_208 rfl (Nat.le_of_ble_eq_true rfl) (by decide) rfl hF ?_
      intro x1 D1 hx1 hF
      have hF := hF hx1
      refine g_ifeq dX12_healed_38 rfl (fun q => ?_) (fun q => ?_)
      · have hF := hF.1 q
        refine g_iconst dX12_healed_45 ⟨by decide, by decide⟩ ?_
        obtain ⟨hc, hF⟩ := hF
        refine g_iadd dX12_healed_46 hc ?_
        refine gw_istore_n (L' := [some (g_R 208), some (g_I v1), some (g_I (v2 + 0)), some (g_I v3), some (g_I v4)]) dX12_healed_47 (by decide) rfl ?_
        obtain ⟨hc, hF⟩ := hF
        refine gw_iinc (L' := [some (g_R 208), some (g_I v1), some (g_I (v2 + 0)), some (g_I v3), some (g_I (v4 + 1))]) dX12_healed_48 rfl hc (by decide) rfl ?_
        refine g_goto dX12_healed_51 rfl ?_
        exact hF
      · have hF := hF.2 q
        refine g_iconst dX12_healed_41 ⟨by decide, by decide⟩ ?_
        refine g_goto dX12_healed_42 rfl ?_
        obtain ⟨hc, hF⟩ := hF
        refine g_iadd dX12_healed_46 hc ?_
        refine gw_istore_n (L' := [some (g_R 208), some (g_I v1), some (g_I (v2 + 1)), some (g_I v3), some (g_I v4)]) dX12_healed_47 (by decide) rfl ?_
        obtain ⟨hc, hF⟩ := hF
        refine gw_iinc (L' := [some (g_R 208), some (g_I v1), some (g_I (v2 + 1)), some (g_I v3), some (g_I (v4 + 1))]) dX12_healed_48 rfl hc (by decide) rfl ?_
        refine g_goto dX12_healed_51 rfl ?_
        exact hF
theorem dX12_cuts_0 : decode cX12_cuts 0 = .ok (.aload_n 0, 1) := by decide +kernel
theorem dX12_cuts_1 : decode cX12_cuts 1 = .ok (.iconst 0, 1) := by decide +kernel
theorem dX12_cuts_2 : decode cX12_cuts 2 = .ok (.putfield 1, 3) := by decide +kernel
theorem dX12_cuts_5 : decode cX12_cuts 5 = .ok (.iload_n 1, 1) := by decide +kernel
theorem dX12_cuts_6 : decode cX12_cuts 6 = .ok (.i2l, 1) := by decide +kernel
theorem dX12_cuts_7 : decode cX12_cuts 7 = .ok (.lconst 0, 1) := by decide +kernel
theorem dX12_cuts_8 : decode cX12_cuts 8 = .ok (.ldc2_w 143, 3) := by decide +kernel
theorem dX12_cuts_11 : decode cX12_cuts 11 = .ok (.invokestatic 131, 3) := by decide +kernel
theorem dX12_cuts_14 : decode cX12_cuts 14 = .ok (.ifCond .eq 11, 3) := by decide +kernel
theorem dX12_cuts_17 : decode cX12_cuts 17 = .ok (.aload_n 0, 1) := by decide +kernel
theorem dX12_cuts_18 : decode cX12_cuts 18 = .ok (.iload_n 1, 1) := by decide +kernel
theorem dX12_cuts_19 : decode cX12_cuts 19 = .ok (.invokevirtual 431, 3) := by decide +kernel
theorem dX12_cuts_22 : decode cX12_cuts 22 = .ok (.goto 5, 3) := by decide +kernel
theorem dX12_cuts_25 : decode cX12_cuts 25 = .ok (.bipush (-2), 2) := by decide +kernel
theorem dX12_cuts_27 : decode cX12_cuts 27 = .ok (.ireturn, 1) := by decide +kernel
abbrev k_X12_cuts (E : g_E) (l : Launch) (D : g_D) (v1 : Int) (K : Int → g_D → Prop) : Prop := g_Ki E l m_X12_cuts 7 [g_R 208, g_I v1] g_SH D K
abbrev n_X12_cuts (E : g_E) (l : Launch) (D : g_D) (pc : Nat) (L : List (Option g_V)) (K : Int → g_D → Prop) : Prop := g_N E l m_X12_cuts 7 pc L [] g_SH D (g_Ri g_SH K)
theorem s_X12_cuts {E : g_E} {l : Launch} {D : g_D} {K : Int → g_D → Prop} {v1 : Int}  (hF : g_okD D → g_r v1 → ∀ D1, D1 = g_up D 208 0 0 → (k_X12_within E l g_SH D1 v1 0 3 (fun x2 D2 => g_r x2 → (x2 = 0 → K (-2) D2) ∧ (¬ x2 = 0 → k_X12_healed E l D2 v1 (fun x3 D3 => g_r x3 → K x3 D3))))) : k_X12_cuts E l D v1 K := by
  refine g_enter (by decide) (Nat.le_of_ble_eq_true rfl) ?_
  show g_N E l m_X12_cuts 7 0 [some (g_R 208), some (g_I v1)] [] g_SH D (g_Ri g_SH K)
  refine g_use (fun ok => ?_)
  have hF := hF ok.2.1 (ok.loc (i := 1) rfl)
  refine g_aload_n dX12_cuts_0 rfl ?_
  refine g_iconst dX12_cuts_1 ⟨by decide, by decide⟩ ?_
  let D1 : g_D := g_up D 208 0 0
  have hF := hF D1 rfl
  refine g_put dX12_cuts_2 fd_X12_1 (g_ftyI (C := RX12) (T := TX12) (N := 51) rfl rfl (by decide +kernel)) sh_208 rfl ?_
  refine g_iload_n dX12_cuts_5 rfl ?_
  refine g_i2l dX12_cuts_6 ?_
  refine g_lconst dX12_cuts_7 ?_
  refine g_ldc2 dX12_cuts_8 ⟨by decide, by decide⟩ kl_X12_143 ?_
  refine gw_cSi (As := [g_J v1, g_J 0, g_J 3]) (rest := []) dX12_cuts_11 ms_X12_131 rfl (Nat.le_of_ble_eq_true rfl) (by decide) rfl hF ?_
  intro x2 D2 hx2 hF
  have hF := hF hx2
  refine g_ifeq dX12_cuts_14 rfl (fun q => ?_) (fun q => ?_)
  · have hF := hF.1 q
    refine g_bipush dX12_cuts_25 ⟨by decide, by decide⟩ ?_
    exact gw_iret dX12_cuts_27 rfl hF
  · have hF := hF.2 q
    refine g_aload_n dX12_cuts_17 rfl ?_
    refine g_iload_n dX12_cuts_18 rfl ?_
    refine gw_cVi (b := 208) (As := [g_I v1]) (rest := []) dX12_cuts_19 mv_X12_431 sh_208 rfl (Nat.le_of_ble_eq_true rfl) (by decide) rfl hF ?_
    intro x3 D3 hx3 hF
    have hF := hF hx3
    refine g_goto dX12_cuts_22 rfl ?_
    exact gw_iret dX12_cuts_27 rfl hF
theorem dX12_digestOf_0 : decode cX12_digestOf 0 = .ok (.ldc2_w 397, 3) := by decide +kernel
theorem dX12_digestOf_3 : decode cX12_digestOf 3 = .ok (.iload_n 0, 1) := by decide +kernel
theorem dX12_digestOf_4 : decode cX12_digestOf 4 = .ok (.i2l, 1) := by decide +kernel
theorem dX12_digestOf_5 : decode cX12_digestOf 5 = .ok (.lmul, 1) := by decide +kernel
theorem dX12_digestOf_6 : decode cX12_digestOf 6 = .ok (.ldc2_w 399, 3) := by decide +kernel
theorem dX12_digestOf_9 : decode cX12_digestOf 9 = .ok (.iload_n 1, 1) := by decide +kernel
theorem dX12_digestOf_10 : decode cX12_digestOf 10 = .ok (.i2l, 1) := by decide +kernel
theorem dX12_digestOf_11 : decode cX12_digestOf 11 = .ok (.lmul, 1) := by decide +kernel
theorem dX12_digestOf_12 : decode cX12_digestOf 12 = .ok (.ladd, 1) := by decide +kernel
theorem dX12_digestOf_13 : decode cX12_digestOf 13 = .ok (.ldc2_w 401, 3) := by decide +kernel
theorem dX12_digestOf_16 : decode cX12_digestOf 16 = .ok (.iload_n 2, 1) := by decide +kernel
theorem dX12_digestOf_17 : decode cX12_digestOf 17 = .ok (.i2l, 1) := by decide +kernel
theorem dX12_digestOf_18 : decode cX12_digestOf 18 = .ok (.lmul, 1) := by decide +kernel
theorem dX12_digestOf_19 : decode cX12_digestOf 19 = .ok (.ladd, 1) := by decide +kernel
theorem dX12_digestOf_20 : decode cX12_digestOf 20 = .ok (.iload_n 3, 1) := by decide +kernel
theorem dX12_digestOf_21 : decode cX12_digestOf 21 = .ok (.i2l, 1) := by decide +kernel
theorem dX12_digestOf_22 : decode cX12_digestOf 22 = .ok (.ladd, 1) := by decide +kernel
theorem dX12_digestOf_23 : decode cX12_digestOf 23 = .ok (.lstore 4, 2) := by decide +kernel
theorem dX12_digestOf_25 : decode cX12_digestOf 25 = .ok (.lload 4, 2) := by decide +kernel
theorem dX12_digestOf_27 : decode cX12_digestOf 27 = .ok (.ldc2_w 403, 3) := by decide +kernel
theorem dX12_digestOf_30 : decode cX12_digestOf 30 = .ok (.lmul, 1) := by decide +kernel
theorem dX12_digestOf_31 : decode cX12_digestOf 31 = .ok (.ldc2_w 405, 3) := by decide +kernel
theorem dX12_digestOf_34 : decode cX12_digestOf 34 = .ok (.ladd, 1) := by decide +kernel
theorem dX12_digestOf_35 : decode cX12_digestOf 35 = .ok (.ldc2_w 407, 3) := by decide +kernel
theorem dX12_digestOf_38 : decode cX12_digestOf 38 = .ok (.lrem, 1) := by decide +kernel
theorem dX12_digestOf_39 : decode cX12_digestOf 39 = .ok (.lreturn, 1) := by decide +kernel
abbrev k_X12_digestOf (E : g_E) (l : Launch) (sh : List g_Sh) (D : g_D) (v0 : Int) (v1 : Int) (v2 : Int) (v3 : Int) (K : Int → g_D → Prop) : Prop := g_Kl E l m_X12_digestOf 0 [g_I v0, g_I v1, g_I v2, g_I v3] sh D K
abbrev n_X12_digestOf (E : g_E) (l : Launch) (sh : List g_Sh) (D : g_D) (pc : Nat) (L : List (Option g_V)) (K : Int → g_D → Prop) : Prop := g_N E l m_X12_digestOf 0 pc L [] sh D (g_Rl sh K)
theorem s_X12_digestOf {E : g_E} {l : Launch} {sh : List g_Sh} {D : g_D} {K : Int → g_D → Prop} {v0 : Int} {v1 : Int} {v2 : Int} {v3 : Int}  (hF : g_okD D → g_r v0 → g_r v1 → g_r v2 → g_r v3 → (g_r8 (16777216 * v0)) ∧ ((g_r8 (65536 * v1)) ∧ ((g_r8 ((16777216 * v0) + (65536 * v1))) ∧ ((g_r8 (256 * v2)) ∧ ((g_r8 (((16777216 * v0) + (65536 * v1)) + (256 * v2))) ∧ ((g_r8 ((((16777216 * v0) + (65536 * v1)) + (256 * v2)) + v3)) ∧ ((g_r8 (((((16777216 * v0) + (65536 * v1)) + (256 * v2)) + v3) * 1664525)) ∧ ((g_r8 ((((((16777216 * v0) + (65536 * v1)) + (256 * v2)) + v3) * 1664525) + 1013904223)) ∧ ((0 ≤ ((((((16777216 * v0) + (65536 * v1)) + (256 * v2)) + v3) * 1664525) + 1013904223)) ∧ (K (((((((16777216 * v0) + (65536 * v1)) + (256 * v2)) + v3) * 1664525) + 1013904223) % 4294967296) D)))))))))) : k_X12_digestOf E l sh D v0 v1 v2 v3 K := by
  refine g_enter (by decide) (Nat.le_of_ble_eq_true rfl) ?_
  show g_N E l m_X12_digestOf 0 0 [some (g_I v0), some (g_I v1), some (g_I v2), some (g_I v3), none, none] [] sh D (g_Rl sh K)
  refine g_use (fun ok => ?_)
  have hF := hF ok.2.1 (ok.loc (i := 0) rfl) (ok.loc (i := 1) rfl) (ok.loc (i := 2) rfl) (ok.loc (i := 3) rfl)
  refine g_ldc2 dX12_digestOf_0 ⟨by decide, by decide⟩ kl_X12_397 ?_
  refine g_iload_n dX12_digestOf_3 rfl ?_
  refine g_i2l dX12_digestOf_4 ?_
  obtain ⟨hc, hF⟩ := hF
  refine g_lmul dX12_digestOf_5 hc ?_
  refine g_ldc2 dX12_digestOf_6 ⟨by decide, by decide⟩ kl_X12_399 ?_
  refine g_iload_n dX12_digestOf_9 rfl ?_
  refine g_i2l dX12_digestOf_10 ?_
  obtain ⟨hc, hF⟩ := hF
  refine g_lmul dX12_digestOf_11 hc ?_
  obtain ⟨hc, hF⟩ := hF
  refine g_ladd dX12_digestOf_12 hc ?_
  refine g_ldc2 dX12_digestOf_13 ⟨by decide, by decide⟩ kl_X12_401 ?_
  refine g_iload_n dX12_digestOf_16 rfl ?_
  refine g_i2l dX12_digestOf_17 ?_
  obtain ⟨hc, hF⟩ := hF
  refine g_lmul dX12_digestOf_18 hc ?_
  obtain ⟨hc, hF⟩ := hF
  refine g_ladd dX12_digestOf_19 hc ?_
  refine g_iload_n dX12_digestOf_20 rfl ?_
  refine g_i2l dX12_digestOf_21 ?_
  obtain ⟨hc, hF⟩ := hF
  refine g_ladd dX12_digestOf_22 hc ?_
  refine gw_lstore (L' := [some (g_I v0), some (g_I v1), some (g_I v2), some (g_I v3), some (g_J ((((16777216 * v0) + (65536 * v1)) + (256 * v2)) + v3)), none]) dX12_digestOf_23 (by decide) rfl ?_
  refine g_lload dX12_digestOf_25 rfl ?_
  refine g_ldc2 dX12_digestOf_27 ⟨by decide, by decide⟩ kl_X12_403 ?_
  obtain ⟨hc, hF⟩ := hF
  refine g_lmul dX12_digestOf_30 hc ?_
  refine g_ldc2 dX12_digestOf_31 ⟨by decide, by decide⟩ kl_X12_405 ?_
  obtain ⟨hc, hF⟩ := hF
  refine g_ladd dX12_digestOf_34 hc ?_
  refine g_ldc2 dX12_digestOf_35 ⟨by decide, by decide⟩ kl_X12_407 ?_
  obtain ⟨hc, hF⟩ := hF
  refine g_lrem dX12_digestOf_38 hc (by decide) ?_
  exact gw_lret dX12_digestOf_39 rfl hF
