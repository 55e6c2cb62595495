theorem dX10_clear_0 : decode cX10_clear 0 = .ok (.aload_n 0, 1) := by decide +kernel
theorem dX10_clear_1 : decode cX10_clear 1 = .ok (.getfield 18, 3) := by decide +kernel
theorem dX10_clear_4 : decode cX10_clear 4 = .ok (.iconst (-1), 1) := by decide +kernel
theorem dX10_clear_5 : decode cX10_clear 5 = .ok (.invokestatic 22, 3) := by decide +kernel
theorem dX10_clear_8 : decode cX10_clear 8 = .ok (.return_, 1) := by decide +kernel
abbrev k_X10_clear (E : g_E) (l : Launch) (D : g_D) (K : g_D → Prop) : Prop := g_Kv E l m_X10_clear 1 [g_R 198] g_SH D K
abbrev n_X10_clear (E : g_E) (l : Launch) (D : g_D) (pc : Nat) (L : List (Option g_V)) (K : g_D → Prop) : Prop := g_N E l m_X10_clear 1 pc L [] g_SH D (g_Rv g_SH K)
theorem s_X10_clear {E : g_E} {l : Launch} {D : g_D} {K : g_D → Prop}   (hF : g_okD D → k_J7_fill_53178 E l g_SH D 207 (-1) (fun D1 => K D1)) : k_X10_clear E l D K := by
  refine g_enter (by decide) (Nat.le_of_ble_eq_true rfl) ?_
  show g_N E l m_X10_clear 1 0 [some (g_R 198)] [] g_SH D (g_Rv g_SH K)
  refine g_use (fun ok => ?_)
  have hF := hF ok.2.1
  refine g_aload_n dX10_clear_0 rfl ?_
  refine g_getR dX10_clear_1 fd_X10_18 sh_198 rfl ?_
  refine g_iconst dX10_clear_4 ⟨by decide, by decide⟩ ?_
  refine gw_cSv (As := [g_R 207, g_I (-1)]) (rest := []) dX10_clear_5 ms_X10_22 rfl (Nat.le_of_ble_eq_true rfl) (by decide) rfl hF ?_
  intro D1 hF
  exact gw_vret dX10_clear_8 rfl hF
theorem dX1_look_0 : decode cX1_look 0 = .ok (.iconst 0, 1) := by decide +kernel
theorem dX1_look_1 : decode cX1_look 1 = .ok (.istore_n 3, 1) := by decide +kernel
theorem dX1_look_2 : decode cX1_look 2 = .ok (.iload_n 3, 1) := by decide +kernel
theorem dX1_look_3 : decode cX1_look 3 = .ok (.bipush 10, 2) := by decide +kernel
theorem dX1_look_5 : decode cX1_look 5 = .ok (.if_icmp .ge 25, 3) := by decide +kernel
theorem dX1_look_8 : decode cX1_look 8 = .ok (.aload_n 0, 1) := by decide +kernel
theorem dX1_look_9 : decode cX1_look 9 = .ok (.getfield 53, 3) := by decide +kernel
theorem dX1_look_12 : decode cX1_look 12 = .ok (.iload_n 3, 1) := by decide +kernel
theorem dX1_look_13 : decode cX1_look 13 = .ok (.aload_n 1, 1) := by decide +kernel
theorem dX1_look_14 : decode cX1_look 14 = .ok (.getfield 122, 3) := by decide +kernel
theorem dX1_look_17 : decode cX1_look 17 = .ok (.iload_n 3, 1) := by decide +kernel
theorem dX1_look_18 : decode cX1_look 18 = .ok (.iconst 4, 1) := by decide +kernel
theorem dX1_look_19 : decode cX1_look 19 = .ok (.imul, 1) := by decide +kernel
theorem dX1_look_20 : decode cX1_look 20 = .ok (.invokestatic 146, 3) := by decide +kernel
theorem dX1_look_23 : decode cX1_look 23 = .ok (.iastore, 1) := by decide +kernel
theorem dX1_look_24 : decode cX1_look 24 = .ok (.iinc 3 1, 3) := by decide +kernel
theorem dX1_look_27 : decode cX1_look 27 = .ok (.goto (-25), 3) := by decide +kernel
theorem dX1_look_30 : decode cX1_look 30 = .ok (.aload_n 1, 1) := by decide +kernel
theorem dX1_look_31 : decode cX1_look 31 = .ok (.getfield 201, 3) := by decide +kernel
theorem dX1_look_34 : decode cX1_look 34 = .ok (.istore_n 3, 1) := by decide +kernel
theorem dX1_look_35 : decode cX1_look 35 = .ok (.iload_n 2, 1) := by decide +kernel
theorem dX1_look_36 : decode cX1_look 36 = .ok (.ifCond .eq 27, 3) := by decide +kernel
theorem dX1_look_39 : decode cX1_look 39 = .ok (.iload_n 3, 1) := by decide +kernel
theorem dX1_look_40 : decode cX1_look 40 = .ok (.ifCond .lt 23, 3) := by decide +kernel
theorem dX1_look_43 : decode cX1_look 43 = .ok (.iload_n 3, 1) := by decide +kernel
theorem dX1_look_44 : decode cX1_look 44 = .ok (.bipush 10, 2) := by decide +kernel
theorem dX1_look_46 : decode cX1_look 46 = .ok (.if_icmp .ge 17, 3) := by decide +kernel
theorem dX1_look_49 : decode cX1_look 49 = .ok (.aload_n 0, 1) := by decide +kernel
theorem dX1_look_50 : decode cX1_look 50 = .ok (.getfield 53, 3) := by decide +kernel
theorem dX1_look_53 : decode cX1_look 53 = .ok (.iload_n 3, 1) := by decide +kernel
theorem dX1_look_54 : decode cX1_look 54 = .ok (.aload_n 1, 1) := by decide +kernel
theorem dX1_look_55 : decode cX1_look 55 = .ok (.getfield 204, 3) := by decide +kernel
theorem dX1_look_58 : decode cX1_look 58 = .ok (.iconst 0, 1) := by decide +kernel
theorem dX1_look_59 : decode cX1_look 59 = .ok (.invokestatic 146, 3) := by decide +kernel
theorem dX1_look_62 : decode cX1_look 62 = .ok (.iastore, 1) := by decide +kernel
theorem dX1_look_63 : decode cX1_look 63 = .ok (.return_, 1) := by decide +kernel
abbrev k_X1_look (E : g_E) (l : Launch) (D : g_D) (r1 : Nat) (v2 : Int) (K : g_D → Prop) : Prop := g_Kv E l m_X1_look 1 [g_R 175, g_R r1, g_I v2] g_SH D K
abbrev n_X1_look (E : g_E) (l : Launch) (D : g_D) (pc : Nat) (L : List (Option g_V)) (K : g_D → Prop) : Prop := g_N E l m_X1_look 1 pc L [] g_SH D (g_Rv g_SH K)
theorem s_X1_look {E : g_E} {l : Launch} {D : g_D} {K : g_D → Prop} {r1 : Nat} {v2 : Int} (hr1 : is_Device g_SH r1) (hF : g_okD D → g_r v2 → n_X1_look E l D 2 [some (g_R 175), some (g_R r1), some (g_I v2), some (g_I 0)] K) : k_X1_look E l D r1 v2 K := by
  refine g_enter (by decide) (Nat.le_of_ble_eq_true rfl) ?_
  show g_N E l m_X1_look 1 0 [some (g_R 175), some (g_R r1), some (g_I v2), none] [] g_SH D (g_Rv g_SH K)
  refine g_use (fun ok => ?_)
  have hF := hF ok.2.1 (ok.loc (i := 2) rfl)
  refine g_iconst dX1_look_0 ⟨by decide, by decide⟩ ?_
  refine gw_istore_n (L' := [some (g_R 175), some (g_R r1), some (g_I v2), some (g_I 0)]) dX1_look_1 (by decide) rfl ?_
  exact hF
theorem s_X1_look_2 {E : g_E} {l : Launch} {D : g_D} {K : g_D → Prop} {r1 : Nat} {v2 : Int} {v3 : Int} (hr1 : is_Device g_SH r1) (hF : g_okD D → g_r v2 → g_r v3 → (10 ≤ v3 → (v2 = 0 → K D) ∧ (¬ v2 = 0 → ((D r1 6) < 0 → K D) ∧ (¬ (D r1 6) < 0 → (10 ≤ (D r1 6) → K D) ∧ (¬ 10 ≤ (D r1 6) → k_X11_packed E l g_SH D (r1 + 7) 0 (fun x1 D1 => g_r x1 → (0 ≤ (D r1 6) ∧ (D r1 6) < 10) ∧ (∀ D2, D2 = g_up D1 197 (D r1 6).toNat x1 → (K D2))))))) ∧ (¬ 10 ≤ v3 → (g_r (v3 * 4)) ∧ (k_X11_packed E l g_SH D (r1 + 1) (v3 * 4) (fun x3 D3 => g_r x3 → (0 ≤ v3 ∧ v3 < 10) ∧ (∀ D4, D4 = g_up D3 197 v3.toNat x3 → ((g_r (v3 + 1)) ∧ (n_X1_look E l D4 2 [some (g_R 175), some (g_R r1), some (g_I v2), some (g_I (v3 + 1))] K))))))) : n_X1_look E l D 2 [some (g_R 175), some (g_R r1), some (g_I v2), some (g_I v3)] K := by
  refine g_use (fun ok => ?_)
  have hF := hF ok.2.1 (ok.loc (i := 2) rfl) (ok.loc (i := 3) rfl)
  refine g_iload_n dX1_look_2 rfl ?_
  refine g_bipush dX1_look_3 ⟨by decide, by decide⟩ ?_
  refine g_cge dX1_look_5 rfl (fun q => ?_) (fun q => ?_)
  · have hF := hF.1 q
    refine g_aload_n dX1_look_30 rfl ?_
    refine g_getI dX1_look_31 fd_X1_201 hr1.1 rfl ?_
    refine gw_istore_n (L' := [some (g_R 175), some (g_R r1), some (g_I v2), some (g_I (D r1 6))]) dX1_look_34 (by decide) rfl ?_
    refine g_iload_n dX1_look_35 rfl ?_
    refine g_ifeq dX1_look_36 rfl (fun q => ?_) (fun q => ?_)
    · have hF := hF.1 q
      exact gw_vret dX1_look_63 rfl hF
    · have hF := hF.2 q
      refine g_iload_n dX1_look_39 rfl ?_
      refine g_iflt dX1_look_40 rfl (fun q => ?_) (fun q => ?_)
      · have hF := hF.1 q
        exact gw_vret dX1_look_63 rfl hF
      · have hF := hF.2 q
        refine g_iload_n dX1_look_43 rfl ?_
        refine g_bipush dX1_look_44 ⟨by decide, by decide⟩ ?_
        refine g_cge dX1_look_46 rfl (fun q => ?_) (fun q => ?_)
        · have hF := hF.1 q
          exact gw_vret dX1_look_63 rfl hF
        · have hF := hF.2 q
          refine g_aload_n dX1_look_49 rfl ?_
          refine g_getR dX1_look_50 fd_X1_53 sh_175 rfl ?_
          refine g_iload_n dX1_look_53 rfl ?_
          refine g_aload_n dX1_look_54 rfl ?_
          refine g_getR dX1_look_55 fd_X1_204 hr1.1 rfl ?_
          refine g_iconst dX1_look_58 ⟨by decide, by decide⟩ ?_
          refine gw_cNi (As := [g_R (r1 + 7), g_I 0]) (rest := [g_I (D r1 6), g_R 197]) dX1_look_59 mn_X1_146 rfl (Nat.le_of_ble_eq_true rfl) (by decide) rfl hF ?_
          intro x1 D1 hx1 hF
          have hF := hF hx1
          obtain ⟨hc, hF⟩ := hF
          let D2 : g_D := g_up D1 197 (D r1 6).toNat x1
          have hF := hF D2 rfl
          refine g_iast dX1_look_62 sh_197 hc.1 hc.2 ?_
          exact gw_vret dX1_look_63 rfl hF
  · have hF := hF.2 q
    refine g_aload_n dX1_look_8 rfl ?_
    refine g_getR dX1_look_9 fd_X1_53 sh_175 rfl ?_
    refine g_iload_n dX1_look_12 rfl ?_
    refine g_aload_n dX1_look_13 rfl ?_
    refine g_getR dX1_look_14 fd_X1_122 hr1.1 rfl ?_
    refine g_iload_n dX1_look_17 rfl ?_
    refine g_iconst dX1_look_18 ⟨by decide, by decide⟩ ?_
    obtain ⟨hc, hF⟩ := hF
    refine g_imul dX1_look_19 hc ?_
    refine gw_cNi (As := [g_R (r1 + 1), g_I (v3 * 4)]) (rest := [g_I v3, g_R 197]) dX1_look_20 mn_X1_146 rfl (Nat.le_of_ble_eq_true rfl) (by decide) rfl hF ?_
    intro x3 D3 hx3 hF
    have hF := hF hx3
    obtain ⟨hc, hF⟩ := hF
    let D4 : g_D := g_up D3 197 v3.toNat x3
    have hF := hF D4 rfl
    refine g_iast dX1_look_23 sh_197 hc.1 hc.2 ?_
    obtain ⟨hc, hF⟩ := hF
    refine gw_iinc (L' := [some (g_R 175), some (g_R r1), some (g_I v2), some (g_I (v3 + 1))]) dX1_look_24 rfl hc (by decide) rfl ?_
    refine g_goto dX1_look_27 rfl ?_
    exact hF
theorem dX1_dueBlock_0 : decode cX1_dueBlock 0 = .ok (.aload_n 0, 1) := by decide +kernel
theorem dX1_dueBlock_1 : decode cX1_dueBlock 1 = .ok (.getfield 34, 3) := by decide +kernel
theorem dX1_dueBlock_4 : decode cX1_dueBlock 4 = .ok (.iload_n 1, 1) := by decide +kernel
theorem dX1_dueBlock_5 : decode cX1_dueBlock 5 = .ok (.bipush 10, 2) := by decide +kernel
theorem dX1_dueBlock_7 : decode cX1_dueBlock 7 = .ok (.imul, 1) := by decide +kernel
theorem dX1_dueBlock_8 : decode cX1_dueBlock 8 = .ok (.iload_n 2, 1) := by decide +kernel
theorem dX1_dueBlock_9 : decode cX1_dueBlock 9 = .ok (.iadd, 1) := by decide +kernel
theorem dX1_dueBlock_10 : decode cX1_dueBlock 10 = .ok (.iaload, 1) := by decide +kernel
theorem dX1_dueBlock_11 : decode cX1_dueBlock 11 = .ok (.ireturn, 1) := by decide +kernel
abbrev k_X1_dueBlock (E : g_E) (l : Launch) (D : g_D) (v1 : Int) (v2 : Int) (K : Int → g_D → Prop) : Prop := g_Ki E l m_X1_dueBlock 0 [g_R 175, g_I v1, g_I v2] g_SH D K
abbrev n_X1_dueBlock (E : g_E) (l : Launch) (D : g_D) (pc : Nat) (L : List (Option g_V)) (K : Int → g_D → Prop) : Prop := g_N E l m_X1_dueBlock 0 pc L [] g_SH D (g_Ri g_SH K)
theorem s_X1_dueBlock {E : g_E} {l : Launch} {D : g_D} {K : Int → g_D → Prop} {v1 : Int} {v2 : Int}  (hF : g_okD D → g_r v1 → g_r v2 → (g_r (v1 * 10)) ∧ ((g_r ((v1 * 10) + v2)) ∧ ((0 ≤ ((v1 * 10) + v2) ∧ ((v1 * 10) + v2) < 3610) ∧ (K (D 185 ((v1 * 10) + v2).toNat) D)))) : k_X1_dueBlock E l D v1 v2 K := by
  refine g_enter (by decide) (Nat.le_of_ble_eq_true rfl) ?_
  show g_N E l m_X1_dueBlock 0 0 [some (g_R 175), some (g_I v1), some (g_I v2)] [] g_SH D (g_Ri g_SH K)
  refine g_use (fun ok => ?_)
  have hF := hF ok.2.1 (ok.loc (i := 1) rfl) (ok.loc (i := 2) rfl)
  refine g_aload_n dX1_dueBlock_0 rfl ?_
  refine g_getR dX1_dueBlock_1 fd_X1_34 sh_175 rfl ?_
  refine g_iload_n dX1_dueBlock_4 rfl ?_
  refine g_bipush dX1_dueBlock_5 ⟨by decide, by decide⟩ ?_
  obtain ⟨hc, hF⟩ := hF
  refine g_imul dX1_dueBlock_7 hc ?_
  refine g_iload_n dX1_dueBlock_8 rfl ?_
  obtain ⟨hc, hF⟩ := hF
  refine g_iadd dX1_dueBlock_9 hc ?_
  obtain ⟨hc, hF⟩ := hF
  refine g_iald dX1_dueBlock_10 sh_185 hc.1 hc.2 ?_
  exact gw_iret dX1_dueBlock_11 rfl hF
theorem dX1_areBlocksDue_0 : decode cX1_areBlocksDue 0 = .ok (.iconst 0, 1) := by decide +kernel
theorem dX1_areBlocksDue_1 : decode cX1_areBlocksDue 1 = .ok (.istore_n 2, 1) := by decide +kernel
theorem dX1_areBlocksDue_2 : decode cX1_areBlocksDue 2 = .ok (.iload_n 2, 1) := by decide +kernel
theorem dX1_areBlocksDue_3 : decode cX1_areBlocksDue 3 = .ok (.bipush 10, 2) := by decide +kernel
theorem dX1_areBlocksDue_5 : decode cX1_areBlocksDue 5 = .ok (.if_icmp .ge 26, 3) := by decide +kernel
theorem dX1_areBlocksDue_8 : decode cX1_areBlocksDue 8 = .ok (.aload_n 0, 1) := by decide +kernel
theorem dX1_areBlocksDue_9 : decode cX1_areBlocksDue 9 = .ok (.getfield 53, 3) := by decide +kernel
theorem dX1_areBlocksDue_12 : decode cX1_areBlocksDue 12 = .ok (.iload_n 2, 1) := by decide +kernel
theorem dX1_areBlocksDue_13 : decode cX1_areBlocksDue 13 = .ok (.iaload, 1) := by decide +kernel
theorem dX1_areBlocksDue_14 : decode cX1_areBlocksDue 14 = .ok (.aload_n 0, 1) := by decide +kernel
theorem dX1_areBlocksDue_15 : decode cX1_areBlocksDue 15 = .ok (.iload_n 1, 1) := by decide +kernel
theorem dX1_areBlocksDue_16 : decode cX1_areBlocksDue 16 = .ok (.iload_n 2, 1) := by decide +kernel
theorem dX1_areBlocksDue_17 : decode cX1_areBlocksDue 17 = .ok (.invokevirtual 153, 3) := by decide +kernel
theorem dX1_areBlocksDue_20 : decode cX1_areBlocksDue 20 = .ok (.if_icmp .eq 5, 3) := by decide +kernel
theorem dX1_areBlocksDue_23 : decode cX1_areBlocksDue 23 = .ok (.iconst 0, 1) := by decide +kernel
theorem dX1_areBlocksDue_24 : decode cX1_areBlocksDue 24 = .ok (.ireturn, 1) := by decide +kernel
theorem dX1_areBlocksDue_25 : decode cX1_areBlocksDue 25 = .ok (.iinc 2 1, 3) := by decide +kernel
theorem dX1_areBlocksDue_28 : decode cX1_areBlocksDue 28 = .ok (.goto (-26), 3) := by decide +kernel
theorem dX1_areBlocksDue_31 : decode cX1_areBlocksDue 31 = .ok (.iconst 1, 1) := by decide +kernel
theorem dX1_areBlocksDue_32 : decode cX1_areBlocksDue 32 = .ok (.ireturn, 1) := by decide +kernel
abbrev k_X1_areBlocksDue (E : g_E) (l : Launch) (D : g_D) (v1 : Int) (K : Int → g_D → Prop) : Prop := g_Ki E l m_X1_areBlocksDue 1 [g_R 175, g_I v1] g_SH D K
abbrev n_X1_areBlocksDue (E : g_E) (l : Launch) (D : g_D) (pc : Nat) (L : List (Option g_V)) (K : Int → g_D → Prop) : Prop := g_N E l m_X1_areBlocksDue 1 pc L [] g_SH D (g_Ri g_SH K)
theorem s_X1_areBlocksDue {E : g_E} {l : Launch} {D : g_D} {K : Int → g_D → Prop} {v1 : Int}  (hF : g_okD D → g_r v1 → n_X1_areBlocksDue E l D 2 [some (g_R 175), some (g_I v1), some (g_I 0)] K) : k_X1_areBlocksDue E l D v1 K := by
  refine g_enter (by decide) (Nat.le_of_ble_eq_true rfl) ?_
  show g_N E l m_X1_areBlocksDue 1 0 [some (g_R 175), some (g_I v1), none] [] g_SH D (g_Ri g_SH K)
  refine g_use (fun ok => ?_)
  have hF := hF ok.2.1 (ok.loc (i := 1) rfl)
  refine g_iconst dX1_areBlocksDue_0 ⟨by decide, by decide⟩ ?_
  refine gw_istore_n (L' := [some (g_R 175), some (g_I v1), some (g_I 0)]) dX1_areBlocksDue_1 (by decide) rfl ?_
  exact hF
theorem s_X1_areBlocksDue_2 {E : g_E} {l : Launch} {D : g_D} {K : Int → g_D → Prop} {v1 : Int} {v2 : Int}  (hF : g_okD D → g_r v1 → g_r v2 → (10 ≤ v2 → K 1 D) ∧ (¬ 10 ≤ v2 → (0 ≤ v2 ∧ v2 < 10) ∧ (k_X1_dueBlock E l D v1 v2 (fun x1 D1 => g_r x1 → ((D 197 v2.toNat) = x1 → (g_r (v2 + 1)) ∧ (n_X1_areBlocksDue E l D1 2 [some (g_R 175), some (g_I v1), some (g_I (v2 + 1))] K)) ∧ (¬ (D 197 v2.toNat) = x1 → K 0 D1))))) : n_X1_areBlocksDue E l D 2 [some (g_R 175), some (g_I v1), some (g_I v2)] K := by
  refine g_use (fun ok => ?_)
  have hF := hF ok.2.1 (ok.loc (i := 1) rfl) (ok.loc (i := 2) rfl)
  refine g_iload_n dX1_areBlocksDue_2 rfl ?_
  refine g_bipush dX1_areBlocksDue_3 ⟨by decide, by decide⟩ ?_
  refine g_cge dX1_areBlocksDue_5 rfl (fun q => ?_) (fun q => ?_)
  · have hF := hF.1 q
    refine g_iconst dX1_areBlocksDue_31 ⟨by decide, by decide⟩ ?_
    exact gw_zret dX1_areBlocksDue_32 rfl (by decide) hF
  · have hF := hF.2 q
    refine g_aload_n dX1_areBlocksDue_8 rfl ?_
    refine g_getR dX1_areBlocksDue_9 fd_X1_53 sh_175 rfl ?_
    refine g_iload_n dX1_areBlocksDue_12 rfl ?_
    obtain ⟨hc, hF⟩ := hF
    refine g_iald dX1_areBlocksDue_13 sh_197 hc.1 hc.2 ?_
    refine g_aload_n dX1_areBlocksDue_14 rfl ?_
    refine g_iload_n dX1_areBlocksDue_15 rfl ?_
    refine g_iload_n dX1_areBlocksDue_16 rfl ?_
    refine gw_cVi (b := 175) (As := [g_I v1, g_I v2]) (rest := [g_I (D 197 v2.toNat)]) dX1_areBlocksDue_17 mv_X1_153 sh_175 rfl (Nat.le_of_ble_eq_true rfl) (by decide) rfl hF ?_
    intro x1 D1 hx1 hF
    have hF := hF hx1
    refine g_ceq dX1_areBlocksDue_20 rfl (fun q => ?_) (fun q => ?_)
    · have hF := hF.1 q
      obtain ⟨hc, hF⟩ := hF
      refine gw_iinc (L' := [some (g_R 175), some (g_I v1), some (g_I (v2 + 1))]) dX1_areBlocksDue_25 rfl hc (by decide) rfl ?_
      refine g_goto dX1_areBlocksDue_28 rfl ?_
      exact hF
    · have hF := hF.2 q
      refine g_iconst dX1_areBlocksDue_23 ⟨by decide, by decide⟩ ?_
      exact gw_zret dX1_areBlocksDue_24 rfl (by decide) hF
theorem dX1_actAt_0 : decode cX1_actAt 0 = .ok (.iload_n 1, 1) := by decide +kernel
theorem dX1_actAt_1 : decode cX1_actAt 1 = .ok (.aload_n 0, 1) := by decide +kernel
theorem dX1_actAt_2 : decode cX1_actAt 2 = .ok (.getfield 78, 3) := by decide +kernel
theorem dX1_actAt_5 : decode cX1_actAt 5 = .ok (.if_icmp .ge 12, 3) := by decide +kernel
theorem dX1_actAt_8 : decode cX1_actAt 8 = .ok (.aload_n 0, 1) := by decide +kernel
theorem dX1_actAt_9 : decode cX1_actAt 9 = .ok (.getfield 27, 3) := by decide +kernel
theorem dX1_actAt_12 : decode cX1_actAt 12 = .ok (.iload_n 1, 1) := by decide +kernel
theorem dX1_actAt_13 : decode cX1_actAt 13 = .ok (.iaload, 1) := by decide +kernel
theorem dX1_actAt_14 : decode cX1_actAt 14 = .ok (.goto 10, 3) := by decide +kernel
theorem dX1_actAt_17 : decode cX1_actAt 17 = .ok (.aload_n 0, 1) := by decide +kernel
theorem dX1_actAt_18 : decode cX1_actAt 18 = .ok (.getfield 12, 3) := by decide +kernel
theorem dX1_actAt_21 : decode cX1_actAt 21 = .ok (.getfield 81, 3) := by decide +kernel
theorem dX1_actAt_24 : decode cX1_actAt 24 = .ok (.ireturn, 1) := by decide +kernel
abbrev k_X1_actAt (E : g_E) (l : Launch) (D : g_D) (v1 : Int) (K : Int → g_D → Prop) : Prop := g_Ki E l m_X1_actAt 0 [g_R 175, g_I v1] g_SH D K
abbrev n_X1_actAt (E : g_E) (l : Launch) (D : g_D) (pc : Nat) (L : List (Option g_V)) (K : Int → g_D → Prop) : Prop := g_N E l m_X1_actAt 0 pc L [] g_SH D (g_Ri g_SH K)
theorem s_X1_actAt {E : g_E} {l : Launch} {D : g_D} {K : Int → g_D → Prop} {v1 : Int}  (hF : g_okD D → g_r v1 → ((D 175 4) ≤ v1 → K (D 176 4) D) ∧ (¬ (D 175 4) ≤ v1 → (0 ≤ v1 ∧ v1 < 360) ∧ (K (D 183 v1.toNat) D))) : k_X1_actAt E l D v1 K := by
  refine g_enter (by decide) (Nat.le_of_ble_eq_true rfl) ?_
  show g_N E l m_X1_actAt 0 0 [some (g_R 175), some (g_I v1)] [] g_SH D (g_Ri g_SH K)
  refine g_use (fun ok => ?_)
  have hF := hF ok.2.1 (ok.loc (i := 1) rfl)
  refine g_iload_n dX1_actAt_0 rfl ?_
  refine g_aload_n dX1_actAt_1 rfl ?_
  refine g_getI dX1_actAt_2 fd_X1_78 sh_175 rfl ?_
  refine g_cge dX1_actAt_5 rfl (fun q => ?_) (fun q => ?_)
  · have hF := hF.1 q
    refine g_aload_n dX1_actAt_17 rfl ?_
    refine g_getR dX1_actAt_18 fd_X1_12 sh_175 rfl ?_
    refine g_getI dX1_actAt_21 fd_X1_81 sh_176 rfl ?_
    exact gw_iret dX1_actAt_24 rfl hF
  · have hF := hF.2 q
    refine g_aload_n dX1_actAt_8 rfl ?_
    refine g_getR dX1_actAt_9 fd_X1_27 sh_175 rfl ?_
    refine g_iload_n dX1_actAt_12 rfl ?_
    obtain ⟨hc, hF⟩ := hF
    refine g_iald dX1_actAt_13 sh_183 hc.1 hc.2 ?_
    refine g_goto dX1_actAt_14 rfl ?_
    exact gw_iret dX1_actAt_24 rfl hF
theorem dX1_isStashDue_0 : decode cX1_isStashDue 0 = .ok (.aload_n 0, 1) := by decide +kernel
theorem dX1_isStashDue_1 : decode cX1_isStashDue 1 = .ok (.iload_n 2, 1) := by decide +kernel
theorem dX1_isStashDue_2 : decode cX1_isStashDue 2 = .ok (.invokevirtual 150, 3) := by decide +kernel
theorem dX1_isStashDue_5 : decode cX1_isStashDue 5 = .ok (.bipush 20, 2) := by decide +kernel
theorem dX1_isStashDue_7 : decode cX1_isStashDue 7 = .ok (.imul, 1) := by decide +kernel
theorem dX1_isStashDue_8 : decode cX1_isStashDue 8 = .ok (.istore_n 3, 1) := by decide +kernel
theorem dX1_isStashDue_9 : decode cX1_isStashDue 9 = .ok (.iconst 0, 1) := by decide +kernel
theorem dX1_isStashDue_10 : decode cX1_isStashDue 10 = .ok (.istore 4, 2) := by decide +kernel
theorem dX1_isStashDue_12 : decode cX1_isStashDue 12 = .ok (.iload 4, 2) := by decide +kernel
theorem dX1_isStashDue_14 : decode cX1_isStashDue 14 = .ok (.bipush 20, 2) := by decide +kernel
theorem dX1_isStashDue_16 : decode cX1_isStashDue 16 = .ok (.if_icmp .ge 41, 3) := by decide +kernel
theorem dX1_isStashDue_19 : decode cX1_isStashDue 19 = .ok (.aload_n 0, 1) := by decide +kernel
theorem dX1_isStashDue_20 : decode cX1_isStashDue 20 = .ok (.getfield 37, 3) := by decide +kernel
theorem dX1_isStashDue_23 : decode cX1_isStashDue 23 = .ok (.iload_n 2, 1) := by decide +kernel
theorem dX1_isStashDue_24 : decode cX1_isStashDue 24 = .ok (.iaload, 1) := by decide +kernel
theorem dX1_isStashDue_25 : decode cX1_isStashDue 25 = .ok (.iload 4, 2) := by decide +kernel
theorem dX1_isStashDue_27 : decode cX1_isStashDue 27 = .ok (.invokestatic 218, 3) := by decide +kernel
theorem dX1_isStashDue_30 : decode cX1_isStashDue 30 = .ok (.ifCond .eq 21, 3) := by decide +kernel
theorem dX1_isStashDue_33 : decode cX1_isStashDue 33 = .ok (.aload_n 1, 1) := by decide +kernel
theorem dX1_isStashDue_34 : decode cX1_isStashDue 34 = .ok (.iload 4, 2) := by decide +kernel
theorem dX1_isStashDue_36 : decode cX1_isStashDue 36 = .ok (.iaload, 1) := by decide +kernel
theorem dX1_isStashDue_37 : decode cX1_isStashDue 37 = .ok (.aload_n 0, 1) := by decide +kernel
theorem dX1_isStashDue_38 : decode cX1_isStashDue 38 = .ok (.getfield 40, 3) := by decide +kernel
theorem dX1_isStashDue_41 : decode cX1_isStashDue 41 = .ok (.iload_n 3, 1) := by decide +kernel
theorem dX1_isStashDue_42 : decode cX1_isStashDue 42 = .ok (.iload 4, 2) := by decide +kernel
theorem dX1_isStashDue_44 : decode cX1_isStashDue 44 = .ok (.iadd, 1) := by decide +kernel
theorem dX1_isStashDue_45 : decode cX1_isStashDue 45 = .ok (.iaload, 1) := by decide +kernel
theorem dX1_isStashDue_46 : decode cX1_isStashDue 46 = .ok (.if_icmp .eq 5, 3) := by decide +kernel
theorem dX1_isStashDue_49 : decode cX1_isStashDue 49 = .ok (.iconst 0, 1) := by decide +kernel
theorem dX1_isStashDue_50 : decode cX1_isStashDue 50 = .ok (.ireturn, 1) := by decide +kernel
theorem dX1_isStashDue_51 : decode cX1_isStashDue 51 = .ok (.iinc 4 1, 3) := by decide +kernel
theorem dX1_isStashDue_54 : decode cX1_isStashDue 54 = .ok (.goto (-42), 3) := by decide +kernel
theorem dX1_isStashDue_57 : decode cX1_isStashDue 57 = .ok (.iconst 1, 1) := by decide +kernel
theorem dX1_isStashDue_58 : decode cX1_isStashDue 58 = .ok (.ireturn, 1) := by decide +kernel
abbrev k_X1_isStashDue (E : g_E) (l : Launch) (D : g_D) (r1 : Nat) (v2 : Int) (K : Int → g_D → Prop) : Prop := g_Ki E l m_X1_isStashDue 1 [g_R 175, g_R r1, g_I v2] g_SH D K
abbrev n_X1_isStashDue (E : g_E) (l : Launch) (D : g_D) (pc : Nat) (L : List (Option g_V)) (K : Int → g_D → Prop) : Prop := g_N E l m_X1_isStashDue 1 pc L [] g_SH D (g_Ri g_SH K)
theorem s_X1_isStashDue {E : g_E} {l : Launch} {D : g_D} {K : Int → g_D → Prop} {n1 : Nat} {r1 : Nat} {v2 : Int} (hr1 : g_SH[r1]? = some (.inl (0, n1))) (hF : g_okD D → g_r v2 → k_X1_actAt E l D v2 (fun x1 D1 => g_r x1 → (g_r (x1 * 20)) ∧ (n_X1_isStashDue E l D1 12 [some (g_R 175), some (g_R r1), some (g_I v2), some (g_I (x1 * 20)), some (g_I 0)] K))) : k_X1_isStashDue E l D r1 v2 K := by
  refine g_enter (by decide) (Nat.le_of_ble_eq_true rfl) ?_
  show g_N E l m_X1_isStashDue 1 0 [some (g_R 175), some (g_R r1), some (g_I v2), none, none] [] g_SH D (g_Ri g_SH K)
  refine g_use (fun ok => ?_)
  have hF := hF ok.2.1 (ok.loc (i := 2) rfl)
  refine g_aload_n dX1_isStashDue_0 rfl ?_
  refine g_iload_n dX1_isStashDue_1 rfl ?_
  refine gw_cVi (b := 175) (As := [g_I v2]) (rest := []) dX1_isStashDue_2 mv_X1_150 sh_175 rfl (Nat.le_of_ble_eq_true rfl) (by decide) rfl hF ?_
  intro x1 D1 hx1 hF
  have hF := hF hx1
  refine g_bipush dX1_isStashDue_5 ⟨by decide, by decide⟩ ?_
  obtain ⟨hc, hF⟩ := hF
  refine g_imul dX1_isStashDue_7 hc ?_
  refine gw_istore_n (L' := [some (g_R 175), some (g_R r1), some (g_I v2), some (g_I (x1 * 20)), none]) dX1_isStashDue_8 (by decide) rfl ?_
  refine g_iconst dX1_isStashDue_9 ⟨by decide, by decide⟩ ?_
  refine gw_istore (L' := [some (g_R 175), some (g_R r1), some (g_I v2), some (g_I (x1 * 20)), some (g_I 0)]) dX1_isStashDue_10 (by decide) rfl ?_
  exact hF
theorem s_X1_isStashDue_12 {E : g_E} {l : Launch} {D : g_D} {K : Int → g_D → Prop} {n1 : Nat} {r1 : Nat} {v2 : Int} {v3 : Int} {v4 : Int} (hr1 : g_SH[r1]? = some (.inl (0, n1))) (hF : g_okD D → g_r v2 → g_r v3 → g_r v4 → (20 ≤ v4 → K 1 D) ∧ (¬ 20 ≤ v4 → (0 ≤ v2 ∧ v2 < 361) ∧ (k_X11_hasBit E l g_SH D (D 186 v2.toNat) v4 (fun x1 D1 => g_r x1 → (x1 = 0 → (g_r (v4 + 1)) ∧ (n_X1_isStashDue E l D1 12 [some (g_R 175), some (g_R r1), some (g_I v2), some (g_I v3), some (g_I (v4 + 1))] K)) ∧ (¬ x1 = 0 → (0 ≤ v4 ∧ v4 < n1) ∧ ((g_r (v3 + v4)) ∧ ((0 ≤ (v3 + v4) ∧ (v3 + v4) < 740) ∧ (((D1 r1 v4.toNat) = (D1 187 (v3 + v4).toNat) → (g_r (v4 + 1)) ∧ (n_X1_isStashDue E l D1 12 [some (g_R 175), some (g_R r1), some (g_I v2), some (g_I v3), some (g_I (v4 + 1))] K)) ∧ (¬ (D1 r1 v4.toNat) = (D1 187 (v3 + v4).toNat) → K 0 D1))))))))) : n_X1_isStashDue E l D 12 [some (g_R 175), some (g_R r1), some (g_I v2), some (g_I v3), some (g_I v4)] K := by
  refine g_use (fun ok => ?_)
  have hF := hF ok.2.1 (ok.loc (i := 2) rfl) (ok.loc (i := 3) rfl) (ok.loc (i := 4) rfl)
  refine g_iload dX1_isStashDue_12 rfl ?_
  refine g_bipush dX1_isStashDue_14 ⟨by decide, by decide⟩ ?_
  refine g_cge dX1_isStashDue_16 rfl (fun q => ?_) (fun q => ?_)
  · have hF := hF.1 q
    refine g_iconst dX1_isStashDue_57 ⟨by decide, by decide⟩ ?_
    exact gw_zret dX1_isStashDue_58 rfl (by decide) hF
  · have hF := hF.2 q
    refine g_aload_n dX1_isStashDue_19 rfl ?_
    refine g_getR dX1_isStashDue_20 fd_X1_37 sh_175 rfl ?_
    refine g_iload_n dX1_isStashDue_23 rfl ?_
    obtain ⟨hc, hF⟩ := hF
    refine g_iald dX1_isStashDue_24 sh_186 hc.1 hc.2 ?_
    refine g_iload dX1_isStashDue_25 rfl ?_
    refine gw_cNi (As := [g_I (D 186 v2.toNat), g_I v4]) (rest := []) dX1_isStashDue_27 mn_X1_218 rfl (Nat.le_of_ble_eq_true rfl) (by decide) rfl hF ?_
    intro x1 D1 hx1 hF
    have hF := hF hx1
    refine g_ifeq dX1_isStashDue_30 rfl (fun q => ?_) (fun q => ?_)
    · have hF := hF.1 q
      obtain ⟨hc, hF⟩ := hF
      refine gw_iinc (L' := [some (g_R 175), some (g_R r1), some (g_I v2), some (g_I v3), some (g_I (v4 + 1))]) dX1_isStashDue_51 rfl hc (by decide) rfl ?_
      refine g_goto dX1_isStashDue_54 rfl ?_
      exact hF
    · have hF := hF.2 q
      refine g_aload_n dX1_isStashDue_33 rfl ?_
      refine g_iload dX1_isStashDue_34 rfl ?_
      obtain ⟨hc, hF⟩ := hF
      refine g_iald dX1_isStashDue_36 hr1 hc.1 hc.2 ?_
      refine g_aload_n dX1_isStashDue_37 rfl ?_
      refine g_getR dX1_isStashDue_38 fd_X1_40 sh_175 rfl ?_
      refine g_iload_n dX1_isStashDue_41 rfl ?_
      refine g_iload dX1_isStashDue_42 rfl ?_
      obtain ⟨hc, hF⟩ := hF
      refine g_iadd dX1_isStashDue_44 hc ?_
      obtain ⟨hc, hF⟩ := hF
      refine g_iald dX1_isStashDue_45 sh_187 hc.1 hc.2 ?_
      refine g_ceq dX1_isStashDue_46 rfl (fun q => ?_) (fun q => ?_)
      · have hF := hF.1 q
        obtain ⟨hc, hF⟩ := hF
        refine gw_iinc (L' := [some (g_R 175), some (g_R r1), some (g_I v2), some (g_I v3), some (g_I (v4 + 1))]) dX1_isStashDue_51 rfl hc (by decide) rfl ?_
        refine g_goto dX1_isStashDue_54 rfl ?_
        exact hF
      · have hF := hF.2 q
        refine g_iconst dX1_isStashDue_49 ⟨by decide, by decide⟩ ?_
        exact gw_zret dX1_isStashDue_50 rfl (by decide) hF
theorem dX1_isFit_0 : decode cX1_isFit 0 = .ok (.aload_n 0, 1) := by decide +kernel
theorem dX1_isFit_1 : decode cX1_isFit 1 = .ok (.iload_n 2, 1) := by decide +kernel
theorem dX1_isFit_2 : decode cX1_isFit 2 = .ok (.invokevirtual 211, 3) := by decide +kernel
theorem dX1_isFit_5 : decode cX1_isFit 5 = .ok (.ifCond .eq 16, 3) := by decide +kernel
theorem dX1_isFit_8 : decode cX1_isFit 8 = .ok (.aload_n 0, 1) := by decide +kernel
theorem dX1_isFit_9 : decode cX1_isFit 9 = .ok (.aload_n 1, 1) := by decide +kernel
theorem dX1_isFit_10 : decode cX1_isFit 10 = .ok (.iload_n 2, 1) := by decide +kernel
theorem dX1_isFit_11 : decode cX1_isFit 11 = .ok (.invokevirtual 215, 3) := by decide +kernel
theorem dX1_isFit_14 : decode cX1_isFit 14 = .ok (.ifCond .eq 7, 3) := by decide +kernel
theorem dX1_isFit_17 : decode cX1_isFit 17 = .ok (.iconst 1, 1) := by decide +kernel
theorem dX1_isFit_18 : decode cX1_isFit 18 = .ok (.goto 4, 3) := by decide +kernel
theorem dX1_isFit_21 : decode cX1_isFit 21 = .ok (.iconst 0, 1) := by decide +kernel
theorem dX1_isFit_22 : decode cX1_isFit 22 = .ok (.ireturn, 1) := by decide +kernel
abbrev k_X1_isFit (E : g_E) (l : Launch) (D : g_D) (r1 : Nat) (v2 : Int) (K : Int → g_D → Prop) : Prop := g_Ki E l m_X1_isFit 2 [g_R 175, g_R r1, g_I v2] g_SH D K
abbrev n_X1_isFit (E : g_E) (l : Launch) (D : g_D) (pc : Nat) (L : List (Option g_V)) (K : Int → g_D → Prop) : Prop := g_N E l m_X1_isFit 2 pc L [] g_SH D (g_Ri g_SH K)
theorem s_X1_isFit {E : g_E} {l : Launch} {D : g_D} {K : Int → g_D → Prop} {n1 : Nat} {r1 : Nat} {v2 : Int} (hr1 : g_SH[r1]? = some (.inl (0, n1))) (hF : g_okD D → g_r v2 → k_X1_areBlocksDue E l D v2 (fun x1 D1 => g_r x1 → (x1 = 0 → K 0 D1) ∧ (¬ x1 = 0 → k_X1_isStashDue E l D1 r1 v2 (fun x2 D2 => g_r x2 → (x2 = 0 → K 0 D2) ∧ (¬ x2 = 0 → K 1 D2))))) : k_X1_isFit E l D r1 v2 K := by
  refine g_enter (by decide) (Nat.le_of_ble_eq_true rfl) ?_
  show g_N E l m_X1_isFit 2 0 [some (g_R 175), some (g_R r1), some (g_I v2)] [] g_SH D (g_Ri g_SH K)
  refine g_use (fun ok => ?_)
  have hF := hF ok.2.1 (ok.loc (i := 2) rfl)
  refine g_aload_n dX1_isFit_0 rfl ?_
  refine g_iload_n dX1_isFit_1 rfl ?_
  refine gw_cVi (b := 175) (As := [g_I v2]) (rest := []) dX1_isFit_2 mv_X1_211 sh_175 rfl (Nat.le_of_ble_eq_true rfl) (by decide) rfl hF ?_
  intro x1 D1 hx1 hF
  have hF := hF hx1
  refine g_ifeq dX1_isFit_5 rfl (fun q => ?_) (fun q => ?_)
  · have hF := hF.1 q
    refine g_iconst dX1_isFit_21 ⟨by decide, by decide⟩ ?_
    exact gw_zret dX1_isFit_22 rfl (by decide) hF
  · have hF := hF.2 q
    refine g_aload_n dX1_isFit_8 rfl ?_
    refine g_aload_n dX1_isFit_9 rfl ?_
    refine g_iload_n dX1_isFit_10 rfl ?_
    refine gw_cVi (b := 175) (As := [g_R r1, g_I v2]) (rest := []) dX1_isFit_11 mv_X1_215 sh_175 rfl (Nat.le_of_ble_eq_true rfl) (by decide) rfl hF ?_
    intro x2 D2 hx2 hF
    have hF := hF hx2
    refine g_ifeq dX1_isFit_14 rfl (fun q => ?_) (fun q => ?_)
    · have hF := hF.1 q
      refine g_iconst dX1_isFit_21 ⟨by decide, by decide⟩ ?_
      exact gw_zret dX1_isFit_22 rfl (by decide) hF
    · have hF := hF.2 q
      refine g_iconst dX1_isFit_17 ⟨by decide, by decide⟩ ?_
      refine g_goto dX1_isFit_18 rfl ?_
      exact gw_zret dX1_isFit_22 rfl (by decide) hF
theorem dX1_hasLeft_0 : decode cX1_hasLeft 0 = .ok (.aload_n 1, 1) := by decide +kernel
theorem dX1_hasLeft_1 : decode cX1_hasLeft 1 = .ok (.getfield 156, 3) := by decide +kernel
theorem dX1_hasLeft_4 : decode cX1_hasLeft 4 = .ok (.ifCond .lt 18, 3) := by decide +kernel
theorem dX1_hasLeft_7 : decode cX1_hasLeft 7 = .ok (.aload_n 1, 1) := by decide +kernel
theorem dX1_hasLeft_8 : decode cX1_hasLeft 8 = .ok (.getfield 156, 3) := by decide +kernel
theorem dX1_hasLeft_11 : decode cX1_hasLeft 11 = .ok (.aload_n 0, 1) := by decide +kernel
theorem dX1_hasLeft_12 : decode cX1_hasLeft 12 = .ok (.getfield 78, 3) := by decide +kernel
theorem dX1_hasLeft_15 : decode cX1_hasLeft 15 = .ok (.if_icmp .ge 7, 3) := by decide +kernel
theorem dX1_hasLeft_18 : decode cX1_hasLeft 18 = .ok (.iconst 1, 1) := by decide +kernel
theorem dX1_hasLeft_19 : decode cX1_hasLeft 19 = .ok (.goto 4, 3) := by decide +kernel
theorem dX1_hasLeft_22 : decode cX1_hasLeft 22 = .ok (.iconst 0, 1) := by decide +kernel
theorem dX1_hasLeft_23 : decode cX1_hasLeft 23 = .ok (.ireturn, 1) := by decide +kernel
abbrev k_X1_hasLeft (E : g_E) (l : Launch) (D : g_D) (r1 : Nat) (K : Int → g_D → Prop) : Prop := g_Ki E l m_X1_hasLeft 0 [g_R 175, g_R r1] g_SH D K
abbrev n_X1_hasLeft (E : g_E) (l : Launch) (D : g_D) (pc : Nat) (L : List (Option g_V)) (K : Int → g_D → Prop) : Prop := g_N E l m_X1_hasLeft 0 pc L [] g_SH D (g_Ri g_SH K)
theorem s_X1_hasLeft {E : g_E} {l : Launch} {D : g_D} {K : Int → g_D → Prop} {r1 : Nat} (hr1 : is_Device g_SH r1) (hF : g_okD D → ((D r1 7) < 0 → K 0 D) ∧ (¬ (D r1 7) < 0 → ((D 175 4) ≤ (D r1 7) → K 0 D) ∧ (¬ (D 175 4) ≤ (D r1 7) → K 1 D))) : k_X1_hasLeft E l D r1 K := by
  refine g_enter (by decide) (Nat.le_of_ble_eq_true rfl) ?_
  show g_N E l m_X1_hasLeft 0 0 [some (g_R 175), some (g_R r1)] [] g_SH D (g_Ri g_SH K)
  refine g_use (fun ok => ?_)
  have hF := hF ok.2.1
  refine g_aload_n dX1_hasLeft_0 rfl ?_
  refine g_getI dX1_hasLeft_1 fd_X1_156 hr1.1 rfl ?_
  refine g_iflt dX1_hasLeft_4 rfl (fun q => ?_) (fun q => ?_)
  · have hF := hF.1 q
    refine g_iconst dX1_hasLeft_22 ⟨by decide, by decide⟩ ?_
    exact gw_zret dX1_hasLeft_23 rfl (by decide) hF
  · have hF := hF.2 q
    refine g_aload_n dX1_hasLeft_7 rfl ?_
    refine g_getI dX1_hasLeft_8 fd_X1_156 hr1.1 rfl ?_
    refine g_aload_n dX1_hasLeft_11 rfl ?_
    refine g_getI dX1_hasLeft_12 fd_X1_78 sh_175 rfl ?_
    refine g_cge dX1_hasLeft_15 rfl (fun q => ?_) (fun q => ?_)
    · have hF := hF.1 q
      refine g_iconst dX1_hasLeft_22 ⟨by decide, by decide⟩ ?_
      exact gw_zret dX1_hasLeft_23 rfl (by decide) hF
    · have hF := hF.2 q
      refine g_iconst dX1_hasLeft_18 ⟨by decide, by decide⟩ ?_
      refine g_goto dX1_hasLeft_19 rfl ?_
      exact gw_zret dX1_hasLeft_23 rfl (by decide) hF
theorem dX1_saveCells_0 : decode cX1_saveCells 0 = .ok (.iload_n 3, 1) := by decide +kernel
theorem dX1_saveCells_1 : decode cX1_saveCells 1 = .ok (.aload_n 0, 1) := by decide +kernel
theorem dX1_saveCells_2 : decode cX1_saveCells 2 = .ok (.getfield 12, 3) := by decide +kernel
theorem dX1_saveCells_5 : decode cX1_saveCells 5 = .ok (.getfield 97, 3) := by decide +kernel
theorem dX1_saveCells_8 : decode cX1_saveCells 8 = .ok (.iload_n 2, 1) := by decide +kernel
theorem dX1_saveCells_9 : decode cX1_saveCells 9 = .ok (.iaload, 1) := by decide +kernel
theorem dX1_saveCells_10 : decode cX1_saveCells 10 = .ok (.invokestatic 116, 3) := by decide +kernel
theorem dX1_saveCells_13 : decode cX1_saveCells 13 = .ok (.istore 4, 2) := by decide +kernel
theorem dX1_saveCells_15 : decode cX1_saveCells 15 = .ok (.iconst 0, 1) := by decide +kernel
theorem dX1_saveCells_16 : decode cX1_saveCells 16 = .ok (.istore 5, 2) := by decide +kernel
theorem dX1_saveCells_18 : decode cX1_saveCells 18 = .ok (.iload 5, 2) := by decide +kernel
theorem dX1_saveCells_20 : decode cX1_saveCells 20 = .ok (.iload 4, 2) := by decide +kernel
theorem dX1_saveCells_22 : decode cX1_saveCells 22 = .ok (.if_icmp .ge 43, 3) := by decide +kernel
theorem dX1_saveCells_25 : decode cX1_saveCells 25 = .ok (.aload_n 1, 1) := by decide +kernel
theorem dX1_saveCells_26 : decode cX1_saveCells 26 = .ok (.getfield 134, 3) := by decide +kernel
theorem dX1_saveCells_29 : decode cX1_saveCells 29 = .ok (.aload_n 0, 1) := by decide +kernel
theorem dX1_saveCells_30 : decode cX1_saveCells 30 = .ok (.getfield 12, 3) := by decide +kernel
theorem dX1_saveCells_33 : decode cX1_saveCells 33 = .ok (.getfield 94, 3) := by decide +kernel
theorem dX1_saveCells_36 : decode cX1_saveCells 36 = .ok (.iload_n 2, 1) := by decide +kernel
theorem dX1_saveCells_37 : decode cX1_saveCells 37 = .ok (.iaload, 1) := by decide +kernel
theorem dX1_saveCells_38 : decode cX1_saveCells 38 = .ok (.iload 5, 2) := by decide +kernel
theorem dX1_saveCells_40 : decode cX1_saveCells 40 = .ok (.iadd, 1) := by decide +kernel
theorem dX1_saveCells_41 : decode cX1_saveCells 41 = .ok (.aload_n 1, 1) := by decide +kernel
theorem dX1_saveCells_42 : decode cX1_saveCells 42 = .ok (.getfield 122, 3) := by decide +kernel
theorem dX1_saveCells_45 : decode cX1_saveCells 45 = .ok (.aload_n 0, 1) := by decide +kernel
theorem dX1_saveCells_46 : decode cX1_saveCells 46 = .ok (.getfield 12, 3) := by decide +kernel
theorem dX1_saveCells_49 : decode cX1_saveCells 49 = .ok (.getfield 100, 3) := by decide +kernel
theorem dX1_saveCells_52 : decode cX1_saveCells 52 = .ok (.iload_n 2, 1) := by decide +kernel
theorem dX1_saveCells_53 : decode cX1_saveCells 53 = .ok (.iaload, 1) := by decide +kernel
theorem dX1_saveCells_54 : decode cX1_saveCells 54 = .ok (.iload 5, 2) := by decide +kernel
theorem dX1_saveCells_56 : decode cX1_saveCells 56 = .ok (.iadd, 1) := by decide +kernel
theorem dX1_saveCells_57 : decode cX1_saveCells 57 = .ok (.iaload, 1) := by decide +kernel
theorem dX1_saveCells_58 : decode cX1_saveCells 58 = .ok (.iastore, 1) := by decide +kernel
theorem dX1_saveCells_59 : decode cX1_saveCells 59 = .ok (.iinc 5 1, 3) := by decide +kernel
theorem dX1_saveCells_62 : decode cX1_saveCells 62 = .ok (.goto (-44), 3) := by decide +kernel
theorem dX1_saveCells_65 : decode cX1_saveCells 65 = .ok (.return_, 1) := by decide +kernel
abbrev k_X1_saveCells (E : g_E) (l : Launch) (D : g_D) (r1 : Nat) (v2 : Int) (v3 : Int) (K : g_D → Prop) : Prop := g_Kv E l m_X1_saveCells 1 [g_R 175, g_R r1, g_I v2, g_I v3] g_SH D K
abbrev n_X1_saveCells (E : g_E) (l : Launch) (D : g_D) (pc : Nat) (L : List (Option g_V)) (K : g_D → Prop) : Prop := g_N E l m_X1_saveCells 1 pc L [] g_SH D (g_Rv g_SH K)
theorem s_X1_saveCells {E : g_E} {l : Launch} {D : g_D} {K : g_D → Prop} {r1 : Nat} {v2 : Int} {v3 : Int} (hr1 : is_Device g_SH r1) (hF : g_okD D → g_r v2 → g_r v3 → (0 ≤ v2 ∧ v2 < 36) ∧ (n_X1_saveCells E l D 18 [some (g_R 175), some (g_R r1), some (g_I v2), none, some (g_I (min v3 (D 180 v2.toNat))), some (g_I 0)] K)) : k_X1_saveCells E l D r1 v2 v3 K := by
  refine g_enter (by decide) (Nat.le_of_ble_eq_true rfl) ?_
  show g_N E l m_X1_saveCells 1 0 [some (g_R 175), some (g_R r1), some (g_I v2), some (g_I v3), none, none] [] g_SH D (g_Rv g_SH K)
  refine g_use (fun ok => ?_)
  have hF := hF ok.2.1 (ok.loc (i := 2) rfl) (ok.loc (i := 3) rfl)
  refine g_iload_n dX1_saveCells_0 rfl ?_
  refine g_aload_n dX1_saveCells_1 rfl ?_
  refine g_getR dX1_saveCells_2 fd_X1_12 sh_175 rfl ?_
  refine g_getR dX1_saveCells_5 fd_X1_97 sh_176 rfl ?_
  refine g_iload_n dX1_saveCells_8 rfl ?_
  obtain ⟨hc, hF⟩ := hF
  refine g_iald dX1_saveCells_9 sh_180 hc.1 hc.2 ?_
  refine g_min dX1_saveCells_10 mw_X1_116 (by decide) (Nat.le_refl _) (Nat.le_refl _) (Nat.le_of_ble_eq_true rfl) ?_
  refine gw_istore (L' := [some (g_R 175), some (g_R r1), some (g_I v2), some (g_I v3), some (g_I (min v3 (D 180 v2.toNat))), none]) dX1_saveCells_13 (by decide) rfl ?_
  refine g_iconst dX1_saveCells_15 ⟨by decide, by decide⟩ ?_
  refine gw_istore (L' := [some (g_R 175), some (g_R r1), some (g_I v2), some (g_I v3), some (g_I (min v3 (D 180 v2.toNat))), some (g_I 0)]) dX1_saveCells_16 (by decide) rfl ?_
  exact g_forget (L' := [some (g_R 175), some (g_R r1), some (g_I v2), none, some (g_I (min v3 (D 180 v2.toNat))), some (g_I 0)]) ⟨rfl, ⟨rfl, ⟨rfl, ⟨rfl, ⟨rfl, trivial⟩⟩⟩⟩⟩ hF
theorem s_X1_saveCells_18 {E : g_E} {l : Launch} {D : g_D} {K : g_D → Prop} {r1 : Nat} {v2 : Int} {v4 : Int} {v5 : Int} (hr1 : is_Device g_SH r1) (hF : g_okD D → g_r v2 → g_r v4 → g_r v5 → (v4 ≤ v5 → K D) ∧ (¬ v4 ≤ v5 → (0 ≤ v2 ∧ v2 < 36) ∧ ((g_r ((D 178 v2.toNat) + v5)) ∧ ((0 ≤ v2 ∧ v2 < 36) ∧ ((g_r ((D 179 v2.toNat) + v5)) ∧ ((0 ≤ ((D 179 v2.toNat) + v5) ∧ ((D 179 v2.toNat) + v5) < 40) ∧ ((0 ≤ ((D 178 v2.toNat) + v5) ∧ ((D 178 v2.toNat) + v5) < 20) ∧ (∀ D1, D1 = g_up D (r1 + 2) ((D 178 v2.toNat) + v5).toNat (D (r1 + 1) ((D 179 v2.toNat) + v5).toNat) → ((g_r (v5 + 1)) ∧ (n_X1_saveCells E l D1 18 [some (g_R 175), some (g_R r1), some (g_I v2), none, some (g_I v4), some (g_I (v5 + 1))] K)))))))))) : n_X1_saveCells E l D 18 [some (g_R 175), some (g_R r1), some (g_I v2), none, some (g_I v4), some (g_I v5)] K := by
  refine g_use (fun ok => ?_)
  have hF := hF ok.2.1 (ok.loc (i := 2) rfl) (ok.loc (i := 4) rfl) (ok.loc (i := 5) rfl)
  refine g_iload dX1_saveCells_18 rfl ?_
  refine g_iload dX1_saveCells_20 rfl ?_
  refine g_cge dX1_saveCells_22 rfl (fun q => ?_) (fun q => ?_)
  · have hF := hF.1 q
    exact gw_vret dX1_saveCells_65 rfl hF
  · have hF := hF.2 q
    refine g_aload_n dX1_saveCells_25 rfl ?_
    refine g_getR dX1_saveCells_26 fd_X1_134 hr1.1 rfl ?_
    refine g_aload_n dX1_saveCells_29 rfl ?_
    refine g_getR dX1_saveCells_30 fd_X1_12 sh_175 rfl ?_
    refine g_getR dX1_saveCells_33 fd_X1_94 sh_176 rfl ?_
    refine g_iload_n dX1_saveCells_36 rfl ?_
    obtain ⟨hc, hF⟩ := hF
    refine g_iald dX1_saveCells_37 sh_178 hc.1 hc.2 ?_
    refine g_iload dX1_saveCells_38 rfl ?_
    obtain ⟨hc, hF⟩ := hF
    refine g_iadd dX1_saveCells_40 hc ?_
    refine g_aload_n dX1_saveCells_41 rfl ?_
    refine g_getR dX1_saveCells_42 fd_X1_122 hr1.1 rfl ?_
    refine g_aload_n dX1_saveCells_45 rfl ?_
    refine g_getR dX1_saveCells_46 fd_X1_12 sh_175 rfl ?_
    refine g_getR dX1_saveCells_49 fd_X1_100 sh_176 rfl ?_
    refine g_iload_n dX1_saveCells_52 rfl ?_
    obtain ⟨hc, hF⟩ := hF
    refine g_iald dX1_saveCells_53 sh_179 hc.1 hc.2 ?_
    refine g_iload dX1_saveCells_54 rfl ?_
    obtain ⟨hc, hF⟩ := hF
    refine g_iadd dX1_saveCells_56 hc ?_
    obtain ⟨hc, hF⟩ := hF
    refine g_iald dX1_saveCells_57 hr1.2.1 hc.1 hc.2 ?_
    obtain ⟨hc, hF⟩ := hF
    let D1 : g_D := g_up D (r1 + 2) ((D 178 v2.toNat) + v5).toNat (D (r1 + 1) ((D 179 v2.toNat) + v5).toNat)
    have hF := hF D1 rfl
    refine g_iast dX1_saveCells_58 hr1.2.2.1 hc.1 hc.2 ?_
    obtain ⟨hc, hF⟩ := hF
    refine gw_iinc (L' := [some (g_R 175), some (g_R r1), some (g_I v2), none, some (g_I v4), some (g_I (v5 + 1))]) dX1_saveCells_59 rfl hc (by decide) rfl ?_
    refine g_goto dX1_saveCells_62 rfl ?_
    exact hF
theorem dX1_readCell_0 : decode cX1_readCell 0 = .ok (.aload_n 0, 1) := by decide +kernel
theorem dX1_readCell_1 : decode cX1_readCell 1 = .ok (.getfield 12, 3) := by decide +kernel
theorem dX1_readCell_4 : decode cX1_readCell 4 = .ok (.getfield 100, 3) := by decide +kernel
theorem dX1_readCell_7 : decode cX1_readCell 7 = .ok (.iload_n 2, 1) := by decide +kernel
theorem dX1_readCell_8 : decode cX1_readCell 8 = .ok (.iaload, 1) := by decide +kernel
theorem dX1_readCell_9 : decode cX1_readCell 9 = .ok (.iload_n 3, 1) := by decide +kernel
theorem dX1_readCell_10 : decode cX1_readCell 10 = .ok (.iadd, 1) := by decide +kernel
theorem dX1_readCell_11 : decode cX1_readCell 11 = .ok (.istore 4, 2) := by decide +kernel
theorem dX1_readCell_13 : decode cX1_readCell 13 = .ok (.aload_n 0, 1) := by decide +kernel
theorem dX1_readCell_14 : decode cX1_readCell 14 = .ok (.getfield 12, 3) := by decide +kernel
theorem dX1_readCell_17 : decode cX1_readCell 17 = .ok (.getfield 84, 3) := by decide +kernel
theorem dX1_readCell_20 : decode cX1_readCell 20 = .ok (.iload_n 2, 1) := by decide +kernel
theorem dX1_readCell_21 : decode cX1_readCell 21 = .ok (.iaload, 1) := by decide +kernel
theorem dX1_readCell_22 : decode cX1_readCell 22 = .ok (.lookupswitch 42 #[(2, 26), (3, 34)], 26) := by decide +kernel
theorem dX1_readCell_48 : decode cX1_readCell 48 = .ok (.aload_n 1, 1) := by decide +kernel
theorem dX1_readCell_49 : decode cX1_readCell 49 = .ok (.getfield 122, 3) := by decide +kernel
theorem dX1_readCell_52 : decode cX1_readCell 52 = .ok (.iload 4, 2) := by decide +kernel
theorem dX1_readCell_54 : decode cX1_readCell 54 = .ok (.iaload, 1) := by decide +kernel
theorem dX1_readCell_55 : decode cX1_readCell 55 = .ok (.ireturn, 1) := by decide +kernel
theorem dX1_readCell_56 : decode cX1_readCell 56 = .ok (.aload_n 1, 1) := by decide +kernel
theorem dX1_readCell_57 : decode cX1_readCell 57 = .ok (.getfield 134, 3) := by decide +kernel
theorem dX1_readCell_60 : decode cX1_readCell 60 = .ok (.iload 4, 2) := by decide +kernel
theorem dX1_readCell_62 : decode cX1_readCell 62 = .ok (.iaload, 1) := by decide +kernel
theorem dX1_readCell_63 : decode cX1_readCell 63 = .ok (.ireturn, 1) := by decide +kernel
theorem dX1_readCell_64 : decode cX1_readCell 64 = .ok (.iload 4, 2) := by decide +kernel
theorem dX1_readCell_66 : decode cX1_readCell 66 = .ok (.aload_n 0, 1) := by decide +kernel
theorem dX1_readCell_67 : decode cX1_readCell 67 = .ok (.getfield 23, 3) := by decide +kernel
theorem dX1_readCell_70 : decode cX1_readCell 70 = .ok (.getfield 57, 3) := by decide +kernel
theorem dX1_readCell_73 : decode cX1_readCell 73 = .ok (.if_icmp .ge 16, 3) := by decide +kernel
theorem dX1_readCell_76 : decode cX1_readCell 76 = .ok (.aload_n 0, 1) := by decide +kernel
theorem dX1_readCell_77 : decode cX1_readCell 77 = .ok (.getfield 23, 3) := by decide +kernel
theorem dX1_readCell_80 : decode cX1_readCell 80 = .ok (.getfield 187, 3) := by decide +kernel
theorem dX1_readCell_83 : decode cX1_readCell 83 = .ok (.iload 4, 2) := by decide +kernel
theorem dX1_readCell_85 : decode cX1_readCell 85 = .ok (.iaload, 1) := by decide +kernel
theorem dX1_readCell_86 : decode cX1_readCell 86 = .ok (.goto 6, 3) := by decide +kernel
theorem dX1_readCell_89 : decode cX1_readCell 89 = .ok (.sipush 255, 3) := by decide +kernel
theorem dX1_readCell_92 : decode cX1_readCell 92 = .ok (.ireturn, 1) := by decide +kernel
abbrev k_X1_readCell (E : g_E) (l : Launch) (D : g_D) (r1 : Nat) (v2 : Int) (v3 : Int) (K : Int → g_D → Prop) : Prop := g_Ki E l m_X1_readCell 0 [g_R 175, g_R r1, g_I v2, g_I v3] g_SH D K
abbrev n_X1_readCell (E : g_E) (l : Launch) (D : g_D) (pc : Nat) (L : List (Option g_V)) (K : Int → g_D → Prop) : Prop := g_N E l m_X1_readCell 0 pc L [] g_SH D (g_Ri g_SH K)
theorem s_X1_readCell {E : g_E} {l : Launch} {D : g_D} {K : Int → g_D → Prop} {r1 : Nat} {v2 : Int} {v3 : Int} (hr1 : is_Device g_SH r1) (hF : g_okD D → g_r v2 → g_r v3 → (0 ≤ v2 ∧ v2 < 36) ∧ ((g_r ((D 179 v2.toNat) + v3)) ∧ ((0 ≤ v2 ∧ v2 < 36) ∧ (((D 177 v2.toNat) = 2 → (0 ≤ ((D 179 v2.toNat) + v3) ∧ ((D 179 v2.toNat) + v3) < 40) ∧ (K (D (r1 + 1) ((D 179 v2.toNat) + v3).toNat) D)) ∧ ((D 177 v2.toNat) = 3 → (0 ≤ ((D 179 v2.toNat) + v3) ∧ ((D 179 v2.toNat) + v3) < 20) ∧ (K (D (r1 + 2) ((D 179 v2.toNat) + v3).toNat) D)) ∧ ((¬ (D 177 v2.toNat) = 2 ∧ ¬ (D 177 v2.toNat) = 3) → ((D 181 1) ≤ ((D 179 v2.toNat) + v3) → K 255 D) ∧ (¬ (D 181 1) ≤ ((D 179 v2.toNat) + v3) → (0 ≤ ((D 179 v2.toNat) + v3) ∧ ((D 179 v2.toNat) + v3) < 160) ∧ (K (D 182 ((D 179 v2.toNat) + v3).toNat) D))))))) : k_X1_readCell E l D r1 v2 v3 K := by
  refine g_enter (by decide) (Nat.le_of_ble_eq_true rfl) ?_
  show g_N E l m_X1_readCell 0 0 [some (g_R 175), some (g_R r1), some (g_I v2), some (g_I v3), none] [] g_SH D (g_Ri g_SH K)
  refine g_use (fun ok => ?_)
  have hF := hF ok.2.1 (ok.loc (i := 2) rfl) (ok.loc (i := 3) rfl)
  refine g_aload_n dX1_readCell_0 rfl ?_
  refine g_getR dX1_readCell_1 fd_X1_12 sh_175 rfl ?_
  refine g_getR dX1_readCell_4 fd_X1_100 sh_176 rfl ?_
  refine g_iload_n dX1_readCell_7 rfl ?_
  obtain ⟨hc, hF⟩ := hF
  refine g_iald dX1_readCell_8 sh_179 hc.1 hc.2 ?_
  refine g_iload_n dX1_readCell_9 rfl ?_
  obtain ⟨hc, hF⟩ := hF
  refine g_iadd dX1_readCell_10 hc ?_
  refine gw_istore (L' := [some (g_R 175), some (g_R r1), some (g_I v2), some (g_I v3), some (g_I ((D 179 v2.toNat) + v3))]) dX1_readCell_11 (by decide) rfl ?_
  refine g_aload_n dX1_readCell_13 rfl ?_
  refine g_getR dX1_readCell_14 fd_X1_12 sh_175 rfl ?_
  refine g_getR dX1_readCell_17 fd_X1_84 sh_176 rfl ?_
  refine g_iload_n dX1_readCell_20 rfl ?_
  obtain ⟨hc, hF⟩ := hF
  refine g_iald dX1_readCell_21 sh_177 hc.1 hc.2 ?_
  rcases Decidable.em ((D 177 v2.toNat) = 2) with q22_0 | q22_0
  · have hF := hF.1 q22_0
    refine g_ls dX1_readCell_22 (by decide) (by rw [q22_0] <;> rfl) rfl ?_
    refine g_aload_n dX1_readCell_48 rfl ?_
    refine g_getR dX1_readCell_49 fd_X1_122 hr1.1 rfl ?_
    refine g_iload dX1_readCell_52 rfl ?_
    obtain ⟨hc, hF⟩ := hF
    refine g_iald dX1_readCell_54 hr1.2.1 hc.1 hc.2 ?_
    exact gw_iret dX1_readCell_55 rfl hF
  rcases Decidable.em ((D 177 v2.toNat) = 3) with q22_1 | q22_1
  · have hF := hF.2.1 q22_1
    refine g_ls dX1_readCell_22 (by decide) (by rw [q22_1] <;> rfl) rfl ?_
    refine g_aload_n dX1_readCell_56 rfl ?_
    refine g_getR dX1_readCell_57 fd_X1_134 hr1.1 rfl ?_
    refine g_iload dX1_readCell_60 rfl ?_
    obtain ⟨hc, hF⟩ := hF
    refine g_iald dX1_readCell_62 hr1.2.2.1 hc.1 hc.2 ?_
    exact gw_iret dX1_readCell_63 rfl hF
  have hF := hF.2.2 ⟨q22_0, q22_1⟩
  refine g_ls (off := 42) dX1_readCell_22 (by decide) (by simp [Op.lookupswitch.offset, q22_0, Ne.symm q22_0, q22_1, Ne.symm q22_1]) rfl ?_
  refine g_iload dX1_readCell_64 rfl ?_
  refine g_aload_n dX1_readCell_66 rfl ?_
  refine g_getR dX1_readCell_67 fd_X1_23 sh_175 rfl ?_
  refine g_getI dX1_readCell_70 fd_X1_57 sh_181 rfl ?_
  refine g_cge dX1_readCell_73 rfl (fun q => ?_) (fun q => ?_)
  · have hF := hF.1 q
    refine g_sipush dX1_readCell_89 ⟨by decide, by decide⟩ ?_
    exact gw_iret dX1_readCell_92 rfl hF
  · have hF := hF.2 q
    refine g_aload_n dX1_readCell_76 rfl ?_
    refine g_getR dX1_readCell_77 fd_X1_23 sh_175 rfl ?_
    refine g_getR dX1_readCell_80 fd_X1_187 sh_181 rfl ?_
    refine g_iload dX1_readCell_83 rfl ?_
    obtain ⟨hc, hF⟩ := hF
    refine g_iald dX1_readCell_85 sh_182 hc.1 hc.2 ?_
    refine g_goto dX1_readCell_86 rfl ?_
    exact gw_iret dX1_readCell_92 rfl hF
theorem dX1_readComing_0 : decode cX1_readComing 0 = .ok (.aload_n 0, 1) := by decide +kernel
theorem dX1_readComing_1 : decode cX1_readComing 1 = .ok (.getfield 27, 3) := by decide +kernel
theorem dX1_readComing_4 : decode cX1_readComing 4 = .ok (.iload_n 2, 1) := by decide +kernel
theorem dX1_readComing_5 : decode cX1_readComing 5 = .ok (.iaload, 1) := by decide +kernel
theorem dX1_readComing_6 : decode cX1_readComing 6 = .ok (.istore_n 3, 1) := by decide +kernel
theorem dX1_readComing_7 : decode cX1_readComing 7 = .ok (.iconst 0, 1) := by decide +kernel
theorem dX1_readComing_8 : decode cX1_readComing 8 = .ok (.istore 4, 2) := by decide +kernel
theorem dX1_readComing_10 : decode cX1_readComing 10 = .ok (.iload 4, 2) := by decide +kernel
theorem dX1_readComing_12 : decode cX1_readComing 12 = .ok (.iconst 4, 1) := by decide +kernel
theorem dX1_readComing_13 : decode cX1_readComing 13 = .ok (.if_icmp .ge 92, 3) := by decide +kernel
theorem dX1_readComing_16 : decode cX1_readComing 16 = .ok (.aload_n 0, 1) := by decide +kernel
theorem dX1_readComing_17 : decode cX1_readComing 17 = .ok (.getfield 31, 3) := by decide +kernel
theorem dX1_readComing_20 : decode cX1_readComing 20 = .ok (.iload_n 2, 1) := by decide +kernel
theorem dX1_readComing_21 : decode cX1_readComing 21 = .ok (.iaload, 1) := by decide +kernel
theorem dX1_readComing_22 : decode cX1_readComing 22 = .ok (.iconst 4, 1) := by decide +kernel
theorem dX1_readComing_23 : decode cX1_readComing 23 = .ok (.imul, 1) := by decide +kernel
theorem dX1_readComing_24 : decode cX1_readComing 24 = .ok (.iload 4, 2) := by decide +kernel
theorem dX1_readComing_26 : decode cX1_readComing 26 = .ok (.iadd, 1) := by decide +kernel
theorem dX1_readComing_27 : decode cX1_readComing 27 = .ok (.istore 5, 2) := by decide +kernel
theorem dX1_readComing_29 : decode cX1_readComing 29 = .ok (.iload 5, 2) := by decide +kernel
theorem dX1_readComing_31 : decode cX1_readComing 31 = .ok (.aload_n 0, 1) := by decide +kernel
theorem dX1_readComing_32 : decode cX1_readComing 32 = .ok (.getfield 12, 3) := by decide +kernel
theorem dX1_readComing_35 : decode cX1_readComing 35 = .ok (.getfield 94, 3) := by decide +kernel
theorem dX1_readComing_38 : decode cX1_readComing 38 = .ok (.iload_n 3, 1) := by decide +kernel
theorem dX1_readComing_39 : decode cX1_readComing 39 = .ok (.iaload, 1) := by decide +kernel
theorem dX1_readComing_40 : decode cX1_readComing 40 = .ok (.isub, 1) := by decide +kernel
theorem dX1_readComing_41 : decode cX1_readComing 41 = .ok (.istore 6, 2) := by decide +kernel
theorem dX1_readComing_43 : decode cX1_readComing 43 = .ok (.iload 6, 2) := by decide +kernel
theorem dX1_readComing_45 : decode cX1_readComing 45 = .ok (.ifCond .lt 21, 3) := by decide +kernel
theorem dX1_readComing_48 : decode cX1_readComing 48 = .ok (.iload 6, 2) := by decide +kernel
theorem dX1_readComing_50 : decode cX1_readComing 50 = .ok (.aload_n 0, 1) := by decide +kernel
theorem dX1_readComing_51 : decode cX1_readComing 51 = .ok (.getfield 12, 3) := by decide +kernel
theorem dX1_readComing_54 : decode cX1_readComing 54 = .ok (.getfield 97, 3) := by decide +kernel
theorem dX1_readComing_57 : decode cX1_readComing 57 = .ok (.iload_n 3, 1) := by decide +kernel
theorem dX1_readComing_58 : decode cX1_readComing 58 = .ok (.iaload, 1) := by decide +kernel
theorem dX1_readComing_59 : decode cX1_readComing 59 = .ok (.if_icmp .ge 7, 3) := by decide +kernel
theorem dX1_readComing_62 : decode cX1_readComing 62 = .ok (.iconst 1, 1) := by decide +kernel
theorem dX1_readComing_63 : decode cX1_readComing 63 = .ok (.goto 4, 3) := by decide +kernel
theorem dX1_readComing_66 : decode cX1_readComing 66 = .ok (.iconst 0, 1) := by decide +kernel
theorem dX1_readComing_67 : decode cX1_readComing 67 = .ok (.istore 7, 2) := by decide +kernel
theorem dX1_readComing_69 : decode cX1_readComing 69 = .ok (.aload_n 0, 1) := by decide +kernel
theorem dX1_readComing_70 : decode cX1_readComing 70 = .ok (.getfield 50, 3) := by decide +kernel
theorem dX1_readComing_73 : decode cX1_readComing 73 = .ok (.iload 4, 2) := by decide +kernel
theorem dX1_readComing_75 : decode cX1_readComing 75 = .ok (.iload 7, 2) := by decide +kernel
theorem dX1_readComing_77 : decode cX1_readComing 77 = .ok (.ifCond .eq 14, 3) := by decide +kernel
theorem dX1_readComing_80 : decode cX1_readComing 80 = .ok (.aload_n 0, 1) := by decide +kernel
theorem dX1_readComing_81 : decode cX1_readComing 81 = .ok (.aload_n 1, 1) := by decide +kernel
theorem dX1_readComing_82 : decode cX1_readComing 82 = .ok (.iload_n 3, 1) := by decide +kernel
theorem dX1_readComing_83 : decode cX1_readComing 83 = .ok (.iload 6, 2) := by decide +kernel
theorem dX1_readComing_85 : decode cX1_readComing 85 = .ok (.invokevirtual 183, 3) := by decide +kernel
theorem dX1_readComing_88 : decode cX1_readComing 88 = .ok (.goto 10, 3) := by decide +kernel
theorem dX1_readComing_91 : decode cX1_readComing 91 = .ok (.aload_n 1, 1) := by decide +kernel
theorem dX1_readComing_92 : decode cX1_readComing 92 = .ok (.getfield 122, 3) := by decide +kernel
theorem dX1_readComing_95 : decode cX1_readComing 95 = .ok (.iload 5, 2) := by decide +kernel
theorem dX1_readComing_97 : decode cX1_readComing 97 = .ok (.iaload, 1) := by decide +kernel
theorem dX1_readComing_98 : decode cX1_readComing 98 = .ok (.iastore, 1) := by decide +kernel
theorem dX1_readComing_99 : decode cX1_readComing 99 = .ok (.iinc 4 1, 3) := by decide +kernel
theorem dX1_readComing_102 : decode cX1_readComing 102 = .ok (.goto (-92), 3) := by decide +kernel
theorem dX1_readComing_105 : decode cX1_readComing 105 = .ok (.return_, 1) := by decide +kernel
abbrev k_X1_readComing (E : g_E) (l : Launch) (D : g_D) (r1 : Nat) (v2 : Int) (K : g_D → Prop) : Prop := g_Kv E l m_X1_readComing 1 [g_R 175, g_R r1, g_I v2] g_SH D K
abbrev n_X1_readComing (E : g_E) (l : Launch) (D : g_D) (pc : Nat) (L : List (Option g_V)) (K : g_D → Prop) : Prop := g_N E l m_X1_readComing 1 pc L [] g_SH D (g_Rv g_SH K)
theorem s_X1_readComing {E : g_E} {l : Launch} {D : g_D} {K : g_D → Prop} {r1 : Nat} {v2 : Int} (hr1 : is_Device g_SH r1) (hF : g_okD D → g_r v2 → (0 ≤ v2 ∧ v2 < 360) ∧ (n_X1_readComing E l D 10 [some (g_R 175), some (g_R r1), some (g_I v2), some (g_I (D 183 v2.toNat)), some (g_I 0), none, none, none] K)) : k_X1_readComing E l D r1 v2 K := by
  refine g_enter (by decide) (Nat.le_of_ble_eq_true rfl) ?_
  show g_N E l m_X1_readComing 1 0 [some (g_R 175), some (g_R r1), some (g_I v2), none, none, none, none, none] [] g_SH D (g_Rv g_SH K)
  refine g_use (fun ok => ?_)
  have hF := hF ok.2.1 (ok.loc (i := 2) rfl)
  refine g_aload_n dX1_readComing_0 rfl ?_
  refine g_getR dX1_readComing_1 fd_X1_27 sh_175 rfl ?_
  refine g_iload_n dX1_readComing_4 rfl ?_
  obtain ⟨hc, hF⟩ := hF
  refine g_iald dX1_readComing_5 sh_183 hc.1 hc.2 ?_
  refine gw_istore_n (L' := [some (g_R 175), some (g_R r1), some (g_I v2), some (g_I (D 183 v2.toNat)), none, none, none, none]) dX1_readComing_6 (by decide) rfl ?_
  refine g_iconst dX1_readComing_7 ⟨by decide, by decide⟩ ?_
  refine gw_istore (L' := [some (g_R 175), some (g_R r1), some (g_I v2), some (g_I (D 183 v2.toNat)), some (g_I 0), none, none, none]) dX1_readComing_8 (by decide) rfl ?_
  exact hF
theorem s_X1_readComing_10 {E : g_E} {l : Launch} {D : g_D} {K : g_D → Prop} {r1 : Nat} {v2 : Int} {v3 : Int} {v4 : Int} (hr1 : is_Device g_SH r1) (hF : g_okD D → g_r v2 → g_r v3 → g_r v4 → (4 ≤ v4 → K D) ∧ (¬ 4 ≤ v4 → (0 ≤ v2 ∧ v2 < 360) ∧ ((g_r ((D 184 v2.toNat) * 4)) ∧ ((g_r (((D 184 v2.toNat) * 4) + v4)) ∧ ((0 ≤ v3 ∧ v3 < 36) ∧ ((g_r ((((D 184 v2.toNat) * 4) + v4) - (D 178 v3.toNat))) ∧ ((((((D 184 v2.toNat) * 4) + v4) - (D 178 v3.toNat)) < 0 → (0 ≤ (((D 184 v2.toNat) * 4) + v4) ∧ (((D 184 v2.toNat) * 4) + v4) < 40) ∧ ((0 ≤ v4 ∧ v4 < 4) ∧ (∀ D1, D1 = g_up D 196 v4.toNat (D (r1 + 1) (((D 184 v2.toNat) * 4) + v4).toNat) → ((g_r (v4 + 1)) ∧ (n_X1_readComing E l D1 10 [some (g_R 175), some (g_R r1), some (g_I v2), some (g_I v3), some (g_I (v4 + 1)), none, none, none] K))))) ∧ (¬ ((((D 184 v2.toNat) * 4) + v4) - (D 178 v3.toNat)) < 0 → (0 ≤ v3 ∧ v3 < 36) ∧ (((D 180 v3.toNat) ≤ ((((D 184 v2.toNat) * 4) + v4) - (D 178 v3.toNat)) → (0 ≤ (((D 184 v2.toNat) * 4) + v4) ∧ (((D 184 v2.toNat) * 4) + v4) < 40) ∧ ((0 ≤ v4 ∧ v4 < 4) ∧ (∀ D2, D2 = g_up D 196 v4.toNat (D (r1 + 1) (((D 184 v2.toNat) * 4) + v4).toNat) → ((g_r (v4 + 1)) ∧ (n_X1_readComing E l D2 10 [some (g_R 175), some (g_R r1), some (g_I v2), some (g_I v3), some (g_I (v4 + 1)), none, none, none] K))))) ∧ (¬ (D 180 v3.toNat) ≤ ((((D 184 v2.toNat) * 4) + v4) - (D 178 v3.toNat)) → k_X1_readCell E l D r1 v3 ((((D 184 v2.toNat) * 4) + v4) - (D 178 v3.toNat)) (fun x3 D3 => g_r x3 → (0 ≤ v4 ∧ v4 < 4) ∧ (∀ D4, D4 = g_up D3 196 v4.toNat x3 → ((g_r (v4 + 1)) ∧ (n_X1_readComing E l D4 10 [some (g_R 175), some (g_R r1), some (g_I v2), some (g_I v3), some (g_I (v4 + 1)), none, none, none] K)))))))))))))) : n_X1_readComing E l D 10 [some (g_R 175), some (g_R r1), some (g_I v2), some (g_I v3), some (g_I v4), none, none, none] K := by
  refine g_use (fun ok => ?_)
  have hF := hF ok.2.1 (ok.loc (i := 2) rfl) (ok.loc (i := 3) rfl) (ok.loc (i := 4) rfl)
  refine g_iload dX1_readComing_10 rfl ?_
  refine g_iconst dX1_readComing_12 ⟨by decide, by decide⟩ ?_
  refine g_cge dX1_readComing_13 rfl (fun q => ?_) (fun q => ?_)
  · have hF := hF.1 q
    exact gw_vret dX1_readComing_105 rfl hF
  · have hF := hF.2 q
    refine g_aload_n dX1_readComing_16 rfl ?_
    refine g_getR dX1_readComing_17 fd_X1_31 sh_175 rfl ?_
    refine g_iload_n dX1_readComing_20 rfl ?_
    obtain ⟨hc, hF⟩ := hF
    refine g_iald dX1_readComing_21 sh_184 hc.1 hc.2 ?_
    refine g_iconst dX1_readComing_22 ⟨by decide, by decide⟩ ?_
    obtain ⟨hc, hF⟩ := hF
    refine g_imul dX1_readComing_23 hc ?_
    refine g_iload dX1_readComing_24 rfl ?_
    obtain ⟨hc, hF⟩ := hF
    refine g_iadd dX1_readComing_26 hc ?_
    refine gw_istore (L' := [some (g_R 175), some (g_R r1), some (g_I v2), some (g_I v3), some (g_I v4), some (g_I (((D 184 v2.toNat) * 4) + v4)), none, none]) dX1_readComing_27 (by decide) rfl ?_
    refine g_iload dX1_readComing_29 rfl ?_
    refine g_aload_n dX1_readComing_31 rfl ?_
    refine g_getR dX1_readComing_32 fd_X1_12 sh_175 rfl ?_
    refine g_getR dX1_readComing_35 fd_X1_94 sh_176 rfl ?_
    refine g_iload_n dX1_readComing_38 rfl ?_
    obtain ⟨hc, hF⟩ := hF
    refine g_iald dX1_readComing_39 sh_178 hc.1 hc.2 ?_
    obtain ⟨hc, hF⟩ := hF
    refine g_isub dX1_readComing_40 hc ?_
    refine gw_istore (L' := [some (g_R 175), some (g_R r1), some (g_I v2), some (g_I v3), some (g_I v4), some (g_I (((D 184 v2.toNat) * 4) + v4)), some (g_I ((((D 184 v2.toNat) * 4) + v4) - (D 178 v3.toNat))), none]) dX1_readComing_41 (by decide) rfl ?_
    refine g_iload dX1_readComing_43 rfl ?_
    refine g_iflt dX1_readComing_45 rfl (fun q => ?_) (fun q => ?_)
    · have hF := hF.1 q
      refine g_iconst dX1_readComing_66 ⟨by decide, by decide⟩ ?_
      refine gw_istore (L' := [some (g_R 175), some (g_R r1), some (g_I v2), some (g_I v3), some (g_I v4), some (g_I (((D 184 v2.toNat) * 4) + v4)), some (g_I ((((D 184 v2.toNat) * 4) + v4) - (D 178 v3.toNat))), some (g_I 0)]) dX1_readComing_67 (by decide) rfl ?_
      refine g_aload_n dX1_readComing_69 rfl ?_
      refine g_getR dX1_readComing_70 fd_X1_50 sh_175 rfl ?_
      refine g_iload dX1_readComing_73 rfl ?_
      refine g_iload dX1_readComing_75 rfl ?_
      refine g_ifeq dX1_readComing_77 rfl (fun _ => ?_) (fun q => absurd q (by decide))
      refine g_aload_n dX1_readComing_91 rfl ?_
      refine g_getR dX1_readComing_92 fd_X1_122 hr1.1 rfl ?_
      refine g_iload dX1_readComing_95 rfl ?_
      obtain ⟨hc, hF⟩ := hF
      refine g_iald dX1_readComing_97 hr1.2.1 hc.1 hc.2 ?_
      obtain ⟨hc, hF⟩ := hF
      let D1 : g_D := g_up D 196 v4.toNat (D (r1 + 1) (((D 184 v2.toNat) * 4) + v4).toNat)
      have hF := hF D1 rfl
      refine g_iast dX1_readComing_98 sh_196 hc.1 hc.2 ?_
      obtain ⟨hc, hF⟩ := hF
      refine gw_iinc (L' := [some (g_R 175), some (g_R r1), some (g_I v2), some (g_I v3), some (g_I (v4 + 1)), some (g_I (((D 184 v2.toNat) * 4) + v4)), some (g_I ((((D 184 v2.toNat) * 4) + v4) - (D 178 v3.toNat))), some (g_I 0)]) dX1_readComing_99 rfl hc (by decide) rfl ?_
      refine g_goto dX1_readComing_102 rfl ?_
      exact g_forget (L' := [some (g_R 175), some (g_R r1), some (g_I v2), some (g_I v3), some (g_I (v4 + 1)), none, none, none]) ⟨rfl, ⟨rfl, ⟨rfl, ⟨rfl, ⟨rfl, trivial⟩⟩⟩⟩⟩ hF
    · have hF := hF.2 q
      refine g_iload dX1_readComing_48 rfl ?_
      refine g_aload_n dX1_readComing_50 rfl ?_
      refine g_getR dX1_readComing_51 fd_X1_12 sh_175 rfl ?_
      refine g_getR dX1_readComing_54 fd_X1_97 sh_176 rfl ?_
      refine g_iload_n dX1_readComing_57 rfl ?_
      obtain ⟨hc, hF⟩ := hF
      refine g_iald dX1_readComing_58 sh_180 hc.1 hc.2 ?_
      refine g_cge dX1_readComing_59 rfl (fun q => ?_) (fun q => ?_)
      · have hF := hF.1 q
        refine g_iconst dX1_readComing_66 ⟨by decide, by decide⟩ ?_
        refine gw_istore (L' := [some (g_R 175), some (g_R r1), some (g_I v2), some (g_I v3), some (g_I v4), some (g_I (((D 184 v2.toNat) * 4) + v4)), some (g_I ((((D 184 v2.toNat) * 4) + v4) - (D 178 v3.toNat))), some (g_I 0)]) dX1_readComing_67 (by decide) rfl ?_
        refine g_aload_n dX1_readComing_69 rfl ?_
        refine g_getR dX1_readComing_70 fd_X1_50 sh_175 rfl ?_
        refine g_iload dX1_readComing_73 rfl ?_
        refine g_iload dX1_readComing_75 rfl ?_
        refine g_ifeq dX1_readComing_77 rfl (fun _ => ?_) (fun q => absurd q (by decide))
        refine g_aload_n dX1_readComing_91 rfl ?_
        refine g_getR dX1_readComing_92 fd_X1_122 hr1.1 rfl ?_
        refine g_iload dX1_readComing_95 rfl ?_
        obtain ⟨hc, hF⟩ := hF
        refine g_iald dX1_readComing_97 hr1.2.1 hc.1 hc.2 ?_
        obtain ⟨hc, hF⟩ := hF
        let D2 : g_D := g_up D 196 v4.toNat (D (r1 + 1) (((D 184 v2.toNat) * 4) + v4).toNat)
        have hF := hF D2 rfl
        refine g_iast dX1_readComing_98 sh_196 hc.1 hc.2 ?_
        obtain ⟨hc, hF⟩ := hF
        refine gw_iinc (L' := [some (g_R 175), some (g_R r1), some (g_I v2), some (g_I v3), some (g_I (v4 + 1)), some (g_I (((D 184 v2.toNat) * 4) + v4)), some (g_I ((((D 184 v2.toNat) * 4) + v4) - (D 178 v3.toNat))), some (g_I 0)]) dX1_readComing_99 rfl hc (by decide) rfl ?_
        refine g_goto dX1_readComing_102 rfl ?_
        exact g_forget (L' := [some (g_R 175), some (g_R r1), some (g_I v2), some (g_I v3), some (g_I (v4 + 1)), none, none, none]) ⟨rfl, ⟨rfl, ⟨rfl, ⟨rfl, ⟨rfl, trivial⟩⟩⟩⟩⟩ hF
      · have hF := hF.2 q
        refine g_iconst dX1_readComing_62 ⟨by decide, by decide⟩ ?_
        refine g_goto dX1_readComing_63 rfl ?_
        refine gw_istore (L' := [some (g_R 175), some (g_R r1), some (g_I v2), some (g_I v3), some (g_I v4), some (g_I (((D 184 v2.toNat) * 4) + v4)), some (g_I ((((D 184 v2.toNat) * 4) + v4) - (D 178 v3.toNat))), some (g_I 1)]) dX1_readComing_67 (by decide) rfl ?_
        refine g_aload_n dX1_readComing_69 rfl ?_
        refine g_getR dX1_readComing_70 fd_X1_50 sh_175 rfl ?_
        refine g_iload dX1_readComing_73 rfl ?_
        refine g_iload dX1_readComing_75 rfl ?_
        refine g_ifeq dX1_readComing_77 rfl (fun q => absurd q (by decide)) (fun _ => ?_)
        refine g_aload_n dX1_readComing_80 rfl ?_
        refine g_aload_n dX1_readComing_81 rfl ?_
        refine g_iload_n dX1_readComing_82 rfl ?_
        refine g_iload dX1_readComing_83 rfl ?_
        refine gw_cVi (b := 175) (As := [g_R r1, g_I v3, g_I ((((D 184 v2.toNat) * 4) + v4) - (D 178 v3.toNat))]) (rest := [g_I v4, g_R 196]) dX1_readComing_85 mv_X1_183 sh_175 rfl (Nat.le_of_ble_eq_true rfl) (by decide) rfl hF ?_
        intro x3 D3 hx3 hF
        have hF := hF hx3
        refine g_goto dX1_readComing_88 rfl ?_
        obtain ⟨hc, hF⟩ := hF
        let D4 : g_D := g_up D3 196 v4.toNat x3
        have hF := hF D4 rfl
        refine g_iast dX1_readComing_98 sh_196 hc.1 hc.2 ?_
        obtain ⟨hc, hF⟩ := hF
        refine gw_iinc (L' := [some (g_R 175), some (g_R r1), some (g_I v2), some (g_I v3), some (g_I (v4 + 1)), some (g_I (((D 184 v2.toNat) * 4) + v4)), some (g_I ((((D 184 v2.toNat) * 4) + v4) - (D 178 v3.toNat))), some (g_I 1)]) dX1_readComing_99 rfl hc (by decide) rfl ?_
        refine g_goto dX1_readComing_102 rfl ?_
        exact g_forget (L' := [some (g_R 175), some (g_R r1), some (g_I v2), some (g_I v3), some (g_I (v4 + 1)), none, none, none]) ⟨rfl, ⟨rfl, ⟨rfl, ⟨rfl, ⟨rfl, trivial⟩⟩⟩⟩⟩ hF
theorem dX1_doStep_0 : decode cX1_doStep 0 = .ok (.aload_n 0, 1) := by decide +kernel
theorem dX1_doStep_1 : decode cX1_doStep 1 = .ok (.aload_n 1, 1) := by decide +kernel
theorem dX1_doStep_2 : decode cX1_doStep 2 = .ok (.invokevirtual 159, 3) := by decide +kernel
theorem dX1_doStep_5 : decode cX1_doStep 5 = .ok (.ifCond .ne 4, 3) := by decide +kernel
theorem dX1_doStep_8 : decode cX1_doStep 8 = .ok (.return_, 1) := by decide +kernel
theorem dX1_doStep_9 : decode cX1_doStep 9 = .ok (.aload_n 1, 1) := by decide +kernel
theorem dX1_doStep_10 : decode cX1_doStep 10 = .ok (.getfield 156, 3) := by decide +kernel
theorem dX1_doStep_13 : decode cX1_doStep 13 = .ok (.istore_n 2, 1) := by decide +kernel
theorem dX1_doStep_14 : decode cX1_doStep 14 = .ok (.aload_n 0, 1) := by decide +kernel
theorem dX1_doStep_15 : decode cX1_doStep 15 = .ok (.getfield 31, 3) := by decide +kernel
theorem dX1_doStep_18 : decode cX1_doStep 18 = .ok (.iload_n 2, 1) := by decide +kernel
theorem dX1_doStep_19 : decode cX1_doStep 19 = .ok (.iaload, 1) := by decide +kernel
theorem dX1_doStep_20 : decode cX1_doStep 20 = .ok (.iconst (-1), 1) := by decide +kernel
theorem dX1_doStep_21 : decode cX1_doStep 21 = .ok (.if_icmp .ne 19, 3) := by decide +kernel
theorem dX1_doStep_24 : decode cX1_doStep 24 = .ok (.aload_n 0, 1) := by decide +kernel
theorem dX1_doStep_25 : decode cX1_doStep 25 = .ok (.aload_n 1, 1) := by decide +kernel
theorem dX1_doStep_26 : decode cX1_doStep 26 = .ok (.aload_n 0, 1) := by decide +kernel
theorem dX1_doStep_27 : decode cX1_doStep 27 = .ok (.getfield 27, 3) := by decide +kernel
theorem dX1_doStep_30 : decode cX1_doStep 30 = .ok (.iload_n 2, 1) := by decide +kernel
theorem dX1_doStep_31 : decode cX1_doStep 31 = .ok (.iaload, 1) := by decide +kernel
theorem dX1_doStep_32 : decode cX1_doStep 32 = .ok (.bipush 20, 2) := by decide +kernel
theorem dX1_doStep_34 : decode cX1_doStep 34 = .ok (.invokevirtual 163, 3) := by decide +kernel
theorem dX1_doStep_37 : decode cX1_doStep 37 = .ok (.goto 24, 3) := by decide +kernel
theorem dX1_doStep_40 : decode cX1_doStep 40 = .ok (.aload_n 0, 1) := by decide +kernel
theorem dX1_doStep_41 : decode cX1_doStep 41 = .ok (.aload_n 1, 1) := by decide +kernel
theorem dX1_doStep_42 : decode cX1_doStep 42 = .ok (.iload_n 2, 1) := by decide +kernel
theorem dX1_doStep_43 : decode cX1_doStep 43 = .ok (.invokevirtual 167, 3) := by decide +kernel
theorem dX1_doStep_46 : decode cX1_doStep 46 = .ok (.aload_n 1, 1) := by decide +kernel
theorem dX1_doStep_47 : decode cX1_doStep 47 = .ok (.aload_n 0, 1) := by decide +kernel
theorem dX1_doStep_48 : decode cX1_doStep 48 = .ok (.getfield 31, 3) := by decide +kernel
theorem dX1_doStep_51 : decode cX1_doStep 51 = .ok (.iload_n 2, 1) := by decide +kernel
theorem dX1_doStep_52 : decode cX1_doStep 52 = .ok (.iaload, 1) := by decide +kernel
theorem dX1_doStep_53 : decode cX1_doStep 53 = .ok (.aload_n 0, 1) := by decide +kernel
theorem dX1_doStep_54 : decode cX1_doStep 54 = .ok (.getfield 50, 3) := by decide +kernel
theorem dX1_doStep_57 : decode cX1_doStep 57 = .ok (.iconst 4, 1) := by decide +kernel
theorem dX1_doStep_58 : decode cX1_doStep 58 = .ok (.invokevirtual 171, 3) := by decide +kernel
theorem dX1_doStep_61 : decode cX1_doStep 61 = .ok (.aload_n 1, 1) := by decide +kernel
theorem dX1_doStep_62 : decode cX1_doStep 62 = .ok (.dup, 1) := by decide +kernel
theorem dX1_doStep_63 : decode cX1_doStep 63 = .ok (.getfield 156, 3) := by decide +kernel
theorem dX1_doStep_66 : decode cX1_doStep 66 = .ok (.iconst 1, 1) := by decide +kernel
theorem dX1_doStep_67 : decode cX1_doStep 67 = .ok (.iadd, 1) := by decide +kernel
theorem dX1_doStep_68 : decode cX1_doStep 68 = .ok (.putfield 156, 3) := by decide +kernel
theorem dX1_doStep_71 : decode cX1_doStep 71 = .ok (.return_, 1) := by decide +kernel
abbrev k_X1_doStep (E : g_E) (l : Launch) (D : g_D) (r1 : Nat) (K : g_D → Prop) : Prop := g_Kv E l m_X1_doStep 2 [g_R 175, g_R r1] g_SH D K
abbrev n_X1_doStep (E : g_E) (l : Launch) (D : g_D) (pc : Nat) (L : List (Option g_V)) (K : g_D → Prop) : Prop := g_N E l m_X1_doStep 2 pc L [] g_SH D (g_Rv g_SH K)
theorem s_X1_doStep {E : g_E} {l : Launch} {D : g_D} {K : g_D → Prop} {r1 : Nat} (hr1 : is_Device g_SH r1) (hF : g_okD D → k_X1_hasLeft E l D r1 (fun x1 D1 => g_r x1 → (¬ x1 = 0 → (0 ≤ (D1 r1 7) ∧ (D1 r1 7) < 360) ∧ ((¬ (D1 184 (D1 r1 7).toNat) = (-1) → k_X1_readComing E l D1 r1 (D1 r1 7) (fun D2 => (0 ≤ (D1 r1 7) ∧ (D1 r1 7) < 360) ∧ (k_X2_writeBlock E l D2 r1 (D2 184 (D1 r1 7).toNat) 196 4 (fun D3 => (g_r ((D3 r1 7) + 1)) ∧ (∀ D4, D4 = g_up D3 r1 7 ((D3 r1 7) + 1) → (K D4)))))) ∧ ((D1 184 (D1 r1 7).toNat) = (-1) → (0 ≤ (D1 r1 7) ∧ (D1 r1 7) < 360) ∧ (k_X1_saveCells E l D1 r1 (D1 183 (D1 r1 7).toNat) 20 (fun D5 => (g_r ((D5 r1 7) + 1)) ∧ (∀ D6, D6 = g_up D5 r1 7 ((D5 r1 7) + 1) → (K D6))))))) ∧ (x1 = 0 → K D1))) : k_X1_doStep E l D r1 K := by
  refine g_enter (by decide) (Nat.le_of_ble_eq_true rfl) ?_
  show g_N E l m_X1_doStep 2 0 [some (g_R 175), some (g_R r1), none] [] g_SH D (g_Rv g_SH K)
  refine g_use (fun ok => ?_)
  have hF := hF ok.2.1
  refine g_aload_n dX1_doStep_0 rfl ?_
  refine g_aload_n dX1_doStep_1 rfl ?_
  refine gw_cVi (b := 175) (As := [g_R r1]) (rest := []) dX1_doStep_2 mv_X1_159 sh_175 rfl (Nat.le_of_ble_eq_true rfl) (by decide) rfl hF ?_
  intro x1 D1 hx1 hF
  have hF := hF hx1
  refine g_ifne dX1_doStep_5 rfl (fun q => ?_) (fun q => ?_)
  · have hF := hF.1 q
    refine g_aload_n dX1_doStep_9 rfl ?_
    refine g_getI dX1_doStep_10 fd_X1_156 hr1.1 rfl ?_
    refine gw_istore_n (L' := [some (g_R 175), some (g_R r1), some (g_I (D1 r1 7))]) dX1_doStep_13 (by decide) rfl ?_
    refine g_aload_n dX1_doStep_14 rfl ?_
    refine g_getR dX1_doStep_15 fd_X1_31 sh_175 rfl ?_
    refine g_iload_n dX1_doStep_18 rfl ?_
    obtain ⟨hc, hF⟩ := hF
    refine g_iald dX1_doStep_19 sh_184 hc.1 hc.2 ?_
    refine g_iconst dX1_doStep_20 ⟨by decide, by decide⟩ ?_
    refine g_cne dX1_doStep_21 rfl (fun q => ?_) (fun q => ?_)
    · have hF := hF.1 q
      refine g_aload_n dX1_doStep_40 rfl ?_
      refine g_aload_n dX1_doStep_41 rfl ?_
      refine g_iload_n dX1_doStep_42 rfl ?_
      refine gw_cVv (b := 175) (As := [g_R r1, g_I (D1 r1 7)]) (rest := []) dX1_doStep_43 mv_X1_167 sh_175 rfl (Nat.le_of_ble_eq_true rfl) (by decide) rfl hF ?_
      intro D2 hF
      refine g_aload_n dX1_doStep_46 rfl ?_
      refine g_aload_n dX1_doStep_47 rfl ?_
      refine g_getR dX1_doStep_48 fd_X1_31 sh_175 rfl ?_
      refine g_iload_n dX1_doStep_51 rfl ?_
      obtain ⟨hc, hF⟩ := hF
      refine g_iald dX1_doStep_52 sh_184 hc.1 hc.2 ?_
      refine g_aload_n dX1_doStep_53 rfl ?_
      refine g_getR dX1_doStep_54 fd_X1_50 sh_175 rfl ?_
      refine g_iconst dX1_doStep_57 ⟨by decide, by decide⟩ ?_
      refine gw_cVv (b := r1) (As := [g_I (D2 184 (D1 r1 7).toNat), g_R 196, g_I 4]) (rest := []) dX1_doStep_58 mv_X1_171 hr1.1 rfl (Nat.le_of_ble_eq_true rfl) (by decide) rfl hF ?_
      intro D3 hF
      refine g_aload_n dX1_doStep_61 rfl ?_
      refine g_dup dX1_doStep_62 rfl ?_
      refine g_getI dX1_doStep_63 fd_X1_156 hr1.1 rfl ?_
      refine g_iconst dX1_doStep_66 ⟨by decide, by decide⟩ ?_
      obtain ⟨hc, hF⟩ := hF
      refine g_iadd dX1_doStep_67 hc ?_
      let D4 : g_D := g_up D3 r1 7 ((D3 r1 7) + 1)
      have hF := hF D4 rfl
      refine g_put dX1_doStep_68 fd_X1_156 (g_ftyI (C := RX2) (T := TX2) (N := 10) rfl rfl (by decide +kernel)) hr1.1 rfl ?_
      exact gw_vret dX1_doStep_71 rfl hF
    · have hF := hF.2 q
      refine g_aload_n dX1_doStep_24 rfl ?_
      refine g_aload_n dX1_doStep_25 rfl ?_
      refine g_aload_n dX1_doStep_26 rfl ?_
      refine g_getR dX1_doStep_27 fd_X1_27 sh_175 rfl ?_
      refine g_iload_n dX1_doStep_30 rfl ?_
      obtain ⟨hc, hF⟩ := hF
      refine g_iald dX1_doStep_31 sh_183 hc.1 hc.2 ?_
      refine g_bipush dX1_doStep_32 ⟨by decide, by decide⟩ ?_
      refine gw_cVv (b := 175) (As := [g_R r1, g_I (D1 183 (D1 r1 7).toNat), g_I 20]) (rest := []) dX1_doStep_34 mv_X1_163 sh_175 rfl (Nat.le_of_ble_eq_true rfl) (by decide) rfl hF ?_
      intro D5 hF
      refine g_goto dX1_doStep_37 rfl ?_
      refine g_aload_n dX1_doStep_61 rfl ?_
      refine g_dup dX1_doStep_62 rfl ?_
      refine g_getI dX1_doStep_63 fd_X1_156 hr1.1 rfl ?_
      refine g_iconst dX1_doStep_66 ⟨by decide, by decide⟩ ?_
      obtain ⟨hc, hF⟩ := hF
      refine g_iadd dX1_doStep_67 hc ?_
      let D6 : g_D := g_up D5 r1 7 ((D5 r1 7) + 1)
      have hF := hF D6 rfl
      refine g_put dX1_doStep_68 fd_X1_156 (g_ftyI (C := RX2) (T := TX2) (N := 10) rfl rfl (by decide +kernel)) hr1.1 rfl ?_
      exact gw_vret dX1_doStep_71 rfl hF
  · have hF := hF.2 q
    exact gw_vret dX1_doStep_8 rfl hF
theorem dX10_endsAsDue_0 : decode cX10_endsAsDue 0 = .ok (.aload_n 1, 1) := by decide +kernel
theorem dX10_endsAsDue_1 : decode cX10_endsAsDue 1 = .ok (.aload_n 0, 1) := by decide +kernel
theorem dX10_endsAsDue_2 : decode cX10_endsAsDue 2 = .ok (.getfield 12, 3) := by decide +kernel
theorem dX10_endsAsDue_5 : decode cX10_endsAsDue 5 = .ok (.iconst 0, 1) := by decide +kernel
theorem dX10_endsAsDue_6 : decode cX10_endsAsDue 6 = .ok (.invokevirtual 68, 3) := by decide +kernel
theorem dX10_endsAsDue_9 : decode cX10_endsAsDue 9 = .ok (.aload_n 1, 1) := by decide +kernel
theorem dX10_endsAsDue_10 : decode cX10_endsAsDue 10 = .ok (.aload_n 0, 1) := by decide +kernel
theorem dX10_endsAsDue_11 : decode cX10_endsAsDue 11 = .ok (.getfield 12, 3) := by decide +kernel
theorem dX10_endsAsDue_14 : decode cX10_endsAsDue 14 = .ok (.getfield 72, 3) := by decide +kernel
theorem dX10_endsAsDue_17 : decode cX10_endsAsDue 17 = .ok (.aload_n 0, 1) := by decide +kernel
theorem dX10_endsAsDue_18 : decode cX10_endsAsDue 18 = .ok (.getfield 12, 3) := by decide +kernel
theorem dX10_endsAsDue_21 : decode cX10_endsAsDue 21 = .ok (.getfield 75, 3) := by decide +kernel
theorem dX10_endsAsDue_24 : decode cX10_endsAsDue 24 = .ok (.invokevirtual 78, 3) := by decide +kernel
theorem dX10_endsAsDue_27 : decode cX10_endsAsDue 27 = .ok (.ifCond .eq 5, 3) := by decide +kernel
theorem dX10_endsAsDue_30 : decode cX10_endsAsDue 30 = .ok (.iconst 1, 1) := by decide +kernel
theorem dX10_endsAsDue_31 : decode cX10_endsAsDue 31 = .ok (.ireturn, 1) := by decide +kernel
theorem dX10_endsAsDue_32 : decode cX10_endsAsDue 32 = .ok (.iconst 0, 1) := by decide +kernel
theorem dX10_endsAsDue_33 : decode cX10_endsAsDue 33 = .ok (.istore_n 2, 1) := by decide +kernel
theorem dX10_endsAsDue_34 : decode cX10_endsAsDue 34 = .ok (.iload_n 2, 1) := by decide +kernel
theorem dX10_endsAsDue_35 : decode cX10_endsAsDue 35 = .ok (.sipush 360, 3) := by decide +kernel
theorem dX10_endsAsDue_38 : decode cX10_endsAsDue 38 = .ok (.if_icmp .ge 28, 3) := by decide +kernel
theorem dX10_endsAsDue_41 : decode cX10_endsAsDue 41 = .ok (.aload_n 1, 1) := by decide +kernel
theorem dX10_endsAsDue_42 : decode cX10_endsAsDue 42 = .ok (.aload_n 0, 1) := by decide +kernel
theorem dX10_endsAsDue_43 : decode cX10_endsAsDue 43 = .ok (.getfield 12, 3) := by decide +kernel
theorem dX10_endsAsDue_46 : decode cX10_endsAsDue 46 = .ok (.invokevirtual 46, 3) := by decide +kernel
theorem dX10_endsAsDue_49 : decode cX10_endsAsDue 49 = .ok (.ifCond .eq 17, 3) := by decide +kernel
theorem dX10_endsAsDue_52 : decode cX10_endsAsDue 52 = .ok (.aload_n 1, 1) := by decide +kernel
theorem dX10_endsAsDue_53 : decode cX10_endsAsDue 53 = .ok (.aload_n 0, 1) := by decide +kernel
theorem dX10_endsAsDue_54 : decode cX10_endsAsDue 54 = .ok (.getfield 12, 3) := by decide +kernel
theorem dX10_endsAsDue_57 : decode cX10_endsAsDue 57 = .ok (.invokevirtual 82, 3) := by decide +kernel
theorem dX10_endsAsDue_60 : decode cX10_endsAsDue 60 = .ok (.iinc 2 1, 3) := by decide +kernel
theorem dX10_endsAsDue_63 : decode cX10_endsAsDue 63 = .ok (.goto (-29), 3) := by decide +kernel
theorem dX10_endsAsDue_66 : decode cX10_endsAsDue 66 = .ok (.aload_n 1, 1) := by decide +kernel
theorem dX10_endsAsDue_67 : decode cX10_endsAsDue 67 = .ok (.aload_n 0, 1) := by decide +kernel
theorem dX10_endsAsDue_68 : decode cX10_endsAsDue 68 = .ok (.getfield 12, 3) := by decide +kernel
theorem dX10_endsAsDue_71 : decode cX10_endsAsDue 71 = .ok (.iconst 0, 1) := by decide +kernel
theorem dX10_endsAsDue_72 : decode cX10_endsAsDue 72 = .ok (.invokevirtual 68, 3) := by decide +kernel
theorem dX10_endsAsDue_75 : decode cX10_endsAsDue 75 = .ok (.aload_n 1, 1) := by decide +kernel
theorem dX10_endsAsDue_76 : decode cX10_endsAsDue 76 = .ok (.aload_n 1, 1) := by decide +kernel
theorem dX10_endsAsDue_77 : decode cX10_endsAsDue 77 = .ok (.getfield 28, 3) := by decide +kernel
theorem dX10_endsAsDue_80 : decode cX10_endsAsDue 80 = .ok (.invokevirtual 85, 3) := by decide +kernel
theorem dX10_endsAsDue_83 : decode cX10_endsAsDue 83 = .ok (.ireturn, 1) := by decide +kernel
abbrev k_X10_endsAsDue (E : g_E) (l : Launch) (D : g_D) (K : Int → g_D → Prop) : Prop := g_Ki E l m_X10_endsAsDue 3 [g_R 198, g_R 175] g_SH D K
abbrev n_X10_endsAsDue (E : g_E) (l : Launch) (D : g_D) (pc : Nat) (L : List (Option g_V)) (K : Int → g_D → Prop) : Prop := g_N E l m_X10_endsAsDue 3 pc L [] g_SH D (g_Ri g_SH K)
theorem s_X10_endsAsDue {E : g_E} {l : Launch} {D : g_D} {K : Int → g_D → Prop}   (hF : g_okD D → k_X1_look E l D 199 0 (fun D1 => k_X1_isFit E l D1 201 (D1 199 7) (fun x2 D2 => g_r x2 → (x2 = 0 → n_X10_endsAsDue E l D2 34 [some (g_R 198), some (g_R 175), some (g_I 0)] K) ∧ (¬ x2 = 0 → K 1 D2)))) : k_X10_endsAsDue E l D K := by
  refine g_enter (by decide) (Nat.le_of_ble_eq_true rfl) ?_
  show g_N E l m_X10_endsAsDue 3 0 [some (g_R 198), some (g_R 175), none] [] g_SH D (g_Ri g_SH K)
  refine g_use (fun ok => ?_)
  have hF := hF ok.2.1
  refine g_aload_n dX10_endsAsDue_0 rfl ?_
  refine g_aload_n dX10_endsAsDue_1 rfl ?_
  refine g_getR dX10_endsAsDue_2 fd_X10_12 sh_198 rfl ?_
  refine g_iconst dX10_endsAsDue_5 ⟨by decide, by decide⟩ ?_
  refine gw_cVv (b := 175) (As := [g_R 199, g_I 0]) (rest := []) dX10_endsAsDue_6 mv_X10_68 sh_175 rfl (Nat.le_of_ble_eq_true rfl) (by decide) rfl hF ?_
  intro D1 hF
  refine g_aload_n dX10_endsAsDue_9 rfl ?_
  refine g_aload_n dX10_endsAsDue_10 rfl ?_
  refine g_getR dX10_endsAsDue_11 fd_X10_12 sh_198 rfl ?_
  refine g_getR dX10_endsAsDue_14 fd_X10_72 sh_199 rfl ?_
  refine g_aload_n dX10_endsAsDue_17 rfl ?_
  refine g_getR dX10_endsAsDue_18 fd_X10_12 sh_198 rfl ?_
  refine g_getI dX10_endsAsDue_21 fd_X10_75 sh_199 rfl ?_
  refine gw_cVi (b := 175) (As := [g_R 201, g_I (D1 199 7)]) (rest := []) dX10_endsAsDue_24 mv_X10_78 sh_175 rfl (Nat.le_of_ble_eq_true rfl) (by decide) rfl hF ?_
  intro x2 D2 hx2 hF
  have hF := hF hx2
  refine g_ifeq dX10_endsAsDue_27 rfl (fun q => ?_) (fun q => ?_)
  · have hF := hF.1 q
    refine g_iconst dX10_endsAsDue_32 ⟨by decide, by decide⟩ ?_
    refine gw_istore_n (L' := [some (g_R 198), some (g_R 175), some (g_I 0)]) dX10_endsAsDue_33 (by decide) rfl ?_
    exact hF
  · have hF := hF.2 q
    refine g_iconst dX10_endsAsDue_30 ⟨by decide, by decide⟩ ?_
    exact gw_zret dX10_endsAsDue_31 rfl (by decide) hF
theorem s_X10_endsAsDue_34 {E : g_E} {l : Launch} {D : g_D} {K : Int → g_D → Prop} {v2 : Int}  (hF : g_okD D → g_r v2 → (360 ≤ v2 → k_X1_look E l D 199 0 (fun D1 => k_X1_areBlocksDue E l D1 (D1 175 4) (fun x2 D2 => g_r x2 → (x2 = 0 ∨ x2 = 1) ∧ K x2 D2))) ∧ (¬ 360 ≤ v2 → k_X1_hasLeft E l D 199 (fun x3 D3 => g_r x3 → (x3 = 0 → k_X1_look E l D3 199 0 (fun D4 => k_X1_areBlocksDue E l D4 (D4 175 4) (fun x5 D5 => g_r x5 → (x5 = 0 ∨ x5 = 1) ∧ K x5 D5))) ∧ (¬ x3 = 0 → k_X1_doStep E l D3 199 (fun D6 => (g_r (v2 + 1)) ∧ (n_X10_endsAsDue E l D6 34 [some (g_R 198), some (g_R 175), some (g_I (v2 + 1))] K)))))) : n_X10_endsAsDue E l D 34 [some (g_R 198), some (g_R 175), some (g_I v2)] K := by
  refine g_use (fun ok => ?_)
  have hF := hF ok.2.1 (ok.loc (i := 2) rfl)
  refine g_iload_n dX10_endsAsDue_34 rfl ?_
  refine g_sipush dX10_endsAsDue_35 ⟨by decide, by decide⟩ ?_
  refine g_cge dX10_endsAsDue_38 rfl (fun q => ?_) (fun q => ?_)
  · have hF := hF.1 q
    refine g_aload_n dX10_endsAsDue_66 rfl ?_
    refine g_aload_n dX10_endsAsDue_67 rfl ?_
    refine g_getR dX10_endsAsDue_68 fd_X10_12 sh_198 rfl ?_
    refine g_iconst dX10_endsAsDue_71 ⟨by decide, by decide⟩ ?_
    refine gw_cVv (b := 175) (As := [g_R 199, g_I 0]) (rest := []) dX10_endsAsDue_72 mv_X10_68 sh_175 rfl (Nat.le_of_ble_eq_true rfl) (by decide) rfl hF ?_
    intro D1 hF
    refine g_aload_n dX10_endsAsDue_75 rfl ?_
    refine g_aload_n dX10_endsAsDue_76 rfl ?_
    refine g_getI dX10_endsAsDue_77 fd_X10_28 sh_175 rfl ?_
    refine gw_cVi (b := 175) (As := [g_I (D1 175 4)]) (rest := []) dX10_endsAsDue_80 mv_X10_85 sh_175 rfl (Nat.le_of_ble_eq_true rfl) (by decide) rfl hF ?_
    intro x2 D2 hx2 hF
    have hF := hF hx2
    exact gw_zret dX10_endsAsDue_83 rfl hF.1 hF.2
  · have hF := hF.2 q
    refine g_aload_n dX10_endsAsDue_41 rfl ?_
    refine g_aload_n dX10_endsAsDue_42 rfl ?_
    refine g_getR dX10_endsAsDue_43 fd_X10_12 sh_198 rfl ?_
    refine gw_cVi (b := 175) (As := [g_R 199]) (rest := []) dX10_endsAsDue_46 mv_X10_46 sh_175 rfl (Nat.le_of_ble_eq_true rfl) (by decide) rfl hF ?_
    intro x3 D3 hx3 hF
    have hF := hF hx3
    refine g_ifeq dX10_endsAsDue_49 rfl (fun q => ?_) (fun q => ?_)
    · have hF := hF.1 q
      refine g_aload_n dX10_endsAsDue_66 rfl ?_
      refine g_aload_n dX10_endsAsDue_67 rfl ?_
      refine g_getR dX10_endsAsDue_68 fd_X10_12 sh_198 rfl ?_
      refine g_iconst dX10_endsAsDue_71 ⟨by decide, by decide⟩ ?_
      refine gw_cVv (b := 175) (As := [g_R 199, g_I 0]) (rest := []) dX10_endsAsDue_72 mv_X10_68 sh_175 rfl (Nat.le_of_ble_eq_true rfl) (by decide) rfl hF ?_
      intro D4 hF
      refine g_aload_n dX10_endsAsDue_75 rfl ?_
      refine g_aload_n dX10_endsAsDue_76 rfl ?_
      refine g_getI dX10_endsAsDue_77 fd_X10_28 sh_175 rfl ?_
      refine gw_cVi (b := 175) (As := [g_I (D4 175 4)]) (rest := []) dX10_endsAsDue_80 mv_X10_85 sh_175 rfl (Nat.le_of_ble_eq_true rfl) (by decide) rfl hF ?_
      intro x5 D5 hx5 hF
      have hF := hF hx5
      exact gw_zret dX10_endsAsDue_83 rfl hF.1 hF.2
    · have hF := hF.2 q
      refine g_aload_n dX10_endsAsDue_52 rfl ?_
      refine g_aload_n dX10_endsAsDue_53 rfl ?_
      refine g_getR dX10_endsAsDue_54 fd_X10_12 sh_198 rfl ?_
      refine gw_cVv (b := 175) (As := [g_R 199]) (rest := []) dX10_endsAsDue_57 mv_X10_82 sh_175 rfl (Nat.le_of_ble_eq_true rfl) (by decide) rfl hF ?_
      intro D6 hF
      obtain ⟨hc, hF⟩ := hF
      refine gw_iinc (L' := [some (g_R 198), some (g_R 175), some (g_I (v2 + 1))]) dX10_endsAsDue_60 rfl hc (by decide) rfl ?_
      refine g_goto dX10_endsAsDue_63 rfl ?_
      exact hF
theorem dX1_standAsDue_0 : decode cX1_standAsDue 0 = .ok (.iconst 0, 1) := by decide +kernel
theorem dX1_standAsDue_1 : decode cX1_standAsDue 1 = .ok (.istore_n 3, 1) := by decide +kernel
theorem dX1_standAsDue_2 : decode cX1_standAsDue 2 = .ok (.iload_n 3, 1) := by decide +kernel
theorem dX1_standAsDue_3 : decode cX1_standAsDue 3 = .ok (.bipush 40, 2) := by decide +kernel
theorem dX1_standAsDue_5 : decode cX1_standAsDue 5 = .ok (.if_icmp .ge 40, 3) := by decide +kernel
theorem dX1_standAsDue_8 : decode cX1_standAsDue 8 = .ok (.bipush 8, 2) := by decide +kernel
theorem dX1_standAsDue_10 : decode cX1_standAsDue 10 = .ok (.iconst 3, 1) := by decide +kernel
theorem dX1_standAsDue_11 : decode cX1_standAsDue 11 = .ok (.iload_n 3, 1) := by decide +kernel
theorem dX1_standAsDue_12 : decode cX1_standAsDue 12 = .ok (.iconst 4, 1) := by decide +kernel
theorem dX1_standAsDue_13 : decode cX1_standAsDue 13 = .ok (.irem, 1) := by decide +kernel
theorem dX1_standAsDue_14 : decode cX1_standAsDue 14 = .ok (.isub, 1) := by decide +kernel
theorem dX1_standAsDue_15 : decode cX1_standAsDue 15 = .ok (.imul, 1) := by decide +kernel
theorem dX1_standAsDue_16 : decode cX1_standAsDue 16 = .ok (.istore 4, 2) := by decide +kernel
theorem dX1_standAsDue_18 : decode cX1_standAsDue 18 = .ok (.aload_n 1, 1) := by decide +kernel
theorem dX1_standAsDue_19 : decode cX1_standAsDue 19 = .ok (.getfield 122, 3) := by decide +kernel
theorem dX1_standAsDue_22 : decode cX1_standAsDue 22 = .ok (.iload_n 3, 1) := by decide +kernel
theorem dX1_standAsDue_23 : decode cX1_standAsDue 23 = .ok (.aload_n 0, 1) := by decide +kernel
theorem dX1_standAsDue_24 : decode cX1_standAsDue 24 = .ok (.iload_n 2, 1) := by decide +kernel
theorem dX1_standAsDue_25 : decode cX1_standAsDue 25 = .ok (.iload_n 3, 1) := by decide +kernel
theorem dX1_standAsDue_26 : decode cX1_standAsDue 26 = .ok (.iconst 4, 1) := by decide +kernel
theorem dX1_standAsDue_27 : decode cX1_standAsDue 27 = .ok (.idiv, 1) := by decide +kernel
theorem dX1_standAsDue_28 : decode cX1_standAsDue 28 = .ok (.invokevirtual 153, 3) := by decide +kernel
theorem dX1_standAsDue_31 : decode cX1_standAsDue 31 = .ok (.iload 4, 2) := by decide +kernel
theorem dX1_standAsDue_33 : decode cX1_standAsDue 33 = .ok (.iushr, 1) := by decide +kernel
theorem dX1_standAsDue_34 : decode cX1_standAsDue 34 = .ok (.sipush 255, 3) := by decide +kernel
theorem dX1_standAsDue_37 : decode cX1_standAsDue 37 = .ok (.iand, 1) := by decide +kernel
theorem dX1_standAsDue_38 : decode cX1_standAsDue 38 = .ok (.iastore, 1) := by decide +kernel
theorem dX1_standAsDue_39 : decode cX1_standAsDue 39 = .ok (.iinc 3 1, 3) := by decide +kernel
theorem dX1_standAsDue_42 : decode cX1_standAsDue 42 = .ok (.goto (-40), 3) := by decide +kernel
theorem dX1_standAsDue_45 : decode cX1_standAsDue 45 = .ok (.aload_n 0, 1) := by decide +kernel
theorem dX1_standAsDue_46 : decode cX1_standAsDue 46 = .ok (.getfield 40, 3) := by decide +kernel
theorem dX1_standAsDue_49 : decode cX1_standAsDue 49 = .ok (.aload_n 0, 1) := by decide +kernel
theorem dX1_standAsDue_50 : decode cX1_standAsDue 50 = .ok (.iload_n 2, 1) := by decide +kernel
theorem dX1_standAsDue_51 : decode cX1_standAsDue 51 = .ok (.invokevirtual 150, 3) := by decide +kernel
theorem dX1_standAsDue_54 : decode cX1_standAsDue 54 = .ok (.bipush 20, 2) := by decide +kernel
theorem dX1_standAsDue_56 : decode cX1_standAsDue 56 = .ok (.imul, 1) := by decide +kernel
theorem dX1_standAsDue_57 : decode cX1_standAsDue 57 = .ok (.aload_n 1, 1) := by decide +kernel
theorem dX1_standAsDue_58 : decode cX1_standAsDue 58 = .ok (.getfield 134, 3) := by decide +kernel
theorem dX1_standAsDue_61 : decode cX1_standAsDue 61 = .ok (.iconst 0, 1) := by decide +kernel
theorem dX1_standAsDue_62 : decode cX1_standAsDue 62 = .ok (.bipush 20, 2) := by decide +kernel
theorem dX1_standAsDue_64 : decode cX1_standAsDue 64 = .ok (.invokestatic 125, 3) := by decide +kernel
theorem dX1_standAsDue_67 : decode cX1_standAsDue 67 = .ok (.aload_n 1, 1) := by decide +kernel
theorem dX1_standAsDue_68 : decode cX1_standAsDue 68 = .ok (.iload_n 2, 1) := by decide +kernel
theorem dX1_standAsDue_69 : decode cX1_standAsDue 69 = .ok (.invokevirtual 137, 3) := by decide +kernel
theorem dX1_standAsDue_72 : decode cX1_standAsDue 72 = .ok (.return_, 1) := by decide +kernel
abbrev k_X1_standAsDue (E : g_E) (l : Launch) (D : g_D) (r1 : Nat) (v2 : Int) (K : g_D → Prop) : Prop := g_Kv E l m_X1_standAsDue 1 [g_R 175, g_R r1, g_I v2] g_SH D K
abbrev n_X1_standAsDue (E : g_E) (l : Launch) (D : g_D) (pc : Nat) (L : List (Option g_V)) (K : g_D → Prop) : Prop := g_N E l m_X1_standAsDue 1 pc L [] g_SH D (g_Rv g_SH K)
theorem s_X1_standAsDue {E : g_E} {l : Launch} {D : g_D} {K : g_D → Prop} {r1 : Nat} {v2 : Int} (hr1 : is_Device g_SH r1) (hF : g_okD D → g_r v2 → n_X1_standAsDue E l D 2 [some (g_R 175), some (g_R r1), some (g_I v2), some (g_I 0), none] K) : k_X1_standAsDue E l D r1 v2 K := by
  refine g_enter (by decide) (Nat.le_of_ble_eq_true rfl) ?_
  show g_N E l m_X1_standAsDue 1 0 [some (g_R 175), some (g_R r1), some (g_I v2), none, none] [] g_SH D (g_Rv g_SH K)
  refine g_use (fun ok => ?_)
  have hF := hF ok.2.1 (ok.loc (i := 2) rfl)
  refine g_iconst dX1_standAsDue_0 ⟨by decide, by decide⟩ ?_
  refine gw_istore_n (L' := [some (g_R 175), some (g_R r1), some (g_I v2), some (g_I 0), none]) dX1_standAsDue_1 (by decide) rfl ?_
  exact hF
theorem s_X1_standAsDue_2 {E : g_E} {l : Launch} {D : g_D} {K : g_D → Prop} {r1 : Nat} {v2 : Int} {v3 : Int} (hr1 : is_Device g_SH r1) (hF : g_okD D → g_r v2 → g_r v3 → (40 ≤ v3 → k_X1_actAt E l D v2 (fun x1 D1 => g_r x1 → (g_r (x1 * 20)) ∧ (((0 : Int) ≤ (x1 * 20) ∧ (0 : Int) ≤ 0 ∧ (0 : Int) ≤ 20 ∧ ((x1 * 20) + 20 : Int) ≤ 740 ∧ (0 + 20 : Int) ≤ 20) ∧ (∀ D2, D2 = g_cpy D1 187 (r1 + 2) (x1 * 20).toNat 0 20 → (k_X2_standAt E l D2 r1 v2 (fun D3 => K D3)))))) ∧ (¬ 40 ≤ v3 → (0 ≤ v3) ∧ ((g_r (3 - (v3 % 4))) ∧ ((g_r (8 * (3 - (v3 % 4)))) ∧ ((0 ≤ v3) ∧ (k_X1_dueBlock E l D v2 (v3 / 4) (fun x4 D4 => g_r x4 → (0 ≤ v3 ∧ v3 < 40) ∧ (∀ D5, D5 = g_up D4 (r1 + 1) v3.toNat (g_and (g_ushr x4 (8 * (3 - (v3 % 4)))) 255) → ((g_r (v3 + 1)) ∧ (n_X1_standAsDue E l D5 2 [some (g_R 175), some (g_R r1), some (g_I v2), some (g_I (v3 + 1)), none] K)))))))))) : n_X1_standAsDue E l D 2 [some (g_R 175), some (g_R r1), some (g_I v2), some (g_I v3), none] K := by
  refine g_use (fun ok => ?_)
  have hF := hF ok.2.1 (ok.loc (i := 2) rfl) (ok.loc (i := 3) rfl)
  refine g_iload_n dX1_standAsDue_2 rfl ?_
  refine g_bipush dX1_standAsDue_3 ⟨by decide, by decide⟩ ?_
  refine g_cge dX1_standAsDue_5 rfl (fun q => ?_) (fun q => ?_)
  · have hF := hF.1 q
    refine g_aload_n dX1_standAsDue_45 rfl ?_
    refine g_getR dX1_standAsDue_46 fd_X1_40 sh_175 rfl ?_
    refine g_aload_n dX1_standAsDue_49 rfl ?_
    refine g_iload_n dX1_standAsDue_50 rfl ?_
    refine gw_cVi (b := 175) (As := [g_I v2]) (rest := [g_R 187]) dX1_standAsDue_51 mv_X1_150 sh_175 rfl (Nat.le_of_ble_eq_true rfl) (by decide) rfl hF ?_
    intro x1 D1 hx1 hF
    have hF := hF hx1
    refine g_bipush dX1_standAsDue_54 ⟨by decide, by decide⟩ ?_
    obtain ⟨hc, hF⟩ := hF
    refine g_imul dX1_standAsDue_56 hc ?_
    refine g_aload_n dX1_standAsDue_57 rfl ?_
    refine g_getR dX1_standAsDue_58 fd_X1_134 hr1.1 rfl ?_
    refine g_iconst dX1_standAsDue_61 ⟨by decide, by decide⟩ ?_
    refine g_bipush dX1_standAsDue_62 ⟨by decide, by decide⟩ ?_
    obtain ⟨hc, hF⟩ := hF
    let D2 : g_D := g_cpy D1 187 (r1 + 2) (x1 * 20).toNat 0 20
    have hF := hF D2 rfl
    refine g_acopy dX1_standAsDue_64 ac_X1_125.1 ac_X1_125.2.1 ac_X1_125.2.2.1 ac_X1_125.2.2.2 sh_187 hr1.2.2.1 hc.1 hc.2.1 hc.2.2.1 hc.2.2.2.1 hc.2.2.2.2 (by decide) (Nat.le_of_ble_eq_true rfl) ?_
    refine g_aload_n dX1_standAsDue_67 rfl ?_
    refine g_iload_n dX1_standAsDue_68 rfl ?_
    refine gw_cVv (b := r1) (As := [g_I v2]) (rest := []) dX1_standAsDue_69 mv_X1_137 hr1.1 rfl (Nat.le_of_ble_eq_true rfl) (by decide) rfl hF ?_
    intro D3 hF
    exact gw_vret dX1_standAsDue_72 rfl hF
  · have hF := hF.2 q
    refine g_bipush dX1_standAsDue_8 ⟨by decide, by decide⟩ ?_
    refine g_iconst dX1_standAsDue_10 ⟨by decide, by decide⟩ ?_
    refine g_iload_n dX1_standAsDue_11 rfl ?_
    refine g_iconst dX1_standAsDue_12 ⟨by decide, by decide⟩ ?_
    obtain ⟨hc, hF⟩ := hF
    refine g_irem dX1_standAsDue_13 hc (by decide) ?_
    obtain ⟨hc, hF⟩ := hF
    refine g_isub dX1_standAsDue_14 hc ?_
    obtain ⟨hc, hF⟩ := hF
    refine g_imul dX1_standAsDue_15 hc ?_
    refine gw_istore (L' := [some (g_R 175), some (g_R r1), some (g_I v2), some (g_I v3), some (g_I (8 * (3 - (v3 % 4))))]) dX1_standAsDue_16 (by decide) rfl ?_
    refine g_aload_n dX1_standAsDue_18 rfl ?_
    refine g_getR dX1_standAsDue_19 fd_X1_122 hr1.1 rfl ?_
    refine g_iload_n dX1_standAsDue_22 rfl ?_
    refine g_aload_n dX1_standAsDue_23 rfl ?_
    refine g_iload_n dX1_standAsDue_24 rfl ?_
    refine g_iload_n dX1_standAsDue_25 rfl ?_
    refine g_iconst dX1_standAsDue_26 ⟨by decide, by decide⟩ ?_
    obtain ⟨hc, hF⟩ := hF
    refine g_idiv dX1_standAsDue_27 hc (by decide) ?_
    refine gw_cVi (b := 175) (As := [g_I v2, g_I (v3 / 4)]) (rest := [g_I v3, g_R (r1 + 1)]) dX1_standAsDue_28 mv_X1_153 sh_175 rfl (Nat.le_of_ble_eq_true rfl) (by decide) rfl hF ?_
    intro x4 D4 hx4 hF
    have hF := hF hx4
    refine g_iload dX1_standAsDue_31 rfl ?_
    refine g_iushr dX1_standAsDue_33 ?_
    refine g_sipush dX1_standAsDue_34 ⟨by decide, by decide⟩ ?_
    refine g_iand dX1_standAsDue_37 ?_
    obtain ⟨hc, hF⟩ := hF
    let D5 : g_D := g_up D4 (r1 + 1) v3.toNat (g_and (g_ushr x4 (8 * (3 - (v3 % 4)))) 255)
    have hF := hF D5 rfl
    refine g_iast dX1_standAsDue_38 hr1.2.1 hc.1 hc.2 ?_
    obtain ⟨hc, hF⟩ := hF
    refine gw_iinc (L' := [some (g_R 175), some (g_R r1), some (g_I v2), some (g_I (v3 + 1)), some (g_I (8 * (3 - (v3 % 4))))]) dX1_standAsDue_39 rfl hc (by decide) rfl ?_
    refine g_goto dX1_standAsDue_42 rfl ?_
    exact g_forget (L' := [some (g_R 175), some (g_R r1), some (g_I v2), some (g_I (v3 + 1)), none]) ⟨rfl, ⟨rfl, ⟨rfl, ⟨rfl, trivial⟩⟩⟩⟩ hF
theorem dX1_cutPower_0 : decode cX1_cutPower 0 = .ok (.aload_n 1, 1) := by decide +kernel
theorem dX1_cutPower_1 : decode cX1_cutPower 1 = .ok (.iconst 0, 1) := by decide +kernel
theorem dX1_cutPower_2 : decode cX1_cutPower 2 = .ok (.putfield 175, 3) := by decide +kernel
theorem dX1_cutPower_5 : decode cX1_cutPower 5 = .ok (.aload_n 0, 1) := by decide +kernel
theorem dX1_cutPower_6 : decode cX1_cutPower 6 = .ok (.aload_n 1, 1) := by decide +kernel
theorem dX1_cutPower_7 : decode cX1_cutPower 7 = .ok (.invokevirtual 159, 3) := by decide +kernel
theorem dX1_cutPower_10 : decode cX1_cutPower 10 = .ok (.ifCond .eq 7, 3) := by decide +kernel
theorem dX1_cutPower_13 : decode cX1_cutPower 13 = .ok (.iload_n 2, 1) := by decide +kernel
theorem dX1_cutPower_14 : decode cX1_cutPower 14 = .ok (.ifCond .ne 4, 3) := by decide +kernel
theorem dX1_cutPower_17 : decode cX1_cutPower 17 = .ok (.return_, 1) := by decide +kernel
theorem dX1_cutPower_18 : decode cX1_cutPower 18 = .ok (.aload_n 1, 1) := by decide +kernel
theorem dX1_cutPower_19 : decode cX1_cutPower 19 = .ok (.getfield 156, 3) := by decide +kernel
theorem dX1_cutPower_22 : decode cX1_cutPower 22 = .ok (.istore 4, 2) := by decide +kernel
theorem dX1_cutPower_24 : decode cX1_cutPower 24 = .ok (.aload_n 0, 1) := by decide +kernel
theorem dX1_cutPower_25 : decode cX1_cutPower 25 = .ok (.getfield 31, 3) := by decide +kernel
theorem dX1_cutPower_28 : decode cX1_cutPower 28 = .ok (.iload 4, 2) := by decide +kernel
theorem dX1_cutPower_30 : decode cX1_cutPower 30 = .ok (.iaload, 1) := by decide +kernel
theorem dX1_cutPower_31 : decode cX1_cutPower 31 = .ok (.iconst (-1), 1) := by decide +kernel
theorem dX1_cutPower_32 : decode cX1_cutPower 32 = .ok (.if_icmp .ne 29, 3) := by decide +kernel
theorem dX1_cutPower_35 : decode cX1_cutPower 35 = .ok (.aload_n 0, 1) := by decide +kernel
theorem dX1_cutPower_36 : decode cX1_cutPower 36 = .ok (.aload_n 1, 1) := by decide +kernel
theorem dX1_cutPower_37 : decode cX1_cutPower 37 = .ok (.aload_n 0, 1) := by decide +kernel
theorem dX1_cutPower_38 : decode cX1_cutPower 38 = .ok (.getfield 27, 3) := by decide +kernel
theorem dX1_cutPower_41 : decode cX1_cutPower 41 = .ok (.iload 4, 2) := by decide +kernel
theorem dX1_cutPower_43 : decode cX1_cutPower 43 = .ok (.iaload, 1) := by decide +kernel
theorem dX1_cutPower_44 : decode cX1_cutPower 44 = .ok (.iload_n 2, 1) := by decide +kernel
theorem dX1_cutPower_45 : decode cX1_cutPower 45 = .ok (.iconst 3, 1) := by decide +kernel
theorem dX1_cutPower_46 : decode cX1_cutPower 46 = .ok (.if_icmp .ne 8, 3) := by decide +kernel
theorem dX1_cutPower_49 : decode cX1_cutPower 49 = .ok (.bipush 20, 2) := by decide +kernel
theorem dX1_cutPower_51 : decode cX1_cutPower 51 = .ok (.goto 4, 3) := by decide +kernel
theorem dX1_cutPower_54 : decode cX1_cutPower 54 = .ok (.iload_n 3, 1) := by decide +kernel
theorem dX1_cutPower_55 : decode cX1_cutPower 55 = .ok (.invokevirtual 163, 3) := by decide +kernel
theorem dX1_cutPower_58 : decode cX1_cutPower 58 = .ok (.goto 55, 3) := by decide +kernel
theorem dX1_cutPower_61 : decode cX1_cutPower 61 = .ok (.iload_n 2, 1) := by decide +kernel
theorem dX1_cutPower_62 : decode cX1_cutPower 62 = .ok (.iconst 1, 1) := by decide +kernel
theorem dX1_cutPower_63 : decode cX1_cutPower 63 = .ok (.if_icmp .le 50, 3) := by decide +kernel
theorem dX1_cutPower_66 : decode cX1_cutPower 66 = .ok (.aload_n 0, 1) := by decide +kernel
theorem dX1_cutPower_67 : decode cX1_cutPower 67 = .ok (.aload_n 1, 1) := by decide +kernel
theorem dX1_cutPower_68 : decode cX1_cutPower 68 = .ok (.iload 4, 2) := by decide +kernel
theorem dX1_cutPower_70 : decode cX1_cutPower 70 = .ok (.invokevirtual 167, 3) := by decide +kernel
theorem dX1_cutPower_73 : decode cX1_cutPower 73 = .ok (.aload_n 1, 1) := by decide +kernel
theorem dX1_cutPower_74 : decode cX1_cutPower 74 = .ok (.aload_n 0, 1) := by decide +kernel
theorem dX1_cutPower_75 : decode cX1_cutPower 75 = .ok (.getfield 31, 3) := by decide +kernel
theorem dX1_cutPower_78 : decode cX1_cutPower 78 = .ok (.iload 4, 2) := by decide +kernel
theorem dX1_cutPower_80 : decode cX1_cutPower 80 = .ok (.iaload, 1) := by decide +kernel
theorem dX1_cutPower_81 : decode cX1_cutPower 81 = .ok (.aload_n 0, 1) := by decide +kernel
theorem dX1_cutPower_82 : decode cX1_cutPower 82 = .ok (.getfield 50, 3) := by decide +kernel
theorem dX1_cutPower_85 : decode cX1_cutPower 85 = .ok (.invokevirtual 179, 3) := by decide +kernel
theorem dX1_cutPower_88 : decode cX1_cutPower 88 = .ok (.aload_n 1, 1) := by decide +kernel
theorem dX1_cutPower_89 : decode cX1_cutPower 89 = .ok (.aload_n 0, 1) := by decide +kernel
theorem dX1_cutPower_90 : decode cX1_cutPower 90 = .ok (.getfield 31, 3) := by decide +kernel
theorem dX1_cutPower_93 : decode cX1_cutPower 93 = .ok (.iload 4, 2) := by decide +kernel
theorem dX1_cutPower_95 : decode cX1_cutPower 95 = .ok (.iaload, 1) := by decide +kernel
theorem dX1_cutPower_96 : decode cX1_cutPower 96 = .ok (.aload_n 0, 1) := by decide +kernel
theorem dX1_cutPower_97 : decode cX1_cutPower 97 = .ok (.getfield 50, 3) := by decide +kernel
theorem dX1_cutPower_100 : decode cX1_cutPower 100 = .ok (.iload_n 2, 1) := by decide +kernel
theorem dX1_cutPower_101 : decode cX1_cutPower 101 = .ok (.iconst 3, 1) := by decide +kernel
theorem dX1_cutPower_102 : decode cX1_cutPower 102 = .ok (.if_icmp .ne 7, 3) := by decide +kernel
theorem dX1_cutPower_105 : decode cX1_cutPower 105 = .ok (.iconst 4, 1) := by decide +kernel
theorem dX1_cutPower_106 : decode cX1_cutPower 106 = .ok (.goto 4, 3) := by decide +kernel
theorem dX1_cutPower_109 : decode cX1_cutPower 109 = .ok (.iload_n 3, 1) := by decide +kernel
theorem dX1_cutPower_110 : decode cX1_cutPower 110 = .ok (.invokevirtual 171, 3) := by decide +kernel
theorem dX1_cutPower_113 : decode cX1_cutPower 113 = .ok (.return_, 1) := by decide +kernel
abbrev k_X1_cutPower (E : g_E) (l : Launch) (D : g_D) (r1 : Nat) (v2 : Int) (v3 : Int) (K : g_D → Prop) : Prop := g_Kv E l m_X1_cutPower 2 [g_R 175, g_R r1, g_I v2, g_I v3] g_SH D K
abbrev n_X1_cutPower (E : g_E) (l : Launch) (D : g_D) (pc : Nat) (L : List (Option g_V)) (K : g_D → Prop) : Prop := g_N E l m_X1_cutPower 2 pc L [] g_SH D (g_Rv g_SH K)
theorem s_X1_cutPower {E : g_E} {l : Launch} {D : g_D} {K : g_D → Prop} {r1 : Nat} {v2 : Int} {v3 : Int} (hr1 : is_Device g_SH r1) (hF : g_okD D → g_r v2 → g_r v3 → ∀ D1, D1 = g_up D r1 9 0 → (k_X1_hasLeft E l D1 r1 (fun x2 D2 => g_r x2 → (x2 = 0 → K D2) ∧ (¬ x2 = 0 → (¬ v2 = 0 → (0 ≤ (D2 r1 7) ∧ (D2 r1 7) < 360) ∧ ((¬ (D2 184 (D2 r1 7).toNat) = (-1) → (v2 ≤ 1 → K D2) ∧ (¬ v2 ≤ 1 → k_X1_readComing E l D2 r1 (D2 r1 7) (fun D3 => (0 ≤ (D2 r1 7) ∧ (D2 r1 7) < 360) ∧ (k_X2_writeJournal E l D3 r1 (D3 184 (D2 r1 7).toNat) 196 (fun D4 => (0 ≤ (D2 r1 7) ∧ (D2 r1 7) < 360) ∧ ((¬ v2 = 3 → k_X2_writeBlock E l D4 r1 (D4 184 (D2 r1 7).toNat) 196 v3 (fun D5 => K D5)) ∧ (v2 = 3 → k_X2_writeBlock E l D4 r1 (D4 184 (D2 r1 7).toNat) 196 4 (fun D6 => K D6)))))))) ∧ ((D2 184 (D2 r1 7).toNat) = (-1) → (0 ≤ (D2 r1 7) ∧ (D2 r1 7) < 360) ∧ ((¬ v2 = 3 → k_X1_saveCells E l D2 r1 (D2 183 (D2 r1 7).toNat) v3 (fun D7 => K D7)) ∧ (v2 = 3 → k_X1_saveCells E l D2 r1 (D2 183 (D2 r1 7).toNat) 20 (fun D8 => K D8)))))) ∧ (v2 = 0 → K D2))))) : k_X1_cutPower E l D r1 v2 v3 K := by
  refine g_enter (by decide) (Nat.le_of_ble_eq_true rfl) ?_
  show g_N E l m_X1_cutPower 2 0 [some (g_R 175), some (g_R r1), some (g_I v2), some (g_I v3), none] [] g_SH D (g_Rv g_SH K)
  refine g_use (fun ok => ?_)
  have hF := hF ok.2.1 (ok.loc (i := 2) rfl) (ok.loc (i := 3) rfl)
  refine g_aload_n dX1_cutPower_0 rfl ?_
  refine g_iconst dX1_cutPower_1 ⟨by decide, by decide⟩ ?_
  let D1 : g_D := g_up D r1 9 0
  have hF := hF D1 rfl
  refine g_put dX1_cutPower_2 fd_X1_175 (g_ftyZ (C := RX2) (T := TX2) (N := 10) rfl rfl (by decide +kernel) (by decide)) hr1.1 rfl ?_
  refine g_aload_n dX1_cutPower_5 rfl ?_
  refine g_aload_n dX1_cutPower_6 rfl ?_
  refine gw_cVi (b := 175) (As := [g_R r1]) (rest := []) dX1_cutPower_7 mv_X1_159 sh_175 rfl (Nat.le_of_ble_eq_true rfl) (by decide) rfl hF ?_
  intro x2 D2 hx2 hF
  have hF := hF hx2
  refine g_ifeq dX1_cutPower_10 rfl (fun q => ?_) (fun q => ?_)
  · have hF := hF.1 q
    exact gw_vret dX1_cutPower_17 rfl hF
  · have hF := hF.2 q
    refine g_iload_n dX1_cutPower_13 rfl ?_
    refine g_ifne dX1_cutPower_14 rfl (fun q => ?_) (fun q => ?_)
    · have hF := hF.1 q
      refine g_aload_n dX1_cutPower_18 rfl ?_
      refine g_getI dX1_cutPower_19 fd_X1_156 hr1.1 rfl ?_
      refine gw_istore (L' := [some (g_R 175), some (g_R r1), some (g_I v2), some (g_I v3), some (g_I (D2 r1 7))]) dX1_cutPower_22 (by decide) rfl ?_
      refine g_aload_n dX1_cutPower_24 rfl ?_
      refine g_getR dX1_cutPower_25 fd_X1_31 sh_175 rfl ?_
      refine g_iload dX1_cutPower_28 rfl ?_
      obtain ⟨hc, hF⟩ := hF
      refine g_iald dX1_cutPower_30 sh_184 hc.1 hc.2 ?_
      refine g_iconst dX1_cutPower_31 ⟨by decide, by decide⟩ ?_
      refine g_cne dX1_cutPower_32 rfl (fun q => ?_) (fun q => ?_)
      · have hF := hF.1 q
        refine g_iload_n dX1_cutPower_61 rfl ?_
        refine g_iconst dX1_cutPower_62 ⟨by decide, by decide⟩ ?_
        refine g_cle dX1_cutPower_63 rfl (fun q => ?_) (fun q => ?_)
        · have hF := hF.1 q
          exact gw_vret dX1_cutPower_113 rfl hF
        · have hF := hF.2 q
          refine g_aload_n dX1_cutPower_66 rfl ?_
          refine g_aload_n dX1_cutPower_67 rfl ?_
          refine g_iload dX1_cutPower_68 rfl ?_
          refine gw_cVv (b := 175) (As := [g_R r1, g_I (D2 r1 7)]) (rest := []) dX1_cutPower_70 mv_X1_167 sh_175 rfl (Nat.le_of_ble_eq_true rfl) (by decide) rfl hF ?_
          intro D3 hF
          refine g_aload_n dX1_cutPower_73 rfl ?_
          refine g_aload_n dX1_cutPower_74 rfl ?_
          refine g_getR dX1_cutPower_75 fd_X1_31 sh_175 rfl ?_
          refine g_iload dX1_cutPower_78 rfl ?_
          obtain ⟨hc, hF⟩ := hF
          refine g_iald dX1_cutPower_80 sh_184 hc.1 hc.2 ?_
          refine g_aload_n dX1_cutPower_81 rfl ?_
          refine g_getR dX1_cutPower_82 fd_X1_50 sh_175 rfl ?_
          refine gw_cVv (b := r1) (As := [g_I (D3 184 (D2 r1 7).toNat), g_R 196]) (rest := []) dX1_cutPower_85 mv_X1_179 hr1.1 rfl (Nat.le_of_ble_eq_true rfl) (by decide) rfl hF ?_
          intro D4 hF
          refine g_aload_n dX1_cutPower_88 rfl ?_
          refine g_aload_n dX1_cutPower_89 rfl ?_
          refine g_getR dX1_cutPower_90 fd_X1_31 sh_175 rfl ?_
          refine g_iload dX1_cutPower_93 rfl ?_
          obtain ⟨hc, hF⟩ := hF
          refine g_iald dX1_cutPower_95 sh_184 hc.1 hc.2 ?_
          refine g_aload_n dX1_cutPower_96 rfl ?_
          refine g_getR dX1_cutPower_97 fd_X1_50 sh_175 rfl ?_
          refine g_iload_n dX1_cutPower_100 rfl ?_
          refine g_iconst dX1_cutPower_101 ⟨by decide, by decide⟩ ?_
          refine g_cne dX1_cutPower_102 rfl (fun q => ?_) (fun q => ?_)
          · have hF := hF.1 q
            refine g_iload_n dX1_cutPower_109 rfl ?_
            refine gw_cVv (b := r1) (As := [g_I (D4 184 (D2 r1 7).toNat), g_R 196, g_I v3]) (rest := []) dX1_cutPower_110 mv_X1_171 hr1.1 rfl (Nat.le_of_ble_eq_true rfl) (by decide) rfl hF ?_
            intro D5 hF
            exact gw_vret dX1_cutPower_113 rfl hF
          · have hF := hF.2 q
            refine g_iconst dX1_cutPower_105 ⟨by decide, by decide⟩ ?_
            refine g_goto dX1_cutPower_106 rfl ?_
            refine gw_cVv (b := r1) (As := [g_I (D4 184 (D2 r1 7).toNat), g_R 196, g_I 4]) (rest := []) dX1_cutPower_110 mv_X1_171 hr1.1 rfl (Nat.le_of_ble_eq_true rfl) (by decide) rfl hF ?_
            intro D6 hF
            exact gw_vret dX1_cutPower_113 rfl hF
      · have hF := hF.2 q
        refine g_aload_n dX1_cutPower_35 rfl ?_
        refine g_aload_n dX1_cutPower_36 rfl ?_
        refine g_aload_n dX1_cutPower_37 rfl ?_
        refine g_getR dX1_cutPower_38 fd_X1_27 sh_175 rfl ?_
        refine g_iload dX1_cutPower_41 rfl ?_
        obtain ⟨hc, hF⟩ := hF
        refine g_iald dX1_cutPower_43 sh_183 hc.1 hc.2 ?_
        refine g_iload_n dX1_cutPower_44 rfl ?_
        refine g_iconst dX1_cutPower_45 ⟨by decide, by decide⟩ ?_
        refine g_cne dX1_cutPower_46 rfl (fun q => ?_) (fun q => ?_)
        · have hF := hF.1 q
          refine g_iload_n dX1_cutPower_54 rfl ?_
          refine gw_cVv (b := 175) (As := [g_R r1, g_I (D2 183 (D2 r1 7).toNat), g_I v3]) (rest := []) dX1_cutPower_55 mv_X1_163 sh_175 rfl (Nat.le_of_ble_eq_true rfl) (by decide) rfl hF ?_
          intro D7 hF
          refine g_goto dX1_cutPower_58 rfl ?_
          exact gw_vret dX1_cutPower_113 rfl hF
        · have hF := hF.2 q
          refine g_bipush dX1_cutPower_49 ⟨by decide, by decide⟩ ?_
          refine g_goto dX1_cutPower_51 rfl ?_
          refine gw_cVv (b := 175) (As := [g_R r1, g_I (D2 183 (D2 r1 7).toNat), g_I 20]) (rest := []) dX1_cutPower_55 mv_X1_163 sh_175 rfl (Nat.le_of_ble_eq_true rfl) (by decide) rfl hF ?_
          intro D8 hF
          refine g_goto dX1_cutPower_58 rfl ?_
          exact gw_vret dX1_cutPower_113 rfl hF
    · have hF := hF.2 q
      exact gw_vret dX1_cutPower_17 rfl hF
theorem dX1_firstFit_0 : decode cX1_firstFit 0 = .ok (.iconst 0, 1) := by decide +kernel
theorem dX1_firstFit_1 : decode cX1_firstFit 1 = .ok (.istore_n 2, 1) := by decide +kernel
theorem dX1_firstFit_2 : decode cX1_firstFit 2 = .ok (.iload_n 2, 1) := by decide +kernel
theorem dX1_firstFit_3 : decode cX1_firstFit 3 = .ok (.aload_n 0, 1) := by decide +kernel
theorem dX1_firstFit_4 : decode cX1_firstFit 4 = .ok (.getfield 78, 3) := by decide +kernel
theorem dX1_firstFit_7 : decode cX1_firstFit 7 = .ok (.if_icmp .gt 20, 3) := by decide +kernel
theorem dX1_firstFit_10 : decode cX1_firstFit 10 = .ok (.aload_n 0, 1) := by decide +kernel
theorem dX1_firstFit_11 : decode cX1_firstFit 11 = .ok (.aload_n 1, 1) := by decide +kernel
theorem dX1_firstFit_12 : decode cX1_firstFit 12 = .ok (.iload_n 2, 1) := by decide +kernel
theorem dX1_firstFit_13 : decode cX1_firstFit 13 = .ok (.invokevirtual 207, 3) := by decide +kernel
theorem dX1_firstFit_16 : decode cX1_firstFit 16 = .ok (.ifCond .eq 5, 3) := by decide +kernel
theorem dX1_firstFit_19 : decode cX1_firstFit 19 = .ok (.iload_n 2, 1) := by decide +kernel
theorem dX1_firstFit_20 : decode cX1_firstFit 20 = .ok (.ireturn, 1) := by decide +kernel
theorem dX1_firstFit_21 : decode cX1_firstFit 21 = .ok (.iinc 2 1, 3) := by decide +kernel
theorem dX1_firstFit_24 : decode cX1_firstFit 24 = .ok (.goto (-22), 3) := by decide +kernel
theorem dX1_firstFit_27 : decode cX1_firstFit 27 = .ok (.iconst (-1), 1) := by decide +kernel
theorem dX1_firstFit_28 : decode cX1_firstFit 28 = .ok (.ireturn, 1) := by decide +kernel
abbrev k_X1_firstFit (E : g_E) (l : Launch) (D : g_D) (r1 : Nat) (K : Int → g_D → Prop) : Prop := g_Ki E l m_X1_firstFit 3 [g_R 175, g_R r1] g_SH D K
abbrev n_X1_firstFit (E : g_E) (l : Launch) (D : g_D) (pc : Nat) (L : List (Option g_V)) (K : Int → g_D → Prop) : Prop := g_N E l m_X1_firstFit 3 pc L [] g_SH D (g_Ri g_SH K)
theorem s_X1_firstFit {E : g_E} {l : Launch} {D : g_D} {K : Int → g_D → Prop} {n1 : Nat} {r1 : Nat} (hr1 : g_SH[r1]? = some (.inl (0, n1))) (hF : g_okD D → n_X1_firstFit E l D 2 [some (g_R 175), some (g_R r1), some (g_I 0)] K) : k_X1_firstFit E l D r1 K := by
  refine g_enter (by decide) (Nat.le_of_ble_eq_true rfl) ?_
  show g_N E l m_X1_firstFit 3 0 [some (g_R 175), some (g_R r1), none] [] g_SH D (g_Ri g_SH K)
  refine g_use (fun ok => ?_)
  have hF := hF ok.2.1
  refine g_iconst dX1_firstFit_0 ⟨by decide, by decide⟩ ?_
  refine gw_istore_n (L' := [some (g_R 175), some (g_R r1), some (g_I 0)]) dX1_firstFit_1 (by decide) rfl ?_
  exact hF
theorem s_X1_firstFit_2 {E : g_E} {l : Launch} {D : g_D} {K : Int → g_D → Prop} {n1 : Nat} {r1 : Nat} {v2 : Int} (hr1 : g_SH[r1]? = some (.inl (0, n1))) (hF : g_okD D → g_r v2 → ((D 175 4) < v2 → K (-1) D) ∧ (¬ (D 175 4) < v2 → k_X1_isFit E l D r1 v2 (fun x1 D1 => g_r x1 → (x1 = 0 → (g_r (v2 + 1)) ∧ (n_X1_firstFit E l D1 2 [some (g_R 175), some (g_R r1), some (g_I (v2 + 1))] K)) ∧ (¬ x1 = 0 → K v2 D1)))) : n_X1_firstFit E l D 2 [some (g_R 175), some (g_R r1), some (g_I v2)] K := by
  refine g_use (fun ok => ?_)
  have hF := hF ok.2.1 (ok.loc (i := 2) rfl)
  refine g_iload_n dX1_firstFit_2 rfl ?_
  refine g_aload_n dX1_firstFit_3 rfl ?_
  refine g_getI dX1_firstFit_4 fd_X1_78 sh_175 rfl ?_
  refine g_cgt dX1_firstFit_7 rfl (fun q => ?_) (fun q => ?_)
  · have hF := hF.1 q
    refine g_iconst dX1_firstFit_27 ⟨by decide, by decide⟩ ?_
    exact gw_iret dX1_firstFit_28 rfl hF
  · have hF := hF.2 q
    refine g_aload_n dX1_firstFit_10 rfl ?_
    refine g_aload_n dX1_firstFit_11 rfl ?_
    refine g_iload_n dX1_firstFit_12 rfl ?_
    refine gw_cVi (b := 175) (As := [g_R r1, g_I v2]) (rest := []) dX1_firstFit_13 mv_X1_207 sh_175 rfl (Nat.le_of_ble_eq_true rfl) (by decide) rfl hF ?_
    intro x1 D1 hx1 hF
    have hF := hF hx1
    refine g_ifeq dX1_firstFit_16 rfl (fun q => ?_) (fun q => ?_)
    · have hF := hF.1 q
      obtain ⟨hc, hF⟩ := hF
      refine gw_iinc (L' := [some (g_R 175), some (g_R r1), some (g_I (v2 + 1))]) dX1_firstFit_21 rfl hc (by decide) rfl ?_
      refine g_goto dX1_firstFit_24 rfl ?_
      exact hF
    · have hF := hF.2 q
      refine g_iload_n dX1_firstFit_19 rfl ?_
      exact gw_iret dX1_firstFit_20 rfl hF
theorem dX1_canBoot_0 : decode cX1_canBoot 0 = .ok (.aload_n 1, 1) := by decide +kernel
theorem dX1_canBoot_1 : decode cX1_canBoot 1 = .ok (.getfield 190, 3) := by decide +kernel
theorem dX1_canBoot_4 : decode cX1_canBoot 4 = .ok (.ifCond .eq 5, 3) := by decide +kernel
theorem dX1_canBoot_7 : decode cX1_canBoot 7 = .ok (.iconst 1, 1) := by decide +kernel
theorem dX1_canBoot_8 : decode cX1_canBoot 8 = .ok (.ireturn, 1) := by decide +kernel
theorem dX1_canBoot_9 : decode cX1_canBoot 9 = .ok (.aload_n 0, 1) := by decide +kernel
theorem dX1_canBoot_10 : decode cX1_canBoot 10 = .ok (.aload_n 1, 1) := by decide +kernel
theorem dX1_canBoot_11 : decode cX1_canBoot 11 = .ok (.iconst 1, 1) := by decide +kernel
theorem dX1_canBoot_12 : decode cX1_canBoot 12 = .ok (.invokevirtual 193, 3) := by decide +kernel
theorem dX1_canBoot_15 : decode cX1_canBoot 15 = .ok (.aload_n 0, 1) := by decide +kernel
theorem dX1_canBoot_16 : decode cX1_canBoot 16 = .ok (.aload_n 1, 1) := by decide +kernel
theorem dX1_canBoot_17 : decode cX1_canBoot 17 = .ok (.getfield 134, 3) := by decide +kernel
theorem dX1_canBoot_20 : decode cX1_canBoot 20 = .ok (.invokevirtual 197, 3) := by decide +kernel
theorem dX1_canBoot_23 : decode cX1_canBoot 23 = .ok (.iconst (-1), 1) := by decide +kernel
theorem dX1_canBoot_24 : decode cX1_canBoot 24 = .ok (.if_icmp .eq 7, 3) := by decide +kernel
theorem dX1_canBoot_27 : decode cX1_canBoot 27 = .ok (.iconst 1, 1) := by decide +kernel
theorem dX1_canBoot_28 : decode cX1_canBoot 28 = .ok (.goto 4, 3) := by decide +kernel
theorem dX1_canBoot_31 : decode cX1_canBoot 31 = .ok (.iconst 0, 1) := by decide +kernel
theorem dX1_canBoot_32 : decode cX1_canBoot 32 = .ok (.ireturn, 1) := by decide +kernel
abbrev k_X1_canBoot (E : g_E) (l : Launch) (D : g_D) (r1 : Nat) (K : Int → g_D → Prop) : Prop := g_Ki E l m_X1_canBoot 4 [g_R 175, g_R r1] g_SH D K
abbrev n_X1_canBoot (E : g_E) (l : Launch) (D : g_D) (pc : Nat) (L : List (Option g_V)) (K : Int → g_D → Prop) : Prop := g_N E l m_X1_canBoot 4 pc L [] g_SH D (g_Ri g_SH K)
theorem s_X1_canBoot {E : g_E} {l : Launch} {D : g_D} {K : Int → g_D → Prop} {r1 : Nat} (hr1 : is_Device g_SH r1) (hF : g_okD D → ((D r1 8) = 0 → k_X1_look E l D r1 1 (fun D1 => k_X1_firstFit E l D1 (r1 + 2) (fun x2 D2 => g_r x2 → (x2 = (-1) → K 0 D2) ∧ (¬ x2 = (-1) → K 1 D2)))) ∧ (¬ (D r1 8) = 0 → K 1 D)) : k_X1_canBoot E l D r1 K := by
  refine g_enter (by decide) (Nat.le_of_ble_eq_true rfl) ?_
  show g_N E l m_X1_canBoot 4 0 [some (g_R 175), some (g_R r1)] [] g_SH D (g_Ri g_SH K)
  refine g_use (fun ok => ?_)
  have hF := hF ok.2.1
  refine g_aload_n dX1_canBoot_0 rfl ?_
  refine g_getI dX1_canBoot_1 fd_X1_190 hr1.1 rfl ?_
  refine g_ifeq dX1_canBoot_4 rfl (fun q => ?_) (fun q => ?_)
  · have hF := hF.1 q
    refine g_aload_n dX1_canBoot_9 rfl ?_
    refine g_aload_n dX1_canBoot_10 rfl ?_
    refine g_iconst dX1_canBoot_11 ⟨by decide, by decide⟩ ?_
    refine gw_cVv (b := 175) (As := [g_R r1, g_I 1]) (rest := []) dX1_canBoot_12 mv_X1_193 sh_175 rfl (Nat.le_of_ble_eq_true rfl) (by decide) rfl hF ?_
    intro D1 hF
    refine g_aload_n dX1_canBoot_15 rfl ?_
    refine g_aload_n dX1_canBoot_16 rfl ?_
    refine g_getR dX1_canBoot_17 fd_X1_134 hr1.1 rfl ?_
    refine gw_cVi (b := 175) (As := [g_R (r1 + 2)]) (rest := []) dX1_canBoot_20 mv_X1_197 sh_175 rfl (Nat.le_of_ble_eq_true rfl) (by decide) rfl hF ?_
    intro x2 D2 hx2 hF
    have hF := hF hx2
    refine g_iconst dX1_canBoot_23 ⟨by decide, by decide⟩ ?_
    refine g_ceq dX1_canBoot_24 rfl (fun q => ?_) (fun q => ?_)
    · have hF := hF.1 q
      refine g_iconst dX1_canBoot_31 ⟨by decide, by decide⟩ ?_
      exact gw_zret dX1_canBoot_32 rfl (by decide) hF
    · have hF := hF.2 q
      refine g_iconst dX1_canBoot_27 ⟨by decide, by decide⟩ ?_
      refine g_goto dX1_canBoot_28 rfl ?_
      exact gw_zret dX1_canBoot_32 rfl (by decide) hF
  · have hF := hF.2 q
    refine g_iconst dX1_canBoot_7 ⟨by decide, by decide⟩ ?_
    exact gw_zret dX1_canBoot_8 rfl (by decide) hF
theorem dX1_bootUp_0 : decode cX1_bootUp 0 = .ok (.aload_n 1, 1) := by decide +kernel
theorem dX1_bootUp_1 : decode cX1_bootUp 1 = .ok (.getfield 201, 3) := by decide +kernel
theorem dX1_bootUp_4 : decode cX1_bootUp 4 = .ok (.iconst (-1), 1) := by decide +kernel
theorem dX1_bootUp_5 : decode cX1_bootUp 5 = .ok (.if_icmp .eq 7, 3) := by decide +kernel
theorem dX1_bootUp_8 : decode cX1_bootUp 8 = .ok (.iconst 1, 1) := by decide +kernel
theorem dX1_bootUp_9 : decode cX1_bootUp 9 = .ok (.goto 4, 3) := by decide +kernel
theorem dX1_bootUp_12 : decode cX1_bootUp 12 = .ok (.iconst 0, 1) := by decide +kernel
theorem dX1_bootUp_13 : decode cX1_bootUp 13 = .ok (.istore_n 2, 1) := by decide +kernel
theorem dX1_bootUp_14 : decode cX1_bootUp 14 = .ok (.iload_n 2, 1) := by decide +kernel
theorem dX1_bootUp_15 : decode cX1_bootUp 15 = .ok (.ifCond .eq 16, 3) := by decide +kernel
theorem dX1_bootUp_18 : decode cX1_bootUp 18 = .ok (.aload_n 1, 1) := by decide +kernel
theorem dX1_bootUp_19 : decode cX1_bootUp 19 = .ok (.aload_n 1, 1) := by decide +kernel
theorem dX1_bootUp_20 : decode cX1_bootUp 20 = .ok (.getfield 201, 3) := by decide +kernel
theorem dX1_bootUp_23 : decode cX1_bootUp 23 = .ok (.aload_n 1, 1) := by decide +kernel
theorem dX1_bootUp_24 : decode cX1_bootUp 24 = .ok (.getfield 204, 3) := by decide +kernel
theorem dX1_bootUp_27 : decode cX1_bootUp 27 = .ok (.iconst 4, 1) := by decide +kernel
theorem dX1_bootUp_28 : decode cX1_bootUp 28 = .ok (.invokevirtual 171, 3) := by decide +kernel
theorem dX1_bootUp_31 : decode cX1_bootUp 31 = .ok (.aload_n 1, 1) := by decide +kernel
theorem dX1_bootUp_32 : decode cX1_bootUp 32 = .ok (.getfield 190, 3) := by decide +kernel
theorem dX1_bootUp_35 : decode cX1_bootUp 35 = .ok (.ifCond .ne 28, 3) := by decide +kernel
theorem dX1_bootUp_38 : decode cX1_bootUp 38 = .ok (.aload_n 0, 1) := by decide +kernel
theorem dX1_bootUp_39 : decode cX1_bootUp 39 = .ok (.aload_n 1, 1) := by decide +kernel
theorem dX1_bootUp_40 : decode cX1_bootUp 40 = .ok (.iconst 0, 1) := by decide +kernel
theorem dX1_bootUp_41 : decode cX1_bootUp 41 = .ok (.invokevirtual 193, 3) := by decide +kernel
theorem dX1_bootUp_44 : decode cX1_bootUp 44 = .ok (.aload_n 1, 1) := by decide +kernel
theorem dX1_bootUp_45 : decode cX1_bootUp 45 = .ok (.aload_n 0, 1) := by decide +kernel
theorem dX1_bootUp_46 : decode cX1_bootUp 46 = .ok (.aload_n 1, 1) := by decide +kernel
theorem dX1_bootUp_47 : decode cX1_bootUp 47 = .ok (.getfield 134, 3) := by decide +kernel
theorem dX1_bootUp_50 : decode cX1_bootUp 50 = .ok (.invokevirtual 197, 3) := by decide +kernel
theorem dX1_bootUp_53 : decode cX1_bootUp 53 = .ok (.iconst 0, 1) := by decide +kernel
theorem dX1_bootUp_54 : decode cX1_bootUp 54 = .ok (.invokestatic 111, 3) := by decide +kernel
theorem dX1_bootUp_57 : decode cX1_bootUp 57 = .ok (.putfield 156, 3) := by decide +kernel
theorem dX1_bootUp_60 : decode cX1_bootUp 60 = .ok (.goto 17, 3) := by decide +kernel
theorem dX1_bootUp_63 : decode cX1_bootUp 63 = .ok (.iload_n 2, 1) := by decide +kernel
theorem dX1_bootUp_64 : decode cX1_bootUp 64 = .ok (.ifCond .eq 13, 3) := by decide +kernel
theorem dX1_bootUp_67 : decode cX1_bootUp 67 = .ok (.aload_n 1, 1) := by decide +kernel
theorem dX1_bootUp_68 : decode cX1_bootUp 68 = .ok (.dup, 1) := by decide +kernel
theorem dX1_bootUp_69 : decode cX1_bootUp 69 = .ok (.getfield 156, 3) := by decide +kernel
theorem dX1_bootUp_72 : decode cX1_bootUp 72 = .ok (.iconst 1, 1) := by decide +kernel
theorem dX1_bootUp_73 : decode cX1_bootUp 73 = .ok (.iadd, 1) := by decide +kernel
theorem dX1_bootUp_74 : decode cX1_bootUp 74 = .ok (.putfield 156, 3) := by decide +kernel
theorem dX1_bootUp_77 : decode cX1_bootUp 77 = .ok (.aload_n 1, 1) := by decide +kernel
theorem dX1_bootUp_78 : decode cX1_bootUp 78 = .ok (.aload_n 1, 1) := by decide +kernel
theorem dX1_bootUp_79 : decode cX1_bootUp 79 = .ok (.getfield 156, 3) := by decide +kernel
theorem dX1_bootUp_82 : decode cX1_bootUp 82 = .ok (.invokevirtual 137, 3) := by decide +kernel
theorem dX1_bootUp_85 : decode cX1_bootUp 85 = .ok (.return_, 1) := by decide +kernel
abbrev k_X1_bootUp (E : g_E) (l : Launch) (D : g_D) (r1 : Nat) (K : g_D → Prop) : Prop := g_Kv E l m_X1_bootUp 4 [g_R 175, g_R r1] g_SH D K
abbrev n_X1_bootUp (E : g_E) (l : Launch) (D : g_D) (pc : Nat) (L : List (Option g_V)) (K : g_D → Prop) : Prop := g_N E l m_X1_bootUp 4 pc L [] g_SH D (g_Rv g_SH K)
theorem s_X1_bootUp {E : g_E} {l : Launch} {D : g_D} {K : g_D → Prop} {r1 : Nat} (hr1 : is_Device g_SH r1) (hF : g_okD D → ((D r1 6) = (-1) → (¬ (D r1 8) = 0 → k_X2_standAt E l D r1 (D r1 7) (fun D1 => K D1)) ∧ ((D r1 8) = 0 → k_X1_look E l D r1 0 (fun D2 => k_X1_firstFit E l D2 (r1 + 2) (fun x3 D3 => g_r x3 → ∀ D4, D4 = g_up D3 r1 7 (max x3 0) → (k_X2_standAt E l D4 r1 (D4 r1 7) (fun D5 => K D5)))))) ∧ (¬ (D r1 6) = (-1) → k_X2_writeBlock E l D r1 (D r1 6) (r1 + 7) 4 (fun D6 => (¬ (D6 r1 8) = 0 → (g_r ((D6 r1 7) + 1)) ∧ (∀ D7, D7 = g_up D6 r1 7 ((D6 r1 7) + 1) → (k_X2_standAt E l D7 r1 (D7 r1 7) (fun D8 => K D8)))) ∧ ((D6 r1 8) = 0 → k_X1_look E l D6 r1 0 (fun D9 => k_X1_firstFit E l D9 (r1 + 2) (fun x10 D10 => g_r x10 → ∀ D11, D11 = g_up D10 r1 7 (max x10 0) → (k_X2_standAt E l D11 r1 (D11 r1 7) (fun D12 => K D12)))))))) : k_X1_bootUp E l D r1 K := by
  refine g_enter (by decide) (Nat.le_of_ble_eq_true rfl) ?_
  show g_N E l m_X1_bootUp 4 0 [some (g_R 175), some (g_R r1), none] [] g_SH D (g_Rv g_SH K)
  refine g_use (fun ok => ?_)
  have hF := hF ok.2.1
  refine g_aload_n dX1_bootUp_0 rfl ?_
  refine g_getI dX1_bootUp_1 fd_X1_201 hr1.1 rfl ?_
  refine g_iconst dX1_bootUp_4 ⟨by decide, by decide⟩ ?_
  refine g_ceq dX1_bootUp_5 rfl (fun q => ?_) (fun q => ?_)
  · have hF := hF.1 q
    refine g_iconst dX1_bootUp_12 ⟨by decide, by decide⟩ ?_
    refine gw_istore_n (L' := [some (g_R 175), some (g_R r1), some (g_I 0)]) dX1_bootUp_13 (by decide) rfl ?_
    refine g_iload_n dX1_bootUp_14 rfl ?_
    refine g_ifeq dX1_bootUp_15 rfl (fun _ => ?_) (fun q => absurd q (by decide))
    refine g_aload_n dX1_bootUp_31 rfl ?_
    refine g_getI dX1_bootUp_32 fd_X1_190 hr1.1 rfl ?_
    refine g_ifne dX1_bootUp_35 rfl (fun q => ?_) (fun q => ?_)
    · have hF := hF.1 q
      refine g_iload_n dX1_bootUp_63 rfl ?_
      refine g_ifeq dX1_bootUp_64 rfl (fun _ => ?_) (fun q => absurd q (by decide))
      refine g_aload_n dX1_bootUp_77 rfl ?_
      refine g_aload_n dX1_bootUp_78 rfl ?_
      refine g_getI dX1_bootUp_79 fd_X1_156 hr1.1 rfl ?_
      refine gw_cVv (b := r1) (As := [g_I (D r1 7)]) (rest := []) dX1_bootUp_82 mv_X1_137 hr1.1 rfl (Nat.le_of_ble_eq_true rfl) (by decide) rfl hF ?_
      intro D1 hF
      exact gw_vret dX1_bootUp_85 rfl hF
    · have hF := hF.2 q
      refine g_aload_n dX1_bootUp_38 rfl ?_
      refine g_aload_n dX1_bootUp_39 rfl ?_
      refine g_iconst dX1_bootUp_40 ⟨by decide, by decide⟩ ?_
      refine gw_cVv (b := 175) (As := [g_R r1, g_I 0]) (rest := []) dX1_bootUp_41 mv_X1_193 sh_175 rfl (Nat.le_of_ble_eq_true rfl) (by decide) rfl hF ?_
      intro D2 hF
      refine g_aload_n dX1_bootUp_44 rfl ?_
      refine g_aload_n dX1_bootUp_45 rfl ?_
      refine g_aload_n dX1_bootUp_46 rfl ?_
      refine g_getR dX1_bootUp_47 fd_X1_134 hr1.1 rfl ?_
      refine gw_cVi (b := 175) (As := [g_R (r1 + 2)]) (rest := [g_R r1]) dX1_bootUp_50 mv_X1_197 sh_175 rfl (Nat.le_of_ble_eq_true rfl) (by decide) rfl hF ?_
      intro x3 D3 hx3 hF
      have hF := hF hx3
      refine g_iconst dX1_bootUp_53 ⟨by decide, by decide⟩ ?_
      refine g_max dX1_bootUp_54 mw_X1_111 (by decide) (Nat.le_refl _) (Nat.le_refl _) (Nat.le_of_ble_eq_true rfl) ?_
      let D4 : g_D := g_up D3 r1 7 (max x3 0)
      have hF := hF D4 rfl
      refine g_put dX1_bootUp_57 fd_X1_156 (g_ftyI (C := RX2) (T := TX2) (N := 10) rfl rfl (by decide +kernel)) hr1.1 rfl ?_
      refine g_goto dX1_bootUp_60 rfl ?_
      refine g_aload_n dX1_bootUp_77 rfl ?_
      refine g_aload_n dX1_bootUp_78 rfl ?_
      refine g_getI dX1_bootUp_79 fd_X1_156 hr1.1 rfl ?_
      refine gw_cVv (b := r1) (As := [g_I (D4 r1 7)]) (rest := []) dX1_bootUp_82 mv_X1_137 hr1.1 rfl (Nat.le_of_ble_eq_true rfl) (by decide) rfl hF ?_
      intro D5 hF
      exact gw_vret dX1_bootUp_85 rfl hF
  · have hF := hF.2 q
    refine g_iconst dX1_bootUp_8 ⟨by decide, by decide⟩ ?_
    refine g_goto dX1_bootUp_9 rfl ?_
    refine gw_istore_n (L' := [some (g_R 175), some (g_R r1), some (g_I 1)]) dX1_bootUp_13 (by decide) rfl ?_
    refine g_iload_n dX1_bootUp_14 rfl ?_
    refine g_ifeq dX1_bootUp_15 rfl (fun q => absurd q (by decide)) (fun _ => ?_)
    refine g_aload_n dX1_bootUp_18 rfl ?_
    refine g_aload_n dX1_bootUp_19 rfl ?_
    refine g_getI dX1_bootUp_20 fd_X1_201 hr1.1 rfl ?_
    refine g_aload_n dX1_bootUp_23 rfl ?_
    refine g_getR dX1_bootUp_24 fd_X1_204 hr1.1 rfl ?_
    refine g_iconst dX1_bootUp_27 ⟨by decide, by decide⟩ ?_
    refine gw_cVv (b := r1) (As := [g_I (D r1 6), g_R (r1 + 7), g_I 4]) (rest := []) dX1_bootUp_28 mv_X1_171 hr1.1 rfl (Nat.le_of_ble_eq_true rfl) (by decide) rfl hF ?_
    intro D6 hF
    refine g_aload_n dX1_bootUp_31 rfl ?_
    refine g_getI dX1_bootUp_32 fd_X1_190 hr1.1 rfl ?_
    refine g_ifne dX1_bootUp_35 rfl (fun q => ?_) (fun q => ?_)
    · have hF := hF.1 q
      refine g_iload_n dX1_bootUp_63 rfl ?_
      refine g_ifeq dX1_bootUp_64 rfl (fun q => absurd q (by decide)) (fun _ => ?_)
      refine g_aload_n dX1_bootUp_67 rfl ?_
      refine g_dup dX1_bootUp_68 rfl ?_
      refine g_getI dX1_bootUp_69 fd_X1_156 hr1.1 rfl ?_
      refine g_iconst dX1_bootUp_72 ⟨by decide, by decide⟩ ?_
      obtain ⟨hc, hF⟩ := hF
      refine g_iadd dX1_bootUp_73 hc ?_
      let D7 : g_D := g_up D6 r1 7 ((D6 r1 7) + 1)
      have hF := hF D7 rfl
      refine g_put dX1_bootUp_74 fd_X1_156 (g_ftyI (C := RX2) (T := TX2) (N := 10) rfl rfl (by decide +kernel)) hr1.1 rfl ?_
      refine g_aload_n dX1_bootUp_77 rfl ?_
      refine g_aload_n dX1_bootUp_78 rfl ?_
      refine g_getI dX1_bootUp_79 fd_X1_156 hr1.1 rfl ?_
      refine gw_cVv (b := r1) (As := [g_I (D7 r1 7)]) (rest := []) dX1_bootUp_82 mv_X1_137 hr1.1 rfl (Nat.le_of_ble_eq_true rfl) (by decide) rfl hF ?_
      intro D8 hF
      exact gw_vret dX1_bootUp_85 rfl hF
    · have hF := hF.2 q
      refine g_aload_n dX1_bootUp_38 rfl ?_
      refine g_aload_n dX1_bootUp_39 rfl ?_
      refine g_iconst dX1_bootUp_40 ⟨by decide, by decide⟩ ?_
      refine gw_cVv (b := 175) (As := [g_R r1, g_I 0]) (rest := []) dX1_bootUp_41 mv_X1_193 sh_175 rfl (Nat.le_of_ble_eq_true rfl) (by decide) rfl hF ?_
      intro D9 hF
      refine g_aload_n dX1_bootUp_44 rfl ?_
      refine g_aload_n dX1_bootUp_45 rfl ?_
      refine g_aload_n dX1_bootUp_46 rfl ?_
      refine g_getR dX1_bootUp_47 fd_X1_134 hr1.1 rfl ?_
      refine gw_cVi (b := 175) (As := [g_R (r1 + 2)]) (rest := [g_R r1]) dX1_bootUp_50 mv_X1_197 sh_175 rfl (Nat.le_of_ble_eq_true rfl) (by decide) rfl hF ?_
      intro x10 D10 hx10 hF
      have hF := hF hx10
      refine g_iconst dX1_bootUp_53 ⟨by decide, by decide⟩ ?_
      refine g_max dX1_bootUp_54 mw_X1_111 (by decide) (Nat.le_refl _) (Nat.le_refl _) (Nat.le_of_ble_eq_true rfl) ?_
      let D11 : g_D := g_up D10 r1 7 (max x10 0)
      have hF := hF D11 rfl
      refine g_put dX1_bootUp_57 fd_X1_156 (g_ftyI (C := RX2) (T := TX2) (N := 10) rfl rfl (by decide +kernel)) hr1.1 rfl ?_
      refine g_goto dX1_bootUp_60 rfl ?_
      refine g_aload_n dX1_bootUp_77 rfl ?_
      refine g_aload_n dX1_bootUp_78 rfl ?_
      refine g_getI dX1_bootUp_79 fd_X1_156 hr1.1 rfl ?_
      refine gw_cVv (b := r1) (As := [g_I (D11 r1 7)]) (rest := []) dX1_bootUp_82 mv_X1_137 hr1.1 rfl (Nat.le_of_ble_eq_true rfl) (by decide) rfl hF ?_
      intro D12 hF
      exact gw_vret dX1_bootUp_85 rfl hF
theorem dX10_survives_0 : decode cX10_survives 0 = .ok (.aload_n 1, 1) := by decide +kernel
theorem dX10_survives_1 : decode cX10_survives 1 = .ok (.aload_n 0, 1) := by decide +kernel
theorem dX10_survives_2 : decode cX10_survives 2 = .ok (.getfield 12, 3) := by decide +kernel
theorem dX10_survives_5 : decode cX10_survives 5 = .ok (.iload_n 2, 1) := by decide +kernel
theorem dX10_survives_6 : decode cX10_survives 6 = .ok (.iconst 2, 1) := by decide +kernel
theorem dX10_survives_7 : decode cX10_survives 7 = .ok (.invokevirtual 50, 3) := by decide +kernel
theorem dX10_survives_10 : decode cX10_survives 10 = .ok (.iload_n 3, 1) := by decide +kernel
theorem dX10_survives_11 : decode cX10_survives 11 = .ok (.iconst 2, 1) := by decide +kernel
theorem dX10_survives_12 : decode cX10_survives 12 = .ok (.if_icmp .ne 11, 3) := by decide +kernel
theorem dX10_survives_15 : decode cX10_survives 15 = .ok (.aload_n 0, 1) := by decide +kernel
theorem dX10_survives_16 : decode cX10_survives 16 = .ok (.getfield 12, 3) := by decide +kernel
theorem dX10_survives_19 : decode cX10_survives 19 = .ok (.iconst 0, 1) := by decide +kernel
theorem dX10_survives_20 : decode cX10_survives 20 = .ok (.putfield 54, 3) := by decide +kernel
theorem dX10_survives_23 : decode cX10_survives 23 = .ok (.iload_n 3, 1) := by decide +kernel
theorem dX10_survives_24 : decode cX10_survives 24 = .ok (.iconst 3, 1) := by decide +kernel
theorem dX10_survives_25 : decode cX10_survives 25 = .ok (.if_icmp .ne 11, 3) := by decide +kernel
theorem dX10_survives_28 : decode cX10_survives 28 = .ok (.aload_n 0, 1) := by decide +kernel
theorem dX10_survives_29 : decode cX10_survives 29 = .ok (.getfield 12, 3) := by decide +kernel
theorem dX10_survives_32 : decode cX10_survives 32 = .ok (.iconst (-1), 1) := by decide +kernel
theorem dX10_survives_33 : decode cX10_survives 33 = .ok (.putfield 58, 3) := by decide +kernel
theorem dX10_survives_36 : decode cX10_survives 36 = .ok (.aload_n 1, 1) := by decide +kernel
theorem dX10_survives_37 : decode cX10_survives 37 = .ok (.aload_n 0, 1) := by decide +kernel
theorem dX10_survives_38 : decode cX10_survives 38 = .ok (.getfield 12, 3) := by decide +kernel
theorem dX10_survives_41 : decode cX10_survives 41 = .ok (.invokevirtual 61, 3) := by decide +kernel
theorem dX10_survives_44 : decode cX10_survives 44 = .ok (.ifCond .ne 5, 3) := by decide +kernel
theorem dX10_survives_47 : decode cX10_survives 47 = .ok (.iconst 0, 1) := by decide +kernel
theorem dX10_survives_48 : decode cX10_survives 48 = .ok (.ireturn, 1) := by decide +kernel
theorem dX10_survives_49 : decode cX10_survives 49 = .ok (.aload_n 1, 1) := by decide +kernel
theorem dX10_survives_50 : decode cX10_survives 50 = .ok (.aload_n 0, 1) := by decide +kernel
theorem dX10_survives_51 : decode cX10_survives 51 = .ok (.getfield 12, 3) := by decide +kernel
theorem dX10_survives_54 : decode cX10_survives 54 = .ok (.invokevirtual 64, 3) := by decide +kernel
theorem dX10_survives_57 : decode cX10_survives 57 = .ok (.iconst 1, 1) := by decide +kernel
theorem dX10_survives_58 : decode cX10_survives 58 = .ok (.ireturn, 1) := by decide +kernel
abbrev k_X10_survives (E : g_E) (l : Launch) (D : g_D) (v2 : Int) (v3 : Int) (K : Int → g_D → Prop) : Prop := g_Ki E l m_X10_survives 5 [g_R 198, g_R 175, g_I v2, g_I v3] g_SH D K
abbrev n_X10_survives (E : g_E) (l : Launch) (D : g_D) (pc : Nat) (L : List (Option g_V)) (K : Int → g_D → Prop) : Prop := g_N E l m_X10_survives 5 pc L [] g_SH D (g_Ri g_SH K)
theorem s_X10_survives {E : g_E} {l : Launch} {D : g_D} {K : Int → g_D → Prop} {v2 : Int} {v3 : Int}  (hF : g_okD D → g_r v2 → g_r v3 → k_X1_cutPower E l D 199 v2 2 (fun D1 => (¬ v3 = 2 → (¬ v3 = 3 → k_X1_canBoot E l D1 199 (fun x2 D2 => g_r x2 → (¬ x2 = 0 → k_X1_bootUp E l D2 199 (fun D3 => K 1 D3)) ∧ (x2 = 0 → K 0 D2))) ∧ (v3 = 3 → ∀ D4, D4 = g_up D1 199 6 (-1) → (k_X1_canBoot E l D4 199 (fun x5 D5 => g_r x5 → (¬ x5 = 0 → k_X1_bootUp E l D5 199 (fun D6 => K 1 D6)) ∧ (x5 = 0 → K 0 D5))))) ∧ (v3 = 2 → ∀ D7, D7 = g_up D1 199 8 0 → ((¬ v3 = 3 → k_X1_canBoot E l D7 199 (fun x8 D8 => g_r x8 → (¬ x8 = 0 → k_X1_bootUp E l D8 199 (fun D9 => K 1 D9)) ∧ (x8 = 0 → K 0 D8))) ∧ (v3 = 3 → ∀ D10, D10 = g_up D7 199 6 (-1) → (k_X1_canBoot E l D10 199 (fun x11 D11 => g_r x11 → (¬ x11 = 0 → k_X1_bootUp E l D11 199 (fun D12 => K 1 D12)) ∧ (x11 = 0 → K 0 D11)))))))) : k_X10_survives E l D v2 v3 K := by
  refine g_enter (by decide) (Nat.le_of_ble_eq_true rfl) ?_
  show g_N E l m_X10_survives 5 0 [some (g_R 198), some (g_R 175), some (g_I v2), some (g_I v3)] [] g_SH D (g_Ri g_SH K)
  refine g_use (fun ok => ?_)
  have hF := hF ok.2.1 (ok.loc (i := 2) rfl) (ok.loc (i := 3) rfl)
  refine g_aload_n dX10_survives_0 rfl ?_
  refine g_aload_n dX10_survives_1 rfl ?_
  refine g_getR dX10_survives_2 fd_X10_12 sh_198 rfl ?_
  refine g_iload_n dX10_survives_5 rfl ?_
  refine g_iconst dX10_survives_6 ⟨by decide, by decide⟩ ?_
  refine gw_cVv (b := 175) (As := [g_R 199, g_I v2, g_I 2]) (rest := []) dX10_survives_7 mv_X10_50 sh_175 rfl (Nat.le_of_ble_eq_true rfl) (by decide) rfl hF ?_
  intro D1 hF
  refine g_iload_n dX10_survives_10 rfl ?_
  refine g_iconst dX10_survives_11 ⟨by decide, by decide⟩ ?_
  refine g_cne dX10_survives_12 rfl (fun q => ?_) (fun q => ?_)
  · have hF := hF.1 q
    refine g_iload_n dX10_survives_23 rfl ?_
    refine g_iconst dX10_survives_24 ⟨by decide, by decide⟩ ?_
    refine g_cne dX10_survives_25 rfl (fun q => ?_) (fun q => ?_)
    · have hF := hF.1 q
      refine g_aload_n dX10_survives_36 rfl ?_
      refine g_aload_n dX10_survives_37 rfl ?_
      refine g_getR dX10_survives_38 fd_X10_12 sh_198 rfl ?_
      refine gw_cVi (b := 175) (As := [g_R 199]) (rest := []) dX10_survives_41 mv_X10_61 sh_175 rfl (Nat.le_of_ble_eq_true rfl) (by decide) rfl hF ?_
      intro x2 D2 hx2 hF
      have hF := hF hx2
      refine g_ifne dX10_survives_44 rfl (fun q => ?_) (fun q => ?_)
      · have hF := hF.1 q
        refine g_aload_n dX10_survives_49 rfl ?_
        refine g_aload_n dX10_survives_50 rfl ?_
        refine g_getR dX10_survives_51 fd_X10_12 sh_198 rfl ?_
        refine gw_cVv (b := 175) (As := [g_R 199]) (rest := []) dX10_survives_54 mv_X10_64 sh_175 rfl (Nat.le_of_ble_eq_true rfl) (by decide) rfl hF ?_
        intro D3 hF
        refine g_iconst dX10_survives_57 ⟨by decide, by decide⟩ ?_
        exact gw_zret dX10_survives_58 rfl (by decide) hF
      · have hF := hF.2 q
        refine g_iconst dX10_survives_47 ⟨by decide, by decide⟩ ?_
        exact gw_zret dX10_survives_48 rfl (by decide) hF
    · have hF := hF.2 q
      refine g_aload_n dX10_survives_28 rfl ?_
      refine g_getR dX10_survives_29 fd_X10_12 sh_198 rfl ?_
      refine g_iconst dX10_survives_32 ⟨by decide, by decide⟩ ?_
      let D4 : g_D := g_up D1 199 6 (-1)
      have hF := hF D4 rfl
      refine g_put dX10_survives_33 fd_X10_58 (g_ftyI (C := RX2) (T := TX2) (N := 10) rfl rfl (by decide +kernel)) sh_199 rfl ?_
      refine g_aload_n dX10_survives_36 rfl ?_
      refine g_aload_n dX10_survives_37 rfl ?_
      refine g_getR dX10_survives_38 fd_X10_12 sh_198 rfl ?_
      refine gw_cVi (b := 175) (As := [g_R 199]) (rest := []) dX10_survives_41 mv_X10_61 sh_175 rfl (Nat.le_of_ble_eq_true rfl) (by decide) rfl hF ?_
      intro x5 D5 hx5 hF
      have hF := hF hx5
      refine g_ifne dX10_survives_44 rfl (fun q => ?_) (fun q => ?_)
      · have hF := hF.1 q
        refine g_aload_n dX10_survives_49 rfl ?_
        refine g_aload_n dX10_survives_50 rfl ?_
        refine g_getR dX10_survives_51 fd_X10_12 sh_198 rfl ?_
        refine gw_cVv (b := 175) (As := [g_R 199]) (rest := []) dX10_survives_54 mv_X10_64 sh_175 rfl (Nat.le_of_ble_eq_true rfl) (by decide) rfl hF ?_
        intro D6 hF
        refine g_iconst dX10_survives_57 ⟨by decide, by decide⟩ ?_
        exact gw_zret dX10_survives_58 rfl (by decide) hF
      · have hF := hF.2 q
        refine g_iconst dX10_survives_47 ⟨by decide, by decide⟩ ?_
        exact gw_zret dX10_survives_48 rfl (by decide) hF
  · have hF := hF.2 q
    refine g_aload_n dX10_survives_15 rfl ?_
    refine g_getR dX10_survives_16 fd_X10_12 sh_198 rfl ?_
    refine g_iconst dX10_survives_19 ⟨by decide, by decide⟩ ?_
    let D7 : g_D := g_up D1 199 8 0
    have hF := hF D7 rfl
    refine g_put dX10_survives_20 fd_X10_54 (g_ftyZ (C := RX2) (T := TX2) (N := 10) rfl rfl (by decide +kernel) (by decide)) sh_199 rfl ?_
    refine g_iload_n dX10_survives_23 rfl ?_
    refine g_iconst dX10_survives_24 ⟨by decide, by decide⟩ ?_
    refine g_cne dX10_survives_25 rfl (fun q => ?_) (fun q => ?_)
    · have hF := hF.1 q
      refine g_aload_n dX10_survives_36 rfl ?_
      refine g_aload_n dX10_survives_37 rfl ?_
      refine g_getR dX10_survives_38 fd_X10_12 sh_198 rfl ?_
      refine gw_cVi (b := 175) (As := [g_R 199]) (rest := []) dX10_survives_41 mv_X10_61 sh_175 rfl (Nat.le_of_ble_eq_true rfl) (by decide) rfl hF ?_
      intro x8 D8 hx8 hF
      have hF := hF hx8
      refine g_ifne dX10_survives_44 rfl (fun q => ?_) (fun q => ?_)
      · have hF := hF.1 q
        refine g_aload_n dX10_survives_49 rfl ?_
        refine g_aload_n dX10_survives_50 rfl ?_
        refine g_getR dX10_survives_51 fd_X10_12 sh_198 rfl ?_
        refine gw_cVv (b := 175) (As := [g_R 199]) (rest := []) dX10_survives_54 mv_X10_64 sh_175 rfl (Nat.le_of_ble_eq_true rfl) (by decide) rfl hF ?_
        intro D9 hF
        refine g_iconst dX10_survives_57 ⟨by decide, by decide⟩ ?_
        exact gw_zret dX10_survives_58 rfl (by decide) hF
      · have hF := hF.2 q
        refine g_iconst dX10_survives_47 ⟨by decide, by decide⟩ ?_
        exact gw_zret dX10_survives_48 rfl (by decide) hF
    · have hF := hF.2 q
      refine g_aload_n dX10_survives_28 rfl ?_
      refine g_getR dX10_survives_29 fd_X10_12 sh_198 rfl ?_
      refine g_iconst dX10_survives_32 ⟨by decide, by decide⟩ ?_
      let D10 : g_D := g_up D7 199 6 (-1)
      have hF := hF D10 rfl
      refine g_put dX10_survives_33 fd_X10_58 (g_ftyI (C := RX2) (T := TX2) (N := 10) rfl rfl (by decide +kernel)) sh_199 rfl ?_
      refine g_aload_n dX10_survives_36 rfl ?_
      refine g_aload_n dX10_survives_37 rfl ?_
      refine g_getR dX10_survives_38 fd_X10_12 sh_198 rfl ?_
      refine gw_cVi (b := 175) (As := [g_R 199]) (rest := []) dX10_survives_41 mv_X10_61 sh_175 rfl (Nat.le_of_ble_eq_true rfl) (by decide) rfl hF ?_
      intro x11 D11 hx11 hF
      have hF := hF hx11
      refine g_ifne dX10_survives_44 rfl (fun q => ?_) (fun q => ?_)
      · have hF := hF.1 q
        refine g_aload_n dX10_survives_49 rfl ?_
        refine g_aload_n dX10_survives_50 rfl ?_
        refine g_getR dX10_survives_51 fd_X10_12 sh_198 rfl ?_
        refine gw_cVv (b := 175) (As := [g_R 199]) (rest := []) dX10_survives_54 mv_X10_64 sh_175 rfl (Nat.le_of_ble_eq_true rfl) (by decide) rfl hF ?_
        intro D12 hF
        refine g_iconst dX10_survives_57 ⟨by decide, by decide⟩ ?_
        exact gw_zret dX10_survives_58 rfl (by decide) hF
      · have hF := hF.2 q
        refine g_iconst dX10_survives_47 ⟨by decide, by decide⟩ ?_
        exact gw_zret dX10_survives_48 rfl (by decide) hF
theorem dX10_survived_0 : decode cX10_survived 0 = .ok (.iload_n 2, 1) := by decide +kernel
theorem dX10_survived_1 : decode cX10_survived 1 = .ok (.ifCond .ne 10, 3) := by decide +kernel
theorem dX10_survived_4 : decode cX10_survived 4 = .ok (.aload_n 1, 1) := by decide +kernel
theorem dX10_survived_5 : decode cX10_survived 5 = .ok (.getfield 28, 3) := by decide +kernel
theorem dX10_survived_8 : decode cX10_survived 8 = .ok (.iconst 4, 1) := by decide +kernel
theorem dX10_survived_9 : decode cX10_survived 9 = .ok (.imul, 1) := by decide +kernel
theorem dX10_survived_10 : decode cX10_survived 10 = .ok (.ireturn, 1) := by decide +kernel
theorem dX10_survived_11 : decode cX10_survived 11 = .ok (.aload_n 0, 1) := by decide +kernel
theorem dX10_survived_12 : decode cX10_survived 12 = .ok (.getfield 18, 3) := by decide +kernel
theorem dX10_survived_15 : decode cX10_survived 15 = .ok (.iload_n 2, 1) := by decide +kernel
theorem dX10_survived_16 : decode cX10_survived 16 = .ok (.iaload, 1) := by decide +kernel
theorem dX10_survived_17 : decode cX10_survived 17 = .ok (.iconst (-1), 1) := by decide +kernel
theorem dX10_survived_18 : decode cX10_survived 18 = .ok (.if_icmp .eq 10, 3) := by decide +kernel
theorem dX10_survived_21 : decode cX10_survived 21 = .ok (.aload_n 0, 1) := by decide +kernel
theorem dX10_survived_22 : decode cX10_survived 22 = .ok (.getfield 18, 3) := by decide +kernel
theorem dX10_survived_25 : decode cX10_survived 25 = .ok (.iload_n 2, 1) := by decide +kernel
theorem dX10_survived_26 : decode cX10_survived 26 = .ok (.iaload, 1) := by decide +kernel
theorem dX10_survived_27 : decode cX10_survived 27 = .ok (.ireturn, 1) := by decide +kernel
theorem dX10_survived_28 : decode cX10_survived 28 = .ok (.iconst 0, 1) := by decide +kernel
theorem dX10_survived_29 : decode cX10_survived 29 = .ok (.istore_n 3, 1) := by decide +kernel
theorem dX10_survived_30 : decode cX10_survived 30 = .ok (.iconst 0, 1) := by decide +kernel
theorem dX10_survived_31 : decode cX10_survived 31 = .ok (.istore 4, 2) := by decide +kernel
theorem dX10_survived_33 : decode cX10_survived 33 = .ok (.iload 4, 2) := by decide +kernel
theorem dX10_survived_35 : decode cX10_survived 35 = .ok (.aload_n 1, 1) := by decide +kernel
theorem dX10_survived_36 : decode cX10_survived 36 = .ok (.getfield 28, 3) := by decide +kernel
theorem dX10_survived_39 : decode cX10_survived 39 = .ok (.if_icmp .ge 56, 3) := by decide +kernel
theorem dX10_survived_42 : decode cX10_survived 42 = .ok (.iconst 0, 1) := by decide +kernel
theorem dX10_survived_43 : decode cX10_survived 43 = .ok (.istore 5, 2) := by decide +kernel
theorem dX10_survived_45 : decode cX10_survived 45 = .ok (.iload 5, 2) := by decide +kernel
theorem dX10_survived_47 : decode cX10_survived 47 = .ok (.iconst 4, 1) := by decide +kernel
theorem dX10_survived_48 : decode cX10_survived 48 = .ok (.if_icmp .ge 41, 3) := by decide +kernel
theorem dX10_survived_51 : decode cX10_survived 51 = .ok (.aload_n 1, 1) := by decide +kernel
theorem dX10_survived_52 : decode cX10_survived 52 = .ok (.aload_n 0, 1) := by decide +kernel
theorem dX10_survived_53 : decode cX10_survived 53 = .ok (.getfield 12, 3) := by decide +kernel
theorem dX10_survived_56 : decode cX10_survived 56 = .ok (.iload 4, 2) := by decide +kernel
theorem dX10_survived_58 : decode cX10_survived 58 = .ok (.invokevirtual 34, 3) := by decide +kernel
theorem dX10_survived_61 : decode cX10_survived 61 = .ok (.aload_n 0, 1) := by decide +kernel
theorem dX10_survived_62 : decode cX10_survived 62 = .ok (.aload_n 1, 1) := by decide +kernel
theorem dX10_survived_63 : decode cX10_survived 63 = .ok (.iload 5, 2) := by decide +kernel
theorem dX10_survived_65 : decode cX10_survived 65 = .ok (.iload_n 2, 1) := by decide +kernel
theorem dX10_survived_66 : decode cX10_survived 66 = .ok (.invokevirtual 38, 3) := by decide +kernel
theorem dX10_survived_69 : decode cX10_survived 69 = .ok (.ifCond .eq 14, 3) := by decide +kernel
theorem dX10_survived_72 : decode cX10_survived 72 = .ok (.aload_n 0, 1) := by decide +kernel
theorem dX10_survived_73 : decode cX10_survived 73 = .ok (.aload_n 1, 1) := by decide +kernel
theorem dX10_survived_74 : decode cX10_survived 74 = .ok (.invokevirtual 42, 3) := by decide +kernel
theorem dX10_survived_77 : decode cX10_survived 77 = .ok (.ifCond .eq 6, 3) := by decide +kernel
theorem dX10_survived_80 : decode cX10_survived 80 = .ok (.iinc 3 1, 3) := by decide +kernel
theorem dX10_survived_83 : decode cX10_survived 83 = .ok (.iinc 5 1, 3) := by decide +kernel
theorem dX10_survived_86 : decode cX10_survived 86 = .ok (.goto (-41), 3) := by decide +kernel
theorem dX10_survived_89 : decode cX10_survived 89 = .ok (.iinc 4 1, 3) := by decide +kernel
theorem dX10_survived_92 : decode cX10_survived 92 = .ok (.goto (-59), 3) := by decide +kernel
theorem dX10_survived_95 : decode cX10_survived 95 = .ok (.aload_n 0, 1) := by decide +kernel
theorem dX10_survived_96 : decode cX10_survived 96 = .ok (.getfield 18, 3) := by decide +kernel
theorem dX10_survived_99 : decode cX10_survived 99 = .ok (.iload_n 2, 1) := by decide +kernel
theorem dX10_survived_100 : decode cX10_survived 100 = .ok (.iload_n 3, 1) := by decide +kernel
theorem dX10_survived_101 : decode cX10_survived 101 = .ok (.iastore, 1) := by decide +kernel
theorem dX10_survived_102 : decode cX10_survived 102 = .ok (.iload_n 3, 1) := by decide +kernel
theorem dX10_survived_103 : decode cX10_survived 103 = .ok (.ireturn, 1) := by decide +kernel
abbrev k_X10_survived (E : g_E) (l : Launch) (D : g_D) (v2 : Int) (K : Int → g_D → Prop) : Prop := g_Ki E l m_X10_survived 6 [g_R 198, g_R 175, g_I v2] g_SH D K
abbrev n_X10_survived (E : g_E) (l : Launch) (D : g_D) (pc : Nat) (L : List (Option g_V)) (K : Int → g_D → Prop) : Prop := g_N E l m_X10_survived 6 pc L [] g_SH D (g_Ri g_SH K)
theorem s_X10_survived {E : g_E} {l : Launch} {D : g_D} {K : Int → g_D → Prop} {v2 : Int}  (hF : g_okD D → g_r v2 → (¬ v2 = 0 → (0 ≤ v2 ∧ v2 < 4) ∧ (((D 207 v2.toNat) = (-1) → n_X10_survived E l D 33 [some (g_R 198), some (g_R 175), some (g_I v2), some (g_I 0), some (g_I 0), none] K) ∧ (¬ (D 207 v2.toNat) = (-1) → (0 ≤ v2 ∧ v2 < 4) ∧ (K (D 207 v2.toNat) D)))) ∧ (v2 = 0 → (g_r ((D 175 4) * 4)) ∧ (K ((D 175 4) * 4) D))) : k_X10_survived E l D v2 K := by
  refine g_enter (by decide) (Nat.le_of_ble_eq_true rfl) ?_
  show g_N E l m_X10_survived 6 0 [some (g_R 198), some (g_R 175), some (g_I v2), none, none, none] [] g_SH D (g_Ri g_SH K)
  refine g_use (fun ok => ?_)
  have hF := hF ok.2.1 (ok.loc (i := 2) rfl)
  refine g_iload_n dX10_survived_0 rfl ?_
  refine g_ifne dX10_survived_1 rfl (fun q => ?_) (fun q => ?_)
  · have hF := hF.1 q
    refine g_aload_n dX10_survived_11 rfl ?_
    refine g_getR dX10_survived_12 fd_X10_18 sh_198 rfl ?_
    refine g_iload_n dX10_survived_15 rfl ?_
    obtain ⟨hc, hF⟩ := hF
    refine g_iald dX10_survived_16 sh_207 hc.1 hc.2 ?_
    refine g_iconst dX10_survived_17 ⟨by decide, by decide⟩ ?_
    refine g_ceq dX10_survived_18 rfl (fun q => ?_) (fun q => ?_)
    · have hF := hF.1 q
      refine g_iconst dX10_survived_28 ⟨by decide, by decide⟩ ?_
      refine gw_istore_n (L' := [some (g_R 198), some (g_R 175), some (g_I v2), some (g_I 0), none, none]) dX10_survived_29 (by decide) rfl ?_
      refine g_iconst dX10_survived_30 ⟨by decide, by decide⟩ ?_
      refine gw_istore (L' := [some (g_R 198), some (g_R 175), some (g_I v2), some (g_I 0), some (g_I 0), none]) dX10_survived_31 (by decide) rfl ?_
      exact hF
    · have hF := hF.2 q
      refine g_aload_n dX10_survived_21 rfl ?_
      refine g_getR dX10_survived_22 fd_X10_18 sh_198 rfl ?_
      refine g_iload_n dX10_survived_25 rfl ?_
      obtain ⟨hc, hF⟩ := hF
      refine g_iald dX10_survived_26 sh_207 hc.1 hc.2 ?_
      exact gw_iret dX10_survived_27 rfl hF
  · have hF := hF.2 q
    refine g_aload_n dX10_survived_4 rfl ?_
    refine g_getI dX10_survived_5 fd_X10_28 sh_175 rfl ?_
    refine g_iconst dX10_survived_8 ⟨by decide, by decide⟩ ?_
    obtain ⟨hc, hF⟩ := hF
    refine g_imul dX10_survived_9 hc ?_
    exact gw_iret dX10_survived_10 rfl hF
theorem s_X10_survived_33 {E : g_E} {l : Launch} {D : g_D} {K : Int → g_D → Prop} {v2 : Int} {v3 : Int} {v4 : Int}  (hF : g_okD D → g_r v2 → g_r v3 → g_r v4 → ((D 175 4) ≤ v4 → (0 ≤ v2 ∧ v2 < 4) ∧ (∀ D1, D1 = g_up D 207 v2.toNat v3 → (K v3 D1))) ∧ (¬ (D 175 4) ≤ v4 → n_X10_survived E l D 45 [some (g_R 198), some (g_R 175), some (g_I v2), some (g_I v3), some (g_I v4), some (g_I 0)] K)) : n_X10_survived E l D 33 [some (g_R 198), some (g_R 175), some (g_I v2), some (g_I v3), some (g_I v4), none] K := by
  refine g_use (fun ok => ?_)
  have hF := hF ok.2.1 (ok.loc (i := 2) rfl) (ok.loc (i := 3) rfl) (ok.loc (i := 4) rfl)
  refine g_iload dX10_survived_33 rfl ?_
  refine g_aload_n dX10_survived_35 rfl ?_
  refine g_getI dX10_survived_36 fd_X10_28 sh_175 rfl ?_
  refine g_cge dX10_survived_39 rfl (fun q => ?_) (fun q => ?_)
  · have hF := hF.1 q
    refine g_aload_n dX10_survived_95 rfl ?_
    refine g_getR dX10_survived_96 fd_X10_18 sh_198 rfl ?_
    refine g_iload_n dX10_survived_99 rfl ?_
    refine g_iload_n dX10_survived_100 rfl ?_
    obtain ⟨hc, hF⟩ := hF
    let D1 : g_D := g_up D 207 v2.toNat v3
    have hF := hF D1 rfl
    refine g_iast dX10_survived_101 sh_207 hc.1 hc.2 ?_
    refine g_iload_n dX10_survived_102 rfl ?_
    exact gw_iret dX10_survived_103 rfl hF
  · have hF := hF.2 q
    refine g_iconst dX10_survived_42 ⟨by decide, by decide⟩ ?_
    refine gw_istore (L' := [some (g_R 198), some (g_R 175), some (g_I v2), some (g_I v3), some (g_I v4), some (g_I 0)]) dX10_survived_43 (by decide) rfl ?_
    exact hF
theorem s_X10_survived_45 {E : g_E} {l : Launch} {D : g_D} {K : Int → g_D → Prop} {v2 : Int} {v3 : Int} {v4 : Int} {v5 : Int}  (hF : g_okD D → g_r v2 → g_r v3 → g_r v4 → g_r v5 → (4 ≤ v5 → (g_r (v4 + 1)) ∧ (n_X10_survived E l D 33 [some (g_R 198), some (g_R 175), some (g_I v2), some (g_I v3), some (g_I (v4 + 1)), none] K)) ∧ (¬ 4 ≤ v5 → k_X1_standAsDue E l D 199 v4 (fun D1 => k_X10_survives E l D1 v5 v2 (fun x2 D2 => g_r x2 → (x2 = 0 → (g_r (v5 + 1)) ∧ (n_X10_survived E l D2 45 [some (g_R 198), some (g_R 175), some (g_I v2), some (g_I v3), some (g_I v4), some (g_I (v5 + 1))] K)) ∧ (¬ x2 = 0 → k_X10_endsAsDue E l D2 (fun x3 D3 => g_r x3 → (x3 = 0 → (g_r (v5 + 1)) ∧ (n_X10_survived E l D3 45 [some (g_R 198), some (g_R 175), some (g_I v2), some (g_I v3), some (g_I v4), some (g_I (v5 + 1))] K)) ∧ (¬ x3 = 0 → (g_r (v3 + 1)) ∧ ((g_r (v5 + 1)) ∧ (n_X10_survived E l D3 45 [some (g_R 198), some (g_R 175), some (g_I v2), some (g_I (v3 + 1)), some (g_I v4), some (g_I (v5 + 1))] K))))))))) : n_X10_survived E l D 45 [some (g_R 198), some (g_R 175), some (g_I v2), some (g_I v3), some (g_I v4), some (g_I v5)] K := by
  refine g_use (fun ok => ?_)
  have hF := hF ok.2.1 (ok.loc (i := 2) rfl) (ok.loc (i := 3) rfl) (ok.loc (i := 4) rfl) (ok.loc (i := 5) rfl)
  refine g_iload dX10_survived_45 rfl ?_
  refine g_iconst dX10_survived_47 ⟨by decide, by decide⟩ ?_
  refine g_cge dX10_survived_48 rfl (fun q => ?_) (fun q => ?_)
  · have hF := hF.1 q
    obtain ⟨hc, hF⟩ := hF
    refine gw_iinc (L' := [some (g_R 198), some (g_R 175), some (g_I v2), some (g_I v3), some (g_I (v4 + 1)), some (g_I v5)]) dX10_survived_89 rfl hc (by decide) rfl ?_
    refine g_goto dX10_survived_92 rfl ?_
    exact g_forget (L' := [some (g_R 198), some (g_R 175), some (g_I v2), some (g_I v3), some (g_I (v4 + 1)), none]) ⟨rfl, ⟨rfl, ⟨rfl, ⟨rfl, ⟨rfl, trivial⟩⟩⟩⟩⟩ hF
  · have hF := hF.2 q
    refine g_aload_n dX10_survived_51 rfl ?_
    refine g_aload_n dX10_survived_52 rfl ?_
    refine g_getR dX10_survived_53 fd_X10_12 sh_198 rfl ?_
    refine g_iload dX10_survived_56 rfl ?_
    refine gw_cVv (b := 175) (As := [g_R 199, g_I v4]) (rest := []) dX10_survived_58 mv_X10_34 sh_175 rfl (Nat.le_of_ble_eq_true rfl) (by decide) rfl hF ?_
    intro D1 hF
    refine g_aload_n dX10_survived_61 rfl ?_
    refine g_aload_n dX10_survived_62 rfl ?_
    refine g_iload dX10_survived_63 rfl ?_
    refine g_iload_n dX10_survived_65 rfl ?_
    refine gw_cVi (b := 198) (As := [g_R 175, g_I v5, g_I v2]) (rest := []) dX10_survived_66 mv_X10_38 sh_198 rfl (Nat.le_of_ble_eq_true rfl) (by decide) rfl hF ?_
    intro x2 D2 hx2 hF
    have hF := hF hx2
    refine g_ifeq dX10_survived_69 rfl (fun q => ?_) (fun q => ?_)
    · have hF := hF.1 q
      obtain ⟨hc, hF⟩ := hF
      refine gw_iinc (L' := [some (g_R 198), some (g_R 175), some (g_I v2), some (g_I v3), some (g_I v4), some (g_I (v5 + 1))]) dX10_survived_83 rfl hc (by decide) rfl ?_
      refine g_goto dX10_survived_86 rfl ?_
      exact hF
    · have hF := hF.2 q
      refine g_aload_n dX10_survived_72 rfl ?_
      refine g_aload_n dX10_survived_73 rfl ?_
      refine gw_cVi (b := 198) (As := [g_R 175]) (rest := []) dX10_survived_74 mv_X10_42 sh_198 rfl (Nat.le_of_ble_eq_true rfl) (by decide) rfl hF ?_
      intro x3 D3 hx3 hF
      have hF := hF hx3
      refine g_ifeq dX10_survived_77 rfl (fun q => ?_) (fun q => ?_)
      · have hF := hF.1 q
        obtain ⟨hc, hF⟩ := hF
        refine gw_iinc (L' := [some (g_R 198), some (g_R 175), some (g_I v2), some (g_I v3), some (g_I v4), some (g_I (v5 + 1))]) dX10_survived_83 rfl hc (by decide) rfl ?_
        refine g_goto dX10_survived_86 rfl ?_
        exact hF
      · have hF := hF.2 q
        obtain ⟨hc, hF⟩ := hF
        refine gw_iinc (L' := [some (g_R 198), some (g_R 175), some (g_I v2), some (g_I (v3 + 1)), some (g_I v4), some (g_I v5)]) dX10_survived_80 rfl hc (by decide) rfl ?_
        obtain ⟨hc, hF⟩ := hF
        refine gw_iinc (L' := [some (g_R 198), some (g_R 175), some (g_I v2), some (g_I (v3 + 1)), some (g_I v4), some (g_I (v5 + 1))]) dX10_survived_83 rfl hc (by decide) rfl ?_
        refine g_goto dX10_survived_86 rfl ?_
        exact hF
theorem dX10_survivedTwice_0 : decode cX10_survivedTwice 0 = .ok (.iconst 0, 1) := by decide +kernel
theorem dX10_survivedTwice_1 : decode cX10_survivedTwice 1 = .ok (.istore 4, 2) := by decide +kernel
theorem dX10_survivedTwice_3 : decode cX10_survivedTwice 3 = .ok (.iconst 0, 1) := by decide +kernel
theorem dX10_survivedTwice_4 : decode cX10_survivedTwice 4 = .ok (.istore 5, 2) := by decide +kernel
theorem dX10_survivedTwice_6 : decode cX10_survivedTwice 6 = .ok (.iload 5, 2) := by decide +kernel
theorem dX10_survivedTwice_8 : decode cX10_survivedTwice 8 = .ok (.aload_n 1, 1) := by decide +kernel
theorem dX10_survivedTwice_9 : decode cX10_survivedTwice 9 = .ok (.getfield 28, 3) := by decide +kernel
theorem dX10_survivedTwice_12 : decode cX10_survivedTwice 12 = .ok (.if_icmp .ge 69, 3) := by decide +kernel
theorem dX10_survivedTwice_15 : decode cX10_survivedTwice 15 = .ok (.aload_n 1, 1) := by decide +kernel
theorem dX10_survivedTwice_16 : decode cX10_survivedTwice 16 = .ok (.aload_n 0, 1) := by decide +kernel
theorem dX10_survivedTwice_17 : decode cX10_survivedTwice 17 = .ok (.getfield 12, 3) := by decide +kernel
theorem dX10_survivedTwice_20 : decode cX10_survivedTwice 20 = .ok (.iload 5, 2) := by decide +kernel
theorem dX10_survivedTwice_22 : decode cX10_survivedTwice 22 = .ok (.invokevirtual 34, 3) := by decide +kernel
theorem dX10_survivedTwice_25 : decode cX10_survivedTwice 25 = .ok (.aload_n 0, 1) := by decide +kernel
theorem dX10_survivedTwice_26 : decode cX10_survivedTwice 26 = .ok (.aload_n 1, 1) := by decide +kernel
theorem dX10_survivedTwice_27 : decode cX10_survivedTwice 27 = .ok (.iload_n 2, 1) := by decide +kernel
theorem dX10_survivedTwice_28 : decode cX10_survivedTwice 28 = .ok (.iconst 0, 1) := by decide +kernel
theorem dX10_survivedTwice_29 : decode cX10_survivedTwice 29 = .ok (.invokevirtual 38, 3) := by decide +kernel
theorem dX10_survivedTwice_32 : decode cX10_survivedTwice 32 = .ok (.istore 6, 2) := by decide +kernel
theorem dX10_survivedTwice_34 : decode cX10_survivedTwice 34 = .ok (.iload 6, 2) := by decide +kernel
theorem dX10_survivedTwice_36 : decode cX10_survivedTwice 36 = .ok (.ifCond .eq 23, 3) := by decide +kernel
theorem dX10_survivedTwice_39 : decode cX10_survivedTwice 39 = .ok (.aload_n 1, 1) := by decide +kernel
theorem dX10_survivedTwice_40 : decode cX10_survivedTwice 40 = .ok (.aload_n 0, 1) := by decide +kernel
theorem dX10_survivedTwice_41 : decode cX10_survivedTwice 41 = .ok (.getfield 12, 3) := by decide +kernel
theorem dX10_survivedTwice_44 : decode cX10_survivedTwice 44 = .ok (.invokevirtual 46, 3) := by decide +kernel
theorem dX10_survivedTwice_47 : decode cX10_survivedTwice 47 = .ok (.ifCond .eq 12, 3) := by decide +kernel
theorem dX10_survivedTwice_50 : decode cX10_survivedTwice 50 = .ok (.aload_n 0, 1) := by decide +kernel
theorem dX10_survivedTwice_51 : decode cX10_survivedTwice 51 = .ok (.aload_n 1, 1) := by decide +kernel
theorem dX10_survivedTwice_52 : decode cX10_survivedTwice 52 = .ok (.iload_n 3, 1) := by decide +kernel
theorem dX10_survivedTwice_53 : decode cX10_survivedTwice 53 = .ok (.iconst 0, 1) := by decide +kernel
theorem dX10_survivedTwice_54 : decode cX10_survivedTwice 54 = .ok (.invokevirtual 38, 3) := by decide +kernel
theorem dX10_survivedTwice_57 : decode cX10_survivedTwice 57 = .ok (.istore 6, 2) := by decide +kernel
theorem dX10_survivedTwice_59 : decode cX10_survivedTwice 59 = .ok (.iload 6, 2) := by decide +kernel
theorem dX10_survivedTwice_61 : decode cX10_survivedTwice 61 = .ok (.ifCond .eq 14, 3) := by decide +kernel
theorem dX10_survivedTwice_64 : decode cX10_survivedTwice 64 = .ok (.aload_n 0, 1) := by decide +kernel
theorem dX10_survivedTwice_65 : decode cX10_survivedTwice 65 = .ok (.aload_n 1, 1) := by decide +kernel
theorem dX10_survivedTwice_66 : decode cX10_survivedTwice 66 = .ok (.invokevirtual 42, 3) := by decide +kernel
theorem dX10_survivedTwice_69 : decode cX10_survivedTwice 69 = .ok (.ifCond .eq 6, 3) := by decide +kernel
theorem dX10_survivedTwice_72 : decode cX10_survivedTwice 72 = .ok (.iinc 4 1, 3) := by decide +kernel
theorem dX10_survivedTwice_75 : decode cX10_survivedTwice 75 = .ok (.iinc 5 1, 3) := by decide +kernel
theorem dX10_survivedTwice_78 : decode cX10_survivedTwice 78 = .ok (.goto (-72), 3) := by decide +kernel
theorem dX10_survivedTwice_81 : decode cX10_survivedTwice 81 = .ok (.iload 4, 2) := by decide +kernel
theorem dX10_survivedTwice_83 : decode cX10_survivedTwice 83 = .ok (.ireturn, 1) := by decide +kernel
abbrev k_X10_survivedTwice (E : g_E) (l : Launch) (D : g_D) (v2 : Int) (v3 : Int) (K : Int → g_D → Prop) : Prop := g_Ki E l m_X10_survivedTwice 6 [g_R 198, g_R 175, g_I v2, g_I v3] g_SH D K
abbrev n_X10_survivedTwice (E : g_E) (l : Launch) (D : g_D) (pc : Nat) (L : List (Option g_V)) (K : Int → g_D → Prop) : Prop := g_N E l m_X10_survivedTwice 6 pc L [] g_SH D (g_Ri g_SH K)
theorem s_X10_survivedTwice {E : g_E} {l : Launch} {D : g_D} {K : Int → g_D → Prop} {v2 : Int} {v3 : Int}  (hF : g_okD D → g_r v2 → g_r v3 → n_X10_survivedTwice E l D 6 [some (g_R 198), some (g_R 175), some (g_I v2), some (g_I v3), some (g_I 0), some (g_I 0), none] K) : k_X10_survivedTwice E l D v2 v3 K := by
  refine g_enter (by decide) (Nat.le_of_ble_eq_true rfl) ?_
  show g_N E l m_X10_survivedTwice 6 0 [some (g_R 198), some (g_R 175), some (g_I v2), some (g_I v3), none, none, none] [] g_SH D (g_Ri g_SH K)
  refine g_use (fun ok => ?_)
  have hF := hF ok.2.1 (ok.loc (i := 2) rfl) (ok.loc (i := 3) rfl)
  refine g_iconst dX10_survivedTwice_0 ⟨by decide, by decide⟩ ?_
  refine gw_istore (L' := [some (g_R 198), some (g_R 175), some (g_I v2), some (g_I v3), some (g_I 0), none, none]) dX10_survivedTwice_1 (by decide) rfl ?_
  refine g_iconst dX10_survivedTwice_3 ⟨by decide, by decide⟩ ?_
  refine gw_istore (L' := [some (g_R 198), some (g_R 175), some (g_I v2), some (g_I v3), some (g_I 0), some (g_I 0), none]) dX10_survivedTwice_4 (by decide) rfl ?_
  exact hF
theorem s_X10_survivedTwice_6 {E : g_E} {l : Launch} {D : g_D} {K : Int → g_D → Prop} {v2 : Int} {v3 : Int} {v4 : Int} {v5 : Int}  (hF : g_okD D → g_r v2 → g_r v3 → g_r v4 → g_r v5 → ((D 175 4) ≤ v5 → K v4 D) ∧ (¬ (D 175 4) ≤ v5 → k_X1_standAsDue E l D 199 v5 (fun D1 => k_X10_survives E l D1 v2 0 (fun x2 D2 => g_r x2 → (x2 = 0 → (x2 = 0 → (g_r (v5 + 1)) ∧ (n_X10_survivedTwice E l D2 6 [some (g_R 198), some (g_R 175), some (g_I v2), some (g_I v3), some (g_I v4), some (g_I (v5 + 1)), none] K)) ∧ (¬ x2 = 0 → k_X10_endsAsDue E l D2 (fun x3 D3 => g_r x3 → (x3 = 0 → (g_r (v5 + 1)) ∧ (n_X10_survivedTwice E l D3 6 [some (g_R 198), some (g_R 175), some (g_I v2), some (g_I v3), some (g_I v4), some (g_I (v5 + 1)), none] K)) ∧ (¬ x3 = 0 → (g_r (v4 + 1)) ∧ ((g_r (v5 + 1)) ∧ (n_X10_survivedTwice E l D3 6 [some (g_R 198), some (g_R 175), some (g_I v2), some (g_I v3), some (g_I (v4 + 1)), some (g_I (v5 + 1)), none] K)))))) ∧ (¬ x2 = 0 → k_X1_hasLeft E l D2 199 (fun x4 D4 => g_r x4 → (x4 = 0 → (x2 = 0 → (g_r (v5 + 1)) ∧ (n_X10_survivedTwice E l D4 6 [some (g_R 198), some (g_R 175), some (g_I v2), some (g_I v3), some (g_I v4), some (g_I (v5 + 1)), none] K)) ∧ (¬ x2 = 0 → k_X10_endsAsDue E l D4 (fun x5 D5 => g_r x5 → (x5 = 0 → (g_r (v5 + 1)) ∧ (n_X10_survivedTwice E l D5 6 [some (g_R 198), some (g_R 175), some (g_I v2), some (g_I v3), some (g_I v4), some (g_I (v5 + 1)), none] K)) ∧ (¬ x5 = 0 → (g_r (v4 + 1)) ∧ ((g_r (v5 + 1)) ∧ (n_X10_survivedTwice E l D5 6 [some (g_R 198), some (g_R 175), some (g_I v2), some (g_I v3), some (g_I (v4 + 1)), some (g_I (v5 + 1)), none] K)))))) ∧ (¬ x4 = 0 → k_X10_survives E l D4 v3 0 (fun x6 D6 => g_r x6 → (x6 = 0 → (g_r (v5 + 1)) ∧ (n_X10_survivedTwice E l D6 6 [some (g_R 198), some (g_R 175), some (g_I v2), some (g_I v3), some (g_I v4), some (g_I (v5 + 1)), none] K)) ∧ (¬ x6 = 0 → k_X10_endsAsDue E l D6 (fun x7 D7 => g_r x7 → (x7 = 0 → (g_r (v5 + 1)) ∧ (n_X10_survivedTwice E l D7 6 [some (g_R 198), some (g_R 175), some (g_I v2), some (g_I v3), some (g_I v4), some (g_I (v5 + 1)), none] K)) ∧ (¬ x7 = 0 → (g_r (v4 + 1)) ∧ ((g_r (v5 + 1)) ∧ (n_X10_survivedTwice E l D7 6 [some (g_R 198), some (g_R 175), some (g_I v2), some (g_I v3), some (g_I (v4 + 1)), some (g_I (v5 + 1)), none] K))))))))))))) : n_X10_survivedTwice E l D 6 [some (g_R 198), some (g_R 175), some (g_I v2), some (g_I v3), some (g_I v4), some (g_I v5), none] K := by
  refine g_use (fun ok => ?_)
  have hF := hF ok.2.1 (ok.loc (i := 2) rfl) (ok.loc (i := 3) rfl) (ok.loc (i := 4) rfl) (ok.loc (i := 5) rfl)
  refine g_iload dX10_survivedTwice_6 rfl ?_
  refine g_aload_n dX10_survivedTwice_8 rfl ?_
  refine g_getI dX10_survivedTwice_9 fd_X10_28 sh_175 rfl ?_
  refine g_cge dX10_survivedTwice_12 rfl (fun q => ?_) (fun q => ?_)
  · have hF := hF.1 q
    refine g_iload dX10_survivedTwice_81 rfl ?_
    exact gw_iret dX10_survivedTwice_83 rfl hF
  · have hF := hF.2 q
    refine g_aload_n dX10_survivedTwice_15 rfl ?_
    refine g_aload_n dX10_survivedTwice_16 rfl ?_
    refine g_getR dX10_survivedTwice_17 fd_X10_12 sh_198 rfl ?_
    refine g_iload dX10_survivedTwice_20 rfl ?_
    refine gw_cVv (b := 175) (As := [g_R 199, g_I v5]) (rest := []) dX10_survivedTwice_22 mv_X10_34 sh_175 rfl (Nat.le_of_ble_eq_true rfl) (by decide) rfl hF ?_
    intro D1 hF
    refine g_aload_n dX10_survivedTwice_25 rfl ?_
    refine g_aload_n dX10_survivedTwice_26 rfl ?_
    refine g_iload_n dX10_survivedTwice_27 rfl ?_
    refine g_iconst dX10_survivedTwice_28 ⟨by decide, by decide⟩ ?_
    refine gw_cVi (b := 198) (As := [g_R 175, g_I v2, g_I 0]) (rest := []) dX10_survivedTwice_29 mv_X10_38 sh_198 rfl (Nat.le_of_ble_eq_true rfl) (by decide) rfl hF ?_
    intro x2 D2 hx2 hF
    have hF := hF hx2
    refine gw_istore (L' := [some (g_R 198), some (g_R 175), some (g_I v2), some (g_I v3), some (g_I v4), some (g_I v5), some (g_I x2)]) dX10_survivedTwice_32 (by decide) rfl ?_
    refine g_iload dX10_survivedTwice_34 rfl ?_
    refine g_ifeq dX10_survivedTwice_36 rfl (fun q => ?_) (fun q => ?_)
    · have hF := hF.1 q
      refine g_iload dX10_survivedTwice_59 rfl ?_
      refine g_ifeq dX10_survivedTwice_61 rfl (fun q => ?_) (fun q => ?_)
      · have hF := hF.1 q
        obtain ⟨hc, hF⟩ := hF
        refine gw_iinc (L' := [some (g_R 198), some (g_R 175), some (g_I v2), some (g_I v3), some (g_I v4), some (g_I (v5 + 1)), some (g_I x2)]) dX10_survivedTwice_75 rfl hc (by decide) rfl ?_
        refine g_goto dX10_survivedTwice_78 rfl ?_
        exact g_forget (L' := [some (g_R 198), some (g_R 175), some (g_I v2), some (g_I v3), some (g_I v4), some (g_I (v5 + 1)), none]) ⟨rfl, ⟨rfl, ⟨rfl, ⟨rfl, ⟨rfl, ⟨rfl, trivial⟩⟩⟩⟩⟩⟩ hF
      · have hF := hF.2 q
        refine g_aload_n dX10_survivedTwice_64 rfl ?_
        refine g_aload_n dX10_survivedTwice_65 rfl ?_
        refine gw_cVi (b := 198) (As := [g_R 175]) (rest := []) dX10_survivedTwice_66 mv_X10_42 sh_198 rfl (Nat.le_of_ble_eq_true rfl) (by decide) rfl hF ?_
        intro x3 D3 hx3 hF
        have hF := hF hx3
        refine g_ifeq dX10_survivedTwice_69 rfl (fun q => ?_) (fun q => ?_)
        · have hF := hF.1 q
          obtain ⟨hc, hF⟩ := hF
          refine gw_iinc (L' := [some (g_R 198), some (g_R 175), some (g_I v2), some (g_I v3), some (g_I v4), some (g_I (v5 + 1)), some (g_I x2)]) dX10_survivedTwice_75 rfl hc (by decide) rfl ?_
          refine g_goto dX10_survivedTwice_78 rfl ?_
          exact g_forget (L' := [some (g_R 198), some (g_R 175), some (g_I v2), some (g_I v3), some (g_I v4), some (g_I (v5 + 1)), none]) ⟨rfl, ⟨rfl, ⟨rfl, ⟨rfl, ⟨rfl, ⟨rfl, trivial⟩⟩⟩⟩⟩⟩ hF
        · have hF := hF.2 q
          obtain ⟨hc, hF⟩ := hF
          refine gw_iinc (L' := [some (g_R 198), some (g_R 175), some (g_I v2), some (g_I v3), some (g_I (v4 + 1)), some (g_I v5), some (g_I x2)]) dX10_survivedTwice_72 rfl hc (by decide) rfl ?_
          obtain ⟨hc, hF⟩ := hF
          refine gw_iinc (L' := [some (g_R 198), some (g_R 175), some (g_I v2), some (g_I v3), some (g_I (v4 + 1)), some (g_I (v5 + 1)), some (g_I x2)]) dX10_survivedTwice_75 rfl hc (by decide) rfl ?_
          refine g_goto dX10_survivedTwice_78 rfl ?_
          exact g_forget (L' := [some (g_R 198), some (g_R 175), some (g_I v2), some (g_I v3), some (g_I (v4 + 1)), some (g_I (v5 + 1)), none]) ⟨rfl, ⟨rfl, ⟨rfl, ⟨rfl, ⟨rfl, ⟨rfl, trivial⟩⟩⟩⟩⟩⟩ hF
    · have hF := hF.2 q
      refine g_aload_n dX10_survivedTwice_39 rfl ?_
      refine g_aload_n dX10_survivedTwice_40 rfl ?_
      refine g_getR dX10_survivedTwice_41 fd_X10_12 sh_198 rfl ?_
      refine gw_cVi (b := 175) (As := [g_R 199]) (rest := []) dX10_survivedTwice_44 mv_X10_46 sh_175 rfl (Nat.le_of_ble_eq_true rfl) (by decide) rfl hF ?_
      intro x4 D4 hx4 hF
      have hF := hF hx4
      refine g_ifeq dX10_survivedTwice_47 rfl (fun q => ?_) (fun q => ?_)
      · have hF := hF.1 q
        refine g_iload dX10_survivedTwice_59 rfl ?_
        refine g_ifeq dX10_survivedTwice_61 rfl (fun q => ?_) (fun q => ?_)
        · have hF := hF.1 q
          obtain ⟨hc, hF⟩ := hF
          refine gw_iinc (L' := [some (g_R 198), some (g_R 175), some (g_I v2), some (g_I v3), some (g_I v4), some (g_I (v5 + 1)), some (g_I x2)]) dX10_survivedTwice_75 rfl hc (by decide) rfl ?_
          refine g_goto dX10_survivedTwice_78 rfl ?_
          exact g_forget (L' := [some (g_R 198), some (g_R 175), some (g_I v2), some (g_I v3), some (g_I v4), some (g_I (v5 + 1)), none]) ⟨rfl, ⟨rfl, ⟨rfl, ⟨rfl, ⟨rfl, ⟨rfl, trivial⟩⟩⟩⟩⟩⟩ hF
        · have hF := hF.2 q
          refine g_aload_n dX10_survivedTwice_64 rfl ?_
          refine g_aload_n dX10_survivedTwice_65 rfl ?_
          refine gw_cVi (b := 198) (As := [g_R 175]) (rest := []) dX10_survivedTwice_66 mv_X10_42 sh_198 rfl (Nat.le_of_ble_eq_true rfl) (by decide) rfl hF ?_
          intro x5 D5 hx5 hF
          have hF := hF hx5
          refine g_ifeq dX10_survivedTwice_69 rfl (fun q => ?_) (fun q => ?_)
          · have hF := hF.1 q
            obtain ⟨hc, hF⟩ := hF
            refine gw_iinc (L' := [some (g_R 198), some (g_R 175), some (g_I v2), some (g_I v3), some (g_I v4), some (g_I (v5 + 1)), some (g_I x2)]) dX10_survivedTwice_75 rfl hc (by decide) rfl ?_
            refine g_goto dX10_survivedTwice_78 rfl ?_
            exact g_forget (L' := [some (g_R 198), some (g_R 175), some (g_I v2), some (g_I v3), some (g_I v4), some (g_I (v5 + 1)), none]) ⟨rfl, ⟨rfl, ⟨rfl, ⟨rfl, ⟨rfl, ⟨rfl, trivial⟩⟩⟩⟩⟩⟩ hF
          · have hF := hF.2 q
            obtain ⟨hc, hF⟩ := hF
            refine gw_iinc (L' := [some (g_R 198), some (g_R 175), some (g_I v2), some (g_I v3), some (g_I (v4 + 1)), some (g_I v5), some (g_I x2)]) dX10_survivedTwice_72 rfl hc (by decide) rfl ?_
            obtain ⟨hc, hF⟩ := hF
            refine gw_iinc (L' := [some (g_R 198), some (g_R 175), some (g_I v2), some (g_I v3), some (g_I (v4 + 1)), some (g_I (v5 + 1)), some (g_I x2)]) dX10_survivedTwice_75 rfl hc (by decide) rfl ?_
            refine g_goto dX10_survivedTwice_78 rfl ?_
            exact g_forget (L' := [some (g_R 198), some (g_R 175), some (g_I v2), some (g_I v3), some (g_I (v4 + 1)), some (g_I (v5 + 1)), none]) ⟨rfl, ⟨rfl, ⟨rfl, ⟨rfl, ⟨rfl, ⟨rfl, trivial⟩⟩⟩⟩⟩⟩ hF
      · have hF := hF.2 q
        refine g_aload_n dX10_survivedTwice_50 rfl ?_
        refine g_aload_n dX10_survivedTwice_51 rfl ?_
        refine g_iload_n dX10_survivedTwice_52 rfl ?_
        refine g_iconst dX10_survivedTwice_53 ⟨by decide, by decide⟩ ?_
        refine gw_cVi (b := 198) (As := [g_R 175, g_I v3, g_I 0]) (rest := []) dX10_survivedTwice_54 mv_X10_38 sh_198 rfl (Nat.le_of_ble_eq_true rfl) (by decide) rfl hF ?_
        intro x6 D6 hx6 hF
        have hF := hF hx6
        refine gw_istore (L' := [some (g_R 198), some (g_R 175), some (g_I v2), some (g_I v3), some (g_I v4), some (g_I v5), some (g_I x6)]) dX10_survivedTwice_57 (by decide) rfl ?_
        refine g_iload dX10_survivedTwice_59 rfl ?_
        refine g_ifeq dX10_survivedTwice_61 rfl (fun q => ?_) (fun q => ?_)
        · have hF := hF.1 q
          obtain ⟨hc, hF⟩ := hF
          refine gw_iinc (L' := [some (g_R 198), some (g_R 175), some (g_I v2), some (g_I v3), some (g_I v4), some (g_I (v5 + 1)), some (g_I x6)]) dX10_survivedTwice_75 rfl hc (by decide) rfl ?_
          refine g_goto dX10_survivedTwice_78 rfl ?_
          exact g_forget (L' := [some (g_R 198), some (g_R 175), some (g_I v2), some (g_I v3), some (g_I v4), some (g_I (v5 + 1)), none]) ⟨rfl, ⟨rfl, ⟨rfl, ⟨rfl, ⟨rfl, ⟨rfl, trivial⟩⟩⟩⟩⟩⟩ hF
        · have hF := hF.2 q
          refine g_aload_n dX10_survivedTwice_64 rfl ?_
          refine g_aload_n dX10_survivedTwice_65 rfl ?_
          refine gw_cVi (b := 198) (As := [g_R 175]) (rest := []) dX10_survivedTwice_66 mv_X10_42 sh_198 rfl (Nat.le_of_ble_eq_true rfl) (by decide) rfl hF ?_
          intro x7 D7 hx7 hF
          have hF := hF hx7
          refine g_ifeq dX10_survivedTwice_69 rfl (fun q => ?_) (fun q => ?_)
          · have hF := hF.1 q
            obtain ⟨hc, hF⟩ := hF
            refine gw_iinc (L' := [some (g_R 198), some (g_R 175), some (g_I v2), some (g_I v3), some (g_I v4), some (g_I (v5 + 1)), some (g_I x6)]) dX10_survivedTwice_75 rfl hc (by decide) rfl ?_
            refine g_goto dX10_survivedTwice_78 rfl ?_
            exact g_forget (L' := [some (g_R 198), some (g_R 175), some (g_I v2), some (g_I v3), some (g_I v4), some (g_I (v5 + 1)), none]) ⟨rfl, ⟨rfl, ⟨rfl, ⟨rfl, ⟨rfl, ⟨rfl, trivial⟩⟩⟩⟩⟩⟩ hF
          · have hF := hF.2 q
            obtain ⟨hc, hF⟩ := hF
            refine gw_iinc (L' := [some (g_R 198), some (g_R 175), some (g_I v2), some (g_I v3), some (g_I (v4 + 1)), some (g_I v5), some (g_I x6)]) dX10_survivedTwice_72 rfl hc (by decide) rfl ?_
            obtain ⟨hc, hF⟩ := hF
            refine gw_iinc (L' := [some (g_R 198), some (g_R 175), some (g_I v2), some (g_I v3), some (g_I (v4 + 1)), some (g_I (v5 + 1)), some (g_I x6)]) dX10_survivedTwice_75 rfl hc (by decide) rfl ?_
            refine g_goto dX10_survivedTwice_78 rfl ?_
            exact g_forget (L' := [some (g_R 198), some (g_R 175), some (g_I v2), some (g_I v3), some (g_I (v4 + 1)), some (g_I (v5 + 1)), none]) ⟨rfl, ⟨rfl, ⟨rfl, ⟨rfl, ⟨rfl, ⟨rfl, trivial⟩⟩⟩⟩⟩⟩ hF
theorem dX1_append_0 : decode cX1_append 0 = .ok (.aload_n 0, 1) := by decide +kernel
theorem dX1_append_1 : decode cX1_append 1 = .ok (.getfield 78, 3) := by decide +kernel
theorem dX1_append_4 : decode cX1_append 4 = .ok (.sipush 360, 3) := by decide +kernel
theorem dX1_append_7 : decode cX1_append 7 = .ok (.if_icmp .ge 33, 3) := by decide +kernel
theorem dX1_append_10 : decode cX1_append 10 = .ok (.aload_n 0, 1) := by decide +kernel
theorem dX1_append_11 : decode cX1_append 11 = .ok (.getfield 27, 3) := by decide +kernel
theorem dX1_append_14 : decode cX1_append 14 = .ok (.aload_n 0, 1) := by decide +kernel
theorem dX1_append_15 : decode cX1_append 15 = .ok (.getfield 78, 3) := by decide +kernel
theorem dX1_append_18 : decode cX1_append 18 = .ok (.iload_n 1, 1) := by decide +kernel
theorem dX1_append_19 : decode cX1_append 19 = .ok (.iastore, 1) := by decide +kernel
theorem dX1_append_20 : decode cX1_append 20 = .ok (.aload_n 0, 1) := by decide +kernel
theorem dX1_append_21 : decode cX1_append 21 = .ok (.getfield 31, 3) := by decide +kernel
theorem dX1_append_24 : decode cX1_append 24 = .ok (.aload_n 0, 1) := by decide +kernel
theorem dX1_append_25 : decode cX1_append 25 = .ok (.getfield 78, 3) := by decide +kernel
theorem dX1_append_28 : decode cX1_append 28 = .ok (.iload_n 2, 1) := by decide +kernel
theorem dX1_append_29 : decode cX1_append 29 = .ok (.iastore, 1) := by decide +kernel
theorem dX1_append_30 : decode cX1_append 30 = .ok (.aload_n 0, 1) := by decide +kernel
theorem dX1_append_31 : decode cX1_append 31 = .ok (.dup, 1) := by decide +kernel
theorem dX1_append_32 : decode cX1_append 32 = .ok (.getfield 78, 3) := by decide +kernel
theorem dX1_append_35 : decode cX1_append 35 = .ok (.iconst 1, 1) := by decide +kernel
theorem dX1_append_36 : decode cX1_append 36 = .ok (.iadd, 1) := by decide +kernel
theorem dX1_append_37 : decode cX1_append 37 = .ok (.putfield 78, 3) := by decide +kernel
theorem dX1_append_40 : decode cX1_append 40 = .ok (.return_, 1) := by decide +kernel
abbrev k_X1_append (E : g_E) (l : Launch) (D : g_D) (v1 : Int) (v2 : Int) (K : g_D → Prop) : Prop := g_Kv E l m_X1_append 0 [g_R 175, g_I v1, g_I v2] g_SH D K
abbrev n_X1_append (E : g_E) (l : Launch) (D : g_D) (pc : Nat) (L : List (Option g_V)) (K : g_D → Prop) : Prop := g_N E l m_X1_append 0 pc L [] g_SH D (g_Rv g_SH K)
theorem s_X1_append {E : g_E} {l : Launch} {D : g_D} {K : g_D → Prop} {v1 : Int} {v2 : Int}  (hF : g_okD D → g_r v1 → g_r v2 → (360 ≤ (D 175 4) → K D) ∧ (¬ 360 ≤ (D 175 4) → (0 ≤ (D 175 4) ∧ (D 175 4) < 360) ∧ (∀ D1, D1 = g_up D 183 (D 175 4).toNat v1 → ((0 ≤ (D 175 4) ∧ (D 175 4) < 360) ∧ (∀ D2, D2 = g_up D1 184 (D 175 4).toNat v2 → ((g_r ((D 175 4) + 1)) ∧ (∀ D3, D3 = g_up D2 175 4 ((D 175 4) + 1) → (K D3)))))))) : k_X1_append E l D v1 v2 K := by
  refine g_enter (by decide) (Nat.le_of_ble_eq_true rfl) ?_
  show g_N E l m_X1_append 0 0 [some (g_R 175), some (g_I v1), some (g_I v2)] [] g_SH D (g_Rv g_SH K)
  refine g_use (fun ok => ?_)
  have hF := hF ok.2.1 (ok.loc (i := 1) rfl) (ok.loc (i := 2) rfl)
  refine g_aload_n dX1_append_0 rfl ?_
  refine g_getI dX1_append_1 fd_X1_78 sh_175 rfl ?_
  refine g_sipush dX1_append_4 ⟨by decide, by decide⟩ ?_
  refine g_cge dX1_append_7 rfl (fun q => ?_) (fun q => ?_)
  · have hF := hF.1 q
    exact gw_vret dX1_append_40 rfl hF
  · have hF := hF.2 q
    refine g_aload_n dX1_append_10 rfl ?_
    refine g_getR dX1_append_11 fd_X1_27 sh_175 rfl ?_
    refine g_aload_n dX1_append_14 rfl ?_
    refine g_getI dX1_append_15 fd_X1_78 sh_175 rfl ?_
    refine g_iload_n dX1_append_18 rfl ?_
    obtain ⟨hc, hF⟩ := hF
    let D1 : g_D := g_up D 183 (D 175 4).toNat v1
    have hF := hF D1 rfl
    refine g_iast dX1_append_19 sh_183 hc.1 hc.2 ?_
    refine g_aload_n dX1_append_20 rfl ?_
    refine g_getR dX1_append_21 fd_X1_31 sh_175 rfl ?_
    refine g_aload_n dX1_append_24 rfl ?_
    refine g_getI dX1_append_25 fd_X1_78 sh_175 rfl ?_
    refine g_iload_n dX1_append_28 rfl ?_
    obtain ⟨hc, hF⟩ := hF
    let D2 : g_D := g_up D1 184 (D 175 4).toNat v2
    have hF := hF D2 rfl
    refine g_iast dX1_append_29 sh_184 hc.1 hc.2 ?_
    refine g_aload_n dX1_append_30 rfl ?_
    refine g_dup dX1_append_31 rfl ?_
    refine g_getI dX1_append_32 fd_X1_78 sh_175 rfl ?_
    refine g_iconst dX1_append_35 ⟨by decide, by decide⟩ ?_
    obtain ⟨hc, hF⟩ := hF
    refine g_iadd dX1_append_36 hc ?_
    let D3 : g_D := g_up D2 175 4 ((D 175 4) + 1)
    have hF := hF D3 rfl
    refine g_put dX1_append_37 fd_X1_78 (g_ftyI (C := RX1) (T := TX1) (N := 11) rfl rfl (by decide +kernel)) sh_175 rfl ?_
    exact gw_vret dX1_append_40 rfl hF
theorem dX1_listBlocks_0 : decode cX1_listBlocks 0 = .ok (.aload_n 0, 1) := by decide +kernel
theorem dX1_listBlocks_1 : decode cX1_listBlocks 1 = .ok (.getfield 12, 3) := by decide +kernel
theorem dX1_listBlocks_4 : decode cX1_listBlocks 4 = .ok (.getfield 94, 3) := by decide +kernel
theorem dX1_listBlocks_7 : decode cX1_listBlocks 7 = .ok (.iload_n 1, 1) := by decide +kernel
theorem dX1_listBlocks_8 : decode cX1_listBlocks 8 = .ok (.iaload, 1) := by decide +kernel
theorem dX1_listBlocks_9 : decode cX1_listBlocks 9 = .ok (.iconst 4, 1) := by decide +kernel
theorem dX1_listBlocks_10 : decode cX1_listBlocks 10 = .ok (.idiv, 1) := by decide +kernel
theorem dX1_listBlocks_11 : decode cX1_listBlocks 11 = .ok (.istore_n 2, 1) := by decide +kernel
theorem dX1_listBlocks_12 : decode cX1_listBlocks 12 = .ok (.aload_n 0, 1) := by decide +kernel
theorem dX1_listBlocks_13 : decode cX1_listBlocks 13 = .ok (.getfield 12, 3) := by decide +kernel
theorem dX1_listBlocks_16 : decode cX1_listBlocks 16 = .ok (.getfield 94, 3) := by decide +kernel
theorem dX1_listBlocks_19 : decode cX1_listBlocks 19 = .ok (.iload_n 1, 1) := by decide +kernel
theorem dX1_listBlocks_20 : decode cX1_listBlocks 20 = .ok (.iaload, 1) := by decide +kernel
theorem dX1_listBlocks_21 : decode cX1_listBlocks 21 = .ok (.aload_n 0, 1) := by decide +kernel
theorem dX1_listBlocks_22 : decode cX1_listBlocks 22 = .ok (.getfield 12, 3) := by decide +kernel
theorem dX1_listBlocks_25 : decode cX1_listBlocks 25 = .ok (.getfield 97, 3) := by decide +kernel
theorem dX1_listBlocks_28 : decode cX1_listBlocks 28 = .ok (.iload_n 1, 1) := by decide +kernel
theorem dX1_listBlocks_29 : decode cX1_listBlocks 29 = .ok (.iaload, 1) := by decide +kernel
theorem dX1_listBlocks_30 : decode cX1_listBlocks 30 = .ok (.iadd, 1) := by decide +kernel
theorem dX1_listBlocks_31 : decode cX1_listBlocks 31 = .ok (.iconst 1, 1) := by decide +kernel
theorem dX1_listBlocks_32 : decode cX1_listBlocks 32 = .ok (.isub, 1) := by decide +kernel
theorem dX1_listBlocks_33 : decode cX1_listBlocks 33 = .ok (.iconst 4, 1) := by decide +kernel
theorem dX1_listBlocks_34 : decode cX1_listBlocks 34 = .ok (.idiv, 1) := by decide +kernel
theorem dX1_listBlocks_35 : decode cX1_listBlocks 35 = .ok (.istore_n 3, 1) := by decide +kernel
theorem dX1_listBlocks_36 : decode cX1_listBlocks 36 = .ok (.aload_n 0, 1) := by decide +kernel
theorem dX1_listBlocks_37 : decode cX1_listBlocks 37 = .ok (.getfield 12, 3) := by decide +kernel
theorem dX1_listBlocks_40 : decode cX1_listBlocks 40 = .ok (.getfield 84, 3) := by decide +kernel
theorem dX1_listBlocks_43 : decode cX1_listBlocks 43 = .ok (.iload_n 1, 1) := by decide +kernel
theorem dX1_listBlocks_44 : decode cX1_listBlocks 44 = .ok (.iaload, 1) := by decide +kernel
theorem dX1_listBlocks_45 : decode cX1_listBlocks 45 = .ok (.iconst 2, 1) := by decide +kernel
theorem dX1_listBlocks_46 : decode cX1_listBlocks 46 = .ok (.if_icmp .ne 28, 3) := by decide +kernel
theorem dX1_listBlocks_49 : decode cX1_listBlocks 49 = .ok (.aload_n 0, 1) := by decide +kernel
theorem dX1_listBlocks_50 : decode cX1_listBlocks 50 = .ok (.getfield 12, 3) := by decide +kernel
theorem dX1_listBlocks_53 : decode cX1_listBlocks 53 = .ok (.getfield 94, 3) := by decide +kernel
theorem dX1_listBlocks_56 : decode cX1_listBlocks 56 = .ok (.iload_n 1, 1) := by decide +kernel
theorem dX1_listBlocks_57 : decode cX1_listBlocks 57 = .ok (.iaload, 1) := by decide +kernel
theorem dX1_listBlocks_58 : decode cX1_listBlocks 58 = .ok (.aload_n 0, 1) := by decide +kernel
theorem dX1_listBlocks_59 : decode cX1_listBlocks 59 = .ok (.getfield 12, 3) := by decide +kernel
theorem dX1_listBlocks_62 : decode cX1_listBlocks 62 = .ok (.getfield 100, 3) := by decide +kernel
theorem dX1_listBlocks_65 : decode cX1_listBlocks 65 = .ok (.iload_n 1, 1) := by decide +kernel
theorem dX1_listBlocks_66 : decode cX1_listBlocks 66 = .ok (.iaload, 1) := by decide +kernel
theorem dX1_listBlocks_67 : decode cX1_listBlocks 67 = .ok (.if_icmp .le 7, 3) := by decide +kernel
theorem dX1_listBlocks_70 : decode cX1_listBlocks 70 = .ok (.iconst 1, 1) := by decide +kernel
theorem dX1_listBlocks_71 : decode cX1_listBlocks 71 = .ok (.goto 4, 3) := by decide +kernel
theorem dX1_listBlocks_74 : decode cX1_listBlocks 74 = .ok (.iconst 0, 1) := by decide +kernel
theorem dX1_listBlocks_75 : decode cX1_listBlocks 75 = .ok (.istore 4, 2) := by decide +kernel
theorem dX1_listBlocks_77 : decode cX1_listBlocks 77 = .ok (.iconst 0, 1) := by decide +kernel
theorem dX1_listBlocks_78 : decode cX1_listBlocks 78 = .ok (.istore 5, 2) := by decide +kernel
theorem dX1_listBlocks_80 : decode cX1_listBlocks 80 = .ok (.iload 5, 2) := by decide +kernel
theorem dX1_listBlocks_82 : decode cX1_listBlocks 82 = .ok (.iload_n 3, 1) := by decide +kernel
theorem dX1_listBlocks_83 : decode cX1_listBlocks 83 = .ok (.iload_n 2, 1) := by decide +kernel
theorem dX1_listBlocks_84 : decode cX1_listBlocks 84 = .ok (.isub, 1) := by decide +kernel
theorem dX1_listBlocks_85 : decode cX1_listBlocks 85 = .ok (.if_icmp .gt 30, 3) := by decide +kernel
theorem dX1_listBlocks_88 : decode cX1_listBlocks 88 = .ok (.aload_n 0, 1) := by decide +kernel
theorem dX1_listBlocks_89 : decode cX1_listBlocks 89 = .ok (.iload_n 1, 1) := by decide +kernel
theorem dX1_listBlocks_90 : decode cX1_listBlocks 90 = .ok (.iload 4, 2) := by decide +kernel
theorem dX1_listBlocks_92 : decode cX1_listBlocks 92 = .ok (.ifCond .eq 10, 3) := by decide +kernel
theorem dX1_listBlocks_95 : decode cX1_listBlocks 95 = .ok (.iload_n 3, 1) := by decide +kernel
theorem dX1_listBlocks_96 : decode cX1_listBlocks 96 = .ok (.iload 5, 2) := by decide +kernel
theorem dX1_listBlocks_98 : decode cX1_listBlocks 98 = .ok (.isub, 1) := by decide +kernel
theorem dX1_listBlocks_99 : decode cX1_listBlocks 99 = .ok (.goto 7, 3) := by decide +kernel
theorem dX1_listBlocks_102 : decode cX1_listBlocks 102 = .ok (.iload_n 2, 1) := by decide +kernel
theorem dX1_listBlocks_103 : decode cX1_listBlocks 103 = .ok (.iload 5, 2) := by decide +kernel
theorem dX1_listBlocks_105 : decode cX1_listBlocks 105 = .ok (.iadd, 1) := by decide +kernel
theorem dX1_listBlocks_106 : decode cX1_listBlocks 106 = .ok (.invokevirtual 87, 3) := by decide +kernel
theorem dX1_listBlocks_109 : decode cX1_listBlocks 109 = .ok (.iinc 5 1, 3) := by decide +kernel
theorem dX1_listBlocks_112 : decode cX1_listBlocks 112 = .ok (.goto (-32), 3) := by decide +kernel
theorem dX1_listBlocks_115 : decode cX1_listBlocks 115 = .ok (.return_, 1) := by decide +kernel
abbrev k_X1_listBlocks (E : g_E) (l : Launch) (D : g_D) (v1 : Int) (K : g_D → Prop) : Prop := g_Kv E l m_X1_listBlocks 1 [g_R 175, g_I v1] g_SH D K
abbrev n_X1_listBlocks (E : g_E) (l : Launch) (D : g_D) (pc : Nat) (L : List (Option g_V)) (K : g_D → Prop) : Prop := g_N E l m_X1_listBlocks 1 pc L [] g_SH D (g_Rv g_SH K)
theorem s_X1_listBlocks {E : g_E} {l : Launch} {D : g_D} {K : g_D → Prop} {v1 : Int}  (hF : g_okD D → g_r v1 → (0 ≤ v1 ∧ v1 < 36) ∧ ((0 ≤ (D 178 v1.toNat)) ∧ ((0 ≤ v1 ∧ v1 < 36) ∧ ((0 ≤ v1 ∧ v1 < 36) ∧ ((g_r ((D 178 v1.toNat) + (D 180 v1.toNat))) ∧ ((g_r (((D 178 v1.toNat) + (D 180 v1.toNat)) - 1)) ∧ ((0 ≤ (((D 178 v1.toNat) + (D 180 v1.toNat)) - 1)) ∧ ((0 ≤ v1 ∧ v1 < 36) ∧ ((¬ (D 177 v1.toNat) = 2 → n_X1_listBlocks E l D 80 [some (g_R 175), some (g_I v1), some (g_I ((D 178 v1.toNat) / 4)), some (g_I ((((D 178 v1.toNat) + (D 180 v1.toNat)) - 1) / 4)), some (g_I 0), some (g_I 0)] K) ∧ ((D 177 v1.toNat) = 2 → (0 ≤ v1 ∧ v1 < 36) ∧ ((0 ≤ v1 ∧ v1 < 36) ∧ (((D 178 v1.toNat) ≤ (D 179 v1.toNat) → n_X1_listBlocks E l D 80 [some (g_R 175), some (g_I v1), some (g_I ((D 178 v1.toNat) / 4)), some (g_I ((((D 178 v1.toNat) + (D 180 v1.toNat)) - 1) / 4)), some (g_I 0), some (g_I 0)] K) ∧ (¬ (D 178 v1.toNat) ≤ (D 179 v1.toNat) → n_X1_listBlocks E l D 80 [some (g_R 175), some (g_I v1), some (g_I ((D 178 v1.toNat) / 4)), some (g_I ((((D 178 v1.toNat) + (D 180 v1.toNat)) - 1) / 4)), some (g_I 1), some (g_I 0)] K))))))))))))) : k_X1_listBlocks E l D v1 K := by
  refine g_enter (by decide) (Nat.le_of_ble_eq_true rfl) ?_
  show g_N E l m_X1_listBlocks 1 0 [some (g_R 175), some (g_I v1), none, none, none, none] [] g_SH D (g_Rv g_SH K)
  refine g_use (fun ok => ?_)
  have hF := hF ok.2.1 (ok.loc (i := 1) rfl)
  refine g_aload_n dX1_listBlocks_0 rfl ?_
  refine g_getR dX1_listBlocks_1 fd_X1_12 sh_175 rfl ?_
  refine g_getR dX1_listBlocks_4 fd_X1_94 sh_176 rfl ?_
  refine g_iload_n dX1_listBlocks_7 rfl ?_
  obtain ⟨hc, hF⟩ := hF
  refine g_iald dX1_listBlocks_8 sh_178 hc.1 hc.2 ?_
  refine g_iconst dX1_listBlocks_9 ⟨by decide, by decide⟩ ?_
  obtain ⟨hc, hF⟩ := hF
  refine g_idiv dX1_listBlocks_10 hc (by decide) ?_
  refine gw_istore_n (L' := [some (g_R 175), some (g_I v1), some (g_I ((D 178 v1.toNat) / 4)), none, none, none]) dX1_listBlocks_11 (by decide) rfl ?_
  refine g_aload_n dX1_listBlocks_12 rfl ?_
  refine g_getR dX1_listBlocks_13 fd_X1_12 sh_175 rfl ?_
  refine g_getR dX1_listBlocks_16 fd_X1_94 sh_176 rfl ?_
  refine g_iload_n dX1_listBlocks_19 rfl ?_
  obtain ⟨hc, hF⟩ := hF
  refine g_iald dX1_listBlocks_20 sh_178 hc.1 hc.2 ?_
  refine g_aload_n dX1_listBlocks_21 rfl ?_
  refine g_getR dX1_listBlocks_22 fd_X1_12 sh_175 rfl ?_
  refine g_getR dX1_listBlocks_25 fd_X1_97 sh_176 rfl ?_
  refine g_iload_n dX1_listBlocks_28 rfl ?_
  obtain ⟨hc, hF⟩ := hF
  refine g_iald dX1_listBlocks_29 sh_180 hc.1 hc.2 ?_
  obtain ⟨hc, hF⟩ := hF
  refine g_iadd dX1_listBlocks_30 hc ?_
  refine g_iconst dX1_listBlocks_31 ⟨by decide, by decide⟩ ?_
  obtain ⟨hc, hF⟩ := hF
  refine g_isub dX1_listBlocks_32 hc ?_
  refine g_iconst dX1_listBlocks_33 ⟨by decide, by decide⟩ ?_
  obtain ⟨hc, hF⟩ := hF
  refine g_idiv dX1_listBlocks_34 hc (by decide) ?_
  refine gw_istore_n (L' := [some (g_R 175), some (g_I v1), some (g_I ((D 178 v1.toNat) / 4)), some (g_I ((((D 178 v1.toNat) + (D 180 v1.toNat)) - 1) / 4)), none, none]) dX1_listBlocks_35 (by decide) rfl ?_
  refine g_aload_n dX1_listBlocks_36 rfl ?_
  refine g_getR dX1_listBlocks_37 fd_X1_12 sh_175 rfl ?_
  refine g_getR dX1_listBlocks_40 fd_X1_84 sh_176 rfl ?_
  refine g_iload_n dX1_listBlocks_43 rfl ?_
  obtain ⟨hc, hF⟩ := hF
  refine g_iald dX1_listBlocks_44 sh_177 hc.1 hc.2 ?_
  refine g_iconst dX1_listBlocks_45 ⟨by decide, by decide⟩ ?_
  refine g_cne dX1_listBlocks_46 rfl (fun q => ?_) (fun q => ?_)
  · have hF := hF.1 q
    refine g_iconst dX1_listBlocks_74 ⟨by decide, by decide⟩ ?_
    refine gw_istore (L' := [some (g_R 175), some (g_I v1), some (g_I ((D 178 v1.toNat) / 4)), some (g_I ((((D 178 v1.toNat) + (D 180 v1.toNat)) - 1) / 4)), some (g_I 0), none]) dX1_listBlocks_75 (by decide) rfl ?_
    refine g_iconst dX1_listBlocks_77 ⟨by decide, by decide⟩ ?_
    refine gw_istore (L' := [some (g_R 175), some (g_I v1), some (g_I ((D 178 v1.toNat) / 4)), some (g_I ((((D 178 v1.toNat) + (D 180 v1.toNat)) - 1) / 4)), some (g_I 0), some (g_I 0)]) dX1_listBlocks_78 (by decide) rfl ?_
    exact hF
  · have hF := hF.2 q
    refine g_aload_n dX1_listBlocks_49 rfl ?_
    refine g_getR dX1_listBlocks_50 fd_X1_12 sh_175 rfl ?_
    refine g_getR dX1_listBlocks_53 fd_X1_94 sh_176 rfl ?_
    refine g_iload_n dX1_listBlocks_56 rfl ?_
    obtain ⟨hc, hF⟩ := hF
    refine g_iald dX1_listBlocks_57 sh_178 hc.1 hc.2 ?_
    refine g_aload_n dX1_listBlocks_58 rfl ?_
    refine g_getR dX1_listBlocks_59 fd_X1_12 sh_175 rfl ?_
    refine g_getR dX1_listBlocks_62 fd_X1_100 sh_176 rfl ?_
    refine g_iload_n dX1_listBlocks_65 rfl ?_
    obtain ⟨hc, hF⟩ := hF
    refine g_iald dX1_listBlocks_66 sh_179 hc.1 hc.2 ?_
    refine g_cle dX1_listBlocks_67 rfl (fun q => ?_) (fun q => ?_)
    · have hF := hF.1 q
      refine g_iconst dX1_listBlocks_74 ⟨by decide, by decide⟩ ?_
      refine gw_istore (L' := [some (g_R 175), some (g_I v1), some (g_I ((D 178 v1.toNat) / 4)), some (g_I ((((D 178 v1.toNat) + (D 180 v1.toNat)) - 1) / 4)), some (g_I 0), none]) dX1_listBlocks_75 (by decide) rfl ?_
      refine g_iconst dX1_listBlocks_77 ⟨by decide, by decide⟩ ?_
      refine gw_istore (L' := [some (g_R 175), some (g_I v1), some (g_I ((D 178 v1.toNat) / 4)), some (g_I ((((D 178 v1.toNat) + (D 180 v1.toNat)) - 1) / 4)), some (g_I 0), some (g_I 0)]) dX1_listBlocks_78 (by decide) rfl ?_
      exact hF
    · have hF := hF.2 q
      refine g_iconst dX1_listBlocks_70 ⟨by decide, by decide⟩ ?_
      refine g_goto dX1_listBlocks_71 rfl ?_
      refine gw_istore (L' := [some (g_R 175), some (g_I v1), some (g_I ((D 178 v1.toNat) / 4)), some (g_I ((((D 178 v1.toNat) + (D 180 v1.toNat)) - 1) / 4)), some (g_I 1), none]) dX1_listBlocks_75 (by decide) rfl ?_
      refine g_iconst dX1_listBlocks_77 ⟨by decide, by decide⟩ ?_
      refine gw_istore (L' := [some (g_R 175), some (g_I v1), some (g_I ((D 178 v1.toNat) / 4)), some (g_I ((((D 178 v1.toNat) + (D 180 v1.toNat)) - 1) / 4)), some (g_I 1), some (g_I 0)]) dX1_listBlocks_78 (by decide) rfl ?_
      exact hF
theorem s_X1_listBlocks_80 {E : g_E} {l : Launch} {D : g_D} {K : g_D → Prop} {v1 : Int} {v2 : Int} {v3 : Int} {v4 : Int} {v5 : Int}  (hF : g_okD D → g_r v1 → g_r v2 → g_r v3 → g_r v4 → g_r v5 → (g_r (v3 - v2)) ∧ (((v3 - v2) < v5 → K D) ∧ (¬ (v3 - v2) < v5 → (v4 = 0 → (g_r (v2 + v5)) ∧ (k_X1_append E l D v1 (v2 + v5) (fun D1 => (g_r (v5 + 1)) ∧ (n_X1_listBlocks E l D1 80 [some (g_R 175), some (g_I v1), some (g_I v2), some (g_I v3), some (g_I v4), some (g_I (v5 + 1))] K)))) ∧ (¬ v4 = 0 → (g_r (v3 - v5)) ∧ (k_X1_append E l D v1 (v3 - v5) (fun D2 => (g_r (v5 + 1)) ∧ (n_X1_listBlocks E l D2 80 [some (g_R 175), some (g_I v1), some (g_I v2), some (g_I v3), some (g_I v4), some (g_I (v5 + 1))] K))))))) : n_X1_listBlocks E l D 80 [some (g_R 175), some (g_I v1), some (g_I v2), some (g_I v3), some (g_I v4), some (g_I v5)] K := by
  refine g_use (fun ok => ?_)
  have hF := hF ok.2.1 (ok.loc (i := 1) rfl) (ok.loc (i := 2) rfl) (ok.loc (i := 3) rfl) (ok.loc (i := 4) rfl) (ok.loc (i := 5) rfl)
  refine g_iload dX1_listBlocks_80 rfl ?_
  refine g_iload_n dX1_listBlocks_82 rfl ?_
  refine g_iload_n dX1_listBlocks_83 rfl ?_
  obtain ⟨hc, hF⟩ := hF
  refine g_isub dX1_listBlocks_84 hc ?_
  refine g_cgt dX1_listBlocks_85 rfl (fun q => ?_) (fun q => ?_)
  · have hF := hF.1 q
    exact gw_vret dX1_listBlocks_115 rfl hF
  · have hF := hF.2 q
    refine g_aload_n dX1_listBlocks_88 rfl ?_
    refine g_iload_n dX1_listBlocks_89 rfl ?_
    refine g_iload dX1_listBlocks_90 rfl ?_
    refine g_ifeq dX1_listBlocks_92 rfl (fun q => ?_) (fun q => ?_)
    · have hF := hF.1 q
      refine g_iload_n dX1_listBlocks_102 rfl ?_
      refine g_iload dX1_listBlocks_103 rfl ?_
      obtain ⟨hc, hF⟩ := hF
      refine g_iadd dX1_listBlocks_105 hc ?_
      refine gw_cVv (b := 175) (As := [g_I v1, g_I (v2 + v5)]) (rest := []) dX1_listBlocks_106 mv_X1_87 sh_175 rfl (Nat.le_of_ble_eq_true rfl) (by decide) rfl hF ?_
      intro D1 hF
      obtain ⟨hc, hF⟩ := hF
      refine gw_iinc (L' := [some (g_R 175), some (g_I v1), some (g_I v2), some (g_I v3), some (g_I v4), some (g_I (v5 + 1))]) dX1_listBlocks_109 rfl hc (by decide) rfl ?_
      refine g_goto dX1_listBlocks_112 rfl ?_
      exact hF
    · have hF := hF.2 q
      refine g_iload_n dX1_listBlocks_95 rfl ?_
      refine g_iload dX1_listBlocks_96 rfl ?_
      obtain ⟨hc, hF⟩ := hF
      refine g_isub dX1_listBlocks_98 hc ?_
      refine g_goto dX1_listBlocks_99 rfl ?_
      refine gw_cVv (b := 175) (As := [g_I v1, g_I (v3 - v5)]) (rest := []) dX1_listBlocks_106 mv_X1_87 sh_175 rfl (Nat.le_of_ble_eq_true rfl) (by decide) rfl hF ?_
      intro D2 hF
      obtain ⟨hc, hF⟩ := hF
      refine gw_iinc (L' := [some (g_R 175), some (g_I v1), some (g_I v2), some (g_I v3), some (g_I v4), some (g_I (v5 + 1))]) dX1_listBlocks_109 rfl hc (by decide) rfl ?_
      refine g_goto dX1_listBlocks_112 rfl ?_
      exact hF
theorem dX1_listSteps_0 : decode cX1_listSteps 0 = .ok (.aload_n 0, 1) := by decide +kernel
theorem dX1_listSteps_1 : decode cX1_listSteps 1 = .ok (.iconst 0, 1) := by decide +kernel
theorem dX1_listSteps_2 : decode cX1_listSteps 2 = .ok (.putfield 78, 3) := by decide +kernel
theorem dX1_listSteps_5 : decode cX1_listSteps 5 = .ok (.iconst 0, 1) := by decide +kernel
theorem dX1_listSteps_6 : decode cX1_listSteps 6 = .ok (.istore_n 1, 1) := by decide +kernel
theorem dX1_listSteps_7 : decode cX1_listSteps 7 = .ok (.iload_n 1, 1) := by decide +kernel
theorem dX1_listSteps_8 : decode cX1_listSteps 8 = .ok (.aload_n 0, 1) := by decide +kernel
theorem dX1_listSteps_9 : decode cX1_listSteps 9 = .ok (.getfield 12, 3) := by decide +kernel
theorem dX1_listSteps_12 : decode cX1_listSteps 12 = .ok (.getfield 81, 3) := by decide +kernel
theorem dX1_listSteps_15 : decode cX1_listSteps 15 = .ok (.if_icmp .ge 36, 3) := by decide +kernel
theorem dX1_listSteps_18 : decode cX1_listSteps 18 = .ok (.aload_n 0, 1) := by decide +kernel
theorem dX1_listSteps_19 : decode cX1_listSteps 19 = .ok (.getfield 12, 3) := by decide +kernel
theorem dX1_listSteps_22 : decode cX1_listSteps 22 = .ok (.getfield 84, 3) := by decide +kernel
theorem dX1_listSteps_25 : decode cX1_listSteps 25 = .ok (.iload_n 1, 1) := by decide +kernel
theorem dX1_listSteps_26 : decode cX1_listSteps 26 = .ok (.iaload, 1) := by decide +kernel
theorem dX1_listSteps_27 : decode cX1_listSteps 27 = .ok (.iconst 1, 1) := by decide +kernel
theorem dX1_listSteps_28 : decode cX1_listSteps 28 = .ok (.if_icmp .ne 12, 3) := by decide +kernel
theorem dX1_listSteps_31 : decode cX1_listSteps 31 = .ok (.aload_n 0, 1) := by decide +kernel
theorem dX1_listSteps_32 : decode cX1_listSteps 32 = .ok (.iload_n 1, 1) := by decide +kernel
theorem dX1_listSteps_33 : decode cX1_listSteps 33 = .ok (.iconst (-1), 1) := by decide +kernel
theorem dX1_listSteps_34 : decode cX1_listSteps 34 = .ok (.invokevirtual 87, 3) := by decide +kernel
theorem dX1_listSteps_37 : decode cX1_listSteps 37 = .ok (.goto 8, 3) := by decide +kernel
theorem dX1_listSteps_40 : decode cX1_listSteps 40 = .ok (.aload_n 0, 1) := by decide +kernel
theorem dX1_listSteps_41 : decode cX1_listSteps 41 = .ok (.iload_n 1, 1) := by decide +kernel
theorem dX1_listSteps_42 : decode cX1_listSteps 42 = .ok (.invokevirtual 91, 3) := by decide +kernel
theorem dX1_listSteps_45 : decode cX1_listSteps 45 = .ok (.iinc 1 1, 3) := by decide +kernel
theorem dX1_listSteps_48 : decode cX1_listSteps 48 = .ok (.goto (-41), 3) := by decide +kernel
theorem dX1_listSteps_51 : decode cX1_listSteps 51 = .ok (.return_, 1) := by decide +kernel
abbrev k_X1_listSteps (E : g_E) (l : Launch) (D : g_D) (K : g_D → Prop) : Prop := g_Kv E l m_X1_listSteps 2 [g_R 175] g_SH D K
abbrev n_X1_listSteps (E : g_E) (l : Launch) (D : g_D) (pc : Nat) (L : List (Option g_V)) (K : g_D → Prop) : Prop := g_N E l m_X1_listSteps 2 pc L [] g_SH D (g_Rv g_SH K)
theorem s_X1_listSteps {E : g_E} {l : Launch} {D : g_D} {K : g_D → Prop}   (hF : g_okD D → ∀ D1, D1 = g_up D 175 4 0 → (n_X1_listSteps E l D1 7 [some (g_R 175), some (g_I 0)] K)) : k_X1_listSteps E l D K := by
  refine g_enter (by decide) (Nat.le_of_ble_eq_true rfl) ?_
  show g_N E l m_X1_listSteps 2 0 [some (g_R 175), none] [] g_SH D (g_Rv g_SH K)
  refine g_use (fun ok => ?_)
  have hF := hF ok.2.1
  refine g_aload_n dX1_listSteps_0 rfl ?_
  refine g_iconst dX1_listSteps_1 ⟨by decide, by decide⟩ ?_
  let D1 : g_D := g_up D 175 4 0
  have hF := hF D1 rfl
  refine g_put dX1_listSteps_2 fd_X1_78 (g_ftyI (C := RX1) (T := TX1) (N := 11) rfl rfl (by decide +kernel)) sh_175 rfl ?_
  refine g_iconst dX1_listSteps_5 ⟨by decide, by decide⟩ ?_
  refine gw_istore_n (L' := [some (g_R 175), some (g_I 0)]) dX1_listSteps_6 (by decide) rfl ?_
  exact hF
theorem s_X1_listSteps_7 {E : g_E} {l : Launch} {D : g_D} {K : g_D → Prop} {v1 : Int}  (hF : g_okD D → g_r v1 → ((D 176 4) ≤ v1 → K D) ∧ (¬ (D 176 4) ≤ v1 → (0 ≤ v1 ∧ v1 < 36) ∧ ((¬ (D 177 v1.toNat) = 1 → k_X1_listBlocks E l D v1 (fun D1 => (g_r (v1 + 1)) ∧ (n_X1_listSteps E l D1 7 [some (g_R 175), some (g_I (v1 + 1))] K))) ∧ ((D 177 v1.toNat) = 1 → k_X1_append E l D v1 (-1) (fun D2 => (g_r (v1 + 1)) ∧ (n_X1_listSteps E l D2 7 [some (g_R 175), some (g_I (v1 + 1))] K)))))) : n_X1_listSteps E l D 7 [some (g_R 175), some (g_I v1)] K := by
  refine g_use (fun ok => ?_)
  have hF := hF ok.2.1 (ok.loc (i := 1) rfl)
  refine g_iload_n dX1_listSteps_7 rfl ?_
  refine g_aload_n dX1_listSteps_8 rfl ?_
  refine g_getR dX1_listSteps_9 fd_X1_12 sh_175 rfl ?_
  refine g_getI dX1_listSteps_12 fd_X1_81 sh_176 rfl ?_
  refine g_cge dX1_listSteps_15 rfl (fun q => ?_) (fun q => ?_)
  · have hF := hF.1 q
    exact gw_vret dX1_listSteps_51 rfl hF
  · have hF := hF.2 q
    refine g_aload_n dX1_listSteps_18 rfl ?_
    refine g_getR dX1_listSteps_19 fd_X1_12 sh_175 rfl ?_
    refine g_getR dX1_listSteps_22 fd_X1_84 sh_176 rfl ?_
    refine g_iload_n dX1_listSteps_25 rfl ?_
    obtain ⟨hc, hF⟩ := hF
    refine g_iald dX1_listSteps_26 sh_177 hc.1 hc.2 ?_
    refine g_iconst dX1_listSteps_27 ⟨by decide, by decide⟩ ?_
    refine g_cne dX1_listSteps_28 rfl (fun q => ?_) (fun q => ?_)
    · have hF := hF.1 q
      refine g_aload_n dX1_listSteps_40 rfl ?_
      refine g_iload_n dX1_listSteps_41 rfl ?_
      refine gw_cVv (b := 175) (As := [g_I v1]) (rest := []) dX1_listSteps_42 mv_X1_91 sh_175 rfl (Nat.le_of_ble_eq_true rfl) (by decide) rfl hF ?_
      intro D1 hF
      obtain ⟨hc, hF⟩ := hF
      refine gw_iinc (L' := [some (g_R 175), some (g_I (v1 + 1))]) dX1_listSteps_45 rfl hc (by decide) rfl ?_
      refine g_goto dX1_listSteps_48 rfl ?_
      exact hF
    · have hF := hF.2 q
      refine g_aload_n dX1_listSteps_31 rfl ?_
      refine g_iload_n dX1_listSteps_32 rfl ?_
      refine g_iconst dX1_listSteps_33 ⟨by decide, by decide⟩ ?_
      refine gw_cVv (b := 175) (As := [g_I v1, g_I (-1)]) (rest := []) dX1_listSteps_34 mv_X1_87 sh_175 rfl (Nat.le_of_ble_eq_true rfl) (by decide) rfl hF ?_
      intro D2 hF
      refine g_goto dX1_listSteps_37 rfl ?_
      obtain ⟨hc, hF⟩ := hF
      refine gw_iinc (L' := [some (g_R 175), some (g_I (v1 + 1))]) dX1_listSteps_45 rfl hc (by decide) rfl ?_
      refine g_goto dX1_listSteps_48 rfl ?_
      exact hF
theorem dX1_bitsReadAt_0 : decode cX1_bitsReadAt 0 = .ok (.aload_n 0, 1) := by decide +kernel
theorem dX1_bitsReadAt_1 : decode cX1_bitsReadAt 1 = .ok (.getfield 27, 3) := by decide +kernel
theorem dX1_bitsReadAt_4 : decode cX1_bitsReadAt 4 = .ok (.iload_n 1, 1) := by decide +kernel
theorem dX1_bitsReadAt_5 : decode cX1_bitsReadAt 5 = .ok (.iaload, 1) := by decide +kernel
theorem dX1_bitsReadAt_6 : decode cX1_bitsReadAt 6 = .ok (.istore_n 2, 1) := by decide +kernel
theorem dX1_bitsReadAt_7 : decode cX1_bitsReadAt 7 = .ok (.aload_n 0, 1) := by decide +kernel
theorem dX1_bitsReadAt_8 : decode cX1_bitsReadAt 8 = .ok (.getfield 12, 3) := by decide +kernel
theorem dX1_bitsReadAt_11 : decode cX1_bitsReadAt 11 = .ok (.getfield 94, 3) := by decide +kernel
theorem dX1_bitsReadAt_14 : decode cX1_bitsReadAt 14 = .ok (.iload_n 2, 1) := by decide +kernel
theorem dX1_bitsReadAt_15 : decode cX1_bitsReadAt 15 = .ok (.iaload, 1) := by decide +kernel
theorem dX1_bitsReadAt_16 : decode cX1_bitsReadAt 16 = .ok (.aload_n 0, 1) := by decide +kernel
theorem dX1_bitsReadAt_17 : decode cX1_bitsReadAt 17 = .ok (.getfield 31, 3) := by decide +kernel
theorem dX1_bitsReadAt_20 : decode cX1_bitsReadAt 20 = .ok (.iload_n 1, 1) := by decide +kernel
theorem dX1_bitsReadAt_21 : decode cX1_bitsReadAt 21 = .ok (.iaload, 1) := by decide +kernel
theorem dX1_bitsReadAt_22 : decode cX1_bitsReadAt 22 = .ok (.iconst 4, 1) := by decide +kernel
theorem dX1_bitsReadAt_23 : decode cX1_bitsReadAt 23 = .ok (.imul, 1) := by decide +kernel
theorem dX1_bitsReadAt_24 : decode cX1_bitsReadAt 24 = .ok (.invokestatic 111, 3) := by decide +kernel
theorem dX1_bitsReadAt_27 : decode cX1_bitsReadAt 27 = .ok (.istore_n 3, 1) := by decide +kernel
theorem dX1_bitsReadAt_28 : decode cX1_bitsReadAt 28 = .ok (.aload_n 0, 1) := by decide +kernel
theorem dX1_bitsReadAt_29 : decode cX1_bitsReadAt 29 = .ok (.getfield 12, 3) := by decide +kernel
theorem dX1_bitsReadAt_32 : decode cX1_bitsReadAt 32 = .ok (.getfield 94, 3) := by decide +kernel
theorem dX1_bitsReadAt_35 : decode cX1_bitsReadAt 35 = .ok (.iload_n 2, 1) := by decide +kernel
theorem dX1_bitsReadAt_36 : decode cX1_bitsReadAt 36 = .ok (.iaload, 1) := by decide +kernel
theorem dX1_bitsReadAt_37 : decode cX1_bitsReadAt 37 = .ok (.aload_n 0, 1) := by decide +kernel
theorem dX1_bitsReadAt_38 : decode cX1_bitsReadAt 38 = .ok (.getfield 12, 3) := by decide +kernel
theorem dX1_bitsReadAt_41 : decode cX1_bitsReadAt 41 = .ok (.getfield 97, 3) := by decide +kernel
theorem dX1_bitsReadAt_44 : decode cX1_bitsReadAt 44 = .ok (.iload_n 2, 1) := by decide +kernel
theorem dX1_bitsReadAt_45 : decode cX1_bitsReadAt 45 = .ok (.iaload, 1) := by decide +kernel
theorem dX1_bitsReadAt_46 : decode cX1_bitsReadAt 46 = .ok (.iadd, 1) := by decide +kernel
theorem dX1_bitsReadAt_47 : decode cX1_bitsReadAt 47 = .ok (.aload_n 0, 1) := by decide +kernel
theorem dX1_bitsReadAt_48 : decode cX1_bitsReadAt 48 = .ok (.getfield 31, 3) := by decide +kernel
theorem dX1_bitsReadAt_51 : decode cX1_bitsReadAt 51 = .ok (.iload_n 1, 1) := by decide +kernel
theorem dX1_bitsReadAt_52 : decode cX1_bitsReadAt 52 = .ok (.iaload, 1) := by decide +kernel
theorem dX1_bitsReadAt_53 : decode cX1_bitsReadAt 53 = .ok (.iconst 1, 1) := by decide +kernel
theorem dX1_bitsReadAt_54 : decode cX1_bitsReadAt 54 = .ok (.iadd, 1) := by decide +kernel
theorem dX1_bitsReadAt_55 : decode cX1_bitsReadAt 55 = .ok (.iconst 4, 1) := by decide +kernel
theorem dX1_bitsReadAt_56 : decode cX1_bitsReadAt 56 = .ok (.imul, 1) := by decide +kernel
theorem dX1_bitsReadAt_57 : decode cX1_bitsReadAt 57 = .ok (.invokestatic 116, 3) := by decide +kernel
theorem dX1_bitsReadAt_60 : decode cX1_bitsReadAt 60 = .ok (.istore 4, 2) := by decide +kernel
theorem dX1_bitsReadAt_62 : decode cX1_bitsReadAt 62 = .ok (.aload_n 0, 1) := by decide +kernel
theorem dX1_bitsReadAt_63 : decode cX1_bitsReadAt 63 = .ok (.getfield 12, 3) := by decide +kernel
theorem dX1_bitsReadAt_66 : decode cX1_bitsReadAt 66 = .ok (.getfield 100, 3) := by decide +kernel
theorem dX1_bitsReadAt_69 : decode cX1_bitsReadAt 69 = .ok (.iload_n 2, 1) := by decide +kernel
theorem dX1_bitsReadAt_70 : decode cX1_bitsReadAt 70 = .ok (.iaload, 1) := by decide +kernel
theorem dX1_bitsReadAt_71 : decode cX1_bitsReadAt 71 = .ok (.iload_n 3, 1) := by decide +kernel
theorem dX1_bitsReadAt_72 : decode cX1_bitsReadAt 72 = .ok (.iadd, 1) := by decide +kernel
theorem dX1_bitsReadAt_73 : decode cX1_bitsReadAt 73 = .ok (.aload_n 0, 1) := by decide +kernel
theorem dX1_bitsReadAt_74 : decode cX1_bitsReadAt 74 = .ok (.getfield 12, 3) := by decide +kernel
theorem dX1_bitsReadAt_77 : decode cX1_bitsReadAt 77 = .ok (.getfield 94, 3) := by decide +kernel
theorem dX1_bitsReadAt_80 : decode cX1_bitsReadAt 80 = .ok (.iload_n 2, 1) := by decide +kernel
theorem dX1_bitsReadAt_81 : decode cX1_bitsReadAt 81 = .ok (.iaload, 1) := by decide +kernel
theorem dX1_bitsReadAt_82 : decode cX1_bitsReadAt 82 = .ok (.isub, 1) := by decide +kernel
theorem dX1_bitsReadAt_83 : decode cX1_bitsReadAt 83 = .ok (.iload 4, 2) := by decide +kernel
theorem dX1_bitsReadAt_85 : decode cX1_bitsReadAt 85 = .ok (.iload_n 3, 1) := by decide +kernel
theorem dX1_bitsReadAt_86 : decode cX1_bitsReadAt 86 = .ok (.isub, 1) := by decide +kernel
theorem dX1_bitsReadAt_87 : decode cX1_bitsReadAt 87 = .ok (.invokestatic 103, 3) := by decide +kernel
theorem dX1_bitsReadAt_90 : decode cX1_bitsReadAt 90 = .ok (.ireturn, 1) := by decide +kernel
abbrev k_X1_bitsReadAt (E : g_E) (l : Launch) (D : g_D) (v1 : Int) (K : Int → g_D → Prop) : Prop := g_Ki E l m_X1_bitsReadAt 1 [g_R 175, g_I v1] g_SH D K
abbrev n_X1_bitsReadAt (E : g_E) (l : Launch) (D : g_D) (pc : Nat) (L : List (Option g_V)) (K : Int → g_D → Prop) : Prop := g_N E l m_X1_bitsReadAt 1 pc L [] g_SH D (g_Ri g_SH K)
theorem s_X1_bitsReadAt {E : g_E} {l : Launch} {D : g_D} {K : Int → g_D → Prop} {v1 : Int}  (hF : g_okD D → g_r v1 → (0 ≤ v1 ∧ v1 < 360) ∧ ((0 ≤ (D 183 v1.toNat) ∧ (D 183 v1.toNat) < 36) ∧ ((0 ≤ v1 ∧ v1 < 360) ∧ ((g_r ((D 184 v1.toNat) * 4)) ∧ ((0 ≤ (D 183 v1.toNat) ∧ (D 183 v1.toNat) < 36) ∧ ((0 ≤ (D 183 v1.toNat) ∧ (D 183 v1.toNat) < 36) ∧ ((g_r ((D 178 (D 183 v1.toNat).toNat) + (D 180 (D 183 v1.toNat).toNat))) ∧ ((0 ≤ v1 ∧ v1 < 360) ∧ ((g_r ((D 184 v1.toNat) + 1)) ∧ ((g_r (((D 184 v1.toNat) + 1) * 4)) ∧ ((0 ≤ (D 183 v1.toNat) ∧ (D 183 v1.toNat) < 36) ∧ ((g_r ((D 179 (D 183 v1.toNat).toNat) + (max (D 178 (D 183 v1.toNat).toNat) ((D 184 v1.toNat) * 4)))) ∧ ((0 ≤ (D 183 v1.toNat) ∧ (D 183 v1.toNat) < 36) ∧ ((g_r (((D 179 (D 183 v1.toNat).toNat) + (max (D 178 (D 183 v1.toNat).toNat) ((D 184 v1.toNat) * 4))) - (D 178 (D 183 v1.toNat).toNat))) ∧ ((g_r ((min ((D 178 (D 183 v1.toNat).toNat) + (D 180 (D 183 v1.toNat).toNat)) (((D 184 v1.toNat) + 1) * 4)) - (max (D 178 (D 183 v1.toNat).toNat) ((D 184 v1.toNat) * 4)))) ∧ (k_X11_onesFrom E l g_SH D (((D 179 (D 183 v1.toNat).toNat) + (max (D 178 (D 183 v1.toNat).toNat) ((D 184 v1.toNat) * 4))) - (D 178 (D 183 v1.toNat).toNat)) ((min ((D 178 (D 183 v1.toNat).toNat) + (D 180 (D 183 v1.toNat).toNat)) (((D 184 v1.toNat) + 1) * 4)) - (max (D 178 (D 183 v1.toNat).toNat) ((D 184 v1.toNat) * 4))) (fun x1 D1 => g_r x1 → K x1 D1))))))))))))))))) : k_X1_bitsReadAt E l D v1 K := by
  refine g_enter (by decide) (Nat.le_of_ble_eq_true rfl) ?_
  show g_N E l m_X1_bitsReadAt 1 0 [some (g_R 175), some (g_I v1), none, none, none] [] g_SH D (g_Ri g_SH K)
  refine g_use (fun ok => ?_)
  have hF := hF ok.2.1 (ok.loc (i := 1) rfl)
  refine g_aload_n dX1_bitsReadAt_0 rfl ?_
  refine g_getR dX1_bitsReadAt_1 fd_X1_27 sh_175 rfl ?_
  refine g_iload_n dX1_bitsReadAt_4 rfl ?_
  obtain ⟨hc, hF⟩ := hF
  refine g_iald dX1_bitsReadAt_5 sh_183 hc.1 hc.2 ?_
  refine gw_istore_n (L' := [some (g_R 175), some (g_I v1), some (g_I (D 183 v1.toNat)), none, none]) dX1_bitsReadAt_6 (by decide) rfl ?_
  refine g_aload_n dX1_bitsReadAt_7 rfl ?_
  refine g_getR dX1_bitsReadAt_8 fd_X1_12 sh_175 rfl ?_
  refine g_getR dX1_bitsReadAt_11 fd_X1_94 sh_176 rfl ?_
  refine g_iload_n dX1_bitsReadAt_14 rfl ?_
  obtain ⟨hc, hF⟩ := hF
  refine g_iald dX1_bitsReadAt_15 sh_178 hc.1 hc.2 ?_
  refine g_aload_n dX1_bitsReadAt_16 rfl ?_
  refine g_getR dX1_bitsReadAt_17 fd_X1_31 sh_175 rfl ?_
  refine g_iload_n dX1_bitsReadAt_20 rfl ?_
  obtain ⟨hc, hF⟩ := hF
  refine g_iald dX1_bitsReadAt_21 sh_184 hc.1 hc.2 ?_
  refine g_iconst dX1_bitsReadAt_22 ⟨by decide, by decide⟩ ?_
  obtain ⟨hc, hF⟩ := hF
  refine g_imul dX1_bitsReadAt_23 hc ?_
  refine g_max dX1_bitsReadAt_24 mw_X1_111 (by decide) (Nat.le_refl _) (Nat.le_refl _) (Nat.le_of_ble_eq_true rfl) ?_
  refine gw_istore_n (L' := [some (g_R 175), some (g_I v1), some (g_I (D 183 v1.toNat)), some (g_I (max (D 178 (D 183 v1.toNat).toNat) ((D 184 v1.toNat) * 4))), none]) dX1_bitsReadAt_27 (by decide) rfl ?_
  refine g_aload_n dX1_bitsReadAt_28 rfl ?_
  refine g_getR dX1_bitsReadAt_29 fd_X1_12 sh_175 rfl ?_
  refine g_getR dX1_bitsReadAt_32 fd_X1_94 sh_176 rfl ?_
  refine g_iload_n dX1_bitsReadAt_35 rfl ?_
  obtain ⟨hc, hF⟩ := hF
  refine g_iald dX1_bitsReadAt_36 sh_178 hc.1 hc.2 ?_
  refine g_aload_n dX1_bitsReadAt_37 rfl ?_
  refine g_getR dX1_bitsReadAt_38 fd_X1_12 sh_175 rfl ?_
  refine g_getR dX1_bitsReadAt_41 fd_X1_97 sh_176 rfl ?_
  refine g_iload_n dX1_bitsReadAt_44 rfl ?_
  obtain ⟨hc, hF⟩ := hF
  refine g_iald dX1_bitsReadAt_45 sh_180 hc.1 hc.2 ?_
  obtain ⟨hc, hF⟩ := hF
  refine g_iadd dX1_bitsReadAt_46 hc ?_
  refine g_aload_n dX1_bitsReadAt_47 rfl ?_
  refine g_getR dX1_bitsReadAt_48 fd_X1_31 sh_175 rfl ?_
  refine g_iload_n dX1_bitsReadAt_51 rfl ?_
  obtain ⟨hc, hF⟩ := hF
  refine g_iald dX1_bitsReadAt_52 sh_184 hc.1 hc.2 ?_
  refine g_iconst dX1_bitsReadAt_53 ⟨by decide, by decide⟩ ?_
  obtain ⟨hc, hF⟩ := hF
  refine g_iadd dX1_bitsReadAt_54 hc ?_
  refine g_iconst dX1_bitsReadAt_55 ⟨by decide, by decide⟩ ?_
  obtain ⟨hc, hF⟩ := hF
  refine g_imul dX1_bitsReadAt_56 hc ?_
  refine g_min dX1_bitsReadAt_57 mw_X1_116 (by decide) (Nat.le_refl _) (Nat.le_refl _) (Nat.le_of_ble_eq_true rfl) ?_
  refine gw_istore (L' := [some (g_R 175), some (g_I v1), some (g_I (D 183 v1.toNat)), some (g_I (max (D 178 (D 183 v1.toNat).toNat) ((D 184 v1.toNat) * 4))), some (g_I (min ((D 178 (D 183 v1.toNat).toNat) + (D 180 (D 183 v1.toNat).toNat)) (((D 184 v1.toNat) + 1) * 4)))]) dX1_bitsReadAt_60 (by decide) rfl ?_
  refine g_aload_n dX1_bitsReadAt_62 rfl ?_
  refine g_getR dX1_bitsReadAt_63 fd_X1_12 sh_175 rfl ?_
  refine g_getR dX1_bitsReadAt_66 fd_X1_100 sh_176 rfl ?_
  refine g_iload_n dX1_bitsReadAt_69 rfl ?_
  obtain ⟨hc, hF⟩ := hF
  refine g_iald dX1_bitsReadAt_70 sh_179 hc.1 hc.2 ?_
  refine g_iload_n dX1_bitsReadAt_71 rfl ?_
  obtain ⟨hc, hF⟩ := hF
  refine g_iadd dX1_bitsReadAt_72 hc ?_
  refine g_aload_n dX1_bitsReadAt_73 rfl ?_
  refine g_getR dX1_bitsReadAt_74 fd_X1_12 sh_175 rfl ?_
  refine g_getR dX1_bitsReadAt_77 fd_X1_94 sh_176 rfl ?_
  refine g_iload_n dX1_bitsReadAt_80 rfl ?_
  obtain ⟨hc, hF⟩ := hF
  refine g_iald dX1_bitsReadAt_81 sh_178 hc.1 hc.2 ?_
  obtain ⟨hc, hF⟩ := hF
  refine g_isub dX1_bitsReadAt_82 hc ?_
  refine g_iload dX1_bitsReadAt_83 rfl ?_
  refine g_iload_n dX1_bitsReadAt_85 rfl ?_
  obtain ⟨hc, hF⟩ := hF
  refine g_isub dX1_bitsReadAt_86 hc ?_
  refine gw_cNi (As := [g_I (((D 179 (D 183 v1.toNat).toNat) + (max (D 178 (D 183 v1.toNat).toNat) ((D 184 v1.toNat) * 4))) - (D 178 (D 183 v1.toNat).toNat)), g_I ((min ((D 178 (D 183 v1.toNat).toNat) + (D 180 (D 183 v1.toNat).toNat)) (((D 184 v1.toNat) + 1) * 4)) - (max (D 178 (D 183 v1.toNat).toNat) ((D 184 v1.toNat) * 4)))]) (rest := []) dX1_bitsReadAt_87 mn_X1_103 rfl (Nat.le_of_ble_eq_true rfl) (by decide) rfl hF ?_
  intro x1 D1 hx1 hF
  have hF := hF hx1
  exact gw_iret dX1_bitsReadAt_90 rfl hF
theorem dX1_markNeeded_0 : decode cX1_markNeeded 0 = .ok (.aload_n 0, 1) := by decide +kernel
theorem dX1_markNeeded_1 : decode cX1_markNeeded 1 = .ok (.getfield 37, 3) := by decide +kernel
theorem dX1_markNeeded_4 : decode cX1_markNeeded 4 = .ok (.aload_n 0, 1) := by decide +kernel
theorem dX1_markNeeded_5 : decode cX1_markNeeded 5 = .ok (.getfield 78, 3) := by decide +kernel
theorem dX1_markNeeded_8 : decode cX1_markNeeded 8 = .ok (.iconst 0, 1) := by decide +kernel
theorem dX1_markNeeded_9 : decode cX1_markNeeded 9 = .ok (.iastore, 1) := by decide +kernel
theorem dX1_markNeeded_10 : decode cX1_markNeeded 10 = .ok (.aload_n 0, 1) := by decide +kernel
theorem dX1_markNeeded_11 : decode cX1_markNeeded 11 = .ok (.getfield 78, 3) := by decide +kernel
theorem dX1_markNeeded_14 : decode cX1_markNeeded 14 = .ok (.iconst 1, 1) := by decide +kernel
theorem dX1_markNeeded_15 : decode cX1_markNeeded 15 = .ok (.isub, 1) := by decide +kernel
theorem dX1_markNeeded_16 : decode cX1_markNeeded 16 = .ok (.istore_n 1, 1) := by decide +kernel
theorem dX1_markNeeded_17 : decode cX1_markNeeded 17 = .ok (.iload_n 1, 1) := by decide +kernel
theorem dX1_markNeeded_18 : decode cX1_markNeeded 18 = .ok (.ifCond .lt 105, 3) := by decide +kernel
theorem dX1_markNeeded_21 : decode cX1_markNeeded 21 = .ok (.aload_n 0, 1) := by decide +kernel
theorem dX1_markNeeded_22 : decode cX1_markNeeded 22 = .ok (.getfield 27, 3) := by decide +kernel
theorem dX1_markNeeded_25 : decode cX1_markNeeded 25 = .ok (.iload_n 1, 1) := by decide +kernel
theorem dX1_markNeeded_26 : decode cX1_markNeeded 26 = .ok (.iaload, 1) := by decide +kernel
theorem dX1_markNeeded_27 : decode cX1_markNeeded 27 = .ok (.istore_n 2, 1) := by decide +kernel
theorem dX1_markNeeded_28 : decode cX1_markNeeded 28 = .ok (.aload_n 0, 1) := by decide +kernel
theorem dX1_markNeeded_29 : decode cX1_markNeeded 29 = .ok (.getfield 37, 3) := by decide +kernel
theorem dX1_markNeeded_32 : decode cX1_markNeeded 32 = .ok (.iload_n 1, 1) := by decide +kernel
theorem dX1_markNeeded_33 : decode cX1_markNeeded 33 = .ok (.aload_n 0, 1) := by decide +kernel
theorem dX1_markNeeded_34 : decode cX1_markNeeded 34 = .ok (.getfield 37, 3) := by decide +kernel
theorem dX1_markNeeded_37 : decode cX1_markNeeded 37 = .ok (.iload_n 1, 1) := by decide +kernel
theorem dX1_markNeeded_38 : decode cX1_markNeeded 38 = .ok (.iconst 1, 1) := by decide +kernel
theorem dX1_markNeeded_39 : decode cX1_markNeeded 39 = .ok (.iadd, 1) := by decide +kernel
theorem dX1_markNeeded_40 : decode cX1_markNeeded 40 = .ok (.iaload, 1) := by decide +kernel
theorem dX1_markNeeded_41 : decode cX1_markNeeded 41 = .ok (.iastore, 1) := by decide +kernel
theorem dX1_markNeeded_42 : decode cX1_markNeeded 42 = .ok (.aload_n 0, 1) := by decide +kernel
theorem dX1_markNeeded_43 : decode cX1_markNeeded 43 = .ok (.getfield 12, 3) := by decide +kernel
theorem dX1_markNeeded_46 : decode cX1_markNeeded 46 = .ok (.getfield 84, 3) := by decide +kernel
theorem dX1_markNeeded_49 : decode cX1_markNeeded 49 = .ok (.iload_n 2, 1) := by decide +kernel
theorem dX1_markNeeded_50 : decode cX1_markNeeded 50 = .ok (.iaload, 1) := by decide +kernel
theorem dX1_markNeeded_51 : decode cX1_markNeeded 51 = .ok (.iconst 1, 1) := by decide +kernel
theorem dX1_markNeeded_52 : decode cX1_markNeeded 52 = .ok (.if_icmp .ne 38, 3) := by decide +kernel
theorem dX1_markNeeded_55 : decode cX1_markNeeded 55 = .ok (.aload_n 0, 1) := by decide +kernel
theorem dX1_markNeeded_56 : decode cX1_markNeeded 56 = .ok (.getfield 37, 3) := by decide +kernel
theorem dX1_markNeeded_59 : decode cX1_markNeeded 59 = .ok (.iload_n 1, 1) := by decide +kernel
theorem dX1_markNeeded_60 : decode cX1_markNeeded 60 = .ok (.dup2, 1) := by decide +kernel
theorem dX1_markNeeded_61 : decode cX1_markNeeded 61 = .ok (.iaload, 1) := by decide +kernel
theorem dX1_markNeeded_62 : decode cX1_markNeeded 62 = .ok (.aload_n 0, 1) := by decide +kernel
theorem dX1_markNeeded_63 : decode cX1_markNeeded 63 = .ok (.getfield 12, 3) := by decide +kernel
theorem dX1_markNeeded_66 : decode cX1_markNeeded 66 = .ok (.getfield 94, 3) := by decide +kernel
theorem dX1_markNeeded_69 : decode cX1_markNeeded 69 = .ok (.iload_n 2, 1) := by decide +kernel
theorem dX1_markNeeded_70 : decode cX1_markNeeded 70 = .ok (.iaload, 1) := by decide +kernel
theorem dX1_markNeeded_71 : decode cX1_markNeeded 71 = .ok (.aload_n 0, 1) := by decide +kernel
theorem dX1_markNeeded_72 : decode cX1_markNeeded 72 = .ok (.getfield 12, 3) := by decide +kernel
theorem dX1_markNeeded_75 : decode cX1_markNeeded 75 = .ok (.getfield 97, 3) := by decide +kernel
theorem dX1_markNeeded_78 : decode cX1_markNeeded 78 = .ok (.iload_n 2, 1) := by decide +kernel
theorem dX1_markNeeded_79 : decode cX1_markNeeded 79 = .ok (.iaload, 1) := by decide +kernel
theorem dX1_markNeeded_80 : decode cX1_markNeeded 80 = .ok (.invokestatic 103, 3) := by decide +kernel
theorem dX1_markNeeded_83 : decode cX1_markNeeded 83 = .ok (.iconst (-1), 1) := by decide +kernel
theorem dX1_markNeeded_84 : decode cX1_markNeeded 84 = .ok (.ixor, 1) := by decide +kernel
theorem dX1_markNeeded_85 : decode cX1_markNeeded 85 = .ok (.iand, 1) := by decide +kernel
theorem dX1_markNeeded_86 : decode cX1_markNeeded 86 = .ok (.iastore, 1) := by decide +kernel
theorem dX1_markNeeded_87 : decode cX1_markNeeded 87 = .ok (.goto 30, 3) := by decide +kernel
theorem dX1_markNeeded_90 : decode cX1_markNeeded 90 = .ok (.aload_n 0, 1) := by decide +kernel
theorem dX1_markNeeded_91 : decode cX1_markNeeded 91 = .ok (.getfield 12, 3) := by decide +kernel
theorem dX1_markNeeded_94 : decode cX1_markNeeded 94 = .ok (.getfield 84, 3) := by decide +kernel
theorem dX1_markNeeded_97 : decode cX1_markNeeded 97 = .ok (.iload_n 2, 1) := by decide +kernel
theorem dX1_markNeeded_98 : decode cX1_markNeeded 98 = .ok (.iaload, 1) := by decide +kernel
theorem dX1_markNeeded_99 : decode cX1_markNeeded 99 = .ok (.iconst 3, 1) := by decide +kernel
theorem dX1_markNeeded_100 : decode cX1_markNeeded 100 = .ok (.if_icmp .ne 17, 3) := by decide +kernel
theorem dX1_markNeeded_103 : decode cX1_markNeeded 103 = .ok (.aload_n 0, 1) := by decide +kernel
theorem dX1_markNeeded_104 : decode cX1_markNeeded 104 = .ok (.getfield 37, 3) := by decide +kernel
theorem dX1_markNeeded_107 : decode cX1_markNeeded 107 = .ok (.iload_n 1, 1) := by decide +kernel
theorem dX1_markNeeded_108 : decode cX1_markNeeded 108 = .ok (.dup2, 1) := by decide +kernel
theorem dX1_markNeeded_109 : decode cX1_markNeeded 109 = .ok (.iaload, 1) := by decide +kernel
theorem dX1_markNeeded_110 : decode cX1_markNeeded 110 = .ok (.aload_n 0, 1) := by decide +kernel
theorem dX1_markNeeded_111 : decode cX1_markNeeded 111 = .ok (.iload_n 1, 1) := by decide +kernel
theorem dX1_markNeeded_112 : decode cX1_markNeeded 112 = .ok (.invokevirtual 107, 3) := by decide +kernel
theorem dX1_markNeeded_115 : decode cX1_markNeeded 115 = .ok (.ior, 1) := by decide +kernel
theorem dX1_markNeeded_116 : decode cX1_markNeeded 116 = .ok (.iastore, 1) := by decide +kernel
theorem dX1_markNeeded_117 : decode cX1_markNeeded 117 = .ok (.iinc 1 (-1), 3) := by decide +kernel
theorem dX1_markNeeded_120 : decode cX1_markNeeded 120 = .ok (.goto (-103), 3) := by decide +kernel
theorem dX1_markNeeded_123 : decode cX1_markNeeded 123 = .ok (.return_, 1) := by decide +kernel
abbrev k_X1_markNeeded (E : g_E) (l : Launch) (D : g_D) (K : g_D → Prop) : Prop := g_Kv E l m_X1_markNeeded 2 [g_R 175] g_SH D K
abbrev n_X1_markNeeded (E : g_E) (l : Launch) (D : g_D) (pc : Nat) (L : List (Option g_V)) (K : g_D → Prop) : Prop := g_N E l m_X1_markNeeded 2 pc L [] g_SH D (g_Rv g_SH K)
theorem s_X1_markNeeded {E : g_E} {l : Launch} {D : g_D} {K : g_D → Prop}   (hF : g_okD D → (0 ≤ (D 175 4) ∧ (D 175 4) < 361) ∧ (∀ D1, D1 = g_up D 186 (D 175 4).toNat 0 → ((g_r ((D 175 4) - 1)) ∧ (n_X1_markNeeded E l D1 17 [some (g_R 175), some (g_I ((D 175 4) - 1)), none] K)))) : k_X1_markNeeded E l D K := by
  refine g_enter (by decide) (Nat.le_of_ble_eq_true rfl) ?_
  show g_N E l m_X1_markNeeded 2 0 [some (g_R 175), none, none] [] g_SH D (g_Rv g_SH K)
  refine g_use (fun ok => ?_)
  have hF := hF ok.2.1
  refine g_aload_n dX1_markNeeded_0 rfl ?_
  refine g_getR dX1_markNeeded_1 fd_X1_37 sh_175 rfl ?_
  refine g_aload_n dX1_markNeeded_4 rfl ?_
  refine g_getI dX1_markNeeded_5 fd_X1_78 sh_175 rfl ?_
  refine g_iconst dX1_markNeeded_8 ⟨by decide, by decide⟩ ?_
  obtain ⟨hc, hF⟩ := hF
  let D1 : g_D := g_up D 186 (D 175 4).toNat 0
  have hF := hF D1 rfl
  refine g_iast dX1_markNeeded_9 sh_186 hc.1 hc.2 ?_
  refine g_aload_n dX1_markNeeded_10 rfl ?_
  refine g_getI dX1_markNeeded_11 fd_X1_78 sh_175 rfl ?_
  refine g_iconst dX1_markNeeded_14 ⟨by decide, by decide⟩ ?_
  obtain ⟨hc, hF⟩ := hF
  refine g_isub dX1_markNeeded_15 hc ?_
  refine gw_istore_n (L' := [some (g_R 175), some (g_I ((D 175 4) - 1)), none]) dX1_markNeeded_16 (by decide) rfl ?_
  exact hF
theorem s_X1_markNeeded_17 {E : g_E} {l : Launch} {D : g_D} {K : g_D → Prop} {v1 : Int}  (hF : g_okD D → g_r v1 → (v1 < 0 → K D) ∧ (¬ v1 < 0 → (0 ≤ v1 ∧ v1 < 360) ∧ ((g_r (v1 + 1)) ∧ ((0 ≤ (v1 + 1) ∧ (v1 + 1) < 361) ∧ ((0 ≤ v1 ∧ v1 < 361) ∧ (∀ D1, D1 = g_up D 186 v1.toNat (D 186 (v1 + 1).toNat) → ((0 ≤ (D 183 v1.toNat) ∧ (D 183 v1.toNat) < 36) ∧ ((¬ (D 177 (D 183 v1.toNat).toNat) = 1 → (0 ≤ (D 183 v1.toNat) ∧ (D 183 v1.toNat) < 36) ∧ ((¬ (D 177 (D 183 v1.toNat).toNat) = 3 → (g_r (v1 + (-1))) ∧ (n_X1_markNeeded E l D1 17 [some (g_R 175), some (g_I (v1 + (-1))), none] K)) ∧ ((D 177 (D 183 v1.toNat).toNat) = 3 → (0 ≤ v1 ∧ v1 < 361) ∧ (k_X1_bitsReadAt E l D1 v1 (fun x2 D2 => g_r x2 → (0 ≤ v1 ∧ v1 < 361) ∧ (∀ D3, D3 = g_up D2 186 v1.toNat (g_or (D1 186 v1.toNat) x2) → ((g_r (v1 + (-1))) ∧ (n_X1_markNeeded E l D3 17 [some (g_R 175), some (g_I (v1 + (-1))), none] K)))))))) ∧ ((D 177 (D 183 v1.toNat).toNat) = 1 → (0 ≤ v1 ∧ v1 < 361) ∧ ((0 ≤ (D 183 v1.toNat) ∧ (D 183 v1.toNat) < 36) ∧ ((0 ≤ (D 183 v1.toNat) ∧ (D 183 v1.toNat) < 36) ∧ (k_X11_onesFrom E l g_SH D1 (D 178 (D 183 v1.toNat).toNat) (D 180 (D 183 v1.toNat).toNat) (fun x4 D4 => g_r x4 → (0 ≤ v1 ∧ v1 < 361) ∧ (∀ D5, D5 = g_up D4 186 v1.toNat (g_and (D1 186 v1.toNat) (g_xor x4 (-1))) → ((g_r (v1 + (-1))) ∧ (n_X1_markNeeded E l D5 17 [some (g_R 175), some (g_I (v1 + (-1))), none] K)))))))))))))))) : n_X1_markNeeded E l D 17 [some (g_R 175), some (g_I v1), none] K := by
  refine g_use (fun ok => ?_)
  have hF := hF ok.2.1 (ok.loc (i := 1) rfl)
  refine g_iload_n dX1_markNeeded_17 rfl ?_
  refine g_iflt dX1_markNeeded_18 rfl (fun q => ?_) (fun q => ?_)
  · have hF := hF.1 q
    exact gw_vret dX1_markNeeded_123 rfl hF
  · have hF := hF.2 q
    refine g_aload_n dX1_markNeeded_21 rfl ?_
    refine g_getR dX1_markNeeded_22 fd_X1_27 sh_175 rfl ?_
    refine g_iload_n dX1_markNeeded_25 rfl ?_
    obtain ⟨hc, hF⟩ := hF
    refine g_iald dX1_markNeeded_26 sh_183 hc.1 hc.2 ?_
    refine gw_istore_n (L' := [some (g_R 175), some (g_I v1), some (g_I (D 183 v1.toNat))]) dX1_markNeeded_27 (by decide) rfl ?_
    refine g_aload_n dX1_markNeeded_28 rfl ?_
    refine g_getR dX1_markNeeded_29 fd_X1_37 sh_175 rfl ?_
    refine g_iload_n dX1_markNeeded_32 rfl ?_
    refine g_aload_n dX1_markNeeded_33 rfl ?_
    refine g_getR dX1_markNeeded_34 fd_X1_37 sh_175 rfl ?_
    refine g_iload_n dX1_markNeeded_37 rfl ?_
    refine g_iconst dX1_markNeeded_38 ⟨by decide, by decide⟩ ?_
    obtain ⟨hc, hF⟩ := hF
    refine g_iadd dX1_markNeeded_39 hc ?_
    obtain ⟨hc, hF⟩ := hF
    refine g_iald dX1_markNeeded_40 sh_186 hc.1 hc.2 ?_
    obtain ⟨hc, hF⟩ := hF
    let D1 : g_D := g_up D 186 v1.toNat (D 186 (v1 + 1).toNat)
    have hF := hF D1 rfl
    refine g_iast dX1_markNeeded_41 sh_186 hc.1 hc.2 ?_
    refine g_aload_n dX1_markNeeded_42 rfl ?_
    refine g_getR dX1_markNeeded_43 fd_X1_12 sh_175 rfl ?_
    refine g_getR dX1_markNeeded_46 fd_X1_84 sh_176 rfl ?_
    refine g_iload_n dX1_markNeeded_49 rfl ?_
    obtain ⟨hc, hF⟩ := hF
    refine g_iald dX1_markNeeded_50 sh_177 hc.1 hc.2 ?_
    refine g_iconst dX1_markNeeded_51 ⟨by decide, by decide⟩ ?_
    refine g_cne dX1_markNeeded_52 rfl (fun q => ?_) (fun q => ?_)
    · have hF := hF.1 q
      refine g_aload_n dX1_markNeeded_90 rfl ?_
      refine g_getR dX1_markNeeded_91 fd_X1_12 sh_175 rfl ?_
      refine g_getR dX1_markNeeded_94 fd_X1_84 sh_176 rfl ?_
      refine g_iload_n dX1_markNeeded_97 rfl ?_
      obtain ⟨hc, hF⟩ := hF
      refine g_iald dX1_markNeeded_98 sh_177 hc.1 hc.2 ?_
      refine g_iconst dX1_markNeeded_99 ⟨by decide, by decide⟩ ?_
      refine g_cne dX1_markNeeded_100 rfl (fun q => ?_) (fun q => ?_)
      · have hF := hF.1 q
        obtain ⟨hc, hF⟩ := hF
        refine gw_iinc (L' := [some (g_R 175), some (g_I (v1 + (-1))), some (g_I (D 183 v1.toNat))]) dX1_markNeeded_117 rfl hc (by decide) rfl ?_
        refine g_goto dX1_markNeeded_120 rfl ?_
        exact g_forget (L' := [some (g_R 175), some (g_I (v1 + (-1))), none]) ⟨rfl, ⟨rfl, trivial⟩⟩ hF
      · have hF := hF.2 q
        refine g_aload_n dX1_markNeeded_103 rfl ?_
        refine g_getR dX1_markNeeded_104 fd_X1_37 sh_175 rfl ?_
        refine g_iload_n dX1_markNeeded_107 rfl ?_
        refine g_dup2 dX1_markNeeded_108 rfl rfl ?_
        obtain ⟨hc, hF⟩ := hF
        refine g_iald dX1_markNeeded_109 sh_186 hc.1 hc.2 ?_
        refine g_aload_n dX1_markNeeded_110 rfl ?_
        refine g_iload_n dX1_markNeeded_111 rfl ?_
        refine gw_cVi (b := 175) (As := [g_I v1]) (rest := [g_I (D1 186 v1.toNat), g_I v1, g_R 186]) dX1_markNeeded_112 mv_X1_107 sh_175 rfl (Nat.le_of_ble_eq_true rfl) (by decide) rfl hF ?_
        intro x2 D2 hx2 hF
        have hF := hF hx2
        refine g_ior dX1_markNeeded_115 ?_
        obtain ⟨hc, hF⟩ := hF
        let D3 : g_D := g_up D2 186 v1.toNat (g_or (D1 186 v1.toNat) x2)
        have hF := hF D3 rfl
        refine g_iast dX1_markNeeded_116 sh_186 hc.1 hc.2 ?_
        obtain ⟨hc, hF⟩ := hF
        refine gw_iinc (L' := [some (g_R 175), some (g_I (v1 + (-1))), some (g_I (D 183 v1.toNat))]) dX1_markNeeded_117 rfl hc (by decide) rfl ?_
        refine g_goto dX1_markNeeded_120 rfl ?_
        exact g_forget (L' := [some (g_R 175), some (g_I (v1 + (-1))), none]) ⟨rfl, ⟨rfl, trivial⟩⟩ hF
    · have hF := hF.2 q
      refine g_aload_n dX1_markNeeded_55 rfl ?_
      refine g_getR dX1_markNeeded_56 fd_X1_37 sh_175 rfl ?_
      refine g_iload_n dX1_markNeeded_59 rfl ?_
      refine g_dup2 dX1_markNeeded_60 rfl rfl ?_
      obtain ⟨hc, hF⟩ := hF
      refine g_iald dX1_markNeeded_61 sh_186 hc.1 hc.2 ?_
      refine g_aload_n dX1_markNeeded_62 rfl ?_
      refine g_getR dX1_markNeeded_63 fd_X1_12 sh_175 rfl ?_
      refine g_getR dX1_markNeeded_66 fd_X1_94 sh_176 rfl ?_
      refine g_iload_n dX1_markNeeded_69 rfl ?_
      obtain ⟨hc, hF⟩ := hF
      refine g_iald dX1_markNeeded_70 sh_178 hc.1 hc.2 ?_
      refine g_aload_n dX1_markNeeded_71 rfl ?_
      refine g_getR dX1_markNeeded_72 fd_X1_12 sh_175 rfl ?_
      refine g_getR dX1_markNeeded_75 fd_X1_97 sh_176 rfl ?_
      refine g_iload_n dX1_markNeeded_78 rfl ?_
      obtain ⟨hc, hF⟩ := hF
      refine g_iald dX1_markNeeded_79 sh_180 hc.1 hc.2 ?_
      refine gw_cNi (As := [g_I (D 178 (D 183 v1.toNat).toNat), g_I (D 180 (D 183 v1.toNat).toNat)]) (rest := [g_I (D1 186 v1.toNat), g_I v1, g_R 186]) dX1_markNeeded_80 mn_X1_103 rfl (Nat.le_of_ble_eq_true rfl) (by decide) rfl hF ?_
      intro x4 D4 hx4 hF
      have hF := hF hx4
      refine g_iconst dX1_markNeeded_83 ⟨by decide, by decide⟩ ?_
      refine g_ixor dX1_markNeeded_84 ?_
      refine g_iand dX1_markNeeded_85 ?_
      obtain ⟨hc, hF⟩ := hF
      let D5 : g_D := g_up D4 186 v1.toNat (g_and (D1 186 v1.toNat) (g_xor x4 (-1)))
      have hF := hF D5 rfl
      refine g_iast dX1_markNeeded_86 sh_186 hc.1 hc.2 ?_
      refine g_goto dX1_markNeeded_87 rfl ?_
      obtain ⟨hc, hF⟩ := hF
      refine gw_iinc (L' := [some (g_R 175), some (g_I (v1 + (-1))), some (g_I (D 183 v1.toNat))]) dX1_markNeeded_117 rfl hc (by decide) rfl ?_
      refine g_goto dX1_markNeeded_120 rfl ?_
      exact g_forget (L' := [some (g_R 175), some (g_I (v1 + (-1))), none]) ⟨rfl, ⟨rfl, trivial⟩⟩ hF
theorem dX1_noteDue_0 : decode cX1_noteDue 0 = .ok (.iconst 0, 1) := by decide +kernel
theorem dX1_noteDue_1 : decode cX1_noteDue 1 = .ok (.istore_n 2, 1) := by decide +kernel
theorem dX1_noteDue_2 : decode cX1_noteDue 2 = .ok (.iload_n 2, 1) := by decide +kernel
theorem dX1_noteDue_3 : decode cX1_noteDue 3 = .ok (.bipush 10, 2) := by decide +kernel
theorem dX1_noteDue_5 : decode cX1_noteDue 5 = .ok (.if_icmp .ge 33, 3) := by decide +kernel
theorem dX1_noteDue_8 : decode cX1_noteDue 8 = .ok (.aload_n 0, 1) := by decide +kernel
theorem dX1_noteDue_9 : decode cX1_noteDue 9 = .ok (.getfield 34, 3) := by decide +kernel
theorem dX1_noteDue_12 : decode cX1_noteDue 12 = .ok (.iload_n 1, 1) := by decide +kernel
theorem dX1_noteDue_13 : decode cX1_noteDue 13 = .ok (.bipush 10, 2) := by decide +kernel
theorem dX1_noteDue_15 : decode cX1_noteDue 15 = .ok (.imul, 1) := by decide +kernel
theorem dX1_noteDue_16 : decode cX1_noteDue 16 = .ok (.iload_n 2, 1) := by decide +kernel
theorem dX1_noteDue_17 : decode cX1_noteDue 17 = .ok (.iadd, 1) := by decide +kernel
theorem dX1_noteDue_18 : decode cX1_noteDue 18 = .ok (.aload_n 0, 1) := by decide +kernel
theorem dX1_noteDue_19 : decode cX1_noteDue 19 = .ok (.getfield 46, 3) := by decide +kernel
theorem dX1_noteDue_22 : decode cX1_noteDue 22 = .ok (.getfield 122, 3) := by decide +kernel
theorem dX1_noteDue_25 : decode cX1_noteDue 25 = .ok (.iload_n 2, 1) := by decide +kernel
theorem dX1_noteDue_26 : decode cX1_noteDue 26 = .ok (.iconst 4, 1) := by decide +kernel
theorem dX1_noteDue_27 : decode cX1_noteDue 27 = .ok (.imul, 1) := by decide +kernel
theorem dX1_noteDue_28 : decode cX1_noteDue 28 = .ok (.invokestatic 146, 3) := by decide +kernel
theorem dX1_noteDue_31 : decode cX1_noteDue 31 = .ok (.iastore, 1) := by decide +kernel
theorem dX1_noteDue_32 : decode cX1_noteDue 32 = .ok (.iinc 2 1, 3) := by decide +kernel
theorem dX1_noteDue_35 : decode cX1_noteDue 35 = .ok (.goto (-33), 3) := by decide +kernel
theorem dX1_noteDue_38 : decode cX1_noteDue 38 = .ok (.aload_n 0, 1) := by decide +kernel
theorem dX1_noteDue_39 : decode cX1_noteDue 39 = .ok (.getfield 46, 3) := by decide +kernel
theorem dX1_noteDue_42 : decode cX1_noteDue 42 = .ok (.getfield 134, 3) := by decide +kernel
theorem dX1_noteDue_45 : decode cX1_noteDue 45 = .ok (.iconst 0, 1) := by decide +kernel
theorem dX1_noteDue_46 : decode cX1_noteDue 46 = .ok (.aload_n 0, 1) := by decide +kernel
theorem dX1_noteDue_47 : decode cX1_noteDue 47 = .ok (.getfield 40, 3) := by decide +kernel
theorem dX1_noteDue_50 : decode cX1_noteDue 50 = .ok (.aload_n 0, 1) := by decide +kernel
theorem dX1_noteDue_51 : decode cX1_noteDue 51 = .ok (.iload_n 1, 1) := by decide +kernel
theorem dX1_noteDue_52 : decode cX1_noteDue 52 = .ok (.invokevirtual 150, 3) := by decide +kernel
theorem dX1_noteDue_55 : decode cX1_noteDue 55 = .ok (.bipush 20, 2) := by decide +kernel
theorem dX1_noteDue_57 : decode cX1_noteDue 57 = .ok (.imul, 1) := by decide +kernel
theorem dX1_noteDue_58 : decode cX1_noteDue 58 = .ok (.bipush 20, 2) := by decide +kernel
theorem dX1_noteDue_60 : decode cX1_noteDue 60 = .ok (.invokestatic 125, 3) := by decide +kernel
theorem dX1_noteDue_63 : decode cX1_noteDue 63 = .ok (.return_, 1) := by decide +kernel
abbrev k_X1_noteDue (E : g_E) (l : Launch) (D : g_D) (v1 : Int) (K : g_D → Prop) : Prop := g_Kv E l m_X1_noteDue 1 [g_R 175, g_I v1] g_SH D K
abbrev n_X1_noteDue (E : g_E) (l : Launch) (D : g_D) (pc : Nat) (L : List (Option g_V)) (K : g_D → Prop) : Prop := g_N E l m_X1_noteDue 1 pc L [] g_SH D (g_Rv g_SH K)
theorem s_X1_noteDue {E : g_E} {l : Launch} {D : g_D} {K : g_D → Prop} {v1 : Int}  (hF : g_okD D → g_r v1 → n_X1_noteDue E l D 2 [some (g_R 175), some (g_I v1), some (g_I 0)] K) : k_X1_noteDue E l D v1 K := by
  refine g_enter (by decide) (Nat.le_of_ble_eq_true rfl) ?_
  show g_N E l m_X1_noteDue 1 0 [some (g_R 175), some (g_I v1), none] [] g_SH D (g_Rv g_SH K)
  refine g_use (fun ok => ?_)
  have hF := hF ok.2.1 (ok.loc (i := 1) rfl)
  refine g_iconst dX1_noteDue_0 ⟨by decide, by decide⟩ ?_
  refine gw_istore_n (L' := [some (g_R 175), some (g_I v1), some (g_I 0)]) dX1_noteDue_1 (by decide) rfl ?_
  exact hF
theorem s_X1_noteDue_2 {E : g_E} {l : Launch} {D : g_D} {K : g_D → Prop} {v1 : Int} {v2 : Int}  (hF : g_okD D → g_r v1 → g_r v2 → (10 ≤ v2 → k_X1_actAt E l D v1 (fun x1 D1 => g_r x1 → (g_r (x1 * 20)) ∧ (((0 : Int) ≤ 0 ∧ (0 : Int) ≤ (x1 * 20) ∧ (0 : Int) ≤ 20 ∧ (0 + 20 : Int) ≤ 20 ∧ ((x1 * 20) + 20 : Int) ≤ 740) ∧ (∀ D2, D2 = g_cpy D1 190 187 0 (x1 * 20).toNat 20 → (K D2))))) ∧ (¬ 10 ≤ v2 → (g_r (v1 * 10)) ∧ ((g_r ((v1 * 10) + v2)) ∧ ((g_r (v2 * 4)) ∧ (k_X11_packed E l g_SH D 189 (v2 * 4) (fun x3 D3 => g_r x3 → (0 ≤ ((v1 * 10) + v2) ∧ ((v1 * 10) + v2) < 3610) ∧ (∀ D4, D4 = g_up D3 185 ((v1 * 10) + v2).toNat x3 → ((g_r (v2 + 1)) ∧ (n_X1_noteDue E l D4 2 [some (g_R 175), some (g_I v1), some (g_I (v2 + 1))] K))))))))) : n_X1_noteDue E l D 2 [some (g_R 175), some (g_I v1), some (g_I v2)] K := by
  refine g_use (fun ok => ?_)
  have hF := hF ok.2.1 (ok.loc (i := 1) rfl) (ok.loc (i := 2) rfl)
  refine g_iload_n dX1_noteDue_2 rfl ?_
  refine g_bipush dX1_noteDue_3 ⟨by decide, by decide⟩ ?_
  refine g_cge dX1_noteDue_5 rfl (fun q => ?_) (fun q => ?_)
  · have hF := hF.1 q
    refine g_aload_n dX1_noteDue_38 rfl ?_
    refine g_getR dX1_noteDue_39 fd_X1_46 sh_175 rfl ?_
    refine g_getR dX1_noteDue_42 fd_X1_134 sh_188 rfl ?_
    refine g_iconst dX1_noteDue_45 ⟨by decide, by decide⟩ ?_
    refine g_aload_n dX1_noteDue_46 rfl ?_
    refine g_getR dX1_noteDue_47 fd_X1_40 sh_175 rfl ?_
    refine g_aload_n dX1_noteDue_50 rfl ?_
    refine g_iload_n dX1_noteDue_51 rfl ?_
    refine gw_cVi (b := 175) (As := [g_I v1]) (rest := [g_R 187, g_I 0, g_R 190]) dX1_noteDue_52 mv_X1_150 sh_175 rfl (Nat.le_of_ble_eq_true rfl) (by decide) rfl hF ?_
    intro x1 D1 hx1 hF
    have hF := hF hx1
    refine g_bipush dX1_noteDue_55 ⟨by decide, by decide⟩ ?_
    obtain ⟨hc, hF⟩ := hF
    refine g_imul dX1_noteDue_57 hc ?_
    refine g_bipush dX1_noteDue_58 ⟨by decide, by decide⟩ ?_
    obtain ⟨hc, hF⟩ := hF
    let D2 : g_D := g_cpy D1 190 187 0 (x1 * 20).toNat 20
    have hF := hF D2 rfl
    refine g_acopy dX1_noteDue_60 ac_X1_125.1 ac_X1_125.2.1 ac_X1_125.2.2.1 ac_X1_125.2.2.2 sh_190 sh_187 hc.1 hc.2.1 hc.2.2.1 hc.2.2.2.1 hc.2.2.2.2 (by decide) (Nat.le_of_ble_eq_true rfl) ?_
    exact gw_vret dX1_noteDue_63 rfl hF
  · have hF := hF.2 q
    refine g_aload_n dX1_noteDue_8 rfl ?_
    refine g_getR dX1_noteDue_9 fd_X1_34 sh_175 rfl ?_
    refine g_iload_n dX1_noteDue_12 rfl ?_
    refine g_bipush dX1_noteDue_13 ⟨by decide, by decide⟩ ?_
    obtain ⟨hc, hF⟩ := hF
    refine g_imul dX1_noteDue_15 hc ?_
    refine g_iload_n dX1_noteDue_16 rfl ?_
    obtain ⟨hc, hF⟩ := hF
    refine g_iadd dX1_noteDue_17 hc ?_
    refine g_aload_n dX1_noteDue_18 rfl ?_
    refine g_getR dX1_noteDue_19 fd_X1_46 sh_175 rfl ?_
    refine g_getR dX1_noteDue_22 fd_X1_122 sh_188 rfl ?_
    refine g_iload_n dX1_noteDue_25 rfl ?_
    refine g_iconst dX1_noteDue_26 ⟨by decide, by decide⟩ ?_
    obtain ⟨hc, hF⟩ := hF
    refine g_imul dX1_noteDue_27 hc ?_
    refine gw_cNi (As := [g_R 189, g_I (v2 * 4)]) (rest := [g_I ((v1 * 10) + v2), g_R 185]) dX1_noteDue_28 mn_X1_146 rfl (Nat.le_of_ble_eq_true rfl) (by decide) rfl hF ?_
    intro x3 D3 hx3 hF
    have hF := hF hx3
    obtain ⟨hc, hF⟩ := hF
    let D4 : g_D := g_up D3 185 ((v1 * 10) + v2).toNat x3
    have hF := hF D4 rfl
    refine g_iast dX1_noteDue_31 sh_185 hc.1 hc.2 ?_
    obtain ⟨hc, hF⟩ := hF
    refine gw_iinc (L' := [some (g_R 175), some (g_I v1), some (g_I (v2 + 1))]) dX1_noteDue_32 rfl hc (by decide) rfl ?_
    refine g_goto dX1_noteDue_35 rfl ?_
    exact hF
theorem dX1_walkDue_0 : decode cX1_walkDue 0 = .ok (.aload_n 1, 1) := by decide +kernel
theorem dX1_walkDue_1 : decode cX1_walkDue 1 = .ok (.getfield 119, 3) := by decide +kernel
theorem dX1_walkDue_4 : decode cX1_walkDue 4 = .ok (.iconst 0, 1) := by decide +kernel
theorem dX1_walkDue_5 : decode cX1_walkDue 5 = .ok (.aload_n 0, 1) := by decide +kernel
theorem dX1_walkDue_6 : decode cX1_walkDue 6 = .ok (.getfield 46, 3) := by decide +kernel
theorem dX1_walkDue_9 : decode cX1_walkDue 9 = .ok (.getfield 122, 3) := by decide +kernel
theorem dX1_walkDue_12 : decode cX1_walkDue 12 = .ok (.iconst 0, 1) := by decide +kernel
theorem dX1_walkDue_13 : decode cX1_walkDue 13 = .ok (.bipush 40, 2) := by decide +kernel
theorem dX1_walkDue_15 : decode cX1_walkDue 15 = .ok (.invokestatic 125, 3) := by decide +kernel
theorem dX1_walkDue_18 : decode cX1_walkDue 18 = .ok (.aload_n 1, 1) := by decide +kernel
theorem dX1_walkDue_19 : decode cX1_walkDue 19 = .ok (.getfield 131, 3) := by decide +kernel
theorem dX1_walkDue_22 : decode cX1_walkDue 22 = .ok (.iconst 0, 1) := by decide +kernel
theorem dX1_walkDue_23 : decode cX1_walkDue 23 = .ok (.aload_n 0, 1) := by decide +kernel
theorem dX1_walkDue_24 : decode cX1_walkDue 24 = .ok (.getfield 46, 3) := by decide +kernel
theorem dX1_walkDue_27 : decode cX1_walkDue 27 = .ok (.getfield 134, 3) := by decide +kernel
theorem dX1_walkDue_30 : decode cX1_walkDue 30 = .ok (.iconst 0, 1) := by decide +kernel
theorem dX1_walkDue_31 : decode cX1_walkDue 31 = .ok (.bipush 20, 2) := by decide +kernel
theorem dX1_walkDue_33 : decode cX1_walkDue 33 = .ok (.invokestatic 125, 3) := by decide +kernel
theorem dX1_walkDue_36 : decode cX1_walkDue 36 = .ok (.aload_n 0, 1) := by decide +kernel
theorem dX1_walkDue_37 : decode cX1_walkDue 37 = .ok (.getfield 46, 3) := by decide +kernel
theorem dX1_walkDue_40 : decode cX1_walkDue 40 = .ok (.iconst 0, 1) := by decide +kernel
theorem dX1_walkDue_41 : decode cX1_walkDue 41 = .ok (.invokevirtual 137, 3) := by decide +kernel
theorem dX1_walkDue_44 : decode cX1_walkDue 44 = .ok (.aload_n 0, 1) := by decide +kernel
theorem dX1_walkDue_45 : decode cX1_walkDue 45 = .ok (.iconst 0, 1) := by decide +kernel
theorem dX1_walkDue_46 : decode cX1_walkDue 46 = .ok (.invokevirtual 140, 3) := by decide +kernel
theorem dX1_walkDue_49 : decode cX1_walkDue 49 = .ok (.iconst 0, 1) := by decide +kernel
theorem dX1_walkDue_50 : decode cX1_walkDue 50 = .ok (.istore_n 2, 1) := by decide +kernel
theorem dX1_walkDue_51 : decode cX1_walkDue 51 = .ok (.iload_n 2, 1) := by decide +kernel
theorem dX1_walkDue_52 : decode cX1_walkDue 52 = .ok (.aload_n 0, 1) := by decide +kernel
theorem dX1_walkDue_53 : decode cX1_walkDue 53 = .ok (.getfield 78, 3) := by decide +kernel
theorem dX1_walkDue_56 : decode cX1_walkDue 56 = .ok (.if_icmp .ge 24, 3) := by decide +kernel
theorem dX1_walkDue_59 : decode cX1_walkDue 59 = .ok (.aload_n 0, 1) := by decide +kernel
theorem dX1_walkDue_60 : decode cX1_walkDue 60 = .ok (.aload_n 0, 1) := by decide +kernel
theorem dX1_walkDue_61 : decode cX1_walkDue 61 = .ok (.getfield 46, 3) := by decide +kernel
theorem dX1_walkDue_64 : decode cX1_walkDue 64 = .ok (.invokevirtual 143, 3) := by decide +kernel
theorem dX1_walkDue_67 : decode cX1_walkDue 67 = .ok (.aload_n 0, 1) := by decide +kernel
theorem dX1_walkDue_68 : decode cX1_walkDue 68 = .ok (.iload_n 2, 1) := by decide +kernel
theorem dX1_walkDue_69 : decode cX1_walkDue 69 = .ok (.iconst 1, 1) := by decide +kernel
theorem dX1_walkDue_70 : decode cX1_walkDue 70 = .ok (.iadd, 1) := by decide +kernel
theorem dX1_walkDue_71 : decode cX1_walkDue 71 = .ok (.invokevirtual 140, 3) := by decide +kernel
theorem dX1_walkDue_74 : decode cX1_walkDue 74 = .ok (.iinc 2 1, 3) := by decide +kernel
theorem dX1_walkDue_77 : decode cX1_walkDue 77 = .ok (.goto (-26), 3) := by decide +kernel
theorem dX1_walkDue_80 : decode cX1_walkDue 80 = .ok (.return_, 1) := by decide +kernel
abbrev k_X1_walkDue (E : g_E) (l : Launch) (D : g_D) (r1 : Nat) (K : g_D → Prop) : Prop := g_Kv E l m_X1_walkDue 3 [g_R 175, g_R r1] g_SH D K
abbrev n_X1_walkDue (E : g_E) (l : Launch) (D : g_D) (pc : Nat) (L : List (Option g_V)) (K : g_D → Prop) : Prop := g_N E l m_X1_walkDue 3 pc L [] g_SH D (g_Rv g_SH K)
theorem s_X1_walkDue {E : g_E} {l : Launch} {D : g_D} {K : g_D → Prop} {r1 : Nat} (hr1 : is_Device g_SH r1) (hF : g_okD D → ((0 : Int) ≤ 0 ∧ (0 : Int) ≤ 0 ∧ (0 : Int) ≤ 40 ∧ (0 + 40 : Int) ≤ 40 ∧ (0 + 40 : Int) ≤ 40) ∧ (∀ D1, D1 = g_cpy D (r1 + 3) 189 0 0 40 → (((0 : Int) ≤ 0 ∧ (0 : Int) ≤ 0 ∧ (0 : Int) ≤ 20 ∧ (0 + 20 : Int) ≤ 20 ∧ (0 + 20 : Int) ≤ 20) ∧ (∀ D2, D2 = g_cpy D1 (r1 + 4) 190 0 0 20 → (k_X2_standAt E l D2 188 0 (fun D3 => k_X1_noteDue E l D3 0 (fun D4 => n_X1_walkDue E l D4 51 [some (g_R 175), none, some (g_I 0)] K))))))) : k_X1_walkDue E l D r1 K := by
  refine g_enter (by decide) (Nat.le_of_ble_eq_true rfl) ?_
  show g_N E l m_X1_walkDue 3 0 [some (g_R 175), some (g_R r1), none] [] g_SH D (g_Rv g_SH K)
  refine g_use (fun ok => ?_)
  have hF := hF ok.2.1
  refine g_aload_n dX1_walkDue_0 rfl ?_
  refine g_getR dX1_walkDue_1 fd_X1_119 hr1.1 rfl ?_
  refine g_iconst dX1_walkDue_4 ⟨by decide, by decide⟩ ?_
  refine g_aload_n dX1_walkDue_5 rfl ?_
  refine g_getR dX1_walkDue_6 fd_X1_46 sh_175 rfl ?_
  refine g_getR dX1_walkDue_9 fd_X1_122 sh_188 rfl ?_
  refine g_iconst dX1_walkDue_12 ⟨by decide, by decide⟩ ?_
  refine g_bipush dX1_walkDue_13 ⟨by decide, by decide⟩ ?_
  obtain ⟨hc, hF⟩ := hF
  let D1 : g_D := g_cpy D (r1 + 3) 189 0 0 40
  have hF := hF D1 rfl
  refine g_acopy dX1_walkDue_15 ac_X1_125.1 ac_X1_125.2.1 ac_X1_125.2.2.1 ac_X1_125.2.2.2 hr1.2.2.2.1 sh_189 hc.1 hc.2.1 hc.2.2.1 hc.2.2.2.1 hc.2.2.2.2 (by decide) (Nat.le_of_ble_eq_true rfl) ?_
  refine g_aload_n dX1_walkDue_18 rfl ?_
  refine g_getR dX1_walkDue_19 fd_X1_131 hr1.1 rfl ?_
  refine g_iconst dX1_walkDue_22 ⟨by decide, by decide⟩ ?_
  refine g_aload_n dX1_walkDue_23 rfl ?_
  refine g_getR dX1_walkDue_24 fd_X1_46 sh_175 rfl ?_
  refine g_getR dX1_walkDue_27 fd_X1_134 sh_188 rfl ?_
  refine g_iconst dX1_walkDue_30 ⟨by decide, by decide⟩ ?_
  refine g_bipush dX1_walkDue_31 ⟨by decide, by decide⟩ ?_
  obtain ⟨hc, hF⟩ := hF
  let D2 : g_D := g_cpy D1 (r1 + 4) 190 0 0 20
  have hF := hF D2 rfl
  refine g_acopy dX1_walkDue_33 ac_X1_125.1 ac_X1_125.2.1 ac_X1_125.2.2.1 ac_X1_125.2.2.2 hr1.2.2.2.2.1 sh_190 hc.1 hc.2.1 hc.2.2.1 hc.2.2.2.1 hc.2.2.2.2 (by decide) (Nat.le_of_ble_eq_true rfl) ?_
  refine g_aload_n dX1_walkDue_36 rfl ?_
  refine g_getR dX1_walkDue_37 fd_X1_46 sh_175 rfl ?_
  refine g_iconst dX1_walkDue_40 ⟨by decide, by decide⟩ ?_
  refine gw_cVv (b := 188) (As := [g_I 0]) (rest := []) dX1_walkDue_41 mv_X1_137 sh_188 rfl (Nat.le_of_ble_eq_true rfl) (by decide) rfl hF ?_
  intro D3 hF
  refine g_aload_n dX1_walkDue_44 rfl ?_
  refine g_iconst dX1_walkDue_45 ⟨by decide, by decide⟩ ?_
  refine gw_cVv (b := 175) (As := [g_I 0]) (rest := []) dX1_walkDue_46 mv_X1_140 sh_175 rfl (Nat.le_of_ble_eq_true rfl) (by decide) rfl hF ?_
  intro D4 hF
  refine g_iconst dX1_walkDue_49 ⟨by decide, by decide⟩ ?_
  refine gw_istore_n (L' := [some (g_R 175), some (g_R r1), some (g_I 0)]) dX1_walkDue_50 (by decide) rfl ?_
  exact g_forget (L' := [some (g_R 175), none, some (g_I 0)]) ⟨rfl, ⟨rfl, trivial⟩⟩ hF
theorem s_X1_walkDue_51 {E : g_E} {l : Launch} {D : g_D} {K : g_D → Prop} {r1 : Nat} {v2 : Int} (hr1 : is_Device g_SH r1) (hF : g_okD D → g_r v2 → ((D 175 4) ≤ v2 → K D) ∧ (¬ (D 175 4) ≤ v2 → k_X1_doStep E l D 188 (fun D1 => (g_r (v2 + 1)) ∧ (k_X1_noteDue E l D1 (v2 + 1) (fun D2 => (g_r (v2 + 1)) ∧ (n_X1_walkDue E l D2 51 [some (g_R 175), none, some (g_I (v2 + 1))] K)))))) : n_X1_walkDue E l D 51 [some (g_R 175), none, some (g_I v2)] K := by
  refine g_use (fun ok => ?_)
  have hF := hF ok.2.1 (ok.loc (i := 2) rfl)
  refine g_iload_n dX1_walkDue_51 rfl ?_
  refine g_aload_n dX1_walkDue_52 rfl ?_
  refine g_getI dX1_walkDue_53 fd_X1_78 sh_175 rfl ?_
  refine g_cge dX1_walkDue_56 rfl (fun q => ?_) (fun q => ?_)
  · have hF := hF.1 q
    exact gw_vret dX1_walkDue_80 rfl hF
  · have hF := hF.2 q
    refine g_aload_n dX1_walkDue_59 rfl ?_
    refine g_aload_n dX1_walkDue_60 rfl ?_
    refine g_getR dX1_walkDue_61 fd_X1_46 sh_175 rfl ?_
    refine gw_cVv (b := 175) (As := [g_R 188]) (rest := []) dX1_walkDue_64 mv_X1_143 sh_175 rfl (Nat.le_of_ble_eq_true rfl) (by decide) rfl hF ?_
    intro D1 hF
    refine g_aload_n dX1_walkDue_67 rfl ?_
    refine g_iload_n dX1_walkDue_68 rfl ?_
    refine g_iconst dX1_walkDue_69 ⟨by decide, by decide⟩ ?_
    obtain ⟨hc, hF⟩ := hF
    refine g_iadd dX1_walkDue_70 hc ?_
    refine gw_cVv (b := 175) (As := [g_I (v2 + 1)]) (rest := []) dX1_walkDue_71 mv_X1_140 sh_175 rfl (Nat.le_of_ble_eq_true rfl) (by decide) rfl hF ?_
    intro D2 hF
    obtain ⟨hc, hF⟩ := hF
    refine gw_iinc (L' := [some (g_R 175), none, some (g_I (v2 + 1))]) dX1_walkDue_74 rfl hc (by decide) rfl ?_
    refine g_goto dX1_walkDue_77 rfl ?_
    exact hF
theorem dX1_build_0 : decode cX1_build 0 = .ok (.aload_n 0, 1) := by decide +kernel
theorem dX1_build_1 : decode cX1_build 1 = .ok (.getfield 23, 3) := by decide +kernel
theorem dX1_build_4 : decode cX1_build 4 = .ok (.aload_n 1, 1) := by decide +kernel
theorem dX1_build_5 : decode cX1_build 5 = .ok (.getfield 56, 3) := by decide +kernel
theorem dX1_build_8 : decode cX1_build 8 = .ok (.aload_n 1, 1) := by decide +kernel
theorem dX1_build_9 : decode cX1_build 9 = .ok (.getfield 56, 3) := by decide +kernel
theorem dX1_build_12 : decode cX1_build 12 = .ok (.getfield 57, 3) := by decide +kernel
theorem dX1_build_15 : decode cX1_build 15 = .ok (.invokevirtual 61, 3) := by decide +kernel
theorem dX1_build_18 : decode cX1_build 18 = .ok (.aload_n 0, 1) := by decide +kernel
theorem dX1_build_19 : decode cX1_build 19 = .ok (.getfield 12, 3) := by decide +kernel
theorem dX1_build_22 : decode cX1_build 22 = .ok (.aload_n 0, 1) := by decide +kernel
theorem dX1_build_23 : decode cX1_build 23 = .ok (.getfield 23, 3) := by decide +kernel
theorem dX1_build_26 : decode cX1_build 26 = .ok (.aload_n 0, 1) := by decide +kernel
theorem dX1_build_27 : decode cX1_build 27 = .ok (.getfield 23, 3) := by decide +kernel
theorem dX1_build_30 : decode cX1_build 30 = .ok (.getfield 57, 3) := by decide +kernel
theorem dX1_build_33 : decode cX1_build 33 = .ok (.invokevirtual 65, 3) := by decide +kernel
theorem dX1_build_36 : decode cX1_build 36 = .ok (.aload_n 0, 1) := by decide +kernel
theorem dX1_build_37 : decode cX1_build 37 = .ok (.invokevirtual 68, 3) := by decide +kernel
theorem dX1_build_40 : decode cX1_build 40 = .ok (.aload_n 0, 1) := by decide +kernel
theorem dX1_build_41 : decode cX1_build 41 = .ok (.invokevirtual 71, 3) := by decide +kernel
theorem dX1_build_44 : decode cX1_build 44 = .ok (.aload_n 0, 1) := by decide +kernel
theorem dX1_build_45 : decode cX1_build 45 = .ok (.aload_n 1, 1) := by decide +kernel
theorem dX1_build_46 : decode cX1_build 46 = .ok (.invokevirtual 74, 3) := by decide +kernel
theorem dX1_build_49 : decode cX1_build 49 = .ok (.return_, 1) := by decide +kernel
abbrev k_X1_build (E : g_E) (l : Launch) (D : g_D) (r1 : Nat) (K : g_D → Prop) : Prop := g_Kv E l m_X1_build 4 [g_R 175, g_R r1] g_SH D K
abbrev n_X1_build (E : g_E) (l : Launch) (D : g_D) (pc : Nat) (L : List (Option g_V)) (K : g_D → Prop) : Prop := g_N E l m_X1_build 4 pc L [] g_SH D (g_Rv g_SH K)
theorem s_X1_build {E : g_E} {l : Launch} {D : g_D} {K : g_D → Prop} {r1 : Nat} (hr1 : is_Device g_SH r1) (hF : g_okD D → k_X0_copyFirst E l g_SH D 181 (r1 + 5) (D (r1 + 5) 1) (fun D1 => k_X5_readActs E l D1 176 181 (D1 181 1) (fun D2 => k_X1_listSteps E l D2 (fun D3 => k_X1_markNeeded E l D3 (fun D4 => k_X1_walkDue E l D4 r1 (fun D5 => K D5)))))) : k_X1_build E l D r1 K := by
  refine g_enter (by decide) (Nat.le_of_ble_eq_true rfl) ?_
  show g_N E l m_X1_build 4 0 [some (g_R 175), some (g_R r1)] [] g_SH D (g_Rv g_SH K)
  refine g_use (fun ok => ?_)
  have hF := hF ok.2.1
  refine g_aload_n dX1_build_0 rfl ?_
  refine g_getR dX1_build_1 fd_X1_23 sh_175 rfl ?_
  refine g_aload_n dX1_build_4 rfl ?_
  refine g_getR dX1_build_5 fd_X1_56 hr1.1 rfl ?_
  refine g_aload_n dX1_build_8 rfl ?_
  refine g_getR dX1_build_9 fd_X1_56 hr1.1 rfl ?_
  refine g_getI dX1_build_12 fd_X1_57 hr1.2.2.2.2.2.1 rfl ?_
  refine gw_cVv (b := 181) (As := [g_R (r1 + 5), g_I (D (r1 + 5) 1)]) (rest := []) dX1_build_15 mv_X1_61 sh_181 rfl (Nat.le_of_ble_eq_true rfl) (by decide) rfl hF ?_
  intro D1 hF
  refine g_aload_n dX1_build_18 rfl ?_
  refine g_getR dX1_build_19 fd_X1_12 sh_175 rfl ?_
  refine g_aload_n dX1_build_22 rfl ?_
  refine g_getR dX1_build_23 fd_X1_23 sh_175 rfl ?_
  refine g_aload_n dX1_build_26 rfl ?_
  refine g_getR dX1_build_27 fd_X1_23 sh_175 rfl ?_
  refine g_getI dX1_build_30 fd_X1_57 sh_181 rfl ?_
  refine gw_cVv (b := 176) (As := [g_R 181, g_I (D1 181 1)]) (rest := []) dX1_build_33 mv_X1_65 sh_176 rfl (Nat.le_of_ble_eq_true rfl) (by decide) rfl hF ?_
  intro D2 hF
  refine g_aload_n dX1_build_36 rfl ?_
  refine gw_cVv (b := 175) (As := []) (rest := []) dX1_build_37 mv_X1_68 sh_175 rfl (Nat.le_of_ble_eq_true rfl) (by decide) rfl hF ?_
  intro D3 hF
  refine g_aload_n dX1_build_40 rfl ?_
  refine gw_cVv (b := 175) (As := []) (rest := []) dX1_build_41 mv_X1_71 sh_175 rfl (Nat.le_of_ble_eq_true rfl) (by decide) rfl hF ?_
  intro D4 hF
  refine g_aload_n dX1_build_44 rfl ?_
  refine g_aload_n dX1_build_45 rfl ?_
  refine gw_cVv (b := 175) (As := [g_R r1]) (rest := []) dX1_build_46 mv_X1_74 sh_175 rfl (Nat.le_of_ble_eq_true rfl) (by decide) rfl hF ?_
  intro D5 hF
  exact gw_vret dX1_build_49 rfl hF
theorem dX1_lastFit_0 : decode cX1_lastFit 0 = .ok (.aload_n 0, 1) := by decide +kernel
theorem dX1_lastFit_1 : decode cX1_lastFit 1 = .ok (.getfield 78, 3) := by decide +kernel
theorem dX1_lastFit_4 : decode cX1_lastFit 4 = .ok (.istore_n 2, 1) := by decide +kernel
theorem dX1_lastFit_5 : decode cX1_lastFit 5 = .ok (.iload_n 2, 1) := by decide +kernel
theorem dX1_lastFit_6 : decode cX1_lastFit 6 = .ok (.ifCond .lt 20, 3) := by decide +kernel
theorem dX1_lastFit_9 : decode cX1_lastFit 9 = .ok (.aload_n 0, 1) := by decide +kernel
theorem dX1_lastFit_10 : decode cX1_lastFit 10 = .ok (.aload_n 1, 1) := by decide +kernel
theorem dX1_lastFit_11 : decode cX1_lastFit 11 = .ok (.iload_n 2, 1) := by decide +kernel
theorem dX1_lastFit_12 : decode cX1_lastFit 12 = .ok (.invokevirtual 207, 3) := by decide +kernel
theorem dX1_lastFit_15 : decode cX1_lastFit 15 = .ok (.ifCond .eq 5, 3) := by decide +kernel
theorem dX1_lastFit_18 : decode cX1_lastFit 18 = .ok (.iload_n 2, 1) := by decide +kernel
theorem dX1_lastFit_19 : decode cX1_lastFit 19 = .ok (.ireturn, 1) := by decide +kernel
theorem dX1_lastFit_20 : decode cX1_lastFit 20 = .ok (.iinc 2 (-1), 3) := by decide +kernel
theorem dX1_lastFit_23 : decode cX1_lastFit 23 = .ok (.goto (-18), 3) := by decide +kernel
theorem dX1_lastFit_26 : decode cX1_lastFit 26 = .ok (.iconst (-1), 1) := by decide +kernel
theorem dX1_lastFit_27 : decode cX1_lastFit 27 = .ok (.ireturn, 1) := by decide +kernel
abbrev k_X1_lastFit (E : g_E) (l : Launch) (D : g_D) (r1 : Nat) (K : Int → g_D → Prop) : Prop := g_Ki E l m_X1_lastFit 3 [g_R 175, g_R r1] g_SH D K
abbrev n_X1_lastFit (E : g_E) (l : Launch) (D : g_D) (pc : Nat) (L : List (Option g_V)) (K : Int → g_D → Prop) : Prop := g_N E l m_X1_lastFit 3 pc L [] g_SH D (g_Ri g_SH K)
theorem s_X1_lastFit {E : g_E} {l : Launch} {D : g_D} {K : Int → g_D → Prop} {n1 : Nat} {r1 : Nat} (hr1 : g_SH[r1]? = some (.inl (0, n1))) (hF : g_okD D → n_X1_lastFit E l D 5 [some (g_R 175), some (g_R r1), some (g_I (D 175 4))] K) : k_X1_lastFit E l D r1 K := by
  refine g_enter (by decide) (Nat.le_of_ble_eq_true rfl) ?_
  show g_N E l m_X1_lastFit 3 0 [some (g_R 175), some (g_R r1), none] [] g_SH D (g_Ri g_SH K)
  refine g_use (fun ok => ?_)
  have hF := hF ok.2.1
  refine g_aload_n dX1_lastFit_0 rfl ?_
  refine g_getI dX1_lastFit_1 fd_X1_78 sh_175 rfl ?_
  refine gw_istore_n (L' := [some (g_R 175), some (g_R r1), some (g_I (D 175 4))]) dX1_lastFit_4 (by decide) rfl ?_
  exact hF
theorem s_X1_lastFit_5 {E : g_E} {l : Launch} {D : g_D} {K : Int → g_D → Prop} {n1 : Nat} {r1 : Nat} {v2 : Int} (hr1 : g_SH[r1]? = some (.inl (0, n1))) (hF : g_okD D → g_r v2 → (v2 < 0 → K (-1) D) ∧ (¬ v2 < 0 → k_X1_isFit E l D r1 v2 (fun x1 D1 => g_r x1 → (x1 = 0 → (g_r (v2 + (-1))) ∧ (n_X1_lastFit E l D1 5 [some (g_R 175), some (g_R r1), some (g_I (v2 + (-1)))] K)) ∧ (¬ x1 = 0 → K v2 D1)))) : n_X1_lastFit E l D 5 [some (g_R 175), some (g_R r1), some (g_I v2)] K := by
  refine g_use (fun ok => ?_)
  have hF := hF ok.2.1 (ok.loc (i := 2) rfl)
  refine g_iload_n dX1_lastFit_5 rfl ?_
  refine g_iflt dX1_lastFit_6 rfl (fun q => ?_) (fun q => ?_)
  · have hF := hF.1 q
    refine g_iconst dX1_lastFit_26 ⟨by decide, by decide⟩ ?_
    exact gw_iret dX1_lastFit_27 rfl hF
  · have hF := hF.2 q
    refine g_aload_n dX1_lastFit_9 rfl ?_
    refine g_aload_n dX1_lastFit_10 rfl ?_
    refine g_iload_n dX1_lastFit_11 rfl ?_
    refine gw_cVi (b := 175) (As := [g_R r1, g_I v2]) (rest := []) dX1_lastFit_12 mv_X1_207 sh_175 rfl (Nat.le_of_ble_eq_true rfl) (by decide) rfl hF ?_
    intro x1 D1 hx1 hF
    have hF := hF hx1
    refine g_ifeq dX1_lastFit_15 rfl (fun q => ?_) (fun q => ?_)
    · have hF := hF.1 q
      obtain ⟨hc, hF⟩ := hF
      refine gw_iinc (L' := [some (g_R 175), some (g_R r1), some (g_I (v2 + (-1)))]) dX1_lastFit_20 rfl hc (by decide) rfl ?_
      refine g_goto dX1_lastFit_23 rfl ?_
      exact hF
    · have hF := hF.2 q
      refine g_iload_n dX1_lastFit_18 rfl ?_
      exact gw_iret dX1_lastFit_19 rfl hF
theorem dX1_countFits_0 : decode cX1_countFits 0 = .ok (.iconst 0, 1) := by decide +kernel
theorem dX1_countFits_1 : decode cX1_countFits 1 = .ok (.istore_n 2, 1) := by decide +kernel
theorem dX1_countFits_2 : decode cX1_countFits 2 = .ok (.iconst 0, 1) := by decide +kernel
theorem dX1_countFits_3 : decode cX1_countFits 3 = .ok (.istore_n 3, 1) := by decide +kernel
theorem dX1_countFits_4 : decode cX1_countFits 4 = .ok (.iload_n 3, 1) := by decide +kernel
theorem dX1_countFits_5 : decode cX1_countFits 5 = .ok (.aload_n 0, 1) := by decide +kernel
theorem dX1_countFits_6 : decode cX1_countFits 6 = .ok (.getfield 78, 3) := by decide +kernel
theorem dX1_countFits_9 : decode cX1_countFits 9 = .ok (.if_icmp .gt 21, 3) := by decide +kernel
theorem dX1_countFits_12 : decode cX1_countFits 12 = .ok (.aload_n 0, 1) := by decide +kernel
theorem dX1_countFits_13 : decode cX1_countFits 13 = .ok (.aload_n 1, 1) := by decide +kernel
theorem dX1_countFits_14 : decode cX1_countFits 14 = .ok (.iload_n 3, 1) := by decide +kernel
theorem dX1_countFits_15 : decode cX1_countFits 15 = .ok (.invokevirtual 207, 3) := by decide +kernel
theorem dX1_countFits_18 : decode cX1_countFits 18 = .ok (.ifCond .eq 6, 3) := by decide +kernel
theorem dX1_countFits_21 : decode cX1_countFits 21 = .ok (.iinc 2 1, 3) := by decide +kernel
theorem dX1_countFits_24 : decode cX1_countFits 24 = .ok (.iinc 3 1, 3) := by decide +kernel
theorem dX1_countFits_27 : decode cX1_countFits 27 = .ok (.goto (-23), 3) := by decide +kernel
theorem dX1_countFits_30 : decode cX1_countFits 30 = .ok (.iload_n 2, 1) := by decide +kernel
theorem dX1_countFits_31 : decode cX1_countFits 31 = .ok (.ireturn, 1) := by decide +kernel
abbrev k_X1_countFits (E : g_E) (l : Launch) (D : g_D) (r1 : Nat) (K : Int → g_D → Prop) : Prop := g_Ki E l m_X1_countFits 3 [g_R 175, g_R r1] g_SH D K
abbrev n_X1_countFits (E : g_E) (l : Launch) (D : g_D) (pc : Nat) (L : List (Option g_V)) (K : Int → g_D → Prop) : Prop := g_N E l m_X1_countFits 3 pc L [] g_SH D (g_Ri g_SH K)
theorem s_X1_countFits {E : g_E} {l : Launch} {D : g_D} {K : Int → g_D → Prop} {n1 : Nat} {r1 : Nat} (hr1 : g_SH[r1]? = some (.inl (0, n1))) (hF : g_okD D → n_X1_countFits E l D 4 [some (g_R 175), some (g_R r1), some (g_I 0), some (g_I 0)] K) : k_X1_countFits E l D r1 K := by
  refine g_enter (by decide) (Nat.le_of_ble_eq_true rfl) ?_
  show g_N E l m_X1_countFits 3 0 [some (g_R 175), some (g_R r1), none, none] [] g_SH D (g_Ri g_SH K)
  refine g_use (fun ok => ?_)
  have hF := hF ok.2.1
  refine g_iconst dX1_countFits_0 ⟨by decide, by decide⟩ ?_
  refine gw_istore_n (L' := [some (g_R 175), some (g_R r1), some (g_I 0), none]) dX1_countFits_1 (by decide) rfl ?_
  refine g_iconst dX1_countFits_2 ⟨by decide, by decide⟩ ?_
  refine gw_istore_n (L' := [some (g_R 175), some (g_R r1), some (g_I 0), some (g_I 0)]) dX1_countFits_3 (by decide) rfl ?_
  exact hF
theorem s_X1_countFits_4 {E : g_E} {l : Launch} {D : g_D} {K : Int → g_D → Prop} {n1 : Nat} {r1 : Nat} {v2 : Int} {v3 : Int} (hr1 : g_SH[r1]? = some (.inl (0, n1))) (hF : g_okD D → g_r v2 → g_r v3 → ((D 175 4) < v3 → K v2 D) ∧ (¬ (D 175 4) < v3 → k_X1_isFit E l D r1 v3 (fun x1 D1 => g_r x1 → (x1 = 0 → (g_r (v3 + 1)) ∧ (n_X1_countFits E l D1 4 [some (g_R 175), some (g_R r1), some (g_I v2), some (g_I (v3 + 1))] K)) ∧ (¬ x1 = 0 → (g_r (v2 + 1)) ∧ ((g_r (v3 + 1)) ∧ (n_X1_countFits E l D1 4 [some (g_R 175), some (g_R r1), some (g_I (v2 + 1)), some (g_I (v3 + 1))] K)))))) : n_X1_countFits E l D 4 [some (g_R 175), some (g_R r1), some (g_I v2), some (g_I v3)] K := by
  refine g_use (fun ok => ?_)
  have hF := hF ok.2.1 (ok.loc (i := 2) rfl) (ok.loc (i := 3) rfl)
  refine g_iload_n dX1_countFits_4 rfl ?_
  refine g_aload_n dX1_countFits_5 rfl ?_
  refine g_getI dX1_countFits_6 fd_X1_78 sh_175 rfl ?_
  refine g_cgt dX1_countFits_9 rfl (fun q => ?_) (fun q => ?_)
  · have hF := hF.1 q
    refine g_iload_n dX1_countFits_30 rfl ?_
    exact gw_iret dX1_countFits_31 rfl hF
  · have hF := hF.2 q
    refine g_aload_n dX1_countFits_12 rfl ?_
    refine g_aload_n dX1_countFits_13 rfl ?_
    refine g_iload_n dX1_countFits_14 rfl ?_
    refine gw_cVi (b := 175) (As := [g_R r1, g_I v3]) (rest := []) dX1_countFits_15 mv_X1_207 sh_175 rfl (Nat.le_of_ble_eq_true rfl) (by decide) rfl hF ?_
    intro x1 D1 hx1 hF
    have hF := hF hx1
    refine g_ifeq dX1_countFits_18 rfl (fun q => ?_) (fun q => ?_)
    · have hF := hF.1 q
      obtain ⟨hc, hF⟩ := hF
      refine gw_iinc (L' := [some (g_R 175), some (g_R r1), some (g_I v2), some (g_I (v3 + 1))]) dX1_countFits_24 rfl hc (by decide) rfl ?_
      refine g_goto dX1_countFits_27 rfl ?_
      exact hF
    · have hF := hF.2 q
      obtain ⟨hc, hF⟩ := hF
      refine gw_iinc (L' := [some (g_R 175), some (g_R r1), some (g_I (v2 + 1)), some (g_I v3)]) dX1_countFits_21 rfl hc (by decide) rfl ?_
      obtain ⟨hc, hF⟩ := hF
      refine gw_iinc (L' := [some (g_R 175), some (g_R r1), some (g_I (v2 + 1)), some (g_I (v3 + 1))]) dX1_countFits_24 rfl hc (by decide) rfl ?_
      refine g_goto dX1_countFits_27 rfl ?_
      exact hF
