theorem dX2_writeBlock_0 : decode cX2_writeBlock 0 = .ok (.iload_n 1, 1) := by decide +kernel
theorem dX2_writeBlock_1 : decode cX2_writeBlock 1 = .ok (.iconst 4, 1) := by decide +kernel
theorem dX2_writeBlock_2 : decode cX2_writeBlock 2 = .ok (.imul, 1) := by decide +kernel
theorem dX2_writeBlock_3 : decode cX2_writeBlock 3 = .ok (.istore 4, 2) := by decide +kernel
theorem dX2_writeBlock_5 : decode cX2_writeBlock 5 = .ok (.iconst 0, 1) := by decide +kernel
theorem dX2_writeBlock_6 : decode cX2_writeBlock 6 = .ok (.istore 5, 2) := by decide +kernel
theorem dX2_writeBlock_8 : decode cX2_writeBlock 8 = .ok (.iload 5, 2) := by decide +kernel
theorem dX2_writeBlock_10 : decode cX2_writeBlock 10 = .ok (.iconst 4, 1) := by decide +kernel
theorem dX2_writeBlock_11 : decode cX2_writeBlock 11 = .ok (.if_icmp .ge 50, 3) := by decide +kernel
theorem dX2_writeBlock_14 : decode cX2_writeBlock 14 = .ok (.iload 4, 2) := by decide +kernel
theorem dX2_writeBlock_16 : decode cX2_writeBlock 16 = .ok (.ifCond .lt 45, 3) := by decide +kernel
theorem dX2_writeBlock_19 : decode cX2_writeBlock 19 = .ok (.iload 4, 2) := by decide +kernel
theorem dX2_writeBlock_21 : decode cX2_writeBlock 21 = .ok (.iload 5, 2) := by decide +kernel
theorem dX2_writeBlock_23 : decode cX2_writeBlock 23 = .ok (.iadd, 1) := by decide +kernel
theorem dX2_writeBlock_24 : decode cX2_writeBlock 24 = .ok (.bipush 40, 2) := by decide +kernel
theorem dX2_writeBlock_26 : decode cX2_writeBlock 26 = .ok (.if_icmp .ge 35, 3) := by decide +kernel
theorem dX2_writeBlock_29 : decode cX2_writeBlock 29 = .ok (.aload_n 0, 1) := by decide +kernel
theorem dX2_writeBlock_30 : decode cX2_writeBlock 30 = .ok (.getfield 9, 3) := by decide +kernel
theorem dX2_writeBlock_33 : decode cX2_writeBlock 33 = .ok (.iload 4, 2) := by decide +kernel
theorem dX2_writeBlock_35 : decode cX2_writeBlock 35 = .ok (.iload 5, 2) := by decide +kernel
theorem dX2_writeBlock_37 : decode cX2_writeBlock 37 = .ok (.iadd, 1) := by decide +kernel
theorem dX2_writeBlock_38 : decode cX2_writeBlock 38 = .ok (.iload 5, 2) := by decide +kernel
theorem dX2_writeBlock_40 : decode cX2_writeBlock 40 = .ok (.iload_n 3, 1) := by decide +kernel
theorem dX2_writeBlock_41 : decode cX2_writeBlock 41 = .ok (.if_icmp .ge 10, 3) := by decide +kernel
theorem dX2_writeBlock_44 : decode cX2_writeBlock 44 = .ok (.aload_n 2, 1) := by decide +kernel
theorem dX2_writeBlock_45 : decode cX2_writeBlock 45 = .ok (.iload 5, 2) := by decide +kernel
theorem dX2_writeBlock_47 : decode cX2_writeBlock 47 = .ok (.iaload, 1) := by decide +kernel
theorem dX2_writeBlock_48 : decode cX2_writeBlock 48 = .ok (.goto 6, 3) := by decide +kernel
theorem dX2_writeBlock_51 : decode cX2_writeBlock 51 = .ok (.sipush 255, 3) := by decide +kernel
theorem dX2_writeBlock_54 : decode cX2_writeBlock 54 = .ok (.iastore, 1) := by decide +kernel
theorem dX2_writeBlock_55 : decode cX2_writeBlock 55 = .ok (.iinc 5 1, 3) := by decide +kernel
theorem dX2_writeBlock_58 : decode cX2_writeBlock 58 = .ok (.goto (-50), 3) := by decide +kernel
theorem dX2_writeBlock_61 : decode cX2_writeBlock 61 = .ok (.return_, 1) := by decide +kernel
abbrev k_X2_writeBlock (E : g_E) (l : Launch) (D : g_D) (k : Nat) (v1 : Int) (r2 : Nat) (v3 : Int) (K : g_D → Prop) : Prop := g_Kv E l m_X2_writeBlock 0 [g_R k, g_I v1, g_R r2, g_I v3] g_SH D K
abbrev n_X2_writeBlock (E : g_E) (l : Launch) (D : g_D) (pc : Nat) (L : List (Option g_V)) (K : g_D → Prop) : Prop := g_N E l m_X2_writeBlock 0 pc L [] g_SH D (g_Rv g_SH K)
theorem s_X2_writeBlock {E : g_E} {l : Launch} {D : g_D} {K : g_D → Prop} {n2 : Nat} {k : Nat} {v1 : Int} {r2 : Nat} {v3 : Int} (hk : is_Device g_SH k) (hr2 : g_SH[r2]? = some (.inl (0, n2))) (hF : g_okD D → g_r v1 → g_r v3 → (g_r (v1 * 4)) ∧ (n_X2_writeBlock E l D 8 [some (g_R k), none, some (g_R r2), some (g_I v3), some (g_I (v1 * 4)), some (g_I 0)] K)) : k_X2_writeBlock E l D k v1 r2 v3 K := by
  refine g_enter (by decide) (Nat.le_of_ble_eq_true rfl) ?_
  show g_N E l m_X2_writeBlock 0 0 [some (g_R k), some (g_I v1), some (g_R r2), some (g_I v3), none, none] [] g_SH D (g_Rv g_SH K)
  refine g_use (fun ok => ?_)
  have hF := hF ok.2.1 (ok.loc (i := 1) rfl) (ok.loc (i := 3) rfl)
  refine g_iload_n dX2_writeBlock_0 rfl ?_
  refine g_iconst dX2_writeBlock_1 ⟨by decide, by decide⟩ ?_
  obtain ⟨hc, hF⟩ := hF
  refine g_imul dX2_writeBlock_2 hc ?_
  refine gw_istore (L' := [some (g_R k), some (g_I v1), some (g_R r2), some (g_I v3), some (g_I (v1 * 4)), none]) dX2_writeBlock_3 (by decide) rfl ?_
  refine g_iconst dX2_writeBlock_5 ⟨by decide, by decide⟩ ?_
  refine gw_istore (L' := [some (g_R k), some (g_I v1), some (g_R r2), some (g_I v3), some (g_I (v1 * 4)), some (g_I 0)]) dX2_writeBlock_6 (by decide) rfl ?_
  exact g_forget (L' := [some (g_R k), none, some (g_R r2), some (g_I v3), some (g_I (v1 * 4)), some (g_I 0)]) ⟨rfl, ⟨rfl, ⟨rfl, ⟨rfl, ⟨rfl, trivial⟩⟩⟩⟩⟩ hF
theorem s_X2_writeBlock_8 {E : g_E} {l : Launch} {D : g_D} {K : g_D → Prop} {n2 : Nat} {k : Nat} {r2 : Nat} {v3 : Int} {v4 : Int} {v5 : Int} (hk : is_Device g_SH k) (hr2 : g_SH[r2]? = some (.inl (0, n2))) (hF : g_okD D → g_r v3 → g_r v4 → g_r v5 → (4 ≤ v5 → K D) ∧ (¬ 4 ≤ v5 → (v4 < 0 → K D) ∧ (¬ v4 < 0 → (g_r (v4 + v5)) ∧ ((40 ≤ (v4 + v5) → K D) ∧ (¬ 40 ≤ (v4 + v5) → (g_r (v4 + v5)) ∧ ((v3 ≤ v5 → (0 ≤ (v4 + v5) ∧ (v4 + v5) < 40) ∧ (∀ D1, D1 = g_up D (k + 1) (v4 + v5).toNat 255 → ((g_r (v5 + 1)) ∧ (n_X2_writeBlock E l D1 8 [some (g_R k), none, some (g_R r2), some (g_I v3), some (g_I v4), some (g_I (v5 + 1))] K)))) ∧ (¬ v3 ≤ v5 → (0 ≤ v5 ∧ v5 < n2) ∧ ((0 ≤ (v4 + v5) ∧ (v4 + v5) < 40) ∧ (∀ D2, D2 = g_up D (k + 1) (v4 + v5).toNat (D r2 v5.toNat) → ((g_r (v5 + 1)) ∧ (n_X2_writeBlock E l D2 8 [some (g_R k), none, some (g_R r2), some (g_I v3), some (g_I v4), some (g_I (v5 + 1))] K))))))))))) : n_X2_writeBlock E l D 8 [some (g_R k), none, some (g_R r2), some (g_I v3), some (g_I v4), some (g_I v5)] K := by
  refine g_use (fun ok => ?_)
  have hF := hF ok.2.1 (ok.loc (i := 3) rfl) (ok.loc (i := 4) rfl) (ok.loc (i := 5) rfl)
  refine g_iload dX2_writeBlock_8 rfl ?_
  refine g_iconst dX2_writeBlock_10 ⟨by decide, by decide⟩ ?_
  refine g_cge dX2_writeBlock_11 rfl (fun q => ?_) (fun q => ?_)
  · have hF := hF.1 q
    exact gw_vret dX2_writeBlock_61 rfl hF
  · have hF := hF.2 q
    refine g_iload dX2_writeBlock_14 rfl ?_
    refine g_iflt dX2_writeBlock_16 rfl (fun q => ?_) (fun q => ?_)
    · have hF := hF.1 q
      exact gw_vret dX2_writeBlock_61 rfl hF
    · have hF := hF.2 q
      refine g_iload dX2_writeBlock_19 rfl ?_
      refine g_iload dX2_writeBlock_21 rfl ?_
      obtain ⟨hc, hF⟩ := hF
      refine g_iadd dX2_writeBlock_23 hc ?_
      refine g_bipush dX2_writeBlock_24 ⟨by decide, by decide⟩ ?_
      refine g_cge dX2_writeBlock_26 rfl (fun q => ?_) (fun q => ?_)
      · have hF := hF.1 q
        exact gw_vret dX2_writeBlock_61 rfl hF
      · have hF := hF.2 q
        refine g_aload_n dX2_writeBlock_29 rfl ?_
        refine g_getR dX2_writeBlock_30 fd_X2_9 hk.1 rfl ?_
        refine g_iload dX2_writeBlock_33 rfl ?_
        refine g_iload dX2_writeBlock_35 rfl ?_
        obtain ⟨hc, hF⟩ := hF
        refine g_iadd dX2_writeBlock_37 hc ?_
        refine g_iload dX2_writeBlock_38 rfl ?_
        refine g_iload_n dX2_writeBlock_40 rfl ?_
        refine g_cge dX2_writeBlock_41 rfl (fun q => ?_) (fun q => ?_)
        · have hF := hF.1 q
          refine g_sipush dX2_writeBlock_51 ⟨by decide, by decide⟩ ?_
          obtain ⟨hc, hF⟩ := hF
          let D1 : g_D := g_up D (k + 1) (v4 + v5).toNat 255
          have hF := hF D1 rfl
          refine g_iast dX2_writeBlock_54 hk.2.1 hc.1 hc.2 ?_
          obtain ⟨hc, hF⟩ := hF
          refine gw_iinc (L' := [some (g_R k), none, some (g_R r2), some (g_I v3), some (g_I v4), some (g_I (v5 + 1))]) dX2_writeBlock_55 rfl hc (by decide) rfl ?_
          refine g_goto dX2_writeBlock_58 rfl ?_
          exact hF
        · have hF := hF.2 q
          refine g_aload_n dX2_writeBlock_44 rfl ?_
          refine g_iload dX2_writeBlock_45 rfl ?_
          obtain ⟨hc, hF⟩ := hF
          refine g_iald dX2_writeBlock_47 hr2 hc.1 hc.2 ?_
          refine g_goto dX2_writeBlock_48 rfl ?_
          obtain ⟨hc, hF⟩ := hF
          let D2 : g_D := g_up D (k + 1) (v4 + v5).toNat (D r2 v5.toNat)
          have hF := hF D2 rfl
          refine g_iast dX2_writeBlock_54 hk.2.1 hc.1 hc.2 ?_
          obtain ⟨hc, hF⟩ := hF
          refine gw_iinc (L' := [some (g_R k), none, some (g_R r2), some (g_I v3), some (g_I v4), some (g_I (v5 + 1))]) dX2_writeBlock_55 rfl hc (by decide) rfl ?_
          refine g_goto dX2_writeBlock_58 rfl ?_
          exact hF
theorem dX2_standAt_0 : decode cX2_standAt 0 = .ok (.aload_n 0, 1) := by decide +kernel
theorem dX2_standAt_1 : decode cX2_standAt 1 = .ok (.iconst (-1), 1) := by decide +kernel
theorem dX2_standAt_2 : decode cX2_standAt 2 = .ok (.putfield 42, 3) := by decide +kernel
theorem dX2_standAt_5 : decode cX2_standAt 5 = .ok (.aload_n 0, 1) := by decide +kernel
theorem dX2_standAt_6 : decode cX2_standAt 6 = .ok (.iload_n 1, 1) := by decide +kernel
theorem dX2_standAt_7 : decode cX2_standAt 7 = .ok (.putfield 69, 3) := by decide +kernel
theorem dX2_standAt_10 : decode cX2_standAt 10 = .ok (.aload_n 0, 1) := by decide +kernel
theorem dX2_standAt_11 : decode cX2_standAt 11 = .ok (.iconst 1, 1) := by decide +kernel
theorem dX2_standAt_12 : decode cX2_standAt 12 = .ok (.putfield 46, 3) := by decide +kernel
theorem dX2_standAt_15 : decode cX2_standAt 15 = .ok (.aload_n 0, 1) := by decide +kernel
theorem dX2_standAt_16 : decode cX2_standAt 16 = .ok (.iconst 1, 1) := by decide +kernel
theorem dX2_standAt_17 : decode cX2_standAt 17 = .ok (.putfield 50, 3) := by decide +kernel
theorem dX2_standAt_20 : decode cX2_standAt 20 = .ok (.return_, 1) := by decide +kernel
abbrev k_X2_standAt (E : g_E) (l : Launch) (D : g_D) (k : Nat) (v1 : Int) (K : g_D → Prop) : Prop := g_Kv E l m_X2_standAt 0 [g_R k, g_I v1] g_SH D K
abbrev n_X2_standAt (E : g_E) (l : Launch) (D : g_D) (pc : Nat) (L : List (Option g_V)) (K : g_D → Prop) : Prop := g_N E l m_X2_standAt 0 pc L [] g_SH D (g_Rv g_SH K)
theorem s_X2_standAt {E : g_E} {l : Launch} {D : g_D} {K : g_D → Prop} {k : Nat} {v1 : Int} (hk : is_Device g_SH k) (hF : g_okD D → g_r v1 → ∀ D1, D1 = g_up D k 6 (-1) → (∀ D2, D2 = g_up D1 k 7 v1 → (∀ D3, D3 = g_up D2 k 8 1 → (∀ D4, D4 = g_up D3 k 9 1 → (K D4))))) : k_X2_standAt E l D k v1 K := by
  refine g_enter (by decide) (Nat.le_of_ble_eq_true rfl) ?_
  show g_N E l m_X2_standAt 0 0 [some (g_R k), some (g_I v1)] [] g_SH D (g_Rv g_SH K)
  refine g_use (fun ok => ?_)
  have hF := hF ok.2.1 (ok.loc (i := 1) rfl)
  refine g_aload_n dX2_standAt_0 rfl ?_
  refine g_iconst dX2_standAt_1 ⟨by decide, by decide⟩ ?_
  let D1 : g_D := g_up D k 6 (-1)
  have hF := hF D1 rfl
  refine g_put dX2_standAt_2 fd_X2_42 (g_ftyI (C := RX2) (T := TX2) (N := 10) rfl rfl (by decide +kernel)) hk.1 rfl ?_
  refine g_aload_n dX2_standAt_5 rfl ?_
  refine g_iload_n dX2_standAt_6 rfl ?_
  let D2 : g_D := g_up D1 k 7 v1
  have hF := hF D2 rfl
  refine g_put dX2_standAt_7 fd_X2_69 (g_ftyI (C := RX2) (T := TX2) (N := 10) rfl rfl (by decide +kernel)) hk.1 rfl ?_
  refine g_aload_n dX2_standAt_10 rfl ?_
  refine g_iconst dX2_standAt_11 ⟨by decide, by decide⟩ ?_
  let D3 : g_D := g_up D2 k 8 1
  have hF := hF D3 rfl
  refine g_put dX2_standAt_12 fd_X2_46 (g_ftyZ (C := RX2) (T := TX2) (N := 10) rfl rfl (by decide +kernel) (by decide)) hk.1 rfl ?_
  refine g_aload_n dX2_standAt_15 rfl ?_
  refine g_iconst dX2_standAt_16 ⟨by decide, by decide⟩ ?_
  let D4 : g_D := g_up D3 k 9 1
  have hF := hF D4 rfl
  refine g_put dX2_standAt_17 fd_X2_50 (g_ftyZ (C := RX2) (T := TX2) (N := 10) rfl rfl (by decide +kernel) (by decide)) hk.1 rfl ?_
  exact gw_vret dX2_standAt_20 rfl hF
theorem dX2_writeJournal_0 : decode cX2_writeJournal 0 = .ok (.aload_n 0, 1) := by decide +kernel
theorem dX2_writeJournal_1 : decode cX2_writeJournal 1 = .ok (.iload_n 1, 1) := by decide +kernel
theorem dX2_writeJournal_2 : decode cX2_writeJournal 2 = .ok (.putfield 42, 3) := by decide +kernel
theorem dX2_writeJournal_5 : decode cX2_writeJournal 5 = .ok (.aload_n 2, 1) := by decide +kernel
theorem dX2_writeJournal_6 : decode cX2_writeJournal 6 = .ok (.iconst 0, 1) := by decide +kernel
theorem dX2_writeJournal_7 : decode cX2_writeJournal 7 = .ok (.aload_n 0, 1) := by decide +kernel
theorem dX2_writeJournal_8 : decode cX2_writeJournal 8 = .ok (.getfield 33, 3) := by decide +kernel
theorem dX2_writeJournal_11 : decode cX2_writeJournal 11 = .ok (.iconst 0, 1) := by decide +kernel
theorem dX2_writeJournal_12 : decode cX2_writeJournal 12 = .ok (.iconst 4, 1) := by decide +kernel
theorem dX2_writeJournal_13 : decode cX2_writeJournal 13 = .ok (.invokestatic 56, 3) := by decide +kernel
theorem dX2_writeJournal_16 : decode cX2_writeJournal 16 = .ok (.return_, 1) := by decide +kernel
abbrev k_X2_writeJournal (E : g_E) (l : Launch) (D : g_D) (k : Nat) (v1 : Int) (r2 : Nat) (K : g_D → Prop) : Prop := g_Kv E l m_X2_writeJournal 1 [g_R k, g_I v1, g_R r2] g_SH D K
abbrev n_X2_writeJournal (E : g_E) (l : Launch) (D : g_D) (pc : Nat) (L : List (Option g_V)) (K : g_D → Prop) : Prop := g_N E l m_X2_writeJournal 1 pc L [] g_SH D (g_Rv g_SH K)
theorem s_X2_writeJournal {E : g_E} {l : Launch} {D : g_D} {K : g_D → Prop} {n2 : Nat} {k : Nat} {v1 : Int} {r2 : Nat} (hk : is_Device g_SH k) (hr2 : g_SH[r2]? = some (.inl (0, n2))) (hF : g_okD D → g_r v1 → ∀ D1, D1 = g_up D k 6 v1 → (((0 : Int) ≤ 0 ∧ (0 : Int) ≤ 0 ∧ (0 : Int) ≤ 4 ∧ (0 + 4 : Int) ≤ n2 ∧ (0 + 4 : Int) ≤ 4) ∧ (∀ D2, D2 = g_cpy D1 r2 (k + 7) 0 0 4 → (K D2)))) : k_X2_writeJournal E l D k v1 r2 K := by
  refine g_enter (by decide) (Nat.le_of_ble_eq_true rfl) ?_
  show g_N E l m_X2_writeJournal 1 0 [some (g_R k), some (g_I v1), some (g_R r2)] [] g_SH D (g_Rv g_SH K)
  refine g_use (fun ok => ?_)
  have hF := hF ok.2.1 (ok.loc (i := 1) rfl)
  refine g_aload_n dX2_writeJournal_0 rfl ?_
  refine g_iload_n dX2_writeJournal_1 rfl ?_
  let D1 : g_D := g_up D k 6 v1
  have hF := hF D1 rfl
  refine g_put dX2_writeJournal_2 fd_X2_42 (g_ftyI (C := RX2) (T := TX2) (N := 10) rfl rfl (by decide +kernel)) hk.1 rfl ?_
  refine g_aload_n dX2_writeJournal_5 rfl ?_
  refine g_iconst dX2_writeJournal_6 ⟨by decide, by decide⟩ ?_
  refine g_aload_n dX2_writeJournal_7 rfl ?_
  refine g_getR dX2_writeJournal_8 fd_X2_33 hk.1 rfl ?_
  refine g_iconst dX2_writeJournal_11 ⟨by decide, by decide⟩ ?_
  refine g_iconst dX2_writeJournal_12 ⟨by decide, by decide⟩ ?_
  obtain ⟨hc, hF⟩ := hF
  let D2 : g_D := g_cpy D1 r2 (k + 7) 0 0 4
  have hF := hF D2 rfl
  refine g_acopy dX2_writeJournal_13 ac_X2_56.1 ac_X2_56.2.1 ac_X2_56.2.2.1 ac_X2_56.2.2.2 hr2 hk.2.2.2.2.2.2.2 hc.1 hc.2.1 hc.2.2.1 hc.2.2.2.1 hc.2.2.2.2 (by decide) (Nat.le_of_ble_eq_true rfl) ?_
  exact gw_vret dX2_writeJournal_16 rfl hF
theorem dX5_fail_0 : decode cX5_fail 0 = .ok (.aload_n 0, 1) := by decide +kernel
theorem dX5_fail_1 : decode cX5_fail 1 = .ok (.iload_n 1, 1) := by decide +kernel
theorem dX5_fail_2 : decode cX5_fail 2 = .ok (.putfield 31, 3) := by decide +kernel
theorem dX5_fail_5 : decode cX5_fail 5 = .ok (.aload_n 0, 1) := by decide +kernel
theorem dX5_fail_6 : decode cX5_fail 6 = .ok (.iload_n 2, 1) := by decide +kernel
theorem dX5_fail_7 : decode cX5_fail 7 = .ok (.putfield 24, 3) := by decide +kernel
theorem dX5_fail_10 : decode cX5_fail 10 = .ok (.return_, 1) := by decide +kernel
abbrev k_X5_fail (E : g_E) (l : Launch) (D : g_D) (k : Nat) (v1 : Int) (v2 : Int) (K : g_D → Prop) : Prop := g_Kv E l m_X5_fail 0 [g_R k, g_I v1, g_I v2] g_SH D K
abbrev n_X5_fail (E : g_E) (l : Launch) (D : g_D) (pc : Nat) (L : List (Option g_V)) (K : g_D → Prop) : Prop := g_N E l m_X5_fail 0 pc L [] g_SH D (g_Rv g_SH K)
theorem s_X5_fail {E : g_E} {l : Launch} {D : g_D} {K : g_D → Prop} {k : Nat} {v1 : Int} {v2 : Int} (hk : is_Reader g_SH k) (hF : g_okD D → g_r v1 → g_r v2 → ∀ D1, D1 = g_up D k 5 v1 → (∀ D2, D2 = g_up D1 k 6 v2 → (K D2))) : k_X5_fail E l D k v1 v2 K := by
  refine g_enter (by decide) (Nat.le_of_ble_eq_true rfl) ?_
  show g_N E l m_X5_fail 0 0 [some (g_R k), some (g_I v1), some (g_I v2)] [] g_SH D (g_Rv g_SH K)
  refine g_use (fun ok => ?_)
  have hF := hF ok.2.1 (ok.loc (i := 1) rfl) (ok.loc (i := 2) rfl)
  refine g_aload_n dX5_fail_0 rfl ?_
  refine g_iload_n dX5_fail_1 rfl ?_
  let D1 : g_D := g_up D k 5 v1
  have hF := hF D1 rfl
  refine g_put dX5_fail_2 fd_X5_31 (g_ftyI (C := RX5) (T := TX5) (N := 9) rfl rfl (by decide +kernel)) hk.1 rfl ?_
  refine g_aload_n dX5_fail_5 rfl ?_
  refine g_iload_n dX5_fail_6 rfl ?_
  let D2 : g_D := g_up D1 k 6 v2
  have hF := hF D2 rfl
  refine g_put dX5_fail_7 fd_X5_24 (g_ftyI (C := RX5) (T := TX5) (N := 9) rfl rfl (by decide +kernel)) hk.1 rfl ?_
  exact gw_vret dX5_fail_10 rfl hF
theorem dX5_readNumber_0 : decode cX5_readNumber 0 = .ok (.aload_n 0, 1) := by decide +kernel
theorem dX5_readNumber_1 : decode cX5_readNumber 1 = .ok (.getfield 31, 3) := by decide +kernel
theorem dX5_readNumber_4 : decode cX5_readNumber 4 = .ok (.ifCond .eq 5, 3) := by decide +kernel
theorem dX5_readNumber_7 : decode cX5_readNumber 7 = .ok (.iconst 0, 1) := by decide +kernel
theorem dX5_readNumber_8 : decode cX5_readNumber 8 = .ok (.ireturn, 1) := by decide +kernel
theorem dX5_readNumber_9 : decode cX5_readNumber 9 = .ok (.aload_n 0, 1) := by decide +kernel
theorem dX5_readNumber_10 : decode cX5_readNumber 10 = .ok (.getfield 34, 3) := by decide +kernel
theorem dX5_readNumber_13 : decode cX5_readNumber 13 = .ok (.aload_n 0, 1) := by decide +kernel
theorem dX5_readNumber_14 : decode cX5_readNumber 14 = .ok (.getfield 51, 3) := by decide +kernel
theorem dX5_readNumber_17 : decode cX5_readNumber 17 = .ok (.if_icmp .lt 14, 3) := by decide +kernel
theorem dX5_readNumber_20 : decode cX5_readNumber 20 = .ok (.aload_n 0, 1) := by decide +kernel
theorem dX5_readNumber_21 : decode cX5_readNumber 21 = .ok (.iconst 2, 1) := by decide +kernel
theorem dX5_readNumber_22 : decode cX5_readNumber 22 = .ok (.aload_n 0, 1) := by decide +kernel
theorem dX5_readNumber_23 : decode cX5_readNumber 23 = .ok (.getfield 51, 3) := by decide +kernel
theorem dX5_readNumber_26 : decode cX5_readNumber 26 = .ok (.invokevirtual 61, 3) := by decide +kernel
theorem dX5_readNumber_29 : decode cX5_readNumber 29 = .ok (.iconst 0, 1) := by decide +kernel
theorem dX5_readNumber_30 : decode cX5_readNumber 30 = .ok (.ireturn, 1) := by decide +kernel
theorem dX5_readNumber_31 : decode cX5_readNumber 31 = .ok (.aload_n 1, 1) := by decide +kernel
theorem dX5_readNumber_32 : decode cX5_readNumber 32 = .ok (.aload_n 0, 1) := by decide +kernel
theorem dX5_readNumber_33 : decode cX5_readNumber 33 = .ok (.getfield 34, 3) := by decide +kernel
theorem dX5_readNumber_36 : decode cX5_readNumber 36 = .ok (.invokevirtual 58, 3) := by decide +kernel
theorem dX5_readNumber_39 : decode cX5_readNumber 39 = .ok (.istore 4, 2) := by decide +kernel
theorem dX5_readNumber_41 : decode cX5_readNumber 41 = .ok (.iload 4, 2) := by decide +kernel
theorem dX5_readNumber_43 : decode cX5_readNumber 43 = .ok (.iload_n 2, 1) := by decide +kernel
theorem dX5_readNumber_44 : decode cX5_readNumber 44 = .ok (.if_icmp .lt 9, 3) := by decide +kernel
theorem dX5_readNumber_47 : decode cX5_readNumber 47 = .ok (.iload 4, 2) := by decide +kernel
theorem dX5_readNumber_49 : decode cX5_readNumber 49 = .ok (.iload_n 3, 1) := by decide +kernel
theorem dX5_readNumber_50 : decode cX5_readNumber 50 = .ok (.if_icmp .le 14, 3) := by decide +kernel
theorem dX5_readNumber_53 : decode cX5_readNumber 53 = .ok (.aload_n 0, 1) := by decide +kernel
theorem dX5_readNumber_54 : decode cX5_readNumber 54 = .ok (.iconst 3, 1) := by decide +kernel
theorem dX5_readNumber_55 : decode cX5_readNumber 55 = .ok (.aload_n 0, 1) := by decide +kernel
theorem dX5_readNumber_56 : decode cX5_readNumber 56 = .ok (.getfield 34, 3) := by decide +kernel
theorem dX5_readNumber_59 : decode cX5_readNumber 59 = .ok (.invokevirtual 61, 3) := by decide +kernel
theorem dX5_readNumber_62 : decode cX5_readNumber 62 = .ok (.iconst 0, 1) := by decide +kernel
theorem dX5_readNumber_63 : decode cX5_readNumber 63 = .ok (.ireturn, 1) := by decide +kernel
theorem dX5_readNumber_64 : decode cX5_readNumber 64 = .ok (.aload_n 0, 1) := by decide +kernel
theorem dX5_readNumber_65 : decode cX5_readNumber 65 = .ok (.dup, 1) := by decide +kernel
theorem dX5_readNumber_66 : decode cX5_readNumber 66 = .ok (.getfield 34, 3) := by decide +kernel
theorem dX5_readNumber_69 : decode cX5_readNumber 69 = .ok (.iconst 1, 1) := by decide +kernel
theorem dX5_readNumber_70 : decode cX5_readNumber 70 = .ok (.iadd, 1) := by decide +kernel
theorem dX5_readNumber_71 : decode cX5_readNumber 71 = .ok (.putfield 34, 3) := by decide +kernel
theorem dX5_readNumber_74 : decode cX5_readNumber 74 = .ok (.iload 4, 2) := by decide +kernel
theorem dX5_readNumber_76 : decode cX5_readNumber 76 = .ok (.ireturn, 1) := by decide +kernel
abbrev k_X5_readNumber (E : g_E) (l : Launch) (D : g_D) (k : Nat) (r1 : Nat) (v2 : Int) (v3 : Int) (K : Int → g_D → Prop) : Prop := g_Ki E l m_X5_readNumber 1 [g_R k, g_R r1, g_I v2, g_I v3] g_SH D K
abbrev n_X5_readNumber (E : g_E) (l : Launch) (D : g_D) (pc : Nat) (L : List (Option g_V)) (K : Int → g_D → Prop) : Prop := g_N E l m_X5_readNumber 1 pc L [] g_SH D (g_Ri g_SH K)
theorem s_X5_readNumber {E : g_E} {l : Launch} {D : g_D} {K : Int → g_D → Prop} {nr1 : Nat} {k : Nat} {r1 : Nat} {v2 : Int} {v3 : Int} (hk : is_Reader g_SH k) (hr1 : is_Cells g_SH r1 nr1) (hF : g_okD D → g_r v2 → g_r v3 → ((D k 5) = 0 → ((D k 7) < (D k 8) → k_X0_at E l g_SH D r1 (D k 7) (fun x1 D1 => g_r x1 → (x1 < v2 → k_X5_fail E l D1 k 3 (D1 k 7) (fun D2 => K 0 D2)) ∧ (¬ x1 < v2 → (x1 ≤ v3 → (g_r ((D1 k 7) + 1)) ∧ (∀ D3, D3 = g_up D1 k 7 ((D1 k 7) + 1) → (K x1 D3))) ∧ (¬ x1 ≤ v3 → k_X5_fail E l D1 k 3 (D1 k 7) (fun D4 => K 0 D4))))) ∧ (¬ (D k 7) < (D k 8) → k_X5_fail E l D k 2 (D k 8) (fun D5 => K 0 D5))) ∧ (¬ (D k 5) = 0 → K 0 D)) : k_X5_readNumber E l D k r1 v2 v3 K := by
  refine g_enter (by decide) (Nat.le_of_ble_eq_true rfl) ?_
  show g_N E l m_X5_readNumber 1 0 [some (g_R k), some (g_R r1), some (g_I v2), some (g_I v3), none] [] g_SH D (g_Ri g_SH K)
  refine g_use (fun ok => ?_)
  have hF := hF ok.2.1 (ok.loc (i := 2) rfl) (ok.loc (i := 3) rfl)
  refine g_aload_n dX5_readNumber_0 rfl ?_
  refine g_getI dX5_readNumber_1 fd_X5_31 hk.1 rfl ?_
  refine g_ifeq dX5_readNumber_4 rfl (fun q => ?_) (fun q => ?_)
  · have hF := hF.1 q
    refine g_aload_n dX5_readNumber_9 rfl ?_
    refine g_getI dX5_readNumber_10 fd_X5_34 hk.1 rfl ?_
    refine g_aload_n dX5_readNumber_13 rfl ?_
    refine g_getI dX5_readNumber_14 fd_X5_51 hk.1 rfl ?_
    refine g_clt dX5_readNumber_17 rfl (fun q => ?_) (fun q => ?_)
    · have hF := hF.1 q
      refine g_aload_n dX5_readNumber_31 rfl ?_
      refine g_aload_n dX5_readNumber_32 rfl ?_
      refine g_getI dX5_readNumber_33 fd_X5_34 hk.1 rfl ?_
      refine gw_cVi (b := r1) (As := [g_I (D k 7)]) (rest := []) dX5_readNumber_36 mv_X5_58 hr1.1 rfl (Nat.le_of_ble_eq_true rfl) (by decide) rfl hF ?_
      intro x1 D1 hx1 hF
      have hF := hF hx1
      refine gw_istore (L' := [some (g_R k), some (g_R r1), some (g_I v2), some (g_I v3), some (g_I x1)]) dX5_readNumber_39 (by decide) rfl ?_
      refine g_iload dX5_readNumber_41 rfl ?_
      refine g_iload_n dX5_readNumber_43 rfl ?_
      refine g_clt dX5_readNumber_44 rfl (fun q => ?_) (fun q => ?_)
      · have hF := hF.1 q
        refine g_aload_n dX5_readNumber_53 rfl ?_
        refine g_iconst dX5_readNumber_54 ⟨by decide, by decide⟩ ?_
        refine g_aload_n dX5_readNumber_55 rfl ?_
        refine g_getI dX5_readNumber_56 fd_X5_34 hk.1 rfl ?_
        refine gw_cVv (b := k) (As := [g_I 3, g_I (D1 k 7)]) (rest := []) dX5_readNumber_59 mv_X5_61 hk.1 rfl (Nat.le_of_ble_eq_true rfl) (by decide) rfl hF ?_
        intro D2 hF
        refine g_iconst dX5_readNumber_62 ⟨by decide, by decide⟩ ?_
        exact gw_iret dX5_readNumber_63 rfl hF
      · have hF := hF.2 q
        refine g_iload dX5_readNumber_47 rfl ?_
        refine g_iload_n dX5_readNumber_49 rfl ?_
        refine g_cle dX5_readNumber_50 rfl (fun q => ?_) (fun q => ?_)
        · have hF := hF.1 q
          refine g_aload_n dX5_readNumber_64 rfl ?_
          refine g_dup dX5_readNumber_65 rfl ?_
          refine g_getI dX5_readNumber_66 fd_X5_34 hk.1 rfl ?_
          refine g_iconst dX5_readNumber_69 ⟨by decide, by decide⟩ ?_
          obtain ⟨hc, hF⟩ := hF
          refine g_iadd dX5_readNumber_70 hc ?_
          let D3 : g_D := g_up D1 k 7 ((D1 k 7) + 1)
          have hF := hF D3 rfl
          refine g_put dX5_readNumber_71 fd_X5_34 (g_ftyI (C := RX5) (T := TX5) (N := 9) rfl rfl (by decide +kernel)) hk.1 rfl ?_
          refine g_iload dX5_readNumber_74 rfl ?_
          exact gw_iret dX5_readNumber_76 rfl hF
        · have hF := hF.2 q
          refine g_aload_n dX5_readNumber_53 rfl ?_
          refine g_iconst dX5_readNumber_54 ⟨by decide, by decide⟩ ?_
          refine g_aload_n dX5_readNumber_55 rfl ?_
          refine g_getI dX5_readNumber_56 fd_X5_34 hk.1 rfl ?_
          refine gw_cVv (b := k) (As := [g_I 3, g_I (D1 k 7)]) (rest := []) dX5_readNumber_59 mv_X5_61 hk.1 rfl (Nat.le_of_ble_eq_true rfl) (by decide) rfl hF ?_
          intro D4 hF
          refine g_iconst dX5_readNumber_62 ⟨by decide, by decide⟩ ?_
          exact gw_iret dX5_readNumber_63 rfl hF
    · have hF := hF.2 q
      refine g_aload_n dX5_readNumber_20 rfl ?_
      refine g_iconst dX5_readNumber_21 ⟨by decide, by decide⟩ ?_
      refine g_aload_n dX5_readNumber_22 rfl ?_
      refine g_getI dX5_readNumber_23 fd_X5_51 hk.1 rfl ?_
      refine gw_cVv (b := k) (As := [g_I 2, g_I (D k 8)]) (rest := []) dX5_readNumber_26 mv_X5_61 hk.1 rfl (Nat.le_of_ble_eq_true rfl) (by decide) rfl hF ?_
      intro D5 hF
      refine g_iconst dX5_readNumber_29 ⟨by decide, by decide⟩ ?_
      exact gw_iret dX5_readNumber_30 rfl hF
  · have hF := hF.2 q
    refine g_iconst dX5_readNumber_7 ⟨by decide, by decide⟩ ?_
    exact gw_iret dX5_readNumber_8 rfl hF
theorem dX5_passCells_0 : decode cX5_passCells 0 = .ok (.aload_n 0, 1) := by decide +kernel
theorem dX5_passCells_1 : decode cX5_passCells 1 = .ok (.getfield 31, 3) := by decide +kernel
theorem dX5_passCells_4 : decode cX5_passCells 4 = .ok (.ifCond .ne 25, 3) := by decide +kernel
theorem dX5_passCells_7 : decode cX5_passCells 7 = .ok (.aload_n 0, 1) := by decide +kernel
theorem dX5_passCells_8 : decode cX5_passCells 8 = .ok (.getfield 34, 3) := by decide +kernel
theorem dX5_passCells_11 : decode cX5_passCells 11 = .ok (.iload_n 1, 1) := by decide +kernel
theorem dX5_passCells_12 : decode cX5_passCells 12 = .ok (.iadd, 1) := by decide +kernel
theorem dX5_passCells_13 : decode cX5_passCells 13 = .ok (.aload_n 0, 1) := by decide +kernel
theorem dX5_passCells_14 : decode cX5_passCells 14 = .ok (.getfield 51, 3) := by decide +kernel
theorem dX5_passCells_17 : decode cX5_passCells 17 = .ok (.if_icmp .le 12, 3) := by decide +kernel
theorem dX5_passCells_20 : decode cX5_passCells 20 = .ok (.aload_n 0, 1) := by decide +kernel
theorem dX5_passCells_21 : decode cX5_passCells 21 = .ok (.iconst 2, 1) := by decide +kernel
theorem dX5_passCells_22 : decode cX5_passCells 22 = .ok (.aload_n 0, 1) := by decide +kernel
theorem dX5_passCells_23 : decode cX5_passCells 23 = .ok (.getfield 51, 3) := by decide +kernel
theorem dX5_passCells_26 : decode cX5_passCells 26 = .ok (.invokevirtual 61, 3) := by decide +kernel
theorem dX5_passCells_29 : decode cX5_passCells 29 = .ok (.aload_n 0, 1) := by decide +kernel
theorem dX5_passCells_30 : decode cX5_passCells 30 = .ok (.dup, 1) := by decide +kernel
theorem dX5_passCells_31 : decode cX5_passCells 31 = .ok (.getfield 34, 3) := by decide +kernel
theorem dX5_passCells_34 : decode cX5_passCells 34 = .ok (.iload_n 1, 1) := by decide +kernel
theorem dX5_passCells_35 : decode cX5_passCells 35 = .ok (.iadd, 1) := by decide +kernel
theorem dX5_passCells_36 : decode cX5_passCells 36 = .ok (.putfield 34, 3) := by decide +kernel
theorem dX5_passCells_39 : decode cX5_passCells 39 = .ok (.return_, 1) := by decide +kernel
abbrev k_X5_passCells (E : g_E) (l : Launch) (D : g_D) (k : Nat) (v1 : Int) (K : g_D → Prop) : Prop := g_Kv E l m_X5_passCells 1 [g_R k, g_I v1] g_SH D K
abbrev n_X5_passCells (E : g_E) (l : Launch) (D : g_D) (pc : Nat) (L : List (Option g_V)) (K : g_D → Prop) : Prop := g_N E l m_X5_passCells 1 pc L [] g_SH D (g_Rv g_SH K)
theorem s_X5_passCells {E : g_E} {l : Launch} {D : g_D} {K : g_D → Prop} {k : Nat} {v1 : Int} (hk : is_Reader g_SH k) (hF : g_okD D → g_r v1 → (¬ (D k 5) = 0 → (g_r ((D k 7) + v1)) ∧ (∀ D1, D1 = g_up D k 7 ((D k 7) + v1) → (K D1))) ∧ ((D k 5) = 0 → (g_r ((D k 7) + v1)) ∧ ((((D k 7) + v1) ≤ (D k 8) → (g_r ((D k 7) + v1)) ∧ (∀ D2, D2 = g_up D k 7 ((D k 7) + v1) → (K D2))) ∧ (¬ ((D k 7) + v1) ≤ (D k 8) → k_X5_fail E l D k 2 (D k 8) (fun D3 => (g_r ((D3 k 7) + v1)) ∧ (∀ D4, D4 = g_up D3 k 7 ((D3 k 7) + v1) → (K D4))))))) : k_X5_passCells E l D k v1 K := by
  refine g_enter (by decide) (Nat.le_of_ble_eq_true rfl) ?_
  show g_N E l m_X5_passCells 1 0 [some (g_R k), some (g_I v1)] [] g_SH D (g_Rv g_SH K)
  refine g_use (fun ok => ?_)
  have hF := hF ok.2.1 (ok.loc (i := 1) rfl)
  refine g_aload_n dX5_passCells_0 rfl ?_
  refine g_getI dX5_passCells_1 fd_X5_31 hk.1 rfl ?_
  refine g_ifne dX5_passCells_4 rfl (fun q => ?_) (fun q => ?_)
  · have hF := hF.1 q
    refine g_aload_n dX5_passCells_29 rfl ?_
    refine g_dup dX5_passCells_30 rfl ?_
    refine g_getI dX5_passCells_31 fd_X5_34 hk.1 rfl ?_
    refine g_iload_n dX5_passCells_34 rfl ?_
    obtain ⟨hc, hF⟩ := hF
    refine g_iadd dX5_passCells_35 hc ?_
    let D1 : g_D := g_up D k 7 ((D k 7) + v1)
    have hF := hF D1 rfl
    refine g_put dX5_passCells_36 fd_X5_34 (g_ftyI (C := RX5) (T := TX5) (N := 9) rfl rfl (by decide +kernel)) hk.1 rfl ?_
    exact gw_vret dX5_passCells_39 rfl hF
  · have hF := hF.2 q
    refine g_aload_n dX5_passCells_7 rfl ?_
    refine g_getI dX5_passCells_8 fd_X5_34 hk.1 rfl ?_
    refine g_iload_n dX5_passCells_11 rfl ?_
    obtain ⟨hc, hF⟩ := hF
    refine g_iadd dX5_passCells_12 hc ?_
    refine g_aload_n dX5_passCells_13 rfl ?_
    refine g_getI dX5_passCells_14 fd_X5_51 hk.1 rfl ?_
    refine g_cle dX5_passCells_17 rfl (fun q => ?_) (fun q => ?_)
    · have hF := hF.1 q
      refine g_aload_n dX5_passCells_29 rfl ?_
      refine g_dup dX5_passCells_30 rfl ?_
      refine g_getI dX5_passCells_31 fd_X5_34 hk.1 rfl ?_
      refine g_iload_n dX5_passCells_34 rfl ?_
      obtain ⟨hc, hF⟩ := hF
      refine g_iadd dX5_passCells_35 hc ?_
      let D2 : g_D := g_up D k 7 ((D k 7) + v1)
      have hF := hF D2 rfl
      refine g_put dX5_passCells_36 fd_X5_34 (g_ftyI (C := RX5) (T := TX5) (N := 9) rfl rfl (by decide +kernel)) hk.1 rfl ?_
      exact gw_vret dX5_passCells_39 rfl hF
    · have hF := hF.2 q
      refine g_aload_n dX5_passCells_20 rfl ?_
      refine g_iconst dX5_passCells_21 ⟨by decide, by decide⟩ ?_
      refine g_aload_n dX5_passCells_22 rfl ?_
      refine g_getI dX5_passCells_23 fd_X5_51 hk.1 rfl ?_
      refine gw_cVv (b := k) (As := [g_I 2, g_I (D k 8)]) (rest := []) dX5_passCells_26 mv_X5_61 hk.1 rfl (Nat.le_of_ble_eq_true rfl) (by decide) rfl hF ?_
      intro D3 hF
      refine g_aload_n dX5_passCells_29 rfl ?_
      refine g_dup dX5_passCells_30 rfl ?_
      refine g_getI dX5_passCells_31 fd_X5_34 hk.1 rfl ?_
      refine g_iload_n dX5_passCells_34 rfl ?_
      obtain ⟨hc, hF⟩ := hF
      refine g_iadd dX5_passCells_35 hc ?_
      let D4 : g_D := g_up D3 k 7 ((D3 k 7) + v1)
      have hF := hF D4 rfl
      refine g_put dX5_passCells_36 fd_X5_34 (g_ftyI (C := RX5) (T := TX5) (N := 9) rfl rfl (by decide +kernel)) hk.1 rfl ?_
      exact gw_vret dX5_passCells_39 rfl hF
theorem dX5_readAct_0 : decode cX5_readAct 0 = .ok (.aload_n 0, 1) := by decide +kernel
theorem dX5_readAct_1 : decode cX5_readAct 1 = .ok (.getfield 28, 3) := by decide +kernel
theorem dX5_readAct_4 : decode cX5_readAct 4 = .ok (.istore_n 3, 1) := by decide +kernel
theorem dX5_readAct_5 : decode cX5_readAct 5 = .ok (.aload_n 0, 1) := by decide +kernel
theorem dX5_readAct_6 : decode cX5_readAct 6 = .ok (.getfield 9, 3) := by decide +kernel
theorem dX5_readAct_9 : decode cX5_readAct 9 = .ok (.iload_n 3, 1) := by decide +kernel
theorem dX5_readAct_10 : decode cX5_readAct 10 = .ok (.iload_n 2, 1) := by decide +kernel
theorem dX5_readAct_11 : decode cX5_readAct 11 = .ok (.iastore, 1) := by decide +kernel
theorem dX5_readAct_12 : decode cX5_readAct 12 = .ok (.iload_n 2, 1) := by decide +kernel
theorem dX5_readAct_13 : decode cX5_readAct 13 = .ok (.tableswitch 216 1 3 #[27, 91, 152], 27) := by decide +kernel
theorem dX5_readAct_40 : decode cX5_readAct 40 = .ok (.aload_n 0, 1) := by decide +kernel
theorem dX5_readAct_41 : decode cX5_readAct 41 = .ok (.getfield 18, 3) := by decide +kernel
theorem dX5_readAct_44 : decode cX5_readAct 44 = .ok (.iload_n 3, 1) := by decide +kernel
theorem dX5_readAct_45 : decode cX5_readAct 45 = .ok (.aload_n 0, 1) := by decide +kernel
theorem dX5_readAct_46 : decode cX5_readAct 46 = .ok (.aload_n 1, 1) := by decide +kernel
theorem dX5_readAct_47 : decode cX5_readAct 47 = .ok (.iconst 0, 1) := by decide +kernel
theorem dX5_readAct_48 : decode cX5_readAct 48 = .ok (.bipush 39, 2) := by decide +kernel
theorem dX5_readAct_50 : decode cX5_readAct 50 = .ok (.invokevirtual 54, 3) := by decide +kernel
theorem dX5_readAct_53 : decode cX5_readAct 53 = .ok (.iastore, 1) := by decide +kernel
theorem dX5_readAct_54 : decode cX5_readAct 54 = .ok (.aload_n 0, 1) := by decide +kernel
theorem dX5_readAct_55 : decode cX5_readAct 55 = .ok (.getfield 21, 3) := by decide +kernel
theorem dX5_readAct_58 : decode cX5_readAct 58 = .ok (.iload_n 3, 1) := by decide +kernel
theorem dX5_readAct_59 : decode cX5_readAct 59 = .ok (.aload_n 0, 1) := by decide +kernel
theorem dX5_readAct_60 : decode cX5_readAct 60 = .ok (.aload_n 1, 1) := by decide +kernel
theorem dX5_readAct_61 : decode cX5_readAct 61 = .ok (.iconst 1, 1) := by decide +kernel
theorem dX5_readAct_62 : decode cX5_readAct 62 = .ok (.bipush 20, 2) := by decide +kernel
theorem dX5_readAct_64 : decode cX5_readAct 64 = .ok (.bipush 40, 2) := by decide +kernel
theorem dX5_readAct_66 : decode cX5_readAct 66 = .ok (.aload_n 0, 1) := by decide +kernel
theorem dX5_readAct_67 : decode cX5_readAct 67 = .ok (.getfield 18, 3) := by decide +kernel
theorem dX5_readAct_70 : decode cX5_readAct 70 = .ok (.iload_n 3, 1) := by decide +kernel
theorem dX5_readAct_71 : decode cX5_readAct 71 = .ok (.iaload, 1) := by decide +kernel
theorem dX5_readAct_72 : decode cX5_readAct 72 = .ok (.isub, 1) := by decide +kernel
theorem dX5_readAct_73 : decode cX5_readAct 73 = .ok (.invokestatic 42, 3) := by decide +kernel
theorem dX5_readAct_76 : decode cX5_readAct 76 = .ok (.invokevirtual 54, 3) := by decide +kernel
theorem dX5_readAct_79 : decode cX5_readAct 79 = .ok (.iastore, 1) := by decide +kernel
theorem dX5_readAct_80 : decode cX5_readAct 80 = .ok (.aload_n 0, 1) := by decide +kernel
theorem dX5_readAct_81 : decode cX5_readAct 81 = .ok (.getfield 15, 3) := by decide +kernel
theorem dX5_readAct_84 : decode cX5_readAct 84 = .ok (.iload_n 3, 1) := by decide +kernel
theorem dX5_readAct_85 : decode cX5_readAct 85 = .ok (.aload_n 0, 1) := by decide +kernel
theorem dX5_readAct_86 : decode cX5_readAct 86 = .ok (.aload_n 1, 1) := by decide +kernel
theorem dX5_readAct_87 : decode cX5_readAct 87 = .ok (.iconst 0, 1) := by decide +kernel
theorem dX5_readAct_88 : decode cX5_readAct 88 = .ok (.bipush 20, 2) := by decide +kernel
theorem dX5_readAct_90 : decode cX5_readAct 90 = .ok (.aload_n 0, 1) := by decide +kernel
theorem dX5_readAct_91 : decode cX5_readAct 91 = .ok (.getfield 21, 3) := by decide +kernel
theorem dX5_readAct_94 : decode cX5_readAct 94 = .ok (.iload_n 3, 1) := by decide +kernel
theorem dX5_readAct_95 : decode cX5_readAct 95 = .ok (.iaload, 1) := by decide +kernel
theorem dX5_readAct_96 : decode cX5_readAct 96 = .ok (.isub, 1) := by decide +kernel
theorem dX5_readAct_97 : decode cX5_readAct 97 = .ok (.invokevirtual 54, 3) := by decide +kernel
theorem dX5_readAct_100 : decode cX5_readAct 100 = .ok (.iastore, 1) := by decide +kernel
theorem dX5_readAct_101 : decode cX5_readAct 101 = .ok (.goto 183, 3) := by decide +kernel
theorem dX5_readAct_104 : decode cX5_readAct 104 = .ok (.aload_n 0, 1) := by decide +kernel
theorem dX5_readAct_105 : decode cX5_readAct 105 = .ok (.getfield 15, 3) := by decide +kernel
theorem dX5_readAct_108 : decode cX5_readAct 108 = .ok (.iload_n 3, 1) := by decide +kernel
theorem dX5_readAct_109 : decode cX5_readAct 109 = .ok (.aload_n 0, 1) := by decide +kernel
theorem dX5_readAct_110 : decode cX5_readAct 110 = .ok (.aload_n 1, 1) := by decide +kernel
theorem dX5_readAct_111 : decode cX5_readAct 111 = .ok (.iconst 0, 1) := by decide +kernel
theorem dX5_readAct_112 : decode cX5_readAct 112 = .ok (.bipush 39, 2) := by decide +kernel
theorem dX5_readAct_114 : decode cX5_readAct 114 = .ok (.invokevirtual 54, 3) := by decide +kernel
theorem dX5_readAct_117 : decode cX5_readAct 117 = .ok (.iastore, 1) := by decide +kernel
theorem dX5_readAct_118 : decode cX5_readAct 118 = .ok (.aload_n 0, 1) := by decide +kernel
theorem dX5_readAct_119 : decode cX5_readAct 119 = .ok (.getfield 18, 3) := by decide +kernel
theorem dX5_readAct_122 : decode cX5_readAct 122 = .ok (.iload_n 3, 1) := by decide +kernel
theorem dX5_readAct_123 : decode cX5_readAct 123 = .ok (.aload_n 0, 1) := by decide +kernel
theorem dX5_readAct_124 : decode cX5_readAct 124 = .ok (.aload_n 1, 1) := by decide +kernel
theorem dX5_readAct_125 : decode cX5_readAct 125 = .ok (.iconst 0, 1) := by decide +kernel
theorem dX5_readAct_126 : decode cX5_readAct 126 = .ok (.bipush 39, 2) := by decide +kernel
theorem dX5_readAct_128 : decode cX5_readAct 128 = .ok (.invokevirtual 54, 3) := by decide +kernel
theorem dX5_readAct_131 : decode cX5_readAct 131 = .ok (.iastore, 1) := by decide +kernel
theorem dX5_readAct_132 : decode cX5_readAct 132 = .ok (.aload_n 0, 1) := by decide +kernel
theorem dX5_readAct_133 : decode cX5_readAct 133 = .ok (.getfield 21, 3) := by decide +kernel
theorem dX5_readAct_136 : decode cX5_readAct 136 = .ok (.iload_n 3, 1) := by decide +kernel
theorem dX5_readAct_137 : decode cX5_readAct 137 = .ok (.aload_n 0, 1) := by decide +kernel
theorem dX5_readAct_138 : decode cX5_readAct 138 = .ok (.aload_n 1, 1) := by decide +kernel
theorem dX5_readAct_139 : decode cX5_readAct 139 = .ok (.iconst 1, 1) := by decide +kernel
theorem dX5_readAct_140 : decode cX5_readAct 140 = .ok (.bipush 40, 2) := by decide +kernel
theorem dX5_readAct_142 : decode cX5_readAct 142 = .ok (.aload_n 0, 1) := by decide +kernel
theorem dX5_readAct_143 : decode cX5_readAct 143 = .ok (.getfield 15, 3) := by decide +kernel
theorem dX5_readAct_146 : decode cX5_readAct 146 = .ok (.iload_n 3, 1) := by decide +kernel
theorem dX5_readAct_147 : decode cX5_readAct 147 = .ok (.iaload, 1) := by decide +kernel
theorem dX5_readAct_148 : decode cX5_readAct 148 = .ok (.aload_n 0, 1) := by decide +kernel
theorem dX5_readAct_149 : decode cX5_readAct 149 = .ok (.getfield 18, 3) := by decide +kernel
theorem dX5_readAct_152 : decode cX5_readAct 152 = .ok (.iload_n 3, 1) := by decide +kernel
theorem dX5_readAct_153 : decode cX5_readAct 153 = .ok (.iaload, 1) := by decide +kernel
theorem dX5_readAct_154 : decode cX5_readAct 154 = .ok (.invokestatic 48, 3) := by decide +kernel
theorem dX5_readAct_157 : decode cX5_readAct 157 = .ok (.isub, 1) := by decide +kernel
theorem dX5_readAct_158 : decode cX5_readAct 158 = .ok (.invokevirtual 54, 3) := by decide +kernel
theorem dX5_readAct_161 : decode cX5_readAct 161 = .ok (.iastore, 1) := by decide +kernel
theorem dX5_readAct_162 : decode cX5_readAct 162 = .ok (.goto 122, 3) := by decide +kernel
theorem dX5_readAct_165 : decode cX5_readAct 165 = .ok (.aload_n 0, 1) := by decide +kernel
theorem dX5_readAct_166 : decode cX5_readAct 166 = .ok (.getfield 15, 3) := by decide +kernel
theorem dX5_readAct_169 : decode cX5_readAct 169 = .ok (.iload_n 3, 1) := by decide +kernel
theorem dX5_readAct_170 : decode cX5_readAct 170 = .ok (.aload_n 0, 1) := by decide +kernel
theorem dX5_readAct_171 : decode cX5_readAct 171 = .ok (.aload_n 1, 1) := by decide +kernel
theorem dX5_readAct_172 : decode cX5_readAct 172 = .ok (.iconst 0, 1) := by decide +kernel
theorem dX5_readAct_173 : decode cX5_readAct 173 = .ok (.bipush 39, 2) := by decide +kernel
theorem dX5_readAct_175 : decode cX5_readAct 175 = .ok (.invokevirtual 54, 3) := by decide +kernel
theorem dX5_readAct_178 : decode cX5_readAct 178 = .ok (.iastore, 1) := by decide +kernel
theorem dX5_readAct_179 : decode cX5_readAct 179 = .ok (.aload_n 0, 1) := by decide +kernel
theorem dX5_readAct_180 : decode cX5_readAct 180 = .ok (.getfield 18, 3) := by decide +kernel
theorem dX5_readAct_183 : decode cX5_readAct 183 = .ok (.iload_n 3, 1) := by decide +kernel
theorem dX5_readAct_184 : decode cX5_readAct 184 = .ok (.aload_n 0, 1) := by decide +kernel
theorem dX5_readAct_185 : decode cX5_readAct 185 = .ok (.aload_n 1, 1) := by decide +kernel
theorem dX5_readAct_186 : decode cX5_readAct 186 = .ok (.iconst 0, 1) := by decide +kernel
theorem dX5_readAct_187 : decode cX5_readAct 187 = .ok (.bipush 19, 2) := by decide +kernel
theorem dX5_readAct_189 : decode cX5_readAct 189 = .ok (.invokevirtual 54, 3) := by decide +kernel
theorem dX5_readAct_192 : decode cX5_readAct 192 = .ok (.iastore, 1) := by decide +kernel
theorem dX5_readAct_193 : decode cX5_readAct 193 = .ok (.aload_n 0, 1) := by decide +kernel
theorem dX5_readAct_194 : decode cX5_readAct 194 = .ok (.getfield 21, 3) := by decide +kernel
theorem dX5_readAct_197 : decode cX5_readAct 197 = .ok (.iload_n 3, 1) := by decide +kernel
theorem dX5_readAct_198 : decode cX5_readAct 198 = .ok (.aload_n 0, 1) := by decide +kernel
theorem dX5_readAct_199 : decode cX5_readAct 199 = .ok (.aload_n 1, 1) := by decide +kernel
theorem dX5_readAct_200 : decode cX5_readAct 200 = .ok (.iconst 1, 1) := by decide +kernel
theorem dX5_readAct_201 : decode cX5_readAct 201 = .ok (.bipush 40, 2) := by decide +kernel
theorem dX5_readAct_203 : decode cX5_readAct 203 = .ok (.aload_n 0, 1) := by decide +kernel
theorem dX5_readAct_204 : decode cX5_readAct 204 = .ok (.getfield 15, 3) := by decide +kernel
theorem dX5_readAct_207 : decode cX5_readAct 207 = .ok (.iload_n 3, 1) := by decide +kernel
theorem dX5_readAct_208 : decode cX5_readAct 208 = .ok (.iaload, 1) := by decide +kernel
theorem dX5_readAct_209 : decode cX5_readAct 209 = .ok (.isub, 1) := by decide +kernel
theorem dX5_readAct_210 : decode cX5_readAct 210 = .ok (.bipush 20, 2) := by decide +kernel
theorem dX5_readAct_212 : decode cX5_readAct 212 = .ok (.aload_n 0, 1) := by decide +kernel
theorem dX5_readAct_213 : decode cX5_readAct 213 = .ok (.getfield 18, 3) := by decide +kernel
theorem dX5_readAct_216 : decode cX5_readAct 216 = .ok (.iload_n 3, 1) := by decide +kernel
theorem dX5_readAct_217 : decode cX5_readAct 217 = .ok (.iaload, 1) := by decide +kernel
theorem dX5_readAct_218 : decode cX5_readAct 218 = .ok (.isub, 1) := by decide +kernel
theorem dX5_readAct_219 : decode cX5_readAct 219 = .ok (.invokestatic 42, 3) := by decide +kernel
theorem dX5_readAct_222 : decode cX5_readAct 222 = .ok (.invokevirtual 54, 3) := by decide +kernel
theorem dX5_readAct_225 : decode cX5_readAct 225 = .ok (.iastore, 1) := by decide +kernel
theorem dX5_readAct_226 : decode cX5_readAct 226 = .ok (.goto 58, 3) := by decide +kernel
theorem dX5_readAct_229 : decode cX5_readAct 229 = .ok (.aload_n 0, 1) := by decide +kernel
theorem dX5_readAct_230 : decode cX5_readAct 230 = .ok (.getfield 15, 3) := by decide +kernel
theorem dX5_readAct_233 : decode cX5_readAct 233 = .ok (.iload_n 3, 1) := by decide +kernel
theorem dX5_readAct_234 : decode cX5_readAct 234 = .ok (.aload_n 0, 1) := by decide +kernel
theorem dX5_readAct_235 : decode cX5_readAct 235 = .ok (.aload_n 1, 1) := by decide +kernel
theorem dX5_readAct_236 : decode cX5_readAct 236 = .ok (.iconst 0, 1) := by decide +kernel
theorem dX5_readAct_237 : decode cX5_readAct 237 = .ok (.bipush 39, 2) := by decide +kernel
theorem dX5_readAct_239 : decode cX5_readAct 239 = .ok (.invokevirtual 54, 3) := by decide +kernel
theorem dX5_readAct_242 : decode cX5_readAct 242 = .ok (.iastore, 1) := by decide +kernel
theorem dX5_readAct_243 : decode cX5_readAct 243 = .ok (.aload_n 0, 1) := by decide +kernel
theorem dX5_readAct_244 : decode cX5_readAct 244 = .ok (.getfield 21, 3) := by decide +kernel
theorem dX5_readAct_247 : decode cX5_readAct 247 = .ok (.iload_n 3, 1) := by decide +kernel
theorem dX5_readAct_248 : decode cX5_readAct 248 = .ok (.aload_n 0, 1) := by decide +kernel
theorem dX5_readAct_249 : decode cX5_readAct 249 = .ok (.aload_n 1, 1) := by decide +kernel
theorem dX5_readAct_250 : decode cX5_readAct 250 = .ok (.iconst 1, 1) := by decide +kernel
theorem dX5_readAct_251 : decode cX5_readAct 251 = .ok (.bipush 40, 2) := by decide +kernel
theorem dX5_readAct_253 : decode cX5_readAct 253 = .ok (.aload_n 0, 1) := by decide +kernel
theorem dX5_readAct_254 : decode cX5_readAct 254 = .ok (.getfield 15, 3) := by decide +kernel
theorem dX5_readAct_257 : decode cX5_readAct 257 = .ok (.iload_n 3, 1) := by decide +kernel
theorem dX5_readAct_258 : decode cX5_readAct 258 = .ok (.iaload, 1) := by decide +kernel
theorem dX5_readAct_259 : decode cX5_readAct 259 = .ok (.isub, 1) := by decide +kernel
theorem dX5_readAct_260 : decode cX5_readAct 260 = .ok (.invokevirtual 54, 3) := by decide +kernel
theorem dX5_readAct_263 : decode cX5_readAct 263 = .ok (.iastore, 1) := by decide +kernel
theorem dX5_readAct_264 : decode cX5_readAct 264 = .ok (.aload_n 0, 1) := by decide +kernel
theorem dX5_readAct_265 : decode cX5_readAct 265 = .ok (.getfield 18, 3) := by decide +kernel
theorem dX5_readAct_268 : decode cX5_readAct 268 = .ok (.iload_n 3, 1) := by decide +kernel
theorem dX5_readAct_269 : decode cX5_readAct 269 = .ok (.aload_n 0, 1) := by decide +kernel
theorem dX5_readAct_270 : decode cX5_readAct 270 = .ok (.getfield 34, 3) := by decide +kernel
theorem dX5_readAct_273 : decode cX5_readAct 273 = .ok (.iastore, 1) := by decide +kernel
theorem dX5_readAct_274 : decode cX5_readAct 274 = .ok (.aload_n 0, 1) := by decide +kernel
theorem dX5_readAct_275 : decode cX5_readAct 275 = .ok (.aload_n 0, 1) := by decide +kernel
theorem dX5_readAct_276 : decode cX5_readAct 276 = .ok (.getfield 21, 3) := by decide +kernel
theorem dX5_readAct_279 : decode cX5_readAct 279 = .ok (.iload_n 3, 1) := by decide +kernel
theorem dX5_readAct_280 : decode cX5_readAct 280 = .ok (.iaload, 1) := by decide +kernel
theorem dX5_readAct_281 : decode cX5_readAct 281 = .ok (.invokevirtual 69, 3) := by decide +kernel
theorem dX5_readAct_284 : decode cX5_readAct 284 = .ok (.aload_n 0, 1) := by decide +kernel
theorem dX5_readAct_285 : decode cX5_readAct 285 = .ok (.getfield 31, 3) := by decide +kernel
theorem dX5_readAct_288 : decode cX5_readAct 288 = .ok (.ifCond .ne 13, 3) := by decide +kernel
theorem dX5_readAct_291 : decode cX5_readAct 291 = .ok (.aload_n 0, 1) := by decide +kernel
theorem dX5_readAct_292 : decode cX5_readAct 292 = .ok (.dup, 1) := by decide +kernel
theorem dX5_readAct_293 : decode cX5_readAct 293 = .ok (.getfield 28, 3) := by decide +kernel
theorem dX5_readAct_296 : decode cX5_readAct 296 = .ok (.iconst 1, 1) := by decide +kernel
theorem dX5_readAct_297 : decode cX5_readAct 297 = .ok (.iadd, 1) := by decide +kernel
theorem dX5_readAct_298 : decode cX5_readAct 298 = .ok (.putfield 28, 3) := by decide +kernel
theorem dX5_readAct_301 : decode cX5_readAct 301 = .ok (.return_, 1) := by decide +kernel
abbrev k_X5_readAct (E : g_E) (l : Launch) (D : g_D) (k : Nat) (r1 : Nat) (v2 : Int) (K : g_D → Prop) : Prop := g_Kv E l m_X5_readAct 2 [g_R k, g_R r1, g_I v2] g_SH D K
abbrev n_X5_readAct (E : g_E) (l : Launch) (D : g_D) (pc : Nat) (L : List (Option g_V)) (K : g_D → Prop) : Prop := g_N E l m_X5_readAct 2 pc L [] g_SH D (g_Rv g_SH K)
theorem s_X5_readAct {E : g_E} {l : Launch} {D : g_D} {K : g_D → Prop} {nr1 : Nat} {k : Nat} {r1 : Nat} {v2 : Int} (hk : is_Reader g_SH k) (hr1 : is_Cells g_SH r1 nr1) (hF : g_okD D → g_r v2 → (0 ≤ (D k 4) ∧ (D k 4) < 36) ∧ (∀ D1, D1 = g_up D (k + 1) (D k 4).toNat v2 → ((v2 = 1 → k_X5_readNumber E l D1 k r1 0 39 (fun x2 D2 => g_r x2 → (0 ≤ (D k 4) ∧ (D k 4) < 36) ∧ (∀ D3, D3 = g_up D2 (k + 3) (D k 4).toNat x2 → ((0 ≤ (D k 4) ∧ (D k 4) < 36) ∧ ((g_r (40 - (D3 (k + 3) (D k 4).toNat))) ∧ (k_X5_readNumber E l D3 k r1 1 (min 20 (40 - (D3 (k + 3) (D k 4).toNat))) (fun x4 D4 => g_r x4 → (0 ≤ (D k 4) ∧ (D k 4) < 36) ∧ (∀ D5, D5 = g_up D4 (k + 4) (D k 4).toNat x4 → ((0 ≤ (D k 4) ∧ (D k 4) < 36) ∧ ((g_r (20 - (D5 (k + 4) (D k 4).toNat))) ∧ (k_X5_readNumber E l D5 k r1 0 (20 - (D5 (k + 4) (D k 4).toNat)) (fun x6 D6 => g_r x6 → (0 ≤ (D k 4) ∧ (D k 4) < 36) ∧ (∀ D7, D7 = g_up D6 (k + 2) (D k 4).toNat x6 → ((¬ (D7 k 5) = 0 → K D7) ∧ ((D7 k 5) = 0 → (g_r ((D7 k 4) + 1)) ∧ (∀ D8, D8 = g_up D7 k 4 ((D7 k 4) + 1) → (K D8))))))))))))))))) ∧ (v2 = 2 → k_X5_readNumber E l D1 k r1 0 39 (fun x9 D9 => g_r x9 → (0 ≤ (D k 4) ∧ (D k 4) < 36) ∧ (∀ D10, D10 = g_up D9 (k + 2) (D k 4).toNat x9 → (k_X5_readNumber E l D10 k r1 0 39 (fun x11 D11 => g_r x11 → (0 ≤ (D k 4) ∧ (D k 4) < 36) ∧ (∀ D12, D12 = g_up D11 (k + 3) (D k 4).toNat x11 → ((0 ≤ (D k 4) ∧ (D k 4) < 36) ∧ ((0 ≤ (D k 4) ∧ (D k 4) < 36) ∧ ((g_r (40 - (max (D12 (k + 2) (D k 4).toNat) (D12 (k + 3) (D k 4).toNat)))) ∧ (k_X5_readNumber E l D12 k r1 1 (40 - (max (D12 (k + 2) (D k 4).toNat) (D12 (k + 3) (D k 4).toNat))) (fun x13 D13 => g_r x13 → (0 ≤ (D k 4) ∧ (D k 4) < 36) ∧ (∀ D14, D14 = g_up D13 (k + 4) (D k 4).toNat x13 → ((¬ (D14 k 5) = 0 → K D14) ∧ ((D14 k 5) = 0 → (g_r ((D14 k 4) + 1)) ∧ (∀ D15, D15 = g_up D14 k 4 ((D14 k 4) + 1) → (K D15)))))))))))))))) ∧ (v2 = 3 → k_X5_readNumber E l D1 k r1 0 39 (fun x16 D16 => g_r x16 → (0 ≤ (D k 4) ∧ (D k 4) < 36) ∧ (∀ D17, D17 = g_up D16 (k + 2) (D k 4).toNat x16 → (k_X5_readNumber E l D17 k r1 0 19 (fun x18 D18 => g_r x18 → (0 ≤ (D k 4) ∧ (D k 4) < 36) ∧ (∀ D19, D19 = g_up D18 (k + 3) (D k 4).toNat x18 → ((0 ≤ (D k 4) ∧ (D k 4) < 36) ∧ ((g_r (40 - (D19 (k + 2) (D k 4).toNat))) ∧ ((0 ≤ (D k 4) ∧ (D k 4) < 36) ∧ ((g_r (20 - (D19 (k + 3) (D k 4).toNat))) ∧ (k_X5_readNumber E l D19 k r1 1 (min (40 - (D19 (k + 2) (D k 4).toNat)) (20 - (D19 (k + 3) (D k 4).toNat))) (fun x20 D20 => g_r x20 → (0 ≤ (D k 4) ∧ (D k 4) < 36) ∧ (∀ D21, D21 = g_up D20 (k + 4) (D k 4).toNat x20 → ((¬ (D21 k 5) = 0 → K D21) ∧ ((D21 k 5) = 0 → (g_r ((D21 k 4) + 1)) ∧ (∀ D22, D22 = g_up D21 k 4 ((D21 k 4) + 1) → (K D22))))))))))))))))) ∧ ((v2 < 1 ∨ 3 < v2) → k_X5_readNumber E l D1 k r1 0 39 (fun x23 D23 => g_r x23 → (0 ≤ (D k 4) ∧ (D k 4) < 36) ∧ (∀ D24, D24 = g_up D23 (k + 2) (D k 4).toNat x23 → ((0 ≤ (D k 4) ∧ (D k 4) < 36) ∧ ((g_r (40 - (D24 (k + 2) (D k 4).toNat))) ∧ (k_X5_readNumber E l D24 k r1 1 (40 - (D24 (k + 2) (D k 4).toNat)) (fun x25 D25 => g_r x25 → (0 ≤ (D k 4) ∧ (D k 4) < 36) ∧ (∀ D26, D26 = g_up D25 (k + 4) (D k 4).toNat x25 → ((0 ≤ (D k 4) ∧ (D k 4) < 36) ∧ (∀ D27, D27 = g_up D26 (k + 3) (D k 4).toNat (D26 k 7) → ((0 ≤ (D k 4) ∧ (D k 4) < 36) ∧ (k_X5_passCells E l D27 k (D27 (k + 4) (D k 4).toNat) (fun D28 => (¬ (D28 k 5) = 0 → K D28) ∧ ((D28 k 5) = 0 → (g_r ((D28 k 4) + 1)) ∧ (∀ D29, D29 = g_up D28 k 4 ((D28 k 4) + 1) → (K D29))))))))))))))))))) : k_X5_readAct E l D k r1 v2 K := by
  refine g_enter (by decide) (Nat.le_of_ble_eq_true rfl) ?_
  show g_N E l m_X5_readAct 2 0 [some (g_R k), some (g_R r1), some (g_I v2), none] [] g_SH D (g_Rv g_SH K)
  refine g_use (fun ok => ?_)
  have hF := hF ok.2.1 (ok.loc (i := 2) rfl)
  refine g_aload_n dX5_readAct_0 rfl ?_
  refine g_getI dX5_readAct_1 fd_X5_28 hk.1 rfl ?_
  refine gw_istore_n (L' := [some (g_R k), some (g_R r1), some (g_I v2), some (g_I (D k 4))]) dX5_readAct_4 (by decide) rfl ?_
  refine g_aload_n dX5_readAct_5 rfl ?_
  refine g_getR dX5_readAct_6 fd_X5_9 hk.1 rfl ?_
  refine g_iload_n dX5_readAct_9 rfl ?_
  refine g_iload_n dX5_readAct_10 rfl ?_
  obtain ⟨hc, hF⟩ := hF
  let D1 : g_D := g_up D (k + 1) (D k 4).toNat v2
  have hF := hF D1 rfl
  refine g_iast dX5_readAct_11 hk.2.1 hc.1 hc.2 ?_
  refine g_iload_n dX5_readAct_12 rfl ?_
  rcases Decidable.em (v2 = 1) with q13_0 | q13_0
  · have hF := hF.1 q13_0
    refine g_tsIn dX5_readAct_13 (by omega) (by omega) (by rw [q13_0] <;> rfl) rfl ?_
    refine g_aload_n dX5_readAct_40 rfl ?_
    refine g_getR dX5_readAct_41 fd_X5_18 hk.1 rfl ?_
    refine g_iload_n dX5_readAct_44 rfl ?_
    refine g_aload_n dX5_readAct_45 rfl ?_
    refine g_aload_n dX5_readAct_46 rfl ?_
    refine g_iconst dX5_readAct_47 ⟨by decide, by decide⟩ ?_
    refine g_bipush dX5_readAct_48 ⟨by decide, by decide⟩ ?_
    refine gw_cVi (b := k) (As := [g_R r1, g_I 0, g_I 39]) (rest := [g_I (D k 4), g_R (k + 3)]) dX5_readAct_50 mv_X5_54 hk.1 rfl (Nat.le_of_ble_eq_true rfl) (by decide) rfl hF ?_
    intro x2 D2 hx2 hF
    have hF := hF hx2
    obtain ⟨hc, hF⟩ := hF
    let D3 : g_D := g_up D2 (k + 3) (D k 4).toNat x2
    have hF := hF D3 rfl
    refine g_iast dX5_readAct_53 hk.2.2.2.1 hc.1 hc.2 ?_
    refine g_aload_n dX5_readAct_54 rfl ?_
    refine g_getR dX5_readAct_55 fd_X5_21 hk.1 rfl ?_
    refine g_iload_n dX5_readAct_58 rfl ?_
    refine g_aload_n dX5_readAct_59 rfl ?_
    refine g_aload_n dX5_readAct_60 rfl ?_
    refine g_iconst dX5_readAct_61 ⟨by decide, by decide⟩ ?_
    refine g_bipush dX5_readAct_62 ⟨by decide, by decide⟩ ?_
    refine g_bipush dX5_readAct_64 ⟨by decide, by decide⟩ ?_
    refine g_aload_n dX5_readAct_66 rfl ?_
    refine g_getR dX5_readAct_67 fd_X5_18 hk.1 rfl ?_
    refine g_iload_n dX5_readAct_70 rfl ?_
    obtain ⟨hc, hF⟩ := hF
    refine g_iald dX5_readAct_71 hk.2.2.2.1 hc.1 hc.2 ?_
    obtain ⟨hc, hF⟩ := hF
    refine g_isub dX5_readAct_72 hc ?_
    refine g_min dX5_readAct_73 mw_X5_42 (by decide) (Nat.le_refl _) (Nat.le_refl _) (Nat.le_of_ble_eq_true rfl) ?_
    refine gw_cVi (b := k) (As := [g_R r1, g_I 1, g_I (min 20 (40 - (D3 (k + 3) (D k 4).toNat)))]) (rest := [g_I (D k 4), g_R (k + 4)]) dX5_readAct_76 mv_X5_54 hk.1 rfl (Nat.le_of_ble_eq_true rfl) (by decide) rfl hF ?_
    intro x4 D4 hx4 hF
    have hF := hF hx4
    obtain ⟨hc, hF⟩ := hF
    let D5 : g_D := g_up D4 (k + 4) (D k 4).toNat x4
    have hF := hF D5 rfl
    refine g_iast dX5_readAct_79 hk.2.2.2.2 hc.1 hc.2 ?_
    refine g_aload_n dX5_readAct_80 rfl ?_
    refine g_getR dX5_readAct_81 fd_X5_15 hk.1 rfl ?_
    refine g_iload_n dX5_readAct_84 rfl ?_
    refine g_aload_n dX5_readAct_85 rfl ?_
    refine g_aload_n dX5_readAct_86 rfl ?_
    refine g_iconst dX5_readAct_87 ⟨by decide, by decide⟩ ?_
    refine g_bipush dX5_readAct_88 ⟨by decide, by decide⟩ ?_
    refine g_aload_n dX5_readAct_90 rfl ?_
    refine g_getR dX5_readAct_91 fd_X5_21 hk.1 rfl ?_
    refine g_iload_n dX5_readAct_94 rfl ?_
    obtain ⟨hc, hF⟩ := hF
    refine g_iald dX5_readAct_95 hk.2.2.2.2 hc.1 hc.2 ?_
    obtain ⟨hc, hF⟩ := hF
    refine g_isub dX5_readAct_96 hc ?_
    refine gw_cVi (b := k) (As := [g_R r1, g_I 0, g_I (20 - (D5 (k + 4) (D k 4).toNat))]) (rest := [g_I (D k 4), g_R (k + 2)]) dX5_readAct_97 mv_X5_54 hk.1 rfl (Nat.le_of_ble_eq_true rfl) (by decide) rfl hF ?_
    intro x6 D6 hx6 hF
    have hF := hF hx6
    obtain ⟨hc, hF⟩ := hF
    let D7 : g_D := g_up D6 (k + 2) (D k 4).toNat x6
    have hF := hF D7 rfl
    refine g_iast dX5_readAct_100 hk.2.2.1 hc.1 hc.2 ?_
    refine g_goto dX5_readAct_101 rfl ?_
    refine g_aload_n dX5_readAct_284 rfl ?_
    refine g_getI dX5_readAct_285 fd_X5_31 hk.1 rfl ?_
    refine g_ifne dX5_readAct_288 rfl (fun q => ?_) (fun q => ?_)
    · have hF := hF.1 q
      exact gw_vret dX5_readAct_301 rfl hF
    · have hF := hF.2 q
      refine g_aload_n dX5_readAct_291 rfl ?_
      refine g_dup dX5_readAct_292 rfl ?_
      refine g_getI dX5_readAct_293 fd_X5_28 hk.1 rfl ?_
      refine g_iconst dX5_readAct_296 ⟨by decide, by decide⟩ ?_
      obtain ⟨hc, hF⟩ := hF
      refine g_iadd dX5_readAct_297 hc ?_
      let D8 : g_D := g_up D7 k 4 ((D7 k 4) + 1)
      have hF := hF D8 rfl
      refine g_put dX5_readAct_298 fd_X5_28 (g_ftyI (C := RX5) (T := TX5) (N := 9) rfl rfl (by decide +kernel)) hk.1 rfl ?_
      exact gw_vret dX5_readAct_301 rfl hF
  rcases Decidable.em (v2 = 2) with q13_1 | q13_1
  · have hF := hF.2.1 q13_1
    refine g_tsIn dX5_readAct_13 (by omega) (by omega) (by rw [q13_1] <;> rfl) rfl ?_
    refine g_aload_n dX5_readAct_104 rfl ?_
    refine g_getR dX5_readAct_105 fd_X5_15 hk.1 rfl ?_
    refine g_iload_n dX5_readAct_108 rfl ?_
    refine g_aload_n dX5_readAct_109 rfl ?_
    refine g_aload_n dX5_readAct_110 rfl ?_
    refine g_iconst dX5_readAct_111 ⟨by decide, by decide⟩ ?_
    refine g_bipush dX5_readAct_112 ⟨by decide, by decide⟩ ?_
    refine gw_cVi (b := k) (As := [g_R r1, g_I 0, g_I 39]) (rest := [g_I (D k 4), g_R (k + 2)]) dX5_readAct_114 mv_X5_54 hk.1 rfl (Nat.le_of_ble_eq_true rfl) (by decide) rfl hF ?_
    intro x9 D9 hx9 hF
    have hF := hF hx9
    obtain ⟨hc, hF⟩ := hF
    let D10 : g_D := g_up D9 (k + 2) (D k 4).toNat x9
    have hF := hF D10 rfl
    refine g_iast dX5_readAct_117 hk.2.2.1 hc.1 hc.2 ?_
    refine g_aload_n dX5_readAct_118 rfl ?_
    refine g_getR dX5_readAct_119 fd_X5_18 hk.1 rfl ?_
    refine g_iload_n dX5_readAct_122 rfl ?_
    refine g_aload_n dX5_readAct_123 rfl ?_
    refine g_aload_n dX5_readAct_124 rfl ?_
    refine g_iconst dX5_readAct_125 ⟨by decide, by decide⟩ ?_
    refine g_bipush dX5_readAct_126 ⟨by decide, by decide⟩ ?_
    refine gw_cVi (b := k) (As := [g_R r1, g_I 0, g_I 39]) (rest := [g_I (D k 4), g_R (k + 3)]) dX5_readAct_128 mv_X5_54 hk.1 rfl (Nat.le_of_ble_eq_true rfl) (by decide) rfl hF ?_
    intro x11 D11 hx11 hF
    have hF := hF hx11
    obtain ⟨hc, hF⟩ := hF
    let D12 : g_D := g_up D11 (k + 3) (D k 4).toNat x11
    have hF := hF D12 rfl
    refine g_iast dX5_readAct_131 hk.2.2.2.1 hc.1 hc.2 ?_
    refine g_aload_n dX5_readAct_132 rfl ?_
    refine g_getR dX5_readAct_133 fd_X5_21 hk.1 rfl ?_
    refine g_iload_n dX5_readAct_136 rfl ?_
    refine g_aload_n dX5_readAct_137 rfl ?_
    refine g_aload_n dX5_readAct_138 rfl ?_
    refine g_iconst dX5_readAct_139 ⟨by decide, by decide⟩ ?_
    refine g_bipush dX5_readAct_140 ⟨by decide, by decide⟩ ?_
    refine g_aload_n dX5_readAct_142 rfl ?_
    refine g_getR dX5_readAct_143 fd_X5_15 hk.1 rfl ?_
    refine g_iload_n dX5_readAct_146 rfl ?_
    obtain ⟨hc, hF⟩ := hF
    refine g_iald dX5_readAct_147 hk.2.2.1 hc.1 hc.2 ?_
    refine g_aload_n dX5_readAct_148 rfl ?_
    refine g_getR dX5_readAct_149 fd_X5_18 hk.1 rfl ?_
    refine g_iload_n dX5_readAct_152 rfl ?_
    obtain ⟨hc, hF⟩ := hF
    refine g_iald dX5_readAct_153 hk.2.2.2.1 hc.1 hc.2 ?_
    refine g_max dX5_readAct_154 mw_X5_48 (by decide) (Nat.le_refl _) (Nat.le_refl _) (Nat.le_of_ble_eq_true rfl) ?_
    obtain ⟨hc, hF⟩ := hF
    refine g_isub dX5_readAct_157 hc ?_
    refine gw_cVi (b := k) (As := [g_R r1, g_I 1, g_I (40 - (max (D12 (k + 2) (D k 4).toNat) (D12 (k + 3) (D k 4).toNat)))]) (rest := [g_I (D k 4), g_R (k + 4)]) dX5_readAct_158 mv_X5_54 hk.1 rfl (Nat.le_of_ble_eq_true rfl) (by decide) rfl hF ?_
    intro x13 D13 hx13 hF
    have hF := hF hx13
    obtain ⟨hc, hF⟩ := hF
    let D14 : g_D := g_up D13 (k + 4) (D k 4).toNat x13
    have hF := hF D14 rfl
    refine g_iast dX5_readAct_161 hk.2.2.2.2 hc.1 hc.2 ?_
    refine g_goto dX5_readAct_162 rfl ?_
    refine g_aload_n dX5_readAct_284 rfl ?_
    refine g_getI dX5_readAct_285 fd_X5_31 hk.1 rfl ?_
    refine g_ifne dX5_readAct_288 rfl (fun q => ?_) (fun q => ?_)
    · have hF := hF.1 q
      exact gw_vret dX5_readAct_301 rfl hF
    · have hF := hF.2 q
      refine g_aload_n dX5_readAct_291 rfl ?_
      refine g_dup dX5_readAct_292 rfl ?_
      refine g_getI dX5_readAct_293 fd_X5_28 hk.1 rfl ?_
      refine g_iconst dX5_readAct_296 ⟨by decide, by decide⟩ ?_
      obtain ⟨hc, hF⟩ := hF
      refine g_iadd dX5_readAct_297 hc ?_
      let D15 : g_D := g_up D14 k 4 ((D14 k 4) + 1)
      have hF := hF D15 rfl
      refine g_put dX5_readAct_298 fd_X5_28 (g_ftyI (C := RX5) (T := TX5) (N := 9) rfl rfl (by decide +kernel)) hk.1 rfl ?_
      exact gw_vret dX5_readAct_301 rfl hF
  rcases Decidable.em (v2 = 3) with q13_2 | q13_2
  · have hF := hF.2.2.1 q13_2
    refine g_tsIn dX5_readAct_13 (by omega) (by omega) (by rw [q13_2] <;> rfl) rfl ?_
    refine g_aload_n dX5_readAct_165 rfl ?_
    refine g_getR dX5_readAct_166 fd_X5_15 hk.1 rfl ?_
    refine g_iload_n dX5_readAct_169 rfl ?_
    refine g_aload_n dX5_readAct_170 rfl ?_
    refine g_aload_n dX5_readAct_171 rfl ?_
    refine g_iconst dX5_readAct_172 ⟨by decide, by decide⟩ ?_
    refine g_bipush dX5_readAct_173 ⟨by decide, by decide⟩ ?_
    refine gw_cVi (b := k) (As := [g_R r1, g_I 0, g_I 39]) (rest := [g_I (D k 4), g_R (k + 2)]) dX5_readAct_175 mv_X5_54 hk.1 rfl (Nat.le_of_ble_eq_true rfl) (by decide) rfl hF ?_
    intro x16 D16 hx16 hF
    have hF := hF hx16
    obtain ⟨hc, hF⟩ := hF
    let D17 : g_D := g_up D16 (k + 2) (D k 4).toNat x16
    have hF := hF D17 rfl
    refine g_iast dX5_readAct_178 hk.2.2.1 hc.1 hc.2 ?_
    refine g_aload_n dX5_readAct_179 rfl ?_
    refine g_getR dX5_readAct_180 fd_X5_18 hk.1 rfl ?_
    refine g_iload_n dX5_readAct_183 rfl ?_
    refine g_aload_n dX5_readAct_184 rfl ?_
    refine g_aload_n dX5_readAct_185 rfl ?_
    refine g_iconst dX5_readAct_186 ⟨by decide, by decide⟩ ?_
    refine g_bipush dX5_readAct_187 ⟨by decide, by decide⟩ ?_
    refine gw_cVi (b := k) (As := [g_R r1, g_I 0, g_I 19]) (rest := [g_I (D k 4), g_R (k + 3)]) dX5_readAct_189 mv_X5_54 hk.1 rfl (Nat.le_of_ble_eq_true rfl) (by decide) rfl hF ?_
    intro x18 D18 hx18 hF
    have hF := hF hx18
    obtain ⟨hc, hF⟩ := hF
    let D19 : g_D := g_up D18 (k + 3) (D k 4).toNat x18
    have hF := hF D19 rfl
    refine g_iast dX5_readAct_192 hk.2.2.2.1 hc.1 hc.2 ?_
    refine g_aload_n dX5_readAct_193 rfl ?_
    refine g_getR dX5_readAct_194 fd_X5_21 hk.1 rfl ?_
    refine g_iload_n dX5_readAct_197 rfl ?_
    refine g_aload_n dX5_readAct_198 rfl ?_
    refine g_aload_n dX5_readAct_199 rfl ?_
    refine g_iconst dX5_readAct_200 ⟨by decide, by decide⟩ ?_
    refine g_bipush dX5_readAct_201 ⟨by decide, by decide⟩ ?_
    refine g_aload_n dX5_readAct_203 rfl ?_
    refine g_getR dX5_readAct_204 fd_X5_15 hk.1 rfl ?_
    refine g_iload_n dX5_readAct_207 rfl ?_
    obtain ⟨hc, hF⟩ := hF
    refine g_iald dX5_readAct_208 hk.2.2.1 hc.1 hc.2 ?_
    obtain ⟨hc, hF⟩ := hF
    refine g_isub dX5_readAct_209 hc ?_
    refine g_bipush dX5_readAct_210 ⟨by decide, by decide⟩ ?_
    refine g_aload_n dX5_readAct_212 rfl ?_
    refine g_getR dX5_readAct_213 fd_X5_18 hk.1 rfl ?_
    refine g_iload_n dX5_readAct_216 rfl ?_
    obtain ⟨hc, hF⟩ := hF
    refine g_iald dX5_readAct_217 hk.2.2.2.1 hc.1 hc.2 ?_
    obtain ⟨hc, hF⟩ := hF
    refine g_isub dX5_readAct_218 hc ?_
    refine g_min dX5_readAct_219 mw_X5_42 (by decide) (Nat.le_refl _) (Nat.le_refl _) (Nat.le_of_ble_eq_true rfl) ?_
    refine gw_cVi (b := k) (As := [g_R r1, g_I 1, g_I (min (40 - (D19 (k + 2) (D k 4).toNat)) (20 - (D19 (k + 3) (D k 4).toNat)))]) (rest := [g_I (D k 4), g_R (k + 4)]) dX5_readAct_222 mv_X5_54 hk.1 rfl (Nat.le_of_ble_eq_true rfl) (by decide) rfl hF ?_
    intro x20 D20 hx20 hF
    have hF := hF hx20
    obtain ⟨hc, hF⟩ := hF
    let D21 : g_D := g_up D20 (k + 4) (D k 4).toNat x20
    have hF := hF D21 rfl
    refine g_iast dX5_readAct_225 hk.2.2.2.2 hc.1 hc.2 ?_
    refine g_goto dX5_readAct_226 rfl ?_
    refine g_aload_n dX5_readAct_284 rfl ?_
    refine g_getI dX5_readAct_285 fd_X5_31 hk.1 rfl ?_
    refine g_ifne dX5_readAct_288 rfl (fun q => ?_) (fun q => ?_)
    · have hF := hF.1 q
      exact gw_vret dX5_readAct_301 rfl hF
    · have hF := hF.2 q
      refine g_aload_n dX5_readAct_291 rfl ?_
      refine g_dup dX5_readAct_292 rfl ?_
      refine g_getI dX5_readAct_293 fd_X5_28 hk.1 rfl ?_
      refine g_iconst dX5_readAct_296 ⟨by decide, by decide⟩ ?_
      obtain ⟨hc, hF⟩ := hF
      refine g_iadd dX5_readAct_297 hc ?_
      let D22 : g_D := g_up D21 k 4 ((D21 k 4) + 1)
      have hF := hF D22 rfl
      refine g_put dX5_readAct_298 fd_X5_28 (g_ftyI (C := RX5) (T := TX5) (N := 9) rfl rfl (by decide +kernel)) hk.1 rfl ?_
      exact gw_vret dX5_readAct_301 rfl hF
  have q13 : v2 < 1 ∨ 3 < v2 := by omega
  have hF := hF.2.2.2 q13
  refine g_tsOut dX5_readAct_13 q13 rfl ?_
  refine g_aload_n dX5_readAct_229 rfl ?_
  refine g_getR dX5_readAct_230 fd_X5_15 hk.1 rfl ?_
  refine g_iload_n dX5_readAct_233 rfl ?_
  refine g_aload_n dX5_readAct_234 rfl ?_
  refine g_aload_n dX5_readAct_235 rfl ?_
  refine g_iconst dX5_readAct_236 ⟨by decide, by decide⟩ ?_
  refine g_bipush dX5_readAct_237 ⟨by decide, by decide⟩ ?_
  refine gw_cVi (b := k) (As := [g_R r1, g_I 0, g_I 39]) (rest := [g_I (D k 4), g_R (k + 2)]) dX5_readAct_239 mv_X5_54 hk.1 rfl (Nat.le_of_ble_eq_true rfl) (by decide) rfl hF ?_
  intro x23 D23 hx23 hF
  have hF := hF hx23
  obtain ⟨hc, hF⟩ := hF
  let D24 : g_D := g_up D23 (k + 2) (D k 4).toNat x23
  have hF := hF D24 rfl
  refine g_iast dX5_readAct_242 hk.2.2.1 hc.1 hc.2 ?_
  refine g_aload_n dX5_readAct_243 rfl ?_
  refine g_getR dX5_readAct_244 fd_X5_21 hk.1 rfl ?_
  refine g_iload_n dX5_readAct_247 rfl ?_
  refine g_aload_n dX5_readAct_248 rfl ?_
  refine g_aload_n dX5_readAct_249 rfl ?_
  refine g_iconst dX5_readAct_250 ⟨by decide, by decide⟩ ?_
  refine g_bipush dX5_readAct_251 ⟨by decide, by decide⟩ ?_
  refine g_aload_n dX5_readAct_253 rfl ?_
  refine g_getR dX5_readAct_254 fd_X5_15 hk.1 rfl ?_
  refine g_iload_n dX5_readAct_257 rfl ?_
  obtain ⟨hc, hF⟩ := hF
  refine g_iald dX5_readAct_258 hk.2.2.1 hc.1 hc.2 ?_
  obtain ⟨hc, hF⟩ := hF
  refine g_isub dX5_readAct_259 hc ?_
  refine gw_cVi (b := k) (As := [g_R r1, g_I 1, g_I (40 - (D24 (k + 2) (D k 4).toNat))]) (rest := [g_I (D k 4), g_R (k + 4)]) dX5_readAct_260 mv_X5_54 hk.1 rfl (Nat.le_of_ble_eq_true rfl) (by decide) rfl hF ?_
  intro x25 D25 hx25 hF
  have hF := hF hx25
  obtain ⟨hc, hF⟩ := hF
  let D26 : g_D := g_up D25 (k + 4) (D k 4).toNat x25
  have hF := hF D26 rfl
  refine g_iast dX5_readAct_263 hk.2.2.2.2 hc.1 hc.2 ?_
  refine g_aload_n dX5_readAct_264 rfl ?_
  refine g_getR dX5_readAct_265 fd_X5_18 hk.1 rfl ?_
  refine g_iload_n dX5_readAct_268 rfl ?_
  refine g_aload_n dX5_readAct_269 rfl ?_
  refine g_getI dX5_readAct_270 fd_X5_34 hk.1 rfl ?_
  obtain ⟨hc, hF⟩ := hF
  let D27 : g_D := g_up D26 (k + 3) (D k 4).toNat (D26 k 7)
  have hF := hF D27 rfl
  refine g_iast dX5_readAct_273 hk.2.2.2.1 hc.1 hc.2 ?_
  refine g_aload_n dX5_readAct_274 rfl ?_
  refine g_aload_n dX5_readAct_275 rfl ?_
  refine g_getR dX5_readAct_276 fd_X5_21 hk.1 rfl ?_
  refine g_iload_n dX5_readAct_279 rfl ?_
  obtain ⟨hc, hF⟩ := hF
  refine g_iald dX5_readAct_280 hk.2.2.2.2 hc.1 hc.2 ?_
  refine gw_cVv (b := k) (As := [g_I (D27 (k + 4) (D k 4).toNat)]) (rest := []) dX5_readAct_281 mv_X5_69 hk.1 rfl (Nat.le_of_ble_eq_true rfl) (by decide) rfl hF ?_
  intro D28 hF
  refine g_aload_n dX5_readAct_284 rfl ?_
  refine g_getI dX5_readAct_285 fd_X5_31 hk.1 rfl ?_
  refine g_ifne dX5_readAct_288 rfl (fun q => ?_) (fun q => ?_)
  · have hF := hF.1 q
    exact gw_vret dX5_readAct_301 rfl hF
  · have hF := hF.2 q
    refine g_aload_n dX5_readAct_291 rfl ?_
    refine g_dup dX5_readAct_292 rfl ?_
    refine g_getI dX5_readAct_293 fd_X5_28 hk.1 rfl ?_
    refine g_iconst dX5_readAct_296 ⟨by decide, by decide⟩ ?_
    obtain ⟨hc, hF⟩ := hF
    refine g_iadd dX5_readAct_297 hc ?_
    let D29 : g_D := g_up D28 k 4 ((D28 k 4) + 1)
    have hF := hF D29 rfl
    refine g_put dX5_readAct_298 fd_X5_28 (g_ftyI (C := RX5) (T := TX5) (N := 9) rfl rfl (by decide +kernel)) hk.1 rfl ?_
    exact gw_vret dX5_readAct_301 rfl hF
theorem dX5_readActs_0 : decode cX5_readActs 0 = .ok (.aload_n 0, 1) := by decide +kernel
theorem dX5_readActs_1 : decode cX5_readActs 1 = .ok (.iconst 0, 1) := by decide +kernel
theorem dX5_readActs_2 : decode cX5_readActs 2 = .ok (.putfield 28, 3) := by decide +kernel
theorem dX5_readActs_5 : decode cX5_readActs 5 = .ok (.aload_n 0, 1) := by decide +kernel
theorem dX5_readActs_6 : decode cX5_readActs 6 = .ok (.iconst 0, 1) := by decide +kernel
theorem dX5_readActs_7 : decode cX5_readActs 7 = .ok (.putfield 31, 3) := by decide +kernel
theorem dX5_readActs_10 : decode cX5_readActs 10 = .ok (.aload_n 0, 1) := by decide +kernel
theorem dX5_readActs_11 : decode cX5_readActs 11 = .ok (.iconst (-1), 1) := by decide +kernel
theorem dX5_readActs_12 : decode cX5_readActs 12 = .ok (.putfield 24, 3) := by decide +kernel
theorem dX5_readActs_15 : decode cX5_readActs 15 = .ok (.aload_n 0, 1) := by decide +kernel
theorem dX5_readActs_16 : decode cX5_readActs 16 = .ok (.iconst 0, 1) := by decide +kernel
theorem dX5_readActs_17 : decode cX5_readActs 17 = .ok (.putfield 34, 3) := by decide +kernel
theorem dX5_readActs_20 : decode cX5_readActs 20 = .ok (.aload_n 0, 1) := by decide +kernel
theorem dX5_readActs_21 : decode cX5_readActs 21 = .ok (.iconst 0, 1) := by decide +kernel
theorem dX5_readActs_22 : decode cX5_readActs 22 = .ok (.iload_n 2, 1) := by decide +kernel
theorem dX5_readActs_23 : decode cX5_readActs 23 = .ok (.aload_n 1, 1) := by decide +kernel
theorem dX5_readActs_24 : decode cX5_readActs 24 = .ok (.getfield 37, 3) := by decide +kernel
theorem dX5_readActs_27 : decode cX5_readActs 27 = .ok (.invokestatic 42, 3) := by decide +kernel
theorem dX5_readActs_30 : decode cX5_readActs 30 = .ok (.invokestatic 48, 3) := by decide +kernel
theorem dX5_readActs_33 : decode cX5_readActs 33 = .ok (.putfield 51, 3) := by decide +kernel
theorem dX5_readActs_36 : decode cX5_readActs 36 = .ok (.aload_n 0, 1) := by decide +kernel
theorem dX5_readActs_37 : decode cX5_readActs 37 = .ok (.aload_n 1, 1) := by decide +kernel
theorem dX5_readActs_38 : decode cX5_readActs 38 = .ok (.iconst 0, 1) := by decide +kernel
theorem dX5_readActs_39 : decode cX5_readActs 39 = .ok (.bipush 40, 2) := by decide +kernel
theorem dX5_readActs_41 : decode cX5_readActs 41 = .ok (.invokevirtual 54, 3) := by decide +kernel
theorem dX5_readActs_44 : decode cX5_readActs 44 = .ok (.pop, 1) := by decide +kernel
theorem dX5_readActs_45 : decode cX5_readActs 45 = .ok (.iconst 0, 1) := by decide +kernel
theorem dX5_readActs_46 : decode cX5_readActs 46 = .ok (.istore_n 3, 1) := by decide +kernel
theorem dX5_readActs_47 : decode cX5_readActs 47 = .ok (.iload_n 3, 1) := by decide +kernel
theorem dX5_readActs_48 : decode cX5_readActs 48 = .ok (.bipush 36, 2) := by decide +kernel
theorem dX5_readActs_50 : decode cX5_readActs 50 = .ok (.if_icmp .gt 99, 3) := by decide +kernel
theorem dX5_readActs_53 : decode cX5_readActs 53 = .ok (.aload_n 0, 1) := by decide +kernel
theorem dX5_readActs_54 : decode cX5_readActs 54 = .ok (.getfield 34, 3) := by decide +kernel
theorem dX5_readActs_57 : decode cX5_readActs 57 = .ok (.aload_n 0, 1) := by decide +kernel
theorem dX5_readActs_58 : decode cX5_readActs 58 = .ok (.getfield 51, 3) := by decide +kernel
theorem dX5_readActs_61 : decode cX5_readActs 61 = .ok (.if_icmp .ge 88, 3) := by decide +kernel
theorem dX5_readActs_64 : decode cX5_readActs 64 = .ok (.aload_n 0, 1) := by decide +kernel
theorem dX5_readActs_65 : decode cX5_readActs 65 = .ok (.getfield 31, 3) := by decide +kernel
theorem dX5_readActs_68 : decode cX5_readActs 68 = .ok (.ifCond .ne 81, 3) := by decide +kernel
theorem dX5_readActs_71 : decode cX5_readActs 71 = .ok (.aload_n 1, 1) := by decide +kernel
theorem dX5_readActs_72 : decode cX5_readActs 72 = .ok (.aload_n 0, 1) := by decide +kernel
theorem dX5_readActs_73 : decode cX5_readActs 73 = .ok (.getfield 34, 3) := by decide +kernel
theorem dX5_readActs_76 : decode cX5_readActs 76 = .ok (.invokevirtual 58, 3) := by decide +kernel
theorem dX5_readActs_79 : decode cX5_readActs 79 = .ok (.istore 4, 2) := by decide +kernel
theorem dX5_readActs_81 : decode cX5_readActs 81 = .ok (.iload 4, 2) := by decide +kernel
theorem dX5_readActs_83 : decode cX5_readActs 83 = .ok (.iconst 1, 1) := by decide +kernel
theorem dX5_readActs_84 : decode cX5_readActs 84 = .ok (.if_icmp .lt 9, 3) := by decide +kernel
theorem dX5_readActs_87 : decode cX5_readActs 87 = .ok (.iload 4, 2) := by decide +kernel
theorem dX5_readActs_89 : decode cX5_readActs 89 = .ok (.iconst 4, 1) := by decide +kernel
theorem dX5_readActs_90 : decode cX5_readActs 90 = .ok (.if_icmp .le 15, 3) := by decide +kernel
theorem dX5_readActs_93 : decode cX5_readActs 93 = .ok (.aload_n 0, 1) := by decide +kernel
theorem dX5_readActs_94 : decode cX5_readActs 94 = .ok (.iconst 1, 1) := by decide +kernel
theorem dX5_readActs_95 : decode cX5_readActs 95 = .ok (.aload_n 0, 1) := by decide +kernel
theorem dX5_readActs_96 : decode cX5_readActs 96 = .ok (.getfield 34, 3) := by decide +kernel
theorem dX5_readActs_99 : decode cX5_readActs 99 = .ok (.invokevirtual 61, 3) := by decide +kernel
theorem dX5_readActs_102 : decode cX5_readActs 102 = .ok (.goto 41, 3) := by decide +kernel
theorem dX5_readActs_105 : decode cX5_readActs 105 = .ok (.aload_n 0, 1) := by decide +kernel
theorem dX5_readActs_106 : decode cX5_readActs 106 = .ok (.getfield 28, 3) := by decide +kernel
theorem dX5_readActs_109 : decode cX5_readActs 109 = .ok (.bipush 36, 2) := by decide +kernel
theorem dX5_readActs_111 : decode cX5_readActs 111 = .ok (.if_icmp .lt 15, 3) := by decide +kernel
theorem dX5_readActs_114 : decode cX5_readActs 114 = .ok (.aload_n 0, 1) := by decide +kernel
theorem dX5_readActs_115 : decode cX5_readActs 115 = .ok (.iconst 4, 1) := by decide +kernel
theorem dX5_readActs_116 : decode cX5_readActs 116 = .ok (.aload_n 0, 1) := by decide +kernel
theorem dX5_readActs_117 : decode cX5_readActs 117 = .ok (.getfield 34, 3) := by decide +kernel
theorem dX5_readActs_120 : decode cX5_readActs 120 = .ok (.invokevirtual 61, 3) := by decide +kernel
theorem dX5_readActs_123 : decode cX5_readActs 123 = .ok (.goto 20, 3) := by decide +kernel
theorem dX5_readActs_126 : decode cX5_readActs 126 = .ok (.aload_n 0, 1) := by decide +kernel
theorem dX5_readActs_127 : decode cX5_readActs 127 = .ok (.dup, 1) := by decide +kernel
theorem dX5_readActs_128 : decode cX5_readActs 128 = .ok (.getfield 34, 3) := by decide +kernel
theorem dX5_readActs_131 : decode cX5_readActs 131 = .ok (.iconst 1, 1) := by decide +kernel
theorem dX5_readActs_132 : decode cX5_readActs 132 = .ok (.iadd, 1) := by decide +kernel
theorem dX5_readActs_133 : decode cX5_readActs 133 = .ok (.putfield 34, 3) := by decide +kernel
theorem dX5_readActs_136 : decode cX5_readActs 136 = .ok (.aload_n 0, 1) := by decide +kernel
theorem dX5_readActs_137 : decode cX5_readActs 137 = .ok (.aload_n 1, 1) := by decide +kernel
theorem dX5_readActs_138 : decode cX5_readActs 138 = .ok (.iload 4, 2) := by decide +kernel
theorem dX5_readActs_140 : decode cX5_readActs 140 = .ok (.invokevirtual 65, 3) := by decide +kernel
theorem dX5_readActs_143 : decode cX5_readActs 143 = .ok (.iinc 3 1, 3) := by decide +kernel
theorem dX5_readActs_146 : decode cX5_readActs 146 = .ok (.goto (-99), 3) := by decide +kernel
theorem dX5_readActs_149 : decode cX5_readActs 149 = .ok (.return_, 1) := by decide +kernel
abbrev k_X5_readActs (E : g_E) (l : Launch) (D : g_D) (k : Nat) (r1 : Nat) (v2 : Int) (K : g_D → Prop) : Prop := g_Kv E l m_X5_readActs 3 [g_R k, g_R r1, g_I v2] g_SH D K
abbrev n_X5_readActs (E : g_E) (l : Launch) (D : g_D) (pc : Nat) (L : List (Option g_V)) (K : g_D → Prop) : Prop := g_N E l m_X5_readActs 3 pc L [] g_SH D (g_Rv g_SH K)
theorem s_X5_readActs {E : g_E} {l : Launch} {D : g_D} {K : g_D → Prop} {nr1 : Nat} {k : Nat} {r1 : Nat} {v2 : Int} (hk : is_Reader g_SH k) (hr1 : is_Cells g_SH r1 nr1) (hF : g_okD D → g_r v2 → ∀ D1, D1 = g_up D k 4 0 → (∀ D2, D2 = g_up D1 k 5 0 → (∀ D3, D3 = g_up D2 k 6 (-1) → (∀ D4, D4 = g_up D3 k 7 0 → (∀ D5, D5 = g_up D4 k 8 (max 0 (min v2 (D4 r1 1))) → (k_X5_readNumber E l D5 k r1 0 40 (fun x6 D6 => g_r x6 → n_X5_readActs E l D6 47 [some (g_R k), some (g_R r1), none, some (g_I 0), none] K))))))) : k_X5_readActs E l D k r1 v2 K := by
  refine g_enter (by decide) (Nat.le_of_ble_eq_true rfl) ?_
  show g_N E l m_X5_readActs 3 0 [some (g_R k), some (g_R r1), some (g_I v2), none, none] [] g_SH D (g_Rv g_SH K)
  refine g_use (fun ok => ?_)
  have hF := hF ok.2.1 (ok.loc (i := 2) rfl)
  refine g_aload_n dX5_readActs_0 rfl ?_
  refine g_iconst dX5_readActs_1 ⟨by decide, by decide⟩ ?_
  let D1 : g_D := g_up D k 4 0
  have hF := hF D1 rfl
  refine g_put dX5_readActs_2 fd_X5_28 (g_ftyI (C := RX5) (T := TX5) (N := 9) rfl rfl (by decide +kernel)) hk.1 rfl ?_
  refine g_aload_n dX5_readActs_5 rfl ?_
  refine g_iconst dX5_readActs_6 ⟨by decide, by decide⟩ ?_
  let D2 : g_D := g_up D1 k 5 0
  have hF := hF D2 rfl
  refine g_put dX5_readActs_7 fd_X5_31 (g_ftyI (C := RX5) (T := TX5) (N := 9) rfl rfl (by decide +kernel)) hk.1 rfl ?_
  refine g_aload_n dX5_readActs_10 rfl ?_
  refine g_iconst dX5_readActs_11 ⟨by decide, by decide⟩ ?_
  let D3 : g_D := g_up D2 k 6 (-1)
  have hF := hF D3 rfl
  refine g_put dX5_readActs_12 fd_X5_24 (g_ftyI (C := RX5) (T := TX5) (N := 9) rfl rfl (by decide +kernel)) hk.1 rfl ?_
  refine g_aload_n dX5_readActs_15 rfl ?_
  refine g_iconst dX5_readActs_16 ⟨by decide, by decide⟩ ?_
  let D4 : g_D := g_up D3 k 7 0
  have hF := hF D4 rfl
  refine g_put dX5_readActs_17 fd_X5_34 (g_ftyI (C := RX5) (T := TX5) (N := 9) rfl rfl (by decide +kernel)) hk.1 rfl ?_
  refine g_aload_n dX5_readActs_20 rfl ?_
  refine g_iconst dX5_readActs_21 ⟨by decide, by decide⟩ ?_
  refine g_iload_n dX5_readActs_22 rfl ?_
  refine g_aload_n dX5_readActs_23 rfl ?_
  refine g_getI dX5_readActs_24 fd_X5_37 hr1.1 rfl ?_
  refine g_min dX5_readActs_27 mw_X5_42 (by decide) (Nat.le_refl _) (Nat.le_refl _) (Nat.le_of_ble_eq_true rfl) ?_
  refine g_max dX5_readActs_30 mw_X5_48 (by decide) (Nat.le_refl _) (Nat.le_refl _) (Nat.le_of_ble_eq_true rfl) ?_
  let D5 : g_D := g_up D4 k 8 (max 0 (min v2 (D4 r1 1)))
  have hF := hF D5 rfl
  refine g_put dX5_readActs_33 fd_X5_51 (g_ftyI (C := RX5) (T := TX5) (N := 9) rfl rfl (by decide +kernel)) hk.1 rfl ?_
  refine g_aload_n dX5_readActs_36 rfl ?_
  refine g_aload_n dX5_readActs_37 rfl ?_
  refine g_iconst dX5_readActs_38 ⟨by decide, by decide⟩ ?_
  refine g_bipush dX5_readActs_39 ⟨by decide, by decide⟩ ?_
  refine gw_cVi (b := k) (As := [g_R r1, g_I 0, g_I 40]) (rest := []) dX5_readActs_41 mv_X5_54 hk.1 rfl (Nat.le_of_ble_eq_true rfl) (by decide) rfl hF ?_
  intro x6 D6 hx6 hF
  have hF := hF hx6
  refine g_pop dX5_readActs_44 rfl ?_
  refine g_iconst dX5_readActs_45 ⟨by decide, by decide⟩ ?_
  refine gw_istore_n (L' := [some (g_R k), some (g_R r1), some (g_I v2), some (g_I 0), none]) dX5_readActs_46 (by decide) rfl ?_
  exact g_forget (L' := [some (g_R k), some (g_R r1), none, some (g_I 0), none]) ⟨rfl, ⟨rfl, ⟨rfl, trivial⟩⟩⟩ hF
theorem s_X5_readActs_47 {E : g_E} {l : Launch} {D : g_D} {K : g_D → Prop} {nr1 : Nat} {k : Nat} {r1 : Nat} {v3 : Int} (hk : is_Reader g_SH k) (hr1 : is_Cells g_SH r1 nr1) (hF : g_okD D → g_r v3 → (36 < v3 → K D) ∧ (¬ 36 < v3 → ((D k 8) ≤ (D k 7) → K D) ∧ (¬ (D k 8) ≤ (D k 7) → (¬ (D k 5) = 0 → K D) ∧ ((D k 5) = 0 → k_X0_at E l g_SH D r1 (D k 7) (fun x1 D1 => g_r x1 → (x1 < 1 → k_X5_fail E l D1 k 1 (D1 k 7) (fun D2 => (g_r (v3 + 1)) ∧ (n_X5_readActs E l D2 47 [some (g_R k), some (g_R r1), none, some (g_I (v3 + 1)), none] K))) ∧ (¬ x1 < 1 → (x1 ≤ 4 → ((D1 k 4) < 36 → (g_r ((D1 k 7) + 1)) ∧ (∀ D3, D3 = g_up D1 k 7 ((D1 k 7) + 1) → (k_X5_readAct E l D3 k r1 x1 (fun D4 => (g_r (v3 + 1)) ∧ (n_X5_readActs E l D4 47 [some (g_R k), some (g_R r1), none, some (g_I (v3 + 1)), none] K))))) ∧ (¬ (D1 k 4) < 36 → k_X5_fail E l D1 k 4 (D1 k 7) (fun D5 => (g_r (v3 + 1)) ∧ (n_X5_readActs E l D5 47 [some (g_R k), some (g_R r1), none, some (g_I (v3 + 1)), none] K)))) ∧ (¬ x1 ≤ 4 → k_X5_fail E l D1 k 1 (D1 k 7) (fun D6 => (g_r (v3 + 1)) ∧ (n_X5_readActs E l D6 47 [some (g_R k), some (g_R r1), none, some (g_I (v3 + 1)), none] K))))))))) : n_X5_readActs E l D 47 [some (g_R k), some (g_R r1), none, some (g_I v3), none] K := by
  refine g_use (fun ok => ?_)
  have hF := hF ok.2.1 (ok.loc (i := 3) rfl)
  refine g_iload_n dX5_readActs_47 rfl ?_
  refine g_bipush dX5_readActs_48 ⟨by decide, by decide⟩ ?_
  refine g_cgt dX5_readActs_50 rfl (fun q => ?_) (fun q => ?_)
  · have hF := hF.1 q
    exact gw_vret dX5_readActs_149 rfl hF
  · have hF := hF.2 q
    refine g_aload_n dX5_readActs_53 rfl ?_
    refine g_getI dX5_readActs_54 fd_X5_34 hk.1 rfl ?_
    refine g_aload_n dX5_readActs_57 rfl ?_
    refine g_getI dX5_readActs_58 fd_X5_51 hk.1 rfl ?_
    refine g_cge dX5_readActs_61 rfl (fun q => ?_) (fun q => ?_)
    · have hF := hF.1 q
      exact gw_vret dX5_readActs_149 rfl hF
    · have hF := hF.2 q
      refine g_aload_n dX5_readActs_64 rfl ?_
      refine g_getI dX5_readActs_65 fd_X5_31 hk.1 rfl ?_
      refine g_ifne dX5_readActs_68 rfl (fun q => ?_) (fun q => ?_)
      · have hF := hF.1 q
        exact gw_vret dX5_readActs_149 rfl hF
      · have hF := hF.2 q
        refine g_aload_n dX5_readActs_71 rfl ?_
        refine g_aload_n dX5_readActs_72 rfl ?_
        refine g_getI dX5_readActs_73 fd_X5_34 hk.1 rfl ?_
        refine gw_cVi (b := r1) (As := [g_I (D k 7)]) (rest := []) dX5_readActs_76 mv_X5_58 hr1.1 rfl (Nat.le_of_ble_eq_true rfl) (by decide) rfl hF ?_
        intro x1 D1 hx1 hF
        have hF := hF hx1
        refine gw_istore (L' := [some (g_R k), some (g_R r1), none, some (g_I v3), some (g_I x1)]) dX5_readActs_79 (by decide) rfl ?_
        refine g_iload dX5_readActs_81 rfl ?_
        refine g_iconst dX5_readActs_83 ⟨by decide, by decide⟩ ?_
        refine g_clt dX5_readActs_84 rfl (fun q => ?_) (fun q => ?_)
        · have hF := hF.1 q
          refine g_aload_n dX5_readActs_93 rfl ?_
          refine g_iconst dX5_readActs_94 ⟨by decide, by decide⟩ ?_
          refine g_aload_n dX5_readActs_95 rfl ?_
          refine g_getI dX5_readActs_96 fd_X5_34 hk.1 rfl ?_
          refine gw_cVv (b := k) (As := [g_I 1, g_I (D1 k 7)]) (rest := []) dX5_readActs_99 mv_X5_61 hk.1 rfl (Nat.le_of_ble_eq_true rfl) (by decide) rfl hF ?_
          intro D2 hF
          refine g_goto dX5_readActs_102 rfl ?_
          obtain ⟨hc, hF⟩ := hF
          refine gw_iinc (L' := [some (g_R k), some (g_R r1), none, some (g_I (v3 + 1)), some (g_I x1)]) dX5_readActs_143 rfl hc (by decide) rfl ?_
          refine g_goto dX5_readActs_146 rfl ?_
          exact g_forget (L' := [some (g_R k), some (g_R r1), none, some (g_I (v3 + 1)), none]) ⟨rfl, ⟨rfl, ⟨rfl, trivial⟩⟩⟩ hF
        · have hF := hF.2 q
          refine g_iload dX5_readActs_87 rfl ?_
          refine g_iconst dX5_readActs_89 ⟨by decide, by decide⟩ ?_
          refine g_cle dX5_readActs_90 rfl (fun q => ?_) (fun q => ?_)
          · have hF := hF.1 q
            refine g_aload_n dX5_readActs_105 rfl ?_
            refine g_getI dX5_readActs_106 fd_X5_28 hk.1 rfl ?_
            refine g_bipush dX5_readActs_109 ⟨by decide, by decide⟩ ?_
            refine g_clt dX5_readActs_111 rfl (fun q => ?_) (fun q => ?_)
            · have hF := hF.1 q
              refine g_aload_n dX5_readActs_126 rfl ?_
              refine g_dup dX5_readActs_127 rfl ?_
              refine g_getI dX5_readActs_128 fd_X5_34 hk.1 rfl ?_
              refine g_iconst dX5_readActs_131 ⟨by decide, by decide⟩ ?_
              obtain ⟨hc, hF⟩ := hF
              refine g_iadd dX5_readActs_132 hc ?_
              let D3 : g_D := g_up D1 k 7 ((D1 k 7) + 1)
              have hF := hF D3 rfl
              refine g_put dX5_readActs_133 fd_X5_34 (g_ftyI (C := RX5) (T := TX5) (N := 9) rfl rfl (by decide +kernel)) hk.1 rfl ?_
              refine g_aload_n dX5_readActs_136 rfl ?_
              refine g_aload_n dX5_readActs_137 rfl ?_
              refine g_iload dX5_readActs_138 rfl ?_
              refine gw_cVv (b := k) (As := [g_R r1, g_I x1]) (rest := []) dX5_readActs_140 mv_X5_65 hk.1 rfl (Nat.le_of_ble_eq_true rfl) (by decide) rfl hF ?_
              intro D4 hF
              obtain ⟨hc, hF⟩ := hF
              refine gw_iinc (L' := [some (g_R k), some (g_R r1), none, some (g_I (v3 + 1)), some (g_I x1)]) dX5_readActs_143 rfl hc (by decide) rfl ?_
              refine g_goto dX5_readActs_146 rfl ?_
              exact g_forget (L' := [some (g_R k), some (g_R r1), none, some (g_I (v3 + 1)), none]) ⟨rfl, ⟨rfl, ⟨rfl, trivial⟩⟩⟩ hF
            · have hF := hF.2 q
              refine g_aload_n dX5_readActs_114 rfl ?_
              refine g_iconst dX5_readActs_115 ⟨by decide, by decide⟩ ?_
              refine g_aload_n dX5_readActs_116 rfl ?_
              refine g_getI dX5_readActs_117 fd_X5_34 hk.1 rfl ?_
              refine gw_cVv (b := k) (As := [g_I 4, g_I (D1 k 7)]) (rest := []) dX5_readActs_120 mv_X5_61 hk.1 rfl (Nat.le_of_ble_eq_true rfl) (by decide) rfl hF ?_
              intro D5 hF
              refine g_goto dX5_readActs_123 rfl ?_
              obtain ⟨hc, hF⟩ := hF
              refine gw_iinc (L' := [some (g_R k), some (g_R r1), none, some (g_I (v3 + 1)), some (g_I x1)]) dX5_readActs_143 rfl hc (by decide) rfl ?_
              refine g_goto dX5_readActs_146 rfl ?_
              exact g_forget (L' := [some (g_R k), some (g_R r1), none, some (g_I (v3 + 1)), none]) ⟨rfl, ⟨rfl, ⟨rfl, trivial⟩⟩⟩ hF
          · have hF := hF.2 q
            refine g_aload_n dX5_readActs_93 rfl ?_
            refine g_iconst dX5_readActs_94 ⟨by decide, by decide⟩ ?_
            refine g_aload_n dX5_readActs_95 rfl ?_
            refine g_getI dX5_readActs_96 fd_X5_34 hk.1 rfl ?_
            refine gw_cVv (b := k) (As := [g_I 1, g_I (D1 k 7)]) (rest := []) dX5_readActs_99 mv_X5_61 hk.1 rfl (Nat.le_of_ble_eq_true rfl) (by decide) rfl hF ?_
            intro D6 hF
            refine g_goto dX5_readActs_102 rfl ?_
            obtain ⟨hc, hF⟩ := hF
            refine gw_iinc (L' := [some (g_R k), some (g_R r1), none, some (g_I (v3 + 1)), some (g_I x1)]) dX5_readActs_143 rfl hc (by decide) rfl ?_
            refine g_goto dX5_readActs_146 rfl ?_
            exact g_forget (L' := [some (g_R k), some (g_R r1), none, some (g_I (v3 + 1)), none]) ⟨rfl, ⟨rfl, ⟨rfl, trivial⟩⟩⟩ hF
theorem dX2_copyFrom_0 : decode cX2_copyFrom 0 = .ok (.aload_n 1, 1) := by decide +kernel
theorem dX2_copyFrom_1 : decode cX2_copyFrom 1 = .ok (.getfield 9, 3) := by decide +kernel
theorem dX2_copyFrom_4 : decode cX2_copyFrom 4 = .ok (.iconst 0, 1) := by decide +kernel
theorem dX2_copyFrom_5 : decode cX2_copyFrom 5 = .ok (.aload_n 0, 1) := by decide +kernel
theorem dX2_copyFrom_6 : decode cX2_copyFrom 6 = .ok (.getfield 9, 3) := by decide +kernel
theorem dX2_copyFrom_9 : decode cX2_copyFrom 9 = .ok (.iconst 0, 1) := by decide +kernel
theorem dX2_copyFrom_10 : decode cX2_copyFrom 10 = .ok (.bipush 40, 2) := by decide +kernel
theorem dX2_copyFrom_12 : decode cX2_copyFrom 12 = .ok (.invokestatic 56, 3) := by decide +kernel
theorem dX2_copyFrom_15 : decode cX2_copyFrom 15 = .ok (.aload_n 1, 1) := by decide +kernel
theorem dX2_copyFrom_16 : decode cX2_copyFrom 16 = .ok (.getfield 15, 3) := by decide +kernel
theorem dX2_copyFrom_19 : decode cX2_copyFrom 19 = .ok (.iconst 0, 1) := by decide +kernel
theorem dX2_copyFrom_20 : decode cX2_copyFrom 20 = .ok (.aload_n 0, 1) := by decide +kernel
theorem dX2_copyFrom_21 : decode cX2_copyFrom 21 = .ok (.getfield 15, 3) := by decide +kernel
theorem dX2_copyFrom_24 : decode cX2_copyFrom 24 = .ok (.iconst 0, 1) := by decide +kernel
theorem dX2_copyFrom_25 : decode cX2_copyFrom 25 = .ok (.bipush 20, 2) := by decide +kernel
theorem dX2_copyFrom_27 : decode cX2_copyFrom 27 = .ok (.invokestatic 56, 3) := by decide +kernel
theorem dX2_copyFrom_30 : decode cX2_copyFrom 30 = .ok (.aload_n 1, 1) := by decide +kernel
theorem dX2_copyFrom_31 : decode cX2_copyFrom 31 = .ok (.getfield 18, 3) := by decide +kernel
theorem dX2_copyFrom_34 : decode cX2_copyFrom 34 = .ok (.iconst 0, 1) := by decide +kernel
theorem dX2_copyFrom_35 : decode cX2_copyFrom 35 = .ok (.aload_n 0, 1) := by decide +kernel
theorem dX2_copyFrom_36 : decode cX2_copyFrom 36 = .ok (.getfield 18, 3) := by decide +kernel
theorem dX2_copyFrom_39 : decode cX2_copyFrom 39 = .ok (.iconst 0, 1) := by decide +kernel
theorem dX2_copyFrom_40 : decode cX2_copyFrom 40 = .ok (.bipush 40, 2) := by decide +kernel
theorem dX2_copyFrom_42 : decode cX2_copyFrom 42 = .ok (.invokestatic 56, 3) := by decide +kernel
theorem dX2_copyFrom_45 : decode cX2_copyFrom 45 = .ok (.aload_n 1, 1) := by decide +kernel
theorem dX2_copyFrom_46 : decode cX2_copyFrom 46 = .ok (.getfield 21, 3) := by decide +kernel
theorem dX2_copyFrom_49 : decode cX2_copyFrom 49 = .ok (.iconst 0, 1) := by decide +kernel
theorem dX2_copyFrom_50 : decode cX2_copyFrom 50 = .ok (.aload_n 0, 1) := by decide +kernel
theorem dX2_copyFrom_51 : decode cX2_copyFrom 51 = .ok (.getfield 21, 3) := by decide +kernel
theorem dX2_copyFrom_54 : decode cX2_copyFrom 54 = .ok (.iconst 0, 1) := by decide +kernel
theorem dX2_copyFrom_55 : decode cX2_copyFrom 55 = .ok (.bipush 20, 2) := by decide +kernel
theorem dX2_copyFrom_57 : decode cX2_copyFrom 57 = .ok (.invokestatic 56, 3) := by decide +kernel
theorem dX2_copyFrom_60 : decode cX2_copyFrom 60 = .ok (.aload_n 0, 1) := by decide +kernel
theorem dX2_copyFrom_61 : decode cX2_copyFrom 61 = .ok (.getfield 29, 3) := by decide +kernel
theorem dX2_copyFrom_64 : decode cX2_copyFrom 64 = .ok (.aload_n 1, 1) := by decide +kernel
theorem dX2_copyFrom_65 : decode cX2_copyFrom 65 = .ok (.getfield 29, 3) := by decide +kernel
theorem dX2_copyFrom_68 : decode cX2_copyFrom 68 = .ok (.aload_n 1, 1) := by decide +kernel
theorem dX2_copyFrom_69 : decode cX2_copyFrom 69 = .ok (.getfield 29, 3) := by decide +kernel
theorem dX2_copyFrom_72 : decode cX2_copyFrom 72 = .ok (.getfield 62, 3) := by decide +kernel
theorem dX2_copyFrom_75 : decode cX2_copyFrom 75 = .ok (.invokevirtual 65, 3) := by decide +kernel
theorem dX2_copyFrom_78 : decode cX2_copyFrom 78 = .ok (.aload_n 1, 1) := by decide +kernel
theorem dX2_copyFrom_79 : decode cX2_copyFrom 79 = .ok (.getfield 33, 3) := by decide +kernel
theorem dX2_copyFrom_82 : decode cX2_copyFrom 82 = .ok (.iconst 0, 1) := by decide +kernel
theorem dX2_copyFrom_83 : decode cX2_copyFrom 83 = .ok (.aload_n 0, 1) := by decide +kernel
theorem dX2_copyFrom_84 : decode cX2_copyFrom 84 = .ok (.getfield 33, 3) := by decide +kernel
theorem dX2_copyFrom_87 : decode cX2_copyFrom 87 = .ok (.iconst 0, 1) := by decide +kernel
theorem dX2_copyFrom_88 : decode cX2_copyFrom 88 = .ok (.iconst 4, 1) := by decide +kernel
theorem dX2_copyFrom_89 : decode cX2_copyFrom 89 = .ok (.invokestatic 56, 3) := by decide +kernel
theorem dX2_copyFrom_92 : decode cX2_copyFrom 92 = .ok (.aload_n 0, 1) := by decide +kernel
theorem dX2_copyFrom_93 : decode cX2_copyFrom 93 = .ok (.aload_n 1, 1) := by decide +kernel
theorem dX2_copyFrom_94 : decode cX2_copyFrom 94 = .ok (.getfield 42, 3) := by decide +kernel
theorem dX2_copyFrom_97 : decode cX2_copyFrom 97 = .ok (.putfield 42, 3) := by decide +kernel
theorem dX2_copyFrom_100 : decode cX2_copyFrom 100 = .ok (.aload_n 0, 1) := by decide +kernel
theorem dX2_copyFrom_101 : decode cX2_copyFrom 101 = .ok (.aload_n 1, 1) := by decide +kernel
theorem dX2_copyFrom_102 : decode cX2_copyFrom 102 = .ok (.getfield 69, 3) := by decide +kernel
theorem dX2_copyFrom_105 : decode cX2_copyFrom 105 = .ok (.putfield 69, 3) := by decide +kernel
theorem dX2_copyFrom_108 : decode cX2_copyFrom 108 = .ok (.aload_n 0, 1) := by decide +kernel
theorem dX2_copyFrom_109 : decode cX2_copyFrom 109 = .ok (.aload_n 1, 1) := by decide +kernel
theorem dX2_copyFrom_110 : decode cX2_copyFrom 110 = .ok (.getfield 46, 3) := by decide +kernel
theorem dX2_copyFrom_113 : decode cX2_copyFrom 113 = .ok (.putfield 46, 3) := by decide +kernel
theorem dX2_copyFrom_116 : decode cX2_copyFrom 116 = .ok (.aload_n 0, 1) := by decide +kernel
theorem dX2_copyFrom_117 : decode cX2_copyFrom 117 = .ok (.aload_n 1, 1) := by decide +kernel
theorem dX2_copyFrom_118 : decode cX2_copyFrom 118 = .ok (.getfield 50, 3) := by decide +kernel
theorem dX2_copyFrom_121 : decode cX2_copyFrom 121 = .ok (.putfield 50, 3) := by decide +kernel
theorem dX2_copyFrom_124 : decode cX2_copyFrom 124 = .ok (.return_, 1) := by decide +kernel
abbrev k_X2_copyFrom (E : g_E) (l : Launch) (D : g_D) (k : Nat) (r1 : Nat) (K : g_D → Prop) : Prop := g_Kv E l m_X2_copyFrom 2 [g_R k, g_R r1] g_SH D K
abbrev n_X2_copyFrom (E : g_E) (l : Launch) (D : g_D) (pc : Nat) (L : List (Option g_V)) (K : g_D → Prop) : Prop := g_N E l m_X2_copyFrom 2 pc L [] g_SH D (g_Rv g_SH K)
theorem s_X2_copyFrom {E : g_E} {l : Launch} {D : g_D} {K : g_D → Prop} {k : Nat} {r1 : Nat} (hk : is_Device g_SH k) (hr1 : is_Device g_SH r1) (hF : g_okD D → ((0 : Int) ≤ 0 ∧ (0 : Int) ≤ 0 ∧ (0 : Int) ≤ 40 ∧ (0 + 40 : Int) ≤ 40 ∧ (0 + 40 : Int) ≤ 40) ∧ (∀ D1, D1 = g_cpy D (r1 + 1) (k + 1) 0 0 40 → (((0 : Int) ≤ 0 ∧ (0 : Int) ≤ 0 ∧ (0 : Int) ≤ 20 ∧ (0 + 20 : Int) ≤ 20 ∧ (0 + 20 : Int) ≤ 20) ∧ (∀ D2, D2 = g_cpy D1 (r1 + 2) (k + 2) 0 0 20 → (((0 : Int) ≤ 0 ∧ (0 : Int) ≤ 0 ∧ (0 : Int) ≤ 40 ∧ (0 + 40 : Int) ≤ 40 ∧ (0 + 40 : Int) ≤ 40) ∧ (∀ D3, D3 = g_cpy D2 (r1 + 3) (k + 3) 0 0 40 → (((0 : Int) ≤ 0 ∧ (0 : Int) ≤ 0 ∧ (0 : Int) ≤ 20 ∧ (0 + 20 : Int) ≤ 20 ∧ (0 + 20 : Int) ≤ 20) ∧ (∀ D4, D4 = g_cpy D3 (r1 + 4) (k + 4) 0 0 20 → (k_X0_copyFirst E l g_SH D4 (k + 5) (r1 + 5) (D4 (r1 + 5) 1) (fun D5 => ((0 : Int) ≤ 0 ∧ (0 : Int) ≤ 0 ∧ (0 : Int) ≤ 4 ∧ (0 + 4 : Int) ≤ 4 ∧ (0 + 4 : Int) ≤ 4) ∧ (∀ D6, D6 = g_cpy D5 (r1 + 7) (k + 7) 0 0 4 → (∀ D7, D7 = g_up D6 k 6 (D6 r1 6) → (∀ D8, D8 = g_up D7 k 7 (D7 r1 7) → (((D8 r1 8) = 0 ∨ (D8 r1 8) = 1) ∧ (∀ D9, D9 = g_up D8 k 8 (D8 r1 8) → (((D9 r1 9) = 0 ∨ (D9 r1 9) = 1) ∧ (∀ D10, D10 = g_up D9 k 9 (D9 r1 9) → (K D10)))))))))))))))))) : k_X2_copyFrom E l D k r1 K := by
  refine g_enter (by decide) (Nat.le_of_ble_eq_true rfl) ?_
  show g_N E l m_X2_copyFrom 2 0 [some (g_R k), some (g_R r1)] [] g_SH D (g_Rv g_SH K)
  refine g_use (fun ok => ?_)
  have hF := hF ok.2.1
  refine g_aload_n dX2_copyFrom_0 rfl ?_
  refine g_getR dX2_copyFrom_1 fd_X2_9 hr1.1 rfl ?_
  refine g_iconst dX2_copyFrom_4 ⟨by decide, by decide⟩ ?_
  refine g_aload_n dX2_copyFrom_5 rfl ?_
  refine g_getR dX2_copyFrom_6 fd_X2_9 hk.1 rfl ?_
  refine g_iconst dX2_copyFrom_9 ⟨by decide, by decide⟩ ?_
  refine g_bipush dX2_copyFrom_10 ⟨by decide, by decide⟩ ?_
  obtain ⟨hc, hF⟩ := hF
  let D1 : g_D := g_cpy D (r1 + 1) (k + 1) 0 0 40
  have hF := hF D1 rfl
  refine g_acopy dX2_copyFrom_12 ac_X2_56.1 ac_X2_56.2.1 ac_X2_56.2.2.1 ac_X2_56.2.2.2 hr1.2.1 hk.2.1 hc.1 hc.2.1 hc.2.2.1 hc.2.2.2.1 hc.2.2.2.2 (by decide) (Nat.le_of_ble_eq_true rfl) ?_
  refine g_aload_n dX2_copyFrom_15 rfl ?_
  refine g_getR dX2_copyFrom_16 fd_X2_15 hr1.1 rfl ?_
  refine g_iconst dX2_copyFrom_19 ⟨by decide, by decide⟩ ?_
  refine g_aload_n dX2_copyFrom_20 rfl ?_
  refine g_getR dX2_copyFrom_21 fd_X2_15 hk.1 rfl ?_
  refine g_iconst dX2_copyFrom_24 ⟨by decide, by decide⟩ ?_
  refine g_bipush dX2_copyFrom_25 ⟨by decide, by decide⟩ ?_
  obtain ⟨hc, hF⟩ := hF
  let D2 : g_D := g_cpy D1 (r1 + 2) (k + 2) 0 0 20
  have hF := hF D2 rfl
  refine g_acopy dX2_copyFrom_27 ac_X2_56.1 ac_X2_56.2.1 ac_X2_56.2.2.1 ac_X2_56.2.2.2 hr1.2.2.1 hk.2.2.1 hc.1 hc.2.1 hc.2.2.1 hc.2.2.2.1 hc.2.2.2.2 (by decide) (Nat.le_of_ble_eq_true rfl) ?_
  refine g_aload_n dX2_copyFrom_30 rfl ?_
  refine g_getR dX2_copyFrom_31 fd_X2_18 hr1.1 rfl ?_
  refine g_iconst dX2_copyFrom_34 ⟨by decide, by decide⟩ ?_
  refine g_aload_n dX2_copyFrom_35 rfl ?_
  refine g_getR dX2_copyFrom_36 fd_X2_18 hk.1 rfl ?_
  refine g_iconst dX2_copyFrom_39 ⟨by decide, by decide⟩ ?_
  refine g_bipush dX2_copyFrom_40 ⟨by decide, by decide⟩ ?_
  obtain ⟨hc, hF⟩ := hF
  let D3 : g_D := g_cpy D2 (r1 + 3) (k + 3) 0 0 40
  have hF := hF D3 rfl
  refine g_acopy dX2_copyFrom_42 ac_X2_56.1 ac_X2_56.2.1 ac_X2_56.2.2.1 ac_X2_56.2.2.2 hr1.2.2.2.1 hk.2.2.2.1 hc.1 hc.2.1 hc.2.2.1 hc.2.2.2.1 hc.2.2.2.2 (by decide) (Nat.le_of_ble_eq_true rfl) ?_
  refine g_aload_n dX2_copyFrom_45 rfl ?_
  refine g_getR dX2_copyFrom_46 fd_X2_21 hr1.1 rfl ?_
  refine g_iconst dX2_copyFrom_49 ⟨by decide, by decide⟩ ?_
  refine g_aload_n dX2_copyFrom_50 rfl ?_
  refine g_getR dX2_copyFrom_51 fd_X2_21 hk.1 rfl ?_
  refine g_iconst dX2_copyFrom_54 ⟨by decide, by decide⟩ ?_
  refine g_bipush dX2_copyFrom_55 ⟨by decide, by decide⟩ ?_
  obtain ⟨hc, hF⟩ := hF
  let D4 : g_D := g_cpy D3 (r1 + 4) (k + 4) 0 0 20
  have hF := hF D4 rfl
  refine g_acopy dX2_copyFrom_57 ac_X2_56.1 ac_X2_56.2.1 ac_X2_56.2.2.1 ac_X2_56.2.2.2 hr1.2.2.2.2.1 hk.2.2.2.2.1 hc.1 hc.2.1 hc.2.2.1 hc.2.2.2.1 hc.2.2.2.2 (by decide) (Nat.le_of_ble_eq_true rfl) ?_
  refine g_aload_n dX2_copyFrom_60 rfl ?_
  refine g_getR dX2_copyFrom_61 fd_X2_29 hk.1 rfl ?_
  refine g_aload_n dX2_copyFrom_64 rfl ?_
  refine g_getR dX2_copyFrom_65 fd_X2_29 hr1.1 rfl ?_
  refine g_aload_n dX2_copyFrom_68 rfl ?_
  refine g_getR dX2_copyFrom_69 fd_X2_29 hr1.1 rfl ?_
  refine g_getI dX2_copyFrom_72 fd_X2_62 hr1.2.2.2.2.2.1 rfl ?_
  refine gw_cVv (b := (k + 5)) (As := [g_R (r1 + 5), g_I (D4 (r1 + 5) 1)]) (rest := []) dX2_copyFrom_75 mv_X2_65 hk.2.2.2.2.2.1 rfl (Nat.le_of_ble_eq_true rfl) (by decide) rfl hF ?_
  intro D5 hF
  refine g_aload_n dX2_copyFrom_78 rfl ?_
  refine g_getR dX2_copyFrom_79 fd_X2_33 hr1.1 rfl ?_
  refine g_iconst dX2_copyFrom_82 ⟨by decide, by decide⟩ ?_
  refine g_aload_n dX2_copyFrom_83 rfl ?_
  refine g_getR dX2_copyFrom_84 fd_X2_33 hk.1 rfl ?_
  refine g_iconst dX2_copyFrom_87 ⟨by decide, by decide⟩ ?_
  refine g_iconst dX2_copyFrom_88 ⟨by decide, by decide⟩ ?_
  obtain ⟨hc, hF⟩ := hF
  let D6 : g_D := g_cpy D5 (r1 + 7) (k + 7) 0 0 4
  have hF := hF D6 rfl
  refine g_acopy dX2_copyFrom_89 ac_X2_56.1 ac_X2_56.2.1 ac_X2_56.2.2.1 ac_X2_56.2.2.2 hr1.2.2.2.2.2.2.2 hk.2.2.2.2.2.2.2 hc.1 hc.2.1 hc.2.2.1 hc.2.2.2.1 hc.2.2.2.2 (by decide) (Nat.le_of_ble_eq_true rfl) ?_
  refine g_aload_n dX2_copyFrom_92 rfl ?_
  refine g_aload_n dX2_copyFrom_93 rfl ?_
  refine g_getI dX2_copyFrom_94 fd_X2_42 hr1.1 rfl ?_
  let D7 : g_D := g_up D6 k 6 (D6 r1 6)
  have hF := hF D7 rfl
  refine g_put dX2_copyFrom_97 fd_X2_42 (g_ftyI (C := RX2) (T := TX2) (N := 10) rfl rfl (by decide +kernel)) hk.1 rfl ?_
  refine g_aload_n dX2_copyFrom_100 rfl ?_
  refine g_aload_n dX2_copyFrom_101 rfl ?_
  refine g_getI dX2_copyFrom_102 fd_X2_69 hr1.1 rfl ?_
  let D8 : g_D := g_up D7 k 7 (D7 r1 7)
  have hF := hF D8 rfl
  refine g_put dX2_copyFrom_105 fd_X2_69 (g_ftyI (C := RX2) (T := TX2) (N := 10) rfl rfl (by decide +kernel)) hk.1 rfl ?_
  refine g_aload_n dX2_copyFrom_108 rfl ?_
  refine g_aload_n dX2_copyFrom_109 rfl ?_
  refine g_getI dX2_copyFrom_110 fd_X2_46 hr1.1 rfl ?_
  obtain ⟨hc, hF⟩ := hF
  let D9 : g_D := g_up D8 k 8 (D8 r1 8)
  have hF := hF D9 rfl
  refine g_put dX2_copyFrom_113 fd_X2_46 (g_ftyZ (C := RX2) (T := TX2) (N := 10) rfl rfl (by decide +kernel) hc) hk.1 rfl ?_
  refine g_aload_n dX2_copyFrom_116 rfl ?_
  refine g_aload_n dX2_copyFrom_117 rfl ?_
  refine g_getI dX2_copyFrom_118 fd_X2_50 hr1.1 rfl ?_
  obtain ⟨hc, hF⟩ := hF
  let D10 : g_D := g_up D9 k 9 (D9 r1 9)
  have hF := hF D10 rfl
  refine g_put dX2_copyFrom_121 fd_X2_50 (g_ftyZ (C := RX2) (T := TX2) (N := 10) rfl rfl (by decide +kernel) hc) hk.1 rfl ?_
  exact gw_vret dX2_copyFrom_124 rfl hF
theorem dX3_keep_0 : decode cX3_keep 0 = .ok (.aload_n 0, 1) := by decide +kernel
theorem dX3_keep_1 : decode cX3_keep 1 = .ok (.getfield 18, 3) := by decide +kernel
theorem dX3_keep_4 : decode cX3_keep 4 = .ok (.bipush 10, 2) := by decide +kernel
theorem dX3_keep_6 : decode cX3_keep 6 = .ok (.if_icmp .ne 26, 3) := by decide +kernel
theorem dX3_keep_9 : decode cX3_keep 9 = .ok (.aload_n 0, 1) := by decide +kernel
theorem dX3_keep_10 : decode cX3_keep 10 = .ok (.aload_n 0, 1) := by decide +kernel
theorem dX3_keep_11 : decode cX3_keep 11 = .ok (.getfield 22, 3) := by decide +kernel
theorem dX3_keep_14 : decode cX3_keep 14 = .ok (.iconst 1, 1) := by decide +kernel
theorem dX3_keep_15 : decode cX3_keep 15 = .ok (.iadd, 1) := by decide +kernel
theorem dX3_keep_16 : decode cX3_keep 16 = .ok (.bipush 10, 2) := by decide +kernel
theorem dX3_keep_18 : decode cX3_keep 18 = .ok (.irem, 1) := by decide +kernel
theorem dX3_keep_19 : decode cX3_keep 19 = .ok (.putfield 22, 3) := by decide +kernel
theorem dX3_keep_22 : decode cX3_keep 22 = .ok (.aload_n 0, 1) := by decide +kernel
theorem dX3_keep_23 : decode cX3_keep 23 = .ok (.dup, 1) := by decide +kernel
theorem dX3_keep_24 : decode cX3_keep 24 = .ok (.getfield 18, 3) := by decide +kernel
theorem dX3_keep_27 : decode cX3_keep 27 = .ok (.iconst 1, 1) := by decide +kernel
theorem dX3_keep_28 : decode cX3_keep 28 = .ok (.isub, 1) := by decide +kernel
theorem dX3_keep_29 : decode cX3_keep 29 = .ok (.putfield 18, 3) := by decide +kernel
theorem dX3_keep_32 : decode cX3_keep 32 = .ok (.aload_n 0, 1) := by decide +kernel
theorem dX3_keep_33 : decode cX3_keep 33 = .ok (.getfield 11, 3) := by decide +kernel
theorem dX3_keep_36 : decode cX3_keep 36 = .ok (.aload_n 0, 1) := by decide +kernel
theorem dX3_keep_37 : decode cX3_keep 37 = .ok (.getfield 22, 3) := by decide +kernel
theorem dX3_keep_40 : decode cX3_keep 40 = .ok (.aload_n 0, 1) := by decide +kernel
theorem dX3_keep_41 : decode cX3_keep 41 = .ok (.getfield 18, 3) := by decide +kernel
theorem dX3_keep_44 : decode cX3_keep 44 = .ok (.iadd, 1) := by decide +kernel
theorem dX3_keep_45 : decode cX3_keep 45 = .ok (.bipush 10, 2) := by decide +kernel
theorem dX3_keep_47 : decode cX3_keep 47 = .ok (.irem, 1) := by decide +kernel
theorem dX3_keep_48 : decode cX3_keep 48 = .ok (.aaload, 1) := by decide +kernel
theorem dX3_keep_49 : decode cX3_keep 49 = .ok (.aload_n 1, 1) := by decide +kernel
theorem dX3_keep_50 : decode cX3_keep 50 = .ok (.invokevirtual 25, 3) := by decide +kernel
theorem dX3_keep_53 : decode cX3_keep 53 = .ok (.aload_n 0, 1) := by decide +kernel
theorem dX3_keep_54 : decode cX3_keep 54 = .ok (.dup, 1) := by decide +kernel
theorem dX3_keep_55 : decode cX3_keep 55 = .ok (.getfield 18, 3) := by decide +kernel
theorem dX3_keep_58 : decode cX3_keep 58 = .ok (.iconst 1, 1) := by decide +kernel
theorem dX3_keep_59 : decode cX3_keep 59 = .ok (.iadd, 1) := by decide +kernel
theorem dX3_keep_60 : decode cX3_keep 60 = .ok (.putfield 18, 3) := by decide +kernel
theorem dX3_keep_63 : decode cX3_keep 63 = .ok (.return_, 1) := by decide +kernel
abbrev k_X3_keep (E : g_E) (l : Launch) (D : g_D) (r1 : Nat) (K : g_D → Prop) : Prop := g_Kv E l m_X3_keep 3 [g_R 52, g_R r1] g_SH D K
abbrev n_X3_keep (E : g_E) (l : Launch) (D : g_D) (pc : Nat) (L : List (Option g_V)) (K : g_D → Prop) : Prop := g_N E l m_X3_keep 3 pc L [] g_SH D (g_Rv g_SH K)
theorem s_X3_keep {E : g_E} {l : Launch} {D : g_D} {K : g_D → Prop} {r1 : Nat} (hr1 : is_Device g_SH r1) (hF : g_okD D → (¬ (D 52 2) = 10 → (g_r ((D 52 1) + (D 52 2))) ∧ ((0 ≤ ((D 52 1) + (D 52 2))) ∧ ((0 ≤ (((D 52 1) + (D 52 2)) % 10) ∧ (((D 52 1) + (D 52 2)) % 10) < 10) ∧ (k_X2_copyFrom E l D (54 + 8 * (((D 52 1) + (D 52 2)) % 10).toNat) r1 (fun D2 => (g_r ((D2 52 2) + 1)) ∧ (∀ D3, D3 = g_up D2 52 2 ((D2 52 2) + 1) → (K D3))))))) ∧ ((D 52 2) = 10 → (g_r ((D 52 1) + 1)) ∧ ((0 ≤ ((D 52 1) + 1)) ∧ (∀ D4, D4 = g_up D 52 1 (((D 52 1) + 1) % 10) → ((g_r ((D 52 2) - 1)) ∧ (∀ D5, D5 = g_up D4 52 2 ((D 52 2) - 1) → ((g_r ((((D 52 1) + 1) % 10) + ((D 52 2) - 1))) ∧ ((0 ≤ ((((D 52 1) + 1) % 10) + ((D 52 2) - 1))) ∧ ((0 ≤ (((((D 52 1) + 1) % 10) + ((D 52 2) - 1)) % 10) ∧ (((((D 52 1) + 1) % 10) + ((D 52 2) - 1)) % 10) < 10) ∧ (k_X2_copyFrom E l D5 (54 + 8 * (((((D 52 1) + 1) % 10) + ((D 52 2) - 1)) % 10).toNat) r1 (fun D7 => (g_r ((D7 52 2) + 1)) ∧ (∀ D8, D8 = g_up D7 52 2 ((D7 52 2) + 1) → (K D8))))))))))))) : k_X3_keep E l D r1 K := by
  refine g_enter (by decide) (Nat.le_of_ble_eq_true rfl) ?_
  show g_N E l m_X3_keep 3 0 [some (g_R 52), some (g_R r1)] [] g_SH D (g_Rv g_SH K)
  refine g_use (fun ok => ?_)
  have hF := hF ok.2.1
  refine g_aload_n dX3_keep_0 rfl ?_
  refine g_getI dX3_keep_1 fd_X3_18 sh_52 rfl ?_
  refine g_bipush dX3_keep_4 ⟨by decide, by decide⟩ ?_
  refine g_cne dX3_keep_6 rfl (fun q => ?_) (fun q => ?_)
  · have hF := hF.1 q
    refine g_aload_n dX3_keep_32 rfl ?_
    refine g_getR dX3_keep_33 fd_X3_11 sh_52 rfl ?_
    refine g_aload_n dX3_keep_36 rfl ?_
    refine g_getI dX3_keep_37 fd_X3_22 sh_52 rfl ?_
    refine g_aload_n dX3_keep_40 rfl ?_
    refine g_getI dX3_keep_41 fd_X3_18 sh_52 rfl ?_
    obtain ⟨hc, hF⟩ := hF
    refine g_iadd dX3_keep_44 hc ?_
    refine g_bipush dX3_keep_45 ⟨by decide, by decide⟩ ?_
    obtain ⟨hc, hF⟩ := hF
    refine g_irem dX3_keep_47 hc (by decide) ?_
    obtain ⟨hc, hF⟩ := hF
    have hi1 : is_Device g_SH (54 + 8 * (((D 52 1) + (D 52 2)) % 10).toNat) := ix_Device (((D 52 1) + (D 52 2)) % 10).toNat (by omega)
    refine g_aald dX3_keep_48 sh_53 (by decide) hc.1 hc.2 (if_pos (by omega)) ?_
    refine g_aload_n dX3_keep_49 rfl ?_
    refine gw_cVv (b := (54 + 8 * (((D 52 1) + (D 52 2)) % 10).toNat)) (As := [g_R r1]) (rest := []) dX3_keep_50 mv_X3_25 hi1.1 rfl (Nat.le_of_ble_eq_true rfl) (by decide) rfl hF ?_
    intro D2 hF
    refine g_aload_n dX3_keep_53 rfl ?_
    refine g_dup dX3_keep_54 rfl ?_
    refine g_getI dX3_keep_55 fd_X3_18 sh_52 rfl ?_
    refine g_iconst dX3_keep_58 ⟨by decide, by decide⟩ ?_
    obtain ⟨hc, hF⟩ := hF
    refine g_iadd dX3_keep_59 hc ?_
    let D3 : g_D := g_up D2 52 2 ((D2 52 2) + 1)
    have hF := hF D3 rfl
    refine g_put dX3_keep_60 fd_X3_18 (g_ftyI (C := RX3) (T := TX3) (N := 3) rfl rfl (by decide +kernel)) sh_52 rfl ?_
    exact gw_vret dX3_keep_63 rfl hF
  · have hF := hF.2 q
    refine g_aload_n dX3_keep_9 rfl ?_
    refine g_aload_n dX3_keep_10 rfl ?_
    refine g_getI dX3_keep_11 fd_X3_22 sh_52 rfl ?_
    refine g_iconst dX3_keep_14 ⟨by decide, by decide⟩ ?_
    obtain ⟨hc, hF⟩ := hF
    refine g_iadd dX3_keep_15 hc ?_
    refine g_bipush dX3_keep_16 ⟨by decide, by decide⟩ ?_
    obtain ⟨hc, hF⟩ := hF
    refine g_irem dX3_keep_18 hc (by decide) ?_
    let D4 : g_D := g_up D 52 1 (((D 52 1) + 1) % 10)
    have hF := hF D4 rfl
    refine g_put dX3_keep_19 fd_X3_22 (g_ftyI (C := RX3) (T := TX3) (N := 3) rfl rfl (by decide +kernel)) sh_52 rfl ?_
    refine g_aload_n dX3_keep_22 rfl ?_
    refine g_dup dX3_keep_23 rfl ?_
    refine g_getI dX3_keep_24 fd_X3_18 sh_52 rfl ?_
    refine g_iconst dX3_keep_27 ⟨by decide, by decide⟩ ?_
    obtain ⟨hc, hF⟩ := hF
    refine g_isub dX3_keep_28 hc ?_
    let D5 : g_D := g_up D4 52 2 ((D 52 2) - 1)
    have hF := hF D5 rfl
    refine g_put dX3_keep_29 fd_X3_18 (g_ftyI (C := RX3) (T := TX3) (N := 3) rfl rfl (by decide +kernel)) sh_52 rfl ?_
    refine g_aload_n dX3_keep_32 rfl ?_
    refine g_getR dX3_keep_33 fd_X3_11 sh_52 rfl ?_
    refine g_aload_n dX3_keep_36 rfl ?_
    refine g_getI dX3_keep_37 fd_X3_22 sh_52 rfl ?_
    refine g_aload_n dX3_keep_40 rfl ?_
    refine g_getI dX3_keep_41 fd_X3_18 sh_52 rfl ?_
    obtain ⟨hc, hF⟩ := hF
    refine g_iadd dX3_keep_44 hc ?_
    refine g_bipush dX3_keep_45 ⟨by decide, by decide⟩ ?_
    obtain ⟨hc, hF⟩ := hF
    refine g_irem dX3_keep_47 hc (by decide) ?_
    obtain ⟨hc, hF⟩ := hF
    have hi6 : is_Device g_SH (54 + 8 * (((((D 52 1) + 1) % 10) + ((D 52 2) - 1)) % 10).toNat) := ix_Device (((((D 52 1) + 1) % 10) + ((D 52 2) - 1)) % 10).toNat (by omega)
    refine g_aald dX3_keep_48 sh_53 (by decide) hc.1 hc.2 (if_pos (by omega)) ?_
    refine g_aload_n dX3_keep_49 rfl ?_
    refine gw_cVv (b := (54 + 8 * (((((D 52 1) + 1) % 10) + ((D 52 2) - 1)) % 10).toNat)) (As := [g_R r1]) (rest := []) dX3_keep_50 mv_X3_25 hi6.1 rfl (Nat.le_of_ble_eq_true rfl) (by decide) rfl hF ?_
    intro D7 hF
    refine g_aload_n dX3_keep_53 rfl ?_
    refine g_dup dX3_keep_54 rfl ?_
    refine g_getI dX3_keep_55 fd_X3_18 sh_52 rfl ?_
    refine g_iconst dX3_keep_58 ⟨by decide, by decide⟩ ?_
    obtain ⟨hc, hF⟩ := hF
    refine g_iadd dX3_keep_59 hc ?_
    let D8 : g_D := g_up D7 52 2 ((D7 52 2) + 1)
    have hF := hF D8 rfl
    refine g_put dX3_keep_60 fd_X3_18 (g_ftyI (C := RX3) (T := TX3) (N := 3) rfl rfl (by decide +kernel)) sh_52 rfl ?_
    exact gw_vret dX3_keep_63 rfl hF
theorem dX2_startHere_0 : decode cX2_startHere 0 = .ok (.aload_n 0, 1) := by decide +kernel
theorem dX2_startHere_1 : decode cX2_startHere 1 = .ok (.getfield 9, 3) := by decide +kernel
theorem dX2_startHere_4 : decode cX2_startHere 4 = .ok (.iconst 0, 1) := by decide +kernel
theorem dX2_startHere_5 : decode cX2_startHere 5 = .ok (.aload_n 0, 1) := by decide +kernel
theorem dX2_startHere_6 : decode cX2_startHere 6 = .ok (.getfield 18, 3) := by decide +kernel
theorem dX2_startHere_9 : decode cX2_startHere 9 = .ok (.iconst 0, 1) := by decide +kernel
theorem dX2_startHere_10 : decode cX2_startHere 10 = .ok (.bipush 40, 2) := by decide +kernel
theorem dX2_startHere_12 : decode cX2_startHere 12 = .ok (.invokestatic 56, 3) := by decide +kernel
theorem dX2_startHere_15 : decode cX2_startHere 15 = .ok (.aload_n 0, 1) := by decide +kernel
theorem dX2_startHere_16 : decode cX2_startHere 16 = .ok (.getfield 15, 3) := by decide +kernel
theorem dX2_startHere_19 : decode cX2_startHere 19 = .ok (.iconst 0, 1) := by decide +kernel
theorem dX2_startHere_20 : decode cX2_startHere 20 = .ok (.aload_n 0, 1) := by decide +kernel
theorem dX2_startHere_21 : decode cX2_startHere 21 = .ok (.getfield 21, 3) := by decide +kernel
theorem dX2_startHere_24 : decode cX2_startHere 24 = .ok (.iconst 0, 1) := by decide +kernel
theorem dX2_startHere_25 : decode cX2_startHere 25 = .ok (.bipush 20, 2) := by decide +kernel
theorem dX2_startHere_27 : decode cX2_startHere 27 = .ok (.invokestatic 56, 3) := by decide +kernel
theorem dX2_startHere_30 : decode cX2_startHere 30 = .ok (.aload_n 0, 1) := by decide +kernel
theorem dX2_startHere_31 : decode cX2_startHere 31 = .ok (.iconst 0, 1) := by decide +kernel
theorem dX2_startHere_32 : decode cX2_startHere 32 = .ok (.invokevirtual 78, 3) := by decide +kernel
theorem dX2_startHere_35 : decode cX2_startHere 35 = .ok (.return_, 1) := by decide +kernel
abbrev k_X2_startHere (E : g_E) (l : Launch) (D : g_D) (k : Nat) (K : g_D → Prop) : Prop := g_Kv E l m_X2_startHere 1 [g_R k] g_SH D K
abbrev n_X2_startHere (E : g_E) (l : Launch) (D : g_D) (pc : Nat) (L : List (Option g_V)) (K : g_D → Prop) : Prop := g_N E l m_X2_startHere 1 pc L [] g_SH D (g_Rv g_SH K)
theorem s_X2_startHere {E : g_E} {l : Launch} {D : g_D} {K : g_D → Prop} {k : Nat} (hk : is_Device g_SH k) (hF : g_okD D → ((0 : Int) ≤ 0 ∧ (0 : Int) ≤ 0 ∧ (0 : Int) ≤ 40 ∧ (0 + 40 : Int) ≤ 40 ∧ (0 + 40 : Int) ≤ 40) ∧ (∀ D1, D1 = g_cpy D (k + 1) (k + 3) 0 0 40 → (((0 : Int) ≤ 0 ∧ (0 : Int) ≤ 0 ∧ (0 : Int) ≤ 20 ∧ (0 + 20 : Int) ≤ 20 ∧ (0 + 20 : Int) ≤ 20) ∧ (∀ D2, D2 = g_cpy D1 (k + 2) (k + 4) 0 0 20 → (k_X2_standAt E l D2 k 0 (fun D3 => K D3)))))) : k_X2_startHere E l D k K := by
  refine g_enter (by decide) (Nat.le_of_ble_eq_true rfl) ?_
  show g_N E l m_X2_startHere 1 0 [some (g_R k)] [] g_SH D (g_Rv g_SH K)
  refine g_use (fun ok => ?_)
  have hF := hF ok.2.1
  refine g_aload_n dX2_startHere_0 rfl ?_
  refine g_getR dX2_startHere_1 fd_X2_9 hk.1 rfl ?_
  refine g_iconst dX2_startHere_4 ⟨by decide, by decide⟩ ?_
  refine g_aload_n dX2_startHere_5 rfl ?_
  refine g_getR dX2_startHere_6 fd_X2_18 hk.1 rfl ?_
  refine g_iconst dX2_startHere_9 ⟨by decide, by decide⟩ ?_
  refine g_bipush dX2_startHere_10 ⟨by decide, by decide⟩ ?_
  obtain ⟨hc, hF⟩ := hF
  let D1 : g_D := g_cpy D (k + 1) (k + 3) 0 0 40
  have hF := hF D1 rfl
  refine g_acopy dX2_startHere_12 ac_X2_56.1 ac_X2_56.2.1 ac_X2_56.2.2.1 ac_X2_56.2.2.2 hk.2.1 hk.2.2.2.1 hc.1 hc.2.1 hc.2.2.1 hc.2.2.2.1 hc.2.2.2.2 (by decide) (Nat.le_of_ble_eq_true rfl) ?_
  refine g_aload_n dX2_startHere_15 rfl ?_
  refine g_getR dX2_startHere_16 fd_X2_15 hk.1 rfl ?_
  refine g_iconst dX2_startHere_19 ⟨by decide, by decide⟩ ?_
  refine g_aload_n dX2_startHere_20 rfl ?_
  refine g_getR dX2_startHere_21 fd_X2_21 hk.1 rfl ?_
  refine g_iconst dX2_startHere_24 ⟨by decide, by decide⟩ ?_
  refine g_bipush dX2_startHere_25 ⟨by decide, by decide⟩ ?_
  obtain ⟨hc, hF⟩ := hF
  let D2 : g_D := g_cpy D1 (k + 2) (k + 4) 0 0 20
  have hF := hF D2 rfl
  refine g_acopy dX2_startHere_27 ac_X2_56.1 ac_X2_56.2.1 ac_X2_56.2.2.1 ac_X2_56.2.2.2 hk.2.2.1 hk.2.2.2.2.1 hc.1 hc.2.1 hc.2.2.1 hc.2.2.2.1 hc.2.2.2.2 (by decide) (Nat.le_of_ble_eq_true rfl) ?_
  refine g_aload_n dX2_startHere_30 rfl ?_
  refine g_iconst dX2_startHere_31 ⟨by decide, by decide⟩ ?_
  refine gw_cVv (b := k) (As := [g_I 0]) (rest := []) dX2_startHere_32 mv_X2_78 hk.1 rfl (Nat.le_of_ble_eq_true rfl) (by decide) rfl hF ?_
  intro D3 hF
  exact gw_vret dX2_startHere_35 rfl hF
theorem dX2_burnCells_0 : decode cX2_burnCells 0 = .ok (.iconst 0, 1) := by decide +kernel
theorem dX2_burnCells_1 : decode cX2_burnCells 1 = .ok (.istore_n 2, 1) := by decide +kernel
theorem dX2_burnCells_2 : decode cX2_burnCells 2 = .ok (.iload_n 2, 1) := by decide +kernel
theorem dX2_burnCells_3 : decode cX2_burnCells 3 = .ok (.bipush 40, 2) := by decide +kernel
theorem dX2_burnCells_5 : decode cX2_burnCells 5 = .ok (.if_icmp .ge 35, 3) := by decide +kernel
theorem dX2_burnCells_8 : decode cX2_burnCells 8 = .ok (.aload_n 0, 1) := by decide +kernel
theorem dX2_burnCells_9 : decode cX2_burnCells 9 = .ok (.getfield 9, 3) := by decide +kernel
theorem dX2_burnCells_12 : decode cX2_burnCells 12 = .ok (.iload_n 2, 1) := by decide +kernel
theorem dX2_burnCells_13 : decode cX2_burnCells 13 = .ok (.iload_n 2, 1) := by decide +kernel
theorem dX2_burnCells_14 : decode cX2_burnCells 14 = .ok (.aload_n 1, 1) := by decide +kernel
theorem dX2_burnCells_15 : decode cX2_burnCells 15 = .ok (.getfield 62, 3) := by decide +kernel
theorem dX2_burnCells_18 : decode cX2_burnCells 18 = .ok (.if_icmp .ge 12, 3) := by decide +kernel
theorem dX2_burnCells_21 : decode cX2_burnCells 21 = .ok (.aload_n 1, 1) := by decide +kernel
theorem dX2_burnCells_22 : decode cX2_burnCells 22 = .ok (.getfield 72, 3) := by decide +kernel
theorem dX2_burnCells_25 : decode cX2_burnCells 25 = .ok (.iload_n 2, 1) := by decide +kernel
theorem dX2_burnCells_26 : decode cX2_burnCells 26 = .ok (.iaload, 1) := by decide +kernel
theorem dX2_burnCells_27 : decode cX2_burnCells 27 = .ok (.goto 6, 3) := by decide +kernel
theorem dX2_burnCells_30 : decode cX2_burnCells 30 = .ok (.sipush 255, 3) := by decide +kernel
theorem dX2_burnCells_33 : decode cX2_burnCells 33 = .ok (.iastore, 1) := by decide +kernel
theorem dX2_burnCells_34 : decode cX2_burnCells 34 = .ok (.iinc 2 1, 3) := by decide +kernel
theorem dX2_burnCells_37 : decode cX2_burnCells 37 = .ok (.goto (-35), 3) := by decide +kernel
theorem dX2_burnCells_40 : decode cX2_burnCells 40 = .ok (.aload_n 0, 1) := by decide +kernel
theorem dX2_burnCells_41 : decode cX2_burnCells 41 = .ok (.getfield 15, 3) := by decide +kernel
theorem dX2_burnCells_44 : decode cX2_burnCells 44 = .ok (.sipush 255, 3) := by decide +kernel
theorem dX2_burnCells_47 : decode cX2_burnCells 47 = .ok (.invokestatic 36, 3) := by decide +kernel
theorem dX2_burnCells_50 : decode cX2_burnCells 50 = .ok (.aload_n 0, 1) := by decide +kernel
theorem dX2_burnCells_51 : decode cX2_burnCells 51 = .ok (.getfield 29, 3) := by decide +kernel
theorem dX2_burnCells_54 : decode cX2_burnCells 54 = .ok (.iconst 0, 1) := by decide +kernel
theorem dX2_burnCells_55 : decode cX2_burnCells 55 = .ok (.putfield 62, 3) := by decide +kernel
theorem dX2_burnCells_58 : decode cX2_burnCells 58 = .ok (.aload_n 0, 1) := by decide +kernel
theorem dX2_burnCells_59 : decode cX2_burnCells 59 = .ok (.getfield 29, 3) := by decide +kernel
theorem dX2_burnCells_62 : decode cX2_burnCells 62 = .ok (.iconst 0, 1) := by decide +kernel
theorem dX2_burnCells_63 : decode cX2_burnCells 63 = .ok (.invokevirtual 53, 3) := by decide +kernel
theorem dX2_burnCells_66 : decode cX2_burnCells 66 = .ok (.aload_n 0, 1) := by decide +kernel
theorem dX2_burnCells_67 : decode cX2_burnCells 67 = .ok (.invokevirtual 75, 3) := by decide +kernel
theorem dX2_burnCells_70 : decode cX2_burnCells 70 = .ok (.return_, 1) := by decide +kernel
abbrev k_X2_burnCells (E : g_E) (l : Launch) (D : g_D) (k : Nat) (r1 : Nat) (K : g_D → Prop) : Prop := g_Kv E l m_X2_burnCells 2 [g_R k, g_R r1] g_SH D K
abbrev n_X2_burnCells (E : g_E) (l : Launch) (D : g_D) (pc : Nat) (L : List (Option g_V)) (K : g_D → Prop) : Prop := g_N E l m_X2_burnCells 2 pc L [] g_SH D (g_Rv g_SH K)
theorem s_X2_burnCells {E : g_E} {l : Launch} {D : g_D} {K : g_D → Prop} {nr1 : Nat} {k : Nat} {r1 : Nat} (hk : is_Device g_SH k) (hr1 : is_Cells g_SH r1 nr1) (hF : g_okD D → n_X2_burnCells E l D 2 [some (g_R k), some (g_R r1), some (g_I 0)] K) : k_X2_burnCells E l D k r1 K := by
  refine g_enter (by decide) (Nat.le_of_ble_eq_true rfl) ?_
  show g_N E l m_X2_burnCells 2 0 [some (g_R k), some (g_R r1), none] [] g_SH D (g_Rv g_SH K)
  refine g_use (fun ok => ?_)
  have hF := hF ok.2.1
  refine g_iconst dX2_burnCells_0 ⟨by decide, by decide⟩ ?_
  refine gw_istore_n (L' := [some (g_R k), some (g_R r1), some (g_I 0)]) dX2_burnCells_1 (by decide) rfl ?_
  exact hF
theorem s_X2_burnCells_2 {E : g_E} {l : Launch} {D : g_D} {K : g_D → Prop} {nr1 : Nat} {k : Nat} {r1 : Nat} {v2 : Int} (hk : is_Device g_SH k) (hr1 : is_Cells g_SH r1 nr1) (hF : g_okD D → g_r v2 → (40 ≤ v2 → k_J7_fill_53178 E l g_SH D (k + 2) 255 (fun D1 => ∀ D2, D2 = g_up D1 (k + 5) 1 0 → (k_X0_push E l g_SH D2 (k + 5) 0 (fun D3 => k_X2_startHere E l D3 k (fun D4 => K D4))))) ∧ (¬ 40 ≤ v2 → ((D r1 1) ≤ v2 → (0 ≤ v2 ∧ v2 < 40) ∧ (∀ D5, D5 = g_up D (k + 1) v2.toNat 255 → ((g_r (v2 + 1)) ∧ (n_X2_burnCells E l D5 2 [some (g_R k), some (g_R r1), some (g_I (v2 + 1))] K)))) ∧ (¬ (D r1 1) ≤ v2 → (0 ≤ v2 ∧ v2 < nr1) ∧ ((0 ≤ v2 ∧ v2 < 40) ∧ (∀ D6, D6 = g_up D (k + 1) v2.toNat (D (r1 + 1) v2.toNat) → ((g_r (v2 + 1)) ∧ (n_X2_burnCells E l D6 2 [some (g_R k), some (g_R r1), some (g_I (v2 + 1))] K))))))) : n_X2_burnCells E l D 2 [some (g_R k), some (g_R r1), some (g_I v2)] K := by
  refine g_use (fun ok => ?_)
  have hF := hF ok.2.1 (ok.loc (i := 2) rfl)
  refine g_iload_n dX2_burnCells_2 rfl ?_
  refine g_bipush dX2_burnCells_3 ⟨by decide, by decide⟩ ?_
  refine g_cge dX2_burnCells_5 rfl (fun q => ?_) (fun q => ?_)
  · have hF := hF.1 q
    refine g_aload_n dX2_burnCells_40 rfl ?_
    refine g_getR dX2_burnCells_41 fd_X2_15 hk.1 rfl ?_
    refine g_sipush dX2_burnCells_44 ⟨by decide, by decide⟩ ?_
    refine gw_cSv (As := [g_R (k + 2), g_I 255]) (rest := []) dX2_burnCells_47 ms_X2_36 rfl (Nat.le_of_ble_eq_true rfl) (by decide) rfl hF ?_
    intro D1 hF
    refine g_aload_n dX2_burnCells_50 rfl ?_
    refine g_getR dX2_burnCells_51 fd_X2_29 hk.1 rfl ?_
    refine g_iconst dX2_burnCells_54 ⟨by decide, by decide⟩ ?_
    let D2 : g_D := g_up D1 (k + 5) 1 0
    have hF := hF D2 rfl
    refine g_put dX2_burnCells_55 fd_X2_62 (g_ftyI (C := RX0) (T := TX0) (N := 2) rfl rfl (by decide +kernel)) hk.2.2.2.2.2.1 rfl ?_
    refine g_aload_n dX2_burnCells_58 rfl ?_
    refine g_getR dX2_burnCells_59 fd_X2_29 hk.1 rfl ?_
    refine g_iconst dX2_burnCells_62 ⟨by decide, by decide⟩ ?_
    refine gw_cVv (b := (k + 5)) (As := [g_I 0]) (rest := []) dX2_burnCells_63 mv_X2_53 hk.2.2.2.2.2.1 rfl (Nat.le_of_ble_eq_true rfl) (by decide) rfl hF ?_
    intro D3 hF
    refine g_aload_n dX2_burnCells_66 rfl ?_
    refine gw_cVv (b := k) (As := []) (rest := []) dX2_burnCells_67 mv_X2_75 hk.1 rfl (Nat.le_of_ble_eq_true rfl) (by decide) rfl hF ?_
    intro D4 hF
    exact gw_vret dX2_burnCells_70 rfl hF
  · have hF := hF.2 q
    refine g_aload_n dX2_burnCells_8 rfl ?_
    refine g_getR dX2_burnCells_9 fd_X2_9 hk.1 rfl ?_
    refine g_iload_n dX2_burnCells_12 rfl ?_
    refine g_iload_n dX2_burnCells_13 rfl ?_
    refine g_aload_n dX2_burnCells_14 rfl ?_
    refine g_getI dX2_burnCells_15 fd_X2_62 hr1.1 rfl ?_
    refine g_cge dX2_burnCells_18 rfl (fun q => ?_) (fun q => ?_)
    · have hF := hF.1 q
      refine g_sipush dX2_burnCells_30 ⟨by decide, by decide⟩ ?_
      obtain ⟨hc, hF⟩ := hF
      let D5 : g_D := g_up D (k + 1) v2.toNat 255
      have hF := hF D5 rfl
      refine g_iast dX2_burnCells_33 hk.2.1 hc.1 hc.2 ?_
      obtain ⟨hc, hF⟩ := hF
      refine gw_iinc (L' := [some (g_R k), some (g_R r1), some (g_I (v2 + 1))]) dX2_burnCells_34 rfl hc (by decide) rfl ?_
      refine g_goto dX2_burnCells_37 rfl ?_
      exact hF
    · have hF := hF.2 q
      refine g_aload_n dX2_burnCells_21 rfl ?_
      refine g_getR dX2_burnCells_22 fd_X2_72 hr1.1 rfl ?_
      refine g_iload_n dX2_burnCells_25 rfl ?_
      obtain ⟨hc, hF⟩ := hF
      refine g_iald dX2_burnCells_26 hr1.2 hc.1 hc.2 ?_
      refine g_goto dX2_burnCells_27 rfl ?_
      obtain ⟨hc, hF⟩ := hF
      let D6 : g_D := g_up D (k + 1) v2.toNat (D (r1 + 1) v2.toNat)
      have hF := hF D6 rfl
      refine g_iast dX2_burnCells_33 hk.2.1 hc.1 hc.2 ?_
      obtain ⟨hc, hF⟩ := hF
      refine gw_iinc (L' := [some (g_R k), some (g_R r1), some (g_I (v2 + 1))]) dX2_burnCells_34 rfl hc (by decide) rfl ?_
      refine g_goto dX2_burnCells_37 rfl ?_
      exact hF
theorem dX5_firstOverwritten_0 : decode cX5_firstOverwritten 0 = .ok (.aload_n 0, 1) := by decide +kernel
theorem dX5_firstOverwritten_1 : decode cX5_firstOverwritten 1 = .ok (.getfield 9, 3) := by decide +kernel
theorem dX5_firstOverwritten_4 : decode cX5_firstOverwritten 4 = .ok (.iload_n 1, 1) := by decide +kernel
theorem dX5_firstOverwritten_5 : decode cX5_firstOverwritten 5 = .ok (.iaload, 1) := by decide +kernel
theorem dX5_firstOverwritten_6 : decode cX5_firstOverwritten 6 = .ok (.iconst 1, 1) := by decide +kernel
theorem dX5_firstOverwritten_7 : decode cX5_firstOverwritten 7 = .ok (.if_icmp .eq 15, 3) := by decide +kernel
theorem dX5_firstOverwritten_10 : decode cX5_firstOverwritten 10 = .ok (.aload_n 0, 1) := by decide +kernel
theorem dX5_firstOverwritten_11 : decode cX5_firstOverwritten 11 = .ok (.getfield 9, 3) := by decide +kernel
theorem dX5_firstOverwritten_14 : decode cX5_firstOverwritten 14 = .ok (.iload_n 1, 1) := by decide +kernel
theorem dX5_firstOverwritten_15 : decode cX5_firstOverwritten 15 = .ok (.iaload, 1) := by decide +kernel
theorem dX5_firstOverwritten_16 : decode cX5_firstOverwritten 16 = .ok (.iconst 2, 1) := by decide +kernel
theorem dX5_firstOverwritten_17 : decode cX5_firstOverwritten 17 = .ok (.if_icmp .eq 5, 3) := by decide +kernel
theorem dX5_firstOverwritten_20 : decode cX5_firstOverwritten 20 = .ok (.iconst (-1), 1) := by decide +kernel
theorem dX5_firstOverwritten_21 : decode cX5_firstOverwritten 21 = .ok (.ireturn, 1) := by decide +kernel
theorem dX5_firstOverwritten_22 : decode cX5_firstOverwritten 22 = .ok (.aload_n 0, 1) := by decide +kernel
theorem dX5_firstOverwritten_23 : decode cX5_firstOverwritten 23 = .ok (.getfield 18, 3) := by decide +kernel
theorem dX5_firstOverwritten_26 : decode cX5_firstOverwritten 26 = .ok (.iload_n 1, 1) := by decide +kernel
theorem dX5_firstOverwritten_27 : decode cX5_firstOverwritten 27 = .ok (.iaload, 1) := by decide +kernel
theorem dX5_firstOverwritten_28 : decode cX5_firstOverwritten 28 = .ok (.istore_n 2, 1) := by decide +kernel
theorem dX5_firstOverwritten_29 : decode cX5_firstOverwritten 29 = .ok (.iload_n 2, 1) := by decide +kernel
theorem dX5_firstOverwritten_30 : decode cX5_firstOverwritten 30 = .ok (.aload_n 0, 1) := by decide +kernel
theorem dX5_firstOverwritten_31 : decode cX5_firstOverwritten 31 = .ok (.getfield 18, 3) := by decide +kernel
theorem dX5_firstOverwritten_34 : decode cX5_firstOverwritten 34 = .ok (.iload_n 1, 1) := by decide +kernel
theorem dX5_firstOverwritten_35 : decode cX5_firstOverwritten 35 = .ok (.iaload, 1) := by decide +kernel
theorem dX5_firstOverwritten_36 : decode cX5_firstOverwritten 36 = .ok (.aload_n 0, 1) := by decide +kernel
theorem dX5_firstOverwritten_37 : decode cX5_firstOverwritten 37 = .ok (.getfield 21, 3) := by decide +kernel
theorem dX5_firstOverwritten_40 : decode cX5_firstOverwritten 40 = .ok (.iload_n 1, 1) := by decide +kernel
theorem dX5_firstOverwritten_41 : decode cX5_firstOverwritten 41 = .ok (.iaload, 1) := by decide +kernel
theorem dX5_firstOverwritten_42 : decode cX5_firstOverwritten 42 = .ok (.iadd, 1) := by decide +kernel
theorem dX5_firstOverwritten_43 : decode cX5_firstOverwritten 43 = .ok (.if_icmp .ge 61, 3) := by decide +kernel
theorem dX5_firstOverwritten_46 : decode cX5_firstOverwritten 46 = .ok (.iconst 0, 1) := by decide +kernel
theorem dX5_firstOverwritten_47 : decode cX5_firstOverwritten 47 = .ok (.istore_n 3, 1) := by decide +kernel
theorem dX5_firstOverwritten_48 : decode cX5_firstOverwritten 48 = .ok (.iload_n 3, 1) := by decide +kernel
theorem dX5_firstOverwritten_49 : decode cX5_firstOverwritten 49 = .ok (.iload_n 1, 1) := by decide +kernel
theorem dX5_firstOverwritten_50 : decode cX5_firstOverwritten 50 = .ok (.if_icmp .ge 48, 3) := by decide +kernel
theorem dX5_firstOverwritten_53 : decode cX5_firstOverwritten 53 = .ok (.aload_n 0, 1) := by decide +kernel
theorem dX5_firstOverwritten_54 : decode cX5_firstOverwritten 54 = .ok (.getfield 9, 3) := by decide +kernel
theorem dX5_firstOverwritten_57 : decode cX5_firstOverwritten 57 = .ok (.iload_n 3, 1) := by decide +kernel
theorem dX5_firstOverwritten_58 : decode cX5_firstOverwritten 58 = .ok (.iaload, 1) := by decide +kernel
theorem dX5_firstOverwritten_59 : decode cX5_firstOverwritten 59 = .ok (.iconst 1, 1) := by decide +kernel
theorem dX5_firstOverwritten_60 : decode cX5_firstOverwritten 60 = .ok (.if_icmp .eq 32, 3) := by decide +kernel
theorem dX5_firstOverwritten_63 : decode cX5_firstOverwritten 63 = .ok (.iload_n 2, 1) := by decide +kernel
theorem dX5_firstOverwritten_64 : decode cX5_firstOverwritten 64 = .ok (.aload_n 0, 1) := by decide +kernel
theorem dX5_firstOverwritten_65 : decode cX5_firstOverwritten 65 = .ok (.getfield 15, 3) := by decide +kernel
theorem dX5_firstOverwritten_68 : decode cX5_firstOverwritten 68 = .ok (.iload_n 3, 1) := by decide +kernel
theorem dX5_firstOverwritten_69 : decode cX5_firstOverwritten 69 = .ok (.iaload, 1) := by decide +kernel
theorem dX5_firstOverwritten_70 : decode cX5_firstOverwritten 70 = .ok (.if_icmp .lt 22, 3) := by decide +kernel
theorem dX5_firstOverwritten_73 : decode cX5_firstOverwritten 73 = .ok (.iload_n 2, 1) := by decide +kernel
theorem dX5_firstOverwritten_74 : decode cX5_firstOverwritten 74 = .ok (.aload_n 0, 1) := by decide +kernel
theorem dX5_firstOverwritten_75 : decode cX5_firstOverwritten 75 = .ok (.getfield 15, 3) := by decide +kernel
theorem dX5_firstOverwritten_78 : decode cX5_firstOverwritten 78 = .ok (.iload_n 3, 1) := by decide +kernel
theorem dX5_firstOverwritten_79 : decode cX5_firstOverwritten 79 = .ok (.iaload, 1) := by decide +kernel
theorem dX5_firstOverwritten_80 : decode cX5_firstOverwritten 80 = .ok (.aload_n 0, 1) := by decide +kernel
theorem dX5_firstOverwritten_81 : decode cX5_firstOverwritten 81 = .ok (.getfield 21, 3) := by decide +kernel
theorem dX5_firstOverwritten_84 : decode cX5_firstOverwritten 84 = .ok (.iload_n 3, 1) := by decide +kernel
theorem dX5_firstOverwritten_85 : decode cX5_firstOverwritten 85 = .ok (.iaload, 1) := by decide +kernel
theorem dX5_firstOverwritten_86 : decode cX5_firstOverwritten 86 = .ok (.iadd, 1) := by decide +kernel
theorem dX5_firstOverwritten_87 : decode cX5_firstOverwritten 87 = .ok (.if_icmp .ge 5, 3) := by decide +kernel
theorem dX5_firstOverwritten_90 : decode cX5_firstOverwritten 90 = .ok (.iload_n 2, 1) := by decide +kernel
theorem dX5_firstOverwritten_91 : decode cX5_firstOverwritten 91 = .ok (.ireturn, 1) := by decide +kernel
theorem dX5_firstOverwritten_92 : decode cX5_firstOverwritten 92 = .ok (.iinc 3 1, 3) := by decide +kernel
theorem dX5_firstOverwritten_95 : decode cX5_firstOverwritten 95 = .ok (.goto (-47), 3) := by decide +kernel
theorem dX5_firstOverwritten_98 : decode cX5_firstOverwritten 98 = .ok (.iinc 2 1, 3) := by decide +kernel
theorem dX5_firstOverwritten_101 : decode cX5_firstOverwritten 101 = .ok (.goto (-72), 3) := by decide +kernel
theorem dX5_firstOverwritten_104 : decode cX5_firstOverwritten 104 = .ok (.iconst (-1), 1) := by decide +kernel
theorem dX5_firstOverwritten_105 : decode cX5_firstOverwritten 105 = .ok (.ireturn, 1) := by decide +kernel
abbrev k_X5_firstOverwritten (E : g_E) (l : Launch) (D : g_D) (k : Nat) (v1 : Int) (K : Int → g_D → Prop) : Prop := g_Ki E l m_X5_firstOverwritten 0 [g_R k, g_I v1] g_SH D K
abbrev n_X5_firstOverwritten (E : g_E) (l : Launch) (D : g_D) (pc : Nat) (L : List (Option g_V)) (K : Int → g_D → Prop) : Prop := g_N E l m_X5_firstOverwritten 0 pc L [] g_SH D (g_Ri g_SH K)
theorem s_X5_firstOverwritten {E : g_E} {l : Launch} {D : g_D} {K : Int → g_D → Prop} {k : Nat} {v1 : Int} (hk : is_Reader g_SH k) (hF : g_okD D → g_r v1 → (0 ≤ v1 ∧ v1 < 36) ∧ (((D (k + 1) v1.toNat) = 1 → (0 ≤ v1 ∧ v1 < 36) ∧ (n_X5_firstOverwritten E l D 29 [some (g_R k), some (g_I v1), some (g_I (D (k + 3) v1.toNat)), none] K)) ∧ (¬ (D (k + 1) v1.toNat) = 1 → (0 ≤ v1 ∧ v1 < 36) ∧ (((D (k + 1) v1.toNat) = 2 → (0 ≤ v1 ∧ v1 < 36) ∧ (n_X5_firstOverwritten E l D 29 [some (g_R k), some (g_I v1), some (g_I (D (k + 3) v1.toNat)), none] K)) ∧ (¬ (D (k + 1) v1.toNat) = 2 → K (-1) D))))) : k_X5_firstOverwritten E l D k v1 K := by
  refine g_enter (by decide) (Nat.le_of_ble_eq_true rfl) ?_
  show g_N E l m_X5_firstOverwritten 0 0 [some (g_R k), some (g_I v1), none, none] [] g_SH D (g_Ri g_SH K)
  refine g_use (fun ok => ?_)
  have hF := hF ok.2.1 (ok.loc (i := 1) rfl)
  refine g_aload_n dX5_firstOverwritten_0 rfl ?_
  refine g_getR dX5_firstOverwritten_1 fd_X5_9 hk.1 rfl ?_
  refine g_iload_n dX5_firstOverwritten_4 rfl ?_
  obtain ⟨hc, hF⟩ := hF
  refine g_iald dX5_firstOverwritten_5 hk.2.1 hc.1 hc.2 ?_
  refine g_iconst dX5_firstOverwritten_6 ⟨by decide, by decide⟩ ?_
  refine g_ceq dX5_firstOverwritten_7 rfl (fun q => ?_) (fun q => ?_)
  · have hF := hF.1 q
    refine g_aload_n dX5_firstOverwritten_22 rfl ?_
    refine g_getR dX5_firstOverwritten_23 fd_X5_18 hk.1 rfl ?_
    refine g_iload_n dX5_firstOverwritten_26 rfl ?_
    obtain ⟨hc, hF⟩ := hF
    refine g_iald dX5_firstOverwritten_27 hk.2.2.2.1 hc.1 hc.2 ?_
    refine gw_istore_n (L' := [some (g_R k), some (g_I v1), some (g_I (D (k + 3) v1.toNat)), none]) dX5_firstOverwritten_28 (by decide) rfl ?_
    exact hF
  · have hF := hF.2 q
    refine g_aload_n dX5_firstOverwritten_10 rfl ?_
    refine g_getR dX5_firstOverwritten_11 fd_X5_9 hk.1 rfl ?_
    refine g_iload_n dX5_firstOverwritten_14 rfl ?_
    obtain ⟨hc, hF⟩ := hF
    refine g_iald dX5_firstOverwritten_15 hk.2.1 hc.1 hc.2 ?_
    refine g_iconst dX5_firstOverwritten_16 ⟨by decide, by decide⟩ ?_
    refine g_ceq dX5_firstOverwritten_17 rfl (fun q => ?_) (fun q => ?_)
    · have hF := hF.1 q
      refine g_aload_n dX5_firstOverwritten_22 rfl ?_
      refine g_getR dX5_firstOverwritten_23 fd_X5_18 hk.1 rfl ?_
      refine g_iload_n dX5_firstOverwritten_26 rfl ?_
      obtain ⟨hc, hF⟩ := hF
      refine g_iald dX5_firstOverwritten_27 hk.2.2.2.1 hc.1 hc.2 ?_
      refine gw_istore_n (L' := [some (g_R k), some (g_I v1), some (g_I (D (k + 3) v1.toNat)), none]) dX5_firstOverwritten_28 (by decide) rfl ?_
      exact hF
    · have hF := hF.2 q
      refine g_iconst dX5_firstOverwritten_20 ⟨by decide, by decide⟩ ?_
      exact gw_iret dX5_firstOverwritten_21 rfl hF
theorem s_X5_firstOverwritten_29 {E : g_E} {l : Launch} {D : g_D} {K : Int → g_D → Prop} {k : Nat} {v1 : Int} {v2 : Int} (hk : is_Reader g_SH k) (hF : g_okD D → g_r v1 → g_r v2 → (0 ≤ v1 ∧ v1 < 36) ∧ ((0 ≤ v1 ∧ v1 < 36) ∧ ((g_r ((D (k + 3) v1.toNat) + (D (k + 4) v1.toNat))) ∧ ((((D (k + 3) v1.toNat) + (D (k + 4) v1.toNat)) ≤ v2 → K (-1) D) ∧ (¬ ((D (k + 3) v1.toNat) + (D (k + 4) v1.toNat)) ≤ v2 → n_X5_firstOverwritten E l D 48 [some (g_R k), some (g_I v1), some (g_I v2), some (g_I 0)] K))))) : n_X5_firstOverwritten E l D 29 [some (g_R k), some (g_I v1), some (g_I v2), none] K := by
  refine g_use (fun ok => ?_)
  have hF := hF ok.2.1 (ok.loc (i := 1) rfl) (ok.loc (i := 2) rfl)
  refine g_iload_n dX5_firstOverwritten_29 rfl ?_
  refine g_aload_n dX5_firstOverwritten_30 rfl ?_
  refine g_getR dX5_firstOverwritten_31 fd_X5_18 hk.1 rfl ?_
  refine g_iload_n dX5_firstOverwritten_34 rfl ?_
  obtain ⟨hc, hF⟩ := hF
  refine g_iald dX5_firstOverwritten_35 hk.2.2.2.1 hc.1 hc.2 ?_
  refine g_aload_n dX5_firstOverwritten_36 rfl ?_
  refine g_getR dX5_firstOverwritten_37 fd_X5_21 hk.1 rfl ?_
  refine g_iload_n dX5_firstOverwritten_40 rfl ?_
  obtain ⟨hc, hF⟩ := hF
  refine g_iald dX5_firstOverwritten_41 hk.2.2.2.2 hc.1 hc.2 ?_
  obtain ⟨hc, hF⟩ := hF
  refine g_iadd dX5_firstOverwritten_42 hc ?_
  refine g_cge dX5_firstOverwritten_43 rfl (fun q => ?_) (fun q => ?_)
  · have hF := hF.1 q
    refine g_iconst dX5_firstOverwritten_104 ⟨by decide, by decide⟩ ?_
    exact gw_iret dX5_firstOverwritten_105 rfl hF
  · have hF := hF.2 q
    refine g_iconst dX5_firstOverwritten_46 ⟨by decide, by decide⟩ ?_
    refine gw_istore_n (L' := [some (g_R k), some (g_I v1), some (g_I v2), some (g_I 0)]) dX5_firstOverwritten_47 (by decide) rfl ?_
    exact hF
theorem s_X5_firstOverwritten_48 {E : g_E} {l : Launch} {D : g_D} {K : Int → g_D → Prop} {k : Nat} {v1 : Int} {v2 : Int} {v3 : Int} (hk : is_Reader g_SH k) (hF : g_okD D → g_r v1 → g_r v2 → g_r v3 → (v1 ≤ v3 → (g_r (v2 + 1)) ∧ (n_X5_firstOverwritten E l D 29 [some (g_R k), some (g_I v1), some (g_I (v2 + 1)), none] K)) ∧ (¬ v1 ≤ v3 → (0 ≤ v3 ∧ v3 < 36) ∧ (((D (k + 1) v3.toNat) = 1 → (g_r (v3 + 1)) ∧ (n_X5_firstOverwritten E l D 48 [some (g_R k), some (g_I v1), some (g_I v2), some (g_I (v3 + 1))] K)) ∧ (¬ (D (k + 1) v3.toNat) = 1 → (0 ≤ v3 ∧ v3 < 36) ∧ ((v2 < (D (k + 2) v3.toNat) → (g_r (v3 + 1)) ∧ (n_X5_firstOverwritten E l D 48 [some (g_R k), some (g_I v1), some (g_I v2), some (g_I (v3 + 1))] K)) ∧ (¬ v2 < (D (k + 2) v3.toNat) → (0 ≤ v3 ∧ v3 < 36) ∧ ((0 ≤ v3 ∧ v3 < 36) ∧ ((g_r ((D (k + 2) v3.toNat) + (D (k + 4) v3.toNat))) ∧ ((((D (k + 2) v3.toNat) + (D (k + 4) v3.toNat)) ≤ v2 → (g_r (v3 + 1)) ∧ (n_X5_firstOverwritten E l D 48 [some (g_R k), some (g_I v1), some (g_I v2), some (g_I (v3 + 1))] K)) ∧ (¬ ((D (k + 2) v3.toNat) + (D (k + 4) v3.toNat)) ≤ v2 → K v2 D)))))))))) : n_X5_firstOverwritten E l D 48 [some (g_R k), some (g_I v1), some (g_I v2), some (g_I v3)] K := by
  refine g_use (fun ok => ?_)
  have hF := hF ok.2.1 (ok.loc (i := 1) rfl) (ok.loc (i := 2) rfl) (ok.loc (i := 3) rfl)
  refine g_iload_n dX5_firstOverwritten_48 rfl ?_
  refine g_iload_n dX5_firstOverwritten_49 rfl ?_
  refine g_cge dX5_firstOverwritten_50 rfl (fun q => ?_) (fun q => ?_)
  · have hF := hF.1 q
    obtain ⟨hc, hF⟩ := hF
    refine gw_iinc (L' := [some (g_R k), some (g_I v1), some (g_I (v2 + 1)), some (g_I v3)]) dX5_firstOverwritten_98 rfl hc (by decide) rfl ?_
    refine g_goto dX5_firstOverwritten_101 rfl ?_
    exact g_forget (L' := [some (g_R k), some (g_I v1), some (g_I (v2 + 1)), none]) ⟨rfl, ⟨rfl, ⟨rfl, trivial⟩⟩⟩ hF
  · have hF := hF.2 q
    refine g_aload_n dX5_firstOverwritten_53 rfl ?_
    refine g_getR dX5_firstOverwritten_54 fd_X5_9 hk.1 rfl ?_
    refine g_iload_n dX5_firstOverwritten_57 rfl ?_
    obtain ⟨hc, hF⟩ := hF
    refine g_iald dX5_firstOverwritten_58 hk.2.1 hc.1 hc.2 ?_
    refine g_iconst dX5_firstOverwritten_59 ⟨by decide, by decide⟩ ?_
    refine g_ceq dX5_firstOverwritten_60 rfl (fun q => ?_) (fun q => ?_)
    · have hF := hF.1 q
      obtain ⟨hc, hF⟩ := hF
      refine gw_iinc (L' := [some (g_R k), some (g_I v1), some (g_I v2), some (g_I (v3 + 1))]) dX5_firstOverwritten_92 rfl hc (by decide) rfl ?_
      refine g_goto dX5_firstOverwritten_95 rfl ?_
      exact hF
    · have hF := hF.2 q
      refine g_iload_n dX5_firstOverwritten_63 rfl ?_
      refine g_aload_n dX5_firstOverwritten_64 rfl ?_
      refine g_getR dX5_firstOverwritten_65 fd_X5_15 hk.1 rfl ?_
      refine g_iload_n dX5_firstOverwritten_68 rfl ?_
      obtain ⟨hc, hF⟩ := hF
      refine g_iald dX5_firstOverwritten_69 hk.2.2.1 hc.1 hc.2 ?_
      refine g_clt dX5_firstOverwritten_70 rfl (fun q => ?_) (fun q => ?_)
      · have hF := hF.1 q
        obtain ⟨hc, hF⟩ := hF
        refine gw_iinc (L' := [some (g_R k), some (g_I v1), some (g_I v2), some (g_I (v3 + 1))]) dX5_firstOverwritten_92 rfl hc (by decide) rfl ?_
        refine g_goto dX5_firstOverwritten_95 rfl ?_
        exact hF
      · have hF := hF.2 q
        refine g_iload_n dX5_firstOverwritten_73 rfl ?_
        refine g_aload_n dX5_firstOverwritten_74 rfl ?_
        refine g_getR dX5_firstOverwritten_75 fd_X5_15 hk.1 rfl ?_
        refine g_iload_n dX5_firstOverwritten_78 rfl ?_
        obtain ⟨hc, hF⟩ := hF
        refine g_iald dX5_firstOverwritten_79 hk.2.2.1 hc.1 hc.2 ?_
        refine g_aload_n dX5_firstOverwritten_80 rfl ?_
        refine g_getR dX5_firstOverwritten_81 fd_X5_21 hk.1 rfl ?_
        refine g_iload_n dX5_firstOverwritten_84 rfl ?_
        obtain ⟨hc, hF⟩ := hF
        refine g_iald dX5_firstOverwritten_85 hk.2.2.2.2 hc.1 hc.2 ?_
        obtain ⟨hc, hF⟩ := hF
        refine g_iadd dX5_firstOverwritten_86 hc ?_
        refine g_cge dX5_firstOverwritten_87 rfl (fun q => ?_) (fun q => ?_)
        · have hF := hF.1 q
          obtain ⟨hc, hF⟩ := hF
          refine gw_iinc (L' := [some (g_R k), some (g_I v1), some (g_I v2), some (g_I (v3 + 1))]) dX5_firstOverwritten_92 rfl hc (by decide) rfl ?_
          refine g_goto dX5_firstOverwritten_95 rfl ?_
          exact hF
        · have hF := hF.2 q
          refine g_iload_n dX5_firstOverwritten_90 rfl ?_
          exact gw_iret dX5_firstOverwritten_91 rfl hF
theorem dX8_copyFrom_0 : decode cX8_copyFrom 0 = .ok (.aload_n 0, 1) := by decide +kernel
theorem dX8_copyFrom_1 : decode cX8_copyFrom 1 = .ok (.getfield 14, 3) := by decide +kernel
theorem dX8_copyFrom_4 : decode cX8_copyFrom 4 = .ok (.aload_n 1, 1) := by decide +kernel
theorem dX8_copyFrom_5 : decode cX8_copyFrom 5 = .ok (.getfield 14, 3) := by decide +kernel
theorem dX8_copyFrom_8 : decode cX8_copyFrom 8 = .ok (.aload_n 1, 1) := by decide +kernel
theorem dX8_copyFrom_9 : decode cX8_copyFrom 9 = .ok (.getfield 14, 3) := by decide +kernel
theorem dX8_copyFrom_12 : decode cX8_copyFrom 12 = .ok (.getfield 43, 3) := by decide +kernel
theorem dX8_copyFrom_15 : decode cX8_copyFrom 15 = .ok (.invokevirtual 47, 3) := by decide +kernel
theorem dX8_copyFrom_18 : decode cX8_copyFrom 18 = .ok (.aload_n 0, 1) := by decide +kernel
theorem dX8_copyFrom_19 : decode cX8_copyFrom 19 = .ok (.getfield 20, 3) := by decide +kernel
theorem dX8_copyFrom_22 : decode cX8_copyFrom 22 = .ok (.aload_n 1, 1) := by decide +kernel
theorem dX8_copyFrom_23 : decode cX8_copyFrom 23 = .ok (.getfield 20, 3) := by decide +kernel
theorem dX8_copyFrom_26 : decode cX8_copyFrom 26 = .ok (.aload_n 1, 1) := by decide +kernel
theorem dX8_copyFrom_27 : decode cX8_copyFrom 27 = .ok (.getfield 20, 3) := by decide +kernel
theorem dX8_copyFrom_30 : decode cX8_copyFrom 30 = .ok (.getfield 43, 3) := by decide +kernel
theorem dX8_copyFrom_33 : decode cX8_copyFrom 33 = .ok (.invokevirtual 47, 3) := by decide +kernel
theorem dX8_copyFrom_36 : decode cX8_copyFrom 36 = .ok (.aload_n 1, 1) := by decide +kernel
theorem dX8_copyFrom_37 : decode cX8_copyFrom 37 = .ok (.getfield 23, 3) := by decide +kernel
theorem dX8_copyFrom_40 : decode cX8_copyFrom 40 = .ok (.iconst 0, 1) := by decide +kernel
theorem dX8_copyFrom_41 : decode cX8_copyFrom 41 = .ok (.aload_n 0, 1) := by decide +kernel
theorem dX8_copyFrom_42 : decode cX8_copyFrom 42 = .ok (.getfield 23, 3) := by decide +kernel
theorem dX8_copyFrom_45 : decode cX8_copyFrom 45 = .ok (.iconst 0, 1) := by decide +kernel
theorem dX8_copyFrom_46 : decode cX8_copyFrom 46 = .ok (.iconst 4, 1) := by decide +kernel
theorem dX8_copyFrom_47 : decode cX8_copyFrom 47 = .ok (.invokestatic 30, 3) := by decide +kernel
theorem dX8_copyFrom_50 : decode cX8_copyFrom 50 = .ok (.aload_n 0, 1) := by decide +kernel
theorem dX8_copyFrom_51 : decode cX8_copyFrom 51 = .ok (.getfield 39, 3) := by decide +kernel
theorem dX8_copyFrom_54 : decode cX8_copyFrom 54 = .ok (.aload_n 1, 1) := by decide +kernel
theorem dX8_copyFrom_55 : decode cX8_copyFrom 55 = .ok (.getfield 39, 3) := by decide +kernel
theorem dX8_copyFrom_58 : decode cX8_copyFrom 58 = .ok (.invokevirtual 51, 3) := by decide +kernel
theorem dX8_copyFrom_61 : decode cX8_copyFrom 61 = .ok (.return_, 1) := by decide +kernel
abbrev k_X8_copyFrom (E : g_E) (l : Launch) (D : g_D) (k : Nat) (r1 : Nat) (K : g_D → Prop) : Prop := g_Kv E l m_X8_copyFrom 3 [g_R k, g_R r1] g_SH D K
abbrev n_X8_copyFrom (E : g_E) (l : Launch) (D : g_D) (pc : Nat) (L : List (Option g_V)) (K : g_D → Prop) : Prop := g_N E l m_X8_copyFrom 3 pc L [] g_SH D (g_Rv g_SH K)
theorem s_X8_copyFrom {E : g_E} {l : Launch} {D : g_D} {K : g_D → Prop} {k : Nat} {r1 : Nat} (hk : is_State g_SH k) (hr1 : is_State g_SH r1) (hF : g_okD D → k_X0_copyFirst E l g_SH D (k + 1) (r1 + 1) (D (r1 + 1) 1) (fun D1 => k_X0_copyFirst E l g_SH D1 (k + 3) (r1 + 3) (D1 (r1 + 3) 1) (fun D2 => ((0 : Int) ≤ 0 ∧ (0 : Int) ≤ 0 ∧ (0 : Int) ≤ 4 ∧ (0 + 4 : Int) ≤ 4 ∧ (0 + 4 : Int) ≤ 4) ∧ (∀ D3, D3 = g_cpy D2 (r1 + 5) (k + 5) 0 0 4 → (k_X2_copyFrom E l D3 (k + 6) (r1 + 6) (fun D4 => K D4)))))) : k_X8_copyFrom E l D k r1 K := by
  refine g_enter (by decide) (Nat.le_of_ble_eq_true rfl) ?_
  show g_N E l m_X8_copyFrom 3 0 [some (g_R k), some (g_R r1)] [] g_SH D (g_Rv g_SH K)
  refine g_use (fun ok => ?_)
  have hF := hF ok.2.1
  refine g_aload_n dX8_copyFrom_0 rfl ?_
  refine g_getR dX8_copyFrom_1 fd_X8_14 hk.1 rfl ?_
  refine g_aload_n dX8_copyFrom_4 rfl ?_
  refine g_getR dX8_copyFrom_5 fd_X8_14 hr1.1 rfl ?_
  refine g_aload_n dX8_copyFrom_8 rfl ?_
  refine g_getR dX8_copyFrom_9 fd_X8_14 hr1.1 rfl ?_
  refine g_getI dX8_copyFrom_12 fd_X8_43 hr1.2.1 rfl ?_
  refine gw_cVv (b := (k + 1)) (As := [g_R (r1 + 1), g_I (D (r1 + 1) 1)]) (rest := []) dX8_copyFrom_15 mv_X8_47 hk.2.1 rfl (Nat.le_of_ble_eq_true rfl) (by decide) rfl hF ?_
  intro D1 hF
  refine g_aload_n dX8_copyFrom_18 rfl ?_
  refine g_getR dX8_copyFrom_19 fd_X8_20 hk.1 rfl ?_
  refine g_aload_n dX8_copyFrom_22 rfl ?_
  refine g_getR dX8_copyFrom_23 fd_X8_20 hr1.1 rfl ?_
  refine g_aload_n dX8_copyFrom_26 rfl ?_
  refine g_getR dX8_copyFrom_27 fd_X8_20 hr1.1 rfl ?_
  refine g_getI dX8_copyFrom_30 fd_X8_43 hr1.2.2.2.1 rfl ?_
  refine gw_cVv (b := (k + 3)) (As := [g_R (r1 + 3), g_I (D1 (r1 + 3) 1)]) (rest := []) dX8_copyFrom_33 mv_X8_47 hk.2.2.2.1 rfl (Nat.le_of_ble_eq_true rfl) (by decide) rfl hF ?_
  intro D2 hF
  refine g_aload_n dX8_copyFrom_36 rfl ?_
  refine g_getR dX8_copyFrom_37 fd_X8_23 hr1.1 rfl ?_
  refine g_iconst dX8_copyFrom_40 ⟨by decide, by decide⟩ ?_
  refine g_aload_n dX8_copyFrom_41 rfl ?_
  refine g_getR dX8_copyFrom_42 fd_X8_23 hk.1 rfl ?_
  refine g_iconst dX8_copyFrom_45 ⟨by decide, by decide⟩ ?_
  refine g_iconst dX8_copyFrom_46 ⟨by decide, by decide⟩ ?_
  obtain ⟨hc, hF⟩ := hF
  let D3 : g_D := g_cpy D2 (r1 + 5) (k + 5) 0 0 4
  have hF := hF D3 rfl
  refine g_acopy dX8_copyFrom_47 ac_X8_30.1 ac_X8_30.2.1 ac_X8_30.2.2.1 ac_X8_30.2.2.2 hr1.2.2.2.2.2.1 hk.2.2.2.2.2.1 hc.1 hc.2.1 hc.2.2.1 hc.2.2.2.1 hc.2.2.2.2 (by decide) (Nat.le_of_ble_eq_true rfl) ?_
  refine g_aload_n dX8_copyFrom_50 rfl ?_
  refine g_getR dX8_copyFrom_51 fd_X8_39 hk.1 rfl ?_
  refine g_aload_n dX8_copyFrom_54 rfl ?_
  refine g_getR dX8_copyFrom_55 fd_X8_39 hr1.1 rfl ?_
  refine gw_cVv (b := (k + 6)) (As := [g_R (r1 + 6)]) (rest := []) dX8_copyFrom_58 mv_X8_51 hk.2.2.2.2.2.2.1 rfl (Nat.le_of_ble_eq_true rfl) (by decide) rfl hF ?_
  intro D4 hF
  exact gw_vret dX8_copyFrom_61 rfl hF
theorem dX2_start_0 : decode cX2_start 0 = .ok (.aload_n 0, 1) := by decide +kernel
theorem dX2_start_1 : decode cX2_start 1 = .ok (.getfield 29, 3) := by decide +kernel
theorem dX2_start_4 : decode cX2_start 4 = .ok (.aload_n 1, 1) := by decide +kernel
theorem dX2_start_5 : decode cX2_start 5 = .ok (.iload_n 2, 1) := by decide +kernel
theorem dX2_start_6 : decode cX2_start 6 = .ok (.invokevirtual 65, 3) := by decide +kernel
theorem dX2_start_9 : decode cX2_start 9 = .ok (.aload_n 0, 1) := by decide +kernel
theorem dX2_start_10 : decode cX2_start 10 = .ok (.invokevirtual 75, 3) := by decide +kernel
theorem dX2_start_13 : decode cX2_start 13 = .ok (.return_, 1) := by decide +kernel
abbrev k_X2_start (E : g_E) (l : Launch) (D : g_D) (k : Nat) (r1 : Nat) (v2 : Int) (K : g_D → Prop) : Prop := g_Kv E l m_X2_start 2 [g_R k, g_R r1, g_I v2] g_SH D K
abbrev n_X2_start (E : g_E) (l : Launch) (D : g_D) (pc : Nat) (L : List (Option g_V)) (K : g_D → Prop) : Prop := g_N E l m_X2_start 2 pc L [] g_SH D (g_Rv g_SH K)
theorem s_X2_start {E : g_E} {l : Launch} {D : g_D} {K : g_D → Prop} {nr1 : Nat} {k : Nat} {r1 : Nat} {v2 : Int} (hk : is_Device g_SH k) (hr1 : is_Cells g_SH r1 nr1) (hF : g_okD D → g_r v2 → k_X0_copyFirst E l g_SH D (k + 5) r1 v2 (fun D1 => k_X2_startHere E l D1 k (fun D2 => K D2))) : k_X2_start E l D k r1 v2 K := by
  refine g_enter (by decide) (Nat.le_of_ble_eq_true rfl) ?_
  show g_N E l m_X2_start 2 0 [some (g_R k), some (g_R r1), some (g_I v2)] [] g_SH D (g_Rv g_SH K)
  refine g_use (fun ok => ?_)
  have hF := hF ok.2.1 (ok.loc (i := 2) rfl)
  refine g_aload_n dX2_start_0 rfl ?_
  refine g_getR dX2_start_1 fd_X2_29 hk.1 rfl ?_
  refine g_aload_n dX2_start_4 rfl ?_
  refine g_iload_n dX2_start_5 rfl ?_
  refine gw_cVv (b := (k + 5)) (As := [g_R r1, g_I v2]) (rest := []) dX2_start_6 mv_X2_65 hk.2.2.2.2.2.1 rfl (Nat.le_of_ble_eq_true rfl) (by decide) rfl hF ?_
  intro D1 hF
  refine g_aload_n dX2_start_9 rfl ?_
  refine gw_cVv (b := k) (As := []) (rest := []) dX2_start_10 mv_X2_75 hk.1 rfl (Nat.le_of_ble_eq_true rfl) (by decide) rfl hF ?_
  intro D2 hF
  exact gw_vret dX2_start_13 rfl hF
theorem dX3_clear_0 : decode cX3_clear 0 = .ok (.aload_n 0, 1) := by decide +kernel
theorem dX3_clear_1 : decode cX3_clear 1 = .ok (.iconst 0, 1) := by decide +kernel
theorem dX3_clear_2 : decode cX3_clear 2 = .ok (.putfield 18, 3) := by decide +kernel
theorem dX3_clear_5 : decode cX3_clear 5 = .ok (.return_, 1) := by decide +kernel
abbrev k_X3_clear (E : g_E) (l : Launch) (D : g_D) (K : g_D → Prop) : Prop := g_Kv E l m_X3_clear 0 [g_R 52] g_SH D K
abbrev n_X3_clear (E : g_E) (l : Launch) (D : g_D) (pc : Nat) (L : List (Option g_V)) (K : g_D → Prop) : Prop := g_N E l m_X3_clear 0 pc L [] g_SH D (g_Rv g_SH K)
theorem s_X3_clear {E : g_E} {l : Launch} {D : g_D} {K : g_D → Prop}   (hF : g_okD D → ∀ D1, D1 = g_up D 52 2 0 → (K D1)) : k_X3_clear E l D K := by
  refine g_enter (by decide) (Nat.le_of_ble_eq_true rfl) ?_
  show g_N E l m_X3_clear 0 0 [some (g_R 52)] [] g_SH D (g_Rv g_SH K)
  refine g_use (fun ok => ?_)
  have hF := hF ok.2.1
  refine g_aload_n dX3_clear_0 rfl ?_
  refine g_iconst dX3_clear_1 ⟨by decide, by decide⟩ ?_
  let D1 : g_D := g_up D 52 2 0
  have hF := hF D1 rfl
  refine g_put dX3_clear_2 fd_X3_18 (g_ftyI (C := RX3) (T := TX3) (N := 3) rfl rfl (by decide +kernel)) sh_52 rfl ?_
  exact gw_vret dX3_clear_5 rfl hF
theorem dX9_isBefore_0 : decode cX9_isBefore 0 = .ok (.aload_n 0, 1) := by decide +kernel
theorem dX9_isBefore_1 : decode cX9_isBefore 1 = .ok (.iload_n 1, 1) := by decide +kernel
theorem dX9_isBefore_2 : decode cX9_isBefore 2 = .ok (.aload_n 0, 1) := by decide +kernel
theorem dX9_isBefore_3 : decode cX9_isBefore 3 = .ok (.iload_n 2, 1) := by decide +kernel
theorem dX9_isBefore_4 : decode cX9_isBefore 4 = .ok (.invokevirtual 29, 3) := by decide +kernel
theorem dX9_isBefore_7 : decode cX9_isBefore 7 = .ok (.istore_n 3, 1) := by decide +kernel
theorem dX9_isBefore_8 : decode cX9_isBefore 8 = .ok (.iload_n 1, 1) := by decide +kernel
theorem dX9_isBefore_9 : decode cX9_isBefore 9 = .ok (.iload_n 3, 1) := by decide +kernel
theorem dX9_isBefore_10 : decode cX9_isBefore 10 = .ok (.iadd, 1) := by decide +kernel
theorem dX9_isBefore_11 : decode cX9_isBefore 11 = .ok (.aload_n 0, 1) := by decide +kernel
theorem dX9_isBefore_12 : decode cX9_isBefore 12 = .ok (.getfield 18, 3) := by decide +kernel
theorem dX9_isBefore_15 : decode cX9_isBefore 15 = .ok (.if_icmp .ge 13, 3) := by decide +kernel
theorem dX9_isBefore_18 : decode cX9_isBefore 18 = .ok (.iload_n 2, 1) := by decide +kernel
theorem dX9_isBefore_19 : decode cX9_isBefore 19 = .ok (.iload_n 3, 1) := by decide +kernel
theorem dX9_isBefore_20 : decode cX9_isBefore 20 = .ok (.iadd, 1) := by decide +kernel
theorem dX9_isBefore_21 : decode cX9_isBefore 21 = .ok (.aload_n 0, 1) := by decide +kernel
theorem dX9_isBefore_22 : decode cX9_isBefore 22 = .ok (.getfield 18, 3) := by decide +kernel
theorem dX9_isBefore_25 : decode cX9_isBefore 25 = .ok (.if_icmp .lt 14, 3) := by decide +kernel
theorem dX9_isBefore_28 : decode cX9_isBefore 28 = .ok (.iload_n 1, 1) := by decide +kernel
theorem dX9_isBefore_29 : decode cX9_isBefore 29 = .ok (.iload_n 2, 1) := by decide +kernel
theorem dX9_isBefore_30 : decode cX9_isBefore 30 = .ok (.if_icmp .le 7, 3) := by decide +kernel
theorem dX9_isBefore_33 : decode cX9_isBefore 33 = .ok (.iconst 1, 1) := by decide +kernel
theorem dX9_isBefore_34 : decode cX9_isBefore 34 = .ok (.goto 4, 3) := by decide +kernel
theorem dX9_isBefore_37 : decode cX9_isBefore 37 = .ok (.iconst 0, 1) := by decide +kernel
theorem dX9_isBefore_38 : decode cX9_isBefore 38 = .ok (.ireturn, 1) := by decide +kernel
theorem dX9_isBefore_39 : decode cX9_isBefore 39 = .ok (.aload_n 0, 1) := by decide +kernel
theorem dX9_isBefore_40 : decode cX9_isBefore 40 = .ok (.getfield 37, 3) := by decide +kernel
theorem dX9_isBefore_43 : decode cX9_isBefore 43 = .ok (.iload_n 1, 1) := by decide +kernel
theorem dX9_isBefore_44 : decode cX9_isBefore 44 = .ok (.iload_n 3, 1) := by decide +kernel
theorem dX9_isBefore_45 : decode cX9_isBefore 45 = .ok (.iadd, 1) := by decide +kernel
theorem dX9_isBefore_46 : decode cX9_isBefore 46 = .ok (.iaload, 1) := by decide +kernel
theorem dX9_isBefore_47 : decode cX9_isBefore 47 = .ok (.aload_n 0, 1) := by decide +kernel
theorem dX9_isBefore_48 : decode cX9_isBefore 48 = .ok (.getfield 37, 3) := by decide +kernel
theorem dX9_isBefore_51 : decode cX9_isBefore 51 = .ok (.iload_n 2, 1) := by decide +kernel
theorem dX9_isBefore_52 : decode cX9_isBefore 52 = .ok (.iload_n 3, 1) := by decide +kernel
theorem dX9_isBefore_53 : decode cX9_isBefore 53 = .ok (.iadd, 1) := by decide +kernel
theorem dX9_isBefore_54 : decode cX9_isBefore 54 = .ok (.iaload, 1) := by decide +kernel
theorem dX9_isBefore_55 : decode cX9_isBefore 55 = .ok (.if_icmp .ge 7, 3) := by decide +kernel
theorem dX9_isBefore_58 : decode cX9_isBefore 58 = .ok (.iconst 1, 1) := by decide +kernel
theorem dX9_isBefore_59 : decode cX9_isBefore 59 = .ok (.goto 4, 3) := by decide +kernel
theorem dX9_isBefore_62 : decode cX9_isBefore 62 = .ok (.iconst 0, 1) := by decide +kernel
theorem dX9_isBefore_63 : decode cX9_isBefore 63 = .ok (.ireturn, 1) := by decide +kernel
abbrev k_X9_isBefore (E : g_E) (l : Launch) (sh : List g_Sh) (D : g_D) (r0 : Nat) (v1 : Int) (v2 : Int) (K : Int → g_D → Prop) : Prop := g_Ki E l m_X9_isBefore 2 [g_R r0, g_I v1, g_I v2] sh D K
abbrev n_X9_isBefore (E : g_E) (l : Launch) (sh : List g_Sh) (D : g_D) (pc : Nat) (L : List (Option g_V)) (K : Int → g_D → Prop) : Prop := g_N E l m_X9_isBefore 2 pc L [] sh D (g_Ri sh K)
theorem s_X9_isBefore {E : g_E} {l : Launch} {sh : List g_Sh} {D : g_D} {K : Int → g_D → Prop} {nr0 : Nat} {r0 : Nat} {v1 : Int} {v2 : Int} (hr0 : is_Cells sh r0 nr0) (hF : g_okD D → g_r v1 → g_r v2 → k_X0_alike E l sh D r0 v1 r0 v2 (fun x1 D1 => g_r x1 → (g_r (v1 + x1)) ∧ (((D1 r0 1) ≤ (v1 + x1) → (v1 ≤ v2 → K 0 D1) ∧ (¬ v1 ≤ v2 → K 1 D1)) ∧ (¬ (D1 r0 1) ≤ (v1 + x1) → (g_r (v2 + x1)) ∧ (((v2 + x1) < (D1 r0 1) → (g_r (v1 + x1)) ∧ ((0 ≤ (v1 + x1) ∧ (v1 + x1) < nr0) ∧ ((g_r (v2 + x1)) ∧ ((0 ≤ (v2 + x1) ∧ (v2 + x1) < nr0) ∧ (((D1 (r0 + 1) (v2 + x1).toNat) ≤ (D1 (r0 + 1) (v1 + x1).toNat) → K 0 D1) ∧ (¬ (D1 (r0 + 1) (v2 + x1).toNat) ≤ (D1 (r0 + 1) (v1 + x1).toNat) → K 1 D1)))))) ∧ (¬ (v2 + x1) < (D1 r0 1) → (v1 ≤ v2 → K 0 D1) ∧ (¬ v1 ≤ v2 → K 1 D1))))))) : k_X9_isBefore E l sh D r0 v1 v2 K := by
  refine g_enter (by decide) (Nat.le_of_ble_eq_true rfl) ?_
  show g_N E l m_X9_isBefore 2 0 [some (g_R r0), some (g_I v1), some (g_I v2), none] [] sh D (g_Ri sh K)
  refine g_use (fun ok => ?_)
  have hF := hF ok.2.1 (ok.loc (i := 1) rfl) (ok.loc (i := 2) rfl)
  refine g_aload_n dX9_isBefore_0 rfl ?_
  refine g_iload_n dX9_isBefore_1 rfl ?_
  refine g_aload_n dX9_isBefore_2 rfl ?_
  refine g_iload_n dX9_isBefore_3 rfl ?_
  refine gw_cVi (b := r0) (As := [g_I v1, g_R r0, g_I v2]) (rest := []) dX9_isBefore_4 mv_X9_29 hr0.1 rfl (Nat.le_of_ble_eq_true rfl) (by decide) rfl hF ?_
  intro x1 D1 hx1 hF
  have hF := hF hx1
  refine gw_istore_n (L' := [some (g_R r0), some (g_I v1), some (g_I v2), some (g_I x1)]) dX9_isBefore_7 (by decide) rfl ?_
  refine g_iload_n dX9_isBefore_8 rfl ?_
  refine g_iload_n dX9_isBefore_9 rfl ?_
  obtain ⟨hc, hF⟩ := hF
  refine g_iadd dX9_isBefore_10 hc ?_
  refine g_aload_n dX9_isBefore_11 rfl ?_
  refine g_getI dX9_isBefore_12 fd_X9_18 hr0.1 rfl ?_
  refine g_cge dX9_isBefore_15 rfl (fun q => ?_) (fun q => ?_)
  · have hF := hF.1 q
    refine g_iload_n dX9_isBefore_28 rfl ?_
    refine g_iload_n dX9_isBefore_29 rfl ?_
    refine g_cle dX9_isBefore_30 rfl (fun q => ?_) (fun q => ?_)
    · have hF := hF.1 q
      refine g_iconst dX9_isBefore_37 ⟨by decide, by decide⟩ ?_
      exact gw_zret dX9_isBefore_38 rfl (by decide) hF
    · have hF := hF.2 q
      refine g_iconst dX9_isBefore_33 ⟨by decide, by decide⟩ ?_
      refine g_goto dX9_isBefore_34 rfl ?_
      exact gw_zret dX9_isBefore_38 rfl (by decide) hF
  · have hF := hF.2 q
    refine g_iload_n dX9_isBefore_18 rfl ?_
    refine g_iload_n dX9_isBefore_19 rfl ?_
    obtain ⟨hc, hF⟩ := hF
    refine g_iadd dX9_isBefore_20 hc ?_
    refine g_aload_n dX9_isBefore_21 rfl ?_
    refine g_getI dX9_isBefore_22 fd_X9_18 hr0.1 rfl ?_
    refine g_clt dX9_isBefore_25 rfl (fun q => ?_) (fun q => ?_)
    · have hF := hF.1 q
      refine g_aload_n dX9_isBefore_39 rfl ?_
      refine g_getR dX9_isBefore_40 fd_X9_37 hr0.1 rfl ?_
      refine g_iload_n dX9_isBefore_43 rfl ?_
      refine g_iload_n dX9_isBefore_44 rfl ?_
      obtain ⟨hc, hF⟩ := hF
      refine g_iadd dX9_isBefore_45 hc ?_
      obtain ⟨hc, hF⟩ := hF
      refine g_iald dX9_isBefore_46 hr0.2 hc.1 hc.2 ?_
      refine g_aload_n dX9_isBefore_47 rfl ?_
      refine g_getR dX9_isBefore_48 fd_X9_37 hr0.1 rfl ?_
      refine g_iload_n dX9_isBefore_51 rfl ?_
      refine g_iload_n dX9_isBefore_52 rfl ?_
      obtain ⟨hc, hF⟩ := hF
      refine g_iadd dX9_isBefore_53 hc ?_
      obtain ⟨hc, hF⟩ := hF
      refine g_iald dX9_isBefore_54 hr0.2 hc.1 hc.2 ?_
      refine g_cge dX9_isBefore_55 rfl (fun q => ?_) (fun q => ?_)
      · have hF := hF.1 q
        refine g_iconst dX9_isBefore_62 ⟨by decide, by decide⟩ ?_
        exact gw_zret dX9_isBefore_63 rfl (by decide) hF
      · have hF := hF.2 q
        refine g_iconst dX9_isBefore_58 ⟨by decide, by decide⟩ ?_
        refine g_goto dX9_isBefore_59 rfl ?_
        exact gw_zret dX9_isBefore_63 rfl (by decide) hF
    · have hF := hF.2 q
      refine g_iload_n dX9_isBefore_28 rfl ?_
      refine g_iload_n dX9_isBefore_29 rfl ?_
      refine g_cle dX9_isBefore_30 rfl (fun q => ?_) (fun q => ?_)
      · have hF := hF.1 q
        refine g_iconst dX9_isBefore_37 ⟨by decide, by decide⟩ ?_
        exact gw_zret dX9_isBefore_38 rfl (by decide) hF
      · have hF := hF.2 q
        refine g_iconst dX9_isBefore_33 ⟨by decide, by decide⟩ ?_
        refine g_goto dX9_isBefore_34 rfl ?_
        exact gw_zret dX9_isBefore_38 rfl (by decide) hF
theorem dX9_insert_0 : decode cX9_insert 0 = .ok (.iload_n 2, 1) := by decide +kernel
theorem dX9_insert_1 : decode cX9_insert 1 = .ok (.istore_n 3, 1) := by decide +kernel
theorem dX9_insert_2 : decode cX9_insert 2 = .ok (.iload_n 3, 1) := by decide +kernel
theorem dX9_insert_3 : decode cX9_insert 3 = .ok (.ifCond .le 39, 3) := by decide +kernel
theorem dX9_insert_6 : decode cX9_insert 6 = .ok (.aload_n 1, 1) := by decide +kernel
theorem dX9_insert_7 : decode cX9_insert 7 = .ok (.iload_n 2, 1) := by decide +kernel
theorem dX9_insert_8 : decode cX9_insert 8 = .ok (.aload_n 0, 1) := by decide +kernel
theorem dX9_insert_9 : decode cX9_insert 9 = .ok (.getfield 9, 3) := by decide +kernel
theorem dX9_insert_12 : decode cX9_insert 12 = .ok (.iload_n 3, 1) := by decide +kernel
theorem dX9_insert_13 : decode cX9_insert 13 = .ok (.iconst 1, 1) := by decide +kernel
theorem dX9_insert_14 : decode cX9_insert 14 = .ok (.isub, 1) := by decide +kernel
theorem dX9_insert_15 : decode cX9_insert 15 = .ok (.iaload, 1) := by decide +kernel
theorem dX9_insert_16 : decode cX9_insert 16 = .ok (.invokestatic 33, 3) := by decide +kernel
theorem dX9_insert_19 : decode cX9_insert 19 = .ok (.ifCond .eq 23, 3) := by decide +kernel
theorem dX9_insert_22 : decode cX9_insert 22 = .ok (.aload_n 0, 1) := by decide +kernel
theorem dX9_insert_23 : decode cX9_insert 23 = .ok (.getfield 9, 3) := by decide +kernel
theorem dX9_insert_26 : decode cX9_insert 26 = .ok (.iload_n 3, 1) := by decide +kernel
theorem dX9_insert_27 : decode cX9_insert 27 = .ok (.aload_n 0, 1) := by decide +kernel
theorem dX9_insert_28 : decode cX9_insert 28 = .ok (.getfield 9, 3) := by decide +kernel
theorem dX9_insert_31 : decode cX9_insert 31 = .ok (.iload_n 3, 1) := by decide +kernel
theorem dX9_insert_32 : decode cX9_insert 32 = .ok (.iconst 1, 1) := by decide +kernel
theorem dX9_insert_33 : decode cX9_insert 33 = .ok (.isub, 1) := by decide +kernel
theorem dX9_insert_34 : decode cX9_insert 34 = .ok (.iaload, 1) := by decide +kernel
theorem dX9_insert_35 : decode cX9_insert 35 = .ok (.iastore, 1) := by decide +kernel
theorem dX9_insert_36 : decode cX9_insert 36 = .ok (.iinc 3 (-1), 3) := by decide +kernel
theorem dX9_insert_39 : decode cX9_insert 39 = .ok (.goto (-37), 3) := by decide +kernel
theorem dX9_insert_42 : decode cX9_insert 42 = .ok (.aload_n 0, 1) := by decide +kernel
theorem dX9_insert_43 : decode cX9_insert 43 = .ok (.getfield 9, 3) := by decide +kernel
theorem dX9_insert_46 : decode cX9_insert 46 = .ok (.iload_n 3, 1) := by decide +kernel
theorem dX9_insert_47 : decode cX9_insert 47 = .ok (.iload_n 2, 1) := by decide +kernel
theorem dX9_insert_48 : decode cX9_insert 48 = .ok (.iastore, 1) := by decide +kernel
theorem dX9_insert_49 : decode cX9_insert 49 = .ok (.return_, 1) := by decide +kernel
abbrev k_X9_insert (E : g_E) (l : Launch) (D : g_D) (r1 : Nat) (v2 : Int) (K : g_D → Prop) : Prop := g_Kv E l m_X9_insert 3 [g_R 134, g_R r1, g_I v2] g_SH D K
abbrev n_X9_insert (E : g_E) (l : Launch) (D : g_D) (pc : Nat) (L : List (Option g_V)) (K : g_D → Prop) : Prop := g_N E l m_X9_insert 3 pc L [] g_SH D (g_Rv g_SH K)
theorem s_X9_insert {E : g_E} {l : Launch} {D : g_D} {K : g_D → Prop} {nr1 : Nat} {r1 : Nat} {v2 : Int} (hr1 : is_Cells g_SH r1 nr1) (hF : g_okD D → g_r v2 → n_X9_insert E l D 2 [some (g_R 134), some (g_R r1), some (g_I v2), some (g_I v2)] K) : k_X9_insert E l D r1 v2 K := by
  refine g_enter (by decide) (Nat.le_of_ble_eq_true rfl) ?_
  show g_N E l m_X9_insert 3 0 [some (g_R 134), some (g_R r1), some (g_I v2), none] [] g_SH D (g_Rv g_SH K)
  refine g_use (fun ok => ?_)
  have hF := hF ok.2.1 (ok.loc (i := 2) rfl)
  refine g_iload_n dX9_insert_0 rfl ?_
  refine gw_istore_n (L' := [some (g_R 134), some (g_R r1), some (g_I v2), some (g_I v2)]) dX9_insert_1 (by decide) rfl ?_
  exact hF
theorem s_X9_insert_2 {E : g_E} {l : Launch} {D : g_D} {K : g_D → Prop} {nr1 : Nat} {r1 : Nat} {v2 : Int} {v3 : Int} (hr1 : is_Cells g_SH r1 nr1) (hF : g_okD D → g_r v2 → g_r v3 → (v3 ≤ 0 → (0 ≤ v3 ∧ v3 < 40) ∧ (∀ D1, D1 = g_up D 135 v3.toNat v2 → (K D1))) ∧ (¬ v3 ≤ 0 → (g_r (v3 - 1)) ∧ ((0 ≤ (v3 - 1) ∧ (v3 - 1) < 40) ∧ (k_X9_isBefore E l g_SH D r1 v2 (D 135 (v3 - 1).toNat) (fun x2 D2 => g_r x2 → (x2 = 0 → (0 ≤ v3 ∧ v3 < 40) ∧ (∀ D3, D3 = g_up D2 135 v3.toNat v2 → (K D3))) ∧ (¬ x2 = 0 → (g_r (v3 - 1)) ∧ ((0 ≤ (v3 - 1) ∧ (v3 - 1) < 40) ∧ ((0 ≤ v3 ∧ v3 < 40) ∧ (∀ D4, D4 = g_up D2 135 v3.toNat (D2 135 (v3 - 1).toNat) → ((g_r (v3 + (-1))) ∧ (n_X9_insert E l D4 2 [some (g_R 134), some (g_R r1), some (g_I v2), some (g_I (v3 + (-1)))] K))))))))))) : n_X9_insert E l D 2 [some (g_R 134), some (g_R r1), some (g_I v2), some (g_I v3)] K := by
  refine g_use (fun ok => ?_)
  have hF := hF ok.2.1 (ok.loc (i := 2) rfl) (ok.loc (i := 3) rfl)
  refine g_iload_n dX9_insert_2 rfl ?_
  refine g_ifle dX9_insert_3 rfl (fun q => ?_) (fun q => ?_)
  · have hF := hF.1 q
    refine g_aload_n dX9_insert_42 rfl ?_
    refine g_getR dX9_insert_43 fd_X9_9 sh_134 rfl ?_
    refine g_iload_n dX9_insert_46 rfl ?_
    refine g_iload_n dX9_insert_47 rfl ?_
    obtain ⟨hc, hF⟩ := hF
    let D1 : g_D := g_up D 135 v3.toNat v2
    have hF := hF D1 rfl
    refine g_iast dX9_insert_48 sh_135 hc.1 hc.2 ?_
    exact gw_vret dX9_insert_49 rfl hF
  · have hF := hF.2 q
    refine g_aload_n dX9_insert_6 rfl ?_
    refine g_iload_n dX9_insert_7 rfl ?_
    refine g_aload_n dX9_insert_8 rfl ?_
    refine g_getR dX9_insert_9 fd_X9_9 sh_134 rfl ?_
    refine g_iload_n dX9_insert_12 rfl ?_
    refine g_iconst dX9_insert_13 ⟨by decide, by decide⟩ ?_
    obtain ⟨hc, hF⟩ := hF
    refine g_isub dX9_insert_14 hc ?_
    obtain ⟨hc, hF⟩ := hF
    refine g_iald dX9_insert_15 sh_135 hc.1 hc.2 ?_
    refine gw_cSi (As := [g_R r1, g_I v2, g_I (D 135 (v3 - 1).toNat)]) (rest := []) dX9_insert_16 ms_X9_33 rfl (Nat.le_of_ble_eq_true rfl) (by decide) rfl hF ?_
    intro x2 D2 hx2 hF
    have hF := hF hx2
    refine g_ifeq dX9_insert_19 rfl (fun q => ?_) (fun q => ?_)
    · have hF := hF.1 q
      refine g_aload_n dX9_insert_42 rfl ?_
      refine g_getR dX9_insert_43 fd_X9_9 sh_134 rfl ?_
      refine g_iload_n dX9_insert_46 rfl ?_
      refine g_iload_n dX9_insert_47 rfl ?_
      obtain ⟨hc, hF⟩ := hF
      let D3 : g_D := g_up D2 135 v3.toNat v2
      have hF := hF D3 rfl
      refine g_iast dX9_insert_48 sh_135 hc.1 hc.2 ?_
      exact gw_vret dX9_insert_49 rfl hF
    · have hF := hF.2 q
      refine g_aload_n dX9_insert_22 rfl ?_
      refine g_getR dX9_insert_23 fd_X9_9 sh_134 rfl ?_
      refine g_iload_n dX9_insert_26 rfl ?_
      refine g_aload_n dX9_insert_27 rfl ?_
      refine g_getR dX9_insert_28 fd_X9_9 sh_134 rfl ?_
      refine g_iload_n dX9_insert_31 rfl ?_
      refine g_iconst dX9_insert_32 ⟨by decide, by decide⟩ ?_
      obtain ⟨hc, hF⟩ := hF
      refine g_isub dX9_insert_33 hc ?_
      obtain ⟨hc, hF⟩ := hF
      refine g_iald dX9_insert_34 sh_135 hc.1 hc.2 ?_
      obtain ⟨hc, hF⟩ := hF
      let D4 : g_D := g_up D2 135 v3.toNat (D2 135 (v3 - 1).toNat)
      have hF := hF D4 rfl
      refine g_iast dX9_insert_35 sh_135 hc.1 hc.2 ?_
      obtain ⟨hc, hF⟩ := hF
      refine gw_iinc (L' := [some (g_R 134), some (g_R r1), some (g_I v2), some (g_I (v3 + (-1)))]) dX9_insert_36 rfl hc (by decide) rfl ?_
      refine g_goto dX9_insert_39 rfl ?_
      exact hF
theorem dX9_sort_0 : decode cX9_sort 0 = .ok (.aload_n 0, 1) := by decide +kernel
theorem dX9_sort_1 : decode cX9_sort 1 = .ok (.aload_n 1, 1) := by decide +kernel
theorem dX9_sort_2 : decode cX9_sort 2 = .ok (.getfield 18, 3) := by decide +kernel
theorem dX9_sort_5 : decode cX9_sort 5 = .ok (.putfield 24, 3) := by decide +kernel
theorem dX9_sort_8 : decode cX9_sort 8 = .ok (.iconst 0, 1) := by decide +kernel
theorem dX9_sort_9 : decode cX9_sort 9 = .ok (.istore_n 2, 1) := by decide +kernel
theorem dX9_sort_10 : decode cX9_sort 10 = .ok (.iload_n 2, 1) := by decide +kernel
theorem dX9_sort_11 : decode cX9_sort 11 = .ok (.aload_n 0, 1) := by decide +kernel
theorem dX9_sort_12 : decode cX9_sort 12 = .ok (.getfield 24, 3) := by decide +kernel
theorem dX9_sort_15 : decode cX9_sort 15 = .ok (.if_icmp .ge 15, 3) := by decide +kernel
theorem dX9_sort_18 : decode cX9_sort 18 = .ok (.aload_n 0, 1) := by decide +kernel
theorem dX9_sort_19 : decode cX9_sort 19 = .ok (.aload_n 1, 1) := by decide +kernel
theorem dX9_sort_20 : decode cX9_sort 20 = .ok (.iload_n 2, 1) := by decide +kernel
theorem dX9_sort_21 : decode cX9_sort 21 = .ok (.invokevirtual 25, 3) := by decide +kernel
theorem dX9_sort_24 : decode cX9_sort 24 = .ok (.iinc 2 1, 3) := by decide +kernel
theorem dX9_sort_27 : decode cX9_sort 27 = .ok (.goto (-17), 3) := by decide +kernel
theorem dX9_sort_30 : decode cX9_sort 30 = .ok (.iconst 0, 1) := by decide +kernel
theorem dX9_sort_31 : decode cX9_sort 31 = .ok (.istore_n 2, 1) := by decide +kernel
theorem dX9_sort_32 : decode cX9_sort 32 = .ok (.iload_n 2, 1) := by decide +kernel
theorem dX9_sort_33 : decode cX9_sort 33 = .ok (.iconst 1, 1) := by decide +kernel
theorem dX9_sort_34 : decode cX9_sort 34 = .ok (.iadd, 1) := by decide +kernel
theorem dX9_sort_35 : decode cX9_sort 35 = .ok (.aload_n 0, 1) := by decide +kernel
theorem dX9_sort_36 : decode cX9_sort 36 = .ok (.getfield 24, 3) := by decide +kernel
theorem dX9_sort_39 : decode cX9_sort 39 = .ok (.if_icmp .ge 34, 3) := by decide +kernel
theorem dX9_sort_42 : decode cX9_sort 42 = .ok (.aload_n 0, 1) := by decide +kernel
theorem dX9_sort_43 : decode cX9_sort 43 = .ok (.getfield 15, 3) := by decide +kernel
theorem dX9_sort_46 : decode cX9_sort 46 = .ok (.iload_n 2, 1) := by decide +kernel
theorem dX9_sort_47 : decode cX9_sort 47 = .ok (.aload_n 1, 1) := by decide +kernel
theorem dX9_sort_48 : decode cX9_sort 48 = .ok (.aload_n 0, 1) := by decide +kernel
theorem dX9_sort_49 : decode cX9_sort 49 = .ok (.getfield 9, 3) := by decide +kernel
theorem dX9_sort_52 : decode cX9_sort 52 = .ok (.iload_n 2, 1) := by decide +kernel
theorem dX9_sort_53 : decode cX9_sort 53 = .ok (.iaload, 1) := by decide +kernel
theorem dX9_sort_54 : decode cX9_sort 54 = .ok (.aload_n 1, 1) := by decide +kernel
theorem dX9_sort_55 : decode cX9_sort 55 = .ok (.aload_n 0, 1) := by decide +kernel
theorem dX9_sort_56 : decode cX9_sort 56 = .ok (.getfield 9, 3) := by decide +kernel
theorem dX9_sort_59 : decode cX9_sort 59 = .ok (.iload_n 2, 1) := by decide +kernel
theorem dX9_sort_60 : decode cX9_sort 60 = .ok (.iconst 1, 1) := by decide +kernel
theorem dX9_sort_61 : decode cX9_sort 61 = .ok (.iadd, 1) := by decide +kernel
theorem dX9_sort_62 : decode cX9_sort 62 = .ok (.iaload, 1) := by decide +kernel
theorem dX9_sort_63 : decode cX9_sort 63 = .ok (.invokevirtual 29, 3) := by decide +kernel
theorem dX9_sort_66 : decode cX9_sort 66 = .ok (.iastore, 1) := by decide +kernel
theorem dX9_sort_67 : decode cX9_sort 67 = .ok (.iinc 2 1, 3) := by decide +kernel
theorem dX9_sort_70 : decode cX9_sort 70 = .ok (.goto (-38), 3) := by decide +kernel
theorem dX9_sort_73 : decode cX9_sort 73 = .ok (.return_, 1) := by decide +kernel
abbrev k_X9_sort (E : g_E) (l : Launch) (D : g_D) (r1 : Nat) (K : g_D → Prop) : Prop := g_Kv E l m_X9_sort 4 [g_R 134, g_R r1] g_SH D K
abbrev n_X9_sort (E : g_E) (l : Launch) (D : g_D) (pc : Nat) (L : List (Option g_V)) (K : g_D → Prop) : Prop := g_N E l m_X9_sort 4 pc L [] g_SH D (g_Rv g_SH K)
theorem s_X9_sort {E : g_E} {l : Launch} {D : g_D} {K : g_D → Prop} {nr1 : Nat} {r1 : Nat} (hr1 : is_Cells g_SH r1 nr1) (hF : g_okD D → ∀ D1, D1 = g_up D 134 2 (D r1 1) → (n_X9_sort E l D1 10 [some (g_R 134), some (g_R r1), some (g_I 0)] K)) : k_X9_sort E l D r1 K := by
  refine g_enter (by decide) (Nat.le_of_ble_eq_true rfl) ?_
  show g_N E l m_X9_sort 4 0 [some (g_R 134), some (g_R r1), none] [] g_SH D (g_Rv g_SH K)
  refine g_use (fun ok => ?_)
  have hF := hF ok.2.1
  refine g_aload_n dX9_sort_0 rfl ?_
  refine g_aload_n dX9_sort_1 rfl ?_
  refine g_getI dX9_sort_2 fd_X9_18 hr1.1 rfl ?_
  let D1 : g_D := g_up D 134 2 (D r1 1)
  have hF := hF D1 rfl
  refine g_put dX9_sort_5 fd_X9_24 (g_ftyI (C := RX9) (T := TX9) (N := 3) rfl rfl (by decide +kernel)) sh_134 rfl ?_
  refine g_iconst dX9_sort_8 ⟨by decide, by decide⟩ ?_
  refine gw_istore_n (L' := [some (g_R 134), some (g_R r1), some (g_I 0)]) dX9_sort_9 (by decide) rfl ?_
  exact hF
theorem s_X9_sort_10 {E : g_E} {l : Launch} {D : g_D} {K : g_D → Prop} {nr1 : Nat} {r1 : Nat} {v2 : Int} (hr1 : is_Cells g_SH r1 nr1) (hF : g_okD D → g_r v2 → ((D 134 2) ≤ v2 → n_X9_sort E l D 32 [some (g_R 134), some (g_R r1), some (g_I 0)] K) ∧ (¬ (D 134 2) ≤ v2 → k_X9_insert E l D r1 v2 (fun D1 => (g_r (v2 + 1)) ∧ (n_X9_sort E l D1 10 [some (g_R 134), some (g_R r1), some (g_I (v2 + 1))] K)))) : n_X9_sort E l D 10 [some (g_R 134), some (g_R r1), some (g_I v2)] K := by
  refine g_use (fun ok => ?_)
  have hF := hF ok.2.1 (ok.loc (i := 2) rfl)
  refine g_iload_n dX9_sort_10 rfl ?_
  refine g_aload_n dX9_sort_11 rfl ?_
  refine g_getI dX9_sort_12 fd_X9_24 sh_134 rfl ?_
  refine g_cge dX9_sort_15 rfl (fun q => ?_) (fun q => ?_)
  · have hF := hF.1 q
    refine g_iconst dX9_sort_30 ⟨by decide, by decide⟩ ?_
    refine gw_istore_n (L' := [some (g_R 134), some (g_R r1), some (g_I 0)]) dX9_sort_31 (by decide) rfl ?_
    exact hF
  · have hF := hF.2 q
    refine g_aload_n dX9_sort_18 rfl ?_
    refine g_aload_n dX9_sort_19 rfl ?_
    refine g_iload_n dX9_sort_20 rfl ?_
    refine gw_cVv (b := 134) (As := [g_R r1, g_I v2]) (rest := []) dX9_sort_21 mv_X9_25 sh_134 rfl (Nat.le_of_ble_eq_true rfl) (by decide) rfl hF ?_
    intro D1 hF
    obtain ⟨hc, hF⟩ := hF
    refine gw_iinc (L' := [some (g_R 134), some (g_R r1), some (g_I (v2 + 1))]) dX9_sort_24 rfl hc (by decide) rfl ?_
    refine g_goto dX9_sort_27 rfl ?_
    exact hF
theorem s_X9_sort_32 {E : g_E} {l : Launch} {D : g_D} {K : g_D → Prop} {nr1 : Nat} {r1 : Nat} {v2 : Int} (hr1 : is_Cells g_SH r1 nr1) (hF : g_okD D → g_r v2 → (g_r (v2 + 1)) ∧ (((D 134 2) ≤ (v2 + 1) → K D) ∧ (¬ (D 134 2) ≤ (v2 + 1) → (0 ≤ v2 ∧ v2 < 40) ∧ ((g_r (v2 + 1)) ∧ ((0 ≤ (v2 + 1) ∧ (v2 + 1) < 40) ∧ (k_X0_alike E l g_SH D r1 (D 135 v2.toNat) r1 (D 135 (v2 + 1).toNat) (fun x1 D1 => g_r x1 → (0 ≤ v2 ∧ v2 < 40) ∧ (∀ D2, D2 = g_up D1 136 v2.toNat x1 → ((g_r (v2 + 1)) ∧ (n_X9_sort E l D2 32 [some (g_R 134), some (g_R r1), some (g_I (v2 + 1))] K)))))))))) : n_X9_sort E l D 32 [some (g_R 134), some (g_R r1), some (g_I v2)] K := by
  refine g_use (fun ok => ?_)
  have hF := hF ok.2.1 (ok.loc (i := 2) rfl)
  refine g_iload_n dX9_sort_32 rfl ?_
  refine g_iconst dX9_sort_33 ⟨by decide, by decide⟩ ?_
  obtain ⟨hc, hF⟩ := hF
  refine g_iadd dX9_sort_34 hc ?_
  refine g_aload_n dX9_sort_35 rfl ?_
  refine g_getI dX9_sort_36 fd_X9_24 sh_134 rfl ?_
  refine g_cge dX9_sort_39 rfl (fun q => ?_) (fun q => ?_)
  · have hF := hF.1 q
    exact gw_vret dX9_sort_73 rfl hF
  · have hF := hF.2 q
    refine g_aload_n dX9_sort_42 rfl ?_
    refine g_getR dX9_sort_43 fd_X9_15 sh_134 rfl ?_
    refine g_iload_n dX9_sort_46 rfl ?_
    refine g_aload_n dX9_sort_47 rfl ?_
    refine g_aload_n dX9_sort_48 rfl ?_
    refine g_getR dX9_sort_49 fd_X9_9 sh_134 rfl ?_
    refine g_iload_n dX9_sort_52 rfl ?_
    obtain ⟨hc, hF⟩ := hF
    refine g_iald dX9_sort_53 sh_135 hc.1 hc.2 ?_
    refine g_aload_n dX9_sort_54 rfl ?_
    refine g_aload_n dX9_sort_55 rfl ?_
    refine g_getR dX9_sort_56 fd_X9_9 sh_134 rfl ?_
    refine g_iload_n dX9_sort_59 rfl ?_
    refine g_iconst dX9_sort_60 ⟨by decide, by decide⟩ ?_
    obtain ⟨hc, hF⟩ := hF
    refine g_iadd dX9_sort_61 hc ?_
    obtain ⟨hc, hF⟩ := hF
    refine g_iald dX9_sort_62 sh_135 hc.1 hc.2 ?_
    refine gw_cVi (b := r1) (As := [g_I (D 135 v2.toNat), g_R r1, g_I (D 135 (v2 + 1).toNat)]) (rest := [g_I v2, g_R 136]) dX9_sort_63 mv_X9_29 hr1.1 rfl (Nat.le_of_ble_eq_true rfl) (by decide) rfl hF ?_
    intro x1 D1 hx1 hF
    have hF := hF hx1
    obtain ⟨hc, hF⟩ := hF
    let D2 : g_D := g_up D1 136 v2.toNat x1
    have hF := hF D2 rfl
    refine g_iast dX9_sort_66 sh_136 hc.1 hc.2 ?_
    obtain ⟨hc, hF⟩ := hF
    refine gw_iinc (L' := [some (g_R 134), some (g_R r1), some (g_I (v2 + 1))]) dX9_sort_67 rfl hc (by decide) rfl ?_
    refine g_goto dX9_sort_70 rfl ?_
    exact hF
theorem dX3_goBack_0 : decode cX3_goBack 0 = .ok (.iload_n 1, 1) := by decide +kernel
theorem dX3_goBack_1 : decode cX3_goBack 1 = .ok (.iconst 1, 1) := by decide +kernel
theorem dX3_goBack_2 : decode cX3_goBack 2 = .ok (.if_icmp .lt 11, 3) := by decide +kernel
theorem dX3_goBack_5 : decode cX3_goBack 5 = .ok (.iload_n 1, 1) := by decide +kernel
theorem dX3_goBack_6 : decode cX3_goBack 6 = .ok (.aload_n 0, 1) := by decide +kernel
theorem dX3_goBack_7 : decode cX3_goBack 7 = .ok (.getfield 18, 3) := by decide +kernel
theorem dX3_goBack_10 : decode cX3_goBack 10 = .ok (.if_icmp .le 4, 3) := by decide +kernel
theorem dX3_goBack_13 : decode cX3_goBack 13 = .ok (.return_, 1) := by decide +kernel
theorem dX3_goBack_14 : decode cX3_goBack 14 = .ok (.aload_n 0, 1) := by decide +kernel
theorem dX3_goBack_15 : decode cX3_goBack 15 = .ok (.dup, 1) := by decide +kernel
theorem dX3_goBack_16 : decode cX3_goBack 16 = .ok (.getfield 18, 3) := by decide +kernel
theorem dX3_goBack_19 : decode cX3_goBack 19 = .ok (.iload_n 1, 1) := by decide +kernel
theorem dX3_goBack_20 : decode cX3_goBack 20 = .ok (.isub, 1) := by decide +kernel
theorem dX3_goBack_21 : decode cX3_goBack 21 = .ok (.putfield 18, 3) := by decide +kernel
theorem dX3_goBack_24 : decode cX3_goBack 24 = .ok (.aload_n 2, 1) := by decide +kernel
theorem dX3_goBack_25 : decode cX3_goBack 25 = .ok (.aload_n 0, 1) := by decide +kernel
theorem dX3_goBack_26 : decode cX3_goBack 26 = .ok (.getfield 11, 3) := by decide +kernel
theorem dX3_goBack_29 : decode cX3_goBack 29 = .ok (.aload_n 0, 1) := by decide +kernel
theorem dX3_goBack_30 : decode cX3_goBack 30 = .ok (.getfield 22, 3) := by decide +kernel
theorem dX3_goBack_33 : decode cX3_goBack 33 = .ok (.aload_n 0, 1) := by decide +kernel
theorem dX3_goBack_34 : decode cX3_goBack 34 = .ok (.getfield 18, 3) := by decide +kernel
theorem dX3_goBack_37 : decode cX3_goBack 37 = .ok (.iadd, 1) := by decide +kernel
theorem dX3_goBack_38 : decode cX3_goBack 38 = .ok (.bipush 10, 2) := by decide +kernel
theorem dX3_goBack_40 : decode cX3_goBack 40 = .ok (.irem, 1) := by decide +kernel
theorem dX3_goBack_41 : decode cX3_goBack 41 = .ok (.aaload, 1) := by decide +kernel
theorem dX3_goBack_42 : decode cX3_goBack 42 = .ok (.invokevirtual 25, 3) := by decide +kernel
theorem dX3_goBack_45 : decode cX3_goBack 45 = .ok (.return_, 1) := by decide +kernel
abbrev k_X3_goBack (E : g_E) (l : Launch) (D : g_D) (v1 : Int) (r2 : Nat) (K : g_D → Prop) : Prop := g_Kv E l m_X3_goBack 3 [g_R 52, g_I v1, g_R r2] g_SH D K
abbrev n_X3_goBack (E : g_E) (l : Launch) (D : g_D) (pc : Nat) (L : List (Option g_V)) (K : g_D → Prop) : Prop := g_N E l m_X3_goBack 3 pc L [] g_SH D (g_Rv g_SH K)
theorem s_X3_goBack {E : g_E} {l : Launch} {D : g_D} {K : g_D → Prop} {v1 : Int} {r2 : Nat} (hr2 : is_Device g_SH r2) (hF : g_okD D → g_r v1 → (v1 < 1 → K D) ∧ (¬ v1 < 1 → (v1 ≤ (D 52 2) → (g_r ((D 52 2) - v1)) ∧ (∀ D1, D1 = g_up D 52 2 ((D 52 2) - v1) → ((g_r ((D 52 1) + ((D 52 2) - v1))) ∧ ((0 ≤ ((D 52 1) + ((D 52 2) - v1))) ∧ ((0 ≤ (((D 52 1) + ((D 52 2) - v1)) % 10) ∧ (((D 52 1) + ((D 52 2) - v1)) % 10) < 10) ∧ (k_X2_copyFrom E l D1 r2 (54 + 8 * (((D 52 1) + ((D 52 2) - v1)) % 10).toNat) (fun D3 => K D3))))))) ∧ (¬ v1 ≤ (D 52 2) → K D))) : k_X3_goBack E l D v1 r2 K := by
  refine g_enter (by decide) (Nat.le_of_ble_eq_true rfl) ?_
  show g_N E l m_X3_goBack 3 0 [some (g_R 52), some (g_I v1), some (g_R r2)] [] g_SH D (g_Rv g_SH K)
  refine g_use (fun ok => ?_)
  have hF := hF ok.2.1 (ok.loc (i := 1) rfl)
  refine g_iload_n dX3_goBack_0 rfl ?_
  refine g_iconst dX3_goBack_1 ⟨by decide, by decide⟩ ?_
  refine g_clt dX3_goBack_2 rfl (fun q => ?_) (fun q => ?_)
  · have hF := hF.1 q
    exact gw_vret dX3_goBack_13 rfl hF
  · have hF := hF.2 q
    refine g_iload_n dX3_goBack_5 rfl ?_
    refine g_aload_n dX3_goBack_6 rfl ?_
    refine g_getI dX3_goBack_7 fd_X3_18 sh_52 rfl ?_
    refine g_cle dX3_goBack_10 rfl (fun q => ?_) (fun q => ?_)
    · have hF := hF.1 q
      refine g_aload_n dX3_goBack_14 rfl ?_
      refine g_dup dX3_goBack_15 rfl ?_
      refine g_getI dX3_goBack_16 fd_X3_18 sh_52 rfl ?_
      refine g_iload_n dX3_goBack_19 rfl ?_
      obtain ⟨hc, hF⟩ := hF
      refine g_isub dX3_goBack_20 hc ?_
      let D1 : g_D := g_up D 52 2 ((D 52 2) - v1)
      have hF := hF D1 rfl
      refine g_put dX3_goBack_21 fd_X3_18 (g_ftyI (C := RX3) (T := TX3) (N := 3) rfl rfl (by decide +kernel)) sh_52 rfl ?_
      refine g_aload_n dX3_goBack_24 rfl ?_
      refine g_aload_n dX3_goBack_25 rfl ?_
      refine g_getR dX3_goBack_26 fd_X3_11 sh_52 rfl ?_
      refine g_aload_n dX3_goBack_29 rfl ?_
      refine g_getI dX3_goBack_30 fd_X3_22 sh_52 rfl ?_
      refine g_aload_n dX3_goBack_33 rfl ?_
      refine g_getI dX3_goBack_34 fd_X3_18 sh_52 rfl ?_
      obtain ⟨hc, hF⟩ := hF
      refine g_iadd dX3_goBack_37 hc ?_
      refine g_bipush dX3_goBack_38 ⟨by decide, by decide⟩ ?_
      obtain ⟨hc, hF⟩ := hF
      refine g_irem dX3_goBack_40 hc (by decide) ?_
      obtain ⟨hc, hF⟩ := hF
      have hi2 : is_Device g_SH (54 + 8 * (((D 52 1) + ((D 52 2) - v1)) % 10).toNat) := ix_Device (((D 52 1) + ((D 52 2) - v1)) % 10).toNat (by omega)
      refine g_aald dX3_goBack_41 sh_53 (by decide) hc.1 hc.2 (if_pos (by omega)) ?_
      refine gw_cVv (b := r2) (As := [g_R (54 + 8 * (((D 52 1) + ((D 52 2) - v1)) % 10).toNat)]) (rest := []) dX3_goBack_42 mv_X3_25 hr2.1 rfl (Nat.le_of_ble_eq_true rfl) (by decide) rfl hF ?_
      intro D3 hF
      exact gw_vret dX3_goBack_45 rfl hF
    · have hF := hF.2 q
      exact gw_vret dX3_goBack_13 rfl hF
theorem dX9_unlikeRows_0 : decode cX9_unlikeRows 0 = .ok (.iconst 0, 1) := by decide +kernel
theorem dX9_unlikeRows_1 : decode cX9_unlikeRows 1 = .ok (.istore_n 2, 1) := by decide +kernel
theorem dX9_unlikeRows_2 : decode cX9_unlikeRows 2 = .ok (.iconst 0, 1) := by decide +kernel
theorem dX9_unlikeRows_3 : decode cX9_unlikeRows 3 = .ok (.istore_n 3, 1) := by decide +kernel
theorem dX9_unlikeRows_4 : decode cX9_unlikeRows 4 = .ok (.iload_n 3, 1) := by decide +kernel
theorem dX9_unlikeRows_5 : decode cX9_unlikeRows 5 = .ok (.aload_n 0, 1) := by decide +kernel
theorem dX9_unlikeRows_6 : decode cX9_unlikeRows 6 = .ok (.getfield 24, 3) := by decide +kernel
theorem dX9_unlikeRows_9 : decode cX9_unlikeRows 9 = .ok (.if_icmp .ge 55, 3) := by decide +kernel
theorem dX9_unlikeRows_12 : decode cX9_unlikeRows 12 = .ok (.aload_n 0, 1) := by decide +kernel
theorem dX9_unlikeRows_13 : decode cX9_unlikeRows 13 = .ok (.getfield 24, 3) := by decide +kernel
theorem dX9_unlikeRows_16 : decode cX9_unlikeRows 16 = .ok (.aload_n 0, 1) := by decide +kernel
theorem dX9_unlikeRows_17 : decode cX9_unlikeRows 17 = .ok (.getfield 9, 3) := by decide +kernel
theorem dX9_unlikeRows_20 : decode cX9_unlikeRows 20 = .ok (.iload_n 3, 1) := by decide +kernel
theorem dX9_unlikeRows_21 : decode cX9_unlikeRows 21 = .ok (.iaload, 1) := by decide +kernel
theorem dX9_unlikeRows_22 : decode cX9_unlikeRows 22 = .ok (.isub, 1) := by decide +kernel
theorem dX9_unlikeRows_23 : decode cX9_unlikeRows 23 = .ok (.iload_n 1, 1) := by decide +kernel
theorem dX9_unlikeRows_24 : decode cX9_unlikeRows 24 = .ok (.if_icmp .lt 7, 3) := by decide +kernel
theorem dX9_unlikeRows_27 : decode cX9_unlikeRows 27 = .ok (.iconst 1, 1) := by decide +kernel
theorem dX9_unlikeRows_28 : decode cX9_unlikeRows 28 = .ok (.goto 4, 3) := by decide +kernel
theorem dX9_unlikeRows_31 : decode cX9_unlikeRows 31 = .ok (.iconst 0, 1) := by decide +kernel
theorem dX9_unlikeRows_32 : decode cX9_unlikeRows 32 = .ok (.istore 4, 2) := by decide +kernel
theorem dX9_unlikeRows_34 : decode cX9_unlikeRows 34 = .ok (.iload 4, 2) := by decide +kernel
theorem dX9_unlikeRows_36 : decode cX9_unlikeRows 36 = .ok (.ifCond .eq 22, 3) := by decide +kernel
theorem dX9_unlikeRows_39 : decode cX9_unlikeRows 39 = .ok (.iload_n 3, 1) := by decide +kernel
theorem dX9_unlikeRows_40 : decode cX9_unlikeRows 40 = .ok (.ifCond .eq 15, 3) := by decide +kernel
theorem dX9_unlikeRows_43 : decode cX9_unlikeRows 43 = .ok (.aload_n 0, 1) := by decide +kernel
theorem dX9_unlikeRows_44 : decode cX9_unlikeRows 44 = .ok (.getfield 15, 3) := by decide +kernel
theorem dX9_unlikeRows_47 : decode cX9_unlikeRows 47 = .ok (.iload_n 3, 1) := by decide +kernel
theorem dX9_unlikeRows_48 : decode cX9_unlikeRows 48 = .ok (.iconst 1, 1) := by decide +kernel
theorem dX9_unlikeRows_49 : decode cX9_unlikeRows 49 = .ok (.isub, 1) := by decide +kernel
theorem dX9_unlikeRows_50 : decode cX9_unlikeRows 50 = .ok (.iaload, 1) := by decide +kernel
theorem dX9_unlikeRows_51 : decode cX9_unlikeRows 51 = .ok (.iload_n 1, 1) := by decide +kernel
theorem dX9_unlikeRows_52 : decode cX9_unlikeRows 52 = .ok (.if_icmp .ge 6, 3) := by decide +kernel
theorem dX9_unlikeRows_55 : decode cX9_unlikeRows 55 = .ok (.iinc 2 1, 3) := by decide +kernel
theorem dX9_unlikeRows_58 : decode cX9_unlikeRows 58 = .ok (.iinc 3 1, 3) := by decide +kernel
theorem dX9_unlikeRows_61 : decode cX9_unlikeRows 61 = .ok (.goto (-57), 3) := by decide +kernel
theorem dX9_unlikeRows_64 : decode cX9_unlikeRows 64 = .ok (.iload_n 2, 1) := by decide +kernel
theorem dX9_unlikeRows_65 : decode cX9_unlikeRows 65 = .ok (.ireturn, 1) := by decide +kernel
abbrev k_X9_unlikeRows (E : g_E) (l : Launch) (D : g_D) (v1 : Int) (K : Int → g_D → Prop) : Prop := g_Ki E l m_X9_unlikeRows 0 [g_R 134, g_I v1] g_SH D K
abbrev n_X9_unlikeRows (E : g_E) (l : Launch) (D : g_D) (pc : Nat) (L : List (Option g_V)) (K : Int → g_D → Prop) : Prop := g_N E l m_X9_unlikeRows 0 pc L [] g_SH D (g_Ri g_SH K)
theorem s_X9_unlikeRows {E : g_E} {l : Launch} {D : g_D} {K : Int → g_D → Prop} {v1 : Int}  (hF : g_okD D → g_r v1 → n_X9_unlikeRows E l D 4 [some (g_R 134), some (g_I v1), some (g_I 0), some (g_I 0), none] K) : k_X9_unlikeRows E l D v1 K := by
  refine g_enter (by decide) (Nat.le_of_ble_eq_true rfl) ?_
  show g_N E l m_X9_unlikeRows 0 0 [some (g_R 134), some (g_I v1), none, none, none] [] g_SH D (g_Ri g_SH K)
  refine g_use (fun ok => ?_)
  have hF := hF ok.2.1 (ok.loc (i := 1) rfl)
  refine g_iconst dX9_unlikeRows_0 ⟨by decide, by decide⟩ ?_
  refine gw_istore_n (L' := [some (g_R 134), some (g_I v1), some (g_I 0), none, none]) dX9_unlikeRows_1 (by decide) rfl ?_
  refine g_iconst dX9_unlikeRows_2 ⟨by decide, by decide⟩ ?_
  refine gw_istore_n (L' := [some (g_R 134), some (g_I v1), some (g_I 0), some (g_I 0), none]) dX9_unlikeRows_3 (by decide) rfl ?_
  exact hF
theorem s_X9_unlikeRows_4 {E : g_E} {l : Launch} {D : g_D} {K : Int → g_D → Prop} {v1 : Int} {v2 : Int} {v3 : Int}  (hF : g_okD D → g_r v1 → g_r v2 → g_r v3 → ((D 134 2) ≤ v3 → K v2 D) ∧ (¬ (D 134 2) ≤ v3 → (0 ≤ v3 ∧ v3 < 40) ∧ ((g_r ((D 134 2) - (D 135 v3.toNat))) ∧ ((((D 134 2) - (D 135 v3.toNat)) < v1 → (g_r (v3 + 1)) ∧ (n_X9_unlikeRows E l D 4 [some (g_R 134), some (g_I v1), some (g_I v2), some (g_I (v3 + 1)), none] K)) ∧ (¬ ((D 134 2) - (D 135 v3.toNat)) < v1 → (v3 = 0 → (g_r (v2 + 1)) ∧ ((g_r (v3 + 1)) ∧ (n_X9_unlikeRows E l D 4 [some (g_R 134), some (g_I v1), some (g_I (v2 + 1)), some (g_I (v3 + 1)), none] K))) ∧ (¬ v3 = 0 → (g_r (v3 - 1)) ∧ ((0 ≤ (v3 - 1) ∧ (v3 - 1) < 40) ∧ ((v1 ≤ (D 136 (v3 - 1).toNat) → (g_r (v3 + 1)) ∧ (n_X9_unlikeRows E l D 4 [some (g_R 134), some (g_I v1), some (g_I v2), some (g_I (v3 + 1)), none] K)) ∧ (¬ v1 ≤ (D 136 (v3 - 1).toNat) → (g_r (v2 + 1)) ∧ ((g_r (v3 + 1)) ∧ (n_X9_unlikeRows E l D 4 [some (g_R 134), some (g_I v1), some (g_I (v2 + 1)), some (g_I (v3 + 1)), none] K))))))))))) : n_X9_unlikeRows E l D 4 [some (g_R 134), some (g_I v1), some (g_I v2), some (g_I v3), none] K := by
  refine g_use (fun ok => ?_)
  have hF := hF ok.2.1 (ok.loc (i := 1) rfl) (ok.loc (i := 2) rfl) (ok.loc (i := 3) rfl)
  refine g_iload_n dX9_unlikeRows_4 rfl ?_
  refine g_aload_n dX9_unlikeRows_5 rfl ?_
  refine g_getI dX9_unlikeRows_6 fd_X9_24 sh_134 rfl ?_
  refine g_cge dX9_unlikeRows_9 rfl (fun q => ?_) (fun q => ?_)
  · have hF := hF.1 q
    refine g_iload_n dX9_unlikeRows_64 rfl ?_
    exact gw_iret dX9_unlikeRows_65 rfl hF
  · have hF := hF.2 q
    refine g_aload_n dX9_unlikeRows_12 rfl ?_
    refine g_getI dX9_unlikeRows_13 fd_X9_24 sh_134 rfl ?_
    refine g_aload_n dX9_unlikeRows_16 rfl ?_
    refine g_getR dX9_unlikeRows_17 fd_X9_9 sh_134 rfl ?_
    refine g_iload_n dX9_unlikeRows_20 rfl ?_
    obtain ⟨hc, hF⟩ := hF
    refine g_iald dX9_unlikeRows_21 sh_135 hc.1 hc.2 ?_
    obtain ⟨hc, hF⟩ := hF
    refine g_isub dX9_unlikeRows_22 hc ?_
    refine g_iload_n dX9_unlikeRows_23 rfl ?_
    refine g_clt dX9_unlikeRows_24 rfl (fun q => ?_) (fun q => ?_)
    · have hF := hF.1 q
      refine g_iconst dX9_unlikeRows_31 ⟨by decide, by decide⟩ ?_
      refine gw_istore (L' := [some (g_R 134), some (g_I v1), some (g_I v2), some (g_I v3), some (g_I 0)]) dX9_unlikeRows_32 (by decide) rfl ?_
      refine g_iload dX9_unlikeRows_34 rfl ?_
      refine g_ifeq dX9_unlikeRows_36 rfl (fun _ => ?_) (fun q => absurd q (by decide))
      obtain ⟨hc, hF⟩ := hF
      refine gw_iinc (L' := [some (g_R 134), some (g_I v1), some (g_I v2), some (g_I (v3 + 1)), some (g_I 0)]) dX9_unlikeRows_58 rfl hc (by decide) rfl ?_
      refine g_goto dX9_unlikeRows_61 rfl ?_
      exact g_forget (L' := [some (g_R 134), some (g_I v1), some (g_I v2), some (g_I (v3 + 1)), none]) ⟨rfl, ⟨rfl, ⟨rfl, ⟨rfl, trivial⟩⟩⟩⟩ hF
    · have hF := hF.2 q
      refine g_iconst dX9_unlikeRows_27 ⟨by decide, by decide⟩ ?_
      refine g_goto dX9_unlikeRows_28 rfl ?_
      refine gw_istore (L' := [some (g_R 134), some (g_I v1), some (g_I v2), some (g_I v3), some (g_I 1)]) dX9_unlikeRows_32 (by decide) rfl ?_
      refine g_iload dX9_unlikeRows_34 rfl ?_
      refine g_ifeq dX9_unlikeRows_36 rfl (fun q => absurd q (by decide)) (fun _ => ?_)
      refine g_iload_n dX9_unlikeRows_39 rfl ?_
      refine g_ifeq dX9_unlikeRows_40 rfl (fun q => ?_) (fun q => ?_)
      · have hF := hF.1 q
        obtain ⟨hc, hF⟩ := hF
        refine gw_iinc (L' := [some (g_R 134), some (g_I v1), some (g_I (v2 + 1)), some (g_I v3), some (g_I 1)]) dX9_unlikeRows_55 rfl hc (by decide) rfl ?_
        obtain ⟨hc, hF⟩ := hF
        refine gw_iinc (L' := [some (g_R 134), some (g_I v1), some (g_I (v2 + 1)), some (g_I (v3 + 1)), some (g_I 1)]) dX9_unlikeRows_58 rfl hc (by decide) rfl ?_
        refine g_goto dX9_unlikeRows_61 rfl ?_
        exact g_forget (L' := [some (g_R 134), some (g_I v1), some (g_I (v2 + 1)), some (g_I (v3 + 1)), none]) ⟨rfl, ⟨rfl, ⟨rfl, ⟨rfl, trivial⟩⟩⟩⟩ hF
      · have hF := hF.2 q
        refine g_aload_n dX9_unlikeRows_43 rfl ?_
        refine g_getR dX9_unlikeRows_44 fd_X9_15 sh_134 rfl ?_
        refine g_iload_n dX9_unlikeRows_47 rfl ?_
        refine g_iconst dX9_unlikeRows_48 ⟨by decide, by decide⟩ ?_
        obtain ⟨hc, hF⟩ := hF
        refine g_isub dX9_unlikeRows_49 hc ?_
        obtain ⟨hc, hF⟩ := hF
        refine g_iald dX9_unlikeRows_50 sh_136 hc.1 hc.2 ?_
        refine g_iload_n dX9_unlikeRows_51 rfl ?_
        refine g_cge dX9_unlikeRows_52 rfl (fun q => ?_) (fun q => ?_)
        · have hF := hF.1 q
          obtain ⟨hc, hF⟩ := hF
          refine gw_iinc (L' := [some (g_R 134), some (g_I v1), some (g_I v2), some (g_I (v3 + 1)), some (g_I 1)]) dX9_unlikeRows_58 rfl hc (by decide) rfl ?_
          refine g_goto dX9_unlikeRows_61 rfl ?_
          exact g_forget (L' := [some (g_R 134), some (g_I v1), some (g_I v2), some (g_I (v3 + 1)), none]) ⟨rfl, ⟨rfl, ⟨rfl, ⟨rfl, trivial⟩⟩⟩⟩ hF
        · have hF := hF.2 q
          obtain ⟨hc, hF⟩ := hF
          refine gw_iinc (L' := [some (g_R 134), some (g_I v1), some (g_I (v2 + 1)), some (g_I v3), some (g_I 1)]) dX9_unlikeRows_55 rfl hc (by decide) rfl ?_
          obtain ⟨hc, hF⟩ := hF
          refine gw_iinc (L' := [some (g_R 134), some (g_I v1), some (g_I (v2 + 1)), some (g_I (v3 + 1)), some (g_I 1)]) dX9_unlikeRows_58 rfl hc (by decide) rfl ?_
          refine g_goto dX9_unlikeRows_61 rfl ?_
          exact g_forget (L' := [some (g_R 134), some (g_I v1), some (g_I (v2 + 1)), some (g_I (v3 + 1)), none]) ⟨rfl, ⟨rfl, ⟨rfl, ⟨rfl, trivial⟩⟩⟩⟩ hF
