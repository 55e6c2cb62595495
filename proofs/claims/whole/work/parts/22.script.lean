theorem dX7_isPreferred_0 : decode cX7_isPreferred 0 = .ok (.iload_n 3, 1) := by decide +kernel
theorem dX7_isPreferred_1 : decode cX7_isPreferred 1 = .ok (.iconst 2, 1) := by decide +kernel
theorem dX7_isPreferred_2 : decode cX7_isPreferred 2 = .ok (.if_icmp .ne 27, 3) := by decide +kernel
theorem dX7_isPreferred_5 : decode cX7_isPreferred 5 = .ok (.iload_n 1, 1) := by decide +kernel
theorem dX7_isPreferred_6 : decode cX7_isPreferred 6 = .ok (.iload_n 2, 1) := by decide +kernel
theorem dX7_isPreferred_7 : decode cX7_isPreferred 7 = .ok (.isub, 1) := by decide +kernel
theorem dX7_isPreferred_8 : decode cX7_isPreferred 8 = .ok (.invokestatic 64, 3) := by decide +kernel
theorem dX7_isPreferred_11 : decode cX7_isPreferred 11 = .ok (.aload_n 0, 1) := by decide +kernel
theorem dX7_isPreferred_12 : decode cX7_isPreferred 12 = .ok (.getfield 47, 3) := by decide +kernel
theorem dX7_isPreferred_15 : decode cX7_isPreferred 15 = .ok (.iload_n 2, 1) := by decide +kernel
theorem dX7_isPreferred_16 : decode cX7_isPreferred 16 = .ok (.isub, 1) := by decide +kernel
theorem dX7_isPreferred_17 : decode cX7_isPreferred 17 = .ok (.invokestatic 64, 3) := by decide +kernel
theorem dX7_isPreferred_20 : decode cX7_isPreferred 20 = .ok (.if_icmp .ge 7, 3) := by decide +kernel
theorem dX7_isPreferred_23 : decode cX7_isPreferred 23 = .ok (.iconst 1, 1) := by decide +kernel
theorem dX7_isPreferred_24 : decode cX7_isPreferred 24 = .ok (.goto 4, 3) := by decide +kernel
theorem dX7_isPreferred_27 : decode cX7_isPreferred 27 = .ok (.iconst 0, 1) := by decide +kernel
theorem dX7_isPreferred_28 : decode cX7_isPreferred 28 = .ok (.ireturn, 1) := by decide +kernel
theorem dX7_isPreferred_29 : decode cX7_isPreferred 29 = .ok (.iload_n 3, 1) := by decide +kernel
theorem dX7_isPreferred_30 : decode cX7_isPreferred 30 = .ok (.iconst 1, 1) := by decide +kernel
theorem dX7_isPreferred_31 : decode cX7_isPreferred 31 = .ok (.if_icmp .ne 7, 3) := by decide +kernel
theorem dX7_isPreferred_34 : decode cX7_isPreferred 34 = .ok (.iconst 1, 1) := by decide +kernel
theorem dX7_isPreferred_35 : decode cX7_isPreferred 35 = .ok (.goto 4, 3) := by decide +kernel
theorem dX7_isPreferred_38 : decode cX7_isPreferred 38 = .ok (.iconst 0, 1) := by decide +kernel
theorem dX7_isPreferred_39 : decode cX7_isPreferred 39 = .ok (.ireturn, 1) := by decide +kernel
abbrev k_X7_isPreferred (E : g_E) (l : Launch) (D : g_D) (k : Nat) (v1 : Int) (v2 : Int) (v3 : Int) (K : Int → g_D → Prop) : Prop := g_Ki E l m_X7_isPreferred 1 [g_R k, g_I v1, g_I v2, g_I v3] g_SH D K
abbrev n_X7_isPreferred (E : g_E) (l : Launch) (D : g_D) (pc : Nat) (L : List (Option g_V)) (K : Int → g_D → Prop) : Prop := g_N E l m_X7_isPreferred 1 pc L [] g_SH D (g_Ri g_SH K)
theorem s_X7_isPreferred {E : g_E} {l : Launch} {D : g_D} {K : Int → g_D → Prop} {k : Nat} {v1 : Int} {v2 : Int} {v3 : Int} (hk : is_Script g_SH k) (hF : g_okD D → g_r v1 → g_r v2 → g_r v3 → (¬ v3 = 2 → (¬ v3 = 1 → K 0 D) ∧ (v3 = 1 → K 1 D)) ∧ (v3 = 2 → (g_r (v1 - v2)) ∧ ((g_r (-(v1 - v2))) ∧ ((g_r ((D k 10) - v2)) ∧ ((g_r (-((D k 10) - v2))) ∧ ((((((D k 10) - v2)).natAbs : Int) ≤ (((v1 - v2)).natAbs : Int) → K 0 D) ∧ (¬ ((((D k 10) - v2)).natAbs : Int) ≤ (((v1 - v2)).natAbs : Int) → K 1 D))))))) : k_X7_isPreferred E l D k v1 v2 v3 K := by
  refine g_enter (by decide) (Nat.le_of_ble_eq_true rfl) ?_
  show g_N E l m_X7_isPreferred 1 0 [some (g_R k), some (g_I v1), some (g_I v2), some (g_I v3)] [] g_SH D (g_Ri g_SH K)
  refine g_use (fun ok => ?_)
  have hF := hF ok.2.1 (ok.loc (i := 1) rfl) (ok.loc (i := 2) rfl) (ok.loc (i := 3) rfl)
  refine g_iload_n dX7_isPreferred_0 rfl ?_
  refine g_iconst dX7_isPreferred_1 ⟨by decide, by decide⟩ ?_
  refine g_cne dX7_isPreferred_2 rfl (fun q => ?_) (fun q => ?_)
  · have hF := hF.1 q
    refine g_iload_n dX7_isPreferred_29 rfl ?_
    refine g_iconst dX7_isPreferred_30 ⟨by decide, by decide⟩ ?_
    refine g_cne dX7_isPreferred_31 rfl (fun q => ?_) (fun q => ?_)
    · have hF := hF.1 q
      refine g_iconst dX7_isPreferred_38 ⟨by decide, by decide⟩ ?_
      exact gw_zret dX7_isPreferred_39 rfl (by decide) hF
    · have hF := hF.2 q
      refine g_iconst dX7_isPreferred_34 ⟨by decide, by decide⟩ ?_
      refine g_goto dX7_isPreferred_35 rfl ?_
      exact gw_zret dX7_isPreferred_39 rfl (by decide) hF
  · have hF := hF.2 q
    refine g_iload_n dX7_isPreferred_5 rfl ?_
    refine g_iload_n dX7_isPreferred_6 rfl ?_
    obtain ⟨hc, hF⟩ := hF
    refine g_isub dX7_isPreferred_7 hc ?_
    obtain ⟨hc, hF⟩ := hF
    refine g_absR dX7_isPreferred_8 mw_X7_64 (by decide) (Nat.le_refl _) (Nat.le_refl _) (Nat.le_of_ble_eq_true rfl) hc ?_
    refine g_aload_n dX7_isPreferred_11 rfl ?_
    refine g_getI dX7_isPreferred_12 fd_X7_47 hk.1 rfl ?_
    refine g_iload_n dX7_isPreferred_15 rfl ?_
    obtain ⟨hc, hF⟩ := hF
    refine g_isub dX7_isPreferred_16 hc ?_
    obtain ⟨hc, hF⟩ := hF
    refine g_absR dX7_isPreferred_17 mw_X7_64 (by decide) (Nat.le_refl _) (Nat.le_refl _) (Nat.le_of_ble_eq_true rfl) hc ?_
    refine g_cge dX7_isPreferred_20 rfl (fun q => ?_) (fun q => ?_)
    · have hF := hF.1 q
      refine g_iconst dX7_isPreferred_27 ⟨by decide, by decide⟩ ?_
      exact gw_zret dX7_isPreferred_28 rfl (by decide) hF
    · have hF := hF.2 q
      refine g_iconst dX7_isPreferred_23 ⟨by decide, by decide⟩ ?_
      refine g_goto dX7_isPreferred_24 rfl ?_
      exact gw_zret dX7_isPreferred_28 rfl (by decide) hF
theorem dX7_findRun_0 : decode cX7_findRun 0 = .ok (.aload_n 0, 1) := by decide +kernel
theorem dX7_findRun_1 : decode cX7_findRun 1 = .ok (.iconst 0, 1) := by decide +kernel
theorem dX7_findRun_2 : decode cX7_findRun 2 = .ok (.putfield 44, 3) := by decide +kernel
theorem dX7_findRun_5 : decode cX7_findRun 5 = .ok (.aload_n 0, 1) := by decide +kernel
theorem dX7_findRun_6 : decode cX7_findRun 6 = .ok (.iconst (-1), 1) := by decide +kernel
theorem dX7_findRun_7 : decode cX7_findRun 7 = .ok (.putfield 47, 3) := by decide +kernel
theorem dX7_findRun_10 : decode cX7_findRun 10 = .ok (.aload_n 0, 1) := by decide +kernel
theorem dX7_findRun_11 : decode cX7_findRun 11 = .ok (.iconst 0, 1) := by decide +kernel
theorem dX7_findRun_12 : decode cX7_findRun 12 = .ok (.putfield 50, 3) := by decide +kernel
theorem dX7_findRun_15 : decode cX7_findRun 15 = .ok (.iconst 0, 1) := by decide +kernel
theorem dX7_findRun_16 : decode cX7_findRun 16 = .ok (.istore 5, 2) := by decide +kernel
theorem dX7_findRun_18 : decode cX7_findRun 18 = .ok (.iload 5, 2) := by decide +kernel
theorem dX7_findRun_20 : decode cX7_findRun 20 = .ok (.aload_n 1, 1) := by decide +kernel
theorem dX7_findRun_21 : decode cX7_findRun 21 = .ok (.getfield 53, 3) := by decide +kernel
theorem dX7_findRun_24 : decode cX7_findRun 24 = .ok (.if_icmp .ge 90, 3) := by decide +kernel
theorem dX7_findRun_27 : decode cX7_findRun 27 = .ok (.aload_n 1, 1) := by decide +kernel
theorem dX7_findRun_28 : decode cX7_findRun 28 = .ok (.iload 5, 2) := by decide +kernel
theorem dX7_findRun_30 : decode cX7_findRun 30 = .ok (.aload_n 2, 1) := by decide +kernel
theorem dX7_findRun_31 : decode cX7_findRun 31 = .ok (.iload_n 3, 1) := by decide +kernel
theorem dX7_findRun_32 : decode cX7_findRun 32 = .ok (.invokevirtual 56, 3) := by decide +kernel
theorem dX7_findRun_35 : decode cX7_findRun 35 = .ok (.istore 6, 2) := by decide +kernel
theorem dX7_findRun_37 : decode cX7_findRun 37 = .ok (.iload 6, 2) := by decide +kernel
theorem dX7_findRun_39 : decode cX7_findRun 39 = .ok (.aload_n 0, 1) := by decide +kernel
theorem dX7_findRun_40 : decode cX7_findRun 40 = .ok (.getfield 44, 3) := by decide +kernel
theorem dX7_findRun_43 : decode cX7_findRun 43 = .ok (.if_icmp .le 23, 3) := by decide +kernel
theorem dX7_findRun_46 : decode cX7_findRun 46 = .ok (.aload_n 0, 1) := by decide +kernel
theorem dX7_findRun_47 : decode cX7_findRun 47 = .ok (.iload 6, 2) := by decide +kernel
theorem dX7_findRun_49 : decode cX7_findRun 49 = .ok (.putfield 44, 3) := by decide +kernel
theorem dX7_findRun_52 : decode cX7_findRun 52 = .ok (.aload_n 0, 1) := by decide +kernel
theorem dX7_findRun_53 : decode cX7_findRun 53 = .ok (.iload 5, 2) := by decide +kernel
theorem dX7_findRun_55 : decode cX7_findRun 55 = .ok (.putfield 47, 3) := by decide +kernel
theorem dX7_findRun_58 : decode cX7_findRun 58 = .ok (.aload_n 0, 1) := by decide +kernel
theorem dX7_findRun_59 : decode cX7_findRun 59 = .ok (.iconst 1, 1) := by decide +kernel
theorem dX7_findRun_60 : decode cX7_findRun 60 = .ok (.putfield 50, 3) := by decide +kernel
theorem dX7_findRun_63 : decode cX7_findRun 63 = .ok (.goto 45, 3) := by decide +kernel
theorem dX7_findRun_66 : decode cX7_findRun 66 = .ok (.iload 6, 2) := by decide +kernel
theorem dX7_findRun_68 : decode cX7_findRun 68 = .ok (.ifCond .le 40, 3) := by decide +kernel
theorem dX7_findRun_71 : decode cX7_findRun 71 = .ok (.iload 6, 2) := by decide +kernel
theorem dX7_findRun_73 : decode cX7_findRun 73 = .ok (.aload_n 0, 1) := by decide +kernel
theorem dX7_findRun_74 : decode cX7_findRun 74 = .ok (.getfield 44, 3) := by decide +kernel
theorem dX7_findRun_77 : decode cX7_findRun 77 = .ok (.if_icmp .ne 31, 3) := by decide +kernel
theorem dX7_findRun_80 : decode cX7_findRun 80 = .ok (.aload_n 0, 1) := by decide +kernel
theorem dX7_findRun_81 : decode cX7_findRun 81 = .ok (.dup, 1) := by decide +kernel
theorem dX7_findRun_82 : decode cX7_findRun 82 = .ok (.getfield 50, 3) := by decide +kernel
theorem dX7_findRun_85 : decode cX7_findRun 85 = .ok (.iconst 1, 1) := by decide +kernel
theorem dX7_findRun_86 : decode cX7_findRun 86 = .ok (.iadd, 1) := by decide +kernel
theorem dX7_findRun_87 : decode cX7_findRun 87 = .ok (.putfield 50, 3) := by decide +kernel
theorem dX7_findRun_90 : decode cX7_findRun 90 = .ok (.aload_n 0, 1) := by decide +kernel
theorem dX7_findRun_91 : decode cX7_findRun 91 = .ok (.iload 5, 2) := by decide +kernel
theorem dX7_findRun_93 : decode cX7_findRun 93 = .ok (.iload_n 3, 1) := by decide +kernel
theorem dX7_findRun_94 : decode cX7_findRun 94 = .ok (.iload 4, 2) := by decide +kernel
theorem dX7_findRun_96 : decode cX7_findRun 96 = .ok (.invokevirtual 60, 3) := by decide +kernel
theorem dX7_findRun_99 : decode cX7_findRun 99 = .ok (.ifCond .eq 9, 3) := by decide +kernel
theorem dX7_findRun_102 : decode cX7_findRun 102 = .ok (.aload_n 0, 1) := by decide +kernel
theorem dX7_findRun_103 : decode cX7_findRun 103 = .ok (.iload 5, 2) := by decide +kernel
theorem dX7_findRun_105 : decode cX7_findRun 105 = .ok (.putfield 47, 3) := by decide +kernel
theorem dX7_findRun_108 : decode cX7_findRun 108 = .ok (.iinc 5 1, 3) := by decide +kernel
theorem dX7_findRun_111 : decode cX7_findRun 111 = .ok (.goto (-93), 3) := by decide +kernel
theorem dX7_findRun_114 : decode cX7_findRun 114 = .ok (.return_, 1) := by decide +kernel
abbrev k_X7_findRun (E : g_E) (l : Launch) (D : g_D) (k : Nat) (r1 : Nat) (r2 : Nat) (v3 : Int) (v4 : Int) (K : g_D → Prop) : Prop := g_Kv E l m_X7_findRun 2 [g_R k, g_R r1, g_R r2, g_I v3, g_I v4] g_SH D K
abbrev n_X7_findRun (E : g_E) (l : Launch) (D : g_D) (pc : Nat) (L : List (Option g_V)) (K : g_D → Prop) : Prop := g_N E l m_X7_findRun 2 pc L [] g_SH D (g_Rv g_SH K)
theorem s_X7_findRun {E : g_E} {l : Launch} {D : g_D} {K : g_D → Prop} {nr1 : Nat} {nr2 : Nat} {k : Nat} {r1 : Nat} {r2 : Nat} {v3 : Int} {v4 : Int} (hk : is_Script g_SH k) (hr1 : is_Cells g_SH r1 nr1) (hr2 : is_Cells g_SH r2 nr2) (hF : g_okD D → g_r v3 → g_r v4 → ∀ D1, D1 = g_up D k 9 0 → (∀ D2, D2 = g_up D1 k 10 (-1) → (∀ D3, D3 = g_up D2 k 11 0 → (n_X7_findRun E l D3 18 [some (g_R k), some (g_R r1), some (g_R r2), some (g_I v3), some (g_I v4), some (g_I 0), none] K)))) : k_X7_findRun E l D k r1 r2 v3 v4 K := by
  refine g_enter (by decide) (Nat.le_of_ble_eq_true rfl) ?_
  show g_N E l m_X7_findRun 2 0 [some (g_R k), some (g_R r1), some (g_R r2), some (g_I v3), some (g_I v4), none, none] [] g_SH D (g_Rv g_SH K)
  refine g_use (fun ok => ?_)
  have hF := hF ok.2.1 (ok.loc (i := 3) rfl) (ok.loc (i := 4) rfl)
  refine g_aload_n dX7_findRun_0 rfl ?_
  refine g_iconst dX7_findRun_1 ⟨by decide, by decide⟩ ?_
  let D1 : g_D := g_up D k 9 0
  have hF := hF D1 rfl
  refine g_put dX7_findRun_2 fd_X7_44 (g_ftyI (C := RX7) (T := TX7) (N := 12) rfl rfl (by decide +kernel)) hk.1 rfl ?_
  refine g_aload_n dX7_findRun_5 rfl ?_
  refine g_iconst dX7_findRun_6 ⟨by decide, by decide⟩ ?_
  let D2 : g_D := g_up D1 k 10 (-1)
  have hF := hF D2 rfl
  refine g_put dX7_findRun_7 fd_X7_47 (g_ftyI (C := RX7) (T := TX7) (N := 12) rfl rfl (by decide +kernel)) hk.1 rfl ?_
  refine g_aload_n dX7_findRun_10 rfl ?_
  refine g_iconst dX7_findRun_11 ⟨by decide, by decide⟩ ?_
  let D3 : g_D := g_up D2 k 11 0
  have hF := hF D3 rfl
  refine g_put dX7_findRun_12 fd_X7_50 (g_ftyI (C := RX7) (T := TX7) (N := 12) rfl rfl (by decide +kernel)) hk.1 rfl ?_
  refine g_iconst dX7_findRun_15 ⟨by decide, by decide⟩ ?_
  refine gw_istore (L' := [some (g_R k), some (g_R r1), some (g_R r2), some (g_I v3), some (g_I v4), some (g_I 0), none]) dX7_findRun_16 (by decide) rfl ?_
  exact hF
theorem s_X7_findRun_18 {E : g_E} {l : Launch} {D : g_D} {K : g_D → Prop} {nr1 : Nat} {nr2 : Nat} {k : Nat} {r1 : Nat} {r2 : Nat} {v3 : Int} {v4 : Int} {v5 : Int} (hk : is_Script g_SH k) (hr1 : is_Cells g_SH r1 nr1) (hr2 : is_Cells g_SH r2 nr2) (hF : g_okD D → g_r v3 → g_r v4 → g_r v5 → ((D r1 1) ≤ v5 → K D) ∧ (¬ (D r1 1) ≤ v5 → k_X0_alike E l g_SH D r1 v5 r2 v3 (fun x1 D1 => g_r x1 → (x1 ≤ (D1 k 9) → (x1 ≤ 0 → (g_r (v5 + 1)) ∧ (n_X7_findRun E l D1 18 [some (g_R k), some (g_R r1), some (g_R r2), some (g_I v3), some (g_I v4), some (g_I (v5 + 1)), none] K)) ∧ (¬ x1 ≤ 0 → (¬ x1 = (D1 k 9) → (g_r (v5 + 1)) ∧ (n_X7_findRun E l D1 18 [some (g_R k), some (g_R r1), some (g_R r2), some (g_I v3), some (g_I v4), some (g_I (v5 + 1)), none] K)) ∧ (x1 = (D1 k 9) → (g_r ((D1 k 11) + 1)) ∧ (∀ D2, D2 = g_up D1 k 11 ((D1 k 11) + 1) → (k_X7_isPreferred E l D2 k v5 v3 v4 (fun x3 D3 => g_r x3 → (x3 = 0 → (g_r (v5 + 1)) ∧ (n_X7_findRun E l D3 18 [some (g_R k), some (g_R r1), some (g_R r2), some (g_I v3), some (g_I v4), some (g_I (v5 + 1)), none] K)) ∧ (¬ x3 = 0 → ∀ D4, D4 = g_up D3 k 10 v5 → ((g_r (v5 + 1)) ∧ (n_X7_findRun E l D4 18 [some (g_R k), some (g_R r1), some (g_R r2), some (g_I v3), some (g_I v4), some (g_I (v5 + 1)), none] K))))))))) ∧ (¬ x1 ≤ (D1 k 9) → ∀ D5, D5 = g_up D1 k 9 x1 → (∀ D6, D6 = g_up D5 k 10 v5 → (∀ D7, D7 = g_up D6 k 11 1 → ((g_r (v5 + 1)) ∧ (n_X7_findRun E l D7 18 [some (g_R k), some (g_R r1), some (g_R r2), some (g_I v3), some (g_I v4), some (g_I (v5 + 1)), none] K)))))))) : n_X7_findRun E l D 18 [some (g_R k), some (g_R r1), some (g_R r2), some (g_I v3), some (g_I v4), some (g_I v5), none] K := by
  refine g_use (fun ok => ?_)
  have hF := hF ok.2.1 (ok.loc (i := 3) rfl) (ok.loc (i := 4) rfl) (ok.loc (i := 5) rfl)
  refine g_iload dX7_findRun_18 rfl ?_
  refine g_aload_n dX7_findRun_20 rfl ?_
  refine g_getI dX7_findRun_21 fd_X7_53 hr1.1 rfl ?_
  refine g_cge dX7_findRun_24 rfl (fun q => ?_) (fun q => ?_)
  · have hF := hF.1 q
    exact gw_vret dX7_findRun_114 rfl hF
  · have hF := hF.2 q
    refine g_aload_n dX7_findRun_27 rfl ?_
    refine g_iload dX7_findRun_28 rfl ?_
    refine g_aload_n dX7_findRun_30 rfl ?_
    refine g_iload_n dX7_findRun_31 rfl ?_
    refine gw_cVi (b := r1) (As := [g_I v5, g_R r2, g_I v3]) (rest := []) dX7_findRun_32 mv_X7_56 hr1.1 rfl (Nat.le_of_ble_eq_true rfl) (by decide) rfl hF ?_
    intro x1 D1 hx1 hF
    have hF := hF hx1
    refine gw_istore (L' := [some (g_R k), some (g_R r1), some (g_R r2), some (g_I v3), some (g_I v4), some (g_I v5), some (g_I x1)]) dX7_findRun_35 (by decide) rfl ?_
    refine g_iload dX7_findRun_37 rfl ?_
    refine g_aload_n dX7_findRun_39 rfl ?_
    refine g_getI dX7_findRun_40 fd_X7_44 hk.1 rfl ?_
    refine g_cle dX7_findRun_43 rfl (fun q => ?_) (fun q => ?_)
    · have hF := hF.1 q
      refine g_iload dX7_findRun_66 rfl ?_
      refine g_ifle dX7_findRun_68 rfl (fun q => ?_) (fun q => ?_)
      · have hF := hF.1 q
        obtain ⟨hc, hF⟩ := hF
        refine gw_iinc (L' := [some (g_R k), some (g_R r1), some (g_R r2), some (g_I v3), some (g_I v4), some (g_I (v5 + 1)), some (g_I x1)]) dX7_findRun_108 rfl hc (by decide) rfl ?_
        refine g_goto dX7_findRun_111 rfl ?_
        exact g_forget (L' := [some (g_R k), some (g_R r1), some (g_R r2), some (g_I v3), some (g_I v4), some (g_I (v5 + 1)), none]) ⟨rfl, ⟨rfl, ⟨rfl, ⟨rfl, ⟨rfl, ⟨rfl, trivial⟩⟩⟩⟩⟩⟩ hF
      · have hF := hF.2 q
        refine g_iload dX7_findRun_71 rfl ?_
        refine g_aload_n dX7_findRun_73 rfl ?_
        refine g_getI dX7_findRun_74 fd_X7_44 hk.1 rfl ?_
        refine g_cne dX7_findRun_77 rfl (fun q => ?_) (fun q => ?_)
        · have hF := hF.1 q
          obtain ⟨hc, hF⟩ := hF
          refine gw_iinc (L' := [some (g_R k), some (g_R r1), some (g_R r2), some (g_I v3), some (g_I v4), some (g_I (v5 + 1)), some (g_I x1)]) dX7_findRun_108 rfl hc (by decide) rfl ?_
          refine g_goto dX7_findRun_111 rfl ?_
          exact g_forget (L' := [some (g_R k), some (g_R r1), some (g_R r2), some (g_I v3), some (g_I v4), some (g_I (v5 + 1)), none]) ⟨rfl, ⟨rfl, ⟨rfl, ⟨rfl, ⟨rfl, ⟨rfl, trivial⟩⟩⟩⟩⟩⟩ hF
        · have hF := hF.2 q
          refine g_aload_n dX7_findRun_80 rfl ?_
          refine g_dup dX7_findRun_81 rfl ?_
          refine g_getI dX7_findRun_82 fd_X7_50 hk.1 rfl ?_
          refine g_iconst dX7_findRun_85 ⟨by decide, by decide⟩ ?_
          obtain ⟨hc, hF⟩ := hF
          refine g_iadd dX7_findRun_86 hc ?_
          let D2 : g_D := g_up D1 k 11 ((D1 k 11) + 1)
          have hF := hF D2 rfl
          refine g_put dX7_findRun_87 fd_X7_50 (g_ftyI (C := RX7) (T := TX7) (N := 12) rfl rfl (by decide +kernel)) hk.1 rfl ?_
          refine g_aload_n dX7_findRun_90 rfl ?_
          refine g_iload dX7_findRun_91 rfl ?_
          refine g_iload_n dX7_findRun_93 rfl ?_
          refine g_iload dX7_findRun_94 rfl ?_
          refine gw_cVi (b := k) (As := [g_I v5, g_I v3, g_I v4]) (rest := []) dX7_findRun_96 mv_X7_60 hk.1 rfl (Nat.le_of_ble_eq_true rfl) (by decide) rfl hF ?_
          intro x3 D3 hx3 hF
          have hF := hF hx3
          refine g_ifeq dX7_findRun_99 rfl (fun q => ?_) (fun q => ?_)
          · have hF := hF.1 q
            obtain ⟨hc, hF⟩ := hF
            refine gw_iinc (L' := [some (g_R k), some (g_R r1), some (g_R r2), some (g_I v3), some (g_I v4), some (g_I (v5 + 1)), some (g_I x1)]) dX7_findRun_108 rfl hc (by decide) rfl ?_
            refine g_goto dX7_findRun_111 rfl ?_
            exact g_forget (L' := [some (g_R k), some (g_R r1), some (g_R r2), some (g_I v3), some (g_I v4), some (g_I (v5 + 1)), none]) ⟨rfl, ⟨rfl, ⟨rfl, ⟨rfl, ⟨rfl, ⟨rfl, trivial⟩⟩⟩⟩⟩⟩ hF
          · have hF := hF.2 q
            refine g_aload_n dX7_findRun_102 rfl ?_
            refine g_iload dX7_findRun_103 rfl ?_
            let D4 : g_D := g_up D3 k 10 v5
            have hF := hF D4 rfl
            refine g_put dX7_findRun_105 fd_X7_47 (g_ftyI (C := RX7) (T := TX7) (N := 12) rfl rfl (by decide +kernel)) hk.1 rfl ?_
            obtain ⟨hc, hF⟩ := hF
            refine gw_iinc (L' := [some (g_R k), some (g_R r1), some (g_R r2), some (g_I v3), some (g_I v4), some (g_I (v5 + 1)), some (g_I x1)]) dX7_findRun_108 rfl hc (by decide) rfl ?_
            refine g_goto dX7_findRun_111 rfl ?_
            exact g_forget (L' := [some (g_R k), some (g_R r1), some (g_R r2), some (g_I v3), some (g_I v4), some (g_I (v5 + 1)), none]) ⟨rfl, ⟨rfl, ⟨rfl, ⟨rfl, ⟨rfl, ⟨rfl, trivial⟩⟩⟩⟩⟩⟩ hF
    · have hF := hF.2 q
      refine g_aload_n dX7_findRun_46 rfl ?_
      refine g_iload dX7_findRun_47 rfl ?_
      let D5 : g_D := g_up D1 k 9 x1
      have hF := hF D5 rfl
      refine g_put dX7_findRun_49 fd_X7_44 (g_ftyI (C := RX7) (T := TX7) (N := 12) rfl rfl (by decide +kernel)) hk.1 rfl ?_
      refine g_aload_n dX7_findRun_52 rfl ?_
      refine g_iload dX7_findRun_53 rfl ?_
      let D6 : g_D := g_up D5 k 10 v5
      have hF := hF D6 rfl
      refine g_put dX7_findRun_55 fd_X7_47 (g_ftyI (C := RX7) (T := TX7) (N := 12) rfl rfl (by decide +kernel)) hk.1 rfl ?_
      refine g_aload_n dX7_findRun_58 rfl ?_
      refine g_iconst dX7_findRun_59 ⟨by decide, by decide⟩ ?_
      let D7 : g_D := g_up D6 k 11 1
      have hF := hF D7 rfl
      refine g_put dX7_findRun_60 fd_X7_50 (g_ftyI (C := RX7) (T := TX7) (N := 12) rfl rfl (by decide +kernel)) hk.1 rfl ?_
      refine g_goto dX7_findRun_63 rfl ?_
      obtain ⟨hc, hF⟩ := hF
      refine gw_iinc (L' := [some (g_R k), some (g_R r1), some (g_R r2), some (g_I v3), some (g_I v4), some (g_I (v5 + 1)), some (g_I x1)]) dX7_findRun_108 rfl hc (by decide) rfl ?_
      refine g_goto dX7_findRun_111 rfl ?_
      exact g_forget (L' := [some (g_R k), some (g_R r1), some (g_R r2), some (g_I v3), some (g_I v4), some (g_I (v5 + 1)), none]) ⟨rfl, ⟨rfl, ⟨rfl, ⟨rfl, ⟨rfl, ⟨rfl, trivial⟩⟩⟩⟩⟩⟩ hF
theorem dX7_append_0 : decode cX7_append 0 = .ok (.aload_n 0, 1) := by decide +kernel
theorem dX7_append_1 : decode cX7_append 1 = .ok (.getfield 40, 3) := by decide +kernel
theorem dX7_append_4 : decode cX7_append 4 = .ok (.bipush 20, 2) := by decide +kernel
theorem dX7_append_6 : decode cX7_append 6 = .ok (.if_icmp .ge 54, 3) := by decide +kernel
theorem dX7_append_9 : decode cX7_append 9 = .ok (.aload_n 0, 1) := by decide +kernel
theorem dX7_append_10 : decode cX7_append 10 = .ok (.getfield 9, 3) := by decide +kernel
theorem dX7_append_13 : decode cX7_append 13 = .ok (.aload_n 0, 1) := by decide +kernel
theorem dX7_append_14 : decode cX7_append 14 = .ok (.getfield 40, 3) := by decide +kernel
theorem dX7_append_17 : decode cX7_append 17 = .ok (.iload_n 1, 1) := by decide +kernel
theorem dX7_append_18 : decode cX7_append 18 = .ok (.iastore, 1) := by decide +kernel
theorem dX7_append_19 : decode cX7_append 19 = .ok (.aload_n 0, 1) := by decide +kernel
theorem dX7_append_20 : decode cX7_append 20 = .ok (.getfield 15, 3) := by decide +kernel
theorem dX7_append_23 : decode cX7_append 23 = .ok (.aload_n 0, 1) := by decide +kernel
theorem dX7_append_24 : decode cX7_append 24 = .ok (.getfield 40, 3) := by decide +kernel
theorem dX7_append_27 : decode cX7_append 27 = .ok (.iload_n 2, 1) := by decide +kernel
theorem dX7_append_28 : decode cX7_append 28 = .ok (.iastore, 1) := by decide +kernel
theorem dX7_append_29 : decode cX7_append 29 = .ok (.aload_n 0, 1) := by decide +kernel
theorem dX7_append_30 : decode cX7_append 30 = .ok (.getfield 18, 3) := by decide +kernel
theorem dX7_append_33 : decode cX7_append 33 = .ok (.aload_n 0, 1) := by decide +kernel
theorem dX7_append_34 : decode cX7_append 34 = .ok (.getfield 40, 3) := by decide +kernel
theorem dX7_append_37 : decode cX7_append 37 = .ok (.iload_n 3, 1) := by decide +kernel
theorem dX7_append_38 : decode cX7_append 38 = .ok (.iastore, 1) := by decide +kernel
theorem dX7_append_39 : decode cX7_append 39 = .ok (.aload_n 0, 1) := by decide +kernel
theorem dX7_append_40 : decode cX7_append 40 = .ok (.getfield 21, 3) := by decide +kernel
theorem dX7_append_43 : decode cX7_append 43 = .ok (.aload_n 0, 1) := by decide +kernel
theorem dX7_append_44 : decode cX7_append 44 = .ok (.getfield 40, 3) := by decide +kernel
theorem dX7_append_47 : decode cX7_append 47 = .ok (.iload 4, 2) := by decide +kernel
theorem dX7_append_49 : decode cX7_append 49 = .ok (.iastore, 1) := by decide +kernel
theorem dX7_append_50 : decode cX7_append 50 = .ok (.aload_n 0, 1) := by decide +kernel
theorem dX7_append_51 : decode cX7_append 51 = .ok (.dup, 1) := by decide +kernel
theorem dX7_append_52 : decode cX7_append 52 = .ok (.getfield 40, 3) := by decide +kernel
theorem dX7_append_55 : decode cX7_append 55 = .ok (.iconst 1, 1) := by decide +kernel
theorem dX7_append_56 : decode cX7_append 56 = .ok (.iadd, 1) := by decide +kernel
theorem dX7_append_57 : decode cX7_append 57 = .ok (.putfield 40, 3) := by decide +kernel
theorem dX7_append_60 : decode cX7_append 60 = .ok (.return_, 1) := by decide +kernel
abbrev k_X7_append (E : g_E) (l : Launch) (D : g_D) (k : Nat) (v1 : Int) (v2 : Int) (v3 : Int) (v4 : Int) (K : g_D → Prop) : Prop := g_Kv E l m_X7_append 0 [g_R k, g_I v1, g_I v2, g_I v3, g_I v4] g_SH D K
abbrev n_X7_append (E : g_E) (l : Launch) (D : g_D) (pc : Nat) (L : List (Option g_V)) (K : g_D → Prop) : Prop := g_N E l m_X7_append 0 pc L [] g_SH D (g_Rv g_SH K)
theorem s_X7_append {E : g_E} {l : Launch} {D : g_D} {K : g_D → Prop} {k : Nat} {v1 : Int} {v2 : Int} {v3 : Int} {v4 : Int} (hk : is_Script g_SH k) (hF : g_okD D → g_r v1 → g_r v2 → g_r v3 → g_r v4 → (20 ≤ (D k 8) → K D) ∧ (¬ 20 ≤ (D k 8) → (0 ≤ (D k 8) ∧ (D k 8) < 20) ∧ (∀ D1, D1 = g_up D (k + 1) (D k 8).toNat v1 → ((0 ≤ (D1 k 8) ∧ (D1 k 8) < 20) ∧ (∀ D2, D2 = g_up D1 (k + 2) (D1 k 8).toNat v2 → ((0 ≤ (D2 k 8) ∧ (D2 k 8) < 20) ∧ (∀ D3, D3 = g_up D2 (k + 3) (D2 k 8).toNat v3 → ((0 ≤ (D3 k 8) ∧ (D3 k 8) < 20) ∧ (∀ D4, D4 = g_up D3 (k + 4) (D3 k 8).toNat v4 → ((g_r ((D4 k 8) + 1)) ∧ (∀ D5, D5 = g_up D4 k 8 ((D4 k 8) + 1) → (K D5)))))))))))) : k_X7_append E l D k v1 v2 v3 v4 K := by
  refine g_enter (by decide) (Nat.le_of_ble_eq_true rfl) ?_
  show g_N E l m_X7_append 0 0 [some (g_R k), some (g_I v1), some (g_I v2), some (g_I v3), some (g_I v4)] [] g_SH D (g_Rv g_SH K)
  refine g_use (fun ok => ?_)
  have hF := hF ok.2.1 (ok.loc (i := 1) rfl) (ok.loc (i := 2) rfl) (ok.loc (i := 3) rfl) (ok.loc (i := 4) rfl)
  refine g_aload_n dX7_append_0 rfl ?_
  refine g_getI dX7_append_1 fd_X7_40 hk.1 rfl ?_
  refine g_bipush dX7_append_4 ⟨by decide, by decide⟩ ?_
  refine g_cge dX7_append_6 rfl (fun q => ?_) (fun q => ?_)
  · have hF := hF.1 q
    exact gw_vret dX7_append_60 rfl hF
  · have hF := hF.2 q
    refine g_aload_n dX7_append_9 rfl ?_
    refine g_getR dX7_append_10 fd_X7_9 hk.1 rfl ?_
    refine g_aload_n dX7_append_13 rfl ?_
    refine g_getI dX7_append_14 fd_X7_40 hk.1 rfl ?_
    refine g_iload_n dX7_append_17 rfl ?_
    obtain ⟨hc, hF⟩ := hF
    let D1 : g_D := g_up D (k + 1) (D k 8).toNat v1
    have hF := hF D1 rfl
    refine g_iast dX7_append_18 hk.2.1 hc.1 hc.2 ?_
    refine g_aload_n dX7_append_19 rfl ?_
    refine g_getR dX7_append_20 fd_X7_15 hk.1 rfl ?_
    refine g_aload_n dX7_append_23 rfl ?_
    refine g_getI dX7_append_24 fd_X7_40 hk.1 rfl ?_
    refine g_iload_n dX7_append_27 rfl ?_
    obtain ⟨hc, hF⟩ := hF
    let D2 : g_D := g_up D1 (k + 2) (D1 k 8).toNat v2
    have hF := hF D2 rfl
    refine g_iast dX7_append_28 hk.2.2.1 hc.1 hc.2 ?_
    refine g_aload_n dX7_append_29 rfl ?_
    refine g_getR dX7_append_30 fd_X7_18 hk.1 rfl ?_
    refine g_aload_n dX7_append_33 rfl ?_
    refine g_getI dX7_append_34 fd_X7_40 hk.1 rfl ?_
    refine g_iload_n dX7_append_37 rfl ?_
    obtain ⟨hc, hF⟩ := hF
    let D3 : g_D := g_up D2 (k + 3) (D2 k 8).toNat v3
    have hF := hF D3 rfl
    refine g_iast dX7_append_38 hk.2.2.2.1 hc.1 hc.2 ?_
    refine g_aload_n dX7_append_39 rfl ?_
    refine g_getR dX7_append_40 fd_X7_21 hk.1 rfl ?_
    refine g_aload_n dX7_append_43 rfl ?_
    refine g_getI dX7_append_44 fd_X7_40 hk.1 rfl ?_
    refine g_iload dX7_append_47 rfl ?_
    obtain ⟨hc, hF⟩ := hF
    let D4 : g_D := g_up D3 (k + 4) (D3 k 8).toNat v4
    have hF := hF D4 rfl
    refine g_iast dX7_append_49 hk.2.2.2.2.1 hc.1 hc.2 ?_
    refine g_aload_n dX7_append_50 rfl ?_
    refine g_dup dX7_append_51 rfl ?_
    refine g_getI dX7_append_52 fd_X7_40 hk.1 rfl ?_
    refine g_iconst dX7_append_55 ⟨by decide, by decide⟩ ?_
    obtain ⟨hc, hF⟩ := hF
    refine g_iadd dX7_append_56 hc ?_
    let D5 : g_D := g_up D4 k 8 ((D4 k 8) + 1)
    have hF := hF D5 rfl
    refine g_put dX7_append_57 fd_X7_40 (g_ftyI (C := RX7) (T := TX7) (N := 12) rfl rfl (by decide +kernel)) hk.1 rfl ?_
    exact gw_vret dX7_append_60 rfl hF
theorem dX7_addCell_0 : decode cX7_addCell 0 = .ok (.aload_n 0, 1) := by decide +kernel
theorem dX7_addCell_1 : decode cX7_addCell 1 = .ok (.getfield 40, 3) := by decide +kernel
theorem dX7_addCell_4 : decode cX7_addCell 4 = .ok (.ifCond .le 35, 3) := by decide +kernel
theorem dX7_addCell_7 : decode cX7_addCell 7 = .ok (.aload_n 0, 1) := by decide +kernel
theorem dX7_addCell_8 : decode cX7_addCell 8 = .ok (.getfield 9, 3) := by decide +kernel
theorem dX7_addCell_11 : decode cX7_addCell 11 = .ok (.aload_n 0, 1) := by decide +kernel
theorem dX7_addCell_12 : decode cX7_addCell 12 = .ok (.getfield 40, 3) := by decide +kernel
theorem dX7_addCell_15 : decode cX7_addCell 15 = .ok (.iconst 1, 1) := by decide +kernel
theorem dX7_addCell_16 : decode cX7_addCell 16 = .ok (.isub, 1) := by decide +kernel
theorem dX7_addCell_17 : decode cX7_addCell 17 = .ok (.iaload, 1) := by decide +kernel
theorem dX7_addCell_18 : decode cX7_addCell 18 = .ok (.ifCond .ne 21, 3) := by decide +kernel
theorem dX7_addCell_21 : decode cX7_addCell 21 = .ok (.aload_n 0, 1) := by decide +kernel
theorem dX7_addCell_22 : decode cX7_addCell 22 = .ok (.getfield 21, 3) := by decide +kernel
theorem dX7_addCell_25 : decode cX7_addCell 25 = .ok (.aload_n 0, 1) := by decide +kernel
theorem dX7_addCell_26 : decode cX7_addCell 26 = .ok (.getfield 40, 3) := by decide +kernel
theorem dX7_addCell_29 : decode cX7_addCell 29 = .ok (.iconst 1, 1) := by decide +kernel
theorem dX7_addCell_30 : decode cX7_addCell 30 = .ok (.isub, 1) := by decide +kernel
theorem dX7_addCell_31 : decode cX7_addCell 31 = .ok (.dup2, 1) := by decide +kernel
theorem dX7_addCell_32 : decode cX7_addCell 32 = .ok (.iaload, 1) := by decide +kernel
theorem dX7_addCell_33 : decode cX7_addCell 33 = .ok (.iconst 1, 1) := by decide +kernel
theorem dX7_addCell_34 : decode cX7_addCell 34 = .ok (.iadd, 1) := by decide +kernel
theorem dX7_addCell_35 : decode cX7_addCell 35 = .ok (.iastore, 1) := by decide +kernel
theorem dX7_addCell_36 : decode cX7_addCell 36 = .ok (.goto 11, 3) := by decide +kernel
theorem dX7_addCell_39 : decode cX7_addCell 39 = .ok (.aload_n 0, 1) := by decide +kernel
theorem dX7_addCell_40 : decode cX7_addCell 40 = .ok (.iconst 0, 1) := by decide +kernel
theorem dX7_addCell_41 : decode cX7_addCell 41 = .ok (.iload_n 1, 1) := by decide +kernel
theorem dX7_addCell_42 : decode cX7_addCell 42 = .ok (.iconst (-1), 1) := by decide +kernel
theorem dX7_addCell_43 : decode cX7_addCell 43 = .ok (.iconst 1, 1) := by decide +kernel
theorem dX7_addCell_44 : decode cX7_addCell 44 = .ok (.invokevirtual 78, 3) := by decide +kernel
theorem dX7_addCell_47 : decode cX7_addCell 47 = .ok (.return_, 1) := by decide +kernel
abbrev k_X7_addCell (E : g_E) (l : Launch) (D : g_D) (k : Nat) (v1 : Int) (K : g_D → Prop) : Prop := g_Kv E l m_X7_addCell 1 [g_R k, g_I v1] g_SH D K
abbrev n_X7_addCell (E : g_E) (l : Launch) (D : g_D) (pc : Nat) (L : List (Option g_V)) (K : g_D → Prop) : Prop := g_N E l m_X7_addCell 1 pc L [] g_SH D (g_Rv g_SH K)
theorem s_X7_addCell {E : g_E} {l : Launch} {D : g_D} {K : g_D → Prop} {k : Nat} {v1 : Int} (hk : is_Script g_SH k) (hF : g_okD D → g_r v1 → ((D k 8) ≤ 0 → k_X7_append E l D k 0 v1 (-1) 1 (fun D1 => K D1)) ∧ (¬ (D k 8) ≤ 0 → (g_r ((D k 8) - 1)) ∧ ((0 ≤ ((D k 8) - 1) ∧ ((D k 8) - 1) < 20) ∧ ((¬ (D (k + 1) ((D k 8) - 1).toNat) = 0 → k_X7_append E l D k 0 v1 (-1) 1 (fun D2 => K D2)) ∧ ((D (k + 1) ((D k 8) - 1).toNat) = 0 → (g_r ((D k 8) - 1)) ∧ ((0 ≤ ((D k 8) - 1) ∧ ((D k 8) - 1) < 20) ∧ ((g_r ((D (k + 4) ((D k 8) - 1).toNat) + 1)) ∧ ((0 ≤ ((D k 8) - 1) ∧ ((D k 8) - 1) < 20) ∧ (∀ D3, D3 = g_up D (k + 4) ((D k 8) - 1).toNat ((D (k + 4) ((D k 8) - 1).toNat) + 1) → (K D3)))))))))) : k_X7_addCell E l D k v1 K := by
  refine g_enter (by decide) (Nat.le_of_ble_eq_true rfl) ?_
  show g_N E l m_X7_addCell 1 0 [some (g_R k), some (g_I v1)] [] g_SH D (g_Rv g_SH K)
  refine g_use (fun ok => ?_)
  have hF := hF ok.2.1 (ok.loc (i := 1) rfl)
  refine g_aload_n dX7_addCell_0 rfl ?_
  refine g_getI dX7_addCell_1 fd_X7_40 hk.1 rfl ?_
  refine g_ifle dX7_addCell_4 rfl (fun q => ?_) (fun q => ?_)
  · have hF := hF.1 q
    refine g_aload_n dX7_addCell_39 rfl ?_
    refine g_iconst dX7_addCell_40 ⟨by decide, by decide⟩ ?_
    refine g_iload_n dX7_addCell_41 rfl ?_
    refine g_iconst dX7_addCell_42 ⟨by decide, by decide⟩ ?_
    refine g_iconst dX7_addCell_43 ⟨by decide, by decide⟩ ?_
    refine gw_cVv (b := k) (As := [g_I 0, g_I v1, g_I (-1), g_I 1]) (rest := []) dX7_addCell_44 mv_X7_78 hk.1 rfl (Nat.le_of_ble_eq_true rfl) (by decide) rfl hF ?_
    intro D1 hF
    exact gw_vret dX7_addCell_47 rfl hF
  · have hF := hF.2 q
    refine g_aload_n dX7_addCell_7 rfl ?_
    refine g_getR dX7_addCell_8 fd_X7_9 hk.1 rfl ?_
    refine g_aload_n dX7_addCell_11 rfl ?_
    refine g_getI dX7_addCell_12 fd_X7_40 hk.1 rfl ?_
    refine g_iconst dX7_addCell_15 ⟨by decide, by decide⟩ ?_
    obtain ⟨hc, hF⟩ := hF
    refine g_isub dX7_addCell_16 hc ?_
    obtain ⟨hc, hF⟩ := hF
    refine g_iald dX7_addCell_17 hk.2.1 hc.1 hc.2 ?_
    refine g_ifne dX7_addCell_18 rfl (fun q => ?_) (fun q => ?_)
    · have hF := hF.1 q
      refine g_aload_n dX7_addCell_39 rfl ?_
      refine g_iconst dX7_addCell_40 ⟨by decide, by decide⟩ ?_
      refine g_iload_n dX7_addCell_41 rfl ?_
      refine g_iconst dX7_addCell_42 ⟨by decide, by decide⟩ ?_
      refine g_iconst dX7_addCell_43 ⟨by decide, by decide⟩ ?_
      refine gw_cVv (b := k) (As := [g_I 0, g_I v1, g_I (-1), g_I 1]) (rest := []) dX7_addCell_44 mv_X7_78 hk.1 rfl (Nat.le_of_ble_eq_true rfl) (by decide) rfl hF ?_
      intro D2 hF
      exact gw_vret dX7_addCell_47 rfl hF
    · have hF := hF.2 q
      refine g_aload_n dX7_addCell_21 rfl ?_
      refine g_getR dX7_addCell_22 fd_X7_21 hk.1 rfl ?_
      refine g_aload_n dX7_addCell_25 rfl ?_
      refine g_getI dX7_addCell_26 fd_X7_40 hk.1 rfl ?_
      refine g_iconst dX7_addCell_29 ⟨by decide, by decide⟩ ?_
      obtain ⟨hc, hF⟩ := hF
      refine g_isub dX7_addCell_30 hc ?_
      refine g_dup2 dX7_addCell_31 rfl rfl ?_
      obtain ⟨hc, hF⟩ := hF
      refine g_iald dX7_addCell_32 hk.2.2.2.2.1 hc.1 hc.2 ?_
      refine g_iconst dX7_addCell_33 ⟨by decide, by decide⟩ ?_
      obtain ⟨hc, hF⟩ := hF
      refine g_iadd dX7_addCell_34 hc ?_
      obtain ⟨hc, hF⟩ := hF
      let D3 : g_D := g_up D (k + 4) ((D k 8) - 1).toNat ((D (k + 4) ((D k 8) - 1).toNat) + 1)
      have hF := hF D3 rfl
      refine g_iast dX7_addCell_35 hk.2.2.2.2.1 hc.1 hc.2 ?_
      refine g_goto dX7_addCell_36 rfl ?_
      exact gw_vret dX7_addCell_47 rfl hF
theorem dX7_mustBeAhead_0 : decode cX7_mustBeAhead 0 = .ok (.iload_n 1, 1) := by decide +kernel
theorem dX7_mustBeAhead_1 : decode cX7_mustBeAhead 1 = .ok (.iload_n 2, 1) := by decide +kernel
theorem dX7_mustBeAhead_2 : decode cX7_mustBeAhead 2 = .ok (.if_icmp .eq 23, 3) := by decide +kernel
theorem dX7_mustBeAhead_5 : decode cX7_mustBeAhead 5 = .ok (.aload_n 0, 1) := by decide +kernel
theorem dX7_mustBeAhead_6 : decode cX7_mustBeAhead 6 = .ok (.getfield 9, 3) := by decide +kernel
theorem dX7_mustBeAhead_9 : decode cX7_mustBeAhead 9 = .ok (.iload_n 1, 1) := by decide +kernel
theorem dX7_mustBeAhead_10 : decode cX7_mustBeAhead 10 = .ok (.iaload, 1) := by decide +kernel
theorem dX7_mustBeAhead_11 : decode cX7_mustBeAhead 11 = .ok (.iconst 1, 1) := by decide +kernel
theorem dX7_mustBeAhead_12 : decode cX7_mustBeAhead 12 = .ok (.if_icmp .ne 13, 3) := by decide +kernel
theorem dX7_mustBeAhead_15 : decode cX7_mustBeAhead 15 = .ok (.aload_n 0, 1) := by decide +kernel
theorem dX7_mustBeAhead_16 : decode cX7_mustBeAhead 16 = .ok (.getfield 9, 3) := by decide +kernel
theorem dX7_mustBeAhead_19 : decode cX7_mustBeAhead 19 = .ok (.iload_n 2, 1) := by decide +kernel
theorem dX7_mustBeAhead_20 : decode cX7_mustBeAhead 20 = .ok (.iaload, 1) := by decide +kernel
theorem dX7_mustBeAhead_21 : decode cX7_mustBeAhead 21 = .ok (.iconst 2, 1) := by decide +kernel
theorem dX7_mustBeAhead_22 : decode cX7_mustBeAhead 22 = .ok (.if_icmp .ne 5, 3) := by decide +kernel
theorem dX7_mustBeAhead_25 : decode cX7_mustBeAhead 25 = .ok (.iconst 0, 1) := by decide +kernel
theorem dX7_mustBeAhead_26 : decode cX7_mustBeAhead 26 = .ok (.ireturn, 1) := by decide +kernel
theorem dX7_mustBeAhead_27 : decode cX7_mustBeAhead 27 = .ok (.aload_n 0, 1) := by decide +kernel
theorem dX7_mustBeAhead_28 : decode cX7_mustBeAhead 28 = .ok (.getfield 15, 3) := by decide +kernel
theorem dX7_mustBeAhead_31 : decode cX7_mustBeAhead 31 = .ok (.iload_n 2, 1) := by decide +kernel
theorem dX7_mustBeAhead_32 : decode cX7_mustBeAhead 32 = .ok (.iaload, 1) := by decide +kernel
theorem dX7_mustBeAhead_33 : decode cX7_mustBeAhead 33 = .ok (.aload_n 0, 1) := by decide +kernel
theorem dX7_mustBeAhead_34 : decode cX7_mustBeAhead 34 = .ok (.getfield 18, 3) := by decide +kernel
theorem dX7_mustBeAhead_37 : decode cX7_mustBeAhead 37 = .ok (.iload_n 1, 1) := by decide +kernel
theorem dX7_mustBeAhead_38 : decode cX7_mustBeAhead 38 = .ok (.iaload, 1) := by decide +kernel
theorem dX7_mustBeAhead_39 : decode cX7_mustBeAhead 39 = .ok (.aload_n 0, 1) := by decide +kernel
theorem dX7_mustBeAhead_40 : decode cX7_mustBeAhead 40 = .ok (.getfield 21, 3) := by decide +kernel
theorem dX7_mustBeAhead_43 : decode cX7_mustBeAhead 43 = .ok (.iload_n 1, 1) := by decide +kernel
theorem dX7_mustBeAhead_44 : decode cX7_mustBeAhead 44 = .ok (.iaload, 1) := by decide +kernel
theorem dX7_mustBeAhead_45 : decode cX7_mustBeAhead 45 = .ok (.iadd, 1) := by decide +kernel
theorem dX7_mustBeAhead_46 : decode cX7_mustBeAhead 46 = .ok (.if_icmp .ge 29, 3) := by decide +kernel
theorem dX7_mustBeAhead_49 : decode cX7_mustBeAhead 49 = .ok (.aload_n 0, 1) := by decide +kernel
theorem dX7_mustBeAhead_50 : decode cX7_mustBeAhead 50 = .ok (.getfield 18, 3) := by decide +kernel
theorem dX7_mustBeAhead_53 : decode cX7_mustBeAhead 53 = .ok (.iload_n 1, 1) := by decide +kernel
theorem dX7_mustBeAhead_54 : decode cX7_mustBeAhead 54 = .ok (.iaload, 1) := by decide +kernel
theorem dX7_mustBeAhead_55 : decode cX7_mustBeAhead 55 = .ok (.aload_n 0, 1) := by decide +kernel
theorem dX7_mustBeAhead_56 : decode cX7_mustBeAhead 56 = .ok (.getfield 15, 3) := by decide +kernel
theorem dX7_mustBeAhead_59 : decode cX7_mustBeAhead 59 = .ok (.iload_n 2, 1) := by decide +kernel
theorem dX7_mustBeAhead_60 : decode cX7_mustBeAhead 60 = .ok (.iaload, 1) := by decide +kernel
theorem dX7_mustBeAhead_61 : decode cX7_mustBeAhead 61 = .ok (.aload_n 0, 1) := by decide +kernel
theorem dX7_mustBeAhead_62 : decode cX7_mustBeAhead 62 = .ok (.getfield 21, 3) := by decide +kernel
theorem dX7_mustBeAhead_65 : decode cX7_mustBeAhead 65 = .ok (.iload_n 2, 1) := by decide +kernel
theorem dX7_mustBeAhead_66 : decode cX7_mustBeAhead 66 = .ok (.iaload, 1) := by decide +kernel
theorem dX7_mustBeAhead_67 : decode cX7_mustBeAhead 67 = .ok (.iadd, 1) := by decide +kernel
theorem dX7_mustBeAhead_68 : decode cX7_mustBeAhead 68 = .ok (.if_icmp .ge 7, 3) := by decide +kernel
theorem dX7_mustBeAhead_71 : decode cX7_mustBeAhead 71 = .ok (.iconst 1, 1) := by decide +kernel
theorem dX7_mustBeAhead_72 : decode cX7_mustBeAhead 72 = .ok (.goto 4, 3) := by decide +kernel
theorem dX7_mustBeAhead_75 : decode cX7_mustBeAhead 75 = .ok (.iconst 0, 1) := by decide +kernel
theorem dX7_mustBeAhead_76 : decode cX7_mustBeAhead 76 = .ok (.ireturn, 1) := by decide +kernel
abbrev k_X7_mustBeAhead (E : g_E) (l : Launch) (D : g_D) (k : Nat) (v1 : Int) (v2 : Int) (K : Int → g_D → Prop) : Prop := g_Ki E l m_X7_mustBeAhead 0 [g_R k, g_I v1, g_I v2] g_SH D K
abbrev n_X7_mustBeAhead (E : g_E) (l : Launch) (D : g_D) (pc : Nat) (L : List (Option g_V)) (K : Int → g_D → Prop) : Prop := g_N E l m_X7_mustBeAhead 0 pc L [] g_SH D (g_Ri g_SH K)
theorem s_X7_mustBeAhead {E : g_E} {l : Launch} {D : g_D} {K : Int → g_D → Prop} {k : Nat} {v1 : Int} {v2 : Int} (hk : is_Script g_SH k) (hF : g_okD D → g_r v1 → g_r v2 → (v1 = v2 → K 0 D) ∧ (¬ v1 = v2 → (0 ≤ v1 ∧ v1 < 20) ∧ ((¬ (D (k + 1) v1.toNat) = 1 → K 0 D) ∧ ((D (k + 1) v1.toNat) = 1 → (0 ≤ v2 ∧ v2 < 20) ∧ ((¬ (D (k + 1) v2.toNat) = 2 → (0 ≤ v2 ∧ v2 < 20) ∧ ((0 ≤ v1 ∧ v1 < 20) ∧ ((0 ≤ v1 ∧ v1 < 20) ∧ ((g_r ((D (k + 3) v1.toNat) + (D (k + 4) v1.toNat))) ∧ ((((D (k + 3) v1.toNat) + (D (k + 4) v1.toNat)) ≤ (D (k + 2) v2.toNat) → K 0 D) ∧ (¬ ((D (k + 3) v1.toNat) + (D (k + 4) v1.toNat)) ≤ (D (k + 2) v2.toNat) → (0 ≤ v1 ∧ v1 < 20) ∧ ((0 ≤ v2 ∧ v2 < 20) ∧ ((0 ≤ v2 ∧ v2 < 20) ∧ ((g_r ((D (k + 2) v2.toNat) + (D (k + 4) v2.toNat))) ∧ ((((D (k + 2) v2.toNat) + (D (k + 4) v2.toNat)) ≤ (D (k + 3) v1.toNat) → K 0 D) ∧ (¬ ((D (k + 2) v2.toNat) + (D (k + 4) v2.toNat)) ≤ (D (k + 3) v1.toNat) → K 1 D))))))))))) ∧ ((D (k + 1) v2.toNat) = 2 → K 0 D)))))) : k_X7_mustBeAhead E l D k v1 v2 K := by
  refine g_enter (by decide) (Nat.le_of_ble_eq_true rfl) ?_
  show g_N E l m_X7_mustBeAhead 0 0 [some (g_R k), some (g_I v1), some (g_I v2)] [] g_SH D (g_Ri g_SH K)
  refine g_use (fun ok => ?_)
  have hF := hF ok.2.1 (ok.loc (i := 1) rfl) (ok.loc (i := 2) rfl)
  refine g_iload_n dX7_mustBeAhead_0 rfl ?_
  refine g_iload_n dX7_mustBeAhead_1 rfl ?_
  refine g_ceq dX7_mustBeAhead_2 rfl (fun q => ?_) (fun q => ?_)
  · have hF := hF.1 q
    refine g_iconst dX7_mustBeAhead_25 ⟨by decide, by decide⟩ ?_
    exact gw_zret dX7_mustBeAhead_26 rfl (by decide) hF
  · have hF := hF.2 q
    refine g_aload_n dX7_mustBeAhead_5 rfl ?_
    refine g_getR dX7_mustBeAhead_6 fd_X7_9 hk.1 rfl ?_
    refine g_iload_n dX7_mustBeAhead_9 rfl ?_
    obtain ⟨hc, hF⟩ := hF
    refine g_iald dX7_mustBeAhead_10 hk.2.1 hc.1 hc.2 ?_
    refine g_iconst dX7_mustBeAhead_11 ⟨by decide, by decide⟩ ?_
    refine g_cne dX7_mustBeAhead_12 rfl (fun q => ?_) (fun q => ?_)
    · have hF := hF.1 q
      refine g_iconst dX7_mustBeAhead_25 ⟨by decide, by decide⟩ ?_
      exact gw_zret dX7_mustBeAhead_26 rfl (by decide) hF
    · have hF := hF.2 q
      refine g_aload_n dX7_mustBeAhead_15 rfl ?_
      refine g_getR dX7_mustBeAhead_16 fd_X7_9 hk.1 rfl ?_
      refine g_iload_n dX7_mustBeAhead_19 rfl ?_
      obtain ⟨hc, hF⟩ := hF
      refine g_iald dX7_mustBeAhead_20 hk.2.1 hc.1 hc.2 ?_
      refine g_iconst dX7_mustBeAhead_21 ⟨by decide, by decide⟩ ?_
      refine g_cne dX7_mustBeAhead_22 rfl (fun q => ?_) (fun q => ?_)
      · have hF := hF.1 q
        refine g_aload_n dX7_mustBeAhead_27 rfl ?_
        refine g_getR dX7_mustBeAhead_28 fd_X7_15 hk.1 rfl ?_
        refine g_iload_n dX7_mustBeAhead_31 rfl ?_
        obtain ⟨hc, hF⟩ := hF
        refine g_iald dX7_mustBeAhead_32 hk.2.2.1 hc.1 hc.2 ?_
        refine g_aload_n dX7_mustBeAhead_33 rfl ?_
        refine g_getR dX7_mustBeAhead_34 fd_X7_18 hk.1 rfl ?_
        refine g_iload_n dX7_mustBeAhead_37 rfl ?_
        obtain ⟨hc, hF⟩ := hF
        refine g_iald dX7_mustBeAhead_38 hk.2.2.2.1 hc.1 hc.2 ?_
        refine g_aload_n dX7_mustBeAhead_39 rfl ?_
        refine g_getR dX7_mustBeAhead_40 fd_X7_21 hk.1 rfl ?_
        refine g_iload_n dX7_mustBeAhead_43 rfl ?_
        obtain ⟨hc, hF⟩ := hF
        refine g_iald dX7_mustBeAhead_44 hk.2.2.2.2.1 hc.1 hc.2 ?_
        obtain ⟨hc, hF⟩ := hF
        refine g_iadd dX7_mustBeAhead_45 hc ?_
        refine g_cge dX7_mustBeAhead_46 rfl (fun q => ?_) (fun q => ?_)
        · have hF := hF.1 q
          refine g_iconst dX7_mustBeAhead_75 ⟨by decide, by decide⟩ ?_
          exact gw_zret dX7_mustBeAhead_76 rfl (by decide) hF
        · have hF := hF.2 q
          refine g_aload_n dX7_mustBeAhead_49 rfl ?_
          refine g_getR dX7_mustBeAhead_50 fd_X7_18 hk.1 rfl ?_
          refine g_iload_n dX7_mustBeAhead_53 rfl ?_
          obtain ⟨hc, hF⟩ := hF
          refine g_iald dX7_mustBeAhead_54 hk.2.2.2.1 hc.1 hc.2 ?_
          refine g_aload_n dX7_mustBeAhead_55 rfl ?_
          refine g_getR dX7_mustBeAhead_56 fd_X7_15 hk.1 rfl ?_
          refine g_iload_n dX7_mustBeAhead_59 rfl ?_
          obtain ⟨hc, hF⟩ := hF
          refine g_iald dX7_mustBeAhead_60 hk.2.2.1 hc.1 hc.2 ?_
          refine g_aload_n dX7_mustBeAhead_61 rfl ?_
          refine g_getR dX7_mustBeAhead_62 fd_X7_21 hk.1 rfl ?_
          refine g_iload_n dX7_mustBeAhead_65 rfl ?_
          obtain ⟨hc, hF⟩ := hF
          refine g_iald dX7_mustBeAhead_66 hk.2.2.2.2.1 hc.1 hc.2 ?_
          obtain ⟨hc, hF⟩ := hF
          refine g_iadd dX7_mustBeAhead_67 hc ?_
          refine g_cge dX7_mustBeAhead_68 rfl (fun q => ?_) (fun q => ?_)
          · have hF := hF.1 q
            refine g_iconst dX7_mustBeAhead_75 ⟨by decide, by decide⟩ ?_
            exact gw_zret dX7_mustBeAhead_76 rfl (by decide) hF
          · have hF := hF.2 q
            refine g_iconst dX7_mustBeAhead_71 ⟨by decide, by decide⟩ ?_
            refine g_goto dX7_mustBeAhead_72 rfl ?_
            exact gw_zret dX7_mustBeAhead_76 rfl (by decide) hF
      · have hF := hF.2 q
        refine g_iconst dX7_mustBeAhead_25 ⟨by decide, by decide⟩ ?_
        exact gw_zret dX7_mustBeAhead_26 rfl (by decide) hF
theorem dX7_findOrder_0 : decode cX7_findOrder 0 = .ok (.aload_n 0, 1) := by decide +kernel
theorem dX7_findOrder_1 : decode cX7_findOrder 1 = .ok (.getfield 24, 3) := by decide +kernel
theorem dX7_findOrder_4 : decode cX7_findOrder 4 = .ok (.iconst 0, 1) := by decide +kernel
theorem dX7_findOrder_5 : decode cX7_findOrder 5 = .ok (.invokestatic 89, 3) := by decide +kernel
theorem dX7_findOrder_8 : decode cX7_findOrder 8 = .ok (.iconst 0, 1) := by decide +kernel
theorem dX7_findOrder_9 : decode cX7_findOrder 9 = .ok (.istore_n 1, 1) := by decide +kernel
theorem dX7_findOrder_10 : decode cX7_findOrder 10 = .ok (.iload_n 1, 1) := by decide +kernel
theorem dX7_findOrder_11 : decode cX7_findOrder 11 = .ok (.aload_n 0, 1) := by decide +kernel
theorem dX7_findOrder_12 : decode cX7_findOrder 12 = .ok (.getfield 40, 3) := by decide +kernel
theorem dX7_findOrder_15 : decode cX7_findOrder 15 = .ok (.if_icmp .ge 46, 3) := by decide +kernel
theorem dX7_findOrder_18 : decode cX7_findOrder 18 = .ok (.iconst 0, 1) := by decide +kernel
theorem dX7_findOrder_19 : decode cX7_findOrder 19 = .ok (.istore_n 2, 1) := by decide +kernel
theorem dX7_findOrder_20 : decode cX7_findOrder 20 = .ok (.iload_n 2, 1) := by decide +kernel
theorem dX7_findOrder_21 : decode cX7_findOrder 21 = .ok (.aload_n 0, 1) := by decide +kernel
theorem dX7_findOrder_22 : decode cX7_findOrder 22 = .ok (.getfield 40, 3) := by decide +kernel
theorem dX7_findOrder_25 : decode cX7_findOrder 25 = .ok (.if_icmp .ge 30, 3) := by decide +kernel
theorem dX7_findOrder_28 : decode cX7_findOrder 28 = .ok (.aload_n 0, 1) := by decide +kernel
theorem dX7_findOrder_29 : decode cX7_findOrder 29 = .ok (.iload_n 1, 1) := by decide +kernel
theorem dX7_findOrder_30 : decode cX7_findOrder 30 = .ok (.iload_n 2, 1) := by decide +kernel
theorem dX7_findOrder_31 : decode cX7_findOrder 31 = .ok (.invokevirtual 95, 3) := by decide +kernel
theorem dX7_findOrder_34 : decode cX7_findOrder 34 = .ok (.ifCond .eq 15, 3) := by decide +kernel
theorem dX7_findOrder_37 : decode cX7_findOrder 37 = .ok (.aload_n 0, 1) := by decide +kernel
theorem dX7_findOrder_38 : decode cX7_findOrder 38 = .ok (.getfield 24, 3) := by decide +kernel
theorem dX7_findOrder_41 : decode cX7_findOrder 41 = .ok (.iload_n 1, 1) := by decide +kernel
theorem dX7_findOrder_42 : decode cX7_findOrder 42 = .ok (.dup2, 1) := by decide +kernel
theorem dX7_findOrder_43 : decode cX7_findOrder 43 = .ok (.iaload, 1) := by decide +kernel
theorem dX7_findOrder_44 : decode cX7_findOrder 44 = .ok (.iconst 1, 1) := by decide +kernel
theorem dX7_findOrder_45 : decode cX7_findOrder 45 = .ok (.iload_n 2, 1) := by decide +kernel
theorem dX7_findOrder_46 : decode cX7_findOrder 46 = .ok (.ishl, 1) := by decide +kernel
theorem dX7_findOrder_47 : decode cX7_findOrder 47 = .ok (.ior, 1) := by decide +kernel
theorem dX7_findOrder_48 : decode cX7_findOrder 48 = .ok (.iastore, 1) := by decide +kernel
theorem dX7_findOrder_49 : decode cX7_findOrder 49 = .ok (.iinc 2 1, 3) := by decide +kernel
theorem dX7_findOrder_52 : decode cX7_findOrder 52 = .ok (.goto (-32), 3) := by decide +kernel
theorem dX7_findOrder_55 : decode cX7_findOrder 55 = .ok (.iinc 1 1, 3) := by decide +kernel
theorem dX7_findOrder_58 : decode cX7_findOrder 58 = .ok (.goto (-48), 3) := by decide +kernel
theorem dX7_findOrder_61 : decode cX7_findOrder 61 = .ok (.return_, 1) := by decide +kernel
abbrev k_X7_findOrder (E : g_E) (l : Launch) (D : g_D) (k : Nat) (K : g_D → Prop) : Prop := g_Kv E l m_X7_findOrder 1 [g_R k] g_SH D K
abbrev n_X7_findOrder (E : g_E) (l : Launch) (D : g_D) (pc : Nat) (L : List (Option g_V)) (K : g_D → Prop) : Prop := g_N E l m_X7_findOrder 1 pc L [] g_SH D (g_Rv g_SH K)
theorem s_X7_findOrder {E : g_E} {l : Launch} {D : g_D} {K : g_D → Prop} {k : Nat} (hk : is_Script g_SH k) (hF : g_okD D → k_J7_fill_53178 E l g_SH D (k + 5) 0 (fun D1 => n_X7_findOrder E l D1 10 [some (g_R k), some (g_I 0), none] K)) : k_X7_findOrder E l D k K := by
  refine g_enter (by decide) (Nat.le_of_ble_eq_true rfl) ?_
  show g_N E l m_X7_findOrder 1 0 [some (g_R k), none, none] [] g_SH D (g_Rv g_SH K)
  refine g_use (fun ok => ?_)
  have hF := hF ok.2.1
  refine g_aload_n dX7_findOrder_0 rfl ?_
  refine g_getR dX7_findOrder_1 fd_X7_24 hk.1 rfl ?_
  refine g_iconst dX7_findOrder_4 ⟨by decide, by decide⟩ ?_
  refine gw_cSv (As := [g_R (k + 5), g_I 0]) (rest := []) dX7_findOrder_5 ms_X7_89 rfl (Nat.le_of_ble_eq_true rfl) (by decide) rfl hF ?_
  intro D1 hF
  refine g_iconst dX7_findOrder_8 ⟨by decide, by decide⟩ ?_
  refine gw_istore_n (L' := [some (g_R k), some (g_I 0), none]) dX7_findOrder_9 (by decide) rfl ?_
  exact hF
theorem s_X7_findOrder_10 {E : g_E} {l : Launch} {D : g_D} {K : g_D → Prop} {k : Nat} {v1 : Int} (hk : is_Script g_SH k) (hF : g_okD D → g_r v1 → ((D k 8) ≤ v1 → K D) ∧ (¬ (D k 8) ≤ v1 → n_X7_findOrder E l D 20 [some (g_R k), some (g_I v1), some (g_I 0)] K)) : n_X7_findOrder E l D 10 [some (g_R k), some (g_I v1), none] K := by
  refine g_use (fun ok => ?_)
  have hF := hF ok.2.1 (ok.loc (i := 1) rfl)
  refine g_iload_n dX7_findOrder_10 rfl ?_
  refine g_aload_n dX7_findOrder_11 rfl ?_
  refine g_getI dX7_findOrder_12 fd_X7_40 hk.1 rfl ?_
  refine g_cge dX7_findOrder_15 rfl (fun q => ?_) (fun q => ?_)
  · have hF := hF.1 q
    exact gw_vret dX7_findOrder_61 rfl hF
  · have hF := hF.2 q
    refine g_iconst dX7_findOrder_18 ⟨by decide, by decide⟩ ?_
    refine gw_istore_n (L' := [some (g_R k), some (g_I v1), some (g_I 0)]) dX7_findOrder_19 (by decide) rfl ?_
    exact hF
theorem s_X7_findOrder_20 {E : g_E} {l : Launch} {D : g_D} {K : g_D → Prop} {k : Nat} {v1 : Int} {v2 : Int} (hk : is_Script g_SH k) (hF : g_okD D → g_r v1 → g_r v2 → ((D k 8) ≤ v2 → (g_r (v1 + 1)) ∧ (n_X7_findOrder E l D 10 [some (g_R k), some (g_I (v1 + 1)), none] K)) ∧ (¬ (D k 8) ≤ v2 → k_X7_mustBeAhead E l D k v1 v2 (fun x1 D1 => g_r x1 → (x1 = 0 → (g_r (v2 + 1)) ∧ (n_X7_findOrder E l D1 20 [some (g_R k), some (g_I v1), some (g_I (v2 + 1))] K)) ∧ (¬ x1 = 0 → (0 ≤ v1 ∧ v1 < 20) ∧ ((0 ≤ v1 ∧ v1 < 20) ∧ (∀ D2, D2 = g_up D1 (k + 5) v1.toNat (g_or (D1 (k + 5) v1.toNat) (g_shl 1 v2)) → ((g_r (v2 + 1)) ∧ (n_X7_findOrder E l D2 20 [some (g_R k), some (g_I v1), some (g_I (v2 + 1))] K)))))))) : n_X7_findOrder E l D 20 [some (g_R k), some (g_I v1), some (g_I v2)] K := by
  refine g_use (fun ok => ?_)
  have hF := hF ok.2.1 (ok.loc (i := 1) rfl) (ok.loc (i := 2) rfl)
  refine g_iload_n dX7_findOrder_20 rfl ?_
  refine g_aload_n dX7_findOrder_21 rfl ?_
  refine g_getI dX7_findOrder_22 fd_X7_40 hk.1 rfl ?_
  refine g_cge dX7_findOrder_25 rfl (fun q => ?_) (fun q => ?_)
  · have hF := hF.1 q
    obtain ⟨hc, hF⟩ := hF
    refine gw_iinc (L' := [some (g_R k), some (g_I (v1 + 1)), some (g_I v2)]) dX7_findOrder_55 rfl hc (by decide) rfl ?_
    refine g_goto dX7_findOrder_58 rfl ?_
    exact g_forget (L' := [some (g_R k), some (g_I (v1 + 1)), none]) ⟨rfl, ⟨rfl, trivial⟩⟩ hF
  · have hF := hF.2 q
    refine g_aload_n dX7_findOrder_28 rfl ?_
    refine g_iload_n dX7_findOrder_29 rfl ?_
    refine g_iload_n dX7_findOrder_30 rfl ?_
    refine gw_cVi (b := k) (As := [g_I v1, g_I v2]) (rest := []) dX7_findOrder_31 mv_X7_95 hk.1 rfl (Nat.le_of_ble_eq_true rfl) (by decide) rfl hF ?_
    intro x1 D1 hx1 hF
    have hF := hF hx1
    refine g_ifeq dX7_findOrder_34 rfl (fun q => ?_) (fun q => ?_)
    · have hF := hF.1 q
      obtain ⟨hc, hF⟩ := hF
      refine gw_iinc (L' := [some (g_R k), some (g_I v1), some (g_I (v2 + 1))]) dX7_findOrder_49 rfl hc (by decide) rfl ?_
      refine g_goto dX7_findOrder_52 rfl ?_
      exact hF
    · have hF := hF.2 q
      refine g_aload_n dX7_findOrder_37 rfl ?_
      refine g_getR dX7_findOrder_38 fd_X7_24 hk.1 rfl ?_
      refine g_iload_n dX7_findOrder_41 rfl ?_
      refine g_dup2 dX7_findOrder_42 rfl rfl ?_
      obtain ⟨hc, hF⟩ := hF
      refine g_iald dX7_findOrder_43 hk.2.2.2.2.2.1 hc.1 hc.2 ?_
      refine g_iconst dX7_findOrder_44 ⟨by decide, by decide⟩ ?_
      refine g_iload_n dX7_findOrder_45 rfl ?_
      refine g_ishl dX7_findOrder_46 ?_
      refine g_ior dX7_findOrder_47 ?_
      obtain ⟨hc, hF⟩ := hF
      let D2 : g_D := g_up D1 (k + 5) v1.toNat (g_or (D1 (k + 5) v1.toNat) (g_shl 1 v2))
      have hF := hF D2 rfl
      refine g_iast dX7_findOrder_48 hk.2.2.2.2.2.1 hc.1 hc.2 ?_
      obtain ⟨hc, hF⟩ := hF
      refine gw_iinc (L' := [some (g_R k), some (g_I v1), some (g_I (v2 + 1))]) dX7_findOrder_49 rfl hc (by decide) rfl ?_
      refine g_goto dX7_findOrder_52 rfl ?_
      exact hF
theorem dX7_build_0 : decode cX7_build 0 = .ok (.aload_n 0, 1) := by decide +kernel
theorem dX7_build_1 : decode cX7_build 1 = .ok (.iconst 0, 1) := by decide +kernel
theorem dX7_build_2 : decode cX7_build 2 = .ok (.putfield 40, 3) := by decide +kernel
theorem dX7_build_5 : decode cX7_build 5 = .ok (.aload_n 0, 1) := by decide +kernel
theorem dX7_build_6 : decode cX7_build 6 = .ok (.getfield 30, 3) := by decide +kernel
theorem dX7_build_9 : decode cX7_build 9 = .ok (.iconst 0, 1) := by decide +kernel
theorem dX7_build_10 : decode cX7_build 10 = .ok (.putfield 70, 3) := by decide +kernel
theorem dX7_build_13 : decode cX7_build 13 = .ok (.iconst 0, 1) := by decide +kernel
theorem dX7_build_14 : decode cX7_build 14 = .ok (.istore 5, 2) := by decide +kernel
theorem dX7_build_16 : decode cX7_build 16 = .ok (.iload 5, 2) := by decide +kernel
theorem dX7_build_18 : decode cX7_build 18 = .ok (.aload_n 2, 1) := by decide +kernel
theorem dX7_build_19 : decode cX7_build 19 = .ok (.getfield 53, 3) := by decide +kernel
theorem dX7_build_22 : decode cX7_build 22 = .ok (.if_icmp .ge 80, 3) := by decide +kernel
theorem dX7_build_25 : decode cX7_build 25 = .ok (.aload_n 0, 1) := by decide +kernel
theorem dX7_build_26 : decode cX7_build 26 = .ok (.aload_n 1, 1) := by decide +kernel
theorem dX7_build_27 : decode cX7_build 27 = .ok (.aload_n 2, 1) := by decide +kernel
theorem dX7_build_28 : decode cX7_build 28 = .ok (.iload 5, 2) := by decide +kernel
theorem dX7_build_30 : decode cX7_build 30 = .ok (.iload 4, 2) := by decide +kernel
theorem dX7_build_32 : decode cX7_build 32 = .ok (.invokevirtual 74, 3) := by decide +kernel
theorem dX7_build_35 : decode cX7_build 35 = .ok (.aload_n 0, 1) := by decide +kernel
theorem dX7_build_36 : decode cX7_build 36 = .ok (.getfield 44, 3) := by decide +kernel
theorem dX7_build_39 : decode cX7_build 39 = .ok (.ifCond .le 51, 3) := by decide +kernel
theorem dX7_build_42 : decode cX7_build 42 = .ok (.aload_n 0, 1) := by decide +kernel
theorem dX7_build_43 : decode cX7_build 43 = .ok (.getfield 44, 3) := by decide +kernel
theorem dX7_build_46 : decode cX7_build 46 = .ok (.iload_n 3, 1) := by decide +kernel
theorem dX7_build_47 : decode cX7_build 47 = .ok (.if_icmp .lt 43, 3) := by decide +kernel
theorem dX7_build_50 : decode cX7_build 50 = .ok (.aload_n 0, 1) := by decide +kernel
theorem dX7_build_51 : decode cX7_build 51 = .ok (.aload_n 0, 1) := by decide +kernel
theorem dX7_build_52 : decode cX7_build 52 = .ok (.getfield 47, 3) := by decide +kernel
theorem dX7_build_55 : decode cX7_build 55 = .ok (.iload 5, 2) := by decide +kernel
theorem dX7_build_57 : decode cX7_build 57 = .ok (.if_icmp .ne 7, 3) := by decide +kernel
theorem dX7_build_60 : decode cX7_build 60 = .ok (.iconst 2, 1) := by decide +kernel
theorem dX7_build_61 : decode cX7_build 61 = .ok (.goto 4, 3) := by decide +kernel
theorem dX7_build_64 : decode cX7_build 64 = .ok (.iconst 1, 1) := by decide +kernel
theorem dX7_build_65 : decode cX7_build 65 = .ok (.iload 5, 2) := by decide +kernel
theorem dX7_build_67 : decode cX7_build 67 = .ok (.aload_n 0, 1) := by decide +kernel
theorem dX7_build_68 : decode cX7_build 68 = .ok (.getfield 47, 3) := by decide +kernel
theorem dX7_build_71 : decode cX7_build 71 = .ok (.aload_n 0, 1) := by decide +kernel
theorem dX7_build_72 : decode cX7_build 72 = .ok (.getfield 44, 3) := by decide +kernel
theorem dX7_build_75 : decode cX7_build 75 = .ok (.invokevirtual 78, 3) := by decide +kernel
theorem dX7_build_78 : decode cX7_build 78 = .ok (.iload 5, 2) := by decide +kernel
theorem dX7_build_80 : decode cX7_build 80 = .ok (.aload_n 0, 1) := by decide +kernel
theorem dX7_build_81 : decode cX7_build 81 = .ok (.getfield 44, 3) := by decide +kernel
theorem dX7_build_84 : decode cX7_build 84 = .ok (.iadd, 1) := by decide +kernel
theorem dX7_build_85 : decode cX7_build 85 = .ok (.istore 5, 2) := by decide +kernel
theorem dX7_build_87 : decode cX7_build 87 = .ok (.goto (-71), 3) := by decide +kernel
theorem dX7_build_90 : decode cX7_build 90 = .ok (.aload_n 0, 1) := by decide +kernel
theorem dX7_build_91 : decode cX7_build 91 = .ok (.iload 5, 2) := by decide +kernel
theorem dX7_build_93 : decode cX7_build 93 = .ok (.invokevirtual 82, 3) := by decide +kernel
theorem dX7_build_96 : decode cX7_build 96 = .ok (.iinc 5 1, 3) := by decide +kernel
theorem dX7_build_99 : decode cX7_build 99 = .ok (.goto (-83), 3) := by decide +kernel
theorem dX7_build_102 : decode cX7_build 102 = .ok (.aload_n 0, 1) := by decide +kernel
theorem dX7_build_103 : decode cX7_build 103 = .ok (.invokevirtual 86, 3) := by decide +kernel
theorem dX7_build_106 : decode cX7_build 106 = .ok (.return_, 1) := by decide +kernel
abbrev k_X7_build (E : g_E) (l : Launch) (D : g_D) (k : Nat) (r1 : Nat) (r2 : Nat) (v3 : Int) (v4 : Int) (K : g_D → Prop) : Prop := g_Kv E l m_X7_build 3 [g_R k, g_R r1, g_R r2, g_I v3, g_I v4] g_SH D K
abbrev n_X7_build (E : g_E) (l : Launch) (D : g_D) (pc : Nat) (L : List (Option g_V)) (K : g_D → Prop) : Prop := g_N E l m_X7_build 3 pc L [] g_SH D (g_Rv g_SH K)
theorem s_X7_build {E : g_E} {l : Launch} {D : g_D} {K : g_D → Prop} {nr1 : Nat} {nr2 : Nat} {k : Nat} {r1 : Nat} {r2 : Nat} {v3 : Int} {v4 : Int} (hk : is_Script g_SH k) (hr1 : is_Cells g_SH r1 nr1) (hr2 : is_Cells g_SH r2 nr2) (hF : g_okD D → g_r v3 → g_r v4 → ∀ D1, D1 = g_up D k 8 0 → (∀ D2, D2 = g_up D1 (k + 6) 4 0 → (n_X7_build E l D2 16 [some (g_R k), some (g_R r1), some (g_R r2), some (g_I v3), some (g_I v4), some (g_I 0)] K))) : k_X7_build E l D k r1 r2 v3 v4 K := by
  refine g_enter (by decide) (Nat.le_of_ble_eq_true rfl) ?_
  show g_N E l m_X7_build 3 0 [some (g_R k), some (g_R r1), some (g_R r2), some (g_I v3), some (g_I v4), none] [] g_SH D (g_Rv g_SH K)
  refine g_use (fun ok => ?_)
  have hF := hF ok.2.1 (ok.loc (i := 3) rfl) (ok.loc (i := 4) rfl)
  refine g_aload_n dX7_build_0 rfl ?_
  refine g_iconst dX7_build_1 ⟨by decide, by decide⟩ ?_
  let D1 : g_D := g_up D k 8 0
  have hF := hF D1 rfl
  refine g_put dX7_build_2 fd_X7_40 (g_ftyI (C := RX7) (T := TX7) (N := 12) rfl rfl (by decide +kernel)) hk.1 rfl ?_
  refine g_aload_n dX7_build_5 rfl ?_
  refine g_getR dX7_build_6 fd_X7_30 hk.1 rfl ?_
  refine g_iconst dX7_build_9 ⟨by decide, by decide⟩ ?_
  let D2 : g_D := g_up D1 (k + 6) 4 0
  have hF := hF D2 rfl
  refine g_put dX7_build_10 fd_X7_70 (g_ftyZ (C := RX6) (T := TX6) (N := 9) rfl rfl (by decide +kernel) (by decide)) hk.2.2.2.2.2.2.1 rfl ?_
  refine g_iconst dX7_build_13 ⟨by decide, by decide⟩ ?_
  refine gw_istore (L' := [some (g_R k), some (g_R r1), some (g_R r2), some (g_I v3), some (g_I v4), some (g_I 0)]) dX7_build_14 (by decide) rfl ?_
  exact hF
theorem s_X7_build_16 {E : g_E} {l : Launch} {D : g_D} {K : g_D → Prop} {nr1 : Nat} {nr2 : Nat} {k : Nat} {r1 : Nat} {r2 : Nat} {v3 : Int} {v4 : Int} {v5 : Int} (hk : is_Script g_SH k) (hr1 : is_Cells g_SH r1 nr1) (hr2 : is_Cells g_SH r2 nr2) (hF : g_okD D → g_r v3 → g_r v4 → g_r v5 → ((D r2 1) ≤ v5 → k_X7_findOrder E l D k (fun D1 => K D1)) ∧ (¬ (D r2 1) ≤ v5 → k_X7_findRun E l D k r1 r2 v5 v4 (fun D2 => ((D2 k 9) ≤ 0 → k_X7_addCell E l D2 k v5 (fun D3 => (g_r (v5 + 1)) ∧ (n_X7_build E l D3 16 [some (g_R k), some (g_R r1), some (g_R r2), some (g_I v3), some (g_I v4), some (g_I (v5 + 1))] K))) ∧ (¬ (D2 k 9) ≤ 0 → ((D2 k 9) < v3 → k_X7_addCell E l D2 k v5 (fun D4 => (g_r (v5 + 1)) ∧ (n_X7_build E l D4 16 [some (g_R k), some (g_R r1), some (g_R r2), some (g_I v3), some (g_I v4), some (g_I (v5 + 1))] K))) ∧ (¬ (D2 k 9) < v3 → (¬ (D2 k 10) = v5 → k_X7_append E l D2 k 1 v5 (D2 k 10) (D2 k 9) (fun D5 => (g_r (v5 + (D5 k 9))) ∧ (n_X7_build E l D5 16 [some (g_R k), some (g_R r1), some (g_R r2), some (g_I v3), some (g_I v4), some (g_I (v5 + (D5 k 9)))] K))) ∧ ((D2 k 10) = v5 → k_X7_append E l D2 k 2 v5 (D2 k 10) (D2 k 9) (fun D6 => (g_r (v5 + (D6 k 9))) ∧ (n_X7_build E l D6 16 [some (g_R k), some (g_R r1), some (g_R r2), some (g_I v3), some (g_I v4), some (g_I (v5 + (D6 k 9)))] K)))))))) : n_X7_build E l D 16 [some (g_R k), some (g_R r1), some (g_R r2), some (g_I v3), some (g_I v4), some (g_I v5)] K := by
  refine g_use (fun ok => ?_)
  have hF := hF ok.2.1 (ok.loc (i := 3) rfl) (ok.loc (i := 4) rfl) (ok.loc (i := 5) rfl)
  refine g_iload dX7_build_16 rfl ?_
  refine g_aload_n dX7_build_18 rfl ?_
  refine g_getI dX7_build_19 fd_X7_53 hr2.1 rfl ?_
  refine g_cge dX7_build_22 rfl (fun q => ?_) (fun q => ?_)
  · have hF := hF.1 q
    refine g_aload_n dX7_build_102 rfl ?_
    refine gw_cVv (b := k) (As := []) (rest := []) dX7_build_103 mv_X7_86 hk.1 rfl (Nat.le_of_ble_eq_true rfl) (by decide) rfl hF ?_
    intro D1 hF
    exact gw_vret dX7_build_106 rfl hF
  · have hF := hF.2 q
    refine g_aload_n dX7_build_25 rfl ?_
    refine g_aload_n dX7_build_26 rfl ?_
    refine g_aload_n dX7_build_27 rfl ?_
    refine g_iload dX7_build_28 rfl ?_
    refine g_iload dX7_build_30 rfl ?_
    refine gw_cVv (b := k) (As := [g_R r1, g_R r2, g_I v5, g_I v4]) (rest := []) dX7_build_32 mv_X7_74 hk.1 rfl (Nat.le_of_ble_eq_true rfl) (by decide) rfl hF ?_
    intro D2 hF
    refine g_aload_n dX7_build_35 rfl ?_
    refine g_getI dX7_build_36 fd_X7_44 hk.1 rfl ?_
    refine g_ifle dX7_build_39 rfl (fun q => ?_) (fun q => ?_)
    · have hF := hF.1 q
      refine g_aload_n dX7_build_90 rfl ?_
      refine g_iload dX7_build_91 rfl ?_
      refine gw_cVv (b := k) (As := [g_I v5]) (rest := []) dX7_build_93 mv_X7_82 hk.1 rfl (Nat.le_of_ble_eq_true rfl) (by decide) rfl hF ?_
      intro D3 hF
      obtain ⟨hc, hF⟩ := hF
      refine gw_iinc (L' := [some (g_R k), some (g_R r1), some (g_R r2), some (g_I v3), some (g_I v4), some (g_I (v5 + 1))]) dX7_build_96 rfl hc (by decide) rfl ?_
      refine g_goto dX7_build_99 rfl ?_
      exact hF
    · have hF := hF.2 q
      refine g_aload_n dX7_build_42 rfl ?_
      refine g_getI dX7_build_43 fd_X7_44 hk.1 rfl ?_
      refine g_iload_n dX7_build_46 rfl ?_
      refine g_clt dX7_build_47 rfl (fun q => ?_) (fun q => ?_)
      · have hF := hF.1 q
        refine g_aload_n dX7_build_90 rfl ?_
        refine g_iload dX7_build_91 rfl ?_
        refine gw_cVv (b := k) (As := [g_I v5]) (rest := []) dX7_build_93 mv_X7_82 hk.1 rfl (Nat.le_of_ble_eq_true rfl) (by decide) rfl hF ?_
        intro D4 hF
        obtain ⟨hc, hF⟩ := hF
        refine gw_iinc (L' := [some (g_R k), some (g_R r1), some (g_R r2), some (g_I v3), some (g_I v4), some (g_I (v5 + 1))]) dX7_build_96 rfl hc (by decide) rfl ?_
        refine g_goto dX7_build_99 rfl ?_
        exact hF
      · have hF := hF.2 q
        refine g_aload_n dX7_build_50 rfl ?_
        refine g_aload_n dX7_build_51 rfl ?_
        refine g_getI dX7_build_52 fd_X7_47 hk.1 rfl ?_
        refine g_iload dX7_build_55 rfl ?_
        refine g_cne dX7_build_57 rfl (fun q => ?_) (fun q => ?_)
        · have hF := hF.1 q
          refine g_iconst dX7_build_64 ⟨by decide, by decide⟩ ?_
          refine g_iload dX7_build_65 rfl ?_
          refine g_aload_n dX7_build_67 rfl ?_
          refine g_getI dX7_build_68 fd_X7_47 hk.1 rfl ?_
          refine g_aload_n dX7_build_71 rfl ?_
          refine g_getI dX7_build_72 fd_X7_44 hk.1 rfl ?_
          refine gw_cVv (b := k) (As := [g_I 1, g_I v5, g_I (D2 k 10), g_I (D2 k 9)]) (rest := []) dX7_build_75 mv_X7_78 hk.1 rfl (Nat.le_of_ble_eq_true rfl) (by decide) rfl hF ?_
          intro D5 hF
          refine g_iload dX7_build_78 rfl ?_
          refine g_aload_n dX7_build_80 rfl ?_
          refine g_getI dX7_build_81 fd_X7_44 hk.1 rfl ?_
          obtain ⟨hc, hF⟩ := hF
          refine g_iadd dX7_build_84 hc ?_
          refine gw_istore (L' := [some (g_R k), some (g_R r1), some (g_R r2), some (g_I v3), some (g_I v4), some (g_I (v5 + (D5 k 9)))]) dX7_build_85 (by decide) rfl ?_
          refine g_goto dX7_build_87 rfl ?_
          exact hF
        · have hF := hF.2 q
          refine g_iconst dX7_build_60 ⟨by decide, by decide⟩ ?_
          refine g_goto dX7_build_61 rfl ?_
          refine g_iload dX7_build_65 rfl ?_
          refine g_aload_n dX7_build_67 rfl ?_
          refine g_getI dX7_build_68 fd_X7_47 hk.1 rfl ?_
          refine g_aload_n dX7_build_71 rfl ?_
          refine g_getI dX7_build_72 fd_X7_44 hk.1 rfl ?_
          refine gw_cVv (b := k) (As := [g_I 2, g_I v5, g_I (D2 k 10), g_I (D2 k 9)]) (rest := []) dX7_build_75 mv_X7_78 hk.1 rfl (Nat.le_of_ble_eq_true rfl) (by decide) rfl hF ?_
          intro D6 hF
          refine g_iload dX7_build_78 rfl ?_
          refine g_aload_n dX7_build_80 rfl ?_
          refine g_getI dX7_build_81 fd_X7_44 hk.1 rfl ?_
          obtain ⟨hc, hF⟩ := hF
          refine g_iadd dX7_build_84 hc ?_
          refine gw_istore (L' := [some (g_R k), some (g_R r1), some (g_R r2), some (g_I v3), some (g_I v4), some (g_I (v5 + (D6 k 9)))]) dX7_build_85 (by decide) rfl ?_
          refine g_goto dX7_build_87 rfl ?_
          exact hF
theorem dX7_writers_0 : decode cX7_writers 0 = .ok (.iconst 0, 1) := by decide +kernel
theorem dX7_writers_1 : decode cX7_writers 1 = .ok (.istore_n 1, 1) := by decide +kernel
theorem dX7_writers_2 : decode cX7_writers 2 = .ok (.iconst 0, 1) := by decide +kernel
theorem dX7_writers_3 : decode cX7_writers 3 = .ok (.istore_n 2, 1) := by decide +kernel
theorem dX7_writers_4 : decode cX7_writers 4 = .ok (.iload_n 2, 1) := by decide +kernel
theorem dX7_writers_5 : decode cX7_writers 5 = .ok (.aload_n 0, 1) := by decide +kernel
theorem dX7_writers_6 : decode cX7_writers 6 = .ok (.getfield 40, 3) := by decide +kernel
theorem dX7_writers_9 : decode cX7_writers 9 = .ok (.if_icmp .ge 25, 3) := by decide +kernel
theorem dX7_writers_12 : decode cX7_writers 12 = .ok (.aload_n 0, 1) := by decide +kernel
theorem dX7_writers_13 : decode cX7_writers 13 = .ok (.getfield 9, 3) := by decide +kernel
theorem dX7_writers_16 : decode cX7_writers 16 = .ok (.iload_n 2, 1) := by decide +kernel
theorem dX7_writers_17 : decode cX7_writers 17 = .ok (.iaload, 1) := by decide +kernel
theorem dX7_writers_18 : decode cX7_writers 18 = .ok (.iconst 2, 1) := by decide +kernel
theorem dX7_writers_19 : decode cX7_writers 19 = .ok (.if_icmp .eq 9, 3) := by decide +kernel
theorem dX7_writers_22 : decode cX7_writers 22 = .ok (.iload_n 1, 1) := by decide +kernel
theorem dX7_writers_23 : decode cX7_writers 23 = .ok (.iconst 1, 1) := by decide +kernel
theorem dX7_writers_24 : decode cX7_writers 24 = .ok (.iload_n 2, 1) := by decide +kernel
theorem dX7_writers_25 : decode cX7_writers 25 = .ok (.ishl, 1) := by decide +kernel
theorem dX7_writers_26 : decode cX7_writers 26 = .ok (.ior, 1) := by decide +kernel
theorem dX7_writers_27 : decode cX7_writers 27 = .ok (.istore_n 1, 1) := by decide +kernel
theorem dX7_writers_28 : decode cX7_writers 28 = .ok (.iinc 2 1, 3) := by decide +kernel
theorem dX7_writers_31 : decode cX7_writers 31 = .ok (.goto (-27), 3) := by decide +kernel
theorem dX7_writers_34 : decode cX7_writers 34 = .ok (.iload_n 1, 1) := by decide +kernel
theorem dX7_writers_35 : decode cX7_writers 35 = .ok (.ireturn, 1) := by decide +kernel
abbrev k_X7_writers (E : g_E) (l : Launch) (D : g_D) (k : Nat) (K : Int → g_D → Prop) : Prop := g_Ki E l m_X7_writers 0 [g_R k] g_SH D K
abbrev n_X7_writers (E : g_E) (l : Launch) (D : g_D) (pc : Nat) (L : List (Option g_V)) (K : Int → g_D → Prop) : Prop := g_N E l m_X7_writers 0 pc L [] g_SH D (g_Ri g_SH K)
theorem s_X7_writers {E : g_E} {l : Launch} {D : g_D} {K : Int → g_D → Prop} {k : Nat} (hk : is_Script g_SH k) (hF : g_okD D → n_X7_writers E l D 4 [some (g_R k), some (g_I 0), some (g_I 0)] K) : k_X7_writers E l D k K := by
  refine g_enter (by decide) (Nat.le_of_ble_eq_true rfl) ?_
  show g_N E l m_X7_writers 0 0 [some (g_R k), none, none] [] g_SH D (g_Ri g_SH K)
  refine g_use (fun ok => ?_)
  have hF := hF ok.2.1
  refine g_iconst dX7_writers_0 ⟨by decide, by decide⟩ ?_
  refine gw_istore_n (L' := [some (g_R k), some (g_I 0), none]) dX7_writers_1 (by decide) rfl ?_
  refine g_iconst dX7_writers_2 ⟨by decide, by decide⟩ ?_
  refine gw_istore_n (L' := [some (g_R k), some (g_I 0), some (g_I 0)]) dX7_writers_3 (by decide) rfl ?_
  exact hF
theorem s_X7_writers_4 {E : g_E} {l : Launch} {D : g_D} {K : Int → g_D → Prop} {k : Nat} {v1 : Int} {v2 : Int} (hk : is_Script g_SH k) (hF : g_okD D → g_r v1 → g_r v2 → ((D k 8) ≤ v2 → K v1 D) ∧ (¬ (D k 8) ≤ v2 → (0 ≤ v2 ∧ v2 < 20) ∧ (((D (k + 1) v2.toNat) = 2 → (g_r (v2 + 1)) ∧ (n_X7_writers E l D 4 [some (g_R k), some (g_I v1), some (g_I (v2 + 1))] K)) ∧ (¬ (D (k + 1) v2.toNat) = 2 → (g_r (v2 + 1)) ∧ (n_X7_writers E l D 4 [some (g_R k), some (g_I (g_or v1 (g_shl 1 v2))), some (g_I (v2 + 1))] K))))) : n_X7_writers E l D 4 [some (g_R k), some (g_I v1), some (g_I v2)] K := by
  refine g_use (fun ok => ?_)
  have hF := hF ok.2.1 (ok.loc (i := 1) rfl) (ok.loc (i := 2) rfl)
  refine g_iload_n dX7_writers_4 rfl ?_
  refine g_aload_n dX7_writers_5 rfl ?_
  refine g_getI dX7_writers_6 fd_X7_40 hk.1 rfl ?_
  refine g_cge dX7_writers_9 rfl (fun q => ?_) (fun q => ?_)
  · have hF := hF.1 q
    refine g_iload_n dX7_writers_34 rfl ?_
    exact gw_iret dX7_writers_35 rfl hF
  · have hF := hF.2 q
    refine g_aload_n dX7_writers_12 rfl ?_
    refine g_getR dX7_writers_13 fd_X7_9 hk.1 rfl ?_
    refine g_iload_n dX7_writers_16 rfl ?_
    obtain ⟨hc, hF⟩ := hF
    refine g_iald dX7_writers_17 hk.2.1 hc.1 hc.2 ?_
    refine g_iconst dX7_writers_18 ⟨by decide, by decide⟩ ?_
    refine g_ceq dX7_writers_19 rfl (fun q => ?_) (fun q => ?_)
    · have hF := hF.1 q
      obtain ⟨hc, hF⟩ := hF
      refine gw_iinc (L' := [some (g_R k), some (g_I v1), some (g_I (v2 + 1))]) dX7_writers_28 rfl hc (by decide) rfl ?_
      refine g_goto dX7_writers_31 rfl ?_
      exact hF
    · have hF := hF.2 q
      refine g_iload_n dX7_writers_22 rfl ?_
      refine g_iconst dX7_writers_23 ⟨by decide, by decide⟩ ?_
      refine g_iload_n dX7_writers_24 rfl ?_
      refine g_ishl dX7_writers_25 ?_
      refine g_ior dX7_writers_26 ?_
      refine gw_istore_n (L' := [some (g_R k), some (g_I (g_or v1 (g_shl 1 v2))), some (g_I v2)]) dX7_writers_27 (by decide) rfl ?_
      obtain ⟨hc, hF⟩ := hF
      refine gw_iinc (L' := [some (g_R k), some (g_I (g_or v1 (g_shl 1 v2))), some (g_I (v2 + 1))]) dX7_writers_28 rfl hc (by decide) rfl ?_
      refine g_goto dX7_writers_31 rfl ?_
      exact hF
theorem dX7_movers_0 : decode cX7_movers 0 = .ok (.iconst 0, 1) := by decide +kernel
theorem dX7_movers_1 : decode cX7_movers 1 = .ok (.istore_n 1, 1) := by decide +kernel
theorem dX7_movers_2 : decode cX7_movers 2 = .ok (.iconst 0, 1) := by decide +kernel
theorem dX7_movers_3 : decode cX7_movers 3 = .ok (.istore_n 2, 1) := by decide +kernel
theorem dX7_movers_4 : decode cX7_movers 4 = .ok (.iload_n 2, 1) := by decide +kernel
theorem dX7_movers_5 : decode cX7_movers 5 = .ok (.aload_n 0, 1) := by decide +kernel
theorem dX7_movers_6 : decode cX7_movers 6 = .ok (.getfield 40, 3) := by decide +kernel
theorem dX7_movers_9 : decode cX7_movers 9 = .ok (.if_icmp .ge 25, 3) := by decide +kernel
theorem dX7_movers_12 : decode cX7_movers 12 = .ok (.aload_n 0, 1) := by decide +kernel
theorem dX7_movers_13 : decode cX7_movers 13 = .ok (.getfield 9, 3) := by decide +kernel
theorem dX7_movers_16 : decode cX7_movers 16 = .ok (.iload_n 2, 1) := by decide +kernel
theorem dX7_movers_17 : decode cX7_movers 17 = .ok (.iaload, 1) := by decide +kernel
theorem dX7_movers_18 : decode cX7_movers 18 = .ok (.iconst 1, 1) := by decide +kernel
theorem dX7_movers_19 : decode cX7_movers 19 = .ok (.if_icmp .ne 9, 3) := by decide +kernel
theorem dX7_movers_22 : decode cX7_movers 22 = .ok (.iload_n 1, 1) := by decide +kernel
theorem dX7_movers_23 : decode cX7_movers 23 = .ok (.iconst 1, 1) := by decide +kernel
theorem dX7_movers_24 : decode cX7_movers 24 = .ok (.iload_n 2, 1) := by decide +kernel
theorem dX7_movers_25 : decode cX7_movers 25 = .ok (.ishl, 1) := by decide +kernel
theorem dX7_movers_26 : decode cX7_movers 26 = .ok (.ior, 1) := by decide +kernel
theorem dX7_movers_27 : decode cX7_movers 27 = .ok (.istore_n 1, 1) := by decide +kernel
theorem dX7_movers_28 : decode cX7_movers 28 = .ok (.iinc 2 1, 3) := by decide +kernel
theorem dX7_movers_31 : decode cX7_movers 31 = .ok (.goto (-27), 3) := by decide +kernel
theorem dX7_movers_34 : decode cX7_movers 34 = .ok (.iload_n 1, 1) := by decide +kernel
theorem dX7_movers_35 : decode cX7_movers 35 = .ok (.ireturn, 1) := by decide +kernel
abbrev k_X7_movers (E : g_E) (l : Launch) (D : g_D) (k : Nat) (K : Int → g_D → Prop) : Prop := g_Ki E l m_X7_movers 0 [g_R k] g_SH D K
abbrev n_X7_movers (E : g_E) (l : Launch) (D : g_D) (pc : Nat) (L : List (Option g_V)) (K : Int → g_D → Prop) : Prop := g_N E l m_X7_movers 0 pc L [] g_SH D (g_Ri g_SH K)
theorem s_X7_movers {E : g_E} {l : Launch} {D : g_D} {K : Int → g_D → Prop} {k : Nat} (hk : is_Script g_SH k) (hF : g_okD D → n_X7_movers E l D 4 [some (g_R k), some (g_I 0), some (g_I 0)] K) : k_X7_movers E l D k K := by
  refine g_enter (by decide) (Nat.le_of_ble_eq_true rfl) ?_
  show g_N E l m_X7_movers 0 0 [some (g_R k), none, none] [] g_SH D (g_Ri g_SH K)
  refine g_use (fun ok => ?_)
  have hF := hF ok.2.1
  refine g_iconst dX7_movers_0 ⟨by decide, by decide⟩ ?_
  refine gw_istore_n (L' := [some (g_R k), some (g_I 0), none]) dX7_movers_1 (by decide) rfl ?_
  refine g_iconst dX7_movers_2 ⟨by decide, by decide⟩ ?_
  refine gw_istore_n (L' := [some (g_R k), some (g_I 0), some (g_I 0)]) dX7_movers_3 (by decide) rfl ?_
  exact hF
theorem s_X7_movers_4 {E : g_E} {l : Launch} {D : g_D} {K : Int → g_D → Prop} {k : Nat} {v1 : Int} {v2 : Int} (hk : is_Script g_SH k) (hF : g_okD D → g_r v1 → g_r v2 → ((D k 8) ≤ v2 → K v1 D) ∧ (¬ (D k 8) ≤ v2 → (0 ≤ v2 ∧ v2 < 20) ∧ ((¬ (D (k + 1) v2.toNat) = 1 → (g_r (v2 + 1)) ∧ (n_X7_movers E l D 4 [some (g_R k), some (g_I v1), some (g_I (v2 + 1))] K)) ∧ ((D (k + 1) v2.toNat) = 1 → (g_r (v2 + 1)) ∧ (n_X7_movers E l D 4 [some (g_R k), some (g_I (g_or v1 (g_shl 1 v2))), some (g_I (v2 + 1))] K))))) : n_X7_movers E l D 4 [some (g_R k), some (g_I v1), some (g_I v2)] K := by
  refine g_use (fun ok => ?_)
  have hF := hF ok.2.1 (ok.loc (i := 1) rfl) (ok.loc (i := 2) rfl)
  refine g_iload_n dX7_movers_4 rfl ?_
  refine g_aload_n dX7_movers_5 rfl ?_
  refine g_getI dX7_movers_6 fd_X7_40 hk.1 rfl ?_
  refine g_cge dX7_movers_9 rfl (fun q => ?_) (fun q => ?_)
  · have hF := hF.1 q
    refine g_iload_n dX7_movers_34 rfl ?_
    exact gw_iret dX7_movers_35 rfl hF
  · have hF := hF.2 q
    refine g_aload_n dX7_movers_12 rfl ?_
    refine g_getR dX7_movers_13 fd_X7_9 hk.1 rfl ?_
    refine g_iload_n dX7_movers_16 rfl ?_
    obtain ⟨hc, hF⟩ := hF
    refine g_iald dX7_movers_17 hk.2.1 hc.1 hc.2 ?_
    refine g_iconst dX7_movers_18 ⟨by decide, by decide⟩ ?_
    refine g_cne dX7_movers_19 rfl (fun q => ?_) (fun q => ?_)
    · have hF := hF.1 q
      obtain ⟨hc, hF⟩ := hF
      refine gw_iinc (L' := [some (g_R k), some (g_I v1), some (g_I (v2 + 1))]) dX7_movers_28 rfl hc (by decide) rfl ?_
      refine g_goto dX7_movers_31 rfl ?_
      exact hF
    · have hF := hF.2 q
      refine g_iload_n dX7_movers_22 rfl ?_
      refine g_iconst dX7_movers_23 ⟨by decide, by decide⟩ ?_
      refine g_iload_n dX7_movers_24 rfl ?_
      refine g_ishl dX7_movers_25 ?_
      refine g_ior dX7_movers_26 ?_
      refine gw_istore_n (L' := [some (g_R k), some (g_I (g_or v1 (g_shl 1 v2))), some (g_I v2)]) dX7_movers_27 (by decide) rfl ?_
      obtain ⟨hc, hF⟩ := hF
      refine gw_iinc (L' := [some (g_R k), some (g_I (g_or v1 (g_shl 1 v2))), some (g_I (v2 + 1))]) dX7_movers_28 rfl hc (by decide) rfl ?_
      refine g_goto dX7_movers_31 rfl ?_
      exact hF
theorem dX6_members_0 : decode cX6_members 0 = .ok (.iconst 0, 1) := by decide +kernel
theorem dX6_members_1 : decode cX6_members 1 = .ok (.istore_n 3, 1) := by decide +kernel
theorem dX6_members_2 : decode cX6_members 2 = .ok (.iload_n 3, 1) := by decide +kernel
theorem dX6_members_3 : decode cX6_members 3 = .ok (.bipush 20, 2) := by decide +kernel
theorem dX6_members_5 : decode cX6_members 5 = .ok (.if_icmp .ge 32, 3) := by decide +kernel
theorem dX6_members_8 : decode cX6_members 8 = .ok (.aload_n 0, 1) := by decide +kernel
theorem dX6_members_9 : decode cX6_members 9 = .ok (.getfield 9, 3) := by decide +kernel
theorem dX6_members_12 : decode cX6_members 12 = .ok (.iload_n 3, 1) := by decide +kernel
theorem dX6_members_13 : decode cX6_members 13 = .ok (.iload_n 2, 1) := by decide +kernel
theorem dX6_members_14 : decode cX6_members 14 = .ok (.iload_n 3, 1) := by decide +kernel
theorem dX6_members_15 : decode cX6_members 15 = .ok (.invokestatic 21, 3) := by decide +kernel
theorem dX6_members_18 : decode cX6_members 18 = .ok (.ifCond .eq 11, 3) := by decide +kernel
theorem dX6_members_21 : decode cX6_members 21 = .ok (.aload_n 1, 1) := by decide +kernel
theorem dX6_members_22 : decode cX6_members 22 = .ok (.iload_n 3, 1) := by decide +kernel
theorem dX6_members_23 : decode cX6_members 23 = .ok (.iaload, 1) := by decide +kernel
theorem dX6_members_24 : decode cX6_members 24 = .ok (.iload_n 2, 1) := by decide +kernel
theorem dX6_members_25 : decode cX6_members 25 = .ok (.iand, 1) := by decide +kernel
theorem dX6_members_26 : decode cX6_members 26 = .ok (.goto 4, 3) := by decide +kernel
theorem dX6_members_29 : decode cX6_members 29 = .ok (.iconst 0, 1) := by decide +kernel
theorem dX6_members_30 : decode cX6_members 30 = .ok (.iastore, 1) := by decide +kernel
theorem dX6_members_31 : decode cX6_members 31 = .ok (.iinc 3 1, 3) := by decide +kernel
theorem dX6_members_34 : decode cX6_members 34 = .ok (.goto (-32), 3) := by decide +kernel
theorem dX6_members_37 : decode cX6_members 37 = .ok (.iconst 0, 1) := by decide +kernel
theorem dX6_members_38 : decode cX6_members 38 = .ok (.istore_n 3, 1) := by decide +kernel
theorem dX6_members_39 : decode cX6_members 39 = .ok (.iload_n 3, 1) := by decide +kernel
theorem dX6_members_40 : decode cX6_members 40 = .ok (.bipush 20, 2) := by decide +kernel
theorem dX6_members_42 : decode cX6_members 42 = .ok (.if_icmp .ge 64, 3) := by decide +kernel
theorem dX6_members_45 : decode cX6_members 45 = .ok (.iconst 0, 1) := by decide +kernel
theorem dX6_members_46 : decode cX6_members 46 = .ok (.istore 4, 2) := by decide +kernel
theorem dX6_members_48 : decode cX6_members 48 = .ok (.iload 4, 2) := by decide +kernel
theorem dX6_members_50 : decode cX6_members 50 = .ok (.bipush 20, 2) := by decide +kernel
theorem dX6_members_52 : decode cX6_members 52 = .ok (.if_icmp .ge 48, 3) := by decide +kernel
theorem dX6_members_55 : decode cX6_members 55 = .ok (.aload_n 0, 1) := by decide +kernel
theorem dX6_members_56 : decode cX6_members 56 = .ok (.getfield 9, 3) := by decide +kernel
theorem dX6_members_59 : decode cX6_members 59 = .ok (.iload_n 3, 1) := by decide +kernel
theorem dX6_members_60 : decode cX6_members 60 = .ok (.iaload, 1) := by decide +kernel
theorem dX6_members_61 : decode cX6_members 61 = .ok (.ifCond .eq 39, 3) := by decide +kernel
theorem dX6_members_64 : decode cX6_members 64 = .ok (.aload_n 0, 1) := by decide +kernel
theorem dX6_members_65 : decode cX6_members 65 = .ok (.getfield 9, 3) := by decide +kernel
theorem dX6_members_68 : decode cX6_members 68 = .ok (.iload 4, 2) := by decide +kernel
theorem dX6_members_70 : decode cX6_members 70 = .ok (.iaload, 1) := by decide +kernel
theorem dX6_members_71 : decode cX6_members 71 = .ok (.iload_n 3, 1) := by decide +kernel
theorem dX6_members_72 : decode cX6_members 72 = .ok (.invokestatic 21, 3) := by decide +kernel
theorem dX6_members_75 : decode cX6_members 75 = .ok (.ifCond .eq 19, 3) := by decide +kernel
theorem dX6_members_78 : decode cX6_members 78 = .ok (.aload_n 0, 1) := by decide +kernel
theorem dX6_members_79 : decode cX6_members 79 = .ok (.getfield 9, 3) := by decide +kernel
theorem dX6_members_82 : decode cX6_members 82 = .ok (.iload 4, 2) := by decide +kernel
theorem dX6_members_84 : decode cX6_members 84 = .ok (.dup2, 1) := by decide +kernel
theorem dX6_members_85 : decode cX6_members 85 = .ok (.iaload, 1) := by decide +kernel
theorem dX6_members_86 : decode cX6_members 86 = .ok (.aload_n 0, 1) := by decide +kernel
theorem dX6_members_87 : decode cX6_members 87 = .ok (.getfield 9, 3) := by decide +kernel
theorem dX6_members_90 : decode cX6_members 90 = .ok (.iload_n 3, 1) := by decide +kernel
theorem dX6_members_91 : decode cX6_members 91 = .ok (.iaload, 1) := by decide +kernel
theorem dX6_members_92 : decode cX6_members 92 = .ok (.ior, 1) := by decide +kernel
theorem dX6_members_93 : decode cX6_members 93 = .ok (.iastore, 1) := by decide +kernel
theorem dX6_members_94 : decode cX6_members 94 = .ok (.iinc 4 1, 3) := by decide +kernel
theorem dX6_members_97 : decode cX6_members 97 = .ok (.goto (-49), 3) := by decide +kernel
theorem dX6_members_100 : decode cX6_members 100 = .ok (.iinc 3 1, 3) := by decide +kernel
theorem dX6_members_103 : decode cX6_members 103 = .ok (.goto (-64), 3) := by decide +kernel
theorem dX6_members_106 : decode cX6_members 106 = .ok (.iconst 0, 1) := by decide +kernel
theorem dX6_members_107 : decode cX6_members 107 = .ok (.istore_n 3, 1) := by decide +kernel
theorem dX6_members_108 : decode cX6_members 108 = .ok (.iconst 0, 1) := by decide +kernel
theorem dX6_members_109 : decode cX6_members 109 = .ok (.istore 4, 2) := by decide +kernel
theorem dX6_members_111 : decode cX6_members 111 = .ok (.iload 4, 2) := by decide +kernel
theorem dX6_members_113 : decode cX6_members 113 = .ok (.bipush 20, 2) := by decide +kernel
theorem dX6_members_115 : decode cX6_members 115 = .ok (.if_icmp .ge 24, 3) := by decide +kernel
theorem dX6_members_118 : decode cX6_members 118 = .ok (.iload_n 3, 1) := by decide +kernel
theorem dX6_members_119 : decode cX6_members 119 = .ok (.aload_n 0, 1) := by decide +kernel
theorem dX6_members_120 : decode cX6_members 120 = .ok (.getfield 9, 3) := by decide +kernel
theorem dX6_members_123 : decode cX6_members 123 = .ok (.iload 4, 2) := by decide +kernel
theorem dX6_members_125 : decode cX6_members 125 = .ok (.iaload, 1) := by decide +kernel
theorem dX6_members_126 : decode cX6_members 126 = .ok (.iconst 1, 1) := by decide +kernel
theorem dX6_members_127 : decode cX6_members 127 = .ok (.iload 4, 2) := by decide +kernel
theorem dX6_members_129 : decode cX6_members 129 = .ok (.ishl, 1) := by decide +kernel
theorem dX6_members_130 : decode cX6_members 130 = .ok (.iand, 1) := by decide +kernel
theorem dX6_members_131 : decode cX6_members 131 = .ok (.ior, 1) := by decide +kernel
theorem dX6_members_132 : decode cX6_members 132 = .ok (.istore_n 3, 1) := by decide +kernel
theorem dX6_members_133 : decode cX6_members 133 = .ok (.iinc 4 1, 3) := by decide +kernel
theorem dX6_members_136 : decode cX6_members 136 = .ok (.goto (-25), 3) := by decide +kernel
theorem dX6_members_139 : decode cX6_members 139 = .ok (.iload_n 3, 1) := by decide +kernel
theorem dX6_members_140 : decode cX6_members 140 = .ok (.ireturn, 1) := by decide +kernel
abbrev k_X6_members (E : g_E) (l : Launch) (D : g_D) (k : Nat) (r1 : Nat) (v2 : Int) (K : Int → g_D → Prop) : Prop := g_Ki E l m_X6_members 1 [g_R k, g_R r1, g_I v2] g_SH D K
abbrev n_X6_members (E : g_E) (l : Launch) (D : g_D) (pc : Nat) (L : List (Option g_V)) (K : Int → g_D → Prop) : Prop := g_N E l m_X6_members 1 pc L [] g_SH D (g_Ri g_SH K)
theorem s_X6_members {E : g_E} {l : Launch} {D : g_D} {K : Int → g_D → Prop} {n1 : Nat} {k : Nat} {r1 : Nat} {v2 : Int} (hk : is_Rings g_SH k) (hr1 : g_SH[r1]? = some (.inl (0, n1))) (hF : g_okD D → g_r v2 → n_X6_members E l D 2 [some (g_R k), some (g_R r1), some (g_I v2), some (g_I 0), none] K) : k_X6_members E l D k r1 v2 K := by
  refine g_enter (by decide) (Nat.le_of_ble_eq_true rfl) ?_
  show g_N E l m_X6_members 1 0 [some (g_R k), some (g_R r1), some (g_I v2), none, none] [] g_SH D (g_Ri g_SH K)
  refine g_use (fun ok => ?_)
  have hF := hF ok.2.1 (ok.loc (i := 2) rfl)
  refine g_iconst dX6_members_0 ⟨by decide, by decide⟩ ?_
  refine gw_istore_n (L' := [some (g_R k), some (g_R r1), some (g_I v2), some (g_I 0), none]) dX6_members_1 (by decide) rfl ?_
  exact hF
theorem s_X6_members_2 {E : g_E} {l : Launch} {D : g_D} {K : Int → g_D → Prop} {n1 : Nat} {k : Nat} {r1 : Nat} {v2 : Int} {v3 : Int} (hk : is_Rings g_SH k) (hr1 : g_SH[r1]? = some (.inl (0, n1))) (hF : g_okD D → g_r v2 → g_r v3 → (20 ≤ v3 → n_X6_members E l D 39 [some (g_R k), none, none, some (g_I 0), none] K) ∧ (¬ 20 ≤ v3 → k_X11_hasBit E l g_SH D v2 v3 (fun x1 D1 => g_r x1 → (x1 = 0 → (0 ≤ v3 ∧ v3 < 20) ∧ (∀ D2, D2 = g_up D1 (k + 1) v3.toNat 0 → ((g_r (v3 + 1)) ∧ (n_X6_members E l D2 2 [some (g_R k), some (g_R r1), some (g_I v2), some (g_I (v3 + 1)), none] K)))) ∧ (¬ x1 = 0 → (0 ≤ v3 ∧ v3 < n1) ∧ ((0 ≤ v3 ∧ v3 < 20) ∧ (∀ D3, D3 = g_up D1 (k + 1) v3.toNat (g_and (D1 r1 v3.toNat) v2) → ((g_r (v3 + 1)) ∧ (n_X6_members E l D3 2 [some (g_R k), some (g_R r1), some (g_I v2), some (g_I (v3 + 1)), none] K)))))))) : n_X6_members E l D 2 [some (g_R k), some (g_R r1), some (g_I v2), some (g_I v3), none] K := by
  refine g_use (fun ok => ?_)
  have hF := hF ok.2.1 (ok.loc (i := 2) rfl) (ok.loc (i := 3) rfl)
  refine g_iload_n dX6_members_2 rfl ?_
  refine g_bipush dX6_members_3 ⟨by decide, by decide⟩ ?_
  refine g_cge dX6_members_5 rfl (fun q => ?_) (fun q => ?_)
  · have hF := hF.1 q
    refine g_iconst dX6_members_37 ⟨by decide, by decide⟩ ?_
    refine gw_istore_n (L' := [some (g_R k), some (g_R r1), some (g_I v2), some (g_I 0), none]) dX6_members_38 (by decide) rfl ?_
    exact g_forget (L' := [some (g_R k), none, none, some (g_I 0), none]) ⟨rfl, ⟨rfl, trivial⟩⟩ hF
  · have hF := hF.2 q
    refine g_aload_n dX6_members_8 rfl ?_
    refine g_getR dX6_members_9 fd_X6_9 hk.1 rfl ?_
    refine g_iload_n dX6_members_12 rfl ?_
    refine g_iload_n dX6_members_13 rfl ?_
    refine g_iload_n dX6_members_14 rfl ?_
    refine gw_cNi (As := [g_I v2, g_I v3]) (rest := [g_I v3, g_R (k + 1)]) dX6_members_15 mn_X6_21 rfl (Nat.le_of_ble_eq_true rfl) (by decide) rfl hF ?_
    intro x1 D1 hx1 hF
    have hF := hF hx1
    refine g_ifeq dX6_members_18 rfl (fun q => ?_) (fun q => ?_)
    · have hF := hF.1 q
      refine g_iconst dX6_members_29 ⟨by decide, by decide⟩ ?_
      obtain ⟨hc, hF⟩ := hF
      let D2 : g_D := g_up D1 (k + 1) v3.toNat 0
      have hF := hF D2 rfl
      refine g_iast dX6_members_30 hk.2.1 hc.1 hc.2 ?_
      obtain ⟨hc, hF⟩ := hF
      refine gw_iinc (L' := [some (g_R k), some (g_R r1), some (g_I v2), some (g_I (v3 + 1)), none]) dX6_members_31 rfl hc (by decide) rfl ?_
      refine g_goto dX6_members_34 rfl ?_
      exact hF
    · have hF := hF.2 q
      refine g_aload_n dX6_members_21 rfl ?_
      refine g_iload_n dX6_members_22 rfl ?_
      obtain ⟨hc, hF⟩ := hF
      refine g_iald dX6_members_23 hr1 hc.1 hc.2 ?_
      refine g_iload_n dX6_members_24 rfl ?_
      refine g_iand dX6_members_25 ?_
      refine g_goto dX6_members_26 rfl ?_
      obtain ⟨hc, hF⟩ := hF
      let D3 : g_D := g_up D1 (k + 1) v3.toNat (g_and (D1 r1 v3.toNat) v2)
      have hF := hF D3 rfl
      refine g_iast dX6_members_30 hk.2.1 hc.1 hc.2 ?_
      obtain ⟨hc, hF⟩ := hF
      refine gw_iinc (L' := [some (g_R k), some (g_R r1), some (g_I v2), some (g_I (v3 + 1)), none]) dX6_members_31 rfl hc (by decide) rfl ?_
      refine g_goto dX6_members_34 rfl ?_
      exact hF
theorem s_X6_members_39 {E : g_E} {l : Launch} {D : g_D} {K : Int → g_D → Prop} {n1 : Nat} {k : Nat} {r1 : Nat} {v3 : Int} (hk : is_Rings g_SH k) (hr1 : g_SH[r1]? = some (.inl (0, n1))) (hF : g_okD D → g_r v3 → (20 ≤ v3 → n_X6_members E l D 111 [some (g_R k), none, none, some (g_I 0), some (g_I 0)] K) ∧ (¬ 20 ≤ v3 → n_X6_members E l D 48 [some (g_R k), none, none, some (g_I v3), some (g_I 0)] K)) : n_X6_members E l D 39 [some (g_R k), none, none, some (g_I v3), none] K := by
  refine g_use (fun ok => ?_)
  have hF := hF ok.2.1 (ok.loc (i := 3) rfl)
  refine g_iload_n dX6_members_39 rfl ?_
  refine g_bipush dX6_members_40 ⟨by decide, by decide⟩ ?_
  refine g_cge dX6_members_42 rfl (fun q => ?_) (fun q => ?_)
  · have hF := hF.1 q
    refine g_iconst dX6_members_106 ⟨by decide, by decide⟩ ?_
    refine gw_istore_n (L' := [some (g_R k), none, none, some (g_I 0), none]) dX6_members_107 (by decide) rfl ?_
    refine g_iconst dX6_members_108 ⟨by decide, by decide⟩ ?_
    refine gw_istore (L' := [some (g_R k), none, none, some (g_I 0), some (g_I 0)]) dX6_members_109 (by decide) rfl ?_
    exact hF
  · have hF := hF.2 q
    refine g_iconst dX6_members_45 ⟨by decide, by decide⟩ ?_
    refine gw_istore (L' := [some (g_R k), none, none, some (g_I v3), some (g_I 0)]) dX6_members_46 (by decide) rfl ?_
    exact hF
theorem s_X6_members_48 {E : g_E} {l : Launch} {D : g_D} {K : Int → g_D → Prop} {n1 : Nat} {k : Nat} {r1 : Nat} {v3 : Int} {v4 : Int} (hk : is_Rings g_SH k) (hr1 : g_SH[r1]? = some (.inl (0, n1))) (hF : g_okD D → g_r v3 → g_r v4 → (20 ≤ v4 → (g_r (v3 + 1)) ∧ (n_X6_members E l D 39 [some (g_R k), none, none, some (g_I (v3 + 1)), none] K)) ∧ (¬ 20 ≤ v4 → (0 ≤ v3 ∧ v3 < 20) ∧ (((D (k + 1) v3.toNat) = 0 → (g_r (v3 + 1)) ∧ (n_X6_members E l D 39 [some (g_R k), none, none, some (g_I (v3 + 1)), none] K)) ∧ (¬ (D (k + 1) v3.toNat) = 0 → (0 ≤ v4 ∧ v4 < 20) ∧ (k_X11_hasBit E l g_SH D (D (k + 1) v4.toNat) v3 (fun x1 D1 => g_r x1 → (x1 = 0 → (g_r (v4 + 1)) ∧ (n_X6_members E l D1 48 [some (g_R k), none, none, some (g_I v3), some (g_I (v4 + 1))] K)) ∧ (¬ x1 = 0 → (0 ≤ v4 ∧ v4 < 20) ∧ ((0 ≤ v3 ∧ v3 < 20) ∧ ((0 ≤ v4 ∧ v4 < 20) ∧ (∀ D2, D2 = g_up D1 (k + 1) v4.toNat (g_or (D1 (k + 1) v4.toNat) (D1 (k + 1) v3.toNat)) → ((g_r (v4 + 1)) ∧ (n_X6_members E l D2 48 [some (g_R k), none, none, some (g_I v3), some (g_I (v4 + 1))] K)))))))))))) : n_X6_members E l D 48 [some (g_R k), none, none, some (g_I v3), some (g_I v4)] K := by
  refine g_use (fun ok => ?_)
  have hF := hF ok.2.1 (ok.loc (i := 3) rfl) (ok.loc (i := 4) rfl)
  refine g_iload dX6_members_48 rfl ?_
  refine g_bipush dX6_members_50 ⟨by decide, by decide⟩ ?_
  refine g_cge dX6_members_52 rfl (fun q => ?_) (fun q => ?_)
  · have hF := hF.1 q
    obtain ⟨hc, hF⟩ := hF
    refine gw_iinc (L' := [some (g_R k), none, none, some (g_I (v3 + 1)), some (g_I v4)]) dX6_members_100 rfl hc (by decide) rfl ?_
    refine g_goto dX6_members_103 rfl ?_
    exact g_forget (L' := [some (g_R k), none, none, some (g_I (v3 + 1)), none]) ⟨rfl, ⟨rfl, trivial⟩⟩ hF
  · have hF := hF.2 q
    refine g_aload_n dX6_members_55 rfl ?_
    refine g_getR dX6_members_56 fd_X6_9 hk.1 rfl ?_
    refine g_iload_n dX6_members_59 rfl ?_
    obtain ⟨hc, hF⟩ := hF
    refine g_iald dX6_members_60 hk.2.1 hc.1 hc.2 ?_
    refine g_ifeq dX6_members_61 rfl (fun q => ?_) (fun q => ?_)
    · have hF := hF.1 q
      obtain ⟨hc, hF⟩ := hF
      refine gw_iinc (L' := [some (g_R k), none, none, some (g_I (v3 + 1)), some (g_I v4)]) dX6_members_100 rfl hc (by decide) rfl ?_
      refine g_goto dX6_members_103 rfl ?_
      exact g_forget (L' := [some (g_R k), none, none, some (g_I (v3 + 1)), none]) ⟨rfl, ⟨rfl, trivial⟩⟩ hF
    · have hF := hF.2 q
      refine g_aload_n dX6_members_64 rfl ?_
      refine g_getR dX6_members_65 fd_X6_9 hk.1 rfl ?_
      refine g_iload dX6_members_68 rfl ?_
      obtain ⟨hc, hF⟩ := hF
      refine g_iald dX6_members_70 hk.2.1 hc.1 hc.2 ?_
      refine g_iload_n dX6_members_71 rfl ?_
      refine gw_cNi (As := [g_I (D (k + 1) v4.toNat), g_I v3]) (rest := []) dX6_members_72 mn_X6_21 rfl (Nat.le_of_ble_eq_true rfl) (by decide) rfl hF ?_
      intro x1 D1 hx1 hF
      have hF := hF hx1
      refine g_ifeq dX6_members_75 rfl (fun q => ?_) (fun q => ?_)
      · have hF := hF.1 q
        obtain ⟨hc, hF⟩ := hF
        refine gw_iinc (L' := [some (g_R k), none, none, some (g_I v3), some (g_I (v4 + 1))]) dX6_members_94 rfl hc (by decide) rfl ?_
        refine g_goto dX6_members_97 rfl ?_
        exact hF
      · have hF := hF.2 q
        refine g_aload_n dX6_members_78 rfl ?_
        refine g_getR dX6_members_79 fd_X6_9 hk.1 rfl ?_
        refine g_iload dX6_members_82 rfl ?_
        refine g_dup2 dX6_members_84 rfl rfl ?_
        obtain ⟨hc, hF⟩ := hF
        refine g_iald dX6_members_85 hk.2.1 hc.1 hc.2 ?_
        refine g_aload_n dX6_members_86 rfl ?_
        refine g_getR dX6_members_87 fd_X6_9 hk.1 rfl ?_
        refine g_iload_n dX6_members_90 rfl ?_
        obtain ⟨hc, hF⟩ := hF
        refine g_iald dX6_members_91 hk.2.1 hc.1 hc.2 ?_
        refine g_ior dX6_members_92 ?_
        obtain ⟨hc, hF⟩ := hF
        let D2 : g_D := g_up D1 (k + 1) v4.toNat (g_or (D1 (k + 1) v4.toNat) (D1 (k + 1) v3.toNat))
        have hF := hF D2 rfl
        refine g_iast dX6_members_93 hk.2.1 hc.1 hc.2 ?_
        obtain ⟨hc, hF⟩ := hF
        refine gw_iinc (L' := [some (g_R k), none, none, some (g_I v3), some (g_I (v4 + 1))]) dX6_members_94 rfl hc (by decide) rfl ?_
        refine g_goto dX6_members_97 rfl ?_
        exact hF
theorem s_X6_members_111 {E : g_E} {l : Launch} {D : g_D} {K : Int → g_D → Prop} {n1 : Nat} {k : Nat} {r1 : Nat} {v3 : Int} {v4 : Int} (hk : is_Rings g_SH k) (hr1 : g_SH[r1]? = some (.inl (0, n1))) (hF : g_okD D → g_r v3 → g_r v4 → (20 ≤ v4 → K v3 D) ∧ (¬ 20 ≤ v4 → (0 ≤ v4 ∧ v4 < 20) ∧ ((g_r (v4 + 1)) ∧ (n_X6_members E l D 111 [some (g_R k), none, none, some (g_I (g_or v3 (g_and (D (k + 1) v4.toNat) (g_shl 1 v4)))), some (g_I (v4 + 1))] K)))) : n_X6_members E l D 111 [some (g_R k), none, none, some (g_I v3), some (g_I v4)] K := by
  refine g_use (fun ok => ?_)
  have hF := hF ok.2.1 (ok.loc (i := 3) rfl) (ok.loc (i := 4) rfl)
  refine g_iload dX6_members_111 rfl ?_
  refine g_bipush dX6_members_113 ⟨by decide, by decide⟩ ?_
  refine g_cge dX6_members_115 rfl (fun q => ?_) (fun q => ?_)
  · have hF := hF.1 q
    refine g_iload_n dX6_members_139 rfl ?_
    exact gw_iret dX6_members_140 rfl hF
  · have hF := hF.2 q
    refine g_iload_n dX6_members_118 rfl ?_
    refine g_aload_n dX6_members_119 rfl ?_
    refine g_getR dX6_members_120 fd_X6_9 hk.1 rfl ?_
    refine g_iload dX6_members_123 rfl ?_
    obtain ⟨hc, hF⟩ := hF
    refine g_iald dX6_members_125 hk.2.1 hc.1 hc.2 ?_
    refine g_iconst dX6_members_126 ⟨by decide, by decide⟩ ?_
    refine g_iload dX6_members_127 rfl ?_
    refine g_ishl dX6_members_129 ?_
    refine g_iand dX6_members_130 ?_
    refine g_ior dX6_members_131 ?_
    refine gw_istore_n (L' := [some (g_R k), none, none, some (g_I (g_or v3 (g_and (D (k + 1) v4.toNat) (g_shl 1 v4)))), some (g_I v4)]) dX6_members_132 (by decide) rfl ?_
    obtain ⟨hc, hF⟩ := hF
    refine gw_iinc (L' := [some (g_R k), none, none, some (g_I (g_or v3 (g_and (D (k + 1) v4.toNat) (g_shl 1 v4)))), some (g_I (v4 + 1))]) dX6_members_133 rfl hc (by decide) rfl ?_
    refine g_goto dX6_members_136 rfl ?_
    exact hF
theorem dX7_has_0 : decode cX7_has 0 = .ok (.iload_n 1, 1) := by decide +kernel
theorem dX7_has_1 : decode cX7_has 1 = .ok (.ifCond .lt 15, 3) := by decide +kernel
theorem dX7_has_4 : decode cX7_has 4 = .ok (.iload_n 1, 1) := by decide +kernel
theorem dX7_has_5 : decode cX7_has 5 = .ok (.aload_n 0, 1) := by decide +kernel
theorem dX7_has_6 : decode cX7_has 6 = .ok (.getfield 40, 3) := by decide +kernel
theorem dX7_has_9 : decode cX7_has 9 = .ok (.if_icmp .ge 7, 3) := by decide +kernel
theorem dX7_has_12 : decode cX7_has 12 = .ok (.iconst 1, 1) := by decide +kernel
theorem dX7_has_13 : decode cX7_has 13 = .ok (.goto 4, 3) := by decide +kernel
theorem dX7_has_16 : decode cX7_has 16 = .ok (.iconst 0, 1) := by decide +kernel
theorem dX7_has_17 : decode cX7_has 17 = .ok (.ireturn, 1) := by decide +kernel
abbrev k_X7_has (E : g_E) (l : Launch) (D : g_D) (k : Nat) (v1 : Int) (K : Int → g_D → Prop) : Prop := g_Ki E l m_X7_has 0 [g_R k, g_I v1] g_SH D K
abbrev n_X7_has (E : g_E) (l : Launch) (D : g_D) (pc : Nat) (L : List (Option g_V)) (K : Int → g_D → Prop) : Prop := g_N E l m_X7_has 0 pc L [] g_SH D (g_Ri g_SH K)
theorem s_X7_has {E : g_E} {l : Launch} {D : g_D} {K : Int → g_D → Prop} {k : Nat} {v1 : Int} (hk : is_Script g_SH k) (hF : g_okD D → g_r v1 → (v1 < 0 → K 0 D) ∧ (¬ v1 < 0 → ((D k 8) ≤ v1 → K 0 D) ∧ (¬ (D k 8) ≤ v1 → K 1 D))) : k_X7_has E l D k v1 K := by
  refine g_enter (by decide) (Nat.le_of_ble_eq_true rfl) ?_
  show g_N E l m_X7_has 0 0 [some (g_R k), some (g_I v1)] [] g_SH D (g_Ri g_SH K)
  refine g_use (fun ok => ?_)
  have hF := hF ok.2.1 (ok.loc (i := 1) rfl)
  refine g_iload_n dX7_has_0 rfl ?_
  refine g_iflt dX7_has_1 rfl (fun q => ?_) (fun q => ?_)
  · have hF := hF.1 q
    refine g_iconst dX7_has_16 ⟨by decide, by decide⟩ ?_
    exact gw_zret dX7_has_17 rfl (by decide) hF
  · have hF := hF.2 q
    refine g_iload_n dX7_has_4 rfl ?_
    refine g_aload_n dX7_has_5 rfl ?_
    refine g_getI dX7_has_6 fd_X7_40 hk.1 rfl ?_
    refine g_cge dX7_has_9 rfl (fun q => ?_) (fun q => ?_)
    · have hF := hF.1 q
      refine g_iconst dX7_has_16 ⟨by decide, by decide⟩ ?_
      exact gw_zret dX7_has_17 rfl (by decide) hF
    · have hF := hF.2 q
      refine g_iconst dX7_has_12 ⟨by decide, by decide⟩ ?_
      refine g_goto dX7_has_13 rfl ?_
      exact gw_zret dX7_has_17 rfl (by decide) hF
theorem dX6_isWithoutRing_0 : decode cX6_isWithoutRing 0 = .ok (.iload_n 1, 1) := by decide +kernel
theorem dX6_isWithoutRing_1 : decode cX6_isWithoutRing 1 = .ok (.istore_n 2, 1) := by decide +kernel
theorem dX6_isWithoutRing_2 : decode cX6_isWithoutRing 2 = .ok (.iconst 0, 1) := by decide +kernel
theorem dX6_isWithoutRing_3 : decode cX6_isWithoutRing 3 = .ok (.istore_n 3, 1) := by decide +kernel
theorem dX6_isWithoutRing_4 : decode cX6_isWithoutRing 4 = .ok (.iload_n 3, 1) := by decide +kernel
theorem dX6_isWithoutRing_5 : decode cX6_isWithoutRing 5 = .ok (.bipush 20, 2) := by decide +kernel
theorem dX6_isWithoutRing_7 : decode cX6_isWithoutRing 7 = .ok (.if_icmp .ge 70, 3) := by decide +kernel
theorem dX6_isWithoutRing_10 : decode cX6_isWithoutRing 10 = .ok (.iload_n 2, 1) := by decide +kernel
theorem dX6_isWithoutRing_11 : decode cX6_isWithoutRing 11 = .ok (.ifCond .eq 66, 3) := by decide +kernel
theorem dX6_isWithoutRing_14 : decode cX6_isWithoutRing 14 = .ok (.iconst 0, 1) := by decide +kernel
theorem dX6_isWithoutRing_15 : decode cX6_isWithoutRing 15 = .ok (.istore 4, 2) := by decide +kernel
theorem dX6_isWithoutRing_17 : decode cX6_isWithoutRing 17 = .ok (.iconst 0, 1) := by decide +kernel
theorem dX6_isWithoutRing_18 : decode cX6_isWithoutRing 18 = .ok (.istore 5, 2) := by decide +kernel
theorem dX6_isWithoutRing_20 : decode cX6_isWithoutRing 20 = .ok (.iload 5, 2) := by decide +kernel
theorem dX6_isWithoutRing_22 : decode cX6_isWithoutRing 22 = .ok (.bipush 20, 2) := by decide +kernel
theorem dX6_isWithoutRing_24 : decode cX6_isWithoutRing 24 = .ok (.if_icmp .ge 36, 3) := by decide +kernel
theorem dX6_isWithoutRing_27 : decode cX6_isWithoutRing 27 = .ok (.iload_n 2, 1) := by decide +kernel
theorem dX6_isWithoutRing_28 : decode cX6_isWithoutRing 28 = .ok (.iload 5, 2) := by decide +kernel
theorem dX6_isWithoutRing_30 : decode cX6_isWithoutRing 30 = .ok (.invokestatic 21, 3) := by decide +kernel
theorem dX6_isWithoutRing_33 : decode cX6_isWithoutRing 33 = .ok (.ifCond .eq 21, 3) := by decide +kernel
theorem dX6_isWithoutRing_36 : decode cX6_isWithoutRing 36 = .ok (.aload_n 0, 1) := by decide +kernel
theorem dX6_isWithoutRing_37 : decode cX6_isWithoutRing 37 = .ok (.iload 5, 2) := by decide +kernel
theorem dX6_isWithoutRing_39 : decode cX6_isWithoutRing 39 = .ok (.iaload, 1) := by decide +kernel
theorem dX6_isWithoutRing_40 : decode cX6_isWithoutRing 40 = .ok (.iload_n 2, 1) := by decide +kernel
theorem dX6_isWithoutRing_41 : decode cX6_isWithoutRing 41 = .ok (.iand, 1) := by decide +kernel
theorem dX6_isWithoutRing_42 : decode cX6_isWithoutRing 42 = .ok (.ifCond .eq 12, 3) := by decide +kernel
theorem dX6_isWithoutRing_45 : decode cX6_isWithoutRing 45 = .ok (.iload 4, 2) := by decide +kernel
theorem dX6_isWithoutRing_47 : decode cX6_isWithoutRing 47 = .ok (.iconst 1, 1) := by decide +kernel
theorem dX6_isWithoutRing_48 : decode cX6_isWithoutRing 48 = .ok (.iload 5, 2) := by decide +kernel
theorem dX6_isWithoutRing_50 : decode cX6_isWithoutRing 50 = .ok (.ishl, 1) := by decide +kernel
theorem dX6_isWithoutRing_51 : decode cX6_isWithoutRing 51 = .ok (.ior, 1) := by decide +kernel
theorem dX6_isWithoutRing_52 : decode cX6_isWithoutRing 52 = .ok (.istore 4, 2) := by decide +kernel
theorem dX6_isWithoutRing_54 : decode cX6_isWithoutRing 54 = .ok (.iinc 5 1, 3) := by decide +kernel
theorem dX6_isWithoutRing_57 : decode cX6_isWithoutRing 57 = .ok (.goto (-37), 3) := by decide +kernel
theorem dX6_isWithoutRing_60 : decode cX6_isWithoutRing 60 = .ok (.iload 4, 2) := by decide +kernel
theorem dX6_isWithoutRing_62 : decode cX6_isWithoutRing 62 = .ok (.iload_n 2, 1) := by decide +kernel
theorem dX6_isWithoutRing_63 : decode cX6_isWithoutRing 63 = .ok (.if_icmp .ne 5, 3) := by decide +kernel
theorem dX6_isWithoutRing_66 : decode cX6_isWithoutRing 66 = .ok (.iconst 0, 1) := by decide +kernel
theorem dX6_isWithoutRing_67 : decode cX6_isWithoutRing 67 = .ok (.ireturn, 1) := by decide +kernel
theorem dX6_isWithoutRing_68 : decode cX6_isWithoutRing 68 = .ok (.iload 4, 2) := by decide +kernel
theorem dX6_isWithoutRing_70 : decode cX6_isWithoutRing 70 = .ok (.istore_n 2, 1) := by decide +kernel
theorem dX6_isWithoutRing_71 : decode cX6_isWithoutRing 71 = .ok (.iinc 3 1, 3) := by decide +kernel
theorem dX6_isWithoutRing_74 : decode cX6_isWithoutRing 74 = .ok (.goto (-70), 3) := by decide +kernel
theorem dX6_isWithoutRing_77 : decode cX6_isWithoutRing 77 = .ok (.iload_n 2, 1) := by decide +kernel
theorem dX6_isWithoutRing_78 : decode cX6_isWithoutRing 78 = .ok (.ifCond .ne 7, 3) := by decide +kernel
theorem dX6_isWithoutRing_81 : decode cX6_isWithoutRing 81 = .ok (.iconst 1, 1) := by decide +kernel
theorem dX6_isWithoutRing_82 : decode cX6_isWithoutRing 82 = .ok (.goto 4, 3) := by decide +kernel
theorem dX6_isWithoutRing_85 : decode cX6_isWithoutRing 85 = .ok (.iconst 0, 1) := by decide +kernel
theorem dX6_isWithoutRing_86 : decode cX6_isWithoutRing 86 = .ok (.ireturn, 1) := by decide +kernel
abbrev k_X6_isWithoutRing (E : g_E) (l : Launch) (sh : List g_Sh) (D : g_D) (r0 : Nat) (v1 : Int) (K : Int → g_D → Prop) : Prop := g_Ki E l m_X6_isWithoutRing 1 [g_R r0, g_I v1] sh D K
abbrev n_X6_isWithoutRing (E : g_E) (l : Launch) (sh : List g_Sh) (D : g_D) (pc : Nat) (L : List (Option g_V)) (K : Int → g_D → Prop) : Prop := g_N E l m_X6_isWithoutRing 1 pc L [] sh D (g_Ri sh K)
theorem s_X6_isWithoutRing {E : g_E} {l : Launch} {sh : List g_Sh} {D : g_D} {K : Int → g_D → Prop} {n0 : Nat} {r0 : Nat} {v1 : Int} (hr0 : sh[r0]? = some (.inl (0, n0))) (hF : g_okD D → g_r v1 → n_X6_isWithoutRing E l sh D 4 [some (g_R r0), none, some (g_I v1), some (g_I 0), none, none] K) : k_X6_isWithoutRing E l sh D r0 v1 K := by
  refine g_enter (by decide) (Nat.le_of_ble_eq_true rfl) ?_
  show g_N E l m_X6_isWithoutRing 1 0 [some (g_R r0), some (g_I v1), none, none, none, none] [] sh D (g_Ri sh K)
  refine g_use (fun ok => ?_)
  have hF := hF ok.2.1 (ok.loc (i := 1) rfl)
  refine g_iload_n dX6_isWithoutRing_0 rfl ?_
  refine gw_istore_n (L' := [some (g_R r0), some (g_I v1), some (g_I v1), none, none, none]) dX6_isWithoutRing_1 (by decide) rfl ?_
  refine g_iconst dX6_isWithoutRing_2 ⟨by decide, by decide⟩ ?_
  refine gw_istore_n (L' := [some (g_R r0), some (g_I v1), some (g_I v1), some (g_I 0), none, none]) dX6_isWithoutRing_3 (by decide) rfl ?_
  exact g_forget (L' := [some (g_R r0), none, some (g_I v1), some (g_I 0), none, none]) ⟨rfl, ⟨rfl, ⟨rfl, trivial⟩⟩⟩ hF
theorem s_X6_isWithoutRing_4 {E : g_E} {l : Launch} {sh : List g_Sh} {D : g_D} {K : Int → g_D → Prop} {n0 : Nat} {r0 : Nat} {v2 : Int} {v3 : Int} (hr0 : sh[r0]? = some (.inl (0, n0))) (hF : g_okD D → g_r v2 → g_r v3 → (20 ≤ v3 → (¬ v2 = 0 → K 0 D) ∧ (v2 = 0 → K 1 D)) ∧ (¬ 20 ≤ v3 → (v2 = 0 → (¬ v2 = 0 → K 0 D) ∧ (v2 = 0 → K 1 D)) ∧ (¬ v2 = 0 → n_X6_isWithoutRing E l sh D 20 [some (g_R r0), none, some (g_I v2), some (g_I v3), some (g_I 0), some (g_I 0)] K))) : n_X6_isWithoutRing E l sh D 4 [some (g_R r0), none, some (g_I v2), some (g_I v3), none, none] K := by
  refine g_use (fun ok => ?_)
  have hF := hF ok.2.1 (ok.loc (i := 2) rfl) (ok.loc (i := 3) rfl)
  refine g_iload_n dX6_isWithoutRing_4 rfl ?_
  refine g_bipush dX6_isWithoutRing_5 ⟨by decide, by decide⟩ ?_
  refine g_cge dX6_isWithoutRing_7 rfl (fun q => ?_) (fun q => ?_)
  · have hF := hF.1 q
    refine g_iload_n dX6_isWithoutRing_77 rfl ?_
    refine g_ifne dX6_isWithoutRing_78 rfl (fun q => ?_) (fun q => ?_)
    · have hF := hF.1 q
      refine g_iconst dX6_isWithoutRing_85 ⟨by decide, by decide⟩ ?_
      exact gw_zret dX6_isWithoutRing_86 rfl (by decide) hF
    · have hF := hF.2 q
      refine g_iconst dX6_isWithoutRing_81 ⟨by decide, by decide⟩ ?_
      refine g_goto dX6_isWithoutRing_82 rfl ?_
      exact gw_zret dX6_isWithoutRing_86 rfl (by decide) hF
  · have hF := hF.2 q
    refine g_iload_n dX6_isWithoutRing_10 rfl ?_
    refine g_ifeq dX6_isWithoutRing_11 rfl (fun q => ?_) (fun q => ?_)
    · have hF := hF.1 q
      refine g_iload_n dX6_isWithoutRing_77 rfl ?_
      refine g_ifne dX6_isWithoutRing_78 rfl (fun q => ?_) (fun q => ?_)
      · have hF := hF.1 q
        refine g_iconst dX6_isWithoutRing_85 ⟨by decide, by decide⟩ ?_
        exact gw_zret dX6_isWithoutRing_86 rfl (by decide) hF
      · have hF := hF.2 q
        refine g_iconst dX6_isWithoutRing_81 ⟨by decide, by decide⟩ ?_
        refine g_goto dX6_isWithoutRing_82 rfl ?_
        exact gw_zret dX6_isWithoutRing_86 rfl (by decide) hF
    · have hF := hF.2 q
      refine g_iconst dX6_isWithoutRing_14 ⟨by decide, by decide⟩ ?_
      refine gw_istore (L' := [some (g_R r0), none, some (g_I v2), some (g_I v3), some (g_I 0), none]) dX6_isWithoutRing_15 (by decide) rfl ?_
      refine g_iconst dX6_isWithoutRing_17 ⟨by decide, by decide⟩ ?_
      refine gw_istore (L' := [some (g_R r0), none, some (g_I v2), some (g_I v3), some (g_I 0), some (g_I 0)]) dX6_isWithoutRing_18 (by decide) rfl ?_
      exact hF
theorem s_X6_isWithoutRing_20 {E : g_E} {l : Launch} {sh : List g_Sh} {D : g_D} {K : Int → g_D → Prop} {n0 : Nat} {r0 : Nat} {v2 : Int} {v3 : Int} {v4 : Int} {v5 : Int} (hr0 : sh[r0]? = some (.inl (0, n0))) (hF : g_okD D → g_r v2 → g_r v3 → g_r v4 → g_r v5 → (20 ≤ v5 → (¬ v4 = v2 → (g_r (v3 + 1)) ∧ (n_X6_isWithoutRing E l sh D 4 [some (g_R r0), none, some (g_I v4), some (g_I (v3 + 1)), none, none] K)) ∧ (v4 = v2 → K 0 D)) ∧ (¬ 20 ≤ v5 → k_X11_hasBit E l sh D v2 v5 (fun x1 D1 => g_r x1 → (x1 = 0 → (g_r (v5 + 1)) ∧ (n_X6_isWithoutRing E l sh D1 20 [some (g_R r0), none, some (g_I v2), some (g_I v3), some (g_I v4), some (g_I (v5 + 1))] K)) ∧ (¬ x1 = 0 → (0 ≤ v5 ∧ v5 < n0) ∧ (((g_and (D1 r0 v5.toNat) v2) = 0 → (g_r (v5 + 1)) ∧ (n_X6_isWithoutRing E l sh D1 20 [some (g_R r0), none, some (g_I v2), some (g_I v3), some (g_I v4), some (g_I (v5 + 1))] K)) ∧ (¬ (g_and (D1 r0 v5.toNat) v2) = 0 → (g_r (v5 + 1)) ∧ (n_X6_isWithoutRing E l sh D1 20 [some (g_R r0), none, some (g_I v2), some (g_I v3), some (g_I (g_or v4 (g_shl 1 v5))), some (g_I (v5 + 1))] K))))))) : n_X6_isWithoutRing E l sh D 20 [some (g_R r0), none, some (g_I v2), some (g_I v3), some (g_I v4), some (g_I v5)] K := by
  refine g_use (fun ok => ?_)
  have hF := hF ok.2.1 (ok.loc (i := 2) rfl) (ok.loc (i := 3) rfl) (ok.loc (i := 4) rfl) (ok.loc (i := 5) rfl)
  refine g_iload dX6_isWithoutRing_20 rfl ?_
  refine g_bipush dX6_isWithoutRing_22 ⟨by decide, by decide⟩ ?_
  refine g_cge dX6_isWithoutRing_24 rfl (fun q => ?_) (fun q => ?_)
  · have hF := hF.1 q
    refine g_iload dX6_isWithoutRing_60 rfl ?_
    refine g_iload_n dX6_isWithoutRing_62 rfl ?_
    refine g_cne dX6_isWithoutRing_63 rfl (fun q => ?_) (fun q => ?_)
    · have hF := hF.1 q
      refine g_iload dX6_isWithoutRing_68 rfl ?_
      refine gw_istore_n (L' := [some (g_R r0), none, some (g_I v4), some (g_I v3), some (g_I v4), some (g_I v5)]) dX6_isWithoutRing_70 (by decide) rfl ?_
      obtain ⟨hc, hF⟩ := hF
      refine gw_iinc (L' := [some (g_R r0), none, some (g_I v4), some (g_I (v3 + 1)), some (g_I v4), some (g_I v5)]) dX6_isWithoutRing_71 rfl hc (by decide) rfl ?_
      refine g_goto dX6_isWithoutRing_74 rfl ?_
      exact g_forget (L' := [some (g_R r0), none, some (g_I v4), some (g_I (v3 + 1)), none, none]) ⟨rfl, ⟨rfl, ⟨rfl, trivial⟩⟩⟩ hF
    · have hF := hF.2 q
      refine g_iconst dX6_isWithoutRing_66 ⟨by decide, by decide⟩ ?_
      exact gw_zret dX6_isWithoutRing_67 rfl (by decide) hF
  · have hF := hF.2 q
    refine g_iload_n dX6_isWithoutRing_27 rfl ?_
    refine g_iload dX6_isWithoutRing_28 rfl ?_
    refine gw_cNi (As := [g_I v2, g_I v5]) (rest := []) dX6_isWithoutRing_30 mn_X6_21 rfl (Nat.le_of_ble_eq_true rfl) (by decide) rfl hF ?_
    intro x1 D1 hx1 hF
    have hF := hF hx1
    refine g_ifeq dX6_isWithoutRing_33 rfl (fun q => ?_) (fun q => ?_)
    · have hF := hF.1 q
      obtain ⟨hc, hF⟩ := hF
      refine gw_iinc (L' := [some (g_R r0), none, some (g_I v2), some (g_I v3), some (g_I v4), some (g_I (v5 + 1))]) dX6_isWithoutRing_54 rfl hc (by decide) rfl ?_
      refine g_goto dX6_isWithoutRing_57 rfl ?_
      exact hF
    · have hF := hF.2 q
      refine g_aload_n dX6_isWithoutRing_36 rfl ?_
      refine g_iload dX6_isWithoutRing_37 rfl ?_
      obtain ⟨hc, hF⟩ := hF
      refine g_iald dX6_isWithoutRing_39 hr0 hc.1 hc.2 ?_
      refine g_iload_n dX6_isWithoutRing_40 rfl ?_
      refine g_iand dX6_isWithoutRing_41 ?_
      refine g_ifeq dX6_isWithoutRing_42 rfl (fun q => ?_) (fun q => ?_)
      · have hF := hF.1 q
        obtain ⟨hc, hF⟩ := hF
        refine gw_iinc (L' := [some (g_R r0), none, some (g_I v2), some (g_I v3), some (g_I v4), some (g_I (v5 + 1))]) dX6_isWithoutRing_54 rfl hc (by decide) rfl ?_
        refine g_goto dX6_isWithoutRing_57 rfl ?_
        exact hF
      · have hF := hF.2 q
        refine g_iload dX6_isWithoutRing_45 rfl ?_
        refine g_iconst dX6_isWithoutRing_47 ⟨by decide, by decide⟩ ?_
        refine g_iload dX6_isWithoutRing_48 rfl ?_
        refine g_ishl dX6_isWithoutRing_50 ?_
        refine g_ior dX6_isWithoutRing_51 ?_
        refine gw_istore (L' := [some (g_R r0), none, some (g_I v2), some (g_I v3), some (g_I (g_or v4 (g_shl 1 v5))), some (g_I v5)]) dX6_isWithoutRing_52 (by decide) rfl ?_
        obtain ⟨hc, hF⟩ := hF
        refine gw_iinc (L' := [some (g_R r0), none, some (g_I v2), some (g_I v3), some (g_I (g_or v4 (g_shl 1 v5))), some (g_I (v5 + 1))]) dX6_isWithoutRing_54 rfl hc (by decide) rfl ?_
        refine g_goto dX6_isWithoutRing_57 rfl ?_
        exact hF
theorem dX6_weighSet_0 : decode cX6_weighSet 0 = .ok (.iload_n 3, 1) := by decide +kernel
theorem dX6_weighSet_1 : decode cX6_weighSet 1 = .ok (.invokestatic 60, 3) := by decide +kernel
theorem dX6_weighSet_4 : decode cX6_weighSet 4 = .ok (.istore 4, 2) := by decide +kernel
theorem dX6_weighSet_6 : decode cX6_weighSet 6 = .ok (.iconst 0, 1) := by decide +kernel
theorem dX6_weighSet_7 : decode cX6_weighSet 7 = .ok (.istore 5, 2) := by decide +kernel
theorem dX6_weighSet_9 : decode cX6_weighSet 9 = .ok (.iconst 0, 1) := by decide +kernel
theorem dX6_weighSet_10 : decode cX6_weighSet 10 = .ok (.istore 6, 2) := by decide +kernel
theorem dX6_weighSet_12 : decode cX6_weighSet 12 = .ok (.iload 6, 2) := by decide +kernel
theorem dX6_weighSet_14 : decode cX6_weighSet 14 = .ok (.aload_n 1, 1) := by decide +kernel
theorem dX6_weighSet_15 : decode cX6_weighSet 15 = .ok (.getfield 69, 3) := by decide +kernel
theorem dX6_weighSet_18 : decode cX6_weighSet 18 = .ok (.if_icmp .ge 34, 3) := by decide +kernel
theorem dX6_weighSet_21 : decode cX6_weighSet 21 = .ok (.iload 5, 2) := by decide +kernel
theorem dX6_weighSet_23 : decode cX6_weighSet 23 = .ok (.iload_n 3, 1) := by decide +kernel
theorem dX6_weighSet_24 : decode cX6_weighSet 24 = .ok (.iload 6, 2) := by decide +kernel
theorem dX6_weighSet_26 : decode cX6_weighSet 26 = .ok (.invokestatic 21, 3) := by decide +kernel
theorem dX6_weighSet_29 : decode cX6_weighSet 29 = .ok (.ifCond .eq 13, 3) := by decide +kernel
theorem dX6_weighSet_32 : decode cX6_weighSet 32 = .ok (.aload_n 1, 1) := by decide +kernel
theorem dX6_weighSet_33 : decode cX6_weighSet 33 = .ok (.getfield 72, 3) := by decide +kernel
theorem dX6_weighSet_36 : decode cX6_weighSet 36 = .ok (.iload 6, 2) := by decide +kernel
theorem dX6_weighSet_38 : decode cX6_weighSet 38 = .ok (.iaload, 1) := by decide +kernel
theorem dX6_weighSet_39 : decode cX6_weighSet 39 = .ok (.goto 4, 3) := by decide +kernel
theorem dX6_weighSet_42 : decode cX6_weighSet 42 = .ok (.iconst 0, 1) := by decide +kernel
theorem dX6_weighSet_43 : decode cX6_weighSet 43 = .ok (.iadd, 1) := by decide +kernel
theorem dX6_weighSet_44 : decode cX6_weighSet 44 = .ok (.istore 5, 2) := by decide +kernel
theorem dX6_weighSet_46 : decode cX6_weighSet 46 = .ok (.iinc 6 1, 3) := by decide +kernel
theorem dX6_weighSet_49 : decode cX6_weighSet 49 = .ok (.goto (-37), 3) := by decide +kernel
theorem dX6_weighSet_52 : decode cX6_weighSet 52 = .ok (.iload 4, 2) := by decide +kernel
theorem dX6_weighSet_54 : decode cX6_weighSet 54 = .ok (.aload_n 0, 1) := by decide +kernel
theorem dX6_weighSet_55 : decode cX6_weighSet 55 = .ok (.getfield 54, 3) := by decide +kernel
theorem dX6_weighSet_58 : decode cX6_weighSet 58 = .ok (.if_icmp .lt 12, 3) := by decide +kernel
theorem dX6_weighSet_61 : decode cX6_weighSet 61 = .ok (.iload 5, 2) := by decide +kernel
theorem dX6_weighSet_63 : decode cX6_weighSet 63 = .ok (.aload_n 0, 1) := by decide +kernel
theorem dX6_weighSet_64 : decode cX6_weighSet 64 = .ok (.getfield 57, 3) := by decide +kernel
theorem dX6_weighSet_67 : decode cX6_weighSet 67 = .ok (.if_icmp .ge 7, 3) := by decide +kernel
theorem dX6_weighSet_70 : decode cX6_weighSet 70 = .ok (.iconst 1, 1) := by decide +kernel
theorem dX6_weighSet_71 : decode cX6_weighSet 71 = .ok (.goto 4, 3) := by decide +kernel
theorem dX6_weighSet_74 : decode cX6_weighSet 74 = .ok (.iconst 0, 1) := by decide +kernel
theorem dX6_weighSet_75 : decode cX6_weighSet 75 = .ok (.istore 6, 2) := by decide +kernel
theorem dX6_weighSet_77 : decode cX6_weighSet 77 = .ok (.iload 6, 2) := by decide +kernel
theorem dX6_weighSet_79 : decode cX6_weighSet 79 = .ok (.ifCond .eq 18, 3) := by decide +kernel
theorem dX6_weighSet_82 : decode cX6_weighSet 82 = .ok (.aload_n 1, 1) := by decide +kernel
theorem dX6_weighSet_83 : decode cX6_weighSet 83 = .ok (.getfield 41, 3) := by decide +kernel
theorem dX6_weighSet_86 : decode cX6_weighSet 86 = .ok (.iload_n 2, 1) := by decide +kernel
theorem dX6_weighSet_87 : decode cX6_weighSet 87 = .ok (.iload_n 3, 1) := by decide +kernel
theorem dX6_weighSet_88 : decode cX6_weighSet 88 = .ok (.iconst (-1), 1) := by decide +kernel
theorem dX6_weighSet_89 : decode cX6_weighSet 89 = .ok (.ixor, 1) := by decide +kernel
theorem dX6_weighSet_90 : decode cX6_weighSet 90 = .ok (.iand, 1) := by decide +kernel
theorem dX6_weighSet_91 : decode cX6_weighSet 91 = .ok (.invokestatic 75, 3) := by decide +kernel
theorem dX6_weighSet_94 : decode cX6_weighSet 94 = .ok (.ifCond .ne 4, 3) := by decide +kernel
theorem dX6_weighSet_97 : decode cX6_weighSet 97 = .ok (.return_, 1) := by decide +kernel
theorem dX6_weighSet_98 : decode cX6_weighSet 98 = .ok (.iload 4, 2) := by decide +kernel
theorem dX6_weighSet_100 : decode cX6_weighSet 100 = .ok (.aload_n 0, 1) := by decide +kernel
theorem dX6_weighSet_101 : decode cX6_weighSet 101 = .ok (.getfield 54, 3) := by decide +kernel
theorem dX6_weighSet_104 : decode cX6_weighSet 104 = .ok (.if_icmp .ge 14, 3) := by decide +kernel
theorem dX6_weighSet_107 : decode cX6_weighSet 107 = .ok (.aload_n 0, 1) := by decide +kernel
theorem dX6_weighSet_108 : decode cX6_weighSet 108 = .ok (.iload 4, 2) := by decide +kernel
theorem dX6_weighSet_110 : decode cX6_weighSet 110 = .ok (.putfield 54, 3) := by decide +kernel
theorem dX6_weighSet_113 : decode cX6_weighSet 113 = .ok (.aload_n 0, 1) := by decide +kernel
theorem dX6_weighSet_114 : decode cX6_weighSet 114 = .ok (.iload_n 3, 1) := by decide +kernel
theorem dX6_weighSet_115 : decode cX6_weighSet 115 = .ok (.putfield 79, 3) := by decide +kernel
theorem dX6_weighSet_118 : decode cX6_weighSet 118 = .ok (.iload 5, 2) := by decide +kernel
theorem dX6_weighSet_120 : decode cX6_weighSet 120 = .ok (.aload_n 0, 1) := by decide +kernel
theorem dX6_weighSet_121 : decode cX6_weighSet 121 = .ok (.getfield 57, 3) := by decide +kernel
theorem dX6_weighSet_124 : decode cX6_weighSet 124 = .ok (.if_icmp .ge 14, 3) := by decide +kernel
theorem dX6_weighSet_127 : decode cX6_weighSet 127 = .ok (.aload_n 0, 1) := by decide +kernel
theorem dX6_weighSet_128 : decode cX6_weighSet 128 = .ok (.iload 5, 2) := by decide +kernel
theorem dX6_weighSet_130 : decode cX6_weighSet 130 = .ok (.putfield 57, 3) := by decide +kernel
theorem dX6_weighSet_133 : decode cX6_weighSet 133 = .ok (.aload_n 0, 1) := by decide +kernel
theorem dX6_weighSet_134 : decode cX6_weighSet 134 = .ok (.iload_n 3, 1) := by decide +kernel
theorem dX6_weighSet_135 : decode cX6_weighSet 135 = .ok (.putfield 82, 3) := by decide +kernel
theorem dX6_weighSet_138 : decode cX6_weighSet 138 = .ok (.return_, 1) := by decide +kernel
abbrev k_X6_weighSet (E : g_E) (l : Launch) (D : g_D) (k : Nat) (r1 : Nat) (v2 : Int) (v3 : Int) (K : g_D → Prop) : Prop := g_Kv E l m_X6_weighSet 2 [g_R k, g_R r1, g_I v2, g_I v3] g_SH D K
abbrev n_X6_weighSet (E : g_E) (l : Launch) (D : g_D) (pc : Nat) (L : List (Option g_V)) (K : g_D → Prop) : Prop := g_N E l m_X6_weighSet 2 pc L [] g_SH D (g_Rv g_SH K)
theorem s_X6_weighSet {E : g_E} {l : Launch} {D : g_D} {K : g_D → Prop} {k : Nat} {r1 : Nat} {v2 : Int} {v3 : Int} (hk : is_Rings g_SH k) (hr1 : is_Script g_SH r1) (hF : g_okD D → g_r v2 → g_r v3 → k_J6_bitCount_0f7a4 E l g_SH D v3 (fun x1 D1 => g_r x1 → n_X6_weighSet E l D1 12 [some (g_R k), some (g_R r1), some (g_I v2), some (g_I v3), some (g_I x1), some (g_I 0), some (g_I 0)] K)) : k_X6_weighSet E l D k r1 v2 v3 K := by
  refine g_enter (by decide) (Nat.le_of_ble_eq_true rfl) ?_
  show g_N E l m_X6_weighSet 2 0 [some (g_R k), some (g_R r1), some (g_I v2), some (g_I v3), none, none, none] [] g_SH D (g_Rv g_SH K)
  refine g_use (fun ok => ?_)
  have hF := hF ok.2.1 (ok.loc (i := 2) rfl) (ok.loc (i := 3) rfl)
  refine g_iload_n dX6_weighSet_0 rfl ?_
  refine gw_cSi (As := [g_I v3]) (rest := []) dX6_weighSet_1 ms_X6_60 rfl (Nat.le_of_ble_eq_true rfl) (by decide) rfl hF ?_
  intro x1 D1 hx1 hF
  have hF := hF hx1
  refine gw_istore (L' := [some (g_R k), some (g_R r1), some (g_I v2), some (g_I v3), some (g_I x1), none, none]) dX6_weighSet_4 (by decide) rfl ?_
  refine g_iconst dX6_weighSet_6 ⟨by decide, by decide⟩ ?_
  refine gw_istore (L' := [some (g_R k), some (g_R r1), some (g_I v2), some (g_I v3), some (g_I x1), some (g_I 0), none]) dX6_weighSet_7 (by decide) rfl ?_
  refine g_iconst dX6_weighSet_9 ⟨by decide, by decide⟩ ?_
  refine gw_istore (L' := [some (g_R k), some (g_R r1), some (g_I v2), some (g_I v3), some (g_I x1), some (g_I 0), some (g_I 0)]) dX6_weighSet_10 (by decide) rfl ?_
  exact hF
theorem s_X6_weighSet_12 {E : g_E} {l : Launch} {D : g_D} {K : g_D → Prop} {k : Nat} {r1 : Nat} {v2 : Int} {v3 : Int} {v4 : Int} {v5 : Int} {v6 : Int} (hk : is_Rings g_SH k) (hr1 : is_Script g_SH r1) (hF : g_okD D → g_r v2 → g_r v3 → g_r v4 → g_r v5 → g_r v6 → ((D r1 8) ≤ v6 → (v4 < (D k 5) → k_X6_isWithoutRing E l g_SH D (r1 + 5) (g_and v2 (g_xor v3 (-1))) (fun x1 D1 => g_r x1 → (¬ x1 = 0 → ((D1 k 5) ≤ v4 → ((D1 k 7) ≤ v5 → K D1) ∧ (¬ (D1 k 7) ≤ v5 → ∀ D2, D2 = g_up D1 k 7 v5 → (∀ D3, D3 = g_up D2 k 8 v3 → (K D3)))) ∧ (¬ (D1 k 5) ≤ v4 → ∀ D4, D4 = g_up D1 k 5 v4 → (∀ D5, D5 = g_up D4 k 6 v3 → (((D5 k 7) ≤ v5 → K D5) ∧ (¬ (D5 k 7) ≤ v5 → ∀ D6, D6 = g_up D5 k 7 v5 → (∀ D7, D7 = g_up D6 k 8 v3 → (K D7))))))) ∧ (x1 = 0 → K D1))) ∧ (¬ v4 < (D k 5) → ((D k 7) ≤ v5 → K D) ∧ (¬ (D k 7) ≤ v5 → k_X6_isWithoutRing E l g_SH D (r1 + 5) (g_and v2 (g_xor v3 (-1))) (fun x8 D8 => g_r x8 → (¬ x8 = 0 → ((D8 k 5) ≤ v4 → ((D8 k 7) ≤ v5 → K D8) ∧ (¬ (D8 k 7) ≤ v5 → ∀ D9, D9 = g_up D8 k 7 v5 → (∀ D10, D10 = g_up D9 k 8 v3 → (K D10)))) ∧ (¬ (D8 k 5) ≤ v4 → ∀ D11, D11 = g_up D8 k 5 v4 → (∀ D12, D12 = g_up D11 k 6 v3 → (((D12 k 7) ≤ v5 → K D12) ∧ (¬ (D12 k 7) ≤ v5 → ∀ D13, D13 = g_up D12 k 7 v5 → (∀ D14, D14 = g_up D13 k 8 v3 → (K D14))))))) ∧ (x8 = 0 → K D8))))) ∧ (¬ (D r1 8) ≤ v6 → k_X11_hasBit E l g_SH D v3 v6 (fun x15 D15 => g_r x15 → (x15 = 0 → (g_r (v5 + 0)) ∧ ((g_r (v6 + 1)) ∧ (n_X6_weighSet E l D15 12 [some (g_R k), some (g_R r1), some (g_I v2), some (g_I v3), some (g_I v4), some (g_I (v5 + 0)), some (g_I (v6 + 1))] K))) ∧ (¬ x15 = 0 → (0 ≤ v6 ∧ v6 < 20) ∧ ((g_r (v5 + (D15 (r1 + 4) v6.toNat))) ∧ ((g_r (v6 + 1)) ∧ (n_X6_weighSet E l D15 12 [some (g_R k), some (g_R r1), some (g_I v2), some (g_I v3), some (g_I v4), some (g_I (v5 + (D15 (r1 + 4) v6.toNat))), some (g_I (v6 + 1))] K))))))) : n_X6_weighSet E l D 12 [some (g_R k), some (g_R r1), some (g_I v2), some (g_I v3), some (g_I v4), some (g_I v5), some (g_I v6)] K := by
  refine g_use (fun ok => ?_)
  have hF := hF ok.2.1 (ok.loc (i := 2) rfl) (ok.loc (i := 3) rfl) (ok.loc (i := 4) rfl) (ok.loc (i := 5) rfl) (ok.loc (i := 6) rfl)
  refine g_iload dX6_weighSet_12 rfl ?_
  refine g_aload_n dX6_weighSet_14 rfl ?_
  refine g_getI dX6_weighSet_15 fd_X6_69 hr1.1 rfl ?_
  refine g_cge dX6_weighSet_18 rfl (fun q => ?_) (fun q => ?_)
  · have hF := hF.1 q
    refine g_iload dX6_weighSet_52 rfl ?_
    refine g_aload_n dX6_weighSet_54 rfl ?_
    refine g_getI dX6_weighSet_55 fd_X6_54 hk.1 rfl ?_
    refine g_clt dX6_weighSet_58 rfl (fun q => ?_) (fun q => ?_)
    · have hF := hF.1 q
      refine g_iconst dX6_weighSet_70 ⟨by decide, by decide⟩ ?_
      refine g_goto dX6_weighSet_71 rfl ?_
      refine gw_istore (L' := [some (g_R k), some (g_R r1), some (g_I v2), some (g_I v3), some (g_I v4), some (g_I v5), some (g_I 1)]) dX6_weighSet_75 (by decide) rfl ?_
      refine g_iload dX6_weighSet_77 rfl ?_
      refine g_ifeq dX6_weighSet_79 rfl (fun q => absurd q (by decide)) (fun _ => ?_)
      refine g_aload_n dX6_weighSet_82 rfl ?_
      refine g_getR dX6_weighSet_83 fd_X6_41 hr1.1 rfl ?_
      refine g_iload_n dX6_weighSet_86 rfl ?_
      refine g_iload_n dX6_weighSet_87 rfl ?_
      refine g_iconst dX6_weighSet_88 ⟨by decide, by decide⟩ ?_
      refine g_ixor dX6_weighSet_89 ?_
      refine g_iand dX6_weighSet_90 ?_
      refine gw_cSi (As := [g_R (r1 + 5), g_I (g_and v2 (g_xor v3 (-1)))]) (rest := []) dX6_weighSet_91 ms_X6_75 rfl (Nat.le_of_ble_eq_true rfl) (by decide) rfl hF ?_
      intro x1 D1 hx1 hF
      have hF := hF hx1
      refine g_ifne dX6_weighSet_94 rfl (fun q => ?_) (fun q => ?_)
      · have hF := hF.1 q
        refine g_iload dX6_weighSet_98 rfl ?_
        refine g_aload_n dX6_weighSet_100 rfl ?_
        refine g_getI dX6_weighSet_101 fd_X6_54 hk.1 rfl ?_
        refine g_cge dX6_weighSet_104 rfl (fun q => ?_) (fun q => ?_)
        · have hF := hF.1 q
          refine g_iload dX6_weighSet_118 rfl ?_
          refine g_aload_n dX6_weighSet_120 rfl ?_
          refine g_getI dX6_weighSet_121 fd_X6_57 hk.1 rfl ?_
          refine g_cge dX6_weighSet_124 rfl (fun q => ?_) (fun q => ?_)
          · have hF := hF.1 q
            exact gw_vret dX6_weighSet_138 rfl hF
          · have hF := hF.2 q
            refine g_aload_n dX6_weighSet_127 rfl ?_
            refine g_iload dX6_weighSet_128 rfl ?_
            let D2 : g_D := g_up D1 k 7 v5
            have hF := hF D2 rfl
            refine g_put dX6_weighSet_130 fd_X6_57 (g_ftyI (C := RX6) (T := TX6) (N := 9) rfl rfl (by decide +kernel)) hk.1 rfl ?_
            refine g_aload_n dX6_weighSet_133 rfl ?_
            refine g_iload_n dX6_weighSet_134 rfl ?_
            let D3 : g_D := g_up D2 k 8 v3
            have hF := hF D3 rfl
            refine g_put dX6_weighSet_135 fd_X6_82 (g_ftyI (C := RX6) (T := TX6) (N := 9) rfl rfl (by decide +kernel)) hk.1 rfl ?_
            exact gw_vret dX6_weighSet_138 rfl hF
        · have hF := hF.2 q
          refine g_aload_n dX6_weighSet_107 rfl ?_
          refine g_iload dX6_weighSet_108 rfl ?_
          let D4 : g_D := g_up D1 k 5 v4
          have hF := hF D4 rfl
          refine g_put dX6_weighSet_110 fd_X6_54 (g_ftyI (C := RX6) (T := TX6) (N := 9) rfl rfl (by decide +kernel)) hk.1 rfl ?_
          refine g_aload_n dX6_weighSet_113 rfl ?_
          refine g_iload_n dX6_weighSet_114 rfl ?_
          let D5 : g_D := g_up D4 k 6 v3
          have hF := hF D5 rfl
          refine g_put dX6_weighSet_115 fd_X6_79 (g_ftyI (C := RX6) (T := TX6) (N := 9) rfl rfl (by decide +kernel)) hk.1 rfl ?_
          refine g_iload dX6_weighSet_118 rfl ?_
          refine g_aload_n dX6_weighSet_120 rfl ?_
          refine g_getI dX6_weighSet_121 fd_X6_57 hk.1 rfl ?_
          refine g_cge dX6_weighSet_124 rfl (fun q => ?_) (fun q => ?_)
          · have hF := hF.1 q
            exact gw_vret dX6_weighSet_138 rfl hF
          · have hF := hF.2 q
            refine g_aload_n dX6_weighSet_127 rfl ?_
            refine g_iload dX6_weighSet_128 rfl ?_
            let D6 : g_D := g_up D5 k 7 v5
            have hF := hF D6 rfl
            refine g_put dX6_weighSet_130 fd_X6_57 (g_ftyI (C := RX6) (T := TX6) (N := 9) rfl rfl (by decide +kernel)) hk.1 rfl ?_
            refine g_aload_n dX6_weighSet_133 rfl ?_
            refine g_iload_n dX6_weighSet_134 rfl ?_
            let D7 : g_D := g_up D6 k 8 v3
            have hF := hF D7 rfl
            refine g_put dX6_weighSet_135 fd_X6_82 (g_ftyI (C := RX6) (T := TX6) (N := 9) rfl rfl (by decide +kernel)) hk.1 rfl ?_
            exact gw_vret dX6_weighSet_138 rfl hF
      · have hF := hF.2 q
        exact gw_vret dX6_weighSet_97 rfl hF
    · have hF := hF.2 q
      refine g_iload dX6_weighSet_61 rfl ?_
      refine g_aload_n dX6_weighSet_63 rfl ?_
      refine g_getI dX6_weighSet_64 fd_X6_57 hk.1 rfl ?_
      refine g_cge dX6_weighSet_67 rfl (fun q => ?_) (fun q => ?_)
      · have hF := hF.1 q
        refine g_iconst dX6_weighSet_74 ⟨by decide, by decide⟩ ?_
        refine gw_istore (L' := [some (g_R k), some (g_R r1), some (g_I v2), some (g_I v3), some (g_I v4), some (g_I v5), some (g_I 0)]) dX6_weighSet_75 (by decide) rfl ?_
        refine g_iload dX6_weighSet_77 rfl ?_
        refine g_ifeq dX6_weighSet_79 rfl (fun _ => ?_) (fun q => absurd q (by decide))
        exact gw_vret dX6_weighSet_97 rfl hF
      · have hF := hF.2 q
        refine g_iconst dX6_weighSet_70 ⟨by decide, by decide⟩ ?_
        refine g_goto dX6_weighSet_71 rfl ?_
        refine gw_istore (L' := [some (g_R k), some (g_R r1), some (g_I v2), some (g_I v3), some (g_I v4), some (g_I v5), some (g_I 1)]) dX6_weighSet_75 (by decide) rfl ?_
        refine g_iload dX6_weighSet_77 rfl ?_
        refine g_ifeq dX6_weighSet_79 rfl (fun q => absurd q (by decide)) (fun _ => ?_)
        refine g_aload_n dX6_weighSet_82 rfl ?_
        refine g_getR dX6_weighSet_83 fd_X6_41 hr1.1 rfl ?_
        refine g_iload_n dX6_weighSet_86 rfl ?_
        refine g_iload_n dX6_weighSet_87 rfl ?_
        refine g_iconst dX6_weighSet_88 ⟨by decide, by decide⟩ ?_
        refine g_ixor dX6_weighSet_89 ?_
        refine g_iand dX6_weighSet_90 ?_
        refine gw_cSi (As := [g_R (r1 + 5), g_I (g_and v2 (g_xor v3 (-1)))]) (rest := []) dX6_weighSet_91 ms_X6_75 rfl (Nat.le_of_ble_eq_true rfl) (by decide) rfl hF ?_
        intro x8 D8 hx8 hF
        have hF := hF hx8
        refine g_ifne dX6_weighSet_94 rfl (fun q => ?_) (fun q => ?_)
        · have hF := hF.1 q
          refine g_iload dX6_weighSet_98 rfl ?_
          refine g_aload_n dX6_weighSet_100 rfl ?_
          refine g_getI dX6_weighSet_101 fd_X6_54 hk.1 rfl ?_
          refine g_cge dX6_weighSet_104 rfl (fun q => ?_) (fun q => ?_)
          · have hF := hF.1 q
            refine g_iload dX6_weighSet_118 rfl ?_
            refine g_aload_n dX6_weighSet_120 rfl ?_
            refine g_getI dX6_weighSet_121 fd_X6_57 hk.1 rfl ?_
            refine g_cge dX6_weighSet_124 rfl (fun q => ?_) (fun q => ?_)
            · have hF := hF.1 q
              exact gw_vret dX6_weighSet_138 rfl hF
            · have hF := hF.2 q
              refine g_aload_n dX6_weighSet_127 rfl ?_
              refine g_iload dX6_weighSet_128 rfl ?_
              let D9 : g_D := g_up D8 k 7 v5
              have hF := hF D9 rfl
              refine g_put dX6_weighSet_130 fd_X6_57 (g_ftyI (C := RX6) (T := TX6) (N := 9) rfl rfl (by decide +kernel)) hk.1 rfl ?_
              refine g_aload_n dX6_weighSet_133 rfl ?_
              refine g_iload_n dX6_weighSet_134 rfl ?_
              let D10 : g_D := g_up D9 k 8 v3
              have hF := hF D10 rfl
              refine g_put dX6_weighSet_135 fd_X6_82 (g_ftyI (C := RX6) (T := TX6) (N := 9) rfl rfl (by decide +kernel)) hk.1 rfl ?_
              exact gw_vret dX6_weighSet_138 rfl hF
          · have hF := hF.2 q
            refine g_aload_n dX6_weighSet_107 rfl ?_
            refine g_iload dX6_weighSet_108 rfl ?_
            let D11 : g_D := g_up D8 k 5 v4
            have hF := hF D11 rfl
            refine g_put dX6_weighSet_110 fd_X6_54 (g_ftyI (C := RX6) (T := TX6) (N := 9) rfl rfl (by decide +kernel)) hk.1 rfl ?_
            refine g_aload_n dX6_weighSet_113 rfl ?_
            refine g_iload_n dX6_weighSet_114 rfl ?_
            let D12 : g_D := g_up D11 k 6 v3
            have hF := hF D12 rfl
            refine g_put dX6_weighSet_115 fd_X6_79 (g_ftyI (C := RX6) (T := TX6) (N := 9) rfl rfl (by decide +kernel)) hk.1 rfl ?_
            refine g_iload dX6_weighSet_118 rfl ?_
            refine g_aload_n dX6_weighSet_120 rfl ?_
            refine g_getI dX6_weighSet_121 fd_X6_57 hk.1 rfl ?_
            refine g_cge dX6_weighSet_124 rfl (fun q => ?_) (fun q => ?_)
            · have hF := hF.1 q
              exact gw_vret dX6_weighSet_138 rfl hF
            · have hF := hF.2 q
              refine g_aload_n dX6_weighSet_127 rfl ?_
              refine g_iload dX6_weighSet_128 rfl ?_
              let D13 : g_D := g_up D12 k 7 v5
              have hF := hF D13 rfl
              refine g_put dX6_weighSet_130 fd_X6_57 (g_ftyI (C := RX6) (T := TX6) (N := 9) rfl rfl (by decide +kernel)) hk.1 rfl ?_
              refine g_aload_n dX6_weighSet_133 rfl ?_
              refine g_iload_n dX6_weighSet_134 rfl ?_
              let D14 : g_D := g_up D13 k 8 v3
              have hF := hF D14 rfl
              refine g_put dX6_weighSet_135 fd_X6_82 (g_ftyI (C := RX6) (T := TX6) (N := 9) rfl rfl (by decide +kernel)) hk.1 rfl ?_
              exact gw_vret dX6_weighSet_138 rfl hF
        · have hF := hF.2 q
          exact gw_vret dX6_weighSet_97 rfl hF
  · have hF := hF.2 q
    refine g_iload dX6_weighSet_21 rfl ?_
    refine g_iload_n dX6_weighSet_23 rfl ?_
    refine g_iload dX6_weighSet_24 rfl ?_
    refine gw_cNi (As := [g_I v3, g_I v6]) (rest := [g_I v5]) dX6_weighSet_26 mn_X6_21 rfl (Nat.le_of_ble_eq_true rfl) (by decide) rfl hF ?_
    intro x15 D15 hx15 hF
    have hF := hF hx15
    refine g_ifeq dX6_weighSet_29 rfl (fun q => ?_) (fun q => ?_)
    · have hF := hF.1 q
      refine g_iconst dX6_weighSet_42 ⟨by decide, by decide⟩ ?_
      obtain ⟨hc, hF⟩ := hF
      refine g_iadd dX6_weighSet_43 hc ?_
      refine gw_istore (L' := [some (g_R k), some (g_R r1), some (g_I v2), some (g_I v3), some (g_I v4), some (g_I (v5 + 0)), some (g_I v6)]) dX6_weighSet_44 (by decide) rfl ?_
      obtain ⟨hc, hF⟩ := hF
      refine gw_iinc (L' := [some (g_R k), some (g_R r1), some (g_I v2), some (g_I v3), some (g_I v4), some (g_I (v5 + 0)), some (g_I (v6 + 1))]) dX6_weighSet_46 rfl hc (by decide) rfl ?_
      refine g_goto dX6_weighSet_49 rfl ?_
      exact hF
    · have hF := hF.2 q
      refine g_aload_n dX6_weighSet_32 rfl ?_
      refine g_getR dX6_weighSet_33 fd_X6_72 hr1.1 rfl ?_
      refine g_iload dX6_weighSet_36 rfl ?_
      obtain ⟨hc, hF⟩ := hF
      refine g_iald dX6_weighSet_38 hr1.2.2.2.2.1 hc.1 hc.2 ?_
      refine g_goto dX6_weighSet_39 rfl ?_
      obtain ⟨hc, hF⟩ := hF
      refine g_iadd dX6_weighSet_43 hc ?_
      refine gw_istore (L' := [some (g_R k), some (g_R r1), some (g_I v2), some (g_I v3), some (g_I v4), some (g_I (v5 + (D15 (r1 + 4) v6.toNat))), some (g_I v6)]) dX6_weighSet_44 (by decide) rfl ?_
      obtain ⟨hc, hF⟩ := hF
      refine gw_iinc (L' := [some (g_R k), some (g_R r1), some (g_I v2), some (g_I v3), some (g_I v4), some (g_I (v5 + (D15 (r1 + 4) v6.toNat))), some (g_I (v6 + 1))]) dX6_weighSet_46 rfl hc (by decide) rfl ?_
      refine g_goto dX6_weighSet_49 rfl ?_
      exact hF
theorem dX6_weigh_0 : decode cX6_weigh 0 = .ok (.aload_n 0, 1) := by decide +kernel
theorem dX6_weigh_1 : decode cX6_weigh 1 = .ok (.getfield 37, 3) := by decide +kernel
theorem dX6_weigh_4 : decode cX6_weigh 4 = .ok (.ifCond .eq 4, 3) := by decide +kernel
theorem dX6_weigh_7 : decode cX6_weigh 7 = .ok (.return_, 1) := by decide +kernel
theorem dX6_weigh_8 : decode cX6_weigh 8 = .ok (.aload_n 0, 1) := by decide +kernel
theorem dX6_weigh_9 : decode cX6_weigh 9 = .ok (.iconst 1, 1) := by decide +kernel
theorem dX6_weigh_10 : decode cX6_weigh 10 = .ok (.putfield 37, 3) := by decide +kernel
theorem dX6_weigh_13 : decode cX6_weigh 13 = .ok (.aload_n 0, 1) := by decide +kernel
theorem dX6_weigh_14 : decode cX6_weigh 14 = .ok (.aload_n 1, 1) := by decide +kernel
theorem dX6_weigh_15 : decode cX6_weigh 15 = .ok (.getfield 41, 3) := by decide +kernel
theorem dX6_weigh_18 : decode cX6_weigh 18 = .ok (.aload_n 1, 1) := by decide +kernel
theorem dX6_weigh_19 : decode cX6_weigh 19 = .ok (.invokevirtual 46, 3) := by decide +kernel
theorem dX6_weigh_22 : decode cX6_weigh 22 = .ok (.invokevirtual 50, 3) := by decide +kernel
theorem dX6_weigh_25 : decode cX6_weigh 25 = .ok (.istore_n 2, 1) := by decide +kernel
theorem dX6_weigh_26 : decode cX6_weigh 26 = .ok (.aload_n 0, 1) := by decide +kernel
theorem dX6_weigh_27 : decode cX6_weigh 27 = .ok (.ldc 53, 2) := by decide +kernel
theorem dX6_weigh_29 : decode cX6_weigh 29 = .ok (.putfield 54, 3) := by decide +kernel
theorem dX6_weigh_32 : decode cX6_weigh 32 = .ok (.aload_n 0, 1) := by decide +kernel
theorem dX6_weigh_33 : decode cX6_weigh 33 = .ok (.ldc 53, 2) := by decide +kernel
theorem dX6_weigh_35 : decode cX6_weigh 35 = .ok (.putfield 57, 3) := by decide +kernel
theorem dX6_weigh_38 : decode cX6_weigh 38 = .ok (.iconst 1, 1) := by decide +kernel
theorem dX6_weigh_39 : decode cX6_weigh 39 = .ok (.iload_n 2, 1) := by decide +kernel
theorem dX6_weigh_40 : decode cX6_weigh 40 = .ok (.invokestatic 60, 3) := by decide +kernel
theorem dX6_weigh_43 : decode cX6_weigh 43 = .ok (.ishl, 1) := by decide +kernel
theorem dX6_weigh_44 : decode cX6_weigh 44 = .ok (.istore_n 3, 1) := by decide +kernel
theorem dX6_weigh_45 : decode cX6_weigh 45 = .ok (.iconst 0, 1) := by decide +kernel
theorem dX6_weigh_46 : decode cX6_weigh 46 = .ok (.istore 4, 2) := by decide +kernel
theorem dX6_weigh_48 : decode cX6_weigh 48 = .ok (.iconst 0, 1) := by decide +kernel
theorem dX6_weigh_49 : decode cX6_weigh 49 = .ok (.istore 5, 2) := by decide +kernel
theorem dX6_weigh_51 : decode cX6_weigh 51 = .ok (.iload 5, 2) := by decide +kernel
theorem dX6_weigh_53 : decode cX6_weigh 53 = .ok (.iload_n 3, 1) := by decide +kernel
theorem dX6_weigh_54 : decode cX6_weigh 54 = .ok (.if_icmp .ge 25, 3) := by decide +kernel
theorem dX6_weigh_57 : decode cX6_weigh 57 = .ok (.aload_n 0, 1) := by decide +kernel
theorem dX6_weigh_58 : decode cX6_weigh 58 = .ok (.aload_n 1, 1) := by decide +kernel
theorem dX6_weigh_59 : decode cX6_weigh 59 = .ok (.iload_n 2, 1) := by decide +kernel
theorem dX6_weigh_60 : decode cX6_weigh 60 = .ok (.iload 4, 2) := by decide +kernel
theorem dX6_weigh_62 : decode cX6_weigh 62 = .ok (.invokevirtual 65, 3) := by decide +kernel
theorem dX6_weigh_65 : decode cX6_weigh 65 = .ok (.iload 4, 2) := by decide +kernel
theorem dX6_weigh_67 : decode cX6_weigh 67 = .ok (.iload_n 2, 1) := by decide +kernel
theorem dX6_weigh_68 : decode cX6_weigh 68 = .ok (.isub, 1) := by decide +kernel
theorem dX6_weigh_69 : decode cX6_weigh 69 = .ok (.iload_n 2, 1) := by decide +kernel
theorem dX6_weigh_70 : decode cX6_weigh 70 = .ok (.iand, 1) := by decide +kernel
theorem dX6_weigh_71 : decode cX6_weigh 71 = .ok (.istore 4, 2) := by decide +kernel
theorem dX6_weigh_73 : decode cX6_weigh 73 = .ok (.iinc 5 1, 3) := by decide +kernel
theorem dX6_weigh_76 : decode cX6_weigh 76 = .ok (.goto (-25), 3) := by decide +kernel
theorem dX6_weigh_79 : decode cX6_weigh 79 = .ok (.return_, 1) := by decide +kernel
abbrev k_X6_weigh (E : g_E) (l : Launch) (D : g_D) (k : Nat) (r1 : Nat) (K : g_D → Prop) : Prop := g_Kv E l m_X6_weigh 3 [g_R k, g_R r1] g_SH D K
abbrev n_X6_weigh (E : g_E) (l : Launch) (D : g_D) (pc : Nat) (L : List (Option g_V)) (K : g_D → Prop) : Prop := g_N E l m_X6_weigh 3 pc L [] g_SH D (g_Rv g_SH K)
theorem s_X6_weigh {E : g_E} {l : Launch} {D : g_D} {K : g_D → Prop} {k : Nat} {r1 : Nat} (hk : is_Rings g_SH k) (hr1 : is_Script g_SH r1) (hF : g_okD D → ((D k 4) = 0 → ∀ D1, D1 = g_up D k 4 1 → (k_X7_movers E l D1 r1 (fun x2 D2 => g_r x2 → k_X6_members E l D2 k (r1 + 5) x2 (fun x3 D3 => g_r x3 → ∀ D4, D4 = g_up D3 k 5 1048576 → (∀ D5, D5 = g_up D4 k 7 1048576 → (k_J6_bitCount_0f7a4 E l g_SH D5 x3 (fun x6 D6 => g_r x6 → n_X6_weigh E l D6 51 [some (g_R k), some (g_R r1), some (g_I x3), some (g_I (g_shl 1 x6)), some (g_I 0), some (g_I 0)] K))))))) ∧ (¬ (D k 4) = 0 → K D)) : k_X6_weigh E l D k r1 K := by
  refine g_enter (by decide) (Nat.le_of_ble_eq_true rfl) ?_
  show g_N E l m_X6_weigh 3 0 [some (g_R k), some (g_R r1), none, none, none, none] [] g_SH D (g_Rv g_SH K)
  refine g_use (fun ok => ?_)
  have hF := hF ok.2.1
  refine g_aload_n dX6_weigh_0 rfl ?_
  refine g_getI dX6_weigh_1 fd_X6_37 hk.1 rfl ?_
  refine g_ifeq dX6_weigh_4 rfl (fun q => ?_) (fun q => ?_)
  · have hF := hF.1 q
    refine g_aload_n dX6_weigh_8 rfl ?_
    refine g_iconst dX6_weigh_9 ⟨by decide, by decide⟩ ?_
    let D1 : g_D := g_up D k 4 1
    have hF := hF D1 rfl
    refine g_put dX6_weigh_10 fd_X6_37 (g_ftyZ (C := RX6) (T := TX6) (N := 9) rfl rfl (by decide +kernel) (by decide)) hk.1 rfl ?_
    refine g_aload_n dX6_weigh_13 rfl ?_
    refine g_aload_n dX6_weigh_14 rfl ?_
    refine g_getR dX6_weigh_15 fd_X6_41 hr1.1 rfl ?_
    refine g_aload_n dX6_weigh_18 rfl ?_
    refine gw_cVi (b := r1) (As := []) (rest := [g_R (r1 + 5), g_R k]) dX6_weigh_19 mv_X6_46 hr1.1 rfl (Nat.le_of_ble_eq_true rfl) (by decide) rfl hF ?_
    intro x2 D2 hx2 hF
    have hF := hF hx2
    refine gw_cVi (b := k) (As := [g_R (r1 + 5), g_I x2]) (rest := []) dX6_weigh_22 mv_X6_50 hk.1 rfl (Nat.le_of_ble_eq_true rfl) (by decide) rfl hF ?_
    intro x3 D3 hx3 hF
    have hF := hF hx3
    refine gw_istore_n (L' := [some (g_R k), some (g_R r1), some (g_I x3), none, none, none]) dX6_weigh_25 (by decide) rfl ?_
    refine g_aload_n dX6_weigh_26 rfl ?_
    refine g_ldc dX6_weigh_27 ⟨by decide, by decide⟩ kc_X6_53 ?_
    let D4 : g_D := g_up D3 k 5 1048576
    have hF := hF D4 rfl
    refine g_put dX6_weigh_29 fd_X6_54 (g_ftyI (C := RX6) (T := TX6) (N := 9) rfl rfl (by decide +kernel)) hk.1 rfl ?_
    refine g_aload_n dX6_weigh_32 rfl ?_
    refine g_ldc dX6_weigh_33 ⟨by decide, by decide⟩ kc_X6_53 ?_
    let D5 : g_D := g_up D4 k 7 1048576
    have hF := hF D5 rfl
    refine g_put dX6_weigh_35 fd_X6_57 (g_ftyI (C := RX6) (T := TX6) (N := 9) rfl rfl (by decide +kernel)) hk.1 rfl ?_
    refine g_iconst dX6_weigh_38 ⟨by decide, by decide⟩ ?_
    refine g_iload_n dX6_weigh_39 rfl ?_
    refine gw_cSi (As := [g_I x3]) (rest := [g_I 1]) dX6_weigh_40 ms_X6_60 rfl (Nat.le_of_ble_eq_true rfl) (by decide) rfl hF ?_
    intro x6 D6 hx6 hF
    have hF := hF hx6
    refine g_ishl dX6_weigh_43 ?_
    refine gw_istore_n (L' := [some (g_R k), some (g_R r1), some (g_I x3), some (g_I (g_shl 1 x6)), none, none]) dX6_weigh_44 (by decide) rfl ?_
    refine g_iconst dX6_weigh_45 ⟨by decide, by decide⟩ ?_
    refine gw_istore (L' := [some (g_R k), some (g_R r1), some (g_I x3), some (g_I (g_shl 1 x6)), some (g_I 0), none]) dX6_weigh_46 (by decide) rfl ?_
    refine g_iconst dX6_weigh_48 ⟨by decide, by decide⟩ ?_
    refine gw_istore (L' := [some (g_R k), some (g_R r1), some (g_I x3), some (g_I (g_shl 1 x6)), some (g_I 0), some (g_I 0)]) dX6_weigh_49 (by decide) rfl ?_
    exact hF
  · have hF := hF.2 q
    exact gw_vret dX6_weigh_7 rfl hF
theorem s_X6_weigh_51 {E : g_E} {l : Launch} {D : g_D} {K : g_D → Prop} {k : Nat} {r1 : Nat} {v2 : Int} {v3 : Int} {v4 : Int} {v5 : Int} (hk : is_Rings g_SH k) (hr1 : is_Script g_SH r1) (hF : g_okD D → g_r v2 → g_r v3 → g_r v4 → g_r v5 → (v3 ≤ v5 → K D) ∧ (¬ v3 ≤ v5 → k_X6_weighSet E l D k r1 v2 v4 (fun D1 => (g_r (v4 - v2)) ∧ ((g_r (v5 + 1)) ∧ (n_X6_weigh E l D1 51 [some (g_R k), some (g_R r1), some (g_I v2), some (g_I v3), some (g_I (g_and (v4 - v2) v2)), some (g_I (v5 + 1))] K))))) : n_X6_weigh E l D 51 [some (g_R k), some (g_R r1), some (g_I v2), some (g_I v3), some (g_I v4), some (g_I v5)] K := by
  refine g_use (fun ok => ?_)
  have hF := hF ok.2.1 (ok.loc (i := 2) rfl) (ok.loc (i := 3) rfl) (ok.loc (i := 4) rfl) (ok.loc (i := 5) rfl)
  refine g_iload dX6_weigh_51 rfl ?_
  refine g_iload_n dX6_weigh_53 rfl ?_
  refine g_cge dX6_weigh_54 rfl (fun q => ?_) (fun q => ?_)
  · have hF := hF.1 q
    exact gw_vret dX6_weigh_79 rfl hF
  · have hF := hF.2 q
    refine g_aload_n dX6_weigh_57 rfl ?_
    refine g_aload_n dX6_weigh_58 rfl ?_
    refine g_iload_n dX6_weigh_59 rfl ?_
    refine g_iload dX6_weigh_60 rfl ?_
    refine gw_cVv (b := k) (As := [g_R r1, g_I v2, g_I v4]) (rest := []) dX6_weigh_62 mv_X6_65 hk.1 rfl (Nat.le_of_ble_eq_true rfl) (by decide) rfl hF ?_
    intro D1 hF
    refine g_iload dX6_weigh_65 rfl ?_
    refine g_iload_n dX6_weigh_67 rfl ?_
    obtain ⟨hc, hF⟩ := hF
    refine g_isub dX6_weigh_68 hc ?_
    refine g_iload_n dX6_weigh_69 rfl ?_
    refine g_iand dX6_weigh_70 ?_
    refine gw_istore (L' := [some (g_R k), some (g_R r1), some (g_I v2), some (g_I v3), some (g_I (g_and (v4 - v2) v2)), some (g_I v5)]) dX6_weigh_71 (by decide) rfl ?_
    obtain ⟨hc, hF⟩ := hF
    refine gw_iinc (L' := [some (g_R k), some (g_R r1), some (g_I v2), some (g_I v3), some (g_I (g_and (v4 - v2) v2)), some (g_I (v5 + 1))]) dX6_weigh_73 rfl hc (by decide) rfl ?_
    refine g_goto dX6_weigh_76 rfl ?_
    exact hF
theorem dX7_leastSize_0 : decode cX7_leastSize 0 = .ok (.aload_n 0, 1) := by decide +kernel
theorem dX7_leastSize_1 : decode cX7_leastSize 1 = .ok (.getfield 34, 3) := by decide +kernel
theorem dX7_leastSize_4 : decode cX7_leastSize 4 = .ok (.ldc 99, 2) := by decide +kernel
theorem dX7_leastSize_6 : decode cX7_leastSize 6 = .ok (.invokestatic 89, 3) := by decide +kernel
theorem dX7_leastSize_9 : decode cX7_leastSize 9 = .ok (.aload_n 0, 1) := by decide +kernel
theorem dX7_leastSize_10 : decode cX7_leastSize 10 = .ok (.getfield 37, 3) := by decide +kernel
theorem dX7_leastSize_13 : decode cX7_leastSize 13 = .ok (.ldc 99, 2) := by decide +kernel
theorem dX7_leastSize_15 : decode cX7_leastSize 15 = .ok (.invokestatic 89, 3) := by decide +kernel
theorem dX7_leastSize_18 : decode cX7_leastSize 18 = .ok (.aload_n 0, 1) := by decide +kernel
theorem dX7_leastSize_19 : decode cX7_leastSize 19 = .ok (.getfield 34, 3) := by decide +kernel
theorem dX7_leastSize_22 : decode cX7_leastSize 22 = .ok (.iconst 0, 1) := by decide +kernel
theorem dX7_leastSize_23 : decode cX7_leastSize 23 = .ok (.iconst 1, 1) := by decide +kernel
theorem dX7_leastSize_24 : decode cX7_leastSize 24 = .ok (.iastore, 1) := by decide +kernel
theorem dX7_leastSize_25 : decode cX7_leastSize 25 = .ok (.iconst 0, 1) := by decide +kernel
theorem dX7_leastSize_26 : decode cX7_leastSize 26 = .ok (.istore 4, 2) := by decide +kernel
theorem dX7_leastSize_28 : decode cX7_leastSize 28 = .ok (.iload 4, 2) := by decide +kernel
theorem dX7_leastSize_30 : decode cX7_leastSize 30 = .ok (.aload_n 2, 1) := by decide +kernel
theorem dX7_leastSize_31 : decode cX7_leastSize 31 = .ok (.getfield 53, 3) := by decide +kernel
theorem dX7_leastSize_34 : decode cX7_leastSize 34 = .ok (.if_icmp .ge 150, 3) := by decide +kernel
theorem dX7_leastSize_37 : decode cX7_leastSize 37 = .ok (.aload_n 0, 1) := by decide +kernel
theorem dX7_leastSize_38 : decode cX7_leastSize 38 = .ok (.getfield 37, 3) := by decide +kernel
theorem dX7_leastSize_41 : decode cX7_leastSize 41 = .ok (.iload 4, 2) := by decide +kernel
theorem dX7_leastSize_43 : decode cX7_leastSize 43 = .ok (.iconst 1, 1) := by decide +kernel
theorem dX7_leastSize_44 : decode cX7_leastSize 44 = .ok (.iadd, 1) := by decide +kernel
theorem dX7_leastSize_45 : decode cX7_leastSize 45 = .ok (.aload_n 0, 1) := by decide +kernel
theorem dX7_leastSize_46 : decode cX7_leastSize 46 = .ok (.getfield 34, 3) := by decide +kernel
theorem dX7_leastSize_49 : decode cX7_leastSize 49 = .ok (.iload 4, 2) := by decide +kernel
theorem dX7_leastSize_51 : decode cX7_leastSize 51 = .ok (.iaload, 1) := by decide +kernel
theorem dX7_leastSize_52 : decode cX7_leastSize 52 = .ok (.iconst 3, 1) := by decide +kernel
theorem dX7_leastSize_53 : decode cX7_leastSize 53 = .ok (.iadd, 1) := by decide +kernel
theorem dX7_leastSize_54 : decode cX7_leastSize 54 = .ok (.aload_n 0, 1) := by decide +kernel
theorem dX7_leastSize_55 : decode cX7_leastSize 55 = .ok (.getfield 37, 3) := by decide +kernel
theorem dX7_leastSize_58 : decode cX7_leastSize 58 = .ok (.iload 4, 2) := by decide +kernel
theorem dX7_leastSize_60 : decode cX7_leastSize 60 = .ok (.iaload, 1) := by decide +kernel
theorem dX7_leastSize_61 : decode cX7_leastSize 61 = .ok (.invokestatic 100, 3) := by decide +kernel
theorem dX7_leastSize_64 : decode cX7_leastSize 64 = .ok (.iconst 1, 1) := by decide +kernel
theorem dX7_leastSize_65 : decode cX7_leastSize 65 = .ok (.iadd, 1) := by decide +kernel
theorem dX7_leastSize_66 : decode cX7_leastSize 66 = .ok (.iastore, 1) := by decide +kernel
theorem dX7_leastSize_67 : decode cX7_leastSize 67 = .ok (.aload_n 0, 1) := by decide +kernel
theorem dX7_leastSize_68 : decode cX7_leastSize 68 = .ok (.aload_n 1, 1) := by decide +kernel
theorem dX7_leastSize_69 : decode cX7_leastSize 69 = .ok (.aload_n 2, 1) := by decide +kernel
theorem dX7_leastSize_70 : decode cX7_leastSize 70 = .ok (.iload 4, 2) := by decide +kernel
theorem dX7_leastSize_72 : decode cX7_leastSize 72 = .ok (.iconst 0, 1) := by decide +kernel
theorem dX7_leastSize_73 : decode cX7_leastSize 73 = .ok (.invokevirtual 74, 3) := by decide +kernel
theorem dX7_leastSize_76 : decode cX7_leastSize 76 = .ok (.aload_n 0, 1) := by decide +kernel
theorem dX7_leastSize_77 : decode cX7_leastSize 77 = .ok (.getfield 34, 3) := by decide +kernel
theorem dX7_leastSize_80 : decode cX7_leastSize 80 = .ok (.iload 4, 2) := by decide +kernel
theorem dX7_leastSize_82 : decode cX7_leastSize 82 = .ok (.iaload, 1) := by decide +kernel
theorem dX7_leastSize_83 : decode cX7_leastSize 83 = .ok (.aload_n 0, 1) := by decide +kernel
theorem dX7_leastSize_84 : decode cX7_leastSize 84 = .ok (.getfield 37, 3) := by decide +kernel
theorem dX7_leastSize_87 : decode cX7_leastSize 87 = .ok (.iload 4, 2) := by decide +kernel
theorem dX7_leastSize_89 : decode cX7_leastSize 89 = .ok (.iaload, 1) := by decide +kernel
theorem dX7_leastSize_90 : decode cX7_leastSize 90 = .ok (.invokestatic 100, 3) := by decide +kernel
theorem dX7_leastSize_93 : decode cX7_leastSize 93 = .ok (.istore 5, 2) := by decide +kernel
theorem dX7_leastSize_95 : decode cX7_leastSize 95 = .ok (.aload_n 1, 1) := by decide +kernel
theorem dX7_leastSize_96 : decode cX7_leastSize 96 = .ok (.iload 4, 2) := by decide +kernel
theorem dX7_leastSize_98 : decode cX7_leastSize 98 = .ok (.aload_n 2, 1) := by decide +kernel
theorem dX7_leastSize_99 : decode cX7_leastSize 99 = .ok (.iload 4, 2) := by decide +kernel
theorem dX7_leastSize_101 : decode cX7_leastSize 101 = .ok (.invokevirtual 56, 3) := by decide +kernel
theorem dX7_leastSize_104 : decode cX7_leastSize 104 = .ok (.istore 6, 2) := by decide +kernel
theorem dX7_leastSize_106 : decode cX7_leastSize 106 = .ok (.iload_n 3, 1) := by decide +kernel
theorem dX7_leastSize_107 : decode cX7_leastSize 107 = .ok (.istore 7, 2) := by decide +kernel
theorem dX7_leastSize_109 : decode cX7_leastSize 109 = .ok (.iload 7, 2) := by decide +kernel
theorem dX7_leastSize_111 : decode cX7_leastSize 111 = .ok (.aload_n 0, 1) := by decide +kernel
theorem dX7_leastSize_112 : decode cX7_leastSize 112 = .ok (.getfield 44, 3) := by decide +kernel
theorem dX7_leastSize_115 : decode cX7_leastSize 115 = .ok (.if_icmp .gt 63, 3) := by decide +kernel
theorem dX7_leastSize_118 : decode cX7_leastSize 118 = .ok (.iload 4, 2) := by decide +kernel
theorem dX7_leastSize_120 : decode cX7_leastSize 120 = .ok (.iload 7, 2) := by decide +kernel
theorem dX7_leastSize_122 : decode cX7_leastSize 122 = .ok (.iadd, 1) := by decide +kernel
theorem dX7_leastSize_123 : decode cX7_leastSize 123 = .ok (.aload_n 2, 1) := by decide +kernel
theorem dX7_leastSize_124 : decode cX7_leastSize 124 = .ok (.getfield 53, 3) := by decide +kernel
theorem dX7_leastSize_127 : decode cX7_leastSize 127 = .ok (.if_icmp .gt 51, 3) := by decide +kernel
theorem dX7_leastSize_130 : decode cX7_leastSize 130 = .ok (.iload 5, 2) := by decide +kernel
theorem dX7_leastSize_132 : decode cX7_leastSize 132 = .ok (.iload 7, 2) := by decide +kernel
theorem dX7_leastSize_134 : decode cX7_leastSize 134 = .ok (.iload 6, 2) := by decide +kernel
theorem dX7_leastSize_136 : decode cX7_leastSize 136 = .ok (.if_icmp .gt 7, 3) := by decide +kernel
theorem dX7_leastSize_139 : decode cX7_leastSize 139 = .ok (.iconst 0, 1) := by decide +kernel
theorem dX7_leastSize_140 : decode cX7_leastSize 140 = .ok (.goto 4, 3) := by decide +kernel
theorem dX7_leastSize_143 : decode cX7_leastSize 143 = .ok (.iconst 4, 1) := by decide +kernel
theorem dX7_leastSize_144 : decode cX7_leastSize 144 = .ok (.iadd, 1) := by decide +kernel
theorem dX7_leastSize_145 : decode cX7_leastSize 145 = .ok (.istore 8, 2) := by decide +kernel
theorem dX7_leastSize_147 : decode cX7_leastSize 147 = .ok (.aload_n 0, 1) := by decide +kernel
theorem dX7_leastSize_148 : decode cX7_leastSize 148 = .ok (.getfield 34, 3) := by decide +kernel
theorem dX7_leastSize_151 : decode cX7_leastSize 151 = .ok (.iload 4, 2) := by decide +kernel
theorem dX7_leastSize_153 : decode cX7_leastSize 153 = .ok (.iload 7, 2) := by decide +kernel
theorem dX7_leastSize_155 : decode cX7_leastSize 155 = .ok (.iadd, 1) := by decide +kernel
theorem dX7_leastSize_156 : decode cX7_leastSize 156 = .ok (.aload_n 0, 1) := by decide +kernel
theorem dX7_leastSize_157 : decode cX7_leastSize 157 = .ok (.getfield 34, 3) := by decide +kernel
theorem dX7_leastSize_160 : decode cX7_leastSize 160 = .ok (.iload 4, 2) := by decide +kernel
theorem dX7_leastSize_162 : decode cX7_leastSize 162 = .ok (.iload 7, 2) := by decide +kernel
theorem dX7_leastSize_164 : decode cX7_leastSize 164 = .ok (.iadd, 1) := by decide +kernel
theorem dX7_leastSize_165 : decode cX7_leastSize 165 = .ok (.iaload, 1) := by decide +kernel
theorem dX7_leastSize_166 : decode cX7_leastSize 166 = .ok (.iload 8, 2) := by decide +kernel
theorem dX7_leastSize_168 : decode cX7_leastSize 168 = .ok (.invokestatic 100, 3) := by decide +kernel
theorem dX7_leastSize_171 : decode cX7_leastSize 171 = .ok (.iastore, 1) := by decide +kernel
theorem dX7_leastSize_172 : decode cX7_leastSize 172 = .ok (.iinc 7 1, 3) := by decide +kernel
theorem dX7_leastSize_175 : decode cX7_leastSize 175 = .ok (.goto (-66), 3) := by decide +kernel
theorem dX7_leastSize_178 : decode cX7_leastSize 178 = .ok (.iinc 4 1, 3) := by decide +kernel
theorem dX7_leastSize_181 : decode cX7_leastSize 181 = .ok (.goto (-153), 3) := by decide +kernel
theorem dX7_leastSize_184 : decode cX7_leastSize 184 = .ok (.aload_n 0, 1) := by decide +kernel
theorem dX7_leastSize_185 : decode cX7_leastSize 185 = .ok (.getfield 34, 3) := by decide +kernel
theorem dX7_leastSize_188 : decode cX7_leastSize 188 = .ok (.aload_n 2, 1) := by decide +kernel
theorem dX7_leastSize_189 : decode cX7_leastSize 189 = .ok (.getfield 53, 3) := by decide +kernel
theorem dX7_leastSize_192 : decode cX7_leastSize 192 = .ok (.iaload, 1) := by decide +kernel
theorem dX7_leastSize_193 : decode cX7_leastSize 193 = .ok (.aload_n 0, 1) := by decide +kernel
theorem dX7_leastSize_194 : decode cX7_leastSize 194 = .ok (.getfield 37, 3) := by decide +kernel
theorem dX7_leastSize_197 : decode cX7_leastSize 197 = .ok (.aload_n 2, 1) := by decide +kernel
theorem dX7_leastSize_198 : decode cX7_leastSize 198 = .ok (.getfield 53, 3) := by decide +kernel
theorem dX7_leastSize_201 : decode cX7_leastSize 201 = .ok (.iaload, 1) := by decide +kernel
theorem dX7_leastSize_202 : decode cX7_leastSize 202 = .ok (.invokestatic 100, 3) := by decide +kernel
theorem dX7_leastSize_205 : decode cX7_leastSize 205 = .ok (.ireturn, 1) := by decide +kernel
abbrev k_X7_leastSize (E : g_E) (l : Launch) (D : g_D) (k : Nat) (r1 : Nat) (r2 : Nat) (v3 : Int) (K : Int → g_D → Prop) : Prop := g_Ki E l m_X7_leastSize 3 [g_R k, g_R r1, g_R r2, g_I v3] g_SH D K
abbrev n_X7_leastSize (E : g_E) (l : Launch) (D : g_D) (pc : Nat) (L : List (Option g_V)) (K : Int → g_D → Prop) : Prop := g_N E l m_X7_leastSize 3 pc L [] g_SH D (g_Ri g_SH K)
theorem s_X7_leastSize {E : g_E} {l : Launch} {D : g_D} {K : Int → g_D → Prop} {nr1 : Nat} {nr2 : Nat} {k : Nat} {r1 : Nat} {r2 : Nat} {v3 : Int} (hk : is_Script g_SH k) (hr1 : is_Cells g_SH r1 nr1) (hr2 : is_Cells g_SH r2 nr2) (hF : g_okD D → g_r v3 → k_J7_fill_53178 E l g_SH D (k + 10) 1048576 (fun D1 => k_J7_fill_53178 E l g_SH D1 (k + 11) 1048576 (fun D2 => ∀ D3, D3 = g_up D2 (k + 10) 0 1 → (n_X7_leastSize E l D3 28 [some (g_R k), some (g_R r1), some (g_R r2), some (g_I v3), some (g_I 0), none, none, none, none] K)))) : k_X7_leastSize E l D k r1 r2 v3 K := by
  refine g_enter (by decide) (Nat.le_of_ble_eq_true rfl) ?_
  show g_N E l m_X7_leastSize 3 0 [some (g_R k), some (g_R r1), some (g_R r2), some (g_I v3), none, none, none, none, none] [] g_SH D (g_Ri g_SH K)
  refine g_use (fun ok => ?_)
  have hF := hF ok.2.1 (ok.loc (i := 3) rfl)
  refine g_aload_n dX7_leastSize_0 rfl ?_
  refine g_getR dX7_leastSize_1 fd_X7_34 hk.1 rfl ?_
  refine g_ldc dX7_leastSize_4 ⟨by decide, by decide⟩ kc_X7_99 ?_
  refine gw_cSv (As := [g_R (k + 10), g_I 1048576]) (rest := []) dX7_leastSize_6 ms_X7_89 rfl (Nat.le_of_ble_eq_true rfl) (by decide) rfl hF ?_
  intro D1 hF
  refine g_aload_n dX7_leastSize_9 rfl ?_
  refine g_getR dX7_leastSize_10 fd_X7_37 hk.1 rfl ?_
  refine g_ldc dX7_leastSize_13 ⟨by decide, by decide⟩ kc_X7_99 ?_
  refine gw_cSv (As := [g_R (k + 11), g_I 1048576]) (rest := []) dX7_leastSize_15 ms_X7_89 rfl (Nat.le_of_ble_eq_true rfl) (by decide) rfl hF ?_
  intro D2 hF
  refine g_aload_n dX7_leastSize_18 rfl ?_
  refine g_getR dX7_leastSize_19 fd_X7_34 hk.1 rfl ?_
  refine g_iconst dX7_leastSize_22 ⟨by decide, by decide⟩ ?_
  refine g_iconst dX7_leastSize_23 ⟨by decide, by decide⟩ ?_
  let D3 : g_D := g_up D2 (k + 10) 0 1
  have hF := hF D3 rfl
  refine g_iast dX7_leastSize_24 hk.2.2.2.2.2.2.2.2.2.2.1 (by decide) (by decide) ?_
  refine g_iconst dX7_leastSize_25 ⟨by decide, by decide⟩ ?_
  refine gw_istore (L' := [some (g_R k), some (g_R r1), some (g_R r2), some (g_I v3), some (g_I 0), none, none, none, none]) dX7_leastSize_26 (by decide) rfl ?_
  exact hF
theorem s_X7_leastSize_28 {E : g_E} {l : Launch} {D : g_D} {K : Int → g_D → Prop} {nr1 : Nat} {nr2 : Nat} {k : Nat} {r1 : Nat} {r2 : Nat} {v3 : Int} {v4 : Int} (hk : is_Script g_SH k) (hr1 : is_Cells g_SH r1 nr1) (hr2 : is_Cells g_SH r2 nr2) (hF : g_okD D → g_r v3 → g_r v4 → ((D r2 1) ≤ v4 → (0 ≤ (D r2 1) ∧ (D r2 1) < 41) ∧ ((0 ≤ (D r2 1) ∧ (D r2 1) < 41) ∧ (K (min (D (k + 10) (D r2 1).toNat) (D (k + 11) (D r2 1).toNat)) D))) ∧ (¬ (D r2 1) ≤ v4 → (g_r (v4 + 1)) ∧ ((0 ≤ v4 ∧ v4 < 41) ∧ ((g_r ((D (k + 10) v4.toNat) + 3)) ∧ ((0 ≤ v4 ∧ v4 < 41) ∧ ((g_r ((min ((D (k + 10) v4.toNat) + 3) (D (k + 11) v4.toNat)) + 1)) ∧ ((0 ≤ (v4 + 1) ∧ (v4 + 1) < 41) ∧ (∀ D1, D1 = g_up D (k + 11) (v4 + 1).toNat ((min ((D (k + 10) v4.toNat) + 3) (D (k + 11) v4.toNat)) + 1) → (k_X7_findRun E l D1 k r1 r2 v4 0 (fun D2 => (0 ≤ v4 ∧ v4 < 41) ∧ ((0 ≤ v4 ∧ v4 < 41) ∧ (k_X0_alike E l g_SH D2 r1 v4 r2 v4 (fun x3 D3 => g_r x3 → n_X7_leastSize E l D3 109 [some (g_R k), some (g_R r1), some (g_R r2), some (g_I v3), some (g_I v4), some (g_I (min (D2 (k + 10) v4.toNat) (D2 (k + 11) v4.toNat))), some (g_I x3), some (g_I v3), none] K))))))))))))) : n_X7_leastSize E l D 28 [some (g_R k), some (g_R r1), some (g_R r2), some (g_I v3), some (g_I v4), none, none, none, none] K := by
  refine g_use (fun ok => ?_)
  have hF := hF ok.2.1 (ok.loc (i := 3) rfl) (ok.loc (i := 4) rfl)
  refine g_iload dX7_leastSize_28 rfl ?_
  refine g_aload_n dX7_leastSize_30 rfl ?_
  refine g_getI dX7_leastSize_31 fd_X7_53 hr2.1 rfl ?_
  refine g_cge dX7_leastSize_34 rfl (fun q => ?_) (fun q => ?_)
  · have hF := hF.1 q
    refine g_aload_n dX7_leastSize_184 rfl ?_
    refine g_getR dX7_leastSize_185 fd_X7_34 hk.1 rfl ?_
    refine g_aload_n dX7_leastSize_188 rfl ?_
    refine g_getI dX7_leastSize_189 fd_X7_53 hr2.1 rfl ?_
    obtain ⟨hc, hF⟩ := hF
    refine g_iald dX7_leastSize_192 hk.2.2.2.2.2.2.2.2.2.2.1 hc.1 hc.2 ?_
    refine g_aload_n dX7_leastSize_193 rfl ?_
    refine g_getR dX7_leastSize_194 fd_X7_37 hk.1 rfl ?_
    refine g_aload_n dX7_leastSize_197 rfl ?_
    refine g_getI dX7_leastSize_198 fd_X7_53 hr2.1 rfl ?_
    obtain ⟨hc, hF⟩ := hF
    refine g_iald dX7_leastSize_201 hk.2.2.2.2.2.2.2.2.2.2.2 hc.1 hc.2 ?_
    refine g_min dX7_leastSize_202 mw_X7_100 (by decide) (Nat.le_refl _) (Nat.le_refl _) (Nat.le_of_ble_eq_true rfl) ?_
    exact gw_iret dX7_leastSize_205 rfl hF
  · have hF := hF.2 q
    refine g_aload_n dX7_leastSize_37 rfl ?_
    refine g_getR dX7_leastSize_38 fd_X7_37 hk.1 rfl ?_
    refine g_iload dX7_leastSize_41 rfl ?_
    refine g_iconst dX7_leastSize_43 ⟨by decide, by decide⟩ ?_
    obtain ⟨hc, hF⟩ := hF
    refine g_iadd dX7_leastSize_44 hc ?_
    refine g_aload_n dX7_leastSize_45 rfl ?_
    refine g_getR dX7_leastSize_46 fd_X7_34 hk.1 rfl ?_
    refine g_iload dX7_leastSize_49 rfl ?_
    obtain ⟨hc, hF⟩ := hF
    refine g_iald dX7_leastSize_51 hk.2.2.2.2.2.2.2.2.2.2.1 hc.1 hc.2 ?_
    refine g_iconst dX7_leastSize_52 ⟨by decide, by decide⟩ ?_
    obtain ⟨hc, hF⟩ := hF
    refine g_iadd dX7_leastSize_53 hc ?_
    refine g_aload_n dX7_leastSize_54 rfl ?_
    refine g_getR dX7_leastSize_55 fd_X7_37 hk.1 rfl ?_
    refine g_iload dX7_leastSize_58 rfl ?_
    obtain ⟨hc, hF⟩ := hF
    refine g_iald dX7_leastSize_60 hk.2.2.2.2.2.2.2.2.2.2.2 hc.1 hc.2 ?_
    refine g_min dX7_leastSize_61 mw_X7_100 (by decide) (Nat.le_refl _) (Nat.le_refl _) (Nat.le_of_ble_eq_true rfl) ?_
    refine g_iconst dX7_leastSize_64 ⟨by decide, by decide⟩ ?_
    obtain ⟨hc, hF⟩ := hF
    refine g_iadd dX7_leastSize_65 hc ?_
    obtain ⟨hc, hF⟩ := hF
    let D1 : g_D := g_up D (k + 11) (v4 + 1).toNat ((min ((D (k + 10) v4.toNat) + 3) (D (k + 11) v4.toNat)) + 1)
    have hF := hF D1 rfl
    refine g_iast dX7_leastSize_66 hk.2.2.2.2.2.2.2.2.2.2.2 hc.1 hc.2 ?_
    refine g_aload_n dX7_leastSize_67 rfl ?_
    refine g_aload_n dX7_leastSize_68 rfl ?_
    refine g_aload_n dX7_leastSize_69 rfl ?_
    refine g_iload dX7_leastSize_70 rfl ?_
    refine g_iconst dX7_leastSize_72 ⟨by decide, by decide⟩ ?_
    refine gw_cVv (b := k) (As := [g_R r1, g_R r2, g_I v4, g_I 0]) (rest := []) dX7_leastSize_73 mv_X7_74 hk.1 rfl (Nat.le_of_ble_eq_true rfl) (by decide) rfl hF ?_
    intro D2 hF
    refine g_aload_n dX7_leastSize_76 rfl ?_
    refine g_getR dX7_leastSize_77 fd_X7_34 hk.1 rfl ?_
    refine g_iload dX7_leastSize_80 rfl ?_
    obtain ⟨hc, hF⟩ := hF
    refine g_iald dX7_leastSize_82 hk.2.2.2.2.2.2.2.2.2.2.1 hc.1 hc.2 ?_
    refine g_aload_n dX7_leastSize_83 rfl ?_
    refine g_getR dX7_leastSize_84 fd_X7_37 hk.1 rfl ?_
    refine g_iload dX7_leastSize_87 rfl ?_
    obtain ⟨hc, hF⟩ := hF
    refine g_iald dX7_leastSize_89 hk.2.2.2.2.2.2.2.2.2.2.2 hc.1 hc.2 ?_
    refine g_min dX7_leastSize_90 mw_X7_100 (by decide) (Nat.le_refl _) (Nat.le_refl _) (Nat.le_of_ble_eq_true rfl) ?_
    refine gw_istore (L' := [some (g_R k), some (g_R r1), some (g_R r2), some (g_I v3), some (g_I v4), some (g_I (min (D2 (k + 10) v4.toNat) (D2 (k + 11) v4.toNat))), none, none, none]) dX7_leastSize_93 (by decide) rfl ?_
    refine g_aload_n dX7_leastSize_95 rfl ?_
    refine g_iload dX7_leastSize_96 rfl ?_
    refine g_aload_n dX7_leastSize_98 rfl ?_
    refine g_iload dX7_leastSize_99 rfl ?_
    refine gw_cVi (b := r1) (As := [g_I v4, g_R r2, g_I v4]) (rest := []) dX7_leastSize_101 mv_X7_56 hr1.1 rfl (Nat.le_of_ble_eq_true rfl) (by decide) rfl hF ?_
    intro x3 D3 hx3 hF
    have hF := hF hx3
    refine gw_istore (L' := [some (g_R k), some (g_R r1), some (g_R r2), some (g_I v3), some (g_I v4), some (g_I (min (D2 (k + 10) v4.toNat) (D2 (k + 11) v4.toNat))), some (g_I x3), none, none]) dX7_leastSize_104 (by decide) rfl ?_
    refine g_iload_n dX7_leastSize_106 rfl ?_
    refine gw_istore (L' := [some (g_R k), some (g_R r1), some (g_R r2), some (g_I v3), some (g_I v4), some (g_I (min (D2 (k + 10) v4.toNat) (D2 (k + 11) v4.toNat))), some (g_I x3), some (g_I v3), none]) dX7_leastSize_107 (by decide) rfl ?_
    exact hF
theorem s_X7_leastSize_109 {E : g_E} {l : Launch} {D : g_D} {K : Int → g_D → Prop} {nr1 : Nat} {nr2 : Nat} {k : Nat} {r1 : Nat} {r2 : Nat} {v3 : Int} {v4 : Int} {v5 : Int} {v6 : Int} {v7 : Int} (hk : is_Script g_SH k) (hr1 : is_Cells g_SH r1 nr1) (hr2 : is_Cells g_SH r2 nr2) (hF : g_okD D → g_r v3 → g_r v4 → g_r v5 → g_r v6 → g_r v7 → ((D k 9) < v7 → (g_r (v4 + 1)) ∧ (n_X7_leastSize E l D 28 [some (g_R k), some (g_R r1), some (g_R r2), some (g_I v3), some (g_I (v4 + 1)), none, none, none, none] K)) ∧ (¬ (D k 9) < v7 → (g_r (v4 + v7)) ∧ (((D r2 1) < (v4 + v7) → (g_r (v4 + 1)) ∧ (n_X7_leastSize E l D 28 [some (g_R k), some (g_R r1), some (g_R r2), some (g_I v3), some (g_I (v4 + 1)), none, none, none, none] K)) ∧ (¬ (D r2 1) < (v4 + v7) → (v6 < v7 → (g_r (v5 + 4)) ∧ ((g_r (v4 + v7)) ∧ ((g_r (v4 + v7)) ∧ ((0 ≤ (v4 + v7) ∧ (v4 + v7) < 41) ∧ ((0 ≤ (v4 + v7) ∧ (v4 + v7) < 41) ∧ (∀ D1, D1 = g_up D (k + 10) (v4 + v7).toNat (min (D (k + 10) (v4 + v7).toNat) (v5 + 4)) → ((g_r (v7 + 1)) ∧ (n_X7_leastSize E l D1 109 [some (g_R k), some (g_R r1), some (g_R r2), some (g_I v3), some (g_I v4), some (g_I v5), some (g_I v6), some (g_I (v7 + 1)), none] K)))))))) ∧ (¬ v6 < v7 → (g_r (v5 + 0)) ∧ ((g_r (v4 + v7)) ∧ ((g_r (v4 + v7)) ∧ ((0 ≤ (v4 + v7) ∧ (v4 + v7) < 41) ∧ ((0 ≤ (v4 + v7) ∧ (v4 + v7) < 41) ∧ (∀ D2, D2 = g_up D (k + 10) (v4 + v7).toNat (min (D (k + 10) (v4 + v7).toNat) (v5 + 0)) → ((g_r (v7 + 1)) ∧ (n_X7_leastSize E l D2 109 [some (g_R k), some (g_R r1), some (g_R r2), some (g_I v3), some (g_I v4), some (g_I v5), some (g_I v6), some (g_I (v7 + 1)), none] K)))))))))))) : n_X7_leastSize E l D 109 [some (g_R k), some (g_R r1), some (g_R r2), some (g_I v3), some (g_I v4), some (g_I v5), some (g_I v6), some (g_I v7), none] K := by
  refine g_use (fun ok => ?_)
  have hF := hF ok.2.1 (ok.loc (i := 3) rfl) (ok.loc (i := 4) rfl) (ok.loc (i := 5) rfl) (ok.loc (i := 6) rfl) (ok.loc (i := 7) rfl)
  refine g_iload dX7_leastSize_109 rfl ?_
  refine g_aload_n dX7_leastSize_111 rfl ?_
  refine g_getI dX7_leastSize_112 fd_X7_44 hk.1 rfl ?_
  refine g_cgt dX7_leastSize_115 rfl (fun q => ?_) (fun q => ?_)
  · have hF := hF.1 q
    obtain ⟨hc, hF⟩ := hF
    refine gw_iinc (L' := [some (g_R k), some (g_R r1), some (g_R r2), some (g_I v3), some (g_I (v4 + 1)), some (g_I v5), some (g_I v6), some (g_I v7), none]) dX7_leastSize_178 rfl hc (by decide) rfl ?_
    refine g_goto dX7_leastSize_181 rfl ?_
    exact g_forget (L' := [some (g_R k), some (g_R r1), some (g_R r2), some (g_I v3), some (g_I (v4 + 1)), none, none, none, none]) ⟨rfl, ⟨rfl, ⟨rfl, ⟨rfl, ⟨rfl, trivial⟩⟩⟩⟩⟩ hF
  · have hF := hF.2 q
    refine g_iload dX7_leastSize_118 rfl ?_
    refine g_iload dX7_leastSize_120 rfl ?_
    obtain ⟨hc, hF⟩ := hF
    refine g_iadd dX7_leastSize_122 hc ?_
    refine g_aload_n dX7_leastSize_123 rfl ?_
    refine g_getI dX7_leastSize_124 fd_X7_53 hr2.1 rfl ?_
    refine g_cgt dX7_leastSize_127 rfl (fun q => ?_) (fun q => ?_)
    · have hF := hF.1 q
      obtain ⟨hc, hF⟩ := hF
      refine gw_iinc (L' := [some (g_R k), some (g_R r1), some (g_R r2), some (g_I v3), some (g_I (v4 + 1)), some (g_I v5), some (g_I v6), some (g_I v7), none]) dX7_leastSize_178 rfl hc (by decide) rfl ?_
      refine g_goto dX7_leastSize_181 rfl ?_
      exact g_forget (L' := [some (g_R k), some (g_R r1), some (g_R r2), some (g_I v3), some (g_I (v4 + 1)), none, none, none, none]) ⟨rfl, ⟨rfl, ⟨rfl, ⟨rfl, ⟨rfl, trivial⟩⟩⟩⟩⟩ hF
    · have hF := hF.2 q
      refine g_iload dX7_leastSize_130 rfl ?_
      refine g_iload dX7_leastSize_132 rfl ?_
      refine g_iload dX7_leastSize_134 rfl ?_
      refine g_cgt dX7_leastSize_136 rfl (fun q => ?_) (fun q => ?_)
      · have hF := hF.1 q
        refine g_iconst dX7_leastSize_143 ⟨by decide, by decide⟩ ?_
        obtain ⟨hc, hF⟩ := hF
        refine g_iadd dX7_leastSize_144 hc ?_
        refine gw_istore (L' := [some (g_R k), some (g_R r1), some (g_R r2), some (g_I v3), some (g_I v4), some (g_I v5), some (g_I v6), some (g_I v7), some (g_I (v5 + 4))]) dX7_leastSize_145 (by decide) rfl ?_
        refine g_aload_n dX7_leastSize_147 rfl ?_
        refine g_getR dX7_leastSize_148 fd_X7_34 hk.1 rfl ?_
        refine g_iload dX7_leastSize_151 rfl ?_
        refine g_iload dX7_leastSize_153 rfl ?_
        obtain ⟨hc, hF⟩ := hF
        refine g_iadd dX7_leastSize_155 hc ?_
        refine g_aload_n dX7_leastSize_156 rfl ?_
        refine g_getR dX7_leastSize_157 fd_X7_34 hk.1 rfl ?_
        refine g_iload dX7_leastSize_160 rfl ?_
        refine g_iload dX7_leastSize_162 rfl ?_
        obtain ⟨hc, hF⟩ := hF
        refine g_iadd dX7_leastSize_164 hc ?_
        obtain ⟨hc, hF⟩ := hF
        refine g_iald dX7_leastSize_165 hk.2.2.2.2.2.2.2.2.2.2.1 hc.1 hc.2 ?_
        refine g_iload dX7_leastSize_166 rfl ?_
        refine g_min dX7_leastSize_168 mw_X7_100 (by decide) (Nat.le_refl _) (Nat.le_refl _) (Nat.le_of_ble_eq_true rfl) ?_
        obtain ⟨hc, hF⟩ := hF
        let D1 : g_D := g_up D (k + 10) (v4 + v7).toNat (min (D (k + 10) (v4 + v7).toNat) (v5 + 4))
        have hF := hF D1 rfl
        refine g_iast dX7_leastSize_171 hk.2.2.2.2.2.2.2.2.2.2.1 hc.1 hc.2 ?_
        obtain ⟨hc, hF⟩ := hF
        refine gw_iinc (L' := [some (g_R k), some (g_R r1), some (g_R r2), some (g_I v3), some (g_I v4), some (g_I v5), some (g_I v6), some (g_I (v7 + 1)), some (g_I (v5 + 4))]) dX7_leastSize_172 rfl hc (by decide) rfl ?_
        refine g_goto dX7_leastSize_175 rfl ?_
        exact g_forget (L' := [some (g_R k), some (g_R r1), some (g_R r2), some (g_I v3), some (g_I v4), some (g_I v5), some (g_I v6), some (g_I (v7 + 1)), none]) ⟨rfl, ⟨rfl, ⟨rfl, ⟨rfl, ⟨rfl, ⟨rfl, ⟨rfl, ⟨rfl, trivial⟩⟩⟩⟩⟩⟩⟩⟩ hF
      · have hF := hF.2 q
        refine g_iconst dX7_leastSize_139 ⟨by decide, by decide⟩ ?_
        refine g_goto dX7_leastSize_140 rfl ?_
        obtain ⟨hc, hF⟩ := hF
        refine g_iadd dX7_leastSize_144 hc ?_
        refine gw_istore (L' := [some (g_R k), some (g_R r1), some (g_R r2), some (g_I v3), some (g_I v4), some (g_I v5), some (g_I v6), some (g_I v7), some (g_I (v5 + 0))]) dX7_leastSize_145 (by decide) rfl ?_
        refine g_aload_n dX7_leastSize_147 rfl ?_
        refine g_getR dX7_leastSize_148 fd_X7_34 hk.1 rfl ?_
        refine g_iload dX7_leastSize_151 rfl ?_
        refine g_iload dX7_leastSize_153 rfl ?_
        obtain ⟨hc, hF⟩ := hF
        refine g_iadd dX7_leastSize_155 hc ?_
        refine g_aload_n dX7_leastSize_156 rfl ?_
        refine g_getR dX7_leastSize_157 fd_X7_34 hk.1 rfl ?_
        refine g_iload dX7_leastSize_160 rfl ?_
        refine g_iload dX7_leastSize_162 rfl ?_
        obtain ⟨hc, hF⟩ := hF
        refine g_iadd dX7_leastSize_164 hc ?_
        obtain ⟨hc, hF⟩ := hF
        refine g_iald dX7_leastSize_165 hk.2.2.2.2.2.2.2.2.2.2.1 hc.1 hc.2 ?_
        refine g_iload dX7_leastSize_166 rfl ?_
        refine g_min dX7_leastSize_168 mw_X7_100 (by decide) (Nat.le_refl _) (Nat.le_refl _) (Nat.le_of_ble_eq_true rfl) ?_
        obtain ⟨hc, hF⟩ := hF
        let D2 : g_D := g_up D (k + 10) (v4 + v7).toNat (min (D (k + 10) (v4 + v7).toNat) (v5 + 0))
        have hF := hF D2 rfl
        refine g_iast dX7_leastSize_171 hk.2.2.2.2.2.2.2.2.2.2.1 hc.1 hc.2 ?_
        obtain ⟨hc, hF⟩ := hF
        refine gw_iinc (L' := [some (g_R k), some (g_R r1), some (g_R r2), some (g_I v3), some (g_I v4), some (g_I v5), some (g_I v6), some (g_I (v7 + 1)), some (g_I (v5 + 0))]) dX7_leastSize_172 rfl hc (by decide) rfl ?_
        refine g_goto dX7_leastSize_175 rfl ?_
        exact g_forget (L' := [some (g_R k), some (g_R r1), some (g_R r2), some (g_I v3), some (g_I v4), some (g_I v5), some (g_I v6), some (g_I (v7 + 1)), none]) ⟨rfl, ⟨rfl, ⟨rfl, ⟨rfl, ⟨rfl, ⟨rfl, ⟨rfl, ⟨rfl, trivial⟩⟩⟩⟩⟩⟩⟩⟩ hF
theorem dX6_leadingInto_0 : decode cX6_leadingInto 0 = .ok (.iconst 0, 1) := by decide +kernel
theorem dX6_leadingInto_1 : decode cX6_leadingInto 1 = .ok (.istore_n 2, 1) := by decide +kernel
theorem dX6_leadingInto_2 : decode cX6_leadingInto 2 = .ok (.iconst 0, 1) := by decide +kernel
theorem dX6_leadingInto_3 : decode cX6_leadingInto 3 = .ok (.istore_n 3, 1) := by decide +kernel
theorem dX6_leadingInto_4 : decode cX6_leadingInto 4 = .ok (.iload_n 3, 1) := by decide +kernel
theorem dX6_leadingInto_5 : decode cX6_leadingInto 5 = .ok (.bipush 20, 2) := by decide +kernel
theorem dX6_leadingInto_7 : decode cX6_leadingInto 7 = .ok (.if_icmp .ge 23, 3) := by decide +kernel
theorem dX6_leadingInto_10 : decode cX6_leadingInto 10 = .ok (.aload_n 0, 1) := by decide +kernel
theorem dX6_leadingInto_11 : decode cX6_leadingInto 11 = .ok (.iload_n 3, 1) := by decide +kernel
theorem dX6_leadingInto_12 : decode cX6_leadingInto 12 = .ok (.iaload, 1) := by decide +kernel
theorem dX6_leadingInto_13 : decode cX6_leadingInto 13 = .ok (.iload_n 1, 1) := by decide +kernel
theorem dX6_leadingInto_14 : decode cX6_leadingInto 14 = .ok (.iand, 1) := by decide +kernel
theorem dX6_leadingInto_15 : decode cX6_leadingInto 15 = .ok (.ifCond .eq 9, 3) := by decide +kernel
theorem dX6_leadingInto_18 : decode cX6_leadingInto 18 = .ok (.iload_n 2, 1) := by decide +kernel
theorem dX6_leadingInto_19 : decode cX6_leadingInto 19 = .ok (.iconst 1, 1) := by decide +kernel
theorem dX6_leadingInto_20 : decode cX6_leadingInto 20 = .ok (.iload_n 3, 1) := by decide +kernel
theorem dX6_leadingInto_21 : decode cX6_leadingInto 21 = .ok (.ishl, 1) := by decide +kernel
theorem dX6_leadingInto_22 : decode cX6_leadingInto 22 = .ok (.ior, 1) := by decide +kernel
theorem dX6_leadingInto_23 : decode cX6_leadingInto 23 = .ok (.istore_n 2, 1) := by decide +kernel
theorem dX6_leadingInto_24 : decode cX6_leadingInto 24 = .ok (.iinc 3 1, 3) := by decide +kernel
theorem dX6_leadingInto_27 : decode cX6_leadingInto 27 = .ok (.goto (-23), 3) := by decide +kernel
theorem dX6_leadingInto_30 : decode cX6_leadingInto 30 = .ok (.iload_n 2, 1) := by decide +kernel
theorem dX6_leadingInto_31 : decode cX6_leadingInto 31 = .ok (.ireturn, 1) := by decide +kernel
abbrev k_X6_leadingInto (E : g_E) (l : Launch) (sh : List g_Sh) (D : g_D) (r0 : Nat) (v1 : Int) (K : Int → g_D → Prop) : Prop := g_Ki E l m_X6_leadingInto 0 [g_R r0, g_I v1] sh D K
abbrev n_X6_leadingInto (E : g_E) (l : Launch) (sh : List g_Sh) (D : g_D) (pc : Nat) (L : List (Option g_V)) (K : Int → g_D → Prop) : Prop := g_N E l m_X6_leadingInto 0 pc L [] sh D (g_Ri sh K)
theorem s_X6_leadingInto {E : g_E} {l : Launch} {sh : List g_Sh} {D : g_D} {K : Int → g_D → Prop} {n0 : Nat} {r0 : Nat} {v1 : Int} (hr0 : sh[r0]? = some (.inl (0, n0))) (hF : g_okD D → g_r v1 → n_X6_leadingInto E l sh D 4 [some (g_R r0), some (g_I v1), some (g_I 0), some (g_I 0)] K) : k_X6_leadingInto E l sh D r0 v1 K := by
  refine g_enter (by decide) (Nat.le_of_ble_eq_true rfl) ?_
  show g_N E l m_X6_leadingInto 0 0 [some (g_R r0), some (g_I v1), none, none] [] sh D (g_Ri sh K)
  refine g_use (fun ok => ?_)
  have hF := hF ok.2.1 (ok.loc (i := 1) rfl)
  refine g_iconst dX6_leadingInto_0 ⟨by decide, by decide⟩ ?_
  refine gw_istore_n (L' := [some (g_R r0), some (g_I v1), some (g_I 0), none]) dX6_leadingInto_1 (by decide) rfl ?_
  refine g_iconst dX6_leadingInto_2 ⟨by decide, by decide⟩ ?_
  refine gw_istore_n (L' := [some (g_R r0), some (g_I v1), some (g_I 0), some (g_I 0)]) dX6_leadingInto_3 (by decide) rfl ?_
  exact hF
theorem s_X6_leadingInto_4 {E : g_E} {l : Launch} {sh : List g_Sh} {D : g_D} {K : Int → g_D → Prop} {n0 : Nat} {r0 : Nat} {v1 : Int} {v2 : Int} {v3 : Int} (hr0 : sh[r0]? = some (.inl (0, n0))) (hF : g_okD D → g_r v1 → g_r v2 → g_r v3 → (20 ≤ v3 → K v2 D) ∧ (¬ 20 ≤ v3 → (0 ≤ v3 ∧ v3 < n0) ∧ (((g_and (D r0 v3.toNat) v1) = 0 → (g_r (v3 + 1)) ∧ (n_X6_leadingInto E l sh D 4 [some (g_R r0), some (g_I v1), some (g_I v2), some (g_I (v3 + 1))] K)) ∧ (¬ (g_and (D r0 v3.toNat) v1) = 0 → (g_r (v3 + 1)) ∧ (n_X6_leadingInto E l sh D 4 [some (g_R r0), some (g_I v1), some (g_I (g_or v2 (g_shl 1 v3))), some (g_I (v3 + 1))] K))))) : n_X6_leadingInto E l sh D 4 [some (g_R r0), some (g_I v1), some (g_I v2), some (g_I v3)] K := by
  refine g_use (fun ok => ?_)
  have hF := hF ok.2.1 (ok.loc (i := 1) rfl) (ok.loc (i := 2) rfl) (ok.loc (i := 3) rfl)
  refine g_iload_n dX6_leadingInto_4 rfl ?_
  refine g_bipush dX6_leadingInto_5 ⟨by decide, by decide⟩ ?_
  refine g_cge dX6_leadingInto_7 rfl (fun q => ?_) (fun q => ?_)
  · have hF := hF.1 q
    refine g_iload_n dX6_leadingInto_30 rfl ?_
    exact gw_iret dX6_leadingInto_31 rfl hF
  · have hF := hF.2 q
    refine g_aload_n dX6_leadingInto_10 rfl ?_
    refine g_iload_n dX6_leadingInto_11 rfl ?_
    obtain ⟨hc, hF⟩ := hF
    refine g_iald dX6_leadingInto_12 hr0 hc.1 hc.2 ?_
    refine g_iload_n dX6_leadingInto_13 rfl ?_
    refine g_iand dX6_leadingInto_14 ?_
    refine g_ifeq dX6_leadingInto_15 rfl (fun q => ?_) (fun q => ?_)
    · have hF := hF.1 q
      obtain ⟨hc, hF⟩ := hF
      refine gw_iinc (L' := [some (g_R r0), some (g_I v1), some (g_I v2), some (g_I (v3 + 1))]) dX6_leadingInto_24 rfl hc (by decide) rfl ?_
      refine g_goto dX6_leadingInto_27 rfl ?_
      exact hF
    · have hF := hF.2 q
      refine g_iload_n dX6_leadingInto_18 rfl ?_
      refine g_iconst dX6_leadingInto_19 ⟨by decide, by decide⟩ ?_
      refine g_iload_n dX6_leadingInto_20 rfl ?_
      refine g_ishl dX6_leadingInto_21 ?_
      refine g_ior dX6_leadingInto_22 ?_
      refine gw_istore_n (L' := [some (g_R r0), some (g_I v1), some (g_I (g_or v2 (g_shl 1 v3))), some (g_I v3)]) dX6_leadingInto_23 (by decide) rfl ?_
      obtain ⟨hc, hF⟩ := hF
      refine gw_iinc (L' := [some (g_R r0), some (g_I v1), some (g_I (g_or v2 (g_shl 1 v3))), some (g_I (v3 + 1))]) dX6_leadingInto_24 rfl hc (by decide) rfl ?_
      refine g_goto dX6_leadingInto_27 rfl ?_
      exact hF
theorem dX6_findShortest_0 : decode cX6_findShortest 0 = .ok (.aload_n 0, 1) := by decide +kernel
theorem dX6_findShortest_1 : decode cX6_findShortest 1 = .ok (.iconst 0, 1) := by decide +kernel
theorem dX6_findShortest_2 : decode cX6_findShortest 2 = .ok (.putfield 25, 3) := by decide +kernel
theorem dX6_findShortest_5 : decode cX6_findShortest 5 = .ok (.aload_n 0, 1) := by decide +kernel
theorem dX6_findShortest_6 : decode cX6_findShortest 6 = .ok (.getfield 15, 3) := by decide +kernel
theorem dX6_findShortest_9 : decode cX6_findShortest 9 = .ok (.iconst 0, 1) := by decide +kernel
theorem dX6_findShortest_10 : decode cX6_findShortest 10 = .ok (.iconst 1, 1) := by decide +kernel
theorem dX6_findShortest_11 : decode cX6_findShortest 11 = .ok (.iload_n 2, 1) := by decide +kernel
theorem dX6_findShortest_12 : decode cX6_findShortest 12 = .ok (.ishl, 1) := by decide +kernel
theorem dX6_findShortest_13 : decode cX6_findShortest 13 = .ok (.iastore, 1) := by decide +kernel
theorem dX6_findShortest_14 : decode cX6_findShortest 14 = .ok (.iconst 1, 1) := by decide +kernel
theorem dX6_findShortest_15 : decode cX6_findShortest 15 = .ok (.istore_n 3, 1) := by decide +kernel
theorem dX6_findShortest_16 : decode cX6_findShortest 16 = .ok (.iload_n 3, 1) := by decide +kernel
theorem dX6_findShortest_17 : decode cX6_findShortest 17 = .ok (.bipush 20, 2) := by decide +kernel
theorem dX6_findShortest_19 : decode cX6_findShortest 19 = .ok (.if_icmp .gt 52, 3) := by decide +kernel
theorem dX6_findShortest_22 : decode cX6_findShortest 22 = .ok (.aload_n 0, 1) := by decide +kernel
theorem dX6_findShortest_23 : decode cX6_findShortest 23 = .ok (.getfield 25, 3) := by decide +kernel
theorem dX6_findShortest_26 : decode cX6_findShortest 26 = .ok (.ifCond .ne 45, 3) := by decide +kernel
theorem dX6_findShortest_29 : decode cX6_findShortest 29 = .ok (.aload_n 0, 1) := by decide +kernel
theorem dX6_findShortest_30 : decode cX6_findShortest 30 = .ok (.getfield 15, 3) := by decide +kernel
theorem dX6_findShortest_33 : decode cX6_findShortest 33 = .ok (.iload_n 3, 1) := by decide +kernel
theorem dX6_findShortest_34 : decode cX6_findShortest 34 = .ok (.aload_n 1, 1) := by decide +kernel
theorem dX6_findShortest_35 : decode cX6_findShortest 35 = .ok (.aload_n 0, 1) := by decide +kernel
theorem dX6_findShortest_36 : decode cX6_findShortest 36 = .ok (.getfield 15, 3) := by decide +kernel
theorem dX6_findShortest_39 : decode cX6_findShortest 39 = .ok (.iload_n 3, 1) := by decide +kernel
theorem dX6_findShortest_40 : decode cX6_findShortest 40 = .ok (.iconst 1, 1) := by decide +kernel
theorem dX6_findShortest_41 : decode cX6_findShortest 41 = .ok (.isub, 1) := by decide +kernel
theorem dX6_findShortest_42 : decode cX6_findShortest 42 = .ok (.iaload, 1) := by decide +kernel
theorem dX6_findShortest_43 : decode cX6_findShortest 43 = .ok (.invokestatic 29, 3) := by decide +kernel
theorem dX6_findShortest_46 : decode cX6_findShortest 46 = .ok (.iastore, 1) := by decide +kernel
theorem dX6_findShortest_47 : decode cX6_findShortest 47 = .ok (.aload_n 0, 1) := by decide +kernel
theorem dX6_findShortest_48 : decode cX6_findShortest 48 = .ok (.getfield 15, 3) := by decide +kernel
theorem dX6_findShortest_51 : decode cX6_findShortest 51 = .ok (.iload_n 3, 1) := by decide +kernel
theorem dX6_findShortest_52 : decode cX6_findShortest 52 = .ok (.iaload, 1) := by decide +kernel
theorem dX6_findShortest_53 : decode cX6_findShortest 53 = .ok (.iload_n 2, 1) := by decide +kernel
theorem dX6_findShortest_54 : decode cX6_findShortest 54 = .ok (.invokestatic 21, 3) := by decide +kernel
theorem dX6_findShortest_57 : decode cX6_findShortest 57 = .ok (.ifCond .eq 8, 3) := by decide +kernel
theorem dX6_findShortest_60 : decode cX6_findShortest 60 = .ok (.aload_n 0, 1) := by decide +kernel
theorem dX6_findShortest_61 : decode cX6_findShortest 61 = .ok (.iload_n 3, 1) := by decide +kernel
theorem dX6_findShortest_62 : decode cX6_findShortest 62 = .ok (.putfield 25, 3) := by decide +kernel
theorem dX6_findShortest_65 : decode cX6_findShortest 65 = .ok (.iinc 3 1, 3) := by decide +kernel
theorem dX6_findShortest_68 : decode cX6_findShortest 68 = .ok (.goto (-52), 3) := by decide +kernel
theorem dX6_findShortest_71 : decode cX6_findShortest 71 = .ok (.iload_n 2, 1) := by decide +kernel
theorem dX6_findShortest_72 : decode cX6_findShortest 72 = .ok (.istore_n 3, 1) := by decide +kernel
theorem dX6_findShortest_73 : decode cX6_findShortest 73 = .ok (.iconst 0, 1) := by decide +kernel
theorem dX6_findShortest_74 : decode cX6_findShortest 74 = .ok (.istore 4, 2) := by decide +kernel
theorem dX6_findShortest_76 : decode cX6_findShortest 76 = .ok (.iload 4, 2) := by decide +kernel
theorem dX6_findShortest_78 : decode cX6_findShortest 78 = .ok (.aload_n 0, 1) := by decide +kernel
theorem dX6_findShortest_79 : decode cX6_findShortest 79 = .ok (.getfield 25, 3) := by decide +kernel
theorem dX6_findShortest_82 : decode cX6_findShortest 82 = .ok (.if_icmp .ge 39, 3) := by decide +kernel
theorem dX6_findShortest_85 : decode cX6_findShortest 85 = .ok (.aload_n 0, 1) := by decide +kernel
theorem dX6_findShortest_86 : decode cX6_findShortest 86 = .ok (.getfield 18, 3) := by decide +kernel
theorem dX6_findShortest_89 : decode cX6_findShortest 89 = .ok (.iload 4, 2) := by decide +kernel
theorem dX6_findShortest_91 : decode cX6_findShortest 91 = .ok (.iload_n 3, 1) := by decide +kernel
theorem dX6_findShortest_92 : decode cX6_findShortest 92 = .ok (.iastore, 1) := by decide +kernel
theorem dX6_findShortest_93 : decode cX6_findShortest 93 = .ok (.aload_n 1, 1) := by decide +kernel
theorem dX6_findShortest_94 : decode cX6_findShortest 94 = .ok (.iload_n 3, 1) := by decide +kernel
theorem dX6_findShortest_95 : decode cX6_findShortest 95 = .ok (.iaload, 1) := by decide +kernel
theorem dX6_findShortest_96 : decode cX6_findShortest 96 = .ok (.aload_n 0, 1) := by decide +kernel
theorem dX6_findShortest_97 : decode cX6_findShortest 97 = .ok (.getfield 15, 3) := by decide +kernel
theorem dX6_findShortest_100 : decode cX6_findShortest 100 = .ok (.aload_n 0, 1) := by decide +kernel
theorem dX6_findShortest_101 : decode cX6_findShortest 101 = .ok (.getfield 25, 3) := by decide +kernel
theorem dX6_findShortest_104 : decode cX6_findShortest 104 = .ok (.iconst 1, 1) := by decide +kernel
theorem dX6_findShortest_105 : decode cX6_findShortest 105 = .ok (.isub, 1) := by decide +kernel
theorem dX6_findShortest_106 : decode cX6_findShortest 106 = .ok (.iload 4, 2) := by decide +kernel
theorem dX6_findShortest_108 : decode cX6_findShortest 108 = .ok (.isub, 1) := by decide +kernel
theorem dX6_findShortest_109 : decode cX6_findShortest 109 = .ok (.iaload, 1) := by decide +kernel
theorem dX6_findShortest_110 : decode cX6_findShortest 110 = .ok (.iand, 1) := by decide +kernel
theorem dX6_findShortest_111 : decode cX6_findShortest 111 = .ok (.invokestatic 33, 3) := by decide +kernel
theorem dX6_findShortest_114 : decode cX6_findShortest 114 = .ok (.istore_n 3, 1) := by decide +kernel
theorem dX6_findShortest_115 : decode cX6_findShortest 115 = .ok (.iinc 4 1, 3) := by decide +kernel
theorem dX6_findShortest_118 : decode cX6_findShortest 118 = .ok (.goto (-42), 3) := by decide +kernel
theorem dX6_findShortest_121 : decode cX6_findShortest 121 = .ok (.return_, 1) := by decide +kernel
abbrev k_X6_findShortest (E : g_E) (l : Launch) (D : g_D) (k : Nat) (r1 : Nat) (v2 : Int) (K : g_D → Prop) : Prop := g_Kv E l m_X6_findShortest 2 [g_R k, g_R r1, g_I v2] g_SH D K
abbrev n_X6_findShortest (E : g_E) (l : Launch) (D : g_D) (pc : Nat) (L : List (Option g_V)) (K : g_D → Prop) : Prop := g_N E l m_X6_findShortest 2 pc L [] g_SH D (g_Rv g_SH K)
theorem s_X6_findShortest {E : g_E} {l : Launch} {D : g_D} {K : g_D → Prop} {n1 : Nat} {k : Nat} {r1 : Nat} {v2 : Int} (hk : is_Rings g_SH k) (hr1 : g_SH[r1]? = some (.inl (0, n1))) (hF : g_okD D → g_r v2 → ∀ D1, D1 = g_up D k 3 0 → (∀ D2, D2 = g_up D1 (k + 2) 0 (g_shl 1 v2) → (n_X6_findShortest E l D2 16 [some (g_R k), some (g_R r1), some (g_I v2), some (g_I 1), none] K))) : k_X6_findShortest E l D k r1 v2 K := by
  refine g_enter (by decide) (Nat.le_of_ble_eq_true rfl) ?_
  show g_N E l m_X6_findShortest 2 0 [some (g_R k), some (g_R r1), some (g_I v2), none, none] [] g_SH D (g_Rv g_SH K)
  refine g_use (fun ok => ?_)
  have hF := hF ok.2.1 (ok.loc (i := 2) rfl)
  refine g_aload_n dX6_findShortest_0 rfl ?_
  refine g_iconst dX6_findShortest_1 ⟨by decide, by decide⟩ ?_
  let D1 : g_D := g_up D k 3 0
  have hF := hF D1 rfl
  refine g_put dX6_findShortest_2 fd_X6_25 (g_ftyI (C := RX6) (T := TX6) (N := 9) rfl rfl (by decide +kernel)) hk.1 rfl ?_
  refine g_aload_n dX6_findShortest_5 rfl ?_
  refine g_getR dX6_findShortest_6 fd_X6_15 hk.1 rfl ?_
  refine g_iconst dX6_findShortest_9 ⟨by decide, by decide⟩ ?_
  refine g_iconst dX6_findShortest_10 ⟨by decide, by decide⟩ ?_
  refine g_iload_n dX6_findShortest_11 rfl ?_
  refine g_ishl dX6_findShortest_12 ?_
  let D2 : g_D := g_up D1 (k + 2) 0 (g_shl 1 v2)
  have hF := hF D2 rfl
  refine g_iast dX6_findShortest_13 hk.2.2.1 (by decide) (by decide) ?_
  refine g_iconst dX6_findShortest_14 ⟨by decide, by decide⟩ ?_
  refine gw_istore_n (L' := [some (g_R k), some (g_R r1), some (g_I v2), some (g_I 1), none]) dX6_findShortest_15 (by decide) rfl ?_
  exact hF
theorem s_X6_findShortest_16 {E : g_E} {l : Launch} {D : g_D} {K : g_D → Prop} {n1 : Nat} {k : Nat} {r1 : Nat} {v2 : Int} {v3 : Int} (hk : is_Rings g_SH k) (hr1 : g_SH[r1]? = some (.inl (0, n1))) (hF : g_okD D → g_r v2 → g_r v3 → (20 < v3 → n_X6_findShortest E l D 76 [some (g_R k), some (g_R r1), none, some (g_I v2), some (g_I 0)] K) ∧ (¬ 20 < v3 → (¬ (D k 3) = 0 → n_X6_findShortest E l D 76 [some (g_R k), some (g_R r1), none, some (g_I v2), some (g_I 0)] K) ∧ ((D k 3) = 0 → (g_r (v3 - 1)) ∧ ((0 ≤ (v3 - 1) ∧ (v3 - 1) < 21) ∧ (k_X6_leadingInto E l g_SH D r1 (D (k + 2) (v3 - 1).toNat) (fun x1 D1 => g_r x1 → (0 ≤ v3 ∧ v3 < 21) ∧ (∀ D2, D2 = g_up D1 (k + 2) v3.toNat x1 → ((0 ≤ v3 ∧ v3 < 21) ∧ (k_X11_hasBit E l g_SH D2 (D2 (k + 2) v3.toNat) v2 (fun x3 D3 => g_r x3 → (x3 = 0 → (g_r (v3 + 1)) ∧ (n_X6_findShortest E l D3 16 [some (g_R k), some (g_R r1), some (g_I v2), some (g_I (v3 + 1)), none] K)) ∧ (¬ x3 = 0 → ∀ D4, D4 = g_up D3 k 3 v3 → ((g_r (v3 + 1)) ∧ (n_X6_findShortest E l D4 16 [some (g_R k), some (g_R r1), some (g_I v2), some (g_I (v3 + 1)), none] K))))))))))))) : n_X6_findShortest E l D 16 [some (g_R k), some (g_R r1), some (g_I v2), some (g_I v3), none] K := by
  refine g_use (fun ok => ?_)
  have hF := hF ok.2.1 (ok.loc (i := 2) rfl) (ok.loc (i := 3) rfl)
  refine g_iload_n dX6_findShortest_16 rfl ?_
  refine g_bipush dX6_findShortest_17 ⟨by decide, by decide⟩ ?_
  refine g_cgt dX6_findShortest_19 rfl (fun q => ?_) (fun q => ?_)
  · have hF := hF.1 q
    refine g_iload_n dX6_findShortest_71 rfl ?_
    refine gw_istore_n (L' := [some (g_R k), some (g_R r1), some (g_I v2), some (g_I v2), none]) dX6_findShortest_72 (by decide) rfl ?_
    refine g_iconst dX6_findShortest_73 ⟨by decide, by decide⟩ ?_
    refine gw_istore (L' := [some (g_R k), some (g_R r1), some (g_I v2), some (g_I v2), some (g_I 0)]) dX6_findShortest_74 (by decide) rfl ?_
    exact g_forget (L' := [some (g_R k), some (g_R r1), none, some (g_I v2), some (g_I 0)]) ⟨rfl, ⟨rfl, ⟨rfl, ⟨rfl, trivial⟩⟩⟩⟩ hF
  · have hF := hF.2 q
    refine g_aload_n dX6_findShortest_22 rfl ?_
    refine g_getI dX6_findShortest_23 fd_X6_25 hk.1 rfl ?_
    refine g_ifne dX6_findShortest_26 rfl (fun q => ?_) (fun q => ?_)
    · have hF := hF.1 q
      refine g_iload_n dX6_findShortest_71 rfl ?_
      refine gw_istore_n (L' := [some (g_R k), some (g_R r1), some (g_I v2), some (g_I v2), none]) dX6_findShortest_72 (by decide) rfl ?_
      refine g_iconst dX6_findShortest_73 ⟨by decide, by decide⟩ ?_
      refine gw_istore (L' := [some (g_R k), some (g_R r1), some (g_I v2), some (g_I v2), some (g_I 0)]) dX6_findShortest_74 (by decide) rfl ?_
      exact g_forget (L' := [some (g_R k), some (g_R r1), none, some (g_I v2), some (g_I 0)]) ⟨rfl, ⟨rfl, ⟨rfl, ⟨rfl, trivial⟩⟩⟩⟩ hF
    · have hF := hF.2 q
      refine g_aload_n dX6_findShortest_29 rfl ?_
      refine g_getR dX6_findShortest_30 fd_X6_15 hk.1 rfl ?_
      refine g_iload_n dX6_findShortest_33 rfl ?_
      refine g_aload_n dX6_findShortest_34 rfl ?_
      refine g_aload_n dX6_findShortest_35 rfl ?_
      refine g_getR dX6_findShortest_36 fd_X6_15 hk.1 rfl ?_
      refine g_iload_n dX6_findShortest_39 rfl ?_
      refine g_iconst dX6_findShortest_40 ⟨by decide, by decide⟩ ?_
      obtain ⟨hc, hF⟩ := hF
      refine g_isub dX6_findShortest_41 hc ?_
      obtain ⟨hc, hF⟩ := hF
      refine g_iald dX6_findShortest_42 hk.2.2.1 hc.1 hc.2 ?_
      refine gw_cSi (As := [g_R r1, g_I (D (k + 2) (v3 - 1).toNat)]) (rest := [g_I v3, g_R (k + 2)]) dX6_findShortest_43 ms_X6_29 rfl (Nat.le_of_ble_eq_true rfl) (by decide) rfl hF ?_
      intro x1 D1 hx1 hF
      have hF := hF hx1
      obtain ⟨hc, hF⟩ := hF
      let D2 : g_D := g_up D1 (k + 2) v3.toNat x1
      have hF := hF D2 rfl
      refine g_iast dX6_findShortest_46 hk.2.2.1 hc.1 hc.2 ?_
      refine g_aload_n dX6_findShortest_47 rfl ?_
      refine g_getR dX6_findShortest_48 fd_X6_15 hk.1 rfl ?_
      refine g_iload_n dX6_findShortest_51 rfl ?_
      obtain ⟨hc, hF⟩ := hF
      refine g_iald dX6_findShortest_52 hk.2.2.1 hc.1 hc.2 ?_
      refine g_iload_n dX6_findShortest_53 rfl ?_
      refine gw_cNi (As := [g_I (D2 (k + 2) v3.toNat), g_I v2]) (rest := []) dX6_findShortest_54 mn_X6_21 rfl (Nat.le_of_ble_eq_true rfl) (by decide) rfl hF ?_
      intro x3 D3 hx3 hF
      have hF := hF hx3
      refine g_ifeq dX6_findShortest_57 rfl (fun q => ?_) (fun q => ?_)
      · have hF := hF.1 q
        obtain ⟨hc, hF⟩ := hF
        refine gw_iinc (L' := [some (g_R k), some (g_R r1), some (g_I v2), some (g_I (v3 + 1)), none]) dX6_findShortest_65 rfl hc (by decide) rfl ?_
        refine g_goto dX6_findShortest_68 rfl ?_
        exact hF
      · have hF := hF.2 q
        refine g_aload_n dX6_findShortest_60 rfl ?_
        refine g_iload_n dX6_findShortest_61 rfl ?_
        let D4 : g_D := g_up D3 k 3 v3
        have hF := hF D4 rfl
        refine g_put dX6_findShortest_62 fd_X6_25 (g_ftyI (C := RX6) (T := TX6) (N := 9) rfl rfl (by decide +kernel)) hk.1 rfl ?_
        obtain ⟨hc, hF⟩ := hF
        refine gw_iinc (L' := [some (g_R k), some (g_R r1), some (g_I v2), some (g_I (v3 + 1)), none]) dX6_findShortest_65 rfl hc (by decide) rfl ?_
        refine g_goto dX6_findShortest_68 rfl ?_
        exact hF
theorem s_X6_findShortest_76 {E : g_E} {l : Launch} {D : g_D} {K : g_D → Prop} {n1 : Nat} {k : Nat} {r1 : Nat} {v3 : Int} {v4 : Int} (hk : is_Rings g_SH k) (hr1 : g_SH[r1]? = some (.inl (0, n1))) (hF : g_okD D → g_r v3 → g_r v4 → ((D k 3) ≤ v4 → K D) ∧ (¬ (D k 3) ≤ v4 → (0 ≤ v4 ∧ v4 < 20) ∧ (∀ D1, D1 = g_up D (k + 3) v4.toNat v3 → ((0 ≤ v3 ∧ v3 < n1) ∧ ((g_r ((D1 k 3) - 1)) ∧ ((g_r (((D1 k 3) - 1) - v4)) ∧ ((0 ≤ (((D1 k 3) - 1) - v4) ∧ (((D1 k 3) - 1) - v4) < 21) ∧ (k_X11_lowestBit E l g_SH D1 (g_and (D1 r1 v3.toNat) (D1 (k + 2) (((D1 k 3) - 1) - v4).toNat)) (fun x2 D2 => g_r x2 → (g_r (v4 + 1)) ∧ (n_X6_findShortest E l D2 76 [some (g_R k), some (g_R r1), none, some (g_I x2), some (g_I (v4 + 1))] K)))))))))) : n_X6_findShortest E l D 76 [some (g_R k), some (g_R r1), none, some (g_I v3), some (g_I v4)] K := by
  refine g_use (fun ok => ?_)
  have hF := hF ok.2.1 (ok.loc (i := 3) rfl) (ok.loc (i := 4) rfl)
  refine g_iload dX6_findShortest_76 rfl ?_
  refine g_aload_n dX6_findShortest_78 rfl ?_
  refine g_getI dX6_findShortest_79 fd_X6_25 hk.1 rfl ?_
  refine g_cge dX6_findShortest_82 rfl (fun q => ?_) (fun q => ?_)
  · have hF := hF.1 q
    exact gw_vret dX6_findShortest_121 rfl hF
  · have hF := hF.2 q
    refine g_aload_n dX6_findShortest_85 rfl ?_
    refine g_getR dX6_findShortest_86 fd_X6_18 hk.1 rfl ?_
    refine g_iload dX6_findShortest_89 rfl ?_
    refine g_iload_n dX6_findShortest_91 rfl ?_
    obtain ⟨hc, hF⟩ := hF
    let D1 : g_D := g_up D (k + 3) v4.toNat v3
    have hF := hF D1 rfl
    refine g_iast dX6_findShortest_92 hk.2.2.2 hc.1 hc.2 ?_
    refine g_aload_n dX6_findShortest_93 rfl ?_
    refine g_iload_n dX6_findShortest_94 rfl ?_
    obtain ⟨hc, hF⟩ := hF
    refine g_iald dX6_findShortest_95 hr1 hc.1 hc.2 ?_
    refine g_aload_n dX6_findShortest_96 rfl ?_
    refine g_getR dX6_findShortest_97 fd_X6_15 hk.1 rfl ?_
    refine g_aload_n dX6_findShortest_100 rfl ?_
    refine g_getI dX6_findShortest_101 fd_X6_25 hk.1 rfl ?_
    refine g_iconst dX6_findShortest_104 ⟨by decide, by decide⟩ ?_
    obtain ⟨hc, hF⟩ := hF
    refine g_isub dX6_findShortest_105 hc ?_
    refine g_iload dX6_findShortest_106 rfl ?_
    obtain ⟨hc, hF⟩ := hF
    refine g_isub dX6_findShortest_108 hc ?_
    obtain ⟨hc, hF⟩ := hF
    refine g_iald dX6_findShortest_109 hk.2.2.1 hc.1 hc.2 ?_
    refine g_iand dX6_findShortest_110 ?_
    refine gw_cNi (As := [g_I (g_and (D1 r1 v3.toNat) (D1 (k + 2) (((D1 k 3) - 1) - v4).toNat))]) (rest := []) dX6_findShortest_111 mn_X6_33 rfl (Nat.le_of_ble_eq_true rfl) (by decide) rfl hF ?_
    intro x2 D2 hx2 hF
    have hF := hF hx2
    refine gw_istore_n (L' := [some (g_R k), some (g_R r1), none, some (g_I x2), some (g_I v4)]) dX6_findShortest_114 (by decide) rfl ?_
    obtain ⟨hc, hF⟩ := hF
    refine gw_iinc (L' := [some (g_R k), some (g_R r1), none, some (g_I x2), some (g_I (v4 + 1))]) dX6_findShortest_115 rfl hc (by decide) rfl ?_
    refine g_goto dX6_findShortest_118 rfl ?_
    exact hF
