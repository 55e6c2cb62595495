theorem dX12_runAt_0 : decode cX12_runAt 0 = .ok (.iconst 0, 1) := by decide +kernel
theorem dX12_runAt_1 : decode cX12_runAt 1 = .ok (.istore_n 3, 1) := by decide +kernel
theorem dX12_runAt_2 : decode cX12_runAt 2 = .ok (.iload_n 1, 1) := by decide +kernel
theorem dX12_runAt_3 : decode cX12_runAt 3 = .ok (.iload_n 3, 1) := by decide +kernel
theorem dX12_runAt_4 : decode cX12_runAt 4 = .ok (.iadd, 1) := by decide +kernel
theorem dX12_runAt_5 : decode cX12_runAt 5 = .ok (.aload_n 0, 1) := by decide +kernel
theorem dX12_runAt_6 : decode cX12_runAt 6 = .ok (.getfield 13, 3) := by decide +kernel
theorem dX12_runAt_9 : decode cX12_runAt 9 = .ok (.iconst 0, 1) := by decide +kernel
theorem dX12_runAt_10 : decode cX12_runAt 10 = .ok (.iaload, 1) := by decide +kernel
theorem dX12_runAt_11 : decode cX12_runAt 11 = .ok (.if_icmp .ge 46, 3) := by decide +kernel
theorem dX12_runAt_14 : decode cX12_runAt 14 = .ok (.iload_n 2, 1) := by decide +kernel
theorem dX12_runAt_15 : decode cX12_runAt 15 = .ok (.iload_n 3, 1) := by decide +kernel
theorem dX12_runAt_16 : decode cX12_runAt 16 = .ok (.iadd, 1) := by decide +kernel
theorem dX12_runAt_17 : decode cX12_runAt 17 = .ok (.aload_n 0, 1) := by decide +kernel
theorem dX12_runAt_18 : decode cX12_runAt 18 = .ok (.getfield 13, 3) := by decide +kernel
theorem dX12_runAt_21 : decode cX12_runAt 21 = .ok (.iconst 1, 1) := by decide +kernel
theorem dX12_runAt_22 : decode cX12_runAt 22 = .ok (.iaload, 1) := by decide +kernel
theorem dX12_runAt_23 : decode cX12_runAt 23 = .ok (.if_icmp .ge 34, 3) := by decide +kernel
theorem dX12_runAt_26 : decode cX12_runAt 26 = .ok (.aload_n 0, 1) := by decide +kernel
theorem dX12_runAt_27 : decode cX12_runAt 27 = .ok (.getfield 13, 3) := by decide +kernel
theorem dX12_runAt_30 : decode cX12_runAt 30 = .ok (.bipush 6, 2) := by decide +kernel
theorem dX12_runAt_32 : decode cX12_runAt 32 = .ok (.iload_n 1, 1) := by decide +kernel
theorem dX12_runAt_33 : decode cX12_runAt 33 = .ok (.iadd, 1) := by decide +kernel
theorem dX12_runAt_34 : decode cX12_runAt 34 = .ok (.iload_n 3, 1) := by decide +kernel
theorem dX12_runAt_35 : decode cX12_runAt 35 = .ok (.iadd, 1) := by decide +kernel
theorem dX12_runAt_36 : decode cX12_runAt 36 = .ok (.iaload, 1) := by decide +kernel
theorem dX12_runAt_37 : decode cX12_runAt 37 = .ok (.aload_n 0, 1) := by decide +kernel
theorem dX12_runAt_38 : decode cX12_runAt 38 = .ok (.getfield 13, 3) := by decide +kernel
theorem dX12_runAt_41 : decode cX12_runAt 41 = .ok (.bipush 46, 2) := by decide +kernel
theorem dX12_runAt_43 : decode cX12_runAt 43 = .ok (.iload_n 2, 1) := by decide +kernel
theorem dX12_runAt_44 : decode cX12_runAt 44 = .ok (.iadd, 1) := by decide +kernel
theorem dX12_runAt_45 : decode cX12_runAt 45 = .ok (.iload_n 3, 1) := by decide +kernel
theorem dX12_runAt_46 : decode cX12_runAt 46 = .ok (.iadd, 1) := by decide +kernel
theorem dX12_runAt_47 : decode cX12_runAt 47 = .ok (.iaload, 1) := by decide +kernel
theorem dX12_runAt_48 : decode cX12_runAt 48 = .ok (.if_icmp .ne 9, 3) := by decide +kernel
theorem dX12_runAt_51 : decode cX12_runAt 51 = .ok (.iinc 3 1, 3) := by decide +kernel
theorem dX12_runAt_54 : decode cX12_runAt 54 = .ok (.goto (-52), 3) := by decide +kernel
theorem dX12_runAt_57 : decode cX12_runAt 57 = .ok (.iload_n 3, 1) := by decide +kernel
theorem dX12_runAt_58 : decode cX12_runAt 58 = .ok (.ireturn, 1) := by decide +kernel
abbrev k_X12_runAt (E : g_E) (l : Launch) (D : g_D) (v1 : Int) (v2 : Int) (K : Int → g_D → Prop) : Prop := g_Ki E l m_X12_runAt 0 [g_R 208, g_I v1, g_I v2] g_SH D K
abbrev n_X12_runAt (E : g_E) (l : Launch) (D : g_D) (pc : Nat) (L : List (Option g_V)) (K : Int → g_D → Prop) : Prop := g_N E l m_X12_runAt 0 pc L [] g_SH D (g_Ri g_SH K)
theorem s_X12_runAt {E : g_E} {l : Launch} {D : g_D} {K : Int → g_D → Prop} {v1 : Int} {v2 : Int}  (hF : g_okD D → g_r v1 → g_r v2 → n_X12_runAt E l D 2 [some (g_R 208), some (g_I v1), some (g_I v2), some (g_I 0)] K) : k_X12_runAt E l D v1 v2 K := by
  refine g_enter (by decide) (Nat.le_of_ble_eq_true rfl) ?_
  show g_N E l m_X12_runAt 0 0 [some (g_R 208), some (g_I v1), some (g_I v2), none] [] g_SH D (g_Ri g_SH K)
  refine g_use (fun ok => ?_)
  have hF := hF ok.2.1 (ok.loc (i := 1) rfl) (ok.loc (i := 2) rfl)
  refine g_iconst dX12_runAt_0 ⟨by decide, by decide⟩ ?_
  refine gw_istore_n (L' := [some (g_R 208), some (g_I v1), some (g_I v2), some (g_I 0)]) dX12_runAt_1 (by decide) rfl ?_
  exact hF
theorem s_X12_runAt_2 {E : g_E} {l : Launch} {D : g_D} {K : Int → g_D → Prop} {v1 : Int} {v2 : Int} {v3 : Int}  (hF : g_okD D → g_r v1 → g_r v2 → g_r v3 → (g_r (v1 + v3)) ∧ (((D 209 0) ≤ (v1 + v3) → K v3 D) ∧ (¬ (D 209 0) ≤ (v1 + v3) → (g_r (v2 + v3)) ∧ (((D 209 1) ≤ (v2 + v3) → K v3 D) ∧ (¬ (D 209 1) ≤ (v2 + v3) → (g_r (6 + v1)) ∧ ((g_r ((6 + v1) + v3)) ∧ ((0 ≤ ((6 + v1) + v3) ∧ ((6 + v1) + v3) < 1557) ∧ ((g_r (46 + v2)) ∧ ((g_r ((46 + v2) + v3)) ∧ ((0 ≤ ((46 + v2) + v3) ∧ ((46 + v2) + v3) < 1557) ∧ ((¬ (D 209 ((6 + v1) + v3).toNat) = (D 209 ((46 + v2) + v3).toNat) → K v3 D) ∧ ((D 209 ((6 + v1) + v3).toNat) = (D 209 ((46 + v2) + v3).toNat) → (g_r (v3 + 1)) ∧ (n_X12_runAt E l D 2 [some (g_R 208), some (g_I v1), some (g_I v2), some (g_I (v3 + 1))] K))))))))))))) : n_X12_runAt E l D 2 [some (g_R 208), some (g_I v1), some (g_I v2), some (g_I v3)] K := by
  refine g_use (fun ok => ?_)
  have hF := hF ok.2.1 (ok.loc (i := 1) rfl) (ok.loc (i := 2) rfl) (ok.loc (i := 3) rfl)
  refine g_iload_n dX12_runAt_2 rfl ?_
  refine g_iload_n dX12_runAt_3 rfl ?_
  obtain ⟨hc, hF⟩ := hF
  refine g_iadd dX12_runAt_4 hc ?_
  refine g_aload_n dX12_runAt_5 rfl ?_
  refine g_getR dX12_runAt_6 fd_X12_13 sh_208 rfl ?_
  refine g_iconst dX12_runAt_9 ⟨by decide, by decide⟩ ?_
  refine g_iald dX12_runAt_10 sh_209 (by decide) (by decide) ?_
  refine g_cge dX12_runAt_11 rfl (fun q => ?_) (fun q => ?_)
  · have hF := hF.1 q
    refine g_iload_n dX12_runAt_57 rfl ?_
    exact gw_iret dX12_runAt_58 rfl hF
  · have hF := hF.2 q
    refine g_iload_n dX12_runAt_14 rfl ?_
    refine g_iload_n dX12_runAt_15 rfl ?_
    obtain ⟨hc, hF⟩ := hF
    refine g_iadd dX12_runAt_16 hc ?_
    refine g_aload_n dX12_runAt_17 rfl ?_
    refine g_getR dX12_runAt_18 fd_X12_13 sh_208 rfl ?_
    refine g_iconst dX12_runAt_21 ⟨by decide, by decide⟩ ?_
    refine g_iald dX12_runAt_22 sh_209 (by decide) (by decide) ?_
    refine g_cge dX12_runAt_23 rfl (fun q => ?_) (fun q => ?_)
    · have hF := hF.1 q
      refine g_iload_n dX12_runAt_57 rfl ?_
      exact gw_iret dX12_runAt_58 rfl hF
    · have hF := hF.2 q
      refine g_aload_n dX12_runAt_26 rfl ?_
      refine g_getR dX12_runAt_27 fd_X12_13 sh_208 rfl ?_
      refine g_bipush dX12_runAt_30 ⟨by decide, by decide⟩ ?_
      refine g_iload_n dX12_runAt_32 rfl ?_
      obtain ⟨hc, hF⟩ := hF
      refine g_iadd dX12_runAt_33 hc ?_
      refine g_iload_n dX12_runAt_34 rfl ?_
      obtain ⟨hc, hF⟩ := hF
      refine g_iadd dX12_runAt_35 hc ?_
      obtain ⟨hc, hF⟩ := hF
      refine g_iald dX12_runAt_36 sh_209 hc.1 hc.2 ?_
      refine g_aload_n dX12_runAt_37 rfl ?_
      refine g_getR dX12_runAt_38 fd_X12_13 sh_208 rfl ?_
      refine g_bipush dX12_runAt_41 ⟨by decide, by decide⟩ ?_
      refine g_iload_n dX12_runAt_43 rfl ?_
      obtain ⟨hc, hF⟩ := hF
      refine g_iadd dX12_runAt_44 hc ?_
      refine g_iload_n dX12_runAt_45 rfl ?_
      obtain ⟨hc, hF⟩ := hF
      refine g_iadd dX12_runAt_46 hc ?_
      obtain ⟨hc, hF⟩ := hF
      refine g_iald dX12_runAt_47 sh_209 hc.1 hc.2 ?_
      refine g_cne dX12_runAt_48 rfl (fun q => ?_) (fun q => ?_)
      · have hF := hF.1 q
        refine g_iload_n dX12_runAt_57 rfl ?_
        exact gw_iret dX12_runAt_58 rfl hF
      · have hF := hF.2 q
        obtain ⟨hc, hF⟩ := hF
        refine gw_iinc (L' := [some (g_R 208), some (g_I v1), some (g_I v2), some (g_I (v3 + 1))]) dX12_runAt_51 rfl hc (by decide) rfl ?_
        refine g_goto dX12_runAt_54 rfl ?_
        exact hF
theorem dX12_longestAt_0 : decode cX12_longestAt 0 = .ok (.iconst 0, 1) := by decide +kernel
theorem dX12_longestAt_1 : decode cX12_longestAt 1 = .ok (.istore_n 2, 1) := by decide +kernel
theorem dX12_longestAt_2 : decode cX12_longestAt 2 = .ok (.iconst 0, 1) := by decide +kernel
theorem dX12_longestAt_3 : decode cX12_longestAt 3 = .ok (.istore_n 3, 1) := by decide +kernel
theorem dX12_longestAt_4 : decode cX12_longestAt 4 = .ok (.iload_n 3, 1) := by decide +kernel
theorem dX12_longestAt_5 : decode cX12_longestAt 5 = .ok (.aload_n 0, 1) := by decide +kernel
theorem dX12_longestAt_6 : decode cX12_longestAt 6 = .ok (.getfield 13, 3) := by decide +kernel
theorem dX12_longestAt_9 : decode cX12_longestAt 9 = .ok (.iconst 0, 1) := by decide +kernel
theorem dX12_longestAt_10 : decode cX12_longestAt 10 = .ok (.iaload, 1) := by decide +kernel
theorem dX12_longestAt_11 : decode cX12_longestAt 11 = .ok (.if_icmp .ge 30, 3) := by decide +kernel
theorem dX12_longestAt_14 : decode cX12_longestAt 14 = .ok (.aload_n 0, 1) := by decide +kernel
theorem dX12_longestAt_15 : decode cX12_longestAt 15 = .ok (.iload_n 3, 1) := by decide +kernel
theorem dX12_longestAt_16 : decode cX12_longestAt 16 = .ok (.iload_n 1, 1) := by decide +kernel
theorem dX12_longestAt_17 : decode cX12_longestAt 17 = .ok (.invokevirtual 165, 3) := by decide +kernel
theorem dX12_longestAt_20 : decode cX12_longestAt 20 = .ok (.iload_n 2, 1) := by decide +kernel
theorem dX12_longestAt_21 : decode cX12_longestAt 21 = .ok (.if_icmp .le 12, 3) := by decide +kernel
theorem dX12_longestAt_24 : decode cX12_longestAt 24 = .ok (.aload_n 0, 1) := by decide +kernel
theorem dX12_longestAt_25 : decode cX12_longestAt 25 = .ok (.iload_n 3, 1) := by decide +kernel
theorem dX12_longestAt_26 : decode cX12_longestAt 26 = .ok (.iload_n 1, 1) := by decide +kernel
theorem dX12_longestAt_27 : decode cX12_longestAt 27 = .ok (.invokevirtual 165, 3) := by decide +kernel
theorem dX12_longestAt_30 : decode cX12_longestAt 30 = .ok (.goto 4, 3) := by decide +kernel
theorem dX12_longestAt_33 : decode cX12_longestAt 33 = .ok (.iload_n 2, 1) := by decide +kernel
theorem dX12_longestAt_34 : decode cX12_longestAt 34 = .ok (.istore_n 2, 1) := by decide +kernel
theorem dX12_longestAt_35 : decode cX12_longestAt 35 = .ok (.iinc 3 1, 3) := by decide +kernel
theorem dX12_longestAt_38 : decode cX12_longestAt 38 = .ok (.goto (-34), 3) := by decide +kernel
theorem dX12_longestAt_41 : decode cX12_longestAt 41 = .ok (.iload_n 2, 1) := by decide +kernel
theorem dX12_longestAt_42 : decode cX12_longestAt 42 = .ok (.ireturn, 1) := by decide +kernel
abbrev k_X12_longestAt (E : g_E) (l : Launch) (D : g_D) (v1 : Int) (K : Int → g_D → Prop) : Prop := g_Ki E l m_X12_longestAt 1 [g_R 208, g_I v1] g_SH D K
abbrev n_X12_longestAt (E : g_E) (l : Launch) (D : g_D) (pc : Nat) (L : List (Option g_V)) (K : Int → g_D → Prop) : Prop := g_N E l m_X12_longestAt 1 pc L [] g_SH D (g_Ri g_SH K)
theorem s_X12_longestAt {E : g_E} {l : Launch} {D : g_D} {K : Int → g_D → Prop} {v1 : Int}  (hF : g_okD D → g_r v1 → n_X12_longestAt E l D 4 [some (g_R 208), some (g_I v1), some (g_I 0), some (g_I 0)] K) : k_X12_longestAt E l D v1 K := by
  refine g_enter (by decide) (Nat.le_of_ble_eq_true rfl) ?_
  show g_N E l m_X12_longestAt 1 0 [some (g_R 208), some (g_I v1), none, none] [] g_SH D (g_Ri g_SH K)
  refine g_use (fun ok => ?_)
  have hF := hF ok.2.1 (ok.loc (i := 1) rfl)
  refine g_iconst dX12_longestAt_0 ⟨by decide, by decide⟩ ?_
  refine gw_istore_n (L' := [some (g_R 208), some (g_I v1), some (g_I 0), none]) dX12_longestAt_1 (by decide) rfl ?_
  refine g_iconst dX12_longestAt_2 ⟨by decide, by decide⟩ ?_
  refine gw_istore_n (L' := [some (g_R 208), some (g_I v1), some (g_I 0), some (g_I 0)]) dX12_longestAt_3 (by decide) rfl ?_
  exact hF
theorem s_X12_longestAt_4 {E : g_E} {l : Launch} {D : g_D} {K : Int → g_D → Prop} {v1 : Int} {v2 : Int} {v3 : Int}  (hF : g_okD D → g_r v1 → g_r v2 → g_r v3 → ((D 209 0) ≤ v3 → K v2 D) ∧ (¬ (D 209 0) ≤ v3 → k_X12_runAt E l D v3 v1 (fun x1 D1 => g_r x1 → (x1 ≤ v2 → (g_r (v3 + 1)) ∧ (n_X12_longestAt E l D1 4 [some (g_R 208), some (g_I v1), some (g_I v2), some (g_I (v3 + 1))] K)) ∧ (¬ x1 ≤ v2 → k_X12_runAt E l D1 v3 v1 (fun x2 D2 => g_r x2 → (g_r (v3 + 1)) ∧ (n_X12_longestAt E l D2 4 [some (g_R 208), some (g_I v1), some (g_I x2), some (g_I (v3 + 1))] K)))))) : n_X12_longestAt E l D 4 [some (g_R 208), some (g_I v1), some (g_I v2), some (g_I v3)] K := by
  refine g_use (fun ok => ?_)
  have hF := hF ok.2.1 (ok.loc (i := 1) rfl) (ok.loc (i := 2) rfl) (ok.loc (i := 3) rfl)
  refine g_iload_n dX12_longestAt_4 rfl ?_
  refine g_aload_n dX12_longestAt_5 rfl ?_
  refine g_getR dX12_longestAt_6 fd_X12_13 sh_208 rfl ?_
  refine g_iconst dX12_longestAt_9 ⟨by decide, by decide⟩ ?_
  refine g_iald dX12_longestAt_10 sh_209 (by decide) (by decide) ?_
  refine g_cge dX12_longestAt_11 rfl (fun q => ?_) (fun q => ?_)
  · have hF := hF.1 q
    refine g_iload_n dX12_longestAt_41 rfl ?_
    exact gw_iret dX12_longestAt_42 rfl hF
  · have hF := hF.2 q
    refine g_aload_n dX12_longestAt_14 rfl ?_
    refine g_iload_n dX12_longestAt_15 rfl ?_
    refine g_iload_n dX12_longestAt_16 rfl ?_
    refine gw_cVi (b := 208) (As := [g_I v3, g_I v1]) (rest := []) dX12_longestAt_17 mv_X12_165 sh_208 rfl (Nat.le_of_ble_eq_true rfl) (by decide) rfl hF ?_
    intro x1 D1 hx1 hF
    have hF := hF hx1
    refine g_iload_n dX12_longestAt_20 rfl ?_
    refine g_cle dX12_longestAt_21 rfl (fun q => ?_) (fun q => ?_)
    · have hF := hF.1 q
      refine g_iload_n dX12_longestAt_33 rfl ?_
      refine gw_istore_n (L' := [some (g_R 208), some (g_I v1), some (g_I v2), some (g_I v3)]) dX12_longestAt_34 (by decide) rfl ?_
      obtain ⟨hc, hF⟩ := hF
      refine gw_iinc (L' := [some (g_R 208), some (g_I v1), some (g_I v2), some (g_I (v3 + 1))]) dX12_longestAt_35 rfl hc (by decide) rfl ?_
      refine g_goto dX12_longestAt_38 rfl ?_
      exact hF
    · have hF := hF.2 q
      refine g_aload_n dX12_longestAt_24 rfl ?_
      refine g_iload_n dX12_longestAt_25 rfl ?_
      refine g_iload_n dX12_longestAt_26 rfl ?_
      refine gw_cVi (b := 208) (As := [g_I v3, g_I v1]) (rest := []) dX12_longestAt_27 mv_X12_165 sh_208 rfl (Nat.le_of_ble_eq_true rfl) (by decide) rfl hF ?_
      intro x2 D2 hx2 hF
      have hF := hF hx2
      refine g_goto dX12_longestAt_30 rfl ?_
      refine gw_istore_n (L' := [some (g_R 208), some (g_I v1), some (g_I x2), some (g_I v3)]) dX12_longestAt_34 (by decide) rfl ?_
      obtain ⟨hc, hF⟩ := hF
      refine gw_iinc (L' := [some (g_R 208), some (g_I v1), some (g_I x2), some (g_I (v3 + 1))]) dX12_longestAt_35 rfl hc (by decide) rfl ?_
      refine g_goto dX12_longestAt_38 rfl ?_
      exact hF
theorem dX12_apart_0 : decode cX12_apart 0 = .ok (.iload_n 0, 1) := by decide +kernel
theorem dX12_apart_1 : decode cX12_apart 1 = .ok (.iload_n 1, 1) := by decide +kernel
theorem dX12_apart_2 : decode cX12_apart 2 = .ok (.if_icmp .le 9, 3) := by decide +kernel
theorem dX12_apart_5 : decode cX12_apart 5 = .ok (.iload_n 0, 1) := by decide +kernel
theorem dX12_apart_6 : decode cX12_apart 6 = .ok (.iload_n 1, 1) := by decide +kernel
theorem dX12_apart_7 : decode cX12_apart 7 = .ok (.isub, 1) := by decide +kernel
theorem dX12_apart_8 : decode cX12_apart 8 = .ok (.goto 6, 3) := by decide +kernel
theorem dX12_apart_11 : decode cX12_apart 11 = .ok (.iload_n 1, 1) := by decide +kernel
theorem dX12_apart_12 : decode cX12_apart 12 = .ok (.iload_n 0, 1) := by decide +kernel
theorem dX12_apart_13 : decode cX12_apart 13 = .ok (.isub, 1) := by decide +kernel
theorem dX12_apart_14 : decode cX12_apart 14 = .ok (.ireturn, 1) := by decide +kernel
abbrev k_X12_apart (E : g_E) (l : Launch) (sh : List g_Sh) (D : g_D) (v0 : Int) (v1 : Int) (K : Int → g_D → Prop) : Prop := g_Ki E l m_X12_apart 0 [g_I v0, g_I v1] sh D K
abbrev n_X12_apart (E : g_E) (l : Launch) (sh : List g_Sh) (D : g_D) (pc : Nat) (L : List (Option g_V)) (K : Int → g_D → Prop) : Prop := g_N E l m_X12_apart 0 pc L [] sh D (g_Ri sh K)
theorem s_X12_apart {E : g_E} {l : Launch} {sh : List g_Sh} {D : g_D} {K : Int → g_D → Prop} {v0 : Int} {v1 : Int}  (hF : g_okD D → g_r v0 → g_r v1 → (v0 ≤ v1 → (g_r (v1 - v0)) ∧ (K (v1 - v0) D)) ∧ (¬ v0 ≤ v1 → (g_r (v0 - v1)) ∧ (K (v0 - v1) D))) : k_X12_apart E l sh D v0 v1 K := by
  refine g_enter (by decide) (Nat.le_of_ble_eq_true rfl) ?_
  show g_N E l m_X12_apart 0 0 [some (g_I v0), some (g_I v1)] [] sh D (g_Ri sh K)
  refine g_use (fun ok => ?_)
  have hF := hF ok.2.1 (ok.loc (i := 0) rfl) (ok.loc (i := 1) rfl)
  refine g_iload_n dX12_apart_0 rfl ?_
  refine g_iload_n dX12_apart_1 rfl ?_
  refine g_cle dX12_apart_2 rfl (fun q => ?_) (fun q => ?_)
  · have hF := hF.1 q
    refine g_iload_n dX12_apart_11 rfl ?_
    refine g_iload_n dX12_apart_12 rfl ?_
    obtain ⟨hc, hF⟩ := hF
    refine g_isub dX12_apart_13 hc ?_
    exact gw_iret dX12_apart_14 rfl hF
  · have hF := hF.2 q
    refine g_iload_n dX12_apart_5 rfl ?_
    refine g_iload_n dX12_apart_6 rfl ?_
    obtain ⟨hc, hF⟩ := hF
    refine g_isub dX12_apart_7 hc ?_
    refine g_goto dX12_apart_8 rfl ?_
    exact gw_iret dX12_apart_14 rfl hF
theorem dX12_chosenAt_0 : decode cX12_chosenAt 0 = .ok (.aload_n 0, 1) := by decide +kernel
theorem dX12_chosenAt_1 : decode cX12_chosenAt 1 = .ok (.iload_n 1, 1) := by decide +kernel
theorem dX12_chosenAt_2 : decode cX12_chosenAt 2 = .ok (.invokevirtual 168, 3) := by decide +kernel
theorem dX12_chosenAt_5 : decode cX12_chosenAt 5 = .ok (.istore_n 2, 1) := by decide +kernel
theorem dX12_chosenAt_6 : decode cX12_chosenAt 6 = .ok (.iconst (-1), 1) := by decide +kernel
theorem dX12_chosenAt_7 : decode cX12_chosenAt 7 = .ok (.istore_n 3, 1) := by decide +kernel
theorem dX12_chosenAt_8 : decode cX12_chosenAt 8 = .ok (.iconst 0, 1) := by decide +kernel
theorem dX12_chosenAt_9 : decode cX12_chosenAt 9 = .ok (.istore 4, 2) := by decide +kernel
theorem dX12_chosenAt_11 : decode cX12_chosenAt 11 = .ok (.iload 4, 2) := by decide +kernel
theorem dX12_chosenAt_13 : decode cX12_chosenAt 13 = .ok (.aload_n 0, 1) := by decide +kernel
theorem dX12_chosenAt_14 : decode cX12_chosenAt 14 = .ok (.getfield 13, 3) := by decide +kernel
theorem dX12_chosenAt_17 : decode cX12_chosenAt 17 = .ok (.iconst 0, 1) := by decide +kernel
theorem dX12_chosenAt_18 : decode cX12_chosenAt 18 = .ok (.iaload, 1) := by decide +kernel
theorem dX12_chosenAt_19 : decode cX12_chosenAt 19 = .ok (.if_icmp .ge 85, 3) := by decide +kernel
theorem dX12_chosenAt_22 : decode cX12_chosenAt 22 = .ok (.iload_n 2, 1) := by decide +kernel
theorem dX12_chosenAt_23 : decode cX12_chosenAt 23 = .ok (.ifCond .le 81, 3) := by decide +kernel
theorem dX12_chosenAt_26 : decode cX12_chosenAt 26 = .ok (.aload_n 0, 1) := by decide +kernel
theorem dX12_chosenAt_27 : decode cX12_chosenAt 27 = .ok (.iload 4, 2) := by decide +kernel
theorem dX12_chosenAt_29 : decode cX12_chosenAt 29 = .ok (.iload_n 1, 1) := by decide +kernel
theorem dX12_chosenAt_30 : decode cX12_chosenAt 30 = .ok (.invokevirtual 165, 3) := by decide +kernel
theorem dX12_chosenAt_33 : decode cX12_chosenAt 33 = .ok (.iload_n 2, 1) := by decide +kernel
theorem dX12_chosenAt_34 : decode cX12_chosenAt 34 = .ok (.if_icmp .ge 6, 3) := by decide +kernel
theorem dX12_chosenAt_37 : decode cX12_chosenAt 37 = .ok (.goto 61, 3) := by decide +kernel
theorem dX12_chosenAt_40 : decode cX12_chosenAt 40 = .ok (.iload_n 3, 1) := by decide +kernel
theorem dX12_chosenAt_41 : decode cX12_chosenAt 41 = .ok (.iconst (-1), 1) := by decide +kernel
theorem dX12_chosenAt_42 : decode cX12_chosenAt 42 = .ok (.if_icmp .eq 37, 3) := by decide +kernel
theorem dX12_chosenAt_45 : decode cX12_chosenAt 45 = .ok (.aload_n 0, 1) := by decide +kernel
theorem dX12_chosenAt_46 : decode cX12_chosenAt 46 = .ok (.getfield 13, 3) := by decide +kernel
theorem dX12_chosenAt_49 : decode cX12_chosenAt 49 = .ok (.iconst 3, 1) := by decide +kernel
theorem dX12_chosenAt_50 : decode cX12_chosenAt 50 = .ok (.iaload, 1) := by decide +kernel
theorem dX12_chosenAt_51 : decode cX12_chosenAt 51 = .ok (.iconst 1, 1) := by decide +kernel
theorem dX12_chosenAt_52 : decode cX12_chosenAt 52 = .ok (.if_icmp .eq 27, 3) := by decide +kernel
theorem dX12_chosenAt_55 : decode cX12_chosenAt 55 = .ok (.aload_n 0, 1) := by decide +kernel
theorem dX12_chosenAt_56 : decode cX12_chosenAt 56 = .ok (.getfield 13, 3) := by decide +kernel
theorem dX12_chosenAt_59 : decode cX12_chosenAt 59 = .ok (.iconst 3, 1) := by decide +kernel
theorem dX12_chosenAt_60 : decode cX12_chosenAt 60 = .ok (.iaload, 1) := by decide +kernel
theorem dX12_chosenAt_61 : decode cX12_chosenAt 61 = .ok (.iconst 2, 1) := by decide +kernel
theorem dX12_chosenAt_62 : decode cX12_chosenAt 62 = .ok (.if_icmp .ne 21, 3) := by decide +kernel
theorem dX12_chosenAt_65 : decode cX12_chosenAt 65 = .ok (.iload 4, 2) := by decide +kernel
theorem dX12_chosenAt_67 : decode cX12_chosenAt 67 = .ok (.iload_n 1, 1) := by decide +kernel
theorem dX12_chosenAt_68 : decode cX12_chosenAt 68 = .ok (.invokestatic 172, 3) := by decide +kernel
theorem dX12_chosenAt_71 : decode cX12_chosenAt 71 = .ok (.iload_n 3, 1) := by decide +kernel
theorem dX12_chosenAt_72 : decode cX12_chosenAt 72 = .ok (.iload_n 1, 1) := by decide +kernel
theorem dX12_chosenAt_73 : decode cX12_chosenAt 73 = .ok (.invokestatic 172, 3) := by decide +kernel
theorem dX12_chosenAt_76 : decode cX12_chosenAt 76 = .ok (.if_icmp .ge 7, 3) := by decide +kernel
theorem dX12_chosenAt_79 : decode cX12_chosenAt 79 = .ok (.iconst 1, 1) := by decide +kernel
theorem dX12_chosenAt_80 : decode cX12_chosenAt 80 = .ok (.goto 4, 3) := by decide +kernel
theorem dX12_chosenAt_83 : decode cX12_chosenAt 83 = .ok (.iconst 0, 1) := by decide +kernel
theorem dX12_chosenAt_84 : decode cX12_chosenAt 84 = .ok (.istore 5, 2) := by decide +kernel
theorem dX12_chosenAt_86 : decode cX12_chosenAt 86 = .ok (.iload 5, 2) := by decide +kernel
theorem dX12_chosenAt_88 : decode cX12_chosenAt 88 = .ok (.ifCond .eq 8, 3) := by decide +kernel
theorem dX12_chosenAt_91 : decode cX12_chosenAt 91 = .ok (.iload 4, 2) := by decide +kernel
theorem dX12_chosenAt_93 : decode cX12_chosenAt 93 = .ok (.goto 4, 3) := by decide +kernel
theorem dX12_chosenAt_96 : decode cX12_chosenAt 96 = .ok (.iload_n 3, 1) := by decide +kernel
theorem dX12_chosenAt_97 : decode cX12_chosenAt 97 = .ok (.istore_n 3, 1) := by decide +kernel
theorem dX12_chosenAt_98 : decode cX12_chosenAt 98 = .ok (.iinc 4 1, 3) := by decide +kernel
theorem dX12_chosenAt_101 : decode cX12_chosenAt 101 = .ok (.goto (-90), 3) := by decide +kernel
theorem dX12_chosenAt_104 : decode cX12_chosenAt 104 = .ok (.iload_n 3, 1) := by decide +kernel
theorem dX12_chosenAt_105 : decode cX12_chosenAt 105 = .ok (.ireturn, 1) := by decide +kernel
abbrev k_X12_chosenAt (E : g_E) (l : Launch) (D : g_D) (v1 : Int) (K : Int → g_D → Prop) : Prop := g_Ki E l m_X12_chosenAt 2 [g_R 208, g_I v1] g_SH D K
abbrev n_X12_chosenAt (E : g_E) (l : Launch) (D : g_D) (pc : Nat) (L : List (Option g_V)) (K : Int → g_D → Prop) : Prop := g_N E l m_X12_chosenAt 2 pc L [] g_SH D (g_Ri g_SH K)
theorem s_X12_chosenAt {E : g_E} {l : Launch} {D : g_D} {K : Int → g_D → Prop} {v1 : Int}  (hF : g_okD D → g_r v1 → k_X12_longestAt E l D v1 (fun x1 D1 => g_r x1 → n_X12_chosenAt E l D1 11 [some (g_R 208), some (g_I v1), some (g_I x1), some (g_I (-1)), some (g_I 0), none] K)) : k_X12_chosenAt E l D v1 K := by
  refine g_enter (by decide) (Nat.le_of_ble_eq_true rfl) ?_
  show g_N E l m_X12_chosenAt 2 0 [some (g_R 208), some (g_I v1), none, none, none, none] [] g_SH D (g_Ri g_SH K)
  refine g_use (fun ok => ?_)
  have hF := hF ok.2.1 (ok.loc (i := 1) rfl)
  refine g_aload_n dX12_chosenAt_0 rfl ?_
  refine g_iload_n dX12_chosenAt_1 rfl ?_
  refine gw_cVi (b := 208) (As := [g_I v1]) (rest := []) dX12_chosenAt_2 mv_X12_168 sh_208 rfl (Nat.le_of_ble_eq_true rfl) (by decide) rfl hF ?_
  intro x1 D1 hx1 hF
  have hF := hF hx1
  refine gw_istore_n (L' := [some (g_R 208), some (g_I v1), some (g_I x1), none, none, none]) dX12_chosenAt_5 (by decide) rfl ?_
  refine g_iconst dX12_chosenAt_6 ⟨by decide, by decide⟩ ?_
  refine gw_istore_n (L' := [some (g_R 208), some (g_I v1), some (g_I x1), some (g_I (-1)), none, none]) dX12_chosenAt_7 (by decide) rfl ?_
  refine g_iconst dX12_chosenAt_8 ⟨by decide, by decide⟩ ?_
  refine gw_istore (L' := [some (g_R 208), some (g_I v1), some (g_I x1), some (g_I (-1)), some (g_I 0), none]) dX12_chosenAt_9 (by decide) rfl ?_
  exact hF
theorem s_X12_chosenAt_11 {E : g_E} {l : Launch} {D : g_D} {K : Int → g_D → Prop} {v1 : Int} {v2 : Int} {v3 : Int} {v4 : Int}  (hF : g_okD D → g_r v1 → g_r v2 → g_r v3 → g_r v4 → ((D 209 0) ≤ v4 → K v3 D) ∧ (¬ (D 209 0) ≤ v4 → (v2 ≤ 0 → K v3 D) ∧ (¬ v2 ≤ 0 → k_X12_runAt E l D v4 v1 (fun x1 D1 => g_r x1 → (v2 ≤ x1 → (v3 = (-1) → (g_r (v4 + 1)) ∧ (n_X12_chosenAt E l D1 11 [some (g_R 208), some (g_I v1), some (g_I v2), some (g_I v4), some (g_I (v4 + 1)), none] K)) ∧ (¬ v3 = (-1) → ((D1 209 3) = 1 → (g_r (v4 + 1)) ∧ (n_X12_chosenAt E l D1 11 [some (g_R 208), some (g_I v1), some (g_I v2), some (g_I v4), some (g_I (v4 + 1)), none] K)) ∧ (¬ (D1 209 3) = 1 → (¬ (D1 209 3) = 2 → (g_r (v4 + 1)) ∧ (n_X12_chosenAt E l D1 11 [some (g_R 208), some (g_I v1), some (g_I v2), some (g_I v3), some (g_I (v4 + 1)), none] K)) ∧ ((D1 209 3) = 2 → k_X12_apart E l g_SH D1 v4 v1 (fun x2 D2 => g_r x2 → k_X12_apart E l g_SH D2 v3 v1 (fun x3 D3 => g_r x3 → (x3 ≤ x2 → (g_r (v4 + 1)) ∧ (n_X12_chosenAt E l D3 11 [some (g_R 208), some (g_I v1), some (g_I v2), some (g_I v3), some (g_I (v4 + 1)), none] K)) ∧ (¬ x3 ≤ x2 → (g_r (v4 + 1)) ∧ (n_X12_chosenAt E l D3 11 [some (g_R 208), some (g_I v1), some (g_I v2), some (g_I v4), some (g_I (v4 + 1)), none] K)))))))) ∧ (¬ v2 ≤ x1 → (g_r (v4 + 1)) ∧ (n_X12_chosenAt E l D1 11 [some (g_R 208), some (g_I v1), some (g_I v2), some (g_I v3), some (g_I (v4 + 1)), none] K)))))) : n_X12_chosenAt E l D 11 [some (g_R 208), some (g_I v1), some (g_I v2), some (g_I v3), some (g_I v4), none] K := by
  refine g_use (fun ok => ?_)
  have hF := hF ok.2.1 (ok.loc (i := 1) rfl) (ok.loc (i := 2) rfl) (ok.loc (i := 3) rfl) (ok.loc (i := 4) rfl)
  refine g_iload dX12_chosenAt_11 rfl ?_
  refine g_aload_n dX12_chosenAt_13 rfl ?_
  refine g_getR dX12_chosenAt_14 fd_X12_13 sh_208 rfl ?_
  refine g_iconst dX12_chosenAt_17 ⟨by decide, by decide⟩ ?_
  refine g_iald dX12_chosenAt_18 sh_209 (by decide) (by decide) ?_
  refine g_cge dX12_chosenAt_19 rfl (fun q => ?_) (fun q => ?_)
  · have hF := hF.1 q
    refine g_iload_n dX12_chosenAt_104 rfl ?_
    exact gw_iret dX12_chosenAt_105 rfl hF
  · have hF := hF.2 q
    refine g_iload_n dX12_chosenAt_22 rfl ?_
    refine g_ifle dX12_chosenAt_23 rfl (fun q => ?_) (fun q => ?_)
    · have hF := hF.1 q
      refine g_iload_n dX12_chosenAt_104 rfl ?_
      exact gw_iret dX12_chosenAt_105 rfl hF
    · have hF := hF.2 q
      refine g_aload_n dX12_chosenAt_26 rfl ?_
      refine g_iload dX12_chosenAt_27 rfl ?_
      refine g_iload_n dX12_chosenAt_29 rfl ?_
      refine gw_cVi (b := 208) (As := [g_I v4, g_I v1]) (rest := []) dX12_chosenAt_30 mv_X12_165 sh_208 rfl (Nat.le_of_ble_eq_true rfl) (by decide) rfl hF ?_
      intro x1 D1 hx1 hF
      have hF := hF hx1
      refine g_iload_n dX12_chosenAt_33 rfl ?_
      refine g_cge dX12_chosenAt_34 rfl (fun q => ?_) (fun q => ?_)
      · have hF := hF.1 q
        refine g_iload_n dX12_chosenAt_40 rfl ?_
        refine g_iconst dX12_chosenAt_41 ⟨by decide, by decide⟩ ?_
        refine g_ceq dX12_chosenAt_42 rfl (fun q => ?_) (fun q => ?_)
        · have hF := hF.1 q
          refine g_iconst dX12_chosenAt_79 ⟨by decide, by decide⟩ ?_
          refine g_goto dX12_chosenAt_80 rfl ?_
          refine gw_istore (L' := [some (g_R 208), some (g_I v1), some (g_I v2), some (g_I v3), some (g_I v4), some (g_I 1)]) dX12_chosenAt_84 (by decide) rfl ?_
          refine g_iload dX12_chosenAt_86 rfl ?_
          refine g_ifeq dX12_chosenAt_88 rfl (fun q => absurd q (by decide)) (fun _ => ?_)
          refine g_iload dX12_chosenAt_91 rfl ?_
          refine g_goto dX12_chosenAt_93 rfl ?_
          refine gw_istore_n (L' := [some (g_R 208), some (g_I v1), some (g_I v2), some (g_I v4), some (g_I v4), some (g_I 1)]) dX12_chosenAt_97 (by decide) rfl ?_
          obtain ⟨hc, hF⟩ := hF
          refine gw_iinc (L' := [some (g_R 208), some (g_I v1), some (g_I v2), some (g_I v4), some (g_I (v4 + 1)), some (g_I 1)]) dX12_chosenAt_98 rfl hc (by decide) rfl ?_
          refine g_goto dX12_chosenAt_101 rfl ?_
          exact g_forget (L' := [some (g_R 208), some (g_I v1), some (g_I v2), some (g_I v4), some (g_I (v4 + 1)), none]) ⟨rfl, ⟨rfl, ⟨rfl, ⟨rfl, ⟨rfl, trivial⟩⟩⟩⟩⟩ hF
        · have hF := hF.2 q
          refine g_aload_n dX12_chosenAt_45 rfl ?_
          refine g_getR dX12_chosenAt_46 fd_X12_13 sh_208 rfl ?_
          refine g_iconst dX12_chosenAt_49 ⟨by decide, by decide⟩ ?_
          refine g_iald dX12_chosenAt_50 sh_209 (by decide) (by decide) ?_
          refine g_iconst dX12_chosenAt_51 ⟨by decide, by decide⟩ ?_
          refine g_ceq dX12_chosenAt_52 rfl (fun q => ?_) (fun q => ?_)
          · have hF := hF.1 q
            refine g_iconst dX12_chosenAt_79 ⟨by decide, by decide⟩ ?_
            refine g_goto dX12_chosenAt_80 rfl ?_
            refine gw_istore (L' := [some (g_R 208), some (g_I v1), some (g_I v2), some (g_I v3), some (g_I v4), some (g_I 1)]) dX12_chosenAt_84 (by decide) rfl ?_
            refine g_iload dX12_chosenAt_86 rfl ?_
            refine g_ifeq dX12_chosenAt_88 rfl (fun q => absurd q (by decide)) (fun _ => ?_)
            refine g_iload dX12_chosenAt_91 rfl ?_
            refine g_goto dX12_chosenAt_93 rfl ?_
            refine gw_istore_n (L' := [some (g_R 208), some (g_I v1), some (g_I v2), some (g_I v4), some (g_I v4), some (g_I 1)]) dX12_chosenAt_97 (by decide) rfl ?_
            obtain ⟨hc, hF⟩ := hF
            refine gw_iinc (L' := [some (g_R 208), some (g_I v1), some (g_I v2), some (g_I v4), some (g_I (v4 + 1)), some (g_I 1)]) dX12_chosenAt_98 rfl hc (by decide) rfl ?_
            refine g_goto dX12_chosenAt_101 rfl ?_
            exact g_forget (L' := [some (g_R 208), some (g_I v1), some (g_I v2), some (g_I v4), some (g_I (v4 + 1)), none]) ⟨rfl, ⟨rfl, ⟨rfl, ⟨rfl, ⟨rfl, trivial⟩⟩⟩⟩⟩ hF
          · have hF := hF.2 q
            refine g_aload_n dX12_chosenAt_55 rfl ?_
            refine g_getR dX12_chosenAt_56 fd_X12_13 sh_208 rfl ?_
            refine g_iconst dX12_chosenAt_59 ⟨by decide, by decide⟩ ?_
            refine g_iald dX12_chosenAt_60 sh_209 (by decide) (by decide) ?_
            refine g_iconst dX12_chosenAt_61 ⟨by decide, by decide⟩ ?_
            refine g_cne dX12_chosenAt_62 rfl (fun q => ?_) (fun q => ?_)
            · have hF := hF.1 q
              refine g_iconst dX12_chosenAt_83 ⟨by decide, by decide⟩ ?_
              refine gw_istore (L' := [some (g_R 208), some (g_I v1), some (g_I v2), some (g_I v3), some (g_I v4), some (g_I 0)]) dX12_chosenAt_84 (by decide) rfl ?_
              refine g_iload dX12_chosenAt_86 rfl ?_
              refine g_ifeq dX12_chosenAt_88 rfl (fun _ => ?_) (fun q => absurd q (by decide))
              refine g_iload_n dX12_chosenAt_96 rfl ?_
              refine gw_istore_n (L' := [some (g_R 208), some (g_I v1), some (g_I v2), some (g_I v3), some (g_I v4), some (g_I 0)]) dX12_chosenAt_97 (by decide) rfl ?_
              obtain ⟨hc, hF⟩ := hF
              refine gw_iinc (L' := [some (g_R 208), some (g_I v1), some (g_I v2), some (g_I v3), some (g_I (v4 + 1)), some (g_I 0)]) dX12_chosenAt_98 rfl hc (by decide) rfl ?_
              refine g_goto dX12_chosenAt_101 rfl ?_
              exact g_forget (L' := [some (g_R 208), some (g_I v1), some (g_I v2), some (g_I v3), some (g_I (v4 + 1)), none]) ⟨rfl, ⟨rfl, ⟨rfl, ⟨rfl, ⟨rfl, trivial⟩⟩⟩⟩⟩ hF
            · have hF := hF.2 q
              refine g_iload dX12_chosenAt_65 rfl ?_
              refine g_iload_n dX12_chosenAt_67 rfl ?_
              refine gw_cSi (As := [g_I v4, g_I v1]) (rest := []) dX12_chosenAt_68 ms_X12_172 rfl (Nat.le_of_ble_eq_true rfl) (by decide) rfl hF ?_
              intro x2 D2 hx2 hF
              have hF := hF hx2
              refine g_iload_n dX12_chosenAt_71 rfl ?_
              refine g_iload_n dX12_chosenAt_72 rfl ?_
              refine gw_cSi (As := [g_I v3, g_I v1]) (rest := [g_I x2]) dX12_chosenAt_73 ms_X12_172 rfl (Nat.le_of_ble_eq_true rfl) (by decide) rfl hF ?_
              intro x3 D3 hx3 hF
              have hF := hF hx3
              refine g_cge dX12_chosenAt_76 rfl (fun q => ?_) (fun q => ?_)
              · have hF := hF.1 q
                refine g_iconst dX12_chosenAt_83 ⟨by decide, by decide⟩ ?_
                refine gw_istore (L' := [some (g_R 208), some (g_I v1), some (g_I v2), some (g_I v3), some (g_I v4), some (g_I 0)]) dX12_chosenAt_84 (by decide) rfl ?_
                refine g_iload dX12_chosenAt_86 rfl ?_
                refine g_ifeq dX12_chosenAt_88 rfl (fun _ => ?_) (fun q => absurd q (by decide))
                refine g_iload_n dX12_chosenAt_96 rfl ?_
                refine gw_istore_n (L' := [some (g_R 208), some (g_I v1), some (g_I v2), some (g_I v3), some (g_I v4), some (g_I 0)]) dX12_chosenAt_97 (by decide) rfl ?_
                obtain ⟨hc, hF⟩ := hF
                refine gw_iinc (L' := [some (g_R 208), some (g_I v1), some (g_I v2), some (g_I v3), some (g_I (v4 + 1)), some (g_I 0)]) dX12_chosenAt_98 rfl hc (by decide) rfl ?_
                refine g_goto dX12_chosenAt_101 rfl ?_
                exact g_forget (L' := [some (g_R 208), some (g_I v1), some (g_I v2), some (g_I v3), some (g_I (v4 + 1)), none]) ⟨rfl, ⟨rfl, ⟨rfl, ⟨rfl, ⟨rfl, trivial⟩⟩⟩⟩⟩ hF
              · have hF := hF.2 q
                refine g_iconst dX12_chosenAt_79 ⟨by decide, by decide⟩ ?_
                refine g_goto dX12_chosenAt_80 rfl ?_
                refine gw_istore (L' := [some (g_R 208), some (g_I v1), some (g_I v2), some (g_I v3), some (g_I v4), some (g_I 1)]) dX12_chosenAt_84 (by decide) rfl ?_
                refine g_iload dX12_chosenAt_86 rfl ?_
                refine g_ifeq dX12_chosenAt_88 rfl (fun q => absurd q (by decide)) (fun _ => ?_)
                refine g_iload dX12_chosenAt_91 rfl ?_
                refine g_goto dX12_chosenAt_93 rfl ?_
                refine gw_istore_n (L' := [some (g_R 208), some (g_I v1), some (g_I v2), some (g_I v4), some (g_I v4), some (g_I 1)]) dX12_chosenAt_97 (by decide) rfl ?_
                obtain ⟨hc, hF⟩ := hF
                refine gw_iinc (L' := [some (g_R 208), some (g_I v1), some (g_I v2), some (g_I v4), some (g_I (v4 + 1)), some (g_I 1)]) dX12_chosenAt_98 rfl hc (by decide) rfl ?_
                refine g_goto dX12_chosenAt_101 rfl ?_
                exact g_forget (L' := [some (g_R 208), some (g_I v1), some (g_I v2), some (g_I v4), some (g_I (v4 + 1)), none]) ⟨rfl, ⟨rfl, ⟨rfl, ⟨rfl, ⟨rfl, trivial⟩⟩⟩⟩⟩ hF
      · have hF := hF.2 q
        refine g_goto dX12_chosenAt_37 rfl ?_
        obtain ⟨hc, hF⟩ := hF
        refine gw_iinc (L' := [some (g_R 208), some (g_I v1), some (g_I v2), some (g_I v3), some (g_I (v4 + 1)), none]) dX12_chosenAt_98 rfl hc (by decide) rfl ?_
        refine g_goto dX12_chosenAt_101 rfl ?_
        exact hF
theorem dX12_laysCommand_0 : decode cX12_laysCommand 0 = .ok (.aload_n 0, 1) := by decide +kernel
theorem dX12_laysCommand_1 : decode cX12_laysCommand 1 = .ok (.getfield 36, 3) := by decide +kernel
theorem dX12_laysCommand_4 : decode cX12_laysCommand 4 = .ok (.aload_n 0, 1) := by decide +kernel
theorem dX12_laysCommand_5 : decode cX12_laysCommand 5 = .ok (.getfield 182, 3) := by decide +kernel
theorem dX12_laysCommand_8 : decode cX12_laysCommand 8 = .ok (.iload_n 1, 1) := by decide +kernel
theorem dX12_laysCommand_9 : decode cX12_laysCommand 9 = .ok (.iastore, 1) := by decide +kernel
theorem dX12_laysCommand_10 : decode cX12_laysCommand 10 = .ok (.aload_n 0, 1) := by decide +kernel
theorem dX12_laysCommand_11 : decode cX12_laysCommand 11 = .ok (.getfield 39, 3) := by decide +kernel
theorem dX12_laysCommand_14 : decode cX12_laysCommand 14 = .ok (.aload_n 0, 1) := by decide +kernel
theorem dX12_laysCommand_15 : decode cX12_laysCommand 15 = .ok (.getfield 182, 3) := by decide +kernel
theorem dX12_laysCommand_18 : decode cX12_laysCommand 18 = .ok (.iload_n 2, 1) := by decide +kernel
theorem dX12_laysCommand_19 : decode cX12_laysCommand 19 = .ok (.iastore, 1) := by decide +kernel
theorem dX12_laysCommand_20 : decode cX12_laysCommand 20 = .ok (.aload_n 0, 1) := by decide +kernel
theorem dX12_laysCommand_21 : decode cX12_laysCommand 21 = .ok (.getfield 42, 3) := by decide +kernel
theorem dX12_laysCommand_24 : decode cX12_laysCommand 24 = .ok (.aload_n 0, 1) := by decide +kernel
theorem dX12_laysCommand_25 : decode cX12_laysCommand 25 = .ok (.getfield 182, 3) := by decide +kernel
theorem dX12_laysCommand_28 : decode cX12_laysCommand 28 = .ok (.iload_n 3, 1) := by decide +kernel
theorem dX12_laysCommand_29 : decode cX12_laysCommand 29 = .ok (.iastore, 1) := by decide +kernel
theorem dX12_laysCommand_30 : decode cX12_laysCommand 30 = .ok (.aload_n 0, 1) := by decide +kernel
theorem dX12_laysCommand_31 : decode cX12_laysCommand 31 = .ok (.getfield 45, 3) := by decide +kernel
theorem dX12_laysCommand_34 : decode cX12_laysCommand 34 = .ok (.aload_n 0, 1) := by decide +kernel
theorem dX12_laysCommand_35 : decode cX12_laysCommand 35 = .ok (.getfield 182, 3) := by decide +kernel
theorem dX12_laysCommand_38 : decode cX12_laysCommand 38 = .ok (.iload 4, 2) := by decide +kernel
theorem dX12_laysCommand_40 : decode cX12_laysCommand 40 = .ok (.iastore, 1) := by decide +kernel
theorem dX12_laysCommand_41 : decode cX12_laysCommand 41 = .ok (.aload_n 0, 1) := by decide +kernel
theorem dX12_laysCommand_42 : decode cX12_laysCommand 42 = .ok (.dup, 1) := by decide +kernel
theorem dX12_laysCommand_43 : decode cX12_laysCommand 43 = .ok (.getfield 182, 3) := by decide +kernel
theorem dX12_laysCommand_46 : decode cX12_laysCommand 46 = .ok (.iconst 1, 1) := by decide +kernel
theorem dX12_laysCommand_47 : decode cX12_laysCommand 47 = .ok (.iadd, 1) := by decide +kernel
theorem dX12_laysCommand_48 : decode cX12_laysCommand 48 = .ok (.putfield 182, 3) := by decide +kernel
theorem dX12_laysCommand_51 : decode cX12_laysCommand 51 = .ok (.return_, 1) := by decide +kernel
abbrev k_X12_laysCommand (E : g_E) (l : Launch) (D : g_D) (v1 : Int) (v2 : Int) (v3 : Int) (v4 : Int) (K : g_D → Prop) : Prop := g_Kv E l m_X12_laysCommand 0 [g_R 208, g_I v1, g_I v2, g_I v3, g_I v4] g_SH D K
abbrev n_X12_laysCommand (E : g_E) (l : Launch) (D : g_D) (pc : Nat) (L : List (Option g_V)) (K : g_D → Prop) : Prop := g_N E l m_X12_laysCommand 0 pc L [] g_SH D (g_Rv g_SH K)
theorem s_X12_laysCommand {E : g_E} {l : Launch} {D : g_D} {K : g_D → Prop} {v1 : Int} {v2 : Int} {v3 : Int} {v4 : Int}  (hF : g_okD D → g_r v1 → g_r v2 → g_r v3 → g_r v4 → (0 ≤ (D 208 14) ∧ (D 208 14) < 40) ∧ (∀ D1, D1 = g_up D 216 (D 208 14).toNat v1 → ((0 ≤ (D 208 14) ∧ (D 208 14) < 40) ∧ (∀ D2, D2 = g_up D1 217 (D 208 14).toNat v2 → ((0 ≤ (D 208 14) ∧ (D 208 14) < 40) ∧ (∀ D3, D3 = g_up D2 218 (D 208 14).toNat v3 → ((0 ≤ (D 208 14) ∧ (D 208 14) < 40) ∧ (∀ D4, D4 = g_up D3 219 (D 208 14).toNat v4 → ((g_r ((D 208 14) + 1)) ∧ (∀ D5, D5 = g_up D4 208 14 ((D 208 14) + 1) → (K D5))))))))))) : k_X12_laysCommand E l D v1 v2 v3 v4 K := by
  refine g_enter (by decide) (Nat.le_of_ble_eq_true rfl) ?_
  show g_N E l m_X12_laysCommand 0 0 [some (g_R 208), some (g_I v1), some (g_I v2), some (g_I v3), some (g_I v4)] [] g_SH D (g_Rv g_SH K)
  refine g_use (fun ok => ?_)
  have hF := hF ok.2.1 (ok.loc (i := 1) rfl) (ok.loc (i := 2) rfl) (ok.loc (i := 3) rfl) (ok.loc (i := 4) rfl)
  refine g_aload_n dX12_laysCommand_0 rfl ?_
  refine g_getR dX12_laysCommand_1 fd_X12_36 sh_208 rfl ?_
  refine g_aload_n dX12_laysCommand_4 rfl ?_
  refine g_getI dX12_laysCommand_5 fd_X12_182 sh_208 rfl ?_
  refine g_iload_n dX12_laysCommand_8 rfl ?_
  obtain ⟨hc, hF⟩ := hF
  let D1 : g_D := g_up D 216 (D 208 14).toNat v1
  have hF := hF D1 rfl
  refine g_iast dX12_laysCommand_9 sh_216 hc.1 hc.2 ?_
  refine g_aload_n dX12_laysCommand_10 rfl ?_
  refine g_getR dX12_laysCommand_11 fd_X12_39 sh_208 rfl ?_
  refine g_aload_n dX12_laysCommand_14 rfl ?_
  refine g_getI dX12_laysCommand_15 fd_X12_182 sh_208 rfl ?_
  refine g_iload_n dX12_laysCommand_18 rfl ?_
  obtain ⟨hc, hF⟩ := hF
  let D2 : g_D := g_up D1 217 (D 208 14).toNat v2
  have hF := hF D2 rfl
  refine g_iast dX12_laysCommand_19 sh_217 hc.1 hc.2 ?_
  refine g_aload_n dX12_laysCommand_20 rfl ?_
  refine g_getR dX12_laysCommand_21 fd_X12_42 sh_208 rfl ?_
  refine g_aload_n dX12_laysCommand_24 rfl ?_
  refine g_getI dX12_laysCommand_25 fd_X12_182 sh_208 rfl ?_
  refine g_iload_n dX12_laysCommand_28 rfl ?_
  obtain ⟨hc, hF⟩ := hF
  let D3 : g_D := g_up D2 218 (D 208 14).toNat v3
  have hF := hF D3 rfl
  refine g_iast dX12_laysCommand_29 sh_218 hc.1 hc.2 ?_
  refine g_aload_n dX12_laysCommand_30 rfl ?_
  refine g_getR dX12_laysCommand_31 fd_X12_45 sh_208 rfl ?_
  refine g_aload_n dX12_laysCommand_34 rfl ?_
  refine g_getI dX12_laysCommand_35 fd_X12_182 sh_208 rfl ?_
  refine g_iload dX12_laysCommand_38 rfl ?_
  obtain ⟨hc, hF⟩ := hF
  let D4 : g_D := g_up D3 219 (D 208 14).toNat v4
  have hF := hF D4 rfl
  refine g_iast dX12_laysCommand_40 sh_219 hc.1 hc.2 ?_
  refine g_aload_n dX12_laysCommand_41 rfl ?_
  refine g_dup dX12_laysCommand_42 rfl ?_
  refine g_getI dX12_laysCommand_43 fd_X12_182 sh_208 rfl ?_
  refine g_iconst dX12_laysCommand_46 ⟨by decide, by decide⟩ ?_
  obtain ⟨hc, hF⟩ := hF
  refine g_iadd dX12_laysCommand_47 hc ?_
  let D5 : g_D := g_up D4 208 14 ((D 208 14) + 1)
  have hF := hF D5 rfl
  refine g_put dX12_laysCommand_48 fd_X12_182 (g_ftyI (C := RX12) (T := TX12) (N := 51) rfl rfl (by decide +kernel)) sh_208 rfl ?_
  exact gw_vret dX12_laysCommand_51 rfl hF
theorem dX12_meet_0 : decode cX12_meet 0 = .ok (.iload_n 0, 1) := by decide +kernel
theorem dX12_meet_1 : decode cX12_meet 1 = .ok (.iload_n 2, 1) := by decide +kernel
theorem dX12_meet_2 : decode cX12_meet 2 = .ok (.iload_n 3, 1) := by decide +kernel
theorem dX12_meet_3 : decode cX12_meet 3 = .ok (.iadd, 1) := by decide +kernel
theorem dX12_meet_4 : decode cX12_meet 4 = .ok (.if_icmp .ge 14, 3) := by decide +kernel
theorem dX12_meet_7 : decode cX12_meet 7 = .ok (.iload_n 2, 1) := by decide +kernel
theorem dX12_meet_8 : decode cX12_meet 8 = .ok (.iload_n 0, 1) := by decide +kernel
theorem dX12_meet_9 : decode cX12_meet 9 = .ok (.iload_n 1, 1) := by decide +kernel
theorem dX12_meet_10 : decode cX12_meet 10 = .ok (.iadd, 1) := by decide +kernel
theorem dX12_meet_11 : decode cX12_meet 11 = .ok (.if_icmp .ge 7, 3) := by decide +kernel
theorem dX12_meet_14 : decode cX12_meet 14 = .ok (.iconst 1, 1) := by decide +kernel
theorem dX12_meet_15 : decode cX12_meet 15 = .ok (.goto 4, 3) := by decide +kernel
theorem dX12_meet_18 : decode cX12_meet 18 = .ok (.iconst 0, 1) := by decide +kernel
theorem dX12_meet_19 : decode cX12_meet 19 = .ok (.ireturn, 1) := by decide +kernel
abbrev k_X12_meet (E : g_E) (l : Launch) (sh : List g_Sh) (D : g_D) (v0 : Int) (v1 : Int) (v2 : Int) (v3 : Int) (K : Int → g_D → Prop) : Prop := g_Ki E l m_X12_meet 0 [g_I v0, g_I v1, g_I v2, g_I v3] sh D K
abbrev n_X12_meet (E : g_E) (l : Launch) (sh : List g_Sh) (D : g_D) (pc : Nat) (L : List (Option g_V)) (K : Int → g_D → Prop) : Prop := g_N E l m_X12_meet 0 pc L [] sh D (g_Ri sh K)
theorem s_X12_meet {E : g_E} {l : Launch} {sh : List g_Sh} {D : g_D} {K : Int → g_D → Prop} {v0 : Int} {v1 : Int} {v2 : Int} {v3 : Int}  (hF : g_okD D → g_r v0 → g_r v1 → g_r v2 → g_r v3 → (g_r (v2 + v3)) ∧ (((v2 + v3) ≤ v0 → K 0 D) ∧ (¬ (v2 + v3) ≤ v0 → (g_r (v0 + v1)) ∧ (((v0 + v1) ≤ v2 → K 0 D) ∧ (¬ (v0 + v1) ≤ v2 → K 1 D))))) : k_X12_meet E l sh D v0 v1 v2 v3 K := by
  refine g_enter (by decide) (Nat.le_of_ble_eq_true rfl) ?_
  show g_N E l m_X12_meet 0 0 [some (g_I v0), some (g_I v1), some (g_I v2), some (g_I v3)] [] sh D (g_Ri sh K)
  refine g_use (fun ok => ?_)
  have hF := hF ok.2.1 (ok.loc (i := 0) rfl) (ok.loc (i := 1) rfl) (ok.loc (i := 2) rfl) (ok.loc (i := 3) rfl)
  refine g_iload_n dX12_meet_0 rfl ?_
  refine g_iload_n dX12_meet_1 rfl ?_
  refine g_iload_n dX12_meet_2 rfl ?_
  obtain ⟨hc, hF⟩ := hF
  refine g_iadd dX12_meet_3 hc ?_
  refine g_cge dX12_meet_4 rfl (fun q => ?_) (fun q => ?_)
  · have hF := hF.1 q
    refine g_iconst dX12_meet_18 ⟨by decide, by decide⟩ ?_
    exact gw_zret dX12_meet_19 rfl (by decide) hF
  · have hF := hF.2 q
    refine g_iload_n dX12_meet_7 rfl ?_
    refine g_iload_n dX12_meet_8 rfl ?_
    refine g_iload_n dX12_meet_9 rfl ?_
    obtain ⟨hc, hF⟩ := hF
    refine g_iadd dX12_meet_10 hc ?_
    refine g_cge dX12_meet_11 rfl (fun q => ?_) (fun q => ?_)
    · have hF := hF.1 q
      refine g_iconst dX12_meet_18 ⟨by decide, by decide⟩ ?_
      exact gw_zret dX12_meet_19 rfl (by decide) hF
    · have hF := hF.2 q
      refine g_iconst dX12_meet_14 ⟨by decide, by decide⟩ ?_
      refine g_goto dX12_meet_15 rfl ?_
      exact gw_zret dX12_meet_19 rfl (by decide) hF
theorem dX12_laysCommands_0 : decode cX12_laysCommands 0 = .ok (.aload_n 0, 1) := by decide +kernel
theorem dX12_laysCommands_1 : decode cX12_laysCommands 1 = .ok (.iconst 0, 1) := by decide +kernel
theorem dX12_laysCommands_2 : decode cX12_laysCommands 2 = .ok (.putfield 182, 3) := by decide +kernel
theorem dX12_laysCommands_5 : decode cX12_laysCommands 5 = .ok (.iconst 0, 1) := by decide +kernel
theorem dX12_laysCommands_6 : decode cX12_laysCommands 6 = .ok (.istore_n 1, 1) := by decide +kernel
theorem dX12_laysCommands_7 : decode cX12_laysCommands 7 = .ok (.iload_n 1, 1) := by decide +kernel
theorem dX12_laysCommands_8 : decode cX12_laysCommands 8 = .ok (.aload_n 0, 1) := by decide +kernel
theorem dX12_laysCommands_9 : decode cX12_laysCommands 9 = .ok (.getfield 13, 3) := by decide +kernel
theorem dX12_laysCommands_12 : decode cX12_laysCommands 12 = .ok (.iconst 1, 1) := by decide +kernel
theorem dX12_laysCommands_13 : decode cX12_laysCommands 13 = .ok (.iaload, 1) := by decide +kernel
theorem dX12_laysCommands_14 : decode cX12_laysCommands 14 = .ok (.if_icmp .ge 102, 3) := by decide +kernel
theorem dX12_laysCommands_17 : decode cX12_laysCommands 17 = .ok (.aload_n 0, 1) := by decide +kernel
theorem dX12_laysCommands_18 : decode cX12_laysCommands 18 = .ok (.iload_n 1, 1) := by decide +kernel
theorem dX12_laysCommands_19 : decode cX12_laysCommands 19 = .ok (.invokevirtual 168, 3) := by decide +kernel
theorem dX12_laysCommands_22 : decode cX12_laysCommands 22 = .ok (.istore_n 2, 1) := by decide +kernel
theorem dX12_laysCommands_23 : decode cX12_laysCommands 23 = .ok (.iload_n 2, 1) := by decide +kernel
theorem dX12_laysCommands_24 : decode cX12_laysCommands 24 = .ok (.aload_n 0, 1) := by decide +kernel
theorem dX12_laysCommands_25 : decode cX12_laysCommands 25 = .ok (.getfield 13, 3) := by decide +kernel
theorem dX12_laysCommands_28 : decode cX12_laysCommands 28 = .ok (.iconst 2, 1) := by decide +kernel
theorem dX12_laysCommands_29 : decode cX12_laysCommands 29 = .ok (.iaload, 1) := by decide +kernel
theorem dX12_laysCommands_30 : decode cX12_laysCommands 30 = .ok (.if_icmp .lt 33, 3) := by decide +kernel
theorem dX12_laysCommands_33 : decode cX12_laysCommands 33 = .ok (.aload_n 0, 1) := by decide +kernel
theorem dX12_laysCommands_34 : decode cX12_laysCommands 34 = .ok (.iload_n 1, 1) := by decide +kernel
theorem dX12_laysCommands_35 : decode cX12_laysCommands 35 = .ok (.invokevirtual 175, 3) := by decide +kernel
theorem dX12_laysCommands_38 : decode cX12_laysCommands 38 = .ok (.istore_n 3, 1) := by decide +kernel
theorem dX12_laysCommands_39 : decode cX12_laysCommands 39 = .ok (.aload_n 0, 1) := by decide +kernel
theorem dX12_laysCommands_40 : decode cX12_laysCommands 40 = .ok (.iload_n 3, 1) := by decide +kernel
theorem dX12_laysCommands_41 : decode cX12_laysCommands 41 = .ok (.iload_n 1, 1) := by decide +kernel
theorem dX12_laysCommands_42 : decode cX12_laysCommands 42 = .ok (.if_icmp .ne 7, 3) := by decide +kernel
theorem dX12_laysCommands_45 : decode cX12_laysCommands 45 = .ok (.iconst 2, 1) := by decide +kernel
theorem dX12_laysCommands_46 : decode cX12_laysCommands 46 = .ok (.goto 4, 3) := by decide +kernel
theorem dX12_laysCommands_49 : decode cX12_laysCommands 49 = .ok (.iconst 1, 1) := by decide +kernel
theorem dX12_laysCommands_50 : decode cX12_laysCommands 50 = .ok (.iload_n 1, 1) := by decide +kernel
theorem dX12_laysCommands_51 : decode cX12_laysCommands 51 = .ok (.iload_n 3, 1) := by decide +kernel
theorem dX12_laysCommands_52 : decode cX12_laysCommands 52 = .ok (.iload_n 2, 1) := by decide +kernel
theorem dX12_laysCommands_53 : decode cX12_laysCommands 53 = .ok (.invokevirtual 185, 3) := by decide +kernel
theorem dX12_laysCommands_56 : decode cX12_laysCommands 56 = .ok (.iload_n 1, 1) := by decide +kernel
theorem dX12_laysCommands_57 : decode cX12_laysCommands 57 = .ok (.iload_n 2, 1) := by decide +kernel
theorem dX12_laysCommands_58 : decode cX12_laysCommands 58 = .ok (.iadd, 1) := by decide +kernel
theorem dX12_laysCommands_59 : decode cX12_laysCommands 59 = .ok (.istore_n 1, 1) := by decide +kernel
theorem dX12_laysCommands_60 : decode cX12_laysCommands 60 = .ok (.goto (-53), 3) := by decide +kernel
theorem dX12_laysCommands_63 : decode cX12_laysCommands 63 = .ok (.aload_n 0, 1) := by decide +kernel
theorem dX12_laysCommands_64 : decode cX12_laysCommands 64 = .ok (.getfield 182, 3) := by decide +kernel
theorem dX12_laysCommands_67 : decode cX12_laysCommands 67 = .ok (.ifCond .le 35, 3) := by decide +kernel
theorem dX12_laysCommands_70 : decode cX12_laysCommands 70 = .ok (.aload_n 0, 1) := by decide +kernel
theorem dX12_laysCommands_71 : decode cX12_laysCommands 71 = .ok (.getfield 36, 3) := by decide +kernel
theorem dX12_laysCommands_74 : decode cX12_laysCommands 74 = .ok (.aload_n 0, 1) := by decide +kernel
theorem dX12_laysCommands_75 : decode cX12_laysCommands 75 = .ok (.getfield 182, 3) := by decide +kernel
theorem dX12_laysCommands_78 : decode cX12_laysCommands 78 = .ok (.iconst 1, 1) := by decide +kernel
theorem dX12_laysCommands_79 : decode cX12_laysCommands 79 = .ok (.isub, 1) := by decide +kernel
theorem dX12_laysCommands_80 : decode cX12_laysCommands 80 = .ok (.iaload, 1) := by decide +kernel
theorem dX12_laysCommands_81 : decode cX12_laysCommands 81 = .ok (.ifCond .ne 21, 3) := by decide +kernel
theorem dX12_laysCommands_84 : decode cX12_laysCommands 84 = .ok (.aload_n 0, 1) := by decide +kernel
theorem dX12_laysCommands_85 : decode cX12_laysCommands 85 = .ok (.getfield 45, 3) := by decide +kernel
theorem dX12_laysCommands_88 : decode cX12_laysCommands 88 = .ok (.aload_n 0, 1) := by decide +kernel
theorem dX12_laysCommands_89 : decode cX12_laysCommands 89 = .ok (.getfield 182, 3) := by decide +kernel
theorem dX12_laysCommands_92 : decode cX12_laysCommands 92 = .ok (.iconst 1, 1) := by decide +kernel
theorem dX12_laysCommands_93 : decode cX12_laysCommands 93 = .ok (.isub, 1) := by decide +kernel
theorem dX12_laysCommands_94 : decode cX12_laysCommands 94 = .ok (.dup2, 1) := by decide +kernel
theorem dX12_laysCommands_95 : decode cX12_laysCommands 95 = .ok (.iaload, 1) := by decide +kernel
theorem dX12_laysCommands_96 : decode cX12_laysCommands 96 = .ok (.iconst 1, 1) := by decide +kernel
theorem dX12_laysCommands_97 : decode cX12_laysCommands 97 = .ok (.iadd, 1) := by decide +kernel
theorem dX12_laysCommands_98 : decode cX12_laysCommands 98 = .ok (.iastore, 1) := by decide +kernel
theorem dX12_laysCommands_99 : decode cX12_laysCommands 99 = .ok (.goto 11, 3) := by decide +kernel
theorem dX12_laysCommands_102 : decode cX12_laysCommands 102 = .ok (.aload_n 0, 1) := by decide +kernel
theorem dX12_laysCommands_103 : decode cX12_laysCommands 103 = .ok (.iconst 0, 1) := by decide +kernel
theorem dX12_laysCommands_104 : decode cX12_laysCommands 104 = .ok (.iload_n 1, 1) := by decide +kernel
theorem dX12_laysCommands_105 : decode cX12_laysCommands 105 = .ok (.iconst (-1), 1) := by decide +kernel
theorem dX12_laysCommands_106 : decode cX12_laysCommands 106 = .ok (.iconst 1, 1) := by decide +kernel
theorem dX12_laysCommands_107 : decode cX12_laysCommands 107 = .ok (.invokevirtual 185, 3) := by decide +kernel
theorem dX12_laysCommands_110 : decode cX12_laysCommands 110 = .ok (.iinc 1 1, 3) := by decide +kernel
theorem dX12_laysCommands_113 : decode cX12_laysCommands 113 = .ok (.goto (-106), 3) := by decide +kernel
theorem dX12_laysCommands_116 : decode cX12_laysCommands 116 = .ok (.iconst 0, 1) := by decide +kernel
theorem dX12_laysCommands_117 : decode cX12_laysCommands 117 = .ok (.istore_n 2, 1) := by decide +kernel
theorem dX12_laysCommands_118 : decode cX12_laysCommands 118 = .ok (.iload_n 2, 1) := by decide +kernel
theorem dX12_laysCommands_119 : decode cX12_laysCommands 119 = .ok (.aload_n 0, 1) := by decide +kernel
theorem dX12_laysCommands_120 : decode cX12_laysCommands 120 = .ok (.getfield 182, 3) := by decide +kernel
theorem dX12_laysCommands_123 : decode cX12_laysCommands 123 = .ok (.if_icmp .ge 96, 3) := by decide +kernel
theorem dX12_laysCommands_126 : decode cX12_laysCommands 126 = .ok (.iconst 0, 1) := by decide +kernel
theorem dX12_laysCommands_127 : decode cX12_laysCommands 127 = .ok (.istore_n 3, 1) := by decide +kernel
theorem dX12_laysCommands_128 : decode cX12_laysCommands 128 = .ok (.iload_n 3, 1) := by decide +kernel
theorem dX12_laysCommands_129 : decode cX12_laysCommands 129 = .ok (.aload_n 0, 1) := by decide +kernel
theorem dX12_laysCommands_130 : decode cX12_laysCommands 130 = .ok (.getfield 182, 3) := by decide +kernel
theorem dX12_laysCommands_133 : decode cX12_laysCommands 133 = .ok (.if_icmp .ge 80, 3) := by decide +kernel
theorem dX12_laysCommands_136 : decode cX12_laysCommands 136 = .ok (.aload_n 0, 1) := by decide +kernel
theorem dX12_laysCommands_137 : decode cX12_laysCommands 137 = .ok (.getfield 48, 3) := by decide +kernel
theorem dX12_laysCommands_140 : decode cX12_laysCommands 140 = .ok (.bipush 40, 2) := by decide +kernel
theorem dX12_laysCommands_142 : decode cX12_laysCommands 142 = .ok (.iload_n 2, 1) := by decide +kernel
theorem dX12_laysCommands_143 : decode cX12_laysCommands 143 = .ok (.imul, 1) := by decide +kernel
theorem dX12_laysCommands_144 : decode cX12_laysCommands 144 = .ok (.iload_n 3, 1) := by decide +kernel
theorem dX12_laysCommands_145 : decode cX12_laysCommands 145 = .ok (.iadd, 1) := by decide +kernel
theorem dX12_laysCommands_146 : decode cX12_laysCommands 146 = .ok (.iload_n 2, 1) := by decide +kernel
theorem dX12_laysCommands_147 : decode cX12_laysCommands 147 = .ok (.iload_n 3, 1) := by decide +kernel
theorem dX12_laysCommands_148 : decode cX12_laysCommands 148 = .ok (.if_icmp .eq 57, 3) := by decide +kernel
theorem dX12_laysCommands_151 : decode cX12_laysCommands 151 = .ok (.aload_n 0, 1) := by decide +kernel
theorem dX12_laysCommands_152 : decode cX12_laysCommands 152 = .ok (.getfield 36, 3) := by decide +kernel
theorem dX12_laysCommands_155 : decode cX12_laysCommands 155 = .ok (.iload_n 2, 1) := by decide +kernel
theorem dX12_laysCommands_156 : decode cX12_laysCommands 156 = .ok (.iaload, 1) := by decide +kernel
theorem dX12_laysCommands_157 : decode cX12_laysCommands 157 = .ok (.iconst 1, 1) := by decide +kernel
theorem dX12_laysCommands_158 : decode cX12_laysCommands 158 = .ok (.if_icmp .ne 47, 3) := by decide +kernel
theorem dX12_laysCommands_161 : decode cX12_laysCommands 161 = .ok (.aload_n 0, 1) := by decide +kernel
theorem dX12_laysCommands_162 : decode cX12_laysCommands 162 = .ok (.getfield 36, 3) := by decide +kernel
theorem dX12_laysCommands_165 : decode cX12_laysCommands 165 = .ok (.iload_n 3, 1) := by decide +kernel
theorem dX12_laysCommands_166 : decode cX12_laysCommands 166 = .ok (.iaload, 1) := by decide +kernel
theorem dX12_laysCommands_167 : decode cX12_laysCommands 167 = .ok (.iconst 2, 1) := by decide +kernel
theorem dX12_laysCommands_168 : decode cX12_laysCommands 168 = .ok (.if_icmp .eq 37, 3) := by decide +kernel
theorem dX12_laysCommands_171 : decode cX12_laysCommands 171 = .ok (.aload_n 0, 1) := by decide +kernel
theorem dX12_laysCommands_172 : decode cX12_laysCommands 172 = .ok (.getfield 42, 3) := by decide +kernel
theorem dX12_laysCommands_175 : decode cX12_laysCommands 175 = .ok (.iload_n 2, 1) := by decide +kernel
theorem dX12_laysCommands_176 : decode cX12_laysCommands 176 = .ok (.iaload, 1) := by decide +kernel
theorem dX12_laysCommands_177 : decode cX12_laysCommands 177 = .ok (.aload_n 0, 1) := by decide +kernel
theorem dX12_laysCommands_178 : decode cX12_laysCommands 178 = .ok (.getfield 45, 3) := by decide +kernel
theorem dX12_laysCommands_181 : decode cX12_laysCommands 181 = .ok (.iload_n 2, 1) := by decide +kernel
theorem dX12_laysCommands_182 : decode cX12_laysCommands 182 = .ok (.iaload, 1) := by decide +kernel
theorem dX12_laysCommands_183 : decode cX12_laysCommands 183 = .ok (.aload_n 0, 1) := by decide +kernel
theorem dX12_laysCommands_184 : decode cX12_laysCommands 184 = .ok (.getfield 39, 3) := by decide +kernel
theorem dX12_laysCommands_187 : decode cX12_laysCommands 187 = .ok (.iload_n 3, 1) := by decide +kernel
theorem dX12_laysCommands_188 : decode cX12_laysCommands 188 = .ok (.iaload, 1) := by decide +kernel
theorem dX12_laysCommands_189 : decode cX12_laysCommands 189 = .ok (.aload_n 0, 1) := by decide +kernel
theorem dX12_laysCommands_190 : decode cX12_laysCommands 190 = .ok (.getfield 45, 3) := by decide +kernel
theorem dX12_laysCommands_193 : decode cX12_laysCommands 193 = .ok (.iload_n 3, 1) := by decide +kernel
theorem dX12_laysCommands_194 : decode cX12_laysCommands 194 = .ok (.iaload, 1) := by decide +kernel
theorem dX12_laysCommands_195 : decode cX12_laysCommands 195 = .ok (.invokestatic 189, 3) := by decide +kernel
theorem dX12_laysCommands_198 : decode cX12_laysCommands 198 = .ok (.ifCond .eq 7, 3) := by decide +kernel
theorem dX12_laysCommands_201 : decode cX12_laysCommands 201 = .ok (.iconst 1, 1) := by decide +kernel
theorem dX12_laysCommands_202 : decode cX12_laysCommands 202 = .ok (.goto 4, 3) := by decide +kernel
theorem dX12_laysCommands_205 : decode cX12_laysCommands 205 = .ok (.iconst 0, 1) := by decide +kernel
theorem dX12_laysCommands_206 : decode cX12_laysCommands 206 = .ok (.bastore, 1) := by decide +kernel
theorem dX12_laysCommands_207 : decode cX12_laysCommands 207 = .ok (.iinc 3 1, 3) := by decide +kernel
theorem dX12_laysCommands_210 : decode cX12_laysCommands 210 = .ok (.goto (-82), 3) := by decide +kernel
theorem dX12_laysCommands_213 : decode cX12_laysCommands 213 = .ok (.iinc 2 1, 3) := by decide +kernel
theorem dX12_laysCommands_216 : decode cX12_laysCommands 216 = .ok (.goto (-98), 3) := by decide +kernel
theorem dX12_laysCommands_219 : decode cX12_laysCommands 219 = .ok (.return_, 1) := by decide +kernel
abbrev k_X12_laysCommands (E : g_E) (l : Launch) (D : g_D) (K : g_D → Prop) : Prop := g_Kv E l m_X12_laysCommands 3 [g_R 208] g_SH D K
abbrev n_X12_laysCommands (E : g_E) (l : Launch) (D : g_D) (pc : Nat) (L : List (Option g_V)) (K : g_D → Prop) : Prop := g_N E l m_X12_laysCommands 3 pc L [] g_SH D (g_Rv g_SH K)
theorem s_X12_laysCommands {E : g_E} {l : Launch} {D : g_D} {K : g_D → Prop}   (hF : g_okD D → ∀ D1, D1 = g_up D 208 14 0 → (n_X12_laysCommands E l D1 7 [some (g_R 208), some (g_I 0), none, none] K)) : k_X12_laysCommands E l D K := by
  refine g_enter (by decide) (Nat.le_of_ble_eq_true rfl) ?_
  show g_N E l m_X12_laysCommands 3 0 [some (g_R 208), none, none, none] [] g_SH D (g_Rv g_SH K)
  refine g_use (fun ok => ?_)
  have hF := hF ok.2.1
  refine g_aload_n dX12_laysCommands_0 rfl ?_
  refine g_iconst dX12_laysCommands_1 ⟨by decide, by decide⟩ ?_
  let D1 : g_D := g_up D 208 14 0
  have hF := hF D1 rfl
  refine g_put dX12_laysCommands_2 fd_X12_182 (g_ftyI (C := RX12) (T := TX12) (N := 51) rfl rfl (by decide +kernel)) sh_208 rfl ?_
  refine g_iconst dX12_laysCommands_5 ⟨by decide, by decide⟩ ?_
  refine gw_istore_n (L' := [some (g_R 208), some (g_I 0), none, none]) dX12_laysCommands_6 (by decide) rfl ?_
  exact hF
theorem s_X12_laysCommands_7 {E : g_E} {l : Launch} {D : g_D} {K : g_D → Prop} {v1 : Int}  (hF : g_okD D → g_r v1 → ((D 209 1) ≤ v1 → n_X12_laysCommands E l D 118 [some (g_R 208), none, some (g_I 0), none] K) ∧ (¬ (D 209 1) ≤ v1 → k_X12_longestAt E l D v1 (fun x1 D1 => g_r x1 → (x1 < (D1 209 2) → ((D1 208 14) ≤ 0 → k_X12_laysCommand E l D1 0 v1 (-1) 1 (fun D2 => (g_r (v1 + 1)) ∧ (n_X12_laysCommands E l D2 7 [some (g_R 208), some (g_I (v1 + 1)), none, none] K))) ∧ (¬ (D1 208 14) ≤ 0 → (g_r ((D1 208 14) - 1)) ∧ ((0 ≤ ((D1 208 14) - 1) ∧ ((D1 208 14) - 1) < 40) ∧ ((¬ (D1 216 ((D1 208 14) - 1).toNat) = 0 → k_X12_laysCommand E l D1 0 v1 (-1) 1 (fun D3 => (g_r (v1 + 1)) ∧ (n_X12_laysCommands E l D3 7 [some (g_R 208), some (g_I (v1 + 1)), none, none] K))) ∧ ((D1 216 ((D1 208 14) - 1).toNat) = 0 → (g_r ((D1 208 14) - 1)) ∧ ((0 ≤ ((D1 208 14) - 1) ∧ ((D1 208 14) - 1) < 40) ∧ ((g_r ((D1 219 ((D1 208 14) - 1).toNat) + 1)) ∧ ((0 ≤ ((D1 208 14) - 1) ∧ ((D1 208 14) - 1) < 40) ∧ (∀ D4, D4 = g_up D1 219 ((D1 208 14) - 1).toNat ((D1 219 ((D1 208 14) - 1).toNat) + 1) → ((g_r (v1 + 1)) ∧ (n_X12_laysCommands E l D4 7 [some (g_R 208), some (g_I (v1 + 1)), none, none] K))))))))))) ∧ (¬ x1 < (D1 209 2) → k_X12_chosenAt E l D1 v1 (fun x5 D5 => g_r x5 → (¬ x5 = v1 → k_X12_laysCommand E l D5 1 v1 x5 x1 (fun D6 => (g_r (v1 + x1)) ∧ (n_X12_laysCommands E l D6 7 [some (g_R 208), some (g_I (v1 + x1)), none, none] K))) ∧ (x5 = v1 → k_X12_laysCommand E l D5 2 v1 x5 x1 (fun D7 => (g_r (v1 + x1)) ∧ (n_X12_laysCommands E l D7 7 [some (g_R 208), some (g_I (v1 + x1)), none, none] K)))))))) : n_X12_laysCommands E l D 7 [some (g_R 208), some (g_I v1), none, none] K := by
  refine g_use (fun ok => ?_)
  have hF := hF ok.2.1 (ok.loc (i := 1) rfl)
  refine g_iload_n dX12_laysCommands_7 rfl ?_
  refine g_aload_n dX12_laysCommands_8 rfl ?_
  refine g_getR dX12_laysCommands_9 fd_X12_13 sh_208 rfl ?_
  refine g_iconst dX12_laysCommands_12 ⟨by decide, by decide⟩ ?_
  refine g_iald dX12_laysCommands_13 sh_209 (by decide) (by decide) ?_
  refine g_cge dX12_laysCommands_14 rfl (fun q => ?_) (fun q => ?_)
  · have hF := hF.1 q
    refine g_iconst dX12_laysCommands_116 ⟨by decide, by decide⟩ ?_
    refine gw_istore_n (L' := [some (g_R 208), some (g_I v1), some (g_I 0), none]) dX12_laysCommands_117 (by decide) rfl ?_
    exact g_forget (L' := [some (g_R 208), none, some (g_I 0), none]) ⟨rfl, ⟨rfl, trivial⟩⟩ hF
  · have hF := hF.2 q
    refine g_aload_n dX12_laysCommands_17 rfl ?_
    refine g_iload_n dX12_laysCommands_18 rfl ?_
    refine gw_cVi (b := 208) (As := [g_I v1]) (rest := []) dX12_laysCommands_19 mv_X12_168 sh_208 rfl (Nat.le_of_ble_eq_true rfl) (by decide) rfl hF ?_
    intro x1 D1 hx1 hF
    have hF := hF hx1
    refine gw_istore_n (L' := [some (g_R 208), some (g_I v1), some (g_I x1), none]) dX12_laysCommands_22 (by decide) rfl ?_
    refine g_iload_n dX12_laysCommands_23 rfl ?_
    refine g_aload_n dX12_laysCommands_24 rfl ?_
    refine g_getR dX12_laysCommands_25 fd_X12_13 sh_208 rfl ?_
    refine g_iconst dX12_laysCommands_28 ⟨by decide, by decide⟩ ?_
    refine g_iald dX12_laysCommands_29 sh_209 (by decide) (by decide) ?_
    refine g_clt dX12_laysCommands_30 rfl (fun q => ?_) (fun q => ?_)
    · have hF := hF.1 q
      refine g_aload_n dX12_laysCommands_63 rfl ?_
      refine g_getI dX12_laysCommands_64 fd_X12_182 sh_208 rfl ?_
      refine g_ifle dX12_laysCommands_67 rfl (fun q => ?_) (fun q => ?_)
      · have hF := hF.1 q
        refine g_aload_n dX12_laysCommands_102 rfl ?_
        refine g_iconst dX12_laysCommands_103 ⟨by decide, by decide⟩ ?_
        refine g_iload_n dX12_laysCommands_104 rfl ?_
        refine g_iconst dX12_laysCommands_105 ⟨by decide, by decide⟩ ?_
        refine g_iconst dX12_laysCommands_106 ⟨by decide, by decide⟩ ?_
        refine gw_cVv (b := 208) (As := [g_I 0, g_I v1, g_I (-1), g_I 1]) (rest := []) dX12_laysCommands_107 mv_X12_185 sh_208 rfl (Nat.le_of_ble_eq_true rfl) (by decide) rfl hF ?_
        intro D2 hF
        obtain ⟨hc, hF⟩ := hF
        refine gw_iinc (L' := [some (g_R 208), some (g_I (v1 + 1)), some (g_I x1), none]) dX12_laysCommands_110 rfl hc (by decide) rfl ?_
        refine g_goto dX12_laysCommands_113 rfl ?_
        exact g_forget (L' := [some (g_R 208), some (g_I (v1 + 1)), none, none]) ⟨rfl, ⟨rfl, trivial⟩⟩ hF
      · have hF := hF.2 q
        refine g_aload_n dX12_laysCommands_70 rfl ?_
        refine g_getR dX12_laysCommands_71 fd_X12_36 sh_208 rfl ?_
        refine g_aload_n dX12_laysCommands_74 rfl ?_
        refine g_getI dX12_laysCommands_75 fd_X12_182 sh_208 rfl ?_
        refine g_iconst dX12_laysCommands_78 ⟨by decide, by decide⟩ ?_
        obtain ⟨hc, hF⟩ := hF
        refine g_isub dX12_laysCommands_79 hc ?_
        obtain ⟨hc, hF⟩ := hF
        refine g_iald dX12_laysCommands_80 sh_216 hc.1 hc.2 ?_
        refine g_ifne dX12_laysCommands_81 rfl (fun q => ?_) (fun q => ?_)
        · have hF := hF.1 q
          refine g_aload_n dX12_laysCommands_102 rfl ?_
          refine g_iconst dX12_laysCommands_103 ⟨by decide, by decide⟩ ?_
          refine g_iload_n dX12_laysCommands_104 rfl ?_
          refine g_iconst dX12_laysCommands_105 ⟨by decide, by decide⟩ ?_
          refine g_iconst dX12_laysCommands_106 ⟨by decide, by decide⟩ ?_
          refine gw_cVv (b := 208) (As := [g_I 0, g_I v1, g_I (-1), g_I 1]) (rest := []) dX12_laysCommands_107 mv_X12_185 sh_208 rfl (Nat.le_of_ble_eq_true rfl) (by decide) rfl hF ?_
          intro D3 hF
          obtain ⟨hc, hF⟩ := hF
          refine gw_iinc (L' := [some (g_R 208), some (g_I (v1 + 1)), some (g_I x1), none]) dX12_laysCommands_110 rfl hc (by decide) rfl ?_
          refine g_goto dX12_laysCommands_113 rfl ?_
          exact g_forget (L' := [some (g_R 208), some (g_I (v1 + 1)), none, none]) ⟨rfl, ⟨rfl, trivial⟩⟩ hF
        · have hF := hF.2 q
          refine g_aload_n dX12_laysCommands_84 rfl ?_
          refine g_getR dX12_laysCommands_85 fd_X12_45 sh_208 rfl ?_
          refine g_aload_n dX12_laysCommands_88 rfl ?_
          refine g_getI dX12_laysCommands_89 fd_X12_182 sh_208 rfl ?_
          refine g_iconst dX12_laysCommands_92 ⟨by decide, by decide⟩ ?_
          obtain ⟨hc, hF⟩ := hF
          refine g_isub dX12_laysCommands_93 hc ?_
          refine g_dup2 dX12_laysCommands_94 rfl rfl ?_
          obtain ⟨hc, hF⟩ := hF
          refine g_iald dX12_laysCommands_95 sh_219 hc.1 hc.2 ?_
          refine g_iconst dX12_laysCommands_96 ⟨by decide, by decide⟩ ?_
          obtain ⟨hc, hF⟩ := hF
          refine g_iadd dX12_laysCommands_97 hc ?_
          obtain ⟨hc, hF⟩ := hF
          let D4 : g_D := g_up D1 219 ((D1 208 14) - 1).toNat ((D1 219 ((D1 208 14) - 1).toNat) + 1)
          have hF := hF D4 rfl
          refine g_iast dX12_laysCommands_98 sh_219 hc.1 hc.2 ?_
          refine g_goto dX12_laysCommands_99 rfl ?_
          obtain ⟨hc, hF⟩ := hF
          refine gw_iinc (L' := [some (g_R 208), some (g_I (v1 + 1)), some (g_I x1), none]) dX12_laysCommands_110 rfl hc (by decide) rfl ?_
          refine g_goto dX12_laysCommands_113 rfl ?_
          exact g_forget (L' := [some (g_R 208), some (g_I (v1 + 1)), none, none]) ⟨rfl, ⟨rfl, trivial⟩⟩ hF
    · have hF := hF.2 q
      refine g_aload_n dX12_laysCommands_33 rfl ?_
      refine g_iload_n dX12_laysCommands_34 rfl ?_
      refine gw_cVi (b := 208) (As := [g_I v1]) (rest := []) dX12_laysCommands_35 mv_X12_175 sh_208 rfl (Nat.le_of_ble_eq_true rfl) (by decide) rfl hF ?_
      intro x5 D5 hx5 hF
      have hF := hF hx5
      refine gw_istore_n (L' := [some (g_R 208), some (g_I v1), some (g_I x1), some (g_I x5)]) dX12_laysCommands_38 (by decide) rfl ?_
      refine g_aload_n dX12_laysCommands_39 rfl ?_
      refine g_iload_n dX12_laysCommands_40 rfl ?_
      refine g_iload_n dX12_laysCommands_41 rfl ?_
      refine g_cne dX12_laysCommands_42 rfl (fun q => ?_) (fun q => ?_)
      · have hF := hF.1 q
        refine g_iconst dX12_laysCommands_49 ⟨by decide, by decide⟩ ?_
        refine g_iload_n dX12_laysCommands_50 rfl ?_
        refine g_iload_n dX12_laysCommands_51 rfl ?_
        refine g_iload_n dX12_laysCommands_52 rfl ?_
        refine gw_cVv (b := 208) (As := [g_I 1, g_I v1, g_I x5, g_I x1]) (rest := []) dX12_laysCommands_53 mv_X12_185 sh_208 rfl (Nat.le_of_ble_eq_true rfl) (by decide) rfl hF ?_
        intro D6 hF
        refine g_iload_n dX12_laysCommands_56 rfl ?_
        refine g_iload_n dX12_laysCommands_57 rfl ?_
        obtain ⟨hc, hF⟩ := hF
        refine g_iadd dX12_laysCommands_58 hc ?_
        refine gw_istore_n (L' := [some (g_R 208), some (g_I (v1 + x1)), some (g_I x1), some (g_I x5)]) dX12_laysCommands_59 (by decide) rfl ?_
        refine g_goto dX12_laysCommands_60 rfl ?_
        exact g_forget (L' := [some (g_R 208), some (g_I (v1 + x1)), none, none]) ⟨rfl, ⟨rfl, trivial⟩⟩ hF
      · have hF := hF.2 q
        refine g_iconst dX12_laysCommands_45 ⟨by decide, by decide⟩ ?_
        refine g_goto dX12_laysCommands_46 rfl ?_
        refine g_iload_n dX12_laysCommands_50 rfl ?_
        refine g_iload_n dX12_laysCommands_51 rfl ?_
        refine g_iload_n dX12_laysCommands_52 rfl ?_
        refine gw_cVv (b := 208) (As := [g_I 2, g_I v1, g_I x5, g_I x1]) (rest := []) dX12_laysCommands_53 mv_X12_185 sh_208 rfl (Nat.le_of_ble_eq_true rfl) (by decide) rfl hF ?_
        intro D7 hF
        refine g_iload_n dX12_laysCommands_56 rfl ?_
        refine g_iload_n dX12_laysCommands_57 rfl ?_
        obtain ⟨hc, hF⟩ := hF
        refine g_iadd dX12_laysCommands_58 hc ?_
        refine gw_istore_n (L' := [some (g_R 208), some (g_I (v1 + x1)), some (g_I x1), some (g_I x5)]) dX12_laysCommands_59 (by decide) rfl ?_
        refine g_goto dX12_laysCommands_60 rfl ?_
        exact g_forget (L' := [some (g_R 208), some (g_I (v1 + x1)), none, none]) ⟨rfl, ⟨rfl, trivial⟩⟩ hF
theorem s_X12_laysCommands_118 {E : g_E} {l : Launch} {D : g_D} {K : g_D → Prop} {v2 : Int}  (hF : g_okD D → g_r v2 → ((D 208 14) ≤ v2 → K D) ∧ (¬ (D 208 14) ≤ v2 → n_X12_laysCommands E l D 128 [some (g_R 208), none, some (g_I v2), some (g_I 0)] K)) : n_X12_laysCommands E l D 118 [some (g_R 208), none, some (g_I v2), none] K := by
  refine g_use (fun ok => ?_)
  have hF := hF ok.2.1 (ok.loc (i := 2) rfl)
  refine g_iload_n dX12_laysCommands_118 rfl ?_
  refine g_aload_n dX12_laysCommands_119 rfl ?_
  refine g_getI dX12_laysCommands_120 fd_X12_182 sh_208 rfl ?_
  refine g_cge dX12_laysCommands_123 rfl (fun q => ?_) (fun q => ?_)
  · have hF := hF.1 q
    exact gw_vret dX12_laysCommands_219 rfl hF
  · have hF := hF.2 q
    refine g_iconst dX12_laysCommands_126 ⟨by decide, by decide⟩ ?_
    refine gw_istore_n (L' := [some (g_R 208), none, some (g_I v2), some (g_I 0)]) dX12_laysCommands_127 (by decide) rfl ?_
    exact hF
theorem s_X12_laysCommands_128 {E : g_E} {l : Launch} {D : g_D} {K : g_D → Prop} {v2 : Int} {v3 : Int}  (hF : g_okD D → g_r v2 → g_r v3 → ((D 208 14) ≤ v3 → (g_r (v2 + 1)) ∧ (n_X12_laysCommands E l D 118 [some (g_R 208), none, some (g_I (v2 + 1)), none] K)) ∧ (¬ (D 208 14) ≤ v3 → (g_r (40 * v2)) ∧ ((g_r ((40 * v2) + v3)) ∧ ((v2 = v3 → (0 ≤ ((40 * v2) + v3) ∧ ((40 * v2) + v3) < 1600) ∧ (∀ D1, D1 = g_up D 220 ((40 * v2) + v3).toNat 0 → ((g_r (v3 + 1)) ∧ (n_X12_laysCommands E l D1 128 [some (g_R 208), none, some (g_I v2), some (g_I (v3 + 1))] K)))) ∧ (¬ v2 = v3 → (0 ≤ v2 ∧ v2 < 40) ∧ ((¬ (D 216 v2.toNat) = 1 → (0 ≤ ((40 * v2) + v3) ∧ ((40 * v2) + v3) < 1600) ∧ (∀ D2, D2 = g_up D 220 ((40 * v2) + v3).toNat 0 → ((g_r (v3 + 1)) ∧ (n_X12_laysCommands E l D2 128 [some (g_R 208), none, some (g_I v2), some (g_I (v3 + 1))] K)))) ∧ ((D 216 v2.toNat) = 1 → (0 ≤ v3 ∧ v3 < 40) ∧ (((D 216 v3.toNat) = 2 → (0 ≤ ((40 * v2) + v3) ∧ ((40 * v2) + v3) < 1600) ∧ (∀ D3, D3 = g_up D 220 ((40 * v2) + v3).toNat 0 → ((g_r (v3 + 1)) ∧ (n_X12_laysCommands E l D3 128 [some (g_R 208), none, some (g_I v2), some (g_I (v3 + 1))] K)))) ∧ (¬ (D 216 v3.toNat) = 2 → (0 ≤ v2 ∧ v2 < 40) ∧ ((0 ≤ v2 ∧ v2 < 40) ∧ ((0 ≤ v3 ∧ v3 < 40) ∧ ((0 ≤ v3 ∧ v3 < 40) ∧ (k_X12_meet E l g_SH D (D 218 v2.toNat) (D 219 v2.toNat) (D 217 v3.toNat) (D 219 v3.toNat) (fun x4 D4 => g_r x4 → (x4 = 0 → (0 ≤ ((40 * v2) + v3) ∧ ((40 * v2) + v3) < 1600) ∧ (∀ D5, D5 = g_up D4 220 ((40 * v2) + v3).toNat 0 → ((g_r (v3 + 1)) ∧ (n_X12_laysCommands E l D5 128 [some (g_R 208), none, some (g_I v2), some (g_I (v3 + 1))] K)))) ∧ (¬ x4 = 0 → (0 ≤ ((40 * v2) + v3) ∧ ((40 * v2) + v3) < 1600) ∧ (∀ D6, D6 = g_up D4 220 ((40 * v2) + v3).toNat 1 → ((g_r (v3 + 1)) ∧ (n_X12_laysCommands E l D6 128 [some (g_R 208), none, some (g_I v2), some (g_I (v3 + 1))] K)))))))))))))))))) : n_X12_laysCommands E l D 128 [some (g_R 208), none, some (g_I v2), some (g_I v3)] K := by
  refine g_use (fun ok => ?_)
  have hF := hF ok.2.1 (ok.loc (i := 2) rfl) (ok.loc (i := 3) rfl)
  refine g_iload_n dX12_laysCommands_128 rfl ?_
  refine g_aload_n dX12_laysCommands_129 rfl ?_
  refine g_getI dX12_laysCommands_130 fd_X12_182 sh_208 rfl ?_
  refine g_cge dX12_laysCommands_133 rfl (fun q => ?_) (fun q => ?_)
  · have hF := hF.1 q
    obtain ⟨hc, hF⟩ := hF
    refine gw_iinc (L' := [some (g_R 208), none, some (g_I (v2 + 1)), some (g_I v3)]) dX12_laysCommands_213 rfl hc (by decide) rfl ?_
    refine g_goto dX12_laysCommands_216 rfl ?_
    exact g_forget (L' := [some (g_R 208), none, some (g_I (v2 + 1)), none]) ⟨rfl, ⟨rfl, trivial⟩⟩ hF
  · have hF := hF.2 q
    refine g_aload_n dX12_laysCommands_136 rfl ?_
    refine g_getR dX12_laysCommands_137 fd_X12_48 sh_208 rfl ?_
    refine g_bipush dX12_laysCommands_140 ⟨by decide, by decide⟩ ?_
    refine g_iload_n dX12_laysCommands_142 rfl ?_
    obtain ⟨hc, hF⟩ := hF
    refine g_imul dX12_laysCommands_143 hc ?_
    refine g_iload_n dX12_laysCommands_144 rfl ?_
    obtain ⟨hc, hF⟩ := hF
    refine g_iadd dX12_laysCommands_145 hc ?_
    refine g_iload_n dX12_laysCommands_146 rfl ?_
    refine g_iload_n dX12_laysCommands_147 rfl ?_
    refine g_ceq dX12_laysCommands_148 rfl (fun q => ?_) (fun q => ?_)
    · have hF := hF.1 q
      refine g_iconst dX12_laysCommands_205 ⟨by decide, by decide⟩ ?_
      obtain ⟨hc, hF⟩ := hF
      let D1 : g_D := g_up D 220 ((40 * v2) + v3).toNat 0
      have hF := hF D1 rfl
      refine g_bast dX12_laysCommands_206 sh_220 hc.1 hc.2 (by decide) ?_
      obtain ⟨hc, hF⟩ := hF
      refine gw_iinc (L' := [some (g_R 208), none, some (g_I v2), some (g_I (v3 + 1))]) dX12_laysCommands_207 rfl hc (by decide) rfl ?_
      refine g_goto dX12_laysCommands_210 rfl ?_
      exact hF
    · have hF := hF.2 q
      refine g_aload_n dX12_laysCommands_151 rfl ?_
      refine g_getR dX12_laysCommands_152 fd_X12_36 sh_208 rfl ?_
      refine g_iload_n dX12_laysCommands_155 rfl ?_
      obtain ⟨hc, hF⟩ := hF
      refine g_iald dX12_laysCommands_156 sh_216 hc.1 hc.2 ?_
      refine g_iconst dX12_laysCommands_157 ⟨by decide, by decide⟩ ?_
      refine g_cne dX12_laysCommands_158 rfl (fun q => ?_) (fun q => ?_)
      · have hF := hF.1 q
        refine g_iconst dX12_laysCommands_205 ⟨by decide, by decide⟩ ?_
        obtain ⟨hc, hF⟩ := hF
        let D2 : g_D := g_up D 220 ((40 * v2) + v3).toNat 0
        have hF := hF D2 rfl
        refine g_bast dX12_laysCommands_206 sh_220 hc.1 hc.2 (by decide) ?_
        obtain ⟨hc, hF⟩ := hF
        refine gw_iinc (L' := [some (g_R 208), none, some (g_I v2), some (g_I (v3 + 1))]) dX12_laysCommands_207 rfl hc (by decide) rfl ?_
        refine g_goto dX12_laysCommands_210 rfl ?_
        exact hF
      · have hF := hF.2 q
        refine g_aload_n dX12_laysCommands_161 rfl ?_
        refine g_getR dX12_laysCommands_162 fd_X12_36 sh_208 rfl ?_
        refine g_iload_n dX12_laysCommands_165 rfl ?_
        obtain ⟨hc, hF⟩ := hF
        refine g_iald dX12_laysCommands_166 sh_216 hc.1 hc.2 ?_
        refine g_iconst dX12_laysCommands_167 ⟨by decide, by decide⟩ ?_
        refine g_ceq dX12_laysCommands_168 rfl (fun q => ?_) (fun q => ?_)
        · have hF := hF.1 q
          refine g_iconst dX12_laysCommands_205 ⟨by decide, by decide⟩ ?_
          obtain ⟨hc, hF⟩ := hF
          let D3 : g_D := g_up D 220 ((40 * v2) + v3).toNat 0
          have hF := hF D3 rfl
          refine g_bast dX12_laysCommands_206 sh_220 hc.1 hc.2 (by decide) ?_
          obtain ⟨hc, hF⟩ := hF
          refine gw_iinc (L' := [some (g_R 208), none, some (g_I v2), some (g_I (v3 + 1))]) dX12_laysCommands_207 rfl hc (by decide) rfl ?_
          refine g_goto dX12_laysCommands_210 rfl ?_
          exact hF
        · have hF := hF.2 q
          refine g_aload_n dX12_laysCommands_171 rfl ?_
          refine g_getR dX12_laysCommands_172 fd_X12_42 sh_208 rfl ?_
          refine g_iload_n dX12_laysCommands_175 rfl ?_
          obtain ⟨hc, hF⟩ := hF
          refine g_iald dX12_laysCommands_176 sh_218 hc.1 hc.2 ?_
          refine g_aload_n dX12_laysCommands_177 rfl ?_
          refine g_getR dX12_laysCommands_178 fd_X12_45 sh_208 rfl ?_
          refine g_iload_n dX12_laysCommands_181 rfl ?_
          obtain ⟨hc, hF⟩ := hF
          refine g_iald dX12_laysCommands_182 sh_219 hc.1 hc.2 ?_
          refine g_aload_n dX12_laysCommands_183 rfl ?_
          refine g_getR dX12_laysCommands_184 fd_X12_39 sh_208 rfl ?_
          refine g_iload_n dX12_laysCommands_187 rfl ?_
          obtain ⟨hc, hF⟩ := hF
          refine g_iald dX12_laysCommands_188 sh_217 hc.1 hc.2 ?_
          refine g_aload_n dX12_laysCommands_189 rfl ?_
          refine g_getR dX12_laysCommands_190 fd_X12_45 sh_208 rfl ?_
          refine g_iload_n dX12_laysCommands_193 rfl ?_
          obtain ⟨hc, hF⟩ := hF
          refine g_iald dX12_laysCommands_194 sh_219 hc.1 hc.2 ?_
          refine gw_cSi (As := [g_I (D 218 v2.toNat), g_I (D 219 v2.toNat), g_I (D 217 v3.toNat), g_I (D 219 v3.toNat)]) (rest := [g_I ((40 * v2) + v3), g_R 220]) dX12_laysCommands_195 ms_X12_189 rfl (Nat.le_of_ble_eq_true rfl) (by decide) rfl hF ?_
          intro x4 D4 hx4 hF
          have hF := hF hx4
          refine g_ifeq dX12_laysCommands_198 rfl (fun q => ?_) (fun q => ?_)
          · have hF := hF.1 q
            refine g_iconst dX12_laysCommands_205 ⟨by decide, by decide⟩ ?_
            obtain ⟨hc, hF⟩ := hF
            let D5 : g_D := g_up D4 220 ((40 * v2) + v3).toNat 0
            have hF := hF D5 rfl
            refine g_bast dX12_laysCommands_206 sh_220 hc.1 hc.2 (by decide) ?_
            obtain ⟨hc, hF⟩ := hF
            refine gw_iinc (L' := [some (g_R 208), none, some (g_I v2), some (g_I (v3 + 1))]) dX12_laysCommands_207 rfl hc (by decide) rfl ?_
            refine g_goto dX12_laysCommands_210 rfl ?_
            exact hF
          · have hF := hF.2 q
            refine g_iconst dX12_laysCommands_201 ⟨by decide, by decide⟩ ?_
            refine g_goto dX12_laysCommands_202 rfl ?_
            obtain ⟨hc, hF⟩ := hF
            let D6 : g_D := g_up D4 220 ((40 * v2) + v3).toNat 1
            have hF := hF D6 rfl
            refine g_bast dX12_laysCommands_206 sh_220 hc.1 hc.2 (by decide) ?_
            obtain ⟨hc, hF⟩ := hF
            refine gw_iinc (L' := [some (g_R 208), none, some (g_I v2), some (g_I (v3 + 1))]) dX12_laysCommands_207 rfl hc (by decide) rfl ?_
            refine g_goto dX12_laysCommands_210 rfl ?_
            exact hF
theorem dX12_isOpen_0 : decode cX12_isOpen 0 = .ok (.aload_n 0, 1) := by decide +kernel
theorem dX12_isOpen_1 : decode cX12_isOpen 1 = .ok (.getfield 60, 3) := by decide +kernel
theorem dX12_isOpen_4 : decode cX12_isOpen 4 = .ok (.iload_n 1, 1) := by decide +kernel
theorem dX12_isOpen_5 : decode cX12_isOpen 5 = .ok (.baload, 1) := by decide +kernel
theorem dX12_isOpen_6 : decode cX12_isOpen 6 = .ok (.ifCond .ne 25, 3) := by decide +kernel
theorem dX12_isOpen_9 : decode cX12_isOpen 9 = .ok (.aload_n 0, 1) := by decide +kernel
theorem dX12_isOpen_10 : decode cX12_isOpen 10 = .ok (.getfield 63, 3) := by decide +kernel
theorem dX12_isOpen_13 : decode cX12_isOpen 13 = .ok (.iload_n 1, 1) := by decide +kernel
theorem dX12_isOpen_14 : decode cX12_isOpen 14 = .ok (.baload, 1) := by decide +kernel
theorem dX12_isOpen_15 : decode cX12_isOpen 15 = .ok (.ifCond .ne 16, 3) := by decide +kernel
theorem dX12_isOpen_18 : decode cX12_isOpen 18 = .ok (.aload_n 0, 1) := by decide +kernel
theorem dX12_isOpen_19 : decode cX12_isOpen 19 = .ok (.getfield 66, 3) := by decide +kernel
theorem dX12_isOpen_22 : decode cX12_isOpen 22 = .ok (.iload_n 1, 1) := by decide +kernel
theorem dX12_isOpen_23 : decode cX12_isOpen 23 = .ok (.baload, 1) := by decide +kernel
theorem dX12_isOpen_24 : decode cX12_isOpen 24 = .ok (.ifCond .ne 7, 3) := by decide +kernel
theorem dX12_isOpen_27 : decode cX12_isOpen 27 = .ok (.iconst 1, 1) := by decide +kernel
theorem dX12_isOpen_28 : decode cX12_isOpen 28 = .ok (.goto 4, 3) := by decide +kernel
theorem dX12_isOpen_31 : decode cX12_isOpen 31 = .ok (.iconst 0, 1) := by decide +kernel
theorem dX12_isOpen_32 : decode cX12_isOpen 32 = .ok (.ireturn, 1) := by decide +kernel
abbrev k_X12_isOpen (E : g_E) (l : Launch) (D : g_D) (v1 : Int) (K : Int → g_D → Prop) : Prop := g_Ki E l m_X12_isOpen 0 [g_R 208, g_I v1] g_SH D K
abbrev n_X12_isOpen (E : g_E) (l : Launch) (D : g_D) (pc : Nat) (L : List (Option g_V)) (K : Int → g_D → Prop) : Prop := g_N E l m_X12_isOpen 0 pc L [] g_SH D (g_Ri g_SH K)
theorem s_X12_isOpen {E : g_E} {l : Launch} {D : g_D} {K : Int → g_D → Prop} {v1 : Int}  (hF : g_okD D → g_r v1 → (0 ≤ v1 ∧ v1 < 40) ∧ ((¬ (D 224 v1.toNat) = 0 → K 0 D) ∧ ((D 224 v1.toNat) = 0 → (0 ≤ v1 ∧ v1 < 40) ∧ ((¬ (D 225 v1.toNat) = 0 → K 0 D) ∧ ((D 225 v1.toNat) = 0 → (0 ≤ v1 ∧ v1 < 40) ∧ ((¬ (D 226 v1.toNat) = 0 → K 0 D) ∧ ((D 226 v1.toNat) = 0 → K 1 D))))))) : k_X12_isOpen E l D v1 K := by
  refine g_enter (by decide) (Nat.le_of_ble_eq_true rfl) ?_
  show g_N E l m_X12_isOpen 0 0 [some (g_R 208), some (g_I v1)] [] g_SH D (g_Ri g_SH K)
  refine g_use (fun ok => ?_)
  have hF := hF ok.2.1 (ok.loc (i := 1) rfl)
  refine g_aload_n dX12_isOpen_0 rfl ?_
  refine g_getR dX12_isOpen_1 fd_X12_60 sh_208 rfl ?_
  refine g_iload_n dX12_isOpen_4 rfl ?_
  obtain ⟨hc, hF⟩ := hF
  refine g_bald dX12_isOpen_5 sh_224 hc.1 hc.2 ?_
  refine g_ifne dX12_isOpen_6 rfl (fun q => ?_) (fun q => ?_)
  · have hF := hF.1 q
    refine g_iconst dX12_isOpen_31 ⟨by decide, by decide⟩ ?_
    exact gw_zret dX12_isOpen_32 rfl (by decide) hF
  · have hF := hF.2 q
    refine g_aload_n dX12_isOpen_9 rfl ?_
    refine g_getR dX12_isOpen_10 fd_X12_63 sh_208 rfl ?_
    refine g_iload_n dX12_isOpen_13 rfl ?_
    obtain ⟨hc, hF⟩ := hF
    refine g_bald dX12_isOpen_14 sh_225 hc.1 hc.2 ?_
    refine g_ifne dX12_isOpen_15 rfl (fun q => ?_) (fun q => ?_)
    · have hF := hF.1 q
      refine g_iconst dX12_isOpen_31 ⟨by decide, by decide⟩ ?_
      exact gw_zret dX12_isOpen_32 rfl (by decide) hF
    · have hF := hF.2 q
      refine g_aload_n dX12_isOpen_18 rfl ?_
      refine g_getR dX12_isOpen_19 fd_X12_66 sh_208 rfl ?_
      refine g_iload_n dX12_isOpen_22 rfl ?_
      obtain ⟨hc, hF⟩ := hF
      refine g_bald dX12_isOpen_23 sh_226 hc.1 hc.2 ?_
      refine g_ifne dX12_isOpen_24 rfl (fun q => ?_) (fun q => ?_)
      · have hF := hF.1 q
        refine g_iconst dX12_isOpen_31 ⟨by decide, by decide⟩ ?_
        exact gw_zret dX12_isOpen_32 rfl (by decide) hF
      · have hF := hF.2 q
        refine g_iconst dX12_isOpen_27 ⟨by decide, by decide⟩ ?_
        refine g_goto dX12_isOpen_28 rfl ?_
        exact gw_zret dX12_isOpen_32 rfl (by decide) hF
theorem dX12_lowestFree_0 : decode cX12_lowestFree 0 = .ok (.iconst 0, 1) := by decide +kernel
theorem dX12_lowestFree_1 : decode cX12_lowestFree 1 = .ok (.istore_n 1, 1) := by decide +kernel
theorem dX12_lowestFree_2 : decode cX12_lowestFree 2 = .ok (.iload_n 1, 1) := by decide +kernel
theorem dX12_lowestFree_3 : decode cX12_lowestFree 3 = .ok (.aload_n 0, 1) := by decide +kernel
theorem dX12_lowestFree_4 : decode cX12_lowestFree 4 = .ok (.getfield 182, 3) := by decide +kernel
theorem dX12_lowestFree_7 : decode cX12_lowestFree 7 = .ok (.if_icmp .ge 85, 3) := by decide +kernel
theorem dX12_lowestFree_10 : decode cX12_lowestFree 10 = .ok (.aload_n 0, 1) := by decide +kernel
theorem dX12_lowestFree_11 : decode cX12_lowestFree 11 = .ok (.getfield 36, 3) := by decide +kernel
theorem dX12_lowestFree_14 : decode cX12_lowestFree 14 = .ok (.iload_n 1, 1) := by decide +kernel
theorem dX12_lowestFree_15 : decode cX12_lowestFree 15 = .ok (.iaload, 1) := by decide +kernel
theorem dX12_lowestFree_16 : decode cX12_lowestFree 16 = .ok (.iconst 2, 1) := by decide +kernel
theorem dX12_lowestFree_17 : decode cX12_lowestFree 17 = .ok (.if_icmp .eq 69, 3) := by decide +kernel
theorem dX12_lowestFree_20 : decode cX12_lowestFree 20 = .ok (.aload_n 0, 1) := by decide +kernel
theorem dX12_lowestFree_21 : decode cX12_lowestFree 21 = .ok (.getfield 60, 3) := by decide +kernel
theorem dX12_lowestFree_24 : decode cX12_lowestFree 24 = .ok (.iload_n 1, 1) := by decide +kernel
theorem dX12_lowestFree_25 : decode cX12_lowestFree 25 = .ok (.baload, 1) := by decide +kernel
theorem dX12_lowestFree_26 : decode cX12_lowestFree 26 = .ok (.ifCond .eq 6, 3) := by decide +kernel
theorem dX12_lowestFree_29 : decode cX12_lowestFree 29 = .ok (.goto 57, 3) := by decide +kernel
theorem dX12_lowestFree_32 : decode cX12_lowestFree 32 = .ok (.iconst 1, 1) := by decide +kernel
theorem dX12_lowestFree_33 : decode cX12_lowestFree 33 = .ok (.istore_n 2, 1) := by decide +kernel
theorem dX12_lowestFree_34 : decode cX12_lowestFree 34 = .ok (.iconst 0, 1) := by decide +kernel
theorem dX12_lowestFree_35 : decode cX12_lowestFree 35 = .ok (.istore_n 3, 1) := by decide +kernel
theorem dX12_lowestFree_36 : decode cX12_lowestFree 36 = .ok (.iload_n 3, 1) := by decide +kernel
theorem dX12_lowestFree_37 : decode cX12_lowestFree 37 = .ok (.aload_n 0, 1) := by decide +kernel
theorem dX12_lowestFree_38 : decode cX12_lowestFree 38 = .ok (.getfield 182, 3) := by decide +kernel
theorem dX12_lowestFree_41 : decode cX12_lowestFree 41 = .ok (.if_icmp .ge 39, 3) := by decide +kernel
theorem dX12_lowestFree_44 : decode cX12_lowestFree 44 = .ok (.iload_n 2, 1) := by decide +kernel
theorem dX12_lowestFree_45 : decode cX12_lowestFree 45 = .ok (.aload_n 0, 1) := by decide +kernel
theorem dX12_lowestFree_46 : decode cX12_lowestFree 46 = .ok (.getfield 48, 3) := by decide +kernel
theorem dX12_lowestFree_49 : decode cX12_lowestFree 49 = .ok (.bipush 40, 2) := by decide +kernel
theorem dX12_lowestFree_51 : decode cX12_lowestFree 51 = .ok (.iload_n 3, 1) := by decide +kernel
theorem dX12_lowestFree_52 : decode cX12_lowestFree 52 = .ok (.imul, 1) := by decide +kernel
theorem dX12_lowestFree_53 : decode cX12_lowestFree 53 = .ok (.iload_n 1, 1) := by decide +kernel
theorem dX12_lowestFree_54 : decode cX12_lowestFree 54 = .ok (.iadd, 1) := by decide +kernel
theorem dX12_lowestFree_55 : decode cX12_lowestFree 55 = .ok (.baload, 1) := by decide +kernel
theorem dX12_lowestFree_56 : decode cX12_lowestFree 56 = .ok (.ifCond .eq 11, 3) := by decide +kernel
theorem dX12_lowestFree_59 : decode cX12_lowestFree 59 = .ok (.aload_n 0, 1) := by decide +kernel
theorem dX12_lowestFree_60 : decode cX12_lowestFree 60 = .ok (.iload_n 3, 1) := by decide +kernel
theorem dX12_lowestFree_61 : decode cX12_lowestFree 61 = .ok (.invokevirtual 222, 3) := by decide +kernel
theorem dX12_lowestFree_64 : decode cX12_lowestFree 64 = .ok (.ifCond .ne 7, 3) := by decide +kernel
theorem dX12_lowestFree_67 : decode cX12_lowestFree 67 = .ok (.iconst 1, 1) := by decide +kernel
theorem dX12_lowestFree_68 : decode cX12_lowestFree 68 = .ok (.goto 4, 3) := by decide +kernel
theorem dX12_lowestFree_71 : decode cX12_lowestFree 71 = .ok (.iconst 0, 1) := by decide +kernel
theorem dX12_lowestFree_72 : decode cX12_lowestFree 72 = .ok (.iand, 1) := by decide +kernel
theorem dX12_lowestFree_73 : decode cX12_lowestFree 73 = .ok (.istore_n 2, 1) := by decide +kernel
theorem dX12_lowestFree_74 : decode cX12_lowestFree 74 = .ok (.iinc 3 1, 3) := by decide +kernel
theorem dX12_lowestFree_77 : decode cX12_lowestFree 77 = .ok (.goto (-41), 3) := by decide +kernel
theorem dX12_lowestFree_80 : decode cX12_lowestFree 80 = .ok (.iload_n 2, 1) := by decide +kernel
theorem dX12_lowestFree_81 : decode cX12_lowestFree 81 = .ok (.ifCond .eq 5, 3) := by decide +kernel
theorem dX12_lowestFree_84 : decode cX12_lowestFree 84 = .ok (.iload_n 1, 1) := by decide +kernel
theorem dX12_lowestFree_85 : decode cX12_lowestFree 85 = .ok (.ireturn, 1) := by decide +kernel
theorem dX12_lowestFree_86 : decode cX12_lowestFree 86 = .ok (.iinc 1 1, 3) := by decide +kernel
theorem dX12_lowestFree_89 : decode cX12_lowestFree 89 = .ok (.goto (-87), 3) := by decide +kernel
theorem dX12_lowestFree_92 : decode cX12_lowestFree 92 = .ok (.iconst (-1), 1) := by decide +kernel
theorem dX12_lowestFree_93 : decode cX12_lowestFree 93 = .ok (.ireturn, 1) := by decide +kernel
abbrev k_X12_lowestFree (E : g_E) (l : Launch) (D : g_D) (K : Int → g_D → Prop) : Prop := g_Ki E l m_X12_lowestFree 1 [g_R 208] g_SH D K
abbrev n_X12_lowestFree (E : g_E) (l : Launch) (D : g_D) (pc : Nat) (L : List (Option g_V)) (K : Int → g_D → Prop) : Prop := g_N E l m_X12_lowestFree 1 pc L [] g_SH D (g_Ri g_SH K)
theorem s_X12_lowestFree {E : g_E} {l : Launch} {D : g_D} {K : Int → g_D → Prop}   (hF : g_okD D → n_X12_lowestFree E l D 2 [some (g_R 208), some (g_I 0), none, none] K) : k_X12_lowestFree E l D K := by
  refine g_enter (by decide) (Nat.le_of_ble_eq_true rfl) ?_
  show g_N E l m_X12_lowestFree 1 0 [some (g_R 208), none, none, none] [] g_SH D (g_Ri g_SH K)
  refine g_use (fun ok => ?_)
  have hF := hF ok.2.1
  refine g_iconst dX12_lowestFree_0 ⟨by decide, by decide⟩ ?_
  refine gw_istore_n (L' := [some (g_R 208), some (g_I 0), none, none]) dX12_lowestFree_1 (by decide) rfl ?_
  exact hF
theorem s_X12_lowestFree_2 {E : g_E} {l : Launch} {D : g_D} {K : Int → g_D → Prop} {v1 : Int}  (hF : g_okD D → g_r v1 → ((D 208 14) ≤ v1 → K (-1) D) ∧ (¬ (D 208 14) ≤ v1 → (0 ≤ v1 ∧ v1 < 40) ∧ (((D 216 v1.toNat) = 2 → (g_r (v1 + 1)) ∧ (n_X12_lowestFree E l D 2 [some (g_R 208), some (g_I (v1 + 1)), none, none] K)) ∧ (¬ (D 216 v1.toNat) = 2 → (0 ≤ v1 ∧ v1 < 40) ∧ (((D 224 v1.toNat) = 0 → n_X12_lowestFree E l D 36 [some (g_R 208), some (g_I v1), some (g_I 1), some (g_I 0)] K) ∧ (¬ (D 224 v1.toNat) = 0 → (g_r (v1 + 1)) ∧ (n_X12_lowestFree E l D 2 [some (g_R 208), some (g_I (v1 + 1)), none, none] K))))))) : n_X12_lowestFree E l D 2 [some (g_R 208), some (g_I v1), none, none] K := by
  refine g_use (fun ok => ?_)
  have hF := hF ok.2.1 (ok.loc (i := 1) rfl)
  refine g_iload_n dX12_lowestFree_2 rfl ?_
  refine g_aload_n dX12_lowestFree_3 rfl ?_
  refine g_getI dX12_lowestFree_4 fd_X12_182 sh_208 rfl ?_
  refine g_cge dX12_lowestFree_7 rfl (fun q => ?_) (fun q => ?_)
  · have hF := hF.1 q
    refine g_iconst dX12_lowestFree_92 ⟨by decide, by decide⟩ ?_
    exact gw_iret dX12_lowestFree_93 rfl hF
  · have hF := hF.2 q
    refine g_aload_n dX12_lowestFree_10 rfl ?_
    refine g_getR dX12_lowestFree_11 fd_X12_36 sh_208 rfl ?_
    refine g_iload_n dX12_lowestFree_14 rfl ?_
    obtain ⟨hc, hF⟩ := hF
    refine g_iald dX12_lowestFree_15 sh_216 hc.1 hc.2 ?_
    refine g_iconst dX12_lowestFree_16 ⟨by decide, by decide⟩ ?_
    refine g_ceq dX12_lowestFree_17 rfl (fun q => ?_) (fun q => ?_)
    · have hF := hF.1 q
      obtain ⟨hc, hF⟩ := hF
      refine gw_iinc (L' := [some (g_R 208), some (g_I (v1 + 1)), none, none]) dX12_lowestFree_86 rfl hc (by decide) rfl ?_
      refine g_goto dX12_lowestFree_89 rfl ?_
      exact hF
    · have hF := hF.2 q
      refine g_aload_n dX12_lowestFree_20 rfl ?_
      refine g_getR dX12_lowestFree_21 fd_X12_60 sh_208 rfl ?_
      refine g_iload_n dX12_lowestFree_24 rfl ?_
      obtain ⟨hc, hF⟩ := hF
      refine g_bald dX12_lowestFree_25 sh_224 hc.1 hc.2 ?_
      refine g_ifeq dX12_lowestFree_26 rfl (fun q => ?_) (fun q => ?_)
      · have hF := hF.1 q
        refine g_iconst dX12_lowestFree_32 ⟨by decide, by decide⟩ ?_
        refine gw_istore_n (L' := [some (g_R 208), some (g_I v1), some (g_I 1), none]) dX12_lowestFree_33 (by decide) rfl ?_
        refine g_iconst dX12_lowestFree_34 ⟨by decide, by decide⟩ ?_
        refine gw_istore_n (L' := [some (g_R 208), some (g_I v1), some (g_I 1), some (g_I 0)]) dX12_lowestFree_35 (by decide) rfl ?_
        exact hF
      · have hF := hF.2 q
        refine g_goto dX12_lowestFree_29 rfl ?_
        obtain ⟨hc, hF⟩ := hF
        refine gw_iinc (L' := [some (g_R 208), some (g_I (v1 + 1)), none, none]) dX12_lowestFree_86 rfl hc (by decide) rfl ?_
        refine g_goto dX12_lowestFree_89 rfl ?_
        exact hF
theorem s_X12_lowestFree_36 {E : g_E} {l : Launch} {D : g_D} {K : Int → g_D → Prop} {v1 : Int} {v2 : Int} {v3 : Int}  (hF : g_okD D → g_r v1 → g_r v2 → g_r v3 → ((D 208 14) ≤ v3 → (v2 = 0 → (g_r (v1 + 1)) ∧ (n_X12_lowestFree E l D 2 [some (g_R 208), some (g_I (v1 + 1)), none, none] K)) ∧ (¬ v2 = 0 → K v1 D)) ∧ (¬ (D 208 14) ≤ v3 → (g_r (40 * v3)) ∧ ((g_r ((40 * v3) + v1)) ∧ ((0 ≤ ((40 * v3) + v1) ∧ ((40 * v3) + v1) < 1600) ∧ (((D 220 ((40 * v3) + v1).toNat) = 0 → (g_r (v3 + 1)) ∧ (n_X12_lowestFree E l D 36 [some (g_R 208), some (g_I v1), some (g_I (g_and v2 1)), some (g_I (v3 + 1))] K)) ∧ (¬ (D 220 ((40 * v3) + v1).toNat) = 0 → k_X12_isOpen E l D v3 (fun x1 D1 => g_r x1 → (¬ x1 = 0 → (g_r (v3 + 1)) ∧ (n_X12_lowestFree E l D1 36 [some (g_R 208), some (g_I v1), some (g_I (g_and v2 0)), some (g_I (v3 + 1))] K)) ∧ (x1 = 0 → (g_r (v3 + 1)) ∧ (n_X12_lowestFree E l D1 36 [some (g_R 208), some (g_I v1), some (g_I (g_and v2 1)), some (g_I (v3 + 1))] K))))))))) : n_X12_lowestFree E l D 36 [some (g_R 208), some (g_I v1), some (g_I v2), some (g_I v3)] K := by
  refine g_use (fun ok => ?_)
  have hF := hF ok.2.1 (ok.loc (i := 1) rfl) (ok.loc (i := 2) rfl) (ok.loc (i := 3) rfl)
  refine g_iload_n dX12_lowestFree_36 rfl ?_
  refine g_aload_n dX12_lowestFree_37 rfl ?_
  refine g_getI dX12_lowestFree_38 fd_X12_182 sh_208 rfl ?_
  refine g_cge dX12_lowestFree_41 rfl (fun q => ?_) (fun q => ?_)
  · have hF := hF.1 q
    refine g_iload_n dX12_lowestFree_80 rfl ?_
    refine g_ifeq dX12_lowestFree_81 rfl (fun q => ?_) (fun q => ?_)
    · have hF := hF.1 q
      obtain ⟨hc, hF⟩ := hF
      refine gw_iinc (L' := [some (g_R 208), some (g_I (v1 + 1)), some (g_I v2), some (g_I v3)]) dX12_lowestFree_86 rfl hc (by decide) rfl ?_
      refine g_goto dX12_lowestFree_89 rfl ?_
      exact g_forget (L' := [some (g_R 208), some (g_I (v1 + 1)), none, none]) ⟨rfl, ⟨rfl, trivial⟩⟩ hF
    · have hF := hF.2 q
      refine g_iload_n dX12_lowestFree_84 rfl ?_
      exact gw_iret dX12_lowestFree_85 rfl hF
  · have hF := hF.2 q
    refine g_iload_n dX12_lowestFree_44 rfl ?_
    refine g_aload_n dX12_lowestFree_45 rfl ?_
    refine g_getR dX12_lowestFree_46 fd_X12_48 sh_208 rfl ?_
    refine g_bipush dX12_lowestFree_49 ⟨by decide, by decide⟩ ?_
    refine g_iload_n dX12_lowestFree_51 rfl ?_
    obtain ⟨hc, hF⟩ := hF
    refine g_imul dX12_lowestFree_52 hc ?_
    refine g_iload_n dX12_lowestFree_53 rfl ?_
    obtain ⟨hc, hF⟩ := hF
    refine g_iadd dX12_lowestFree_54 hc ?_
    obtain ⟨hc, hF⟩ := hF
    refine g_bald dX12_lowestFree_55 sh_220 hc.1 hc.2 ?_
    refine g_ifeq dX12_lowestFree_56 rfl (fun q => ?_) (fun q => ?_)
    · have hF := hF.1 q
      refine g_iconst dX12_lowestFree_67 ⟨by decide, by decide⟩ ?_
      refine g_goto dX12_lowestFree_68 rfl ?_
      refine g_iand dX12_lowestFree_72 ?_
      refine gw_istore_n (L' := [some (g_R 208), some (g_I v1), some (g_I (g_and v2 1)), some (g_I v3)]) dX12_lowestFree_73 (by decide) rfl ?_
      obtain ⟨hc, hF⟩ := hF
      refine gw_iinc (L' := [some (g_R 208), some (g_I v1), some (g_I (g_and v2 1)), some (g_I (v3 + 1))]) dX12_lowestFree_74 rfl hc (by decide) rfl ?_
      refine g_goto dX12_lowestFree_77 rfl ?_
      exact hF
    · have hF := hF.2 q
      refine g_aload_n dX12_lowestFree_59 rfl ?_
      refine g_iload_n dX12_lowestFree_60 rfl ?_
      refine gw_cVi (b := 208) (As := [g_I v3]) (rest := [g_I v2]) dX12_lowestFree_61 mv_X12_222 sh_208 rfl (Nat.le_of_ble_eq_true rfl) (by decide) rfl hF ?_
      intro x1 D1 hx1 hF
      have hF := hF hx1
      refine g_ifne dX12_lowestFree_64 rfl (fun q => ?_) (fun q => ?_)
      · have hF := hF.1 q
        refine g_iconst dX12_lowestFree_71 ⟨by decide, by decide⟩ ?_
        refine g_iand dX12_lowestFree_72 ?_
        refine gw_istore_n (L' := [some (g_R 208), some (g_I v1), some (g_I (g_and v2 0)), some (g_I v3)]) dX12_lowestFree_73 (by decide) rfl ?_
        obtain ⟨hc, hF⟩ := hF
        refine gw_iinc (L' := [some (g_R 208), some (g_I v1), some (g_I (g_and v2 0)), some (g_I (v3 + 1))]) dX12_lowestFree_74 rfl hc (by decide) rfl ?_
        refine g_goto dX12_lowestFree_77 rfl ?_
        exact hF
      · have hF := hF.2 q
        refine g_iconst dX12_lowestFree_67 ⟨by decide, by decide⟩ ?_
        refine g_goto dX12_lowestFree_68 rfl ?_
        refine g_iand dX12_lowestFree_72 ?_
        refine gw_istore_n (L' := [some (g_R 208), some (g_I v1), some (g_I (g_and v2 1)), some (g_I v3)]) dX12_lowestFree_73 (by decide) rfl ?_
        obtain ⟨hc, hF⟩ := hF
        refine gw_iinc (L' := [some (g_R 208), some (g_I v1), some (g_I (g_and v2 1)), some (g_I (v3 + 1))]) dX12_lowestFree_74 rfl hc (by decide) rfl ?_
        refine g_goto dX12_lowestFree_77 rfl ?_
        exact hF
theorem dX12_laysAct_0 : decode cX12_laysAct 0 = .ok (.aload_n 0, 1) := by decide +kernel
theorem dX12_laysAct_1 : decode cX12_laysAct 1 = .ok (.getfield 75, 3) := by decide +kernel
theorem dX12_laysAct_4 : decode cX12_laysAct 4 = .ok (.aload_n 0, 1) := by decide +kernel
theorem dX12_laysAct_5 : decode cX12_laysAct 5 = .ok (.getfield 228, 3) := by decide +kernel
theorem dX12_laysAct_8 : decode cX12_laysAct 8 = .ok (.iload_n 1, 1) := by decide +kernel
theorem dX12_laysAct_9 : decode cX12_laysAct 9 = .ok (.iastore, 1) := by decide +kernel
theorem dX12_laysAct_10 : decode cX12_laysAct 10 = .ok (.aload_n 0, 1) := by decide +kernel
theorem dX12_laysAct_11 : decode cX12_laysAct 11 = .ok (.getfield 78, 3) := by decide +kernel
theorem dX12_laysAct_14 : decode cX12_laysAct 14 = .ok (.aload_n 0, 1) := by decide +kernel
theorem dX12_laysAct_15 : decode cX12_laysAct 15 = .ok (.getfield 228, 3) := by decide +kernel
theorem dX12_laysAct_18 : decode cX12_laysAct 18 = .ok (.iload_n 2, 1) := by decide +kernel
theorem dX12_laysAct_19 : decode cX12_laysAct 19 = .ok (.iastore, 1) := by decide +kernel
theorem dX12_laysAct_20 : decode cX12_laysAct 20 = .ok (.aload_n 0, 1) := by decide +kernel
theorem dX12_laysAct_21 : decode cX12_laysAct 21 = .ok (.dup, 1) := by decide +kernel
theorem dX12_laysAct_22 : decode cX12_laysAct 22 = .ok (.getfield 228, 3) := by decide +kernel
theorem dX12_laysAct_25 : decode cX12_laysAct 25 = .ok (.iconst 1, 1) := by decide +kernel
theorem dX12_laysAct_26 : decode cX12_laysAct 26 = .ok (.iadd, 1) := by decide +kernel
theorem dX12_laysAct_27 : decode cX12_laysAct 27 = .ok (.putfield 228, 3) := by decide +kernel
theorem dX12_laysAct_30 : decode cX12_laysAct 30 = .ok (.return_, 1) := by decide +kernel
abbrev k_X12_laysAct (E : g_E) (l : Launch) (D : g_D) (v1 : Int) (v2 : Int) (K : g_D → Prop) : Prop := g_Kv E l m_X12_laysAct 0 [g_R 208, g_I v1, g_I v2] g_SH D K
abbrev n_X12_laysAct (E : g_E) (l : Launch) (D : g_D) (pc : Nat) (L : List (Option g_V)) (K : g_D → Prop) : Prop := g_N E l m_X12_laysAct 0 pc L [] g_SH D (g_Rv g_SH K)
theorem s_X12_laysAct {E : g_E} {l : Launch} {D : g_D} {K : g_D → Prop} {v1 : Int} {v2 : Int}  (hF : g_okD D → g_r v1 → g_r v2 → (0 ≤ (D 208 26) ∧ (D 208 26) < 80) ∧ (∀ D1, D1 = g_up D 229 (D 208 26).toNat v1 → ((0 ≤ (D 208 26) ∧ (D 208 26) < 80) ∧ (∀ D2, D2 = g_up D1 230 (D 208 26).toNat v2 → ((g_r ((D 208 26) + 1)) ∧ (∀ D3, D3 = g_up D2 208 26 ((D 208 26) + 1) → (K D3))))))) : k_X12_laysAct E l D v1 v2 K := by
  refine g_enter (by decide) (Nat.le_of_ble_eq_true rfl) ?_
  show g_N E l m_X12_laysAct 0 0 [some (g_R 208), some (g_I v1), some (g_I v2)] [] g_SH D (g_Rv g_SH K)
  refine g_use (fun ok => ?_)
  have hF := hF ok.2.1 (ok.loc (i := 1) rfl) (ok.loc (i := 2) rfl)
  refine g_aload_n dX12_laysAct_0 rfl ?_
  refine g_getR dX12_laysAct_1 fd_X12_75 sh_208 rfl ?_
  refine g_aload_n dX12_laysAct_4 rfl ?_
  refine g_getI dX12_laysAct_5 fd_X12_228 sh_208 rfl ?_
  refine g_iload_n dX12_laysAct_8 rfl ?_
  obtain ⟨hc, hF⟩ := hF
  let D1 : g_D := g_up D 229 (D 208 26).toNat v1
  have hF := hF D1 rfl
  refine g_iast dX12_laysAct_9 sh_229 hc.1 hc.2 ?_
  refine g_aload_n dX12_laysAct_10 rfl ?_
  refine g_getR dX12_laysAct_11 fd_X12_78 sh_208 rfl ?_
  refine g_aload_n dX12_laysAct_14 rfl ?_
  refine g_getI dX12_laysAct_15 fd_X12_228 sh_208 rfl ?_
  refine g_iload_n dX12_laysAct_18 rfl ?_
  obtain ⟨hc, hF⟩ := hF
  let D2 : g_D := g_up D1 230 (D 208 26).toNat v2
  have hF := hF D2 rfl
  refine g_iast dX12_laysAct_19 sh_230 hc.1 hc.2 ?_
  refine g_aload_n dX12_laysAct_20 rfl ?_
  refine g_dup dX12_laysAct_21 rfl ?_
  refine g_getI dX12_laysAct_22 fd_X12_228 sh_208 rfl ?_
  refine g_iconst dX12_laysAct_25 ⟨by decide, by decide⟩ ?_
  obtain ⟨hc, hF⟩ := hF
  refine g_iadd dX12_laysAct_26 hc ?_
  let D3 : g_D := g_up D2 208 26 ((D 208 26) + 1)
  have hF := hF D3 rfl
  refine g_put dX12_laysAct_27 fd_X12_228 (g_ftyI (C := RX12) (T := TX12) (N := 51) rfl rfl (by decide +kernel)) sh_208 rfl ?_
  exact gw_vret dX12_laysAct_30 rfl hF
theorem dX12_marksStash_0 : decode cX12_marksStash 0 = .ok (.iconst 0, 1) := by decide +kernel
theorem dX12_marksStash_1 : decode cX12_marksStash 1 = .ok (.istore_n 3, 1) := by decide +kernel
theorem dX12_marksStash_2 : decode cX12_marksStash 2 = .ok (.iload_n 3, 1) := by decide +kernel
theorem dX12_marksStash_3 : decode cX12_marksStash 3 = .ok (.aload_n 0, 1) := by decide +kernel
theorem dX12_marksStash_4 : decode cX12_marksStash 4 = .ok (.getfield 45, 3) := by decide +kernel
theorem dX12_marksStash_7 : decode cX12_marksStash 7 = .ok (.iload_n 1, 1) := by decide +kernel
theorem dX12_marksStash_8 : decode cX12_marksStash 8 = .ok (.iaload, 1) := by decide +kernel
theorem dX12_marksStash_9 : decode cX12_marksStash 9 = .ok (.if_icmp .ge 23, 3) := by decide +kernel
theorem dX12_marksStash_12 : decode cX12_marksStash 12 = .ok (.aload_n 0, 1) := by decide +kernel
theorem dX12_marksStash_13 : decode cX12_marksStash 13 = .ok (.getfield 69, 3) := by decide +kernel
theorem dX12_marksStash_16 : decode cX12_marksStash 16 = .ok (.aload_n 0, 1) := by decide +kernel
theorem dX12_marksStash_17 : decode cX12_marksStash 17 = .ok (.getfield 72, 3) := by decide +kernel
theorem dX12_marksStash_20 : decode cX12_marksStash 20 = .ok (.iload_n 1, 1) := by decide +kernel
theorem dX12_marksStash_21 : decode cX12_marksStash 21 = .ok (.iaload, 1) := by decide +kernel
theorem dX12_marksStash_22 : decode cX12_marksStash 22 = .ok (.iload_n 3, 1) := by decide +kernel
theorem dX12_marksStash_23 : decode cX12_marksStash 23 = .ok (.iadd, 1) := by decide +kernel
theorem dX12_marksStash_24 : decode cX12_marksStash 24 = .ok (.iload_n 2, 1) := by decide +kernel
theorem dX12_marksStash_25 : decode cX12_marksStash 25 = .ok (.bastore, 1) := by decide +kernel
theorem dX12_marksStash_26 : decode cX12_marksStash 26 = .ok (.iinc 3 1, 3) := by decide +kernel
theorem dX12_marksStash_29 : decode cX12_marksStash 29 = .ok (.goto (-27), 3) := by decide +kernel
theorem dX12_marksStash_32 : decode cX12_marksStash 32 = .ok (.iconst 0, 1) := by decide +kernel
theorem dX12_marksStash_33 : decode cX12_marksStash 33 = .ok (.istore_n 3, 1) := by decide +kernel
theorem dX12_marksStash_34 : decode cX12_marksStash 34 = .ok (.iconst 0, 1) := by decide +kernel
theorem dX12_marksStash_35 : decode cX12_marksStash 35 = .ok (.istore 4, 2) := by decide +kernel
theorem dX12_marksStash_37 : decode cX12_marksStash 37 = .ok (.iload 4, 2) := by decide +kernel
theorem dX12_marksStash_39 : decode cX12_marksStash 39 = .ok (.bipush 20, 2) := by decide +kernel
theorem dX12_marksStash_41 : decode cX12_marksStash 41 = .ok (.if_icmp .ge 27, 3) := by decide +kernel
theorem dX12_marksStash_44 : decode cX12_marksStash 44 = .ok (.iload_n 3, 1) := by decide +kernel
theorem dX12_marksStash_45 : decode cX12_marksStash 45 = .ok (.aload_n 0, 1) := by decide +kernel
theorem dX12_marksStash_46 : decode cX12_marksStash 46 = .ok (.getfield 69, 3) := by decide +kernel
theorem dX12_marksStash_49 : decode cX12_marksStash 49 = .ok (.iload 4, 2) := by decide +kernel
theorem dX12_marksStash_51 : decode cX12_marksStash 51 = .ok (.baload, 1) := by decide +kernel
theorem dX12_marksStash_52 : decode cX12_marksStash 52 = .ok (.ifCond .eq 7, 3) := by decide +kernel
theorem dX12_marksStash_55 : decode cX12_marksStash 55 = .ok (.iconst 1, 1) := by decide +kernel
theorem dX12_marksStash_56 : decode cX12_marksStash 56 = .ok (.goto 4, 3) := by decide +kernel
theorem dX12_marksStash_59 : decode cX12_marksStash 59 = .ok (.iconst 0, 1) := by decide +kernel
theorem dX12_marksStash_60 : decode cX12_marksStash 60 = .ok (.iadd, 1) := by decide +kernel
theorem dX12_marksStash_61 : decode cX12_marksStash 61 = .ok (.istore_n 3, 1) := by decide +kernel
theorem dX12_marksStash_62 : decode cX12_marksStash 62 = .ok (.iinc 4 1, 3) := by decide +kernel
theorem dX12_marksStash_65 : decode cX12_marksStash 65 = .ok (.goto (-28), 3) := by decide +kernel
theorem dX12_marksStash_68 : decode cX12_marksStash 68 = .ok (.aload_n 0, 1) := by decide +kernel
theorem dX12_marksStash_69 : decode cX12_marksStash 69 = .ok (.iload_n 3, 1) := by decide +kernel
theorem dX12_marksStash_70 : decode cX12_marksStash 70 = .ok (.aload_n 0, 1) := by decide +kernel
theorem dX12_marksStash_71 : decode cX12_marksStash 71 = .ok (.getfield 231, 3) := by decide +kernel
theorem dX12_marksStash_74 : decode cX12_marksStash 74 = .ok (.if_icmp .le 7, 3) := by decide +kernel
theorem dX12_marksStash_77 : decode cX12_marksStash 77 = .ok (.iload_n 3, 1) := by decide +kernel
theorem dX12_marksStash_78 : decode cX12_marksStash 78 = .ok (.goto 7, 3) := by decide +kernel
theorem dX12_marksStash_81 : decode cX12_marksStash 81 = .ok (.aload_n 0, 1) := by decide +kernel
theorem dX12_marksStash_82 : decode cX12_marksStash 82 = .ok (.getfield 231, 3) := by decide +kernel
theorem dX12_marksStash_85 : decode cX12_marksStash 85 = .ok (.putfield 231, 3) := by decide +kernel
theorem dX12_marksStash_88 : decode cX12_marksStash 88 = .ok (.return_, 1) := by decide +kernel
abbrev k_X12_marksStash (E : g_E) (l : Launch) (D : g_D) (v1 : Int) (v2 : Int) (K : g_D → Prop) : Prop := g_Kv E l m_X12_marksStash 0 [g_R 208, g_I v1, g_I v2] g_SH D K
abbrev n_X12_marksStash (E : g_E) (l : Launch) (D : g_D) (pc : Nat) (L : List (Option g_V)) (K : g_D → Prop) : Prop := g_N E l m_X12_marksStash 0 pc L [] g_SH D (g_Rv g_SH K)
theorem s_X12_marksStash {E : g_E} {l : Launch} {D : g_D} {K : g_D → Prop} {v1 : Int} {v2 : Int}  (hF : g_okD D → g_r v1 → g_r v2 → n_X12_marksStash E l D 2 [some (g_R 208), some (g_I v1), some (g_I v2), some (g_I 0), none] K) : k_X12_marksStash E l D v1 v2 K := by
  refine g_enter (by decide) (Nat.le_of_ble_eq_true rfl) ?_
  show g_N E l m_X12_marksStash 0 0 [some (g_R 208), some (g_I v1), some (g_I v2), none, none] [] g_SH D (g_Rv g_SH K)
  refine g_use (fun ok => ?_)
  have hF := hF ok.2.1 (ok.loc (i := 1) rfl) (ok.loc (i := 2) rfl)
  refine g_iconst dX12_marksStash_0 ⟨by decide, by decide⟩ ?_
  refine gw_istore_n (L' := [some (g_R 208), some (g_I v1), some (g_I v2), some (g_I 0), none]) dX12_marksStash_1 (by decide) rfl ?_
  exact hF
theorem s_X12_marksStash_2 {E : g_E} {l : Launch} {D : g_D} {K : g_D → Prop} {v1 : Int} {v2 : Int} {v3 : Int}  (hF : g_okD D → g_r v1 → g_r v2 → g_r v3 → (0 ≤ v1 ∧ v1 < 40) ∧ (((D 219 v1.toNat) ≤ v3 → n_X12_marksStash E l D 37 [some (g_R 208), none, none, some (g_I 0), some (g_I 0)] K) ∧ (¬ (D 219 v1.toNat) ≤ v3 → (0 ≤ v1 ∧ v1 < 40) ∧ ((g_r ((D 228 v1.toNat) + v3)) ∧ ((v2 = 0 ∨ v2 = 1) ∧ ((0 ≤ ((D 228 v1.toNat) + v3) ∧ ((D 228 v1.toNat) + v3) < 20) ∧ (∀ D1, D1 = g_up D 227 ((D 228 v1.toNat) + v3).toNat v2 → ((g_r (v3 + 1)) ∧ (n_X12_marksStash E l D1 2 [some (g_R 208), some (g_I v1), some (g_I v2), some (g_I (v3 + 1)), none] K))))))))) : n_X12_marksStash E l D 2 [some (g_R 208), some (g_I v1), some (g_I v2), some (g_I v3), none] K := by
  refine g_use (fun ok => ?_)
  have hF := hF ok.2.1 (ok.loc (i := 1) rfl) (ok.loc (i := 2) rfl) (ok.loc (i := 3) rfl)
  refine g_iload_n dX12_marksStash_2 rfl ?_
  refine g_aload_n dX12_marksStash_3 rfl ?_
  refine g_getR dX12_marksStash_4 fd_X12_45 sh_208 rfl ?_
  refine g_iload_n dX12_marksStash_7 rfl ?_
  obtain ⟨hc, hF⟩ := hF
  refine g_iald dX12_marksStash_8 sh_219 hc.1 hc.2 ?_
  refine g_cge dX12_marksStash_9 rfl (fun q => ?_) (fun q => ?_)
  · have hF := hF.1 q
    refine g_iconst dX12_marksStash_32 ⟨by decide, by decide⟩ ?_
    refine gw_istore_n (L' := [some (g_R 208), some (g_I v1), some (g_I v2), some (g_I 0), none]) dX12_marksStash_33 (by decide) rfl ?_
    refine g_iconst dX12_marksStash_34 ⟨by decide, by decide⟩ ?_
    refine gw_istore (L' := [some (g_R 208), some (g_I v1), some (g_I v2), some (g_I 0), some (g_I 0)]) dX12_marksStash_35 (by decide) rfl ?_
    exact g_forget (L' := [some (g_R 208), none, none, some (g_I 0), some (g_I 0)]) ⟨rfl, ⟨rfl, ⟨rfl, trivial⟩⟩⟩ hF
  · have hF := hF.2 q
    refine g_aload_n dX12_marksStash_12 rfl ?_
    refine g_getR dX12_marksStash_13 fd_X12_69 sh_208 rfl ?_
    refine g_aload_n dX12_marksStash_16 rfl ?_
    refine g_getR dX12_marksStash_17 fd_X12_72 sh_208 rfl ?_
    refine g_iload_n dX12_marksStash_20 rfl ?_
    obtain ⟨hc, hF⟩ := hF
    refine g_iald dX12_marksStash_21 sh_228 hc.1 hc.2 ?_
    refine g_iload_n dX12_marksStash_22 rfl ?_
    obtain ⟨hc, hF⟩ := hF
    refine g_iadd dX12_marksStash_23 hc ?_
    refine g_iload_n dX12_marksStash_24 rfl ?_
    obtain ⟨hz, hF⟩ := hF
    obtain ⟨hc, hF⟩ := hF
    let D1 : g_D := g_up D 227 ((D 228 v1.toNat) + v3).toNat v2
    have hF := hF D1 rfl
    refine g_bast dX12_marksStash_25 sh_227 hc.1 hc.2 hz ?_
    obtain ⟨hc, hF⟩ := hF
    refine gw_iinc (L' := [some (g_R 208), some (g_I v1), some (g_I v2), some (g_I (v3 + 1)), none]) dX12_marksStash_26 rfl hc (by decide) rfl ?_
    refine g_goto dX12_marksStash_29 rfl ?_
    exact hF
theorem s_X12_marksStash_37 {E : g_E} {l : Launch} {D : g_D} {K : g_D → Prop} {v3 : Int} {v4 : Int}  (hF : g_okD D → g_r v3 → g_r v4 → (20 ≤ v4 → (v3 ≤ (D 208 30) → ∀ D1, D1 = g_up D 208 30 (D 208 30) → (K D1)) ∧ (¬ v3 ≤ (D 208 30) → ∀ D2, D2 = g_up D 208 30 v3 → (K D2))) ∧ (¬ 20 ≤ v4 → (0 ≤ v4 ∧ v4 < 20) ∧ (((D 227 v4.toNat) = 0 → (g_r (v3 + 0)) ∧ ((g_r (v4 + 1)) ∧ (n_X12_marksStash E l D 37 [some (g_R 208), none, none, some (g_I (v3 + 0)), some (g_I (v4 + 1))] K))) ∧ (¬ (D 227 v4.toNat) = 0 → (g_r (v3 + 1)) ∧ ((g_r (v4 + 1)) ∧ (n_X12_marksStash E l D 37 [some (g_R 208), none, none, some (g_I (v3 + 1)), some (g_I (v4 + 1))] K)))))) : n_X12_marksStash E l D 37 [some (g_R 208), none, none, some (g_I v3), some (g_I v4)] K := by
  refine g_use (fun ok => ?_)
  have hF := hF ok.2.1 (ok.loc (i := 3) rfl) (ok.loc (i := 4) rfl)
  refine g_iload dX12_marksStash_37 rfl ?_
  refine g_bipush dX12_marksStash_39 ⟨by decide, by decide⟩ ?_
  refine g_cge dX12_marksStash_41 rfl (fun q => ?_) (fun q => ?_)
  · have hF := hF.1 q
    refine g_aload_n dX12_marksStash_68 rfl ?_
    refine g_iload_n dX12_marksStash_69 rfl ?_
    refine g_aload_n dX12_marksStash_70 rfl ?_
    refine g_getI dX12_marksStash_71 fd_X12_231 sh_208 rfl ?_
    refine g_cle dX12_marksStash_74 rfl (fun q => ?_) (fun q => ?_)
    · have hF := hF.1 q
      refine g_aload_n dX12_marksStash_81 rfl ?_
      refine g_getI dX12_marksStash_82 fd_X12_231 sh_208 rfl ?_
      let D1 : g_D := g_up D 208 30 (D 208 30)
      have hF := hF D1 rfl
      refine g_put dX12_marksStash_85 fd_X12_231 (g_ftyI (C := RX12) (T := TX12) (N := 51) rfl rfl (by decide +kernel)) sh_208 rfl ?_
      exact gw_vret dX12_marksStash_88 rfl hF
    · have hF := hF.2 q
      refine g_iload_n dX12_marksStash_77 rfl ?_
      refine g_goto dX12_marksStash_78 rfl ?_
      let D2 : g_D := g_up D 208 30 v3
      have hF := hF D2 rfl
      refine g_put dX12_marksStash_85 fd_X12_231 (g_ftyI (C := RX12) (T := TX12) (N := 51) rfl rfl (by decide +kernel)) sh_208 rfl ?_
      exact gw_vret dX12_marksStash_88 rfl hF
  · have hF := hF.2 q
    refine g_iload_n dX12_marksStash_44 rfl ?_
    refine g_aload_n dX12_marksStash_45 rfl ?_
    refine g_getR dX12_marksStash_46 fd_X12_69 sh_208 rfl ?_
    refine g_iload dX12_marksStash_49 rfl ?_
    obtain ⟨hc, hF⟩ := hF
    refine g_bald dX12_marksStash_51 sh_227 hc.1 hc.2 ?_
    refine g_ifeq dX12_marksStash_52 rfl (fun q => ?_) (fun q => ?_)
    · have hF := hF.1 q
      refine g_iconst dX12_marksStash_59 ⟨by decide, by decide⟩ ?_
      obtain ⟨hc, hF⟩ := hF
      refine g_iadd dX12_marksStash_60 hc ?_
      refine gw_istore_n (L' := [some (g_R 208), none, none, some (g_I (v3 + 0)), some (g_I v4)]) dX12_marksStash_61 (by decide) rfl ?_
      obtain ⟨hc, hF⟩ := hF
      refine gw_iinc (L' := [some (g_R 208), none, none, some (g_I (v3 + 0)), some (g_I (v4 + 1))]) dX12_marksStash_62 rfl hc (by decide) rfl ?_
      refine g_goto dX12_marksStash_65 rfl ?_
      exact hF
    · have hF := hF.2 q
      refine g_iconst dX12_marksStash_55 ⟨by decide, by decide⟩ ?_
      refine g_goto dX12_marksStash_56 rfl ?_
      obtain ⟨hc, hF⟩ := hF
      refine g_iadd dX12_marksStash_60 hc ?_
      refine gw_istore_n (L' := [some (g_R 208), none, none, some (g_I (v3 + 1)), some (g_I v4)]) dX12_marksStash_61 (by decide) rfl ?_
      obtain ⟨hc, hF⟩ := hF
      refine gw_iinc (L' := [some (g_R 208), none, none, some (g_I (v3 + 1)), some (g_I (v4 + 1))]) dX12_marksStash_62 rfl hc (by decide) rfl ?_
      refine g_goto dX12_marksStash_65 rfl ?_
      exact hF
theorem dX12_does_0 : decode cX12_does 0 = .ok (.aload_n 0, 1) := by decide +kernel
theorem dX12_does_1 : decode cX12_does 1 = .ok (.getfield 60, 3) := by decide +kernel
theorem dX12_does_4 : decode cX12_does 4 = .ok (.iload_n 1, 1) := by decide +kernel
theorem dX12_does_5 : decode cX12_does 5 = .ok (.iconst 1, 1) := by decide +kernel
theorem dX12_does_6 : decode cX12_does 6 = .ok (.bastore, 1) := by decide +kernel
theorem dX12_does_7 : decode cX12_does 7 = .ok (.aload_n 0, 1) := by decide +kernel
theorem dX12_does_8 : decode cX12_does 8 = .ok (.aload_n 0, 1) := by decide +kernel
theorem dX12_does_9 : decode cX12_does 9 = .ok (.getfield 63, 3) := by decide +kernel
theorem dX12_does_12 : decode cX12_does 12 = .ok (.iload_n 1, 1) := by decide +kernel
theorem dX12_does_13 : decode cX12_does 13 = .ok (.baload, 1) := by decide +kernel
theorem dX12_does_14 : decode cX12_does 14 = .ok (.ifCond .eq 7, 3) := by decide +kernel
theorem dX12_does_17 : decode cX12_does 17 = .ok (.iconst 3, 1) := by decide +kernel
theorem dX12_does_18 : decode cX12_does 18 = .ok (.goto 27, 3) := by decide +kernel
theorem dX12_does_21 : decode cX12_does 21 = .ok (.aload_n 0, 1) := by decide +kernel
theorem dX12_does_22 : decode cX12_does 22 = .ok (.getfield 36, 3) := by decide +kernel
theorem dX12_does_25 : decode cX12_does 25 = .ok (.iload_n 1, 1) := by decide +kernel
theorem dX12_does_26 : decode cX12_does 26 = .ok (.iaload, 1) := by decide +kernel
theorem dX12_does_27 : decode cX12_does 27 = .ok (.iconst 1, 1) := by decide +kernel
theorem dX12_does_28 : decode cX12_does 28 = .ok (.if_icmp .ne 16, 3) := by decide +kernel
theorem dX12_does_31 : decode cX12_does 31 = .ok (.aload_n 0, 1) := by decide +kernel
theorem dX12_does_32 : decode cX12_does 32 = .ok (.getfield 66, 3) := by decide +kernel
theorem dX12_does_35 : decode cX12_does 35 = .ok (.iload_n 1, 1) := by decide +kernel
theorem dX12_does_36 : decode cX12_does 36 = .ok (.baload, 1) := by decide +kernel
theorem dX12_does_37 : decode cX12_does 37 = .ok (.ifCond .ne 7, 3) := by decide +kernel
theorem dX12_does_40 : decode cX12_does 40 = .ok (.iconst 2, 1) := by decide +kernel
theorem dX12_does_41 : decode cX12_does 41 = .ok (.goto 4, 3) := by decide +kernel
theorem dX12_does_44 : decode cX12_does 44 = .ok (.iconst 4, 1) := by decide +kernel
theorem dX12_does_45 : decode cX12_does 45 = .ok (.iload_n 1, 1) := by decide +kernel
theorem dX12_does_46 : decode cX12_does 46 = .ok (.invokevirtual 234, 3) := by decide +kernel
theorem dX12_does_49 : decode cX12_does 49 = .ok (.aload_n 0, 1) := by decide +kernel
theorem dX12_does_50 : decode cX12_does 50 = .ok (.getfield 63, 3) := by decide +kernel
theorem dX12_does_53 : decode cX12_does 53 = .ok (.iload_n 1, 1) := by decide +kernel
theorem dX12_does_54 : decode cX12_does 54 = .ok (.baload, 1) := by decide +kernel
theorem dX12_does_55 : decode cX12_does 55 = .ok (.ifCond .eq 9, 3) := by decide +kernel
theorem dX12_does_58 : decode cX12_does 58 = .ok (.aload_n 0, 1) := by decide +kernel
theorem dX12_does_59 : decode cX12_does 59 = .ok (.iload_n 1, 1) := by decide +kernel
theorem dX12_does_60 : decode cX12_does 60 = .ok (.iconst 0, 1) := by decide +kernel
theorem dX12_does_61 : decode cX12_does 61 = .ok (.invokevirtual 238, 3) := by decide +kernel
theorem dX12_does_64 : decode cX12_does 64 = .ok (.return_, 1) := by decide +kernel
abbrev k_X12_does (E : g_E) (l : Launch) (D : g_D) (v1 : Int) (K : g_D → Prop) : Prop := g_Kv E l m_X12_does 1 [g_R 208, g_I v1] g_SH D K
abbrev n_X12_does (E : g_E) (l : Launch) (D : g_D) (pc : Nat) (L : List (Option g_V)) (K : g_D → Prop) : Prop := g_N E l m_X12_does 1 pc L [] g_SH D (g_Rv g_SH K)
theorem s_X12_does {E : g_E} {l : Launch} {D : g_D} {K : g_D → Prop} {v1 : Int}  (hF : g_okD D → g_r v1 → (0 ≤ v1 ∧ v1 < 40) ∧ (∀ D1, D1 = g_up D 224 v1.toNat 1 → ((0 ≤ v1 ∧ v1 < 40) ∧ (((D 225 v1.toNat) = 0 → (0 ≤ v1 ∧ v1 < 40) ∧ ((¬ (D 216 v1.toNat) = 1 → k_X12_laysAct E l D1 4 v1 (fun D2 => (0 ≤ v1 ∧ v1 < 40) ∧ (((D2 225 v1.toNat) = 0 → K D2) ∧ (¬ (D2 225 v1.toNat) = 0 → k_X12_marksStash E l D2 v1 0 (fun D3 => K D3))))) ∧ ((D 216 v1.toNat) = 1 → (0 ≤ v1 ∧ v1 < 40) ∧ ((¬ (D 226 v1.toNat) = 0 → k_X12_laysAct E l D1 4 v1 (fun D4 => (0 ≤ v1 ∧ v1 < 40) ∧ (((D4 225 v1.toNat) = 0 → K D4) ∧ (¬ (D4 225 v1.toNat) = 0 → k_X12_marksStash E l D4 v1 0 (fun D5 => K D5))))) ∧ ((D 226 v1.toNat) = 0 → k_X12_laysAct E l D1 2 v1 (fun D6 => (0 ≤ v1 ∧ v1 < 40) ∧ (((D6 225 v1.toNat) = 0 → K D6) ∧ (¬ (D6 225 v1.toNat) = 0 → k_X12_marksStash E l D6 v1 0 (fun D7 => K D7))))))))) ∧ (¬ (D 225 v1.toNat) = 0 → k_X12_laysAct E l D1 3 v1 (fun D8 => (0 ≤ v1 ∧ v1 < 40) ∧ (((D8 225 v1.toNat) = 0 → K D8) ∧ (¬ (D8 225 v1.toNat) = 0 → k_X12_marksStash E l D8 v1 0 (fun D9 => K D9))))))))) : k_X12_does E l D v1 K := by
  refine g_enter (by decide) (Nat.le_of_ble_eq_true rfl) ?_
  show g_N E l m_X12_does 1 0 [some (g_R 208), some (g_I v1)] [] g_SH D (g_Rv g_SH K)
  refine g_use (fun ok => ?_)
  have hF := hF ok.2.1 (ok.loc (i := 1) rfl)
  refine g_aload_n dX12_does_0 rfl ?_
  refine g_getR dX12_does_1 fd_X12_60 sh_208 rfl ?_
  refine g_iload_n dX12_does_4 rfl ?_
  refine g_iconst dX12_does_5 ⟨by decide, by decide⟩ ?_
  obtain ⟨hc, hF⟩ := hF
  let D1 : g_D := g_up D 224 v1.toNat 1
  have hF := hF D1 rfl
  refine g_bast dX12_does_6 sh_224 hc.1 hc.2 (by decide) ?_
  refine g_aload_n dX12_does_7 rfl ?_
  refine g_aload_n dX12_does_8 rfl ?_
  refine g_getR dX12_does_9 fd_X12_63 sh_208 rfl ?_
  refine g_iload_n dX12_does_12 rfl ?_
  obtain ⟨hc, hF⟩ := hF
  refine g_bald dX12_does_13 sh_225 hc.1 hc.2 ?_
  refine g_ifeq dX12_does_14 rfl (fun q => ?_) (fun q => ?_)
  · have hF := hF.1 q
    refine g_aload_n dX12_does_21 rfl ?_
    refine g_getR dX12_does_22 fd_X12_36 sh_208 rfl ?_
    refine g_iload_n dX12_does_25 rfl ?_
    obtain ⟨hc, hF⟩ := hF
    refine g_iald dX12_does_26 sh_216 hc.1 hc.2 ?_
    refine g_iconst dX12_does_27 ⟨by decide, by decide⟩ ?_
    refine g_cne dX12_does_28 rfl (fun q => ?_) (fun q => ?_)
    · have hF := hF.1 q
      refine g_iconst dX12_does_44 ⟨by decide, by decide⟩ ?_
      refine g_iload_n dX12_does_45 rfl ?_
      refine gw_cVv (b := 208) (As := [g_I 4, g_I v1]) (rest := []) dX12_does_46 mv_X12_234 sh_208 rfl (Nat.le_of_ble_eq_true rfl) (by decide) rfl hF ?_
      intro D2 hF
      refine g_aload_n dX12_does_49 rfl ?_
      refine g_getR dX12_does_50 fd_X12_63 sh_208 rfl ?_
      refine g_iload_n dX12_does_53 rfl ?_
      obtain ⟨hc, hF⟩ := hF
      refine g_bald dX12_does_54 sh_225 hc.1 hc.2 ?_
      refine g_ifeq dX12_does_55 rfl (fun q => ?_) (fun q => ?_)
      · have hF := hF.1 q
        exact gw_vret dX12_does_64 rfl hF
      · have hF := hF.2 q
        refine g_aload_n dX12_does_58 rfl ?_
        refine g_iload_n dX12_does_59 rfl ?_
        refine g_iconst dX12_does_60 ⟨by decide, by decide⟩ ?_
        refine gw_cVv (b := 208) (As := [g_I v1, g_I 0]) (rest := []) dX12_does_61 mv_X12_238 sh_208 rfl (Nat.le_of_ble_eq_true rfl) (by decide) rfl hF ?_
        intro D3 hF
        exact gw_vret dX12_does_64 rfl hF
    · have hF := hF.2 q
      refine g_aload_n dX12_does_31 rfl ?_
      refine g_getR dX12_does_32 fd_X12_66 sh_208 rfl ?_
      refine g_iload_n dX12_does_35 rfl ?_
      obtain ⟨hc, hF⟩ := hF
      refine g_bald dX12_does_36 sh_226 hc.1 hc.2 ?_
      refine g_ifne dX12_does_37 rfl (fun q => ?_) (fun q => ?_)
      · have hF := hF.1 q
        refine g_iconst dX12_does_44 ⟨by decide, by decide⟩ ?_
        refine g_iload_n dX12_does_45 rfl ?_
        refine gw_cVv (b := 208) (As := [g_I 4, g_I v1]) (rest := []) dX12_does_46 mv_X12_234 sh_208 rfl (Nat.le_of_ble_eq_true rfl) (by decide) rfl hF ?_
        intro D4 hF
        refine g_aload_n dX12_does_49 rfl ?_
        refine g_getR dX12_does_50 fd_X12_63 sh_208 rfl ?_
        refine g_iload_n dX12_does_53 rfl ?_
        obtain ⟨hc, hF⟩ := hF
        refine g_bald dX12_does_54 sh_225 hc.1 hc.2 ?_
        refine g_ifeq dX12_does_55 rfl (fun q => ?_) (fun q => ?_)
        · have hF := hF.1 q
          exact gw_vret dX12_does_64 rfl hF
        · have hF := hF.2 q
          refine g_aload_n dX12_does_58 rfl ?_
          refine g_iload_n dX12_does_59 rfl ?_
          refine g_iconst dX12_does_60 ⟨by decide, by decide⟩ ?_
          refine gw_cVv (b := 208) (As := [g_I v1, g_I 0]) (rest := []) dX12_does_61 mv_X12_238 sh_208 rfl (Nat.le_of_ble_eq_true rfl) (by decide) rfl hF ?_
          intro D5 hF
          exact gw_vret dX12_does_64 rfl hF
      · have hF := hF.2 q
        refine g_iconst dX12_does_40 ⟨by decide, by decide⟩ ?_
        refine g_goto dX12_does_41 rfl ?_
        refine g_iload_n dX12_does_45 rfl ?_
        refine gw_cVv (b := 208) (As := [g_I 2, g_I v1]) (rest := []) dX12_does_46 mv_X12_234 sh_208 rfl (Nat.le_of_ble_eq_true rfl) (by decide) rfl hF ?_
        intro D6 hF
        refine g_aload_n dX12_does_49 rfl ?_
        refine g_getR dX12_does_50 fd_X12_63 sh_208 rfl ?_
        refine g_iload_n dX12_does_53 rfl ?_
        obtain ⟨hc, hF⟩ := hF
        refine g_bald dX12_does_54 sh_225 hc.1 hc.2 ?_
        refine g_ifeq dX12_does_55 rfl (fun q => ?_) (fun q => ?_)
        · have hF := hF.1 q
          exact gw_vret dX12_does_64 rfl hF
        · have hF := hF.2 q
          refine g_aload_n dX12_does_58 rfl ?_
          refine g_iload_n dX12_does_59 rfl ?_
          refine g_iconst dX12_does_60 ⟨by decide, by decide⟩ ?_
          refine gw_cVv (b := 208) (As := [g_I v1, g_I 0]) (rest := []) dX12_does_61 mv_X12_238 sh_208 rfl (Nat.le_of_ble_eq_true rfl) (by decide) rfl hF ?_
          intro D7 hF
          exact gw_vret dX12_does_64 rfl hF
  · have hF := hF.2 q
    refine g_iconst dX12_does_17 ⟨by decide, by decide⟩ ?_
    refine g_goto dX12_does_18 rfl ?_
    refine g_iload_n dX12_does_45 rfl ?_
    refine gw_cVv (b := 208) (As := [g_I 3, g_I v1]) (rest := []) dX12_does_46 mv_X12_234 sh_208 rfl (Nat.le_of_ble_eq_true rfl) (by decide) rfl hF ?_
    intro D8 hF
    refine g_aload_n dX12_does_49 rfl ?_
    refine g_getR dX12_does_50 fd_X12_63 sh_208 rfl ?_
    refine g_iload_n dX12_does_53 rfl ?_
    obtain ⟨hc, hF⟩ := hF
    refine g_bald dX12_does_54 sh_225 hc.1 hc.2 ?_
    refine g_ifeq dX12_does_55 rfl (fun q => ?_) (fun q => ?_)
    · have hF := hF.1 q
      exact gw_vret dX12_does_64 rfl hF
    · have hF := hF.2 q
      refine g_aload_n dX12_does_58 rfl ?_
      refine g_iload_n dX12_does_59 rfl ?_
      refine g_iconst dX12_does_60 ⟨by decide, by decide⟩ ?_
      refine gw_cVv (b := 208) (As := [g_I v1, g_I 0]) (rest := []) dX12_does_61 mv_X12_238 sh_208 rfl (Nat.le_of_ble_eq_true rfl) (by decide) rfl hF ?_
      intro D9 hF
      exact gw_vret dX12_does_64 rfl hF
theorem dX12_laysFarTo_0 : decode cX12_laysFarTo 0 = .ok (.iconst 0, 1) := by decide +kernel
theorem dX12_laysFarTo_1 : decode cX12_laysFarTo 1 = .ok (.istore_n 2, 1) := by decide +kernel
theorem dX12_laysFarTo_2 : decode cX12_laysFarTo 2 = .ok (.iload_n 2, 1) := by decide +kernel
theorem dX12_laysFarTo_3 : decode cX12_laysFarTo 3 = .ok (.aload_n 0, 1) := by decide +kernel
theorem dX12_laysFarTo_4 : decode cX12_laysFarTo 4 = .ok (.getfield 182, 3) := by decide +kernel
theorem dX12_laysFarTo_7 : decode cX12_laysFarTo 7 = .ok (.if_icmp .ge 17, 3) := by decide +kernel
theorem dX12_laysFarTo_10 : decode cX12_laysFarTo 10 = .ok (.aload_n 0, 1) := by decide +kernel
theorem dX12_laysFarTo_11 : decode cX12_laysFarTo 11 = .ok (.getfield 51, 3) := by decide +kernel
theorem dX12_laysFarTo_14 : decode cX12_laysFarTo 14 = .ok (.iload_n 2, 1) := by decide +kernel
theorem dX12_laysFarTo_15 : decode cX12_laysFarTo 15 = .ok (.ldc 178, 2) := by decide +kernel
theorem dX12_laysFarTo_17 : decode cX12_laysFarTo 17 = .ok (.iastore, 1) := by decide +kernel
theorem dX12_laysFarTo_18 : decode cX12_laysFarTo 18 = .ok (.iinc 2 1, 3) := by decide +kernel
theorem dX12_laysFarTo_21 : decode cX12_laysFarTo 21 = .ok (.goto (-19), 3) := by decide +kernel
theorem dX12_laysFarTo_24 : decode cX12_laysFarTo 24 = .ok (.iconst 1, 1) := by decide +kernel
theorem dX12_laysFarTo_25 : decode cX12_laysFarTo 25 = .ok (.istore_n 2, 1) := by decide +kernel
theorem dX12_laysFarTo_26 : decode cX12_laysFarTo 26 = .ok (.iload_n 2, 1) := by decide +kernel
theorem dX12_laysFarTo_27 : decode cX12_laysFarTo 27 = .ok (.ifCond .eq 124, 3) := by decide +kernel
theorem dX12_laysFarTo_30 : decode cX12_laysFarTo 30 = .ok (.iconst 0, 1) := by decide +kernel
theorem dX12_laysFarTo_31 : decode cX12_laysFarTo 31 = .ok (.istore_n 2, 1) := by decide +kernel
theorem dX12_laysFarTo_32 : decode cX12_laysFarTo 32 = .ok (.iconst 0, 1) := by decide +kernel
theorem dX12_laysFarTo_33 : decode cX12_laysFarTo 33 = .ok (.istore_n 3, 1) := by decide +kernel
theorem dX12_laysFarTo_34 : decode cX12_laysFarTo 34 = .ok (.iload_n 3, 1) := by decide +kernel
theorem dX12_laysFarTo_35 : decode cX12_laysFarTo 35 = .ok (.aload_n 0, 1) := by decide +kernel
theorem dX12_laysFarTo_36 : decode cX12_laysFarTo 36 = .ok (.getfield 182, 3) := by decide +kernel
theorem dX12_laysFarTo_39 : decode cX12_laysFarTo 39 = .ok (.if_icmp .ge 109, 3) := by decide +kernel
theorem dX12_laysFarTo_42 : decode cX12_laysFarTo 42 = .ok (.iconst 0, 1) := by decide +kernel
theorem dX12_laysFarTo_43 : decode cX12_laysFarTo 43 = .ok (.istore 4, 2) := by decide +kernel
theorem dX12_laysFarTo_45 : decode cX12_laysFarTo 45 = .ok (.iload 4, 2) := by decide +kernel
theorem dX12_laysFarTo_47 : decode cX12_laysFarTo 47 = .ok (.aload_n 0, 1) := by decide +kernel
theorem dX12_laysFarTo_48 : decode cX12_laysFarTo 48 = .ok (.getfield 182, 3) := by decide +kernel
theorem dX12_laysFarTo_51 : decode cX12_laysFarTo 51 = .ok (.if_icmp .ge 91, 3) := by decide +kernel
theorem dX12_laysFarTo_54 : decode cX12_laysFarTo 54 = .ok (.aload_n 0, 1) := by decide +kernel
theorem dX12_laysFarTo_55 : decode cX12_laysFarTo 55 = .ok (.getfield 54, 3) := by decide +kernel
theorem dX12_laysFarTo_58 : decode cX12_laysFarTo 58 = .ok (.iload_n 3, 1) := by decide +kernel
theorem dX12_laysFarTo_59 : decode cX12_laysFarTo 59 = .ok (.baload, 1) := by decide +kernel
theorem dX12_laysFarTo_60 : decode cX12_laysFarTo 60 = .ok (.ifCond .eq 76, 3) := by decide +kernel
theorem dX12_laysFarTo_63 : decode cX12_laysFarTo 63 = .ok (.aload_n 0, 1) := by decide +kernel
theorem dX12_laysFarTo_64 : decode cX12_laysFarTo 64 = .ok (.getfield 54, 3) := by decide +kernel
theorem dX12_laysFarTo_67 : decode cX12_laysFarTo 67 = .ok (.iload 4, 2) := by decide +kernel
theorem dX12_laysFarTo_69 : decode cX12_laysFarTo 69 = .ok (.baload, 1) := by decide +kernel
theorem dX12_laysFarTo_70 : decode cX12_laysFarTo 70 = .ok (.ifCond .eq 66, 3) := by decide +kernel
theorem dX12_laysFarTo_73 : decode cX12_laysFarTo 73 = .ok (.aload_n 0, 1) := by decide +kernel
theorem dX12_laysFarTo_74 : decode cX12_laysFarTo 74 = .ok (.getfield 48, 3) := by decide +kernel
theorem dX12_laysFarTo_77 : decode cX12_laysFarTo 77 = .ok (.bipush 40, 2) := by decide +kernel
theorem dX12_laysFarTo_79 : decode cX12_laysFarTo 79 = .ok (.iload_n 3, 1) := by decide +kernel
theorem dX12_laysFarTo_80 : decode cX12_laysFarTo 80 = .ok (.imul, 1) := by decide +kernel
theorem dX12_laysFarTo_81 : decode cX12_laysFarTo 81 = .ok (.iload 4, 2) := by decide +kernel
theorem dX12_laysFarTo_83 : decode cX12_laysFarTo 83 = .ok (.iadd, 1) := by decide +kernel
theorem dX12_laysFarTo_84 : decode cX12_laysFarTo 84 = .ok (.baload, 1) := by decide +kernel
theorem dX12_laysFarTo_85 : decode cX12_laysFarTo 85 = .ok (.ifCond .ne 6, 3) := by decide +kernel
theorem dX12_laysFarTo_88 : decode cX12_laysFarTo 88 = .ok (.goto 48, 3) := by decide +kernel
theorem dX12_laysFarTo_91 : decode cX12_laysFarTo 91 = .ok (.iload 4, 2) := by decide +kernel
theorem dX12_laysFarTo_93 : decode cX12_laysFarTo 93 = .ok (.iload_n 1, 1) := by decide +kernel
theorem dX12_laysFarTo_94 : decode cX12_laysFarTo 94 = .ok (.if_icmp .ne 7, 3) := by decide +kernel
theorem dX12_laysFarTo_97 : decode cX12_laysFarTo 97 = .ok (.iconst 1, 1) := by decide +kernel
theorem dX12_laysFarTo_98 : decode cX12_laysFarTo 98 = .ok (.goto 12, 3) := by decide +kernel
theorem dX12_laysFarTo_101 : decode cX12_laysFarTo 101 = .ok (.aload_n 0, 1) := by decide +kernel
theorem dX12_laysFarTo_102 : decode cX12_laysFarTo 102 = .ok (.getfield 51, 3) := by decide +kernel
theorem dX12_laysFarTo_105 : decode cX12_laysFarTo 105 = .ok (.iload 4, 2) := by decide +kernel
theorem dX12_laysFarTo_107 : decode cX12_laysFarTo 107 = .ok (.iaload, 1) := by decide +kernel
theorem dX12_laysFarTo_108 : decode cX12_laysFarTo 108 = .ok (.iconst 1, 1) := by decide +kernel
theorem dX12_laysFarTo_109 : decode cX12_laysFarTo 109 = .ok (.iadd, 1) := by decide +kernel
theorem dX12_laysFarTo_110 : decode cX12_laysFarTo 110 = .ok (.istore 5, 2) := by decide +kernel
theorem dX12_laysFarTo_112 : decode cX12_laysFarTo 112 = .ok (.iload 5, 2) := by decide +kernel
theorem dX12_laysFarTo_114 : decode cX12_laysFarTo 114 = .ok (.aload_n 0, 1) := by decide +kernel
theorem dX12_laysFarTo_115 : decode cX12_laysFarTo 115 = .ok (.getfield 51, 3) := by decide +kernel
theorem dX12_laysFarTo_118 : decode cX12_laysFarTo 118 = .ok (.iload_n 3, 1) := by decide +kernel
theorem dX12_laysFarTo_119 : decode cX12_laysFarTo 119 = .ok (.iaload, 1) := by decide +kernel
theorem dX12_laysFarTo_120 : decode cX12_laysFarTo 120 = .ok (.if_icmp .lt 6, 3) := by decide +kernel
theorem dX12_laysFarTo_123 : decode cX12_laysFarTo 123 = .ok (.goto 13, 3) := by decide +kernel
theorem dX12_laysFarTo_126 : decode cX12_laysFarTo 126 = .ok (.aload_n 0, 1) := by decide +kernel
theorem dX12_laysFarTo_127 : decode cX12_laysFarTo 127 = .ok (.getfield 51, 3) := by decide +kernel
theorem dX12_laysFarTo_130 : decode cX12_laysFarTo 130 = .ok (.iload_n 3, 1) := by decide +kernel
theorem dX12_laysFarTo_131 : decode cX12_laysFarTo 131 = .ok (.iload 5, 2) := by decide +kernel
theorem dX12_laysFarTo_133 : decode cX12_laysFarTo 133 = .ok (.iastore, 1) := by decide +kernel
theorem dX12_laysFarTo_134 : decode cX12_laysFarTo 134 = .ok (.iconst 1, 1) := by decide +kernel
theorem dX12_laysFarTo_135 : decode cX12_laysFarTo 135 = .ok (.istore_n 2, 1) := by decide +kernel
theorem dX12_laysFarTo_136 : decode cX12_laysFarTo 136 = .ok (.iinc 4 1, 3) := by decide +kernel
theorem dX12_laysFarTo_139 : decode cX12_laysFarTo 139 = .ok (.goto (-94), 3) := by decide +kernel
theorem dX12_laysFarTo_142 : decode cX12_laysFarTo 142 = .ok (.iinc 3 1, 3) := by decide +kernel
theorem dX12_laysFarTo_145 : decode cX12_laysFarTo 145 = .ok (.goto (-111), 3) := by decide +kernel
theorem dX12_laysFarTo_148 : decode cX12_laysFarTo 148 = .ok (.goto (-122), 3) := by decide +kernel
theorem dX12_laysFarTo_151 : decode cX12_laysFarTo 151 = .ok (.return_, 1) := by decide +kernel
abbrev k_X12_laysFarTo (E : g_E) (l : Launch) (D : g_D) (v1 : Int) (K : g_D → Prop) : Prop := g_Kv E l m_X12_laysFarTo 0 [g_R 208, g_I v1] g_SH D K
abbrev n_X12_laysFarTo (E : g_E) (l : Launch) (D : g_D) (pc : Nat) (L : List (Option g_V)) (K : g_D → Prop) : Prop := g_N E l m_X12_laysFarTo 0 pc L [] g_SH D (g_Rv g_SH K)
theorem s_X12_laysFarTo {E : g_E} {l : Launch} {D : g_D} {K : g_D → Prop} {v1 : Int}  (hF : g_okD D → g_r v1 → n_X12_laysFarTo E l D 2 [some (g_R 208), some (g_I v1), some (g_I 0), none, none, none] K) : k_X12_laysFarTo E l D v1 K := by
  refine g_enter (by decide) (Nat.le_of_ble_eq_true rfl) ?_
  show g_N E l m_X12_laysFarTo 0 0 [some (g_R 208), some (g_I v1), none, none, none, none] [] g_SH D (g_Rv g_SH K)
  refine g_use (fun ok => ?_)
  have hF := hF ok.2.1 (ok.loc (i := 1) rfl)
  refine g_iconst dX12_laysFarTo_0 ⟨by decide, by decide⟩ ?_
  refine gw_istore_n (L' := [some (g_R 208), some (g_I v1), some (g_I 0), none, none, none]) dX12_laysFarTo_1 (by decide) rfl ?_
  exact hF
theorem s_X12_laysFarTo_2 {E : g_E} {l : Launch} {D : g_D} {K : g_D → Prop} {v1 : Int} {v2 : Int}  (hF : g_okD D → g_r v1 → g_r v2 → ((D 208 14) ≤ v2 → n_X12_laysFarTo E l D 26 [some (g_R 208), some (g_I v1), some (g_I 1), none, none, none] K) ∧ (¬ (D 208 14) ≤ v2 → (0 ≤ v2 ∧ v2 < 40) ∧ (∀ D1, D1 = g_up D 221 v2.toNat 268435456 → ((g_r (v2 + 1)) ∧ (n_X12_laysFarTo E l D1 2 [some (g_R 208), some (g_I v1), some (g_I (v2 + 1)), none, none, none] K))))) : n_X12_laysFarTo E l D 2 [some (g_R 208), some (g_I v1), some (g_I v2), none, none, none] K := by
  refine g_use (fun ok => ?_)
  have hF := hF ok.2.1 (ok.loc (i := 1) rfl) (ok.loc (i := 2) rfl)
  refine g_iload_n dX12_laysFarTo_2 rfl ?_
  refine g_aload_n dX12_laysFarTo_3 rfl ?_
  refine g_getI dX12_laysFarTo_4 fd_X12_182 sh_208 rfl ?_
  refine g_cge dX12_laysFarTo_7 rfl (fun q => ?_) (fun q => ?_)
  · have hF := hF.1 q
    refine g_iconst dX12_laysFarTo_24 ⟨by decide, by decide⟩ ?_
    refine gw_istore_n (L' := [some (g_R 208), some (g_I v1), some (g_I 1), none, none, none]) dX12_laysFarTo_25 (by decide) rfl ?_
    exact hF
  · have hF := hF.2 q
    refine g_aload_n dX12_laysFarTo_10 rfl ?_
    refine g_getR dX12_laysFarTo_11 fd_X12_51 sh_208 rfl ?_
    refine g_iload_n dX12_laysFarTo_14 rfl ?_
    refine g_ldc dX12_laysFarTo_15 ⟨by decide, by decide⟩ kc_X12_178 ?_
    obtain ⟨hc, hF⟩ := hF
    let D1 : g_D := g_up D 221 v2.toNat 268435456
    have hF := hF D1 rfl
    refine g_iast dX12_laysFarTo_17 sh_221 hc.1 hc.2 ?_
    obtain ⟨hc, hF⟩ := hF
    refine gw_iinc (L' := [some (g_R 208), some (g_I v1), some (g_I (v2 + 1)), none, none, none]) dX12_laysFarTo_18 rfl hc (by decide) rfl ?_
    refine g_goto dX12_laysFarTo_21 rfl ?_
    exact hF
theorem s_X12_laysFarTo_26 {E : g_E} {l : Launch} {D : g_D} {K : g_D → Prop} {v1 : Int} {v2 : Int}  (hF : g_okD D → g_r v1 → g_r v2 → (v2 = 0 → K D) ∧ (¬ v2 = 0 → n_X12_laysFarTo E l D 34 [some (g_R 208), some (g_I v1), some (g_I 0), some (g_I 0), none, none] K)) : n_X12_laysFarTo E l D 26 [some (g_R 208), some (g_I v1), some (g_I v2), none, none, none] K := by
  refine g_use (fun ok => ?_)
  have hF := hF ok.2.1 (ok.loc (i := 1) rfl) (ok.loc (i := 2) rfl)
  refine g_iload_n dX12_laysFarTo_26 rfl ?_
  refine g_ifeq dX12_laysFarTo_27 rfl (fun q => ?_) (fun q => ?_)
  · have hF := hF.1 q
    exact gw_vret dX12_laysFarTo_151 rfl hF
  · have hF := hF.2 q
    refine g_iconst dX12_laysFarTo_30 ⟨by decide, by decide⟩ ?_
    refine gw_istore_n (L' := [some (g_R 208), some (g_I v1), some (g_I 0), none, none, none]) dX12_laysFarTo_31 (by decide) rfl ?_
    refine g_iconst dX12_laysFarTo_32 ⟨by decide, by decide⟩ ?_
    refine gw_istore_n (L' := [some (g_R 208), some (g_I v1), some (g_I 0), some (g_I 0), none, none]) dX12_laysFarTo_33 (by decide) rfl ?_
    exact hF
theorem s_X12_laysFarTo_34 {E : g_E} {l : Launch} {D : g_D} {K : g_D → Prop} {v1 : Int} {v2 : Int} {v3 : Int}  (hF : g_okD D → g_r v1 → g_r v2 → g_r v3 → ((D 208 14) ≤ v3 → n_X12_laysFarTo E l D 26 [some (g_R 208), some (g_I v1), some (g_I v2), none, none, none] K) ∧ (¬ (D 208 14) ≤ v3 → n_X12_laysFarTo E l D 45 [some (g_R 208), some (g_I v1), some (g_I v2), some (g_I v3), some (g_I 0), none] K)) : n_X12_laysFarTo E l D 34 [some (g_R 208), some (g_I v1), some (g_I v2), some (g_I v3), none, none] K := by
  refine g_use (fun ok => ?_)
  have hF := hF ok.2.1 (ok.loc (i := 1) rfl) (ok.loc (i := 2) rfl) (ok.loc (i := 3) rfl)
  refine g_iload_n dX12_laysFarTo_34 rfl ?_
  refine g_aload_n dX12_laysFarTo_35 rfl ?_
  refine g_getI dX12_laysFarTo_36 fd_X12_182 sh_208 rfl ?_
  refine g_cge dX12_laysFarTo_39 rfl (fun q => ?_) (fun q => ?_)
  · have hF := hF.1 q
    refine g_goto dX12_laysFarTo_148 rfl ?_
    exact g_forget (L' := [some (g_R 208), some (g_I v1), some (g_I v2), none, none, none]) ⟨rfl, ⟨rfl, ⟨rfl, trivial⟩⟩⟩ hF
  · have hF := hF.2 q
    refine g_iconst dX12_laysFarTo_42 ⟨by decide, by decide⟩ ?_
    refine gw_istore (L' := [some (g_R 208), some (g_I v1), some (g_I v2), some (g_I v3), some (g_I 0), none]) dX12_laysFarTo_43 (by decide) rfl ?_
    exact hF
theorem s_X12_laysFarTo_45 {E : g_E} {l : Launch} {D : g_D} {K : g_D → Prop} {v1 : Int} {v2 : Int} {v3 : Int} {v4 : Int}  (hF : g_okD D → g_r v1 → g_r v2 → g_r v3 → g_r v4 → ((D 208 14) ≤ v4 → (g_r (v3 + 1)) ∧ (n_X12_laysFarTo E l D 34 [some (g_R 208), some (g_I v1), some (g_I v2), some (g_I (v3 + 1)), none, none] K)) ∧ (¬ (D 208 14) ≤ v4 → (0 ≤ v3 ∧ v3 < 40) ∧ (((D 222 v3.toNat) = 0 → (g_r (v4 + 1)) ∧ (n_X12_laysFarTo E l D 45 [some (g_R 208), some (g_I v1), some (g_I v2), some (g_I v3), some (g_I (v4 + 1)), none] K)) ∧ (¬ (D 222 v3.toNat) = 0 → (0 ≤ v4 ∧ v4 < 40) ∧ (((D 222 v4.toNat) = 0 → (g_r (v4 + 1)) ∧ (n_X12_laysFarTo E l D 45 [some (g_R 208), some (g_I v1), some (g_I v2), some (g_I v3), some (g_I (v4 + 1)), none] K)) ∧ (¬ (D 222 v4.toNat) = 0 → (g_r (40 * v3)) ∧ ((g_r ((40 * v3) + v4)) ∧ ((0 ≤ ((40 * v3) + v4) ∧ ((40 * v3) + v4) < 1600) ∧ ((¬ (D 220 ((40 * v3) + v4).toNat) = 0 → (¬ v4 = v1 → (0 ≤ v4 ∧ v4 < 40) ∧ ((g_r ((D 221 v4.toNat) + 1)) ∧ ((0 ≤ v3 ∧ v3 < 40) ∧ ((((D 221 v4.toNat) + 1) < (D 221 v3.toNat) → (0 ≤ v3 ∧ v3 < 40) ∧ (∀ D1, D1 = g_up D 221 v3.toNat ((D 221 v4.toNat) + 1) → ((g_r (v4 + 1)) ∧ (n_X12_laysFarTo E l D1 45 [some (g_R 208), some (g_I v1), some (g_I 1), some (g_I v3), some (g_I (v4 + 1)), none] K)))) ∧ (¬ ((D 221 v4.toNat) + 1) < (D 221 v3.toNat) → (g_r (v4 + 1)) ∧ (n_X12_laysFarTo E l D 45 [some (g_R 208), some (g_I v1), some (g_I v2), some (g_I v3), some (g_I (v4 + 1)), none] K)))))) ∧ (v4 = v1 → (0 ≤ v3 ∧ v3 < 40) ∧ ((1 < (D 221 v3.toNat) → (0 ≤ v3 ∧ v3 < 40) ∧ (∀ D2, D2 = g_up D 221 v3.toNat 1 → ((g_r (v4 + 1)) ∧ (n_X12_laysFarTo E l D2 45 [some (g_R 208), some (g_I v1), some (g_I 1), some (g_I v3), some (g_I (v4 + 1)), none] K)))) ∧ (¬ 1 < (D 221 v3.toNat) → (g_r (v4 + 1)) ∧ (n_X12_laysFarTo E l D 45 [some (g_R 208), some (g_I v1), some (g_I v2), some (g_I v3), some (g_I (v4 + 1)), none] K))))) ∧ ((D 220 ((40 * v3) + v4).toNat) = 0 → (g_r (v4 + 1)) ∧ (n_X12_laysFarTo E l D 45 [some (g_R 208), some (g_I v1), some (g_I v2), some (g_I v3), some (g_I (v4 + 1)), none] K))))))))))) : n_X12_laysFarTo E l D 45 [some (g_R 208), some (g_I v1), some (g_I v2), some (g_I v3), some (g_I v4), none] K := by
  refine g_use (fun ok => ?_)
  have hF := hF ok.2.1 (ok.loc (i := 1) rfl) (ok.loc (i := 2) rfl) (ok.loc (i := 3) rfl) (ok.loc (i := 4) rfl)
  refine g_iload dX12_laysFarTo_45 rfl ?_
  refine g_aload_n dX12_laysFarTo_47 rfl ?_
  refine g_getI dX12_laysFarTo_48 fd_X12_182 sh_208 rfl ?_
  refine g_cge dX12_laysFarTo_51 rfl (fun q => ?_) (fun q => ?_)
  · have hF := hF.1 q
    obtain ⟨hc, hF⟩ := hF
    refine gw_iinc (L' := [some (g_R 208), some (g_I v1), some (g_I v2), some (g_I (v3 + 1)), some (g_I v4), none]) dX12_laysFarTo_142 rfl hc (by decide) rfl ?_
    refine g_goto dX12_laysFarTo_145 rfl ?_
    exact g_forget (L' := [some (g_R 208), some (g_I v1), some (g_I v2), some (g_I (v3 + 1)), none, none]) ⟨rfl, ⟨rfl, ⟨rfl, ⟨rfl, trivial⟩⟩⟩⟩ hF
  · have hF := hF.2 q
    refine g_aload_n dX12_laysFarTo_54 rfl ?_
    refine g_getR dX12_laysFarTo_55 fd_X12_54 sh_208 rfl ?_
    refine g_iload_n dX12_laysFarTo_58 rfl ?_
    obtain ⟨hc, hF⟩ := hF
    refine g_bald dX12_laysFarTo_59 sh_222 hc.1 hc.2 ?_
    refine g_ifeq dX12_laysFarTo_60 rfl (fun q => ?_) (fun q => ?_)
    · have hF := hF.1 q
      obtain ⟨hc, hF⟩ := hF
      refine gw_iinc (L' := [some (g_R 208), some (g_I v1), some (g_I v2), some (g_I v3), some (g_I (v4 + 1)), none]) dX12_laysFarTo_136 rfl hc (by decide) rfl ?_
      refine g_goto dX12_laysFarTo_139 rfl ?_
      exact hF
    · have hF := hF.2 q
      refine g_aload_n dX12_laysFarTo_63 rfl ?_
      refine g_getR dX12_laysFarTo_64 fd_X12_54 sh_208 rfl ?_
      refine g_iload dX12_laysFarTo_67 rfl ?_
      obtain ⟨hc, hF⟩ := hF
      refine g_bald dX12_laysFarTo_69 sh_222 hc.1 hc.2 ?_
      refine g_ifeq dX12_laysFarTo_70 rfl (fun q => ?_) (fun q => ?_)
      · have hF := hF.1 q
        obtain ⟨hc, hF⟩ := hF
        refine gw_iinc (L' := [some (g_R 208), some (g_I v1), some (g_I v2), some (g_I v3), some (g_I (v4 + 1)), none]) dX12_laysFarTo_136 rfl hc (by decide) rfl ?_
        refine g_goto dX12_laysFarTo_139 rfl ?_
        exact hF
      · have hF := hF.2 q
        refine g_aload_n dX12_laysFarTo_73 rfl ?_
        refine g_getR dX12_laysFarTo_74 fd_X12_48 sh_208 rfl ?_
        refine g_bipush dX12_laysFarTo_77 ⟨by decide, by decide⟩ ?_
        refine g_iload_n dX12_laysFarTo_79 rfl ?_
        obtain ⟨hc, hF⟩ := hF
        refine g_imul dX12_laysFarTo_80 hc ?_
        refine g_iload dX12_laysFarTo_81 rfl ?_
        obtain ⟨hc, hF⟩ := hF
        refine g_iadd dX12_laysFarTo_83 hc ?_
        obtain ⟨hc, hF⟩ := hF
        refine g_bald dX12_laysFarTo_84 sh_220 hc.1 hc.2 ?_
        refine g_ifne dX12_laysFarTo_85 rfl (fun q => ?_) (fun q => ?_)
        · have hF := hF.1 q
          refine g_iload dX12_laysFarTo_91 rfl ?_
          refine g_iload_n dX12_laysFarTo_93 rfl ?_
          refine g_cne dX12_laysFarTo_94 rfl (fun q => ?_) (fun q => ?_)
          · have hF := hF.1 q
            refine g_aload_n dX12_laysFarTo_101 rfl ?_
            refine g_getR dX12_laysFarTo_102 fd_X12_51 sh_208 rfl ?_
            refine g_iload dX12_laysFarTo_105 rfl ?_
            obtain ⟨hc, hF⟩ := hF
            refine g_iald dX12_laysFarTo_107 sh_221 hc.1 hc.2 ?_
            refine g_iconst dX12_laysFarTo_108 ⟨by decide, by decide⟩ ?_
            obtain ⟨hc, hF⟩ := hF
            refine g_iadd dX12_laysFarTo_109 hc ?_
            refine gw_istore (L' := [some (g_R 208), some (g_I v1), some (g_I v2), some (g_I v3), some (g_I v4), some (g_I ((D 221 v4.toNat) + 1))]) dX12_laysFarTo_110 (by decide) rfl ?_
            refine g_iload dX12_laysFarTo_112 rfl ?_
            refine g_aload_n dX12_laysFarTo_114 rfl ?_
            refine g_getR dX12_laysFarTo_115 fd_X12_51 sh_208 rfl ?_
            refine g_iload_n dX12_laysFarTo_118 rfl ?_
            obtain ⟨hc, hF⟩ := hF
            refine g_iald dX12_laysFarTo_119 sh_221 hc.1 hc.2 ?_
            refine g_clt dX12_laysFarTo_120 rfl (fun q => ?_) (fun q => ?_)
            · have hF := hF.1 q
              refine g_aload_n dX12_laysFarTo_126 rfl ?_
              refine g_getR dX12_laysFarTo_127 fd_X12_51 sh_208 rfl ?_
              refine g_iload_n dX12_laysFarTo_130 rfl ?_
              refine g_iload dX12_laysFarTo_131 rfl ?_
              obtain ⟨hc, hF⟩ := hF
              let D1 : g_D := g_up D 221 v3.toNat ((D 221 v4.toNat) + 1)
              have hF := hF D1 rfl
              refine g_iast dX12_laysFarTo_133 sh_221 hc.1 hc.2 ?_
              refine g_iconst dX12_laysFarTo_134 ⟨by decide, by decide⟩ ?_
              refine gw_istore_n (L' := [some (g_R 208), some (g_I v1), some (g_I 1), some (g_I v3), some (g_I v4), some (g_I ((D 221 v4.toNat) + 1))]) dX12_laysFarTo_135 (by decide) rfl ?_
              obtain ⟨hc, hF⟩ := hF
              refine gw_iinc (L' := [some (g_R 208), some (g_I v1), some (g_I 1), some (g_I v3), some (g_I (v4 + 1)), some (g_I ((D 221 v4.toNat) + 1))]) dX12_laysFarTo_136 rfl hc (by decide) rfl ?_
              refine g_goto dX12_laysFarTo_139 rfl ?_
              exact g_forget (L' := [some (g_R 208), some (g_I v1), some (g_I 1), some (g_I v3), some (g_I (v4 + 1)), none]) ⟨rfl, ⟨rfl, ⟨rfl, ⟨rfl, ⟨rfl, trivial⟩⟩⟩⟩⟩ hF
            · have hF := hF.2 q
              refine g_goto dX12_laysFarTo_123 rfl ?_
              obtain ⟨hc, hF⟩ := hF
              refine gw_iinc (L' := [some (g_R 208), some (g_I v1), some (g_I v2), some (g_I v3), some (g_I (v4 + 1)), some (g_I ((D 221 v4.toNat) + 1))]) dX12_laysFarTo_136 rfl hc (by decide) rfl ?_
              refine g_goto dX12_laysFarTo_139 rfl ?_
              exact g_forget (L' := [some (g_R 208), some (g_I v1), some (g_I v2), some (g_I v3), some (g_I (v4 + 1)), none]) ⟨rfl, ⟨rfl, ⟨rfl, ⟨rfl, ⟨rfl, trivial⟩⟩⟩⟩⟩ hF
          · have hF := hF.2 q
            refine g_iconst dX12_laysFarTo_97 ⟨by decide, by decide⟩ ?_
            refine g_goto dX12_laysFarTo_98 rfl ?_
            refine gw_istore (L' := [some (g_R 208), some (g_I v1), some (g_I v2), some (g_I v3), some (g_I v4), some (g_I 1)]) dX12_laysFarTo_110 (by decide) rfl ?_
            refine g_iload dX12_laysFarTo_112 rfl ?_
            refine g_aload_n dX12_laysFarTo_114 rfl ?_
            refine g_getR dX12_laysFarTo_115 fd_X12_51 sh_208 rfl ?_
            refine g_iload_n dX12_laysFarTo_118 rfl ?_
            obtain ⟨hc, hF⟩ := hF
            refine g_iald dX12_laysFarTo_119 sh_221 hc.1 hc.2 ?_
            refine g_clt dX12_laysFarTo_120 rfl (fun q => ?_) (fun q => ?_)
            · have hF := hF.1 q
              refine g_aload_n dX12_laysFarTo_126 rfl ?_
              refine g_getR dX12_laysFarTo_127 fd_X12_51 sh_208 rfl ?_
              refine g_iload_n dX12_laysFarTo_130 rfl ?_
              refine g_iload dX12_laysFarTo_131 rfl ?_
              obtain ⟨hc, hF⟩ := hF
              let D2 : g_D := g_up D 221 v3.toNat 1
              have hF := hF D2 rfl
              refine g_iast dX12_laysFarTo_133 sh_221 hc.1 hc.2 ?_
              refine g_iconst dX12_laysFarTo_134 ⟨by decide, by decide⟩ ?_
              refine gw_istore_n (L' := [some (g_R 208), some (g_I v1), some (g_I 1), some (g_I v3), some (g_I v4), some (g_I 1)]) dX12_laysFarTo_135 (by decide) rfl ?_
              obtain ⟨hc, hF⟩ := hF
              refine gw_iinc (L' := [some (g_R 208), some (g_I v1), some (g_I 1), some (g_I v3), some (g_I (v4 + 1)), some (g_I 1)]) dX12_laysFarTo_136 rfl hc (by decide) rfl ?_
              refine g_goto dX12_laysFarTo_139 rfl ?_
              exact g_forget (L' := [some (g_R 208), some (g_I v1), some (g_I 1), some (g_I v3), some (g_I (v4 + 1)), none]) ⟨rfl, ⟨rfl, ⟨rfl, ⟨rfl, ⟨rfl, trivial⟩⟩⟩⟩⟩ hF
            · have hF := hF.2 q
              refine g_goto dX12_laysFarTo_123 rfl ?_
              obtain ⟨hc, hF⟩ := hF
              refine gw_iinc (L' := [some (g_R 208), some (g_I v1), some (g_I v2), some (g_I v3), some (g_I (v4 + 1)), some (g_I 1)]) dX12_laysFarTo_136 rfl hc (by decide) rfl ?_
              refine g_goto dX12_laysFarTo_139 rfl ?_
              exact g_forget (L' := [some (g_R 208), some (g_I v1), some (g_I v2), some (g_I v3), some (g_I (v4 + 1)), none]) ⟨rfl, ⟨rfl, ⟨rfl, ⟨rfl, ⟨rfl, trivial⟩⟩⟩⟩⟩ hF
        · have hF := hF.2 q
          refine g_goto dX12_laysFarTo_88 rfl ?_
          obtain ⟨hc, hF⟩ := hF
          refine gw_iinc (L' := [some (g_R 208), some (g_I v1), some (g_I v2), some (g_I v3), some (g_I (v4 + 1)), none]) dX12_laysFarTo_136 rfl hc (by decide) rfl ?_
          refine g_goto dX12_laysFarTo_139 rfl ?_
          exact hF
theorem dX12_isRinged_0 : decode cX12_isRinged 0 = .ok (.aload_n 0, 1) := by decide +kernel
theorem dX12_isRinged_1 : decode cX12_isRinged 1 = .ok (.iload_n 1, 1) := by decide +kernel
theorem dX12_isRinged_2 : decode cX12_isRinged 2 = .ok (.invokevirtual 205, 3) := by decide +kernel
theorem dX12_isRinged_5 : decode cX12_isRinged 5 = .ok (.aload_n 0, 1) := by decide +kernel
theorem dX12_isRinged_6 : decode cX12_isRinged 6 = .ok (.getfield 54, 3) := by decide +kernel
theorem dX12_isRinged_9 : decode cX12_isRinged 9 = .ok (.iload_n 1, 1) := by decide +kernel
theorem dX12_isRinged_10 : decode cX12_isRinged 10 = .ok (.baload, 1) := by decide +kernel
theorem dX12_isRinged_11 : decode cX12_isRinged 11 = .ok (.ifCond .eq 18, 3) := by decide +kernel
theorem dX12_isRinged_14 : decode cX12_isRinged 14 = .ok (.aload_n 0, 1) := by decide +kernel
theorem dX12_isRinged_15 : decode cX12_isRinged 15 = .ok (.getfield 51, 3) := by decide +kernel
theorem dX12_isRinged_18 : decode cX12_isRinged 18 = .ok (.iload_n 1, 1) := by decide +kernel
theorem dX12_isRinged_19 : decode cX12_isRinged 19 = .ok (.iaload, 1) := by decide +kernel
theorem dX12_isRinged_20 : decode cX12_isRinged 20 = .ok (.ldc 178, 2) := by decide +kernel
theorem dX12_isRinged_22 : decode cX12_isRinged 22 = .ok (.if_icmp .ge 7, 3) := by decide +kernel
theorem dX12_isRinged_25 : decode cX12_isRinged 25 = .ok (.iconst 1, 1) := by decide +kernel
theorem dX12_isRinged_26 : decode cX12_isRinged 26 = .ok (.goto 4, 3) := by decide +kernel
theorem dX12_isRinged_29 : decode cX12_isRinged 29 = .ok (.iconst 0, 1) := by decide +kernel
theorem dX12_isRinged_30 : decode cX12_isRinged 30 = .ok (.ireturn, 1) := by decide +kernel
abbrev k_X12_isRinged (E : g_E) (l : Launch) (D : g_D) (v1 : Int) (K : Int → g_D → Prop) : Prop := g_Ki E l m_X12_isRinged 1 [g_R 208, g_I v1] g_SH D K
abbrev n_X12_isRinged (E : g_E) (l : Launch) (D : g_D) (pc : Nat) (L : List (Option g_V)) (K : Int → g_D → Prop) : Prop := g_N E l m_X12_isRinged 1 pc L [] g_SH D (g_Ri g_SH K)
theorem s_X12_isRinged {E : g_E} {l : Launch} {D : g_D} {K : Int → g_D → Prop} {v1 : Int}  (hF : g_okD D → g_r v1 → k_X12_laysFarTo E l D v1 (fun D1 => (0 ≤ v1 ∧ v1 < 40) ∧ (((D1 222 v1.toNat) = 0 → K 0 D1) ∧ (¬ (D1 222 v1.toNat) = 0 → (0 ≤ v1 ∧ v1 < 40) ∧ ((268435456 ≤ (D1 221 v1.toNat) → K 0 D1) ∧ (¬ 268435456 ≤ (D1 221 v1.toNat) → K 1 D1)))))) : k_X12_isRinged E l D v1 K := by
  refine g_enter (by decide) (Nat.le_of_ble_eq_true rfl) ?_
  show g_N E l m_X12_isRinged 1 0 [some (g_R 208), some (g_I v1)] [] g_SH D (g_Ri g_SH K)
  refine g_use (fun ok => ?_)
  have hF := hF ok.2.1 (ok.loc (i := 1) rfl)
  refine g_aload_n dX12_isRinged_0 rfl ?_
  refine g_iload_n dX12_isRinged_1 rfl ?_
  refine gw_cVv (b := 208) (As := [g_I v1]) (rest := []) dX12_isRinged_2 mv_X12_205 sh_208 rfl (Nat.le_of_ble_eq_true rfl) (by decide) rfl hF ?_
  intro D1 hF
  refine g_aload_n dX12_isRinged_5 rfl ?_
  refine g_getR dX12_isRinged_6 fd_X12_54 sh_208 rfl ?_
  refine g_iload_n dX12_isRinged_9 rfl ?_
  obtain ⟨hc, hF⟩ := hF
  refine g_bald dX12_isRinged_10 sh_222 hc.1 hc.2 ?_
  refine g_ifeq dX12_isRinged_11 rfl (fun q => ?_) (fun q => ?_)
  · have hF := hF.1 q
    refine g_iconst dX12_isRinged_29 ⟨by decide, by decide⟩ ?_
    exact gw_zret dX12_isRinged_30 rfl (by decide) hF
  · have hF := hF.2 q
    refine g_aload_n dX12_isRinged_14 rfl ?_
    refine g_getR dX12_isRinged_15 fd_X12_51 sh_208 rfl ?_
    refine g_iload_n dX12_isRinged_18 rfl ?_
    obtain ⟨hc, hF⟩ := hF
    refine g_iald dX12_isRinged_19 sh_221 hc.1 hc.2 ?_
    refine g_ldc dX12_isRinged_20 ⟨by decide, by decide⟩ kc_X12_178 ?_
    refine g_cge dX12_isRinged_22 rfl (fun q => ?_) (fun q => ?_)
    · have hF := hF.1 q
      refine g_iconst dX12_isRinged_29 ⟨by decide, by decide⟩ ?_
      exact gw_zret dX12_isRinged_30 rfl (by decide) hF
    · have hF := hF.2 q
      refine g_iconst dX12_isRinged_25 ⟨by decide, by decide⟩ ?_
      refine g_goto dX12_isRinged_26 rfl ?_
      exact gw_zret dX12_isRinged_30 rfl (by decide) hF
theorem dX12_roomFor_0 : decode cX12_roomFor 0 = .ok (.iconst 0, 1) := by decide +kernel
theorem dX12_roomFor_1 : decode cX12_roomFor 1 = .ok (.istore_n 2, 1) := by decide +kernel
theorem dX12_roomFor_2 : decode cX12_roomFor 2 = .ok (.iload_n 2, 1) := by decide +kernel
theorem dX12_roomFor_3 : decode cX12_roomFor 3 = .ok (.iload_n 1, 1) := by decide +kernel
theorem dX12_roomFor_4 : decode cX12_roomFor 4 = .ok (.iadd, 1) := by decide +kernel
theorem dX12_roomFor_5 : decode cX12_roomFor 5 = .ok (.aload_n 0, 1) := by decide +kernel
theorem dX12_roomFor_6 : decode cX12_roomFor 6 = .ok (.getfield 13, 3) := by decide +kernel
theorem dX12_roomFor_9 : decode cX12_roomFor 9 = .ok (.iconst 5, 1) := by decide +kernel
theorem dX12_roomFor_10 : decode cX12_roomFor 10 = .ok (.iaload, 1) := by decide +kernel
theorem dX12_roomFor_11 : decode cX12_roomFor 11 = .ok (.if_icmp .gt 52, 3) := by decide +kernel
theorem dX12_roomFor_14 : decode cX12_roomFor 14 = .ok (.iconst 1, 1) := by decide +kernel
theorem dX12_roomFor_15 : decode cX12_roomFor 15 = .ok (.istore_n 3, 1) := by decide +kernel
theorem dX12_roomFor_16 : decode cX12_roomFor 16 = .ok (.iconst 0, 1) := by decide +kernel
theorem dX12_roomFor_17 : decode cX12_roomFor 17 = .ok (.istore 4, 2) := by decide +kernel
theorem dX12_roomFor_19 : decode cX12_roomFor 19 = .ok (.iload 4, 2) := by decide +kernel
theorem dX12_roomFor_21 : decode cX12_roomFor 21 = .ok (.iload_n 1, 1) := by decide +kernel
theorem dX12_roomFor_22 : decode cX12_roomFor 22 = .ok (.if_icmp .ge 29, 3) := by decide +kernel
theorem dX12_roomFor_25 : decode cX12_roomFor 25 = .ok (.iload_n 3, 1) := by decide +kernel
theorem dX12_roomFor_26 : decode cX12_roomFor 26 = .ok (.aload_n 0, 1) := by decide +kernel
theorem dX12_roomFor_27 : decode cX12_roomFor 27 = .ok (.getfield 69, 3) := by decide +kernel
theorem dX12_roomFor_30 : decode cX12_roomFor 30 = .ok (.iload_n 2, 1) := by decide +kernel
theorem dX12_roomFor_31 : decode cX12_roomFor 31 = .ok (.iload 4, 2) := by decide +kernel
theorem dX12_roomFor_33 : decode cX12_roomFor 33 = .ok (.iadd, 1) := by decide +kernel
theorem dX12_roomFor_34 : decode cX12_roomFor 34 = .ok (.baload, 1) := by decide +kernel
theorem dX12_roomFor_35 : decode cX12_roomFor 35 = .ok (.ifCond .ne 7, 3) := by decide +kernel
theorem dX12_roomFor_38 : decode cX12_roomFor 38 = .ok (.iconst 1, 1) := by decide +kernel
theorem dX12_roomFor_39 : decode cX12_roomFor 39 = .ok (.goto 4, 3) := by decide +kernel
theorem dX12_roomFor_42 : decode cX12_roomFor 42 = .ok (.iconst 0, 1) := by decide +kernel
theorem dX12_roomFor_43 : decode cX12_roomFor 43 = .ok (.iand, 1) := by decide +kernel
theorem dX12_roomFor_44 : decode cX12_roomFor 44 = .ok (.istore_n 3, 1) := by decide +kernel
theorem dX12_roomFor_45 : decode cX12_roomFor 45 = .ok (.iinc 4 1, 3) := by decide +kernel
theorem dX12_roomFor_48 : decode cX12_roomFor 48 = .ok (.goto (-29), 3) := by decide +kernel
theorem dX12_roomFor_51 : decode cX12_roomFor 51 = .ok (.iload_n 3, 1) := by decide +kernel
theorem dX12_roomFor_52 : decode cX12_roomFor 52 = .ok (.ifCond .eq 5, 3) := by decide +kernel
theorem dX12_roomFor_55 : decode cX12_roomFor 55 = .ok (.iload_n 2, 1) := by decide +kernel
theorem dX12_roomFor_56 : decode cX12_roomFor 56 = .ok (.ireturn, 1) := by decide +kernel
theorem dX12_roomFor_57 : decode cX12_roomFor 57 = .ok (.iinc 2 1, 3) := by decide +kernel
theorem dX12_roomFor_60 : decode cX12_roomFor 60 = .ok (.goto (-58), 3) := by decide +kernel
theorem dX12_roomFor_63 : decode cX12_roomFor 63 = .ok (.iconst (-1), 1) := by decide +kernel
theorem dX12_roomFor_64 : decode cX12_roomFor 64 = .ok (.ireturn, 1) := by decide +kernel
abbrev k_X12_roomFor (E : g_E) (l : Launch) (D : g_D) (v1 : Int) (K : Int → g_D → Prop) : Prop := g_Ki E l m_X12_roomFor 0 [g_R 208, g_I v1] g_SH D K
abbrev n_X12_roomFor (E : g_E) (l : Launch) (D : g_D) (pc : Nat) (L : List (Option g_V)) (K : Int → g_D → Prop) : Prop := g_N E l m_X12_roomFor 0 pc L [] g_SH D (g_Ri g_SH K)
theorem s_X12_roomFor {E : g_E} {l : Launch} {D : g_D} {K : Int → g_D → Prop} {v1 : Int}  (hF : g_okD D → g_r v1 → n_X12_roomFor E l D 2 [some (g_R 208), some (g_I v1), some (g_I 0), none, none] K) : k_X12_roomFor E l D v1 K := by
  refine g_enter (by decide) (Nat.le_of_ble_eq_true rfl) ?_
  show g_N E l m_X12_roomFor 0 0 [some (g_R 208), some (g_I v1), none, none, none] [] g_SH D (g_Ri g_SH K)
  refine g_use (fun ok => ?_)
  have hF := hF ok.2.1 (ok.loc (i := 1) rfl)
  refine g_iconst dX12_roomFor_0 ⟨by decide, by decide⟩ ?_
  refine gw_istore_n (L' := [some (g_R 208), some (g_I v1), some (g_I 0), none, none]) dX12_roomFor_1 (by decide) rfl ?_
  exact hF
theorem s_X12_roomFor_2 {E : g_E} {l : Launch} {D : g_D} {K : Int → g_D → Prop} {v1 : Int} {v2 : Int}  (hF : g_okD D → g_r v1 → g_r v2 → (g_r (v2 + v1)) ∧ (((D 209 5) < (v2 + v1) → K (-1) D) ∧ (¬ (D 209 5) < (v2 + v1) → n_X12_roomFor E l D 19 [some (g_R 208), some (g_I v1), some (g_I v2), some (g_I 1), some (g_I 0)] K))) : n_X12_roomFor E l D 2 [some (g_R 208), some (g_I v1), some (g_I v2), none, none] K := by
  refine g_use (fun ok => ?_)
  have hF := hF ok.2.1 (ok.loc (i := 1) rfl) (ok.loc (i := 2) rfl)
  refine g_iload_n dX12_roomFor_2 rfl ?_
  refine g_iload_n dX12_roomFor_3 rfl ?_
  obtain ⟨hc, hF⟩ := hF
  refine g_iadd dX12_roomFor_4 hc ?_
  refine g_aload_n dX12_roomFor_5 rfl ?_
  refine g_getR dX12_roomFor_6 fd_X12_13 sh_208 rfl ?_
  refine g_iconst dX12_roomFor_9 ⟨by decide, by decide⟩ ?_
  refine g_iald dX12_roomFor_10 sh_209 (by decide) (by decide) ?_
  refine g_cgt dX12_roomFor_11 rfl (fun q => ?_) (fun q => ?_)
  · have hF := hF.1 q
    refine g_iconst dX12_roomFor_63 ⟨by decide, by decide⟩ ?_
    exact gw_iret dX12_roomFor_64 rfl hF
  · have hF := hF.2 q
    refine g_iconst dX12_roomFor_14 ⟨by decide, by decide⟩ ?_
    refine gw_istore_n (L' := [some (g_R 208), some (g_I v1), some (g_I v2), some (g_I 1), none]) dX12_roomFor_15 (by decide) rfl ?_
    refine g_iconst dX12_roomFor_16 ⟨by decide, by decide⟩ ?_
    refine gw_istore (L' := [some (g_R 208), some (g_I v1), some (g_I v2), some (g_I 1), some (g_I 0)]) dX12_roomFor_17 (by decide) rfl ?_
    exact hF
theorem s_X12_roomFor_19 {E : g_E} {l : Launch} {D : g_D} {K : Int → g_D → Prop} {v1 : Int} {v2 : Int} {v3 : Int} {v4 : Int}  (hF : g_okD D → g_r v1 → g_r v2 → g_r v3 → g_r v4 → (v1 ≤ v4 → (v3 = 0 → (g_r (v2 + 1)) ∧ (n_X12_roomFor E l D 2 [some (g_R 208), some (g_I v1), some (g_I (v2 + 1)), none, none] K)) ∧ (¬ v3 = 0 → K v2 D)) ∧ (¬ v1 ≤ v4 → (g_r (v2 + v4)) ∧ ((0 ≤ (v2 + v4) ∧ (v2 + v4) < 20) ∧ ((¬ (D 227 (v2 + v4).toNat) = 0 → (g_r (v4 + 1)) ∧ (n_X12_roomFor E l D 19 [some (g_R 208), some (g_I v1), some (g_I v2), some (g_I (g_and v3 0)), some (g_I (v4 + 1))] K)) ∧ ((D 227 (v2 + v4).toNat) = 0 → (g_r (v4 + 1)) ∧ (n_X12_roomFor E l D 19 [some (g_R 208), some (g_I v1), some (g_I v2), some (g_I (g_and v3 1)), some (g_I (v4 + 1))] K)))))) : n_X12_roomFor E l D 19 [some (g_R 208), some (g_I v1), some (g_I v2), some (g_I v3), some (g_I v4)] K := by
  refine g_use (fun ok => ?_)
  have hF := hF ok.2.1 (ok.loc (i := 1) rfl) (ok.loc (i := 2) rfl) (ok.loc (i := 3) rfl) (ok.loc (i := 4) rfl)
  refine g_iload dX12_roomFor_19 rfl ?_
  refine g_iload_n dX12_roomFor_21 rfl ?_
  refine g_cge dX12_roomFor_22 rfl (fun q => ?_) (fun q => ?_)
  · have hF := hF.1 q
    refine g_iload_n dX12_roomFor_51 rfl ?_
    refine g_ifeq dX12_roomFor_52 rfl (fun q => ?_) (fun q => ?_)
    · have hF := hF.1 q
      obtain ⟨hc, hF⟩ := hF
      refine gw_iinc (L' := [some (g_R 208), some (g_I v1), some (g_I (v2 + 1)), some (g_I v3), some (g_I v4)]) dX12_roomFor_57 rfl hc (by decide) rfl ?_
      refine g_goto dX12_roomFor_60 rfl ?_
      exact g_forget (L' := [some (g_R 208), some (g_I v1), some (g_I (v2 + 1)), none, none]) ⟨rfl, ⟨rfl, ⟨rfl, trivial⟩⟩⟩ hF
    · have hF := hF.2 q
      refine g_iload_n dX12_roomFor_55 rfl ?_
      exact gw_iret dX12_roomFor_56 rfl hF
  · have hF := hF.2 q
    refine g_iload_n dX12_roomFor_25 rfl ?_
    refine g_aload_n dX12_roomFor_26 rfl ?_
    refine g_getR dX12_roomFor_27 fd_X12_69 sh_208 rfl ?_
    refine g_iload_n dX12_roomFor_30 rfl ?_
    refine g_iload dX12_roomFor_31 rfl ?_
    obtain ⟨hc, hF⟩ := hF
    refine g_iadd dX12_roomFor_33 hc ?_
    obtain ⟨hc, hF⟩ := hF
    refine g_bald dX12_roomFor_34 sh_227 hc.1 hc.2 ?_
    refine g_ifne dX12_roomFor_35 rfl (fun q => ?_) (fun q => ?_)
    · have hF := hF.1 q
      refine g_iconst dX12_roomFor_42 ⟨by decide, by decide⟩ ?_
      refine g_iand dX12_roomFor_43 ?_
      refine gw_istore_n (L' := [some (g_R 208), some (g_I v1), some (g_I v2), some (g_I (g_and v3 0)), some (g_I v4)]) dX12_roomFor_44 (by decide) rfl ?_
      obtain ⟨hc, hF⟩ := hF
      refine gw_iinc (L' := [some (g_R 208), some (g_I v1), some (g_I v2), some (g_I (g_and v3 0)), some (g_I (v4 + 1))]) dX12_roomFor_45 rfl hc (by decide) rfl ?_
      refine g_goto dX12_roomFor_48 rfl ?_
      exact hF
    · have hF := hF.2 q
      refine g_iconst dX12_roomFor_38 ⟨by decide, by decide⟩ ?_
      refine g_goto dX12_roomFor_39 rfl ?_
      refine g_iand dX12_roomFor_43 ?_
      refine gw_istore_n (L' := [some (g_R 208), some (g_I v1), some (g_I v2), some (g_I (g_and v3 1)), some (g_I v4)]) dX12_roomFor_44 (by decide) rfl ?_
      obtain ⟨hc, hF⟩ := hF
      refine gw_iinc (L' := [some (g_R 208), some (g_I v1), some (g_I v2), some (g_I (g_and v3 1)), some (g_I (v4 + 1))]) dX12_roomFor_45 rfl hc (by decide) rfl ?_
      refine g_goto dX12_roomFor_48 rfl ?_
      exact hF
theorem dX12_waitingFor_0 : decode cX12_waitingFor 0 = .ok (.iconst 0, 1) := by decide +kernel
theorem dX12_waitingFor_1 : decode cX12_waitingFor 1 = .ok (.istore_n 2, 1) := by decide +kernel
theorem dX12_waitingFor_2 : decode cX12_waitingFor 2 = .ok (.iconst 0, 1) := by decide +kernel
theorem dX12_waitingFor_3 : decode cX12_waitingFor 3 = .ok (.istore_n 3, 1) := by decide +kernel
theorem dX12_waitingFor_4 : decode cX12_waitingFor 4 = .ok (.iload_n 3, 1) := by decide +kernel
theorem dX12_waitingFor_5 : decode cX12_waitingFor 5 = .ok (.aload_n 0, 1) := by decide +kernel
theorem dX12_waitingFor_6 : decode cX12_waitingFor 6 = .ok (.getfield 182, 3) := by decide +kernel
theorem dX12_waitingFor_9 : decode cX12_waitingFor 9 = .ok (.if_icmp .ge 40, 3) := by decide +kernel
theorem dX12_waitingFor_12 : decode cX12_waitingFor 12 = .ok (.iload_n 2, 1) := by decide +kernel
theorem dX12_waitingFor_13 : decode cX12_waitingFor 13 = .ok (.aload_n 0, 1) := by decide +kernel
theorem dX12_waitingFor_14 : decode cX12_waitingFor 14 = .ok (.getfield 48, 3) := by decide +kernel
theorem dX12_waitingFor_17 : decode cX12_waitingFor 17 = .ok (.bipush 40, 2) := by decide +kernel
theorem dX12_waitingFor_19 : decode cX12_waitingFor 19 = .ok (.iload_n 1, 1) := by decide +kernel
theorem dX12_waitingFor_20 : decode cX12_waitingFor 20 = .ok (.imul, 1) := by decide +kernel
theorem dX12_waitingFor_21 : decode cX12_waitingFor 21 = .ok (.iload_n 3, 1) := by decide +kernel
theorem dX12_waitingFor_22 : decode cX12_waitingFor 22 = .ok (.iadd, 1) := by decide +kernel
theorem dX12_waitingFor_23 : decode cX12_waitingFor 23 = .ok (.baload, 1) := by decide +kernel
theorem dX12_waitingFor_24 : decode cX12_waitingFor 24 = .ok (.ifCond .eq 16, 3) := by decide +kernel
theorem dX12_waitingFor_27 : decode cX12_waitingFor 27 = .ok (.aload_n 0, 1) := by decide +kernel
theorem dX12_waitingFor_28 : decode cX12_waitingFor 28 = .ok (.getfield 60, 3) := by decide +kernel
theorem dX12_waitingFor_31 : decode cX12_waitingFor 31 = .ok (.iload_n 3, 1) := by decide +kernel
theorem dX12_waitingFor_32 : decode cX12_waitingFor 32 = .ok (.baload, 1) := by decide +kernel
theorem dX12_waitingFor_33 : decode cX12_waitingFor 33 = .ok (.ifCond .ne 7, 3) := by decide +kernel
theorem dX12_waitingFor_36 : decode cX12_waitingFor 36 = .ok (.iconst 1, 1) := by decide +kernel
theorem dX12_waitingFor_37 : decode cX12_waitingFor 37 = .ok (.goto 4, 3) := by decide +kernel
theorem dX12_waitingFor_40 : decode cX12_waitingFor 40 = .ok (.iconst 0, 1) := by decide +kernel
theorem dX12_waitingFor_41 : decode cX12_waitingFor 41 = .ok (.iadd, 1) := by decide +kernel
theorem dX12_waitingFor_42 : decode cX12_waitingFor 42 = .ok (.istore_n 2, 1) := by decide +kernel
theorem dX12_waitingFor_43 : decode cX12_waitingFor 43 = .ok (.iinc 3 1, 3) := by decide +kernel
theorem dX12_waitingFor_46 : decode cX12_waitingFor 46 = .ok (.goto (-42), 3) := by decide +kernel
theorem dX12_waitingFor_49 : decode cX12_waitingFor 49 = .ok (.iload_n 2, 1) := by decide +kernel
theorem dX12_waitingFor_50 : decode cX12_waitingFor 50 = .ok (.ireturn, 1) := by decide +kernel
abbrev k_X12_waitingFor (E : g_E) (l : Launch) (D : g_D) (v1 : Int) (K : Int → g_D → Prop) : Prop := g_Ki E l m_X12_waitingFor 0 [g_R 208, g_I v1] g_SH D K
abbrev n_X12_waitingFor (E : g_E) (l : Launch) (D : g_D) (pc : Nat) (L : List (Option g_V)) (K : Int → g_D → Prop) : Prop := g_N E l m_X12_waitingFor 0 pc L [] g_SH D (g_Ri g_SH K)
theorem s_X12_waitingFor {E : g_E} {l : Launch} {D : g_D} {K : Int → g_D → Prop} {v1 : Int}  (hF : g_okD D → g_r v1 → n_X12_waitingFor E l D 4 [some (g_R 208), some (g_I v1), some (g_I 0), some (g_I 0)] K) : k_X12_waitingFor E l D v1 K := by
  refine g_enter (by decide) (Nat.le_of_ble_eq_true rfl) ?_
  show g_N E l m_X12_waitingFor 0 0 [some (g_R 208), some (g_I v1), none, none] [] g_SH D (g_Ri g_SH K)
  refine g_use (fun ok => ?_)
  have hF := hF ok.2.1 (ok.loc (i := 1) rfl)
  refine g_iconst dX12_waitingFor_0 ⟨by decide, by decide⟩ ?_
  refine gw_istore_n (L' := [some (g_R 208), some (g_I v1), some (g_I 0), none]) dX12_waitingFor_1 (by decide) rfl ?_
  refine g_iconst dX12_waitingFor_2 ⟨by decide, by decide⟩ ?_
  refine gw_istore_n (L' := [some (g_R 208), some (g_I v1), some (g_I 0), some (g_I 0)]) dX12_waitingFor_3 (by decide) rfl ?_
  exact hF
theorem s_X12_waitingFor_4 {E : g_E} {l : Launch} {D : g_D} {K : Int → g_D → Prop} {v1 : Int} {v2 : Int} {v3 : Int}  (hF : g_okD D → g_r v1 → g_r v2 → g_r v3 → ((D 208 14) ≤ v3 → K v2 D) ∧ (¬ (D 208 14) ≤ v3 → (g_r (40 * v1)) ∧ ((g_r ((40 * v1) + v3)) ∧ ((0 ≤ ((40 * v1) + v3) ∧ ((40 * v1) + v3) < 1600) ∧ (((D 220 ((40 * v1) + v3).toNat) = 0 → (g_r (v2 + 0)) ∧ ((g_r (v3 + 1)) ∧ (n_X12_waitingFor E l D 4 [some (g_R 208), some (g_I v1), some (g_I (v2 + 0)), some (g_I (v3 + 1))] K))) ∧ (¬ (D 220 ((40 * v1) + v3).toNat) = 0 → (0 ≤ v3 ∧ v3 < 40) ∧ ((¬ (D 224 v3.toNat) = 0 → (g_r (v2 + 0)) ∧ ((g_r (v3 + 1)) ∧ (n_X12_waitingFor E l D 4 [some (g_R 208), some (g_I v1), some (g_I (v2 + 0)), some (g_I (v3 + 1))] K))) ∧ ((D 224 v3.toNat) = 0 → (g_r (v2 + 1)) ∧ ((g_r (v3 + 1)) ∧ (n_X12_waitingFor E l D 4 [some (g_R 208), some (g_I v1), some (g_I (v2 + 1)), some (g_I (v3 + 1))] K)))))))))) : n_X12_waitingFor E l D 4 [some (g_R 208), some (g_I v1), some (g_I v2), some (g_I v3)] K := by
  refine g_use (fun ok => ?_)
  have hF := hF ok.2.1 (ok.loc (i := 1) rfl) (ok.loc (i := 2) rfl) (ok.loc (i := 3) rfl)
  refine g_iload_n dX12_waitingFor_4 rfl ?_
  refine g_aload_n dX12_waitingFor_5 rfl ?_
  refine g_getI dX12_waitingFor_6 fd_X12_182 sh_208 rfl ?_
  refine g_cge dX12_waitingFor_9 rfl (fun q => ?_) (fun q => ?_)
  · have hF := hF.1 q
    refine g_iload_n dX12_waitingFor_49 rfl ?_
    exact gw_iret dX12_waitingFor_50 rfl hF
  · have hF := hF.2 q
    refine g_iload_n dX12_waitingFor_12 rfl ?_
    refine g_aload_n dX12_waitingFor_13 rfl ?_
    refine g_getR dX12_waitingFor_14 fd_X12_48 sh_208 rfl ?_
    refine g_bipush dX12_waitingFor_17 ⟨by decide, by decide⟩ ?_
    refine g_iload_n dX12_waitingFor_19 rfl ?_
    obtain ⟨hc, hF⟩ := hF
    refine g_imul dX12_waitingFor_20 hc ?_
    refine g_iload_n dX12_waitingFor_21 rfl ?_
    obtain ⟨hc, hF⟩ := hF
    refine g_iadd dX12_waitingFor_22 hc ?_
    obtain ⟨hc, hF⟩ := hF
    refine g_bald dX12_waitingFor_23 sh_220 hc.1 hc.2 ?_
    refine g_ifeq dX12_waitingFor_24 rfl (fun q => ?_) (fun q => ?_)
    · have hF := hF.1 q
      refine g_iconst dX12_waitingFor_40 ⟨by decide, by decide⟩ ?_
      obtain ⟨hc, hF⟩ := hF
      refine g_iadd dX12_waitingFor_41 hc ?_
      refine gw_istore_n (L' := [some (g_R 208), some (g_I v1), some (g_I (v2 + 0)), some (g_I v3)]) dX12_waitingFor_42 (by decide) rfl ?_
      obtain ⟨hc, hF⟩ := hF
      refine gw_iinc (L' := [some (g_R 208), some (g_I v1), some (g_I (v2 + 0)), some (g_I (v3 + 1))]) dX12_waitingFor_43 rfl hc (by decide) rfl ?_
      refine g_goto dX12_waitingFor_46 rfl ?_
      exact hF
    · have hF := hF.2 q
      refine g_aload_n dX12_waitingFor_27 rfl ?_
      refine g_getR dX12_waitingFor_28 fd_X12_60 sh_208 rfl ?_
      refine g_iload_n dX12_waitingFor_31 rfl ?_
      obtain ⟨hc, hF⟩ := hF
      refine g_bald dX12_waitingFor_32 sh_224 hc.1 hc.2 ?_
      refine g_ifne dX12_waitingFor_33 rfl (fun q => ?_) (fun q => ?_)
      · have hF := hF.1 q
        refine g_iconst dX12_waitingFor_40 ⟨by decide, by decide⟩ ?_
        obtain ⟨hc, hF⟩ := hF
        refine g_iadd dX12_waitingFor_41 hc ?_
        refine gw_istore_n (L' := [some (g_R 208), some (g_I v1), some (g_I (v2 + 0)), some (g_I v3)]) dX12_waitingFor_42 (by decide) rfl ?_
        obtain ⟨hc, hF⟩ := hF
        refine gw_iinc (L' := [some (g_R 208), some (g_I v1), some (g_I (v2 + 0)), some (g_I (v3 + 1))]) dX12_waitingFor_43 rfl hc (by decide) rfl ?_
        refine g_goto dX12_waitingFor_46 rfl ?_
        exact hF
      · have hF := hF.2 q
        refine g_iconst dX12_waitingFor_36 ⟨by decide, by decide⟩ ?_
        refine g_goto dX12_waitingFor_37 rfl ?_
        obtain ⟨hc, hF⟩ := hF
        refine g_iadd dX12_waitingFor_41 hc ?_
        refine gw_istore_n (L' := [some (g_R 208), some (g_I v1), some (g_I (v2 + 1)), some (g_I v3)]) dX12_waitingFor_42 (by decide) rfl ?_
        obtain ⟨hc, hF⟩ := hF
        refine gw_iinc (L' := [some (g_R 208), some (g_I v1), some (g_I (v2 + 1)), some (g_I (v3 + 1))]) dX12_waitingFor_43 rfl hc (by decide) rfl ?_
        refine g_goto dX12_waitingFor_46 rfl ?_
        exact hF
theorem dX12_isSooner_0 : decode cX12_isSooner 0 = .ok (.aload_n 0, 1) := by decide +kernel
theorem dX12_isSooner_1 : decode cX12_isSooner 1 = .ok (.getfield 13, 3) := by decide +kernel
theorem dX12_isSooner_4 : decode cX12_isSooner 4 = .ok (.iconst 4, 1) := by decide +kernel
theorem dX12_isSooner_5 : decode cX12_isSooner 5 = .ok (.iaload, 1) := by decide +kernel
theorem dX12_isSooner_6 : decode cX12_isSooner 6 = .ok (.ifCond .ne 26, 3) := by decide +kernel
theorem dX12_isSooner_9 : decode cX12_isSooner 9 = .ok (.aload_n 0, 1) := by decide +kernel
theorem dX12_isSooner_10 : decode cX12_isSooner 10 = .ok (.getfield 45, 3) := by decide +kernel
theorem dX12_isSooner_13 : decode cX12_isSooner 13 = .ok (.iload_n 1, 1) := by decide +kernel
theorem dX12_isSooner_14 : decode cX12_isSooner 14 = .ok (.iaload, 1) := by decide +kernel
theorem dX12_isSooner_15 : decode cX12_isSooner 15 = .ok (.aload_n 0, 1) := by decide +kernel
theorem dX12_isSooner_16 : decode cX12_isSooner 16 = .ok (.getfield 45, 3) := by decide +kernel
theorem dX12_isSooner_19 : decode cX12_isSooner 19 = .ok (.iload_n 2, 1) := by decide +kernel
theorem dX12_isSooner_20 : decode cX12_isSooner 20 = .ok (.iaload, 1) := by decide +kernel
theorem dX12_isSooner_21 : decode cX12_isSooner 21 = .ok (.if_icmp .ge 7, 3) := by decide +kernel
theorem dX12_isSooner_24 : decode cX12_isSooner 24 = .ok (.iconst 1, 1) := by decide +kernel
theorem dX12_isSooner_25 : decode cX12_isSooner 25 = .ok (.goto 35, 3) := by decide +kernel
theorem dX12_isSooner_28 : decode cX12_isSooner 28 = .ok (.iconst 0, 1) := by decide +kernel
theorem dX12_isSooner_29 : decode cX12_isSooner 29 = .ok (.goto 31, 3) := by decide +kernel
theorem dX12_isSooner_32 : decode cX12_isSooner 32 = .ok (.aload_n 0, 1) := by decide +kernel
theorem dX12_isSooner_33 : decode cX12_isSooner 33 = .ok (.getfield 13, 3) := by decide +kernel
theorem dX12_isSooner_36 : decode cX12_isSooner 36 = .ok (.iconst 4, 1) := by decide +kernel
theorem dX12_isSooner_37 : decode cX12_isSooner 37 = .ok (.iaload, 1) := by decide +kernel
theorem dX12_isSooner_38 : decode cX12_isSooner 38 = .ok (.iconst 1, 1) := by decide +kernel
theorem dX12_isSooner_39 : decode cX12_isSooner 39 = .ok (.if_icmp .ne 20, 3) := by decide +kernel
theorem dX12_isSooner_42 : decode cX12_isSooner 42 = .ok (.aload_n 0, 1) := by decide +kernel
theorem dX12_isSooner_43 : decode cX12_isSooner 43 = .ok (.iload_n 1, 1) := by decide +kernel
theorem dX12_isSooner_44 : decode cX12_isSooner 44 = .ok (.invokevirtual 225, 3) := by decide +kernel
theorem dX12_isSooner_47 : decode cX12_isSooner 47 = .ok (.aload_n 0, 1) := by decide +kernel
theorem dX12_isSooner_48 : decode cX12_isSooner 48 = .ok (.iload_n 2, 1) := by decide +kernel
theorem dX12_isSooner_49 : decode cX12_isSooner 49 = .ok (.invokevirtual 225, 3) := by decide +kernel
theorem dX12_isSooner_52 : decode cX12_isSooner 52 = .ok (.if_icmp .le 7, 3) := by decide +kernel
theorem dX12_isSooner_55 : decode cX12_isSooner 55 = .ok (.iconst 1, 1) := by decide +kernel
theorem dX12_isSooner_56 : decode cX12_isSooner 56 = .ok (.goto 4, 3) := by decide +kernel
theorem dX12_isSooner_59 : decode cX12_isSooner 59 = .ok (.iconst 0, 1) := by decide +kernel
theorem dX12_isSooner_60 : decode cX12_isSooner 60 = .ok (.ireturn, 1) := by decide +kernel
abbrev k_X12_isSooner (E : g_E) (l : Launch) (D : g_D) (v1 : Int) (v2 : Int) (K : Int → g_D → Prop) : Prop := g_Ki E l m_X12_isSooner 1 [g_R 208, g_I v1, g_I v2] g_SH D K
abbrev n_X12_isSooner (E : g_E) (l : Launch) (D : g_D) (pc : Nat) (L : List (Option g_V)) (K : Int → g_D → Prop) : Prop := g_N E l m_X12_isSooner 1 pc L [] g_SH D (g_Ri g_SH K)
theorem s_X12_isSooner {E : g_E} {l : Launch} {D : g_D} {K : Int → g_D → Prop} {v1 : Int} {v2 : Int}  (hF : g_okD D → g_r v1 → g_r v2 → (¬ (D 209 4) = 0 → (¬ (D 209 4) = 1 → K 0 D) ∧ ((D 209 4) = 1 → k_X12_waitingFor E l D v1 (fun x1 D1 => g_r x1 → k_X12_waitingFor E l D1 v2 (fun x2 D2 => g_r x2 → (x1 ≤ x2 → K 0 D2) ∧ (¬ x1 ≤ x2 → K 1 D2))))) ∧ ((D 209 4) = 0 → (0 ≤ v1 ∧ v1 < 40) ∧ ((0 ≤ v2 ∧ v2 < 40) ∧ (((D 219 v2.toNat) ≤ (D 219 v1.toNat) → K 0 D) ∧ (¬ (D 219 v2.toNat) ≤ (D 219 v1.toNat) → K 1 D))))) : k_X12_isSooner E l D v1 v2 K := by
  refine g_enter (by decide) (Nat.le_of_ble_eq_true rfl) ?_
  show g_N E l m_X12_isSooner 1 0 [some (g_R 208), some (g_I v1), some (g_I v2)] [] g_SH D (g_Ri g_SH K)
  refine g_use (fun ok => ?_)
  have hF := hF ok.2.1 (ok.loc (i := 1) rfl) (ok.loc (i := 2) rfl)
  refine g_aload_n dX12_isSooner_0 rfl ?_
  refine g_getR dX12_isSooner_1 fd_X12_13 sh_208 rfl ?_
  refine g_iconst dX12_isSooner_4 ⟨by decide, by decide⟩ ?_
  refine g_iald dX12_isSooner_5 sh_209 (by decide) (by decide) ?_
  refine g_ifne dX12_isSooner_6 rfl (fun q => ?_) (fun q => ?_)
  · have hF := hF.1 q
    refine g_aload_n dX12_isSooner_32 rfl ?_
    refine g_getR dX12_isSooner_33 fd_X12_13 sh_208 rfl ?_
    refine g_iconst dX12_isSooner_36 ⟨by decide, by decide⟩ ?_
    refine g_iald dX12_isSooner_37 sh_209 (by decide) (by decide) ?_
    refine g_iconst dX12_isSooner_38 ⟨by decide, by decide⟩ ?_
    refine g_cne dX12_isSooner_39 rfl (fun q => ?_) (fun q => ?_)
    · have hF := hF.1 q
      refine g_iconst dX12_isSooner_59 ⟨by decide, by decide⟩ ?_
      exact gw_zret dX12_isSooner_60 rfl (by decide) hF
    · have hF := hF.2 q
      refine g_aload_n dX12_isSooner_42 rfl ?_
      refine g_iload_n dX12_isSooner_43 rfl ?_
      refine gw_cVi (b := 208) (As := [g_I v1]) (rest := []) dX12_isSooner_44 mv_X12_225 sh_208 rfl (Nat.le_of_ble_eq_true rfl) (by decide) rfl hF ?_
      intro x1 D1 hx1 hF
      have hF := hF hx1
      refine g_aload_n dX12_isSooner_47 rfl ?_
      refine g_iload_n dX12_isSooner_48 rfl ?_
      refine gw_cVi (b := 208) (As := [g_I v2]) (rest := [g_I x1]) dX12_isSooner_49 mv_X12_225 sh_208 rfl (Nat.le_of_ble_eq_true rfl) (by decide) rfl hF ?_
      intro x2 D2 hx2 hF
      have hF := hF hx2
      refine g_cle dX12_isSooner_52 rfl (fun q => ?_) (fun q => ?_)
      · have hF := hF.1 q
        refine g_iconst dX12_isSooner_59 ⟨by decide, by decide⟩ ?_
        exact gw_zret dX12_isSooner_60 rfl (by decide) hF
      · have hF := hF.2 q
        refine g_iconst dX12_isSooner_55 ⟨by decide, by decide⟩ ?_
        refine g_goto dX12_isSooner_56 rfl ?_
        exact gw_zret dX12_isSooner_60 rfl (by decide) hF
  · have hF := hF.2 q
    refine g_aload_n dX12_isSooner_9 rfl ?_
    refine g_getR dX12_isSooner_10 fd_X12_45 sh_208 rfl ?_
    refine g_iload_n dX12_isSooner_13 rfl ?_
    obtain ⟨hc, hF⟩ := hF
    refine g_iald dX12_isSooner_14 sh_219 hc.1 hc.2 ?_
    refine g_aload_n dX12_isSooner_15 rfl ?_
    refine g_getR dX12_isSooner_16 fd_X12_45 sh_208 rfl ?_
    refine g_iload_n dX12_isSooner_19 rfl ?_
    obtain ⟨hc, hF⟩ := hF
    refine g_iald dX12_isSooner_20 sh_219 hc.1 hc.2 ?_
    refine g_cge dX12_isSooner_21 rfl (fun q => ?_) (fun q => ?_)
    · have hF := hF.1 q
      refine g_iconst dX12_isSooner_28 ⟨by decide, by decide⟩ ?_
      refine g_goto dX12_isSooner_29 rfl ?_
      exact gw_zret dX12_isSooner_60 rfl (by decide) hF
    · have hF := hF.2 q
      refine g_iconst dX12_isSooner_24 ⟨by decide, by decide⟩ ?_
      refine g_goto dX12_isSooner_25 rfl ?_
      exact gw_zret dX12_isSooner_60 rfl (by decide) hF
theorem dX12_breaksRing_0 : decode cX12_breaksRing 0 = .ok (.iconst 0, 1) := by decide +kernel
theorem dX12_breaksRing_1 : decode cX12_breaksRing 1 = .ok (.istore_n 1, 1) := by decide +kernel
theorem dX12_breaksRing_2 : decode cX12_breaksRing 2 = .ok (.iload_n 1, 1) := by decide +kernel
theorem dX12_breaksRing_3 : decode cX12_breaksRing 3 = .ok (.aload_n 0, 1) := by decide +kernel
theorem dX12_breaksRing_4 : decode cX12_breaksRing 4 = .ok (.getfield 182, 3) := by decide +kernel
theorem dX12_breaksRing_7 : decode cX12_breaksRing 7 = .ok (.if_icmp .ge 38, 3) := by decide +kernel
theorem dX12_breaksRing_10 : decode cX12_breaksRing 10 = .ok (.aload_n 0, 1) := by decide +kernel
theorem dX12_breaksRing_11 : decode cX12_breaksRing 11 = .ok (.getfield 54, 3) := by decide +kernel
theorem dX12_breaksRing_14 : decode cX12_breaksRing 14 = .ok (.iload_n 1, 1) := by decide +kernel
theorem dX12_breaksRing_15 : decode cX12_breaksRing 15 = .ok (.aload_n 0, 1) := by decide +kernel
theorem dX12_breaksRing_16 : decode cX12_breaksRing 16 = .ok (.getfield 36, 3) := by decide +kernel
theorem dX12_breaksRing_19 : decode cX12_breaksRing 19 = .ok (.iload_n 1, 1) := by decide +kernel
theorem dX12_breaksRing_20 : decode cX12_breaksRing 20 = .ok (.iaload, 1) := by decide +kernel
theorem dX12_breaksRing_21 : decode cX12_breaksRing 21 = .ok (.iconst 1, 1) := by decide +kernel
theorem dX12_breaksRing_22 : decode cX12_breaksRing 22 = .ok (.if_icmp .ne 15, 3) := by decide +kernel
theorem dX12_breaksRing_25 : decode cX12_breaksRing 25 = .ok (.aload_n 0, 1) := by decide +kernel
theorem dX12_breaksRing_26 : decode cX12_breaksRing 26 = .ok (.iload_n 1, 1) := by decide +kernel
theorem dX12_breaksRing_27 : decode cX12_breaksRing 27 = .ok (.invokevirtual 222, 3) := by decide +kernel
theorem dX12_breaksRing_30 : decode cX12_breaksRing 30 = .ok (.ifCond .eq 7, 3) := by decide +kernel
theorem dX12_breaksRing_33 : decode cX12_breaksRing 33 = .ok (.iconst 1, 1) := by decide +kernel
theorem dX12_breaksRing_34 : decode cX12_breaksRing 34 = .ok (.goto 4, 3) := by decide +kernel
theorem dX12_breaksRing_37 : decode cX12_breaksRing 37 = .ok (.iconst 0, 1) := by decide +kernel
theorem dX12_breaksRing_38 : decode cX12_breaksRing 38 = .ok (.bastore, 1) := by decide +kernel
theorem dX12_breaksRing_39 : decode cX12_breaksRing 39 = .ok (.iinc 1 1, 3) := by decide +kernel
theorem dX12_breaksRing_42 : decode cX12_breaksRing 42 = .ok (.goto (-40), 3) := by decide +kernel
theorem dX12_breaksRing_45 : decode cX12_breaksRing 45 = .ok (.iconst (-1), 1) := by decide +kernel
theorem dX12_breaksRing_46 : decode cX12_breaksRing 46 = .ok (.istore_n 1, 1) := by decide +kernel
theorem dX12_breaksRing_47 : decode cX12_breaksRing 47 = .ok (.iconst (-1), 1) := by decide +kernel
theorem dX12_breaksRing_48 : decode cX12_breaksRing 48 = .ok (.istore_n 2, 1) := by decide +kernel
theorem dX12_breaksRing_49 : decode cX12_breaksRing 49 = .ok (.iconst 0, 1) := by decide +kernel
theorem dX12_breaksRing_50 : decode cX12_breaksRing 50 = .ok (.istore_n 3, 1) := by decide +kernel
theorem dX12_breaksRing_51 : decode cX12_breaksRing 51 = .ok (.iload_n 3, 1) := by decide +kernel
theorem dX12_breaksRing_52 : decode cX12_breaksRing 52 = .ok (.aload_n 0, 1) := by decide +kernel
theorem dX12_breaksRing_53 : decode cX12_breaksRing 53 = .ok (.getfield 182, 3) := by decide +kernel
theorem dX12_breaksRing_56 : decode cX12_breaksRing 56 = .ok (.if_icmp .ge 72, 3) := by decide +kernel
theorem dX12_breaksRing_59 : decode cX12_breaksRing 59 = .ok (.aload_n 0, 1) := by decide +kernel
theorem dX12_breaksRing_60 : decode cX12_breaksRing 60 = .ok (.iload_n 3, 1) := by decide +kernel
theorem dX12_breaksRing_61 : decode cX12_breaksRing 61 = .ok (.invokevirtual 212, 3) := by decide +kernel
theorem dX12_breaksRing_64 : decode cX12_breaksRing 64 = .ok (.ifCond .ne 6, 3) := by decide +kernel
theorem dX12_breaksRing_67 : decode cX12_breaksRing 67 = .ok (.goto 55, 3) := by decide +kernel
theorem dX12_breaksRing_70 : decode cX12_breaksRing 70 = .ok (.iload_n 2, 1) := by decide +kernel
theorem dX12_breaksRing_71 : decode cX12_breaksRing 71 = .ok (.iconst (-1), 1) := by decide +kernel
theorem dX12_breaksRing_72 : decode cX12_breaksRing 72 = .ok (.if_icmp .eq 18, 3) := by decide +kernel
theorem dX12_breaksRing_75 : decode cX12_breaksRing 75 = .ok (.aload_n 0, 1) := by decide +kernel
theorem dX12_breaksRing_76 : decode cX12_breaksRing 76 = .ok (.getfield 45, 3) := by decide +kernel
theorem dX12_breaksRing_79 : decode cX12_breaksRing 79 = .ok (.iload_n 3, 1) := by decide +kernel
theorem dX12_breaksRing_80 : decode cX12_breaksRing 80 = .ok (.iaload, 1) := by decide +kernel
theorem dX12_breaksRing_81 : decode cX12_breaksRing 81 = .ok (.aload_n 0, 1) := by decide +kernel
theorem dX12_breaksRing_82 : decode cX12_breaksRing 82 = .ok (.getfield 45, 3) := by decide +kernel
theorem dX12_breaksRing_85 : decode cX12_breaksRing 85 = .ok (.iload_n 2, 1) := by decide +kernel
theorem dX12_breaksRing_86 : decode cX12_breaksRing 86 = .ok (.iaload, 1) := by decide +kernel
theorem dX12_breaksRing_87 : decode cX12_breaksRing 87 = .ok (.if_icmp .ge 5, 3) := by decide +kernel
theorem dX12_breaksRing_90 : decode cX12_breaksRing 90 = .ok (.iload_n 3, 1) := by decide +kernel
theorem dX12_breaksRing_91 : decode cX12_breaksRing 91 = .ok (.istore_n 2, 1) := by decide +kernel
theorem dX12_breaksRing_92 : decode cX12_breaksRing 92 = .ok (.aload_n 0, 1) := by decide +kernel
theorem dX12_breaksRing_93 : decode cX12_breaksRing 93 = .ok (.aload_n 0, 1) := by decide +kernel
theorem dX12_breaksRing_94 : decode cX12_breaksRing 94 = .ok (.getfield 45, 3) := by decide +kernel
theorem dX12_breaksRing_97 : decode cX12_breaksRing 97 = .ok (.iload_n 3, 1) := by decide +kernel
theorem dX12_breaksRing_98 : decode cX12_breaksRing 98 = .ok (.iaload, 1) := by decide +kernel
theorem dX12_breaksRing_99 : decode cX12_breaksRing 99 = .ok (.invokevirtual 242, 3) := by decide +kernel
theorem dX12_breaksRing_102 : decode cX12_breaksRing 102 = .ok (.iconst (-1), 1) := by decide +kernel
theorem dX12_breaksRing_103 : decode cX12_breaksRing 103 = .ok (.if_icmp .eq 19, 3) := by decide +kernel
theorem dX12_breaksRing_106 : decode cX12_breaksRing 106 = .ok (.iload_n 1, 1) := by decide +kernel
theorem dX12_breaksRing_107 : decode cX12_breaksRing 107 = .ok (.iconst (-1), 1) := by decide +kernel
theorem dX12_breaksRing_108 : decode cX12_breaksRing 108 = .ok (.if_icmp .eq 12, 3) := by decide +kernel
theorem dX12_breaksRing_111 : decode cX12_breaksRing 111 = .ok (.aload_n 0, 1) := by decide +kernel
theorem dX12_breaksRing_112 : decode cX12_breaksRing 112 = .ok (.iload_n 3, 1) := by decide +kernel
theorem dX12_breaksRing_113 : decode cX12_breaksRing 113 = .ok (.iload_n 1, 1) := by decide +kernel
theorem dX12_breaksRing_114 : decode cX12_breaksRing 114 = .ok (.invokevirtual 245, 3) := by decide +kernel
theorem dX12_breaksRing_117 : decode cX12_breaksRing 117 = .ok (.ifCond .eq 5, 3) := by decide +kernel
theorem dX12_breaksRing_120 : decode cX12_breaksRing 120 = .ok (.iload_n 3, 1) := by decide +kernel
theorem dX12_breaksRing_121 : decode cX12_breaksRing 121 = .ok (.istore_n 1, 1) := by decide +kernel
theorem dX12_breaksRing_122 : decode cX12_breaksRing 122 = .ok (.iinc 3 1, 3) := by decide +kernel
theorem dX12_breaksRing_125 : decode cX12_breaksRing 125 = .ok (.goto (-74), 3) := by decide +kernel
theorem dX12_breaksRing_128 : decode cX12_breaksRing 128 = .ok (.iload_n 1, 1) := by decide +kernel
theorem dX12_breaksRing_129 : decode cX12_breaksRing 129 = .ok (.iconst (-1), 1) := by decide +kernel
theorem dX12_breaksRing_130 : decode cX12_breaksRing 130 = .ok (.if_icmp .ne 21, 3) := by decide +kernel
theorem dX12_breaksRing_133 : decode cX12_breaksRing 133 = .ok (.aload_n 0, 1) := by decide +kernel
theorem dX12_breaksRing_134 : decode cX12_breaksRing 134 = .ok (.getfield 66, 3) := by decide +kernel
theorem dX12_breaksRing_137 : decode cX12_breaksRing 137 = .ok (.iload_n 2, 1) := by decide +kernel
theorem dX12_breaksRing_138 : decode cX12_breaksRing 138 = .ok (.iconst 1, 1) := by decide +kernel
theorem dX12_breaksRing_139 : decode cX12_breaksRing 139 = .ok (.bastore, 1) := by decide +kernel
theorem dX12_breaksRing_140 : decode cX12_breaksRing 140 = .ok (.aload_n 0, 1) := by decide +kernel
theorem dX12_breaksRing_141 : decode cX12_breaksRing 141 = .ok (.dup, 1) := by decide +kernel
theorem dX12_breaksRing_142 : decode cX12_breaksRing 142 = .ok (.getfield 248, 3) := by decide +kernel
theorem dX12_breaksRing_145 : decode cX12_breaksRing 145 = .ok (.iconst 1, 1) := by decide +kernel
theorem dX12_breaksRing_146 : decode cX12_breaksRing 146 = .ok (.iadd, 1) := by decide +kernel
theorem dX12_breaksRing_147 : decode cX12_breaksRing 147 = .ok (.putfield 248, 3) := by decide +kernel
theorem dX12_breaksRing_150 : decode cX12_breaksRing 150 = .ok (.return_, 1) := by decide +kernel
theorem dX12_breaksRing_151 : decode cX12_breaksRing 151 = .ok (.aload_n 0, 1) := by decide +kernel
theorem dX12_breaksRing_152 : decode cX12_breaksRing 152 = .ok (.getfield 72, 3) := by decide +kernel
theorem dX12_breaksRing_155 : decode cX12_breaksRing 155 = .ok (.iload_n 1, 1) := by decide +kernel
theorem dX12_breaksRing_156 : decode cX12_breaksRing 156 = .ok (.aload_n 0, 1) := by decide +kernel
theorem dX12_breaksRing_157 : decode cX12_breaksRing 157 = .ok (.aload_n 0, 1) := by decide +kernel
theorem dX12_breaksRing_158 : decode cX12_breaksRing 158 = .ok (.getfield 45, 3) := by decide +kernel
theorem dX12_breaksRing_161 : decode cX12_breaksRing 161 = .ok (.iload_n 1, 1) := by decide +kernel
theorem dX12_breaksRing_162 : decode cX12_breaksRing 162 = .ok (.iaload, 1) := by decide +kernel
theorem dX12_breaksRing_163 : decode cX12_breaksRing 163 = .ok (.invokevirtual 242, 3) := by decide +kernel
theorem dX12_breaksRing_166 : decode cX12_breaksRing 166 = .ok (.iastore, 1) := by decide +kernel
theorem dX12_breaksRing_167 : decode cX12_breaksRing 167 = .ok (.aload_n 0, 1) := by decide +kernel
theorem dX12_breaksRing_168 : decode cX12_breaksRing 168 = .ok (.getfield 63, 3) := by decide +kernel
theorem dX12_breaksRing_171 : decode cX12_breaksRing 171 = .ok (.iload_n 1, 1) := by decide +kernel
theorem dX12_breaksRing_172 : decode cX12_breaksRing 172 = .ok (.iconst 1, 1) := by decide +kernel
theorem dX12_breaksRing_173 : decode cX12_breaksRing 173 = .ok (.bastore, 1) := by decide +kernel
theorem dX12_breaksRing_174 : decode cX12_breaksRing 174 = .ok (.aload_n 0, 1) := by decide +kernel
theorem dX12_breaksRing_175 : decode cX12_breaksRing 175 = .ok (.dup, 1) := by decide +kernel
theorem dX12_breaksRing_176 : decode cX12_breaksRing 176 = .ok (.getfield 251, 3) := by decide +kernel
theorem dX12_breaksRing_179 : decode cX12_breaksRing 179 = .ok (.iconst 1, 1) := by decide +kernel
theorem dX12_breaksRing_180 : decode cX12_breaksRing 180 = .ok (.iadd, 1) := by decide +kernel
theorem dX12_breaksRing_181 : decode cX12_breaksRing 181 = .ok (.putfield 251, 3) := by decide +kernel
theorem dX12_breaksRing_184 : decode cX12_breaksRing 184 = .ok (.aload_n 0, 1) := by decide +kernel
theorem dX12_breaksRing_185 : decode cX12_breaksRing 185 = .ok (.iload_n 1, 1) := by decide +kernel
theorem dX12_breaksRing_186 : decode cX12_breaksRing 186 = .ok (.iconst 1, 1) := by decide +kernel
theorem dX12_breaksRing_187 : decode cX12_breaksRing 187 = .ok (.invokevirtual 238, 3) := by decide +kernel
theorem dX12_breaksRing_190 : decode cX12_breaksRing 190 = .ok (.aload_n 0, 1) := by decide +kernel
theorem dX12_breaksRing_191 : decode cX12_breaksRing 191 = .ok (.iconst 1, 1) := by decide +kernel
theorem dX12_breaksRing_192 : decode cX12_breaksRing 192 = .ok (.iload_n 1, 1) := by decide +kernel
theorem dX12_breaksRing_193 : decode cX12_breaksRing 193 = .ok (.invokevirtual 234, 3) := by decide +kernel
theorem dX12_breaksRing_196 : decode cX12_breaksRing 196 = .ok (.return_, 1) := by decide +kernel
abbrev k_X12_breaksRing (E : g_E) (l : Launch) (D : g_D) (K : g_D → Prop) : Prop := g_Kv E l m_X12_breaksRing 2 [g_R 208] g_SH D K
abbrev n_X12_breaksRing (E : g_E) (l : Launch) (D : g_D) (pc : Nat) (L : List (Option g_V)) (K : g_D → Prop) : Prop := g_N E l m_X12_breaksRing 2 pc L [] g_SH D (g_Rv g_SH K)
theorem s_X12_breaksRing {E : g_E} {l : Launch} {D : g_D} {K : g_D → Prop}   (hF : g_okD D → n_X12_breaksRing E l D 2 [some (g_R 208), some (g_I 0), none, none] K) : k_X12_breaksRing E l D K := by
  refine g_enter (by decide) (Nat.le_of_ble_eq_true rfl) ?_
  show g_N E l m_X12_breaksRing 2 0 [some (g_R 208), none, none, none] [] g_SH D (g_Rv g_SH K)
  refine g_use (fun ok => ?_)
  have hF := hF ok.2.1
  refine g_iconst dX12_breaksRing_0 ⟨by decide, by decide⟩ ?_
  refine gw_istore_n (L' := [some (g_R 208), some (g_I 0), none, none]) dX12_breaksRing_1 (by decide) rfl ?_
  exact hF
theorem s_X12_breaksRing_2 {E : g_E} {l : Launch} {D : g_D} {K : g_D → Prop} {v1 : Int}  (hF : g_okD D → g_r v1 → ((D 208 14) ≤ v1 → n_X12_breaksRing E l D 51 [some (g_R 208), some (g_I (-1)), some (g_I (-1)), some (g_I 0)] K) ∧ (¬ (D 208 14) ≤ v1 → (0 ≤ v1 ∧ v1 < 40) ∧ ((¬ (D 216 v1.toNat) = 1 → (0 ≤ v1 ∧ v1 < 40) ∧ (∀ D1, D1 = g_up D 222 v1.toNat 0 → ((g_r (v1 + 1)) ∧ (n_X12_breaksRing E l D1 2 [some (g_R 208), some (g_I (v1 + 1)), none, none] K)))) ∧ ((D 216 v1.toNat) = 1 → k_X12_isOpen E l D v1 (fun x2 D2 => g_r x2 → (x2 = 0 → (0 ≤ v1 ∧ v1 < 40) ∧ (∀ D3, D3 = g_up D2 222 v1.toNat 0 → ((g_r (v1 + 1)) ∧ (n_X12_breaksRing E l D3 2 [some (g_R 208), some (g_I (v1 + 1)), none, none] K)))) ∧ (¬ x2 = 0 → (0 ≤ v1 ∧ v1 < 40) ∧ (∀ D4, D4 = g_up D2 222 v1.toNat 1 → ((g_r (v1 + 1)) ∧ (n_X12_breaksRing E l D4 2 [some (g_R 208), some (g_I (v1 + 1)), none, none] K))))))))) : n_X12_breaksRing E l D 2 [some (g_R 208), some (g_I v1), none, none] K := by
  refine g_use (fun ok => ?_)
  have hF := hF ok.2.1 (ok.loc (i := 1) rfl)
  refine g_iload_n dX12_breaksRing_2 rfl ?_
  refine g_aload_n dX12_breaksRing_3 rfl ?_
  refine g_getI dX12_breaksRing_4 fd_X12_182 sh_208 rfl ?_
  refine g_cge dX12_breaksRing_7 rfl (fun q => ?_) (fun q => ?_)
  · have hF := hF.1 q
    refine g_iconst dX12_breaksRing_45 ⟨by decide, by decide⟩ ?_
    refine gw_istore_n (L' := [some (g_R 208), some (g_I (-1)), none, none]) dX12_breaksRing_46 (by decide) rfl ?_
    refine g_iconst dX12_breaksRing_47 ⟨by decide, by decide⟩ ?_
    refine gw_istore_n (L' := [some (g_R 208), some (g_I (-1)), some (g_I (-1)), none]) dX12_breaksRing_48 (by decide) rfl ?_
    refine g_iconst dX12_breaksRing_49 ⟨by decide, by decide⟩ ?_
    refine gw_istore_n (L' := [some (g_R 208), some (g_I (-1)), some (g_I (-1)), some (g_I 0)]) dX12_breaksRing_50 (by decide) rfl ?_
    exact hF
  · have hF := hF.2 q
    refine g_aload_n dX12_breaksRing_10 rfl ?_
    refine g_getR dX12_breaksRing_11 fd_X12_54 sh_208 rfl ?_
    refine g_iload_n dX12_breaksRing_14 rfl ?_
    refine g_aload_n dX12_breaksRing_15 rfl ?_
    refine g_getR dX12_breaksRing_16 fd_X12_36 sh_208 rfl ?_
    refine g_iload_n dX12_breaksRing_19 rfl ?_
    obtain ⟨hc, hF⟩ := hF
    refine g_iald dX12_breaksRing_20 sh_216 hc.1 hc.2 ?_
    refine g_iconst dX12_breaksRing_21 ⟨by decide, by decide⟩ ?_
    refine g_cne dX12_breaksRing_22 rfl (fun q => ?_) (fun q => ?_)
    · have hF := hF.1 q
      refine g_iconst dX12_breaksRing_37 ⟨by decide, by decide⟩ ?_
      obtain ⟨hc, hF⟩ := hF
      let D1 : g_D := g_up D 222 v1.toNat 0
      have hF := hF D1 rfl
      refine g_bast dX12_breaksRing_38 sh_222 hc.1 hc.2 (by decide) ?_
      obtain ⟨hc, hF⟩ := hF
      refine gw_iinc (L' := [some (g_R 208), some (g_I (v1 + 1)), none, none]) dX12_breaksRing_39 rfl hc (by decide) rfl ?_
      refine g_goto dX12_breaksRing_42 rfl ?_
      exact hF
    · have hF := hF.2 q
      refine g_aload_n dX12_breaksRing_25 rfl ?_
      refine g_iload_n dX12_breaksRing_26 rfl ?_
      refine gw_cVi (b := 208) (As := [g_I v1]) (rest := [g_I v1, g_R 222]) dX12_breaksRing_27 mv_X12_222 sh_208 rfl (Nat.le_of_ble_eq_true rfl) (by decide) rfl hF ?_
      intro x2 D2 hx2 hF
      have hF := hF hx2
      refine g_ifeq dX12_breaksRing_30 rfl (fun q => ?_) (fun q => ?_)
      · have hF := hF.1 q
        refine g_iconst dX12_breaksRing_37 ⟨by decide, by decide⟩ ?_
        obtain ⟨hc, hF⟩ := hF
        let D3 : g_D := g_up D2 222 v1.toNat 0
        have hF := hF D3 rfl
        refine g_bast dX12_breaksRing_38 sh_222 hc.1 hc.2 (by decide) ?_
        obtain ⟨hc, hF⟩ := hF
        refine gw_iinc (L' := [some (g_R 208), some (g_I (v1 + 1)), none, none]) dX12_breaksRing_39 rfl hc (by decide) rfl ?_
        refine g_goto dX12_breaksRing_42 rfl ?_
        exact hF
      · have hF := hF.2 q
        refine g_iconst dX12_breaksRing_33 ⟨by decide, by decide⟩ ?_
        refine g_goto dX12_breaksRing_34 rfl ?_
        obtain ⟨hc, hF⟩ := hF
        let D4 : g_D := g_up D2 222 v1.toNat 1
        have hF := hF D4 rfl
        refine g_bast dX12_breaksRing_38 sh_222 hc.1 hc.2 (by decide) ?_
        obtain ⟨hc, hF⟩ := hF
        refine gw_iinc (L' := [some (g_R 208), some (g_I (v1 + 1)), none, none]) dX12_breaksRing_39 rfl hc (by decide) rfl ?_
        refine g_goto dX12_breaksRing_42 rfl ?_
        exact hF
theorem s_X12_breaksRing_51 {E : g_E} {l : Launch} {D : g_D} {K : g_D → Prop} {v1 : Int} {v2 : Int} {v3 : Int}  (hF : g_okD D → g_r v1 → g_r v2 → g_r v3 → ((D 208 14) ≤ v3 → (¬ v1 = (-1) → (0 ≤ v1 ∧ v1 < 40) ∧ (k_X12_roomFor E l D (D 219 v1.toNat) (fun x1 D1 => g_r x1 → (0 ≤ v1 ∧ v1 < 40) ∧ (∀ D2, D2 = g_up D1 228 v1.toNat x1 → ((0 ≤ v1 ∧ v1 < 40) ∧ (∀ D3, D3 = g_up D2 225 v1.toNat 1 → ((g_r ((D1 208 28) + 1)) ∧ (∀ D4, D4 = g_up D3 208 28 ((D1 208 28) + 1) → (k_X12_marksStash E l D4 v1 1 (fun D5 => k_X12_laysAct E l D5 1 v1 (fun D6 => K D6))))))))))) ∧ (v1 = (-1) → (0 ≤ v2 ∧ v2 < 40) ∧ (∀ D7, D7 = g_up D 226 v2.toNat 1 → ((g_r ((D 208 29) + 1)) ∧ (∀ D8, D8 = g_up D7 208 29 ((D 208 29) + 1) → (K D8)))))) ∧ (¬ (D 208 14) ≤ v3 → k_X12_isRinged E l D v3 (fun x9 D9 => g_r x9 → (¬ x9 = 0 → (v2 = (-1) → (0 ≤ v3 ∧ v3 < 40) ∧ (k_X12_roomFor E l D9 (D9 219 v3.toNat) (fun x10 D10 => g_r x10 → (x10 = (-1) → (g_r (v3 + 1)) ∧ (n_X12_breaksRing E l D10 51 [some (g_R 208), some (g_I v1), some (g_I v3), some (g_I (v3 + 1))] K)) ∧ (¬ x10 = (-1) → (v1 = (-1) → (g_r (v3 + 1)) ∧ (n_X12_breaksRing E l D10 51 [some (g_R 208), some (g_I v3), some (g_I v3), some (g_I (v3 + 1))] K)) ∧ (¬ v1 = (-1) → k_X12_isSooner E l D10 v3 v1 (fun x11 D11 => g_r x11 → (x11 = 0 → (g_r (v3 + 1)) ∧ (n_X12_breaksRing E l D11 51 [some (g_R 208), some (g_I v1), some (g_I v3), some (g_I (v3 + 1))] K)) ∧ (¬ x11 = 0 → (g_r (v3 + 1)) ∧ (n_X12_breaksRing E l D11 51 [some (g_R 208), some (g_I v3), some (g_I v3), some (g_I (v3 + 1))] K)))))))) ∧ (¬ v2 = (-1) → (0 ≤ v3 ∧ v3 < 40) ∧ ((0 ≤ v2 ∧ v2 < 40) ∧ (((D9 219 v2.toNat) ≤ (D9 219 v3.toNat) → (0 ≤ v3 ∧ v3 < 40) ∧ (k_X12_roomFor E l D9 (D9 219 v3.toNat) (fun x12 D12 => g_r x12 → (x12 = (-1) → (g_r (v3 + 1)) ∧ (n_X12_breaksRing E l D12 51 [some (g_R 208), some (g_I v1), some (g_I v2), some (g_I (v3 + 1))] K)) ∧ (¬ x12 = (-1) → (v1 = (-1) → (g_r (v3 + 1)) ∧ (n_X12_breaksRing E l D12 51 [some (g_R 208), some (g_I v3), some (g_I v2), some (g_I (v3 + 1))] K)) ∧ (¬ v1 = (-1) → k_X12_isSooner E l D12 v3 v1 (fun x13 D13 => g_r x13 → (x13 = 0 → (g_r (v3 + 1)) ∧ (n_X12_breaksRing E l D13 51 [some (g_R 208), some (g_I v1), some (g_I v2), some (g_I (v3 + 1))] K)) ∧ (¬ x13 = 0 → (g_r (v3 + 1)) ∧ (n_X12_breaksRing E l D13 51 [some (g_R 208), some (g_I v3), some (g_I v2), some (g_I (v3 + 1))] K)))))))) ∧ (¬ (D9 219 v2.toNat) ≤ (D9 219 v3.toNat) → (0 ≤ v3 ∧ v3 < 40) ∧ (k_X12_roomFor E l D9 (D9 219 v3.toNat) (fun x14 D14 => g_r x14 → (x14 = (-1) → (g_r (v3 + 1)) ∧ (n_X12_breaksRing E l D14 51 [some (g_R 208), some (g_I v1), some (g_I v3), some (g_I (v3 + 1))] K)) ∧ (¬ x14 = (-1) → (v1 = (-1) → (g_r (v3 + 1)) ∧ (n_X12_breaksRing E l D14 51 [some (g_R 208), some (g_I v3), some (g_I v3), some (g_I (v3 + 1))] K)) ∧ (¬ v1 = (-1) → k_X12_isSooner E l D14 v3 v1 (fun x15 D15 => g_r x15 → (x15 = 0 → (g_r (v3 + 1)) ∧ (n_X12_breaksRing E l D15 51 [some (g_R 208), some (g_I v1), some (g_I v3), some (g_I (v3 + 1))] K)) ∧ (¬ x15 = 0 → (g_r (v3 + 1)) ∧ (n_X12_breaksRing E l D15 51 [some (g_R 208), some (g_I v3), some (g_I v3), some (g_I (v3 + 1))] K)))))))))))) ∧ (x9 = 0 → (g_r (v3 + 1)) ∧ (n_X12_breaksRing E l D9 51 [some (g_R 208), some (g_I v1), some (g_I v2), some (g_I (v3 + 1))] K))))) : n_X12_breaksRing E l D 51 [some (g_R 208), some (g_I v1), some (g_I v2), some (g_I v3)] K := by
  refine g_use (fun ok => ?_)
  have hF := hF ok.2.1 (ok.loc (i := 1) rfl) (ok.loc (i := 2) rfl) (ok.loc (i := 3) rfl)
  refine g_iload_n dX12_breaksRing_51 rfl ?_
  refine g_aload_n dX12_breaksRing_52 rfl ?_
  refine g_getI dX12_breaksRing_53 fd_X12_182 sh_208 rfl ?_
  refine g_cge dX12_breaksRing_56 rfl (fun q => ?_) (fun q => ?_)
  · have hF := hF.1 q
    refine g_iload_n dX12_breaksRing_128 rfl ?_
    refine g_iconst dX12_breaksRing_129 ⟨by decide, by decide⟩ ?_
    refine g_cne dX12_breaksRing_130 rfl (fun q => ?_) (fun q => ?_)
    · have hF := hF.1 q
      refine g_aload_n dX12_breaksRing_151 rfl ?_
      refine g_getR dX12_breaksRing_152 fd_X12_72 sh_208 rfl ?_
      refine g_iload_n dX12_breaksRing_155 rfl ?_
      refine g_aload_n dX12_breaksRing_156 rfl ?_
      refine g_aload_n dX12_breaksRing_157 rfl ?_
      refine g_getR dX12_breaksRing_158 fd_X12_45 sh_208 rfl ?_
      refine g_iload_n dX12_breaksRing_161 rfl ?_
      obtain ⟨hc, hF⟩ := hF
      refine g_iald dX12_breaksRing_162 sh_219 hc.1 hc.2 ?_
      refine gw_cVi (b := 208) (As := [g_I (D 219 v1.toNat)]) (rest := [g_I v1, g_R 228]) dX12_breaksRing_163 mv_X12_242 sh_208 rfl (Nat.le_of_ble_eq_true rfl) (by decide) rfl hF ?_
      intro x1 D1 hx1 hF
      have hF := hF hx1
      obtain ⟨hc, hF⟩ := hF
      let D2 : g_D := g_up D1 228 v1.toNat x1
      have hF := hF D2 rfl
      refine g_iast dX12_breaksRing_166 sh_228 hc.1 hc.2 ?_
      refine g_aload_n dX12_breaksRing_167 rfl ?_
      refine g_getR dX12_breaksRing_168 fd_X12_63 sh_208 rfl ?_
      refine g_iload_n dX12_breaksRing_171 rfl ?_
      refine g_iconst dX12_breaksRing_172 ⟨by decide, by decide⟩ ?_
      obtain ⟨hc, hF⟩ := hF
      let D3 : g_D := g_up D2 225 v1.toNat 1
      have hF := hF D3 rfl
      refine g_bast dX12_breaksRing_173 sh_225 hc.1 hc.2 (by decide) ?_
      refine g_aload_n dX12_breaksRing_174 rfl ?_
      refine g_dup dX12_breaksRing_175 rfl ?_
      refine g_getI dX12_breaksRing_176 fd_X12_251 sh_208 rfl ?_
      refine g_iconst dX12_breaksRing_179 ⟨by decide, by decide⟩ ?_
      obtain ⟨hc, hF⟩ := hF
      refine g_iadd dX12_breaksRing_180 hc ?_
      let D4 : g_D := g_up D3 208 28 ((D1 208 28) + 1)
      have hF := hF D4 rfl
      refine g_put dX12_breaksRing_181 fd_X12_251 (g_ftyI (C := RX12) (T := TX12) (N := 51) rfl rfl (by decide +kernel)) sh_208 rfl ?_
      refine g_aload_n dX12_breaksRing_184 rfl ?_
      refine g_iload_n dX12_breaksRing_185 rfl ?_
      refine g_iconst dX12_breaksRing_186 ⟨by decide, by decide⟩ ?_
      refine gw_cVv (b := 208) (As := [g_I v1, g_I 1]) (rest := []) dX12_breaksRing_187 mv_X12_238 sh_208 rfl (Nat.le_of_ble_eq_true rfl) (by decide) rfl hF ?_
      intro D5 hF
      refine g_aload_n dX12_breaksRing_190 rfl ?_
      refine g_iconst dX12_breaksRing_191 ⟨by decide, by decide⟩ ?_
      refine g_iload_n dX12_breaksRing_192 rfl ?_
      refine gw_cVv (b := 208) (As := [g_I 1, g_I v1]) (rest := []) dX12_breaksRing_193 mv_X12_234 sh_208 rfl (Nat.le_of_ble_eq_true rfl) (by decide) rfl hF ?_
      intro D6 hF
      exact gw_vret dX12_breaksRing_196 rfl hF
    · have hF := hF.2 q
      refine g_aload_n dX12_breaksRing_133 rfl ?_
      refine g_getR dX12_breaksRing_134 fd_X12_66 sh_208 rfl ?_
      refine g_iload_n dX12_breaksRing_137 rfl ?_
      refine g_iconst dX12_breaksRing_138 ⟨by decide, by decide⟩ ?_
      obtain ⟨hc, hF⟩ := hF
      let D7 : g_D := g_up D 226 v2.toNat 1
      have hF := hF D7 rfl
      refine g_bast dX12_breaksRing_139 sh_226 hc.1 hc.2 (by decide) ?_
      refine g_aload_n dX12_breaksRing_140 rfl ?_
      refine g_dup dX12_breaksRing_141 rfl ?_
      refine g_getI dX12_breaksRing_142 fd_X12_248 sh_208 rfl ?_
      refine g_iconst dX12_breaksRing_145 ⟨by decide, by decide⟩ ?_
      obtain ⟨hc, hF⟩ := hF
      refine g_iadd dX12_breaksRing_146 hc ?_
      let D8 : g_D := g_up D7 208 29 ((D 208 29) + 1)
      have hF := hF D8 rfl
      refine g_put dX12_breaksRing_147 fd_X12_248 (g_ftyI (C := RX12) (T := TX12) (N := 51) rfl rfl (by decide +kernel)) sh_208 rfl ?_
      exact gw_vret dX12_breaksRing_150 rfl hF
  · have hF := hF.2 q
    refine g_aload_n dX12_breaksRing_59 rfl ?_
    refine g_iload_n dX12_breaksRing_60 rfl ?_
    refine gw_cVi (b := 208) (As := [g_I v3]) (rest := []) dX12_breaksRing_61 mv_X12_212 sh_208 rfl (Nat.le_of_ble_eq_true rfl) (by decide) rfl hF ?_
    intro x9 D9 hx9 hF
    have hF := hF hx9
    refine g_ifne dX12_breaksRing_64 rfl (fun q => ?_) (fun q => ?_)
    · have hF := hF.1 q
      refine g_iload_n dX12_breaksRing_70 rfl ?_
      refine g_iconst dX12_breaksRing_71 ⟨by decide, by decide⟩ ?_
      refine g_ceq dX12_breaksRing_72 rfl (fun q => ?_) (fun q => ?_)
      · have hF := hF.1 q
        refine g_iload_n dX12_breaksRing_90 rfl ?_
        refine gw_istore_n (L' := [some (g_R 208), some (g_I v1), some (g_I v3), some (g_I v3)]) dX12_breaksRing_91 (by decide) rfl ?_
        refine g_aload_n dX12_breaksRing_92 rfl ?_
        refine g_aload_n dX12_breaksRing_93 rfl ?_
        refine g_getR dX12_breaksRing_94 fd_X12_45 sh_208 rfl ?_
        refine g_iload_n dX12_breaksRing_97 rfl ?_
        obtain ⟨hc, hF⟩ := hF
        refine g_iald dX12_breaksRing_98 sh_219 hc.1 hc.2 ?_
        refine gw_cVi (b := 208) (As := [g_I (D9 219 v3.toNat)]) (rest := []) dX12_breaksRing_99 mv_X12_242 sh_208 rfl (Nat.le_of_ble_eq_true rfl) (by decide) rfl hF ?_
        intro x10 D10 hx10 hF
        have hF := hF hx10
        refine g_iconst dX12_breaksRing_102 ⟨by decide, by decide⟩ ?_
        refine g_ceq dX12_breaksRing_103 rfl (fun q => ?_) (fun q => ?_)
        · have hF := hF.1 q
          obtain ⟨hc, hF⟩ := hF
          refine gw_iinc (L' := [some (g_R 208), some (g_I v1), some (g_I v3), some (g_I (v3 + 1))]) dX12_breaksRing_122 rfl hc (by decide) rfl ?_
          refine g_goto dX12_breaksRing_125 rfl ?_
          exact hF
        · have hF := hF.2 q
          refine g_iload_n dX12_breaksRing_106 rfl ?_
          refine g_iconst dX12_breaksRing_107 ⟨by decide, by decide⟩ ?_
          refine g_ceq dX12_breaksRing_108 rfl (fun q => ?_) (fun q => ?_)
          · have hF := hF.1 q
            refine g_iload_n dX12_breaksRing_120 rfl ?_
            refine gw_istore_n (L' := [some (g_R 208), some (g_I v3), some (g_I v3), some (g_I v3)]) dX12_breaksRing_121 (by decide) rfl ?_
            obtain ⟨hc, hF⟩ := hF
            refine gw_iinc (L' := [some (g_R 208), some (g_I v3), some (g_I v3), some (g_I (v3 + 1))]) dX12_breaksRing_122 rfl hc (by decide) rfl ?_
            refine g_goto dX12_breaksRing_125 rfl ?_
            exact hF
          · have hF := hF.2 q
            refine g_aload_n dX12_breaksRing_111 rfl ?_
            refine g_iload_n dX12_breaksRing_112 rfl ?_
            refine g_iload_n dX12_breaksRing_113 rfl ?_
            refine gw_cVi (b := 208) (As := [g_I v3, g_I v1]) (rest := []) dX12_breaksRing_114 mv_X12_245 sh_208 rfl (Nat.le_of_ble_eq_true rfl) (by decide) rfl hF ?_
            intro x11 D11 hx11 hF
            have hF := hF hx11
            refine g_ifeq dX12_breaksRing_117 rfl (fun q => ?_) (fun q => ?_)
            · have hF := hF.1 q
              obtain ⟨hc, hF⟩ := hF
              refine gw_iinc (L' := [some (g_R 208), some (g_I v1), some (g_I v3), some (g_I (v3 + 1))]) dX12_breaksRing_122 rfl hc (by decide) rfl ?_
              refine g_goto dX12_breaksRing_125 rfl ?_
              exact hF
            · have hF := hF.2 q
              refine g_iload_n dX12_breaksRing_120 rfl ?_
              refine gw_istore_n (L' := [some (g_R 208), some (g_I v3), some (g_I v3), some (g_I v3)]) dX12_breaksRing_121 (by decide) rfl ?_
              obtain ⟨hc, hF⟩ := hF
              refine gw_iinc (L' := [some (g_R 208), some (g_I v3), some (g_I v3), some (g_I (v3 + 1))]) dX12_breaksRing_122 rfl hc (by decide) rfl ?_
              refine g_goto dX12_breaksRing_125 rfl ?_
              exact hF
      · have hF := hF.2 q
        refine g_aload_n dX12_breaksRing_75 rfl ?_
        refine g_getR dX12_breaksRing_76 fd_X12_45 sh_208 rfl ?_
        refine g_iload_n dX12_breaksRing_79 rfl ?_
        obtain ⟨hc, hF⟩ := hF
        refine g_iald dX12_breaksRing_80 sh_219 hc.1 hc.2 ?_
        refine g_aload_n dX12_breaksRing_81 rfl ?_
        refine g_getR dX12_breaksRing_82 fd_X12_45 sh_208 rfl ?_
        refine g_iload_n dX12_breaksRing_85 rfl ?_
        obtain ⟨hc, hF⟩ := hF
        refine g_iald dX12_breaksRing_86 sh_219 hc.1 hc.2 ?_
        refine g_cge dX12_breaksRing_87 rfl (fun q => ?_) (fun q => ?_)
        · have hF := hF.1 q
          refine g_aload_n dX12_breaksRing_92 rfl ?_
          refine g_aload_n dX12_breaksRing_93 rfl ?_
          refine g_getR dX12_breaksRing_94 fd_X12_45 sh_208 rfl ?_
          refine g_iload_n dX12_breaksRing_97 rfl ?_
          obtain ⟨hc, hF⟩ := hF
          refine g_iald dX12_breaksRing_98 sh_219 hc.1 hc.2 ?_
          refine gw_cVi (b := 208) (As := [g_I (D9 219 v3.toNat)]) (rest := []) dX12_breaksRing_99 mv_X12_242 sh_208 rfl (Nat.le_of_ble_eq_true rfl) (by decide) rfl hF ?_
          intro x12 D12 hx12 hF
          have hF := hF hx12
          refine g_iconst dX12_breaksRing_102 ⟨by decide, by decide⟩ ?_
          refine g_ceq dX12_breaksRing_103 rfl (fun q => ?_) (fun q => ?_)
          · have hF := hF.1 q
            obtain ⟨hc, hF⟩ := hF
            refine gw_iinc (L' := [some (g_R 208), some (g_I v1), some (g_I v2), some (g_I (v3 + 1))]) dX12_breaksRing_122 rfl hc (by decide) rfl ?_
            refine g_goto dX12_breaksRing_125 rfl ?_
            exact hF
          · have hF := hF.2 q
            refine g_iload_n dX12_breaksRing_106 rfl ?_
            refine g_iconst dX12_breaksRing_107 ⟨by decide, by decide⟩ ?_
            refine g_ceq dX12_breaksRing_108 rfl (fun q => ?_) (fun q => ?_)
            · have hF := hF.1 q
              refine g_iload_n dX12_breaksRing_120 rfl ?_
              refine gw_istore_n (L' := [some (g_R 208), some (g_I v3), some (g_I v2), some (g_I v3)]) dX12_breaksRing_121 (by decide) rfl ?_
              obtain ⟨hc, hF⟩ := hF
              refine gw_iinc (L' := [some (g_R 208), some (g_I v3), some (g_I v2), some (g_I (v3 + 1))]) dX12_breaksRing_122 rfl hc (by decide) rfl ?_
              refine g_goto dX12_breaksRing_125 rfl ?_
              exact hF
            · have hF := hF.2 q
              refine g_aload_n dX12_breaksRing_111 rfl ?_
              refine g_iload_n dX12_breaksRing_112 rfl ?_
              refine g_iload_n dX12_breaksRing_113 rfl ?_
              refine gw_cVi (b := 208) (As := [g_I v3, g_I v1]) (rest := []) dX12_breaksRing_114 mv_X12_245 sh_208 rfl (Nat.le_of_ble_eq_true rfl) (by decide) rfl hF ?_
              intro x13 D13 hx13 hF
              have hF := hF hx13
              refine g_ifeq dX12_breaksRing_117 rfl (fun q => ?_) (fun q => ?_)
              · have hF := hF.1 q
                obtain ⟨hc, hF⟩ := hF
                refine gw_iinc (L' := [some (g_R 208), some (g_I v1), some (g_I v2), some (g_I (v3 + 1))]) dX12_breaksRing_122 rfl hc (by decide) rfl ?_
                refine g_goto dX12_breaksRing_125 rfl ?_
                exact hF
              · have hF := hF.2 q
                refine g_iload_n dX12_breaksRing_120 rfl ?_
                refine gw_istore_n (L' := [some (g_R 208), some (g_I v3), some (g_I v2), some (g_I v3)]) dX12_breaksRing_121 (by decide) rfl ?_
                obtain ⟨hc, hF⟩ := hF
                refine gw_iinc (L' := [some (g_R 208), some (g_I v3), some (g_I v2), some (g_I (v3 + 1))]) dX12_breaksRing_122 rfl hc (by decide) rfl ?_
                refine g_goto dX12_breaksRing_125 rfl ?_
                exact hF
        · have hF := hF.2 q
          refine g_iload_n dX12_breaksRing_90 rfl ?_
          refine gw_istore_n (L' := [some (g_R 208), some (g_I v1), some (g_I v3), some (g_I v3)]) dX12_breaksRing_91 (by decide) rfl ?_
          refine g_aload_n dX12_breaksRing_92 rfl ?_
          refine g_aload_n dX12_breaksRing_93 rfl ?_
          refine g_getR dX12_breaksRing_94 fd_X12_45 sh_208 rfl ?_
          refine g_iload_n dX12_breaksRing_97 rfl ?_
          obtain ⟨hc, hF⟩ := hF
          refine g_iald dX12_breaksRing_98 sh_219 hc.1 hc.2 ?_
          refine gw_cVi (b := 208) (As := [g_I (D9 219 v3.toNat)]) (rest := []) dX12_breaksRing_99 mv_X12_242 sh_208 rfl (Nat.le_of_ble_eq_true rfl) (by decide) rfl hF ?_
          intro x14 D14 hx14 hF
          have hF := hF hx14
          refine g_iconst dX12_breaksRing_102 ⟨by decide, by decide⟩ ?_
          refine g_ceq dX12_breaksRing_103 rfl (fun q => ?_) (fun q => ?_)
          · have hF := hF.1 q
            obtain ⟨hc, hF⟩ := hF
            refine gw_iinc (L' := [some (g_R 208), some (g_I v1), some (g_I v3), some (g_I (v3 + 1))]) dX12_breaksRing_122 rfl hc (by decide) rfl ?_
            refine g_goto dX12_breaksRing_125 rfl ?_
            exact hF
          · have hF := hF.2 q
            refine g_iload_n dX12_breaksRing_106 rfl ?_
            refine g_iconst dX12_breaksRing_107 ⟨by decide, by decide⟩ ?_
            refine g_ceq dX12_breaksRing_108 rfl (fun q => ?_) (fun q => ?_)
            · have hF := hF.1 q
              refine g_iload_n dX12_breaksRing_120 rfl ?_
              refine gw_istore_n (L' := [some (g_R 208), some (g_I v3), some (g_I v3), some (g_I v3)]) dX12_breaksRing_121 (by decide) rfl ?_
              obtain ⟨hc, hF⟩ := hF
              refine gw_iinc (L' := [some (g_R 208), some (g_I v3), some (g_I v3), some (g_I (v3 + 1))]) dX12_breaksRing_122 rfl hc (by decide) rfl ?_
              refine g_goto dX12_breaksRing_125 rfl ?_
              exact hF
            · have hF := hF.2 q
              refine g_aload_n dX12_breaksRing_111 rfl ?_
              refine g_iload_n dX12_breaksRing_112 rfl ?_
              refine g_iload_n dX12_breaksRing_113 rfl ?_
              refine gw_cVi (b := 208) (As := [g_I v3, g_I v1]) (rest := []) dX12_breaksRing_114 mv_X12_245 sh_208 rfl (Nat.le_of_ble_eq_true rfl) (by decide) rfl hF ?_
              intro x15 D15 hx15 hF
              have hF := hF hx15
              refine g_ifeq dX12_breaksRing_117 rfl (fun q => ?_) (fun q => ?_)
              · have hF := hF.1 q
                obtain ⟨hc, hF⟩ := hF
                refine gw_iinc (L' := [some (g_R 208), some (g_I v1), some (g_I v3), some (g_I (v3 + 1))]) dX12_breaksRing_122 rfl hc (by decide) rfl ?_
                refine g_goto dX12_breaksRing_125 rfl ?_
                exact hF
              · have hF := hF.2 q
                refine g_iload_n dX12_breaksRing_120 rfl ?_
                refine gw_istore_n (L' := [some (g_R 208), some (g_I v3), some (g_I v3), some (g_I v3)]) dX12_breaksRing_121 (by decide) rfl ?_
                obtain ⟨hc, hF⟩ := hF
                refine gw_iinc (L' := [some (g_R 208), some (g_I v3), some (g_I v3), some (g_I (v3 + 1))]) dX12_breaksRing_122 rfl hc (by decide) rfl ?_
                refine g_goto dX12_breaksRing_125 rfl ?_
                exact hF
    · have hF := hF.2 q
      refine g_goto dX12_breaksRing_67 rfl ?_
      obtain ⟨hc, hF⟩ := hF
      refine gw_iinc (L' := [some (g_R 208), some (g_I v1), some (g_I v2), some (g_I (v3 + 1))]) dX12_breaksRing_122 rfl hc (by decide) rfl ?_
      refine g_goto dX12_breaksRing_125 rfl ?_
      exact hF
theorem dX12_laysByte_0 : decode cX12_laysByte 0 = .ok (.aload_n 0, 1) := by decide +kernel
theorem dX12_laysByte_1 : decode cX12_laysByte 1 = .ok (.getfield 81, 3) := by decide +kernel
theorem dX12_laysByte_4 : decode cX12_laysByte 4 = .ok (.aload_n 0, 1) := by decide +kernel
theorem dX12_laysByte_5 : decode cX12_laysByte 5 = .ok (.getfield 266, 3) := by decide +kernel
theorem dX12_laysByte_8 : decode cX12_laysByte 8 = .ok (.iload_n 1, 1) := by decide +kernel
theorem dX12_laysByte_9 : decode cX12_laysByte 9 = .ok (.iastore, 1) := by decide +kernel
theorem dX12_laysByte_10 : decode cX12_laysByte 10 = .ok (.aload_n 0, 1) := by decide +kernel
theorem dX12_laysByte_11 : decode cX12_laysByte 11 = .ok (.dup, 1) := by decide +kernel
theorem dX12_laysByte_12 : decode cX12_laysByte 12 = .ok (.getfield 266, 3) := by decide +kernel
theorem dX12_laysByte_15 : decode cX12_laysByte 15 = .ok (.iconst 1, 1) := by decide +kernel
theorem dX12_laysByte_16 : decode cX12_laysByte 16 = .ok (.iadd, 1) := by decide +kernel
theorem dX12_laysByte_17 : decode cX12_laysByte 17 = .ok (.putfield 266, 3) := by decide +kernel
theorem dX12_laysByte_20 : decode cX12_laysByte 20 = .ok (.return_, 1) := by decide +kernel
abbrev k_X12_laysByte (E : g_E) (l : Launch) (D : g_D) (v1 : Int) (K : g_D → Prop) : Prop := g_Kv E l m_X12_laysByte 0 [g_R 208, g_I v1] g_SH D K
abbrev n_X12_laysByte (E : g_E) (l : Launch) (D : g_D) (pc : Nat) (L : List (Option g_V)) (K : g_D → Prop) : Prop := g_N E l m_X12_laysByte 0 pc L [] g_SH D (g_Rv g_SH K)
theorem s_X12_laysByte {E : g_E} {l : Launch} {D : g_D} {K : g_D → Prop} {v1 : Int}  (hF : g_okD D → g_r v1 → (0 ≤ (D 208 27) ∧ (D 208 27) < 400) ∧ (∀ D1, D1 = g_up D 231 (D 208 27).toNat v1 → ((g_r ((D 208 27) + 1)) ∧ (∀ D2, D2 = g_up D1 208 27 ((D 208 27) + 1) → (K D2))))) : k_X12_laysByte E l D v1 K := by
  refine g_enter (by decide) (Nat.le_of_ble_eq_true rfl) ?_
  show g_N E l m_X12_laysByte 0 0 [some (g_R 208), some (g_I v1)] [] g_SH D (g_Rv g_SH K)
  refine g_use (fun ok => ?_)
  have hF := hF ok.2.1 (ok.loc (i := 1) rfl)
  refine g_aload_n dX12_laysByte_0 rfl ?_
  refine g_getR dX12_laysByte_1 fd_X12_81 sh_208 rfl ?_
  refine g_aload_n dX12_laysByte_4 rfl ?_
  refine g_getI dX12_laysByte_5 fd_X12_266 sh_208 rfl ?_
  refine g_iload_n dX12_laysByte_8 rfl ?_
  obtain ⟨hc, hF⟩ := hF
  let D1 : g_D := g_up D 231 (D 208 27).toNat v1
  have hF := hF D1 rfl
  refine g_iast dX12_laysByte_9 sh_231 hc.1 hc.2 ?_
  refine g_aload_n dX12_laysByte_10 rfl ?_
  refine g_dup dX12_laysByte_11 rfl ?_
  refine g_getI dX12_laysByte_12 fd_X12_266 sh_208 rfl ?_
  refine g_iconst dX12_laysByte_15 ⟨by decide, by decide⟩ ?_
  obtain ⟨hc, hF⟩ := hF
  refine g_iadd dX12_laysByte_16 hc ?_
  let D2 : g_D := g_up D1 208 27 ((D 208 27) + 1)
  have hF := hF D2 rfl
  refine g_put dX12_laysByte_17 fd_X12_266 (g_ftyI (C := RX12) (T := TX12) (N := 51) rfl rfl (by decide +kernel)) sh_208 rfl ?_
  exact gw_vret dX12_laysByte_20 rfl hF
theorem dX12_laysBytes_0 : decode cX12_laysBytes 0 = .ok (.aload_n 0, 1) := by decide +kernel
theorem dX12_laysBytes_1 : decode cX12_laysBytes 1 = .ok (.iconst 0, 1) := by decide +kernel
theorem dX12_laysBytes_2 : decode cX12_laysBytes 2 = .ok (.putfield 266, 3) := by decide +kernel
theorem dX12_laysBytes_5 : decode cX12_laysBytes 5 = .ok (.aload_n 0, 1) := by decide +kernel
theorem dX12_laysBytes_6 : decode cX12_laysBytes 6 = .ok (.aload_n 0, 1) := by decide +kernel
theorem dX12_laysBytes_7 : decode cX12_laysBytes 7 = .ok (.getfield 13, 3) := by decide +kernel
theorem dX12_laysBytes_10 : decode cX12_laysBytes 10 = .ok (.iconst 1, 1) := by decide +kernel
theorem dX12_laysBytes_11 : decode cX12_laysBytes 11 = .ok (.iaload, 1) := by decide +kernel
theorem dX12_laysBytes_12 : decode cX12_laysBytes 12 = .ok (.invokevirtual 269, 3) := by decide +kernel
theorem dX12_laysBytes_15 : decode cX12_laysBytes 15 = .ok (.iconst 0, 1) := by decide +kernel
theorem dX12_laysBytes_16 : decode cX12_laysBytes 16 = .ok (.istore_n 1, 1) := by decide +kernel
theorem dX12_laysBytes_17 : decode cX12_laysBytes 17 = .ok (.iload_n 1, 1) := by decide +kernel
theorem dX12_laysBytes_18 : decode cX12_laysBytes 18 = .ok (.aload_n 0, 1) := by decide +kernel
theorem dX12_laysBytes_19 : decode cX12_laysBytes 19 = .ok (.getfield 228, 3) := by decide +kernel
theorem dX12_laysBytes_22 : decode cX12_laysBytes 22 = .ok (.if_icmp .ge 173, 3) := by decide +kernel
theorem dX12_laysBytes_25 : decode cX12_laysBytes 25 = .ok (.aload_n 0, 1) := by decide +kernel
theorem dX12_laysBytes_26 : decode cX12_laysBytes 26 = .ok (.getfield 78, 3) := by decide +kernel
theorem dX12_laysBytes_29 : decode cX12_laysBytes 29 = .ok (.iload_n 1, 1) := by decide +kernel
theorem dX12_laysBytes_30 : decode cX12_laysBytes 30 = .ok (.iaload, 1) := by decide +kernel
theorem dX12_laysBytes_31 : decode cX12_laysBytes 31 = .ok (.istore_n 2, 1) := by decide +kernel
theorem dX12_laysBytes_32 : decode cX12_laysBytes 32 = .ok (.aload_n 0, 1) := by decide +kernel
theorem dX12_laysBytes_33 : decode cX12_laysBytes 33 = .ok (.aload_n 0, 1) := by decide +kernel
theorem dX12_laysBytes_34 : decode cX12_laysBytes 34 = .ok (.getfield 75, 3) := by decide +kernel
theorem dX12_laysBytes_37 : decode cX12_laysBytes 37 = .ok (.iload_n 1, 1) := by decide +kernel
theorem dX12_laysBytes_38 : decode cX12_laysBytes 38 = .ok (.iaload, 1) := by decide +kernel
theorem dX12_laysBytes_39 : decode cX12_laysBytes 39 = .ok (.invokevirtual 269, 3) := by decide +kernel
theorem dX12_laysBytes_42 : decode cX12_laysBytes 42 = .ok (.aload_n 0, 1) := by decide +kernel
theorem dX12_laysBytes_43 : decode cX12_laysBytes 43 = .ok (.aload_n 0, 1) := by decide +kernel
theorem dX12_laysBytes_44 : decode cX12_laysBytes 44 = .ok (.getfield 75, 3) := by decide +kernel
theorem dX12_laysBytes_47 : decode cX12_laysBytes 47 = .ok (.iload_n 1, 1) := by decide +kernel
theorem dX12_laysBytes_48 : decode cX12_laysBytes 48 = .ok (.iaload, 1) := by decide +kernel
theorem dX12_laysBytes_49 : decode cX12_laysBytes 49 = .ok (.iconst 1, 1) := by decide +kernel
theorem dX12_laysBytes_50 : decode cX12_laysBytes 50 = .ok (.if_icmp .ne 12, 3) := by decide +kernel
theorem dX12_laysBytes_53 : decode cX12_laysBytes 53 = .ok (.aload_n 0, 1) := by decide +kernel
theorem dX12_laysBytes_54 : decode cX12_laysBytes 54 = .ok (.getfield 42, 3) := by decide +kernel
theorem dX12_laysBytes_57 : decode cX12_laysBytes 57 = .ok (.iload_n 2, 1) := by decide +kernel
theorem dX12_laysBytes_58 : decode cX12_laysBytes 58 = .ok (.iaload, 1) := by decide +kernel
theorem dX12_laysBytes_59 : decode cX12_laysBytes 59 = .ok (.goto 9, 3) := by decide +kernel
theorem dX12_laysBytes_62 : decode cX12_laysBytes 62 = .ok (.aload_n 0, 1) := by decide +kernel
theorem dX12_laysBytes_63 : decode cX12_laysBytes 63 = .ok (.getfield 39, 3) := by decide +kernel
theorem dX12_laysBytes_66 : decode cX12_laysBytes 66 = .ok (.iload_n 2, 1) := by decide +kernel
theorem dX12_laysBytes_67 : decode cX12_laysBytes 67 = .ok (.iaload, 1) := by decide +kernel
theorem dX12_laysBytes_68 : decode cX12_laysBytes 68 = .ok (.invokevirtual 269, 3) := by decide +kernel
theorem dX12_laysBytes_71 : decode cX12_laysBytes 71 = .ok (.aload_n 0, 1) := by decide +kernel
theorem dX12_laysBytes_72 : decode cX12_laysBytes 72 = .ok (.getfield 75, 3) := by decide +kernel
theorem dX12_laysBytes_75 : decode cX12_laysBytes 75 = .ok (.iload_n 1, 1) := by decide +kernel
theorem dX12_laysBytes_76 : decode cX12_laysBytes 76 = .ok (.iaload, 1) := by decide +kernel
theorem dX12_laysBytes_77 : decode cX12_laysBytes 77 = .ok (.iconst 2, 1) := by decide +kernel
theorem dX12_laysBytes_78 : decode cX12_laysBytes 78 = .ok (.if_icmp .ne 13, 3) := by decide +kernel
theorem dX12_laysBytes_81 : decode cX12_laysBytes 81 = .ok (.aload_n 0, 1) := by decide +kernel
theorem dX12_laysBytes_82 : decode cX12_laysBytes 82 = .ok (.aload_n 0, 1) := by decide +kernel
theorem dX12_laysBytes_83 : decode cX12_laysBytes 83 = .ok (.getfield 42, 3) := by decide +kernel
theorem dX12_laysBytes_86 : decode cX12_laysBytes 86 = .ok (.iload_n 2, 1) := by decide +kernel
theorem dX12_laysBytes_87 : decode cX12_laysBytes 87 = .ok (.iaload, 1) := by decide +kernel
theorem dX12_laysBytes_88 : decode cX12_laysBytes 88 = .ok (.invokevirtual 269, 3) := by decide +kernel
theorem dX12_laysBytes_91 : decode cX12_laysBytes 91 = .ok (.aload_n 0, 1) := by decide +kernel
theorem dX12_laysBytes_92 : decode cX12_laysBytes 92 = .ok (.getfield 75, 3) := by decide +kernel
theorem dX12_laysBytes_95 : decode cX12_laysBytes 95 = .ok (.iload_n 1, 1) := by decide +kernel
theorem dX12_laysBytes_96 : decode cX12_laysBytes 96 = .ok (.iaload, 1) := by decide +kernel
theorem dX12_laysBytes_97 : decode cX12_laysBytes 97 = .ok (.iconst 3, 1) := by decide +kernel
theorem dX12_laysBytes_98 : decode cX12_laysBytes 98 = .ok (.if_icmp .ne 13, 3) := by decide +kernel
theorem dX12_laysBytes_101 : decode cX12_laysBytes 101 = .ok (.aload_n 0, 1) := by decide +kernel
theorem dX12_laysBytes_102 : decode cX12_laysBytes 102 = .ok (.aload_n 0, 1) := by decide +kernel
theorem dX12_laysBytes_103 : decode cX12_laysBytes 103 = .ok (.getfield 72, 3) := by decide +kernel
theorem dX12_laysBytes_106 : decode cX12_laysBytes 106 = .ok (.iload_n 2, 1) := by decide +kernel
theorem dX12_laysBytes_107 : decode cX12_laysBytes 107 = .ok (.iaload, 1) := by decide +kernel
theorem dX12_laysBytes_108 : decode cX12_laysBytes 108 = .ok (.invokevirtual 269, 3) := by decide +kernel
theorem dX12_laysBytes_111 : decode cX12_laysBytes 111 = .ok (.aload_n 0, 1) := by decide +kernel
theorem dX12_laysBytes_112 : decode cX12_laysBytes 112 = .ok (.aload_n 0, 1) := by decide +kernel
theorem dX12_laysBytes_113 : decode cX12_laysBytes 113 = .ok (.getfield 45, 3) := by decide +kernel
theorem dX12_laysBytes_116 : decode cX12_laysBytes 116 = .ok (.iload_n 2, 1) := by decide +kernel
theorem dX12_laysBytes_117 : decode cX12_laysBytes 117 = .ok (.iaload, 1) := by decide +kernel
theorem dX12_laysBytes_118 : decode cX12_laysBytes 118 = .ok (.invokevirtual 269, 3) := by decide +kernel
theorem dX12_laysBytes_121 : decode cX12_laysBytes 121 = .ok (.aload_n 0, 1) := by decide +kernel
theorem dX12_laysBytes_122 : decode cX12_laysBytes 122 = .ok (.getfield 75, 3) := by decide +kernel
theorem dX12_laysBytes_125 : decode cX12_laysBytes 125 = .ok (.iload_n 1, 1) := by decide +kernel
theorem dX12_laysBytes_126 : decode cX12_laysBytes 126 = .ok (.iaload, 1) := by decide +kernel
theorem dX12_laysBytes_127 : decode cX12_laysBytes 127 = .ok (.iconst 1, 1) := by decide +kernel
theorem dX12_laysBytes_128 : decode cX12_laysBytes 128 = .ok (.if_icmp .ne 13, 3) := by decide +kernel
theorem dX12_laysBytes_131 : decode cX12_laysBytes 131 = .ok (.aload_n 0, 1) := by decide +kernel
theorem dX12_laysBytes_132 : decode cX12_laysBytes 132 = .ok (.aload_n 0, 1) := by decide +kernel
theorem dX12_laysBytes_133 : decode cX12_laysBytes 133 = .ok (.getfield 72, 3) := by decide +kernel
theorem dX12_laysBytes_136 : decode cX12_laysBytes 136 = .ok (.iload_n 2, 1) := by decide +kernel
theorem dX12_laysBytes_137 : decode cX12_laysBytes 137 = .ok (.iaload, 1) := by decide +kernel
theorem dX12_laysBytes_138 : decode cX12_laysBytes 138 = .ok (.invokevirtual 269, 3) := by decide +kernel
theorem dX12_laysBytes_141 : decode cX12_laysBytes 141 = .ok (.iconst 0, 1) := by decide +kernel
theorem dX12_laysBytes_142 : decode cX12_laysBytes 142 = .ok (.istore_n 3, 1) := by decide +kernel
theorem dX12_laysBytes_143 : decode cX12_laysBytes 143 = .ok (.iload_n 3, 1) := by decide +kernel
theorem dX12_laysBytes_144 : decode cX12_laysBytes 144 = .ok (.aload_n 0, 1) := by decide +kernel
theorem dX12_laysBytes_145 : decode cX12_laysBytes 145 = .ok (.getfield 45, 3) := by decide +kernel
theorem dX12_laysBytes_148 : decode cX12_laysBytes 148 = .ok (.iload_n 2, 1) := by decide +kernel
theorem dX12_laysBytes_149 : decode cX12_laysBytes 149 = .ok (.iaload, 1) := by decide +kernel
theorem dX12_laysBytes_150 : decode cX12_laysBytes 150 = .ok (.if_icmp .ge 39, 3) := by decide +kernel
theorem dX12_laysBytes_153 : decode cX12_laysBytes 153 = .ok (.aload_n 0, 1) := by decide +kernel
theorem dX12_laysBytes_154 : decode cX12_laysBytes 154 = .ok (.getfield 75, 3) := by decide +kernel
theorem dX12_laysBytes_157 : decode cX12_laysBytes 157 = .ok (.iload_n 1, 1) := by decide +kernel
theorem dX12_laysBytes_158 : decode cX12_laysBytes 158 = .ok (.iaload, 1) := by decide +kernel
theorem dX12_laysBytes_159 : decode cX12_laysBytes 159 = .ok (.iconst 4, 1) := by decide +kernel
theorem dX12_laysBytes_160 : decode cX12_laysBytes 160 = .ok (.if_icmp .ne 29, 3) := by decide +kernel
theorem dX12_laysBytes_163 : decode cX12_laysBytes 163 = .ok (.aload_n 0, 1) := by decide +kernel
theorem dX12_laysBytes_164 : decode cX12_laysBytes 164 = .ok (.aload_n 0, 1) := by decide +kernel
theorem dX12_laysBytes_165 : decode cX12_laysBytes 165 = .ok (.getfield 13, 3) := by decide +kernel
theorem dX12_laysBytes_168 : decode cX12_laysBytes 168 = .ok (.bipush 46, 2) := by decide +kernel
theorem dX12_laysBytes_170 : decode cX12_laysBytes 170 = .ok (.aload_n 0, 1) := by decide +kernel
theorem dX12_laysBytes_171 : decode cX12_laysBytes 171 = .ok (.getfield 39, 3) := by decide +kernel
theorem dX12_laysBytes_174 : decode cX12_laysBytes 174 = .ok (.iload_n 2, 1) := by decide +kernel
theorem dX12_laysBytes_175 : decode cX12_laysBytes 175 = .ok (.iaload, 1) := by decide +kernel
theorem dX12_laysBytes_176 : decode cX12_laysBytes 176 = .ok (.iadd, 1) := by decide +kernel
theorem dX12_laysBytes_177 : decode cX12_laysBytes 177 = .ok (.iload_n 3, 1) := by decide +kernel
theorem dX12_laysBytes_178 : decode cX12_laysBytes 178 = .ok (.iadd, 1) := by decide +kernel
theorem dX12_laysBytes_179 : decode cX12_laysBytes 179 = .ok (.iaload, 1) := by decide +kernel
theorem dX12_laysBytes_180 : decode cX12_laysBytes 180 = .ok (.invokevirtual 269, 3) := by decide +kernel
theorem dX12_laysBytes_183 : decode cX12_laysBytes 183 = .ok (.iinc 3 1, 3) := by decide +kernel
theorem dX12_laysBytes_186 : decode cX12_laysBytes 186 = .ok (.goto (-43), 3) := by decide +kernel
theorem dX12_laysBytes_189 : decode cX12_laysBytes 189 = .ok (.iinc 1 1, 3) := by decide +kernel
theorem dX12_laysBytes_192 : decode cX12_laysBytes 192 = .ok (.goto (-175), 3) := by decide +kernel
theorem dX12_laysBytes_195 : decode cX12_laysBytes 195 = .ok (.return_, 1) := by decide +kernel
abbrev k_X12_laysBytes (E : g_E) (l : Launch) (D : g_D) (K : g_D → Prop) : Prop := g_Kv E l m_X12_laysBytes 1 [g_R 208] g_SH D K
abbrev n_X12_laysBytes (E : g_E) (l : Launch) (D : g_D) (pc : Nat) (L : List (Option g_V)) (K : g_D → Prop) : Prop := g_N E l m_X12_laysBytes 1 pc L [] g_SH D (g_Rv g_SH K)
theorem s_X12_laysBytes {E : g_E} {l : Launch} {D : g_D} {K : g_D → Prop}   (hF : g_okD D → ∀ D1, D1 = g_up D 208 27 0 → (k_X12_laysByte E l D1 (D 209 1) (fun D2 => n_X12_laysBytes E l D2 17 [some (g_R 208), some (g_I 0), none, none] K))) : k_X12_laysBytes E l D K := by
  refine g_enter (by decide) (Nat.le_of_ble_eq_true rfl) ?_
  show g_N E l m_X12_laysBytes 1 0 [some (g_R 208), none, none, none] [] g_SH D (g_Rv g_SH K)
  refine g_use (fun ok => ?_)
  have hF := hF ok.2.1
  refine g_aload_n dX12_laysBytes_0 rfl ?_
  refine g_iconst dX12_laysBytes_1 ⟨by decide, by decide⟩ ?_
  let D1 : g_D := g_up D 208 27 0
  have hF := hF D1 rfl
  refine g_put dX12_laysBytes_2 fd_X12_266 (g_ftyI (C := RX12) (T := TX12) (N := 51) rfl rfl (by decide +kernel)) sh_208 rfl ?_
  refine g_aload_n dX12_laysBytes_5 rfl ?_
  refine g_aload_n dX12_laysBytes_6 rfl ?_
  refine g_getR dX12_laysBytes_7 fd_X12_13 sh_208 rfl ?_
  refine g_iconst dX12_laysBytes_10 ⟨by decide, by decide⟩ ?_
  refine g_iald dX12_laysBytes_11 sh_209 (by decide) (by decide) ?_
  refine gw_cVv (b := 208) (As := [g_I (D 209 1)]) (rest := []) dX12_laysBytes_12 mv_X12_269 sh_208 rfl (Nat.le_of_ble_eq_true rfl) (by decide) rfl hF ?_
  intro D2 hF
  refine g_iconst dX12_laysBytes_15 ⟨by decide, by decide⟩ ?_
  refine gw_istore_n (L' := [some (g_R 208), some (g_I 0), none, none]) dX12_laysBytes_16 (by decide) rfl ?_
  exact hF
theorem s_X12_laysBytes_17 {E : g_E} {l : Launch} {D : g_D} {K : g_D → Prop} {v1 : Int}  (hF : g_okD D → g_r v1 → ((D 208 26) ≤ v1 → K D) ∧ (¬ (D 208 26) ≤ v1 → (0 ≤ v1 ∧ v1 < 80) ∧ ((0 ≤ v1 ∧ v1 < 80) ∧ (k_X12_laysByte E l D (D 229 v1.toNat) (fun D1 => (0 ≤ v1 ∧ v1 < 80) ∧ ((¬ (D1 229 v1.toNat) = 1 → (0 ≤ (D 230 v1.toNat) ∧ (D 230 v1.toNat) < 40) ∧ (k_X12_laysByte E l D1 (D1 217 (D 230 v1.toNat).toNat) (fun D2 => (0 ≤ v1 ∧ v1 < 80) ∧ ((¬ (D2 229 v1.toNat) = 2 → (0 ≤ v1 ∧ v1 < 80) ∧ ((¬ (D2 229 v1.toNat) = 3 → (0 ≤ (D 230 v1.toNat) ∧ (D 230 v1.toNat) < 40) ∧ (k_X12_laysByte E l D2 (D2 219 (D 230 v1.toNat).toNat) (fun D3 => (0 ≤ v1 ∧ v1 < 80) ∧ ((¬ (D3 229 v1.toNat) = 1 → n_X12_laysBytes E l D3 143 [some (g_R 208), some (g_I v1), some (g_I (D 230 v1.toNat)), some (g_I 0)] K) ∧ ((D3 229 v1.toNat) = 1 → (0 ≤ (D 230 v1.toNat) ∧ (D 230 v1.toNat) < 40) ∧ (k_X12_laysByte E l D3 (D3 228 (D 230 v1.toNat).toNat) (fun D4 => n_X12_laysBytes E l D4 143 [some (g_R 208), some (g_I v1), some (g_I (D 230 v1.toNat)), some (g_I 0)] K))))))) ∧ ((D2 229 v1.toNat) = 3 → (0 ≤ (D 230 v1.toNat) ∧ (D 230 v1.toNat) < 40) ∧ (k_X12_laysByte E l D2 (D2 228 (D 230 v1.toNat).toNat) (fun D5 => (0 ≤ (D 230 v1.toNat) ∧ (D 230 v1.toNat) < 40) ∧ (k_X12_laysByte E l D5 (D5 219 (D 230 v1.toNat).toNat) (fun D6 => (0 ≤ v1 ∧ v1 < 80) ∧ ((¬ (D6 229 v1.toNat) = 1 → n_X12_laysBytes E l D6 143 [some (g_R 208), some (g_I v1), some (g_I (D 230 v1.toNat)), some (g_I 0)] K) ∧ ((D6 229 v1.toNat) = 1 → (0 ≤ (D 230 v1.toNat) ∧ (D 230 v1.toNat) < 40) ∧ (k_X12_laysByte E l D6 (D6 228 (D 230 v1.toNat).toNat) (fun D7 => n_X12_laysBytes E l D7 143 [some (g_R 208), some (g_I v1), some (g_I (D 230 v1.toNat)), some (g_I 0)] K))))))))))) ∧ ((D2 229 v1.toNat) = 2 → (0 ≤ (D 230 v1.toNat) ∧ (D 230 v1.toNat) < 40) ∧ (k_X12_laysByte E l D2 (D2 218 (D 230 v1.toNat).toNat) (fun D8 => (0 ≤ v1 ∧ v1 < 80) ∧ ((¬ (D8 229 v1.toNat) = 3 → (0 ≤ (D 230 v1.toNat) ∧ (D 230 v1.toNat) < 40) ∧ (k_X12_laysByte E l D8 (D8 219 (D 230 v1.toNat).toNat) (fun D9 => (0 ≤ v1 ∧ v1 < 80) ∧ ((¬ (D9 229 v1.toNat) = 1 → n_X12_laysBytes E l D9 143 [some (g_R 208), some (g_I v1), some (g_I (D 230 v1.toNat)), some (g_I 0)] K) ∧ ((D9 229 v1.toNat) = 1 → (0 ≤ (D 230 v1.toNat) ∧ (D 230 v1.toNat) < 40) ∧ (k_X12_laysByte E l D9 (D9 228 (D 230 v1.toNat).toNat) (fun D10 => n_X12_laysBytes E l D10 143 [some (g_R 208), some (g_I v1), some (g_I (D 230 v1.toNat)), some (g_I 0)] K))))))) ∧ ((D8 229 v1.toNat) = 3 → (0 ≤ (D 230 v1.toNat) ∧ (D 230 v1.toNat) < 40) ∧ (k_X12_laysByte E l D8 (D8 228 (D 230 v1.toNat).toNat) (fun D11 => (0 ≤ (D 230 v1.toNat) ∧ (D 230 v1.toNat) < 40) ∧ (k_X12_laysByte E l D11 (D11 219 (D 230 v1.toNat).toNat) (fun D12 => (0 ≤ v1 ∧ v1 < 80) ∧ ((¬ (D12 229 v1.toNat) = 1 → n_X12_laysBytes E l D12 143 [some (g_R 208), some (g_I v1), some (g_I (D 230 v1.toNat)), some (g_I 0)] K) ∧ ((D12 229 v1.toNat) = 1 → (0 ≤ (D 230 v1.toNat) ∧ (D 230 v1.toNat) < 40) ∧ (k_X12_laysByte E l D12 (D12 228 (D 230 v1.toNat).toNat) (fun D13 => n_X12_laysBytes E l D13 143 [some (g_R 208), some (g_I v1), some (g_I (D 230 v1.toNat)), some (g_I 0)] K))))))))))))))))) ∧ ((D1 229 v1.toNat) = 1 → (0 ≤ (D 230 v1.toNat) ∧ (D 230 v1.toNat) < 40) ∧ (k_X12_laysByte E l D1 (D1 218 (D 230 v1.toNat).toNat) (fun D14 => (0 ≤ v1 ∧ v1 < 80) ∧ ((¬ (D14 229 v1.toNat) = 2 → (0 ≤ v1 ∧ v1 < 80) ∧ ((¬ (D14 229 v1.toNat) = 3 → (0 ≤ (D 230 v1.toNat) ∧ (D 230 v1.toNat) < 40) ∧ (k_X12_laysByte E l D14 (D14 219 (D 230 v1.toNat).toNat) (fun D15 => (0 ≤ v1 ∧ v1 < 80) ∧ ((¬ (D15 229 v1.toNat) = 1 → n_X12_laysBytes E l D15 143 [some (g_R 208), some (g_I v1), some (g_I (D 230 v1.toNat)), some (g_I 0)] K) ∧ ((D15 229 v1.toNat) = 1 → (0 ≤ (D 230 v1.toNat) ∧ (D 230 v1.toNat) < 40) ∧ (k_X12_laysByte E l D15 (D15 228 (D 230 v1.toNat).toNat) (fun D16 => n_X12_laysBytes E l D16 143 [some (g_R 208), some (g_I v1), some (g_I (D 230 v1.toNat)), some (g_I 0)] K))))))) ∧ ((D14 229 v1.toNat) = 3 → (0 ≤ (D 230 v1.toNat) ∧ (D 230 v1.toNat) < 40) ∧ (k_X12_laysByte E l D14 (D14 228 (D 230 v1.toNat).toNat) (fun D17 => (0 ≤ (D 230 v1.toNat) ∧ (D 230 v1.toNat) < 40) ∧ (k_X12_laysByte E l D17 (D17 219 (D 230 v1.toNat).toNat) (fun D18 => (0 ≤ v1 ∧ v1 < 80) ∧ ((¬ (D18 229 v1.toNat) = 1 → n_X12_laysBytes E l D18 143 [some (g_R 208), some (g_I v1), some (g_I (D 230 v1.toNat)), some (g_I 0)] K) ∧ ((D18 229 v1.toNat) = 1 → (0 ≤ (D 230 v1.toNat) ∧ (D 230 v1.toNat) < 40) ∧ (k_X12_laysByte E l D18 (D18 228 (D 230 v1.toNat).toNat) (fun D19 => n_X12_laysBytes E l D19 143 [some (g_R 208), some (g_I v1), some (g_I (D 230 v1.toNat)), some (g_I 0)] K))))))))))) ∧ ((D14 229 v1.toNat) = 2 → (0 ≤ (D 230 v1.toNat) ∧ (D 230 v1.toNat) < 40) ∧ (k_X12_laysByte E l D14 (D14 218 (D 230 v1.toNat).toNat) (fun D20 => (0 ≤ v1 ∧ v1 < 80) ∧ ((¬ (D20 229 v1.toNat) = 3 → (0 ≤ (D 230 v1.toNat) ∧ (D 230 v1.toNat) < 40) ∧ (k_X12_laysByte E l D20 (D20 219 (D 230 v1.toNat).toNat) (fun D21 => (0 ≤ v1 ∧ v1 < 80) ∧ ((¬ (D21 229 v1.toNat) = 1 → n_X12_laysBytes E l D21 143 [some (g_R 208), some (g_I v1), some (g_I (D 230 v1.toNat)), some (g_I 0)] K) ∧ ((D21 229 v1.toNat) = 1 → (0 ≤ (D 230 v1.toNat) ∧ (D 230 v1.toNat) < 40) ∧ (k_X12_laysByte E l D21 (D21 228 (D 230 v1.toNat).toNat) (fun D22 => n_X12_laysBytes E l D22 143 [some (g_R 208), some (g_I v1), some (g_I (D 230 v1.toNat)), some (g_I 0)] K))))))) ∧ ((D20 229 v1.toNat) = 3 → (0 ≤ (D 230 v1.toNat) ∧ (D 230 v1.toNat) < 40) ∧ (k_X12_laysByte E l D20 (D20 228 (D 230 v1.toNat).toNat) (fun D23 => (0 ≤ (D 230 v1.toNat) ∧ (D 230 v1.toNat) < 40) ∧ (k_X12_laysByte E l D23 (D23 219 (D 230 v1.toNat).toNat) (fun D24 => (0 ≤ v1 ∧ v1 < 80) ∧ ((¬ (D24 229 v1.toNat) = 1 → n_X12_laysBytes E l D24 143 [some (g_R 208), some (g_I v1), some (g_I (D 230 v1.toNat)), some (g_I 0)] K) ∧ ((D24 229 v1.toNat) = 1 → (0 ≤ (D 230 v1.toNat) ∧ (D 230 v1.toNat) < 40) ∧ (k_X12_laysByte E l D24 (D24 228 (D 230 v1.toNat).toNat) (fun D25 => n_X12_laysBytes E l D25 143 [some (g_R 208), some (g_I v1), some (g_I (D 230 v1.toNat)), some (g_I 0)] K))))))))))))))))))))))) : n_X12_laysBytes E l D 17 [some (g_R 208), some (g_I v1), none, none] K := by
  refine g_use (fun ok => ?_)
  have hF := hF ok.2.1 (ok.loc (i := 1) rfl)
  refine g_iload_n dX12_laysBytes_17 rfl ?_
  refine g_aload_n dX12_laysBytes_18 rfl ?_
  refine g_getI dX12_laysBytes_19 fd_X12_228 sh_208 rfl ?_
  refine g_cge dX12_laysBytes_22 rfl (fun q => ?_) (fun q => ?_)
  · have hF := hF.1 q
    exact gw_vret dX12_laysBytes_195 rfl hF
  · have hF := hF.2 q
    refine g_aload_n dX12_laysBytes_25 rfl ?_
    refine g_getR dX12_laysBytes_26 fd_X12_78 sh_208 rfl ?_
    refine g_iload_n dX12_laysBytes_29 rfl ?_
    obtain ⟨hc, hF⟩ := hF
    refine g_iald dX12_laysBytes_30 sh_230 hc.1 hc.2 ?_
    refine gw_istore_n (L' := [some (g_R 208), some (g_I v1), some (g_I (D 230 v1.toNat)), none]) dX12_laysBytes_31 (by decide) rfl ?_
    refine g_aload_n dX12_laysBytes_32 rfl ?_
    refine g_aload_n dX12_laysBytes_33 rfl ?_
    refine g_getR dX12_laysBytes_34 fd_X12_75 sh_208 rfl ?_
    refine g_iload_n dX12_laysBytes_37 rfl ?_
    obtain ⟨hc, hF⟩ := hF
    refine g_iald dX12_laysBytes_38 sh_229 hc.1 hc.2 ?_
    refine gw_cVv (b := 208) (As := [g_I (D 229 v1.toNat)]) (rest := []) dX12_laysBytes_39 mv_X12_269 sh_208 rfl (Nat.le_of_ble_eq_true rfl) (by decide) rfl hF ?_
    intro D1 hF
    refine g_aload_n dX12_laysBytes_42 rfl ?_
    refine g_aload_n dX12_laysBytes_43 rfl ?_
    refine g_getR dX12_laysBytes_44 fd_X12_75 sh_208 rfl ?_
    refine g_iload_n dX12_laysBytes_47 rfl ?_
    obtain ⟨hc, hF⟩ := hF
    refine g_iald dX12_laysBytes_48 sh_229 hc.1 hc.2 ?_
    refine g_iconst dX12_laysBytes_49 ⟨by decide, by decide⟩ ?_
    refine g_cne dX12_laysBytes_50 rfl (fun q => ?_) (fun q => ?_)
    · have hF := hF.1 q
      refine g_aload_n dX12_laysBytes_62 rfl ?_
      refine g_getR dX12_laysBytes_63 fd_X12_39 sh_208 rfl ?_
      refine g_iload_n dX12_laysBytes_66 rfl ?_
      obtain ⟨hc, hF⟩ := hF
      refine g_iald dX12_laysBytes_67 sh_217 hc.1 hc.2 ?_
      refine gw_cVv (b := 208) (As := [g_I (D1 217 (D 230 v1.toNat).toNat)]) (rest := []) dX12_laysBytes_68 mv_X12_269 sh_208 rfl (Nat.le_of_ble_eq_true rfl) (by decide) rfl hF ?_
      intro D2 hF
      refine g_aload_n dX12_laysBytes_71 rfl ?_
      refine g_getR dX12_laysBytes_72 fd_X12_75 sh_208 rfl ?_
      refine g_iload_n dX12_laysBytes_75 rfl ?_
      obtain ⟨hc, hF⟩ := hF
      refine g_iald dX12_laysBytes_76 sh_229 hc.1 hc.2 ?_
      refine g_iconst dX12_laysBytes_77 ⟨by decide, by decide⟩ ?_
      refine g_cne dX12_laysBytes_78 rfl (fun q => ?_) (fun q => ?_)
      · have hF := hF.1 q
        refine g_aload_n dX12_laysBytes_91 rfl ?_
        refine g_getR dX12_laysBytes_92 fd_X12_75 sh_208 rfl ?_
        refine g_iload_n dX12_laysBytes_95 rfl ?_
        obtain ⟨hc, hF⟩ := hF
        refine g_iald dX12_laysBytes_96 sh_229 hc.1 hc.2 ?_
        refine g_iconst dX12_laysBytes_97 ⟨by decide, by decide⟩ ?_
        refine g_cne dX12_laysBytes_98 rfl (fun q => ?_) (fun q => ?_)
        · have hF := hF.1 q
          refine g_aload_n dX12_laysBytes_111 rfl ?_
          refine g_aload_n dX12_laysBytes_112 rfl ?_
          refine g_getR dX12_laysBytes_113 fd_X12_45 sh_208 rfl ?_
          refine g_iload_n dX12_laysBytes_116 rfl ?_
          obtain ⟨hc, hF⟩ := hF
          refine g_iald dX12_laysBytes_117 sh_219 hc.1 hc.2 ?_
          refine gw_cVv (b := 208) (As := [g_I (D2 219 (D 230 v1.toNat).toNat)]) (rest := []) dX12_laysBytes_118 mv_X12_269 sh_208 rfl (Nat.le_of_ble_eq_true rfl) (by decide) rfl hF ?_
          intro D3 hF
          refine g_aload_n dX12_laysBytes_121 rfl ?_
          refine g_getR dX12_laysBytes_122 fd_X12_75 sh_208 rfl ?_
          refine g_iload_n dX12_laysBytes_125 rfl ?_
          obtain ⟨hc, hF⟩ := hF
          refine g_iald dX12_laysBytes_126 sh_229 hc.1 hc.2 ?_
          refine g_iconst dX12_laysBytes_127 ⟨by decide, by decide⟩ ?_
          refine g_cne dX12_laysBytes_128 rfl (fun q => ?_) (fun q => ?_)
          · have hF := hF.1 q
            refine g_iconst dX12_laysBytes_141 ⟨by decide, by decide⟩ ?_
            refine gw_istore_n (L' := [some (g_R 208), some (g_I v1), some (g_I (D 230 v1.toNat)), some (g_I 0)]) dX12_laysBytes_142 (by decide) rfl ?_
            exact hF
          · have hF := hF.2 q
            refine g_aload_n dX12_laysBytes_131 rfl ?_
            refine g_aload_n dX12_laysBytes_132 rfl ?_
            refine g_getR dX12_laysBytes_133 fd_X12_72 sh_208 rfl ?_
            refine g_iload_n dX12_laysBytes_136 rfl ?_
            obtain ⟨hc, hF⟩ := hF
            refine g_iald dX12_laysBytes_137 sh_228 hc.1 hc.2 ?_
            refine gw_cVv (b := 208) (As := [g_I (D3 228 (D 230 v1.toNat).toNat)]) (rest := []) dX12_laysBytes_138 mv_X12_269 sh_208 rfl (Nat.le_of_ble_eq_true rfl) (by decide) rfl hF ?_
            intro D4 hF
            refine g_iconst dX12_laysBytes_141 ⟨by decide, by decide⟩ ?_
            refine gw_istore_n (L' := [some (g_R 208), some (g_I v1), some (g_I (D 230 v1.toNat)), some (g_I 0)]) dX12_laysBytes_142 (by decide) rfl ?_
            exact hF
        · have hF := hF.2 q
          refine g_aload_n dX12_laysBytes_101 rfl ?_
          refine g_aload_n dX12_laysBytes_102 rfl ?_
          refine g_getR dX12_laysBytes_103 fd_X12_72 sh_208 rfl ?_
          refine g_iload_n dX12_laysBytes_106 rfl ?_
          obtain ⟨hc, hF⟩ := hF
          refine g_iald dX12_laysBytes_107 sh_228 hc.1 hc.2 ?_
          refine gw_cVv (b := 208) (As := [g_I (D2 228 (D 230 v1.toNat).toNat)]) (rest := []) dX12_laysBytes_108 mv_X12_269 sh_208 rfl (Nat.le_of_ble_eq_true rfl) (by decide) rfl hF ?_
          intro D5 hF
          refine g_aload_n dX12_laysBytes_111 rfl ?_
          refine g_aload_n dX12_laysBytes_112 rfl ?_
          refine g_getR dX12_laysBytes_113 fd_X12_45 sh_208 rfl ?_
          refine g_iload_n dX12_laysBytes_116 rfl ?_
          obtain ⟨hc, hF⟩ := hF
          refine g_iald dX12_laysBytes_117 sh_219 hc.1 hc.2 ?_
          refine gw_cVv (b := 208) (As := [g_I (D5 219 (D 230 v1.toNat).toNat)]) (rest := []) dX12_laysBytes_118 mv_X12_269 sh_208 rfl (Nat.le_of_ble_eq_true rfl) (by decide) rfl hF ?_
          intro D6 hF
          refine g_aload_n dX12_laysBytes_121 rfl ?_
          refine g_getR dX12_laysBytes_122 fd_X12_75 sh_208 rfl ?_
          refine g_iload_n dX12_laysBytes_125 rfl ?_
          obtain ⟨hc, hF⟩ := hF
          refine g_iald dX12_laysBytes_126 sh_229 hc.1 hc.2 ?_
          refine g_iconst dX12_laysBytes_127 ⟨by decide, by decide⟩ ?_
          refine g_cne dX12_laysBytes_128 rfl (fun q => ?_) (fun q => ?_)
          · have hF := hF.1 q
            refine g_iconst dX12_laysBytes_141 ⟨by decide, by decide⟩ ?_
            refine gw_istore_n (L' := [some (g_R 208), some (g_I v1), some (g_I (D 230 v1.toNat)), some (g_I 0)]) dX12_laysBytes_142 (by decide) rfl ?_
            exact hF
          · have hF := hF.2 q
            refine g_aload_n dX12_laysBytes_131 rfl ?_
            refine g_aload_n dX12_laysBytes_132 rfl ?_
            refine g_getR dX12_laysBytes_133 fd_X12_72 sh_208 rfl ?_
            refine g_iload_n dX12_laysBytes_136 rfl ?_
            obtain ⟨hc, hF⟩ := hF
            refine g_iald dX12_laysBytes_137 sh_228 hc.1 hc.2 ?_
            refine gw_cVv (b := 208) (As := [g_I (D6 228 (D 230 v1.toNat).toNat)]) (rest := []) dX12_laysBytes_138 mv_X12_269 sh_208 rfl (Nat.le_of_ble_eq_true rfl) (by decide) rfl hF ?_
            intro D7 hF
            refine g_iconst dX12_laysBytes_141 ⟨by decide, by decide⟩ ?_
            refine gw_istore_n (L' := [some (g_R 208), some (g_I v1), some (g_I (D 230 v1.toNat)), some (g_I 0)]) dX12_laysBytes_142 (by decide) rfl ?_
            exact hF
      · have hF := hF.2 q
        refine g_aload_n dX12_laysBytes_81 rfl ?_
        refine g_aload_n dX12_laysBytes_82 rfl ?_
        refine g_getR dX12_laysBytes_83 fd_X12_42 sh_208 rfl ?_
        refine g_iload_n dX12_laysBytes_86 rfl ?_
        obtain ⟨hc, hF⟩ := hF
        refine g_iald dX12_laysBytes_87 sh_218 hc.1 hc.2 ?_
        refine gw_cVv (b := 208) (As := [g_I (D2 218 (D 230 v1.toNat).toNat)]) (rest := []) dX12_laysBytes_88 mv_X12_269 sh_208 rfl (Nat.le_of_ble_eq_true rfl) (by decide) rfl hF ?_
        intro D8 hF
        refine g_aload_n dX12_laysBytes_91 rfl ?_
        refine g_getR dX12_laysBytes_92 fd_X12_75 sh_208 rfl ?_
        refine g_iload_n dX12_laysBytes_95 rfl ?_
        obtain ⟨hc, hF⟩ := hF
        refine g_iald dX12_laysBytes_96 sh_229 hc.1 hc.2 ?_
        refine g_iconst dX12_laysBytes_97 ⟨by decide, by decide⟩ ?_
        refine g_cne dX12_laysBytes_98 rfl (fun q => ?_) (fun q => ?_)
        · have hF := hF.1 q
          refine g_aload_n dX12_laysBytes_111 rfl ?_
          refine g_aload_n dX12_laysBytes_112 rfl ?_
          refine g_getR dX12_laysBytes_113 fd_X12_45 sh_208 rfl ?_
          refine g_iload_n dX12_laysBytes_116 rfl ?_
          obtain ⟨hc, hF⟩ := hF
          refine g_iald dX12_laysBytes_117 sh_219 hc.1 hc.2 ?_
          refine gw_cVv (b := 208) (As := [g_I (D8 219 (D 230 v1.toNat).toNat)]) (rest := []) dX12_laysBytes_118 mv_X12_269 sh_208 rfl (Nat.le_of_ble_eq_true rfl) (by decide) rfl hF ?_
          intro D9 hF
          refine g_aload_n dX12_laysBytes_121 rfl ?_
          refine g_getR dX12_laysBytes_122 fd_X12_75 sh_208 rfl ?_
          refine g_iload_n dX12_laysBytes_125 rfl ?_
          obtain ⟨hc, hF⟩ := hF
          refine g_iald dX12_laysBytes_126 sh_229 hc.1 hc.2 ?_
          refine g_iconst dX12_laysBytes_127 ⟨by decide, by decide⟩ ?_
          refine g_cne dX12_laysBytes_128 rfl (fun q => ?_) (fun q => ?_)
          · have hF := hF.1 q
            refine g_iconst dX12_laysBytes_141 ⟨by decide, by decide⟩ ?_
            refine gw_istore_n (L' := [some (g_R 208), some (g_I v1), some (g_I (D 230 v1.toNat)), some (g_I 0)]) dX12_laysBytes_142 (by decide) rfl ?_
            exact hF
          · have hF := hF.2 q
            refine g_aload_n dX12_laysBytes_131 rfl ?_
            refine g_aload_n dX12_laysBytes_132 rfl ?_
            refine g_getR dX12_laysBytes_133 fd_X12_72 sh_208 rfl ?_
            refine g_iload_n dX12_laysBytes_136 rfl ?_
            obtain ⟨hc, hF⟩ := hF
            refine g_iald dX12_laysBytes_137 sh_228 hc.1 hc.2 ?_
            refine gw_cVv (b := 208) (As := [g_I (D9 228 (D 230 v1.toNat).toNat)]) (rest := []) dX12_laysBytes_138 mv_X12_269 sh_208 rfl (Nat.le_of_ble_eq_true rfl) (by decide) rfl hF ?_
            intro D10 hF
            refine g_iconst dX12_laysBytes_141 ⟨by decide, by decide⟩ ?_
            refine gw_istore_n (L' := [some (g_R 208), some (g_I v1), some (g_I (D 230 v1.toNat)), some (g_I 0)]) dX12_laysBytes_142 (by decide) rfl ?_
            exact hF
        · have hF := hF.2 q
          refine g_aload_n dX12_laysBytes_101 rfl ?_
          refine g_aload_n dX12_laysBytes_102 rfl ?_
          refine g_getR dX12_laysBytes_103 fd_X12_72 sh_208 rfl ?_
          refine g_iload_n dX12_laysBytes_106 rfl ?_
          obtain ⟨hc, hF⟩ := hF
          refine g_iald dX12_laysBytes_107 sh_228 hc.1 hc.2 ?_
          refine gw_cVv (b := 208) (As := [g_I (D8 228 (D 230 v1.toNat).toNat)]) (rest := []) dX12_laysBytes_108 mv_X12_269 sh_208 rfl (Nat.le_of_ble_eq_true rfl) (by decide) rfl hF ?_
          intro D11 hF
          refine g_aload_n dX12_laysBytes_111 rfl ?_
          refine g_aload_n dX12_laysBytes_112 rfl ?_
          refine g_getR dX12_laysBytes_113 fd_X12_45 sh_208 rfl ?_
          refine g_iload_n dX12_laysBytes_116 rfl ?_
          obtain ⟨hc, hF⟩ := hF
          refine g_iald dX12_laysBytes_117 sh_219 hc.1 hc.2 ?_
          refine gw_cVv (b := 208) (As := [g_I (D11 219 (D 230 v1.toNat).toNat)]) (rest := []) dX12_laysBytes_118 mv_X12_269 sh_208 rfl (Nat.le_of_ble_eq_true rfl) (by decide) rfl hF ?_
          intro D12 hF
          refine g_aload_n dX12_laysBytes_121 rfl ?_
          refine g_getR dX12_laysBytes_122 fd_X12_75 sh_208 rfl ?_
          refine g_iload_n dX12_laysBytes_125 rfl ?_
          obtain ⟨hc, hF⟩ := hF
          refine g_iald dX12_laysBytes_126 sh_229 hc.1 hc.2 ?_
          refine g_iconst dX12_laysBytes_127 ⟨by decide, by decide⟩ ?_
          refine g_cne dX12_laysBytes_128 rfl (fun q => ?_) (fun q => ?_)
          · have hF := hF.1 q
            refine g_iconst dX12_laysBytes_141 ⟨by decide, by decide⟩ ?_
            refine gw_istore_n (L' := [some (g_R 208), some (g_I v1), some (g_I (D 230 v1.toNat)), some (g_I 0)]) dX12_laysBytes_142 (by decide) rfl ?_
            exact hF
          · have hF := hF.2 q
            refine g_aload_n dX12_laysBytes_131 rfl ?_
            refine g_aload_n dX12_laysBytes_132 rfl ?_
            refine g_getR dX12_laysBytes_133 fd_X12_72 sh_208 rfl ?_
            refine g_iload_n dX12_laysBytes_136 rfl ?_
            obtain ⟨hc, hF⟩ := hF
            refine g_iald dX12_laysBytes_137 sh_228 hc.1 hc.2 ?_
            refine gw_cVv (b := 208) (As := [g_I (D12 228 (D 230 v1.toNat).toNat)]) (rest := []) dX12_laysBytes_138 mv_X12_269 sh_208 rfl (Nat.le_of_ble_eq_true rfl) (by decide) rfl hF ?_
            intro D13 hF
            refine g_iconst dX12_laysBytes_141 ⟨by decide, by decide⟩ ?_
            refine gw_istore_n (L' := [some (g_R 208), some (g_I v1), some (g_I (D 230 v1.toNat)), some (g_I 0)]) dX12_laysBytes_142 (by decide) rfl ?_
            exact hF
    · have hF := hF.2 q
      refine g_aload_n dX12_laysBytes_53 rfl ?_
      refine g_getR dX12_laysBytes_54 fd_X12_42 sh_208 rfl ?_
      refine g_iload_n dX12_laysBytes_57 rfl ?_
      obtain ⟨hc, hF⟩ := hF
      refine g_iald dX12_laysBytes_58 sh_218 hc.1 hc.2 ?_
      refine g_goto dX12_laysBytes_59 rfl ?_
      refine gw_cVv (b := 208) (As := [g_I (D1 218 (D 230 v1.toNat).toNat)]) (rest := []) dX12_laysBytes_68 mv_X12_269 sh_208 rfl (Nat.le_of_ble_eq_true rfl) (by decide) rfl hF ?_
      intro D14 hF
      refine g_aload_n dX12_laysBytes_71 rfl ?_
      refine g_getR dX12_laysBytes_72 fd_X12_75 sh_208 rfl ?_
      refine g_iload_n dX12_laysBytes_75 rfl ?_
      obtain ⟨hc, hF⟩ := hF
      refine g_iald dX12_laysBytes_76 sh_229 hc.1 hc.2 ?_
      refine g_iconst dX12_laysBytes_77 ⟨by decide, by decide⟩ ?_
      refine g_cne dX12_laysBytes_78 rfl (fun q => ?_) (fun q => ?_)
      · have hF := hF.1 q
        refine g_aload_n dX12_laysBytes_91 rfl ?_
        refine g_getR dX12_laysBytes_92 fd_X12_75 sh_208 rfl ?_
        refine g_iload_n dX12_laysBytes_95 rfl ?_
        obtain ⟨hc, hF⟩ := hF
        refine g_iald dX12_laysBytes_96 sh_229 hc.1 hc.2 ?_
        refine g_iconst dX12_laysBytes_97 ⟨by decide, by decide⟩ ?_
        refine g_cne dX12_laysBytes_98 rfl (fun q => ?_) (fun q => ?_)
        · have hF := hF.1 q
          refine g_aload_n dX12_laysBytes_111 rfl ?_
          refine g_aload_n dX12_laysBytes_112 rfl ?_
          refine g_getR dX12_laysBytes_113 fd_X12_45 sh_208 rfl ?_
          refine g_iload_n dX12_laysBytes_116 rfl ?_
          obtain ⟨hc, hF⟩ := hF
          refine g_iald dX12_laysBytes_117 sh_219 hc.1 hc.2 ?_
          refine gw_cVv (b := 208) (As := [g_I (D14 219 (D 230 v1.toNat).toNat)]) (rest := []) dX12_laysBytes_118 mv_X12_269 sh_208 rfl (Nat.le_of_ble_eq_true rfl) (by decide) rfl hF ?_
          intro D15 hF
          refine g_aload_n dX12_laysBytes_121 rfl ?_
          refine g_getR dX12_laysBytes_122 fd_X12_75 sh_208 rfl ?_
          refine g_iload_n dX12_laysBytes_125 rfl ?_
          obtain ⟨hc, hF⟩ := hF
          refine g_iald dX12_laysBytes_126 sh_229 hc.1 hc.2 ?_
          refine g_iconst dX12_laysBytes_127 ⟨by decide, by decide⟩ ?_
          refine g_cne dX12_laysBytes_128 rfl (fun q => ?_) (fun q => ?_)
          · have hF := hF.1 q
            refine g_iconst dX12_laysBytes_141 ⟨by decide, by decide⟩ ?_
            refine gw_istore_n (L' := [some (g_R 208), some (g_I v1), some (g_I (D 230 v1.toNat)), some (g_I 0)]) dX12_laysBytes_142 (by decide) rfl ?_
            exact hF
          · have hF := hF.2 q
            refine g_aload_n dX12_laysBytes_131 rfl ?_
            refine g_aload_n dX12_laysBytes_132 rfl ?_
            refine g_getR dX12_laysBytes_133 fd_X12_72 sh_208 rfl ?_
            refine g_iload_n dX12_laysBytes_136 rfl ?_
            obtain ⟨hc, hF⟩ := hF
            refine g_iald dX12_laysBytes_137 sh_228 hc.1 hc.2 ?_
            refine gw_cVv (b := 208) (As := [g_I (D15 228 (D 230 v1.toNat).toNat)]) (rest := []) dX12_laysBytes_138 mv_X12_269 sh_208 rfl (Nat.le_of_ble_eq_true rfl) (by decide) rfl hF ?_
            intro D16 hF
            refine g_iconst dX12_laysBytes_141 ⟨by decide, by decide⟩ ?_
            refine gw_istore_n (L' := [some (g_R 208), some (g_I v1), some (g_I (D 230 v1.toNat)), some (g_I 0)]) dX12_laysBytes_142 (by decide) rfl ?_
            exact hF
        · have hF := hF.2 q
          refine g_aload_n dX12_laysBytes_101 rfl ?_
          refine g_aload_n dX12_laysBytes_102 rfl ?_
          refine g_getR dX12_laysBytes_103 fd_X12_72 sh_208 rfl ?_
          refine g_iload_n dX12_laysBytes_106 rfl ?_
          obtain ⟨hc, hF⟩ := hF
          refine g_iald dX12_laysBytes_107 sh_228 hc.1 hc.2 ?_
          refine gw_cVv (b := 208) (As := [g_I (D14 228 (D 230 v1.toNat).toNat)]) (rest := []) dX12_laysBytes_108 mv_X12_269 sh_208 rfl (Nat.le_of_ble_eq_true rfl) (by decide) rfl hF ?_
          intro D17 hF
          refine g_aload_n dX12_laysBytes_111 rfl ?_
          refine g_aload_n dX12_laysBytes_112 rfl ?_
          refine g_getR dX12_laysBytes_113 fd_X12_45 sh_208 rfl ?_
          refine g_iload_n dX12_laysBytes_116 rfl ?_
          obtain ⟨hc, hF⟩ := hF
          refine g_iald dX12_laysBytes_117 sh_219 hc.1 hc.2 ?_
          refine gw_cVv (b := 208) (As := [g_I (D17 219 (D 230 v1.toNat).toNat)]) (rest := []) dX12_laysBytes_118 mv_X12_269 sh_208 rfl (Nat.le_of_ble_eq_true rfl) (by decide) rfl hF ?_
          intro D18 hF
          refine g_aload_n dX12_laysBytes_121 rfl ?_
          refine g_getR dX12_laysBytes_122 fd_X12_75 sh_208 rfl ?_
          refine g_iload_n dX12_laysBytes_125 rfl ?_
          obtain ⟨hc, hF⟩ := hF
          refine g_iald dX12_laysBytes_126 sh_229 hc.1 hc.2 ?_
          refine g_iconst dX12_laysBytes_127 ⟨by decide, by decide⟩ ?_
          refine g_cne dX12_laysBytes_128 rfl (fun q => ?_) (fun q => ?_)
          · have hF := hF.1 q
            refine g_iconst dX12_laysBytes_141 ⟨by decide, by decide⟩ ?_
            refine gw_istore_n (L' := [some (g_R 208), some (g_I v1), some (g_I (D 230 v1.toNat)), some (g_I 0)]) dX12_laysBytes_142 (by decide) rfl ?_
            exact hF
          · have hF := hF.2 q
            refine g_aload_n dX12_laysBytes_131 rfl ?_
            refine g_aload_n dX12_laysBytes_132 rfl ?_
            refine g_getR dX12_laysBytes_133 fd_X12_72 sh_208 rfl ?_
            refine g_iload_n dX12_laysBytes_136 rfl ?_
            obtain ⟨hc, hF⟩ := hF
            refine g_iald dX12_laysBytes_137 sh_228 hc.1 hc.2 ?_
            refine gw_cVv (b := 208) (As := [g_I (D18 228 (D 230 v1.toNat).toNat)]) (rest := []) dX12_laysBytes_138 mv_X12_269 sh_208 rfl (Nat.le_of_ble_eq_true rfl) (by decide) rfl hF ?_
            intro D19 hF
            refine g_iconst dX12_laysBytes_141 ⟨by decide, by decide⟩ ?_
            refine gw_istore_n (L' := [some (g_R 208), some (g_I v1), some (g_I (D 230 v1.toNat)), some (g_I 0)]) dX12_laysBytes_142 (by decide) rfl ?_
            exact hF
      · have hF := hF.2 q
        refine g_aload_n dX12_laysBytes_81 rfl ?_
        refine g_aload_n dX12_laysBytes_82 rfl ?_
        refine g_getR dX12_laysBytes_83 fd_X12_42 sh_208 rfl ?_
        refine g_iload_n dX12_laysBytes_86 rfl ?_
        obtain ⟨hc, hF⟩ := hF
        refine g_iald dX12_laysBytes_87 sh_218 hc.1 hc.2 ?_
        refine gw_cVv (b := 208) (As := [g_I (D14 218 (D 230 v1.toNat).toNat)]) (rest := []) dX12_laysBytes_88 mv_X12_269 sh_208 rfl (Nat.le_of_ble_eq_true rfl) (by decide) rfl hF ?_
        intro D20 hF
        refine g_aload_n dX12_laysBytes_91 rfl ?_
        refine g_getR dX12_laysBytes_92 fd_X12_75 sh_208 rfl ?_
        refine g_iload_n dX12_laysBytes_95 rfl ?_
        obtain ⟨hc, hF⟩ := hF
        refine g_iald dX12_laysBytes_96 sh_229 hc.1 hc.2 ?_
        refine g_iconst dX12_laysBytes_97 ⟨by decide, by decide⟩ ?_
        refine g_cne dX12_laysBytes_98 rfl (fun q => ?_) (fun q => ?_)
        · have hF := hF.1 q
          refine g_aload_n dX12_laysBytes_111 rfl ?_
          refine g_aload_n dX12_laysBytes_112 rfl ?_
          refine g_getR dX12_laysBytes_113 fd_X12_45 sh_208 rfl ?_
          refine g_iload_n dX12_laysBytes_116 rfl ?_
          obtain ⟨hc, hF⟩ := hF
          refine g_iald dX12_laysBytes_117 sh_219 hc.1 hc.2 ?_
          refine gw_cVv (b := 208) (As := [g_I (D20 219 (D 230 v1.toNat).toNat)]) (rest := []) dX12_laysBytes_118 mv_X12_269 sh_208 rfl (Nat.le_of_ble_eq_true rfl) (by decide) rfl hF ?_
          intro D21 hF
          refine g_aload_n dX12_laysBytes_121 rfl ?_
          refine g_getR dX12_laysBytes_122 fd_X12_75 sh_208 rfl ?_
          refine g_iload_n dX12_laysBytes_125 rfl ?_
          obtain ⟨hc, hF⟩ := hF
          refine g_iald dX12_laysBytes_126 sh_229 hc.1 hc.2 ?_
          refine g_iconst dX12_laysBytes_127 ⟨by decide, by decide⟩ ?_
          refine g_cne dX12_laysBytes_128 rfl (fun q => ?_) (fun q => ?_)
          · have hF := hF.1 q
            refine g_iconst dX12_laysBytes_141 ⟨by decide, by decide⟩ ?_
            refine gw_istore_n (L' := [some (g_R 208), some (g_I v1), some (g_I (D 230 v1.toNat)), some (g_I 0)]) dX12_laysBytes_142 (by decide) rfl ?_
            exact hF
          · have hF := hF.2 q
            refine g_aload_n dX12_laysBytes_131 rfl ?_
            refine g_aload_n dX12_laysBytes_132 rfl ?_
            refine g_getR dX12_laysBytes_133 fd_X12_72 sh_208 rfl ?_
            refine g_iload_n dX12_laysBytes_136 rfl ?_
            obtain ⟨hc, hF⟩ := hF
            refine g_iald dX12_laysBytes_137 sh_228 hc.1 hc.2 ?_
            refine gw_cVv (b := 208) (As := [g_I (D21 228 (D 230 v1.toNat).toNat)]) (rest := []) dX12_laysBytes_138 mv_X12_269 sh_208 rfl (Nat.le_of_ble_eq_true rfl) (by decide) rfl hF ?_
            intro D22 hF
            refine g_iconst dX12_laysBytes_141 ⟨by decide, by decide⟩ ?_
            refine gw_istore_n (L' := [some (g_R 208), some (g_I v1), some (g_I (D 230 v1.toNat)), some (g_I 0)]) dX12_laysBytes_142 (by decide) rfl ?_
            exact hF
        · have hF := hF.2 q
          refine g_aload_n dX12_laysBytes_101 rfl ?_
          refine g_aload_n dX12_laysBytes_102 rfl ?_
          refine g_getR dX12_laysBytes_103 fd_X12_72 sh_208 rfl ?_
          refine g_iload_n dX12_laysBytes_106 rfl ?_
          obtain ⟨hc, hF⟩ := hF
          refine g_iald dX12_laysBytes_107 sh_228 hc.1 hc.2 ?_
          refine gw_cVv (b := 208) (As := [g_I (D20 228 (D 230 v1.toNat).toNat)]) (rest := []) dX12_laysBytes_108 mv_X12_269 sh_208 rfl (Nat.le_of_ble_eq_true rfl) (by decide) rfl hF ?_
          intro D23 hF
          refine g_aload_n dX12_laysBytes_111 rfl ?_
          refine g_aload_n dX12_laysBytes_112 rfl ?_
          refine g_getR dX12_laysBytes_113 fd_X12_45 sh_208 rfl ?_
          refine g_iload_n dX12_laysBytes_116 rfl ?_
          obtain ⟨hc, hF⟩ := hF
          refine g_iald dX12_laysBytes_117 sh_219 hc.1 hc.2 ?_
          refine gw_cVv (b := 208) (As := [g_I (D23 219 (D 230 v1.toNat).toNat)]) (rest := []) dX12_laysBytes_118 mv_X12_269 sh_208 rfl (Nat.le_of_ble_eq_true rfl) (by decide) rfl hF ?_
          intro D24 hF
          refine g_aload_n dX12_laysBytes_121 rfl ?_
          refine g_getR dX12_laysBytes_122 fd_X12_75 sh_208 rfl ?_
          refine g_iload_n dX12_laysBytes_125 rfl ?_
          obtain ⟨hc, hF⟩ := hF
          refine g_iald dX12_laysBytes_126 sh_229 hc.1 hc.2 ?_
          refine g_iconst dX12_laysBytes_127 ⟨by decide, by decide⟩ ?_
          refine g_cne dX12_laysBytes_128 rfl (fun q => ?_) (fun q => ?_)
          · have hF := hF.1 q
            refine g_iconst dX12_laysBytes_141 ⟨by decide, by decide⟩ ?_
            refine gw_istore_n (L' := [some (g_R 208), some (g_I v1), some (g_I (D 230 v1.toNat)), some (g_I 0)]) dX12_laysBytes_142 (by decide) rfl ?_
            exact hF
          · have hF := hF.2 q
            refine g_aload_n dX12_laysBytes_131 rfl ?_
            refine g_aload_n dX12_laysBytes_132 rfl ?_
            refine g_getR dX12_laysBytes_133 fd_X12_72 sh_208 rfl ?_
            refine g_iload_n dX12_laysBytes_136 rfl ?_
            obtain ⟨hc, hF⟩ := hF
            refine g_iald dX12_laysBytes_137 sh_228 hc.1 hc.2 ?_
            refine gw_cVv (b := 208) (As := [g_I (D24 228 (D 230 v1.toNat).toNat)]) (rest := []) dX12_laysBytes_138 mv_X12_269 sh_208 rfl (Nat.le_of_ble_eq_true rfl) (by decide) rfl hF ?_
            intro D25 hF
            refine g_iconst dX12_laysBytes_141 ⟨by decide, by decide⟩ ?_
            refine gw_istore_n (L' := [some (g_R 208), some (g_I v1), some (g_I (D 230 v1.toNat)), some (g_I 0)]) dX12_laysBytes_142 (by decide) rfl ?_
            exact hF
theorem s_X12_laysBytes_143 {E : g_E} {l : Launch} {D : g_D} {K : g_D → Prop} {v1 : Int} {v2 : Int} {v3 : Int}  (hF : g_okD D → g_r v1 → g_r v2 → g_r v3 → (0 ≤ v2 ∧ v2 < 40) ∧ (((D 219 v2.toNat) ≤ v3 → (g_r (v1 + 1)) ∧ (n_X12_laysBytes E l D 17 [some (g_R 208), some (g_I (v1 + 1)), none, none] K)) ∧ (¬ (D 219 v2.toNat) ≤ v3 → (0 ≤ v1 ∧ v1 < 80) ∧ ((¬ (D 229 v1.toNat) = 4 → (g_r (v1 + 1)) ∧ (n_X12_laysBytes E l D 17 [some (g_R 208), some (g_I (v1 + 1)), none, none] K)) ∧ ((D 229 v1.toNat) = 4 → (0 ≤ v2 ∧ v2 < 40) ∧ ((g_r (46 + (D 217 v2.toNat))) ∧ ((g_r ((46 + (D 217 v2.toNat)) + v3)) ∧ ((0 ≤ ((46 + (D 217 v2.toNat)) + v3) ∧ ((46 + (D 217 v2.toNat)) + v3) < 1557) ∧ (k_X12_laysByte E l D (D 209 ((46 + (D 217 v2.toNat)) + v3).toNat) (fun D1 => (g_r (v3 + 1)) ∧ (n_X12_laysBytes E l D1 143 [some (g_R 208), some (g_I v1), some (g_I v2), some (g_I (v3 + 1))] K))))))))))) : n_X12_laysBytes E l D 143 [some (g_R 208), some (g_I v1), some (g_I v2), some (g_I v3)] K := by
  refine g_use (fun ok => ?_)
  have hF := hF ok.2.1 (ok.loc (i := 1) rfl) (ok.loc (i := 2) rfl) (ok.loc (i := 3) rfl)
  refine g_iload_n dX12_laysBytes_143 rfl ?_
  refine g_aload_n dX12_laysBytes_144 rfl ?_
  refine g_getR dX12_laysBytes_145 fd_X12_45 sh_208 rfl ?_
  refine g_iload_n dX12_laysBytes_148 rfl ?_
  obtain ⟨hc, hF⟩ := hF
  refine g_iald dX12_laysBytes_149 sh_219 hc.1 hc.2 ?_
  refine g_cge dX12_laysBytes_150 rfl (fun q => ?_) (fun q => ?_)
  · have hF := hF.1 q
    obtain ⟨hc, hF⟩ := hF
    refine gw_iinc (L' := [some (g_R 208), some (g_I (v1 + 1)), some (g_I v2), some (g_I v3)]) dX12_laysBytes_189 rfl hc (by decide) rfl ?_
    refine g_goto dX12_laysBytes_192 rfl ?_
    exact g_forget (L' := [some (g_R 208), some (g_I (v1 + 1)), none, none]) ⟨rfl, ⟨rfl, trivial⟩⟩ hF
  · have hF := hF.2 q
    refine g_aload_n dX12_laysBytes_153 rfl ?_
    refine g_getR dX12_laysBytes_154 fd_X12_75 sh_208 rfl ?_
    refine g_iload_n dX12_laysBytes_157 rfl ?_
    obtain ⟨hc, hF⟩ := hF
    refine g_iald dX12_laysBytes_158 sh_229 hc.1 hc.2 ?_
    refine g_iconst dX12_laysBytes_159 ⟨by decide, by decide⟩ ?_
    refine g_cne dX12_laysBytes_160 rfl (fun q => ?_) (fun q => ?_)
    · have hF := hF.1 q
      obtain ⟨hc, hF⟩ := hF
      refine gw_iinc (L' := [some (g_R 208), some (g_I (v1 + 1)), some (g_I v2), some (g_I v3)]) dX12_laysBytes_189 rfl hc (by decide) rfl ?_
      refine g_goto dX12_laysBytes_192 rfl ?_
      exact g_forget (L' := [some (g_R 208), some (g_I (v1 + 1)), none, none]) ⟨rfl, ⟨rfl, trivial⟩⟩ hF
    · have hF := hF.2 q
      refine g_aload_n dX12_laysBytes_163 rfl ?_
      refine g_aload_n dX12_laysBytes_164 rfl ?_
      refine g_getR dX12_laysBytes_165 fd_X12_13 sh_208 rfl ?_
      refine g_bipush dX12_laysBytes_168 ⟨by decide, by decide⟩ ?_
      refine g_aload_n dX12_laysBytes_170 rfl ?_
      refine g_getR dX12_laysBytes_171 fd_X12_39 sh_208 rfl ?_
      refine g_iload_n dX12_laysBytes_174 rfl ?_
      obtain ⟨hc, hF⟩ := hF
      refine g_iald dX12_laysBytes_175 sh_217 hc.1 hc.2 ?_
      obtain ⟨hc, hF⟩ := hF
      refine g_iadd dX12_laysBytes_176 hc ?_
      refine g_iload_n dX12_laysBytes_177 rfl ?_
      obtain ⟨hc, hF⟩ := hF
      refine g_iadd dX12_laysBytes_178 hc ?_
      obtain ⟨hc, hF⟩ := hF
      refine g_iald dX12_laysBytes_179 sh_209 hc.1 hc.2 ?_
      refine gw_cVv (b := 208) (As := [g_I (D 209 ((46 + (D 217 v2.toNat)) + v3).toNat)]) (rest := []) dX12_laysBytes_180 mv_X12_269 sh_208 rfl (Nat.le_of_ble_eq_true rfl) (by decide) rfl hF ?_
      intro D1 hF
      obtain ⟨hc, hF⟩ := hF
      refine gw_iinc (L' := [some (g_R 208), some (g_I v1), some (g_I v2), some (g_I (v3 + 1))]) dX12_laysBytes_183 rfl hc (by decide) rfl ?_
      refine g_goto dX12_laysBytes_186 rfl ?_
      exact hF
theorem dX12_laysPlan_0 : decode cX12_laysPlan 0 = .ok (.iconst 0, 1) := by decide +kernel
theorem dX12_laysPlan_1 : decode cX12_laysPlan 1 = .ok (.istore_n 1, 1) := by decide +kernel
theorem dX12_laysPlan_2 : decode cX12_laysPlan 2 = .ok (.iload_n 1, 1) := by decide +kernel
theorem dX12_laysPlan_3 : decode cX12_laysPlan 3 = .ok (.aload_n 0, 1) := by decide +kernel
theorem dX12_laysPlan_4 : decode cX12_laysPlan 4 = .ok (.getfield 182, 3) := by decide +kernel
theorem dX12_laysPlan_7 : decode cX12_laysPlan 7 = .ok (.if_icmp .ge 30, 3) := by decide +kernel
theorem dX12_laysPlan_10 : decode cX12_laysPlan 10 = .ok (.aload_n 0, 1) := by decide +kernel
theorem dX12_laysPlan_11 : decode cX12_laysPlan 11 = .ok (.getfield 60, 3) := by decide +kernel
theorem dX12_laysPlan_14 : decode cX12_laysPlan 14 = .ok (.iload_n 1, 1) := by decide +kernel
theorem dX12_laysPlan_15 : decode cX12_laysPlan 15 = .ok (.iconst 0, 1) := by decide +kernel
theorem dX12_laysPlan_16 : decode cX12_laysPlan 16 = .ok (.bastore, 1) := by decide +kernel
theorem dX12_laysPlan_17 : decode cX12_laysPlan 17 = .ok (.aload_n 0, 1) := by decide +kernel
theorem dX12_laysPlan_18 : decode cX12_laysPlan 18 = .ok (.getfield 63, 3) := by decide +kernel
theorem dX12_laysPlan_21 : decode cX12_laysPlan 21 = .ok (.iload_n 1, 1) := by decide +kernel
theorem dX12_laysPlan_22 : decode cX12_laysPlan 22 = .ok (.iconst 0, 1) := by decide +kernel
theorem dX12_laysPlan_23 : decode cX12_laysPlan 23 = .ok (.bastore, 1) := by decide +kernel
theorem dX12_laysPlan_24 : decode cX12_laysPlan 24 = .ok (.aload_n 0, 1) := by decide +kernel
theorem dX12_laysPlan_25 : decode cX12_laysPlan 25 = .ok (.getfield 66, 3) := by decide +kernel
theorem dX12_laysPlan_28 : decode cX12_laysPlan 28 = .ok (.iload_n 1, 1) := by decide +kernel
theorem dX12_laysPlan_29 : decode cX12_laysPlan 29 = .ok (.iconst 0, 1) := by decide +kernel
theorem dX12_laysPlan_30 : decode cX12_laysPlan 30 = .ok (.bastore, 1) := by decide +kernel
theorem dX12_laysPlan_31 : decode cX12_laysPlan 31 = .ok (.iinc 1 1, 3) := by decide +kernel
theorem dX12_laysPlan_34 : decode cX12_laysPlan 34 = .ok (.goto (-32), 3) := by decide +kernel
theorem dX12_laysPlan_37 : decode cX12_laysPlan 37 = .ok (.iconst 0, 1) := by decide +kernel
theorem dX12_laysPlan_38 : decode cX12_laysPlan 38 = .ok (.istore_n 1, 1) := by decide +kernel
theorem dX12_laysPlan_39 : decode cX12_laysPlan 39 = .ok (.iload_n 1, 1) := by decide +kernel
theorem dX12_laysPlan_40 : decode cX12_laysPlan 40 = .ok (.bipush 20, 2) := by decide +kernel
theorem dX12_laysPlan_42 : decode cX12_laysPlan 42 = .ok (.if_icmp .ge 16, 3) := by decide +kernel
theorem dX12_laysPlan_45 : decode cX12_laysPlan 45 = .ok (.aload_n 0, 1) := by decide +kernel
theorem dX12_laysPlan_46 : decode cX12_laysPlan 46 = .ok (.getfield 69, 3) := by decide +kernel
theorem dX12_laysPlan_49 : decode cX12_laysPlan 49 = .ok (.iload_n 1, 1) := by decide +kernel
theorem dX12_laysPlan_50 : decode cX12_laysPlan 50 = .ok (.iconst 0, 1) := by decide +kernel
theorem dX12_laysPlan_51 : decode cX12_laysPlan 51 = .ok (.bastore, 1) := by decide +kernel
theorem dX12_laysPlan_52 : decode cX12_laysPlan 52 = .ok (.iinc 1 1, 3) := by decide +kernel
theorem dX12_laysPlan_55 : decode cX12_laysPlan 55 = .ok (.goto (-16), 3) := by decide +kernel
theorem dX12_laysPlan_58 : decode cX12_laysPlan 58 = .ok (.aload_n 0, 1) := by decide +kernel
theorem dX12_laysPlan_59 : decode cX12_laysPlan 59 = .ok (.iconst 0, 1) := by decide +kernel
theorem dX12_laysPlan_60 : decode cX12_laysPlan 60 = .ok (.putfield 228, 3) := by decide +kernel
theorem dX12_laysPlan_63 : decode cX12_laysPlan 63 = .ok (.aload_n 0, 1) := by decide +kernel
theorem dX12_laysPlan_64 : decode cX12_laysPlan 64 = .ok (.iconst 0, 1) := by decide +kernel
theorem dX12_laysPlan_65 : decode cX12_laysPlan 65 = .ok (.putfield 251, 3) := by decide +kernel
theorem dX12_laysPlan_68 : decode cX12_laysPlan 68 = .ok (.aload_n 0, 1) := by decide +kernel
theorem dX12_laysPlan_69 : decode cX12_laysPlan 69 = .ok (.iconst 0, 1) := by decide +kernel
theorem dX12_laysPlan_70 : decode cX12_laysPlan 70 = .ok (.putfield 248, 3) := by decide +kernel
theorem dX12_laysPlan_73 : decode cX12_laysPlan 73 = .ok (.aload_n 0, 1) := by decide +kernel
theorem dX12_laysPlan_74 : decode cX12_laysPlan 74 = .ok (.iconst 0, 1) := by decide +kernel
theorem dX12_laysPlan_75 : decode cX12_laysPlan 75 = .ok (.putfield 231, 3) := by decide +kernel
theorem dX12_laysPlan_78 : decode cX12_laysPlan 78 = .ok (.iconst 1, 1) := by decide +kernel
theorem dX12_laysPlan_79 : decode cX12_laysPlan 79 = .ok (.istore_n 1, 1) := by decide +kernel
theorem dX12_laysPlan_80 : decode cX12_laysPlan 80 = .ok (.iload_n 1, 1) := by decide +kernel
theorem dX12_laysPlan_81 : decode cX12_laysPlan 81 = .ok (.ifCond .eq 87, 3) := by decide +kernel
theorem dX12_laysPlan_84 : decode cX12_laysPlan 84 = .ok (.iconst 0, 1) := by decide +kernel
theorem dX12_laysPlan_85 : decode cX12_laysPlan 85 = .ok (.istore_n 2, 1) := by decide +kernel
theorem dX12_laysPlan_86 : decode cX12_laysPlan 86 = .ok (.iconst 0, 1) := by decide +kernel
theorem dX12_laysPlan_87 : decode cX12_laysPlan 87 = .ok (.istore_n 3, 1) := by decide +kernel
theorem dX12_laysPlan_88 : decode cX12_laysPlan 88 = .ok (.iload_n 3, 1) := by decide +kernel
theorem dX12_laysPlan_89 : decode cX12_laysPlan 89 = .ok (.aload_n 0, 1) := by decide +kernel
theorem dX12_laysPlan_90 : decode cX12_laysPlan 90 = .ok (.getfield 182, 3) := by decide +kernel
theorem dX12_laysPlan_93 : decode cX12_laysPlan 93 = .ok (.if_icmp .ge 36, 3) := by decide +kernel
theorem dX12_laysPlan_96 : decode cX12_laysPlan 96 = .ok (.iload_n 2, 1) := by decide +kernel
theorem dX12_laysPlan_97 : decode cX12_laysPlan 97 = .ok (.aload_n 0, 1) := by decide +kernel
theorem dX12_laysPlan_98 : decode cX12_laysPlan 98 = .ok (.getfield 36, 3) := by decide +kernel
theorem dX12_laysPlan_101 : decode cX12_laysPlan 101 = .ok (.iload_n 3, 1) := by decide +kernel
theorem dX12_laysPlan_102 : decode cX12_laysPlan 102 = .ok (.iaload, 1) := by decide +kernel
theorem dX12_laysPlan_103 : decode cX12_laysPlan 103 = .ok (.iconst 2, 1) := by decide +kernel
theorem dX12_laysPlan_104 : decode cX12_laysPlan 104 = .ok (.if_icmp .eq 16, 3) := by decide +kernel
theorem dX12_laysPlan_107 : decode cX12_laysPlan 107 = .ok (.aload_n 0, 1) := by decide +kernel
theorem dX12_laysPlan_108 : decode cX12_laysPlan 108 = .ok (.getfield 60, 3) := by decide +kernel
theorem dX12_laysPlan_111 : decode cX12_laysPlan 111 = .ok (.iload_n 3, 1) := by decide +kernel
theorem dX12_laysPlan_112 : decode cX12_laysPlan 112 = .ok (.baload, 1) := by decide +kernel
theorem dX12_laysPlan_113 : decode cX12_laysPlan 113 = .ok (.ifCond .ne 7, 3) := by decide +kernel
theorem dX12_laysPlan_116 : decode cX12_laysPlan 116 = .ok (.iconst 1, 1) := by decide +kernel
theorem dX12_laysPlan_117 : decode cX12_laysPlan 117 = .ok (.goto 4, 3) := by decide +kernel
theorem dX12_laysPlan_120 : decode cX12_laysPlan 120 = .ok (.iconst 0, 1) := by decide +kernel
theorem dX12_laysPlan_121 : decode cX12_laysPlan 121 = .ok (.iadd, 1) := by decide +kernel
theorem dX12_laysPlan_122 : decode cX12_laysPlan 122 = .ok (.istore_n 2, 1) := by decide +kernel
theorem dX12_laysPlan_123 : decode cX12_laysPlan 123 = .ok (.iinc 3 1, 3) := by decide +kernel
theorem dX12_laysPlan_126 : decode cX12_laysPlan 126 = .ok (.goto (-38), 3) := by decide +kernel
theorem dX12_laysPlan_129 : decode cX12_laysPlan 129 = .ok (.iload_n 2, 1) := by decide +kernel
theorem dX12_laysPlan_130 : decode cX12_laysPlan 130 = .ok (.ifCond .le 7, 3) := by decide +kernel
theorem dX12_laysPlan_133 : decode cX12_laysPlan 133 = .ok (.iconst 1, 1) := by decide +kernel
theorem dX12_laysPlan_134 : decode cX12_laysPlan 134 = .ok (.goto 4, 3) := by decide +kernel
theorem dX12_laysPlan_137 : decode cX12_laysPlan 137 = .ok (.iconst 0, 1) := by decide +kernel
theorem dX12_laysPlan_138 : decode cX12_laysPlan 138 = .ok (.istore_n 1, 1) := by decide +kernel
theorem dX12_laysPlan_139 : decode cX12_laysPlan 139 = .ok (.aload_n 0, 1) := by decide +kernel
theorem dX12_laysPlan_140 : decode cX12_laysPlan 140 = .ok (.invokevirtual 254, 3) := by decide +kernel
theorem dX12_laysPlan_143 : decode cX12_laysPlan 143 = .ok (.istore_n 3, 1) := by decide +kernel
theorem dX12_laysPlan_144 : decode cX12_laysPlan 144 = .ok (.iload_n 3, 1) := by decide +kernel
theorem dX12_laysPlan_145 : decode cX12_laysPlan 145 = .ok (.iconst (-1), 1) := by decide +kernel
theorem dX12_laysPlan_146 : decode cX12_laysPlan 146 = .ok (.if_icmp .eq 11, 3) := by decide +kernel
theorem dX12_laysPlan_149 : decode cX12_laysPlan 149 = .ok (.aload_n 0, 1) := by decide +kernel
theorem dX12_laysPlan_150 : decode cX12_laysPlan 150 = .ok (.iload_n 3, 1) := by decide +kernel
theorem dX12_laysPlan_151 : decode cX12_laysPlan 151 = .ok (.invokevirtual 257, 3) := by decide +kernel
theorem dX12_laysPlan_154 : decode cX12_laysPlan 154 = .ok (.goto 11, 3) := by decide +kernel
theorem dX12_laysPlan_157 : decode cX12_laysPlan 157 = .ok (.iload_n 1, 1) := by decide +kernel
theorem dX12_laysPlan_158 : decode cX12_laysPlan 158 = .ok (.ifCond .eq 7, 3) := by decide +kernel
theorem dX12_laysPlan_161 : decode cX12_laysPlan 161 = .ok (.aload_n 0, 1) := by decide +kernel
theorem dX12_laysPlan_162 : decode cX12_laysPlan 162 = .ok (.invokevirtual 260, 3) := by decide +kernel
theorem dX12_laysPlan_165 : decode cX12_laysPlan 165 = .ok (.goto (-85), 3) := by decide +kernel
theorem dX12_laysPlan_168 : decode cX12_laysPlan 168 = .ok (.aload_n 0, 1) := by decide +kernel
theorem dX12_laysPlan_169 : decode cX12_laysPlan 169 = .ok (.invokevirtual 263, 3) := by decide +kernel
theorem dX12_laysPlan_172 : decode cX12_laysPlan 172 = .ok (.return_, 1) := by decide +kernel
abbrev k_X12_laysPlan (E : g_E) (l : Launch) (D : g_D) (K : g_D → Prop) : Prop := g_Kv E l m_X12_laysPlan 3 [g_R 208] g_SH D K
abbrev n_X12_laysPlan (E : g_E) (l : Launch) (D : g_D) (pc : Nat) (L : List (Option g_V)) (K : g_D → Prop) : Prop := g_N E l m_X12_laysPlan 3 pc L [] g_SH D (g_Rv g_SH K)
theorem s_X12_laysPlan {E : g_E} {l : Launch} {D : g_D} {K : g_D → Prop}   (hF : g_okD D → n_X12_laysPlan E l D 2 [some (g_R 208), some (g_I 0), none, none] K) : k_X12_laysPlan E l D K := by
  refine g_enter (by decide) (Nat.le_of_ble_eq_true rfl) ?_
  show g_N E l m_X12_laysPlan 3 0 [some (g_R 208), none, none, none] [] g_SH D (g_Rv g_SH K)
  refine g_use (fun ok => ?_)
  have hF := hF ok.2.1
  refine g_iconst dX12_laysPlan_0 ⟨by decide, by decide⟩ ?_
  refine gw_istore_n (L' := [some (g_R 208), some (g_I 0), none, none]) dX12_laysPlan_1 (by decide) rfl ?_
  exact hF
theorem s_X12_laysPlan_2 {E : g_E} {l : Launch} {D : g_D} {K : g_D → Prop} {v1 : Int}  (hF : g_okD D → g_r v1 → ((D 208 14) ≤ v1 → n_X12_laysPlan E l D 39 [some (g_R 208), some (g_I 0), none, none] K) ∧ (¬ (D 208 14) ≤ v1 → (0 ≤ v1 ∧ v1 < 40) ∧ (∀ D1, D1 = g_up D 224 v1.toNat 0 → ((0 ≤ v1 ∧ v1 < 40) ∧ (∀ D2, D2 = g_up D1 225 v1.toNat 0 → ((0 ≤ v1 ∧ v1 < 40) ∧ (∀ D3, D3 = g_up D2 226 v1.toNat 0 → ((g_r (v1 + 1)) ∧ (n_X12_laysPlan E l D3 2 [some (g_R 208), some (g_I (v1 + 1)), none, none] K))))))))) : n_X12_laysPlan E l D 2 [some (g_R 208), some (g_I v1), none, none] K := by
  refine g_use (fun ok => ?_)
  have hF := hF ok.2.1 (ok.loc (i := 1) rfl)
  refine g_iload_n dX12_laysPlan_2 rfl ?_
  refine g_aload_n dX12_laysPlan_3 rfl ?_
  refine g_getI dX12_laysPlan_4 fd_X12_182 sh_208 rfl ?_
  refine g_cge dX12_laysPlan_7 rfl (fun q => ?_) (fun q => ?_)
  · have hF := hF.1 q
    refine g_iconst dX12_laysPlan_37 ⟨by decide, by decide⟩ ?_
    refine gw_istore_n (L' := [some (g_R 208), some (g_I 0), none, none]) dX12_laysPlan_38 (by decide) rfl ?_
    exact hF
  · have hF := hF.2 q
    refine g_aload_n dX12_laysPlan_10 rfl ?_
    refine g_getR dX12_laysPlan_11 fd_X12_60 sh_208 rfl ?_
    refine g_iload_n dX12_laysPlan_14 rfl ?_
    refine g_iconst dX12_laysPlan_15 ⟨by decide, by decide⟩ ?_
    obtain ⟨hc, hF⟩ := hF
    let D1 : g_D := g_up D 224 v1.toNat 0
    have hF := hF D1 rfl
    refine g_bast dX12_laysPlan_16 sh_224 hc.1 hc.2 (by decide) ?_
    refine g_aload_n dX12_laysPlan_17 rfl ?_
    refine g_getR dX12_laysPlan_18 fd_X12_63 sh_208 rfl ?_
    refine g_iload_n dX12_laysPlan_21 rfl ?_
    refine g_iconst dX12_laysPlan_22 ⟨by decide, by decide⟩ ?_
    obtain ⟨hc, hF⟩ := hF
    let D2 : g_D := g_up D1 225 v1.toNat 0
    have hF := hF D2 rfl
    refine g_bast dX12_laysPlan_23 sh_225 hc.1 hc.2 (by decide) ?_
    refine g_aload_n dX12_laysPlan_24 rfl ?_
    refine g_getR dX12_laysPlan_25 fd_X12_66 sh_208 rfl ?_
    refine g_iload_n dX12_laysPlan_28 rfl ?_
    refine g_iconst dX12_laysPlan_29 ⟨by decide, by decide⟩ ?_
    obtain ⟨hc, hF⟩ := hF
    let D3 : g_D := g_up D2 226 v1.toNat 0
    have hF := hF D3 rfl
    refine g_bast dX12_laysPlan_30 sh_226 hc.1 hc.2 (by decide) ?_
    obtain ⟨hc, hF⟩ := hF
    refine gw_iinc (L' := [some (g_R 208), some (g_I (v1 + 1)), none, none]) dX12_laysPlan_31 rfl hc (by decide) rfl ?_
    refine g_goto dX12_laysPlan_34 rfl ?_
    exact hF
theorem s_X12_laysPlan_39 {E : g_E} {l : Launch} {D : g_D} {K : g_D → Prop} {v1 : Int}  (hF : g_okD D → g_r v1 → (20 ≤ v1 → ∀ D1, D1 = g_up D 208 26 0 → (∀ D2, D2 = g_up D1 208 28 0 → (∀ D3, D3 = g_up D2 208 29 0 → (∀ D4, D4 = g_up D3 208 30 0 → (n_X12_laysPlan E l D4 80 [some (g_R 208), some (g_I 1), none, none] K))))) ∧ (¬ 20 ≤ v1 → (0 ≤ v1 ∧ v1 < 20) ∧ (∀ D5, D5 = g_up D 227 v1.toNat 0 → ((g_r (v1 + 1)) ∧ (n_X12_laysPlan E l D5 39 [some (g_R 208), some (g_I (v1 + 1)), none, none] K))))) : n_X12_laysPlan E l D 39 [some (g_R 208), some (g_I v1), none, none] K := by
  refine g_use (fun ok => ?_)
  have hF := hF ok.2.1 (ok.loc (i := 1) rfl)
  refine g_iload_n dX12_laysPlan_39 rfl ?_
  refine g_bipush dX12_laysPlan_40 ⟨by decide, by decide⟩ ?_
  refine g_cge dX12_laysPlan_42 rfl (fun q => ?_) (fun q => ?_)
  · have hF := hF.1 q
    refine g_aload_n dX12_laysPlan_58 rfl ?_
    refine g_iconst dX12_laysPlan_59 ⟨by decide, by decide⟩ ?_
    let D1 : g_D := g_up D 208 26 0
    have hF := hF D1 rfl
    refine g_put dX12_laysPlan_60 fd_X12_228 (g_ftyI (C := RX12) (T := TX12) (N := 51) rfl rfl (by decide +kernel)) sh_208 rfl ?_
    refine g_aload_n dX12_laysPlan_63 rfl ?_
    refine g_iconst dX12_laysPlan_64 ⟨by decide, by decide⟩ ?_
    let D2 : g_D := g_up D1 208 28 0
    have hF := hF D2 rfl
    refine g_put dX12_laysPlan_65 fd_X12_251 (g_ftyI (C := RX12) (T := TX12) (N := 51) rfl rfl (by decide +kernel)) sh_208 rfl ?_
    refine g_aload_n dX12_laysPlan_68 rfl ?_
    refine g_iconst dX12_laysPlan_69 ⟨by decide, by decide⟩ ?_
    let D3 : g_D := g_up D2 208 29 0
    have hF := hF D3 rfl
    refine g_put dX12_laysPlan_70 fd_X12_248 (g_ftyI (C := RX12) (T := TX12) (N := 51) rfl rfl (by decide +kernel)) sh_208 rfl ?_
    refine g_aload_n dX12_laysPlan_73 rfl ?_
    refine g_iconst dX12_laysPlan_74 ⟨by decide, by decide⟩ ?_
    let D4 : g_D := g_up D3 208 30 0
    have hF := hF D4 rfl
    refine g_put dX12_laysPlan_75 fd_X12_231 (g_ftyI (C := RX12) (T := TX12) (N := 51) rfl rfl (by decide +kernel)) sh_208 rfl ?_
    refine g_iconst dX12_laysPlan_78 ⟨by decide, by decide⟩ ?_
    refine gw_istore_n (L' := [some (g_R 208), some (g_I 1), none, none]) dX12_laysPlan_79 (by decide) rfl ?_
    exact hF
  · have hF := hF.2 q
    refine g_aload_n dX12_laysPlan_45 rfl ?_
    refine g_getR dX12_laysPlan_46 fd_X12_69 sh_208 rfl ?_
    refine g_iload_n dX12_laysPlan_49 rfl ?_
    refine g_iconst dX12_laysPlan_50 ⟨by decide, by decide⟩ ?_
    obtain ⟨hc, hF⟩ := hF
    let D5 : g_D := g_up D 227 v1.toNat 0
    have hF := hF D5 rfl
    refine g_bast dX12_laysPlan_51 sh_227 hc.1 hc.2 (by decide) ?_
    obtain ⟨hc, hF⟩ := hF
    refine gw_iinc (L' := [some (g_R 208), some (g_I (v1 + 1)), none, none]) dX12_laysPlan_52 rfl hc (by decide) rfl ?_
    refine g_goto dX12_laysPlan_55 rfl ?_
    exact hF
theorem s_X12_laysPlan_80 {E : g_E} {l : Launch} {D : g_D} {K : g_D → Prop} {v1 : Int}  (hF : g_okD D → g_r v1 → (v1 = 0 → k_X12_laysBytes E l D (fun D1 => K D1)) ∧ (¬ v1 = 0 → n_X12_laysPlan E l D 88 [some (g_R 208), none, some (g_I 0), some (g_I 0)] K)) : n_X12_laysPlan E l D 80 [some (g_R 208), some (g_I v1), none, none] K := by
  refine g_use (fun ok => ?_)
  have hF := hF ok.2.1 (ok.loc (i := 1) rfl)
  refine g_iload_n dX12_laysPlan_80 rfl ?_
  refine g_ifeq dX12_laysPlan_81 rfl (fun q => ?_) (fun q => ?_)
  · have hF := hF.1 q
    refine g_aload_n dX12_laysPlan_168 rfl ?_
    refine gw_cVv (b := 208) (As := []) (rest := []) dX12_laysPlan_169 mv_X12_263 sh_208 rfl (Nat.le_of_ble_eq_true rfl) (by decide) rfl hF ?_
    intro D1 hF
    exact gw_vret dX12_laysPlan_172 rfl hF
  · have hF := hF.2 q
    refine g_iconst dX12_laysPlan_84 ⟨by decide, by decide⟩ ?_
    refine gw_istore_n (L' := [some (g_R 208), some (g_I v1), some (g_I 0), none]) dX12_laysPlan_85 (by decide) rfl ?_
    refine g_iconst dX12_laysPlan_86 ⟨by decide, by decide⟩ ?_
    refine gw_istore_n (L' := [some (g_R 208), some (g_I v1), some (g_I 0), some (g_I 0)]) dX12_laysPlan_87 (by decide) rfl ?_
    exact g_forget (L' := [some (g_R 208), none, some (g_I 0), some (g_I 0)]) ⟨rfl, ⟨rfl, ⟨rfl, trivial⟩⟩⟩ hF
theorem s_X12_laysPlan_88 {E : g_E} {l : Launch} {D : g_D} {K : g_D → Prop} {v2 : Int} {v3 : Int}  (hF : g_okD D → g_r v2 → g_r v3 → ((D 208 14) ≤ v3 → (v2 ≤ 0 → k_X12_lowestFree E l D (fun x1 D1 => g_r x1 → (x1 = (-1) → n_X12_laysPlan E l D1 80 [some (g_R 208), some (g_I 0), none, none] K) ∧ (¬ x1 = (-1) → k_X12_does E l D1 x1 (fun D2 => n_X12_laysPlan E l D2 80 [some (g_R 208), some (g_I 0), none, none] K)))) ∧ (¬ v2 ≤ 0 → k_X12_lowestFree E l D (fun x3 D3 => g_r x3 → (x3 = (-1) → k_X12_breaksRing E l D3 (fun D4 => n_X12_laysPlan E l D4 80 [some (g_R 208), some (g_I 1), none, none] K)) ∧ (¬ x3 = (-1) → k_X12_does E l D3 x3 (fun D5 => n_X12_laysPlan E l D5 80 [some (g_R 208), some (g_I 1), none, none] K))))) ∧ (¬ (D 208 14) ≤ v3 → (0 ≤ v3 ∧ v3 < 40) ∧ (((D 216 v3.toNat) = 2 → (g_r (v2 + 0)) ∧ ((g_r (v3 + 1)) ∧ (n_X12_laysPlan E l D 88 [some (g_R 208), none, some (g_I (v2 + 0)), some (g_I (v3 + 1))] K))) ∧ (¬ (D 216 v3.toNat) = 2 → (0 ≤ v3 ∧ v3 < 40) ∧ ((¬ (D 224 v3.toNat) = 0 → (g_r (v2 + 0)) ∧ ((g_r (v3 + 1)) ∧ (n_X12_laysPlan E l D 88 [some (g_R 208), none, some (g_I (v2 + 0)), some (g_I (v3 + 1))] K))) ∧ ((D 224 v3.toNat) = 0 → (g_r (v2 + 1)) ∧ ((g_r (v3 + 1)) ∧ (n_X12_laysPlan E l D 88 [some (g_R 208), none, some (g_I (v2 + 1)), some (g_I (v3 + 1))] K)))))))) : n_X12_laysPlan E l D 88 [some (g_R 208), none, some (g_I v2), some (g_I v3)] K := by
  refine g_use (fun ok => ?_)
  have hF := hF ok.2.1 (ok.loc (i := 2) rfl) (ok.loc (i := 3) rfl)
  refine g_iload_n dX12_laysPlan_88 rfl ?_
  refine g_aload_n dX12_laysPlan_89 rfl ?_
  refine g_getI dX12_laysPlan_90 fd_X12_182 sh_208 rfl ?_
  refine g_cge dX12_laysPlan_93 rfl (fun q => ?_) (fun q => ?_)
  · have hF := hF.1 q
    refine g_iload_n dX12_laysPlan_129 rfl ?_
    refine g_ifle dX12_laysPlan_130 rfl (fun q => ?_) (fun q => ?_)
    · have hF := hF.1 q
      refine g_iconst dX12_laysPlan_137 ⟨by decide, by decide⟩ ?_
      refine gw_istore_n (L' := [some (g_R 208), some (g_I 0), some (g_I v2), some (g_I v3)]) dX12_laysPlan_138 (by decide) rfl ?_
      refine g_aload_n dX12_laysPlan_139 rfl ?_
      refine gw_cVi (b := 208) (As := []) (rest := []) dX12_laysPlan_140 mv_X12_254 sh_208 rfl (Nat.le_of_ble_eq_true rfl) (by decide) rfl hF ?_
      intro x1 D1 hx1 hF
      have hF := hF hx1
      refine gw_istore_n (L' := [some (g_R 208), some (g_I 0), some (g_I v2), some (g_I x1)]) dX12_laysPlan_143 (by decide) rfl ?_
      refine g_iload_n dX12_laysPlan_144 rfl ?_
      refine g_iconst dX12_laysPlan_145 ⟨by decide, by decide⟩ ?_
      refine g_ceq dX12_laysPlan_146 rfl (fun q => ?_) (fun q => ?_)
      · have hF := hF.1 q
        refine g_iload_n dX12_laysPlan_157 rfl ?_
        refine g_ifeq dX12_laysPlan_158 rfl (fun _ => ?_) (fun q => absurd q (by decide))
        refine g_goto dX12_laysPlan_165 rfl ?_
        exact g_forget (L' := [some (g_R 208), some (g_I 0), none, none]) ⟨rfl, ⟨rfl, trivial⟩⟩ hF
      · have hF := hF.2 q
        refine g_aload_n dX12_laysPlan_149 rfl ?_
        refine g_iload_n dX12_laysPlan_150 rfl ?_
        refine gw_cVv (b := 208) (As := [g_I x1]) (rest := []) dX12_laysPlan_151 mv_X12_257 sh_208 rfl (Nat.le_of_ble_eq_true rfl) (by decide) rfl hF ?_
        intro D2 hF
        refine g_goto dX12_laysPlan_154 rfl ?_
        refine g_goto dX12_laysPlan_165 rfl ?_
        exact g_forget (L' := [some (g_R 208), some (g_I 0), none, none]) ⟨rfl, ⟨rfl, trivial⟩⟩ hF
    · have hF := hF.2 q
      refine g_iconst dX12_laysPlan_133 ⟨by decide, by decide⟩ ?_
      refine g_goto dX12_laysPlan_134 rfl ?_
      refine gw_istore_n (L' := [some (g_R 208), some (g_I 1), some (g_I v2), some (g_I v3)]) dX12_laysPlan_138 (by decide) rfl ?_
      refine g_aload_n dX12_laysPlan_139 rfl ?_
      refine gw_cVi (b := 208) (As := []) (rest := []) dX12_laysPlan_140 mv_X12_254 sh_208 rfl (Nat.le_of_ble_eq_true rfl) (by decide) rfl hF ?_
      intro x3 D3 hx3 hF
      have hF := hF hx3
      refine gw_istore_n (L' := [some (g_R 208), some (g_I 1), some (g_I v2), some (g_I x3)]) dX12_laysPlan_143 (by decide) rfl ?_
      refine g_iload_n dX12_laysPlan_144 rfl ?_
      refine g_iconst dX12_laysPlan_145 ⟨by decide, by decide⟩ ?_
      refine g_ceq dX12_laysPlan_146 rfl (fun q => ?_) (fun q => ?_)
      · have hF := hF.1 q
        refine g_iload_n dX12_laysPlan_157 rfl ?_
        refine g_ifeq dX12_laysPlan_158 rfl (fun q => absurd q (by decide)) (fun _ => ?_)
        refine g_aload_n dX12_laysPlan_161 rfl ?_
        refine gw_cVv (b := 208) (As := []) (rest := []) dX12_laysPlan_162 mv_X12_260 sh_208 rfl (Nat.le_of_ble_eq_true rfl) (by decide) rfl hF ?_
        intro D4 hF
        refine g_goto dX12_laysPlan_165 rfl ?_
        exact g_forget (L' := [some (g_R 208), some (g_I 1), none, none]) ⟨rfl, ⟨rfl, trivial⟩⟩ hF
      · have hF := hF.2 q
        refine g_aload_n dX12_laysPlan_149 rfl ?_
        refine g_iload_n dX12_laysPlan_150 rfl ?_
        refine gw_cVv (b := 208) (As := [g_I x3]) (rest := []) dX12_laysPlan_151 mv_X12_257 sh_208 rfl (Nat.le_of_ble_eq_true rfl) (by decide) rfl hF ?_
        intro D5 hF
        refine g_goto dX12_laysPlan_154 rfl ?_
        refine g_goto dX12_laysPlan_165 rfl ?_
        exact g_forget (L' := [some (g_R 208), some (g_I 1), none, none]) ⟨rfl, ⟨rfl, trivial⟩⟩ hF
  · have hF := hF.2 q
    refine g_iload_n dX12_laysPlan_96 rfl ?_
    refine g_aload_n dX12_laysPlan_97 rfl ?_
    refine g_getR dX12_laysPlan_98 fd_X12_36 sh_208 rfl ?_
    refine g_iload_n dX12_laysPlan_101 rfl ?_
    obtain ⟨hc, hF⟩ := hF
    refine g_iald dX12_laysPlan_102 sh_216 hc.1 hc.2 ?_
    refine g_iconst dX12_laysPlan_103 ⟨by decide, by decide⟩ ?_
    refine g_ceq dX12_laysPlan_104 rfl (fun q => ?_) (fun q => ?_)
    · have hF := hF.1 q
      refine g_iconst dX12_laysPlan_120 ⟨by decide, by decide⟩ ?_
      obtain ⟨hc, hF⟩ := hF
      refine g_iadd dX12_laysPlan_121 hc ?_
      refine gw_istore_n (L' := [some (g_R 208), none, some (g_I (v2 + 0)), some (g_I v3)]) dX12_laysPlan_122 (by decide) rfl ?_
      obtain ⟨hc, hF⟩ := hF
      refine gw_iinc (L' := [some (g_R 208), none, some (g_I (v2 + 0)), some (g_I (v3 + 1))]) dX12_laysPlan_123 rfl hc (by decide) rfl ?_
      refine g_goto dX12_laysPlan_126 rfl ?_
      exact hF
    · have hF := hF.2 q
      refine g_aload_n dX12_laysPlan_107 rfl ?_
      refine g_getR dX12_laysPlan_108 fd_X12_60 sh_208 rfl ?_
      refine g_iload_n dX12_laysPlan_111 rfl ?_
      obtain ⟨hc, hF⟩ := hF
      refine g_bald dX12_laysPlan_112 sh_224 hc.1 hc.2 ?_
      refine g_ifne dX12_laysPlan_113 rfl (fun q => ?_) (fun q => ?_)
      · have hF := hF.1 q
        refine g_iconst dX12_laysPlan_120 ⟨by decide, by decide⟩ ?_
        obtain ⟨hc, hF⟩ := hF
        refine g_iadd dX12_laysPlan_121 hc ?_
        refine gw_istore_n (L' := [some (g_R 208), none, some (g_I (v2 + 0)), some (g_I v3)]) dX12_laysPlan_122 (by decide) rfl ?_
        obtain ⟨hc, hF⟩ := hF
        refine gw_iinc (L' := [some (g_R 208), none, some (g_I (v2 + 0)), some (g_I (v3 + 1))]) dX12_laysPlan_123 rfl hc (by decide) rfl ?_
        refine g_goto dX12_laysPlan_126 rfl ?_
        exact hF
      · have hF := hF.2 q
        refine g_iconst dX12_laysPlan_116 ⟨by decide, by decide⟩ ?_
        refine g_goto dX12_laysPlan_117 rfl ?_
        obtain ⟨hc, hF⟩ := hF
        refine g_iadd dX12_laysPlan_121 hc ?_
        refine gw_istore_n (L' := [some (g_R 208), none, some (g_I (v2 + 1)), some (g_I v3)]) dX12_laysPlan_122 (by decide) rfl ?_
        obtain ⟨hc, hF⟩ := hF
        refine gw_iinc (L' := [some (g_R 208), none, some (g_I (v2 + 1)), some (g_I (v3 + 1))]) dX12_laysPlan_123 rfl hc (by decide) rfl ?_
        refine g_goto dX12_laysPlan_126 rfl ?_
        exact hF
theorem dX12_laysAll_0 : decode cX12_laysAll 0 = .ok (.aload_n 0, 1) := by decide +kernel
theorem dX12_laysAll_1 : decode cX12_laysAll 1 = .ok (.invokevirtual 193, 3) := by decide +kernel
theorem dX12_laysAll_4 : decode cX12_laysAll 4 = .ok (.aload_n 0, 1) := by decide +kernel
theorem dX12_laysAll_5 : decode cX12_laysAll 5 = .ok (.invokevirtual 202, 3) := by decide +kernel
theorem dX12_laysAll_8 : decode cX12_laysAll 8 = .ok (.return_, 1) := by decide +kernel
abbrev k_X12_laysAll (E : g_E) (l : Launch) (D : g_D) (K : g_D → Prop) : Prop := g_Kv E l m_X12_laysAll 4 [g_R 208] g_SH D K
abbrev n_X12_laysAll (E : g_E) (l : Launch) (D : g_D) (pc : Nat) (L : List (Option g_V)) (K : g_D → Prop) : Prop := g_N E l m_X12_laysAll 4 pc L [] g_SH D (g_Rv g_SH K)
theorem s_X12_laysAll {E : g_E} {l : Launch} {D : g_D} {K : g_D → Prop}   (hF : g_okD D → k_X12_laysCommands E l D (fun D1 => k_X12_laysPlan E l D1 (fun D2 => K D2))) : k_X12_laysAll E l D K := by
  refine g_enter (by decide) (Nat.le_of_ble_eq_true rfl) ?_
  show g_N E l m_X12_laysAll 4 0 [some (g_R 208)] [] g_SH D (g_Rv g_SH K)
  refine g_use (fun ok => ?_)
  have hF := hF ok.2.1
  refine g_aload_n dX12_laysAll_0 rfl ?_
  refine gw_cVv (b := 208) (As := []) (rest := []) dX12_laysAll_1 mv_X12_193 sh_208 rfl (Nat.le_of_ble_eq_true rfl) (by decide) rfl hF ?_
  intro D1 hF
  refine g_aload_n dX12_laysAll_4 rfl ?_
  refine gw_cVv (b := 208) (As := []) (rest := []) dX12_laysAll_5 mv_X12_202 sh_208 rfl (Nat.le_of_ble_eq_true rfl) (by decide) rfl hF ?_
  intro D2 hF
  exact gw_vret dX12_laysAll_8 rfl hF
theorem dX12_within_0 : decode cX12_within 0 = .ok (.lload_n 0, 1) := by decide +kernel
theorem dX12_within_1 : decode cX12_within 1 = .ok (.lload_n 2, 1) := by decide +kernel
theorem dX12_within_2 : decode cX12_within 2 = .ok (.lcmp, 1) := by decide +kernel
theorem dX12_within_3 : decode cX12_within 3 = .ok (.ifCond .lt 14, 3) := by decide +kernel
theorem dX12_within_6 : decode cX12_within 6 = .ok (.lload_n 0, 1) := by decide +kernel
theorem dX12_within_7 : decode cX12_within 7 = .ok (.lload 4, 2) := by decide +kernel
theorem dX12_within_9 : decode cX12_within 9 = .ok (.lcmp, 1) := by decide +kernel
theorem dX12_within_10 : decode cX12_within 10 = .ok (.ifCond .gt 7, 3) := by decide +kernel
theorem dX12_within_13 : decode cX12_within 13 = .ok (.iconst 1, 1) := by decide +kernel
theorem dX12_within_14 : decode cX12_within 14 = .ok (.goto 4, 3) := by decide +kernel
theorem dX12_within_17 : decode cX12_within 17 = .ok (.iconst 0, 1) := by decide +kernel
theorem dX12_within_18 : decode cX12_within 18 = .ok (.ireturn, 1) := by decide +kernel
abbrev k_X12_within (E : g_E) (l : Launch) (sh : List g_Sh) (D : g_D) (v0 : Int) (v2 : Int) (v4 : Int) (K : Int → g_D → Prop) : Prop := g_Ki E l m_X12_within 0 [g_J v0, g_J v2, g_J v4] sh D K
abbrev n_X12_within (E : g_E) (l : Launch) (sh : List g_Sh) (D : g_D) (pc : Nat) (L : List (Option g_V)) (K : Int → g_D → Prop) : Prop := g_N E l m_X12_within 0 pc L [] sh D (g_Ri sh K)
theorem s_X12_within {E : g_E} {l : Launch} {sh : List g_Sh} {D : g_D} {K : Int → g_D → Prop} {v0 : Int} {v2 : Int} {v4 : Int}  (hF : g_okD D → g_r8 v0 → g_r8 v2 → g_r8 v4 → (v0 < v2 → K 0 D) ∧ (¬ v0 < v2 → (v4 < v0 → K 0 D) ∧ (¬ v4 < v0 → K 1 D))) : k_X12_within E l sh D v0 v2 v4 K := by
  refine g_enter (by decide) (Nat.le_of_ble_eq_true rfl) ?_
  show g_N E l m_X12_within 0 0 [some (g_J v0), none, some (g_J v2), none, some (g_J v4), none] [] sh D (g_Ri sh K)
  refine g_use (fun ok => ?_)
  have hF := hF ok.2.1 (ok.loc (i := 0) rfl) (ok.loc (i := 2) rfl) (ok.loc (i := 4) rfl)
  refine g_lload_n dX12_within_0 rfl ?_
  refine g_lload_n dX12_within_1 rfl ?_
  refine g_lcmp dX12_within_2 ?_
  refine g_iflt dX12_within_3 rfl (fun q => ?_) (fun q => ?_)
  · have hF := hF.1 (g_cmp_lt.mp q)
    refine g_iconst dX12_within_17 ⟨by decide, by decide⟩ ?_
    exact gw_zret dX12_within_18 rfl (by decide) hF
  · have hF := hF.2 (g_cmp_ltn.mp q)
    refine g_lload_n dX12_within_6 rfl ?_
    refine g_lload dX12_within_7 rfl ?_
    refine g_lcmp dX12_within_9 ?_
    refine g_ifgt dX12_within_10 rfl (fun q => ?_) (fun q => ?_)
    · have hF := hF.1 (g_cmp_gt.mp q)
      refine g_iconst dX12_within_17 ⟨by decide, by decide⟩ ?_
      exact gw_zret dX12_within_18 rfl (by decide) hF
    · have hF := hF.2 (g_cmp_gtn.mp q)
      refine g_iconst dX12_within_13 ⟨by decide, by decide⟩ ?_
      refine g_goto dX12_within_14 rfl ?_
      exact gw_zret dX12_within_18 rfl (by decide) hF
theorem dX12_act_0 : decode cX12_act 0 = .ok (.aload_n 0, 1) := by decide +kernel
theorem dX12_act_1 : decode cX12_act 1 = .ok (.iconst 0, 1) := by decide +kernel
theorem dX12_act_2 : decode cX12_act 2 = .ok (.putfield 1, 3) := by decide +kernel
theorem dX12_act_5 : decode cX12_act 5 = .ok (.aload_n 0, 1) := by decide +kernel
theorem dX12_act_6 : decode cX12_act 6 = .ok (.invokevirtual 272, 3) := by decide +kernel
theorem dX12_act_9 : decode cX12_act 9 = .ok (.iload_n 1, 1) := by decide +kernel
theorem dX12_act_10 : decode cX12_act 10 = .ok (.i2l, 1) := by decide +kernel
theorem dX12_act_11 : decode cX12_act 11 = .ok (.lconst 0, 1) := by decide +kernel
theorem dX12_act_12 : decode cX12_act 12 = .ok (.aload_n 0, 1) := by decide +kernel
theorem dX12_act_13 : decode cX12_act 13 = .ok (.getfield 228, 3) := by decide +kernel
theorem dX12_act_16 : decode cX12_act 16 = .ok (.iconst 1, 1) := by decide +kernel
theorem dX12_act_17 : decode cX12_act 17 = .ok (.isub, 1) := by decide +kernel
theorem dX12_act_18 : decode cX12_act 18 = .ok (.i2l, 1) := by decide +kernel
theorem dX12_act_19 : decode cX12_act 19 = .ok (.invokestatic 131, 3) := by decide +kernel
theorem dX12_act_22 : decode cX12_act 22 = .ok (.ifCond .eq 15, 3) := by decide +kernel
theorem dX12_act_25 : decode cX12_act 25 = .ok (.iload_n 2, 1) := by decide +kernel
theorem dX12_act_26 : decode cX12_act 26 = .ok (.i2l, 1) := by decide +kernel
theorem dX12_act_27 : decode cX12_act 27 = .ok (.lconst 0, 1) := by decide +kernel
theorem dX12_act_28 : decode cX12_act 28 = .ok (.ldc2_w 149, 3) := by decide +kernel
theorem dX12_act_31 : decode cX12_act 31 = .ok (.invokestatic 131, 3) := by decide +kernel
theorem dX12_act_34 : decode cX12_act 34 = .ok (.ifCond .ne 6, 3) := by decide +kernel
theorem dX12_act_37 : decode cX12_act 37 = .ok (.bipush (-2), 2) := by decide +kernel
theorem dX12_act_39 : decode cX12_act 39 = .ok (.ireturn, 1) := by decide +kernel
theorem dX12_act_40 : decode cX12_act 40 = .ok (.iload_n 2, 1) := by decide +kernel
theorem dX12_act_41 : decode cX12_act 41 = .ok (.iconst 2, 1) := by decide +kernel
theorem dX12_act_42 : decode cX12_act 42 = .ok (.if_icmp .ge 23, 3) := by decide +kernel
theorem dX12_act_45 : decode cX12_act 45 = .ok (.iload_n 2, 1) := by decide +kernel
theorem dX12_act_46 : decode cX12_act 46 = .ok (.ifCond .ne 12, 3) := by decide +kernel
theorem dX12_act_49 : decode cX12_act 49 = .ok (.aload_n 0, 1) := by decide +kernel
theorem dX12_act_50 : decode cX12_act 50 = .ok (.getfield 75, 3) := by decide +kernel
theorem dX12_act_53 : decode cX12_act 53 = .ok (.iload_n 1, 1) := by decide +kernel
theorem dX12_act_54 : decode cX12_act 54 = .ok (.iaload, 1) := by decide +kernel
theorem dX12_act_55 : decode cX12_act 55 = .ok (.goto 9, 3) := by decide +kernel
theorem dX12_act_58 : decode cX12_act 58 = .ok (.aload_n 0, 1) := by decide +kernel
theorem dX12_act_59 : decode cX12_act 59 = .ok (.getfield 78, 3) := by decide +kernel
theorem dX12_act_62 : decode cX12_act 62 = .ok (.iload_n 1, 1) := by decide +kernel
theorem dX12_act_63 : decode cX12_act 63 = .ok (.iaload, 1) := by decide +kernel
theorem dX12_act_64 : decode cX12_act 64 = .ok (.ireturn, 1) := by decide +kernel
theorem dX12_act_65 : decode cX12_act 65 = .ok (.aload_n 0, 1) := by decide +kernel
theorem dX12_act_66 : decode cX12_act 66 = .ok (.getfield 75, 3) := by decide +kernel
theorem dX12_act_69 : decode cX12_act 69 = .ok (.iload_n 1, 1) := by decide +kernel
theorem dX12_act_70 : decode cX12_act 70 = .ok (.iaload, 1) := by decide +kernel
theorem dX12_act_71 : decode cX12_act 71 = .ok (.iconst 2, 1) := by decide +kernel
theorem dX12_act_72 : decode cX12_act 72 = .ok (.irem, 1) := by decide +kernel
theorem dX12_act_73 : decode cX12_act 73 = .ok (.iconst 1, 1) := by decide +kernel
theorem dX12_act_74 : decode cX12_act 74 = .ok (.if_icmp .ne 17, 3) := by decide +kernel
theorem dX12_act_77 : decode cX12_act 77 = .ok (.aload_n 0, 1) := by decide +kernel
theorem dX12_act_78 : decode cX12_act 78 = .ok (.getfield 72, 3) := by decide +kernel
theorem dX12_act_81 : decode cX12_act 81 = .ok (.aload_n 0, 1) := by decide +kernel
theorem dX12_act_82 : decode cX12_act 82 = .ok (.getfield 78, 3) := by decide +kernel
theorem dX12_act_85 : decode cX12_act 85 = .ok (.iload_n 1, 1) := by decide +kernel
theorem dX12_act_86 : decode cX12_act 86 = .ok (.iaload, 1) := by decide +kernel
theorem dX12_act_87 : decode cX12_act 87 = .ok (.iaload, 1) := by decide +kernel
theorem dX12_act_88 : decode cX12_act 88 = .ok (.goto 4, 3) := by decide +kernel
theorem dX12_act_91 : decode cX12_act 91 = .ok (.iconst (-1), 1) := by decide +kernel
theorem dX12_act_92 : decode cX12_act 92 = .ok (.ireturn, 1) := by decide +kernel
abbrev k_X12_act (E : g_E) (l : Launch) (D : g_D) (v1 : Int) (v2 : Int) (K : Int → g_D → Prop) : Prop := g_Ki E l m_X12_act 5 [g_R 208, g_I v1, g_I v2] g_SH D K
abbrev n_X12_act (E : g_E) (l : Launch) (D : g_D) (pc : Nat) (L : List (Option g_V)) (K : Int → g_D → Prop) : Prop := g_N E l m_X12_act 5 pc L [] g_SH D (g_Ri g_SH K)
theorem s_X12_act {E : g_E} {l : Launch} {D : g_D} {K : Int → g_D → Prop} {v1 : Int} {v2 : Int}  (hF : g_okD D → g_r v1 → g_r v2 → ∀ D1, D1 = g_up D 208 0 0 → (k_X12_laysAll E l D1 (fun D2 => (g_r ((D2 208 26) - 1)) ∧ (k_X12_within E l g_SH D2 v1 0 ((D2 208 26) - 1) (fun x3 D3 => g_r x3 → (x3 = 0 → K (-2) D3) ∧ (¬ x3 = 0 → k_X12_within E l g_SH D3 v2 0 2 (fun x4 D4 => g_r x4 → (¬ x4 = 0 → (2 ≤ v2 → (0 ≤ v1 ∧ v1 < 80) ∧ ((0 ≤ (D4 229 v1.toNat)) ∧ ((¬ ((D4 229 v1.toNat) % 2) = 1 → K (-1) D4) ∧ (((D4 229 v1.toNat) % 2) = 1 → (0 ≤ v1 ∧ v1 < 80) ∧ ((0 ≤ (D4 230 v1.toNat) ∧ (D4 230 v1.toNat) < 40) ∧ (K (D4 228 (D4 230 v1.toNat).toNat) D4)))))) ∧ (¬ 2 ≤ v2 → (¬ v2 = 0 → (0 ≤ v1 ∧ v1 < 80) ∧ (K (D4 230 v1.toNat) D4)) ∧ (v2 = 0 → (0 ≤ v1 ∧ v1 < 80) ∧ (K (D4 229 v1.toNat) D4)))) ∧ (x4 = 0 → K (-2) D4)))))))) : k_X12_act E l D v1 v2 K := by
  refine g_enter (by decide) (Nat.le_of_ble_eq_true rfl) ?_
  show g_N E l m_X12_act 5 0 [some (g_R 208), some (g_I v1), some (g_I v2)] [] g_SH D (g_Ri g_SH K)
  refine g_use (fun ok => ?_)
  have hF := hF ok.2.1 (ok.loc (i := 1) rfl) (ok.loc (i := 2) rfl)
  refine g_aload_n dX12_act_0 rfl ?_
  refine g_iconst dX12_act_1 ⟨by decide, by decide⟩ ?_
  let D1 : g_D := g_up D 208 0 0
  have hF := hF D1 rfl
  refine g_put dX12_act_2 fd_X12_1 (g_ftyI (C := RX12) (T := TX12) (N := 51) rfl rfl (by decide +kernel)) sh_208 rfl ?_
  refine g_aload_n dX12_act_5 rfl ?_
  refine gw_cVv (b := 208) (As := []) (rest := []) dX12_act_6 mv_X12_272 sh_208 rfl (Nat.le_of_ble_eq_true rfl) (by decide) rfl hF ?_
  intro D2 hF
  refine g_iload_n dX12_act_9 rfl ?_
  refine g_i2l dX12_act_10 ?_
  refine g_lconst dX12_act_11 ?_
  refine g_aload_n dX12_act_12 rfl ?_
  refine g_getI dX12_act_13 fd_X12_228 sh_208 rfl ?_
  refine g_iconst dX12_act_16 ⟨by decide, by decide⟩ ?_
  obtain ⟨hc, hF⟩ := hF
  refine g_isub dX12_act_17 hc ?_
  refine g_i2l dX12_act_18 ?_
  refine gw_cSi (As := [g_J v1, g_J 0, g_J ((D2 208 26) - 1)]) (rest := []) dX12_act_19 ms_X12_131 rfl (Nat.le_of_ble_eq_true rfl) (by decide) rfl hF ?_
  intro x3 D3 hx3 hF
  have hF := hF hx3
  refine g_ifeq dX12_act_22 rfl (fun q => ?_) (fun q => ?_)
  · have hF := hF.1 q
    refine g_bipush dX12_act_37 ⟨by decide, by decide⟩ ?_
    exact gw_iret dX12_act_39 rfl hF
  · have hF := hF.2 q
    refine g_iload_n dX12_act_25 rfl ?_
    refine g_i2l dX12_act_26 ?_
    refine g_lconst dX12_act_27 ?_
    refine g_ldc2 dX12_act_28 ⟨by decide, by decide⟩ kl_X12_149 ?_
    refine gw_cSi (As := [g_J v2, g_J 0, g_J 2]) (rest := []) dX12_act_31 ms_X12_131 rfl (Nat.le_of_ble_eq_true rfl) (by decide) rfl hF ?_
    intro x4 D4 hx4 hF
    have hF := hF hx4
    refine g_ifne dX12_act_34 rfl (fun q => ?_) (fun q => ?_)
    · have hF := hF.1 q
      refine g_iload_n dX12_act_40 rfl ?_
      refine g_iconst dX12_act_41 ⟨by decide, by decide⟩ ?_
      refine g_cge dX12_act_42 rfl (fun q => ?_) (fun q => ?_)
      · have hF := hF.1 q
        refine g_aload_n dX12_act_65 rfl ?_
        refine g_getR dX12_act_66 fd_X12_75 sh_208 rfl ?_
        refine g_iload_n dX12_act_69 rfl ?_
        obtain ⟨hc, hF⟩ := hF
        refine g_iald dX12_act_70 sh_229 hc.1 hc.2 ?_
        refine g_iconst dX12_act_71 ⟨by decide, by decide⟩ ?_
        obtain ⟨hc, hF⟩ := hF
        refine g_irem dX12_act_72 hc (by decide) ?_
        refine g_iconst dX12_act_73 ⟨by decide, by decide⟩ ?_
        refine g_cne dX12_act_74 rfl (fun q => ?_) (fun q => ?_)
        · have hF := hF.1 q
          refine g_iconst dX12_act_91 ⟨by decide, by decide⟩ ?_
          exact gw_iret dX12_act_92 rfl hF
        · have hF := hF.2 q
          refine g_aload_n dX12_act_77 rfl ?_
          refine g_getR dX12_act_78 fd_X12_72 sh_208 rfl ?_
          refine g_aload_n dX12_act_81 rfl ?_
          refine g_getR dX12_act_82 fd_X12_78 sh_208 rfl ?_
          refine g_iload_n dX12_act_85 rfl ?_
          obtain ⟨hc, hF⟩ := hF
          refine g_iald dX12_act_86 sh_230 hc.1 hc.2 ?_
          obtain ⟨hc, hF⟩ := hF
          refine g_iald dX12_act_87 sh_228 hc.1 hc.2 ?_
          refine g_goto dX12_act_88 rfl ?_
          exact gw_iret dX12_act_92 rfl hF
      · have hF := hF.2 q
        refine g_iload_n dX12_act_45 rfl ?_
        refine g_ifne dX12_act_46 rfl (fun q => ?_) (fun q => ?_)
        · have hF := hF.1 q
          refine g_aload_n dX12_act_58 rfl ?_
          refine g_getR dX12_act_59 fd_X12_78 sh_208 rfl ?_
          refine g_iload_n dX12_act_62 rfl ?_
          obtain ⟨hc, hF⟩ := hF
          refine g_iald dX12_act_63 sh_230 hc.1 hc.2 ?_
          exact gw_iret dX12_act_64 rfl hF
        · have hF := hF.2 q
          refine g_aload_n dX12_act_49 rfl ?_
          refine g_getR dX12_act_50 fd_X12_75 sh_208 rfl ?_
          refine g_iload_n dX12_act_53 rfl ?_
          obtain ⟨hc, hF⟩ := hF
          refine g_iald dX12_act_54 sh_229 hc.1 hc.2 ?_
          refine g_goto dX12_act_55 rfl ?_
          exact gw_iret dX12_act_64 rfl hF
    · have hF := hF.2 q
      refine g_bipush dX12_act_37 ⟨by decide, by decide⟩ ?_
      exact gw_iret dX12_act_39 rfl hF
theorem dX12_actNow_0 : decode cX12_actNow 0 = .ok (.aload_n 0, 1) := by decide +kernel
theorem dX12_actNow_1 : decode cX12_actNow 1 = .ok (.getfield 13, 3) := by decide +kernel
theorem dX12_actNow_4 : decode cX12_actNow 4 = .ok (.sipush 214, 3) := by decide +kernel
theorem dX12_actNow_7 : decode cX12_actNow 7 = .ok (.iconst 4, 1) := by decide +kernel
theorem dX12_actNow_8 : decode cX12_actNow 8 = .ok (.iload_n 1, 1) := by decide +kernel
theorem dX12_actNow_9 : decode cX12_actNow 9 = .ok (.imul, 1) := by decide +kernel
theorem dX12_actNow_10 : decode cX12_actNow 10 = .ok (.iadd, 1) := by decide +kernel
theorem dX12_actNow_11 : decode cX12_actNow 11 = .ok (.iload_n 2, 1) := by decide +kernel
theorem dX12_actNow_12 : decode cX12_actNow 12 = .ok (.iadd, 1) := by decide +kernel
theorem dX12_actNow_13 : decode cX12_actNow 13 = .ok (.iaload, 1) := by decide +kernel
theorem dX12_actNow_14 : decode cX12_actNow 14 = .ok (.ireturn, 1) := by decide +kernel
abbrev k_X12_actNow (E : g_E) (l : Launch) (D : g_D) (v1 : Int) (v2 : Int) (K : Int → g_D → Prop) : Prop := g_Ki E l m_X12_actNow 0 [g_R 208, g_I v1, g_I v2] g_SH D K
abbrev n_X12_actNow (E : g_E) (l : Launch) (D : g_D) (pc : Nat) (L : List (Option g_V)) (K : Int → g_D → Prop) : Prop := g_N E l m_X12_actNow 0 pc L [] g_SH D (g_Ri g_SH K)
theorem s_X12_actNow {E : g_E} {l : Launch} {D : g_D} {K : Int → g_D → Prop} {v1 : Int} {v2 : Int}  (hF : g_okD D → g_r v1 → g_r v2 → (g_r (4 * v1)) ∧ ((g_r (214 + (4 * v1))) ∧ ((g_r ((214 + (4 * v1)) + v2)) ∧ ((0 ≤ ((214 + (4 * v1)) + v2) ∧ ((214 + (4 * v1)) + v2) < 1557) ∧ (K (D 209 ((214 + (4 * v1)) + v2).toNat) D))))) : k_X12_actNow E l D v1 v2 K := by
  refine g_enter (by decide) (Nat.le_of_ble_eq_true rfl) ?_
  show g_N E l m_X12_actNow 0 0 [some (g_R 208), some (g_I v1), some (g_I v2)] [] g_SH D (g_Ri g_SH K)
  refine g_use (fun ok => ?_)
  have hF := hF ok.2.1 (ok.loc (i := 1) rfl) (ok.loc (i := 2) rfl)
  refine g_aload_n dX12_actNow_0 rfl ?_
  refine g_getR dX12_actNow_1 fd_X12_13 sh_208 rfl ?_
  refine g_sipush dX12_actNow_4 ⟨by decide, by decide⟩ ?_
  refine g_iconst dX12_actNow_7 ⟨by decide, by decide⟩ ?_
  refine g_iload_n dX12_actNow_8 rfl ?_
  obtain ⟨hc, hF⟩ := hF
  refine g_imul dX12_actNow_9 hc ?_
  obtain ⟨hc, hF⟩ := hF
  refine g_iadd dX12_actNow_10 hc ?_
  refine g_iload_n dX12_actNow_11 rfl ?_
  obtain ⟨hc, hF⟩ := hF
  refine g_iadd dX12_actNow_12 hc ?_
  obtain ⟨hc, hF⟩ := hF
  refine g_iald dX12_actNow_13 sh_209 hc.1 hc.2 ?_
  exact gw_iret dX12_actNow_14 rfl hF
theorem dX12_acts_0 : decode cX12_acts 0 = .ok (.aload_n 0, 1) := by decide +kernel
theorem dX12_acts_1 : decode cX12_acts 1 = .ok (.iconst 0, 1) := by decide +kernel
theorem dX12_acts_2 : decode cX12_acts 2 = .ok (.putfield 1, 3) := by decide +kernel
theorem dX12_acts_5 : decode cX12_acts 5 = .ok (.aload_n 0, 1) := by decide +kernel
theorem dX12_acts_6 : decode cX12_acts 6 = .ok (.invokevirtual 272, 3) := by decide +kernel
theorem dX12_acts_9 : decode cX12_acts 9 = .ok (.aload_n 0, 1) := by decide +kernel
theorem dX12_acts_10 : decode cX12_acts 10 = .ok (.getfield 228, 3) := by decide +kernel
theorem dX12_acts_13 : decode cX12_acts 13 = .ok (.ireturn, 1) := by decide +kernel
abbrev k_X12_acts (E : g_E) (l : Launch) (D : g_D) (K : Int → g_D → Prop) : Prop := g_Ki E l m_X12_acts 5 [g_R 208] g_SH D K
abbrev n_X12_acts (E : g_E) (l : Launch) (D : g_D) (pc : Nat) (L : List (Option g_V)) (K : Int → g_D → Prop) : Prop := g_N E l m_X12_acts 5 pc L [] g_SH D (g_Ri g_SH K)
theorem s_X12_acts {E : g_E} {l : Launch} {D : g_D} {K : Int → g_D → Prop}   (hF : g_okD D → ∀ D1, D1 = g_up D 208 0 0 → (k_X12_laysAll E l D1 (fun D2 => K (D2 208 26) D2))) : k_X12_acts E l D K := by
  refine g_enter (by decide) (Nat.le_of_ble_eq_true rfl) ?_
  show g_N E l m_X12_acts 5 0 [some (g_R 208)] [] g_SH D (g_Ri g_SH K)
  refine g_use (fun ok => ?_)
  have hF := hF ok.2.1
  refine g_aload_n dX12_acts_0 rfl ?_
  refine g_iconst dX12_acts_1 ⟨by decide, by decide⟩ ?_
  let D1 : g_D := g_up D 208 0 0
  have hF := hF D1 rfl
  refine g_put dX12_acts_2 fd_X12_1 (g_ftyI (C := RX12) (T := TX12) (N := 51) rfl rfl (by decide +kernel)) sh_208 rfl ?_
  refine g_aload_n dX12_acts_5 rfl ?_
  refine gw_cVv (b := 208) (As := []) (rest := []) dX12_acts_6 mv_X12_272 sh_208 rfl (Nat.le_of_ble_eq_true rfl) (by decide) rfl hF ?_
  intro D2 hF
  refine g_aload_n dX12_acts_9 rfl ?_
  refine g_getI dX12_acts_10 fd_X12_228 sh_208 rfl ?_
  exact gw_iret dX12_acts_13 rfl hF
theorem dX12_isCommand_0 : decode cX12_isCommand 0 = .ok (.iload_n 1, 1) := by decide +kernel
theorem dX12_isCommand_1 : decode cX12_isCommand 1 = .ok (.i2l, 1) := by decide +kernel
theorem dX12_isCommand_2 : decode cX12_isCommand 2 = .ok (.lconst 0, 1) := by decide +kernel
theorem dX12_isCommand_3 : decode cX12_isCommand 3 = .ok (.aload_n 0, 1) := by decide +kernel
theorem dX12_isCommand_4 : decode cX12_isCommand 4 = .ok (.getfield 182, 3) := by decide +kernel
theorem dX12_isCommand_7 : decode cX12_isCommand 7 = .ok (.iconst 1, 1) := by decide +kernel
theorem dX12_isCommand_8 : decode cX12_isCommand 8 = .ok (.isub, 1) := by decide +kernel
theorem dX12_isCommand_9 : decode cX12_isCommand 9 = .ok (.i2l, 1) := by decide +kernel
theorem dX12_isCommand_10 : decode cX12_isCommand 10 = .ok (.invokestatic 131, 3) := by decide +kernel
theorem dX12_isCommand_13 : decode cX12_isCommand 13 = .ok (.ireturn, 1) := by decide +kernel
abbrev k_X12_isCommand (E : g_E) (l : Launch) (D : g_D) (v1 : Int) (K : Int → g_D → Prop) : Prop := g_Ki E l m_X12_isCommand 1 [g_R 208, g_I v1] g_SH D K
abbrev n_X12_isCommand (E : g_E) (l : Launch) (D : g_D) (pc : Nat) (L : List (Option g_V)) (K : Int → g_D → Prop) : Prop := g_N E l m_X12_isCommand 1 pc L [] g_SH D (g_Ri g_SH K)
theorem s_X12_isCommand {E : g_E} {l : Launch} {D : g_D} {K : Int → g_D → Prop} {v1 : Int}  (hF : g_okD D → g_r v1 → (g_r ((D 208 14) - 1)) ∧ (k_X12_within E l g_SH D v1 0 ((D 208 14) - 1) (fun x1 D1 => g_r x1 → (x1 = 0 ∨ x1 = 1) ∧ K x1 D1))) : k_X12_isCommand E l D v1 K := by
  refine g_enter (by decide) (Nat.le_of_ble_eq_true rfl) ?_
  show g_N E l m_X12_isCommand 1 0 [some (g_R 208), some (g_I v1)] [] g_SH D (g_Ri g_SH K)
  refine g_use (fun ok => ?_)
  have hF := hF ok.2.1 (ok.loc (i := 1) rfl)
  refine g_iload_n dX12_isCommand_0 rfl ?_
  refine g_i2l dX12_isCommand_1 ?_
  refine g_lconst dX12_isCommand_2 ?_
  refine g_aload_n dX12_isCommand_3 rfl ?_
  refine g_getI dX12_isCommand_4 fd_X12_182 sh_208 rfl ?_
  refine g_iconst dX12_isCommand_7 ⟨by decide, by decide⟩ ?_
  obtain ⟨hc, hF⟩ := hF
  refine g_isub dX12_isCommand_8 hc ?_
  refine g_i2l dX12_isCommand_9 ?_
  refine gw_cSi (As := [g_J v1, g_J 0, g_J ((D 208 14) - 1)]) (rest := []) dX12_isCommand_10 ms_X12_131 rfl (Nat.le_of_ble_eq_true rfl) (by decide) rfl hF ?_
  intro x1 D1 hx1 hF
  have hF := hF hx1
  exact gw_zret dX12_isCommand_13 rfl hF.1 hF.2
theorem dX12_ahead_0 : decode cX12_ahead 0 = .ok (.aload_n 0, 1) := by decide +kernel
theorem dX12_ahead_1 : decode cX12_ahead 1 = .ok (.iconst 0, 1) := by decide +kernel
theorem dX12_ahead_2 : decode cX12_ahead 2 = .ok (.putfield 1, 3) := by decide +kernel
theorem dX12_ahead_5 : decode cX12_ahead 5 = .ok (.aload_n 0, 1) := by decide +kernel
theorem dX12_ahead_6 : decode cX12_ahead 6 = .ok (.invokevirtual 193, 3) := by decide +kernel
theorem dX12_ahead_9 : decode cX12_ahead 9 = .ok (.aload_n 0, 1) := by decide +kernel
theorem dX12_ahead_10 : decode cX12_ahead 10 = .ok (.iload_n 1, 1) := by decide +kernel
theorem dX12_ahead_11 : decode cX12_ahead 11 = .ok (.invokevirtual 196, 3) := by decide +kernel
theorem dX12_ahead_14 : decode cX12_ahead 14 = .ok (.ifCond .eq 16, 3) := by decide +kernel
theorem dX12_ahead_17 : decode cX12_ahead 17 = .ok (.aload_n 0, 1) := by decide +kernel
theorem dX12_ahead_18 : decode cX12_ahead 18 = .ok (.iload_n 2, 1) := by decide +kernel
theorem dX12_ahead_19 : decode cX12_ahead 19 = .ok (.invokevirtual 196, 3) := by decide +kernel
theorem dX12_ahead_22 : decode cX12_ahead 22 = .ok (.ifCond .eq 8, 3) := by decide +kernel
theorem dX12_ahead_25 : decode cX12_ahead 25 = .ok (.iload_n 1, 1) := by decide +kernel
theorem dX12_ahead_26 : decode cX12_ahead 26 = .ok (.iload_n 2, 1) := by decide +kernel
theorem dX12_ahead_27 : decode cX12_ahead 27 = .ok (.if_icmp .ne 6, 3) := by decide +kernel
theorem dX12_ahead_30 : decode cX12_ahead 30 = .ok (.bipush (-2), 2) := by decide +kernel
theorem dX12_ahead_32 : decode cX12_ahead 32 = .ok (.ireturn, 1) := by decide +kernel
theorem dX12_ahead_33 : decode cX12_ahead 33 = .ok (.aload_n 0, 1) := by decide +kernel
theorem dX12_ahead_34 : decode cX12_ahead 34 = .ok (.getfield 48, 3) := by decide +kernel
theorem dX12_ahead_37 : decode cX12_ahead 37 = .ok (.bipush 40, 2) := by decide +kernel
theorem dX12_ahead_39 : decode cX12_ahead 39 = .ok (.iload_n 1, 1) := by decide +kernel
theorem dX12_ahead_40 : decode cX12_ahead 40 = .ok (.imul, 1) := by decide +kernel
theorem dX12_ahead_41 : decode cX12_ahead 41 = .ok (.iload_n 2, 1) := by decide +kernel
theorem dX12_ahead_42 : decode cX12_ahead 42 = .ok (.iadd, 1) := by decide +kernel
theorem dX12_ahead_43 : decode cX12_ahead 43 = .ok (.baload, 1) := by decide +kernel
theorem dX12_ahead_44 : decode cX12_ahead 44 = .ok (.ifCond .eq 7, 3) := by decide +kernel
theorem dX12_ahead_47 : decode cX12_ahead 47 = .ok (.iconst 1, 1) := by decide +kernel
theorem dX12_ahead_48 : decode cX12_ahead 48 = .ok (.goto 4, 3) := by decide +kernel
theorem dX12_ahead_51 : decode cX12_ahead 51 = .ok (.iconst 0, 1) := by decide +kernel
theorem dX12_ahead_52 : decode cX12_ahead 52 = .ok (.ireturn, 1) := by decide +kernel
abbrev k_X12_ahead (E : g_E) (l : Launch) (D : g_D) (v1 : Int) (v2 : Int) (K : Int → g_D → Prop) : Prop := g_Ki E l m_X12_ahead 4 [g_R 208, g_I v1, g_I v2] g_SH D K
abbrev n_X12_ahead (E : g_E) (l : Launch) (D : g_D) (pc : Nat) (L : List (Option g_V)) (K : Int → g_D → Prop) : Prop := g_N E l m_X12_ahead 4 pc L [] g_SH D (g_Ri g_SH K)
theorem s_X12_ahead {E : g_E} {l : Launch} {D : g_D} {K : Int → g_D → Prop} {v1 : Int} {v2 : Int}  (hF : g_okD D → g_r v1 → g_r v2 → ∀ D1, D1 = g_up D 208 0 0 → (k_X12_laysCommands E l D1 (fun D2 => k_X12_isCommand E l D2 v1 (fun x3 D3 => g_r x3 → (x3 = 0 → K (-2) D3) ∧ (¬ x3 = 0 → k_X12_isCommand E l D3 v2 (fun x4 D4 => g_r x4 → (x4 = 0 → K (-2) D4) ∧ (¬ x4 = 0 → (¬ v1 = v2 → (g_r (40 * v1)) ∧ ((g_r ((40 * v1) + v2)) ∧ ((0 ≤ ((40 * v1) + v2) ∧ ((40 * v1) + v2) < 1600) ∧ (((D4 220 ((40 * v1) + v2).toNat) = 0 → K 0 D4) ∧ (¬ (D4 220 ((40 * v1) + v2).toNat) = 0 → K 1 D4))))) ∧ (v1 = v2 → K (-2) D4)))))))) : k_X12_ahead E l D v1 v2 K := by
  refine g_enter (by decide) (Nat.le_of_ble_eq_true rfl) ?_
  show g_N E l m_X12_ahead 4 0 [some (g_R 208), some (g_I v1), some (g_I v2)] [] g_SH D (g_Ri g_SH K)
  refine g_use (fun ok => ?_)
  have hF := hF ok.2.1 (ok.loc (i := 1) rfl) (ok.loc (i := 2) rfl)
  refine g_aload_n dX12_ahead_0 rfl ?_
  refine g_iconst dX12_ahead_1 ⟨by decide, by decide⟩ ?_
  let D1 : g_D := g_up D 208 0 0
  have hF := hF D1 rfl
  refine g_put dX12_ahead_2 fd_X12_1 (g_ftyI (C := RX12) (T := TX12) (N := 51) rfl rfl (by decide +kernel)) sh_208 rfl ?_
  refine g_aload_n dX12_ahead_5 rfl ?_
  refine gw_cVv (b := 208) (As := []) (rest := []) dX12_ahead_6 mv_X12_193 sh_208 rfl (Nat.le_of_ble_eq_true rfl) (by decide) rfl hF ?_
  intro D2 hF
  refine g_aload_n dX12_ahead_9 rfl ?_
  refine g_iload_n dX12_ahead_10 rfl ?_
  refine gw_cVi (b := 208) (As := [g_I v1]) (rest := []) dX12_ahead_11 mv_X12_196 sh_208 rfl (Nat.le_of_ble_eq_true rfl) (by decide) rfl hF ?_
  intro x3 D3 hx3 hF
  have hF := hF hx3
  refine g_ifeq dX12_ahead_14 rfl (fun q => ?_) (fun q => ?_)
  · have hF := hF.1 q
    refine g_bipush dX12_ahead_30 ⟨by decide, by decide⟩ ?_
    exact gw_iret dX12_ahead_32 rfl hF
  · have hF := hF.2 q
    refine g_aload_n dX12_ahead_17 rfl ?_
    refine g_iload_n dX12_ahead_18 rfl ?_
    refine gw_cVi (b := 208) (As := [g_I v2]) (rest := []) dX12_ahead_19 mv_X12_196 sh_208 rfl (Nat.le_of_ble_eq_true rfl) (by decide) rfl hF ?_
    intro x4 D4 hx4 hF
    have hF := hF hx4
    refine g_ifeq dX12_ahead_22 rfl (fun q => ?_) (fun q => ?_)
    · have hF := hF.1 q
      refine g_bipush dX12_ahead_30 ⟨by decide, by decide⟩ ?_
      exact gw_iret dX12_ahead_32 rfl hF
    · have hF := hF.2 q
      refine g_iload_n dX12_ahead_25 rfl ?_
      refine g_iload_n dX12_ahead_26 rfl ?_
      refine g_cne dX12_ahead_27 rfl (fun q => ?_) (fun q => ?_)
      · have hF := hF.1 q
        refine g_aload_n dX12_ahead_33 rfl ?_
        refine g_getR dX12_ahead_34 fd_X12_48 sh_208 rfl ?_
        refine g_bipush dX12_ahead_37 ⟨by decide, by decide⟩ ?_
        refine g_iload_n dX12_ahead_39 rfl ?_
        obtain ⟨hc, hF⟩ := hF
        refine g_imul dX12_ahead_40 hc ?_
        refine g_iload_n dX12_ahead_41 rfl ?_
        obtain ⟨hc, hF⟩ := hF
        refine g_iadd dX12_ahead_42 hc ?_
        obtain ⟨hc, hF⟩ := hF
        refine g_bald dX12_ahead_43 sh_220 hc.1 hc.2 ?_
        refine g_ifeq dX12_ahead_44 rfl (fun q => ?_) (fun q => ?_)
        · have hF := hF.1 q
          refine g_iconst dX12_ahead_51 ⟨by decide, by decide⟩ ?_
          exact gw_iret dX12_ahead_52 rfl hF
        · have hF := hF.2 q
          refine g_iconst dX12_ahead_47 ⟨by decide, by decide⟩ ?_
          refine g_goto dX12_ahead_48 rfl ?_
          exact gw_iret dX12_ahead_52 rfl hF
      · have hF := hF.2 q
        refine g_bipush dX12_ahead_30 ⟨by decide, by decide⟩ ?_
        exact gw_iret dX12_ahead_32 rfl hF
theorem dX12_begins_0 : decode cX12_begins 0 = .ok (.iconst 0, 1) := by decide +kernel
theorem dX12_begins_1 : decode cX12_begins 1 = .ok (.istore_n 1, 1) := by decide +kernel
theorem dX12_begins_2 : decode cX12_begins 2 = .ok (.iload_n 1, 1) := by decide +kernel
theorem dX12_begins_3 : decode cX12_begins 3 = .ok (.bipush 60, 2) := by decide +kernel
theorem dX12_begins_5 : decode cX12_begins 5 = .ok (.if_icmp .ge 28, 3) := by decide +kernel
theorem dX12_begins_8 : decode cX12_begins 8 = .ok (.aload_n 0, 1) := by decide +kernel
theorem dX12_begins_9 : decode cX12_begins 9 = .ok (.getfield 13, 3) := by decide +kernel
theorem dX12_begins_12 : decode cX12_begins 12 = .ok (.sipush 153, 3) := by decide +kernel
theorem dX12_begins_15 : decode cX12_begins 15 = .ok (.iload_n 1, 1) := by decide +kernel
theorem dX12_begins_16 : decode cX12_begins 16 = .ok (.iadd, 1) := by decide +kernel
theorem dX12_begins_17 : decode cX12_begins 17 = .ok (.aload_n 0, 1) := by decide +kernel
theorem dX12_begins_18 : decode cX12_begins 18 = .ok (.getfield 13, 3) := by decide +kernel
theorem dX12_begins_21 : decode cX12_begins 21 = .ok (.bipush 86, 2) := by decide +kernel
theorem dX12_begins_23 : decode cX12_begins 23 = .ok (.iload_n 1, 1) := by decide +kernel
theorem dX12_begins_24 : decode cX12_begins 24 = .ok (.iadd, 1) := by decide +kernel
theorem dX12_begins_25 : decode cX12_begins 25 = .ok (.iaload, 1) := by decide +kernel
theorem dX12_begins_26 : decode cX12_begins 26 = .ok (.iastore, 1) := by decide +kernel
theorem dX12_begins_27 : decode cX12_begins 27 = .ok (.iinc 1 1, 3) := by decide +kernel
theorem dX12_begins_30 : decode cX12_begins 30 = .ok (.goto (-28), 3) := by decide +kernel
theorem dX12_begins_33 : decode cX12_begins 33 = .ok (.aload_n 0, 1) := by decide +kernel
theorem dX12_begins_34 : decode cX12_begins 34 = .ok (.getfield 13, 3) := by decide +kernel
theorem dX12_begins_37 : decode cX12_begins 37 = .ok (.sipush 147, 3) := by decide +kernel
theorem dX12_begins_40 : decode cX12_begins 40 = .ok (.iconst 0, 1) := by decide +kernel
theorem dX12_begins_41 : decode cX12_begins 41 = .ok (.iastore, 1) := by decide +kernel
theorem dX12_begins_42 : decode cX12_begins 42 = .ok (.aload_n 0, 1) := by decide +kernel
theorem dX12_begins_43 : decode cX12_begins 43 = .ok (.getfield 13, 3) := by decide +kernel
theorem dX12_begins_46 : decode cX12_begins 46 = .ok (.sipush 148, 3) := by decide +kernel
theorem dX12_begins_49 : decode cX12_begins 49 = .ok (.iconst (-1), 1) := by decide +kernel
theorem dX12_begins_50 : decode cX12_begins 50 = .ok (.iastore, 1) := by decide +kernel
theorem dX12_begins_51 : decode cX12_begins 51 = .ok (.iconst 0, 1) := by decide +kernel
theorem dX12_begins_52 : decode cX12_begins 52 = .ok (.istore_n 1, 1) := by decide +kernel
theorem dX12_begins_53 : decode cX12_begins 53 = .ok (.iload_n 1, 1) := by decide +kernel
theorem dX12_begins_54 : decode cX12_begins 54 = .ok (.iconst 4, 1) := by decide +kernel
theorem dX12_begins_55 : decode cX12_begins 55 = .ok (.if_icmp .ge 20, 3) := by decide +kernel
theorem dX12_begins_58 : decode cX12_begins 58 = .ok (.aload_n 0, 1) := by decide +kernel
theorem dX12_begins_59 : decode cX12_begins 59 = .ok (.getfield 13, 3) := by decide +kernel
theorem dX12_begins_62 : decode cX12_begins 62 = .ok (.sipush 149, 3) := by decide +kernel
theorem dX12_begins_65 : decode cX12_begins 65 = .ok (.iload_n 1, 1) := by decide +kernel
theorem dX12_begins_66 : decode cX12_begins 66 = .ok (.iadd, 1) := by decide +kernel
theorem dX12_begins_67 : decode cX12_begins 67 = .ok (.iconst 0, 1) := by decide +kernel
theorem dX12_begins_68 : decode cX12_begins 68 = .ok (.iastore, 1) := by decide +kernel
theorem dX12_begins_69 : decode cX12_begins 69 = .ok (.iinc 1 1, 3) := by decide +kernel
theorem dX12_begins_72 : decode cX12_begins 72 = .ok (.goto (-19), 3) := by decide +kernel
theorem dX12_begins_75 : decode cX12_begins 75 = .ok (.return_, 1) := by decide +kernel
abbrev k_X12_begins (E : g_E) (l : Launch) (D : g_D) (K : g_D → Prop) : Prop := g_Kv E l m_X12_begins 0 [g_R 208] g_SH D K
abbrev n_X12_begins (E : g_E) (l : Launch) (D : g_D) (pc : Nat) (L : List (Option g_V)) (K : g_D → Prop) : Prop := g_N E l m_X12_begins 0 pc L [] g_SH D (g_Rv g_SH K)
theorem s_X12_begins {E : g_E} {l : Launch} {D : g_D} {K : g_D → Prop}   (hF : g_okD D → n_X12_begins E l D 2 [some (g_R 208), some (g_I 0)] K) : k_X12_begins E l D K := by
  refine g_enter (by decide) (Nat.le_of_ble_eq_true rfl) ?_
  show g_N E l m_X12_begins 0 0 [some (g_R 208), none] [] g_SH D (g_Rv g_SH K)
  refine g_use (fun ok => ?_)
  have hF := hF ok.2.1
  refine g_iconst dX12_begins_0 ⟨by decide, by decide⟩ ?_
  refine gw_istore_n (L' := [some (g_R 208), some (g_I 0)]) dX12_begins_1 (by decide) rfl ?_
  exact hF
theorem s_X12_begins_2 {E : g_E} {l : Launch} {D : g_D} {K : g_D → Prop} {v1 : Int}  (hF : g_okD D → g_r v1 → (60 ≤ v1 → ∀ D1, D1 = g_up D 209 147 0 → (∀ D2, D2 = g_up D1 209 148 (-1) → (n_X12_begins E l D2 53 [some (g_R 208), some (g_I 0)] K))) ∧ (¬ 60 ≤ v1 → (g_r (153 + v1)) ∧ ((g_r (86 + v1)) ∧ ((0 ≤ (86 + v1) ∧ (86 + v1) < 1557) ∧ ((0 ≤ (153 + v1) ∧ (153 + v1) < 1557) ∧ (∀ D3, D3 = g_up D 209 (153 + v1).toNat (D 209 (86 + v1).toNat) → ((g_r (v1 + 1)) ∧ (n_X12_begins E l D3 2 [some (g_R 208), some (g_I (v1 + 1))] K)))))))) : n_X12_begins E l D 2 [some (g_R 208), some (g_I v1)] K := by
  refine g_use (fun ok => ?_)
  have hF := hF ok.2.1 (ok.loc (i := 1) rfl)
  refine g_iload_n dX12_begins_2 rfl ?_
  refine g_bipush dX12_begins_3 ⟨by decide, by decide⟩ ?_
  refine g_cge dX12_begins_5 rfl (fun q => ?_) (fun q => ?_)
  · have hF := hF.1 q
    refine g_aload_n dX12_begins_33 rfl ?_
    refine g_getR dX12_begins_34 fd_X12_13 sh_208 rfl ?_
    refine g_sipush dX12_begins_37 ⟨by decide, by decide⟩ ?_
    refine g_iconst dX12_begins_40 ⟨by decide, by decide⟩ ?_
    let D1 : g_D := g_up D 209 147 0
    have hF := hF D1 rfl
    refine g_iast dX12_begins_41 sh_209 (by decide) (by decide) ?_
    refine g_aload_n dX12_begins_42 rfl ?_
    refine g_getR dX12_begins_43 fd_X12_13 sh_208 rfl ?_
    refine g_sipush dX12_begins_46 ⟨by decide, by decide⟩ ?_
    refine g_iconst dX12_begins_49 ⟨by decide, by decide⟩ ?_
    let D2 : g_D := g_up D1 209 148 (-1)
    have hF := hF D2 rfl
    refine g_iast dX12_begins_50 sh_209 (by decide) (by decide) ?_
    refine g_iconst dX12_begins_51 ⟨by decide, by decide⟩ ?_
    refine gw_istore_n (L' := [some (g_R 208), some (g_I 0)]) dX12_begins_52 (by decide) rfl ?_
    exact hF
  · have hF := hF.2 q
    refine g_aload_n dX12_begins_8 rfl ?_
    refine g_getR dX12_begins_9 fd_X12_13 sh_208 rfl ?_
    refine g_sipush dX12_begins_12 ⟨by decide, by decide⟩ ?_
    refine g_iload_n dX12_begins_15 rfl ?_
    obtain ⟨hc, hF⟩ := hF
    refine g_iadd dX12_begins_16 hc ?_
    refine g_aload_n dX12_begins_17 rfl ?_
    refine g_getR dX12_begins_18 fd_X12_13 sh_208 rfl ?_
    refine g_bipush dX12_begins_21 ⟨by decide, by decide⟩ ?_
    refine g_iload_n dX12_begins_23 rfl ?_
    obtain ⟨hc, hF⟩ := hF
    refine g_iadd dX12_begins_24 hc ?_
    obtain ⟨hc, hF⟩ := hF
    refine g_iald dX12_begins_25 sh_209 hc.1 hc.2 ?_
    obtain ⟨hc, hF⟩ := hF
    let D3 : g_D := g_up D 209 (153 + v1).toNat (D 209 (86 + v1).toNat)
    have hF := hF D3 rfl
    refine g_iast dX12_begins_26 sh_209 hc.1 hc.2 ?_
    obtain ⟨hc, hF⟩ := hF
    refine gw_iinc (L' := [some (g_R 208), some (g_I (v1 + 1))]) dX12_begins_27 rfl hc (by decide) rfl ?_
    refine g_goto dX12_begins_30 rfl ?_
    exact hF
theorem s_X12_begins_53 {E : g_E} {l : Launch} {D : g_D} {K : g_D → Prop} {v1 : Int}  (hF : g_okD D → g_r v1 → (4 ≤ v1 → K D) ∧ (¬ 4 ≤ v1 → (g_r (149 + v1)) ∧ ((0 ≤ (149 + v1) ∧ (149 + v1) < 1557) ∧ (∀ D1, D1 = g_up D 209 (149 + v1).toNat 0 → ((g_r (v1 + 1)) ∧ (n_X12_begins E l D1 53 [some (g_R 208), some (g_I (v1 + 1))] K)))))) : n_X12_begins E l D 53 [some (g_R 208), some (g_I v1)] K := by
  refine g_use (fun ok => ?_)
  have hF := hF ok.2.1 (ok.loc (i := 1) rfl)
  refine g_iload_n dX12_begins_53 rfl ?_
  refine g_iconst dX12_begins_54 ⟨by decide, by decide⟩ ?_
  refine g_cge dX12_begins_55 rfl (fun q => ?_) (fun q => ?_)
  · have hF := hF.1 q
    exact gw_vret dX12_begins_75 rfl hF
  · have hF := hF.2 q
    refine g_aload_n dX12_begins_58 rfl ?_
    refine g_getR dX12_begins_59 fd_X12_13 sh_208 rfl ?_
    refine g_sipush dX12_begins_62 ⟨by decide, by decide⟩ ?_
    refine g_iload_n dX12_begins_65 rfl ?_
    obtain ⟨hc, hF⟩ := hF
    refine g_iadd dX12_begins_66 hc ?_
    refine g_iconst dX12_begins_67 ⟨by decide, by decide⟩ ?_
    obtain ⟨hc, hF⟩ := hF
    let D1 : g_D := g_up D 209 (149 + v1).toNat 0
    have hF := hF D1 rfl
    refine g_iast dX12_begins_68 sh_209 hc.1 hc.2 ?_
    obtain ⟨hc, hF⟩ := hF
    refine gw_iinc (L' := [some (g_R 208), some (g_I (v1 + 1))]) dX12_begins_69 rfl hc (by decide) rfl ?_
    refine g_goto dX12_begins_72 rfl ?_
    exact hF
theorem dX12_best_0 : decode cX12_best 0 = .ok (.aload_n 0, 1) := by decide +kernel
theorem dX12_best_1 : decode cX12_best 1 = .ok (.iconst 0, 1) := by decide +kernel
theorem dX12_best_2 : decode cX12_best 2 = .ok (.putfield 1, 3) := by decide +kernel
theorem dX12_best_5 : decode cX12_best 5 = .ok (.iload_n 1, 1) := by decide +kernel
theorem dX12_best_6 : decode cX12_best 6 = .ok (.i2l, 1) := by decide +kernel
theorem dX12_best_7 : decode cX12_best 7 = .ok (.lconst 0, 1) := by decide +kernel
theorem dX12_best_8 : decode cX12_best 8 = .ok (.lconst 1, 1) := by decide +kernel
theorem dX12_best_9 : decode cX12_best 9 = .ok (.invokestatic 131, 3) := by decide +kernel
theorem dX12_best_12 : decode cX12_best 12 = .ok (.ifCond .ne 6, 3) := by decide +kernel
theorem dX12_best_15 : decode cX12_best 15 = .ok (.bipush (-2), 2) := by decide +kernel
theorem dX12_best_17 : decode cX12_best 17 = .ok (.ireturn, 1) := by decide +kernel
theorem dX12_best_18 : decode cX12_best 18 = .ok (.iload_n 1, 1) := by decide +kernel
theorem dX12_best_19 : decode cX12_best 19 = .ok (.ifCond .ne 7, 3) := by decide +kernel
theorem dX12_best_22 : decode cX12_best 22 = .ok (.iconst 4, 1) := by decide +kernel
theorem dX12_best_23 : decode cX12_best 23 = .ok (.goto 4, 3) := by decide +kernel
theorem dX12_best_26 : decode cX12_best 26 = .ok (.iconst 3, 1) := by decide +kernel
theorem dX12_best_27 : decode cX12_best 27 = .ok (.istore_n 2, 1) := by decide +kernel
theorem dX12_best_28 : decode cX12_best 28 = .ok (.aload_n 0, 1) := by decide +kernel
theorem dX12_best_29 : decode cX12_best 29 = .ok (.getfield 13, 3) := by decide +kernel
theorem dX12_best_32 : decode cX12_best 32 = .ok (.iload_n 2, 1) := by decide +kernel
theorem dX12_best_33 : decode cX12_best 33 = .ok (.iaload, 1) := by decide +kernel
theorem dX12_best_34 : decode cX12_best 34 = .ok (.istore_n 3, 1) := by decide +kernel
theorem dX12_best_35 : decode cX12_best 35 = .ok (.iconst (-1), 1) := by decide +kernel
theorem dX12_best_36 : decode cX12_best 36 = .ok (.istore 4, 2) := by decide +kernel
theorem dX12_best_38 : decode cX12_best 38 = .ok (.ldc 178, 2) := by decide +kernel
theorem dX12_best_40 : decode cX12_best 40 = .ok (.istore 5, 2) := by decide +kernel
theorem dX12_best_42 : decode cX12_best 42 = .ok (.iconst 0, 1) := by decide +kernel
theorem dX12_best_43 : decode cX12_best 43 = .ok (.istore 6, 2) := by decide +kernel
theorem dX12_best_45 : decode cX12_best 45 = .ok (.iload 6, 2) := by decide +kernel
theorem dX12_best_47 : decode cX12_best 47 = .ok (.iconst 3, 1) := by decide +kernel
theorem dX12_best_48 : decode cX12_best 48 = .ok (.if_icmp .ge 43, 3) := by decide +kernel
theorem dX12_best_51 : decode cX12_best 51 = .ok (.aload_n 0, 1) := by decide +kernel
theorem dX12_best_52 : decode cX12_best 52 = .ok (.getfield 13, 3) := by decide +kernel
theorem dX12_best_55 : decode cX12_best 55 = .ok (.iload_n 2, 1) := by decide +kernel
theorem dX12_best_56 : decode cX12_best 56 = .ok (.iload 6, 2) := by decide +kernel
theorem dX12_best_58 : decode cX12_best 58 = .ok (.iastore, 1) := by decide +kernel
theorem dX12_best_59 : decode cX12_best 59 = .ok (.aload_n 0, 1) := by decide +kernel
theorem dX12_best_60 : decode cX12_best 60 = .ok (.invokevirtual 272, 3) := by decide +kernel
theorem dX12_best_63 : decode cX12_best 63 = .ok (.aload_n 0, 1) := by decide +kernel
theorem dX12_best_64 : decode cX12_best 64 = .ok (.getfield 266, 3) := by decide +kernel
theorem dX12_best_67 : decode cX12_best 67 = .ok (.iload 5, 2) := by decide +kernel
theorem dX12_best_69 : decode cX12_best 69 = .ok (.if_icmp .lt 6, 3) := by decide +kernel
theorem dX12_best_72 : decode cX12_best 72 = .ok (.goto 13, 3) := by decide +kernel
theorem dX12_best_75 : decode cX12_best 75 = .ok (.iload 6, 2) := by decide +kernel
theorem dX12_best_77 : decode cX12_best 77 = .ok (.istore 4, 2) := by decide +kernel
theorem dX12_best_79 : decode cX12_best 79 = .ok (.aload_n 0, 1) := by decide +kernel
theorem dX12_best_80 : decode cX12_best 80 = .ok (.getfield 266, 3) := by decide +kernel
theorem dX12_best_83 : decode cX12_best 83 = .ok (.istore 5, 2) := by decide +kernel
theorem dX12_best_85 : decode cX12_best 85 = .ok (.iinc 6 1, 3) := by decide +kernel
theorem dX12_best_88 : decode cX12_best 88 = .ok (.goto (-43), 3) := by decide +kernel
theorem dX12_best_91 : decode cX12_best 91 = .ok (.aload_n 0, 1) := by decide +kernel
theorem dX12_best_92 : decode cX12_best 92 = .ok (.getfield 13, 3) := by decide +kernel
theorem dX12_best_95 : decode cX12_best 95 = .ok (.iload_n 2, 1) := by decide +kernel
theorem dX12_best_96 : decode cX12_best 96 = .ok (.iload_n 3, 1) := by decide +kernel
theorem dX12_best_97 : decode cX12_best 97 = .ok (.iastore, 1) := by decide +kernel
theorem dX12_best_98 : decode cX12_best 98 = .ok (.iload 4, 2) := by decide +kernel
theorem dX12_best_100 : decode cX12_best 100 = .ok (.ireturn, 1) := by decide +kernel
abbrev k_X12_best (E : g_E) (l : Launch) (D : g_D) (v1 : Int) (K : Int → g_D → Prop) : Prop := g_Ki E l m_X12_best 5 [g_R 208, g_I v1] g_SH D K
abbrev n_X12_best (E : g_E) (l : Launch) (D : g_D) (pc : Nat) (L : List (Option g_V)) (K : Int → g_D → Prop) : Prop := g_N E l m_X12_best 5 pc L [] g_SH D (g_Ri g_SH K)
theorem s_X12_best {E : g_E} {l : Launch} {D : g_D} {K : Int → g_D → Prop} {v1 : Int}  (hF : g_okD D → g_r v1 → ∀ D1, D1 = g_up D 208 0 0 → (k_X12_within E l g_SH D1 v1 0 1 (fun x2 D2 => g_r x2 → (¬ x2 = 0 → (¬ v1 = 0 → n_X12_best E l D2 45 [some (g_R 208), none, some (g_I 3), some (g_I (D2 209 3)), some (g_I (-1)), some (g_I 268435456), some (g_I 0)] K) ∧ (v1 = 0 → n_X12_best E l D2 45 [some (g_R 208), none, some (g_I 4), some (g_I (D2 209 4)), some (g_I (-1)), some (g_I 268435456), some (g_I 0)] K)) ∧ (x2 = 0 → K (-2) D2)))) : k_X12_best E l D v1 K := by
  refine g_enter (by decide) (Nat.le_of_ble_eq_true rfl) ?_
  show g_N E l m_X12_best 5 0 [some (g_R 208), some (g_I v1), none, none, none, none, none] [] g_SH D (g_Ri g_SH K)
  refine g_use (fun ok => ?_)
  have hF := hF ok.2.1 (ok.loc (i := 1) rfl)
  refine g_aload_n dX12_best_0 rfl ?_
  refine g_iconst dX12_best_1 ⟨by decide, by decide⟩ ?_
  let D1 : g_D := g_up D 208 0 0
  have hF := hF D1 rfl
  refine g_put dX12_best_2 fd_X12_1 (g_ftyI (C := RX12) (T := TX12) (N := 51) rfl rfl (by decide +kernel)) sh_208 rfl ?_
  refine g_iload_n dX12_best_5 rfl ?_
  refine g_i2l dX12_best_6 ?_
  refine g_lconst dX12_best_7 ?_
  refine g_lconst dX12_best_8 ?_
  refine gw_cSi (As := [g_J v1, g_J 0, g_J 1]) (rest := []) dX12_best_9 ms_X12_131 rfl (Nat.le_of_ble_eq_true rfl) (by decide) rfl hF ?_
  intro x2 D2 hx2 hF
  have hF := hF hx2
  refine g_ifne dX12_best_12 rfl (fun q => ?_) (fun q => ?_)
  · have hF := hF.1 q
    refine g_iload_n dX12_best_18 rfl ?_
    refine g_ifne dX12_best_19 rfl (fun q => ?_) (fun q => ?_)
    · have hF := hF.1 q
      refine g_iconst dX12_best_26 ⟨by decide, by decide⟩ ?_
      refine gw_istore_n (L' := [some (g_R 208), some (g_I v1), some (g_I 3), none, none, none, none]) dX12_best_27 (by decide) rfl ?_
      refine g_aload_n dX12_best_28 rfl ?_
      refine g_getR dX12_best_29 fd_X12_13 sh_208 rfl ?_
      refine g_iload_n dX12_best_32 rfl ?_
      refine g_iald dX12_best_33 sh_209 (by decide) (by decide) ?_
      refine gw_istore_n (L' := [some (g_R 208), some (g_I v1), some (g_I 3), some (g_I (D2 209 3)), none, none, none]) dX12_best_34 (by decide) rfl ?_
      refine g_iconst dX12_best_35 ⟨by decide, by decide⟩ ?_
      refine gw_istore (L' := [some (g_R 208), some (g_I v1), some (g_I 3), some (g_I (D2 209 3)), some (g_I (-1)), none, none]) dX12_best_36 (by decide) rfl ?_
      refine g_ldc dX12_best_38 ⟨by decide, by decide⟩ kc_X12_178 ?_
      refine gw_istore (L' := [some (g_R 208), some (g_I v1), some (g_I 3), some (g_I (D2 209 3)), some (g_I (-1)), some (g_I 268435456), none]) dX12_best_40 (by decide) rfl ?_
      refine g_iconst dX12_best_42 ⟨by decide, by decide⟩ ?_
      refine gw_istore (L' := [some (g_R 208), some (g_I v1), some (g_I 3), some (g_I (D2 209 3)), some (g_I (-1)), some (g_I 268435456), some (g_I 0)]) dX12_best_43 (by decide) rfl ?_
      exact g_forget (L' := [some (g_R 208), none, some (g_I 3), some (g_I (D2 209 3)), some (g_I (-1)), some (g_I 268435456), some (g_I 0)]) ⟨rfl, ⟨rfl, ⟨rfl, ⟨rfl, ⟨rfl, ⟨rfl, trivial⟩⟩⟩⟩⟩⟩ hF
    · have hF := hF.2 q
      refine g_iconst dX12_best_22 ⟨by decide, by decide⟩ ?_
      refine g_goto dX12_best_23 rfl ?_
      refine gw_istore_n (L' := [some (g_R 208), some (g_I v1), some (g_I 4), none, none, none, none]) dX12_best_27 (by decide) rfl ?_
      refine g_aload_n dX12_best_28 rfl ?_
      refine g_getR dX12_best_29 fd_X12_13 sh_208 rfl ?_
      refine g_iload_n dX12_best_32 rfl ?_
      refine g_iald dX12_best_33 sh_209 (by decide) (by decide) ?_
      refine gw_istore_n (L' := [some (g_R 208), some (g_I v1), some (g_I 4), some (g_I (D2 209 4)), none, none, none]) dX12_best_34 (by decide) rfl ?_
      refine g_iconst dX12_best_35 ⟨by decide, by decide⟩ ?_
      refine gw_istore (L' := [some (g_R 208), some (g_I v1), some (g_I 4), some (g_I (D2 209 4)), some (g_I (-1)), none, none]) dX12_best_36 (by decide) rfl ?_
      refine g_ldc dX12_best_38 ⟨by decide, by decide⟩ kc_X12_178 ?_
      refine gw_istore (L' := [some (g_R 208), some (g_I v1), some (g_I 4), some (g_I (D2 209 4)), some (g_I (-1)), some (g_I 268435456), none]) dX12_best_40 (by decide) rfl ?_
      refine g_iconst dX12_best_42 ⟨by decide, by decide⟩ ?_
      refine gw_istore (L' := [some (g_R 208), some (g_I v1), some (g_I 4), some (g_I (D2 209 4)), some (g_I (-1)), some (g_I 268435456), some (g_I 0)]) dX12_best_43 (by decide) rfl ?_
      exact g_forget (L' := [some (g_R 208), none, some (g_I 4), some (g_I (D2 209 4)), some (g_I (-1)), some (g_I 268435456), some (g_I 0)]) ⟨rfl, ⟨rfl, ⟨rfl, ⟨rfl, ⟨rfl, ⟨rfl, trivial⟩⟩⟩⟩⟩⟩ hF
  · have hF := hF.2 q
    refine g_bipush dX12_best_15 ⟨by decide, by decide⟩ ?_
    exact gw_iret dX12_best_17 rfl hF
theorem s_X12_best_45 {E : g_E} {l : Launch} {D : g_D} {K : Int → g_D → Prop} {v2 : Int} {v3 : Int} {v4 : Int} {v5 : Int} {v6 : Int}  (hF : g_okD D → g_r v2 → g_r v3 → g_r v4 → g_r v5 → g_r v6 → (3 ≤ v6 → (0 ≤ v2 ∧ v2 < 1557) ∧ (∀ D1, D1 = g_up D 209 v2.toNat v3 → (K v4 D1))) ∧ (¬ 3 ≤ v6 → (0 ≤ v2 ∧ v2 < 1557) ∧ (∀ D2, D2 = g_up D 209 v2.toNat v6 → (k_X12_laysAll E l D2 (fun D3 => ((D3 208 27) < v5 → (g_r (v6 + 1)) ∧ (n_X12_best E l D3 45 [some (g_R 208), none, some (g_I v2), some (g_I v3), some (g_I v6), some (g_I (D3 208 27)), some (g_I (v6 + 1))] K)) ∧ (¬ (D3 208 27) < v5 → (g_r (v6 + 1)) ∧ (n_X12_best E l D3 45 [some (g_R 208), none, some (g_I v2), some (g_I v3), some (g_I v4), some (g_I v5), some (g_I (v6 + 1))] K))))))) : n_X12_best E l D 45 [some (g_R 208), none, some (g_I v2), some (g_I v3), some (g_I v4), some (g_I v5), some (g_I v6)] K := by
  refine g_use (fun ok => ?_)
  have hF := hF ok.2.1 (ok.loc (i := 2) rfl) (ok.loc (i := 3) rfl) (ok.loc (i := 4) rfl) (ok.loc (i := 5) rfl) (ok.loc (i := 6) rfl)
  refine g_iload dX12_best_45 rfl ?_
  refine g_iconst dX12_best_47 ⟨by decide, by decide⟩ ?_
  refine g_cge dX12_best_48 rfl (fun q => ?_) (fun q => ?_)
  · have hF := hF.1 q
    refine g_aload_n dX12_best_91 rfl ?_
    refine g_getR dX12_best_92 fd_X12_13 sh_208 rfl ?_
    refine g_iload_n dX12_best_95 rfl ?_
    refine g_iload_n dX12_best_96 rfl ?_
    obtain ⟨hc, hF⟩ := hF
    let D1 : g_D := g_up D 209 v2.toNat v3
    have hF := hF D1 rfl
    refine g_iast dX12_best_97 sh_209 hc.1 hc.2 ?_
    refine g_iload dX12_best_98 rfl ?_
    exact gw_iret dX12_best_100 rfl hF
  · have hF := hF.2 q
    refine g_aload_n dX12_best_51 rfl ?_
    refine g_getR dX12_best_52 fd_X12_13 sh_208 rfl ?_
    refine g_iload_n dX12_best_55 rfl ?_
    refine g_iload dX12_best_56 rfl ?_
    obtain ⟨hc, hF⟩ := hF
    let D2 : g_D := g_up D 209 v2.toNat v6
    have hF := hF D2 rfl
    refine g_iast dX12_best_58 sh_209 hc.1 hc.2 ?_
    refine g_aload_n dX12_best_59 rfl ?_
    refine gw_cVv (b := 208) (As := []) (rest := []) dX12_best_60 mv_X12_272 sh_208 rfl (Nat.le_of_ble_eq_true rfl) (by decide) rfl hF ?_
    intro D3 hF
    refine g_aload_n dX12_best_63 rfl ?_
    refine g_getI dX12_best_64 fd_X12_266 sh_208 rfl ?_
    refine g_iload dX12_best_67 rfl ?_
    refine g_clt dX12_best_69 rfl (fun q => ?_) (fun q => ?_)
    · have hF := hF.1 q
      refine g_iload dX12_best_75 rfl ?_
      refine gw_istore (L' := [some (g_R 208), none, some (g_I v2), some (g_I v3), some (g_I v6), some (g_I v5), some (g_I v6)]) dX12_best_77 (by decide) rfl ?_
      refine g_aload_n dX12_best_79 rfl ?_
      refine g_getI dX12_best_80 fd_X12_266 sh_208 rfl ?_
      refine gw_istore (L' := [some (g_R 208), none, some (g_I v2), some (g_I v3), some (g_I v6), some (g_I (D3 208 27)), some (g_I v6)]) dX12_best_83 (by decide) rfl ?_
      obtain ⟨hc, hF⟩ := hF
      refine gw_iinc (L' := [some (g_R 208), none, some (g_I v2), some (g_I v3), some (g_I v6), some (g_I (D3 208 27)), some (g_I (v6 + 1))]) dX12_best_85 rfl hc (by decide) rfl ?_
      refine g_goto dX12_best_88 rfl ?_
      exact hF
    · have hF := hF.2 q
      refine g_goto dX12_best_72 rfl ?_
      obtain ⟨hc, hF⟩ := hF
      refine gw_iinc (L' := [some (g_R 208), none, some (g_I v2), some (g_I v3), some (g_I v4), some (g_I v5), some (g_I (v6 + 1))]) dX12_best_85 rfl hc (by decide) rfl ?_
      refine g_goto dX12_best_88 rfl ?_
      exact hF
theorem dX12_laysStep_0 : decode cX12_laysStep 0 = .ok (.aload_n 0, 1) := by decide +kernel
theorem dX12_laysStep_1 : decode cX12_laysStep 1 = .ok (.getfield 96, 3) := by decide +kernel
theorem dX12_laysStep_4 : decode cX12_laysStep 4 = .ok (.aload_n 0, 1) := by decide +kernel
theorem dX12_laysStep_5 : decode cX12_laysStep 5 = .ok (.getfield 342, 3) := by decide +kernel
theorem dX12_laysStep_8 : decode cX12_laysStep 8 = .ok (.iload_n 1, 1) := by decide +kernel
theorem dX12_laysStep_9 : decode cX12_laysStep 9 = .ok (.iastore, 1) := by decide +kernel
theorem dX12_laysStep_10 : decode cX12_laysStep 10 = .ok (.aload_n 0, 1) := by decide +kernel
theorem dX12_laysStep_11 : decode cX12_laysStep 11 = .ok (.getfield 99, 3) := by decide +kernel
theorem dX12_laysStep_14 : decode cX12_laysStep 14 = .ok (.aload_n 0, 1) := by decide +kernel
theorem dX12_laysStep_15 : decode cX12_laysStep 15 = .ok (.getfield 342, 3) := by decide +kernel
theorem dX12_laysStep_18 : decode cX12_laysStep 18 = .ok (.iload_n 2, 1) := by decide +kernel
theorem dX12_laysStep_19 : decode cX12_laysStep 19 = .ok (.iastore, 1) := by decide +kernel
theorem dX12_laysStep_20 : decode cX12_laysStep 20 = .ok (.aload_n 0, 1) := by decide +kernel
theorem dX12_laysStep_21 : decode cX12_laysStep 21 = .ok (.dup, 1) := by decide +kernel
theorem dX12_laysStep_22 : decode cX12_laysStep 22 = .ok (.getfield 342, 3) := by decide +kernel
theorem dX12_laysStep_25 : decode cX12_laysStep 25 = .ok (.iconst 1, 1) := by decide +kernel
theorem dX12_laysStep_26 : decode cX12_laysStep 26 = .ok (.iadd, 1) := by decide +kernel
theorem dX12_laysStep_27 : decode cX12_laysStep 27 = .ok (.putfield 342, 3) := by decide +kernel
theorem dX12_laysStep_30 : decode cX12_laysStep 30 = .ok (.return_, 1) := by decide +kernel
abbrev k_X12_laysStep (E : g_E) (l : Launch) (D : g_D) (v1 : Int) (v2 : Int) (K : g_D → Prop) : Prop := g_Kv E l m_X12_laysStep 0 [g_R 208, g_I v1, g_I v2] g_SH D K
abbrev n_X12_laysStep (E : g_E) (l : Launch) (D : g_D) (pc : Nat) (L : List (Option g_V)) (K : g_D → Prop) : Prop := g_N E l m_X12_laysStep 0 pc L [] g_SH D (g_Rv g_SH K)
theorem s_X12_laysStep {E : g_E} {l : Launch} {D : g_D} {K : g_D → Prop} {v1 : Int} {v2 : Int}  (hF : g_okD D → g_r v1 → g_r v2 → (0 ≤ (D 208 46) ∧ (D 208 46) < 400) ∧ (∀ D1, D1 = g_up D 235 (D 208 46).toNat v1 → ((0 ≤ (D 208 46) ∧ (D 208 46) < 400) ∧ (∀ D2, D2 = g_up D1 236 (D 208 46).toNat v2 → ((g_r ((D 208 46) + 1)) ∧ (∀ D3, D3 = g_up D2 208 46 ((D 208 46) + 1) → (K D3))))))) : k_X12_laysStep E l D v1 v2 K := by
  refine g_enter (by decide) (Nat.le_of_ble_eq_true rfl) ?_
  show g_N E l m_X12_laysStep 0 0 [some (g_R 208), some (g_I v1), some (g_I v2)] [] g_SH D (g_Rv g_SH K)
  refine g_use (fun ok => ?_)
  have hF := hF ok.2.1 (ok.loc (i := 1) rfl) (ok.loc (i := 2) rfl)
  refine g_aload_n dX12_laysStep_0 rfl ?_
  refine g_getR dX12_laysStep_1 fd_X12_96 sh_208 rfl ?_
  refine g_aload_n dX12_laysStep_4 rfl ?_
  refine g_getI dX12_laysStep_5 fd_X12_342 sh_208 rfl ?_
  refine g_iload_n dX12_laysStep_8 rfl ?_
  obtain ⟨hc, hF⟩ := hF
  let D1 : g_D := g_up D 235 (D 208 46).toNat v1
  have hF := hF D1 rfl
  refine g_iast dX12_laysStep_9 sh_235 hc.1 hc.2 ?_
  refine g_aload_n dX12_laysStep_10 rfl ?_
  refine g_getR dX12_laysStep_11 fd_X12_99 sh_208 rfl ?_
  refine g_aload_n dX12_laysStep_14 rfl ?_
  refine g_getI dX12_laysStep_15 fd_X12_342 sh_208 rfl ?_
  refine g_iload_n dX12_laysStep_18 rfl ?_
  obtain ⟨hc, hF⟩ := hF
  let D2 : g_D := g_up D1 236 (D 208 46).toNat v2
  have hF := hF D2 rfl
  refine g_iast dX12_laysStep_19 sh_236 hc.1 hc.2 ?_
  refine g_aload_n dX12_laysStep_20 rfl ?_
  refine g_dup dX12_laysStep_21 rfl ?_
  refine g_getI dX12_laysStep_22 fd_X12_342 sh_208 rfl ?_
  refine g_iconst dX12_laysStep_25 ⟨by decide, by decide⟩ ?_
  obtain ⟨hc, hF⟩ := hF
  refine g_iadd dX12_laysStep_26 hc ?_
  let D3 : g_D := g_up D2 208 46 ((D 208 46) + 1)
  have hF := hF D3 rfl
  refine g_put dX12_laysStep_27 fd_X12_342 (g_ftyI (C := RX12) (T := TX12) (N := 51) rfl rfl (by decide +kernel)) sh_208 rfl ?_
  exact gw_vret dX12_laysStep_30 rfl hF
theorem dX12_writes_0 : decode cX12_writes 0 = .ok (.aload_n 0, 1) := by decide +kernel
theorem dX12_writes_1 : decode cX12_writes 1 = .ok (.iload_n 1, 1) := by decide +kernel
theorem dX12_writes_2 : decode cX12_writes 2 = .ok (.iconst 0, 1) := by decide +kernel
theorem dX12_writes_3 : decode cX12_writes 3 = .ok (.invokevirtual 336, 3) := by decide +kernel
theorem dX12_writes_6 : decode cX12_writes 6 = .ok (.iconst 1, 1) := by decide +kernel
theorem dX12_writes_7 : decode cX12_writes 7 = .ok (.if_icmp .eq 38, 3) := by decide +kernel
theorem dX12_writes_10 : decode cX12_writes 10 = .ok (.iload_n 2, 1) := by decide +kernel
theorem dX12_writes_11 : decode cX12_writes 11 = .ok (.i2l, 1) := by decide +kernel
theorem dX12_writes_12 : decode cX12_writes 12 = .ok (.aload_n 0, 1) := by decide +kernel
theorem dX12_writes_13 : decode cX12_writes 13 = .ok (.iload_n 1, 1) := by decide +kernel
theorem dX12_writes_14 : decode cX12_writes 14 = .ok (.iconst 1, 1) := by decide +kernel
theorem dX12_writes_15 : decode cX12_writes 15 = .ok (.invokevirtual 336, 3) := by decide +kernel
theorem dX12_writes_18 : decode cX12_writes 18 = .ok (.i2l, 1) := by decide +kernel
theorem dX12_writes_19 : decode cX12_writes 19 = .ok (.aload_n 0, 1) := by decide +kernel
theorem dX12_writes_20 : decode cX12_writes 20 = .ok (.iload_n 1, 1) := by decide +kernel
theorem dX12_writes_21 : decode cX12_writes 21 = .ok (.iconst 1, 1) := by decide +kernel
theorem dX12_writes_22 : decode cX12_writes 22 = .ok (.invokevirtual 336, 3) := by decide +kernel
theorem dX12_writes_25 : decode cX12_writes 25 = .ok (.aload_n 0, 1) := by decide +kernel
theorem dX12_writes_26 : decode cX12_writes 26 = .ok (.iload_n 1, 1) := by decide +kernel
theorem dX12_writes_27 : decode cX12_writes 27 = .ok (.iconst 3, 1) := by decide +kernel
theorem dX12_writes_28 : decode cX12_writes 28 = .ok (.invokevirtual 336, 3) := by decide +kernel
theorem dX12_writes_31 : decode cX12_writes 31 = .ok (.iadd, 1) := by decide +kernel
theorem dX12_writes_32 : decode cX12_writes 32 = .ok (.iconst 1, 1) := by decide +kernel
theorem dX12_writes_33 : decode cX12_writes 33 = .ok (.isub, 1) := by decide +kernel
theorem dX12_writes_34 : decode cX12_writes 34 = .ok (.i2l, 1) := by decide +kernel
theorem dX12_writes_35 : decode cX12_writes 35 = .ok (.invokestatic 131, 3) := by decide +kernel
theorem dX12_writes_38 : decode cX12_writes 38 = .ok (.ifCond .eq 7, 3) := by decide +kernel
theorem dX12_writes_41 : decode cX12_writes 41 = .ok (.iconst 1, 1) := by decide +kernel
theorem dX12_writes_42 : decode cX12_writes 42 = .ok (.goto 4, 3) := by decide +kernel
theorem dX12_writes_45 : decode cX12_writes 45 = .ok (.iconst 0, 1) := by decide +kernel
theorem dX12_writes_46 : decode cX12_writes 46 = .ok (.ireturn, 1) := by decide +kernel
abbrev k_X12_writes (E : g_E) (l : Launch) (D : g_D) (v1 : Int) (v2 : Int) (K : Int → g_D → Prop) : Prop := g_Ki E l m_X12_writes 1 [g_R 208, g_I v1, g_I v2] g_SH D K
abbrev n_X12_writes (E : g_E) (l : Launch) (D : g_D) (pc : Nat) (L : List (Option g_V)) (K : Int → g_D → Prop) : Prop := g_N E l m_X12_writes 1 pc L [] g_SH D (g_Ri g_SH K)
theorem s_X12_writes {E : g_E} {l : Launch} {D : g_D} {K : Int → g_D → Prop} {v1 : Int} {v2 : Int}  (hF : g_okD D → g_r v1 → g_r v2 → k_X12_actNow E l D v1 0 (fun x1 D1 => g_r x1 → (x1 = 1 → K 0 D1) ∧ (¬ x1 = 1 → k_X12_actNow E l D1 v1 1 (fun x2 D2 => g_r x2 → k_X12_actNow E l D2 v1 1 (fun x3 D3 => g_r x3 → k_X12_actNow E l D3 v1 3 (fun x4 D4 => g_r x4 → (g_r (x3 + x4)) ∧ ((g_r ((x3 + x4) - 1)) ∧ (k_X12_within E l g_SH D4 v2 x2 ((x3 + x4) - 1) (fun x5 D5 => g_r x5 → (x5 = 0 → K 0 D5) ∧ (¬ x5 = 0 → K 1 D5)))))))))) : k_X12_writes E l D v1 v2 K := by
  refine g_enter (by decide) (Nat.le_of_ble_eq_true rfl) ?_
  show g_N E l m_X12_writes 1 0 [some (g_R 208), some (g_I v1), some (g_I v2)] [] g_SH D (g_Ri g_SH K)
  refine g_use (fun ok => ?_)
  have hF := hF ok.2.1 (ok.loc (i := 1) rfl) (ok.loc (i := 2) rfl)
  refine g_aload_n dX12_writes_0 rfl ?_
  refine g_iload_n dX12_writes_1 rfl ?_
  refine g_iconst dX12_writes_2 ⟨by decide, by decide⟩ ?_
  refine gw_cVi (b := 208) (As := [g_I v1, g_I 0]) (rest := []) dX12_writes_3 mv_X12_336 sh_208 rfl (Nat.le_of_ble_eq_true rfl) (by decide) rfl hF ?_
  intro x1 D1 hx1 hF
  have hF := hF hx1
  refine g_iconst dX12_writes_6 ⟨by decide, by decide⟩ ?_
  refine g_ceq dX12_writes_7 rfl (fun q => ?_) (fun q => ?_)
  · have hF := hF.1 q
    refine g_iconst dX12_writes_45 ⟨by decide, by decide⟩ ?_
    exact gw_zret dX12_writes_46 rfl (by decide) hF
  · have hF := hF.2 q
    refine g_iload_n dX12_writes_10 rfl ?_
    refine g_i2l dX12_writes_11 ?_
    refine g_aload_n dX12_writes_12 rfl ?_
    refine g_iload_n dX12_writes_13 rfl ?_
    refine g_iconst dX12_writes_14 ⟨by decide, by decide⟩ ?_
    refine gw_cVi (b := 208) (As := [g_I v1, g_I 1]) (rest := [g_J v2]) dX12_writes_15 mv_X12_336 sh_208 rfl (Nat.le_of_ble_eq_true rfl) (by decide) rfl hF ?_
    intro x2 D2 hx2 hF
    have hF := hF hx2
    refine g_i2l dX12_writes_18 ?_
    refine g_aload_n dX12_writes_19 rfl ?_
    refine g_iload_n dX12_writes_20 rfl ?_
    refine g_iconst dX12_writes_21 ⟨by decide, by decide⟩ ?_
    refine gw_cVi (b := 208) (As := [g_I v1, g_I 1]) (rest := [g_J x2, g_J v2]) dX12_writes_22 mv_X12_336 sh_208 rfl (Nat.le_of_ble_eq_true rfl) (by decide) rfl hF ?_
    intro x3 D3 hx3 hF
    have hF := hF hx3
    refine g_aload_n dX12_writes_25 rfl ?_
    refine g_iload_n dX12_writes_26 rfl ?_
    refine g_iconst dX12_writes_27 ⟨by decide, by decide⟩ ?_
    refine gw_cVi (b := 208) (As := [g_I v1, g_I 3]) (rest := [g_I x3, g_J x2, g_J v2]) dX12_writes_28 mv_X12_336 sh_208 rfl (Nat.le_of_ble_eq_true rfl) (by decide) rfl hF ?_
    intro x4 D4 hx4 hF
    have hF := hF hx4
    obtain ⟨hc, hF⟩ := hF
    refine g_iadd dX12_writes_31 hc ?_
    refine g_iconst dX12_writes_32 ⟨by decide, by decide⟩ ?_
    obtain ⟨hc, hF⟩ := hF
    refine g_isub dX12_writes_33 hc ?_
    refine g_i2l dX12_writes_34 ?_
    refine gw_cSi (As := [g_J v2, g_J x2, g_J ((x3 + x4) - 1)]) (rest := []) dX12_writes_35 ms_X12_131 rfl (Nat.le_of_ble_eq_true rfl) (by decide) rfl hF ?_
    intro x5 D5 hx5 hF
    have hF := hF hx5
    refine g_ifeq dX12_writes_38 rfl (fun q => ?_) (fun q => ?_)
    · have hF := hF.1 q
      refine g_iconst dX12_writes_45 ⟨by decide, by decide⟩ ?_
      exact gw_zret dX12_writes_46 rfl (by decide) hF
    · have hF := hF.2 q
      refine g_iconst dX12_writes_41 ⟨by decide, by decide⟩ ?_
      refine g_goto dX12_writes_42 rfl ?_
      exact gw_zret dX12_writes_46 rfl (by decide) hF
