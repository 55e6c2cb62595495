theorem dX4_readers_0 : decode cX4_readers 0 = .ok (.aload_n 1, 1) := by decide +kernel
theorem dX4_readers_1 : decode cX4_readers 1 = .ok (.invokevirtual 81, 3) := by decide +kernel
theorem dX4_readers_4 : decode cX4_readers 4 = .ok (.aload_n 0, 1) := by decide +kernel
theorem dX4_readers_5 : decode cX4_readers 5 = .ok (.getfield 50, 3) := by decide +kernel
theorem dX4_readers_8 : decode cX4_readers 8 = .ok (.iconst (-1), 1) := by decide +kernel
theorem dX4_readers_9 : decode cX4_readers 9 = .ok (.ixor, 1) := by decide +kernel
theorem dX4_readers_10 : decode cX4_readers 10 = .ok (.iand, 1) := by decide +kernel
theorem dX4_readers_11 : decode cX4_readers 11 = .ok (.aload_n 0, 1) := by decide +kernel
theorem dX4_readers_12 : decode cX4_readers 12 = .ok (.getfield 33, 3) := by decide +kernel
theorem dX4_readers_15 : decode cX4_readers 15 = .ok (.iconst (-1), 1) := by decide +kernel
theorem dX4_readers_16 : decode cX4_readers 16 = .ok (.ixor, 1) := by decide +kernel
theorem dX4_readers_17 : decode cX4_readers 17 = .ok (.iand, 1) := by decide +kernel
theorem dX4_readers_18 : decode cX4_readers 18 = .ok (.aload_n 0, 1) := by decide +kernel
theorem dX4_readers_19 : decode cX4_readers 19 = .ok (.getfield 41, 3) := by decide +kernel
theorem dX4_readers_22 : decode cX4_readers 22 = .ok (.iconst (-1), 1) := by decide +kernel
theorem dX4_readers_23 : decode cX4_readers 23 = .ok (.ixor, 1) := by decide +kernel
theorem dX4_readers_24 : decode cX4_readers 24 = .ok (.iand, 1) := by decide +kernel
theorem dX4_readers_25 : decode cX4_readers 25 = .ok (.ireturn, 1) := by decide +kernel
abbrev k_X4_readers (E : g_E) (l : Launch) (D : g_D) (k : Nat) (r1 : Nat) (K : Int → g_D → Prop) : Prop := g_Ki E l m_X4_readers 1 [g_R k, g_R r1] g_SH D K
abbrev n_X4_readers (E : g_E) (l : Launch) (D : g_D) (pc : Nat) (L : List (Option g_V)) (K : Int → g_D → Prop) : Prop := g_N E l m_X4_readers 1 pc L [] g_SH D (g_Ri g_SH K)
theorem s_X4_readers {E : g_E} {l : Launch} {D : g_D} {K : Int → g_D → Prop} {k : Nat} {r1 : Nat} (hk : is_Plan g_SH k) (hr1 : is_Script g_SH r1) (hF : g_okD D → k_X7_movers E l D r1 (fun x1 D1 => g_r x1 → K (g_and (g_and (g_and x1 (g_xor (D1 k 7) (-1))) (g_xor (D1 k 8) (-1))) (g_xor (D1 k 9) (-1))) D1)) : k_X4_readers E l D k r1 K := by
  refine g_enter (by decide) (Nat.le_of_ble_eq_true rfl) ?_
  show g_N E l m_X4_readers 1 0 [some (g_R k), some (g_R r1)] [] g_SH D (g_Ri g_SH K)
  refine g_use (fun ok => ?_)
  have hF := hF ok.2.1
  refine g_aload_n dX4_readers_0 rfl ?_
  refine gw_cVi (b := r1) (As := []) (rest := []) dX4_readers_1 mv_X4_81 hr1.1 rfl (Nat.le_of_ble_eq_true rfl) (by decide) rfl hF ?_
  intro x1 D1 hx1 hF
  have hF := hF hx1
  refine g_aload_n dX4_readers_4 rfl ?_
  refine g_getI dX4_readers_5 fd_X4_50 hk.1 rfl ?_
  refine g_iconst dX4_readers_8 ⟨by decide, by decide⟩ ?_
  refine g_ixor dX4_readers_9 ?_
  refine g_iand dX4_readers_10 ?_
  refine g_aload_n dX4_readers_11 rfl ?_
  refine g_getI dX4_readers_12 fd_X4_33 hk.1 rfl ?_
  refine g_iconst dX4_readers_15 ⟨by decide, by decide⟩ ?_
  refine g_ixor dX4_readers_16 ?_
  refine g_iand dX4_readers_17 ?_
  refine g_aload_n dX4_readers_18 rfl ?_
  refine g_getI dX4_readers_19 fd_X4_41 hk.1 rfl ?_
  refine g_iconst dX4_readers_22 ⟨by decide, by decide⟩ ?_
  refine g_ixor dX4_readers_23 ?_
  refine g_iand dX4_readers_24 ?_
  exact gw_iret dX4_readers_25 rfl hF
theorem dX4_blockedBits_0 : decode cX4_blockedBits 0 = .ok (.aload_n 0, 1) := by decide +kernel
theorem dX4_blockedBits_1 : decode cX4_blockedBits 1 = .ok (.aload_n 1, 1) := by decide +kernel
theorem dX4_blockedBits_2 : decode cX4_blockedBits 2 = .ok (.invokevirtual 84, 3) := by decide +kernel
theorem dX4_blockedBits_5 : decode cX4_blockedBits 5 = .ok (.istore_n 2, 1) := by decide +kernel
theorem dX4_blockedBits_6 : decode cX4_blockedBits 6 = .ok (.iconst 0, 1) := by decide +kernel
theorem dX4_blockedBits_7 : decode cX4_blockedBits 7 = .ok (.istore_n 3, 1) := by decide +kernel
theorem dX4_blockedBits_8 : decode cX4_blockedBits 8 = .ok (.iconst 0, 1) := by decide +kernel
theorem dX4_blockedBits_9 : decode cX4_blockedBits 9 = .ok (.istore 4, 2) := by decide +kernel
theorem dX4_blockedBits_11 : decode cX4_blockedBits 11 = .ok (.iload 4, 2) := by decide +kernel
theorem dX4_blockedBits_13 : decode cX4_blockedBits 13 = .ok (.aload_n 1, 1) := by decide +kernel
theorem dX4_blockedBits_14 : decode cX4_blockedBits 14 = .ok (.getfield 87, 3) := by decide +kernel
theorem dX4_blockedBits_17 : decode cX4_blockedBits 17 = .ok (.if_icmp .ge 32, 3) := by decide +kernel
theorem dX4_blockedBits_20 : decode cX4_blockedBits 20 = .ok (.iload_n 3, 1) := by decide +kernel
theorem dX4_blockedBits_21 : decode cX4_blockedBits 21 = .ok (.iload_n 2, 1) := by decide +kernel
theorem dX4_blockedBits_22 : decode cX4_blockedBits 22 = .ok (.iload 4, 2) := by decide +kernel
theorem dX4_blockedBits_24 : decode cX4_blockedBits 24 = .ok (.invokestatic 37, 3) := by decide +kernel
theorem dX4_blockedBits_27 : decode cX4_blockedBits 27 = .ok (.ifCond .eq 13, 3) := by decide +kernel
theorem dX4_blockedBits_30 : decode cX4_blockedBits 30 = .ok (.aload_n 1, 1) := by decide +kernel
theorem dX4_blockedBits_31 : decode cX4_blockedBits 31 = .ok (.getfield 90, 3) := by decide +kernel
theorem dX4_blockedBits_34 : decode cX4_blockedBits 34 = .ok (.iload 4, 2) := by decide +kernel
theorem dX4_blockedBits_36 : decode cX4_blockedBits 36 = .ok (.iaload, 1) := by decide +kernel
theorem dX4_blockedBits_37 : decode cX4_blockedBits 37 = .ok (.goto 4, 3) := by decide +kernel
theorem dX4_blockedBits_40 : decode cX4_blockedBits 40 = .ok (.iconst 0, 1) := by decide +kernel
theorem dX4_blockedBits_41 : decode cX4_blockedBits 41 = .ok (.ior, 1) := by decide +kernel
theorem dX4_blockedBits_42 : decode cX4_blockedBits 42 = .ok (.istore_n 3, 1) := by decide +kernel
theorem dX4_blockedBits_43 : decode cX4_blockedBits 43 = .ok (.iinc 4 1, 3) := by decide +kernel
theorem dX4_blockedBits_46 : decode cX4_blockedBits 46 = .ok (.goto (-35), 3) := by decide +kernel
theorem dX4_blockedBits_49 : decode cX4_blockedBits 49 = .ok (.iload_n 3, 1) := by decide +kernel
theorem dX4_blockedBits_50 : decode cX4_blockedBits 50 = .ok (.ireturn, 1) := by decide +kernel
abbrev k_X4_blockedBits (E : g_E) (l : Launch) (D : g_D) (k : Nat) (r1 : Nat) (K : Int → g_D → Prop) : Prop := g_Ki E l m_X4_blockedBits 2 [g_R k, g_R r1] g_SH D K
abbrev n_X4_blockedBits (E : g_E) (l : Launch) (D : g_D) (pc : Nat) (L : List (Option g_V)) (K : Int → g_D → Prop) : Prop := g_N E l m_X4_blockedBits 2 pc L [] g_SH D (g_Ri g_SH K)
theorem s_X4_blockedBits {E : g_E} {l : Launch} {D : g_D} {K : Int → g_D → Prop} {k : Nat} {r1 : Nat} (hk : is_Plan g_SH k) (hr1 : is_Script g_SH r1) (hF : g_okD D → k_X4_readers E l D k r1 (fun x1 D1 => g_r x1 → n_X4_blockedBits E l D1 11 [none, some (g_R r1), some (g_I x1), some (g_I 0), some (g_I 0)] K)) : k_X4_blockedBits E l D k r1 K := by
  refine g_enter (by decide) (Nat.le_of_ble_eq_true rfl) ?_
  show g_N E l m_X4_blockedBits 2 0 [some (g_R k), some (g_R r1), none, none, none] [] g_SH D (g_Ri g_SH K)
  refine g_use (fun ok => ?_)
  have hF := hF ok.2.1
  refine g_aload_n dX4_blockedBits_0 rfl ?_
  refine g_aload_n dX4_blockedBits_1 rfl ?_
  refine gw_cVi (b := k) (As := [g_R r1]) (rest := []) dX4_blockedBits_2 mv_X4_84 hk.1 rfl (Nat.le_of_ble_eq_true rfl) (by decide) rfl hF ?_
  intro x1 D1 hx1 hF
  have hF := hF hx1
  refine gw_istore_n (L' := [some (g_R k), some (g_R r1), some (g_I x1), none, none]) dX4_blockedBits_5 (by decide) rfl ?_
  refine g_iconst dX4_blockedBits_6 ⟨by decide, by decide⟩ ?_
  refine gw_istore_n (L' := [some (g_R k), some (g_R r1), some (g_I x1), some (g_I 0), none]) dX4_blockedBits_7 (by decide) rfl ?_
  refine g_iconst dX4_blockedBits_8 ⟨by decide, by decide⟩ ?_
  refine gw_istore (L' := [some (g_R k), some (g_R r1), some (g_I x1), some (g_I 0), some (g_I 0)]) dX4_blockedBits_9 (by decide) rfl ?_
  exact g_forget (L' := [none, some (g_R r1), some (g_I x1), some (g_I 0), some (g_I 0)]) ⟨rfl, ⟨rfl, ⟨rfl, ⟨rfl, trivial⟩⟩⟩⟩ hF
theorem s_X4_blockedBits_11 {E : g_E} {l : Launch} {D : g_D} {K : Int → g_D → Prop} {k : Nat} {r1 : Nat} {v2 : Int} {v3 : Int} {v4 : Int} (hk : is_Plan g_SH k) (hr1 : is_Script g_SH r1) (hF : g_okD D → g_r v2 → g_r v3 → g_r v4 → ((D r1 8) ≤ v4 → K v3 D) ∧ (¬ (D r1 8) ≤ v4 → k_X11_hasBit E l g_SH D v2 v4 (fun x1 D1 => g_r x1 → (x1 = 0 → (g_r (v4 + 1)) ∧ (n_X4_blockedBits E l D1 11 [none, some (g_R r1), some (g_I v2), some (g_I (g_or v3 0)), some (g_I (v4 + 1))] K)) ∧ (¬ x1 = 0 → (0 ≤ v4 ∧ v4 < 20) ∧ ((g_r (v4 + 1)) ∧ (n_X4_blockedBits E l D1 11 [none, some (g_R r1), some (g_I v2), some (g_I (g_or v3 (D1 (r1 + 5) v4.toNat))), some (g_I (v4 + 1))] K)))))) : n_X4_blockedBits E l D 11 [none, some (g_R r1), some (g_I v2), some (g_I v3), some (g_I v4)] K := by
  refine g_use (fun ok => ?_)
  have hF := hF ok.2.1 (ok.loc (i := 2) rfl) (ok.loc (i := 3) rfl) (ok.loc (i := 4) rfl)
  refine g_iload dX4_blockedBits_11 rfl ?_
  refine g_aload_n dX4_blockedBits_13 rfl ?_
  refine g_getI dX4_blockedBits_14 fd_X4_87 hr1.1 rfl ?_
  refine g_cge dX4_blockedBits_17 rfl (fun q => ?_) (fun q => ?_)
  · have hF := hF.1 q
    refine g_iload_n dX4_blockedBits_49 rfl ?_
    exact gw_iret dX4_blockedBits_50 rfl hF
  · have hF := hF.2 q
    refine g_iload_n dX4_blockedBits_20 rfl ?_
    refine g_iload_n dX4_blockedBits_21 rfl ?_
    refine g_iload dX4_blockedBits_22 rfl ?_
    refine gw_cNi (As := [g_I v2, g_I v4]) (rest := [g_I v3]) dX4_blockedBits_24 mn_X4_37 rfl (Nat.le_of_ble_eq_true rfl) (by decide) rfl hF ?_
    intro x1 D1 hx1 hF
    have hF := hF hx1
    refine g_ifeq dX4_blockedBits_27 rfl (fun q => ?_) (fun q => ?_)
    · have hF := hF.1 q
      refine g_iconst dX4_blockedBits_40 ⟨by decide, by decide⟩ ?_
      refine g_ior dX4_blockedBits_41 ?_
      refine gw_istore_n (L' := [none, some (g_R r1), some (g_I v2), some (g_I (g_or v3 0)), some (g_I v4)]) dX4_blockedBits_42 (by decide) rfl ?_
      obtain ⟨hc, hF⟩ := hF
      refine gw_iinc (L' := [none, some (g_R r1), some (g_I v2), some (g_I (g_or v3 0)), some (g_I (v4 + 1))]) dX4_blockedBits_43 rfl hc (by decide) rfl ?_
      refine g_goto dX4_blockedBits_46 rfl ?_
      exact hF
    · have hF := hF.2 q
      refine g_aload_n dX4_blockedBits_30 rfl ?_
      refine g_getR dX4_blockedBits_31 fd_X4_90 hr1.1 rfl ?_
      refine g_iload dX4_blockedBits_34 rfl ?_
      obtain ⟨hc, hF⟩ := hF
      refine g_iald dX4_blockedBits_36 hr1.2.2.2.2.2.1 hc.1 hc.2 ?_
      refine g_goto dX4_blockedBits_37 rfl ?_
      refine g_ior dX4_blockedBits_41 ?_
      refine gw_istore_n (L' := [none, some (g_R r1), some (g_I v2), some (g_I (g_or v3 (D1 (r1 + 5) v4.toNat))), some (g_I v4)]) dX4_blockedBits_42 (by decide) rfl ?_
      obtain ⟨hc, hF⟩ := hF
      refine gw_iinc (L' := [none, some (g_R r1), some (g_I v2), some (g_I (g_or v3 (D1 (r1 + 5) v4.toNat))), some (g_I (v4 + 1))]) dX4_blockedBits_43 rfl hc (by decide) rfl ?_
      refine g_goto dX4_blockedBits_46 rfl ?_
      exact hF
theorem dX4_fateOf_0 : decode cX4_fateOf 0 = .ok (.aload_n 0, 1) := by decide +kernel
theorem dX4_fateOf_1 : decode cX4_fateOf 1 = .ok (.getfield 33, 3) := by decide +kernel
theorem dX4_fateOf_4 : decode cX4_fateOf 4 = .ok (.iload_n 1, 1) := by decide +kernel
theorem dX4_fateOf_5 : decode cX4_fateOf 5 = .ok (.invokestatic 37, 3) := by decide +kernel
theorem dX4_fateOf_8 : decode cX4_fateOf 8 = .ok (.ifCond .eq 5, 3) := by decide +kernel
theorem dX4_fateOf_11 : decode cX4_fateOf 11 = .ok (.iconst 1, 1) := by decide +kernel
theorem dX4_fateOf_12 : decode cX4_fateOf 12 = .ok (.ireturn, 1) := by decide +kernel
theorem dX4_fateOf_13 : decode cX4_fateOf 13 = .ok (.aload_n 0, 1) := by decide +kernel
theorem dX4_fateOf_14 : decode cX4_fateOf 14 = .ok (.getfield 41, 3) := by decide +kernel
theorem dX4_fateOf_17 : decode cX4_fateOf 17 = .ok (.iload_n 1, 1) := by decide +kernel
theorem dX4_fateOf_18 : decode cX4_fateOf 18 = .ok (.invokestatic 37, 3) := by decide +kernel
theorem dX4_fateOf_21 : decode cX4_fateOf 21 = .ok (.ifCond .eq 7, 3) := by decide +kernel
theorem dX4_fateOf_24 : decode cX4_fateOf 24 = .ok (.iconst 2, 1) := by decide +kernel
theorem dX4_fateOf_25 : decode cX4_fateOf 25 = .ok (.goto 4, 3) := by decide +kernel
theorem dX4_fateOf_28 : decode cX4_fateOf 28 = .ok (.iconst 0, 1) := by decide +kernel
theorem dX4_fateOf_29 : decode cX4_fateOf 29 = .ok (.ireturn, 1) := by decide +kernel
abbrev k_X4_fateOf (E : g_E) (l : Launch) (D : g_D) (k : Nat) (v1 : Int) (K : Int → g_D → Prop) : Prop := g_Ki E l m_X4_fateOf 1 [g_R k, g_I v1] g_SH D K
abbrev n_X4_fateOf (E : g_E) (l : Launch) (D : g_D) (pc : Nat) (L : List (Option g_V)) (K : Int → g_D → Prop) : Prop := g_N E l m_X4_fateOf 1 pc L [] g_SH D (g_Ri g_SH K)
theorem s_X4_fateOf {E : g_E} {l : Launch} {D : g_D} {K : Int → g_D → Prop} {k : Nat} {v1 : Int} (hk : is_Plan g_SH k) (hF : g_okD D → g_r v1 → k_X11_hasBit E l g_SH D (D k 8) v1 (fun x1 D1 => g_r x1 → (x1 = 0 → k_X11_hasBit E l g_SH D1 (D1 k 9) v1 (fun x2 D2 => g_r x2 → (x2 = 0 → K 0 D2) ∧ (¬ x2 = 0 → K 2 D2))) ∧ (¬ x1 = 0 → K 1 D1))) : k_X4_fateOf E l D k v1 K := by
  refine g_enter (by decide) (Nat.le_of_ble_eq_true rfl) ?_
  show g_N E l m_X4_fateOf 1 0 [some (g_R k), some (g_I v1)] [] g_SH D (g_Ri g_SH K)
  refine g_use (fun ok => ?_)
  have hF := hF ok.2.1 (ok.loc (i := 1) rfl)
  refine g_aload_n dX4_fateOf_0 rfl ?_
  refine g_getI dX4_fateOf_1 fd_X4_33 hk.1 rfl ?_
  refine g_iload_n dX4_fateOf_4 rfl ?_
  refine gw_cNi (As := [g_I (D k 8), g_I v1]) (rest := []) dX4_fateOf_5 mn_X4_37 rfl (Nat.le_of_ble_eq_true rfl) (by decide) rfl hF ?_
  intro x1 D1 hx1 hF
  have hF := hF hx1
  refine g_ifeq dX4_fateOf_8 rfl (fun q => ?_) (fun q => ?_)
  · have hF := hF.1 q
    refine g_aload_n dX4_fateOf_13 rfl ?_
    refine g_getI dX4_fateOf_14 fd_X4_41 hk.1 rfl ?_
    refine g_iload_n dX4_fateOf_17 rfl ?_
    refine gw_cNi (As := [g_I (D1 k 9), g_I v1]) (rest := []) dX4_fateOf_18 mn_X4_37 rfl (Nat.le_of_ble_eq_true rfl) (by decide) rfl hF ?_
    intro x2 D2 hx2 hF
    have hF := hF hx2
    refine g_ifeq dX4_fateOf_21 rfl (fun q => ?_) (fun q => ?_)
    · have hF := hF.1 q
      refine g_iconst dX4_fateOf_28 ⟨by decide, by decide⟩ ?_
      exact gw_iret dX4_fateOf_29 rfl hF
    · have hF := hF.2 q
      refine g_iconst dX4_fateOf_24 ⟨by decide, by decide⟩ ?_
      refine g_goto dX4_fateOf_25 rfl ?_
      exact gw_iret dX4_fateOf_29 rfl hF
  · have hF := hF.2 q
    refine g_iconst dX4_fateOf_11 ⟨by decide, by decide⟩ ?_
    exact gw_iret dX4_fateOf_12 rfl hF
theorem dX4_append_0 : decode cX4_append 0 = .ok (.aload_n 0, 1) := by decide +kernel
theorem dX4_append_1 : decode cX4_append 1 = .ok (.getfield 44, 3) := by decide +kernel
theorem dX4_append_4 : decode cX4_append 4 = .ok (.bipush 40, 2) := by decide +kernel
theorem dX4_append_6 : decode cX4_append 6 = .ok (.if_icmp .ge 54, 3) := by decide +kernel
theorem dX4_append_9 : decode cX4_append 9 = .ok (.aload_n 0, 1) := by decide +kernel
theorem dX4_append_10 : decode cX4_append 10 = .ok (.getfield 11, 3) := by decide +kernel
theorem dX4_append_13 : decode cX4_append 13 = .ok (.aload_n 0, 1) := by decide +kernel
theorem dX4_append_14 : decode cX4_append 14 = .ok (.getfield 44, 3) := by decide +kernel
theorem dX4_append_17 : decode cX4_append 17 = .ok (.iload_n 1, 1) := by decide +kernel
theorem dX4_append_18 : decode cX4_append 18 = .ok (.iastore, 1) := by decide +kernel
theorem dX4_append_19 : decode cX4_append 19 = .ok (.aload_n 0, 1) := by decide +kernel
theorem dX4_append_20 : decode cX4_append 20 = .ok (.getfield 15, 3) := by decide +kernel
theorem dX4_append_23 : decode cX4_append 23 = .ok (.aload_n 0, 1) := by decide +kernel
theorem dX4_append_24 : decode cX4_append 24 = .ok (.getfield 44, 3) := by decide +kernel
theorem dX4_append_27 : decode cX4_append 27 = .ok (.iload_n 2, 1) := by decide +kernel
theorem dX4_append_28 : decode cX4_append 28 = .ok (.iastore, 1) := by decide +kernel
theorem dX4_append_29 : decode cX4_append 29 = .ok (.aload_n 0, 1) := by decide +kernel
theorem dX4_append_30 : decode cX4_append 30 = .ok (.getfield 18, 3) := by decide +kernel
theorem dX4_append_33 : decode cX4_append 33 = .ok (.aload_n 0, 1) := by decide +kernel
theorem dX4_append_34 : decode cX4_append 34 = .ok (.getfield 44, 3) := by decide +kernel
theorem dX4_append_37 : decode cX4_append 37 = .ok (.iload_n 3, 1) := by decide +kernel
theorem dX4_append_38 : decode cX4_append 38 = .ok (.iastore, 1) := by decide +kernel
theorem dX4_append_39 : decode cX4_append 39 = .ok (.aload_n 0, 1) := by decide +kernel
theorem dX4_append_40 : decode cX4_append 40 = .ok (.dup, 1) := by decide +kernel
theorem dX4_append_41 : decode cX4_append 41 = .ok (.getfield 44, 3) := by decide +kernel
theorem dX4_append_44 : decode cX4_append 44 = .ok (.iconst 1, 1) := by decide +kernel
theorem dX4_append_45 : decode cX4_append 45 = .ok (.iadd, 1) := by decide +kernel
theorem dX4_append_46 : decode cX4_append 46 = .ok (.putfield 44, 3) := by decide +kernel
theorem dX4_append_49 : decode cX4_append 49 = .ok (.aload_n 0, 1) := by decide +kernel
theorem dX4_append_50 : decode cX4_append 50 = .ok (.dup, 1) := by decide +kernel
theorem dX4_append_51 : decode cX4_append 51 = .ok (.getfield 47, 3) := by decide +kernel
theorem dX4_append_54 : decode cX4_append 54 = .ok (.iload 4, 2) := by decide +kernel
theorem dX4_append_56 : decode cX4_append 56 = .ok (.iadd, 1) := by decide +kernel
theorem dX4_append_57 : decode cX4_append 57 = .ok (.putfield 47, 3) := by decide +kernel
theorem dX4_append_60 : decode cX4_append 60 = .ok (.return_, 1) := by decide +kernel
abbrev k_X4_append (E : g_E) (l : Launch) (D : g_D) (k : Nat) (v1 : Int) (v2 : Int) (v3 : Int) (v4 : Int) (K : g_D → Prop) : Prop := g_Kv E l m_X4_append 0 [g_R k, g_I v1, g_I v2, g_I v3, g_I v4] g_SH D K
abbrev n_X4_append (E : g_E) (l : Launch) (D : g_D) (pc : Nat) (L : List (Option g_V)) (K : g_D → Prop) : Prop := g_N E l m_X4_append 0 pc L [] g_SH D (g_Rv g_SH K)
theorem s_X4_append {E : g_E} {l : Launch} {D : g_D} {K : g_D → Prop} {k : Nat} {v1 : Int} {v2 : Int} {v3 : Int} {v4 : Int} (hk : is_Plan g_SH k) (hF : g_okD D → g_r v1 → g_r v2 → g_r v3 → g_r v4 → (40 ≤ (D k 5) → K D) ∧ (¬ 40 ≤ (D k 5) → (0 ≤ (D k 5) ∧ (D k 5) < 40) ∧ (∀ D1, D1 = g_up D (k + 1) (D k 5).toNat v1 → ((0 ≤ (D1 k 5) ∧ (D1 k 5) < 40) ∧ (∀ D2, D2 = g_up D1 (k + 2) (D1 k 5).toNat v2 → ((0 ≤ (D2 k 5) ∧ (D2 k 5) < 40) ∧ (∀ D3, D3 = g_up D2 (k + 3) (D2 k 5).toNat v3 → ((g_r ((D3 k 5) + 1)) ∧ (∀ D4, D4 = g_up D3 k 5 ((D3 k 5) + 1) → ((g_r ((D4 k 6) + v4)) ∧ (∀ D5, D5 = g_up D4 k 6 ((D4 k 6) + v4) → (K D5)))))))))))) : k_X4_append E l D k v1 v2 v3 v4 K := by
  refine g_enter (by decide) (Nat.le_of_ble_eq_true rfl) ?_
  show g_N E l m_X4_append 0 0 [some (g_R k), some (g_I v1), some (g_I v2), some (g_I v3), some (g_I v4)] [] g_SH D (g_Rv g_SH K)
  refine g_use (fun ok => ?_)
  have hF := hF ok.2.1 (ok.loc (i := 1) rfl) (ok.loc (i := 2) rfl) (ok.loc (i := 3) rfl) (ok.loc (i := 4) rfl)
  refine g_aload_n dX4_append_0 rfl ?_
  refine g_getI dX4_append_1 fd_X4_44 hk.1 rfl ?_
  refine g_bipush dX4_append_4 ⟨by decide, by decide⟩ ?_
  refine g_cge dX4_append_6 rfl (fun q => ?_) (fun q => ?_)
  · have hF := hF.1 q
    exact gw_vret dX4_append_60 rfl hF
  · have hF := hF.2 q
    refine g_aload_n dX4_append_9 rfl ?_
    refine g_getR dX4_append_10 fd_X4_11 hk.1 rfl ?_
    refine g_aload_n dX4_append_13 rfl ?_
    refine g_getI dX4_append_14 fd_X4_44 hk.1 rfl ?_
    refine g_iload_n dX4_append_17 rfl ?_
    obtain ⟨hc, hF⟩ := hF
    let D1 : g_D := g_up D (k + 1) (D k 5).toNat v1
    have hF := hF D1 rfl
    refine g_iast dX4_append_18 hk.2.1 hc.1 hc.2 ?_
    refine g_aload_n dX4_append_19 rfl ?_
    refine g_getR dX4_append_20 fd_X4_15 hk.1 rfl ?_
    refine g_aload_n dX4_append_23 rfl ?_
    refine g_getI dX4_append_24 fd_X4_44 hk.1 rfl ?_
    refine g_iload_n dX4_append_27 rfl ?_
    obtain ⟨hc, hF⟩ := hF
    let D2 : g_D := g_up D1 (k + 2) (D1 k 5).toNat v2
    have hF := hF D2 rfl
    refine g_iast dX4_append_28 hk.2.2.1 hc.1 hc.2 ?_
    refine g_aload_n dX4_append_29 rfl ?_
    refine g_getR dX4_append_30 fd_X4_18 hk.1 rfl ?_
    refine g_aload_n dX4_append_33 rfl ?_
    refine g_getI dX4_append_34 fd_X4_44 hk.1 rfl ?_
    refine g_iload_n dX4_append_37 rfl ?_
    obtain ⟨hc, hF⟩ := hF
    let D3 : g_D := g_up D2 (k + 3) (D2 k 5).toNat v3
    have hF := hF D3 rfl
    refine g_iast dX4_append_38 hk.2.2.2.1 hc.1 hc.2 ?_
    refine g_aload_n dX4_append_39 rfl ?_
    refine g_dup dX4_append_40 rfl ?_
    refine g_getI dX4_append_41 fd_X4_44 hk.1 rfl ?_
    refine g_iconst dX4_append_44 ⟨by decide, by decide⟩ ?_
    obtain ⟨hc, hF⟩ := hF
    refine g_iadd dX4_append_45 hc ?_
    let D4 : g_D := g_up D3 k 5 ((D3 k 5) + 1)
    have hF := hF D4 rfl
    refine g_put dX4_append_46 fd_X4_44 (g_ftyI (C := RX4) (T := TX4) (N := 12) rfl rfl (by decide +kernel)) hk.1 rfl ?_
    refine g_aload_n dX4_append_49 rfl ?_
    refine g_dup dX4_append_50 rfl ?_
    refine g_getI dX4_append_51 fd_X4_47 hk.1 rfl ?_
    refine g_iload dX4_append_54 rfl ?_
    obtain ⟨hc, hF⟩ := hF
    refine g_iadd dX4_append_56 hc ?_
    let D5 : g_D := g_up D4 k 6 ((D4 k 6) + v4)
    have hF := hF D5 rfl
    refine g_put dX4_append_57 fd_X4_47 (g_ftyI (C := RX4) (T := TX4) (N := 12) rfl rfl (by decide +kernel)) hk.1 rfl ?_
    exact gw_vret dX4_append_60 rfl hF
theorem dX4_finish_0 : decode cX4_finish 0 = .ok (.aload_n 0, 1) := by decide +kernel
theorem dX4_finish_1 : decode cX4_finish 1 = .ok (.iload_n 2, 1) := by decide +kernel
theorem dX4_finish_2 : decode cX4_finish 2 = .ok (.invokevirtual 93, 3) := by decide +kernel
theorem dX4_finish_5 : decode cX4_finish 5 = .ok (.istore_n 3, 1) := by decide +kernel
theorem dX4_finish_6 : decode cX4_finish 6 = .ok (.aload_n 0, 1) := by decide +kernel
theorem dX4_finish_7 : decode cX4_finish 7 = .ok (.dup, 1) := by decide +kernel
theorem dX4_finish_8 : decode cX4_finish 8 = .ok (.getfield 50, 3) := by decide +kernel
theorem dX4_finish_11 : decode cX4_finish 11 = .ok (.iconst 1, 1) := by decide +kernel
theorem dX4_finish_12 : decode cX4_finish 12 = .ok (.iload_n 2, 1) := by decide +kernel
theorem dX4_finish_13 : decode cX4_finish 13 = .ok (.ishl, 1) := by decide +kernel
theorem dX4_finish_14 : decode cX4_finish 14 = .ok (.ior, 1) := by decide +kernel
theorem dX4_finish_15 : decode cX4_finish 15 = .ok (.putfield 50, 3) := by decide +kernel
theorem dX4_finish_18 : decode cX4_finish 18 = .ok (.iload_n 3, 1) := by decide +kernel
theorem dX4_finish_19 : decode cX4_finish 19 = .ok (.iconst 1, 1) := by decide +kernel
theorem dX4_finish_20 : decode cX4_finish 20 = .ok (.if_icmp .ne 45, 3) := by decide +kernel
theorem dX4_finish_23 : decode cX4_finish 23 = .ok (.aload_n 0, 1) := by decide +kernel
theorem dX4_finish_24 : decode cX4_finish 24 = .ok (.dup, 1) := by decide +kernel
theorem dX4_finish_25 : decode cX4_finish 25 = .ok (.getfield 53, 3) := by decide +kernel
theorem dX4_finish_28 : decode cX4_finish 28 = .ok (.aload_n 0, 1) := by decide +kernel
theorem dX4_finish_29 : decode cX4_finish 29 = .ok (.getfield 21, 3) := by decide +kernel
theorem dX4_finish_32 : decode cX4_finish 32 = .ok (.iload_n 2, 1) := by decide +kernel
theorem dX4_finish_33 : decode cX4_finish 33 = .ok (.iaload, 1) := by decide +kernel
theorem dX4_finish_34 : decode cX4_finish 34 = .ok (.aload_n 1, 1) := by decide +kernel
theorem dX4_finish_35 : decode cX4_finish 35 = .ok (.getfield 96, 3) := by decide +kernel
theorem dX4_finish_38 : decode cX4_finish 38 = .ok (.iload_n 2, 1) := by decide +kernel
theorem dX4_finish_39 : decode cX4_finish 39 = .ok (.iaload, 1) := by decide +kernel
theorem dX4_finish_40 : decode cX4_finish 40 = .ok (.invokestatic 99, 3) := by decide +kernel
theorem dX4_finish_43 : decode cX4_finish 43 = .ok (.iconst (-1), 1) := by decide +kernel
theorem dX4_finish_44 : decode cX4_finish 44 = .ok (.ixor, 1) := by decide +kernel
theorem dX4_finish_45 : decode cX4_finish 45 = .ok (.iand, 1) := by decide +kernel
theorem dX4_finish_46 : decode cX4_finish 46 = .ok (.putfield 53, 3) := by decide +kernel
theorem dX4_finish_49 : decode cX4_finish 49 = .ok (.aload_n 0, 1) := by decide +kernel
theorem dX4_finish_50 : decode cX4_finish 50 = .ok (.iconst 3, 1) := by decide +kernel
theorem dX4_finish_51 : decode cX4_finish 51 = .ok (.iload_n 2, 1) := by decide +kernel
theorem dX4_finish_52 : decode cX4_finish 52 = .ok (.aload_n 0, 1) := by decide +kernel
theorem dX4_finish_53 : decode cX4_finish 53 = .ok (.getfield 21, 3) := by decide +kernel
theorem dX4_finish_56 : decode cX4_finish 56 = .ok (.iload_n 2, 1) := by decide +kernel
theorem dX4_finish_57 : decode cX4_finish 57 = .ok (.iaload, 1) := by decide +kernel
theorem dX4_finish_58 : decode cX4_finish 58 = .ok (.iconst 4, 1) := by decide +kernel
theorem dX4_finish_59 : decode cX4_finish 59 = .ok (.invokevirtual 103, 3) := by decide +kernel
theorem dX4_finish_62 : decode cX4_finish 62 = .ok (.goto 43, 3) := by decide +kernel
theorem dX4_finish_65 : decode cX4_finish 65 = .ok (.iload_n 3, 1) := by decide +kernel
theorem dX4_finish_66 : decode cX4_finish 66 = .ok (.iconst 2, 1) := by decide +kernel
theorem dX4_finish_67 : decode cX4_finish 67 = .ok (.if_icmp .eq 12, 3) := by decide +kernel
theorem dX4_finish_70 : decode cX4_finish 70 = .ok (.aload_n 1, 1) := by decide +kernel
theorem dX4_finish_71 : decode cX4_finish 71 = .ok (.getfield 107, 3) := by decide +kernel
theorem dX4_finish_74 : decode cX4_finish 74 = .ok (.iload_n 2, 1) := by decide +kernel
theorem dX4_finish_75 : decode cX4_finish 75 = .ok (.iaload, 1) := by decide +kernel
theorem dX4_finish_76 : decode cX4_finish 76 = .ok (.ifCond .ne 21, 3) := by decide +kernel
theorem dX4_finish_79 : decode cX4_finish 79 = .ok (.aload_n 0, 1) := by decide +kernel
theorem dX4_finish_80 : decode cX4_finish 80 = .ok (.iconst 4, 1) := by decide +kernel
theorem dX4_finish_81 : decode cX4_finish 81 = .ok (.iload_n 2, 1) := by decide +kernel
theorem dX4_finish_82 : decode cX4_finish 82 = .ok (.iconst (-1), 1) := by decide +kernel
theorem dX4_finish_83 : decode cX4_finish 83 = .ok (.iconst 3, 1) := by decide +kernel
theorem dX4_finish_84 : decode cX4_finish 84 = .ok (.aload_n 1, 1) := by decide +kernel
theorem dX4_finish_85 : decode cX4_finish 85 = .ok (.getfield 96, 3) := by decide +kernel
theorem dX4_finish_88 : decode cX4_finish 88 = .ok (.iload_n 2, 1) := by decide +kernel
theorem dX4_finish_89 : decode cX4_finish 89 = .ok (.iaload, 1) := by decide +kernel
theorem dX4_finish_90 : decode cX4_finish 90 = .ok (.iadd, 1) := by decide +kernel
theorem dX4_finish_91 : decode cX4_finish 91 = .ok (.invokevirtual 103, 3) := by decide +kernel
theorem dX4_finish_94 : decode cX4_finish 94 = .ok (.goto 11, 3) := by decide +kernel
theorem dX4_finish_97 : decode cX4_finish 97 = .ok (.aload_n 0, 1) := by decide +kernel
theorem dX4_finish_98 : decode cX4_finish 98 = .ok (.iconst 2, 1) := by decide +kernel
theorem dX4_finish_99 : decode cX4_finish 99 = .ok (.iload_n 2, 1) := by decide +kernel
theorem dX4_finish_100 : decode cX4_finish 100 = .ok (.iconst (-1), 1) := by decide +kernel
theorem dX4_finish_101 : decode cX4_finish 101 = .ok (.iconst 4, 1) := by decide +kernel
theorem dX4_finish_102 : decode cX4_finish 102 = .ok (.invokevirtual 103, 3) := by decide +kernel
theorem dX4_finish_105 : decode cX4_finish 105 = .ok (.return_, 1) := by decide +kernel
abbrev k_X4_finish (E : g_E) (l : Launch) (D : g_D) (k : Nat) (r1 : Nat) (v2 : Int) (K : g_D → Prop) : Prop := g_Kv E l m_X4_finish 2 [g_R k, g_R r1, g_I v2] g_SH D K
abbrev n_X4_finish (E : g_E) (l : Launch) (D : g_D) (pc : Nat) (L : List (Option g_V)) (K : g_D → Prop) : Prop := g_N E l m_X4_finish 2 pc L [] g_SH D (g_Rv g_SH K)
theorem s_X4_finish {E : g_E} {l : Launch} {D : g_D} {K : g_D → Prop} {k : Nat} {r1 : Nat} {v2 : Int} (hk : is_Plan g_SH k) (hr1 : is_Script g_SH r1) (hF : g_okD D → g_r v2 → k_X4_fateOf E l D k v2 (fun x1 D1 => g_r x1 → ∀ D2, D2 = g_up D1 k 7 (g_or (D1 k 7) (g_shl 1 v2)) → ((¬ x1 = 1 → (x1 = 2 → (0 ≤ v2 ∧ v2 < 20) ∧ ((g_r (3 + (D2 (r1 + 4) v2.toNat))) ∧ (k_X4_append E l D2 k 4 v2 (-1) (3 + (D2 (r1 + 4) v2.toNat)) (fun D3 => K D3)))) ∧ (¬ x1 = 2 → (0 ≤ v2 ∧ v2 < 20) ∧ ((¬ (D2 (r1 + 1) v2.toNat) = 0 → k_X4_append E l D2 k 2 v2 (-1) 4 (fun D4 => K D4)) ∧ ((D2 (r1 + 1) v2.toNat) = 0 → (0 ≤ v2 ∧ v2 < 20) ∧ ((g_r (3 + (D2 (r1 + 4) v2.toNat))) ∧ (k_X4_append E l D2 k 4 v2 (-1) (3 + (D2 (r1 + 4) v2.toNat)) (fun D5 => K D5))))))) ∧ (x1 = 1 → (0 ≤ v2 ∧ v2 < 20) ∧ ((0 ≤ v2 ∧ v2 < 20) ∧ (k_X11_onesFrom E l g_SH D2 (D2 (k + 4) v2.toNat) (D2 (r1 + 4) v2.toNat) (fun x6 D6 => g_r x6 → ∀ D7, D7 = g_up D6 k 10 (g_and (D2 k 10) (g_xor x6 (-1))) → ((0 ≤ v2 ∧ v2 < 20) ∧ (k_X4_append E l D7 k 3 v2 (D7 (k + 4) v2.toNat) 4 (fun D8 => K D8)))))))))) : k_X4_finish E l D k r1 v2 K := by
  refine g_enter (by decide) (Nat.le_of_ble_eq_true rfl) ?_
  show g_N E l m_X4_finish 2 0 [some (g_R k), some (g_R r1), some (g_I v2), none] [] g_SH D (g_Rv g_SH K)
  refine g_use (fun ok => ?_)
  have hF := hF ok.2.1 (ok.loc (i := 2) rfl)
  refine g_aload_n dX4_finish_0 rfl ?_
  refine g_iload_n dX4_finish_1 rfl ?_
  refine gw_cVi (b := k) (As := [g_I v2]) (rest := []) dX4_finish_2 mv_X4_93 hk.1 rfl (Nat.le_of_ble_eq_true rfl) (by decide) rfl hF ?_
  intro x1 D1 hx1 hF
  have hF := hF hx1
  refine gw_istore_n (L' := [some (g_R k), some (g_R r1), some (g_I v2), some (g_I x1)]) dX4_finish_5 (by decide) rfl ?_
  refine g_aload_n dX4_finish_6 rfl ?_
  refine g_dup dX4_finish_7 rfl ?_
  refine g_getI dX4_finish_8 fd_X4_50 hk.1 rfl ?_
  refine g_iconst dX4_finish_11 ⟨by decide, by decide⟩ ?_
  refine g_iload_n dX4_finish_12 rfl ?_
  refine g_ishl dX4_finish_13 ?_
  refine g_ior dX4_finish_14 ?_
  let D2 : g_D := g_up D1 k 7 (g_or (D1 k 7) (g_shl 1 v2))
  have hF := hF D2 rfl
  refine g_put dX4_finish_15 fd_X4_50 (g_ftyI (C := RX4) (T := TX4) (N := 12) rfl rfl (by decide +kernel)) hk.1 rfl ?_
  refine g_iload_n dX4_finish_18 rfl ?_
  refine g_iconst dX4_finish_19 ⟨by decide, by decide⟩ ?_
  refine g_cne dX4_finish_20 rfl (fun q => ?_) (fun q => ?_)
  · have hF := hF.1 q
    refine g_iload_n dX4_finish_65 rfl ?_
    refine g_iconst dX4_finish_66 ⟨by decide, by decide⟩ ?_
    refine g_ceq dX4_finish_67 rfl (fun q => ?_) (fun q => ?_)
    · have hF := hF.1 q
      refine g_aload_n dX4_finish_79 rfl ?_
      refine g_iconst dX4_finish_80 ⟨by decide, by decide⟩ ?_
      refine g_iload_n dX4_finish_81 rfl ?_
      refine g_iconst dX4_finish_82 ⟨by decide, by decide⟩ ?_
      refine g_iconst dX4_finish_83 ⟨by decide, by decide⟩ ?_
      refine g_aload_n dX4_finish_84 rfl ?_
      refine g_getR dX4_finish_85 fd_X4_96 hr1.1 rfl ?_
      refine g_iload_n dX4_finish_88 rfl ?_
      obtain ⟨hc, hF⟩ := hF
      refine g_iald dX4_finish_89 hr1.2.2.2.2.1 hc.1 hc.2 ?_
      obtain ⟨hc, hF⟩ := hF
      refine g_iadd dX4_finish_90 hc ?_
      refine gw_cVv (b := k) (As := [g_I 4, g_I v2, g_I (-1), g_I (3 + (D2 (r1 + 4) v2.toNat))]) (rest := []) dX4_finish_91 mv_X4_103 hk.1 rfl (Nat.le_of_ble_eq_true rfl) (by decide) rfl hF ?_
      intro D3 hF
      refine g_goto dX4_finish_94 rfl ?_
      exact gw_vret dX4_finish_105 rfl hF
    · have hF := hF.2 q
      refine g_aload_n dX4_finish_70 rfl ?_
      refine g_getR dX4_finish_71 fd_X4_107 hr1.1 rfl ?_
      refine g_iload_n dX4_finish_74 rfl ?_
      obtain ⟨hc, hF⟩ := hF
      refine g_iald dX4_finish_75 hr1.2.1 hc.1 hc.2 ?_
      refine g_ifne dX4_finish_76 rfl (fun q => ?_) (fun q => ?_)
      · have hF := hF.1 q
        refine g_aload_n dX4_finish_97 rfl ?_
        refine g_iconst dX4_finish_98 ⟨by decide, by decide⟩ ?_
        refine g_iload_n dX4_finish_99 rfl ?_
        refine g_iconst dX4_finish_100 ⟨by decide, by decide⟩ ?_
        refine g_iconst dX4_finish_101 ⟨by decide, by decide⟩ ?_
        refine gw_cVv (b := k) (As := [g_I 2, g_I v2, g_I (-1), g_I 4]) (rest := []) dX4_finish_102 mv_X4_103 hk.1 rfl (Nat.le_of_ble_eq_true rfl) (by decide) rfl hF ?_
        intro D4 hF
        exact gw_vret dX4_finish_105 rfl hF
      · have hF := hF.2 q
        refine g_aload_n dX4_finish_79 rfl ?_
        refine g_iconst dX4_finish_80 ⟨by decide, by decide⟩ ?_
        refine g_iload_n dX4_finish_81 rfl ?_
        refine g_iconst dX4_finish_82 ⟨by decide, by decide⟩ ?_
        refine g_iconst dX4_finish_83 ⟨by decide, by decide⟩ ?_
        refine g_aload_n dX4_finish_84 rfl ?_
        refine g_getR dX4_finish_85 fd_X4_96 hr1.1 rfl ?_
        refine g_iload_n dX4_finish_88 rfl ?_
        obtain ⟨hc, hF⟩ := hF
        refine g_iald dX4_finish_89 hr1.2.2.2.2.1 hc.1 hc.2 ?_
        obtain ⟨hc, hF⟩ := hF
        refine g_iadd dX4_finish_90 hc ?_
        refine gw_cVv (b := k) (As := [g_I 4, g_I v2, g_I (-1), g_I (3 + (D2 (r1 + 4) v2.toNat))]) (rest := []) dX4_finish_91 mv_X4_103 hk.1 rfl (Nat.le_of_ble_eq_true rfl) (by decide) rfl hF ?_
        intro D5 hF
        refine g_goto dX4_finish_94 rfl ?_
        exact gw_vret dX4_finish_105 rfl hF
  · have hF := hF.2 q
    refine g_aload_n dX4_finish_23 rfl ?_
    refine g_dup dX4_finish_24 rfl ?_
    refine g_getI dX4_finish_25 fd_X4_53 hk.1 rfl ?_
    refine g_aload_n dX4_finish_28 rfl ?_
    refine g_getR dX4_finish_29 fd_X4_21 hk.1 rfl ?_
    refine g_iload_n dX4_finish_32 rfl ?_
    obtain ⟨hc, hF⟩ := hF
    refine g_iald dX4_finish_33 hk.2.2.2.2.1 hc.1 hc.2 ?_
    refine g_aload_n dX4_finish_34 rfl ?_
    refine g_getR dX4_finish_35 fd_X4_96 hr1.1 rfl ?_
    refine g_iload_n dX4_finish_38 rfl ?_
    obtain ⟨hc, hF⟩ := hF
    refine g_iald dX4_finish_39 hr1.2.2.2.2.1 hc.1 hc.2 ?_
    refine gw_cNi (As := [g_I (D2 (k + 4) v2.toNat), g_I (D2 (r1 + 4) v2.toNat)]) (rest := [g_I (D2 k 10), g_R k]) dX4_finish_40 mn_X4_99 rfl (Nat.le_of_ble_eq_true rfl) (by decide) rfl hF ?_
    intro x6 D6 hx6 hF
    have hF := hF hx6
    refine g_iconst dX4_finish_43 ⟨by decide, by decide⟩ ?_
    refine g_ixor dX4_finish_44 ?_
    refine g_iand dX4_finish_45 ?_
    let D7 : g_D := g_up D6 k 10 (g_and (D2 k 10) (g_xor x6 (-1)))
    have hF := hF D7 rfl
    refine g_put dX4_finish_46 fd_X4_53 (g_ftyI (C := RX4) (T := TX4) (N := 12) rfl rfl (by decide +kernel)) hk.1 rfl ?_
    refine g_aload_n dX4_finish_49 rfl ?_
    refine g_iconst dX4_finish_50 ⟨by decide, by decide⟩ ?_
    refine g_iload_n dX4_finish_51 rfl ?_
    refine g_aload_n dX4_finish_52 rfl ?_
    refine g_getR dX4_finish_53 fd_X4_21 hk.1 rfl ?_
    refine g_iload_n dX4_finish_56 rfl ?_
    obtain ⟨hc, hF⟩ := hF
    refine g_iald dX4_finish_57 hk.2.2.2.2.1 hc.1 hc.2 ?_
    refine g_iconst dX4_finish_58 ⟨by decide, by decide⟩ ?_
    refine gw_cVv (b := k) (As := [g_I 3, g_I v2, g_I (D7 (k + 4) v2.toNat), g_I 4]) (rest := []) dX4_finish_59 mv_X4_103 hk.1 rfl (Nat.le_of_ble_eq_true rfl) (by decide) rfl hF ?_
    intro D8 hF
    refine g_goto dX4_finish_62 rfl ?_
    exact gw_vret dX4_finish_105 rfl hF
theorem dX4_freePlace_0 : decode cX4_freePlace 0 = .ok (.iconst 0, 1) := by decide +kernel
theorem dX4_freePlace_1 : decode cX4_freePlace 1 = .ok (.istore_n 3, 1) := by decide +kernel
theorem dX4_freePlace_2 : decode cX4_freePlace 2 = .ok (.iload_n 3, 1) := by decide +kernel
theorem dX4_freePlace_3 : decode cX4_freePlace 3 = .ok (.iload_n 1, 1) := by decide +kernel
theorem dX4_freePlace_4 : decode cX4_freePlace 4 = .ok (.iadd, 1) := by decide +kernel
theorem dX4_freePlace_5 : decode cX4_freePlace 5 = .ok (.iload_n 2, 1) := by decide +kernel
theorem dX4_freePlace_6 : decode cX4_freePlace 6 = .ok (.if_icmp .gt 24, 3) := by decide +kernel
theorem dX4_freePlace_9 : decode cX4_freePlace 9 = .ok (.aload_n 0, 1) := by decide +kernel
theorem dX4_freePlace_10 : decode cX4_freePlace 10 = .ok (.getfield 53, 3) := by decide +kernel
theorem dX4_freePlace_13 : decode cX4_freePlace 13 = .ok (.iload_n 3, 1) := by decide +kernel
theorem dX4_freePlace_14 : decode cX4_freePlace 14 = .ok (.iload_n 1, 1) := by decide +kernel
theorem dX4_freePlace_15 : decode cX4_freePlace 15 = .ok (.invokestatic 99, 3) := by decide +kernel
theorem dX4_freePlace_18 : decode cX4_freePlace 18 = .ok (.iand, 1) := by decide +kernel
theorem dX4_freePlace_19 : decode cX4_freePlace 19 = .ok (.ifCond .ne 5, 3) := by decide +kernel
theorem dX4_freePlace_22 : decode cX4_freePlace 22 = .ok (.iload_n 3, 1) := by decide +kernel
theorem dX4_freePlace_23 : decode cX4_freePlace 23 = .ok (.ireturn, 1) := by decide +kernel
theorem dX4_freePlace_24 : decode cX4_freePlace 24 = .ok (.iinc 3 1, 3) := by decide +kernel
theorem dX4_freePlace_27 : decode cX4_freePlace 27 = .ok (.goto (-25), 3) := by decide +kernel
theorem dX4_freePlace_30 : decode cX4_freePlace 30 = .ok (.iconst (-1), 1) := by decide +kernel
theorem dX4_freePlace_31 : decode cX4_freePlace 31 = .ok (.ireturn, 1) := by decide +kernel
abbrev k_X4_freePlace (E : g_E) (l : Launch) (D : g_D) (k : Nat) (v1 : Int) (v2 : Int) (K : Int → g_D → Prop) : Prop := g_Ki E l m_X4_freePlace 1 [g_R k, g_I v1, g_I v2] g_SH D K
abbrev n_X4_freePlace (E : g_E) (l : Launch) (D : g_D) (pc : Nat) (L : List (Option g_V)) (K : Int → g_D → Prop) : Prop := g_N E l m_X4_freePlace 1 pc L [] g_SH D (g_Ri g_SH K)
theorem s_X4_freePlace {E : g_E} {l : Launch} {D : g_D} {K : Int → g_D → Prop} {k : Nat} {v1 : Int} {v2 : Int} (hk : is_Plan g_SH k) (hF : g_okD D → g_r v1 → g_r v2 → n_X4_freePlace E l D 2 [some (g_R k), some (g_I v1), some (g_I v2), some (g_I 0)] K) : k_X4_freePlace E l D k v1 v2 K := by
  refine g_enter (by decide) (Nat.le_of_ble_eq_true rfl) ?_
  show g_N E l m_X4_freePlace 1 0 [some (g_R k), some (g_I v1), some (g_I v2), none] [] g_SH D (g_Ri g_SH K)
  refine g_use (fun ok => ?_)
  have hF := hF ok.2.1 (ok.loc (i := 1) rfl) (ok.loc (i := 2) rfl)
  refine g_iconst dX4_freePlace_0 ⟨by decide, by decide⟩ ?_
  refine gw_istore_n (L' := [some (g_R k), some (g_I v1), some (g_I v2), some (g_I 0)]) dX4_freePlace_1 (by decide) rfl ?_
  exact hF
theorem s_X4_freePlace_2 {E : g_E} {l : Launch} {D : g_D} {K : Int → g_D → Prop} {k : Nat} {v1 : Int} {v2 : Int} {v3 : Int} (hk : is_Plan g_SH k) (hF : g_okD D → g_r v1 → g_r v2 → g_r v3 → (g_r (v3 + v1)) ∧ ((v2 < (v3 + v1) → K (-1) D) ∧ (¬ v2 < (v3 + v1) → k_X11_onesFrom E l g_SH D v3 v1 (fun x1 D1 => g_r x1 → (¬ (g_and (D k 10) x1) = 0 → (g_r (v3 + 1)) ∧ (n_X4_freePlace E l D1 2 [some (g_R k), some (g_I v1), some (g_I v2), some (g_I (v3 + 1))] K)) ∧ ((g_and (D k 10) x1) = 0 → K v3 D1))))) : n_X4_freePlace E l D 2 [some (g_R k), some (g_I v1), some (g_I v2), some (g_I v3)] K := by
  refine g_use (fun ok => ?_)
  have hF := hF ok.2.1 (ok.loc (i := 1) rfl) (ok.loc (i := 2) rfl) (ok.loc (i := 3) rfl)
  refine g_iload_n dX4_freePlace_2 rfl ?_
  refine g_iload_n dX4_freePlace_3 rfl ?_
  obtain ⟨hc, hF⟩ := hF
  refine g_iadd dX4_freePlace_4 hc ?_
  refine g_iload_n dX4_freePlace_5 rfl ?_
  refine g_cgt dX4_freePlace_6 rfl (fun q => ?_) (fun q => ?_)
  · have hF := hF.1 q
    refine g_iconst dX4_freePlace_30 ⟨by decide, by decide⟩ ?_
    exact gw_iret dX4_freePlace_31 rfl hF
  · have hF := hF.2 q
    refine g_aload_n dX4_freePlace_9 rfl ?_
    refine g_getI dX4_freePlace_10 fd_X4_53 hk.1 rfl ?_
    refine g_iload_n dX4_freePlace_13 rfl ?_
    refine g_iload_n dX4_freePlace_14 rfl ?_
    refine gw_cNi (As := [g_I v3, g_I v1]) (rest := [g_I (D k 10)]) dX4_freePlace_15 mn_X4_99 rfl (Nat.le_of_ble_eq_true rfl) (by decide) rfl hF ?_
    intro x1 D1 hx1 hF
    have hF := hF hx1
    refine g_iand dX4_freePlace_18 ?_
    refine g_ifne dX4_freePlace_19 rfl (fun q => ?_) (fun q => ?_)
    · have hF := hF.1 q
      obtain ⟨hc, hF⟩ := hF
      refine gw_iinc (L' := [some (g_R k), some (g_I v1), some (g_I v2), some (g_I (v3 + 1))]) dX4_freePlace_24 rfl hc (by decide) rfl ?_
      refine g_goto dX4_freePlace_27 rfl ?_
      exact hF
    · have hF := hF.2 q
      refine g_iload_n dX4_freePlace_22 rfl ?_
      exact gw_iret dX4_freePlace_23 rfl hF
theorem dX4_waiting_0 : decode cX4_waiting 0 = .ok (.aload_n 1, 1) := by decide +kernel
theorem dX4_waiting_1 : decode cX4_waiting 1 = .ok (.getfield 90, 3) := by decide +kernel
theorem dX4_waiting_4 : decode cX4_waiting 4 = .ok (.iload_n 2, 1) := by decide +kernel
theorem dX4_waiting_5 : decode cX4_waiting 5 = .ok (.iaload, 1) := by decide +kernel
theorem dX4_waiting_6 : decode cX4_waiting 6 = .ok (.aload_n 0, 1) := by decide +kernel
theorem dX4_waiting_7 : decode cX4_waiting 7 = .ok (.getfield 50, 3) := by decide +kernel
theorem dX4_waiting_10 : decode cX4_waiting 10 = .ok (.iconst (-1), 1) := by decide +kernel
theorem dX4_waiting_11 : decode cX4_waiting 11 = .ok (.ixor, 1) := by decide +kernel
theorem dX4_waiting_12 : decode cX4_waiting 12 = .ok (.iand, 1) := by decide +kernel
theorem dX4_waiting_13 : decode cX4_waiting 13 = .ok (.invokestatic 134, 3) := by decide +kernel
theorem dX4_waiting_16 : decode cX4_waiting 16 = .ok (.ireturn, 1) := by decide +kernel
abbrev k_X4_waiting (E : g_E) (l : Launch) (D : g_D) (k : Nat) (r1 : Nat) (v2 : Int) (K : Int → g_D → Prop) : Prop := g_Ki E l m_X4_waiting 1 [g_R k, g_R r1, g_I v2] g_SH D K
abbrev n_X4_waiting (E : g_E) (l : Launch) (D : g_D) (pc : Nat) (L : List (Option g_V)) (K : Int → g_D → Prop) : Prop := g_N E l m_X4_waiting 1 pc L [] g_SH D (g_Ri g_SH K)
theorem s_X4_waiting {E : g_E} {l : Launch} {D : g_D} {K : Int → g_D → Prop} {k : Nat} {r1 : Nat} {v2 : Int} (hk : is_Plan g_SH k) (hr1 : is_Script g_SH r1) (hF : g_okD D → g_r v2 → (0 ≤ v2 ∧ v2 < 20) ∧ (k_J6_bitCount_0f7a4 E l g_SH D (g_and (D (r1 + 5) v2.toNat) (g_xor (D k 7) (-1))) (fun x1 D1 => g_r x1 → K x1 D1))) : k_X4_waiting E l D k r1 v2 K := by
  refine g_enter (by decide) (Nat.le_of_ble_eq_true rfl) ?_
  show g_N E l m_X4_waiting 1 0 [some (g_R k), some (g_R r1), some (g_I v2)] [] g_SH D (g_Ri g_SH K)
  refine g_use (fun ok => ?_)
  have hF := hF ok.2.1 (ok.loc (i := 2) rfl)
  refine g_aload_n dX4_waiting_0 rfl ?_
  refine g_getR dX4_waiting_1 fd_X4_90 hr1.1 rfl ?_
  refine g_iload_n dX4_waiting_4 rfl ?_
  obtain ⟨hc, hF⟩ := hF
  refine g_iald dX4_waiting_5 hr1.2.2.2.2.2.1 hc.1 hc.2 ?_
  refine g_aload_n dX4_waiting_6 rfl ?_
  refine g_getI dX4_waiting_7 fd_X4_50 hk.1 rfl ?_
  refine g_iconst dX4_waiting_10 ⟨by decide, by decide⟩ ?_
  refine g_ixor dX4_waiting_11 ?_
  refine g_iand dX4_waiting_12 ?_
  refine gw_cSi (As := [g_I (g_and (D (r1 + 5) v2.toNat) (g_xor (D k 7) (-1)))]) (rest := []) dX4_waiting_13 ms_X4_134 rfl (Nat.le_of_ble_eq_true rfl) (by decide) rfl hF ?_
  intro x1 D1 hx1 hF
  have hF := hF hx1
  exact gw_iret dX4_waiting_16 rfl hF
theorem dX4_isPreferred_0 : decode cX4_isPreferred 0 = .ok (.iload_n 2, 1) := by decide +kernel
theorem dX4_isPreferred_1 : decode cX4_isPreferred 1 = .ok (.ifCond .ne 25, 3) := by decide +kernel
theorem dX4_isPreferred_4 : decode cX4_isPreferred 4 = .ok (.aload_n 1, 1) := by decide +kernel
theorem dX4_isPreferred_5 : decode cX4_isPreferred 5 = .ok (.getfield 96, 3) := by decide +kernel
theorem dX4_isPreferred_8 : decode cX4_isPreferred 8 = .ok (.iload_n 3, 1) := by decide +kernel
theorem dX4_isPreferred_9 : decode cX4_isPreferred 9 = .ok (.iaload, 1) := by decide +kernel
theorem dX4_isPreferred_10 : decode cX4_isPreferred 10 = .ok (.aload_n 1, 1) := by decide +kernel
theorem dX4_isPreferred_11 : decode cX4_isPreferred 11 = .ok (.getfield 96, 3) := by decide +kernel
theorem dX4_isPreferred_14 : decode cX4_isPreferred 14 = .ok (.iload 4, 2) := by decide +kernel
theorem dX4_isPreferred_16 : decode cX4_isPreferred 16 = .ok (.iaload, 1) := by decide +kernel
theorem dX4_isPreferred_17 : decode cX4_isPreferred 17 = .ok (.if_icmp .ge 7, 3) := by decide +kernel
theorem dX4_isPreferred_20 : decode cX4_isPreferred 20 = .ok (.iconst 1, 1) := by decide +kernel
theorem dX4_isPreferred_21 : decode cX4_isPreferred 21 = .ok (.goto 4, 3) := by decide +kernel
theorem dX4_isPreferred_24 : decode cX4_isPreferred 24 = .ok (.iconst 0, 1) := by decide +kernel
theorem dX4_isPreferred_25 : decode cX4_isPreferred 25 = .ok (.ireturn, 1) := by decide +kernel
theorem dX4_isPreferred_26 : decode cX4_isPreferred 26 = .ok (.iload_n 2, 1) := by decide +kernel
theorem dX4_isPreferred_27 : decode cX4_isPreferred 27 = .ok (.iconst 1, 1) := by decide +kernel
theorem dX4_isPreferred_28 : decode cX4_isPreferred 28 = .ok (.if_icmp .ne 23, 3) := by decide +kernel
theorem dX4_isPreferred_31 : decode cX4_isPreferred 31 = .ok (.aload_n 0, 1) := by decide +kernel
theorem dX4_isPreferred_32 : decode cX4_isPreferred 32 = .ok (.aload_n 1, 1) := by decide +kernel
theorem dX4_isPreferred_33 : decode cX4_isPreferred 33 = .ok (.iload_n 3, 1) := by decide +kernel
theorem dX4_isPreferred_34 : decode cX4_isPreferred 34 = .ok (.invokevirtual 130, 3) := by decide +kernel
theorem dX4_isPreferred_37 : decode cX4_isPreferred 37 = .ok (.aload_n 0, 1) := by decide +kernel
theorem dX4_isPreferred_38 : decode cX4_isPreferred 38 = .ok (.aload_n 1, 1) := by decide +kernel
theorem dX4_isPreferred_39 : decode cX4_isPreferred 39 = .ok (.iload 4, 2) := by decide +kernel
theorem dX4_isPreferred_41 : decode cX4_isPreferred 41 = .ok (.invokevirtual 130, 3) := by decide +kernel
theorem dX4_isPreferred_44 : decode cX4_isPreferred 44 = .ok (.if_icmp .le 7, 3) := by decide +kernel
theorem dX4_isPreferred_47 : decode cX4_isPreferred 47 = .ok (.iconst 1, 1) := by decide +kernel
theorem dX4_isPreferred_48 : decode cX4_isPreferred 48 = .ok (.goto 4, 3) := by decide +kernel
theorem dX4_isPreferred_51 : decode cX4_isPreferred 51 = .ok (.iconst 0, 1) := by decide +kernel
theorem dX4_isPreferred_52 : decode cX4_isPreferred 52 = .ok (.ireturn, 1) := by decide +kernel
abbrev k_X4_isPreferred (E : g_E) (l : Launch) (D : g_D) (k : Nat) (r1 : Nat) (v2 : Int) (v3 : Int) (v4 : Int) (K : Int → g_D → Prop) : Prop := g_Ki E l m_X4_isPreferred 2 [g_R k, g_R r1, g_I v2, g_I v3, g_I v4] g_SH D K
abbrev n_X4_isPreferred (E : g_E) (l : Launch) (D : g_D) (pc : Nat) (L : List (Option g_V)) (K : Int → g_D → Prop) : Prop := g_N E l m_X4_isPreferred 2 pc L [] g_SH D (g_Ri g_SH K)
theorem s_X4_isPreferred {E : g_E} {l : Launch} {D : g_D} {K : Int → g_D → Prop} {k : Nat} {r1 : Nat} {v2 : Int} {v3 : Int} {v4 : Int} (hk : is_Plan g_SH k) (hr1 : is_Script g_SH r1) (hF : g_okD D → g_r v2 → g_r v3 → g_r v4 → (¬ v2 = 0 → (¬ v2 = 1 → K 0 D) ∧ (v2 = 1 → k_X4_waiting E l D k r1 v3 (fun x1 D1 => g_r x1 → k_X4_waiting E l D1 k r1 v4 (fun x2 D2 => g_r x2 → (x1 ≤ x2 → K 0 D2) ∧ (¬ x1 ≤ x2 → K 1 D2))))) ∧ (v2 = 0 → (0 ≤ v3 ∧ v3 < 20) ∧ ((0 ≤ v4 ∧ v4 < 20) ∧ (((D (r1 + 4) v4.toNat) ≤ (D (r1 + 4) v3.toNat) → K 0 D) ∧ (¬ (D (r1 + 4) v4.toNat) ≤ (D (r1 + 4) v3.toNat) → K 1 D))))) : k_X4_isPreferred E l D k r1 v2 v3 v4 K := by
  refine g_enter (by decide) (Nat.le_of_ble_eq_true rfl) ?_
  show g_N E l m_X4_isPreferred 2 0 [some (g_R k), some (g_R r1), some (g_I v2), some (g_I v3), some (g_I v4)] [] g_SH D (g_Ri g_SH K)
  refine g_use (fun ok => ?_)
  have hF := hF ok.2.1 (ok.loc (i := 2) rfl) (ok.loc (i := 3) rfl) (ok.loc (i := 4) rfl)
  refine g_iload_n dX4_isPreferred_0 rfl ?_
  refine g_ifne dX4_isPreferred_1 rfl (fun q => ?_) (fun q => ?_)
  · have hF := hF.1 q
    refine g_iload_n dX4_isPreferred_26 rfl ?_
    refine g_iconst dX4_isPreferred_27 ⟨by decide, by decide⟩ ?_
    refine g_cne dX4_isPreferred_28 rfl (fun q => ?_) (fun q => ?_)
    · have hF := hF.1 q
      refine g_iconst dX4_isPreferred_51 ⟨by decide, by decide⟩ ?_
      exact gw_zret dX4_isPreferred_52 rfl (by decide) hF
    · have hF := hF.2 q
      refine g_aload_n dX4_isPreferred_31 rfl ?_
      refine g_aload_n dX4_isPreferred_32 rfl ?_
      refine g_iload_n dX4_isPreferred_33 rfl ?_
      refine gw_cVi (b := k) (As := [g_R r1, g_I v3]) (rest := []) dX4_isPreferred_34 mv_X4_130 hk.1 rfl (Nat.le_of_ble_eq_true rfl) (by decide) rfl hF ?_
      intro x1 D1 hx1 hF
      have hF := hF hx1
      refine g_aload_n dX4_isPreferred_37 rfl ?_
      refine g_aload_n dX4_isPreferred_38 rfl ?_
      refine g_iload dX4_isPreferred_39 rfl ?_
      refine gw_cVi (b := k) (As := [g_R r1, g_I v4]) (rest := [g_I x1]) dX4_isPreferred_41 mv_X4_130 hk.1 rfl (Nat.le_of_ble_eq_true rfl) (by decide) rfl hF ?_
      intro x2 D2 hx2 hF
      have hF := hF hx2
      refine g_cle dX4_isPreferred_44 rfl (fun q => ?_) (fun q => ?_)
      · have hF := hF.1 q
        refine g_iconst dX4_isPreferred_51 ⟨by decide, by decide⟩ ?_
        exact gw_zret dX4_isPreferred_52 rfl (by decide) hF
      · have hF := hF.2 q
        refine g_iconst dX4_isPreferred_47 ⟨by decide, by decide⟩ ?_
        refine g_goto dX4_isPreferred_48 rfl ?_
        exact gw_zret dX4_isPreferred_52 rfl (by decide) hF
  · have hF := hF.2 q
    refine g_aload_n dX4_isPreferred_4 rfl ?_
    refine g_getR dX4_isPreferred_5 fd_X4_96 hr1.1 rfl ?_
    refine g_iload_n dX4_isPreferred_8 rfl ?_
    obtain ⟨hc, hF⟩ := hF
    refine g_iald dX4_isPreferred_9 hr1.2.2.2.2.1 hc.1 hc.2 ?_
    refine g_aload_n dX4_isPreferred_10 rfl ?_
    refine g_getR dX4_isPreferred_11 fd_X4_96 hr1.1 rfl ?_
    refine g_iload dX4_isPreferred_14 rfl ?_
    obtain ⟨hc, hF⟩ := hF
    refine g_iald dX4_isPreferred_16 hr1.2.2.2.2.1 hc.1 hc.2 ?_
    refine g_cge dX4_isPreferred_17 rfl (fun q => ?_) (fun q => ?_)
    · have hF := hF.1 q
      refine g_iconst dX4_isPreferred_24 ⟨by decide, by decide⟩ ?_
      exact gw_zret dX4_isPreferred_25 rfl (by decide) hF
    · have hF := hF.2 q
      refine g_iconst dX4_isPreferred_20 ⟨by decide, by decide⟩ ?_
      refine g_goto dX4_isPreferred_21 rfl ?_
      exact gw_zret dX4_isPreferred_25 rfl (by decide) hF
theorem dX4_saveCopy_0 : decode cX4_saveCopy 0 = .ok (.aload_n 0, 1) := by decide +kernel
theorem dX4_saveCopy_1 : decode cX4_saveCopy 1 = .ok (.aload_n 1, 1) := by decide +kernel
theorem dX4_saveCopy_2 : decode cX4_saveCopy 2 = .ok (.getfield 96, 3) := by decide +kernel
theorem dX4_saveCopy_5 : decode cX4_saveCopy 5 = .ok (.iload_n 2, 1) := by decide +kernel
theorem dX4_saveCopy_6 : decode cX4_saveCopy 6 = .ok (.iaload, 1) := by decide +kernel
theorem dX4_saveCopy_7 : decode cX4_saveCopy 7 = .ok (.iload_n 3, 1) := by decide +kernel
theorem dX4_saveCopy_8 : decode cX4_saveCopy 8 = .ok (.invokevirtual 120, 3) := by decide +kernel
theorem dX4_saveCopy_11 : decode cX4_saveCopy 11 = .ok (.istore 4, 2) := by decide +kernel
theorem dX4_saveCopy_13 : decode cX4_saveCopy 13 = .ok (.iload 4, 2) := by decide +kernel
theorem dX4_saveCopy_15 : decode cX4_saveCopy 15 = .ok (.iconst (-1), 1) := by decide +kernel
theorem dX4_saveCopy_16 : decode cX4_saveCopy 16 = .ok (.if_icmp .ne 4, 3) := by decide +kernel
theorem dX4_saveCopy_19 : decode cX4_saveCopy 19 = .ok (.return_, 1) := by decide +kernel
theorem dX4_saveCopy_20 : decode cX4_saveCopy 20 = .ok (.aload_n 0, 1) := by decide +kernel
theorem dX4_saveCopy_21 : decode cX4_saveCopy 21 = .ok (.getfield 21, 3) := by decide +kernel
theorem dX4_saveCopy_24 : decode cX4_saveCopy 24 = .ok (.iload_n 2, 1) := by decide +kernel
theorem dX4_saveCopy_25 : decode cX4_saveCopy 25 = .ok (.iload 4, 2) := by decide +kernel
theorem dX4_saveCopy_27 : decode cX4_saveCopy 27 = .ok (.iastore, 1) := by decide +kernel
theorem dX4_saveCopy_28 : decode cX4_saveCopy 28 = .ok (.aload_n 0, 1) := by decide +kernel
theorem dX4_saveCopy_29 : decode cX4_saveCopy 29 = .ok (.dup, 1) := by decide +kernel
theorem dX4_saveCopy_30 : decode cX4_saveCopy 30 = .ok (.getfield 33, 3) := by decide +kernel
theorem dX4_saveCopy_33 : decode cX4_saveCopy 33 = .ok (.iconst 1, 1) := by decide +kernel
theorem dX4_saveCopy_34 : decode cX4_saveCopy 34 = .ok (.iload_n 2, 1) := by decide +kernel
theorem dX4_saveCopy_35 : decode cX4_saveCopy 35 = .ok (.ishl, 1) := by decide +kernel
theorem dX4_saveCopy_36 : decode cX4_saveCopy 36 = .ok (.ior, 1) := by decide +kernel
theorem dX4_saveCopy_37 : decode cX4_saveCopy 37 = .ok (.putfield 33, 3) := by decide +kernel
theorem dX4_saveCopy_40 : decode cX4_saveCopy 40 = .ok (.aload_n 0, 1) := by decide +kernel
theorem dX4_saveCopy_41 : decode cX4_saveCopy 41 = .ok (.dup, 1) := by decide +kernel
theorem dX4_saveCopy_42 : decode cX4_saveCopy 42 = .ok (.getfield 53, 3) := by decide +kernel
theorem dX4_saveCopy_45 : decode cX4_saveCopy 45 = .ok (.iload 4, 2) := by decide +kernel
theorem dX4_saveCopy_47 : decode cX4_saveCopy 47 = .ok (.aload_n 1, 1) := by decide +kernel
theorem dX4_saveCopy_48 : decode cX4_saveCopy 48 = .ok (.getfield 96, 3) := by decide +kernel
theorem dX4_saveCopy_51 : decode cX4_saveCopy 51 = .ok (.iload_n 2, 1) := by decide +kernel
theorem dX4_saveCopy_52 : decode cX4_saveCopy 52 = .ok (.iaload, 1) := by decide +kernel
theorem dX4_saveCopy_53 : decode cX4_saveCopy 53 = .ok (.invokestatic 99, 3) := by decide +kernel
theorem dX4_saveCopy_56 : decode cX4_saveCopy 56 = .ok (.ior, 1) := by decide +kernel
theorem dX4_saveCopy_57 : decode cX4_saveCopy 57 = .ok (.putfield 53, 3) := by decide +kernel
theorem dX4_saveCopy_60 : decode cX4_saveCopy 60 = .ok (.aload_n 0, 1) := by decide +kernel
theorem dX4_saveCopy_61 : decode cX4_saveCopy 61 = .ok (.aload_n 0, 1) := by decide +kernel
theorem dX4_saveCopy_62 : decode cX4_saveCopy 62 = .ok (.getfield 56, 3) := by decide +kernel
theorem dX4_saveCopy_65 : decode cX4_saveCopy 65 = .ok (.aload_n 0, 1) := by decide +kernel
theorem dX4_saveCopy_66 : decode cX4_saveCopy 66 = .ok (.getfield 53, 3) := by decide +kernel
theorem dX4_saveCopy_69 : decode cX4_saveCopy 69 = .ok (.invokestatic 134, 3) := by decide +kernel
theorem dX4_saveCopy_72 : decode cX4_saveCopy 72 = .ok (.invokestatic 139, 3) := by decide +kernel
theorem dX4_saveCopy_75 : decode cX4_saveCopy 75 = .ok (.putfield 56, 3) := by decide +kernel
theorem dX4_saveCopy_78 : decode cX4_saveCopy 78 = .ok (.aload_n 0, 1) := by decide +kernel
theorem dX4_saveCopy_79 : decode cX4_saveCopy 79 = .ok (.iconst 1, 1) := by decide +kernel
theorem dX4_saveCopy_80 : decode cX4_saveCopy 80 = .ok (.iload_n 2, 1) := by decide +kernel
theorem dX4_saveCopy_81 : decode cX4_saveCopy 81 = .ok (.iload 4, 2) := by decide +kernel
theorem dX4_saveCopy_83 : decode cX4_saveCopy 83 = .ok (.iconst 4, 1) := by decide +kernel
theorem dX4_saveCopy_84 : decode cX4_saveCopy 84 = .ok (.invokevirtual 103, 3) := by decide +kernel
theorem dX4_saveCopy_87 : decode cX4_saveCopy 87 = .ok (.return_, 1) := by decide +kernel
abbrev k_X4_saveCopy (E : g_E) (l : Launch) (D : g_D) (k : Nat) (r1 : Nat) (v2 : Int) (v3 : Int) (K : g_D → Prop) : Prop := g_Kv E l m_X4_saveCopy 2 [g_R k, g_R r1, g_I v2, g_I v3] g_SH D K
abbrev n_X4_saveCopy (E : g_E) (l : Launch) (D : g_D) (pc : Nat) (L : List (Option g_V)) (K : g_D → Prop) : Prop := g_N E l m_X4_saveCopy 2 pc L [] g_SH D (g_Rv g_SH K)
theorem s_X4_saveCopy {E : g_E} {l : Launch} {D : g_D} {K : g_D → Prop} {k : Nat} {r1 : Nat} {v2 : Int} {v3 : Int} (hk : is_Plan g_SH k) (hr1 : is_Script g_SH r1) (hF : g_okD D → g_r v2 → g_r v3 → (0 ≤ v2 ∧ v2 < 20) ∧ (k_X4_freePlace E l D k (D (r1 + 4) v2.toNat) v3 (fun x1 D1 => g_r x1 → (¬ x1 = (-1) → (0 ≤ v2 ∧ v2 < 20) ∧ (∀ D2, D2 = g_up D1 (k + 4) v2.toNat x1 → (∀ D3, D3 = g_up D2 k 8 (g_or (D2 k 8) (g_shl 1 v2)) → ((0 ≤ v2 ∧ v2 < 20) ∧ (k_X11_onesFrom E l g_SH D3 x1 (D3 (r1 + 4) v2.toNat) (fun x4 D4 => g_r x4 → ∀ D5, D5 = g_up D4 k 10 (g_or (D3 k 10) x4) → (k_J6_bitCount_0f7a4 E l g_SH D5 (D5 k 10) (fun x6 D6 => g_r x6 → ∀ D7, D7 = g_up D6 k 11 (max (D5 k 11) x6) → (k_X4_append E l D7 k 1 v2 x1 4 (fun D8 => K D8)))))))))) ∧ (x1 = (-1) → K D1)))) : k_X4_saveCopy E l D k r1 v2 v3 K := by
  refine g_enter (by decide) (Nat.le_of_ble_eq_true rfl) ?_
  show g_N E l m_X4_saveCopy 2 0 [some (g_R k), some (g_R r1), some (g_I v2), some (g_I v3), none] [] g_SH D (g_Rv g_SH K)
  refine g_use (fun ok => ?_)
  have hF := hF ok.2.1 (ok.loc (i := 2) rfl) (ok.loc (i := 3) rfl)
  refine g_aload_n dX4_saveCopy_0 rfl ?_
  refine g_aload_n dX4_saveCopy_1 rfl ?_
  refine g_getR dX4_saveCopy_2 fd_X4_96 hr1.1 rfl ?_
  refine g_iload_n dX4_saveCopy_5 rfl ?_
  obtain ⟨hc, hF⟩ := hF
  refine g_iald dX4_saveCopy_6 hr1.2.2.2.2.1 hc.1 hc.2 ?_
  refine g_iload_n dX4_saveCopy_7 rfl ?_
  refine gw_cVi (b := k) (As := [g_I (D (r1 + 4) v2.toNat), g_I v3]) (rest := []) dX4_saveCopy_8 mv_X4_120 hk.1 rfl (Nat.le_of_ble_eq_true rfl) (by decide) rfl hF ?_
  intro x1 D1 hx1 hF
  have hF := hF hx1
  refine gw_istore (L' := [some (g_R k), some (g_R r1), some (g_I v2), some (g_I v3), some (g_I x1)]) dX4_saveCopy_11 (by decide) rfl ?_
  refine g_iload dX4_saveCopy_13 rfl ?_
  refine g_iconst dX4_saveCopy_15 ⟨by decide, by decide⟩ ?_
  refine g_cne dX4_saveCopy_16 rfl (fun q => ?_) (fun q => ?_)
  · have hF := hF.1 q
    refine g_aload_n dX4_saveCopy_20 rfl ?_
    refine g_getR dX4_saveCopy_21 fd_X4_21 hk.1 rfl ?_
    refine g_iload_n dX4_saveCopy_24 rfl ?_
    refine g_iload dX4_saveCopy_25 rfl ?_
    obtain ⟨hc, hF⟩ := hF
    let D2 : g_D := g_up D1 (k + 4) v2.toNat x1
    have hF := hF D2 rfl
    refine g_iast dX4_saveCopy_27 hk.2.2.2.2.1 hc.1 hc.2 ?_
    refine g_aload_n dX4_saveCopy_28 rfl ?_
    refine g_dup dX4_saveCopy_29 rfl ?_
    refine g_getI dX4_saveCopy_30 fd_X4_33 hk.1 rfl ?_
    refine g_iconst dX4_saveCopy_33 ⟨by decide, by decide⟩ ?_
    refine g_iload_n dX4_saveCopy_34 rfl ?_
    refine g_ishl dX4_saveCopy_35 ?_
    refine g_ior dX4_saveCopy_36 ?_
    let D3 : g_D := g_up D2 k 8 (g_or (D2 k 8) (g_shl 1 v2))
    have hF := hF D3 rfl
    refine g_put dX4_saveCopy_37 fd_X4_33 (g_ftyI (C := RX4) (T := TX4) (N := 12) rfl rfl (by decide +kernel)) hk.1 rfl ?_
    refine g_aload_n dX4_saveCopy_40 rfl ?_
    refine g_dup dX4_saveCopy_41 rfl ?_
    refine g_getI dX4_saveCopy_42 fd_X4_53 hk.1 rfl ?_
    refine g_iload dX4_saveCopy_45 rfl ?_
    refine g_aload_n dX4_saveCopy_47 rfl ?_
    refine g_getR dX4_saveCopy_48 fd_X4_96 hr1.1 rfl ?_
    refine g_iload_n dX4_saveCopy_51 rfl ?_
    obtain ⟨hc, hF⟩ := hF
    refine g_iald dX4_saveCopy_52 hr1.2.2.2.2.1 hc.1 hc.2 ?_
    refine gw_cNi (As := [g_I x1, g_I (D3 (r1 + 4) v2.toNat)]) (rest := [g_I (D3 k 10), g_R k]) dX4_saveCopy_53 mn_X4_99 rfl (Nat.le_of_ble_eq_true rfl) (by decide) rfl hF ?_
    intro x4 D4 hx4 hF
    have hF := hF hx4
    refine g_ior dX4_saveCopy_56 ?_
    let D5 : g_D := g_up D4 k 10 (g_or (D3 k 10) x4)
    have hF := hF D5 rfl
    refine g_put dX4_saveCopy_57 fd_X4_53 (g_ftyI (C := RX4) (T := TX4) (N := 12) rfl rfl (by decide +kernel)) hk.1 rfl ?_
    refine g_aload_n dX4_saveCopy_60 rfl ?_
    refine g_aload_n dX4_saveCopy_61 rfl ?_
    refine g_getI dX4_saveCopy_62 fd_X4_56 hk.1 rfl ?_
    refine g_aload_n dX4_saveCopy_65 rfl ?_
    refine g_getI dX4_saveCopy_66 fd_X4_53 hk.1 rfl ?_
    refine gw_cSi (As := [g_I (D5 k 10)]) (rest := [g_I (D5 k 11), g_R k]) dX4_saveCopy_69 ms_X4_134 rfl (Nat.le_of_ble_eq_true rfl) (by decide) rfl hF ?_
    intro x6 D6 hx6 hF
    have hF := hF hx6
    refine g_max dX4_saveCopy_72 mw_X4_139 (by decide) (Nat.le_refl _) (Nat.le_refl _) (Nat.le_of_ble_eq_true rfl) ?_
    let D7 : g_D := g_up D6 k 11 (max (D5 k 11) x6)
    have hF := hF D7 rfl
    refine g_put dX4_saveCopy_75 fd_X4_56 (g_ftyI (C := RX4) (T := TX4) (N := 12) rfl rfl (by decide +kernel)) hk.1 rfl ?_
    refine g_aload_n dX4_saveCopy_78 rfl ?_
    refine g_iconst dX4_saveCopy_79 ⟨by decide, by decide⟩ ?_
    refine g_iload_n dX4_saveCopy_80 rfl ?_
    refine g_iload dX4_saveCopy_81 rfl ?_
    refine g_iconst dX4_saveCopy_83 ⟨by decide, by decide⟩ ?_
    refine gw_cVv (b := k) (As := [g_I 1, g_I v2, g_I x1, g_I 4]) (rest := []) dX4_saveCopy_84 mv_X4_103 hk.1 rfl (Nat.le_of_ble_eq_true rfl) (by decide) rfl hF ?_
    intro D8 hF
    exact gw_vret dX4_saveCopy_87 rfl hF
  · have hF := hF.2 q
    exact gw_vret dX4_saveCopy_19 rfl hF
theorem dX4_breakRing_0 : decode cX4_breakRing 0 = .ok (.aload_n 1, 1) := by decide +kernel
theorem dX4_breakRing_1 : decode cX4_breakRing 1 = .ok (.getfield 110, 3) := by decide +kernel
theorem dX4_breakRing_4 : decode cX4_breakRing 4 = .ok (.aload_n 1, 1) := by decide +kernel
theorem dX4_breakRing_5 : decode cX4_breakRing 5 = .ok (.getfield 90, 3) := by decide +kernel
theorem dX4_breakRing_8 : decode cX4_breakRing 8 = .ok (.aload_n 0, 1) := by decide +kernel
theorem dX4_breakRing_9 : decode cX4_breakRing 9 = .ok (.aload_n 1, 1) := by decide +kernel
theorem dX4_breakRing_10 : decode cX4_breakRing 10 = .ok (.invokevirtual 84, 3) := by decide +kernel
theorem dX4_breakRing_13 : decode cX4_breakRing 13 = .ok (.invokevirtual 114, 3) := by decide +kernel
theorem dX4_breakRing_16 : decode cX4_breakRing 16 = .ok (.istore 4, 2) := by decide +kernel
theorem dX4_breakRing_18 : decode cX4_breakRing 18 = .ok (.iconst (-1), 1) := by decide +kernel
theorem dX4_breakRing_19 : decode cX4_breakRing 19 = .ok (.istore 5, 2) := by decide +kernel
theorem dX4_breakRing_21 : decode cX4_breakRing 21 = .ok (.iconst (-1), 1) := by decide +kernel
theorem dX4_breakRing_22 : decode cX4_breakRing 22 = .ok (.istore 6, 2) := by decide +kernel
theorem dX4_breakRing_24 : decode cX4_breakRing 24 = .ok (.iconst 0, 1) := by decide +kernel
theorem dX4_breakRing_25 : decode cX4_breakRing 25 = .ok (.istore 7, 2) := by decide +kernel
theorem dX4_breakRing_27 : decode cX4_breakRing 27 = .ok (.iload 7, 2) := by decide +kernel
theorem dX4_breakRing_29 : decode cX4_breakRing 29 = .ok (.aload_n 1, 1) := by decide +kernel
theorem dX4_breakRing_30 : decode cX4_breakRing 30 = .ok (.getfield 87, 3) := by decide +kernel
theorem dX4_breakRing_33 : decode cX4_breakRing 33 = .ok (.if_icmp .ge 100, 3) := by decide +kernel
theorem dX4_breakRing_36 : decode cX4_breakRing 36 = .ok (.iload 4, 2) := by decide +kernel
theorem dX4_breakRing_38 : decode cX4_breakRing 38 = .ok (.iload 7, 2) := by decide +kernel
theorem dX4_breakRing_40 : decode cX4_breakRing 40 = .ok (.invokestatic 37, 3) := by decide +kernel
theorem dX4_breakRing_43 : decode cX4_breakRing 43 = .ok (.ifCond .ne 6, 3) := by decide +kernel
theorem dX4_breakRing_46 : decode cX4_breakRing 46 = .ok (.goto 81, 3) := by decide +kernel
theorem dX4_breakRing_49 : decode cX4_breakRing 49 = .ok (.iload 6, 2) := by decide +kernel
theorem dX4_breakRing_51 : decode cX4_breakRing 51 = .ok (.iconst (-1), 1) := by decide +kernel
theorem dX4_breakRing_52 : decode cX4_breakRing 52 = .ok (.if_icmp .eq 20, 3) := by decide +kernel
theorem dX4_breakRing_55 : decode cX4_breakRing 55 = .ok (.aload_n 1, 1) := by decide +kernel
theorem dX4_breakRing_56 : decode cX4_breakRing 56 = .ok (.getfield 96, 3) := by decide +kernel
theorem dX4_breakRing_59 : decode cX4_breakRing 59 = .ok (.iload 7, 2) := by decide +kernel
theorem dX4_breakRing_61 : decode cX4_breakRing 61 = .ok (.iaload, 1) := by decide +kernel
theorem dX4_breakRing_62 : decode cX4_breakRing 62 = .ok (.aload_n 1, 1) := by decide +kernel
theorem dX4_breakRing_63 : decode cX4_breakRing 63 = .ok (.getfield 96, 3) := by decide +kernel
theorem dX4_breakRing_66 : decode cX4_breakRing 66 = .ok (.iload 6, 2) := by decide +kernel
theorem dX4_breakRing_68 : decode cX4_breakRing 68 = .ok (.iaload, 1) := by decide +kernel
theorem dX4_breakRing_69 : decode cX4_breakRing 69 = .ok (.if_icmp .ge 7, 3) := by decide +kernel
theorem dX4_breakRing_72 : decode cX4_breakRing 72 = .ok (.iload 7, 2) := by decide +kernel
theorem dX4_breakRing_74 : decode cX4_breakRing 74 = .ok (.istore 6, 2) := by decide +kernel
theorem dX4_breakRing_76 : decode cX4_breakRing 76 = .ok (.aload_n 0, 1) := by decide +kernel
theorem dX4_breakRing_77 : decode cX4_breakRing 77 = .ok (.aload_n 1, 1) := by decide +kernel
theorem dX4_breakRing_78 : decode cX4_breakRing 78 = .ok (.getfield 96, 3) := by decide +kernel
theorem dX4_breakRing_81 : decode cX4_breakRing 81 = .ok (.iload 7, 2) := by decide +kernel
theorem dX4_breakRing_83 : decode cX4_breakRing 83 = .ok (.iaload, 1) := by decide +kernel
theorem dX4_breakRing_84 : decode cX4_breakRing 84 = .ok (.iload_n 3, 1) := by decide +kernel
theorem dX4_breakRing_85 : decode cX4_breakRing 85 = .ok (.invokevirtual 120, 3) := by decide +kernel
theorem dX4_breakRing_88 : decode cX4_breakRing 88 = .ok (.iconst (-1), 1) := by decide +kernel
theorem dX4_breakRing_89 : decode cX4_breakRing 89 = .ok (.if_icmp .eq 7, 3) := by decide +kernel
theorem dX4_breakRing_92 : decode cX4_breakRing 92 = .ok (.iconst 1, 1) := by decide +kernel
theorem dX4_breakRing_93 : decode cX4_breakRing 93 = .ok (.goto 4, 3) := by decide +kernel
theorem dX4_breakRing_96 : decode cX4_breakRing 96 = .ok (.iconst 0, 1) := by decide +kernel
theorem dX4_breakRing_97 : decode cX4_breakRing 97 = .ok (.istore 8, 2) := by decide +kernel
theorem dX4_breakRing_99 : decode cX4_breakRing 99 = .ok (.iload 8, 2) := by decide +kernel
theorem dX4_breakRing_101 : decode cX4_breakRing 101 = .ok (.ifCond .eq 26, 3) := by decide +kernel
theorem dX4_breakRing_104 : decode cX4_breakRing 104 = .ok (.iload 5, 2) := by decide +kernel
theorem dX4_breakRing_106 : decode cX4_breakRing 106 = .ok (.iconst (-1), 1) := by decide +kernel
theorem dX4_breakRing_107 : decode cX4_breakRing 107 = .ok (.if_icmp .eq 16, 3) := by decide +kernel
theorem dX4_breakRing_110 : decode cX4_breakRing 110 = .ok (.aload_n 0, 1) := by decide +kernel
theorem dX4_breakRing_111 : decode cX4_breakRing 111 = .ok (.aload_n 1, 1) := by decide +kernel
theorem dX4_breakRing_112 : decode cX4_breakRing 112 = .ok (.iload_n 2, 1) := by decide +kernel
theorem dX4_breakRing_113 : decode cX4_breakRing 113 = .ok (.iload 7, 2) := by decide +kernel
theorem dX4_breakRing_115 : decode cX4_breakRing 115 = .ok (.iload 5, 2) := by decide +kernel
theorem dX4_breakRing_117 : decode cX4_breakRing 117 = .ok (.invokevirtual 123, 3) := by decide +kernel
theorem dX4_breakRing_120 : decode cX4_breakRing 120 = .ok (.ifCond .eq 7, 3) := by decide +kernel
theorem dX4_breakRing_123 : decode cX4_breakRing 123 = .ok (.iload 7, 2) := by decide +kernel
theorem dX4_breakRing_125 : decode cX4_breakRing 125 = .ok (.istore 5, 2) := by decide +kernel
theorem dX4_breakRing_127 : decode cX4_breakRing 127 = .ok (.iinc 7 1, 3) := by decide +kernel
theorem dX4_breakRing_130 : decode cX4_breakRing 130 = .ok (.goto (-103), 3) := by decide +kernel
theorem dX4_breakRing_133 : decode cX4_breakRing 133 = .ok (.iload 5, 2) := by decide +kernel
theorem dX4_breakRing_135 : decode cX4_breakRing 135 = .ok (.iconst (-1), 1) := by decide +kernel
theorem dX4_breakRing_136 : decode cX4_breakRing 136 = .ok (.if_icmp .eq 14, 3) := by decide +kernel
theorem dX4_breakRing_139 : decode cX4_breakRing 139 = .ok (.aload_n 0, 1) := by decide +kernel
theorem dX4_breakRing_140 : decode cX4_breakRing 140 = .ok (.aload_n 1, 1) := by decide +kernel
theorem dX4_breakRing_141 : decode cX4_breakRing 141 = .ok (.iload 5, 2) := by decide +kernel
theorem dX4_breakRing_143 : decode cX4_breakRing 143 = .ok (.iload_n 3, 1) := by decide +kernel
theorem dX4_breakRing_144 : decode cX4_breakRing 144 = .ok (.invokevirtual 127, 3) := by decide +kernel
theorem dX4_breakRing_147 : decode cX4_breakRing 147 = .ok (.goto 22, 3) := by decide +kernel
theorem dX4_breakRing_150 : decode cX4_breakRing 150 = .ok (.iload 6, 2) := by decide +kernel
theorem dX4_breakRing_152 : decode cX4_breakRing 152 = .ok (.iconst (-1), 1) := by decide +kernel
theorem dX4_breakRing_153 : decode cX4_breakRing 153 = .ok (.if_icmp .eq 16, 3) := by decide +kernel
theorem dX4_breakRing_156 : decode cX4_breakRing 156 = .ok (.aload_n 0, 1) := by decide +kernel
theorem dX4_breakRing_157 : decode cX4_breakRing 157 = .ok (.dup, 1) := by decide +kernel
theorem dX4_breakRing_158 : decode cX4_breakRing 158 = .ok (.getfield 41, 3) := by decide +kernel
theorem dX4_breakRing_161 : decode cX4_breakRing 161 = .ok (.iconst 1, 1) := by decide +kernel
theorem dX4_breakRing_162 : decode cX4_breakRing 162 = .ok (.iload 6, 2) := by decide +kernel
theorem dX4_breakRing_164 : decode cX4_breakRing 164 = .ok (.ishl, 1) := by decide +kernel
theorem dX4_breakRing_165 : decode cX4_breakRing 165 = .ok (.ior, 1) := by decide +kernel
theorem dX4_breakRing_166 : decode cX4_breakRing 166 = .ok (.putfield 41, 3) := by decide +kernel
theorem dX4_breakRing_169 : decode cX4_breakRing 169 = .ok (.return_, 1) := by decide +kernel
abbrev k_X4_breakRing (E : g_E) (l : Launch) (D : g_D) (k : Nat) (r1 : Nat) (v2 : Int) (v3 : Int) (K : g_D → Prop) : Prop := g_Kv E l m_X4_breakRing 3 [g_R k, g_R r1, g_I v2, g_I v3] g_SH D K
abbrev n_X4_breakRing (E : g_E) (l : Launch) (D : g_D) (pc : Nat) (L : List (Option g_V)) (K : g_D → Prop) : Prop := g_N E l m_X4_breakRing 3 pc L [] g_SH D (g_Rv g_SH K)
theorem s_X4_breakRing {E : g_E} {l : Launch} {D : g_D} {K : g_D → Prop} {k : Nat} {r1 : Nat} {v2 : Int} {v3 : Int} (hk : is_Plan g_SH k) (hr1 : is_Script g_SH r1) (hF : g_okD D → g_r v2 → g_r v3 → k_X4_readers E l D k r1 (fun x1 D1 => g_r x1 → k_X6_members E l D1 (r1 + 6) (r1 + 5) x1 (fun x2 D2 => g_r x2 → n_X4_breakRing E l D2 27 [some (g_R k), some (g_R r1), some (g_I v2), some (g_I v3), some (g_I x2), some (g_I (-1)), some (g_I (-1)), some (g_I 0), none] K))) : k_X4_breakRing E l D k r1 v2 v3 K := by
  refine g_enter (by decide) (Nat.le_of_ble_eq_true rfl) ?_
  show g_N E l m_X4_breakRing 3 0 [some (g_R k), some (g_R r1), some (g_I v2), some (g_I v3), none, none, none, none, none] [] g_SH D (g_Rv g_SH K)
  refine g_use (fun ok => ?_)
  have hF := hF ok.2.1 (ok.loc (i := 2) rfl) (ok.loc (i := 3) rfl)
  refine g_aload_n dX4_breakRing_0 rfl ?_
  refine g_getR dX4_breakRing_1 fd_X4_110 hr1.1 rfl ?_
  refine g_aload_n dX4_breakRing_4 rfl ?_
  refine g_getR dX4_breakRing_5 fd_X4_90 hr1.1 rfl ?_
  refine g_aload_n dX4_breakRing_8 rfl ?_
  refine g_aload_n dX4_breakRing_9 rfl ?_
  refine gw_cVi (b := k) (As := [g_R r1]) (rest := [g_R (r1 + 5), g_R (r1 + 6)]) dX4_breakRing_10 mv_X4_84 hk.1 rfl (Nat.le_of_ble_eq_true rfl) (by decide) rfl hF ?_
  intro x1 D1 hx1 hF
  have hF := hF hx1
  refine gw_cVi (b := (r1 + 6)) (As := [g_R (r1 + 5), g_I x1]) (rest := []) dX4_breakRing_13 mv_X4_114 hr1.2.2.2.2.2.2.1 rfl (Nat.le_of_ble_eq_true rfl) (by decide) rfl hF ?_
  intro x2 D2 hx2 hF
  have hF := hF hx2
  refine gw_istore (L' := [some (g_R k), some (g_R r1), some (g_I v2), some (g_I v3), some (g_I x2), none, none, none, none]) dX4_breakRing_16 (by decide) rfl ?_
  refine g_iconst dX4_breakRing_18 ⟨by decide, by decide⟩ ?_
  refine gw_istore (L' := [some (g_R k), some (g_R r1), some (g_I v2), some (g_I v3), some (g_I x2), some (g_I (-1)), none, none, none]) dX4_breakRing_19 (by decide) rfl ?_
  refine g_iconst dX4_breakRing_21 ⟨by decide, by decide⟩ ?_
  refine gw_istore (L' := [some (g_R k), some (g_R r1), some (g_I v2), some (g_I v3), some (g_I x2), some (g_I (-1)), some (g_I (-1)), none, none]) dX4_breakRing_22 (by decide) rfl ?_
  refine g_iconst dX4_breakRing_24 ⟨by decide, by decide⟩ ?_
  refine gw_istore (L' := [some (g_R k), some (g_R r1), some (g_I v2), some (g_I v3), some (g_I x2), some (g_I (-1)), some (g_I (-1)), some (g_I 0), none]) dX4_breakRing_25 (by decide) rfl ?_
  exact hF
theorem s_X4_breakRing_27 {E : g_E} {l : Launch} {D : g_D} {K : g_D → Prop} {k : Nat} {r1 : Nat} {v2 : Int} {v3 : Int} {v4 : Int} {v5 : Int} {v6 : Int} {v7 : Int} (hk : is_Plan g_SH k) (hr1 : is_Script g_SH r1) (hF : g_okD D → g_r v2 → g_r v3 → g_r v4 → g_r v5 → g_r v6 → g_r v7 → ((D r1 8) ≤ v7 → (v5 = (-1) → (v6 = (-1) → K D) ∧ (¬ v6 = (-1) → ∀ D1, D1 = g_up D k 9 (g_or (D k 9) (g_shl 1 v6)) → (K D1))) ∧ (¬ v5 = (-1) → k_X4_saveCopy E l D k r1 v5 v3 (fun D2 => K D2))) ∧ (¬ (D r1 8) ≤ v7 → k_X11_hasBit E l g_SH D v4 v7 (fun x3 D3 => g_r x3 → (¬ x3 = 0 → (v6 = (-1) → (0 ≤ v7 ∧ v7 < 20) ∧ (k_X4_freePlace E l D3 k (D3 (r1 + 4) v7.toNat) v3 (fun x4 D4 => g_r x4 → (x4 = (-1) → (g_r (v7 + 1)) ∧ (n_X4_breakRing E l D4 27 [some (g_R k), some (g_R r1), some (g_I v2), some (g_I v3), some (g_I v4), some (g_I v5), some (g_I v7), some (g_I (v7 + 1)), none] K)) ∧ (¬ x4 = (-1) → (v5 = (-1) → (g_r (v7 + 1)) ∧ (n_X4_breakRing E l D4 27 [some (g_R k), some (g_R r1), some (g_I v2), some (g_I v3), some (g_I v4), some (g_I v7), some (g_I v7), some (g_I (v7 + 1)), none] K)) ∧ (¬ v5 = (-1) → k_X4_isPreferred E l D4 k r1 v2 v7 v5 (fun x5 D5 => g_r x5 → (x5 = 0 → (g_r (v7 + 1)) ∧ (n_X4_breakRing E l D5 27 [some (g_R k), some (g_R r1), some (g_I v2), some (g_I v3), some (g_I v4), some (g_I v5), some (g_I v7), some (g_I (v7 + 1)), none] K)) ∧ (¬ x5 = 0 → (g_r (v7 + 1)) ∧ (n_X4_breakRing E l D5 27 [some (g_R k), some (g_R r1), some (g_I v2), some (g_I v3), some (g_I v4), some (g_I v7), some (g_I v7), some (g_I (v7 + 1)), none] K)))))))) ∧ (¬ v6 = (-1) → (0 ≤ v7 ∧ v7 < 20) ∧ ((0 ≤ v6 ∧ v6 < 20) ∧ (((D3 (r1 + 4) v6.toNat) ≤ (D3 (r1 + 4) v7.toNat) → (0 ≤ v7 ∧ v7 < 20) ∧ (k_X4_freePlace E l D3 k (D3 (r1 + 4) v7.toNat) v3 (fun x6 D6 => g_r x6 → (x6 = (-1) → (g_r (v7 + 1)) ∧ (n_X4_breakRing E l D6 27 [some (g_R k), some (g_R r1), some (g_I v2), some (g_I v3), some (g_I v4), some (g_I v5), some (g_I v6), some (g_I (v7 + 1)), none] K)) ∧ (¬ x6 = (-1) → (v5 = (-1) → (g_r (v7 + 1)) ∧ (n_X4_breakRing E l D6 27 [some (g_R k), some (g_R r1), some (g_I v2), some (g_I v3), some (g_I v4), some (g_I v7), some (g_I v6), some (g_I (v7 + 1)), none] K)) ∧ (¬ v5 = (-1) → k_X4_isPreferred E l D6 k r1 v2 v7 v5 (fun x7 D7 => g_r x7 → (x7 = 0 → (g_r (v7 + 1)) ∧ (n_X4_breakRing E l D7 27 [some (g_R k), some (g_R r1), some (g_I v2), some (g_I v3), some (g_I v4), some (g_I v5), some (g_I v6), some (g_I (v7 + 1)), none] K)) ∧ (¬ x7 = 0 → (g_r (v7 + 1)) ∧ (n_X4_breakRing E l D7 27 [some (g_R k), some (g_R r1), some (g_I v2), some (g_I v3), some (g_I v4), some (g_I v7), some (g_I v6), some (g_I (v7 + 1)), none] K)))))))) ∧ (¬ (D3 (r1 + 4) v6.toNat) ≤ (D3 (r1 + 4) v7.toNat) → (0 ≤ v7 ∧ v7 < 20) ∧ (k_X4_freePlace E l D3 k (D3 (r1 + 4) v7.toNat) v3 (fun x8 D8 => g_r x8 → (x8 = (-1) → (g_r (v7 + 1)) ∧ (n_X4_breakRing E l D8 27 [some (g_R k), some (g_R r1), some (g_I v2), some (g_I v3), some (g_I v4), some (g_I v5), some (g_I v7), some (g_I (v7 + 1)), none] K)) ∧ (¬ x8 = (-1) → (v5 = (-1) → (g_r (v7 + 1)) ∧ (n_X4_breakRing E l D8 27 [some (g_R k), some (g_R r1), some (g_I v2), some (g_I v3), some (g_I v4), some (g_I v7), some (g_I v7), some (g_I (v7 + 1)), none] K)) ∧ (¬ v5 = (-1) → k_X4_isPreferred E l D8 k r1 v2 v7 v5 (fun x9 D9 => g_r x9 → (x9 = 0 → (g_r (v7 + 1)) ∧ (n_X4_breakRing E l D9 27 [some (g_R k), some (g_R r1), some (g_I v2), some (g_I v3), some (g_I v4), some (g_I v5), some (g_I v7), some (g_I (v7 + 1)), none] K)) ∧ (¬ x9 = 0 → (g_r (v7 + 1)) ∧ (n_X4_breakRing E l D9 27 [some (g_R k), some (g_R r1), some (g_I v2), some (g_I v3), some (g_I v4), some (g_I v7), some (g_I v7), some (g_I (v7 + 1)), none] K)))))))))))) ∧ (x3 = 0 → (g_r (v7 + 1)) ∧ (n_X4_breakRing E l D3 27 [some (g_R k), some (g_R r1), some (g_I v2), some (g_I v3), some (g_I v4), some (g_I v5), some (g_I v6), some (g_I (v7 + 1)), none] K))))) : n_X4_breakRing E l D 27 [some (g_R k), some (g_R r1), some (g_I v2), some (g_I v3), some (g_I v4), some (g_I v5), some (g_I v6), some (g_I v7), none] K := by
  refine g_use (fun ok => ?_)
  have hF := hF ok.2.1 (ok.loc (i := 2) rfl) (ok.loc (i := 3) rfl) (ok.loc (i := 4) rfl) (ok.loc (i := 5) rfl) (ok.loc (i := 6) rfl) (ok.loc (i := 7) rfl)
  refine g_iload dX4_breakRing_27 rfl ?_
  refine g_aload_n dX4_breakRing_29 rfl ?_
  refine g_getI dX4_breakRing_30 fd_X4_87 hr1.1 rfl ?_
  refine g_cge dX4_breakRing_33 rfl (fun q => ?_) (fun q => ?_)
  · have hF := hF.1 q
    refine g_iload dX4_breakRing_133 rfl ?_
    refine g_iconst dX4_breakRing_135 ⟨by decide, by decide⟩ ?_
    refine g_ceq dX4_breakRing_136 rfl (fun q => ?_) (fun q => ?_)
    · have hF := hF.1 q
      refine g_iload dX4_breakRing_150 rfl ?_
      refine g_iconst dX4_breakRing_152 ⟨by decide, by decide⟩ ?_
      refine g_ceq dX4_breakRing_153 rfl (fun q => ?_) (fun q => ?_)
      · have hF := hF.1 q
        exact gw_vret dX4_breakRing_169 rfl hF
      · have hF := hF.2 q
        refine g_aload_n dX4_breakRing_156 rfl ?_
        refine g_dup dX4_breakRing_157 rfl ?_
        refine g_getI dX4_breakRing_158 fd_X4_41 hk.1 rfl ?_
        refine g_iconst dX4_breakRing_161 ⟨by decide, by decide⟩ ?_
        refine g_iload dX4_breakRing_162 rfl ?_
        refine g_ishl dX4_breakRing_164 ?_
        refine g_ior dX4_breakRing_165 ?_
        let D1 : g_D := g_up D k 9 (g_or (D k 9) (g_shl 1 v6))
        have hF := hF D1 rfl
        refine g_put dX4_breakRing_166 fd_X4_41 (g_ftyI (C := RX4) (T := TX4) (N := 12) rfl rfl (by decide +kernel)) hk.1 rfl ?_
        exact gw_vret dX4_breakRing_169 rfl hF
    · have hF := hF.2 q
      refine g_aload_n dX4_breakRing_139 rfl ?_
      refine g_aload_n dX4_breakRing_140 rfl ?_
      refine g_iload dX4_breakRing_141 rfl ?_
      refine g_iload_n dX4_breakRing_143 rfl ?_
      refine gw_cVv (b := k) (As := [g_R r1, g_I v5, g_I v3]) (rest := []) dX4_breakRing_144 mv_X4_127 hk.1 rfl (Nat.le_of_ble_eq_true rfl) (by decide) rfl hF ?_
      intro D2 hF
      refine g_goto dX4_breakRing_147 rfl ?_
      exact gw_vret dX4_breakRing_169 rfl hF
  · have hF := hF.2 q
    refine g_iload dX4_breakRing_36 rfl ?_
    refine g_iload dX4_breakRing_38 rfl ?_
    refine gw_cNi (As := [g_I v4, g_I v7]) (rest := []) dX4_breakRing_40 mn_X4_37 rfl (Nat.le_of_ble_eq_true rfl) (by decide) rfl hF ?_
    intro x3 D3 hx3 hF
    have hF := hF hx3
    refine g_ifne dX4_breakRing_43 rfl (fun q => ?_) (fun q => ?_)
    · have hF := hF.1 q
      refine g_iload dX4_breakRing_49 rfl ?_
      refine g_iconst dX4_breakRing_51 ⟨by decide, by decide⟩ ?_
      refine g_ceq dX4_breakRing_52 rfl (fun q => ?_) (fun q => ?_)
      · have hF := hF.1 q
        refine g_iload dX4_breakRing_72 rfl ?_
        refine gw_istore (L' := [some (g_R k), some (g_R r1), some (g_I v2), some (g_I v3), some (g_I v4), some (g_I v5), some (g_I v7), some (g_I v7), none]) dX4_breakRing_74 (by decide) rfl ?_
        refine g_aload_n dX4_breakRing_76 rfl ?_
        refine g_aload_n dX4_breakRing_77 rfl ?_
        refine g_getR dX4_breakRing_78 fd_X4_96 hr1.1 rfl ?_
        refine g_iload dX4_breakRing_81 rfl ?_
        obtain ⟨hc, hF⟩ := hF
        refine g_iald dX4_breakRing_83 hr1.2.2.2.2.1 hc.1 hc.2 ?_
        refine g_iload_n dX4_breakRing_84 rfl ?_
        refine gw_cVi (b := k) (As := [g_I (D3 (r1 + 4) v7.toNat), g_I v3]) (rest := []) dX4_breakRing_85 mv_X4_120 hk.1 rfl (Nat.le_of_ble_eq_true rfl) (by decide) rfl hF ?_
        intro x4 D4 hx4 hF
        have hF := hF hx4
        refine g_iconst dX4_breakRing_88 ⟨by decide, by decide⟩ ?_
        refine g_ceq dX4_breakRing_89 rfl (fun q => ?_) (fun q => ?_)
        · have hF := hF.1 q
          refine g_iconst dX4_breakRing_96 ⟨by decide, by decide⟩ ?_
          refine gw_istore (L' := [some (g_R k), some (g_R r1), some (g_I v2), some (g_I v3), some (g_I v4), some (g_I v5), some (g_I v7), some (g_I v7), some (g_I 0)]) dX4_breakRing_97 (by decide) rfl ?_
          refine g_iload dX4_breakRing_99 rfl ?_
          refine g_ifeq dX4_breakRing_101 rfl (fun _ => ?_) (fun q => absurd q (by decide))
          obtain ⟨hc, hF⟩ := hF
          refine gw_iinc (L' := [some (g_R k), some (g_R r1), some (g_I v2), some (g_I v3), some (g_I v4), some (g_I v5), some (g_I v7), some (g_I (v7 + 1)), some (g_I 0)]) dX4_breakRing_127 rfl hc (by decide) rfl ?_
          refine g_goto dX4_breakRing_130 rfl ?_
          exact g_forget (L' := [some (g_R k), some (g_R r1), some (g_I v2), some (g_I v3), some (g_I v4), some (g_I v5), some (g_I v7), some (g_I (v7 + 1)), none]) ⟨rfl, ⟨rfl, ⟨rfl, ⟨rfl, ⟨rfl, ⟨rfl, ⟨rfl, ⟨rfl, trivial⟩⟩⟩⟩⟩⟩⟩⟩ hF
        · have hF := hF.2 q
          refine g_iconst dX4_breakRing_92 ⟨by decide, by decide⟩ ?_
          refine g_goto dX4_breakRing_93 rfl ?_
          refine gw_istore (L' := [some (g_R k), some (g_R r1), some (g_I v2), some (g_I v3), some (g_I v4), some (g_I v5), some (g_I v7), some (g_I v7), some (g_I 1)]) dX4_breakRing_97 (by decide) rfl ?_
          refine g_iload dX4_breakRing_99 rfl ?_
          refine g_ifeq dX4_breakRing_101 rfl (fun q => absurd q (by decide)) (fun _ => ?_)
          refine g_iload dX4_breakRing_104 rfl ?_
          refine g_iconst dX4_breakRing_106 ⟨by decide, by decide⟩ ?_
          refine g_ceq dX4_breakRing_107 rfl (fun q => ?_) (fun q => ?_)
          · have hF := hF.1 q
            refine g_iload dX4_breakRing_123 rfl ?_
            refine gw_istore (L' := [some (g_R k), some (g_R r1), some (g_I v2), some (g_I v3), some (g_I v4), some (g_I v7), some (g_I v7), some (g_I v7), some (g_I 1)]) dX4_breakRing_125 (by decide) rfl ?_
            obtain ⟨hc, hF⟩ := hF
            refine gw_iinc (L' := [some (g_R k), some (g_R r1), some (g_I v2), some (g_I v3), some (g_I v4), some (g_I v7), some (g_I v7), some (g_I (v7 + 1)), some (g_I 1)]) dX4_breakRing_127 rfl hc (by decide) rfl ?_
            refine g_goto dX4_breakRing_130 rfl ?_
            exact g_forget (L' := [some (g_R k), some (g_R r1), some (g_I v2), some (g_I v3), some (g_I v4), some (g_I v7), some (g_I v7), some (g_I (v7 + 1)), none]) ⟨rfl, ⟨rfl, ⟨rfl, ⟨rfl, ⟨rfl, ⟨rfl, ⟨rfl, ⟨rfl, trivial⟩⟩⟩⟩⟩⟩⟩⟩ hF
          · have hF := hF.2 q
            refine g_aload_n dX4_breakRing_110 rfl ?_
            refine g_aload_n dX4_breakRing_111 rfl ?_
            refine g_iload_n dX4_breakRing_112 rfl ?_
            refine g_iload dX4_breakRing_113 rfl ?_
            refine g_iload dX4_breakRing_115 rfl ?_
            refine gw_cVi (b := k) (As := [g_R r1, g_I v2, g_I v7, g_I v5]) (rest := []) dX4_breakRing_117 mv_X4_123 hk.1 rfl (Nat.le_of_ble_eq_true rfl) (by decide) rfl hF ?_
            intro x5 D5 hx5 hF
            have hF := hF hx5
            refine g_ifeq dX4_breakRing_120 rfl (fun q => ?_) (fun q => ?_)
            · have hF := hF.1 q
              obtain ⟨hc, hF⟩ := hF
              refine gw_iinc (L' := [some (g_R k), some (g_R r1), some (g_I v2), some (g_I v3), some (g_I v4), some (g_I v5), some (g_I v7), some (g_I (v7 + 1)), some (g_I 1)]) dX4_breakRing_127 rfl hc (by decide) rfl ?_
              refine g_goto dX4_breakRing_130 rfl ?_
              exact g_forget (L' := [some (g_R k), some (g_R r1), some (g_I v2), some (g_I v3), some (g_I v4), some (g_I v5), some (g_I v7), some (g_I (v7 + 1)), none]) ⟨rfl, ⟨rfl, ⟨rfl, ⟨rfl, ⟨rfl, ⟨rfl, ⟨rfl, ⟨rfl, trivial⟩⟩⟩⟩⟩⟩⟩⟩ hF
            · have hF := hF.2 q
              refine g_iload dX4_breakRing_123 rfl ?_
              refine gw_istore (L' := [some (g_R k), some (g_R r1), some (g_I v2), some (g_I v3), some (g_I v4), some (g_I v7), some (g_I v7), some (g_I v7), some (g_I 1)]) dX4_breakRing_125 (by decide) rfl ?_
              obtain ⟨hc, hF⟩ := hF
              refine gw_iinc (L' := [some (g_R k), some (g_R r1), some (g_I v2), some (g_I v3), some (g_I v4), some (g_I v7), some (g_I v7), some (g_I (v7 + 1)), some (g_I 1)]) dX4_breakRing_127 rfl hc (by decide) rfl ?_
              refine g_goto dX4_breakRing_130 rfl ?_
              exact g_forget (L' := [some (g_R k), some (g_R r1), some (g_I v2), some (g_I v3), some (g_I v4), some (g_I v7), some (g_I v7), some (g_I (v7 + 1)), none]) ⟨rfl, ⟨rfl, ⟨rfl, ⟨rfl, ⟨rfl, ⟨rfl, ⟨rfl, ⟨rfl, trivial⟩⟩⟩⟩⟩⟩⟩⟩ hF
      · have hF := hF.2 q
        refine g_aload_n dX4_breakRing_55 rfl ?_
        refine g_getR dX4_breakRing_56 fd_X4_96 hr1.1 rfl ?_
        refine g_iload dX4_breakRing_59 rfl ?_
        obtain ⟨hc, hF⟩ := hF
        refine g_iald dX4_breakRing_61 hr1.2.2.2.2.1 hc.1 hc.2 ?_
        refine g_aload_n dX4_breakRing_62 rfl ?_
        refine g_getR dX4_breakRing_63 fd_X4_96 hr1.1 rfl ?_
        refine g_iload dX4_breakRing_66 rfl ?_
        obtain ⟨hc, hF⟩ := hF
        refine g_iald dX4_breakRing_68 hr1.2.2.2.2.1 hc.1 hc.2 ?_
        refine g_cge dX4_breakRing_69 rfl (fun q => ?_) (fun q => ?_)
        · have hF := hF.1 q
          refine g_aload_n dX4_breakRing_76 rfl ?_
          refine g_aload_n dX4_breakRing_77 rfl ?_
          refine g_getR dX4_breakRing_78 fd_X4_96 hr1.1 rfl ?_
          refine g_iload dX4_breakRing_81 rfl ?_
          obtain ⟨hc, hF⟩ := hF
          refine g_iald dX4_breakRing_83 hr1.2.2.2.2.1 hc.1 hc.2 ?_
          refine g_iload_n dX4_breakRing_84 rfl ?_
          refine gw_cVi (b := k) (As := [g_I (D3 (r1 + 4) v7.toNat), g_I v3]) (rest := []) dX4_breakRing_85 mv_X4_120 hk.1 rfl (Nat.le_of_ble_eq_true rfl) (by decide) rfl hF ?_
          intro x6 D6 hx6 hF
          have hF := hF hx6
          refine g_iconst dX4_breakRing_88 ⟨by decide, by decide⟩ ?_
          refine g_ceq dX4_breakRing_89 rfl (fun q => ?_) (fun q => ?_)
          · have hF := hF.1 q
            refine g_iconst dX4_breakRing_96 ⟨by decide, by decide⟩ ?_
            refine gw_istore (L' := [some (g_R k), some (g_R r1), some (g_I v2), some (g_I v3), some (g_I v4), some (g_I v5), some (g_I v6), some (g_I v7), some (g_I 0)]) dX4_breakRing_97 (by decide) rfl ?_
            refine g_iload dX4_breakRing_99 rfl ?_
            refine g_ifeq dX4_breakRing_101 rfl (fun _ => ?_) (fun q => absurd q (by decide))
            obtain ⟨hc, hF⟩ := hF
            refine gw_iinc (L' := [some (g_R k), some (g_R r1), some (g_I v2), some (g_I v3), some (g_I v4), some (g_I v5), some (g_I v6), some (g_I (v7 + 1)), some (g_I 0)]) dX4_breakRing_127 rfl hc (by decide) rfl ?_
            refine g_goto dX4_breakRing_130 rfl ?_
            exact g_forget (L' := [some (g_R k), some (g_R r1), some (g_I v2), some (g_I v3), some (g_I v4), some (g_I v5), some (g_I v6), some (g_I (v7 + 1)), none]) ⟨rfl, ⟨rfl, ⟨rfl, ⟨rfl, ⟨rfl, ⟨rfl, ⟨rfl, ⟨rfl, trivial⟩⟩⟩⟩⟩⟩⟩⟩ hF
          · have hF := hF.2 q
            refine g_iconst dX4_breakRing_92 ⟨by decide, by decide⟩ ?_
            refine g_goto dX4_breakRing_93 rfl ?_
            refine gw_istore (L' := [some (g_R k), some (g_R r1), some (g_I v2), some (g_I v3), some (g_I v4), some (g_I v5), some (g_I v6), some (g_I v7), some (g_I 1)]) dX4_breakRing_97 (by decide) rfl ?_
            refine g_iload dX4_breakRing_99 rfl ?_
            refine g_ifeq dX4_breakRing_101 rfl (fun q => absurd q (by decide)) (fun _ => ?_)
            refine g_iload dX4_breakRing_104 rfl ?_
            refine g_iconst dX4_breakRing_106 ⟨by decide, by decide⟩ ?_
            refine g_ceq dX4_breakRing_107 rfl (fun q => ?_) (fun q => ?_)
            · have hF := hF.1 q
              refine g_iload dX4_breakRing_123 rfl ?_
              refine gw_istore (L' := [some (g_R k), some (g_R r1), some (g_I v2), some (g_I v3), some (g_I v4), some (g_I v7), some (g_I v6), some (g_I v7), some (g_I 1)]) dX4_breakRing_125 (by decide) rfl ?_
              obtain ⟨hc, hF⟩ := hF
              refine gw_iinc (L' := [some (g_R k), some (g_R r1), some (g_I v2), some (g_I v3), some (g_I v4), some (g_I v7), some (g_I v6), some (g_I (v7 + 1)), some (g_I 1)]) dX4_breakRing_127 rfl hc (by decide) rfl ?_
              refine g_goto dX4_breakRing_130 rfl ?_
              exact g_forget (L' := [some (g_R k), some (g_R r1), some (g_I v2), some (g_I v3), some (g_I v4), some (g_I v7), some (g_I v6), some (g_I (v7 + 1)), none]) ⟨rfl, ⟨rfl, ⟨rfl, ⟨rfl, ⟨rfl, ⟨rfl, ⟨rfl, ⟨rfl, trivial⟩⟩⟩⟩⟩⟩⟩⟩ hF
            · have hF := hF.2 q
              refine g_aload_n dX4_breakRing_110 rfl ?_
              refine g_aload_n dX4_breakRing_111 rfl ?_
              refine g_iload_n dX4_breakRing_112 rfl ?_
              refine g_iload dX4_breakRing_113 rfl ?_
              refine g_iload dX4_breakRing_115 rfl ?_
              refine gw_cVi (b := k) (As := [g_R r1, g_I v2, g_I v7, g_I v5]) (rest := []) dX4_breakRing_117 mv_X4_123 hk.1 rfl (Nat.le_of_ble_eq_true rfl) (by decide) rfl hF ?_
              intro x7 D7 hx7 hF
              have hF := hF hx7
              refine g_ifeq dX4_breakRing_120 rfl (fun q => ?_) (fun q => ?_)
              · have hF := hF.1 q
                obtain ⟨hc, hF⟩ := hF
                refine gw_iinc (L' := [some (g_R k), some (g_R r1), some (g_I v2), some (g_I v3), some (g_I v4), some (g_I v5), some (g_I v6), some (g_I (v7 + 1)), some (g_I 1)]) dX4_breakRing_127 rfl hc (by decide) rfl ?_
                refine g_goto dX4_breakRing_130 rfl ?_
                exact g_forget (L' := [some (g_R k), some (g_R r1), some (g_I v2), some (g_I v3), some (g_I v4), some (g_I v5), some (g_I v6), some (g_I (v7 + 1)), none]) ⟨rfl, ⟨rfl, ⟨rfl, ⟨rfl, ⟨rfl, ⟨rfl, ⟨rfl, ⟨rfl, trivial⟩⟩⟩⟩⟩⟩⟩⟩ hF
              · have hF := hF.2 q
                refine g_iload dX4_breakRing_123 rfl ?_
                refine gw_istore (L' := [some (g_R k), some (g_R r1), some (g_I v2), some (g_I v3), some (g_I v4), some (g_I v7), some (g_I v6), some (g_I v7), some (g_I 1)]) dX4_breakRing_125 (by decide) rfl ?_
                obtain ⟨hc, hF⟩ := hF
                refine gw_iinc (L' := [some (g_R k), some (g_R r1), some (g_I v2), some (g_I v3), some (g_I v4), some (g_I v7), some (g_I v6), some (g_I (v7 + 1)), some (g_I 1)]) dX4_breakRing_127 rfl hc (by decide) rfl ?_
                refine g_goto dX4_breakRing_130 rfl ?_
                exact g_forget (L' := [some (g_R k), some (g_R r1), some (g_I v2), some (g_I v3), some (g_I v4), some (g_I v7), some (g_I v6), some (g_I (v7 + 1)), none]) ⟨rfl, ⟨rfl, ⟨rfl, ⟨rfl, ⟨rfl, ⟨rfl, ⟨rfl, ⟨rfl, trivial⟩⟩⟩⟩⟩⟩⟩⟩ hF
        · have hF := hF.2 q
          refine g_iload dX4_breakRing_72 rfl ?_
          refine gw_istore (L' := [some (g_R k), some (g_R r1), some (g_I v2), some (g_I v3), some (g_I v4), some (g_I v5), some (g_I v7), some (g_I v7), none]) dX4_breakRing_74 (by decide) rfl ?_
          refine g_aload_n dX4_breakRing_76 rfl ?_
          refine g_aload_n dX4_breakRing_77 rfl ?_
          refine g_getR dX4_breakRing_78 fd_X4_96 hr1.1 rfl ?_
          refine g_iload dX4_breakRing_81 rfl ?_
          obtain ⟨hc, hF⟩ := hF
          refine g_iald dX4_breakRing_83 hr1.2.2.2.2.1 hc.1 hc.2 ?_
          refine g_iload_n dX4_breakRing_84 rfl ?_
          refine gw_cVi (b := k) (As := [g_I (D3 (r1 + 4) v7.toNat), g_I v3]) (rest := []) dX4_breakRing_85 mv_X4_120 hk.1 rfl (Nat.le_of_ble_eq_true rfl) (by decide) rfl hF ?_
          intro x8 D8 hx8 hF
          have hF := hF hx8
          refine g_iconst dX4_breakRing_88 ⟨by decide, by decide⟩ ?_
          refine g_ceq dX4_breakRing_89 rfl (fun q => ?_) (fun q => ?_)
          · have hF := hF.1 q
            refine g_iconst dX4_breakRing_96 ⟨by decide, by decide⟩ ?_
            refine gw_istore (L' := [some (g_R k), some (g_R r1), some (g_I v2), some (g_I v3), some (g_I v4), some (g_I v5), some (g_I v7), some (g_I v7), some (g_I 0)]) dX4_breakRing_97 (by decide) rfl ?_
            refine g_iload dX4_breakRing_99 rfl ?_
            refine g_ifeq dX4_breakRing_101 rfl (fun _ => ?_) (fun q => absurd q (by decide))
            obtain ⟨hc, hF⟩ := hF
            refine gw_iinc (L' := [some (g_R k), some (g_R r1), some (g_I v2), some (g_I v3), some (g_I v4), some (g_I v5), some (g_I v7), some (g_I (v7 + 1)), some (g_I 0)]) dX4_breakRing_127 rfl hc (by decide) rfl ?_
            refine g_goto dX4_breakRing_130 rfl ?_
            exact g_forget (L' := [some (g_R k), some (g_R r1), some (g_I v2), some (g_I v3), some (g_I v4), some (g_I v5), some (g_I v7), some (g_I (v7 + 1)), none]) ⟨rfl, ⟨rfl, ⟨rfl, ⟨rfl, ⟨rfl, ⟨rfl, ⟨rfl, ⟨rfl, trivial⟩⟩⟩⟩⟩⟩⟩⟩ hF
          · have hF := hF.2 q
            refine g_iconst dX4_breakRing_92 ⟨by decide, by decide⟩ ?_
            refine g_goto dX4_breakRing_93 rfl ?_
            refine gw_istore (L' := [some (g_R k), some (g_R r1), some (g_I v2), some (g_I v3), some (g_I v4), some (g_I v5), some (g_I v7), some (g_I v7), some (g_I 1)]) dX4_breakRing_97 (by decide) rfl ?_
            refine g_iload dX4_breakRing_99 rfl ?_
            refine g_ifeq dX4_breakRing_101 rfl (fun q => absurd q (by decide)) (fun _ => ?_)
            refine g_iload dX4_breakRing_104 rfl ?_
            refine g_iconst dX4_breakRing_106 ⟨by decide, by decide⟩ ?_
            refine g_ceq dX4_breakRing_107 rfl (fun q => ?_) (fun q => ?_)
            · have hF := hF.1 q
              refine g_iload dX4_breakRing_123 rfl ?_
              refine gw_istore (L' := [some (g_R k), some (g_R r1), some (g_I v2), some (g_I v3), some (g_I v4), some (g_I v7), some (g_I v7), some (g_I v7), some (g_I 1)]) dX4_breakRing_125 (by decide) rfl ?_
              obtain ⟨hc, hF⟩ := hF
              refine gw_iinc (L' := [some (g_R k), some (g_R r1), some (g_I v2), some (g_I v3), some (g_I v4), some (g_I v7), some (g_I v7), some (g_I (v7 + 1)), some (g_I 1)]) dX4_breakRing_127 rfl hc (by decide) rfl ?_
              refine g_goto dX4_breakRing_130 rfl ?_
              exact g_forget (L' := [some (g_R k), some (g_R r1), some (g_I v2), some (g_I v3), some (g_I v4), some (g_I v7), some (g_I v7), some (g_I (v7 + 1)), none]) ⟨rfl, ⟨rfl, ⟨rfl, ⟨rfl, ⟨rfl, ⟨rfl, ⟨rfl, ⟨rfl, trivial⟩⟩⟩⟩⟩⟩⟩⟩ hF
            · have hF := hF.2 q
              refine g_aload_n dX4_breakRing_110 rfl ?_
              refine g_aload_n dX4_breakRing_111 rfl ?_
              refine g_iload_n dX4_breakRing_112 rfl ?_
              refine g_iload dX4_breakRing_113 rfl ?_
              refine g_iload dX4_breakRing_115 rfl ?_
              refine gw_cVi (b := k) (As := [g_R r1, g_I v2, g_I v7, g_I v5]) (rest := []) dX4_breakRing_117 mv_X4_123 hk.1 rfl (Nat.le_of_ble_eq_true rfl) (by decide) rfl hF ?_
              intro x9 D9 hx9 hF
              have hF := hF hx9
              refine g_ifeq dX4_breakRing_120 rfl (fun q => ?_) (fun q => ?_)
              · have hF := hF.1 q
                obtain ⟨hc, hF⟩ := hF
                refine gw_iinc (L' := [some (g_R k), some (g_R r1), some (g_I v2), some (g_I v3), some (g_I v4), some (g_I v5), some (g_I v7), some (g_I (v7 + 1)), some (g_I 1)]) dX4_breakRing_127 rfl hc (by decide) rfl ?_
                refine g_goto dX4_breakRing_130 rfl ?_
                exact g_forget (L' := [some (g_R k), some (g_R r1), some (g_I v2), some (g_I v3), some (g_I v4), some (g_I v5), some (g_I v7), some (g_I (v7 + 1)), none]) ⟨rfl, ⟨rfl, ⟨rfl, ⟨rfl, ⟨rfl, ⟨rfl, ⟨rfl, ⟨rfl, trivial⟩⟩⟩⟩⟩⟩⟩⟩ hF
              · have hF := hF.2 q
                refine g_iload dX4_breakRing_123 rfl ?_
                refine gw_istore (L' := [some (g_R k), some (g_R r1), some (g_I v2), some (g_I v3), some (g_I v4), some (g_I v7), some (g_I v7), some (g_I v7), some (g_I 1)]) dX4_breakRing_125 (by decide) rfl ?_
                obtain ⟨hc, hF⟩ := hF
                refine gw_iinc (L' := [some (g_R k), some (g_R r1), some (g_I v2), some (g_I v3), some (g_I v4), some (g_I v7), some (g_I v7), some (g_I (v7 + 1)), some (g_I 1)]) dX4_breakRing_127 rfl hc (by decide) rfl ?_
                refine g_goto dX4_breakRing_130 rfl ?_
                exact g_forget (L' := [some (g_R k), some (g_R r1), some (g_I v2), some (g_I v3), some (g_I v4), some (g_I v7), some (g_I v7), some (g_I (v7 + 1)), none]) ⟨rfl, ⟨rfl, ⟨rfl, ⟨rfl, ⟨rfl, ⟨rfl, ⟨rfl, ⟨rfl, trivial⟩⟩⟩⟩⟩⟩⟩⟩ hF
    · have hF := hF.2 q
      refine g_goto dX4_breakRing_46 rfl ?_
      obtain ⟨hc, hF⟩ := hF
      refine gw_iinc (L' := [some (g_R k), some (g_R r1), some (g_I v2), some (g_I v3), some (g_I v4), some (g_I v5), some (g_I v6), some (g_I (v7 + 1)), none]) dX4_breakRing_127 rfl hc (by decide) rfl ?_
      refine g_goto dX4_breakRing_130 rfl ?_
      exact hF
theorem dX4_build_0 : decode cX4_build 0 = .ok (.aload_n 0, 1) := by decide +kernel
theorem dX4_build_1 : decode cX4_build 1 = .ok (.iconst 0, 1) := by decide +kernel
theorem dX4_build_2 : decode cX4_build 2 = .ok (.putfield 44, 3) := by decide +kernel
theorem dX4_build_5 : decode cX4_build 5 = .ok (.aload_n 0, 1) := by decide +kernel
theorem dX4_build_6 : decode cX4_build 6 = .ok (.iconst 1, 1) := by decide +kernel
theorem dX4_build_7 : decode cX4_build 7 = .ok (.putfield 47, 3) := by decide +kernel
theorem dX4_build_10 : decode cX4_build 10 = .ok (.aload_n 0, 1) := by decide +kernel
theorem dX4_build_11 : decode cX4_build 11 = .ok (.iconst 0, 1) := by decide +kernel
theorem dX4_build_12 : decode cX4_build 12 = .ok (.putfield 50, 3) := by decide +kernel
theorem dX4_build_15 : decode cX4_build 15 = .ok (.aload_n 0, 1) := by decide +kernel
theorem dX4_build_16 : decode cX4_build 16 = .ok (.iconst 0, 1) := by decide +kernel
theorem dX4_build_17 : decode cX4_build 17 = .ok (.putfield 33, 3) := by decide +kernel
theorem dX4_build_20 : decode cX4_build 20 = .ok (.aload_n 0, 1) := by decide +kernel
theorem dX4_build_21 : decode cX4_build 21 = .ok (.iconst 0, 1) := by decide +kernel
theorem dX4_build_22 : decode cX4_build 22 = .ok (.putfield 41, 3) := by decide +kernel
theorem dX4_build_25 : decode cX4_build 25 = .ok (.aload_n 0, 1) := by decide +kernel
theorem dX4_build_26 : decode cX4_build 26 = .ok (.iconst 0, 1) := by decide +kernel
theorem dX4_build_27 : decode cX4_build 27 = .ok (.putfield 53, 3) := by decide +kernel
theorem dX4_build_30 : decode cX4_build 30 = .ok (.aload_n 0, 1) := by decide +kernel
theorem dX4_build_31 : decode cX4_build 31 = .ok (.iconst 0, 1) := by decide +kernel
theorem dX4_build_32 : decode cX4_build 32 = .ok (.putfield 56, 3) := by decide +kernel
theorem dX4_build_35 : decode cX4_build 35 = .ok (.aload_n 1, 1) := by decide +kernel
theorem dX4_build_36 : decode cX4_build 36 = .ok (.invokevirtual 59, 3) := by decide +kernel
theorem dX4_build_39 : decode cX4_build 39 = .ok (.istore 4, 2) := by decide +kernel
theorem dX4_build_41 : decode cX4_build 41 = .ok (.iconst 0, 1) := by decide +kernel
theorem dX4_build_42 : decode cX4_build 42 = .ok (.istore 5, 2) := by decide +kernel
theorem dX4_build_44 : decode cX4_build 44 = .ok (.iload 5, 2) := by decide +kernel
theorem dX4_build_46 : decode cX4_build 46 = .ok (.bipush 40, 2) := by decide +kernel
theorem dX4_build_48 : decode cX4_build 48 = .ok (.if_icmp .ge 62, 3) := by decide +kernel
theorem dX4_build_51 : decode cX4_build 51 = .ok (.aload_n 0, 1) := by decide +kernel
theorem dX4_build_52 : decode cX4_build 52 = .ok (.getfield 50, 3) := by decide +kernel
theorem dX4_build_55 : decode cX4_build 55 = .ok (.iload 4, 2) := by decide +kernel
theorem dX4_build_57 : decode cX4_build 57 = .ok (.if_icmp .eq 53, 3) := by decide +kernel
theorem dX4_build_60 : decode cX4_build 60 = .ok (.iload 4, 2) := by decide +kernel
theorem dX4_build_62 : decode cX4_build 62 = .ok (.aload_n 0, 1) := by decide +kernel
theorem dX4_build_63 : decode cX4_build 63 = .ok (.getfield 50, 3) := by decide +kernel
theorem dX4_build_66 : decode cX4_build 66 = .ok (.iconst (-1), 1) := by decide +kernel
theorem dX4_build_67 : decode cX4_build 67 = .ok (.ixor, 1) := by decide +kernel
theorem dX4_build_68 : decode cX4_build 68 = .ok (.iand, 1) := by decide +kernel
theorem dX4_build_69 : decode cX4_build 69 = .ok (.aload_n 0, 1) := by decide +kernel
theorem dX4_build_70 : decode cX4_build 70 = .ok (.aload_n 1, 1) := by decide +kernel
theorem dX4_build_71 : decode cX4_build 71 = .ok (.invokevirtual 65, 3) := by decide +kernel
theorem dX4_build_74 : decode cX4_build 74 = .ok (.iconst (-1), 1) := by decide +kernel
theorem dX4_build_75 : decode cX4_build 75 = .ok (.ixor, 1) := by decide +kernel
theorem dX4_build_76 : decode cX4_build 76 = .ok (.iand, 1) := by decide +kernel
theorem dX4_build_77 : decode cX4_build 77 = .ok (.istore 6, 2) := by decide +kernel
theorem dX4_build_79 : decode cX4_build 79 = .ok (.iload 6, 2) := by decide +kernel
theorem dX4_build_81 : decode cX4_build 81 = .ok (.ifCond .eq 16, 3) := by decide +kernel
theorem dX4_build_84 : decode cX4_build 84 = .ok (.aload_n 0, 1) := by decide +kernel
theorem dX4_build_85 : decode cX4_build 85 = .ok (.aload_n 1, 1) := by decide +kernel
theorem dX4_build_86 : decode cX4_build 86 = .ok (.iload 6, 2) := by decide +kernel
theorem dX4_build_88 : decode cX4_build 88 = .ok (.invokestatic 69, 3) := by decide +kernel
theorem dX4_build_91 : decode cX4_build 91 = .ok (.invokevirtual 73, 3) := by decide +kernel
theorem dX4_build_94 : decode cX4_build 94 = .ok (.goto 10, 3) := by decide +kernel
theorem dX4_build_97 : decode cX4_build 97 = .ok (.aload_n 0, 1) := by decide +kernel
theorem dX4_build_98 : decode cX4_build 98 = .ok (.aload_n 1, 1) := by decide +kernel
theorem dX4_build_99 : decode cX4_build 99 = .ok (.iload_n 2, 1) := by decide +kernel
theorem dX4_build_100 : decode cX4_build 100 = .ok (.iload_n 3, 1) := by decide +kernel
theorem dX4_build_101 : decode cX4_build 101 = .ok (.invokevirtual 77, 3) := by decide +kernel
theorem dX4_build_104 : decode cX4_build 104 = .ok (.iinc 5 1, 3) := by decide +kernel
theorem dX4_build_107 : decode cX4_build 107 = .ok (.goto (-63), 3) := by decide +kernel
theorem dX4_build_110 : decode cX4_build 110 = .ok (.return_, 1) := by decide +kernel
abbrev k_X4_build (E : g_E) (l : Launch) (D : g_D) (k : Nat) (r1 : Nat) (v2 : Int) (v3 : Int) (K : g_D → Prop) : Prop := g_Kv E l m_X4_build 4 [g_R k, g_R r1, g_I v2, g_I v3] g_SH D K
abbrev n_X4_build (E : g_E) (l : Launch) (D : g_D) (pc : Nat) (L : List (Option g_V)) (K : g_D → Prop) : Prop := g_N E l m_X4_build 4 pc L [] g_SH D (g_Rv g_SH K)
theorem s_X4_build {E : g_E} {l : Launch} {D : g_D} {K : g_D → Prop} {k : Nat} {r1 : Nat} {v2 : Int} {v3 : Int} (hk : is_Plan g_SH k) (hr1 : is_Script g_SH r1) (hF : g_okD D → g_r v2 → g_r v3 → ∀ D1, D1 = g_up D k 5 0 → (∀ D2, D2 = g_up D1 k 6 1 → (∀ D3, D3 = g_up D2 k 7 0 → (∀ D4, D4 = g_up D3 k 8 0 → (∀ D5, D5 = g_up D4 k 9 0 → (∀ D6, D6 = g_up D5 k 10 0 → (∀ D7, D7 = g_up D6 k 11 0 → (k_X7_writers E l D7 r1 (fun x8 D8 => g_r x8 → n_X4_build E l D8 44 [some (g_R k), some (g_R r1), some (g_I v2), some (g_I v3), some (g_I x8), some (g_I 0), none] K))))))))) : k_X4_build E l D k r1 v2 v3 K := by
  refine g_enter (by decide) (Nat.le_of_ble_eq_true rfl) ?_
  show g_N E l m_X4_build 4 0 [some (g_R k), some (g_R r1), some (g_I v2), some (g_I v3), none, none, none] [] g_SH D (g_Rv g_SH K)
  refine g_use (fun ok => ?_)
  have hF := hF ok.2.1 (ok.loc (i := 2) rfl) (ok.loc (i := 3) rfl)
  refine g_aload_n dX4_build_0 rfl ?_
  refine g_iconst dX4_build_1 ⟨by decide, by decide⟩ ?_
  let D1 : g_D := g_up D k 5 0
  have hF := hF D1 rfl
  refine g_put dX4_build_2 fd_X4_44 (g_ftyI (C := RX4) (T := TX4) (N := 12) rfl rfl (by decide +kernel)) hk.1 rfl ?_
  refine g_aload_n dX4_build_5 rfl ?_
  refine g_iconst dX4_build_6 ⟨by decide, by decide⟩ ?_
  let D2 : g_D := g_up D1 k 6 1
  have hF := hF D2 rfl
  refine g_put dX4_build_7 fd_X4_47 (g_ftyI (C := RX4) (T := TX4) (N := 12) rfl rfl (by decide +kernel)) hk.1 rfl ?_
  refine g_aload_n dX4_build_10 rfl ?_
  refine g_iconst dX4_build_11 ⟨by decide, by decide⟩ ?_
  let D3 : g_D := g_up D2 k 7 0
  have hF := hF D3 rfl
  refine g_put dX4_build_12 fd_X4_50 (g_ftyI (C := RX4) (T := TX4) (N := 12) rfl rfl (by decide +kernel)) hk.1 rfl ?_
  refine g_aload_n dX4_build_15 rfl ?_
  refine g_iconst dX4_build_16 ⟨by decide, by decide⟩ ?_
  let D4 : g_D := g_up D3 k 8 0
  have hF := hF D4 rfl
  refine g_put dX4_build_17 fd_X4_33 (g_ftyI (C := RX4) (T := TX4) (N := 12) rfl rfl (by decide +kernel)) hk.1 rfl ?_
  refine g_aload_n dX4_build_20 rfl ?_
  refine g_iconst dX4_build_21 ⟨by decide, by decide⟩ ?_
  let D5 : g_D := g_up D4 k 9 0
  have hF := hF D5 rfl
  refine g_put dX4_build_22 fd_X4_41 (g_ftyI (C := RX4) (T := TX4) (N := 12) rfl rfl (by decide +kernel)) hk.1 rfl ?_
  refine g_aload_n dX4_build_25 rfl ?_
  refine g_iconst dX4_build_26 ⟨by decide, by decide⟩ ?_
  let D6 : g_D := g_up D5 k 10 0
  have hF := hF D6 rfl
  refine g_put dX4_build_27 fd_X4_53 (g_ftyI (C := RX4) (T := TX4) (N := 12) rfl rfl (by decide +kernel)) hk.1 rfl ?_
  refine g_aload_n dX4_build_30 rfl ?_
  refine g_iconst dX4_build_31 ⟨by decide, by decide⟩ ?_
  let D7 : g_D := g_up D6 k 11 0
  have hF := hF D7 rfl
  refine g_put dX4_build_32 fd_X4_56 (g_ftyI (C := RX4) (T := TX4) (N := 12) rfl rfl (by decide +kernel)) hk.1 rfl ?_
  refine g_aload_n dX4_build_35 rfl ?_
  refine gw_cVi (b := r1) (As := []) (rest := []) dX4_build_36 mv_X4_59 hr1.1 rfl (Nat.le_of_ble_eq_true rfl) (by decide) rfl hF ?_
  intro x8 D8 hx8 hF
  have hF := hF hx8
  refine gw_istore (L' := [some (g_R k), some (g_R r1), some (g_I v2), some (g_I v3), some (g_I x8), none, none]) dX4_build_39 (by decide) rfl ?_
  refine g_iconst dX4_build_41 ⟨by decide, by decide⟩ ?_
  refine gw_istore (L' := [some (g_R k), some (g_R r1), some (g_I v2), some (g_I v3), some (g_I x8), some (g_I 0), none]) dX4_build_42 (by decide) rfl ?_
  exact hF
theorem s_X4_build_44 {E : g_E} {l : Launch} {D : g_D} {K : g_D → Prop} {k : Nat} {r1 : Nat} {v2 : Int} {v3 : Int} {v4 : Int} {v5 : Int} (hk : is_Plan g_SH k) (hr1 : is_Script g_SH r1) (hF : g_okD D → g_r v2 → g_r v3 → g_r v4 → g_r v5 → (40 ≤ v5 → K D) ∧ (¬ 40 ≤ v5 → ((D k 7) = v4 → K D) ∧ (¬ (D k 7) = v4 → k_X4_blockedBits E l D k r1 (fun x1 D1 => g_r x1 → ((g_and (g_and v4 (g_xor (D k 7) (-1))) (g_xor x1 (-1))) = 0 → k_X4_breakRing E l D1 k r1 v2 v3 (fun D2 => (g_r (v5 + 1)) ∧ (n_X4_build E l D2 44 [some (g_R k), some (g_R r1), some (g_I v2), some (g_I v3), some (g_I v4), some (g_I (v5 + 1)), none] K))) ∧ (¬ (g_and (g_and v4 (g_xor (D k 7) (-1))) (g_xor x1 (-1))) = 0 → k_X11_lowestBit E l g_SH D1 (g_and (g_and v4 (g_xor (D k 7) (-1))) (g_xor x1 (-1))) (fun x3 D3 => g_r x3 → k_X4_finish E l D3 k r1 x3 (fun D4 => (g_r (v5 + 1)) ∧ (n_X4_build E l D4 44 [some (g_R k), some (g_R r1), some (g_I v2), some (g_I v3), some (g_I v4), some (g_I (v5 + 1)), none] K)))))))) : n_X4_build E l D 44 [some (g_R k), some (g_R r1), some (g_I v2), some (g_I v3), some (g_I v4), some (g_I v5), none] K := by
  refine g_use (fun ok => ?_)
  have hF := hF ok.2.1 (ok.loc (i := 2) rfl) (ok.loc (i := 3) rfl) (ok.loc (i := 4) rfl) (ok.loc (i := 5) rfl)
  refine g_iload dX4_build_44 rfl ?_
  refine g_bipush dX4_build_46 ⟨by decide, by decide⟩ ?_
  refine g_cge dX4_build_48 rfl (fun q => ?_) (fun q => ?_)
  · have hF := hF.1 q
    exact gw_vret dX4_build_110 rfl hF
  · have hF := hF.2 q
    refine g_aload_n dX4_build_51 rfl ?_
    refine g_getI dX4_build_52 fd_X4_50 hk.1 rfl ?_
    refine g_iload dX4_build_55 rfl ?_
    refine g_ceq dX4_build_57 rfl (fun q => ?_) (fun q => ?_)
    · have hF := hF.1 q
      exact gw_vret dX4_build_110 rfl hF
    · have hF := hF.2 q
      refine g_iload dX4_build_60 rfl ?_
      refine g_aload_n dX4_build_62 rfl ?_
      refine g_getI dX4_build_63 fd_X4_50 hk.1 rfl ?_
      refine g_iconst dX4_build_66 ⟨by decide, by decide⟩ ?_
      refine g_ixor dX4_build_67 ?_
      refine g_iand dX4_build_68 ?_
      refine g_aload_n dX4_build_69 rfl ?_
      refine g_aload_n dX4_build_70 rfl ?_
      refine gw_cVi (b := k) (As := [g_R r1]) (rest := [g_I (g_and v4 (g_xor (D k 7) (-1)))]) dX4_build_71 mv_X4_65 hk.1 rfl (Nat.le_of_ble_eq_true rfl) (by decide) rfl hF ?_
      intro x1 D1 hx1 hF
      have hF := hF hx1
      refine g_iconst dX4_build_74 ⟨by decide, by decide⟩ ?_
      refine g_ixor dX4_build_75 ?_
      refine g_iand dX4_build_76 ?_
      refine gw_istore (L' := [some (g_R k), some (g_R r1), some (g_I v2), some (g_I v3), some (g_I v4), some (g_I v5), some (g_I (g_and (g_and v4 (g_xor (D k 7) (-1))) (g_xor x1 (-1))))]) dX4_build_77 (by decide) rfl ?_
      refine g_iload dX4_build_79 rfl ?_
      refine g_ifeq dX4_build_81 rfl (fun q => ?_) (fun q => ?_)
      · have hF := hF.1 q
        refine g_aload_n dX4_build_97 rfl ?_
        refine g_aload_n dX4_build_98 rfl ?_
        refine g_iload_n dX4_build_99 rfl ?_
        refine g_iload_n dX4_build_100 rfl ?_
        refine gw_cVv (b := k) (As := [g_R r1, g_I v2, g_I v3]) (rest := []) dX4_build_101 mv_X4_77 hk.1 rfl (Nat.le_of_ble_eq_true rfl) (by decide) rfl hF ?_
        intro D2 hF
        obtain ⟨hc, hF⟩ := hF
        refine gw_iinc (L' := [some (g_R k), some (g_R r1), some (g_I v2), some (g_I v3), some (g_I v4), some (g_I (v5 + 1)), some (g_I (g_and (g_and v4 (g_xor (D k 7) (-1))) (g_xor x1 (-1))))]) dX4_build_104 rfl hc (by decide) rfl ?_
        refine g_goto dX4_build_107 rfl ?_
        exact g_forget (L' := [some (g_R k), some (g_R r1), some (g_I v2), some (g_I v3), some (g_I v4), some (g_I (v5 + 1)), none]) ⟨rfl, ⟨rfl, ⟨rfl, ⟨rfl, ⟨rfl, ⟨rfl, trivial⟩⟩⟩⟩⟩⟩ hF
      · have hF := hF.2 q
        refine g_aload_n dX4_build_84 rfl ?_
        refine g_aload_n dX4_build_85 rfl ?_
        refine g_iload dX4_build_86 rfl ?_
        refine gw_cNi (As := [g_I (g_and (g_and v4 (g_xor (D k 7) (-1))) (g_xor x1 (-1)))]) (rest := [g_R r1, g_R k]) dX4_build_88 mn_X4_69 rfl (Nat.le_of_ble_eq_true rfl) (by decide) rfl hF ?_
        intro x3 D3 hx3 hF
        have hF := hF hx3
        refine gw_cVv (b := k) (As := [g_R r1, g_I x3]) (rest := []) dX4_build_91 mv_X4_73 hk.1 rfl (Nat.le_of_ble_eq_true rfl) (by decide) rfl hF ?_
        intro D4 hF
        refine g_goto dX4_build_94 rfl ?_
        obtain ⟨hc, hF⟩ := hF
        refine gw_iinc (L' := [some (g_R k), some (g_R r1), some (g_I v2), some (g_I v3), some (g_I v4), some (g_I (v5 + 1)), some (g_I (g_and (g_and v4 (g_xor (D k 7) (-1))) (g_xor x1 (-1))))]) dX4_build_104 rfl hc (by decide) rfl ?_
        refine g_goto dX4_build_107 rfl ?_
        exact g_forget (L' := [some (g_R k), some (g_R r1), some (g_I v2), some (g_I v3), some (g_I v4), some (g_I (v5 + 1)), none]) ⟨rfl, ⟨rfl, ⟨rfl, ⟨rfl, ⟨rfl, ⟨rfl, trivial⟩⟩⟩⟩⟩⟩ hF
theorem dX4_pushThree_0 : decode cX4_pushThree 0 = .ok (.aload_n 0, 1) := by decide +kernel
theorem dX4_pushThree_1 : decode cX4_pushThree 1 = .ok (.getfield 29, 3) := by decide +kernel
theorem dX4_pushThree_4 : decode cX4_pushThree 4 = .ok (.iload_n 1, 1) := by decide +kernel
theorem dX4_pushThree_5 : decode cX4_pushThree 5 = .ok (.invokevirtual 145, 3) := by decide +kernel
theorem dX4_pushThree_8 : decode cX4_pushThree 8 = .ok (.aload_n 0, 1) := by decide +kernel
theorem dX4_pushThree_9 : decode cX4_pushThree 9 = .ok (.getfield 29, 3) := by decide +kernel
theorem dX4_pushThree_12 : decode cX4_pushThree 12 = .ok (.iload_n 2, 1) := by decide +kernel
theorem dX4_pushThree_13 : decode cX4_pushThree 13 = .ok (.invokevirtual 145, 3) := by decide +kernel
theorem dX4_pushThree_16 : decode cX4_pushThree 16 = .ok (.aload_n 0, 1) := by decide +kernel
theorem dX4_pushThree_17 : decode cX4_pushThree 17 = .ok (.getfield 29, 3) := by decide +kernel
theorem dX4_pushThree_20 : decode cX4_pushThree 20 = .ok (.iload_n 3, 1) := by decide +kernel
theorem dX4_pushThree_21 : decode cX4_pushThree 21 = .ok (.invokevirtual 145, 3) := by decide +kernel
theorem dX4_pushThree_24 : decode cX4_pushThree 24 = .ok (.return_, 1) := by decide +kernel
abbrev k_X4_pushThree (E : g_E) (l : Launch) (D : g_D) (k : Nat) (v1 : Int) (v2 : Int) (v3 : Int) (K : g_D → Prop) : Prop := g_Kv E l m_X4_pushThree 1 [g_R k, g_I v1, g_I v2, g_I v3] g_SH D K
abbrev n_X4_pushThree (E : g_E) (l : Launch) (D : g_D) (pc : Nat) (L : List (Option g_V)) (K : g_D → Prop) : Prop := g_N E l m_X4_pushThree 1 pc L [] g_SH D (g_Rv g_SH K)
theorem s_X4_pushThree {E : g_E} {l : Launch} {D : g_D} {K : g_D → Prop} {k : Nat} {v1 : Int} {v2 : Int} {v3 : Int} (hk : is_Plan g_SH k) (hF : g_okD D → g_r v1 → g_r v2 → g_r v3 → k_X0_push E l g_SH D (k + 5) v1 (fun D1 => k_X0_push E l g_SH D1 (k + 5) v2 (fun D2 => k_X0_push E l g_SH D2 (k + 5) v3 (fun D3 => K D3)))) : k_X4_pushThree E l D k v1 v2 v3 K := by
  refine g_enter (by decide) (Nat.le_of_ble_eq_true rfl) ?_
  show g_N E l m_X4_pushThree 1 0 [some (g_R k), some (g_I v1), some (g_I v2), some (g_I v3)] [] g_SH D (g_Rv g_SH K)
  refine g_use (fun ok => ?_)
  have hF := hF ok.2.1 (ok.loc (i := 1) rfl) (ok.loc (i := 2) rfl) (ok.loc (i := 3) rfl)
  refine g_aload_n dX4_pushThree_0 rfl ?_
  refine g_getR dX4_pushThree_1 fd_X4_29 hk.1 rfl ?_
  refine g_iload_n dX4_pushThree_4 rfl ?_
  refine gw_cVv (b := (k + 5)) (As := [g_I v1]) (rest := []) dX4_pushThree_5 mv_X4_145 hk.2.2.2.2.2.1 rfl (Nat.le_of_ble_eq_true rfl) (by decide) rfl hF ?_
  intro D1 hF
  refine g_aload_n dX4_pushThree_8 rfl ?_
  refine g_getR dX4_pushThree_9 fd_X4_29 hk.1 rfl ?_
  refine g_iload_n dX4_pushThree_12 rfl ?_
  refine gw_cVv (b := (k + 5)) (As := [g_I v2]) (rest := []) dX4_pushThree_13 mv_X4_145 hk.2.2.2.2.2.1 rfl (Nat.le_of_ble_eq_true rfl) (by decide) rfl hF ?_
  intro D2 hF
  refine g_aload_n dX4_pushThree_16 rfl ?_
  refine g_getR dX4_pushThree_17 fd_X4_29 hk.1 rfl ?_
  refine g_iload_n dX4_pushThree_20 rfl ?_
  refine gw_cVv (b := (k + 5)) (As := [g_I v3]) (rest := []) dX4_pushThree_21 mv_X4_145 hk.2.2.2.2.2.1 rfl (Nat.le_of_ble_eq_true rfl) (by decide) rfl hF ?_
  intro D3 hF
  exact gw_vret dX4_pushThree_24 rfl hF
theorem dX4_writeAct_0 : decode cX4_writeAct 0 = .ok (.aload_n 0, 1) := by decide +kernel
theorem dX4_writeAct_1 : decode cX4_writeAct 1 = .ok (.getfield 15, 3) := by decide +kernel
theorem dX4_writeAct_4 : decode cX4_writeAct 4 = .ok (.iload_n 3, 1) := by decide +kernel
theorem dX4_writeAct_5 : decode cX4_writeAct 5 = .ok (.iaload, 1) := by decide +kernel
theorem dX4_writeAct_6 : decode cX4_writeAct 6 = .ok (.istore 4, 2) := by decide +kernel
theorem dX4_writeAct_8 : decode cX4_writeAct 8 = .ok (.aload_n 0, 1) := by decide +kernel
theorem dX4_writeAct_9 : decode cX4_writeAct 9 = .ok (.getfield 29, 3) := by decide +kernel
theorem dX4_writeAct_12 : decode cX4_writeAct 12 = .ok (.aload_n 0, 1) := by decide +kernel
theorem dX4_writeAct_13 : decode cX4_writeAct 13 = .ok (.getfield 11, 3) := by decide +kernel
theorem dX4_writeAct_16 : decode cX4_writeAct 16 = .ok (.iload_n 3, 1) := by decide +kernel
theorem dX4_writeAct_17 : decode cX4_writeAct 17 = .ok (.iaload, 1) := by decide +kernel
theorem dX4_writeAct_18 : decode cX4_writeAct 18 = .ok (.invokevirtual 145, 3) := by decide +kernel
theorem dX4_writeAct_21 : decode cX4_writeAct 21 = .ok (.aload_n 0, 1) := by decide +kernel
theorem dX4_writeAct_22 : decode cX4_writeAct 22 = .ok (.getfield 11, 3) := by decide +kernel
theorem dX4_writeAct_25 : decode cX4_writeAct 25 = .ok (.iload_n 3, 1) := by decide +kernel
theorem dX4_writeAct_26 : decode cX4_writeAct 26 = .ok (.iaload, 1) := by decide +kernel
theorem dX4_writeAct_27 : decode cX4_writeAct 27 = .ok (.tableswitch 107 1 3 #[25, 52, 80], 25) := by decide +kernel
theorem dX4_writeAct_52 : decode cX4_writeAct 52 = .ok (.aload_n 0, 1) := by decide +kernel
theorem dX4_writeAct_53 : decode cX4_writeAct 53 = .ok (.aload_n 1, 1) := by decide +kernel
theorem dX4_writeAct_54 : decode cX4_writeAct 54 = .ok (.getfield 152, 3) := by decide +kernel
theorem dX4_writeAct_57 : decode cX4_writeAct 57 = .ok (.iload 4, 2) := by decide +kernel
theorem dX4_writeAct_59 : decode cX4_writeAct 59 = .ok (.iaload, 1) := by decide +kernel
theorem dX4_writeAct_60 : decode cX4_writeAct 60 = .ok (.aload_n 1, 1) := by decide +kernel
theorem dX4_writeAct_61 : decode cX4_writeAct 61 = .ok (.getfield 96, 3) := by decide +kernel
theorem dX4_writeAct_64 : decode cX4_writeAct 64 = .ok (.iload 4, 2) := by decide +kernel
theorem dX4_writeAct_66 : decode cX4_writeAct 66 = .ok (.iaload, 1) := by decide +kernel
theorem dX4_writeAct_67 : decode cX4_writeAct 67 = .ok (.aload_n 0, 1) := by decide +kernel
theorem dX4_writeAct_68 : decode cX4_writeAct 68 = .ok (.getfield 18, 3) := by decide +kernel
theorem dX4_writeAct_71 : decode cX4_writeAct 71 = .ok (.iload_n 3, 1) := by decide +kernel
theorem dX4_writeAct_72 : decode cX4_writeAct 72 = .ok (.iaload, 1) := by decide +kernel
theorem dX4_writeAct_73 : decode cX4_writeAct 73 = .ok (.invokevirtual 155, 3) := by decide +kernel
theorem dX4_writeAct_76 : decode cX4_writeAct 76 = .ok (.goto 128, 3) := by decide +kernel
theorem dX4_writeAct_79 : decode cX4_writeAct 79 = .ok (.aload_n 0, 1) := by decide +kernel
theorem dX4_writeAct_80 : decode cX4_writeAct 80 = .ok (.aload_n 1, 1) := by decide +kernel
theorem dX4_writeAct_81 : decode cX4_writeAct 81 = .ok (.getfield 159, 3) := by decide +kernel
theorem dX4_writeAct_84 : decode cX4_writeAct 84 = .ok (.iload 4, 2) := by decide +kernel
theorem dX4_writeAct_86 : decode cX4_writeAct 86 = .ok (.iaload, 1) := by decide +kernel
theorem dX4_writeAct_87 : decode cX4_writeAct 87 = .ok (.aload_n 1, 1) := by decide +kernel
theorem dX4_writeAct_88 : decode cX4_writeAct 88 = .ok (.getfield 152, 3) := by decide +kernel
theorem dX4_writeAct_91 : decode cX4_writeAct 91 = .ok (.iload 4, 2) := by decide +kernel
theorem dX4_writeAct_93 : decode cX4_writeAct 93 = .ok (.iaload, 1) := by decide +kernel
theorem dX4_writeAct_94 : decode cX4_writeAct 94 = .ok (.aload_n 1, 1) := by decide +kernel
theorem dX4_writeAct_95 : decode cX4_writeAct 95 = .ok (.getfield 96, 3) := by decide +kernel
theorem dX4_writeAct_98 : decode cX4_writeAct 98 = .ok (.iload 4, 2) := by decide +kernel
theorem dX4_writeAct_100 : decode cX4_writeAct 100 = .ok (.iaload, 1) := by decide +kernel
theorem dX4_writeAct_101 : decode cX4_writeAct 101 = .ok (.invokevirtual 155, 3) := by decide +kernel
theorem dX4_writeAct_104 : decode cX4_writeAct 104 = .ok (.goto 100, 3) := by decide +kernel
theorem dX4_writeAct_107 : decode cX4_writeAct 107 = .ok (.aload_n 0, 1) := by decide +kernel
theorem dX4_writeAct_108 : decode cX4_writeAct 108 = .ok (.aload_n 1, 1) := by decide +kernel
theorem dX4_writeAct_109 : decode cX4_writeAct 109 = .ok (.getfield 159, 3) := by decide +kernel
theorem dX4_writeAct_112 : decode cX4_writeAct 112 = .ok (.iload 4, 2) := by decide +kernel
theorem dX4_writeAct_114 : decode cX4_writeAct 114 = .ok (.iaload, 1) := by decide +kernel
theorem dX4_writeAct_115 : decode cX4_writeAct 115 = .ok (.aload_n 0, 1) := by decide +kernel
theorem dX4_writeAct_116 : decode cX4_writeAct 116 = .ok (.getfield 18, 3) := by decide +kernel
theorem dX4_writeAct_119 : decode cX4_writeAct 119 = .ok (.iload_n 3, 1) := by decide +kernel
theorem dX4_writeAct_120 : decode cX4_writeAct 120 = .ok (.iaload, 1) := by decide +kernel
theorem dX4_writeAct_121 : decode cX4_writeAct 121 = .ok (.aload_n 1, 1) := by decide +kernel
theorem dX4_writeAct_122 : decode cX4_writeAct 122 = .ok (.getfield 96, 3) := by decide +kernel
theorem dX4_writeAct_125 : decode cX4_writeAct 125 = .ok (.iload 4, 2) := by decide +kernel
theorem dX4_writeAct_127 : decode cX4_writeAct 127 = .ok (.iaload, 1) := by decide +kernel
theorem dX4_writeAct_128 : decode cX4_writeAct 128 = .ok (.invokevirtual 155, 3) := by decide +kernel
theorem dX4_writeAct_131 : decode cX4_writeAct 131 = .ok (.goto 73, 3) := by decide +kernel
theorem dX4_writeAct_134 : decode cX4_writeAct 134 = .ok (.aload_n 0, 1) := by decide +kernel
theorem dX4_writeAct_135 : decode cX4_writeAct 135 = .ok (.getfield 29, 3) := by decide +kernel
theorem dX4_writeAct_138 : decode cX4_writeAct 138 = .ok (.aload_n 1, 1) := by decide +kernel
theorem dX4_writeAct_139 : decode cX4_writeAct 139 = .ok (.getfield 159, 3) := by decide +kernel
theorem dX4_writeAct_142 : decode cX4_writeAct 142 = .ok (.iload 4, 2) := by decide +kernel
theorem dX4_writeAct_144 : decode cX4_writeAct 144 = .ok (.iaload, 1) := by decide +kernel
theorem dX4_writeAct_145 : decode cX4_writeAct 145 = .ok (.invokevirtual 145, 3) := by decide +kernel
theorem dX4_writeAct_148 : decode cX4_writeAct 148 = .ok (.aload_n 0, 1) := by decide +kernel
theorem dX4_writeAct_149 : decode cX4_writeAct 149 = .ok (.getfield 29, 3) := by decide +kernel
theorem dX4_writeAct_152 : decode cX4_writeAct 152 = .ok (.aload_n 1, 1) := by decide +kernel
theorem dX4_writeAct_153 : decode cX4_writeAct 153 = .ok (.getfield 96, 3) := by decide +kernel
theorem dX4_writeAct_156 : decode cX4_writeAct 156 = .ok (.iload 4, 2) := by decide +kernel
theorem dX4_writeAct_158 : decode cX4_writeAct 158 = .ok (.iaload, 1) := by decide +kernel
theorem dX4_writeAct_159 : decode cX4_writeAct 159 = .ok (.invokevirtual 145, 3) := by decide +kernel
theorem dX4_writeAct_162 : decode cX4_writeAct 162 = .ok (.iconst 0, 1) := by decide +kernel
theorem dX4_writeAct_163 : decode cX4_writeAct 163 = .ok (.istore 5, 2) := by decide +kernel
theorem dX4_writeAct_165 : decode cX4_writeAct 165 = .ok (.iload 5, 2) := by decide +kernel
theorem dX4_writeAct_167 : decode cX4_writeAct 167 = .ok (.aload_n 1, 1) := by decide +kernel
theorem dX4_writeAct_168 : decode cX4_writeAct 168 = .ok (.getfield 96, 3) := by decide +kernel
theorem dX4_writeAct_171 : decode cX4_writeAct 171 = .ok (.iload 4, 2) := by decide +kernel
theorem dX4_writeAct_173 : decode cX4_writeAct 173 = .ok (.iaload, 1) := by decide +kernel
theorem dX4_writeAct_174 : decode cX4_writeAct 174 = .ok (.if_icmp .ge 30, 3) := by decide +kernel
theorem dX4_writeAct_177 : decode cX4_writeAct 177 = .ok (.aload_n 0, 1) := by decide +kernel
theorem dX4_writeAct_178 : decode cX4_writeAct 178 = .ok (.getfield 29, 3) := by decide +kernel
theorem dX4_writeAct_181 : decode cX4_writeAct 181 = .ok (.aload_n 2, 1) := by decide +kernel
theorem dX4_writeAct_182 : decode cX4_writeAct 182 = .ok (.aload_n 1, 1) := by decide +kernel
theorem dX4_writeAct_183 : decode cX4_writeAct 183 = .ok (.getfield 159, 3) := by decide +kernel
theorem dX4_writeAct_186 : decode cX4_writeAct 186 = .ok (.iload 4, 2) := by decide +kernel
theorem dX4_writeAct_188 : decode cX4_writeAct 188 = .ok (.iaload, 1) := by decide +kernel
theorem dX4_writeAct_189 : decode cX4_writeAct 189 = .ok (.iload 5, 2) := by decide +kernel
theorem dX4_writeAct_191 : decode cX4_writeAct 191 = .ok (.iadd, 1) := by decide +kernel
theorem dX4_writeAct_192 : decode cX4_writeAct 192 = .ok (.invokevirtual 162, 3) := by decide +kernel
theorem dX4_writeAct_195 : decode cX4_writeAct 195 = .ok (.invokevirtual 145, 3) := by decide +kernel
theorem dX4_writeAct_198 : decode cX4_writeAct 198 = .ok (.iinc 5 1, 3) := by decide +kernel
theorem dX4_writeAct_201 : decode cX4_writeAct 201 = .ok (.goto (-36), 3) := by decide +kernel
theorem dX4_writeAct_204 : decode cX4_writeAct 204 = .ok (.return_, 1) := by decide +kernel
abbrev k_X4_writeAct (E : g_E) (l : Launch) (D : g_D) (k : Nat) (r1 : Nat) (r2 : Nat) (v3 : Int) (K : g_D → Prop) : Prop := g_Kv E l m_X4_writeAct 2 [g_R k, g_R r1, g_R r2, g_I v3] g_SH D K
abbrev n_X4_writeAct (E : g_E) (l : Launch) (D : g_D) (pc : Nat) (L : List (Option g_V)) (K : g_D → Prop) : Prop := g_N E l m_X4_writeAct 2 pc L [] g_SH D (g_Rv g_SH K)
theorem s_X4_writeAct {E : g_E} {l : Launch} {D : g_D} {K : g_D → Prop} {nr2 : Nat} {k : Nat} {r1 : Nat} {r2 : Nat} {v3 : Int} (hk : is_Plan g_SH k) (hr1 : is_Script g_SH r1) (hr2 : is_Cells g_SH r2 nr2) (hF : g_okD D → g_r v3 → (0 ≤ v3 ∧ v3 < 40) ∧ ((0 ≤ v3 ∧ v3 < 40) ∧ (k_X0_push E l g_SH D (k + 5) (D (k + 1) v3.toNat) (fun D1 => (0 ≤ v3 ∧ v3 < 40) ∧ (((D1 (k + 1) v3.toNat) = 1 → (0 ≤ (D (k + 2) v3.toNat) ∧ (D (k + 2) v3.toNat) < 20) ∧ ((0 ≤ (D (k + 2) v3.toNat) ∧ (D (k + 2) v3.toNat) < 20) ∧ ((0 ≤ v3 ∧ v3 < 40) ∧ (k_X4_pushThree E l D1 k (D1 (r1 + 3) (D (k + 2) v3.toNat).toNat) (D1 (r1 + 4) (D (k + 2) v3.toNat).toNat) (D1 (k + 3) v3.toNat) (fun D2 => K D2))))) ∧ ((D1 (k + 1) v3.toNat) = 2 → (0 ≤ (D (k + 2) v3.toNat) ∧ (D (k + 2) v3.toNat) < 20) ∧ ((0 ≤ (D (k + 2) v3.toNat) ∧ (D (k + 2) v3.toNat) < 20) ∧ ((0 ≤ (D (k + 2) v3.toNat) ∧ (D (k + 2) v3.toNat) < 20) ∧ (k_X4_pushThree E l D1 k (D1 (r1 + 2) (D (k + 2) v3.toNat).toNat) (D1 (r1 + 3) (D (k + 2) v3.toNat).toNat) (D1 (r1 + 4) (D (k + 2) v3.toNat).toNat) (fun D3 => K D3))))) ∧ ((D1 (k + 1) v3.toNat) = 3 → (0 ≤ (D (k + 2) v3.toNat) ∧ (D (k + 2) v3.toNat) < 20) ∧ ((0 ≤ v3 ∧ v3 < 40) ∧ ((0 ≤ (D (k + 2) v3.toNat) ∧ (D (k + 2) v3.toNat) < 20) ∧ (k_X4_pushThree E l D1 k (D1 (r1 + 2) (D (k + 2) v3.toNat).toNat) (D1 (k + 3) v3.toNat) (D1 (r1 + 4) (D (k + 2) v3.toNat).toNat) (fun D4 => K D4))))) ∧ (((D1 (k + 1) v3.toNat) < 1 ∨ 3 < (D1 (k + 1) v3.toNat)) → (0 ≤ (D (k + 2) v3.toNat) ∧ (D (k + 2) v3.toNat) < 20) ∧ (k_X0_push E l g_SH D1 (k + 5) (D1 (r1 + 2) (D (k + 2) v3.toNat).toNat) (fun D5 => (0 ≤ (D (k + 2) v3.toNat) ∧ (D (k + 2) v3.toNat) < 20) ∧ (k_X0_push E l g_SH D5 (k + 5) (D5 (r1 + 4) (D (k + 2) v3.toNat).toNat) (fun D6 => n_X4_writeAct E l D6 165 [some (g_R k), some (g_R r1), some (g_R r2), none, some (g_I (D (k + 2) v3.toNat)), some (g_I 0)] K)))))))))) : k_X4_writeAct E l D k r1 r2 v3 K := by
  refine g_enter (by decide) (Nat.le_of_ble_eq_true rfl) ?_
  show g_N E l m_X4_writeAct 2 0 [some (g_R k), some (g_R r1), some (g_R r2), some (g_I v3), none, none] [] g_SH D (g_Rv g_SH K)
  refine g_use (fun ok => ?_)
  have hF := hF ok.2.1 (ok.loc (i := 3) rfl)
  refine g_aload_n dX4_writeAct_0 rfl ?_
  refine g_getR dX4_writeAct_1 fd_X4_15 hk.1 rfl ?_
  refine g_iload_n dX4_writeAct_4 rfl ?_
  obtain ⟨hc, hF⟩ := hF
  refine g_iald dX4_writeAct_5 hk.2.2.1 hc.1 hc.2 ?_
  refine gw_istore (L' := [some (g_R k), some (g_R r1), some (g_R r2), some (g_I v3), some (g_I (D (k + 2) v3.toNat)), none]) dX4_writeAct_6 (by decide) rfl ?_
  refine g_aload_n dX4_writeAct_8 rfl ?_
  refine g_getR dX4_writeAct_9 fd_X4_29 hk.1 rfl ?_
  refine g_aload_n dX4_writeAct_12 rfl ?_
  refine g_getR dX4_writeAct_13 fd_X4_11 hk.1 rfl ?_
  refine g_iload_n dX4_writeAct_16 rfl ?_
  obtain ⟨hc, hF⟩ := hF
  refine g_iald dX4_writeAct_17 hk.2.1 hc.1 hc.2 ?_
  refine gw_cVv (b := (k + 5)) (As := [g_I (D (k + 1) v3.toNat)]) (rest := []) dX4_writeAct_18 mv_X4_145 hk.2.2.2.2.2.1 rfl (Nat.le_of_ble_eq_true rfl) (by decide) rfl hF ?_
  intro D1 hF
  refine g_aload_n dX4_writeAct_21 rfl ?_
  refine g_getR dX4_writeAct_22 fd_X4_11 hk.1 rfl ?_
  refine g_iload_n dX4_writeAct_25 rfl ?_
  obtain ⟨hc, hF⟩ := hF
  refine g_iald dX4_writeAct_26 hk.2.1 hc.1 hc.2 ?_
  rcases Decidable.em ((D1 (k + 1) v3.toNat) = 1) with q27_0 | q27_0
  · have hF := hF.1 q27_0
    refine g_tsIn dX4_writeAct_27 (by omega) (by omega) (by rw [q27_0] <;> rfl) rfl ?_
    refine g_aload_n dX4_writeAct_52 rfl ?_
    refine g_aload_n dX4_writeAct_53 rfl ?_
    refine g_getR dX4_writeAct_54 fd_X4_152 hr1.1 rfl ?_
    refine g_iload dX4_writeAct_57 rfl ?_
    obtain ⟨hc, hF⟩ := hF
    refine g_iald dX4_writeAct_59 hr1.2.2.2.1 hc.1 hc.2 ?_
    refine g_aload_n dX4_writeAct_60 rfl ?_
    refine g_getR dX4_writeAct_61 fd_X4_96 hr1.1 rfl ?_
    refine g_iload dX4_writeAct_64 rfl ?_
    obtain ⟨hc, hF⟩ := hF
    refine g_iald dX4_writeAct_66 hr1.2.2.2.2.1 hc.1 hc.2 ?_
    refine g_aload_n dX4_writeAct_67 rfl ?_
    refine g_getR dX4_writeAct_68 fd_X4_18 hk.1 rfl ?_
    refine g_iload_n dX4_writeAct_71 rfl ?_
    obtain ⟨hc, hF⟩ := hF
    refine g_iald dX4_writeAct_72 hk.2.2.2.1 hc.1 hc.2 ?_
    refine gw_cVv (b := k) (As := [g_I (D1 (r1 + 3) (D (k + 2) v3.toNat).toNat), g_I (D1 (r1 + 4) (D (k + 2) v3.toNat).toNat), g_I (D1 (k + 3) v3.toNat)]) (rest := []) dX4_writeAct_73 mv_X4_155 hk.1 rfl (Nat.le_of_ble_eq_true rfl) (by decide) rfl hF ?_
    intro D2 hF
    refine g_goto dX4_writeAct_76 rfl ?_
    exact gw_vret dX4_writeAct_204 rfl hF
  rcases Decidable.em ((D1 (k + 1) v3.toNat) = 2) with q27_1 | q27_1
  · have hF := hF.2.1 q27_1
    refine g_tsIn dX4_writeAct_27 (by omega) (by omega) (by rw [q27_1] <;> rfl) rfl ?_
    refine g_aload_n dX4_writeAct_79 rfl ?_
    refine g_aload_n dX4_writeAct_80 rfl ?_
    refine g_getR dX4_writeAct_81 fd_X4_159 hr1.1 rfl ?_
    refine g_iload dX4_writeAct_84 rfl ?_
    obtain ⟨hc, hF⟩ := hF
    refine g_iald dX4_writeAct_86 hr1.2.2.1 hc.1 hc.2 ?_
    refine g_aload_n dX4_writeAct_87 rfl ?_
    refine g_getR dX4_writeAct_88 fd_X4_152 hr1.1 rfl ?_
    refine g_iload dX4_writeAct_91 rfl ?_
    obtain ⟨hc, hF⟩ := hF
    refine g_iald dX4_writeAct_93 hr1.2.2.2.1 hc.1 hc.2 ?_
    refine g_aload_n dX4_writeAct_94 rfl ?_
    refine g_getR dX4_writeAct_95 fd_X4_96 hr1.1 rfl ?_
    refine g_iload dX4_writeAct_98 rfl ?_
    obtain ⟨hc, hF⟩ := hF
    refine g_iald dX4_writeAct_100 hr1.2.2.2.2.1 hc.1 hc.2 ?_
    refine gw_cVv (b := k) (As := [g_I (D1 (r1 + 2) (D (k + 2) v3.toNat).toNat), g_I (D1 (r1 + 3) (D (k + 2) v3.toNat).toNat), g_I (D1 (r1 + 4) (D (k + 2) v3.toNat).toNat)]) (rest := []) dX4_writeAct_101 mv_X4_155 hk.1 rfl (Nat.le_of_ble_eq_true rfl) (by decide) rfl hF ?_
    intro D3 hF
    refine g_goto dX4_writeAct_104 rfl ?_
    exact gw_vret dX4_writeAct_204 rfl hF
  rcases Decidable.em ((D1 (k + 1) v3.toNat) = 3) with q27_2 | q27_2
  · have hF := hF.2.2.1 q27_2
    refine g_tsIn dX4_writeAct_27 (by omega) (by omega) (by rw [q27_2] <;> rfl) rfl ?_
    refine g_aload_n dX4_writeAct_107 rfl ?_
    refine g_aload_n dX4_writeAct_108 rfl ?_
    refine g_getR dX4_writeAct_109 fd_X4_159 hr1.1 rfl ?_
    refine g_iload dX4_writeAct_112 rfl ?_
    obtain ⟨hc, hF⟩ := hF
    refine g_iald dX4_writeAct_114 hr1.2.2.1 hc.1 hc.2 ?_
    refine g_aload_n dX4_writeAct_115 rfl ?_
    refine g_getR dX4_writeAct_116 fd_X4_18 hk.1 rfl ?_
    refine g_iload_n dX4_writeAct_119 rfl ?_
    obtain ⟨hc, hF⟩ := hF
    refine g_iald dX4_writeAct_120 hk.2.2.2.1 hc.1 hc.2 ?_
    refine g_aload_n dX4_writeAct_121 rfl ?_
    refine g_getR dX4_writeAct_122 fd_X4_96 hr1.1 rfl ?_
    refine g_iload dX4_writeAct_125 rfl ?_
    obtain ⟨hc, hF⟩ := hF
    refine g_iald dX4_writeAct_127 hr1.2.2.2.2.1 hc.1 hc.2 ?_
    refine gw_cVv (b := k) (As := [g_I (D1 (r1 + 2) (D (k + 2) v3.toNat).toNat), g_I (D1 (k + 3) v3.toNat), g_I (D1 (r1 + 4) (D (k + 2) v3.toNat).toNat)]) (rest := []) dX4_writeAct_128 mv_X4_155 hk.1 rfl (Nat.le_of_ble_eq_true rfl) (by decide) rfl hF ?_
    intro D4 hF
    refine g_goto dX4_writeAct_131 rfl ?_
    exact gw_vret dX4_writeAct_204 rfl hF
  have q27 : (D1 (k + 1) v3.toNat) < 1 ∨ 3 < (D1 (k + 1) v3.toNat) := by omega
  have hF := hF.2.2.2 q27
  refine g_tsOut dX4_writeAct_27 q27 rfl ?_
  refine g_aload_n dX4_writeAct_134 rfl ?_
  refine g_getR dX4_writeAct_135 fd_X4_29 hk.1 rfl ?_
  refine g_aload_n dX4_writeAct_138 rfl ?_
  refine g_getR dX4_writeAct_139 fd_X4_159 hr1.1 rfl ?_
  refine g_iload dX4_writeAct_142 rfl ?_
  obtain ⟨hc, hF⟩ := hF
  refine g_iald dX4_writeAct_144 hr1.2.2.1 hc.1 hc.2 ?_
  refine gw_cVv (b := (k + 5)) (As := [g_I (D1 (r1 + 2) (D (k + 2) v3.toNat).toNat)]) (rest := []) dX4_writeAct_145 mv_X4_145 hk.2.2.2.2.2.1 rfl (Nat.le_of_ble_eq_true rfl) (by decide) rfl hF ?_
  intro D5 hF
  refine g_aload_n dX4_writeAct_148 rfl ?_
  refine g_getR dX4_writeAct_149 fd_X4_29 hk.1 rfl ?_
  refine g_aload_n dX4_writeAct_152 rfl ?_
  refine g_getR dX4_writeAct_153 fd_X4_96 hr1.1 rfl ?_
  refine g_iload dX4_writeAct_156 rfl ?_
  obtain ⟨hc, hF⟩ := hF
  refine g_iald dX4_writeAct_158 hr1.2.2.2.2.1 hc.1 hc.2 ?_
  refine gw_cVv (b := (k + 5)) (As := [g_I (D5 (r1 + 4) (D (k + 2) v3.toNat).toNat)]) (rest := []) dX4_writeAct_159 mv_X4_145 hk.2.2.2.2.2.1 rfl (Nat.le_of_ble_eq_true rfl) (by decide) rfl hF ?_
  intro D6 hF
  refine g_iconst dX4_writeAct_162 ⟨by decide, by decide⟩ ?_
  refine gw_istore (L' := [some (g_R k), some (g_R r1), some (g_R r2), some (g_I v3), some (g_I (D (k + 2) v3.toNat)), some (g_I 0)]) dX4_writeAct_163 (by decide) rfl ?_
  exact g_forget (L' := [some (g_R k), some (g_R r1), some (g_R r2), none, some (g_I (D (k + 2) v3.toNat)), some (g_I 0)]) ⟨rfl, ⟨rfl, ⟨rfl, ⟨rfl, ⟨rfl, trivial⟩⟩⟩⟩⟩ hF
theorem s_X4_writeAct_165 {E : g_E} {l : Launch} {D : g_D} {K : g_D → Prop} {nr2 : Nat} {k : Nat} {r1 : Nat} {r2 : Nat} {v4 : Int} {v5 : Int} (hk : is_Plan g_SH k) (hr1 : is_Script g_SH r1) (hr2 : is_Cells g_SH r2 nr2) (hF : g_okD D → g_r v4 → g_r v5 → (0 ≤ v4 ∧ v4 < 20) ∧ (((D (r1 + 4) v4.toNat) ≤ v5 → K D) ∧ (¬ (D (r1 + 4) v4.toNat) ≤ v5 → (0 ≤ v4 ∧ v4 < 20) ∧ ((g_r ((D (r1 + 2) v4.toNat) + v5)) ∧ (k_X0_at E l g_SH D r2 ((D (r1 + 2) v4.toNat) + v5) (fun x1 D1 => g_r x1 → k_X0_push E l g_SH D1 (k + 5) x1 (fun D2 => (g_r (v5 + 1)) ∧ (n_X4_writeAct E l D2 165 [some (g_R k), some (g_R r1), some (g_R r2), none, some (g_I v4), some (g_I (v5 + 1))] K)))))))) : n_X4_writeAct E l D 165 [some (g_R k), some (g_R r1), some (g_R r2), none, some (g_I v4), some (g_I v5)] K := by
  refine g_use (fun ok => ?_)
  have hF := hF ok.2.1 (ok.loc (i := 4) rfl) (ok.loc (i := 5) rfl)
  refine g_iload dX4_writeAct_165 rfl ?_
  refine g_aload_n dX4_writeAct_167 rfl ?_
  refine g_getR dX4_writeAct_168 fd_X4_96 hr1.1 rfl ?_
  refine g_iload dX4_writeAct_171 rfl ?_
  obtain ⟨hc, hF⟩ := hF
  refine g_iald dX4_writeAct_173 hr1.2.2.2.2.1 hc.1 hc.2 ?_
  refine g_cge dX4_writeAct_174 rfl (fun q => ?_) (fun q => ?_)
  · have hF := hF.1 q
    exact gw_vret dX4_writeAct_204 rfl hF
  · have hF := hF.2 q
    refine g_aload_n dX4_writeAct_177 rfl ?_
    refine g_getR dX4_writeAct_178 fd_X4_29 hk.1 rfl ?_
    refine g_aload_n dX4_writeAct_181 rfl ?_
    refine g_aload_n dX4_writeAct_182 rfl ?_
    refine g_getR dX4_writeAct_183 fd_X4_159 hr1.1 rfl ?_
    refine g_iload dX4_writeAct_186 rfl ?_
    obtain ⟨hc, hF⟩ := hF
    refine g_iald dX4_writeAct_188 hr1.2.2.1 hc.1 hc.2 ?_
    refine g_iload dX4_writeAct_189 rfl ?_
    obtain ⟨hc, hF⟩ := hF
    refine g_iadd dX4_writeAct_191 hc ?_
    refine gw_cVi (b := r2) (As := [g_I ((D (r1 + 2) v4.toNat) + v5)]) (rest := [g_R (k + 5)]) dX4_writeAct_192 mv_X4_162 hr2.1 rfl (Nat.le_of_ble_eq_true rfl) (by decide) rfl hF ?_
    intro x1 D1 hx1 hF
    have hF := hF hx1
    refine gw_cVv (b := (k + 5)) (As := [g_I x1]) (rest := []) dX4_writeAct_195 mv_X4_145 hk.2.2.2.2.2.1 rfl (Nat.le_of_ble_eq_true rfl) (by decide) rfl hF ?_
    intro D2 hF
    obtain ⟨hc, hF⟩ := hF
    refine gw_iinc (L' := [some (g_R k), some (g_R r1), some (g_R r2), none, some (g_I v4), some (g_I (v5 + 1))]) dX4_writeAct_198 rfl hc (by decide) rfl ?_
    refine g_goto dX4_writeAct_201 rfl ?_
    exact hF
theorem dX4_write_0 : decode cX4_write 0 = .ok (.aload_n 0, 1) := by decide +kernel
theorem dX4_write_1 : decode cX4_write 1 = .ok (.getfield 29, 3) := by decide +kernel
theorem dX4_write_4 : decode cX4_write 4 = .ok (.iconst 0, 1) := by decide +kernel
theorem dX4_write_5 : decode cX4_write 5 = .ok (.putfield 144, 3) := by decide +kernel
theorem dX4_write_8 : decode cX4_write 8 = .ok (.aload_n 0, 1) := by decide +kernel
theorem dX4_write_9 : decode cX4_write 9 = .ok (.getfield 29, 3) := by decide +kernel
theorem dX4_write_12 : decode cX4_write 12 = .ok (.aload_n 2, 1) := by decide +kernel
theorem dX4_write_13 : decode cX4_write 13 = .ok (.getfield 144, 3) := by decide +kernel
theorem dX4_write_16 : decode cX4_write 16 = .ok (.invokevirtual 145, 3) := by decide +kernel
theorem dX4_write_19 : decode cX4_write 19 = .ok (.iconst 0, 1) := by decide +kernel
theorem dX4_write_20 : decode cX4_write 20 = .ok (.istore_n 3, 1) := by decide +kernel
theorem dX4_write_21 : decode cX4_write 21 = .ok (.iload_n 3, 1) := by decide +kernel
theorem dX4_write_22 : decode cX4_write 22 = .ok (.aload_n 0, 1) := by decide +kernel
theorem dX4_write_23 : decode cX4_write 23 = .ok (.getfield 44, 3) := by decide +kernel
theorem dX4_write_26 : decode cX4_write 26 = .ok (.if_icmp .ge 16, 3) := by decide +kernel
theorem dX4_write_29 : decode cX4_write 29 = .ok (.aload_n 0, 1) := by decide +kernel
theorem dX4_write_30 : decode cX4_write 30 = .ok (.aload_n 1, 1) := by decide +kernel
theorem dX4_write_31 : decode cX4_write 31 = .ok (.aload_n 2, 1) := by decide +kernel
theorem dX4_write_32 : decode cX4_write 32 = .ok (.iload_n 3, 1) := by decide +kernel
theorem dX4_write_33 : decode cX4_write 33 = .ok (.invokevirtual 148, 3) := by decide +kernel
theorem dX4_write_36 : decode cX4_write 36 = .ok (.iinc 3 1, 3) := by decide +kernel
theorem dX4_write_39 : decode cX4_write 39 = .ok (.goto (-18), 3) := by decide +kernel
theorem dX4_write_42 : decode cX4_write 42 = .ok (.return_, 1) := by decide +kernel
abbrev k_X4_write (E : g_E) (l : Launch) (D : g_D) (k : Nat) (r1 : Nat) (r2 : Nat) (K : g_D → Prop) : Prop := g_Kv E l m_X4_write 3 [g_R k, g_R r1, g_R r2] g_SH D K
abbrev n_X4_write (E : g_E) (l : Launch) (D : g_D) (pc : Nat) (L : List (Option g_V)) (K : g_D → Prop) : Prop := g_N E l m_X4_write 3 pc L [] g_SH D (g_Rv g_SH K)
theorem s_X4_write {E : g_E} {l : Launch} {D : g_D} {K : g_D → Prop} {nr2 : Nat} {k : Nat} {r1 : Nat} {r2 : Nat} (hk : is_Plan g_SH k) (hr1 : is_Script g_SH r1) (hr2 : is_Cells g_SH r2 nr2) (hF : g_okD D → ∀ D1, D1 = g_up D (k + 5) 1 0 → (k_X0_push E l g_SH D1 (k + 5) (D1 r2 1) (fun D2 => n_X4_write E l D2 21 [some (g_R k), some (g_R r1), some (g_R r2), some (g_I 0)] K))) : k_X4_write E l D k r1 r2 K := by
  refine g_enter (by decide) (Nat.le_of_ble_eq_true rfl) ?_
  show g_N E l m_X4_write 3 0 [some (g_R k), some (g_R r1), some (g_R r2), none] [] g_SH D (g_Rv g_SH K)
  refine g_use (fun ok => ?_)
  have hF := hF ok.2.1
  refine g_aload_n dX4_write_0 rfl ?_
  refine g_getR dX4_write_1 fd_X4_29 hk.1 rfl ?_
  refine g_iconst dX4_write_4 ⟨by decide, by decide⟩ ?_
  let D1 : g_D := g_up D (k + 5) 1 0
  have hF := hF D1 rfl
  refine g_put dX4_write_5 fd_X4_144 (g_ftyI (C := RX0) (T := TX0) (N := 2) rfl rfl (by decide +kernel)) hk.2.2.2.2.2.1 rfl ?_
  refine g_aload_n dX4_write_8 rfl ?_
  refine g_getR dX4_write_9 fd_X4_29 hk.1 rfl ?_
  refine g_aload_n dX4_write_12 rfl ?_
  refine g_getI dX4_write_13 fd_X4_144 hr2.1 rfl ?_
  refine gw_cVv (b := (k + 5)) (As := [g_I (D1 r2 1)]) (rest := []) dX4_write_16 mv_X4_145 hk.2.2.2.2.2.1 rfl (Nat.le_of_ble_eq_true rfl) (by decide) rfl hF ?_
  intro D2 hF
  refine g_iconst dX4_write_19 ⟨by decide, by decide⟩ ?_
  refine gw_istore_n (L' := [some (g_R k), some (g_R r1), some (g_R r2), some (g_I 0)]) dX4_write_20 (by decide) rfl ?_
  exact hF
theorem s_X4_write_21 {E : g_E} {l : Launch} {D : g_D} {K : g_D → Prop} {nr2 : Nat} {k : Nat} {r1 : Nat} {r2 : Nat} {v3 : Int} (hk : is_Plan g_SH k) (hr1 : is_Script g_SH r1) (hr2 : is_Cells g_SH r2 nr2) (hF : g_okD D → g_r v3 → ((D k 5) ≤ v3 → K D) ∧ (¬ (D k 5) ≤ v3 → k_X4_writeAct E l D k r1 r2 v3 (fun D1 => (g_r (v3 + 1)) ∧ (n_X4_write E l D1 21 [some (g_R k), some (g_R r1), some (g_R r2), some (g_I (v3 + 1))] K)))) : n_X4_write E l D 21 [some (g_R k), some (g_R r1), some (g_R r2), some (g_I v3)] K := by
  refine g_use (fun ok => ?_)
  have hF := hF ok.2.1 (ok.loc (i := 3) rfl)
  refine g_iload_n dX4_write_21 rfl ?_
  refine g_aload_n dX4_write_22 rfl ?_
  refine g_getI dX4_write_23 fd_X4_44 hk.1 rfl ?_
  refine g_cge dX4_write_26 rfl (fun q => ?_) (fun q => ?_)
  · have hF := hF.1 q
    exact gw_vret dX4_write_42 rfl hF
  · have hF := hF.2 q
    refine g_aload_n dX4_write_29 rfl ?_
    refine g_aload_n dX4_write_30 rfl ?_
    refine g_aload_n dX4_write_31 rfl ?_
    refine g_iload_n dX4_write_32 rfl ?_
    refine gw_cVv (b := k) (As := [g_R r1, g_R r2, g_I v3]) (rest := []) dX4_write_33 mv_X4_148 hk.1 rfl (Nat.le_of_ble_eq_true rfl) (by decide) rfl hF ?_
    intro D1 hF
    obtain ⟨hc, hF⟩ := hF
    refine gw_iinc (L' := [some (g_R k), some (g_R r1), some (g_R r2), some (g_I (v3 + 1))]) dX4_write_36 rfl hc (by decide) rfl ?_
    refine g_goto dX4_write_39 rfl ?_
    exact hF
