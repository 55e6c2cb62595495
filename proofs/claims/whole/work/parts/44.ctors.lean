theorem dX0_init_0 : decode cX0_init 0 = .ok (.aload_n 0, 1) := by decide +kernel
theorem dX0_init_1 : decode cX0_init 1 = .ok (.invokespecial 3, 3) := by decide +kernel
theorem dX0_init_4 : decode cX0_init 4 = .ok (.aload_n 0, 1) := by decide +kernel
theorem dX0_init_5 : decode cX0_init 5 = .ok (.iload_n 1, 1) := by decide +kernel
theorem dX0_init_6 : decode cX0_init 6 = .ok (.iconst 0, 1) := by decide +kernel
theorem dX0_init_7 : decode cX0_init 7 = .ok (.invokestatic 9, 3) := by decide +kernel
theorem dX0_init_10 : decode cX0_init 10 = .ok (.newarray .int, 2) := by decide +kernel
theorem dX0_init_12 : decode cX0_init 12 = .ok (.putfield 15, 3) := by decide +kernel
theorem dX0_init_15 : decode cX0_init 15 = .ok (.return_, 1) := by decide +kernel
def cl_X0 (N : Nat) (n : Nat) : List g_Sh := (.inr (.inr (0, [some (some (n + 1)), none])) :: [.inl (0, N)])
abbrev kc_X0 (E : g_E) (l : Launch) (sh0 : List g_Sh) (D : g_D) (v1 : Int) (N : Nat) (K : g_D → Prop) : Prop := g_Mc E l m_X0_init 1 1 N [g_R (sh0.length + 0), g_I v1] sh0 (.inr (.inr (0, [some none, none]))) (cl_X0 N sh0.length) D K
set_option maxRecDepth 20000 in
theorem sc_X0 {E : g_E} {l : Launch} {sh0 : List g_Sh} {D : g_D} {K : g_D → Prop} {v1 : Int} {N : Nat} (hN : (max v1 0).toNat = N) (hN1 : N ≤ 100000) (hF : g_okD D → g_r v1 → ∀ D1, D1 = g_row D (sh0.length + 1) (fun _ => 0) → (K D1)) : kc_X0 E l sh0 D v1 N K := by
  refine g_enter (by decide) (Nat.le_of_ble_eq_true rfl) ?_
  show g_G E l m_X0_init 1 1 N 0 0 0 [some (g_R (sh0.length + 0)), some (g_I v1)] [] (sh0 ++ [.inr (.inr (0, [some none, none]))]) D (g_Rc sh0 (cl_X0 N sh0.length) K)
  refine g_use (fun ok => ?_)
  have hF := hF ok.2.1 (ok.loc (i := 1) rfl)
  refine g_aload_n dX0_init_0 rfl ?_
  refine g_oinit dX0_init_1 oi_X0_3 w_oin w_oco (by decide) (Nat.le_of_ble_eq_true rfl) ?_
  refine g_aload_n dX0_init_4 rfl ?_
  refine g_iload_n dX0_init_5 rfl ?_
  refine g_iconst dX0_init_6 ⟨by decide, by decide⟩ ?_
  refine g_max dX0_init_7 mw_X0_9 (by decide) (Nat.le_of_ble_eq_true rfl) (Nat.zero_le _) (Nat.le_of_ble_eq_true rfl) ?_
  let D1 : g_D := g_row D (sh0.length + 1) (fun _ => 0)
  have hF := hF D1 rfl
  refine gc_newa (k := 1) (N := N) (c' := (.inr (.inr (0, [some none, none])) :: [.inl (0, N)])) (Or.inl ⟨rfl, rfl⟩) dX0_init_10 wa_0 (by omega) (by omega) hN (Nat.le_of_ble_eq_true rfl) (by omega) rfl rfl ?_
  refine gc_putR (k := 0) (c' := (.inr (.inr (0, [some (some (sh0.length + 1)), none])) :: [.inl (0, N)])) dX0_init_12 fd_X0_15 fr_X0_0 rfl rfl (Nat.le_of_ble_eq_true rfl) rfl ?_
  exact gc_ret dX0_init_15 rfl (Nat.le_of_ble_eq_true rfl) (by omega) rfl hF
theorem dX2_init_0 : decode cX2_init 0 = .ok (.aload_n 0, 1) := by decide +kernel
theorem dX2_init_1 : decode cX2_init 1 = .ok (.invokespecial 3, 3) := by decide +kernel
theorem dX2_init_4 : decode cX2_init 4 = .ok (.aload_n 0, 1) := by decide +kernel
theorem dX2_init_5 : decode cX2_init 5 = .ok (.bipush 40, 2) := by decide +kernel
theorem dX2_init_7 : decode cX2_init 7 = .ok (.newarray .int, 2) := by decide +kernel
theorem dX2_init_9 : decode cX2_init 9 = .ok (.putfield 9, 3) := by decide +kernel
theorem dX2_init_12 : decode cX2_init 12 = .ok (.aload_n 0, 1) := by decide +kernel
theorem dX2_init_13 : decode cX2_init 13 = .ok (.bipush 20, 2) := by decide +kernel
theorem dX2_init_15 : decode cX2_init 15 = .ok (.newarray .int, 2) := by decide +kernel
theorem dX2_init_17 : decode cX2_init 17 = .ok (.putfield 15, 3) := by decide +kernel
theorem dX2_init_20 : decode cX2_init 20 = .ok (.aload_n 0, 1) := by decide +kernel
theorem dX2_init_21 : decode cX2_init 21 = .ok (.bipush 40, 2) := by decide +kernel
theorem dX2_init_23 : decode cX2_init 23 = .ok (.newarray .int, 2) := by decide +kernel
theorem dX2_init_25 : decode cX2_init 25 = .ok (.putfield 18, 3) := by decide +kernel
theorem dX2_init_28 : decode cX2_init 28 = .ok (.aload_n 0, 1) := by decide +kernel
theorem dX2_init_29 : decode cX2_init 29 = .ok (.bipush 20, 2) := by decide +kernel
theorem dX2_init_31 : decode cX2_init 31 = .ok (.newarray .int, 2) := by decide +kernel
theorem dX2_init_33 : decode cX2_init 33 = .ok (.putfield 21, 3) := by decide +kernel
theorem dX2_init_36 : decode cX2_init 36 = .ok (.aload_n 0, 1) := by decide +kernel
theorem dX2_init_37 : decode cX2_init 37 = .ok (.new 24, 3) := by decide +kernel
theorem dX2_init_40 : decode cX2_init 40 = .ok (.dup, 1) := by decide +kernel
theorem dX2_init_41 : decode cX2_init 41 = .ok (.sipush 160, 3) := by decide +kernel
theorem dX2_init_44 : decode cX2_init 44 = .ok (.invokespecial 26, 3) := by decide +kernel
theorem dX2_init_47 : decode cX2_init 47 = .ok (.putfield 29, 3) := by decide +kernel
theorem dX2_init_50 : decode cX2_init 50 = .ok (.aload_n 0, 1) := by decide +kernel
theorem dX2_init_51 : decode cX2_init 51 = .ok (.iconst 4, 1) := by decide +kernel
theorem dX2_init_52 : decode cX2_init 52 = .ok (.newarray .int, 2) := by decide +kernel
theorem dX2_init_54 : decode cX2_init 54 = .ok (.putfield 33, 3) := by decide +kernel
theorem dX2_init_57 : decode cX2_init 57 = .ok (.aload_n 0, 1) := by decide +kernel
theorem dX2_init_58 : decode cX2_init 58 = .ok (.getfield 9, 3) := by decide +kernel
theorem dX2_init_61 : decode cX2_init 61 = .ok (.sipush 255, 3) := by decide +kernel
theorem dX2_init_64 : decode cX2_init 64 = .ok (.invokestatic 36, 3) := by decide +kernel
theorem dX2_init_67 : decode cX2_init 67 = .ok (.aload_n 0, 1) := by decide +kernel
theorem dX2_init_68 : decode cX2_init 68 = .ok (.getfield 15, 3) := by decide +kernel
theorem dX2_init_71 : decode cX2_init 71 = .ok (.sipush 255, 3) := by decide +kernel
theorem dX2_init_74 : decode cX2_init 74 = .ok (.invokestatic 36, 3) := by decide +kernel
theorem dX2_init_77 : decode cX2_init 77 = .ok (.aload_n 0, 1) := by decide +kernel
theorem dX2_init_78 : decode cX2_init 78 = .ok (.getfield 18, 3) := by decide +kernel
theorem dX2_init_81 : decode cX2_init 81 = .ok (.sipush 255, 3) := by decide +kernel
theorem dX2_init_84 : decode cX2_init 84 = .ok (.invokestatic 36, 3) := by decide +kernel
theorem dX2_init_87 : decode cX2_init 87 = .ok (.aload_n 0, 1) := by decide +kernel
theorem dX2_init_88 : decode cX2_init 88 = .ok (.getfield 21, 3) := by decide +kernel
theorem dX2_init_91 : decode cX2_init 91 = .ok (.sipush 255, 3) := by decide +kernel
theorem dX2_init_94 : decode cX2_init 94 = .ok (.invokestatic 36, 3) := by decide +kernel
theorem dX2_init_97 : decode cX2_init 97 = .ok (.aload_n 0, 1) := by decide +kernel
theorem dX2_init_98 : decode cX2_init 98 = .ok (.iconst (-1), 1) := by decide +kernel
theorem dX2_init_99 : decode cX2_init 99 = .ok (.putfield 42, 3) := by decide +kernel
theorem dX2_init_102 : decode cX2_init 102 = .ok (.aload_n 0, 1) := by decide +kernel
theorem dX2_init_103 : decode cX2_init 103 = .ok (.iconst 1, 1) := by decide +kernel
theorem dX2_init_104 : decode cX2_init 104 = .ok (.putfield 46, 3) := by decide +kernel
theorem dX2_init_107 : decode cX2_init 107 = .ok (.aload_n 0, 1) := by decide +kernel
theorem dX2_init_108 : decode cX2_init 108 = .ok (.iconst 1, 1) := by decide +kernel
theorem dX2_init_109 : decode cX2_init 109 = .ok (.putfield 50, 3) := by decide +kernel
theorem dX2_init_112 : decode cX2_init 112 = .ok (.aload_n 0, 1) := by decide +kernel
theorem dX2_init_113 : decode cX2_init 113 = .ok (.getfield 29, 3) := by decide +kernel
theorem dX2_init_116 : decode cX2_init 116 = .ok (.iconst 0, 1) := by decide +kernel
theorem dX2_init_117 : decode cX2_init 117 = .ok (.invokevirtual 53, 3) := by decide +kernel
theorem dX2_init_120 : decode cX2_init 120 = .ok (.return_, 1) := by decide +kernel
def cl_X2 (n : Nat) : List g_Sh := (.inr (.inr (2, [some (some (n + 1)), some (some (n + 2)), some (some (n + 3)), some (some (n + 4)), some (some (n + 5)), some (some (n + 7)), none, none, none, none])) :: (.inl (0, 40) :: (.inl (0, 20) :: (.inl (0, 40) :: (.inl (0, 20) :: (cl_X0 160 (n + 5) ++ [.inl (0, 4)]))))))
abbrev kc_X2 (E : g_E) (l : Launch) (sh0 : List g_Sh) (D : g_D) (K : g_D → Prop) : Prop := g_Mc E l m_X2_init 2 7 286 [g_R (sh0.length + 0)] sh0 (.inr (.inr (2, [some none, some none, some none, some none, some none, some none, none, none, none, none]))) (cl_X2 sh0.length) D K
set_option maxRecDepth 20000 in
theorem sc_X2 {E : g_E} {l : Launch} {sh0 : List g_Sh} {D : g_D} {K : g_D → Prop} (hF : g_okD D → ∀ D1, D1 = g_row D (sh0.length + 1) (fun _ => 0) → (∀ D2, D2 = g_row D1 (sh0.length + 2) (fun _ => 0) → (∀ D3, D3 = g_row D2 (sh0.length + 3) (fun _ => 0) → (∀ D4, D4 = g_row D3 (sh0.length + 4) (fun _ => 0) → (∀ D5, D5 = g_row D4 (sh0.length + 5) (fun _ => 0) → (kc_X0 E l (sh0 ++ (.inr (.inr (2, [some (some (sh0.length + 1)), some (some (sh0.length + 2)), some (some (sh0.length + 3)), some (some (sh0.length + 4)), some none, some none, none, none, none, none])) :: (.inl (0, 40) :: (.inl (0, 20) :: (.inl (0, 40) :: [.inl (0, 20)]))))) D5 160 160 (fun D6 => ∀ D7, D7 = g_row D6 (sh0.length + 7) (fun _ => 0) → (k_J7_fill_53178 E l (sh0 ++ (.inr (.inr (2, [some (some (sh0.length + 1)), some (some (sh0.length + 2)), some (some (sh0.length + 3)), some (some (sh0.length + 4)), some (some (sh0.length + 5)), some (some (sh0.length + 7)), none, none, none, none])) :: (.inl (0, 40) :: (.inl (0, 20) :: (.inl (0, 40) :: (.inl (0, 20) :: (cl_X0 160 (sh0.length + 5) ++ [.inl (0, 4)]))))))) D7 (sh0.length + 1) 255 (fun D8 => k_J7_fill_53178 E l (sh0 ++ (.inr (.inr (2, [some (some (sh0.length + 1)), some (some (sh0.length + 2)), some (some (sh0.length + 3)), some (some (sh0.length + 4)), some (some (sh0.length + 5)), some (some (sh0.length + 7)), none, none, none, none])) :: (.inl (0, 40) :: (.inl (0, 20) :: (.inl (0, 40) :: (.inl (0, 20) :: (cl_X0 160 (sh0.length + 5) ++ [.inl (0, 4)]))))))) D8 (sh0.length + 2) 255 (fun D9 => k_J7_fill_53178 E l (sh0 ++ (.inr (.inr (2, [some (some (sh0.length + 1)), some (some (sh0.length + 2)), some (some (sh0.length + 3)), some (some (sh0.length + 4)), some (some (sh0.length + 5)), some (some (sh0.length + 7)), none, none, none, none])) :: (.inl (0, 40) :: (.inl (0, 20) :: (.inl (0, 40) :: (.inl (0, 20) :: (cl_X0 160 (sh0.length + 5) ++ [.inl (0, 4)]))))))) D9 (sh0.length + 3) 255 (fun D10 => k_J7_fill_53178 E l (sh0 ++ (.inr (.inr (2, [some (some (sh0.length + 1)), some (some (sh0.length + 2)), some (some (sh0.length + 3)), some (some (sh0.length + 4)), some (some (sh0.length + 5)), some (some (sh0.length + 7)), none, none, none, none])) :: (.inl (0, 40) :: (.inl (0, 20) :: (.inl (0, 40) :: (.inl (0, 20) :: (cl_X0 160 (sh0.length + 5) ++ [.inl (0, 4)]))))))) D10 (sh0.length + 4) 255 (fun D11 => ∀ D12, D12 = g_up D11 (sh0.length + 0) 6 (-1) → (∀ D13, D13 = g_up D12 (sh0.length + 0) 8 1 → (∀ D14, D14 = g_up D13 (sh0.length + 0) 9 1 → (k_X0_push E l (sh0 ++ (.inr (.inr (2, [some (some (sh0.length + 1)), some (some (sh0.length + 2)), some (some (sh0.length + 3)), some (some (sh0.length + 4)), some (some (sh0.length + 5)), some (some (sh0.length + 7)), none, none, none, none])) :: (.inl (0, 40) :: (.inl (0, 20) :: (.inl (0, 40) :: (.inl (0, 20) :: (cl_X0 160 (sh0.length + 5) ++ [.inl (0, 4)]))))))) D14 (sh0.length + 5) 0 (fun D15 => K D15)))))))))))))))) : kc_X2 E l sh0 D K := by
  refine g_enter (by decide) (Nat.le_of_ble_eq_true rfl) ?_
  show g_G E l m_X2_init 2 7 286 0 0 0 [some (g_R (sh0.length + 0))] [] (sh0 ++ [.inr (.inr (2, [some none, some none, some none, some none, some none, some none, none, none, none, none]))]) D (g_Rc sh0 (cl_X2 sh0.length) K)
  refine g_use (fun ok => ?_)
  have hF := hF ok.2.1
  refine g_aload_n dX2_init_0 rfl ?_
  refine g_oinit dX2_init_1 oi_X2_3 w_oin w_oco (by decide) (Nat.le_of_ble_eq_true rfl) ?_
  refine g_aload_n dX2_init_4 rfl ?_
  refine g_bipush dX2_init_5 ⟨by decide, by decide⟩ ?_
  let D1 : g_D := g_row D (sh0.length + 1) (fun _ => 0)
  have hF := hF D1 rfl
  refine gc_newa (k := 1) (N := 40) (c' := (.inr (.inr (2, [some none, some none, some none, some none, some none, some none, none, none, none, none])) :: [.inl (0, 40)])) (Or.inl ⟨rfl, rfl⟩) dX2_init_7 wa_0 (by decide) (by decide) rfl (Nat.le_of_ble_eq_true rfl) (Nat.le_of_ble_eq_true rfl) rfl rfl ?_
  refine gc_putR (k := 0) (c' := (.inr (.inr (2, [some (some (sh0.length + 1)), some none, some none, some none, some none, some none, none, none, none, none])) :: [.inl (0, 40)])) dX2_init_9 fd_X2_9 fr_X2_0 rfl rfl (Nat.le_of_ble_eq_true rfl) rfl ?_
  refine g_aload_n dX2_init_12 rfl ?_
  refine g_bipush dX2_init_13 ⟨by decide, by decide⟩ ?_
  let D2 : g_D := g_row D1 (sh0.length + 2) (fun _ => 0)
  have hF := hF D2 rfl
  refine gc_newa (k := 2) (N := 20) (c' := (.inr (.inr (2, [some (some (sh0.length + 1)), some none, some none, some none, some none, some none, none, none, none, none])) :: (.inl (0, 40) :: [.inl (0, 20)]))) (Or.inl ⟨rfl, rfl⟩) dX2_init_15 wa_0 (by decide) (by decide) rfl (Nat.le_of_ble_eq_true rfl) (Nat.le_of_ble_eq_true rfl) rfl rfl ?_
  refine gc_putR (k := 0) (c' := (.inr (.inr (2, [some (some (sh0.length + 1)), some (some (sh0.length + 2)), some none, some none, some none, some none, none, none, none, none])) :: (.inl (0, 40) :: [.inl (0, 20)]))) dX2_init_17 fd_X2_15 fr_X2_1 rfl rfl (Nat.le_of_ble_eq_true rfl) rfl ?_
  refine g_aload_n dX2_init_20 rfl ?_
  refine g_bipush dX2_init_21 ⟨by decide, by decide⟩ ?_
  let D3 : g_D := g_row D2 (sh0.length + 3) (fun _ => 0)
  have hF := hF D3 rfl
  refine gc_newa (k := 3) (N := 40) (c' := (.inr (.inr (2, [some (some (sh0.length + 1)), some (some (sh0.length + 2)), some none, some none, some none, some none, none, none, none, none])) :: (.inl (0, 40) :: (.inl (0, 20) :: [.inl (0, 40)])))) (Or.inl ⟨rfl, rfl⟩) dX2_init_23 wa_0 (by decide) (by decide) rfl (Nat.le_of_ble_eq_true rfl) (Nat.le_of_ble_eq_true rfl) rfl rfl ?_
  refine gc_putR (k := 0) (c' := (.inr (.inr (2, [some (some (sh0.length + 1)), some (some (sh0.length + 2)), some (some (sh0.length + 3)), some none, some none, some none, none, none, none, none])) :: (.inl (0, 40) :: (.inl (0, 20) :: [.inl (0, 40)])))) dX2_init_25 fd_X2_18 fr_X2_2 rfl rfl (Nat.le_of_ble_eq_true rfl) rfl ?_
  refine g_aload_n dX2_init_28 rfl ?_
  refine g_bipush dX2_init_29 ⟨by decide, by decide⟩ ?_
  let D4 : g_D := g_row D3 (sh0.length + 4) (fun _ => 0)
  have hF := hF D4 rfl
  refine gc_newa (k := 4) (N := 20) (c' := (.inr (.inr (2, [some (some (sh0.length + 1)), some (some (sh0.length + 2)), some (some (sh0.length + 3)), some none, some none, some none, none, none, none, none])) :: (.inl (0, 40) :: (.inl (0, 20) :: (.inl (0, 40) :: [.inl (0, 20)]))))) (Or.inl ⟨rfl, rfl⟩) dX2_init_31 wa_0 (by decide) (by decide) rfl (Nat.le_of_ble_eq_true rfl) (Nat.le_of_ble_eq_true rfl) rfl rfl ?_
  refine gc_putR (k := 0) (c' := (.inr (.inr (2, [some (some (sh0.length + 1)), some (some (sh0.length + 2)), some (some (sh0.length + 3)), some (some (sh0.length + 4)), some none, some none, none, none, none, none])) :: (.inl (0, 40) :: (.inl (0, 20) :: (.inl (0, 40) :: [.inl (0, 20)]))))) dX2_init_33 fd_X2_21 fr_X2_3 rfl rfl (Nat.le_of_ble_eq_true rfl) rfl ?_
  refine g_aload_n dX2_init_36 rfl ?_
  let D5 : g_D := g_row D4 (sh0.length + 5) (fun _ => 0)
  have hF := hF D5 rfl
  refine gc_new (k := 5) (c' := (.inr (.inr (2, [some (some (sh0.length + 1)), some (some (sh0.length + 2)), some (some (sh0.length + 3)), some (some (sh0.length + 4)), some none, some none, none, none, none, none])) :: (.inl (0, 40) :: (.inl (0, 20) :: (.inl (0, 40) :: (.inl (0, 20) :: [.inr (.inr (0, [some none, none]))])))))) dX2_init_37 nd_X2_24 (Nat.le_of_ble_eq_true rfl) (Nat.le_of_ble_eq_true rfl) rfl rfl ?_
  refine g_dup dX2_init_40 rfl ?_
  refine g_sipush dX2_init_41 ⟨by decide, by decide⟩ ?_
  refine gc_callI (k := 5) (As := [g_I 160]) (rest := [g_R (sh0.length + 5), g_R (sh0.length + 0)]) (c1 := (.inr (.inr (2, [some (some (sh0.length + 1)), some (some (sh0.length + 2)), some (some (sh0.length + 3)), some (some (sh0.length + 4)), some none, some none, none, none, none, none])) :: (.inl (0, 40) :: (.inl (0, 20) :: (.inl (0, 40) :: [.inl (0, 20)]))))) (c' := (.inr (.inr (2, [some (some (sh0.length + 1)), some (some (sh0.length + 2)), some (some (sh0.length + 3)), some (some (sh0.length + 4)), some none, some none, none, none, none, none])) :: (.inl (0, 40) :: (.inl (0, 20) :: (.inl (0, 40) :: (.inl (0, 20) :: (cl_X0 160 (sh0.length + 5)))))))) (cl := cl_X0 160) dX2_init_44 mi_X2_26 rfl rfl rfl (Nat.le_of_ble_eq_true rfl) (by decide) (Nat.le_of_ble_eq_true rfl) (Nat.le_of_ble_eq_true rfl) rfl rfl rfl rfl hF ?_
  intro D6 hF
  refine gc_putR (k := 0) (c' := (.inr (.inr (2, [some (some (sh0.length + 1)), some (some (sh0.length + 2)), some (some (sh0.length + 3)), some (some (sh0.length + 4)), some (some (sh0.length + 5)), some none, none, none, none, none])) :: (.inl (0, 40) :: (.inl (0, 20) :: (.inl (0, 40) :: (.inl (0, 20) :: (cl_X0 160 (sh0.length + 5)))))))) dX2_init_47 fd_X2_29 fr_X2_4 rfl rfl (Nat.le_of_ble_eq_true rfl) rfl ?_
  refine g_aload_n dX2_init_50 rfl ?_
  refine g_iconst dX2_init_51 ⟨by decide, by decide⟩ ?_
  let D7 : g_D := g_row D6 (sh0.length + 7) (fun _ => 0)
  have hF := hF D7 rfl
  refine gc_newa (k := 7) (N := 4) (c' := (.inr (.inr (2, [some (some (sh0.length + 1)), some (some (sh0.length + 2)), some (some (sh0.length + 3)), some (some (sh0.length + 4)), some (some (sh0.length + 5)), some none, none, none, none, none])) :: (.inl (0, 40) :: (.inl (0, 20) :: (.inl (0, 40) :: (.inl (0, 20) :: (cl_X0 160 (sh0.length + 5) ++ [.inl (0, 4)]))))))) (Or.inl ⟨rfl, rfl⟩) dX2_init_52 wa_0 (by decide) (by decide) rfl (Nat.le_of_ble_eq_true rfl) (Nat.le_of_ble_eq_true rfl) rfl rfl ?_
  refine gc_putR (k := 0) (c' := (.inr (.inr (2, [some (some (sh0.length + 1)), some (some (sh0.length + 2)), some (some (sh0.length + 3)), some (some (sh0.length + 4)), some (some (sh0.length + 5)), some (some (sh0.length + 7)), none, none, none, none])) :: (.inl (0, 40) :: (.inl (0, 20) :: (.inl (0, 40) :: (.inl (0, 20) :: (cl_X0 160 (sh0.length + 5) ++ [.inl (0, 4)]))))))) dX2_init_54 fd_X2_33 fr_X2_5 rfl rfl (Nat.le_of_ble_eq_true rfl) rfl ?_
  refine g_aload_n dX2_init_57 rfl ?_
  refine g_getR dX2_init_58 fd_X2_9 (g_apx (i := 0) rfl) rfl ?_
  refine g_sipush dX2_init_61 ⟨by decide, by decide⟩ ?_
  refine gc_cSv (As := [g_R (sh0.length + 1), g_I 255]) (rest := []) dX2_init_64 ms_X2_36 rfl (Nat.le_of_ble_eq_true rfl) (by decide) (Nat.le_of_ble_eq_true rfl) (Nat.le_of_ble_eq_true rfl) rfl hF ?_
  intro D8 hF
  refine g_aload_n dX2_init_67 rfl ?_
  refine g_getR dX2_init_68 fd_X2_15 (g_apx (i := 0) rfl) rfl ?_
  refine g_sipush dX2_init_71 ⟨by decide, by decide⟩ ?_
  refine gc_cSv (As := [g_R (sh0.length + 2), g_I 255]) (rest := []) dX2_init_74 ms_X2_36 rfl (Nat.le_of_ble_eq_true rfl) (by decide) (Nat.le_of_ble_eq_true rfl) (Nat.le_of_ble_eq_true rfl) rfl hF ?_
  intro D9 hF
  refine g_aload_n dX2_init_77 rfl ?_
  refine g_getR dX2_init_78 fd_X2_18 (g_apx (i := 0) rfl) rfl ?_
  refine g_sipush dX2_init_81 ⟨by decide, by decide⟩ ?_
  refine gc_cSv (As := [g_R (sh0.length + 3), g_I 255]) (rest := []) dX2_init_84 ms_X2_36 rfl (Nat.le_of_ble_eq_true rfl) (by decide) (Nat.le_of_ble_eq_true rfl) (Nat.le_of_ble_eq_true rfl) rfl hF ?_
  intro D10 hF
  refine g_aload_n dX2_init_87 rfl ?_
  refine g_getR dX2_init_88 fd_X2_21 (g_apx (i := 0) rfl) rfl ?_
  refine g_sipush dX2_init_91 ⟨by decide, by decide⟩ ?_
  refine gc_cSv (As := [g_R (sh0.length + 4), g_I 255]) (rest := []) dX2_init_94 ms_X2_36 rfl (Nat.le_of_ble_eq_true rfl) (by decide) (Nat.le_of_ble_eq_true rfl) (Nat.le_of_ble_eq_true rfl) rfl hF ?_
  intro D11 hF
  refine g_aload_n dX2_init_97 rfl ?_
  refine g_iconst dX2_init_98 ⟨by decide, by decide⟩ ?_
  let D12 : g_D := g_up D11 (sh0.length + 0) 6 (-1)
  have hF := hF D12 rfl
  refine g_put dX2_init_99 fd_X2_42 (g_ftyI (C := RX2) (T := TX2) (N := 10) rfl rfl (by decide +kernel)) (g_apx (i := 0) rfl) rfl ?_
  refine g_aload_n dX2_init_102 rfl ?_
  refine g_iconst dX2_init_103 ⟨by decide, by decide⟩ ?_
  let D13 : g_D := g_up D12 (sh0.length + 0) 8 1
  have hF := hF D13 rfl
  refine g_put dX2_init_104 fd_X2_46 (g_ftyZ (C := RX2) (T := TX2) (N := 10) rfl rfl (by decide +kernel) (by decide)) (g_apx (i := 0) rfl) rfl ?_
  refine g_aload_n dX2_init_107 rfl ?_
  refine g_iconst dX2_init_108 ⟨by decide, by decide⟩ ?_
  let D14 : g_D := g_up D13 (sh0.length + 0) 9 1
  have hF := hF D14 rfl
  refine g_put dX2_init_109 fd_X2_50 (g_ftyZ (C := RX2) (T := TX2) (N := 10) rfl rfl (by decide +kernel) (by decide)) (g_apx (i := 0) rfl) rfl ?_
  refine g_aload_n dX2_init_112 rfl ?_
  refine g_getR dX2_init_113 fd_X2_29 (g_apx (i := 0) rfl) rfl ?_
  refine g_iconst dX2_init_116 ⟨by decide, by decide⟩ ?_
  refine gc_cVv (k := 5) (As := [g_I 0]) (rest := []) dX2_init_117 mv_X2_53 rfl rfl (Nat.le_of_ble_eq_true rfl) (by decide) (Nat.le_of_ble_eq_true rfl) (Nat.le_of_ble_eq_true rfl) rfl hF ?_
  intro D15 hF
  exact gc_ret dX2_init_120 rfl (Nat.le_of_ble_eq_true rfl) (Nat.le_of_ble_eq_true rfl) rfl hF
theorem dX5_init_0 : decode cX5_init 0 = .ok (.aload_n 0, 1) := by decide +kernel
theorem dX5_init_1 : decode cX5_init 1 = .ok (.invokespecial 3, 3) := by decide +kernel
theorem dX5_init_4 : decode cX5_init 4 = .ok (.aload_n 0, 1) := by decide +kernel
theorem dX5_init_5 : decode cX5_init 5 = .ok (.bipush 36, 2) := by decide +kernel
theorem dX5_init_7 : decode cX5_init 7 = .ok (.newarray .int, 2) := by decide +kernel
theorem dX5_init_9 : decode cX5_init 9 = .ok (.putfield 9, 3) := by decide +kernel
theorem dX5_init_12 : decode cX5_init 12 = .ok (.aload_n 0, 1) := by decide +kernel
theorem dX5_init_13 : decode cX5_init 13 = .ok (.bipush 36, 2) := by decide +kernel
theorem dX5_init_15 : decode cX5_init 15 = .ok (.newarray .int, 2) := by decide +kernel
theorem dX5_init_17 : decode cX5_init 17 = .ok (.putfield 15, 3) := by decide +kernel
theorem dX5_init_20 : decode cX5_init 20 = .ok (.aload_n 0, 1) := by decide +kernel
theorem dX5_init_21 : decode cX5_init 21 = .ok (.bipush 36, 2) := by decide +kernel
theorem dX5_init_23 : decode cX5_init 23 = .ok (.newarray .int, 2) := by decide +kernel
theorem dX5_init_25 : decode cX5_init 25 = .ok (.putfield 18, 3) := by decide +kernel
theorem dX5_init_28 : decode cX5_init 28 = .ok (.aload_n 0, 1) := by decide +kernel
theorem dX5_init_29 : decode cX5_init 29 = .ok (.bipush 36, 2) := by decide +kernel
theorem dX5_init_31 : decode cX5_init 31 = .ok (.newarray .int, 2) := by decide +kernel
theorem dX5_init_33 : decode cX5_init 33 = .ok (.putfield 21, 3) := by decide +kernel
theorem dX5_init_36 : decode cX5_init 36 = .ok (.aload_n 0, 1) := by decide +kernel
theorem dX5_init_37 : decode cX5_init 37 = .ok (.iconst (-1), 1) := by decide +kernel
theorem dX5_init_38 : decode cX5_init 38 = .ok (.putfield 24, 3) := by decide +kernel
theorem dX5_init_41 : decode cX5_init 41 = .ok (.return_, 1) := by decide +kernel
def cl_X5 (n : Nat) : List g_Sh := (.inr (.inr (5, [some (some (n + 1)), some (some (n + 2)), some (some (n + 3)), some (some (n + 4)), none, none, none, none, none])) :: (.inl (0, 36) :: (.inl (0, 36) :: (.inl (0, 36) :: [.inl (0, 36)]))))
abbrev kc_X5 (E : g_E) (l : Launch) (sh0 : List g_Sh) (D : g_D) (K : g_D → Prop) : Prop := g_Mc E l m_X5_init 1 4 144 [g_R (sh0.length + 0)] sh0 (.inr (.inr (5, [some none, some none, some none, some none, none, none, none, none, none]))) (cl_X5 sh0.length) D K
set_option maxRecDepth 20000 in
theorem sc_X5 {E : g_E} {l : Launch} {sh0 : List g_Sh} {D : g_D} {K : g_D → Prop} (hF : g_okD D → ∀ D1, D1 = g_row D (sh0.length + 1) (fun _ => 0) → (∀ D2, D2 = g_row D1 (sh0.length + 2) (fun _ => 0) → (∀ D3, D3 = g_row D2 (sh0.length + 3) (fun _ => 0) → (∀ D4, D4 = g_row D3 (sh0.length + 4) (fun _ => 0) → (∀ D5, D5 = g_up D4 (sh0.length + 0) 6 (-1) → (K D5)))))) : kc_X5 E l sh0 D K := by
  refine g_enter (by decide) (Nat.le_of_ble_eq_true rfl) ?_
  show g_G E l m_X5_init 1 4 144 0 0 0 [some (g_R (sh0.length + 0))] [] (sh0 ++ [.inr (.inr (5, [some none, some none, some none, some none, none, none, none, none, none]))]) D (g_Rc sh0 (cl_X5 sh0.length) K)
  refine g_use (fun ok => ?_)
  have hF := hF ok.2.1
  refine g_aload_n dX5_init_0 rfl ?_
  refine g_oinit dX5_init_1 oi_X5_3 w_oin w_oco (by decide) (Nat.le_of_ble_eq_true rfl) ?_
  refine g_aload_n dX5_init_4 rfl ?_
  refine g_bipush dX5_init_5 ⟨by decide, by decide⟩ ?_
  let D1 : g_D := g_row D (sh0.length + 1) (fun _ => 0)
  have hF := hF D1 rfl
  refine gc_newa (k := 1) (N := 36) (c' := (.inr (.inr (5, [some none, some none, some none, some none, none, none, none, none, none])) :: [.inl (0, 36)])) (Or.inl ⟨rfl, rfl⟩) dX5_init_7 wa_0 (by decide) (by decide) rfl (Nat.le_of_ble_eq_true rfl) (Nat.le_of_ble_eq_true rfl) rfl rfl ?_
  refine gc_putR (k := 0) (c' := (.inr (.inr (5, [some (some (sh0.length + 1)), some none, some none, some none, none, none, none, none, none])) :: [.inl (0, 36)])) dX5_init_9 fd_X5_9 fr_X5_0 rfl rfl (Nat.le_of_ble_eq_true rfl) rfl ?_
  refine g_aload_n dX5_init_12 rfl ?_
  refine g_bipush dX5_init_13 ⟨by decide, by decide⟩ ?_
  let D2 : g_D := g_row D1 (sh0.length + 2) (fun _ => 0)
  have hF := hF D2 rfl
  refine gc_newa (k := 2) (N := 36) (c' := (.inr (.inr (5, [some (some (sh0.length + 1)), some none, some none, some none, none, none, none, none, none])) :: (.inl (0, 36) :: [.inl (0, 36)]))) (Or.inl ⟨rfl, rfl⟩) dX5_init_15 wa_0 (by decide) (by decide) rfl (Nat.le_of_ble_eq_true rfl) (Nat.le_of_ble_eq_true rfl) rfl rfl ?_
  refine gc_putR (k := 0) (c' := (.inr (.inr (5, [some (some (sh0.length + 1)), some (some (sh0.length + 2)), some none, some none, none, none, none, none, none])) :: (.inl (0, 36) :: [.inl (0, 36)]))) dX5_init_17 fd_X5_15 fr_X5_1 rfl rfl (Nat.le_of_ble_eq_true rfl) rfl ?_
  refine g_aload_n dX5_init_20 rfl ?_
  refine g_bipush dX5_init_21 ⟨by decide, by decide⟩ ?_
  let D3 : g_D := g_row D2 (sh0.length + 3) (fun _ => 0)
  have hF := hF D3 rfl
  refine gc_newa (k := 3) (N := 36) (c' := (.inr (.inr (5, [some (some (sh0.length + 1)), some (some (sh0.length + 2)), some none, some none, none, none, none, none, none])) :: (.inl (0, 36) :: (.inl (0, 36) :: [.inl (0, 36)])))) (Or.inl ⟨rfl, rfl⟩) dX5_init_23 wa_0 (by decide) (by decide) rfl (Nat.le_of_ble_eq_true rfl) (Nat.le_of_ble_eq_true rfl) rfl rfl ?_
  refine gc_putR (k := 0) (c' := (.inr (.inr (5, [some (some (sh0.length + 1)), some (some (sh0.length + 2)), some (some (sh0.length + 3)), some none, none, none, none, none, none])) :: (.inl (0, 36) :: (.inl (0, 36) :: [.inl (0, 36)])))) dX5_init_25 fd_X5_18 fr_X5_2 rfl rfl (Nat.le_of_ble_eq_true rfl) rfl ?_
  refine g_aload_n dX5_init_28 rfl ?_
  refine g_bipush dX5_init_29 ⟨by decide, by decide⟩ ?_
  let D4 : g_D := g_row D3 (sh0.length + 4) (fun _ => 0)
  have hF := hF D4 rfl
  refine gc_newa (k := 4) (N := 36) (c' := (.inr (.inr (5, [some (some (sh0.length + 1)), some (some (sh0.length + 2)), some (some (sh0.length + 3)), some none, none, none, none, none, none])) :: (.inl (0, 36) :: (.inl (0, 36) :: (.inl (0, 36) :: [.inl (0, 36)]))))) (Or.inl ⟨rfl, rfl⟩) dX5_init_31 wa_0 (by decide) (by decide) rfl (Nat.le_of_ble_eq_true rfl) (Nat.le_of_ble_eq_true rfl) rfl rfl ?_
  refine gc_putR (k := 0) (c' := (.inr (.inr (5, [some (some (sh0.length + 1)), some (some (sh0.length + 2)), some (some (sh0.length + 3)), some (some (sh0.length + 4)), none, none, none, none, none])) :: (.inl (0, 36) :: (.inl (0, 36) :: (.inl (0, 36) :: [.inl (0, 36)]))))) dX5_init_33 fd_X5_21 fr_X5_3 rfl rfl (Nat.le_of_ble_eq_true rfl) rfl ?_
  refine g_aload_n dX5_init_36 rfl ?_
  refine g_iconst dX5_init_37 ⟨by decide, by decide⟩ ?_
  let D5 : g_D := g_up D4 (sh0.length + 0) 6 (-1)
  have hF := hF D5 rfl
  refine g_put dX5_init_38 fd_X5_24 (g_ftyI (C := RX5) (T := TX5) (N := 9) rfl rfl (by decide +kernel)) (g_apx (i := 0) rfl) rfl ?_
  exact gc_ret dX5_init_41 rfl (Nat.le_of_ble_eq_true rfl) (Nat.le_of_ble_eq_true rfl) rfl hF
theorem dX6_init_0 : decode cX6_init 0 = .ok (.aload_n 0, 1) := by decide +kernel
theorem dX6_init_1 : decode cX6_init 1 = .ok (.invokespecial 3, 3) := by decide +kernel
theorem dX6_init_4 : decode cX6_init 4 = .ok (.aload_n 0, 1) := by decide +kernel
theorem dX6_init_5 : decode cX6_init 5 = .ok (.bipush 20, 2) := by decide +kernel
theorem dX6_init_7 : decode cX6_init 7 = .ok (.newarray .int, 2) := by decide +kernel
theorem dX6_init_9 : decode cX6_init 9 = .ok (.putfield 9, 3) := by decide +kernel
theorem dX6_init_12 : decode cX6_init 12 = .ok (.aload_n 0, 1) := by decide +kernel
theorem dX6_init_13 : decode cX6_init 13 = .ok (.bipush 21, 2) := by decide +kernel
theorem dX6_init_15 : decode cX6_init 15 = .ok (.newarray .int, 2) := by decide +kernel
theorem dX6_init_17 : decode cX6_init 17 = .ok (.putfield 15, 3) := by decide +kernel
theorem dX6_init_20 : decode cX6_init 20 = .ok (.aload_n 0, 1) := by decide +kernel
theorem dX6_init_21 : decode cX6_init 21 = .ok (.bipush 20, 2) := by decide +kernel
theorem dX6_init_23 : decode cX6_init 23 = .ok (.newarray .int, 2) := by decide +kernel
theorem dX6_init_25 : decode cX6_init 25 = .ok (.putfield 18, 3) := by decide +kernel
theorem dX6_init_28 : decode cX6_init 28 = .ok (.return_, 1) := by decide +kernel
def cl_X6 (n : Nat) : List g_Sh := (.inr (.inr (6, [some (some (n + 1)), some (some (n + 2)), some (some (n + 3)), none, none, none, none, none, none])) :: (.inl (0, 20) :: (.inl (0, 21) :: [.inl (0, 20)])))
abbrev kc_X6 (E : g_E) (l : Launch) (sh0 : List g_Sh) (D : g_D) (K : g_D → Prop) : Prop := g_Mc E l m_X6_init 1 3 61 [g_R (sh0.length + 0)] sh0 (.inr (.inr (6, [some none, some none, some none, none, none, none, none, none, none]))) (cl_X6 sh0.length) D K
set_option maxRecDepth 20000 in
theorem sc_X6 {E : g_E} {l : Launch} {sh0 : List g_Sh} {D : g_D} {K : g_D → Prop} (hF : g_okD D → ∀ D1, D1 = g_row D (sh0.length + 1) (fun _ => 0) → (∀ D2, D2 = g_row D1 (sh0.length + 2) (fun _ => 0) → (∀ D3, D3 = g_row D2 (sh0.length + 3) (fun _ => 0) → (K D3)))) : kc_X6 E l sh0 D K := by
  refine g_enter (by decide) (Nat.le_of_ble_eq_true rfl) ?_
  show g_G E l m_X6_init 1 3 61 0 0 0 [some (g_R (sh0.length + 0))] [] (sh0 ++ [.inr (.inr (6, [some none, some none, some none, none, none, none, none, none, none]))]) D (g_Rc sh0 (cl_X6 sh0.length) K)
  refine g_use (fun ok => ?_)
  have hF := hF ok.2.1
  refine g_aload_n dX6_init_0 rfl ?_
  refine g_oinit dX6_init_1 oi_X6_3 w_oin w_oco (by decide) (Nat.le_of_ble_eq_true rfl) ?_
  refine g_aload_n dX6_init_4 rfl ?_
  refine g_bipush dX6_init_5 ⟨by decide, by decide⟩ ?_
  let D1 : g_D := g_row D (sh0.length + 1) (fun _ => 0)
  have hF := hF D1 rfl
  refine gc_newa (k := 1) (N := 20) (c' := (.inr (.inr (6, [some none, some none, some none, none, none, none, none, none, none])) :: [.inl (0, 20)])) (Or.inl ⟨rfl, rfl⟩) dX6_init_7 wa_0 (by decide) (by decide) rfl (Nat.le_of_ble_eq_true rfl) (Nat.le_of_ble_eq_true rfl) rfl rfl ?_
  refine gc_putR (k := 0) (c' := (.inr (.inr (6, [some (some (sh0.length + 1)), some none, some none, none, none, none, none, none, none])) :: [.inl (0, 20)])) dX6_init_9 fd_X6_9 fr_X6_0 rfl rfl (Nat.le_of_ble_eq_true rfl) rfl ?_
  refine g_aload_n dX6_init_12 rfl ?_
  refine g_bipush dX6_init_13 ⟨by decide, by decide⟩ ?_
  let D2 : g_D := g_row D1 (sh0.length + 2) (fun _ => 0)
  have hF := hF D2 rfl
  refine gc_newa (k := 2) (N := 21) (c' := (.inr (.inr (6, [some (some (sh0.length + 1)), some none, some none, none, none, none, none, none, none])) :: (.inl (0, 20) :: [.inl (0, 21)]))) (Or.inl ⟨rfl, rfl⟩) dX6_init_15 wa_0 (by decide) (by decide) rfl (Nat.le_of_ble_eq_true rfl) (Nat.le_of_ble_eq_true rfl) rfl rfl ?_
  refine gc_putR (k := 0) (c' := (.inr (.inr (6, [some (some (sh0.length + 1)), some (some (sh0.length + 2)), some none, none, none, none, none, none, none])) :: (.inl (0, 20) :: [.inl (0, 21)]))) dX6_init_17 fd_X6_15 fr_X6_1 rfl rfl (Nat.le_of_ble_eq_true rfl) rfl ?_
  refine g_aload_n dX6_init_20 rfl ?_
  refine g_bipush dX6_init_21 ⟨by decide, by decide⟩ ?_
  let D3 : g_D := g_row D2 (sh0.length + 3) (fun _ => 0)
  have hF := hF D3 rfl
  refine gc_newa (k := 3) (N := 20) (c' := (.inr (.inr (6, [some (some (sh0.length + 1)), some (some (sh0.length + 2)), some none, none, none, none, none, none, none])) :: (.inl (0, 20) :: (.inl (0, 21) :: [.inl (0, 20)])))) (Or.inl ⟨rfl, rfl⟩) dX6_init_23 wa_0 (by decide) (by decide) rfl (Nat.le_of_ble_eq_true rfl) (Nat.le_of_ble_eq_true rfl) rfl rfl ?_
  refine gc_putR (k := 0) (c' := (.inr (.inr (6, [some (some (sh0.length + 1)), some (some (sh0.length + 2)), some (some (sh0.length + 3)), none, none, none, none, none, none])) :: (.inl (0, 20) :: (.inl (0, 21) :: [.inl (0, 20)])))) dX6_init_25 fd_X6_18 fr_X6_2 rfl rfl (Nat.le_of_ble_eq_true rfl) rfl ?_
  exact gc_ret dX6_init_28 rfl (Nat.le_of_ble_eq_true rfl) (Nat.le_of_ble_eq_true rfl) rfl hF
theorem dX9_init_0 : decode cX9_init 0 = .ok (.aload_n 0, 1) := by decide +kernel
theorem dX9_init_1 : decode cX9_init 1 = .ok (.invokespecial 3, 3) := by decide +kernel
theorem dX9_init_4 : decode cX9_init 4 = .ok (.aload_n 0, 1) := by decide +kernel
theorem dX9_init_5 : decode cX9_init 5 = .ok (.bipush 40, 2) := by decide +kernel
theorem dX9_init_7 : decode cX9_init 7 = .ok (.newarray .int, 2) := by decide +kernel
theorem dX9_init_9 : decode cX9_init 9 = .ok (.putfield 9, 3) := by decide +kernel
theorem dX9_init_12 : decode cX9_init 12 = .ok (.aload_n 0, 1) := by decide +kernel
theorem dX9_init_13 : decode cX9_init 13 = .ok (.bipush 40, 2) := by decide +kernel
theorem dX9_init_15 : decode cX9_init 15 = .ok (.newarray .int, 2) := by decide +kernel
theorem dX9_init_17 : decode cX9_init 17 = .ok (.putfield 15, 3) := by decide +kernel
theorem dX9_init_20 : decode cX9_init 20 = .ok (.return_, 1) := by decide +kernel
def cl_X9 (n : Nat) : List g_Sh := (.inr (.inr (9, [some (some (n + 1)), some (some (n + 2)), none])) :: (.inl (0, 40) :: [.inl (0, 40)]))
abbrev kc_X9 (E : g_E) (l : Launch) (sh0 : List g_Sh) (D : g_D) (K : g_D → Prop) : Prop := g_Mc E l m_X9_init 1 2 80 [g_R (sh0.length + 0)] sh0 (.inr (.inr (9, [some none, some none, none]))) (cl_X9 sh0.length) D K
set_option maxRecDepth 20000 in
theorem sc_X9 {E : g_E} {l : Launch} {sh0 : List g_Sh} {D : g_D} {K : g_D → Prop} (hF : g_okD D → ∀ D1, D1 = g_row D (sh0.length + 1) (fun _ => 0) → (∀ D2, D2 = g_row D1 (sh0.length + 2) (fun _ => 0) → (K D2))) : kc_X9 E l sh0 D K := by
  refine g_enter (by decide) (Nat.le_of_ble_eq_true rfl) ?_
  show g_G E l m_X9_init 1 2 80 0 0 0 [some (g_R (sh0.length + 0))] [] (sh0 ++ [.inr (.inr (9, [some none, some none, none]))]) D (g_Rc sh0 (cl_X9 sh0.length) K)
  refine g_use (fun ok => ?_)
  have hF := hF ok.2.1
  refine g_aload_n dX9_init_0 rfl ?_
  refine g_oinit dX9_init_1 oi_X9_3 w_oin w_oco (by decide) (Nat.le_of_ble_eq_true rfl) ?_
  refine g_aload_n dX9_init_4 rfl ?_
  refine g_bipush dX9_init_5 ⟨by decide, by decide⟩ ?_
  let D1 : g_D := g_row D (sh0.length + 1) (fun _ => 0)
  have hF := hF D1 rfl
  refine gc_newa (k := 1) (N := 40) (c' := (.inr (.inr (9, [some none, some none, none])) :: [.inl (0, 40)])) (Or.inl ⟨rfl, rfl⟩) dX9_init_7 wa_0 (by decide) (by decide) rfl (Nat.le_of_ble_eq_true rfl) (Nat.le_of_ble_eq_true rfl) rfl rfl ?_
  refine gc_putR (k := 0) (c' := (.inr (.inr (9, [some (some (sh0.length + 1)), some none, none])) :: [.inl (0, 40)])) dX9_init_9 fd_X9_9 fr_X9_0 rfl rfl (Nat.le_of_ble_eq_true rfl) rfl ?_
  refine g_aload_n dX9_init_12 rfl ?_
  refine g_bipush dX9_init_13 ⟨by decide, by decide⟩ ?_
  let D2 : g_D := g_row D1 (sh0.length + 2) (fun _ => 0)
  have hF := hF D2 rfl
  refine gc_newa (k := 2) (N := 40) (c' := (.inr (.inr (9, [some (some (sh0.length + 1)), some none, none])) :: (.inl (0, 40) :: [.inl (0, 40)]))) (Or.inl ⟨rfl, rfl⟩) dX9_init_15 wa_0 (by decide) (by decide) rfl (Nat.le_of_ble_eq_true rfl) (Nat.le_of_ble_eq_true rfl) rfl rfl ?_
  refine gc_putR (k := 0) (c' := (.inr (.inr (9, [some (some (sh0.length + 1)), some (some (sh0.length + 2)), none])) :: (.inl (0, 40) :: [.inl (0, 40)]))) dX9_init_17 fd_X9_15 fr_X9_1 rfl rfl (Nat.le_of_ble_eq_true rfl) rfl ?_
  exact gc_ret dX9_init_20 rfl (Nat.le_of_ble_eq_true rfl) (Nat.le_of_ble_eq_true rfl) rfl hF
theorem dX8_init_0 : decode cX8_init 0 = .ok (.aload_n 0, 1) := by decide +kernel
theorem dX8_init_1 : decode cX8_init 1 = .ok (.invokespecial 3, 3) := by decide +kernel
theorem dX8_init_4 : decode cX8_init 4 = .ok (.aload_n 0, 1) := by decide +kernel
theorem dX8_init_5 : decode cX8_init 5 = .ok (.new 9, 3) := by decide +kernel
theorem dX8_init_8 : decode cX8_init 8 = .ok (.dup, 1) := by decide +kernel
theorem dX8_init_9 : decode cX8_init 9 = .ok (.bipush 40, 2) := by decide +kernel
theorem dX8_init_11 : decode cX8_init 11 = .ok (.invokespecial 11, 3) := by decide +kernel
theorem dX8_init_14 : decode cX8_init 14 = .ok (.putfield 14, 3) := by decide +kernel
theorem dX8_init_17 : decode cX8_init 17 = .ok (.aload_n 0, 1) := by decide +kernel
theorem dX8_init_18 : decode cX8_init 18 = .ok (.new 9, 3) := by decide +kernel
theorem dX8_init_21 : decode cX8_init 21 = .ok (.dup, 1) := by decide +kernel
theorem dX8_init_22 : decode cX8_init 22 = .ok (.bipush 40, 2) := by decide +kernel
theorem dX8_init_24 : decode cX8_init 24 = .ok (.invokespecial 11, 3) := by decide +kernel
theorem dX8_init_27 : decode cX8_init 27 = .ok (.putfield 20, 3) := by decide +kernel
theorem dX8_init_30 : decode cX8_init 30 = .ok (.aload_n 0, 1) := by decide +kernel
theorem dX8_init_31 : decode cX8_init 31 = .ok (.iconst 4, 1) := by decide +kernel
theorem dX8_init_32 : decode cX8_init 32 = .ok (.newarray .int, 2) := by decide +kernel
theorem dX8_init_34 : decode cX8_init 34 = .ok (.putfield 23, 3) := by decide +kernel
theorem dX8_init_37 : decode cX8_init 37 = .ok (.getstatic 27, 3) := by decide +kernel
theorem dX8_init_40 : decode cX8_init 40 = .ok (.iconst 0, 1) := by decide +kernel
theorem dX8_init_41 : decode cX8_init 41 = .ok (.aload_n 0, 1) := by decide +kernel
theorem dX8_init_42 : decode cX8_init 42 = .ok (.getfield 23, 3) := by decide +kernel
theorem dX8_init_45 : decode cX8_init 45 = .ok (.iconst 0, 1) := by decide +kernel
theorem dX8_init_46 : decode cX8_init 46 = .ok (.iconst 4, 1) := by decide +kernel
theorem dX8_init_47 : decode cX8_init 47 = .ok (.invokestatic 30, 3) := by decide +kernel
theorem dX8_init_50 : decode cX8_init 50 = .ok (.aload_n 0, 1) := by decide +kernel
theorem dX8_init_51 : decode cX8_init 51 = .ok (.new 36, 3) := by decide +kernel
theorem dX8_init_54 : decode cX8_init 54 = .ok (.dup, 1) := by decide +kernel
theorem dX8_init_55 : decode cX8_init 55 = .ok (.invokespecial 38, 3) := by decide +kernel
theorem dX8_init_58 : decode cX8_init 58 = .ok (.putfield 39, 3) := by decide +kernel
theorem dX8_init_61 : decode cX8_init 61 = .ok (.return_, 1) := by decide +kernel
def cl_X8 (n : Nat) : List g_Sh := (.inr (.inr (8, [some (some (n + 1)), some (some (n + 3)), some (some (n + 5)), some (some (n + 6))])) :: (cl_X0 40 (n + 1) ++ (cl_X0 40 (n + 3) ++ (.inl (0, 4) :: (cl_X2 (n + 6))))))
abbrev kc_X8 (E : g_E) (l : Launch) (sh0 : List g_Sh) (D : g_D) (K : g_D → Prop) : Prop := g_Mc E l m_X8_init 3 13 384 [g_R (sh0.length + 0)] sh0 (.inr (.inr (8, [some none, some none, some none, some none]))) (cl_X8 sh0.length) D K
set_option maxRecDepth 20000 in
theorem sc_X8 {E : g_E} {l : Launch} {sh0 : List g_Sh} {D : g_D} {K : g_D → Prop} (hF : g_okD D → ∀ D1, D1 = g_row D (sh0.length + 1) (fun _ => 0) → (kc_X0 E l (sh0 ++ [.inr (.inr (8, [some none, some none, some none, some none]))]) D1 40 40 (fun D2 => ∀ D3, D3 = g_row D2 (sh0.length + 3) (fun _ => 0) → (kc_X0 E l (sh0 ++ (.inr (.inr (8, [some (some (sh0.length + 1)), some none, some none, some none])) :: (cl_X0 40 (sh0.length + 1)))) D3 40 40 (fun D4 => ∀ D5, D5 = g_row D4 (sh0.length + 5) (fun _ => 0) → (∀ D6, D6 = g_row D5 (sh0.length + 5) (fun j => if 0 ≤ j ∧ j < 0 + 4 then g_fx E 1 (0 + (j - 0)) else D5 (sh0.length + 5) j) → (∀ D7, D7 = g_row D6 (sh0.length + 6) (fun _ => 0) → (kc_X2 E l (sh0 ++ (.inr (.inr (8, [some (some (sh0.length + 1)), some (some (sh0.length + 3)), some (some (sh0.length + 5)), some none])) :: (cl_X0 40 (sh0.length + 1) ++ (cl_X0 40 (sh0.length + 3) ++ [.inl (0, 4)])))) D7 (fun D8 => K D8))))))))) : kc_X8 E l sh0 D K := by
  refine g_enter (by decide) (Nat.le_of_ble_eq_true rfl) ?_
  show g_G E l m_X8_init 3 13 384 0 0 0 [some (g_R (sh0.length + 0))] [] (sh0 ++ [.inr (.inr (8, [some none, some none, some none, some none]))]) D (g_Rc sh0 (cl_X8 sh0.length) K)
  refine g_use (fun ok => ?_)
  have hF := hF ok.2.1
  refine g_aload_n dX8_init_0 rfl ?_
  refine g_oinit dX8_init_1 oi_X8_3 w_oin w_oco (by decide) (Nat.le_of_ble_eq_true rfl) ?_
  refine g_aload_n dX8_init_4 rfl ?_
  let D1 : g_D := g_row D (sh0.length + 1) (fun _ => 0)
  have hF := hF D1 rfl
  refine gc_new (k := 1) (c' := (.inr (.inr (8, [some none, some none, some none, some none])) :: [.inr (.inr (0, [some none, none]))])) dX8_init_5 nd_X8_9 (Nat.le_of_ble_eq_true rfl) (Nat.le_of_ble_eq_true rfl) rfl rfl ?_
  refine g_dup dX8_init_8 rfl ?_
  refine g_bipush dX8_init_9 ⟨by decide, by decide⟩ ?_
  refine gc_callI (k := 1) (As := [g_I 40]) (rest := [g_R (sh0.length + 1), g_R (sh0.length + 0)]) (c1 := [.inr (.inr (8, [some none, some none, some none, some none]))]) (c' := (.inr (.inr (8, [some none, some none, some none, some none])) :: (cl_X0 40 (sh0.length + 1)))) (cl := cl_X0 40) dX8_init_11 mi_X8_11 rfl rfl rfl (Nat.le_of_ble_eq_true rfl) (by decide) (Nat.le_of_ble_eq_true rfl) (Nat.le_of_ble_eq_true rfl) rfl rfl rfl rfl hF ?_
  intro D2 hF
  refine gc_putR (k := 0) (c' := (.inr (.inr (8, [some (some (sh0.length + 1)), some none, some none, some none])) :: (cl_X0 40 (sh0.length + 1)))) dX8_init_14 fd_X8_14 fr_X8_0 rfl rfl (Nat.le_of_ble_eq_true rfl) rfl ?_
  refine g_aload_n dX8_init_17 rfl ?_
  let D3 : g_D := g_row D2 (sh0.length + 3) (fun _ => 0)
  have hF := hF D3 rfl
  refine gc_new (k := 3) (c' := (.inr (.inr (8, [some (some (sh0.length + 1)), some none, some none, some none])) :: (cl_X0 40 (sh0.length + 1) ++ [.inr (.inr (0, [some none, none]))]))) dX8_init_18 nd_X8_9 (Nat.le_of_ble_eq_true rfl) (Nat.le_of_ble_eq_true rfl) rfl rfl ?_
  refine g_dup dX8_init_21 rfl ?_
  refine g_bipush dX8_init_22 ⟨by decide, by decide⟩ ?_
  refine gc_callI (k := 3) (As := [g_I 40]) (rest := [g_R (sh0.length + 3), g_R (sh0.length + 0)]) (c1 := (.inr (.inr (8, [some (some (sh0.length + 1)), some none, some none, some none])) :: (cl_X0 40 (sh0.length + 1)))) (c' := (.inr (.inr (8, [some (some (sh0.length + 1)), some none, some none, some none])) :: (cl_X0 40 (sh0.length + 1) ++ (cl_X0 40 (sh0.length + 3))))) (cl := cl_X0 40) dX8_init_24 mi_X8_11 rfl rfl rfl (Nat.le_of_ble_eq_true rfl) (by decide) (Nat.le_of_ble_eq_true rfl) (Nat.le_of_ble_eq_true rfl) rfl rfl rfl rfl hF ?_
  intro D4 hF
  refine gc_putR (k := 0) (c' := (.inr (.inr (8, [some (some (sh0.length + 1)), some (some (sh0.length + 3)), some none, some none])) :: (cl_X0 40 (sh0.length + 1) ++ (cl_X0 40 (sh0.length + 3))))) dX8_init_27 fd_X8_20 fr_X8_1 rfl rfl (Nat.le_of_ble_eq_true rfl) rfl ?_
  refine g_aload_n dX8_init_30 rfl ?_
  refine g_iconst dX8_init_31 ⟨by decide, by decide⟩ ?_
  let D5 : g_D := g_row D4 (sh0.length + 5) (fun _ => 0)
  have hF := hF D5 rfl
  refine gc_newa (k := 5) (N := 4) (c' := (.inr (.inr (8, [some (some (sh0.length + 1)), some (some (sh0.length + 3)), some none, some none])) :: (cl_X0 40 (sh0.length + 1) ++ (cl_X0 40 (sh0.length + 3) ++ [.inl (0, 4)])))) (Or.inl ⟨rfl, rfl⟩) dX8_init_32 wa_0 (by decide) (by decide) rfl (Nat.le_of_ble_eq_true rfl) (Nat.le_of_ble_eq_true rfl) rfl rfl ?_
  refine gc_putR (k := 0) (c' := (.inr (.inr (8, [some (some (sh0.length + 1)), some (some (sh0.length + 3)), some (some (sh0.length + 5)), some none])) :: (cl_X0 40 (sh0.length + 1) ++ (cl_X0 40 (sh0.length + 3) ++ [.inl (0, 4)])))) dX8_init_34 fd_X8_23 fr_X8_2 rfl rfl (Nat.le_of_ble_eq_true rfl) rfl ?_
  refine g_gets1 dX8_init_37 rfl ?_
  refine g_iconst dX8_init_40 ⟨by decide, by decide⟩ ?_
  refine g_aload_n dX8_init_41 rfl ?_
  refine g_getR dX8_init_42 fd_X8_23 (g_apx (i := 0) rfl) rfl ?_
  refine g_iconst dX8_init_45 ⟨by decide, by decide⟩ ?_
  refine g_iconst dX8_init_46 ⟨by decide, by decide⟩ ?_
  let D6 : g_D := g_row D5 (sh0.length + 5) (fun j => if 0 ≤ j ∧ j < 0 + 4 then g_fx E 1 (0 + (j - 0)) else D5 (sh0.length + 5) j)
  have hF := hF D6 rfl
  refine g_acopyF dX8_init_47 ac_X8_30 (by decide) (g_apx (i := 5) rfl) (by decide) (by decide) (by decide) (by show (0 : Int) + 4 ≤ ((4 : Nat) : Int); decide) (by decide) g_fx1 (by decide) (Nat.le_of_ble_eq_true rfl) ?_
  refine g_aload_n dX8_init_50 rfl ?_
  let D7 : g_D := g_row D6 (sh0.length + 6) (fun _ => 0)
  have hF := hF D7 rfl
  refine gc_new (k := 6) (c' := (.inr (.inr (8, [some (some (sh0.length + 1)), some (some (sh0.length + 3)), some (some (sh0.length + 5)), some none])) :: (cl_X0 40 (sh0.length + 1) ++ (cl_X0 40 (sh0.length + 3) ++ (.inl (0, 4) :: [.inr (.inr (2, [some none, some none, some none, some none, some none, some none, none, none, none, none]))]))))) dX8_init_51 nd_X8_36 (Nat.le_of_ble_eq_true rfl) (Nat.le_of_ble_eq_true rfl) rfl rfl ?_
  refine g_dup dX8_init_54 rfl ?_
  refine gc_callI (k := 6) (As := []) (rest := [g_R (sh0.length + 6), g_R (sh0.length + 0)]) (c1 := (.inr (.inr (8, [some (some (sh0.length + 1)), some (some (sh0.length + 3)), some (some (sh0.length + 5)), some none])) :: (cl_X0 40 (sh0.length + 1) ++ (cl_X0 40 (sh0.length + 3) ++ [.inl (0, 4)])))) (c' := (.inr (.inr (8, [some (some (sh0.length + 1)), some (some (sh0.length + 3)), some (some (sh0.length + 5)), some none])) :: (cl_X0 40 (sh0.length + 1) ++ (cl_X0 40 (sh0.length + 3) ++ (.inl (0, 4) :: (cl_X2 (sh0.length + 6))))))) (cl := cl_X2) dX8_init_55 mi_X8_38 rfl rfl rfl (Nat.le_of_ble_eq_true rfl) (by decide) (Nat.le_of_ble_eq_true rfl) (Nat.le_of_ble_eq_true rfl) rfl rfl rfl rfl hF ?_
  intro D8 hF
  refine gc_putR (k := 0) (c' := (.inr (.inr (8, [some (some (sh0.length + 1)), some (some (sh0.length + 3)), some (some (sh0.length + 5)), some (some (sh0.length + 6))])) :: (cl_X0 40 (sh0.length + 1) ++ (cl_X0 40 (sh0.length + 3) ++ (.inl (0, 4) :: (cl_X2 (sh0.length + 6))))))) dX8_init_58 fd_X8_39 fr_X8_3 rfl rfl (Nat.le_of_ble_eq_true rfl) rfl ?_
  exact gc_ret dX8_init_61 rfl (Nat.le_of_ble_eq_true rfl) (Nat.le_of_ble_eq_true rfl) rfl hF
theorem dX7_init_0 : decode cX7_init 0 = .ok (.aload_n 0, 1) := by decide +kernel
theorem dX7_init_1 : decode cX7_init 1 = .ok (.invokespecial 3, 3) := by decide +kernel
theorem dX7_init_4 : decode cX7_init 4 = .ok (.aload_n 0, 1) := by decide +kernel
theorem dX7_init_5 : decode cX7_init 5 = .ok (.bipush 20, 2) := by decide +kernel
theorem dX7_init_7 : decode cX7_init 7 = .ok (.newarray .int, 2) := by decide +kernel
theorem dX7_init_9 : decode cX7_init 9 = .ok (.putfield 9, 3) := by decide +kernel
theorem dX7_init_12 : decode cX7_init 12 = .ok (.aload_n 0, 1) := by decide +kernel
theorem dX7_init_13 : decode cX7_init 13 = .ok (.bipush 20, 2) := by decide +kernel
theorem dX7_init_15 : decode cX7_init 15 = .ok (.newarray .int, 2) := by decide +kernel
theorem dX7_init_17 : decode cX7_init 17 = .ok (.putfield 15, 3) := by decide +kernel
theorem dX7_init_20 : decode cX7_init 20 = .ok (.aload_n 0, 1) := by decide +kernel
theorem dX7_init_21 : decode cX7_init 21 = .ok (.bipush 20, 2) := by decide +kernel
theorem dX7_init_23 : decode cX7_init 23 = .ok (.newarray .int, 2) := by decide +kernel
theorem dX7_init_25 : decode cX7_init 25 = .ok (.putfield 18, 3) := by decide +kernel
theorem dX7_init_28 : decode cX7_init 28 = .ok (.aload_n 0, 1) := by decide +kernel
theorem dX7_init_29 : decode cX7_init 29 = .ok (.bipush 20, 2) := by decide +kernel
theorem dX7_init_31 : decode cX7_init 31 = .ok (.newarray .int, 2) := by decide +kernel
theorem dX7_init_33 : decode cX7_init 33 = .ok (.putfield 21, 3) := by decide +kernel
theorem dX7_init_36 : decode cX7_init 36 = .ok (.aload_n 0, 1) := by decide +kernel
theorem dX7_init_37 : decode cX7_init 37 = .ok (.bipush 20, 2) := by decide +kernel
theorem dX7_init_39 : decode cX7_init 39 = .ok (.newarray .int, 2) := by decide +kernel
theorem dX7_init_41 : decode cX7_init 41 = .ok (.putfield 24, 3) := by decide +kernel
theorem dX7_init_44 : decode cX7_init 44 = .ok (.aload_n 0, 1) := by decide +kernel
theorem dX7_init_45 : decode cX7_init 45 = .ok (.new 27, 3) := by decide +kernel
theorem dX7_init_48 : decode cX7_init 48 = .ok (.dup, 1) := by decide +kernel
theorem dX7_init_49 : decode cX7_init 49 = .ok (.invokespecial 29, 3) := by decide +kernel
theorem dX7_init_52 : decode cX7_init 52 = .ok (.putfield 30, 3) := by decide +kernel
theorem dX7_init_55 : decode cX7_init 55 = .ok (.aload_n 0, 1) := by decide +kernel
theorem dX7_init_56 : decode cX7_init 56 = .ok (.bipush 41, 2) := by decide +kernel
theorem dX7_init_58 : decode cX7_init 58 = .ok (.newarray .int, 2) := by decide +kernel
theorem dX7_init_60 : decode cX7_init 60 = .ok (.putfield 34, 3) := by decide +kernel
theorem dX7_init_63 : decode cX7_init 63 = .ok (.aload_n 0, 1) := by decide +kernel
theorem dX7_init_64 : decode cX7_init 64 = .ok (.bipush 41, 2) := by decide +kernel
theorem dX7_init_66 : decode cX7_init 66 = .ok (.newarray .int, 2) := by decide +kernel
theorem dX7_init_68 : decode cX7_init 68 = .ok (.putfield 37, 3) := by decide +kernel
theorem dX7_init_71 : decode cX7_init 71 = .ok (.return_, 1) := by decide +kernel
def cl_X7 (n : Nat) : List g_Sh := (.inr (.inr (7, [some (some (n + 1)), some (some (n + 2)), some (some (n + 3)), some (some (n + 4)), some (some (n + 5)), some (some (n + 6)), some (some (n + 10)), some (some (n + 11)), none, none, none, none])) :: (.inl (0, 20) :: (.inl (0, 20) :: (.inl (0, 20) :: (.inl (0, 20) :: (.inl (0, 20) :: (cl_X6 (n + 6) ++ (.inl (0, 41) :: [.inl (0, 41)]))))))))
abbrev kc_X7 (E : g_E) (l : Launch) (sh0 : List g_Sh) (D : g_D) (K : g_D → Prop) : Prop := g_Mc E l m_X7_init 2 11 252 [g_R (sh0.length + 0)] sh0 (.inr (.inr (7, [some none, some none, some none, some none, some none, some none, some none, some none, none, none, none, none]))) (cl_X7 sh0.length) D K
set_option maxRecDepth 20000 in
theorem sc_X7 {E : g_E} {l : Launch} {sh0 : List g_Sh} {D : g_D} {K : g_D → Prop} (hF : g_okD D → ∀ D1, D1 = g_row D (sh0.length + 1) (fun _ => 0) → (∀ D2, D2 = g_row D1 (sh0.length + 2) (fun _ => 0) → (∀ D3, D3 = g_row D2 (sh0.length + 3) (fun _ => 0) → (∀ D4, D4 = g_row D3 (sh0.length + 4) (fun _ => 0) → (∀ D5, D5 = g_row D4 (sh0.length + 5) (fun _ => 0) → (∀ D6, D6 = g_row D5 (sh0.length + 6) (fun _ => 0) → (kc_X6 E l (sh0 ++ (.inr (.inr (7, [some (some (sh0.length + 1)), some (some (sh0.length + 2)), some (some (sh0.length + 3)), some (some (sh0.length + 4)), some (some (sh0.length + 5)), some none, some none, some none, none, none, none, none])) :: (.inl (0, 20) :: (.inl (0, 20) :: (.inl (0, 20) :: (.inl (0, 20) :: [.inl (0, 20)])))))) D6 (fun D7 => ∀ D8, D8 = g_row D7 (sh0.length + 10) (fun _ => 0) → (∀ D9, D9 = g_row D8 (sh0.length + 11) (fun _ => 0) → (K D9)))))))))) : kc_X7 E l sh0 D K := by
  refine g_enter (by decide) (Nat.le_of_ble_eq_true rfl) ?_
  show g_G E l m_X7_init 2 11 252 0 0 0 [some (g_R (sh0.length + 0))] [] (sh0 ++ [.inr (.inr (7, [some none, some none, some none, some none, some none, some none, some none, some none, none, none, none, none]))]) D (g_Rc sh0 (cl_X7 sh0.length) K)
  refine g_use (fun ok => ?_)
  have hF := hF ok.2.1
  refine g_aload_n dX7_init_0 rfl ?_
  refine g_oinit dX7_init_1 oi_X7_3 w_oin w_oco (by decide) (Nat.le_of_ble_eq_true rfl) ?_
  refine g_aload_n dX7_init_4 rfl ?_
  refine g_bipush dX7_init_5 ⟨by decide, by decide⟩ ?_
  let D1 : g_D := g_row D (sh0.length + 1) (fun _ => 0)
  have hF := hF D1 rfl
  refine gc_newa (k := 1) (N := 20) (c' := (.inr (.inr (7, [some none, some none, some none, some none, some none, some none, some none, some none, none, none, none, none])) :: [.inl (0, 20)])) (Or.inl ⟨rfl, rfl⟩) dX7_init_7 wa_0 (by decide) (by decide) rfl (Nat.le_of_ble_eq_true rfl) (Nat.le_of_ble_eq_true rfl) rfl rfl ?_
  refine gc_putR (k := 0) (c' := (.inr (.inr (7, [some (some (sh0.length + 1)), some none, some none, some none, some none, some none, some none, some none, none, none, none, none])) :: [.inl (0, 20)])) dX7_init_9 fd_X7_9 fr_X7_0 rfl rfl (Nat.le_of_ble_eq_true rfl) rfl ?_
  refine g_aload_n dX7_init_12 rfl ?_
  refine g_bipush dX7_init_13 ⟨by decide, by decide⟩ ?_
  let D2 : g_D := g_row D1 (sh0.length + 2) (fun _ => 0)
  have hF := hF D2 rfl
  refine gc_newa (k := 2) (N := 20) (c' := (.inr (.inr (7, [some (some (sh0.length + 1)), some none, some none, some none, some none, some none, some none, some none, none, none, none, none])) :: (.inl (0, 20) :: [.inl (0, 20)]))) (Or.inl ⟨rfl, rfl⟩) dX7_init_15 wa_0 (by decide) (by decide) rfl (Nat.le_of_ble_eq_true rfl) (Nat.le_of_ble_eq_true rfl) rfl rfl ?_
  refine gc_putR (k := 0) (c' := (.inr (.inr (7, [some (some (sh0.length + 1)), some (some (sh0.length + 2)), some none, some none, some none, some none, some none, some none, none, none, none, none])) :: (.inl (0, 20) :: [.inl (0, 20)]))) dX7_init_17 fd_X7_15 fr_X7_1 rfl rfl (Nat.le_of_ble_eq_true rfl) rfl ?_
  refine g_aload_n dX7_init_20 rfl ?_
  refine g_bipush dX7_init_21 ⟨by decide, by decide⟩ ?_
  let D3 : g_D := g_row D2 (sh0.length + 3) (fun _ => 0)
  have hF := hF D3 rfl
  refine gc_newa (k := 3) (N := 20) (c' := (.inr (.inr (7, [some (some (sh0.length + 1)), some (some (sh0.length + 2)), some none, some none, some none, some none, some none, some none, none, none, none, none])) :: (.inl (0, 20) :: (.inl (0, 20) :: [.inl (0, 20)])))) (Or.inl ⟨rfl, rfl⟩) dX7_init_23 wa_0 (by decide) (by decide) rfl (Nat.le_of_ble_eq_true rfl) (Nat.le_of_ble_eq_true rfl) rfl rfl ?_
  refine gc_putR (k := 0) (c' := (.inr (.inr (7, [some (some (sh0.length + 1)), some (some (sh0.length + 2)), some (some (sh0.length + 3)), some none, some none, some none, some none, some none, none, none, none, none])) :: (.inl (0, 20) :: (.inl (0, 20) :: [.inl (0, 20)])))) dX7_init_25 fd_X7_18 fr_X7_2 rfl rfl (Nat.le_of_ble_eq_true rfl) rfl ?_
  refine g_aload_n dX7_init_28 rfl ?_
  refine g_bipush dX7_init_29 ⟨by decide, by decide⟩ ?_
  let D4 : g_D := g_row D3 (sh0.length + 4) (fun _ => 0)
  have hF := hF D4 rfl
  refine gc_newa (k := 4) (N := 20) (c' := (.inr (.inr (7, [some (some (sh0.length + 1)), some (some (sh0.length + 2)), some (some (sh0.length + 3)), some none, some none, some none, some none, some none, none, none, none, none])) :: (.inl (0, 20) :: (.inl (0, 20) :: (.inl (0, 20) :: [.inl (0, 20)]))))) (Or.inl ⟨rfl, rfl⟩) dX7_init_31 wa_0 (by decide) (by decide) rfl (Nat.le_of_ble_eq_true rfl) (Nat.le_of_ble_eq_true rfl) rfl rfl ?_
  refine gc_putR (k := 0) (c' := (.inr (.inr (7, [some (some (sh0.length + 1)), some (some (sh0.length + 2)), some (some (sh0.length + 3)), some (some (sh0.length + 4)), some none, some none, some none, some none, none, none, none, none])) :: (.inl (0, 20) :: (.inl (0, 20) :: (.inl (0, 20) :: [.inl (0, 20)]))))) dX7_init_33 fd_X7_21 fr_X7_3 rfl rfl (Nat.le_of_ble_eq_true rfl) rfl ?_
  refine g_aload_n dX7_init_36 rfl ?_
  refine g_bipush dX7_init_37 ⟨by decide, by decide⟩ ?_
  let D5 : g_D := g_row D4 (sh0.length + 5) (fun _ => 0)
  have hF := hF D5 rfl
  refine gc_newa (k := 5) (N := 20) (c' := (.inr (.inr (7, [some (some (sh0.length + 1)), some (some (sh0.length + 2)), some (some (sh0.length + 3)), some (some (sh0.length + 4)), some none, some none, some none, some none, none, none, none, none])) :: (.inl (0, 20) :: (.inl (0, 20) :: (.inl (0, 20) :: (.inl (0, 20) :: [.inl (0, 20)])))))) (Or.inl ⟨rfl, rfl⟩) dX7_init_39 wa_0 (by decide) (by decide) rfl (Nat.le_of_ble_eq_true rfl) (Nat.le_of_ble_eq_true rfl) rfl rfl ?_
  refine gc_putR (k := 0) (c' := (.inr (.inr (7, [some (some (sh0.length + 1)), some (some (sh0.length + 2)), some (some (sh0.length + 3)), some (some (sh0.length + 4)), some (some (sh0.length + 5)), some none, some none, some none, none, none, none, none])) :: (.inl (0, 20) :: (.inl (0, 20) :: (.inl (0, 20) :: (.inl (0, 20) :: [.inl (0, 20)])))))) dX7_init_41 fd_X7_24 fr_X7_4 rfl rfl (Nat.le_of_ble_eq_true rfl) rfl ?_
  refine g_aload_n dX7_init_44 rfl ?_
  let D6 : g_D := g_row D5 (sh0.length + 6) (fun _ => 0)
  have hF := hF D6 rfl
  refine gc_new (k := 6) (c' := (.inr (.inr (7, [some (some (sh0.length + 1)), some (some (sh0.length + 2)), some (some (sh0.length + 3)), some (some (sh0.length + 4)), some (some (sh0.length + 5)), some none, some none, some none, none, none, none, none])) :: (.inl (0, 20) :: (.inl (0, 20) :: (.inl (0, 20) :: (.inl (0, 20) :: (.inl (0, 20) :: [.inr (.inr (6, [some none, some none, some none, none, none, none, none, none, none]))]))))))) dX7_init_45 nd_X7_27 (Nat.le_of_ble_eq_true rfl) (Nat.le_of_ble_eq_true rfl) rfl rfl ?_
  refine g_dup dX7_init_48 rfl ?_
  refine gc_callI (k := 6) (As := []) (rest := [g_R (sh0.length + 6), g_R (sh0.length + 0)]) (c1 := (.inr (.inr (7, [some (some (sh0.length + 1)), some (some (sh0.length + 2)), some (some (sh0.length + 3)), some (some (sh0.length + 4)), some (some (sh0.length + 5)), some none, some none, some none, none, none, none, none])) :: (.inl (0, 20) :: (.inl (0, 20) :: (.inl (0, 20) :: (.inl (0, 20) :: [.inl (0, 20)])))))) (c' := (.inr (.inr (7, [some (some (sh0.length + 1)), some (some (sh0.length + 2)), some (some (sh0.length + 3)), some (some (sh0.length + 4)), some (some (sh0.length + 5)), some none, some none, some none, none, none, none, none])) :: (.inl (0, 20) :: (.inl (0, 20) :: (.inl (0, 20) :: (.inl (0, 20) :: (.inl (0, 20) :: (cl_X6 (sh0.length + 6))))))))) (cl := cl_X6) dX7_init_49 mi_X7_29 rfl rfl rfl (Nat.le_of_ble_eq_true rfl) (by decide) (Nat.le_of_ble_eq_true rfl) (Nat.le_of_ble_eq_true rfl) rfl rfl rfl rfl hF ?_
  intro D7 hF
  refine gc_putR (k := 0) (c' := (.inr (.inr (7, [some (some (sh0.length + 1)), some (some (sh0.length + 2)), some (some (sh0.length + 3)), some (some (sh0.length + 4)), some (some (sh0.length + 5)), some (some (sh0.length + 6)), some none, some none, none, none, none, none])) :: (.inl (0, 20) :: (.inl (0, 20) :: (.inl (0, 20) :: (.inl (0, 20) :: (.inl (0, 20) :: (cl_X6 (sh0.length + 6))))))))) dX7_init_52 fd_X7_30 fr_X7_5 rfl rfl (Nat.le_of_ble_eq_true rfl) rfl ?_
  refine g_aload_n dX7_init_55 rfl ?_
  refine g_bipush dX7_init_56 ⟨by decide, by decide⟩ ?_
  let D8 : g_D := g_row D7 (sh0.length + 10) (fun _ => 0)
  have hF := hF D8 rfl
  refine gc_newa (k := 10) (N := 41) (c' := (.inr (.inr (7, [some (some (sh0.length + 1)), some (some (sh0.length + 2)), some (some (sh0.length + 3)), some (some (sh0.length + 4)), some (some (sh0.length + 5)), some (some (sh0.length + 6)), some none, some none, none, none, none, none])) :: (.inl (0, 20) :: (.inl (0, 20) :: (.inl (0, 20) :: (.inl (0, 20) :: (.inl (0, 20) :: (cl_X6 (sh0.length + 6) ++ [.inl (0, 41)])))))))) (Or.inl ⟨rfl, rfl⟩) dX7_init_58 wa_0 (by decide) (by decide) rfl (Nat.le_of_ble_eq_true rfl) (Nat.le_of_ble_eq_true rfl) rfl rfl ?_
  refine gc_putR (k := 0) (c' := (.inr (.inr (7, [some (some (sh0.length + 1)), some (some (sh0.length + 2)), some (some (sh0.length + 3)), some (some (sh0.length + 4)), some (some (sh0.length + 5)), some (some (sh0.length + 6)), some (some (sh0.length + 10)), some none, none, none, none, none])) :: (.inl (0, 20) :: (.inl (0, 20) :: (.inl (0, 20) :: (.inl (0, 20) :: (.inl (0, 20) :: (cl_X6 (sh0.length + 6) ++ [.inl (0, 41)])))))))) dX7_init_60 fd_X7_34 fr_X7_6 rfl rfl (Nat.le_of_ble_eq_true rfl) rfl ?_
  refine g_aload_n dX7_init_63 rfl ?_
  refine g_bipush dX7_init_64 ⟨by decide, by decide⟩ ?_
  let D9 : g_D := g_row D8 (sh0.length + 11) (fun _ => 0)
  have hF := hF D9 rfl
  refine gc_newa (k := 11) (N := 41) (c' := (.inr (.inr (7, [some (some (sh0.length + 1)), some (some (sh0.length + 2)), some (some (sh0.length + 3)), some (some (sh0.length + 4)), some (some (sh0.length + 5)), some (some (sh0.length + 6)), some (some (sh0.length + 10)), some none, none, none, none, none])) :: (.inl (0, 20) :: (.inl (0, 20) :: (.inl (0, 20) :: (.inl (0, 20) :: (.inl (0, 20) :: (cl_X6 (sh0.length + 6) ++ (.inl (0, 41) :: [.inl (0, 41)]))))))))) (Or.inl ⟨rfl, rfl⟩) dX7_init_66 wa_0 (by decide) (by decide) rfl (Nat.le_of_ble_eq_true rfl) (Nat.le_of_ble_eq_true rfl) rfl rfl ?_
  refine gc_putR (k := 0) (c' := (.inr (.inr (7, [some (some (sh0.length + 1)), some (some (sh0.length + 2)), some (some (sh0.length + 3)), some (some (sh0.length + 4)), some (some (sh0.length + 5)), some (some (sh0.length + 6)), some (some (sh0.length + 10)), some (some (sh0.length + 11)), none, none, none, none])) :: (.inl (0, 20) :: (.inl (0, 20) :: (.inl (0, 20) :: (.inl (0, 20) :: (.inl (0, 20) :: (cl_X6 (sh0.length + 6) ++ (.inl (0, 41) :: [.inl (0, 41)]))))))))) dX7_init_68 fd_X7_37 fr_X7_7 rfl rfl (Nat.le_of_ble_eq_true rfl) rfl ?_
  exact gc_ret dX7_init_71 rfl (Nat.le_of_ble_eq_true rfl) (Nat.le_of_ble_eq_true rfl) rfl hF
theorem dX4_init_0 : decode cX4_init 0 = .ok (.aload_n 0, 1) := by decide +kernel
theorem dX4_init_1 : decode cX4_init 1 = .ok (.invokespecial 3, 3) := by decide +kernel
theorem dX4_init_4 : decode cX4_init 4 = .ok (.aload_n 0, 1) := by decide +kernel
theorem dX4_init_5 : decode cX4_init 5 = .ok (.bipush 40, 2) := by decide +kernel
theorem dX4_init_7 : decode cX4_init 7 = .ok (.newarray .int, 2) := by decide +kernel
theorem dX4_init_9 : decode cX4_init 9 = .ok (.putfield 11, 3) := by decide +kernel
theorem dX4_init_12 : decode cX4_init 12 = .ok (.aload_n 0, 1) := by decide +kernel
theorem dX4_init_13 : decode cX4_init 13 = .ok (.bipush 40, 2) := by decide +kernel
theorem dX4_init_15 : decode cX4_init 15 = .ok (.newarray .int, 2) := by decide +kernel
theorem dX4_init_17 : decode cX4_init 17 = .ok (.putfield 15, 3) := by decide +kernel
theorem dX4_init_20 : decode cX4_init 20 = .ok (.aload_n 0, 1) := by decide +kernel
theorem dX4_init_21 : decode cX4_init 21 = .ok (.bipush 40, 2) := by decide +kernel
theorem dX4_init_23 : decode cX4_init 23 = .ok (.newarray .int, 2) := by decide +kernel
theorem dX4_init_25 : decode cX4_init 25 = .ok (.putfield 18, 3) := by decide +kernel
theorem dX4_init_28 : decode cX4_init 28 = .ok (.aload_n 0, 1) := by decide +kernel
theorem dX4_init_29 : decode cX4_init 29 = .ok (.bipush 20, 2) := by decide +kernel
theorem dX4_init_31 : decode cX4_init 31 = .ok (.newarray .int, 2) := by decide +kernel
theorem dX4_init_33 : decode cX4_init 33 = .ok (.putfield 21, 3) := by decide +kernel
theorem dX4_init_36 : decode cX4_init 36 = .ok (.aload_n 0, 1) := by decide +kernel
theorem dX4_init_37 : decode cX4_init 37 = .ok (.new 24, 3) := by decide +kernel
theorem dX4_init_40 : decode cX4_init 40 = .ok (.dup, 1) := by decide +kernel
theorem dX4_init_41 : decode cX4_init 41 = .ok (.sipush 160, 3) := by decide +kernel
theorem dX4_init_44 : decode cX4_init 44 = .ok (.invokespecial 26, 3) := by decide +kernel
theorem dX4_init_47 : decode cX4_init 47 = .ok (.putfield 29, 3) := by decide +kernel
theorem dX4_init_50 : decode cX4_init 50 = .ok (.return_, 1) := by decide +kernel
def cl_X4 (n : Nat) : List g_Sh := (.inr (.inr (4, [some (some (n + 1)), some (some (n + 2)), some (some (n + 3)), some (some (n + 4)), some (some (n + 5)), none, none, none, none, none, none, none])) :: (.inl (0, 40) :: (.inl (0, 40) :: (.inl (0, 40) :: (.inl (0, 20) :: (cl_X0 160 (n + 5)))))))
abbrev kc_X4 (E : g_E) (l : Launch) (sh0 : List g_Sh) (D : g_D) (K : g_D → Prop) : Prop := g_Mc E l m_X4_init 2 6 302 [g_R (sh0.length + 0)] sh0 (.inr (.inr (4, [some none, some none, some none, some none, some none, none, none, none, none, none, none, none]))) (cl_X4 sh0.length) D K
set_option maxRecDepth 20000 in
theorem sc_X4 {E : g_E} {l : Launch} {sh0 : List g_Sh} {D : g_D} {K : g_D → Prop} (hF : g_okD D → ∀ D1, D1 = g_row D (sh0.length + 1) (fun _ => 0) → (∀ D2, D2 = g_row D1 (sh0.length + 2) (fun _ => 0) → (∀ D3, D3 = g_row D2 (sh0.length + 3) (fun _ => 0) → (∀ D4, D4 = g_row D3 (sh0.length + 4) (fun _ => 0) → (∀ D5, D5 = g_row D4 (sh0.length + 5) (fun _ => 0) → (kc_X0 E l (sh0 ++ (.inr (.inr (4, [some (some (sh0.length + 1)), some (some (sh0.length + 2)), some (some (sh0.length + 3)), some (some (sh0.length + 4)), some none, none, none, none, none, none, none, none])) :: (.inl (0, 40) :: (.inl (0, 40) :: (.inl (0, 40) :: [.inl (0, 20)]))))) D5 160 160 (fun D6 => K D6))))))) : kc_X4 E l sh0 D K := by
  refine g_enter (by decide) (Nat.le_of_ble_eq_true rfl) ?_
  show g_G E l m_X4_init 2 6 302 0 0 0 [some (g_R (sh0.length + 0))] [] (sh0 ++ [.inr (.inr (4, [some none, some none, some none, some none, some none, none, none, none, none, none, none, none]))]) D (g_Rc sh0 (cl_X4 sh0.length) K)
  refine g_use (fun ok => ?_)
  have hF := hF ok.2.1
  refine g_aload_n dX4_init_0 rfl ?_
  refine g_oinit dX4_init_1 oi_X4_3 w_oin w_oco (by decide) (Nat.le_of_ble_eq_true rfl) ?_
  refine g_aload_n dX4_init_4 rfl ?_
  refine g_bipush dX4_init_5 ⟨by decide, by decide⟩ ?_
  let D1 : g_D := g_row D (sh0.length + 1) (fun _ => 0)
  have hF := hF D1 rfl
  refine gc_newa (k := 1) (N := 40) (c' := (.inr (.inr (4, [some none, some none, some none, some none, some none, none, none, none, none, none, none, none])) :: [.inl (0, 40)])) (Or.inl ⟨rfl, rfl⟩) dX4_init_7 wa_0 (by decide) (by decide) rfl (Nat.le_of_ble_eq_true rfl) (Nat.le_of_ble_eq_true rfl) rfl rfl ?_
  refine gc_putR (k := 0) (c' := (.inr (.inr (4, [some (some (sh0.length + 1)), some none, some none, some none, some none, none, none, none, none, none, none, none])) :: [.inl (0, 40)])) dX4_init_9 fd_X4_11 fr_X4_0 rfl rfl (Nat.le_of_ble_eq_true rfl) rfl ?_
  refine g_aload_n dX4_init_12 rfl ?_
  refine g_bipush dX4_init_13 ⟨by decide, by decide⟩ ?_
  let D2 : g_D := g_row D1 (sh0.length + 2) (fun _ => 0)
  have hF := hF D2 rfl
  refine gc_newa (k := 2) (N := 40) (c' := (.inr (.inr (4, [some (some (sh0.length + 1)), some none, some none, some none, some none, none, none, none, none, none, none, none])) :: (.inl (0, 40) :: [.inl (0, 40)]))) (Or.inl ⟨rfl, rfl⟩) dX4_init_15 wa_0 (by decide) (by decide) rfl (Nat.le_of_ble_eq_true rfl) (Nat.le_of_ble_eq_true rfl) rfl rfl ?_
  refine gc_putR (k := 0) (c' := (.inr (.inr (4, [some (some (sh0.length + 1)), some (some (sh0.length + 2)), some none, some none, some none, none, none, none, none, none, none, none])) :: (.inl (0, 40) :: [.inl (0, 40)]))) dX4_init_17 fd_X4_15 fr_X4_1 rfl rfl (Nat.le_of_ble_eq_true rfl) rfl ?_
  refine g_aload_n dX4_init_20 rfl ?_
  refine g_bipush dX4_init_21 ⟨by decide, by decide⟩ ?_
  let D3 : g_D := g_row D2 (sh0.length + 3) (fun _ => 0)
  have hF := hF D3 rfl
  refine gc_newa (k := 3) (N := 40) (c' := (.inr (.inr (4, [some (some (sh0.length + 1)), some (some (sh0.length + 2)), some none, some none, some none, none, none, none, none, none, none, none])) :: (.inl (0, 40) :: (.inl (0, 40) :: [.inl (0, 40)])))) (Or.inl ⟨rfl, rfl⟩) dX4_init_23 wa_0 (by decide) (by decide) rfl (Nat.le_of_ble_eq_true rfl) (Nat.le_of_ble_eq_true rfl) rfl rfl ?_
  refine gc_putR (k := 0) (c' := (.inr (.inr (4, [some (some (sh0.length + 1)), some (some (sh0.length + 2)), some (some (sh0.length + 3)), some none, some none, none, none, none, none, none, none, none])) :: (.inl (0, 40) :: (.inl (0, 40) :: [.inl (0, 40)])))) dX4_init_25 fd_X4_18 fr_X4_2 rfl rfl (Nat.le_of_ble_eq_true rfl) rfl ?_
  refine g_aload_n dX4_init_28 rfl ?_
  refine g_bipush dX4_init_29 ⟨by decide, by decide⟩ ?_
  let D4 : g_D := g_row D3 (sh0.length + 4) (fun _ => 0)
  have hF := hF D4 rfl
  refine gc_newa (k := 4) (N := 20) (c' := (.inr (.inr (4, [some (some (sh0.length + 1)), some (some (sh0.length + 2)), some (some (sh0.length + 3)), some none, some none, none, none, none, none, none, none, none])) :: (.inl (0, 40) :: (.inl (0, 40) :: (.inl (0, 40) :: [.inl (0, 20)]))))) (Or.inl ⟨rfl, rfl⟩) dX4_init_31 wa_0 (by decide) (by decide) rfl (Nat.le_of_ble_eq_true rfl) (Nat.le_of_ble_eq_true rfl) rfl rfl ?_
  refine gc_putR (k := 0) (c' := (.inr (.inr (4, [some (some (sh0.length + 1)), some (some (sh0.length + 2)), some (some (sh0.length + 3)), some (some (sh0.length + 4)), some none, none, none, none, none, none, none, none])) :: (.inl (0, 40) :: (.inl (0, 40) :: (.inl (0, 40) :: [.inl (0, 20)]))))) dX4_init_33 fd_X4_21 fr_X4_3 rfl rfl (Nat.le_of_ble_eq_true rfl) rfl ?_
  refine g_aload_n dX4_init_36 rfl ?_
  let D5 : g_D := g_row D4 (sh0.length + 5) (fun _ => 0)
  have hF := hF D5 rfl
  refine gc_new (k := 5) (c' := (.inr (.inr (4, [some (some (sh0.length + 1)), some (some (sh0.length + 2)), some (some (sh0.length + 3)), some (some (sh0.length + 4)), some none, none, none, none, none, none, none, none])) :: (.inl (0, 40) :: (.inl (0, 40) :: (.inl (0, 40) :: (.inl (0, 20) :: [.inr (.inr (0, [some none, none]))])))))) dX4_init_37 nd_X4_24 (Nat.le_of_ble_eq_true rfl) (Nat.le_of_ble_eq_true rfl) rfl rfl ?_
  refine g_dup dX4_init_40 rfl ?_
  refine g_sipush dX4_init_41 ⟨by decide, by decide⟩ ?_
  refine gc_callI (k := 5) (As := [g_I 160]) (rest := [g_R (sh0.length + 5), g_R (sh0.length + 0)]) (c1 := (.inr (.inr (4, [some (some (sh0.length + 1)), some (some (sh0.length + 2)), some (some (sh0.length + 3)), some (some (sh0.length + 4)), some none, none, none, none, none, none, none, none])) :: (.inl (0, 40) :: (.inl (0, 40) :: (.inl (0, 40) :: [.inl (0, 20)]))))) (c' := (.inr (.inr (4, [some (some (sh0.length + 1)), some (some (sh0.length + 2)), some (some (sh0.length + 3)), some (some (sh0.length + 4)), some none, none, none, none, none, none, none, none])) :: (.inl (0, 40) :: (.inl (0, 40) :: (.inl (0, 40) :: (.inl (0, 20) :: (cl_X0 160 (sh0.length + 5)))))))) (cl := cl_X0 160) dX4_init_44 mi_X4_26 rfl rfl rfl (Nat.le_of_ble_eq_true rfl) (by decide) (Nat.le_of_ble_eq_true rfl) (Nat.le_of_ble_eq_true rfl) rfl rfl rfl rfl hF ?_
  intro D6 hF
  refine gc_putR (k := 0) (c' := (.inr (.inr (4, [some (some (sh0.length + 1)), some (some (sh0.length + 2)), some (some (sh0.length + 3)), some (some (sh0.length + 4)), some (some (sh0.length + 5)), none, none, none, none, none, none, none])) :: (.inl (0, 40) :: (.inl (0, 40) :: (.inl (0, 40) :: (.inl (0, 20) :: (cl_X0 160 (sh0.length + 5)))))))) dX4_init_47 fd_X4_29 fr_X4_4 rfl rfl (Nat.le_of_ble_eq_true rfl) rfl ?_
  exact gc_ret dX4_init_50 rfl (Nat.le_of_ble_eq_true rfl) (Nat.le_of_ble_eq_true rfl) rfl hF
theorem dX1_init_0 : decode cX1_init 0 = .ok (.aload_n 0, 1) := by decide +kernel
theorem dX1_init_1 : decode cX1_init 1 = .ok (.invokespecial 3, 3) := by decide +kernel
theorem dX1_init_4 : decode cX1_init 4 = .ok (.aload_n 0, 1) := by decide +kernel
theorem dX1_init_5 : decode cX1_init 5 = .ok (.new 9, 3) := by decide +kernel
theorem dX1_init_8 : decode cX1_init 8 = .ok (.dup, 1) := by decide +kernel
theorem dX1_init_9 : decode cX1_init 9 = .ok (.invokespecial 11, 3) := by decide +kernel
theorem dX1_init_12 : decode cX1_init 12 = .ok (.putfield 12, 3) := by decide +kernel
theorem dX1_init_15 : decode cX1_init 15 = .ok (.aload_n 0, 1) := by decide +kernel
theorem dX1_init_16 : decode cX1_init 16 = .ok (.new 18, 3) := by decide +kernel
theorem dX1_init_19 : decode cX1_init 19 = .ok (.dup, 1) := by decide +kernel
theorem dX1_init_20 : decode cX1_init 20 = .ok (.sipush 160, 3) := by decide +kernel
theorem dX1_init_23 : decode cX1_init 23 = .ok (.invokespecial 20, 3) := by decide +kernel
theorem dX1_init_26 : decode cX1_init 26 = .ok (.putfield 23, 3) := by decide +kernel
theorem dX1_init_29 : decode cX1_init 29 = .ok (.aload_n 0, 1) := by decide +kernel
theorem dX1_init_30 : decode cX1_init 30 = .ok (.sipush 360, 3) := by decide +kernel
theorem dX1_init_33 : decode cX1_init 33 = .ok (.newarray .int, 2) := by decide +kernel
theorem dX1_init_35 : decode cX1_init 35 = .ok (.putfield 27, 3) := by decide +kernel
theorem dX1_init_38 : decode cX1_init 38 = .ok (.aload_n 0, 1) := by decide +kernel
theorem dX1_init_39 : decode cX1_init 39 = .ok (.sipush 360, 3) := by decide +kernel
theorem dX1_init_42 : decode cX1_init 42 = .ok (.newarray .int, 2) := by decide +kernel
theorem dX1_init_44 : decode cX1_init 44 = .ok (.putfield 31, 3) := by decide +kernel
theorem dX1_init_47 : decode cX1_init 47 = .ok (.aload_n 0, 1) := by decide +kernel
theorem dX1_init_48 : decode cX1_init 48 = .ok (.sipush 3610, 3) := by decide +kernel
theorem dX1_init_51 : decode cX1_init 51 = .ok (.newarray .int, 2) := by decide +kernel
theorem dX1_init_53 : decode cX1_init 53 = .ok (.putfield 34, 3) := by decide +kernel
theorem dX1_init_56 : decode cX1_init 56 = .ok (.aload_n 0, 1) := by decide +kernel
theorem dX1_init_57 : decode cX1_init 57 = .ok (.sipush 361, 3) := by decide +kernel
theorem dX1_init_60 : decode cX1_init 60 = .ok (.newarray .int, 2) := by decide +kernel
theorem dX1_init_62 : decode cX1_init 62 = .ok (.putfield 37, 3) := by decide +kernel
theorem dX1_init_65 : decode cX1_init 65 = .ok (.aload_n 0, 1) := by decide +kernel
theorem dX1_init_66 : decode cX1_init 66 = .ok (.sipush 740, 3) := by decide +kernel
theorem dX1_init_69 : decode cX1_init 69 = .ok (.newarray .int, 2) := by decide +kernel
theorem dX1_init_71 : decode cX1_init 71 = .ok (.putfield 40, 3) := by decide +kernel
theorem dX1_init_74 : decode cX1_init 74 = .ok (.aload_n 0, 1) := by decide +kernel
theorem dX1_init_75 : decode cX1_init 75 = .ok (.new 43, 3) := by decide +kernel
theorem dX1_init_78 : decode cX1_init 78 = .ok (.dup, 1) := by decide +kernel
theorem dX1_init_79 : decode cX1_init 79 = .ok (.invokespecial 45, 3) := by decide +kernel
theorem dX1_init_82 : decode cX1_init 82 = .ok (.putfield 46, 3) := by decide +kernel
theorem dX1_init_85 : decode cX1_init 85 = .ok (.aload_n 0, 1) := by decide +kernel
theorem dX1_init_86 : decode cX1_init 86 = .ok (.iconst 4, 1) := by decide +kernel
theorem dX1_init_87 : decode cX1_init 87 = .ok (.newarray .int, 2) := by decide +kernel
theorem dX1_init_89 : decode cX1_init 89 = .ok (.putfield 50, 3) := by decide +kernel
theorem dX1_init_92 : decode cX1_init 92 = .ok (.aload_n 0, 1) := by decide +kernel
theorem dX1_init_93 : decode cX1_init 93 = .ok (.bipush 10, 2) := by decide +kernel
theorem dX1_init_95 : decode cX1_init 95 = .ok (.newarray .int, 2) := by decide +kernel
theorem dX1_init_97 : decode cX1_init 97 = .ok (.putfield 53, 3) := by decide +kernel
theorem dX1_init_100 : decode cX1_init 100 = .ok (.return_, 1) := by decide +kernel
def cl_X1 (n : Nat) : List g_Sh := (.inr (.inr (1, [some (some (n + 1)), some (some (n + 6)), some (some (n + 8)), some (some (n + 9)), none, some (some (n + 10)), some (some (n + 11)), some (some (n + 12)), some (some (n + 13)), some (some (n + 21)), some (some (n + 22))])) :: (cl_X5 (n + 1) ++ (cl_X0 160 (n + 6) ++ (.inl (0, 360) :: (.inl (0, 360) :: (.inl (0, 3610) :: (.inl (0, 361) :: (.inl (0, 740) :: (cl_X2 (n + 13) ++ (.inl (0, 4) :: [.inl (0, 10)]))))))))))
abbrev kc_X1 (E : g_E) (l : Launch) (sh0 : List g_Sh) (D : g_D) (K : g_D → Prop) : Prop := g_Mc E l m_X1_init 3 22 6056 [g_R (sh0.length + 0)] sh0 (.inr (.inr (1, [some none, some none, some none, some none, none, some none, some none, some none, some none, some none, some none]))) (cl_X1 sh0.length) D K
set_option maxRecDepth 20000 in
theorem sc_X1 {E : g_E} {l : Launch} {sh0 : List g_Sh} {D : g_D} {K : g_D → Prop} (hF : g_okD D → ∀ D1, D1 = g_row D (sh0.length + 1) (fun _ => 0) → (kc_X5 E l (sh0 ++ [.inr (.inr (1, [some none, some none, some none, some none, none, some none, some none, some none, some none, some none, some none]))]) D1 (fun D2 => ∀ D3, D3 = g_row D2 (sh0.length + 6) (fun _ => 0) → (kc_X0 E l (sh0 ++ (.inr (.inr (1, [some (some (sh0.length + 1)), some none, some none, some none, none, some none, some none, some none, some none, some none, some none])) :: (cl_X5 (sh0.length + 1)))) D3 160 160 (fun D4 => ∀ D5, D5 = g_row D4 (sh0.length + 8) (fun _ => 0) → (∀ D6, D6 = g_row D5 (sh0.length + 9) (fun _ => 0) → (∀ D7, D7 = g_row D6 (sh0.length + 10) (fun _ => 0) → (∀ D8, D8 = g_row D7 (sh0.length + 11) (fun _ => 0) → (∀ D9, D9 = g_row D8 (sh0.length + 12) (fun _ => 0) → (∀ D10, D10 = g_row D9 (sh0.length + 13) (fun _ => 0) → (kc_X2 E l (sh0 ++ (.inr (.inr (1, [some (some (sh0.length + 1)), some (some (sh0.length + 6)), some (some (sh0.length + 8)), some (some (sh0.length + 9)), none, some (some (sh0.length + 10)), some (some (sh0.length + 11)), some (some (sh0.length + 12)), some none, some none, some none])) :: (cl_X5 (sh0.length + 1) ++ (cl_X0 160 (sh0.length + 6) ++ (.inl (0, 360) :: (.inl (0, 360) :: (.inl (0, 3610) :: (.inl (0, 361) :: [.inl (0, 740)])))))))) D10 (fun D11 => ∀ D12, D12 = g_row D11 (sh0.length + 21) (fun _ => 0) → (∀ D13, D13 = g_row D12 (sh0.length + 22) (fun _ => 0) → (K D13)))))))))))))) : kc_X1 E l sh0 D K := by
  refine g_enter (by decide) (Nat.le_of_ble_eq_true rfl) ?_
  show g_G E l m_X1_init 3 22 6056 0 0 0 [some (g_R (sh0.length + 0))] [] (sh0 ++ [.inr (.inr (1, [some none, some none, some none, some none, none, some none, some none, some none, some none, some none, some none]))]) D (g_Rc sh0 (cl_X1 sh0.length) K)
  refine g_use (fun ok => ?_)
  have hF := hF ok.2.1
  refine g_aload_n dX1_init_0 rfl ?_
  refine g_oinit dX1_init_1 oi_X1_3 w_oin w_oco (by decide) (Nat.le_of_ble_eq_true rfl) ?_
  refine g_aload_n dX1_init_4 rfl ?_
  let D1 : g_D := g_row D (sh0.length + 1) (fun _ => 0)
  have hF := hF D1 rfl
  refine gc_new (k := 1) (c' := (.inr (.inr (1, [some none, some none, some none, some none, none, some none, some none, some none, some none, some none, some none])) :: [.inr (.inr (5, [some none, some none, some none, some none, none, none, none, none, none]))])) dX1_init_5 nd_X1_9 (Nat.le_of_ble_eq_true rfl) (Nat.le_of_ble_eq_true rfl) rfl rfl ?_
  refine g_dup dX1_init_8 rfl ?_
  refine gc_callI (k := 1) (As := []) (rest := [g_R (sh0.length + 1), g_R (sh0.length + 0)]) (c1 := [.inr (.inr (1, [some none, some none, some none, some none, none, some none, some none, some none, some none, some none, some none]))]) (c' := (.inr (.inr (1, [some none, some none, some none, some none, none, some none, some none, some none, some none, some none, some none])) :: (cl_X5 (sh0.length + 1)))) (cl := cl_X5) dX1_init_9 mi_X1_11 rfl rfl rfl (Nat.le_of_ble_eq_true rfl) (by decide) (Nat.le_of_ble_eq_true rfl) (Nat.le_of_ble_eq_true rfl) rfl rfl rfl rfl hF ?_
  intro D2 hF
  refine gc_putR (k := 0) (c' := (.inr (.inr (1, [some (some (sh0.length + 1)), some none, some none, some none, none, some none, some none, some none, some none, some none, some none])) :: (cl_X5 (sh0.length + 1)))) dX1_init_12 fd_X1_12 fr_X1_0 rfl rfl (Nat.le_of_ble_eq_true rfl) rfl ?_
  refine g_aload_n dX1_init_15 rfl ?_
  let D3 : g_D := g_row D2 (sh0.length + 6) (fun _ => 0)
  have hF := hF D3 rfl
  refine gc_new (k := 6) (c' := (.inr (.inr (1, [some (some (sh0.length + 1)), some none, some none, some none, none, some none, some none, some none, some none, some none, some none])) :: (cl_X5 (sh0.length + 1) ++ [.inr (.inr (0, [some none, none]))]))) dX1_init_16 nd_X1_18 (Nat.le_of_ble_eq_true rfl) (Nat.le_of_ble_eq_true rfl) rfl rfl ?_
  refine g_dup dX1_init_19 rfl ?_
  refine g_sipush dX1_init_20 ⟨by decide, by decide⟩ ?_
  refine gc_callI (k := 6) (As := [g_I 160]) (rest := [g_R (sh0.length + 6), g_R (sh0.length + 0)]) (c1 := (.inr (.inr (1, [some (some (sh0.length + 1)), some none, some none, some none, none, some none, some none, some none, some none, some none, some none])) :: (cl_X5 (sh0.length + 1)))) (c' := (.inr (.inr (1, [some (some (sh0.length + 1)), some none, some none, some none, none, some none, some none, some none, some none, some none, some none])) :: (cl_X5 (sh0.length + 1) ++ (cl_X0 160 (sh0.length + 6))))) (cl := cl_X0 160) dX1_init_23 mi_X1_20 rfl rfl rfl (Nat.le_of_ble_eq_true rfl) (by decide) (Nat.le_of_ble_eq_true rfl) (Nat.le_of_ble_eq_true rfl) rfl rfl rfl rfl hF ?_
  intro D4 hF
  refine gc_putR (k := 0) (c' := (.inr (.inr (1, [some (some (sh0.length + 1)), some (some (sh0.length + 6)), some none, some none, none, some none, some none, some none, some none, some none, some none])) :: (cl_X5 (sh0.length + 1) ++ (cl_X0 160 (sh0.length + 6))))) dX1_init_26 fd_X1_23 fr_X1_1 rfl rfl (Nat.le_of_ble_eq_true rfl) rfl ?_
  refine g_aload_n dX1_init_29 rfl ?_
  refine g_sipush dX1_init_30 ⟨by decide, by decide⟩ ?_
  let D5 : g_D := g_row D4 (sh0.length + 8) (fun _ => 0)
  have hF := hF D5 rfl
  refine gc_newa (k := 8) (N := 360) (c' := (.inr (.inr (1, [some (some (sh0.length + 1)), some (some (sh0.length + 6)), some none, some none, none, some none, some none, some none, some none, some none, some none])) :: (cl_X5 (sh0.length + 1) ++ (cl_X0 160 (sh0.length + 6) ++ [.inl (0, 360)])))) (Or.inl ⟨rfl, rfl⟩) dX1_init_33 wa_0 (by decide) (by decide) rfl (Nat.le_of_ble_eq_true rfl) (Nat.le_of_ble_eq_true rfl) rfl rfl ?_
  refine gc_putR (k := 0) (c' := (.inr (.inr (1, [some (some (sh0.length + 1)), some (some (sh0.length + 6)), some (some (sh0.length + 8)), some none, none, some none, some none, some none, some none, some none, some none])) :: (cl_X5 (sh0.length + 1) ++ (cl_X0 160 (sh0.length + 6) ++ [.inl (0, 360)])))) dX1_init_35 fd_X1_27 fr_X1_2 rfl rfl (Nat.le_of_ble_eq_true rfl) rfl ?_
  refine g_aload_n dX1_init_38 rfl ?_
  refine g_sipush dX1_init_39 ⟨by decide, by decide⟩ ?_
  let D6 : g_D := g_row D5 (sh0.length + 9) (fun _ => 0)
  have hF := hF D6 rfl
  refine gc_newa (k := 9) (N := 360) (c' := (.inr (.inr (1, [some (some (sh0.length + 1)), some (some (sh0.length + 6)), some (some (sh0.length + 8)), some none, none, some none, some none, some none, some none, some none, some none])) :: (cl_X5 (sh0.length + 1) ++ (cl_X0 160 (sh0.length + 6) ++ (.inl (0, 360) :: [.inl (0, 360)]))))) (Or.inl ⟨rfl, rfl⟩) dX1_init_42 wa_0 (by decide) (by decide) rfl (Nat.le_of_ble_eq_true rfl) (Nat.le_of_ble_eq_true rfl) rfl rfl ?_
  refine gc_putR (k := 0) (c' := (.inr (.inr (1, [some (some (sh0.length + 1)), some (some (sh0.length + 6)), some (some (sh0.length + 8)), some (some (sh0.length + 9)), none, some none, some none, some none, some none, some none, some none])) :: (cl_X5 (sh0.length + 1) ++ (cl_X0 160 (sh0.length + 6) ++ (.inl (0, 360) :: [.inl (0, 360)]))))) dX1_init_44 fd_X1_31 fr_X1_3 rfl rfl (Nat.le_of_ble_eq_true rfl) rfl ?_
  refine g_aload_n dX1_init_47 rfl ?_
  refine g_sipush dX1_init_48 ⟨by decide, by decide⟩ ?_
  let D7 : g_D := g_row D6 (sh0.length + 10) (fun _ => 0)
  have hF := hF D7 rfl
  refine gc_newa (k := 10) (N := 3610) (c' := (.inr (.inr (1, [some (some (sh0.length + 1)), some (some (sh0.length + 6)), some (some (sh0.length + 8)), some (some (sh0.length + 9)), none, some none, some none, some none, some none, some none, some none])) :: (cl_X5 (sh0.length + 1) ++ (cl_X0 160 (sh0.length + 6) ++ (.inl (0, 360) :: (.inl (0, 360) :: [.inl (0, 3610)])))))) (Or.inl ⟨rfl, rfl⟩) dX1_init_51 wa_0 (by decide) (by decide) rfl (Nat.le_of_ble_eq_true rfl) (Nat.le_of_ble_eq_true rfl) rfl rfl ?_
  refine gc_putR (k := 0) (c' := (.inr (.inr (1, [some (some (sh0.length + 1)), some (some (sh0.length + 6)), some (some (sh0.length + 8)), some (some (sh0.length + 9)), none, some (some (sh0.length + 10)), some none, some none, some none, some none, some none])) :: (cl_X5 (sh0.length + 1) ++ (cl_X0 160 (sh0.length + 6) ++ (.inl (0, 360) :: (.inl (0, 360) :: [.inl (0, 3610)])))))) dX1_init_53 fd_X1_34 fr_X1_5 rfl rfl (Nat.le_of_ble_eq_true rfl) rfl ?_
  refine g_aload_n dX1_init_56 rfl ?_
  refine g_sipush dX1_init_57 ⟨by decide, by decide⟩ ?_
  let D8 : g_D := g_row D7 (sh0.length + 11) (fun _ => 0)
  have hF := hF D8 rfl
  refine gc_newa (k := 11) (N := 361) (c' := (.inr (.inr (1, [some (some (sh0.length + 1)), some (some (sh0.length + 6)), some (some (sh0.length + 8)), some (some (sh0.length + 9)), none, some (some (sh0.length + 10)), some none, some none, some none, some none, some none])) :: (cl_X5 (sh0.length + 1) ++ (cl_X0 160 (sh0.length + 6) ++ (.inl (0, 360) :: (.inl (0, 360) :: (.inl (0, 3610) :: [.inl (0, 361)]))))))) (Or.inl ⟨rfl, rfl⟩) dX1_init_60 wa_0 (by decide) (by decide) rfl (Nat.le_of_ble_eq_true rfl) (Nat.le_of_ble_eq_true rfl) rfl rfl ?_
  refine gc_putR (k := 0) (c' := (.inr (.inr (1, [some (some (sh0.length + 1)), some (some (sh0.length + 6)), some (some (sh0.length + 8)), some (some (sh0.length + 9)), none, some (some (sh0.length + 10)), some (some (sh0.length + 11)), some none, some none, some none, some none])) :: (cl_X5 (sh0.length + 1) ++ (cl_X0 160 (sh0.length + 6) ++ (.inl (0, 360) :: (.inl (0, 360) :: (.inl (0, 3610) :: [.inl (0, 361)]))))))) dX1_init_62 fd_X1_37 fr_X1_6 rfl rfl (Nat.le_of_ble_eq_true rfl) rfl ?_
  refine g_aload_n dX1_init_65 rfl ?_
  refine g_sipush dX1_init_66 ⟨by decide, by decide⟩ ?_
  let D9 : g_D := g_row D8 (sh0.length + 12) (fun _ => 0)
  have hF := hF D9 rfl
  refine gc_newa (k := 12) (N := 740) (c' := (.inr (.inr (1, [some (some (sh0.length + 1)), some (some (sh0.length + 6)), some (some (sh0.length + 8)), some (some (sh0.length + 9)), none, some (some (sh0.length + 10)), some (some (sh0.length + 11)), some none, some none, some none, some none])) :: (cl_X5 (sh0.length + 1) ++ (cl_X0 160 (sh0.length + 6) ++ (.inl (0, 360) :: (.inl (0, 360) :: (.inl (0, 3610) :: (.inl (0, 361) :: [.inl (0, 740)])))))))) (Or.inl ⟨rfl, rfl⟩) dX1_init_69 wa_0 (by decide) (by decide) rfl (Nat.le_of_ble_eq_true rfl) (Nat.le_of_ble_eq_true rfl) rfl rfl ?_
  refine gc_putR (k := 0) (c' := (.inr (.inr (1, [some (some (sh0.length + 1)), some (some (sh0.length + 6)), some (some (sh0.length + 8)), some (some (sh0.length + 9)), none, some (some (sh0.length + 10)), some (some (sh0.length + 11)), some (some (sh0.length + 12)), some none, some none, some none])) :: (cl_X5 (sh0.length + 1) ++ (cl_X0 160 (sh0.length + 6) ++ (.inl (0, 360) :: (.inl (0, 360) :: (.inl (0, 3610) :: (.inl (0, 361) :: [.inl (0, 740)])))))))) dX1_init_71 fd_X1_40 fr_X1_7 rfl rfl (Nat.le_of_ble_eq_true rfl) rfl ?_
  refine g_aload_n dX1_init_74 rfl ?_
  let D10 : g_D := g_row D9 (sh0.length + 13) (fun _ => 0)
  have hF := hF D10 rfl
  refine gc_new (k := 13) (c' := (.inr (.inr (1, [some (some (sh0.length + 1)), some (some (sh0.length + 6)), some (some (sh0.length + 8)), some (some (sh0.length + 9)), none, some (some (sh0.length + 10)), some (some (sh0.length + 11)), some (some (sh0.length + 12)), some none, some none, some none])) :: (cl_X5 (sh0.length + 1) ++ (cl_X0 160 (sh0.length + 6) ++ (.inl (0, 360) :: (.inl (0, 360) :: (.inl (0, 3610) :: (.inl (0, 361) :: (.inl (0, 740) :: [.inr (.inr (2, [some none, some none, some none, some none, some none, some none, none, none, none, none]))]))))))))) dX1_init_75 nd_X1_43 (Nat.le_of_ble_eq_true rfl) (Nat.le_of_ble_eq_true rfl) rfl rfl ?_
  refine g_dup dX1_init_78 rfl ?_
  refine gc_callI (k := 13) (As := []) (rest := [g_R (sh0.length + 13), g_R (sh0.length + 0)]) (c1 := (.inr (.inr (1, [some (some (sh0.length + 1)), some (some (sh0.length + 6)), some (some (sh0.length + 8)), some (some (sh0.length + 9)), none, some (some (sh0.length + 10)), some (some (sh0.length + 11)), some (some (sh0.length + 12)), some none, some none, some none])) :: (cl_X5 (sh0.length + 1) ++ (cl_X0 160 (sh0.length + 6) ++ (.inl (0, 360) :: (.inl (0, 360) :: (.inl (0, 3610) :: (.inl (0, 361) :: [.inl (0, 740)])))))))) (c' := (.inr (.inr (1, [some (some (sh0.length + 1)), some (some (sh0.length + 6)), some (some (sh0.length + 8)), some (some (sh0.length + 9)), none, some (some (sh0.length + 10)), some (some (sh0.length + 11)), some (some (sh0.length + 12)), some none, some none, some none])) :: (cl_X5 (sh0.length + 1) ++ (cl_X0 160 (sh0.length + 6) ++ (.inl (0, 360) :: (.inl (0, 360) :: (.inl (0, 3610) :: (.inl (0, 361) :: (.inl (0, 740) :: (cl_X2 (sh0.length + 13))))))))))) (cl := cl_X2) dX1_init_79 mi_X1_45 rfl rfl rfl (Nat.le_of_ble_eq_true rfl) (by decide) (Nat.le_of_ble_eq_true rfl) (Nat.le_of_ble_eq_true rfl) rfl rfl rfl rfl hF ?_
  intro D11 hF
  refine gc_putR (k := 0) (c' := (.inr (.inr (1, [some (some (sh0.length + 1)), some (some (sh0.length + 6)), some (some (sh0.length + 8)), some (some (sh0.length + 9)), none, some (some (sh0.length + 10)), some (some (sh0.length + 11)), some (some (sh0.length + 12)), some (some (sh0.length + 13)), some none, some none])) :: (cl_X5 (sh0.length + 1) ++ (cl_X0 160 (sh0.length + 6) ++ (.inl (0, 360) :: (.inl (0, 360) :: (.inl (0, 3610) :: (.inl (0, 361) :: (.inl (0, 740) :: (cl_X2 (sh0.length + 13))))))))))) dX1_init_82 fd_X1_46 fr_X1_8 rfl rfl (Nat.le_of_ble_eq_true rfl) rfl ?_
  refine g_aload_n dX1_init_85 rfl ?_
  refine g_iconst dX1_init_86 ⟨by decide, by decide⟩ ?_
  let D12 : g_D := g_row D11 (sh0.length + 21) (fun _ => 0)
  have hF := hF D12 rfl
  refine gc_newa (k := 21) (N := 4) (c' := (.inr (.inr (1, [some (some (sh0.length + 1)), some (some (sh0.length + 6)), some (some (sh0.length + 8)), some (some (sh0.length + 9)), none, some (some (sh0.length + 10)), some (some (sh0.length + 11)), some (some (sh0.length + 12)), some (some (sh0.length + 13)), some none, some none])) :: (cl_X5 (sh0.length + 1) ++ (cl_X0 160 (sh0.length + 6) ++ (.inl (0, 360) :: (.inl (0, 360) :: (.inl (0, 3610) :: (.inl (0, 361) :: (.inl (0, 740) :: (cl_X2 (sh0.length + 13) ++ [.inl (0, 4)])))))))))) (Or.inl ⟨rfl, rfl⟩) dX1_init_87 wa_0 (by decide) (by decide) rfl (Nat.le_of_ble_eq_true rfl) (Nat.le_of_ble_eq_true rfl) rfl rfl ?_
  refine gc_putR (k := 0) (c' := (.inr (.inr (1, [some (some (sh0.length + 1)), some (some (sh0.length + 6)), some (some (sh0.length + 8)), some (some (sh0.length + 9)), none, some (some (sh0.length + 10)), some (some (sh0.length + 11)), some (some (sh0.length + 12)), some (some (sh0.length + 13)), some (some (sh0.length + 21)), some none])) :: (cl_X5 (sh0.length + 1) ++ (cl_X0 160 (sh0.length + 6) ++ (.inl (0, 360) :: (.inl (0, 360) :: (.inl (0, 3610) :: (.inl (0, 361) :: (.inl (0, 740) :: (cl_X2 (sh0.length + 13) ++ [.inl (0, 4)])))))))))) dX1_init_89 fd_X1_50 fr_X1_9 rfl rfl (Nat.le_of_ble_eq_true rfl) rfl ?_
  refine g_aload_n dX1_init_92 rfl ?_
  refine g_bipush dX1_init_93 ⟨by decide, by decide⟩ ?_
  let D13 : g_D := g_row D12 (sh0.length + 22) (fun _ => 0)
  have hF := hF D13 rfl
  refine gc_newa (k := 22) (N := 10) (c' := (.inr (.inr (1, [some (some (sh0.length + 1)), some (some (sh0.length + 6)), some (some (sh0.length + 8)), some (some (sh0.length + 9)), none, some (some (sh0.length + 10)), some (some (sh0.length + 11)), some (some (sh0.length + 12)), some (some (sh0.length + 13)), some (some (sh0.length + 21)), some none])) :: (cl_X5 (sh0.length + 1) ++ (cl_X0 160 (sh0.length + 6) ++ (.inl (0, 360) :: (.inl (0, 360) :: (.inl (0, 3610) :: (.inl (0, 361) :: (.inl (0, 740) :: (cl_X2 (sh0.length + 13) ++ (.inl (0, 4) :: [.inl (0, 10)]))))))))))) (Or.inl ⟨rfl, rfl⟩) dX1_init_95 wa_0 (by decide) (by decide) rfl (Nat.le_of_ble_eq_true rfl) (Nat.le_of_ble_eq_true rfl) rfl rfl ?_
  refine gc_putR (k := 0) (c' := (.inr (.inr (1, [some (some (sh0.length + 1)), some (some (sh0.length + 6)), some (some (sh0.length + 8)), some (some (sh0.length + 9)), none, some (some (sh0.length + 10)), some (some (sh0.length + 11)), some (some (sh0.length + 12)), some (some (sh0.length + 13)), some (some (sh0.length + 21)), some (some (sh0.length + 22))])) :: (cl_X5 (sh0.length + 1) ++ (cl_X0 160 (sh0.length + 6) ++ (.inl (0, 360) :: (.inl (0, 360) :: (.inl (0, 3610) :: (.inl (0, 361) :: (.inl (0, 740) :: (cl_X2 (sh0.length + 13) ++ (.inl (0, 4) :: [.inl (0, 10)]))))))))))) dX1_init_97 fd_X1_53 fr_X1_10 rfl rfl (Nat.le_of_ble_eq_true rfl) rfl ?_
  exact gc_ret dX1_init_100 rfl (Nat.le_of_ble_eq_true rfl) (Nat.le_of_ble_eq_true rfl) rfl hF
theorem dX10_init_0 : decode cX10_init 0 = .ok (.aload_n 0, 1) := by decide +kernel
theorem dX10_init_1 : decode cX10_init 1 = .ok (.invokespecial 3, 3) := by decide +kernel
theorem dX10_init_4 : decode cX10_init 4 = .ok (.aload_n 0, 1) := by decide +kernel
theorem dX10_init_5 : decode cX10_init 5 = .ok (.new 9, 3) := by decide +kernel
theorem dX10_init_8 : decode cX10_init 8 = .ok (.dup, 1) := by decide +kernel
theorem dX10_init_9 : decode cX10_init 9 = .ok (.invokespecial 11, 3) := by decide +kernel
theorem dX10_init_12 : decode cX10_init 12 = .ok (.putfield 12, 3) := by decide +kernel
theorem dX10_init_15 : decode cX10_init 15 = .ok (.aload_n 0, 1) := by decide +kernel
theorem dX10_init_16 : decode cX10_init 16 = .ok (.iconst 4, 1) := by decide +kernel
theorem dX10_init_17 : decode cX10_init 17 = .ok (.newarray .int, 2) := by decide +kernel
theorem dX10_init_19 : decode cX10_init 19 = .ok (.putfield 18, 3) := by decide +kernel
theorem dX10_init_22 : decode cX10_init 22 = .ok (.aload_n 0, 1) := by decide +kernel
theorem dX10_init_23 : decode cX10_init 23 = .ok (.getfield 18, 3) := by decide +kernel
theorem dX10_init_26 : decode cX10_init 26 = .ok (.iconst (-1), 1) := by decide +kernel
theorem dX10_init_27 : decode cX10_init 27 = .ok (.invokestatic 22, 3) := by decide +kernel
theorem dX10_init_30 : decode cX10_init 30 = .ok (.return_, 1) := by decide +kernel
def cl_X10 (n : Nat) : List g_Sh := (.inr (.inr (10, [some (some (n + 1)), some (some (n + 9))])) :: (cl_X2 (n + 1) ++ [.inl (0, 4)]))
abbrev kc_X10 (E : g_E) (l : Launch) (sh0 : List g_Sh) (D : g_D) (K : g_D → Prop) : Prop := g_Mc E l m_X10_init 3 9 300 [g_R (sh0.length + 0)] sh0 (.inr (.inr (10, [some none, some none]))) (cl_X10 sh0.length) D K
set_option maxRecDepth 20000 in
theorem sc_X10 {E : g_E} {l : Launch} {sh0 : List g_Sh} {D : g_D} {K : g_D → Prop} (hF : g_okD D → ∀ D1, D1 = g_row D (sh0.length + 1) (fun _ => 0) → (kc_X2 E l (sh0 ++ [.inr (.inr (10, [some none, some none]))]) D1 (fun D2 => ∀ D3, D3 = g_row D2 (sh0.length + 9) (fun _ => 0) → (k_J7_fill_53178 E l (sh0 ++ (.inr (.inr (10, [some (some (sh0.length + 1)), some (some (sh0.length + 9))])) :: (cl_X2 (sh0.length + 1) ++ [.inl (0, 4)]))) D3 (sh0.length + 9) (-1) (fun D4 => K D4))))) : kc_X10 E l sh0 D K := by
  refine g_enter (by decide) (Nat.le_of_ble_eq_true rfl) ?_
  show g_G E l m_X10_init 3 9 300 0 0 0 [some (g_R (sh0.length + 0))] [] (sh0 ++ [.inr (.inr (10, [some none, some none]))]) D (g_Rc sh0 (cl_X10 sh0.length) K)
  refine g_use (fun ok => ?_)
  have hF := hF ok.2.1
  refine g_aload_n dX10_init_0 rfl ?_
  refine g_oinit dX10_init_1 oi_X10_3 w_oin w_oco (by decide) (Nat.le_of_ble_eq_true rfl) ?_
  refine g_aload_n dX10_init_4 rfl ?_
  let D1 : g_D := g_row D (sh0.length + 1) (fun _ => 0)
  have hF := hF D1 rfl
  refine gc_new (k := 1) (c' := (.inr (.inr (10, [some none, some none])) :: [.inr (.inr (2, [some none, some none, some none, some none, some none, some none, none, none, none, none]))])) dX10_init_5 nd_X10_9 (Nat.le_of_ble_eq_true rfl) (Nat.le_of_ble_eq_true rfl) rfl rfl ?_
  refine g_dup dX10_init_8 rfl ?_
  refine gc_callI (k := 1) (As := []) (rest := [g_R (sh0.length + 1), g_R (sh0.length + 0)]) (c1 := [.inr (.inr (10, [some none, some none]))]) (c' := (.inr (.inr (10, [some none, some none])) :: (cl_X2 (sh0.length + 1)))) (cl := cl_X2) dX10_init_9 mi_X10_11 rfl rfl rfl (Nat.le_of_ble_eq_true rfl) (by decide) (Nat.le_of_ble_eq_true rfl) (Nat.le_of_ble_eq_true rfl) rfl rfl rfl rfl hF ?_
  intro D2 hF
  refine gc_putR (k := 0) (c' := (.inr (.inr (10, [some (some (sh0.length + 1)), some none])) :: (cl_X2 (sh0.length + 1)))) dX10_init_12 fd_X10_12 fr_X10_0 rfl rfl (Nat.le_of_ble_eq_true rfl) rfl ?_
  refine g_aload_n dX10_init_15 rfl ?_
  refine g_iconst dX10_init_16 ⟨by decide, by decide⟩ ?_
  let D3 : g_D := g_row D2 (sh0.length + 9) (fun _ => 0)
  have hF := hF D3 rfl
  refine gc_newa (k := 9) (N := 4) (c' := (.inr (.inr (10, [some (some (sh0.length + 1)), some none])) :: (cl_X2 (sh0.length + 1) ++ [.inl (0, 4)]))) (Or.inl ⟨rfl, rfl⟩) dX10_init_17 wa_0 (by decide) (by decide) rfl (Nat.le_of_ble_eq_true rfl) (Nat.le_of_ble_eq_true rfl) rfl rfl ?_
  refine gc_putR (k := 0) (c' := (.inr (.inr (10, [some (some (sh0.length + 1)), some (some (sh0.length + 9))])) :: (cl_X2 (sh0.length + 1) ++ [.inl (0, 4)]))) dX10_init_19 fd_X10_18 fr_X10_1 rfl rfl (Nat.le_of_ble_eq_true rfl) rfl ?_
  refine g_aload_n dX10_init_22 rfl ?_
  refine g_getR dX10_init_23 fd_X10_18 (g_apx (i := 0) rfl) rfl ?_
  refine g_iconst dX10_init_26 ⟨by decide, by decide⟩ ?_
  refine gc_cSv (As := [g_R (sh0.length + 9), g_I (-1)]) (rest := []) dX10_init_27 ms_X10_22 rfl (Nat.le_of_ble_eq_true rfl) (by decide) (Nat.le_of_ble_eq_true rfl) (Nat.le_of_ble_eq_true rfl) rfl hF ?_
  intro D4 hF
  exact gc_ret dX10_init_30 rfl (Nat.le_of_ble_eq_true rfl) (Nat.le_of_ble_eq_true rfl) rfl hF
