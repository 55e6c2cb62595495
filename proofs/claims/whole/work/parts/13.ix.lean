/-! the objects that stand in arrays -/
theorem ix_State : ∀ j : Nat, j < 2 → is_State g_SH (16 + 14 * j)
  | 0, _ => ⟨sh_16, sh_17, sh_18, sh_19, sh_20, sh_21, sh_22, sh_23, sh_24, sh_25, sh_26, sh_27, sh_28, sh_29⟩
  | 1, _ => ⟨sh_30, sh_31, sh_32, sh_33, sh_34, sh_35, sh_36, sh_37, sh_38, sh_39, sh_40, sh_41, sh_42, sh_43⟩
  | j + 2, h => absurd h (by omega)
theorem ix_Device : ∀ j : Nat, j < 10 → is_Device g_SH (54 + 8 * j)
  | 0, _ => ⟨sh_54, sh_55, sh_56, sh_57, sh_58, sh_59, sh_60, sh_61⟩
  | 1, _ => ⟨sh_62, sh_63, sh_64, sh_65, sh_66, sh_67, sh_68, sh_69⟩
  | 2, _ => ⟨sh_70, sh_71, sh_72, sh_73, sh_74, sh_75, sh_76, sh_77⟩
  | 3, _ => ⟨sh_78, sh_79, sh_80, sh_81, sh_82, sh_83, sh_84, sh_85⟩
  | 4, _ => ⟨sh_86, sh_87, sh_88, sh_89, sh_90, sh_91, sh_92, sh_93⟩
  | 5, _ => ⟨sh_94, sh_95, sh_96, sh_97, sh_98, sh_99, sh_100, sh_101⟩
  | 6, _ => ⟨sh_102, sh_103, sh_104, sh_105, sh_106, sh_107, sh_108, sh_109⟩
  | 7, _ => ⟨sh_110, sh_111, sh_112, sh_113, sh_114, sh_115, sh_116, sh_117⟩
  | 8, _ => ⟨sh_118, sh_119, sh_120, sh_121, sh_122, sh_123, sh_124, sh_125⟩
  | 9, _ => ⟨sh_126, sh_127, sh_128, sh_129, sh_130, sh_131, sh_132, sh_133⟩
  | j + 10, h => absurd h (by omega)
