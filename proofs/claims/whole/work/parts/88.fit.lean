theorem zp_codes : ∀ (k pc : Nat) (i : Jvm.ClassFile.Instr), zp_code k pc = some i → ∃ len, decode (zi_b zp k) pc = .ok (i, len) ∧ (zi_len i = 0 ∨ len = zi_len i)
  | 0, pc, i, h => by
    have hl : pc < 771 := zp_lt (l := zp_l0) h (by decide +kernel)
    by_cases h0 : pc < 96
    · exact zc_code_ok zd_0_0 (by omega) (by omega) h
    by_cases h1 : pc < 192
    · exact zc_code_ok zd_0_1 (by omega) (by omega) h
    by_cases h2 : pc < 288
    · exact zc_code_ok zd_0_2 (by omega) (by omega) h
    by_cases h3 : pc < 384
    · exact zc_code_ok zd_0_3 (by omega) (by omega) h
    by_cases h4 : pc < 480
    · exact zc_code_ok zd_0_4 (by omega) (by omega) h
    by_cases h5 : pc < 576
    · exact zc_code_ok zd_0_5 (by omega) (by omega) h
    by_cases h6 : pc < 672
    · exact zc_code_ok zd_0_6 (by omega) (by omega) h
    by_cases h7 : pc < 768
    · exact zc_code_ok zd_0_7 (by omega) (by omega) h
    exact zc_code_ok zd_0_8 (by omega) (by omega) h
  | 1, pc, i, h => zc_code_ok zd_1 (Nat.zero_le _) (by rw [Nat.zero_add]; exact zp_lt h (Nat.le_refl _)) h
  | 2, pc, i, h => zc_code_ok zd_2 (Nat.zero_le _) (by rw [Nat.zero_add]; exact zp_lt h (Nat.le_refl _)) h
  | 3, pc, i, h => zc_code_ok zd_3 (Nat.zero_le _) (by rw [Nat.zero_add]; exact zp_lt h (Nat.le_refl _)) h
  | 4, pc, i, h => zc_code_ok zd_4 (Nat.zero_le _) (by rw [Nat.zero_add]; exact zp_lt h (Nat.le_refl _)) h
  | 5, pc, i, h => zc_code_ok zd_5 (Nat.zero_le _) (by rw [Nat.zero_add]; exact zp_lt h (Nat.le_refl _)) h
  | 6, pc, i, h => zc_code_ok zd_6 (Nat.zero_le _) (by rw [Nat.zero_add]; exact zp_lt h (Nat.le_refl _)) h
  | 7, pc, i, h => zc_code_ok zd_7 (Nat.zero_le _) (by rw [Nat.zero_add]; exact zp_lt h (Nat.le_refl _)) h
  | 8, pc, i, h => zc_code_ok zd_8 (Nat.zero_le _) (by rw [Nat.zero_add]; exact zp_lt h (Nat.le_refl _)) h
  | 9, pc, i, h => zc_code_ok zd_9 (Nat.zero_le _) (by rw [Nat.zero_add]; exact zp_lt h (Nat.le_refl _)) h
  | 10, pc, i, h => zc_code_ok zd_10 (Nat.zero_le _) (by rw [Nat.zero_add]; exact zp_lt h (Nat.le_refl _)) h
  | 11, pc, i, h => zc_code_ok zd_11 (Nat.zero_le _) (by rw [Nat.zero_add]; exact zp_lt h (Nat.le_refl _)) h
  | 12, pc, i, h => zc_code_ok zd_12 (Nat.zero_le _) (by rw [Nat.zero_add]; exact zp_lt h (Nat.le_refl _)) h
  | 13, pc, i, h => zc_code_ok zd_13 (Nat.zero_le _) (by rw [Nat.zero_add]; exact zp_lt h (Nat.le_refl _)) h
  | 14, pc, i, h => zc_code_ok zd_14 (Nat.zero_le _) (by rw [Nat.zero_add]; exact zp_lt h (Nat.le_refl _)) h
  | 15, pc, i, h => zc_code_ok zd_15 (Nat.zero_le _) (by rw [Nat.zero_add]; exact zp_lt h (Nat.le_refl _)) h
  | 16, pc, i, h => zc_code_ok zd_16 (Nat.zero_le _) (by rw [Nat.zero_add]; exact zp_lt h (Nat.le_refl _)) h
  | 17, pc, i, h => zc_code_ok zd_17 (Nat.zero_le _) (by rw [Nat.zero_add]; exact zp_lt h (Nat.le_refl _)) h
  | 18, pc, i, h => zc_code_ok zd_18 (Nat.zero_le _) (by rw [Nat.zero_add]; exact zp_lt h (Nat.le_refl _)) h
  | 19, pc, i, h => zc_code_ok zd_19 (Nat.zero_le _) (by rw [Nat.zero_add]; exact zp_lt h (Nat.le_refl _)) h
  | 20, pc, i, h => zc_code_ok zd_20 (Nat.zero_le _) (by rw [Nat.zero_add]; exact zp_lt h (Nat.le_refl _)) h
  | 21, pc, i, h => zc_code_ok zd_21 (Nat.zero_le _) (by rw [Nat.zero_add]; exact zp_lt h (Nat.le_refl _)) h
  | 22, pc, i, h => zc_code_ok zd_22 (Nat.zero_le _) (by rw [Nat.zero_add]; exact zp_lt h (Nat.le_refl _)) h
  | 23, pc, i, h => zc_code_ok zd_23 (Nat.zero_le _) (by rw [Nat.zero_add]; exact zp_lt h (Nat.le_refl _)) h
  | 24, pc, i, h => zc_code_ok zd_24 (Nat.zero_le _) (by rw [Nat.zero_add]; exact zp_lt h (Nat.le_refl _)) h
  | 25, pc, i, h => zc_code_ok zd_25 (Nat.zero_le _) (by rw [Nat.zero_add]; exact zp_lt h (Nat.le_refl _)) h
  | 26, pc, i, h => zc_code_ok zd_26 (Nat.zero_le _) (by rw [Nat.zero_add]; exact zp_lt h (Nat.le_refl _)) h
  | 27, pc, i, h => zc_code_ok zd_27 (Nat.zero_le _) (by rw [Nat.zero_add]; exact zp_lt h (Nat.le_refl _)) h
  | 28, pc, i, h => zc_code_ok zd_28 (Nat.zero_le _) (by rw [Nat.zero_add]; exact zp_lt h (Nat.le_refl _)) h
  | 29, pc, i, h => zc_code_ok zd_29 (Nat.zero_le _) (by rw [Nat.zero_add]; exact zp_lt h (Nat.le_refl _)) h
  | 30, pc, i, h => zc_code_ok zd_30 (Nat.zero_le _) (by rw [Nat.zero_add]; exact zp_lt h (Nat.le_refl _)) h
  | 31, pc, i, h => zc_code_ok zd_31 (Nat.zero_le _) (by rw [Nat.zero_add]; exact zp_lt h (Nat.le_refl _)) h
  | 32, pc, i, h => zc_code_ok zd_32 (Nat.zero_le _) (by rw [Nat.zero_add]; exact zp_lt h (Nat.le_refl _)) h
  | 33, pc, i, h => zc_code_ok zd_33 (Nat.zero_le _) (by rw [Nat.zero_add]; exact zp_lt h (Nat.le_refl _)) h
  | 34, pc, i, h => zc_code_ok zd_34 (Nat.zero_le _) (by rw [Nat.zero_add]; exact zp_lt h (Nat.le_refl _)) h
  | 35, pc, i, h => zc_code_ok zd_35 (Nat.zero_le _) (by rw [Nat.zero_add]; exact zp_lt h (Nat.le_refl _)) h
  | 36, pc, i, h => zc_code_ok zd_36 (Nat.zero_le _) (by rw [Nat.zero_add]; exact zp_lt h (Nat.le_refl _)) h
  | 37, pc, i, h => zc_code_ok zd_37 (Nat.zero_le _) (by rw [Nat.zero_add]; exact zp_lt h (Nat.le_refl _)) h
  | 38, pc, i, h => zc_code_ok zd_38 (Nat.zero_le _) (by rw [Nat.zero_add]; exact zp_lt h (Nat.le_refl _)) h
  | 39, pc, i, h => zc_code_ok zd_39 (Nat.zero_le _) (by rw [Nat.zero_add]; exact zp_lt h (Nat.le_refl _)) h
  | 40, pc, i, h => zc_code_ok zd_40 (Nat.zero_le _) (by rw [Nat.zero_add]; exact zp_lt h (Nat.le_refl _)) h
  | 41, pc, i, h => zc_code_ok zd_41 (Nat.zero_le _) (by rw [Nat.zero_add]; exact zp_lt h (Nat.le_refl _)) h
  | 42, pc, i, h => zc_code_ok zd_42 (Nat.zero_le _) (by rw [Nat.zero_add]; exact zp_lt h (Nat.le_refl _)) h
  | 43, pc, i, h => zc_code_ok zd_43 (Nat.zero_le _) (by rw [Nat.zero_add]; exact zp_lt h (Nat.le_refl _)) h
  | 44, pc, i, h => zc_code_ok zd_44 (Nat.zero_le _) (by rw [Nat.zero_add]; exact zp_lt h (Nat.le_refl _)) h
  | 45, pc, i, h => zc_code_ok zd_45 (Nat.zero_le _) (by rw [Nat.zero_add]; exact zp_lt h (Nat.le_refl _)) h
  | 46, pc, i, h => zc_code_ok zd_46 (Nat.zero_le _) (by rw [Nat.zero_add]; exact zp_lt h (Nat.le_refl _)) h
  | 47, pc, i, h => zc_code_ok zd_47 (Nat.zero_le _) (by rw [Nat.zero_add]; exact zp_lt h (Nat.le_refl _)) h
  | 48, pc, i, h => zc_code_ok zd_48 (Nat.zero_le _) (by rw [Nat.zero_add]; exact zp_lt h (Nat.le_refl _)) h
  | 49, pc, i, h => zc_code_ok zd_49 (Nat.zero_le _) (by rw [Nat.zero_add]; exact zp_lt h (Nat.le_refl _)) h
  | 50, pc, i, h => zc_code_ok zd_50 (Nat.zero_le _) (by rw [Nat.zero_add]; exact zp_lt h (Nat.le_refl _)) h
  | 51, pc, i, h => zc_code_ok zd_51 (Nat.zero_le _) (by rw [Nat.zero_add]; exact zp_lt h (Nat.le_refl _)) h
  | 52, pc, i, h => zc_code_ok zd_52 (Nat.zero_le _) (by rw [Nat.zero_add]; exact zp_lt h (Nat.le_refl _)) h
  | 53, pc, i, h => zc_code_ok zd_53 (Nat.zero_le _) (by rw [Nat.zero_add]; exact zp_lt h (Nat.le_refl _)) h
  | 54, pc, i, h => zc_code_ok zd_54 (Nat.zero_le _) (by rw [Nat.zero_add]; exact zp_lt h (Nat.le_refl _)) h
  | 55, pc, i, h => zc_code_ok zd_55 (Nat.zero_le _) (by rw [Nat.zero_add]; exact zp_lt h (Nat.le_refl _)) h
  | 56, pc, i, h => zc_code_ok zd_56 (Nat.zero_le _) (by rw [Nat.zero_add]; exact zp_lt h (Nat.le_refl _)) h
  | 57, pc, i, h => zc_code_ok zd_57 (Nat.zero_le _) (by rw [Nat.zero_add]; exact zp_lt h (Nat.le_refl _)) h
  | 58, pc, i, h => zc_code_ok zd_58 (Nat.zero_le _) (by rw [Nat.zero_add]; exact zp_lt h (Nat.le_refl _)) h
  | 59, pc, i, h => zc_code_ok zd_59 (Nat.zero_le _) (by rw [Nat.zero_add]; exact zp_lt h (Nat.le_refl _)) h
  | 60, pc, i, h => zc_code_ok zd_60 (Nat.zero_le _) (by rw [Nat.zero_add]; exact zp_lt h (Nat.le_refl _)) h
  | 61, pc, i, h => zc_code_ok zd_61 (Nat.zero_le _) (by rw [Nat.zero_add]; exact zp_lt h (Nat.le_refl _)) h
  | 62, pc, i, h => zc_code_ok zd_62 (Nat.zero_le _) (by rw [Nat.zero_add]; exact zp_lt h (Nat.le_refl _)) h
  | 63, pc, i, h => zc_code_ok zd_63 (Nat.zero_le _) (by rw [Nat.zero_add]; exact zp_lt h (Nat.le_refl _)) h
  | 64, pc, i, h => zc_code_ok zd_64 (Nat.zero_le _) (by rw [Nat.zero_add]; exact zp_lt h (Nat.le_refl _)) h
  | 65, pc, i, h => zc_code_ok zd_65 (Nat.zero_le _) (by rw [Nat.zero_add]; exact zp_lt h (Nat.le_refl _)) h
  | 66, pc, i, h => zc_code_ok zd_66 (Nat.zero_le _) (by rw [Nat.zero_add]; exact zp_lt h (Nat.le_refl _)) h
  | 67, pc, i, h => zc_code_ok zd_67 (Nat.zero_le _) (by rw [Nat.zero_add]; exact zp_lt h (Nat.le_refl _)) h
  | 68, pc, i, h => zc_code_ok zd_68 (Nat.zero_le _) (by rw [Nat.zero_add]; exact zp_lt h (Nat.le_refl _)) h
  | 69, pc, i, h => zc_code_ok zd_69 (Nat.zero_le _) (by rw [Nat.zero_add]; exact zp_lt h (Nat.le_refl _)) h
  | 70, pc, i, h => zc_code_ok zd_70 (Nat.zero_le _) (by rw [Nat.zero_add]; exact zp_lt h (Nat.le_refl _)) h
  | 71, pc, i, h => by
    have hl : pc < 230 := zp_lt (l := zp_l71) h (by decide +kernel)
    by_cases h0 : pc < 96
    · exact zc_code_ok zd_71_0 (by omega) (by omega) h
    by_cases h1 : pc < 192
    · exact zc_code_ok zd_71_1 (by omega) (by omega) h
    exact zc_code_ok zd_71_2 (by omega) (by omega) h
  | 72, pc, i, h => zc_code_ok zd_72 (Nat.zero_le _) (by rw [Nat.zero_add]; exact zp_lt h (Nat.le_refl _)) h
  | 73, pc, i, h => zc_code_ok zd_73 (Nat.zero_le _) (by rw [Nat.zero_add]; exact zp_lt h (Nat.le_refl _)) h
  | 74, pc, i, h => zc_code_ok zd_74 (Nat.zero_le _) (by rw [Nat.zero_add]; exact zp_lt h (Nat.le_refl _)) h
  | 75, pc, i, h => zc_code_ok zd_75 (Nat.zero_le _) (by rw [Nat.zero_add]; exact zp_lt h (Nat.le_refl _)) h
  | 76, pc, i, h => zc_code_ok zd_76 (Nat.zero_le _) (by rw [Nat.zero_add]; exact zp_lt h (Nat.le_refl _)) h
  | 77, pc, i, h => zc_code_ok zd_77 (Nat.zero_le _) (by rw [Nat.zero_add]; exact zp_lt h (Nat.le_refl _)) h
  | 78, pc, i, h => zc_code_ok zd_78 (Nat.zero_le _) (by rw [Nat.zero_add]; exact zp_lt h (Nat.le_refl _)) h
  | 79, pc, i, h => zc_code_ok zd_79 (Nat.zero_le _) (by rw [Nat.zero_add]; exact zp_lt h (Nat.le_refl _)) h
  | 80, pc, i, h => zc_code_ok zd_80 (Nat.zero_le _) (by rw [Nat.zero_add]; exact zp_lt h (Nat.le_refl _)) h
  | 81, pc, i, h => zc_code_ok zd_81 (Nat.zero_le _) (by rw [Nat.zero_add]; exact zp_lt h (Nat.le_refl _)) h
  | 82, pc, i, h => zc_code_ok zd_82 (Nat.zero_le _) (by rw [Nat.zero_add]; exact zp_lt h (Nat.le_refl _)) h
  | 83, pc, i, h => zc_code_ok zd_83 (Nat.zero_le _) (by rw [Nat.zero_add]; exact zp_lt h (Nat.le_refl _)) h
  | 84, pc, i, h => zc_code_ok zd_84 (Nat.zero_le _) (by rw [Nat.zero_add]; exact zp_lt h (Nat.le_refl _)) h
  | 85, pc, i, h => zc_code_ok zd_85 (Nat.zero_le _) (by rw [Nat.zero_add]; exact zp_lt h (Nat.le_refl _)) h
  | 86, pc, i, h => zc_code_ok zd_86 (Nat.zero_le _) (by rw [Nat.zero_add]; exact zp_lt h (Nat.le_refl _)) h
  | 87, pc, i, h => zc_code_ok zd_87 (Nat.zero_le _) (by rw [Nat.zero_add]; exact zp_lt h (Nat.le_refl _)) h
  | 88, pc, i, h => zc_code_ok zd_88 (Nat.zero_le _) (by rw [Nat.zero_add]; exact zp_lt h (Nat.le_refl _)) h
  | 89, pc, i, h => zc_code_ok zd_89 (Nat.zero_le _) (by rw [Nat.zero_add]; exact zp_lt h (Nat.le_refl _)) h
  | 90, pc, i, h => zc_code_ok zd_90 (Nat.zero_le _) (by rw [Nat.zero_add]; exact zp_lt h (Nat.le_refl _)) h
  | 91, pc, i, h => zc_code_ok zd_91 (Nat.zero_le _) (by rw [Nat.zero_add]; exact zp_lt h (Nat.le_refl _)) h
  | 92, pc, i, h => zc_code_ok zd_92 (Nat.zero_le _) (by rw [Nat.zero_add]; exact zp_lt h (Nat.le_refl _)) h
  | 93, pc, i, h => zc_code_ok zd_93 (Nat.zero_le _) (by rw [Nat.zero_add]; exact zp_lt h (Nat.le_refl _)) h
  | 94, pc, i, h => zc_code_ok zd_94 (Nat.zero_le _) (by rw [Nat.zero_add]; exact zp_lt h (Nat.le_refl _)) h
  | 95, pc, i, h => zc_code_ok zd_95 (Nat.zero_le _) (by rw [Nat.zero_add]; exact zp_lt h (Nat.le_refl _)) h
  | 96, pc, i, h => zc_code_ok zd_96 (Nat.zero_le _) (by rw [Nat.zero_add]; exact zp_lt h (Nat.le_refl _)) h
  | 97, pc, i, h => zc_code_ok zd_97 (Nat.zero_le _) (by rw [Nat.zero_add]; exact zp_lt h (Nat.le_refl _)) h
  | 98, pc, i, h => zc_code_ok zd_98 (Nat.zero_le _) (by rw [Nat.zero_add]; exact zp_lt h (Nat.le_refl _)) h
  | 99, pc, i, h => zc_code_ok zd_99 (Nat.zero_le _) (by rw [Nat.zero_add]; exact zp_lt h (Nat.le_refl _)) h
  | 100, pc, i, h => zc_code_ok zd_100 (Nat.zero_le _) (by rw [Nat.zero_add]; exact zp_lt h (Nat.le_refl _)) h
  | 101, pc, i, h => zc_code_ok zd_101 (Nat.zero_le _) (by rw [Nat.zero_add]; exact zp_lt h (Nat.le_refl _)) h
  | 102, pc, i, h => zc_code_ok zd_102 (Nat.zero_le _) (by rw [Nat.zero_add]; exact zp_lt h (Nat.le_refl _)) h
  | 103, pc, i, h => zc_code_ok zd_103 (Nat.zero_le _) (by rw [Nat.zero_add]; exact zp_lt h (Nat.le_refl _)) h
  | 104, pc, i, h => zc_code_ok zd_104 (Nat.zero_le _) (by rw [Nat.zero_add]; exact zp_lt h (Nat.le_refl _)) h
  | 105, pc, i, h => zc_code_ok zd_105 (Nat.zero_le _) (by rw [Nat.zero_add]; exact zp_lt h (Nat.le_refl _)) h
  | 106, pc, i, h => zc_code_ok zd_106 (Nat.zero_le _) (by rw [Nat.zero_add]; exact zp_lt h (Nat.le_refl _)) h
  | 107, pc, i, h => zc_code_ok zd_107 (Nat.zero_le _) (by rw [Nat.zero_add]; exact zp_lt h (Nat.le_refl _)) h
  | 108, pc, i, h => zc_code_ok zd_108 (Nat.zero_le _) (by rw [Nat.zero_add]; exact zp_lt h (Nat.le_refl _)) h
  | 109, pc, i, h => zc_code_ok zd_109 (Nat.zero_le _) (by rw [Nat.zero_add]; exact zp_lt h (Nat.le_refl _)) h
  | 110, pc, i, h => zc_code_ok zd_110 (Nat.zero_le _) (by rw [Nat.zero_add]; exact zp_lt h (Nat.le_refl _)) h
  | 111, pc, i, h => zc_code_ok zd_111 (Nat.zero_le _) (by rw [Nat.zero_add]; exact zp_lt h (Nat.le_refl _)) h
  | 112, pc, i, h => zc_code_ok zd_112 (Nat.zero_le _) (by rw [Nat.zero_add]; exact zp_lt h (Nat.le_refl _)) h
  | 113, pc, i, h => zc_code_ok zd_113 (Nat.zero_le _) (by rw [Nat.zero_add]; exact zp_lt h (Nat.le_refl _)) h
  | 114, pc, i, h => zc_code_ok zd_114 (Nat.zero_le _) (by rw [Nat.zero_add]; exact zp_lt h (Nat.le_refl _)) h
  | 115, pc, i, h => zc_code_ok zd_115 (Nat.zero_le _) (by rw [Nat.zero_add]; exact zp_lt h (Nat.le_refl _)) h
  | 116, pc, i, h => zc_code_ok zd_116 (Nat.zero_le _) (by rw [Nat.zero_add]; exact zp_lt h (Nat.le_refl _)) h
  | 117, pc, i, h => zc_code_ok zd_117 (Nat.zero_le _) (by rw [Nat.zero_add]; exact zp_lt h (Nat.le_refl _)) h
  | 118, pc, i, h => zc_code_ok zd_118 (Nat.zero_le _) (by rw [Nat.zero_add]; exact zp_lt h (Nat.le_refl _)) h
  | 119, pc, i, h => zc_code_ok zd_119 (Nat.zero_le _) (by rw [Nat.zero_add]; exact zp_lt h (Nat.le_refl _)) h
  | 120, pc, i, h => zc_code_ok zd_120 (Nat.zero_le _) (by rw [Nat.zero_add]; exact zp_lt h (Nat.le_refl _)) h
  | 121, pc, i, h => by
    have hl : pc < 161 := zp_lt (l := zp_l121) h (by decide +kernel)
    by_cases h0 : pc < 96
    · exact zc_code_ok zd_121_0 (by omega) (by omega) h
    exact zc_code_ok zd_121_1 (by omega) (by omega) h
  | 122, pc, i, h => by
    have hl : pc < 167 := zp_lt (l := zp_l122) h (by decide +kernel)
    by_cases h0 : pc < 96
    · exact zc_code_ok zd_122_0 (by omega) (by omega) h
    exact zc_code_ok zd_122_1 (by omega) (by omega) h
  | 123, pc, i, h => by
    have hl : pc < 233 := zp_lt (l := zp_l123) h (by decide +kernel)
    by_cases h0 : pc < 96
    · exact zc_code_ok zd_123_0 (by omega) (by omega) h
    by_cases h1 : pc < 192
    · exact zc_code_ok zd_123_1 (by omega) (by omega) h
    exact zc_code_ok zd_123_2 (by omega) (by omega) h
  | 124, pc, i, h => zc_code_ok zd_124 (Nat.zero_le _) (by rw [Nat.zero_add]; exact zp_lt h (Nat.le_refl _)) h
  | 125, pc, i, h => zc_code_ok zd_125 (Nat.zero_le _) (by rw [Nat.zero_add]; exact zp_lt h (Nat.le_refl _)) h
  | 126, pc, i, h => zc_code_ok zd_126 (Nat.zero_le _) (by rw [Nat.zero_add]; exact zp_lt h (Nat.le_refl _)) h
  | 127, pc, i, h => zc_code_ok zd_127 (Nat.zero_le _) (by rw [Nat.zero_add]; exact zp_lt h (Nat.le_refl _)) h
  | 128, pc, i, h => zc_code_ok zd_128 (Nat.zero_le _) (by rw [Nat.zero_add]; exact zp_lt h (Nat.le_refl _)) h
  | 129, pc, i, h => by
    have hl : pc < 166 := zp_lt (l := zp_l129) h (by decide +kernel)
    by_cases h0 : pc < 96
    · exact zc_code_ok zd_129_0 (by omega) (by omega) h
    exact zc_code_ok zd_129_1 (by omega) (by omega) h
  | 130, pc, i, h => by
    have hl : pc < 183 := zp_lt (l := zp_l130) h (by decide +kernel)
    by_cases h0 : pc < 96
    · exact zc_code_ok zd_130_0 (by omega) (by omega) h
    exact zc_code_ok zd_130_1 (by omega) (by omega) h
  | 131, pc, i, h => zc_code_ok zd_131 (Nat.zero_le _) (by rw [Nat.zero_add]; exact zp_lt h (Nat.le_refl _)) h
  | 132, pc, i, h => zc_code_ok zd_132 (Nat.zero_le _) (by rw [Nat.zero_add]; exact zp_lt h (Nat.le_refl _)) h
  | 133, pc, i, h => zc_code_ok zd_133 (Nat.zero_le _) (by rw [Nat.zero_add]; exact zp_lt h (Nat.le_refl _)) h
  | 134, pc, i, h => zc_code_ok zd_134 (Nat.zero_le _) (by rw [Nat.zero_add]; exact zp_lt h (Nat.le_refl _)) h
  | _ + 135, pc, i, h => by cases h
theorem zp_ok : zi_Ok zp zp_cl zp_TS zp_NW "PatienceTable$Layout" 0 := by
  refine ⟨fun k pc i h => zp_codes k pc i h, fun k x t h => ?_, ⟨_, rfl, rfl⟩, ⟨zc_at_ok (i := 150) (by decide +kernel), zc_at_ok (i := 743) (by decide +kernel), zc_at_ok (i := 969) (by decide +kernel)⟩, fun w hw => zp_nest_ok (List.mem_filter.mp hw).2, fun w hw => zp_good_ok (List.mem_filter.mp hw).2⟩
  have h : zp_pool k x = some t := h
  unfold zp_pool at h
  rw [Option.map_eq_some_iff] at h
  obtain ⟨e, he, rfl⟩ := h
  have h1 := List.find?_some he
  have h2 := List.mem_of_find?_eq_some he
  have h3 := List.all_eq_true.mp (zp_pools k) e h2
  obtain ⟨x', t, hs⟩ := e
  have hx : x' = x := by simpa using h1
  subst hx
  exact zc_ent_ok h3
