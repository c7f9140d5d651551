/-! The pools as the tables have them, method by method; the program is fit. By program (gen.py). -/
theorem zp_lt {l : List (Option Jvm.ClassFile.Instr)} {pc n : Nat} {i : Jvm.ClassFile.Instr} (h : l.getD pc none = some i) (hn : l.length ≤ n) : pc < n := by
  refine Nat.lt_of_lt_of_le (Nat.not_le.mp fun q => ?_) hn
  rw [List.getD_eq_getElem?_getD, List.getElem?_eq_none q] at h
  cases h
theorem ze_0 : (zp_ps.getD 0 []).all (zc_ent 0) = true := by decide +kernel
theorem ze_1 : (zp_ps.getD 1 []).all (zc_ent 1) = true := by decide +kernel
theorem ze_2 : (zp_ps.getD 2 []).all (zc_ent 2) = true := by decide +kernel
theorem ze_3 : (zp_ps.getD 3 []).all (zc_ent 3) = true := by decide +kernel
theorem ze_4 : (zp_ps.getD 4 []).all (zc_ent 4) = true := by decide +kernel
theorem ze_5 : (zp_ps.getD 5 []).all (zc_ent 5) = true := by decide +kernel
theorem ze_6 : (zp_ps.getD 6 []).all (zc_ent 6) = true := by decide +kernel
theorem ze_7 : (zp_ps.getD 7 []).all (zc_ent 7) = true := by decide +kernel
theorem ze_8 : (zp_ps.getD 8 []).all (zc_ent 8) = true := by decide +kernel
theorem ze_9 : (zp_ps.getD 9 []).all (zc_ent 9) = true := by decide +kernel
theorem ze_10 : (zp_ps.getD 10 []).all (zc_ent 10) = true := by decide +kernel
theorem ze_11 : (zp_ps.getD 11 []).all (zc_ent 11) = true := by decide +kernel
theorem ze_12 : (zp_ps.getD 12 []).all (zc_ent 12) = true := by decide +kernel
theorem ze_13 : (zp_ps.getD 13 []).all (zc_ent 13) = true := by decide +kernel
theorem ze_14 : (zp_ps.getD 14 []).all (zc_ent 14) = true := by decide +kernel
theorem ze_15 : (zp_ps.getD 15 []).all (zc_ent 15) = true := by decide +kernel
theorem ze_16 : (zp_ps.getD 16 []).all (zc_ent 16) = true := by decide +kernel
theorem ze_17 : (zp_ps.getD 17 []).all (zc_ent 17) = true := by decide +kernel
theorem ze_18 : (zp_ps.getD 18 []).all (zc_ent 18) = true := by decide +kernel
theorem ze_19 : (zp_ps.getD 19 []).all (zc_ent 19) = true := by decide +kernel
theorem ze_20 : (zp_ps.getD 20 []).all (zc_ent 20) = true := by decide +kernel
theorem ze_21 : (zp_ps.getD 21 []).all (zc_ent 21) = true := by decide +kernel
theorem ze_22 : (zp_ps.getD 22 []).all (zc_ent 22) = true := by decide +kernel
theorem ze_23 : (zp_ps.getD 23 []).all (zc_ent 23) = true := by decide +kernel
theorem ze_24 : (zp_ps.getD 24 []).all (zc_ent 24) = true := by decide +kernel
theorem ze_25 : (zp_ps.getD 25 []).all (zc_ent 25) = true := by decide +kernel
theorem ze_26 : (zp_ps.getD 26 []).all (zc_ent 26) = true := by decide +kernel
theorem ze_27 : (zp_ps.getD 27 []).all (zc_ent 27) = true := by decide +kernel
theorem ze_28 : (zp_ps.getD 28 []).all (zc_ent 28) = true := by decide +kernel
theorem ze_29 : (zp_ps.getD 29 []).all (zc_ent 29) = true := by decide +kernel
theorem ze_30 : (zp_ps.getD 30 []).all (zc_ent 30) = true := by decide +kernel
theorem ze_31 : (zp_ps.getD 31 []).all (zc_ent 31) = true := by decide +kernel
theorem ze_32 : (zp_ps.getD 32 []).all (zc_ent 32) = true := by decide +kernel
theorem ze_33 : (zp_ps.getD 33 []).all (zc_ent 33) = true := by decide +kernel
theorem ze_34 : (zp_ps.getD 34 []).all (zc_ent 34) = true := by decide +kernel
theorem ze_35 : (zp_ps.getD 35 []).all (zc_ent 35) = true := by decide +kernel
theorem ze_36 : (zp_ps.getD 36 []).all (zc_ent 36) = true := by decide +kernel
theorem ze_37 : (zp_ps.getD 37 []).all (zc_ent 37) = true := by decide +kernel
theorem ze_38 : (zp_ps.getD 38 []).all (zc_ent 38) = true := by decide +kernel
theorem ze_39 : (zp_ps.getD 39 []).all (zc_ent 39) = true := by decide +kernel
theorem ze_40 : (zp_ps.getD 40 []).all (zc_ent 40) = true := by decide +kernel
theorem ze_41 : (zp_ps.getD 41 []).all (zc_ent 41) = true := by decide +kernel
theorem ze_42 : (zp_ps.getD 42 []).all (zc_ent 42) = true := by decide +kernel
theorem ze_43 : (zp_ps.getD 43 []).all (zc_ent 43) = true := by decide +kernel
theorem ze_44 : (zp_ps.getD 44 []).all (zc_ent 44) = true := by decide +kernel
theorem ze_45 : (zp_ps.getD 45 []).all (zc_ent 45) = true := by decide +kernel
theorem ze_46 : (zp_ps.getD 46 []).all (zc_ent 46) = true := by decide +kernel
theorem ze_47 : (zp_ps.getD 47 []).all (zc_ent 47) = true := by decide +kernel
theorem ze_48 : (zp_ps.getD 48 []).all (zc_ent 48) = true := by decide +kernel
theorem ze_49 : (zp_ps.getD 49 []).all (zc_ent 49) = true := by decide +kernel
theorem ze_50 : (zp_ps.getD 50 []).all (zc_ent 50) = true := by decide +kernel
theorem ze_51 : (zp_ps.getD 51 []).all (zc_ent 51) = true := by decide +kernel
theorem ze_52 : (zp_ps.getD 52 []).all (zc_ent 52) = true := by decide +kernel
theorem ze_53 : (zp_ps.getD 53 []).all (zc_ent 53) = true := by decide +kernel
theorem ze_54 : (zp_ps.getD 54 []).all (zc_ent 54) = true := by decide +kernel
theorem ze_55 : (zp_ps.getD 55 []).all (zc_ent 55) = true := by decide +kernel
theorem ze_56 : (zp_ps.getD 56 []).all (zc_ent 56) = true := by decide +kernel
theorem ze_57 : (zp_ps.getD 57 []).all (zc_ent 57) = true := by decide +kernel
theorem ze_58 : (zp_ps.getD 58 []).all (zc_ent 58) = true := by decide +kernel
theorem ze_59 : (zp_ps.getD 59 []).all (zc_ent 59) = true := by decide +kernel
theorem ze_60 : (zp_ps.getD 60 []).all (zc_ent 60) = true := by decide +kernel
theorem ze_61 : (zp_ps.getD 61 []).all (zc_ent 61) = true := by decide +kernel
theorem ze_62 : (zp_ps.getD 62 []).all (zc_ent 62) = true := by decide +kernel
theorem ze_63 : (zp_ps.getD 63 []).all (zc_ent 63) = true := by decide +kernel
theorem ze_64 : (zp_ps.getD 64 []).all (zc_ent 64) = true := by decide +kernel
theorem ze_65 : (zp_ps.getD 65 []).all (zc_ent 65) = true := by decide +kernel
theorem ze_66 : (zp_ps.getD 66 []).all (zc_ent 66) = true := by decide +kernel
theorem ze_67 : (zp_ps.getD 67 []).all (zc_ent 67) = true := by decide +kernel
theorem ze_68 : (zp_ps.getD 68 []).all (zc_ent 68) = true := by decide +kernel
theorem ze_69 : (zp_ps.getD 69 []).all (zc_ent 69) = true := by decide +kernel
theorem ze_70 : (zp_ps.getD 70 []).all (zc_ent 70) = true := by decide +kernel
theorem ze_71 : (zp_ps.getD 71 []).all (zc_ent 71) = true := by decide +kernel
theorem ze_72 : (zp_ps.getD 72 []).all (zc_ent 72) = true := by decide +kernel
theorem ze_73 : (zp_ps.getD 73 []).all (zc_ent 73) = true := by decide +kernel
theorem ze_74 : (zp_ps.getD 74 []).all (zc_ent 74) = true := by decide +kernel
theorem ze_75 : (zp_ps.getD 75 []).all (zc_ent 75) = true := by decide +kernel
theorem ze_76 : (zp_ps.getD 76 []).all (zc_ent 76) = true := by decide +kernel
theorem ze_77 : (zp_ps.getD 77 []).all (zc_ent 77) = true := by decide +kernel
theorem ze_78 : (zp_ps.getD 78 []).all (zc_ent 78) = true := by decide +kernel
theorem ze_79 : (zp_ps.getD 79 []).all (zc_ent 79) = true := by decide +kernel
theorem ze_80 : (zp_ps.getD 80 []).all (zc_ent 80) = true := by decide +kernel
theorem ze_81 : (zp_ps.getD 81 []).all (zc_ent 81) = true := by decide +kernel
theorem ze_82 : (zp_ps.getD 82 []).all (zc_ent 82) = true := by decide +kernel
theorem ze_83 : (zp_ps.getD 83 []).all (zc_ent 83) = true := by decide +kernel
theorem ze_84 : (zp_ps.getD 84 []).all (zc_ent 84) = true := by decide +kernel
theorem ze_85 : (zp_ps.getD 85 []).all (zc_ent 85) = true := by decide +kernel
theorem ze_86 : (zp_ps.getD 86 []).all (zc_ent 86) = true := by decide +kernel
theorem ze_87 : (zp_ps.getD 87 []).all (zc_ent 87) = true := by decide +kernel
theorem ze_88 : (zp_ps.getD 88 []).all (zc_ent 88) = true := by decide +kernel
theorem ze_89 : (zp_ps.getD 89 []).all (zc_ent 89) = true := by decide +kernel
theorem ze_90 : (zp_ps.getD 90 []).all (zc_ent 90) = true := by decide +kernel
theorem ze_91 : (zp_ps.getD 91 []).all (zc_ent 91) = true := by decide +kernel
theorem ze_92 : (zp_ps.getD 92 []).all (zc_ent 92) = true := by decide +kernel
theorem ze_93 : (zp_ps.getD 93 []).all (zc_ent 93) = true := by decide +kernel
theorem ze_94 : (zp_ps.getD 94 []).all (zc_ent 94) = true := by decide +kernel
theorem ze_95 : (zp_ps.getD 95 []).all (zc_ent 95) = true := by decide +kernel
theorem ze_96 : (zp_ps.getD 96 []).all (zc_ent 96) = true := by decide +kernel
theorem ze_97 : (zp_ps.getD 97 []).all (zc_ent 97) = true := by decide +kernel
theorem ze_98 : (zp_ps.getD 98 []).all (zc_ent 98) = true := by decide +kernel
theorem ze_99 : (zp_ps.getD 99 []).all (zc_ent 99) = true := by decide +kernel
theorem ze_100 : (zp_ps.getD 100 []).all (zc_ent 100) = true := by decide +kernel
theorem ze_101 : (zp_ps.getD 101 []).all (zc_ent 101) = true := by decide +kernel
theorem ze_102 : (zp_ps.getD 102 []).all (zc_ent 102) = true := by decide +kernel
theorem ze_103 : (zp_ps.getD 103 []).all (zc_ent 103) = true := by decide +kernel
theorem ze_104 : (zp_ps.getD 104 []).all (zc_ent 104) = true := by decide +kernel
theorem ze_105 : (zp_ps.getD 105 []).all (zc_ent 105) = true := by decide +kernel
theorem ze_106 : (zp_ps.getD 106 []).all (zc_ent 106) = true := by decide +kernel
theorem ze_107 : (zp_ps.getD 107 []).all (zc_ent 107) = true := by decide +kernel
theorem ze_108 : (zp_ps.getD 108 []).all (zc_ent 108) = true := by decide +kernel
theorem ze_109 : (zp_ps.getD 109 []).all (zc_ent 109) = true := by decide +kernel
theorem ze_110 : (zp_ps.getD 110 []).all (zc_ent 110) = true := by decide +kernel
theorem ze_111 : (zp_ps.getD 111 []).all (zc_ent 111) = true := by decide +kernel
theorem ze_112 : (zp_ps.getD 112 []).all (zc_ent 112) = true := by decide +kernel
theorem ze_113 : (zp_ps.getD 113 []).all (zc_ent 113) = true := by decide +kernel
theorem ze_114 : (zp_ps.getD 114 []).all (zc_ent 114) = true := by decide +kernel
theorem ze_115 : (zp_ps.getD 115 []).all (zc_ent 115) = true := by decide +kernel
theorem ze_116 : (zp_ps.getD 116 []).all (zc_ent 116) = true := by decide +kernel
theorem ze_117 : (zp_ps.getD 117 []).all (zc_ent 117) = true := by decide +kernel
theorem ze_118 : (zp_ps.getD 118 []).all (zc_ent 118) = true := by decide +kernel
theorem ze_119 : (zp_ps.getD 119 []).all (zc_ent 119) = true := by decide +kernel
theorem ze_120 : (zp_ps.getD 120 []).all (zc_ent 120) = true := by decide +kernel
theorem ze_121 : (zp_ps.getD 121 []).all (zc_ent 121) = true := by decide +kernel
theorem ze_122 : (zp_ps.getD 122 []).all (zc_ent 122) = true := by decide +kernel
theorem ze_123 : (zp_ps.getD 123 []).all (zc_ent 123) = true := by decide +kernel
theorem ze_124 : (zp_ps.getD 124 []).all (zc_ent 124) = true := by decide +kernel
theorem ze_125 : (zp_ps.getD 125 []).all (zc_ent 125) = true := by decide +kernel
theorem ze_126 : (zp_ps.getD 126 []).all (zc_ent 126) = true := by decide +kernel
theorem ze_127 : (zp_ps.getD 127 []).all (zc_ent 127) = true := by decide +kernel
theorem ze_128 : (zp_ps.getD 128 []).all (zc_ent 128) = true := by decide +kernel
theorem ze_129 : (zp_ps.getD 129 []).all (zc_ent 129) = true := by decide +kernel
theorem ze_130 : (zp_ps.getD 130 []).all (zc_ent 130) = true := by decide +kernel
theorem ze_131 : (zp_ps.getD 131 []).all (zc_ent 131) = true := by decide +kernel
theorem ze_132 : (zp_ps.getD 132 []).all (zc_ent 132) = true := by decide +kernel
theorem ze_133 : (zp_ps.getD 133 []).all (zc_ent 133) = true := by decide +kernel
theorem ze_134 : (zp_ps.getD 134 []).all (zc_ent 134) = true := by decide +kernel
theorem zp_pools : ∀ k : Nat, (zp_ps.getD k []).all (zc_ent k) = true
  | 0 => ze_0
  | 1 => ze_1
  | 2 => ze_2
  | 3 => ze_3
  | 4 => ze_4
  | 5 => ze_5
  | 6 => ze_6
  | 7 => ze_7
  | 8 => ze_8
  | 9 => ze_9
  | 10 => ze_10
  | 11 => ze_11
  | 12 => ze_12
  | 13 => ze_13
  | 14 => ze_14
  | 15 => ze_15
  | 16 => ze_16
  | 17 => ze_17
  | 18 => ze_18
  | 19 => ze_19
  | 20 => ze_20
  | 21 => ze_21
  | 22 => ze_22
  | 23 => ze_23
  | 24 => ze_24
  | 25 => ze_25
  | 26 => ze_26
  | 27 => ze_27
  | 28 => ze_28
  | 29 => ze_29
  | 30 => ze_30
  | 31 => ze_31
  | 32 => ze_32
  | 33 => ze_33
  | 34 => ze_34
  | 35 => ze_35
  | 36 => ze_36
  | 37 => ze_37
  | 38 => ze_38
  | 39 => ze_39
  | 40 => ze_40
  | 41 => ze_41
  | 42 => ze_42
  | 43 => ze_43
  | 44 => ze_44
  | 45 => ze_45
  | 46 => ze_46
  | 47 => ze_47
  | 48 => ze_48
  | 49 => ze_49
  | 50 => ze_50
  | 51 => ze_51
  | 52 => ze_52
  | 53 => ze_53
  | 54 => ze_54
  | 55 => ze_55
  | 56 => ze_56
  | 57 => ze_57
  | 58 => ze_58
  | 59 => ze_59
  | 60 => ze_60
  | 61 => ze_61
  | 62 => ze_62
  | 63 => ze_63
  | 64 => ze_64
  | 65 => ze_65
  | 66 => ze_66
  | 67 => ze_67
  | 68 => ze_68
  | 69 => ze_69
  | 70 => ze_70
  | 71 => ze_71
  | 72 => ze_72
  | 73 => ze_73
  | 74 => ze_74
  | 75 => ze_75
  | 76 => ze_76
  | 77 => ze_77
  | 78 => ze_78
  | 79 => ze_79
  | 80 => ze_80
  | 81 => ze_81
  | 82 => ze_82
  | 83 => ze_83
  | 84 => ze_84
  | 85 => ze_85
  | 86 => ze_86
  | 87 => ze_87
  | 88 => ze_88
  | 89 => ze_89
  | 90 => ze_90
  | 91 => ze_91
  | 92 => ze_92
  | 93 => ze_93
  | 94 => ze_94
  | 95 => ze_95
  | 96 => ze_96
  | 97 => ze_97
  | 98 => ze_98
  | 99 => ze_99
  | 100 => ze_100
  | 101 => ze_101
  | 102 => ze_102
  | 103 => ze_103
  | 104 => ze_104
  | 105 => ze_105
  | 106 => ze_106
  | 107 => ze_107
  | 108 => ze_108
  | 109 => ze_109
  | 110 => ze_110
  | 111 => ze_111
  | 112 => ze_112
  | 113 => ze_113
  | 114 => ze_114
  | 115 => ze_115
  | 116 => ze_116
  | 117 => ze_117
  | 118 => ze_118
  | 119 => ze_119
  | 120 => ze_120
  | 121 => ze_121
  | 122 => ze_122
  | 123 => ze_123
  | 124 => ze_124
  | 125 => ze_125
  | 126 => ze_126
  | 127 => ze_127
  | 128 => ze_128
  | 129 => ze_129
  | 130 => ze_130
  | 131 => ze_131
  | 132 => ze_132
  | 133 => ze_133
  | 134 => ze_134
  | _ + 135 => rfl
