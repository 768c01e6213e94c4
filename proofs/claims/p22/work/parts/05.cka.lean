/-! Every method of the tables, checked by the kernel. -/
theorem ck_1_0 : chkTs (chkE 1) cd_1 0 4 = true := by decide +kernel
theorem ck_1_4 : chkTs (chkE 1) cd_1 4 4 = true := by decide +kernel
theorem ck_1_8 : chkTs (chkE 1) cd_1 8 4 = true := by decide +kernel
theorem ck_1_12 : chkTs (chkE 1) cd_1 12 3 = true := by decide +kernel
theorem ck_1 : chkT (chkE 1) cd_1 = true := chkT_of (by decide +kernel : cd_1.length = 15) (fun a ha => by
  by_cases h0 : a < 4
  · exact chkTs_at ck_1_0 a (by omega) (by omega)
  by_cases h4 : a < 8
  · exact chkTs_at ck_1_4 a (by omega) (by omega)
  by_cases h8 : a < 12
  · exact chkTs_at ck_1_8 a (by omega) (by omega)
  exact chkTs_at ck_1_12 a (by omega) (by omega))
theorem ck_2 : chkT (chkE 2) cd_2 = true := by decide +kernel
theorem ck_3 : chkT (chkE 3) cd_3 = true := by decide +kernel
theorem ck_4 : chkT (chkE 4) cd_4 = true := by decide +kernel
theorem ck_5 : chkT (chkE 5) cd_5 = true := by decide +kernel
theorem ck_6 : chkT (chkE 6) cd_6 = true := by decide +kernel
theorem ck_7 : chkT (chkE 7) cd_7 = true := by decide +kernel
theorem ck_8 : chkT (chkE 8) cd_8 = true := by decide +kernel
theorem ck_9 : chkT (chkE 9) cd_9 = true := by decide +kernel
theorem ck_10 : chkT (chkE 10) cd_10 = true := by decide +kernel
theorem ck_11 : chkT (chkE 11) cd_11 = true := by decide +kernel
theorem ck_12 : chkT (chkE 12) cd_12 = true := by decide +kernel
theorem ck_13_0 : chkTs (chkE 13) cd_13 0 4 = true := by decide +kernel
theorem ck_13_4 : chkTs (chkE 13) cd_13 4 4 = true := by decide +kernel
theorem ck_13_8 : chkTs (chkE 13) cd_13 8 4 = true := by decide +kernel
theorem ck_13_12 : chkTs (chkE 13) cd_13 12 4 = true := by decide +kernel
theorem ck_13_16 : chkTs (chkE 13) cd_13 16 1 = true := by decide +kernel
theorem ck_13 : chkT (chkE 13) cd_13 = true := chkT_of (by decide +kernel : cd_13.length = 17) (fun a ha => by
  by_cases h0 : a < 4
  · exact chkTs_at ck_13_0 a (by omega) (by omega)
  by_cases h4 : a < 8
  · exact chkTs_at ck_13_4 a (by omega) (by omega)
  by_cases h8 : a < 12
  · exact chkTs_at ck_13_8 a (by omega) (by omega)
  by_cases h12 : a < 16
  · exact chkTs_at ck_13_12 a (by omega) (by omega)
  exact chkTs_at ck_13_16 a (by omega) (by omega))
theorem ck_14 : chkT (chkE 14) cd_14 = true := by decide +kernel
theorem ck_15 : chkT (chkE 15) cd_15 = true := by decide +kernel
theorem ck_16 : chkT (chkE 16) cd_16 = true := by decide +kernel
theorem ck_17 : chkT (chkE 17) cd_17 = true := by decide +kernel
theorem ck_18 : chkT (chkE 18) cd_18 = true := by decide +kernel
theorem ck_19 : chkT (chkE 19) cd_19 = true := by decide +kernel
theorem ck_20 : chkT (chkE 20) cd_20 = true := by decide +kernel
theorem ck_21 : chkT (chkE 21) cd_21 = true := by decide +kernel
theorem ck_22 : chkT (chkE 22) cd_22 = true := by decide +kernel
theorem ck_23 : chkT (chkE 23) cd_23 = true := by decide +kernel
theorem ck_24 : chkT (chkE 24) cd_24 = true := by decide +kernel
theorem ck_25 : chkT (chkE 25) cd_25 = true := by decide +kernel
theorem ck_26 : chkT (chkE 26) cd_26 = true := by decide +kernel
theorem ck_27 : chkT (chkE 27) cd_27 = true := by decide +kernel
theorem ck_28 : chkT (chkE 28) cd_28 = true := by decide +kernel
theorem ck_29 : chkT (chkE 29) cd_29 = true := by decide +kernel
theorem ck_30 : chkT (chkE 30) cd_30 = true := by decide +kernel
theorem ck_31 : chkT (chkE 31) cd_31 = true := by decide +kernel
theorem ck_32 : chkT (chkE 32) cd_32 = true := by decide +kernel
theorem ck_33 : chkT (chkE 33) cd_33 = true := by decide +kernel
theorem ck_34 : chkT (chkE 34) cd_34 = true := by decide +kernel
theorem ck_35 : chkT (chkE 35) cd_35 = true := by decide +kernel
theorem ck_36 : chkT (chkE 36) cd_36 = true := by decide +kernel
theorem ck_37 : chkT (chkE 37) cd_37 = true := by decide +kernel
theorem ck_38 : chkT (chkE 38) cd_38 = true := by decide +kernel
theorem ck_39 : chkT (chkE 39) cd_39 = true := by decide +kernel
theorem ck_40 : chkT (chkE 40) cd_40 = true := by decide +kernel
theorem ck_41 : chkT (chkE 41) cd_41 = true := by decide +kernel
theorem ck_42 : chkT (chkE 42) cd_42 = true := by decide +kernel
theorem ck_43 : chkT (chkE 43) cd_43 = true := by decide +kernel
theorem ck_44 : chkT (chkE 44) cd_44 = true := by decide +kernel
theorem ck_45 : chkT (chkE 45) cd_45 = true := by decide +kernel
theorem ck_46 : chkT (chkE 46) cd_46 = true := by decide +kernel
theorem ck_47 : chkT (chkE 47) cd_47 = true := by decide +kernel
theorem ck_48 : chkT (chkE 48) cd_48 = true := by decide +kernel
theorem ck_49 : chkT (chkE 49) cd_49 = true := by decide +kernel
theorem ck_50 : chkT (chkE 50) cd_50 = true := by decide +kernel
theorem ck_51 : chkT (chkE 51) cd_51 = true := by decide +kernel
theorem ck_52 : chkT (chkE 52) cd_52 = true := by decide +kernel
theorem ck_53 : chkT (chkE 53) cd_53 = true := by decide +kernel
theorem ck_54 : chkT (chkE 54) cd_54 = true := by decide +kernel
theorem ck_55 : chkT (chkE 55) cd_55 = true := by decide +kernel
theorem ck_56 : chkT (chkE 56) cd_56 = true := by decide +kernel
theorem ck_57 : chkT (chkE 57) cd_57 = true := by decide +kernel
theorem ck_58 : chkT (chkE 58) cd_58 = true := by decide +kernel
theorem ck_59_0 : chkTs (chkE 59) cd_59 0 4 = true := by decide +kernel
theorem ck_59_4 : chkTs (chkE 59) cd_59 4 4 = true := by decide +kernel
theorem ck_59_8 : chkTs (chkE 59) cd_59 8 4 = true := by decide +kernel
theorem ck_59_12 : chkTs (chkE 59) cd_59 12 4 = true := by decide +kernel
theorem ck_59_16 : chkTs (chkE 59) cd_59 16 4 = true := by decide +kernel
theorem ck_59_20 : chkTs (chkE 59) cd_59 20 4 = true := by decide +kernel
theorem ck_59_24 : chkTs (chkE 59) cd_59 24 4 = true := by decide +kernel
theorem ck_59_28 : chkTs (chkE 59) cd_59 28 3 = true := by decide +kernel
theorem ck_59 : chkT (chkE 59) cd_59 = true := chkT_of (by decide +kernel : cd_59.length = 31) (fun a ha => by
  by_cases h0 : a < 4
  · exact chkTs_at ck_59_0 a (by omega) (by omega)
  by_cases h4 : a < 8
  · exact chkTs_at ck_59_4 a (by omega) (by omega)
  by_cases h8 : a < 12
  · exact chkTs_at ck_59_8 a (by omega) (by omega)
  by_cases h12 : a < 16
  · exact chkTs_at ck_59_12 a (by omega) (by omega)
  by_cases h16 : a < 20
  · exact chkTs_at ck_59_16 a (by omega) (by omega)
  by_cases h20 : a < 24
  · exact chkTs_at ck_59_20 a (by omega) (by omega)
  by_cases h24 : a < 28
  · exact chkTs_at ck_59_24 a (by omega) (by omega)
  exact chkTs_at ck_59_28 a (by omega) (by omega))
theorem ck_60 : chkT (chkE 60) cd_60 = true := by decide +kernel
theorem ck_61 : chkT (chkE 61) cd_61 = true := by decide +kernel
theorem ck_62 : chkT (chkE 62) cd_62 = true := by decide +kernel
theorem ck_63 : chkT (chkE 63) cd_63 = true := by decide +kernel
theorem ck_64 : chkT (chkE 64) cd_64 = true := by decide +kernel
theorem ck_65 : chkT (chkE 65) cd_65 = true := by decide +kernel
theorem ck_66 : chkT (chkE 66) cd_66 = true := by decide +kernel
theorem ck_67 : chkT (chkE 67) cd_67 = true := by decide +kernel
theorem ck_68 : chkT (chkE 68) cd_68 = true := by decide +kernel
theorem ck_69 : chkT (chkE 69) cd_69 = true := by decide +kernel
theorem ck_70 : chkT (chkE 70) cd_70 = true := by decide +kernel
theorem ck_71 : chkT (chkE 71) cd_71 = true := by decide +kernel
theorem ck_72 : chkT (chkE 72) cd_72 = true := by decide +kernel
theorem ck_73 : chkT (chkE 73) cd_73 = true := by decide +kernel
theorem ck_74 : chkT (chkE 74) cd_74 = true := by decide +kernel
theorem ck_75 : chkT (chkE 75) cd_75 = true := by decide +kernel
theorem ck_76 : chkT (chkE 76) cd_76 = true := by decide +kernel
theorem ck_77 : chkT (chkE 77) cd_77 = true := by decide +kernel
theorem ck_78 : chkT (chkE 78) cd_78 = true := by decide +kernel
theorem ck_79 : chkT (chkE 79) cd_79 = true := by decide +kernel
theorem ck_80 : chkT (chkE 80) cd_80 = true := by decide +kernel
theorem ck_81 : chkT (chkE 81) cd_81 = true := by decide +kernel
theorem ck_82 : chkT (chkE 82) cd_82 = true := by decide +kernel
theorem ck_83 : chkT (chkE 83) cd_83 = true := by decide +kernel
theorem ck_84 : chkT (chkE 84) cd_84 = true := by decide +kernel
theorem ck_85 : chkT (chkE 85) cd_85 = true := by decide +kernel
theorem ck_86 : chkT (chkE 86) cd_86 = true := by decide +kernel
theorem ck_87 : chkT (chkE 87) cd_87 = true := by decide +kernel
theorem ck_88 : chkT (chkE 88) cd_88 = true := by decide +kernel
theorem ck_89_0 : chkTs (chkE 89) cd_89 0 4 = true := by decide +kernel
theorem ck_89_4 : chkTs (chkE 89) cd_89 4 4 = true := by decide +kernel
theorem ck_89_8 : chkTs (chkE 89) cd_89 8 4 = true := by decide +kernel
theorem ck_89_12 : chkTs (chkE 89) cd_89 12 4 = true := by decide +kernel
theorem ck_89_16 : chkTs (chkE 89) cd_89 16 4 = true := by decide +kernel
theorem ck_89_20 : chkTs (chkE 89) cd_89 20 4 = true := by decide +kernel
theorem ck_89 : chkT (chkE 89) cd_89 = true := chkT_of (by decide +kernel : cd_89.length = 24) (fun a ha => by
  by_cases h0 : a < 4
  · exact chkTs_at ck_89_0 a (by omega) (by omega)
  by_cases h4 : a < 8
  · exact chkTs_at ck_89_4 a (by omega) (by omega)
  by_cases h8 : a < 12
  · exact chkTs_at ck_89_8 a (by omega) (by omega)
  by_cases h12 : a < 16
  · exact chkTs_at ck_89_12 a (by omega) (by omega)
  by_cases h16 : a < 20
  · exact chkTs_at ck_89_16 a (by omega) (by omega)
  exact chkTs_at ck_89_20 a (by omega) (by omega))
theorem ck_90 : chkT (chkE 90) cd_90 = true := by decide +kernel
theorem ck_91 : chkT (chkE 91) cd_91 = true := by decide +kernel
theorem ck_92 : chkT (chkE 92) cd_92 = true := by decide +kernel
theorem ck_93 : chkT (chkE 93) cd_93 = true := by decide +kernel
theorem ck_94 : chkT (chkE 94) cd_94 = true := by decide +kernel
theorem ck_95 : chkT (chkE 95) cd_95 = true := by decide +kernel
theorem ck_96 : chkT (chkE 96) cd_96 = true := by decide +kernel
theorem ck_97 : chkT (chkE 97) cd_97 = true := by decide +kernel
theorem ck_98 : chkT (chkE 98) cd_98 = true := by decide +kernel
theorem ck_99 : chkT (chkE 99) cd_99 = true := by decide +kernel
theorem ck_100_0 : chkTs (chkE 100) cd_100 0 4 = true := by decide +kernel
theorem ck_100_4 : chkTs (chkE 100) cd_100 4 4 = true := by decide +kernel
theorem ck_100_8 : chkTs (chkE 100) cd_100 8 4 = true := by decide +kernel
theorem ck_100_12 : chkTs (chkE 100) cd_100 12 4 = true := by decide +kernel
theorem ck_100_16 : chkTs (chkE 100) cd_100 16 2 = true := by decide +kernel
theorem ck_100 : chkT (chkE 100) cd_100 = true := chkT_of (by decide +kernel : cd_100.length = 18) (fun a ha => by
  by_cases h0 : a < 4
  · exact chkTs_at ck_100_0 a (by omega) (by omega)
  by_cases h4 : a < 8
  · exact chkTs_at ck_100_4 a (by omega) (by omega)
  by_cases h8 : a < 12
  · exact chkTs_at ck_100_8 a (by omega) (by omega)
  by_cases h12 : a < 16
  · exact chkTs_at ck_100_12 a (by omega) (by omega)
  exact chkTs_at ck_100_16 a (by omega) (by omega))
theorem ck_101 : chkT (chkE 101) cd_101 = true := by decide +kernel
theorem ck_102 : chkT (chkE 102) cd_102 = true := by decide +kernel
theorem ck_103 : chkT (chkE 103) cd_103 = true := by decide +kernel
theorem ck_104 : chkT (chkE 104) cd_104 = true := by decide +kernel
theorem ck_105 : chkT (chkE 105) cd_105 = true := by decide +kernel
theorem ck_106 : chkT (chkE 106) cd_106 = true := by decide +kernel
theorem ck_107_0 : chkTs (chkE 107) cd_107 0 4 = true := by decide +kernel
theorem ck_107_4 : chkTs (chkE 107) cd_107 4 4 = true := by decide +kernel
theorem ck_107_8 : chkTs (chkE 107) cd_107 8 4 = true := by decide +kernel
theorem ck_107_12 : chkTs (chkE 107) cd_107 12 4 = true := by decide +kernel
theorem ck_107_16 : chkTs (chkE 107) cd_107 16 1 = true := by decide +kernel
theorem ck_107 : chkT (chkE 107) cd_107 = true := chkT_of (by decide +kernel : cd_107.length = 17) (fun a ha => by
  by_cases h0 : a < 4
  · exact chkTs_at ck_107_0 a (by omega) (by omega)
  by_cases h4 : a < 8
  · exact chkTs_at ck_107_4 a (by omega) (by omega)
  by_cases h8 : a < 12
  · exact chkTs_at ck_107_8 a (by omega) (by omega)
  by_cases h12 : a < 16
  · exact chkTs_at ck_107_12 a (by omega) (by omega)
  exact chkTs_at ck_107_16 a (by omega) (by omega))
theorem ck_108 : chkT (chkE 108) cd_108 = true := by decide +kernel
theorem ck_109 : chkT (chkE 109) cd_109 = true := by decide +kernel
theorem ck_110 : chkT (chkE 110) cd_110 = true := by decide +kernel
theorem ck_111_0 : chkTs (chkE 111) cd_111 0 4 = true := by decide +kernel
theorem ck_111_4 : chkTs (chkE 111) cd_111 4 4 = true := by decide +kernel
theorem ck_111_8 : chkTs (chkE 111) cd_111 8 4 = true := by decide +kernel
theorem ck_111_12 : chkTs (chkE 111) cd_111 12 4 = true := by decide +kernel
theorem ck_111_16 : chkTs (chkE 111) cd_111 16 4 = true := by decide +kernel
theorem ck_111_20 : chkTs (chkE 111) cd_111 20 4 = true := by decide +kernel
theorem ck_111 : chkT (chkE 111) cd_111 = true := chkT_of (by decide +kernel : cd_111.length = 24) (fun a ha => by
  by_cases h0 : a < 4
  · exact chkTs_at ck_111_0 a (by omega) (by omega)
  by_cases h4 : a < 8
  · exact chkTs_at ck_111_4 a (by omega) (by omega)
  by_cases h8 : a < 12
  · exact chkTs_at ck_111_8 a (by omega) (by omega)
  by_cases h12 : a < 16
  · exact chkTs_at ck_111_12 a (by omega) (by omega)
  by_cases h16 : a < 20
  · exact chkTs_at ck_111_16 a (by omega) (by omega)
  exact chkTs_at ck_111_20 a (by omega) (by omega))
theorem ck_112_0 : chkTs (chkE 112) cd_112 0 4 = true := by decide +kernel
theorem ck_112_4 : chkTs (chkE 112) cd_112 4 4 = true := by decide +kernel
theorem ck_112_8 : chkTs (chkE 112) cd_112 8 4 = true := by decide +kernel
theorem ck_112_12 : chkTs (chkE 112) cd_112 12 2 = true := by decide +kernel
theorem ck_112 : chkT (chkE 112) cd_112 = true := chkT_of (by decide +kernel : cd_112.length = 14) (fun a ha => by
  by_cases h0 : a < 4
  · exact chkTs_at ck_112_0 a (by omega) (by omega)
  by_cases h4 : a < 8
  · exact chkTs_at ck_112_4 a (by omega) (by omega)
  by_cases h8 : a < 12
  · exact chkTs_at ck_112_8 a (by omega) (by omega)
  exact chkTs_at ck_112_12 a (by omega) (by omega))
theorem ck_113 : chkT (chkE 113) cd_113 = true := by decide +kernel
theorem ck_114 : chkT (chkE 114) cd_114 = true := by decide +kernel
theorem ck_115 : chkT (chkE 115) cd_115 = true := by decide +kernel
theorem ck_116 : chkT (chkE 116) cd_116 = true := by decide +kernel
theorem ck_117 : chkT (chkE 117) cd_117 = true := by decide +kernel
theorem ck_118 : chkT (chkE 118) cd_118 = true := by decide +kernel
theorem ck_119 : chkT (chkE 119) cd_119 = true := by decide +kernel
theorem ck_120 : chkT (chkE 120) cd_120 = true := by decide +kernel
theorem ck_121 : chkT (chkE 121) cd_121 = true := by decide +kernel
theorem ck_122 : chkT (chkE 122) cd_122 = true := by decide +kernel
theorem ck_123 : chkT (chkE 123) cd_123 = true := by decide +kernel
theorem ck_124 : chkT (chkE 124) cd_124 = true := by decide +kernel
theorem ck_125 : chkT (chkE 125) cd_125 = true := by decide +kernel
theorem ck_126 : chkT (chkE 126) cd_126 = true := by decide +kernel
theorem ck_127_0 : chkTs (chkE 127) cd_127 0 4 = true := by decide +kernel
