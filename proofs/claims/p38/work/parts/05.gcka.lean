section
/-! Every method of the tables, checked by the kernel. -/
theorem ck_1_0 : chkTs (chkE 1) cd_1 0 4 = true := by decide +kernel
theorem ck_1_4 : chkTs (chkE 1) cd_1 4 4 = true := by decide +kernel
theorem ck_1_8 : chkTs (chkE 1) cd_1 8 4 = true := by decide +kernel
theorem ck_1_12 : chkTs (chkE 1) cd_1 12 3 = true := by decide +kernel
theorem ck_1 : chkT (chkE 1) cd_1 = true := chkT_of (by decide +kernel : cd_1.length = 15) (fun a ha => by
  by_cases h0 : a < 4
  · exact chkTs_at ck_1_0 a (by omega) (by omega)
  by_cases h4 : a < 8
  · exact chkTs_at ck_1_4 a (by omega) (by omega)
  by_cases h8 : a < 12
  · exact chkTs_at ck_1_8 a (by omega) (by omega)
  exact chkTs_at ck_1_12 a (by omega) (by omega))
theorem ck_2 : chkT (chkE 2) cd_2 = true := by decide +kernel
theorem ck_3 : chkT (chkE 3) cd_3 = true := by decide +kernel
theorem ck_4 : chkT (chkE 4) cd_4 = true := by decide +kernel
theorem ck_5 : chkT (chkE 5) cd_5 = true := by decide +kernel
theorem ck_6 : chkT (chkE 6) cd_6 = true := by decide +kernel
theorem ck_7 : chkT (chkE 7) cd_7 = true := by decide +kernel
theorem ck_8 : chkT (chkE 8) cd_8 = true := by decide +kernel
theorem ck_9 : chkT (chkE 9) cd_9 = true := by decide +kernel
theorem ck_10 : chkT (chkE 10) cd_10 = true := by decide +kernel
theorem ck_11 : chkT (chkE 11) cd_11 = true := by decide +kernel
theorem ck_12 : chkT (chkE 12) cd_12 = true := by decide +kernel
theorem ck_13_0 : chkTs (chkE 13) cd_13 0 4 = true := by decide +kernel
theorem ck_13_4 : chkTs (chkE 13) cd_13 4 4 = true := by decide +kernel
theorem ck_13_8 : chkTs (chkE 13) cd_13 8 4 = true := by decide +kernel
theorem ck_13_12 : chkTs (chkE 13) cd_13 12 4 = true := by decide +kernel
theorem ck_13_16 : chkTs (chkE 13) cd_13 16 1 = true := by decide +kernel
theorem ck_13 : chkT (chkE 13) cd_13 = true := chkT_of (by decide +kernel : cd_13.length = 17) (fun a ha => by
  by_cases h0 : a < 4
  · exact chkTs_at ck_13_0 a (by omega) (by omega)
  by_cases h4 : a < 8
  · exact chkTs_at ck_13_4 a (by omega) (by omega)
  by_cases h8 : a < 12
  · exact chkTs_at ck_13_8 a (by omega) (by omega)
  by_cases h12 : a < 16
  · exact chkTs_at ck_13_12 a (by omega) (by omega)
  exact chkTs_at ck_13_16 a (by omega) (by omega))
theorem ck_14 : chkT (chkE 14) cd_14 = true := by decide +kernel
theorem ck_15 : chkT (chkE 15) cd_15 = true := by decide +kernel
theorem ck_16 : chkT (chkE 16) cd_16 = true := by decide +kernel
theorem ck_17 : chkT (chkE 17) cd_17 = true := by decide +kernel
theorem ck_18 : chkT (chkE 18) cd_18 = true := by decide +kernel
theorem ck_19 : chkT (chkE 19) cd_19 = true := by decide +kernel
theorem ck_20 : chkT (chkE 20) cd_20 = true := by decide +kernel
theorem ck_21 : chkT (chkE 21) cd_21 = true := by decide +kernel
theorem ck_22 : chkT (chkE 22) cd_22 = true := by decide +kernel
theorem ck_23 : chkT (chkE 23) cd_23 = true := by decide +kernel
theorem ck_24 : chkT (chkE 24) cd_24 = true := by decide +kernel
theorem ck_25 : chkT (chkE 25) cd_25 = true := by decide +kernel
theorem ck_26 : chkT (chkE 26) cd_26 = true := by decide +kernel
theorem ck_27 : chkT (chkE 27) cd_27 = true := by decide +kernel
theorem ck_28 : chkT (chkE 28) cd_28 = true := by decide +kernel
theorem ck_29 : chkT (chkE 29) cd_29 = true := by decide +kernel
theorem ck_30 : chkT (chkE 30) cd_30 = true := by decide +kernel
theorem ck_31 : chkT (chkE 31) cd_31 = true := by decide +kernel
theorem ck_32 : chkT (chkE 32) cd_32 = true := by decide +kernel
theorem ck_33 : chkT (chkE 33) cd_33 = true := by decide +kernel
theorem ck_34 : chkT (chkE 34) cd_34 = true := by decide +kernel
theorem ck_35 : chkT (chkE 35) cd_35 = true := by decide +kernel
theorem ck_36 : chkT (chkE 36) cd_36 = true := by decide +kernel
theorem ck_37 : chkT (chkE 37) cd_37 = true := by decide +kernel
theorem ck_38 : chkT (chkE 38) cd_38 = true := by decide +kernel
theorem ck_39 : chkT (chkE 39) cd_39 = true := by decide +kernel
theorem ck_40 : chkT (chkE 40) cd_40 = true := by decide +kernel
theorem ck_41 : chkT (chkE 41) cd_41 = true := by decide +kernel
theorem ck_42 : chkT (chkE 42) cd_42 = true := by decide +kernel
theorem ck_43 : chkT (chkE 43) cd_43 = true := by decide +kernel
theorem ck_44 : chkT (chkE 44) cd_44 = true := by decide +kernel
theorem ck_45 : chkT (chkE 45) cd_45 = true := by decide +kernel
theorem ck_46 : chkT (chkE 46) cd_46 = true := by decide +kernel
theorem ck_47 : chkT (chkE 47) cd_47 = true := by decide +kernel
theorem ck_48 : chkT (chkE 48) cd_48 = true := by decide +kernel
theorem ck_49 : chkT (chkE 49) cd_49 = true := by decide +kernel
theorem ck_50 : chkT (chkE 50) cd_50 = true := by decide +kernel
theorem ck_51 : chkT (chkE 51) cd_51 = true := by decide +kernel
theorem ck_52 : chkT (chkE 52) cd_52 = true := by decide +kernel
theorem ck_53 : chkT (chkE 53) cd_53 = true := by decide +kernel
theorem ck_54 : chkT (chkE 54) cd_54 = true := by decide +kernel
theorem ck_55 : chkT (chkE 55) cd_55 = true := by decide +kernel
theorem ck_56 : chkT (chkE 56) cd_56 = true := by decide +kernel
theorem ck_57 : chkT (chkE 57) cd_57 = true := by decide +kernel
theorem ck_58 : chkT (chkE 58) cd_58 = true := by decide +kernel
theorem ck_59_0 : chkTs (chkE 59) cd_59 0 4 = true := by decide +kernel
theorem ck_59_4 : chkTs (chkE 59) cd_59 4 4 = true := by decide +kernel
theorem ck_59_8 : chkTs (chkE 59) cd_59 8 4 = true := by decide +kernel
theorem ck_59_12 : chkTs (chkE 59) cd_59 12 4 = true := by decide +kernel
theorem ck_59_16 : chkTs (chkE 59) cd_59 16 4 = true := by decide +kernel
theorem ck_59_20 : chkTs (chkE 59) cd_59 20 4 = true := by decide +kernel
theorem ck_59_24 : chkTs (chkE 59) cd_59 24 4 = true := by decide +kernel
theorem ck_59_28 : chkTs (chkE 59) cd_59 28 3 = true := by decide +kernel
theorem ck_59 : chkT (chkE 59) cd_59 = true := chkT_of (by decide +kernel : cd_59.length = 31) (fun a ha => by
  by_cases h0 : a < 4
  · exact chkTs_at ck_59_0 a (by omega) (by omega)
  by_cases h4 : a < 8
  · exact chkTs_at ck_59_4 a (by omega) (by omega)
  by_cases h8 : a < 12
  · exact chkTs_at ck_59_8 a (by omega) (by omega)
  by_cases h12 : a < 16
  · exact chkTs_at ck_59_12 a (by omega) (by omega)
  by_cases h16 : a < 20
  · exact chkTs_at ck_59_16 a (by omega) (by omega)
  by_cases h20 : a < 24
  · exact chkTs_at ck_59_20 a (by omega) (by omega)
  by_cases h24 : a < 28
  · exact chkTs_at ck_59_24 a (by omega) (by omega)
  exact chkTs_at ck_59_28 a (by omega) (by omega))
theorem ck_60 : chkT (chkE 60) cd_60 = true := by decide +kernel
theorem ck_61 : chkT (chkE 61) cd_61 = true := by decide +kernel
theorem ck_62 : chkT (chkE 62) cd_62 = true := by decide +kernel
theorem ck_63 : chkT (chkE 63) cd_63 = true := by decide +kernel
theorem ck_64 : chkT (chkE 64) cd_64 = true := by decide +kernel
theorem ck_65 : chkT (chkE 65) cd_65 = true := by decide +kernel
theorem ck_66 : chkT (chkE 66) cd_66 = true := by decide +kernel
theorem ck_67 : chkT (chkE 67) cd_67 = true := by decide +kernel
theorem ck_68 : chkT (chkE 68) cd_68 = true := by decide +kernel
theorem ck_69 : chkT (chkE 69) cd_69 = true := by decide +kernel
theorem ck_70 : chkT (chkE 70) cd_70 = true := by decide +kernel
theorem ck_71 : chkT (chkE 71) cd_71 = true := by decide +kernel
theorem ck_72 : chkT (chkE 72) cd_72 = true := by decide +kernel
theorem ck_73 : chkT (chkE 73) cd_73 = true := by decide +kernel
theorem ck_74 : chkT (chkE 74) cd_74 = true := by decide +kernel
theorem ck_75 : chkT (chkE 75) cd_75 = true := by decide +kernel
theorem ck_76 : chkT (chkE 76) cd_76 = true := by decide +kernel
theorem ck_77 : chkT (chkE 77) cd_77 = true := by decide +kernel
theorem ck_78 : chkT (chkE 78) cd_78 = true := by decide +kernel
theorem ck_79 : chkT (chkE 79) cd_79 = true := by decide +kernel
theorem ck_80 : chkT (chkE 80) cd_80 = true := by decide +kernel
theorem ck_81 : chkT (chkE 81) cd_81 = true := by decide +kernel
theorem ck_82 : chkT (chkE 82) cd_82 = true := by decide +kernel
theorem ck_83 : chkT (chkE 83) cd_83 = true := by decide +kernel
theorem ck_84 : chkT (chkE 84) cd_84 = true := by decide +kernel
theorem ck_85 : chkT (chkE 85) cd_85 = true := by decide +kernel
theorem ck_86 : chkT (chkE 86) cd_86 = true := by decide +kernel
theorem ck_87 : chkT (chkE 87) cd_87 = true := by decide +kernel
theorem ck_88 : chkT (chkE 88) cd_88 = true := by decide +kernel
theorem ck_89_0 : chkTs (chkE 89) cd_89 0 4 = true := by decide +kernel
theorem ck_89_4 : chkTs (chkE 89) cd_89 4 4 = true := by decide +kernel
theorem ck_89_8 : chkTs (chkE 89) cd_89 8 4 = true := by decide +kernel
theorem ck_89_12 : chkTs (chkE 89) cd_89 12 4 = true := by decide +kernel
theorem ck_89_16 : chkTs (chkE 89) cd_89 16 4 = true := by decide +kernel
theorem ck_89_20 : chkTs (chkE 89) cd_89 20 4 = true := by decide +kernel
theorem ck_89 : chkT (chkE 89) cd_89 = true := chkT_of (by decide +kernel : cd_89.length = 24) (fun a ha => by
  by_cases h0 : a < 4
  · exact chkTs_at ck_89_0 a (by omega) (by omega)
  by_cases h4 : a < 8
  · exact chkTs_at ck_89_4 a (by omega) (by omega)
  by_cases h8 : a < 12
  · exact chkTs_at ck_89_8 a (by omega) (by omega)
  by_cases h12 : a < 16
  · exact chkTs_at ck_89_12 a (by omega) (by omega)
  by_cases h16 : a < 20
  · exact chkTs_at ck_89_16 a (by omega) (by omega)
  exact chkTs_at ck_89_20 a (by omega) (by omega))
theorem ck_90 : chkT (chkE 90) cd_90 = true := by decide +kernel
theorem ck_91 : chkT (chkE 91) cd_91 = true := by decide +kernel
theorem ck_92 : chkT (chkE 92) cd_92 = true := by decide +kernel
theorem ck_93 : chkT (chkE 93) cd_93 = true := by decide +kernel
theorem ck_94 : chkT (chkE 94) cd_94 = true := by decide +kernel
theorem ck_95 : chkT (chkE 95) cd_95 = true := by decide +kernel
theorem ck_96 : chkT (chkE 96) cd_96 = true := by decide +kernel
theorem ck_97 : chkT (chkE 97) cd_97 = true := by decide +kernel
theorem ck_98 : chkT (chkE 98) cd_98 = true := by decide +kernel
theorem ck_99 : chkT (chkE 99) cd_99 = true := by decide +kernel
theorem ck_100_0 : chkTs (chkE 100) cd_100 0 4 = true := by decide +kernel
theorem ck_100_4 : chkTs (chkE 100) cd_100 4 4 = true := by decide +kernel
theorem ck_100_8 : chkTs (chkE 100) cd_100 8 4 = true := by decide +kernel
theorem ck_100_12 : chkTs (chkE 100) cd_100 12 4 = true := by decide +kernel
theorem ck_100_16 : chkTs (chkE 100) cd_100 16 2 = true := by decide +kernel
theorem ck_100 : chkT (chkE 100) cd_100 = true := chkT_of (by decide +kernel : cd_100.length = 18) (fun a ha => by
  by_cases h0 : a < 4
  · exact chkTs_at ck_100_0 a (by omega) (by omega)
  by_cases h4 : a < 8
  · exact chkTs_at ck_100_4 a (by omega) (by omega)
  by_cases h8 : a < 12
  · exact chkTs_at ck_100_8 a (by omega) (by omega)
  by_cases h12 : a < 16
  · exact chkTs_at ck_100_12 a (by omega) (by omega)
  exact chkTs_at ck_100_16 a (by omega) (by omega))
theorem ck_101 : chkT (chkE 101) cd_101 = true := by decide +kernel
theorem ck_102 : chkT (chkE 102) cd_102 = true := by decide +kernel
theorem ck_103 : chkT (chkE 103) cd_103 = true := by decide +kernel
theorem ck_104 : chkT (chkE 104) cd_104 = true := by decide +kernel
theorem ck_105 : chkT (chkE 105) cd_105 = true := by decide +kernel
theorem ck_106 : chkT (chkE 106) cd_106 = true := by decide +kernel
theorem ck_107_0 : chkTs (chkE 107) cd_107 0 4 = true := by decide +kernel
theorem ck_107_4 : chkTs (chkE 107) cd_107 4 4 = true := by decide +kernel
theorem ck_107_8 : chkTs (chkE 107) cd_107 8 4 = true := by decide +kernel
theorem ck_107_12 : chkTs (chkE 107) cd_107 12 4 = true := by decide +kernel
theorem ck_107_16 : chkTs (chkE 107) cd_107 16 1 = true := by decide +kernel
theorem ck_107 : chkT (chkE 107) cd_107 = true := chkT_of (by decide +kernel : cd_107.length = 17) (fun a ha => by
  by_cases h0 : a < 4
  · exact chkTs_at ck_107_0 a (by omega) (by omega)
  by_cases h4 : a < 8
  · exact chkTs_at ck_107_4 a (by omega) (by omega)
  by_cases h8 : a < 12
  · exact chkTs_at ck_107_8 a (by omega) (by omega)
  by_cases h12 : a < 16
  · exact chkTs_at ck_107_12 a (by omega) (by omega)
  exact chkTs_at ck_107_16 a (by omega) (by omega))
theorem ck_108 : chkT (chkE 108) cd_108 = true := by decide +kernel
theorem ck_109 : chkT (chkE 109) cd_109 = true := by decide +kernel
theorem ck_110 : chkT (chkE 110) cd_110 = true := by decide +kernel
theorem ck_111_0 : chkTs (chkE 111) cd_111 0 4 = true := by decide +kernel
theorem ck_111_4 : chkTs (chkE 111) cd_111 4 4 = true := by decide +kernel
theorem ck_111_8 : chkTs (chkE 111) cd_111 8 4 = true := by decide +kernel
theorem ck_111_12 : chkTs (chkE 111) cd_111 12 4 = true := by decide +kernel
theorem ck_111_16 : chkTs (chkE 111) cd_111 16 4 = true := by decide +kernel
theorem ck_111_20 : chkTs (chkE 111) cd_111 20 4 = true := by decide +kernel
theorem ck_111 : chkT (chkE 111) cd_111 = true := chkT_of (by decide +kernel : cd_111.length = 24) (fun a ha => by
  by_cases h0 : a < 4
  · exact chkTs_at ck_111_0 a (by omega) (by omega)
  by_cases h4 : a < 8
  · exact chkTs_at ck_111_4 a (by omega) (by omega)
  by_cases h8 : a < 12
  · exact chkTs_at ck_111_8 a (by omega) (by omega)
  by_cases h12 : a < 16
  · exact chkTs_at ck_111_12 a (by omega) (by omega)
  by_cases h16 : a < 20
  · exact chkTs_at ck_111_16 a (by omega) (by omega)
  exact chkTs_at ck_111_20 a (by omega) (by omega))
theorem ck_112_0 : chkTs (chkE 112) cd_112 0 4 = true := by decide +kernel
theorem ck_112_4 : chkTs (chkE 112) cd_112 4 4 = true := by decide +kernel
theorem ck_112_8 : chkTs (chkE 112) cd_112 8 4 = true := by decide +kernel
theorem ck_112_12 : chkTs (chkE 112) cd_112 12 2 = true := by decide +kernel
theorem ck_112 : chkT (chkE 112) cd_112 = true := chkT_of (by decide +kernel : cd_112.length = 14) (fun a ha => by
  by_cases h0 : a < 4
  · exact chkTs_at ck_112_0 a (by omega) (by omega)
  by_cases h4 : a < 8
  · exact chkTs_at ck_112_4 a (by omega) (by omega)
  by_cases h8 : a < 12
  · exact chkTs_at ck_112_8 a (by omega) (by omega)
  exact chkTs_at ck_112_12 a (by omega) (by omega))
theorem ck_113 : chkT (chkE 113) cd_113 = true := by decide +kernel
theorem ck_114 : chkT (chkE 114) cd_114 = true := by decide +kernel
theorem ck_115 : chkT (chkE 115) cd_115 = true := by decide +kernel
theorem ck_116 : chkT (chkE 116) cd_116 = true := by decide +kernel
theorem ck_117 : chkT (chkE 117) cd_117 = true := by decide +kernel
theorem ck_118 : chkT (chkE 118) cd_118 = true := by decide +kernel
theorem ck_119 : chkT (chkE 119) cd_119 = true := by decide +kernel
theorem ck_120 : chkT (chkE 120) cd_120 = true := by decide +kernel
theorem ck_121 : chkT (chkE 121) cd_121 = true := by decide +kernel
theorem ck_122 : chkT (chkE 122) cd_122 = true := by decide +kernel
theorem ck_123 : chkT (chkE 123) cd_123 = true := by decide +kernel
theorem ck_124 : chkT (chkE 124) cd_124 = true := by decide +kernel
theorem ck_125 : chkT (chkE 125) cd_125 = true := by decide +kernel
theorem ck_126 : chkT (chkE 126) cd_126 = true := by decide +kernel
theorem ck_127_0 : chkTs (chkE 127) cd_127 0 4 = true := by decide +kernel
end
section
/-! The same, the other half. -/
theorem ck_127_4 : chkTs (chkE 127) cd_127 4 4 = true := by decide +kernel
theorem ck_127_8 : chkTs (chkE 127) cd_127 8 4 = true := by decide +kernel
theorem ck_127_12 : chkTs (chkE 127) cd_127 12 4 = true := by decide +kernel
theorem ck_127_16 : chkTs (chkE 127) cd_127 16 4 = true := by decide +kernel
theorem ck_127_20 : chkTs (chkE 127) cd_127 20 3 = true := by decide +kernel
theorem ck_127 : chkT (chkE 127) cd_127 = true := chkT_of (by decide +kernel : cd_127.length = 23) (fun a ha => by
  by_cases h0 : a < 4
  · exact chkTs_at ck_127_0 a (by omega) (by omega)
  by_cases h4 : a < 8
  · exact chkTs_at ck_127_4 a (by omega) (by omega)
  by_cases h8 : a < 12
  · exact chkTs_at ck_127_8 a (by omega) (by omega)
  by_cases h12 : a < 16
  · exact chkTs_at ck_127_12 a (by omega) (by omega)
  by_cases h16 : a < 20
  · exact chkTs_at ck_127_16 a (by omega) (by omega)
  exact chkTs_at ck_127_20 a (by omega) (by omega))
theorem ck_128_0 : chkTs (chkE 128) cd_128 0 4 = true := by decide +kernel
theorem ck_128_4 : chkTs (chkE 128) cd_128 4 4 = true := by decide +kernel
theorem ck_128_8 : chkTs (chkE 128) cd_128 8 4 = true := by decide +kernel
theorem ck_128_12 : chkTs (chkE 128) cd_128 12 4 = true := by decide +kernel
theorem ck_128_16 : chkTs (chkE 128) cd_128 16 4 = true := by decide +kernel
theorem ck_128 : chkT (chkE 128) cd_128 = true := chkT_of (by decide +kernel : cd_128.length = 20) (fun a ha => by
  by_cases h0 : a < 4
  · exact chkTs_at ck_128_0 a (by omega) (by omega)
  by_cases h4 : a < 8
  · exact chkTs_at ck_128_4 a (by omega) (by omega)
  by_cases h8 : a < 12
  · exact chkTs_at ck_128_8 a (by omega) (by omega)
  by_cases h12 : a < 16
  · exact chkTs_at ck_128_12 a (by omega) (by omega)
  exact chkTs_at ck_128_16 a (by omega) (by omega))
theorem ck_129_0 : chkTs (chkE 129) cd_129 0 4 = true := by decide +kernel
theorem ck_129_4 : chkTs (chkE 129) cd_129 4 4 = true := by decide +kernel
theorem ck_129_8 : chkTs (chkE 129) cd_129 8 4 = true := by decide +kernel
theorem ck_129_12 : chkTs (chkE 129) cd_129 12 1 = true := by decide +kernel
theorem ck_129 : chkT (chkE 129) cd_129 = true := chkT_of (by decide +kernel : cd_129.length = 13) (fun a ha => by
  by_cases h0 : a < 4
  · exact chkTs_at ck_129_0 a (by omega) (by omega)
  by_cases h4 : a < 8
  · exact chkTs_at ck_129_4 a (by omega) (by omega)
  by_cases h8 : a < 12
  · exact chkTs_at ck_129_8 a (by omega) (by omega)
  exact chkTs_at ck_129_12 a (by omega) (by omega))
theorem ck_130 : chkT (chkE 130) cd_130 = true := by decide +kernel
theorem ck_131 : chkT (chkE 131) cd_131 = true := by decide +kernel
theorem ck_132 : chkT (chkE 132) cd_132 = true := by decide +kernel
theorem ck_133_0 : chkTs (chkE 133) cd_133 0 4 = true := by decide +kernel
theorem ck_133_4 : chkTs (chkE 133) cd_133 4 4 = true := by decide +kernel
theorem ck_133_8 : chkTs (chkE 133) cd_133 8 4 = true := by decide +kernel
theorem ck_133_12 : chkTs (chkE 133) cd_133 12 4 = true := by decide +kernel
theorem ck_133_16 : chkTs (chkE 133) cd_133 16 4 = true := by decide +kernel
theorem ck_133_20 : chkTs (chkE 133) cd_133 20 2 = true := by decide +kernel
theorem ck_133 : chkT (chkE 133) cd_133 = true := chkT_of (by decide +kernel : cd_133.length = 22) (fun a ha => by
  by_cases h0 : a < 4
  · exact chkTs_at ck_133_0 a (by omega) (by omega)
  by_cases h4 : a < 8
  · exact chkTs_at ck_133_4 a (by omega) (by omega)
  by_cases h8 : a < 12
  · exact chkTs_at ck_133_8 a (by omega) (by omega)
  by_cases h12 : a < 16
  · exact chkTs_at ck_133_12 a (by omega) (by omega)
  by_cases h16 : a < 20
  · exact chkTs_at ck_133_16 a (by omega) (by omega)
  exact chkTs_at ck_133_20 a (by omega) (by omega))
theorem ck_134 : chkT (chkE 134) cd_134 = true := by decide +kernel
theorem ck_135 : chkT (chkE 135) cd_135 = true := by decide +kernel
theorem ck_136 : chkT (chkE 136) cd_136 = true := by decide +kernel
theorem ck_137 : chkT (chkE 137) cd_137 = true := by decide +kernel
theorem ck_138 : chkT (chkE 138) cd_138 = true := by decide +kernel
theorem ck_139 : chkT (chkE 139) cd_139 = true := by decide +kernel
theorem ck_140 : chkT (chkE 140) cd_140 = true := by decide +kernel
theorem ck_141 : chkT (chkE 141) cd_141 = true := by decide +kernel
theorem ck_142 : chkT (chkE 142) cd_142 = true := by decide +kernel
theorem ck_143 : chkT (chkE 143) cd_143 = true := by decide +kernel
theorem ck_144 : chkT (chkE 144) cd_144 = true := by decide +kernel
theorem ck_145_0 : chkTs (chkE 145) cd_145 0 4 = true := by decide +kernel
theorem ck_145_4 : chkTs (chkE 145) cd_145 4 4 = true := by decide +kernel
theorem ck_145_8 : chkTs (chkE 145) cd_145 8 4 = true := by decide +kernel
theorem ck_145_12 : chkTs (chkE 145) cd_145 12 4 = true := by decide +kernel
theorem ck_145_16 : chkTs (chkE 145) cd_145 16 4 = true := by decide +kernel
theorem ck_145_20 : chkTs (chkE 145) cd_145 20 2 = true := by decide +kernel
theorem ck_145 : chkT (chkE 145) cd_145 = true := chkT_of (by decide +kernel : cd_145.length = 22) (fun a ha => by
  by_cases h0 : a < 4
  · exact chkTs_at ck_145_0 a (by omega) (by omega)
  by_cases h4 : a < 8
  · exact chkTs_at ck_145_4 a (by omega) (by omega)
  by_cases h8 : a < 12
  · exact chkTs_at ck_145_8 a (by omega) (by omega)
  by_cases h12 : a < 16
  · exact chkTs_at ck_145_12 a (by omega) (by omega)
  by_cases h16 : a < 20
  · exact chkTs_at ck_145_16 a (by omega) (by omega)
  exact chkTs_at ck_145_20 a (by omega) (by omega))
theorem ck_146 : chkT (chkE 146) cd_146 = true := by decide +kernel
theorem ck_147 : chkT (chkE 147) cd_147 = true := by decide +kernel
theorem ck_148 : chkT (chkE 148) cd_148 = true := by decide +kernel
theorem ck_149 : chkT (chkE 149) cd_149 = true := by decide +kernel
theorem ck_150 : chkT (chkE 150) cd_150 = true := by decide +kernel
theorem ck_151 : chkT (chkE 151) cd_151 = true := by decide +kernel
theorem ck_152 : chkT (chkE 152) cd_152 = true := by decide +kernel
theorem ck_153 : chkT (chkE 153) cd_153 = true := by decide +kernel
theorem ck_154 : chkT (chkE 154) cd_154 = true := by decide +kernel
theorem ck_155 : chkT (chkE 155) cd_155 = true := by decide +kernel
theorem ck_156 : chkT (chkE 156) cd_156 = true := by decide +kernel
theorem ck_157 : chkT (chkE 157) cd_157 = true := by decide +kernel
theorem ck_158 : chkT (chkE 158) cd_158 = true := by decide +kernel
theorem ck_159 : chkT (chkE 159) cd_159 = true := by decide +kernel
theorem ck_160 : chkT (chkE 160) cd_160 = true := by decide +kernel
theorem ck_161 : chkT (chkE 161) cd_161 = true := by decide +kernel
theorem ck_162 : chkT (chkE 162) cd_162 = true := by decide +kernel
theorem ck_163 : chkT (chkE 163) cd_163 = true := by decide +kernel
theorem ck_164 : chkT (chkE 164) cd_164 = true := by decide +kernel
theorem ck_165 : chkT (chkE 165) cd_165 = true := by decide +kernel
theorem ck_166_0 : chkTs (chkE 166) cd_166 0 4 = true := by decide +kernel
theorem ck_166_4 : chkTs (chkE 166) cd_166 4 4 = true := by decide +kernel
theorem ck_166_8 : chkTs (chkE 166) cd_166 8 4 = true := by decide +kernel
theorem ck_166_12 : chkTs (chkE 166) cd_166 12 2 = true := by decide +kernel
theorem ck_166 : chkT (chkE 166) cd_166 = true := chkT_of (by decide +kernel : cd_166.length = 14) (fun a ha => by
  by_cases h0 : a < 4
  · exact chkTs_at ck_166_0 a (by omega) (by omega)
  by_cases h4 : a < 8
  · exact chkTs_at ck_166_4 a (by omega) (by omega)
  by_cases h8 : a < 12
  · exact chkTs_at ck_166_8 a (by omega) (by omega)
  exact chkTs_at ck_166_12 a (by omega) (by omega))
theorem ck_167 : chkT (chkE 167) cd_167 = true := by decide +kernel
theorem ck_168 : chkT (chkE 168) cd_168 = true := by decide +kernel
theorem ck_169 : chkT (chkE 169) cd_169 = true := by decide +kernel
theorem ck_170 : chkT (chkE 170) cd_170 = true := by decide +kernel
theorem ck_171 : chkT (chkE 171) cd_171 = true := by decide +kernel
theorem ck_172 : chkT (chkE 172) cd_172 = true := by decide +kernel
theorem ck_173 : chkT (chkE 173) cd_173 = true := by decide +kernel
theorem ck_174 : chkT (chkE 174) cd_174 = true := by decide +kernel
theorem ck_175 : chkT (chkE 175) cd_175 = true := by decide +kernel
theorem ck_176 : chkT (chkE 176) cd_176 = true := by decide +kernel
theorem ck_177 : chkT (chkE 177) cd_177 = true := by decide +kernel
theorem ck_178 : chkT (chkE 178) cd_178 = true := by decide +kernel
theorem ck_179 : chkT (chkE 179) cd_179 = true := by decide +kernel
theorem ck_180 : chkT (chkE 180) cd_180 = true := by decide +kernel
theorem ck_181 : chkT (chkE 181) cd_181 = true := by decide +kernel
theorem ck_182 : chkT (chkE 182) cd_182 = true := by decide +kernel
theorem ck_183 : chkT (chkE 183) cd_183 = true := by decide +kernel
theorem ck_184 : chkT (chkE 184) cd_184 = true := by decide +kernel
theorem ck_185 : chkT (chkE 185) cd_185 = true := by decide +kernel
theorem ck_186 : chkT (chkE 186) cd_186 = true := by decide +kernel
theorem ck_187 : chkT (chkE 187) cd_187 = true := by decide +kernel
theorem ck_188 : chkT (chkE 188) cd_188 = true := by decide +kernel
theorem ck_189 : chkT (chkE 189) cd_189 = true := by decide +kernel
theorem ck_190 : chkT (chkE 190) cd_190 = true := by decide +kernel
theorem ck_191 : chkT (chkE 191) cd_191 = true := by decide +kernel
theorem ck_192 : chkT (chkE 192) cd_192 = true := by decide +kernel
theorem ck_193 : chkT (chkE 193) cd_193 = true := by decide +kernel
theorem ck_194 : chkT (chkE 194) cd_194 = true := by decide +kernel
theorem ck_195 : chkT (chkE 195) cd_195 = true := by decide +kernel
theorem ck_196 : chkT (chkE 196) cd_196 = true := by decide +kernel
theorem ck_197 : chkT (chkE 197) cd_197 = true := by decide +kernel
theorem ck_198 : chkT (chkE 198) cd_198 = true := by decide +kernel
theorem ck_199 : chkT (chkE 199) cd_199 = true := by decide +kernel
theorem ck_200 : chkT (chkE 200) cd_200 = true := by decide +kernel
theorem ck_201 : chkT (chkE 201) cd_201 = true := by decide +kernel
theorem ck_202 : chkT (chkE 202) cd_202 = true := by decide +kernel
theorem ck_203 : chkT (chkE 203) cd_203 = true := by decide +kernel
theorem ck_204 : chkT (chkE 204) cd_204 = true := by decide +kernel
theorem ck_205 : chkT (chkE 205) cd_205 = true := by decide +kernel
theorem ck_206 : chkT (chkE 206) cd_206 = true := by decide +kernel
theorem ck_207 : chkT (chkE 207) cd_207 = true := by decide +kernel
theorem ck_208 : chkT (chkE 208) cd_208 = true := by decide +kernel
theorem ck_209 : chkT (chkE 209) cd_209 = true := by decide +kernel
theorem ck_210 : chkT (chkE 210) cd_210 = true := by decide +kernel
theorem ck_211 : chkT (chkE 211) cd_211 = true := by decide +kernel
theorem ck_212 : chkT (chkE 212) cd_212 = true := by decide +kernel
theorem ck_213 : chkT (chkE 213) cd_213 = true := by decide +kernel
theorem ck_214 : chkT (chkE 214) cd_214 = true := by decide +kernel
theorem ck_215 : chkT (chkE 215) cd_215 = true := by decide +kernel
theorem ck_216 : chkT (chkE 216) cd_216 = true := by decide +kernel
theorem ck_217 : chkT (chkE 217) cd_217 = true := by decide +kernel
theorem ck_218 : chkT (chkE 218) cd_218 = true := by decide +kernel
theorem ck_219 : chkT (chkE 219) cd_219 = true := by decide +kernel
theorem ck_220 : chkT (chkE 220) cd_220 = true := by decide +kernel
theorem ck_221 : chkT (chkE 221) cd_221 = true := by decide +kernel
theorem ck_222 : chkT (chkE 222) cd_222 = true := by decide +kernel
theorem ck_223 : chkT (chkE 223) cd_223 = true := by decide +kernel
theorem ck_224 : chkT (chkE 224) cd_224 = true := by decide +kernel
theorem ck_225 : chkT (chkE 225) cd_225 = true := by decide +kernel
theorem ck_226 : chkT (chkE 226) cd_226 = true := by decide +kernel
theorem ck_227 : chkT (chkE 227) cd_227 = true := by decide +kernel
theorem ck_228 : chkT (chkE 228) cd_228 = true := by decide +kernel
theorem ck_229 : chkT (chkE 229) cd_229 = true := by decide +kernel
theorem ck_230 : chkT (chkE 230) cd_230 = true := by decide +kernel
theorem ck_231 : chkT (chkE 231) cd_231 = true := by decide +kernel
theorem ck_232 : chkT (chkE 232) cd_232 = true := by decide +kernel
theorem ck_233 : chkT (chkE 233) cd_233 = true := by decide +kernel
theorem ck_234 : chkT (chkE 234) cd_234 = true := by decide +kernel
theorem ck_235 : chkT (chkE 235) cd_235 = true := by decide +kernel
theorem ck_236_0 : chkTs (chkE 236) cd_236 0 4 = true := by decide +kernel
theorem ck_236_4 : chkTs (chkE 236) cd_236 4 4 = true := by decide +kernel
theorem ck_236_8 : chkTs (chkE 236) cd_236 8 4 = true := by decide +kernel
theorem ck_236_12 : chkTs (chkE 236) cd_236 12 2 = true := by decide +kernel
theorem ck_236 : chkT (chkE 236) cd_236 = true := chkT_of (by decide +kernel : cd_236.length = 14) (fun a ha => by
  by_cases h0 : a < 4
  · exact chkTs_at ck_236_0 a (by omega) (by omega)
  by_cases h4 : a < 8
  · exact chkTs_at ck_236_4 a (by omega) (by omega)
  by_cases h8 : a < 12
  · exact chkTs_at ck_236_8 a (by omega) (by omega)
  exact chkTs_at ck_236_12 a (by omega) (by omega))
theorem ck_237 : chkT (chkE 237) cd_237 = true := by decide +kernel
theorem ck_238 : chkT (chkE 238) cd_238 = true := by decide +kernel
theorem ck_239_0 : chkTs (chkE 239) cd_239 0 4 = true := by decide +kernel
theorem ck_239_4 : chkTs (chkE 239) cd_239 4 4 = true := by decide +kernel
theorem ck_239_8 : chkTs (chkE 239) cd_239 8 4 = true := by decide +kernel
theorem ck_239_12 : chkTs (chkE 239) cd_239 12 4 = true := by decide +kernel
theorem ck_239_16 : chkTs (chkE 239) cd_239 16 1 = true := by decide +kernel
theorem ck_239 : chkT (chkE 239) cd_239 = true := chkT_of (by decide +kernel : cd_239.length = 17) (fun a ha => by
  by_cases h0 : a < 4
  · exact chkTs_at ck_239_0 a (by omega) (by omega)
  by_cases h4 : a < 8
  · exact chkTs_at ck_239_4 a (by omega) (by omega)
  by_cases h8 : a < 12
  · exact chkTs_at ck_239_8 a (by omega) (by omega)
  by_cases h12 : a < 16
  · exact chkTs_at ck_239_12 a (by omega) (by omega)
  exact chkTs_at ck_239_16 a (by omega) (by omega))
theorem ck_240 : chkT (chkE 240) cd_240 = true := by decide +kernel
theorem ck_241 : chkT (chkE 241) cd_241 = true := by decide +kernel
theorem ck_242 : chkT (chkE 242) cd_242 = true := by decide +kernel
theorem ck_243 : chkT (chkE 243) cd_243 = true := by decide +kernel
theorem ck_244 : chkT (chkE 244) cd_244 = true := by decide +kernel
theorem ck_245 : chkT (chkE 245) cd_245 = true := by decide +kernel
theorem ck_246 : chkT (chkE 246) cd_246 = true := by decide +kernel
theorem ck_247 : chkT (chkE 247) cd_247 = true := by decide +kernel
theorem ck_248 : chkT (chkE 248) cd_248 = true := by decide +kernel
theorem ck_249 : chkT (chkE 249) cd_249 = true := by decide +kernel
theorem ck_250 : chkT (chkE 250) cd_250 = true := by decide +kernel
theorem ck_251 : chkT (chkE 251) cd_251 = true := by decide +kernel
theorem ck_252_0 : chkTs (chkE 252) cd_252 0 4 = true := by decide +kernel
theorem ck_252_4 : chkTs (chkE 252) cd_252 4 4 = true := by decide +kernel
theorem ck_252_8 : chkTs (chkE 252) cd_252 8 4 = true := by decide +kernel
theorem ck_252_12 : chkTs (chkE 252) cd_252 12 3 = true := by decide +kernel
theorem ck_252 : chkT (chkE 252) cd_252 = true := chkT_of (by decide +kernel : cd_252.length = 15) (fun a ha => by
  by_cases h0 : a < 4
  · exact chkTs_at ck_252_0 a (by omega) (by omega)
  by_cases h4 : a < 8
  · exact chkTs_at ck_252_4 a (by omega) (by omega)
  by_cases h8 : a < 12
  · exact chkTs_at ck_252_8 a (by omega) (by omega)
  exact chkTs_at ck_252_12 a (by omega) (by omega))
theorem ck_253 : chkT (chkE 253) cd_253 = true := by decide +kernel
theorem ck_254 : chkT (chkE 254) cd_254 = true := by decide +kernel
end
section
/-! The law. -/
theorem ck_255_0 : chkTs (chkE 255) cd_255 0 4 = true := by decide +kernel
theorem ck_255_4 : chkTs (chkE 255) cd_255 4 4 = true := by decide +kernel
theorem ck_255_8 : chkTs (chkE 255) cd_255 8 4 = true := by decide +kernel
theorem ck_255_12 : chkTs (chkE 255) cd_255 12 4 = true := by decide +kernel
theorem ck_255_16 : chkTs (chkE 255) cd_255 16 4 = true := by decide +kernel
theorem ck_255_20 : chkTs (chkE 255) cd_255 20 4 = true := by decide +kernel
theorem ck_255_24 : chkTs (chkE 255) cd_255 24 4 = true := by decide +kernel
theorem ck_255_28 : chkTs (chkE 255) cd_255 28 4 = true := by decide +kernel
theorem ck_255_32 : chkTs (chkE 255) cd_255 32 4 = true := by decide +kernel
theorem ck_255_36 : chkTs (chkE 255) cd_255 36 4 = true := by decide +kernel
theorem ck_255_40 : chkTs (chkE 255) cd_255 40 4 = true := by decide +kernel
theorem ck_255_44 : chkTs (chkE 255) cd_255 44 4 = true := by decide +kernel
theorem ck_255_48 : chkTs (chkE 255) cd_255 48 4 = true := by decide +kernel
theorem ck_255_52 : chkTs (chkE 255) cd_255 52 4 = true := by decide +kernel
theorem ck_255_56 : chkTs (chkE 255) cd_255 56 4 = true := by decide +kernel
theorem ck_255_60 : chkTs (chkE 255) cd_255 60 4 = true := by decide +kernel
theorem ck_255_64 : chkTs (chkE 255) cd_255 64 4 = true := by decide +kernel
theorem ck_255_68 : chkTs (chkE 255) cd_255 68 4 = true := by decide +kernel
theorem ck_255_72 : chkTs (chkE 255) cd_255 72 3 = true := by decide +kernel
theorem ck_255 : chkT (chkE 255) cd_255 = true := chkT_of (by decide +kernel : cd_255.length = 75) (fun a ha => by
  by_cases h0 : a < 4
  · exact chkTs_at ck_255_0 a (by omega) (by omega)
  by_cases h4 : a < 8
  · exact chkTs_at ck_255_4 a (by omega) (by omega)
  by_cases h8 : a < 12
  · exact chkTs_at ck_255_8 a (by omega) (by omega)
  by_cases h12 : a < 16
  · exact chkTs_at ck_255_12 a (by omega) (by omega)
  by_cases h16 : a < 20
  · exact chkTs_at ck_255_16 a (by omega) (by omega)
  by_cases h20 : a < 24
  · exact chkTs_at ck_255_20 a (by omega) (by omega)
  by_cases h24 : a < 28
  · exact chkTs_at ck_255_24 a (by omega) (by omega)
  by_cases h28 : a < 32
  · exact chkTs_at ck_255_28 a (by omega) (by omega)
  by_cases h32 : a < 36
  · exact chkTs_at ck_255_32 a (by omega) (by omega)
  by_cases h36 : a < 40
  · exact chkTs_at ck_255_36 a (by omega) (by omega)
  by_cases h40 : a < 44
  · exact chkTs_at ck_255_40 a (by omega) (by omega)
  by_cases h44 : a < 48
  · exact chkTs_at ck_255_44 a (by omega) (by omega)
  by_cases h48 : a < 52
  · exact chkTs_at ck_255_48 a (by omega) (by omega)
  by_cases h52 : a < 56
  · exact chkTs_at ck_255_52 a (by omega) (by omega)
  by_cases h56 : a < 60
  · exact chkTs_at ck_255_56 a (by omega) (by omega)
  by_cases h60 : a < 64
  · exact chkTs_at ck_255_60 a (by omega) (by omega)
  by_cases h64 : a < 68
  · exact chkTs_at ck_255_64 a (by omega) (by omega)
  by_cases h68 : a < 72
  · exact chkTs_at ck_255_68 a (by omega) (by omega)
  exact chkTs_at ck_255_72 a (by omega) (by omega))
end
section
/-! All methods. -/
theorem cds_out (M : Nat) (h : 256 ≤ M) : l2 cds M = none := by
  unfold l2
  by_cases h1 : 16 ≤ M / 16
  · rw [List.getElem?_eq_none (show cds.length ≤ M / 16 from h1)]
  · rw [show M / 16 = 15 by omega]
    show [cd_240, cd_241, cd_242, cd_243, cd_244, cd_245, cd_246, cd_247, cd_248, cd_249, cd_250, cd_251, cd_252, cd_253, cd_254, cd_255][M % 16]? = none
    exact List.getElem?_eq_none (show 16 ≤ M % 16 by omega)
theorem cdc_0 {M : Nat} (h1 : 0 ≤ M) (h2 : M < 16) {t : List (List EN)} (h : l2 cds M = some t) : chkT (chkE M) t = true := by
  rcases (show M = 0 ∨ M = 1 ∨ M = 2 ∨ M = 3 ∨ M = 4 ∨ M = 5 ∨ M = 6 ∨ M = 7 ∨ M = 8 ∨ M = 9 ∨ M = 10 ∨ M = 11 ∨ M = 12 ∨ M = 13 ∨ M = 14 ∨ M = 15 by omega) with rfl | rfl | rfl | rfl | rfl | rfl | rfl | rfl | rfl | rfl | rfl | rfl | rfl | rfl | rfl | rfl
  · cases h; exact rfl
  · cases h; exact ck_1
  · cases h; exact ck_2
  · cases h; exact ck_3
  · cases h; exact ck_4
  · cases h; exact ck_5
  · cases h; exact ck_6
  · cases h; exact ck_7
  · cases h; exact ck_8
  · cases h; exact ck_9
  · cases h; exact ck_10
  · cases h; exact ck_11
  · cases h; exact ck_12
  · cases h; exact ck_13
  · cases h; exact ck_14
  · cases h; exact ck_15
theorem cdc_1 {M : Nat} (h1 : 16 ≤ M) (h2 : M < 32) {t : List (List EN)} (h : l2 cds M = some t) : chkT (chkE M) t = true := by
  rcases (show M = 16 ∨ M = 17 ∨ M = 18 ∨ M = 19 ∨ M = 20 ∨ M = 21 ∨ M = 22 ∨ M = 23 ∨ M = 24 ∨ M = 25 ∨ M = 26 ∨ M = 27 ∨ M = 28 ∨ M = 29 ∨ M = 30 ∨ M = 31 by omega) with rfl | rfl | rfl | rfl | rfl | rfl | rfl | rfl | rfl | rfl | rfl | rfl | rfl | rfl | rfl | rfl
  · cases h; exact ck_16
  · cases h; exact ck_17
  · cases h; exact ck_18
  · cases h; exact ck_19
  · cases h; exact ck_20
  · cases h; exact ck_21
  · cases h; exact ck_22
  · cases h; exact ck_23
  · cases h; exact ck_24
  · cases h; exact ck_25
  · cases h; exact ck_26
  · cases h; exact ck_27
  · cases h; exact ck_28
  · cases h; exact ck_29
  · cases h; exact ck_30
  · cases h; exact ck_31
theorem cdc_2 {M : Nat} (h1 : 32 ≤ M) (h2 : M < 48) {t : List (List EN)} (h : l2 cds M = some t) : chkT (chkE M) t = true := by
  rcases (show M = 32 ∨ M = 33 ∨ M = 34 ∨ M = 35 ∨ M = 36 ∨ M = 37 ∨ M = 38 ∨ M = 39 ∨ M = 40 ∨ M = 41 ∨ M = 42 ∨ M = 43 ∨ M = 44 ∨ M = 45 ∨ M = 46 ∨ M = 47 by omega) with rfl | rfl | rfl | rfl | rfl | rfl | rfl | rfl | rfl | rfl | rfl | rfl | rfl | rfl | rfl | rfl
  · cases h; exact ck_32
  · cases h; exact ck_33
  · cases h; exact ck_34
  · cases h; exact ck_35
  · cases h; exact ck_36
  · cases h; exact ck_37
  · cases h; exact ck_38
  · cases h; exact ck_39
  · cases h; exact ck_40
  · cases h; exact ck_41
  · cases h; exact ck_42
  · cases h; exact ck_43
  · cases h; exact ck_44
  · cases h; exact ck_45
  · cases h; exact ck_46
  · cases h; exact ck_47
theorem cdc_3 {M : Nat} (h1 : 48 ≤ M) (h2 : M < 64) {t : List (List EN)} (h : l2 cds M = some t) : chkT (chkE M) t = true := by
  rcases (show M = 48 ∨ M = 49 ∨ M = 50 ∨ M = 51 ∨ M = 52 ∨ M = 53 ∨ M = 54 ∨ M = 55 ∨ M = 56 ∨ M = 57 ∨ M = 58 ∨ M = 59 ∨ M = 60 ∨ M = 61 ∨ M = 62 ∨ M = 63 by omega) with rfl | rfl | rfl | rfl | rfl | rfl | rfl | rfl | rfl | rfl | rfl | rfl | rfl | rfl | rfl | rfl
  · cases h; exact ck_48
  · cases h; exact ck_49
  · cases h; exact ck_50
  · cases h; exact ck_51
  · cases h; exact ck_52
  · cases h; exact ck_53
  · cases h; exact ck_54
  · cases h; exact ck_55
  · cases h; exact ck_56
  · cases h; exact ck_57
  · cases h; exact ck_58
  · cases h; exact ck_59
  · cases h; exact ck_60
  · cases h; exact ck_61
  · cases h; exact ck_62
  · cases h; exact ck_63
theorem cdc_4 {M : Nat} (h1 : 64 ≤ M) (h2 : M < 80) {t : List (List EN)} (h : l2 cds M = some t) : chkT (chkE M) t = true := by
  rcases (show M = 64 ∨ M = 65 ∨ M = 66 ∨ M = 67 ∨ M = 68 ∨ M = 69 ∨ M = 70 ∨ M = 71 ∨ M = 72 ∨ M = 73 ∨ M = 74 ∨ M = 75 ∨ M = 76 ∨ M = 77 ∨ M = 78 ∨ M = 79 by omega) with rfl | rfl | rfl | rfl | rfl | rfl | rfl | rfl | rfl | rfl | rfl | rfl | rfl | rfl | rfl | rfl
  · cases h; exact ck_64
  · cases h; exact ck_65
  · cases h; exact ck_66
  · cases h; exact ck_67
  · cases h; exact ck_68
  · cases h; exact ck_69
  · cases h; exact ck_70
  · cases h; exact ck_71
  · cases h; exact ck_72
  · cases h; exact ck_73
  · cases h; exact ck_74
  · cases h; exact ck_75
  · cases h; exact ck_76
  · cases h; exact ck_77
  · cases h; exact ck_78
  · cases h; exact ck_79
theorem cdc_5 {M : Nat} (h1 : 80 ≤ M) (h2 : M < 96) {t : List (List EN)} (h : l2 cds M = some t) : chkT (chkE M) t = true := by
  rcases (show M = 80 ∨ M = 81 ∨ M = 82 ∨ M = 83 ∨ M = 84 ∨ M = 85 ∨ M = 86 ∨ M = 87 ∨ M = 88 ∨ M = 89 ∨ M = 90 ∨ M = 91 ∨ M = 92 ∨ M = 93 ∨ M = 94 ∨ M = 95 by omega) with rfl | rfl | rfl | rfl | rfl | rfl | rfl | rfl | rfl | rfl | rfl | rfl | rfl | rfl | rfl | rfl
  · cases h; exact ck_80
  · cases h; exact ck_81
  · cases h; exact ck_82
  · cases h; exact ck_83
  · cases h; exact ck_84
  · cases h; exact ck_85
  · cases h; exact ck_86
  · cases h; exact ck_87
  · cases h; exact ck_88
  · cases h; exact ck_89
  · cases h; exact ck_90
  · cases h; exact ck_91
  · cases h; exact ck_92
  · cases h; exact ck_93
  · cases h; exact ck_94
  · cases h; exact ck_95
theorem cdc_6 {M : Nat} (h1 : 96 ≤ M) (h2 : M < 112) {t : List (List EN)} (h : l2 cds M = some t) : chkT (chkE M) t = true := by
  rcases (show M = 96 ∨ M = 97 ∨ M = 98 ∨ M = 99 ∨ M = 100 ∨ M = 101 ∨ M = 102 ∨ M = 103 ∨ M = 104 ∨ M = 105 ∨ M = 106 ∨ M = 107 ∨ M = 108 ∨ M = 109 ∨ M = 110 ∨ M = 111 by omega) with rfl | rfl | rfl | rfl | rfl | rfl | rfl | rfl | rfl | rfl | rfl | rfl | rfl | rfl | rfl | rfl
  · cases h; exact ck_96
  · cases h; exact ck_97
  · cases h; exact ck_98
  · cases h; exact ck_99
  · cases h; exact ck_100
  · cases h; exact ck_101
  · cases h; exact ck_102
  · cases h; exact ck_103
  · cases h; exact ck_104
  · cases h; exact ck_105
  · cases h; exact ck_106
  · cases h; exact ck_107
  · cases h; exact ck_108
  · cases h; exact ck_109
  · cases h; exact ck_110
  · cases h; exact ck_111
theorem cdc_7 {M : Nat} (h1 : 112 ≤ M) (h2 : M < 128) {t : List (List EN)} (h : l2 cds M = some t) : chkT (chkE M) t = true := by
  rcases (show M = 112 ∨ M = 113 ∨ M = 114 ∨ M = 115 ∨ M = 116 ∨ M = 117 ∨ M = 118 ∨ M = 119 ∨ M = 120 ∨ M = 121 ∨ M = 122 ∨ M = 123 ∨ M = 124 ∨ M = 125 ∨ M = 126 ∨ M = 127 by omega) with rfl | rfl | rfl | rfl | rfl | rfl | rfl | rfl | rfl | rfl | rfl | rfl | rfl | rfl | rfl | rfl
  · cases h; exact ck_112
  · cases h; exact ck_113
  · cases h; exact ck_114
  · cases h; exact ck_115
  · cases h; exact ck_116
  · cases h; exact ck_117
  · cases h; exact ck_118
  · cases h; exact ck_119
  · cases h; exact ck_120
  · cases h; exact ck_121
  · cases h; exact ck_122
  · cases h; exact ck_123
  · cases h; exact ck_124
  · cases h; exact ck_125
  · cases h; exact ck_126
  · cases h; exact ck_127
theorem cdc_8 {M : Nat} (h1 : 128 ≤ M) (h2 : M < 144) {t : List (List EN)} (h : l2 cds M = some t) : chkT (chkE M) t = true := by
  rcases (show M = 128 ∨ M = 129 ∨ M = 130 ∨ M = 131 ∨ M = 132 ∨ M = 133 ∨ M = 134 ∨ M = 135 ∨ M = 136 ∨ M = 137 ∨ M = 138 ∨ M = 139 ∨ M = 140 ∨ M = 141 ∨ M = 142 ∨ M = 143 by omega) with rfl | rfl | rfl | rfl | rfl | rfl | rfl | rfl | rfl | rfl | rfl | rfl | rfl | rfl | rfl | rfl
  · cases h; exact ck_128
  · cases h; exact ck_129
  · cases h; exact ck_130
  · cases h; exact ck_131
  · cases h; exact ck_132
  · cases h; exact ck_133
  · cases h; exact ck_134
  · cases h; exact ck_135
  · cases h; exact ck_136
  · cases h; exact ck_137
  · cases h; exact ck_138
  · cases h; exact ck_139
  · cases h; exact ck_140
  · cases h; exact ck_141
  · cases h; exact ck_142
  · cases h; exact ck_143
theorem cdc_9 {M : Nat} (h1 : 144 ≤ M) (h2 : M < 160) {t : List (List EN)} (h : l2 cds M = some t) : chkT (chkE M) t = true := by
  rcases (show M = 144 ∨ M = 145 ∨ M = 146 ∨ M = 147 ∨ M = 148 ∨ M = 149 ∨ M = 150 ∨ M = 151 ∨ M = 152 ∨ M = 153 ∨ M = 154 ∨ M = 155 ∨ M = 156 ∨ M = 157 ∨ M = 158 ∨ M = 159 by omega) with rfl | rfl | rfl | rfl | rfl | rfl | rfl | rfl | rfl | rfl | rfl | rfl | rfl | rfl | rfl | rfl
  · cases h; exact ck_144
  · cases h; exact ck_145
  · cases h; exact ck_146
  · cases h; exact ck_147
  · cases h; exact ck_148
  · cases h; exact ck_149
  · cases h; exact ck_150
  · cases h; exact ck_151
  · cases h; exact ck_152
  · cases h; exact ck_153
  · cases h; exact ck_154
  · cases h; exact ck_155
  · cases h; exact ck_156
  · cases h; exact ck_157
  · cases h; exact ck_158
  · cases h; exact ck_159
theorem cdc_10 {M : Nat} (h1 : 160 ≤ M) (h2 : M < 176) {t : List (List EN)} (h : l2 cds M = some t) : chkT (chkE M) t = true := by
  rcases (show M = 160 ∨ M = 161 ∨ M = 162 ∨ M = 163 ∨ M = 164 ∨ M = 165 ∨ M = 166 ∨ M = 167 ∨ M = 168 ∨ M = 169 ∨ M = 170 ∨ M = 171 ∨ M = 172 ∨ M = 173 ∨ M = 174 ∨ M = 175 by omega) with rfl | rfl | rfl | rfl | rfl | rfl | rfl | rfl | rfl | rfl | rfl | rfl | rfl | rfl | rfl | rfl
  · cases h; exact ck_160
  · cases h; exact ck_161
  · cases h; exact ck_162
  · cases h; exact ck_163
  · cases h; exact ck_164
  · cases h; exact ck_165
  · cases h; exact ck_166
  · cases h; exact ck_167
  · cases h; exact ck_168
  · cases h; exact ck_169
  · cases h; exact ck_170
  · cases h; exact ck_171
  · cases h; exact ck_172
  · cases h; exact ck_173
  · cases h; exact ck_174
  · cases h; exact ck_175
theorem cdc_11 {M : Nat} (h1 : 176 ≤ M) (h2 : M < 192) {t : List (List EN)} (h : l2 cds M = some t) : chkT (chkE M) t = true := by
  rcases (show M = 176 ∨ M = 177 ∨ M = 178 ∨ M = 179 ∨ M = 180 ∨ M = 181 ∨ M = 182 ∨ M = 183 ∨ M = 184 ∨ M = 185 ∨ M = 186 ∨ M = 187 ∨ M = 188 ∨ M = 189 ∨ M = 190 ∨ M = 191 by omega) with rfl | rfl | rfl | rfl | rfl | rfl | rfl | rfl | rfl | rfl | rfl | rfl | rfl | rfl | rfl | rfl
  · cases h; exact ck_176
  · cases h; exact ck_177
  · cases h; exact ck_178
  · cases h; exact ck_179
  · cases h; exact ck_180
  · cases h; exact ck_181
  · cases h; exact ck_182
  · cases h; exact ck_183
  · cases h; exact ck_184
  · cases h; exact ck_185
  · cases h; exact ck_186
  · cases h; exact ck_187
  · cases h; exact ck_188
  · cases h; exact ck_189
  · cases h; exact ck_190
  · cases h; exact ck_191
theorem cdc_12 {M : Nat} (h1 : 192 ≤ M) (h2 : M < 208) {t : List (List EN)} (h : l2 cds M = some t) : chkT (chkE M) t = true := by
  rcases (show M = 192 ∨ M = 193 ∨ M = 194 ∨ M = 195 ∨ M = 196 ∨ M = 197 ∨ M = 198 ∨ M = 199 ∨ M = 200 ∨ M = 201 ∨ M = 202 ∨ M = 203 ∨ M = 204 ∨ M = 205 ∨ M = 206 ∨ M = 207 by omega) with rfl | rfl | rfl | rfl | rfl | rfl | rfl | rfl | rfl | rfl | rfl | rfl | rfl | rfl | rfl | rfl
  · cases h; exact ck_192
  · cases h; exact ck_193
  · cases h; exact ck_194
  · cases h; exact ck_195
  · cases h; exact ck_196
  · cases h; exact ck_197
  · cases h; exact ck_198
  · cases h; exact ck_199
  · cases h; exact ck_200
  · cases h; exact ck_201
  · cases h; exact ck_202
  · cases h; exact ck_203
  · cases h; exact ck_204
  · cases h; exact ck_205
  · cases h; exact ck_206
  · cases h; exact ck_207
theorem cdc_13 {M : Nat} (h1 : 208 ≤ M) (h2 : M < 224) {t : List (List EN)} (h : l2 cds M = some t) : chkT (chkE M) t = true := by
  rcases (show M = 208 ∨ M = 209 ∨ M = 210 ∨ M = 211 ∨ M = 212 ∨ M = 213 ∨ M = 214 ∨ M = 215 ∨ M = 216 ∨ M = 217 ∨ M = 218 ∨ M = 219 ∨ M = 220 ∨ M = 221 ∨ M = 222 ∨ M = 223 by omega) with rfl | rfl | rfl | rfl | rfl | rfl | rfl | rfl | rfl | rfl | rfl | rfl | rfl | rfl | rfl | rfl
  · cases h; exact ck_208
  · cases h; exact ck_209
  · cases h; exact ck_210
  · cases h; exact ck_211
  · cases h; exact ck_212
  · cases h; exact ck_213
  · cases h; exact ck_214
  · cases h; exact ck_215
  · cases h; exact ck_216
  · cases h; exact ck_217
  · cases h; exact ck_218
  · cases h; exact ck_219
  · cases h; exact ck_220
  · cases h; exact ck_221
  · cases h; exact ck_222
  · cases h; exact ck_223
theorem cdc_14 {M : Nat} (h1 : 224 ≤ M) (h2 : M < 240) {t : List (List EN)} (h : l2 cds M = some t) : chkT (chkE M) t = true := by
  rcases (show M = 224 ∨ M = 225 ∨ M = 226 ∨ M = 227 ∨ M = 228 ∨ M = 229 ∨ M = 230 ∨ M = 231 ∨ M = 232 ∨ M = 233 ∨ M = 234 ∨ M = 235 ∨ M = 236 ∨ M = 237 ∨ M = 238 ∨ M = 239 by omega) with rfl | rfl | rfl | rfl | rfl | rfl | rfl | rfl | rfl | rfl | rfl | rfl | rfl | rfl | rfl | rfl
  · cases h; exact ck_224
  · cases h; exact ck_225
  · cases h; exact ck_226
  · cases h; exact ck_227
  · cases h; exact ck_228
  · cases h; exact ck_229
  · cases h; exact ck_230
  · cases h; exact ck_231
  · cases h; exact ck_232
  · cases h; exact ck_233
  · cases h; exact ck_234
  · cases h; exact ck_235
  · cases h; exact ck_236
  · cases h; exact ck_237
  · cases h; exact ck_238
  · cases h; exact ck_239
theorem cdc_15 {M : Nat} (h1 : 240 ≤ M) (h2 : M < 256) {t : List (List EN)} (h : l2 cds M = some t) : chkT (chkE M) t = true := by
  rcases (show M = 240 ∨ M = 241 ∨ M = 242 ∨ M = 243 ∨ M = 244 ∨ M = 245 ∨ M = 246 ∨ M = 247 ∨ M = 248 ∨ M = 249 ∨ M = 250 ∨ M = 251 ∨ M = 252 ∨ M = 253 ∨ M = 254 ∨ M = 255 by omega) with rfl | rfl | rfl | rfl | rfl | rfl | rfl | rfl | rfl | rfl | rfl | rfl | rfl | rfl | rfl | rfl
  · cases h; exact ck_240
  · cases h; exact ck_241
  · cases h; exact ck_242
  · cases h; exact ck_243
  · cases h; exact ck_244
  · cases h; exact ck_245
  · cases h; exact ck_246
  · cases h; exact ck_247
  · cases h; exact ck_248
  · cases h; exact ck_249
  · cases h; exact ck_250
  · cases h; exact ck_251
  · cases h; exact ck_252
  · cases h; exact ck_253
  · cases h; exact ck_254
  · cases h; exact ck_255
theorem cds_at {M : Nat} {t : List (List EN)} (h : l2 cds M = some t) : chkT (chkE M) t = true := by
  rcases Nat.lt_or_ge M 256 with hM | hM
  · by_cases h0 : M < 16
    · exact cdc_0 (by omega) (by omega) h
    by_cases h1 : M < 32
    · exact cdc_1 (by omega) (by omega) h
    by_cases h2 : M < 48
    · exact cdc_2 (by omega) (by omega) h
    by_cases h3 : M < 64
    · exact cdc_3 (by omega) (by omega) h
    by_cases h4 : M < 80
    · exact cdc_4 (by omega) (by omega) h
    by_cases h5 : M < 96
    · exact cdc_5 (by omega) (by omega) h
    by_cases h6 : M < 112
    · exact cdc_6 (by omega) (by omega) h
    by_cases h7 : M < 128
    · exact cdc_7 (by omega) (by omega) h
    by_cases h8 : M < 144
    · exact cdc_8 (by omega) (by omega) h
    by_cases h9 : M < 160
    · exact cdc_9 (by omega) (by omega) h
    by_cases h10 : M < 176
    · exact cdc_10 (by omega) (by omega) h
    by_cases h11 : M < 192
    · exact cdc_11 (by omega) (by omega) h
    by_cases h12 : M < 208
    · exact cdc_12 (by omega) (by omega) h
    by_cases h13 : M < 224
    · exact cdc_13 (by omega) (by omega) h
    by_cases h14 : M < 240
    · exact cdc_14 (by omega) (by omega) h
    exact cdc_15 (by omega) (by omega) h
  · rw [cds_out M hM] at h; cases h
end
