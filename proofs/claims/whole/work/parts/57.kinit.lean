/-! the small constructors -/
theorem dk_Ba_0 : decode prog_2_method_1_code 0 = .ok (.aload_n 0, 1) := by decide +kernel
theorem dk_Ba_1 : decode prog_2_method_1_code 1 = .ok (.invokespecial 3, 3) := by decide +kernel
theorem dk_Ba_4 : decode prog_2_method_1_code 4 = .ok (.aload_n 0, 1) := by decide +kernel
theorem dk_Ba_5 : decode prog_2_method_1_code 5 = .ok (.bipush 63, 2) := by decide +kernel
theorem dk_Ba_7 : decode prog_2_method_1_code 7 = .ok (.newarray .int, 2) := by decide +kernel
theorem dk_Ba_9 : decode prog_2_method_1_code 9 = .ok (.putfield 9, 3) := by decide +kernel
theorem dk_Ba_12 : decode prog_2_method_1_code 12 = .ok (.aload_n 0, 1) := by decide +kernel
theorem dk_Ba_13 : decode prog_2_method_1_code 13 = .ok (.bipush 36, 2) := by decide +kernel
theorem dk_Ba_15 : decode prog_2_method_1_code 15 = .ok (.newarray .int, 2) := by decide +kernel
theorem dk_Ba_17 : decode prog_2_method_1_code 17 = .ok (.putfield 15, 3) := by decide +kernel
theorem dk_Ba_20 : decode prog_2_method_1_code 20 = .ok (.aload_n 0, 1) := by decide +kernel
theorem dk_Ba_21 : decode prog_2_method_1_code 21 = .ok (.bipush 63, 2) := by decide +kernel
theorem dk_Ba_23 : decode prog_2_method_1_code 23 = .ok (.newarray .int, 2) := by decide +kernel
theorem dk_Ba_25 : decode prog_2_method_1_code 25 = .ok (.putfield 18, 3) := by decide +kernel
theorem dk_Ba_28 : decode prog_2_method_1_code 28 = .ok (.return_, 1) := by decide +kernel
theorem dk_Pi_0 : decode prog_3_method_1_code 0 = .ok (.aload_n 0, 1) := by decide +kernel
theorem dk_Pi_1 : decode prog_3_method_1_code 1 = .ok (.invokespecial 3, 3) := by decide +kernel
theorem dk_Pi_4 : decode prog_3_method_1_code 4 = .ok (.aload_n 0, 1) := by decide +kernel
theorem dk_Pi_5 : decode prog_3_method_1_code 5 = .ok (.bipush 54, 2) := by decide +kernel
theorem dk_Pi_7 : decode prog_3_method_1_code 7 = .ok (.newarray .int, 2) := by decide +kernel
theorem dk_Pi_9 : decode prog_3_method_1_code 9 = .ok (.putfield 9, 3) := by decide +kernel
theorem dk_Pi_12 : decode prog_3_method_1_code 12 = .ok (.aload_n 0, 1) := by decide +kernel
theorem dk_Pi_13 : decode prog_3_method_1_code 13 = .ok (.bipush 63, 2) := by decide +kernel
theorem dk_Pi_15 : decode prog_3_method_1_code 15 = .ok (.newarray .int, 2) := by decide +kernel
theorem dk_Pi_17 : decode prog_3_method_1_code 17 = .ok (.putfield 15, 3) := by decide +kernel
theorem dk_Pi_20 : decode prog_3_method_1_code 20 = .ok (.aload_n 0, 1) := by decide +kernel
theorem dk_Pi_21 : decode prog_3_method_1_code 21 = .ok (.iconst 3, 1) := by decide +kernel
theorem dk_Pi_22 : decode prog_3_method_1_code 22 = .ok (.putfield 18, 3) := by decide +kernel
theorem dk_Pi_25 : decode prog_3_method_1_code 25 = .ok (.aload_n 0, 1) := by decide +kernel
theorem dk_Pi_26 : decode prog_3_method_1_code 26 = .ok (.iconst 0, 1) := by decide +kernel
theorem dk_Pi_27 : decode prog_3_method_1_code 27 = .ok (.putfield 22, 3) := by decide +kernel
theorem dk_Pi_30 : decode prog_3_method_1_code 30 = .ok (.aload_n 0, 1) := by decide +kernel
theorem dk_Pi_31 : decode prog_3_method_1_code 31 = .ok (.iconst 0, 1) := by decide +kernel
theorem dk_Pi_32 : decode prog_3_method_1_code 32 = .ok (.putfield 25, 3) := by decide +kernel
theorem dk_Pi_35 : decode prog_3_method_1_code 35 = .ok (.return_, 1) := by decide +kernel
theorem dk_Si_0 : decode prog_4_method_1_code 0 = .ok (.aload_n 0, 1) := by decide +kernel
theorem dk_Si_1 : decode prog_4_method_1_code 1 = .ok (.invokespecial 3, 3) := by decide +kernel
theorem dk_Si_4 : decode prog_4_method_1_code 4 = .ok (.aload_n 0, 1) := by decide +kernel
theorem dk_Si_5 : decode prog_4_method_1_code 5 = .ok (.bipush 6, 2) := by decide +kernel
theorem dk_Si_7 : decode prog_4_method_1_code 7 = .ok (.newarray .int, 2) := by decide +kernel
theorem dk_Si_9 : decode prog_4_method_1_code 9 = .ok (.putfield 9, 3) := by decide +kernel
theorem dk_Si_12 : decode prog_4_method_1_code 12 = .ok (.aload_n 0, 1) := by decide +kernel
theorem dk_Si_13 : decode prog_4_method_1_code 13 = .ok (.bipush 6, 2) := by decide +kernel
theorem dk_Si_15 : decode prog_4_method_1_code 15 = .ok (.newarray .int, 2) := by decide +kernel
theorem dk_Si_17 : decode prog_4_method_1_code 17 = .ok (.putfield 15, 3) := by decide +kernel
theorem dk_Si_20 : decode prog_4_method_1_code 20 = .ok (.aload_n 0, 1) := by decide +kernel
theorem dk_Si_21 : decode prog_4_method_1_code 21 = .ok (.bipush 6, 2) := by decide +kernel
theorem dk_Si_23 : decode prog_4_method_1_code 23 = .ok (.newarray .int, 2) := by decide +kernel
theorem dk_Si_25 : decode prog_4_method_1_code 25 = .ok (.putfield 18, 3) := by decide +kernel
theorem dk_Si_28 : decode prog_4_method_1_code 28 = .ok (.aload_n 0, 1) := by decide +kernel
theorem dk_Si_29 : decode prog_4_method_1_code 29 = .ok (.iconst 0, 1) := by decide +kernel
theorem dk_Si_30 : decode prog_4_method_1_code 30 = .ok (.putfield 21, 3) := by decide +kernel
theorem dk_Si_33 : decode prog_4_method_1_code 33 = .ok (.return_, 1) := by decide +kernel
theorem dk_Te_0 : decode prog_5_method_1_code 0 = .ok (.aload_n 0, 1) := by decide +kernel
theorem dk_Te_1 : decode prog_5_method_1_code 1 = .ok (.invokespecial 3, 3) := by decide +kernel
theorem dk_Te_4 : decode prog_5_method_1_code 4 = .ok (.aload_n 0, 1) := by decide +kernel
theorem dk_Te_5 : decode prog_5_method_1_code 5 = .ok (.bipush 120, 2) := by decide +kernel
theorem dk_Te_7 : decode prog_5_method_1_code 7 = .ok (.newarray .int, 2) := by decide +kernel
theorem dk_Te_9 : decode prog_5_method_1_code 9 = .ok (.putfield 9, 3) := by decide +kernel
theorem dk_Te_12 : decode prog_5_method_1_code 12 = .ok (.aload_n 0, 1) := by decide +kernel
theorem dk_Te_13 : decode prog_5_method_1_code 13 = .ok (.new 15, 3) := by decide +kernel
theorem dk_Te_16 : decode prog_5_method_1_code 16 = .ok (.dup, 1) := by decide +kernel
theorem dk_Te_17 : decode prog_5_method_1_code 17 = .ok (.invokespecial 17, 3) := by decide +kernel
theorem dk_Te_20 : decode prog_5_method_1_code 20 = .ok (.putfield 18, 3) := by decide +kernel
theorem dk_Te_23 : decode prog_5_method_1_code 23 = .ok (.aload_n 0, 1) := by decide +kernel
theorem dk_Te_24 : decode prog_5_method_1_code 24 = .ok (.iconst 0, 1) := by decide +kernel
theorem dk_Te_25 : decode prog_5_method_1_code 25 = .ok (.putfield 22, 3) := by decide +kernel
theorem dk_Te_28 : decode prog_5_method_1_code 28 = .ok (.aload_n 0, 1) := by decide +kernel
theorem dk_Te_29 : decode prog_5_method_1_code 29 = .ok (.iconst 0, 1) := by decide +kernel
theorem dk_Te_30 : decode prog_5_method_1_code 30 = .ok (.putfield 26, 3) := by decide +kernel
theorem dk_Te_33 : decode prog_5_method_1_code 33 = .ok (.aload_n 0, 1) := by decide +kernel
theorem dk_Te_34 : decode prog_5_method_1_code 34 = .ok (.iconst (-1), 1) := by decide +kernel
theorem dk_Te_35 : decode prog_5_method_1_code 35 = .ok (.putfield 29, 3) := by decide +kernel
theorem dk_Te_38 : decode prog_5_method_1_code 38 = .ok (.aload_n 0, 1) := by decide +kernel
theorem dk_Te_39 : decode prog_5_method_1_code 39 = .ok (.iconst 0, 1) := by decide +kernel
theorem dk_Te_40 : decode prog_5_method_1_code 40 = .ok (.putfield 32, 3) := by decide +kernel
theorem dk_Te_43 : decode prog_5_method_1_code 43 = .ok (.aload_n 0, 1) := by decide +kernel
theorem dk_Te_44 : decode prog_5_method_1_code 44 = .ok (.iconst 0, 1) := by decide +kernel
theorem dk_Te_45 : decode prog_5_method_1_code 45 = .ok (.putfield 35, 3) := by decide +kernel
theorem dk_Te_48 : decode prog_5_method_1_code 48 = .ok (.return_, 1) := by decide +kernel
theorem dk_Tr_0 : decode prog_6_method_1_code 0 = .ok (.aload_n 0, 1) := by decide +kernel
theorem dk_Tr_1 : decode prog_6_method_1_code 1 = .ok (.invokespecial 3, 3) := by decide +kernel
theorem dk_Tr_4 : decode prog_6_method_1_code 4 = .ok (.aload_n 0, 1) := by decide +kernel
theorem dk_Tr_5 : decode prog_6_method_1_code 5 = .ok (.bipush 63, 2) := by decide +kernel
theorem dk_Tr_7 : decode prog_6_method_1_code 7 = .ok (.newarray .int, 2) := by decide +kernel
theorem dk_Tr_9 : decode prog_6_method_1_code 9 = .ok (.putfield 9, 3) := by decide +kernel
theorem dk_Tr_12 : decode prog_6_method_1_code 12 = .ok (.aload_n 0, 1) := by decide +kernel
theorem dk_Tr_13 : decode prog_6_method_1_code 13 = .ok (.bipush 63, 2) := by decide +kernel
theorem dk_Tr_15 : decode prog_6_method_1_code 15 = .ok (.newarray .int, 2) := by decide +kernel
theorem dk_Tr_17 : decode prog_6_method_1_code 17 = .ok (.putfield 15, 3) := by decide +kernel
theorem dk_Tr_20 : decode prog_6_method_1_code 20 = .ok (.aload_n 0, 1) := by decide +kernel
theorem dk_Tr_21 : decode prog_6_method_1_code 21 = .ok (.bipush 63, 2) := by decide +kernel
theorem dk_Tr_23 : decode prog_6_method_1_code 23 = .ok (.newarray .int, 2) := by decide +kernel
theorem dk_Tr_25 : decode prog_6_method_1_code 25 = .ok (.putfield 18, 3) := by decide +kernel
theorem dk_Tr_28 : decode prog_6_method_1_code 28 = .ok (.aload_n 0, 1) := by decide +kernel
theorem dk_Tr_29 : decode prog_6_method_1_code 29 = .ok (.iconst 0, 1) := by decide +kernel
theorem dk_Tr_30 : decode prog_6_method_1_code 30 = .ok (.putfield 21, 3) := by decide +kernel
theorem dk_Tr_33 : decode prog_6_method_1_code 33 = .ok (.return_, 1) := by decide +kernel
theorem dk_De_0 : decode prog_1_method_1_code 0 = .ok (.aload_n 0, 1) := by decide +kernel
theorem dk_De_1 : decode prog_1_method_1_code 1 = .ok (.invokespecial 1, 3) := by decide +kernel
theorem dk_De_4 : decode prog_1_method_1_code 4 = .ok (.aload_n 0, 1) := by decide +kernel
theorem dk_De_5 : decode prog_1_method_1_code 5 = .ok (.new 7, 3) := by decide +kernel
theorem dk_De_8 : decode prog_1_method_1_code 8 = .ok (.dup, 1) := by decide +kernel
theorem dk_De_9 : decode prog_1_method_1_code 9 = .ok (.invokespecial 9, 3) := by decide +kernel
theorem dk_De_12 : decode prog_1_method_1_code 12 = .ok (.putfield 10, 3) := by decide +kernel
theorem dk_De_15 : decode prog_1_method_1_code 15 = .ok (.aload_n 0, 1) := by decide +kernel
theorem dk_De_16 : decode prog_1_method_1_code 16 = .ok (.new 16, 3) := by decide +kernel
theorem dk_De_19 : decode prog_1_method_1_code 19 = .ok (.dup, 1) := by decide +kernel
theorem dk_De_20 : decode prog_1_method_1_code 20 = .ok (.invokespecial 18, 3) := by decide +kernel
theorem dk_De_23 : decode prog_1_method_1_code 23 = .ok (.putfield 19, 3) := by decide +kernel
theorem dk_De_26 : decode prog_1_method_1_code 26 = .ok (.aload_n 0, 1) := by decide +kernel
theorem dk_De_27 : decode prog_1_method_1_code 27 = .ok (.new 23, 3) := by decide +kernel
theorem dk_De_30 : decode prog_1_method_1_code 30 = .ok (.dup, 1) := by decide +kernel
theorem dk_De_31 : decode prog_1_method_1_code 31 = .ok (.invokespecial 25, 3) := by decide +kernel
theorem dk_De_34 : decode prog_1_method_1_code 34 = .ok (.putfield 26, 3) := by decide +kernel
theorem dk_De_37 : decode prog_1_method_1_code 37 = .ok (.aload_n 0, 1) := by decide +kernel
theorem dk_De_38 : decode prog_1_method_1_code 38 = .ok (.new 30, 3) := by decide +kernel
theorem dk_De_41 : decode prog_1_method_1_code 41 = .ok (.dup, 1) := by decide +kernel
theorem dk_De_42 : decode prog_1_method_1_code 42 = .ok (.invokespecial 32, 3) := by decide +kernel
theorem dk_De_45 : decode prog_1_method_1_code 45 = .ok (.putfield 33, 3) := by decide +kernel
theorem dk_De_48 : decode prog_1_method_1_code 48 = .ok (.aload_n 0, 1) := by decide +kernel
theorem dk_De_49 : decode prog_1_method_1_code 49 = .ok (.new 30, 3) := by decide +kernel
theorem dk_De_52 : decode prog_1_method_1_code 52 = .ok (.dup, 1) := by decide +kernel
theorem dk_De_53 : decode prog_1_method_1_code 53 = .ok (.invokespecial 32, 3) := by decide +kernel
theorem dk_De_56 : decode prog_1_method_1_code 56 = .ok (.putfield 37, 3) := by decide +kernel
theorem dk_De_59 : decode prog_1_method_1_code 59 = .ok (.aload_n 0, 1) := by decide +kernel
theorem dk_De_60 : decode prog_1_method_1_code 60 = .ok (.new 30, 3) := by decide +kernel
theorem dk_De_63 : decode prog_1_method_1_code 63 = .ok (.dup, 1) := by decide +kernel
theorem dk_De_64 : decode prog_1_method_1_code 64 = .ok (.invokespecial 32, 3) := by decide +kernel
theorem dk_De_67 : decode prog_1_method_1_code 67 = .ok (.putfield 40, 3) := by decide +kernel
theorem dk_De_70 : decode prog_1_method_1_code 70 = .ok (.aload_n 0, 1) := by decide +kernel
theorem dk_De_71 : decode prog_1_method_1_code 71 = .ok (.bipush 10, 2) := by decide +kernel
theorem dk_De_73 : decode prog_1_method_1_code 73 = .ok (.anewarray 16, 3) := by decide +kernel
theorem dk_De_76 : decode prog_1_method_1_code 76 = .ok (.putfield 43, 3) := by decide +kernel
theorem dk_De_79 : decode prog_1_method_1_code 79 = .ok (.aload_n 0, 1) := by decide +kernel
theorem dk_De_80 : decode prog_1_method_1_code 80 = .ok (.iconst 0, 1) := by decide +kernel
theorem dk_De_81 : decode prog_1_method_1_code 81 = .ok (.putfield 47, 3) := by decide +kernel
theorem dk_De_84 : decode prog_1_method_1_code 84 = .ok (.aload_n 0, 1) := by decide +kernel
theorem dk_De_85 : decode prog_1_method_1_code 85 = .ok (.iconst 2, 1) := by decide +kernel
theorem dk_De_86 : decode prog_1_method_1_code 86 = .ok (.anewarray 16, 3) := by decide +kernel
theorem dk_De_89 : decode prog_1_method_1_code 89 = .ok (.putfield 51, 3) := by decide +kernel
theorem dk_De_92 : decode prog_1_method_1_code 92 = .ok (.aload_n 0, 1) := by decide +kernel
theorem dk_De_93 : decode prog_1_method_1_code 93 = .ok (.iconst 0, 1) := by decide +kernel
theorem dk_De_94 : decode prog_1_method_1_code 94 = .ok (.putfield 54, 3) := by decide +kernel
theorem dk_De_97 : decode prog_1_method_1_code 97 = .ok (.aload_n 0, 1) := by decide +kernel
theorem dk_De_98 : decode prog_1_method_1_code 98 = .ok (.new 57, 3) := by decide +kernel
theorem dk_De_101 : decode prog_1_method_1_code 101 = .ok (.dup, 1) := by decide +kernel
theorem dk_De_102 : decode prog_1_method_1_code 102 = .ok (.invokespecial 59, 3) := by decide +kernel
theorem dk_De_105 : decode prog_1_method_1_code 105 = .ok (.putfield 60, 3) := by decide +kernel
theorem dk_De_108 : decode prog_1_method_1_code 108 = .ok (.aload_n 0, 1) := by decide +kernel
theorem dk_De_109 : decode prog_1_method_1_code 109 = .ok (.bipush 6, 2) := by decide +kernel
theorem dk_De_111 : decode prog_1_method_1_code 111 = .ok (.newarray .int, 2) := by decide +kernel
theorem dk_De_113 : decode prog_1_method_1_code 113 = .ok (.putfield 64, 3) := by decide +kernel
theorem dk_De_116 : decode prog_1_method_1_code 116 = .ok (.aload_n 0, 1) := by decide +kernel
theorem dk_De_117 : decode prog_1_method_1_code 117 = .ok (.bipush 6, 2) := by decide +kernel
theorem dk_De_119 : decode prog_1_method_1_code 119 = .ok (.newarray .int, 2) := by decide +kernel
theorem dk_De_121 : decode prog_1_method_1_code 121 = .ok (.putfield 68, 3) := by decide +kernel
theorem dk_De_124 : decode prog_1_method_1_code 124 = .ok (.aload_n 0, 1) := by decide +kernel
theorem dk_De_125 : decode prog_1_method_1_code 125 = .ok (.bipush 10, 2) := by decide +kernel
theorem dk_De_127 : decode prog_1_method_1_code 127 = .ok (.newarray .int, 2) := by decide +kernel
theorem dk_De_129 : decode prog_1_method_1_code 129 = .ok (.putfield 71, 3) := by decide +kernel
theorem dk_De_132 : decode prog_1_method_1_code 132 = .ok (.aload_n 0, 1) := by decide +kernel
theorem dk_De_133 : decode prog_1_method_1_code 133 = .ok (.bipush 63, 2) := by decide +kernel
theorem dk_De_135 : decode prog_1_method_1_code 135 = .ok (.newarray .int, 2) := by decide +kernel
theorem dk_De_137 : decode prog_1_method_1_code 137 = .ok (.putfield 74, 3) := by decide +kernel
theorem dk_De_140 : decode prog_1_method_1_code 140 = .ok (.iconst 0, 1) := by decide +kernel
theorem dk_De_141 : decode prog_1_method_1_code 141 = .ok (.istore_n 1, 1) := by decide +kernel
theorem dk_De_142 : decode prog_1_method_1_code 142 = .ok (.iload_n 1, 1) := by decide +kernel
theorem dk_De_143 : decode prog_1_method_1_code 143 = .ok (.bipush 10, 2) := by decide +kernel
theorem dk_De_145 : decode prog_1_method_1_code 145 = .ok (.if_icmp .ge 22, 3) := by decide +kernel
theorem dk_De_148 : decode prog_1_method_1_code 148 = .ok (.aload_n 0, 1) := by decide +kernel
theorem dk_De_149 : decode prog_1_method_1_code 149 = .ok (.getfield 43, 3) := by decide +kernel
theorem dk_De_152 : decode prog_1_method_1_code 152 = .ok (.iload_n 1, 1) := by decide +kernel
theorem dk_De_153 : decode prog_1_method_1_code 153 = .ok (.new 16, 3) := by decide +kernel
theorem dk_De_156 : decode prog_1_method_1_code 156 = .ok (.dup, 1) := by decide +kernel
theorem dk_De_157 : decode prog_1_method_1_code 157 = .ok (.invokespecial 18, 3) := by decide +kernel
theorem dk_De_160 : decode prog_1_method_1_code 160 = .ok (.aastore, 1) := by decide +kernel
theorem dk_De_161 : decode prog_1_method_1_code 161 = .ok (.iinc 1 1, 3) := by decide +kernel
theorem dk_De_164 : decode prog_1_method_1_code 164 = .ok (.goto (-22), 3) := by decide +kernel
theorem dk_De_167 : decode prog_1_method_1_code 167 = .ok (.iconst 0, 1) := by decide +kernel
theorem dk_De_168 : decode prog_1_method_1_code 168 = .ok (.istore_n 1, 1) := by decide +kernel
theorem dk_De_169 : decode prog_1_method_1_code 169 = .ok (.iload_n 1, 1) := by decide +kernel
theorem dk_De_170 : decode prog_1_method_1_code 170 = .ok (.iconst 2, 1) := by decide +kernel
theorem dk_De_171 : decode prog_1_method_1_code 171 = .ok (.if_icmp .ge 22, 3) := by decide +kernel
theorem dk_De_174 : decode prog_1_method_1_code 174 = .ok (.aload_n 0, 1) := by decide +kernel
theorem dk_De_175 : decode prog_1_method_1_code 175 = .ok (.getfield 51, 3) := by decide +kernel
theorem dk_De_178 : decode prog_1_method_1_code 178 = .ok (.iload_n 1, 1) := by decide +kernel
theorem dk_De_179 : decode prog_1_method_1_code 179 = .ok (.new 16, 3) := by decide +kernel
theorem dk_De_182 : decode prog_1_method_1_code 182 = .ok (.dup, 1) := by decide +kernel
theorem dk_De_183 : decode prog_1_method_1_code 183 = .ok (.invokespecial 18, 3) := by decide +kernel
theorem dk_De_186 : decode prog_1_method_1_code 186 = .ok (.aastore, 1) := by decide +kernel
theorem dk_De_187 : decode prog_1_method_1_code 187 = .ok (.iinc 1 1, 3) := by decide +kernel
theorem dk_De_190 : decode prog_1_method_1_code 190 = .ok (.goto (-21), 3) := by decide +kernel
theorem dk_De_193 : decode prog_1_method_1_code 193 = .ok (.aload_n 0, 1) := by decide +kernel
theorem dk_De_194 : decode prog_1_method_1_code 194 = .ok (.getfield 19, 3) := by decide +kernel
theorem dk_De_197 : decode prog_1_method_1_code 197 = .ok (.iconst 3, 1) := by decide +kernel
theorem dk_De_198 : decode prog_1_method_1_code 198 = .ok (.invokevirtual 77, 3) := by decide +kernel
theorem dk_De_201 : decode prog_1_method_1_code 201 = .ok (.iconst 0, 1) := by decide +kernel
theorem dk_De_202 : decode prog_1_method_1_code 202 = .ok (.aload_n 0, 1) := by decide +kernel
theorem dk_De_203 : decode prog_1_method_1_code 203 = .ok (.getfield 19, 3) := by decide +kernel
theorem dk_De_206 : decode prog_1_method_1_code 206 = .ok (.getfield 81, 3) := by decide +kernel
theorem dk_De_209 : decode prog_1_method_1_code 209 = .ok (.aload_n 0, 1) := by decide +kernel
theorem dk_De_210 : decode prog_1_method_1_code 210 = .ok (.getfield 64, 3) := by decide +kernel
theorem dk_De_213 : decode prog_1_method_1_code 213 = .ok (.invokestatic 84, 3) := by decide +kernel
theorem dk_De_216 : decode prog_1_method_1_code 216 = .ok (.aload_n 0, 1) := by decide +kernel
theorem dk_De_217 : decode prog_1_method_1_code 217 = .ok (.getfield 19, 3) := by decide +kernel
theorem dk_De_220 : decode prog_1_method_1_code 220 = .ok (.aload_n 0, 1) := by decide +kernel
theorem dk_De_221 : decode prog_1_method_1_code 221 = .ok (.getfield 64, 3) := by decide +kernel
theorem dk_De_224 : decode prog_1_method_1_code 224 = .ok (.invokevirtual 88, 3) := by decide +kernel
theorem dk_De_227 : decode prog_1_method_1_code 227 = .ok (.aload_n 0, 1) := by decide +kernel
theorem dk_De_228 : decode prog_1_method_1_code 228 = .ok (.invokevirtual 92, 3) := by decide +kernel
theorem dk_De_231 : decode prog_1_method_1_code 231 = .ok (.return_, 1) := by decide +kernel
theorem dk_Mo_0 : decode prog_8_method_1_code 0 = .ok (.aload_n 0, 1) := by decide +kernel
theorem dk_Mo_1 : decode prog_8_method_1_code 1 = .ok (.invokespecial 1, 3) := by decide +kernel
theorem dk_Mo_4 : decode prog_8_method_1_code 4 = .ok (.aload_n 0, 1) := by decide +kernel
theorem dk_Mo_5 : decode prog_8_method_1_code 5 = .ok (.bipush 120, 2) := by decide +kernel
theorem dk_Mo_7 : decode prog_8_method_1_code 7 = .ok (.newarray .int, 2) := by decide +kernel
theorem dk_Mo_9 : decode prog_8_method_1_code 9 = .ok (.putfield 7, 3) := by decide +kernel
theorem dk_Mo_12 : decode prog_8_method_1_code 12 = .ok (.aload_n 0, 1) := by decide +kernel
theorem dk_Mo_13 : decode prog_8_method_1_code 13 = .ok (.sipush 244, 3) := by decide +kernel
theorem dk_Mo_16 : decode prog_8_method_1_code 16 = .ok (.newarray .int, 2) := by decide +kernel
theorem dk_Mo_18 : decode prog_8_method_1_code 18 = .ok (.putfield 13, 3) := by decide +kernel
theorem dk_Mo_21 : decode prog_8_method_1_code 21 = .ok (.aload_n 0, 1) := by decide +kernel
theorem dk_Mo_22 : decode prog_8_method_1_code 22 = .ok (.sipush 244, 3) := by decide +kernel
theorem dk_Mo_25 : decode prog_8_method_1_code 25 = .ok (.newarray .int, 2) := by decide +kernel
theorem dk_Mo_27 : decode prog_8_method_1_code 27 = .ok (.putfield 16, 3) := by decide +kernel
theorem dk_Mo_30 : decode prog_8_method_1_code 30 = .ok (.aload_n 0, 1) := by decide +kernel
theorem dk_Mo_31 : decode prog_8_method_1_code 31 = .ok (.sipush 244, 3) := by decide +kernel
theorem dk_Mo_34 : decode prog_8_method_1_code 34 = .ok (.newarray .int, 2) := by decide +kernel
theorem dk_Mo_36 : decode prog_8_method_1_code 36 = .ok (.putfield 19, 3) := by decide +kernel
theorem dk_Mo_39 : decode prog_8_method_1_code 39 = .ok (.aload_n 0, 1) := by decide +kernel
theorem dk_Mo_40 : decode prog_8_method_1_code 40 = .ok (.sipush 2440, 3) := by decide +kernel
theorem dk_Mo_43 : decode prog_8_method_1_code 43 = .ok (.newarray .int, 2) := by decide +kernel
theorem dk_Mo_45 : decode prog_8_method_1_code 45 = .ok (.putfield 22, 3) := by decide +kernel
theorem dk_Mo_48 : decode prog_8_method_1_code 48 = .ok (.aload_n 0, 1) := by decide +kernel
theorem dk_Mo_49 : decode prog_8_method_1_code 49 = .ok (.sipush 488, 3) := by decide +kernel
theorem dk_Mo_52 : decode prog_8_method_1_code 52 = .ok (.newarray .int, 2) := by decide +kernel
theorem dk_Mo_54 : decode prog_8_method_1_code 54 = .ok (.putfield 25, 3) := by decide +kernel
theorem dk_Mo_57 : decode prog_8_method_1_code 57 = .ok (.aload_n 0, 1) := by decide +kernel
theorem dk_Mo_58 : decode prog_8_method_1_code 58 = .ok (.iconst 2, 1) := by decide +kernel
theorem dk_Mo_59 : decode prog_8_method_1_code 59 = .ok (.newarray .boolean, 2) := by decide +kernel
theorem dk_Mo_61 : decode prog_8_method_1_code 61 = .ok (.putfield 28, 3) := by decide +kernel
theorem dk_Mo_64 : decode prog_8_method_1_code 64 = .ok (.aload_n 0, 1) := by decide +kernel
theorem dk_Mo_65 : decode prog_8_method_1_code 65 = .ok (.bipush 6, 2) := by decide +kernel
theorem dk_Mo_67 : decode prog_8_method_1_code 67 = .ok (.newarray .int, 2) := by decide +kernel
theorem dk_Mo_69 : decode prog_8_method_1_code 69 = .ok (.putfield 32, 3) := by decide +kernel
theorem dk_Mo_72 : decode prog_8_method_1_code 72 = .ok (.aload_n 0, 1) := by decide +kernel
theorem dk_Mo_73 : decode prog_8_method_1_code 73 = .ok (.bipush 6, 2) := by decide +kernel
theorem dk_Mo_75 : decode prog_8_method_1_code 75 = .ok (.newarray .int, 2) := by decide +kernel
theorem dk_Mo_77 : decode prog_8_method_1_code 77 = .ok (.putfield 35, 3) := by decide +kernel
theorem dk_Mo_80 : decode prog_8_method_1_code 80 = .ok (.aload_n 0, 1) := by decide +kernel
theorem dk_Mo_81 : decode prog_8_method_1_code 81 = .ok (.bipush 6, 2) := by decide +kernel
theorem dk_Mo_83 : decode prog_8_method_1_code 83 = .ok (.newarray .int, 2) := by decide +kernel
theorem dk_Mo_85 : decode prog_8_method_1_code 85 = .ok (.putfield 38, 3) := by decide +kernel
theorem dk_Mo_88 : decode prog_8_method_1_code 88 = .ok (.aload_n 0, 1) := by decide +kernel
theorem dk_Mo_89 : decode prog_8_method_1_code 89 = .ok (.bipush 36, 2) := by decide +kernel
theorem dk_Mo_91 : decode prog_8_method_1_code 91 = .ok (.newarray .boolean, 2) := by decide +kernel
theorem dk_Mo_93 : decode prog_8_method_1_code 93 = .ok (.putfield 41, 3) := by decide +kernel
theorem dk_Mo_96 : decode prog_8_method_1_code 96 = .ok (.aload_n 0, 1) := by decide +kernel
theorem dk_Mo_97 : decode prog_8_method_1_code 97 = .ok (.bipush 63, 2) := by decide +kernel
theorem dk_Mo_99 : decode prog_8_method_1_code 99 = .ok (.newarray .int, 2) := by decide +kernel
theorem dk_Mo_101 : decode prog_8_method_1_code 101 = .ok (.putfield 44, 3) := by decide +kernel
theorem dk_Mo_104 : decode prog_8_method_1_code 104 = .ok (.aload_n 0, 1) := by decide +kernel
theorem dk_Mo_105 : decode prog_8_method_1_code 105 = .ok (.bipush 63, 2) := by decide +kernel
theorem dk_Mo_107 : decode prog_8_method_1_code 107 = .ok (.newarray .int, 2) := by decide +kernel
theorem dk_Mo_109 : decode prog_8_method_1_code 109 = .ok (.putfield 47, 3) := by decide +kernel
theorem dk_Mo_112 : decode prog_8_method_1_code 112 = .ok (.aload_n 0, 1) := by decide +kernel
theorem dk_Mo_113 : decode prog_8_method_1_code 113 = .ok (.bipush 6, 2) := by decide +kernel
theorem dk_Mo_115 : decode prog_8_method_1_code 115 = .ok (.newarray .int, 2) := by decide +kernel
theorem dk_Mo_117 : decode prog_8_method_1_code 117 = .ok (.putfield 50, 3) := by decide +kernel
theorem dk_Mo_120 : decode prog_8_method_1_code 120 = .ok (.aload_n 0, 1) := by decide +kernel
theorem dk_Mo_121 : decode prog_8_method_1_code 121 = .ok (.sipush 256, 3) := by decide +kernel
theorem dk_Mo_124 : decode prog_8_method_1_code 124 = .ok (.newarray .int, 2) := by decide +kernel
theorem dk_Mo_126 : decode prog_8_method_1_code 126 = .ok (.putfield 53, 3) := by decide +kernel
theorem dk_Mo_129 : decode prog_8_method_1_code 129 = .ok (.aload_n 0, 1) := by decide +kernel
theorem dk_Mo_130 : decode prog_8_method_1_code 130 = .ok (.bipush 6, 2) := by decide +kernel
theorem dk_Mo_132 : decode prog_8_method_1_code 132 = .ok (.newarray .int, 2) := by decide +kernel
theorem dk_Mo_134 : decode prog_8_method_1_code 134 = .ok (.putfield 56, 3) := by decide +kernel
theorem dk_Mo_137 : decode prog_8_method_1_code 137 = .ok (.aload_n 0, 1) := by decide +kernel
theorem dk_Mo_138 : decode prog_8_method_1_code 138 = .ok (.bipush 63, 2) := by decide +kernel
theorem dk_Mo_140 : decode prog_8_method_1_code 140 = .ok (.newarray .int, 2) := by decide +kernel
theorem dk_Mo_142 : decode prog_8_method_1_code 142 = .ok (.putfield 59, 3) := by decide +kernel
theorem dk_Mo_145 : decode prog_8_method_1_code 145 = .ok (.aload_n 0, 1) := by decide +kernel
theorem dk_Mo_146 : decode prog_8_method_1_code 146 = .ok (.invokevirtual 62, 3) := by decide +kernel
theorem dk_Mo_149 : decode prog_8_method_1_code 149 = .ok (.aload_n 0, 1) := by decide +kernel
theorem dk_Mo_150 : decode prog_8_method_1_code 150 = .ok (.iconst 0, 1) := by decide +kernel
theorem dk_Mo_151 : decode prog_8_method_1_code 151 = .ok (.aload_n 0, 1) := by decide +kernel
theorem dk_Mo_152 : decode prog_8_method_1_code 152 = .ok (.getfield 65, 3) := by decide +kernel
theorem dk_Mo_155 : decode prog_8_method_1_code 155 = .ok (.invokevirtual 69, 3) := by decide +kernel
theorem dk_Mo_158 : decode prog_8_method_1_code 158 = .ok (.aload_n 0, 1) := by decide +kernel
theorem dk_Mo_159 : decode prog_8_method_1_code 159 = .ok (.aload_n 0, 1) := by decide +kernel
theorem dk_Mo_160 : decode prog_8_method_1_code 160 = .ok (.getfield 13, 3) := by decide +kernel
theorem dk_Mo_163 : decode prog_8_method_1_code 163 = .ok (.aload_n 0, 1) := by decide +kernel
theorem dk_Mo_164 : decode prog_8_method_1_code 164 = .ok (.getfield 65, 3) := by decide +kernel
theorem dk_Mo_167 : decode prog_8_method_1_code 167 = .ok (.invokevirtual 73, 3) := by decide +kernel
theorem dk_Mo_170 : decode prog_8_method_1_code 170 = .ok (.aload_n 0, 1) := by decide +kernel
theorem dk_Mo_171 : decode prog_8_method_1_code 171 = .ok (.invokevirtual 77, 3) := by decide +kernel
theorem dk_Mo_174 : decode prog_8_method_1_code 174 = .ok (.return_, 1) := by decide +kernel
theorem kw_i0 : Cond.instantiable (mx_cn 0) (mx_nf 0) ∈ mx_good := mx_mem (p := 203) (by decide +kernel) rfl
theorem kw_n0 : Cond.initialized (mx_cn 0) ∈ mx_good := mx_mem (p := 91) (by decide +kernel) rfl
theorem kw_m0 : Cond.instanceMethod (kw_y (mx_cn 0)) ∈ mx_good := mx_mem (p := 205) (by decide +kernel) rfl
theorem kw_c0 : Cond.code (kw_y (mx_cn 0)) prog_2_method_1_code 1 none ∈ mx_good := mx_mem (p := 206) (by decide +kernel) rfl
theorem kw_f0 (j : Nat) (h : j < mx_nf 0) : defaultValue (mx_ty 0 j) = vp_V [.null, .null, .null] j := by
  have h : j < 3 := h
  match j, h with
  | 0, _ => rfl
  | 1, _ => rfl
  | 2, _ => rfl
  | k + 3, h => exact absurd h (by omega)
theorem kw_i1 : Cond.instantiable (mx_cn 1) (mx_nf 1) ∈ mx_good := mx_mem (p := 113) (by decide +kernel) rfl
theorem kw_n1 : Cond.initialized (mx_cn 1) ∈ mx_good := mx_mem (p := 89) (by decide +kernel) rfl
theorem kw_m1 : Cond.instanceMethod (kw_y (mx_cn 1)) ∈ mx_good := mx_mem (p := 115) (by decide +kernel) rfl
theorem kw_c1 : Cond.code (kw_y (mx_cn 1)) prog_3_method_1_code 1 none ∈ mx_good := mx_mem (p := 116) (by decide +kernel) rfl
theorem kw_f1 (j : Nat) (h : j < mx_nf 1) : defaultValue (mx_ty 1 j) = vp_V [.null, .null, .int 0, .int 0, .int 0] j := by
  have h : j < 5 := h
  match j, h with
  | 0, _ => rfl
  | 1, _ => rfl
  | 2, _ => rfl
  | 3, _ => rfl
  | 4, _ => rfl
  | k + 5, h => exact absurd h (by omega)
theorem kw_i2 : Cond.instantiable (mx_cn 2) (mx_nf 2) ∈ mx_good := mx_mem (p := 222) (by decide +kernel) rfl
theorem kw_n2 : Cond.initialized (mx_cn 2) ∈ mx_good := mx_mem (p := 92) (by decide +kernel) rfl
theorem kw_m2 : Cond.instanceMethod (kw_y (mx_cn 2)) ∈ mx_good := mx_mem (p := 224) (by decide +kernel) rfl
theorem kw_c2 : Cond.code (kw_y (mx_cn 2)) prog_4_method_1_code 1 none ∈ mx_good := mx_mem (p := 225) (by decide +kernel) rfl
theorem kw_f2 (j : Nat) (h : j < mx_nf 2) : defaultValue (mx_ty 2 j) = vp_V [.null, .null, .null, .int 0] j := by
  have h : j < 4 := h
  match j, h with
  | 0, _ => rfl
  | 1, _ => rfl
  | 2, _ => rfl
  | 3, _ => rfl
  | k + 4, h => exact absurd h (by omega)
theorem kw_i3 : Cond.instantiable (mx_cn 3) (mx_nf 3) ∈ mx_good := mx_mem (p := 107) (by decide +kernel) rfl
theorem kw_n3 : Cond.initialized (mx_cn 3) ∈ mx_good := mx_mem (p := 88) (by decide +kernel) rfl
theorem kw_m3 : Cond.instanceMethod (kw_y (mx_cn 3)) ∈ mx_good := mx_mem (p := 109) (by decide +kernel) rfl
theorem kw_c3 : Cond.code (kw_y (mx_cn 3)) prog_5_method_1_code 1 none ∈ mx_good := mx_mem (p := 110) (by decide +kernel) rfl
theorem kw_f3 (j : Nat) (h : j < mx_nf 3) : defaultValue (mx_ty 3 j) = vp_V [.null, .null, .int 0, .int 0, .int 0, .int 0, .int 0] j := by
  have h : j < 7 := h
  match j, h with
  | 0, _ => rfl
  | 1, _ => rfl
  | 2, _ => rfl
  | 3, _ => rfl
  | 4, _ => rfl
  | 5, _ => rfl
  | 6, _ => rfl
  | k + 7, h => exact absurd h (by omega)
theorem kw_i4 : Cond.instantiable (mx_cn 4) (mx_nf 4) ∈ mx_good := mx_mem (p := 176) (by decide +kernel) rfl
theorem kw_n4 : Cond.initialized (mx_cn 4) ∈ mx_good := mx_mem (p := 90) (by decide +kernel) rfl
theorem kw_m4 : Cond.instanceMethod (kw_y (mx_cn 4)) ∈ mx_good := mx_mem (p := 178) (by decide +kernel) rfl
theorem kw_c4 : Cond.code (kw_y (mx_cn 4)) prog_6_method_1_code 1 none ∈ mx_good := mx_mem (p := 179) (by decide +kernel) rfl
theorem kw_f4 (j : Nat) (h : j < mx_nf 4) : defaultValue (mx_ty 4 j) = vp_V [.null, .null, .null, .int 0] j := by
  have h : j < 4 := h
  match j, h with
  | 0, _ => rfl
  | 1, _ => rfl
  | 2, _ => rfl
  | 3, _ => rfl
  | k + 4, h => exact absurd h (by omega)
theorem kx_D1 {h0 : Nat} {e : va_E} {sz : Nat} : va_D (va_A [(h0, e)] sz) [(h0, e)] := by
  refine ⟨fun i j p q hi hj _ => ?_, fun k q hk => va_A.in hk⟩
  have h1 := (List.getElem?_eq_some_iff.mp hi).1
  have h2 := (List.getElem?_eq_some_iff.mp hj).1
  simp only [List.length_singleton] at h1 h2
  omega
/-- a small constructor's contract by a walk of its body -/
theorem kx_ofB {ci : Nat} {icd : ByteArray} {fs : List Value} {rm : Room} {Bk : (Nat → ClassId) → Nat → (Nat → Nat) → va_W} (hpl : plainName (mx_cn ci) = true)
    (body : ∀ (l : Launch) (D : va_G) (cy : Nat → ClassId) (h0 : Nat) (p : Program) (e : Env) (s : State) (m : MethodId) (below : List Frame) (meth : Method) (cd : Code) (A : Nat → Prop) (ls : Array Slot), kx_X ci icd 1 D cy p s m [Value.ref h0].toArray cd → meth.sig.returnType = none → meth.locks = false → meth.name = "<init>" → va_P D vwCl [(h0, .inr (ci, fs))] s.heap → va_D A [(h0, .inr (ci, fs))] → (∀ q, s.heap.size ≤ q → A q) → va_S A s.heap s.heap [] → lv_has ls 1 [(0, .ref h0)] →
      W p l e rm s m [Value.ref h0].toArray below meth cd s.heap [] 0 0 (MQ below (va_Qv (S := Nat → Nat) (fun _ => True) (fun g t => va_P D vwCl (Bk cy h0 g) t.heap ∧ va_D A (Bk cy h0 g)) A) [Value.ref h0].toArray s rm.cells rm.slots A) (F0 m 0 ls [])) : kx_In ci icd fs rm Bk := by
  intro l D cy h0 sz
  refine Met.ofW (cc := icd) (maxL := 1) (ret := none) hpl rfl ?_
  intro p e s m args below meth cd s₁ B hml hv
  obtain ⟨rfl, hsz, hP, hT⟩ := hv
  subst hsz
  have hts := atoms_spec (ws := .code (kw_y (mx_cn ci)) icd 1 none :: mx_good) B.pre
  have X : kx_X ci icd 1 D cy p s m [Value.ref h0].toArray cd := ⟨B.exec, B.bytes, hml, findClass_of_methodNamed B.named, fun w hw => hts w (List.mem_cons_of_mem _ hw), hT⟩
  have hl := lv_entry ([.ref h0]) (n := 1) (Nat.le_of_ble_eq_true rfl)
  rw [lg_entry_eq]
  exact body l D cy h0 p e s m below meth cd (va_A [(h0, .inr (ci, fs))] s.heap.size) _ X B.returns B.notSynchronized (name_of_methodNamed B.named B.method).1 hP kx_D1 (fun q h => Or.inr h) va_S.rf hl
def kPi (cy : Nat → ClassId) (q : Nat) (g : Nat → Nat) : va_W := [(q, .inr (1, [.ref (g 0), .ref (g 1), .int 3, .int 0, .int 0])), (g 0, .inl (cy 0, 54, .inl (fun _ => 0))), (g 1, .inl (cy 0, 63, .inl (fun _ => 0)))]
def kTr (cy : Nat → ClassId) (q : Nat) (g : Nat → Nat) : va_W := [(q, .inr (4, [.ref (g 0), .ref (g 1), .ref (g 2), .int 0])), (g 0, .inl (cy 0, 63, .inl (fun _ => 0))), (g 1, .inl (cy 0, 63, .inl (fun _ => 0))), (g 2, .inl (cy 0, 63, .inl (fun _ => 0)))]
def kBa (cy : Nat → ClassId) (q : Nat) (g : Nat → Nat) : va_W := [(q, .inr (0, [.ref (g 0), .ref (g 1), .ref (g 2)])), (g 0, .inl (cy 0, 63, .inl (fun _ => 0))), (g 1, .inl (cy 0, 36, .inl (fun _ => 0))), (g 2, .inl (cy 0, 63, .inl (fun _ => 0)))]
def kSi (cy : Nat → ClassId) (q : Nat) (g : Nat → Nat) : va_W := [(q, .inr (2, [.ref (g 0), .ref (g 1), .ref (g 2), .int 0])), (g 0, .inl (cy 0, 6, .inl (fun _ => 0))), (g 1, .inl (cy 0, 6, .inl (fun _ => 0))), (g 2, .inl (cy 0, 6, .inl (fun _ => 0)))]
def kTe (cy : Nat → ClassId) (q : Nat) (g : Nat → Nat) : va_W := (q, .inr (3, [.ref (g 0), .ref (g 1), .int 0, .int 0, .int (-1), .int 0, .int 0])) :: (g 0, .inl (cy 0, 120, .inl (fun _ => 0))) :: kPi cy (g 1) (fun i => g (i + 2))
theorem c_Pi_init : kx_In 1 prog_3_method_1_code [.null, .null, .int 0, .int 0, .int 0] { frames := 1, cells := 2, slots := 117, locals := 12 } kPi := by
  refine kx_ofB (by decide +kernel) ?_
  intro l D cy h0 p e s m below meth cd A ls X hr hlocks hin hP hD hA hS hl
  refine lv_aload_n X.1 X.2.1 dk_Pi_0 rfl (lv_at hl 0 rfl) ?_
  refine k_obj X (mx_mem (p := 117) (by decide +kernel) rfl) hl.1 dk_Pi_1 (Nat.le_of_ble_eq_true rfl) (Nat.le_of_ble_eq_true rfl) ?_
  refine lv_aload_n X.1 X.2.1 dk_Pi_4 rfl (lv_at hl 0 rfl) ?_
  refine lv_bipush (v := 54) X.1 X.2.1 dk_Pi_5 (by decide) ?_
  refine k_newI X hP hD hS hA 54 (by decide) (by decide) (by decide) (Nat.le_of_ble_eq_true rfl) (Nat.le_of_ble_eq_true rfl) dk_Pi_7 (fun q1 H hP hD hS => ?_)
  have hP : va_P D vwCl ((h0, .inr (1, [.null, .null, .int 0, .int 0, .int 0])) :: ([(q1, .inl (cy 0, 54, .inl (fun _ => 0)))])) H := hP
  have hD : va_D A ((h0, .inr (1, [.null, .null, .int 0, .int 0, .int 0])) :: ([(q1, .inl (cy 0, 54, .inl (fun _ => 0)))])) := hD
  refine k_put X hin hP hD hS 0 rfl rfl rfl dk_Pi_9 (fun H locs hP hD hS => ?_)
  have hP : va_P D vwCl ((h0, .inr (1, [.ref q1, .null, .int 0, .int 0, .int 0])) :: ([(q1, .inl (cy 0, 54, .inl (fun _ => 0)))])) H := hP
  have hD : va_D A ((h0, .inr (1, [.ref q1, .null, .int 0, .int 0, .int 0])) :: ([(q1, .inl (cy 0, 54, .inl (fun _ => 0)))])) := hD
  refine lv_aload_n X.1 X.2.1 dk_Pi_12 rfl (lv_at hl 0 rfl) ?_
  refine lv_bipush (v := 63) X.1 X.2.1 dk_Pi_13 (by decide) ?_
  refine k_newI X hP hD hS hA 63 (by decide) (by decide) (by decide) (Nat.le_of_ble_eq_true rfl) (Nat.le_of_ble_eq_true rfl) dk_Pi_15 (fun q2 H hP hD hS => ?_)
  have hP : va_P D vwCl ((h0, .inr (1, [.ref q1, .null, .int 0, .int 0, .int 0])) :: ([(q1, .inl (cy 0, 54, .inl (fun _ => 0)))] ++ [(q2, .inl (cy 0, 63, .inl (fun _ => 0)))])) H := hP
  have hD : va_D A ((h0, .inr (1, [.ref q1, .null, .int 0, .int 0, .int 0])) :: ([(q1, .inl (cy 0, 54, .inl (fun _ => 0)))] ++ [(q2, .inl (cy 0, 63, .inl (fun _ => 0)))])) := hD
  refine k_put X hin hP hD hS 1 rfl rfl rfl dk_Pi_17 (fun H locs hP hD hS => ?_)
  have hP : va_P D vwCl ((h0, .inr (1, [.ref q1, .ref q2, .int 0, .int 0, .int 0])) :: ([(q1, .inl (cy 0, 54, .inl (fun _ => 0)))] ++ [(q2, .inl (cy 0, 63, .inl (fun _ => 0)))])) H := hP
  have hD : va_D A ((h0, .inr (1, [.ref q1, .ref q2, .int 0, .int 0, .int 0])) :: ([(q1, .inl (cy 0, 54, .inl (fun _ => 0)))] ++ [(q2, .inl (cy 0, 63, .inl (fun _ => 0)))])) := hD
  refine lv_aload_n X.1 X.2.1 dk_Pi_20 rfl (lv_at hl 0 rfl) ?_
  refine lv_iconst (v := 3) X.1 X.2.1 dk_Pi_21 (by decide) ?_
  refine k_put X hin hP hD hS 2 rfl rfl rfl dk_Pi_22 (fun H locs hP hD hS => ?_)
  have hP : va_P D vwCl ((h0, .inr (1, [.ref q1, .ref q2, .int 3, .int 0, .int 0])) :: ([(q1, .inl (cy 0, 54, .inl (fun _ => 0)))] ++ [(q2, .inl (cy 0, 63, .inl (fun _ => 0)))])) H := hP
  have hD : va_D A ((h0, .inr (1, [.ref q1, .ref q2, .int 3, .int 0, .int 0])) :: ([(q1, .inl (cy 0, 54, .inl (fun _ => 0)))] ++ [(q2, .inl (cy 0, 63, .inl (fun _ => 0)))])) := hD
  refine lv_aload_n X.1 X.2.1 dk_Pi_25 rfl (lv_at hl 0 rfl) ?_
  refine lv_iconst (v := 0) X.1 X.2.1 dk_Pi_26 (by decide) ?_
  refine k_put X hin hP hD hS 3 rfl rfl rfl dk_Pi_27 (fun H locs hP hD hS => ?_)
  have hP : va_P D vwCl ((h0, .inr (1, [.ref q1, .ref q2, .int 3, .int 0, .int 0])) :: ([(q1, .inl (cy 0, 54, .inl (fun _ => 0)))] ++ [(q2, .inl (cy 0, 63, .inl (fun _ => 0)))])) H := hP
  have hD : va_D A ((h0, .inr (1, [.ref q1, .ref q2, .int 3, .int 0, .int 0])) :: ([(q1, .inl (cy 0, 54, .inl (fun _ => 0)))] ++ [(q2, .inl (cy 0, 63, .inl (fun _ => 0)))])) := hD
  refine lv_aload_n X.1 X.2.1 dk_Pi_30 rfl (lv_at hl 0 rfl) ?_
  refine lv_iconst (v := 0) X.1 X.2.1 dk_Pi_31 (by decide) ?_
  refine k_put X hin hP hD hS 4 rfl rfl rfl dk_Pi_32 (fun H locs hP hD hS => ?_)
  have hP : va_P D vwCl ((h0, .inr (1, [.ref q1, .ref q2, .int 3, .int 0, .int 0])) :: ([(q1, .inl (cy 0, 54, .inl (fun _ => 0)))] ++ [(q2, .inl (cy 0, 63, .inl (fun _ => 0)))])) H := hP
  have hD : va_D A ((h0, .inr (1, [.ref q1, .ref q2, .int 3, .int 0, .int 0])) :: ([(q1, .inl (cy 0, 54, .inl (fun _ => 0)))] ++ [(q2, .inl (cy 0, 63, .inl (fun _ => 0)))])) := hD
  exact W.vret X.1 X.2.1 hr (fun t ht hW => ⟨⟨(fun i => ([q1, q2] : List Nat).getD i 0), rfl, trivial, by rw [ht]; exact hP, hD⟩, hS.F ht⟩) hS.2.2 dk_Pi_35 hlocks
theorem c_Tr_init : kx_In 4 prog_6_method_1_code [.null, .null, .null, .int 0] { frames := 1, cells := 3, slots := 189, locals := 12 } kTr := by
  refine kx_ofB (by decide +kernel) ?_
  intro l D cy h0 p e s m below meth cd A ls X hr hlocks hin hP hD hA hS hl
  refine lv_aload_n X.1 X.2.1 dk_Tr_0 rfl (lv_at hl 0 rfl) ?_
  refine k_obj X (mx_mem (p := 180) (by decide +kernel) rfl) hl.1 dk_Tr_1 (Nat.le_of_ble_eq_true rfl) (Nat.le_of_ble_eq_true rfl) ?_
  refine lv_aload_n X.1 X.2.1 dk_Tr_4 rfl (lv_at hl 0 rfl) ?_
  refine lv_bipush (v := 63) X.1 X.2.1 dk_Tr_5 (by decide) ?_
  refine k_newI X hP hD hS hA 63 (by decide) (by decide) (by decide) (Nat.le_of_ble_eq_true rfl) (Nat.le_of_ble_eq_true rfl) dk_Tr_7 (fun q1 H hP hD hS => ?_)
  have hP : va_P D vwCl ((h0, .inr (4, [.null, .null, .null, .int 0])) :: ([(q1, .inl (cy 0, 63, .inl (fun _ => 0)))])) H := hP
  have hD : va_D A ((h0, .inr (4, [.null, .null, .null, .int 0])) :: ([(q1, .inl (cy 0, 63, .inl (fun _ => 0)))])) := hD
  refine k_put X hin hP hD hS 0 rfl rfl rfl dk_Tr_9 (fun H locs hP hD hS => ?_)
  have hP : va_P D vwCl ((h0, .inr (4, [.ref q1, .null, .null, .int 0])) :: ([(q1, .inl (cy 0, 63, .inl (fun _ => 0)))])) H := hP
  have hD : va_D A ((h0, .inr (4, [.ref q1, .null, .null, .int 0])) :: ([(q1, .inl (cy 0, 63, .inl (fun _ => 0)))])) := hD
  refine lv_aload_n X.1 X.2.1 dk_Tr_12 rfl (lv_at hl 0 rfl) ?_
  refine lv_bipush (v := 63) X.1 X.2.1 dk_Tr_13 (by decide) ?_
  refine k_newI X hP hD hS hA 63 (by decide) (by decide) (by decide) (Nat.le_of_ble_eq_true rfl) (Nat.le_of_ble_eq_true rfl) dk_Tr_15 (fun q2 H hP hD hS => ?_)
  have hP : va_P D vwCl ((h0, .inr (4, [.ref q1, .null, .null, .int 0])) :: ([(q1, .inl (cy 0, 63, .inl (fun _ => 0)))] ++ [(q2, .inl (cy 0, 63, .inl (fun _ => 0)))])) H := hP
  have hD : va_D A ((h0, .inr (4, [.ref q1, .null, .null, .int 0])) :: ([(q1, .inl (cy 0, 63, .inl (fun _ => 0)))] ++ [(q2, .inl (cy 0, 63, .inl (fun _ => 0)))])) := hD
  refine k_put X hin hP hD hS 1 rfl rfl rfl dk_Tr_17 (fun H locs hP hD hS => ?_)
  have hP : va_P D vwCl ((h0, .inr (4, [.ref q1, .ref q2, .null, .int 0])) :: ([(q1, .inl (cy 0, 63, .inl (fun _ => 0)))] ++ [(q2, .inl (cy 0, 63, .inl (fun _ => 0)))])) H := hP
  have hD : va_D A ((h0, .inr (4, [.ref q1, .ref q2, .null, .int 0])) :: ([(q1, .inl (cy 0, 63, .inl (fun _ => 0)))] ++ [(q2, .inl (cy 0, 63, .inl (fun _ => 0)))])) := hD
  refine lv_aload_n X.1 X.2.1 dk_Tr_20 rfl (lv_at hl 0 rfl) ?_
  refine lv_bipush (v := 63) X.1 X.2.1 dk_Tr_21 (by decide) ?_
  refine k_newI X hP hD hS hA 63 (by decide) (by decide) (by decide) (Nat.le_of_ble_eq_true rfl) (Nat.le_of_ble_eq_true rfl) dk_Tr_23 (fun q3 H hP hD hS => ?_)
  have hP : va_P D vwCl ((h0, .inr (4, [.ref q1, .ref q2, .null, .int 0])) :: ([(q1, .inl (cy 0, 63, .inl (fun _ => 0)))] ++ [(q2, .inl (cy 0, 63, .inl (fun _ => 0)))] ++ [(q3, .inl (cy 0, 63, .inl (fun _ => 0)))])) H := hP
  have hD : va_D A ((h0, .inr (4, [.ref q1, .ref q2, .null, .int 0])) :: ([(q1, .inl (cy 0, 63, .inl (fun _ => 0)))] ++ [(q2, .inl (cy 0, 63, .inl (fun _ => 0)))] ++ [(q3, .inl (cy 0, 63, .inl (fun _ => 0)))])) := hD
  refine k_put X hin hP hD hS 2 rfl rfl rfl dk_Tr_25 (fun H locs hP hD hS => ?_)
  have hP : va_P D vwCl ((h0, .inr (4, [.ref q1, .ref q2, .ref q3, .int 0])) :: ([(q1, .inl (cy 0, 63, .inl (fun _ => 0)))] ++ [(q2, .inl (cy 0, 63, .inl (fun _ => 0)))] ++ [(q3, .inl (cy 0, 63, .inl (fun _ => 0)))])) H := hP
  have hD : va_D A ((h0, .inr (4, [.ref q1, .ref q2, .ref q3, .int 0])) :: ([(q1, .inl (cy 0, 63, .inl (fun _ => 0)))] ++ [(q2, .inl (cy 0, 63, .inl (fun _ => 0)))] ++ [(q3, .inl (cy 0, 63, .inl (fun _ => 0)))])) := hD
  refine lv_aload_n X.1 X.2.1 dk_Tr_28 rfl (lv_at hl 0 rfl) ?_
  refine lv_iconst (v := 0) X.1 X.2.1 dk_Tr_29 (by decide) ?_
  refine k_put X hin hP hD hS 3 rfl rfl rfl dk_Tr_30 (fun H locs hP hD hS => ?_)
  have hP : va_P D vwCl ((h0, .inr (4, [.ref q1, .ref q2, .ref q3, .int 0])) :: ([(q1, .inl (cy 0, 63, .inl (fun _ => 0)))] ++ [(q2, .inl (cy 0, 63, .inl (fun _ => 0)))] ++ [(q3, .inl (cy 0, 63, .inl (fun _ => 0)))])) H := hP
  have hD : va_D A ((h0, .inr (4, [.ref q1, .ref q2, .ref q3, .int 0])) :: ([(q1, .inl (cy 0, 63, .inl (fun _ => 0)))] ++ [(q2, .inl (cy 0, 63, .inl (fun _ => 0)))] ++ [(q3, .inl (cy 0, 63, .inl (fun _ => 0)))])) := hD
  exact W.vret X.1 X.2.1 hr (fun t ht hW => ⟨⟨(fun i => ([q1, q2, q3] : List Nat).getD i 0), rfl, trivial, by rw [ht]; exact hP, hD⟩, hS.F ht⟩) hS.2.2 dk_Tr_33 hlocks
theorem c_Ba_init : kx_In 0 prog_2_method_1_code [.null, .null, .null] { frames := 1, cells := 3, slots := 162, locals := 12 } kBa := by
  refine kx_ofB (by decide +kernel) ?_
  intro l D cy h0 p e s m below meth cd A ls X hr hlocks hin hP hD hA hS hl
  refine lv_aload_n X.1 X.2.1 dk_Ba_0 rfl (lv_at hl 0 rfl) ?_
  refine k_obj X (mx_mem (p := 207) (by decide +kernel) rfl) hl.1 dk_Ba_1 (Nat.le_of_ble_eq_true rfl) (Nat.le_of_ble_eq_true rfl) ?_
  refine lv_aload_n X.1 X.2.1 dk_Ba_4 rfl (lv_at hl 0 rfl) ?_
  refine lv_bipush (v := 63) X.1 X.2.1 dk_Ba_5 (by decide) ?_
  refine k_newI X hP hD hS hA 63 (by decide) (by decide) (by decide) (Nat.le_of_ble_eq_true rfl) (Nat.le_of_ble_eq_true rfl) dk_Ba_7 (fun q1 H hP hD hS => ?_)
  have hP : va_P D vwCl ((h0, .inr (0, [.null, .null, .null])) :: ([(q1, .inl (cy 0, 63, .inl (fun _ => 0)))])) H := hP
  have hD : va_D A ((h0, .inr (0, [.null, .null, .null])) :: ([(q1, .inl (cy 0, 63, .inl (fun _ => 0)))])) := hD
  refine k_put X hin hP hD hS 0 rfl rfl rfl dk_Ba_9 (fun H locs hP hD hS => ?_)
  have hP : va_P D vwCl ((h0, .inr (0, [.ref q1, .null, .null])) :: ([(q1, .inl (cy 0, 63, .inl (fun _ => 0)))])) H := hP
  have hD : va_D A ((h0, .inr (0, [.ref q1, .null, .null])) :: ([(q1, .inl (cy 0, 63, .inl (fun _ => 0)))])) := hD
  refine lv_aload_n X.1 X.2.1 dk_Ba_12 rfl (lv_at hl 0 rfl) ?_
  refine lv_bipush (v := 36) X.1 X.2.1 dk_Ba_13 (by decide) ?_
  refine k_newI X hP hD hS hA 36 (by decide) (by decide) (by decide) (Nat.le_of_ble_eq_true rfl) (Nat.le_of_ble_eq_true rfl) dk_Ba_15 (fun q2 H hP hD hS => ?_)
  have hP : va_P D vwCl ((h0, .inr (0, [.ref q1, .null, .null])) :: ([(q1, .inl (cy 0, 63, .inl (fun _ => 0)))] ++ [(q2, .inl (cy 0, 36, .inl (fun _ => 0)))])) H := hP
  have hD : va_D A ((h0, .inr (0, [.ref q1, .null, .null])) :: ([(q1, .inl (cy 0, 63, .inl (fun _ => 0)))] ++ [(q2, .inl (cy 0, 36, .inl (fun _ => 0)))])) := hD
  refine k_put X hin hP hD hS 1 rfl rfl rfl dk_Ba_17 (fun H locs hP hD hS => ?_)
  have hP : va_P D vwCl ((h0, .inr (0, [.ref q1, .ref q2, .null])) :: ([(q1, .inl (cy 0, 63, .inl (fun _ => 0)))] ++ [(q2, .inl (cy 0, 36, .inl (fun _ => 0)))])) H := hP
  have hD : va_D A ((h0, .inr (0, [.ref q1, .ref q2, .null])) :: ([(q1, .inl (cy 0, 63, .inl (fun _ => 0)))] ++ [(q2, .inl (cy 0, 36, .inl (fun _ => 0)))])) := hD
  refine lv_aload_n X.1 X.2.1 dk_Ba_20 rfl (lv_at hl 0 rfl) ?_
  refine lv_bipush (v := 63) X.1 X.2.1 dk_Ba_21 (by decide) ?_
  refine k_newI X hP hD hS hA 63 (by decide) (by decide) (by decide) (Nat.le_of_ble_eq_true rfl) (Nat.le_of_ble_eq_true rfl) dk_Ba_23 (fun q3 H hP hD hS => ?_)
  have hP : va_P D vwCl ((h0, .inr (0, [.ref q1, .ref q2, .null])) :: ([(q1, .inl (cy 0, 63, .inl (fun _ => 0)))] ++ [(q2, .inl (cy 0, 36, .inl (fun _ => 0)))] ++ [(q3, .inl (cy 0, 63, .inl (fun _ => 0)))])) H := hP
  have hD : va_D A ((h0, .inr (0, [.ref q1, .ref q2, .null])) :: ([(q1, .inl (cy 0, 63, .inl (fun _ => 0)))] ++ [(q2, .inl (cy 0, 36, .inl (fun _ => 0)))] ++ [(q3, .inl (cy 0, 63, .inl (fun _ => 0)))])) := hD
  refine k_put X hin hP hD hS 2 rfl rfl rfl dk_Ba_25 (fun H locs hP hD hS => ?_)
  have hP : va_P D vwCl ((h0, .inr (0, [.ref q1, .ref q2, .ref q3])) :: ([(q1, .inl (cy 0, 63, .inl (fun _ => 0)))] ++ [(q2, .inl (cy 0, 36, .inl (fun _ => 0)))] ++ [(q3, .inl (cy 0, 63, .inl (fun _ => 0)))])) H := hP
  have hD : va_D A ((h0, .inr (0, [.ref q1, .ref q2, .ref q3])) :: ([(q1, .inl (cy 0, 63, .inl (fun _ => 0)))] ++ [(q2, .inl (cy 0, 36, .inl (fun _ => 0)))] ++ [(q3, .inl (cy 0, 63, .inl (fun _ => 0)))])) := hD
  exact W.vret X.1 X.2.1 hr (fun t ht hW => ⟨⟨(fun i => ([q1, q2, q3] : List Nat).getD i 0), rfl, trivial, by rw [ht]; exact hP, hD⟩, hS.F ht⟩) hS.2.2 dk_Ba_28 hlocks
theorem c_Si_init : kx_In 2 prog_4_method_1_code [.null, .null, .null, .int 0] { frames := 1, cells := 3, slots := 18, locals := 12 } kSi := by
  refine kx_ofB (by decide +kernel) ?_
  intro l D cy h0 p e s m below meth cd A ls X hr hlocks hin hP hD hA hS hl
  refine lv_aload_n X.1 X.2.1 dk_Si_0 rfl (lv_at hl 0 rfl) ?_
  refine k_obj X (mx_mem (p := 226) (by decide +kernel) rfl) hl.1 dk_Si_1 (Nat.le_of_ble_eq_true rfl) (Nat.le_of_ble_eq_true rfl) ?_
  refine lv_aload_n X.1 X.2.1 dk_Si_4 rfl (lv_at hl 0 rfl) ?_
  refine lv_bipush (v := 6) X.1 X.2.1 dk_Si_5 (by decide) ?_
  refine k_newI X hP hD hS hA 6 (by decide) (by decide) (by decide) (Nat.le_of_ble_eq_true rfl) (Nat.le_of_ble_eq_true rfl) dk_Si_7 (fun q1 H hP hD hS => ?_)
  have hP : va_P D vwCl ((h0, .inr (2, [.null, .null, .null, .int 0])) :: ([(q1, .inl (cy 0, 6, .inl (fun _ => 0)))])) H := hP
  have hD : va_D A ((h0, .inr (2, [.null, .null, .null, .int 0])) :: ([(q1, .inl (cy 0, 6, .inl (fun _ => 0)))])) := hD
  refine k_put X hin hP hD hS 0 rfl rfl rfl dk_Si_9 (fun H locs hP hD hS => ?_)
  have hP : va_P D vwCl ((h0, .inr (2, [.ref q1, .null, .null, .int 0])) :: ([(q1, .inl (cy 0, 6, .inl (fun _ => 0)))])) H := hP
  have hD : va_D A ((h0, .inr (2, [.ref q1, .null, .null, .int 0])) :: ([(q1, .inl (cy 0, 6, .inl (fun _ => 0)))])) := hD
  refine lv_aload_n X.1 X.2.1 dk_Si_12 rfl (lv_at hl 0 rfl) ?_
  refine lv_bipush (v := 6) X.1 X.2.1 dk_Si_13 (by decide) ?_
  refine k_newI X hP hD hS hA 6 (by decide) (by decide) (by decide) (Nat.le_of_ble_eq_true rfl) (Nat.le_of_ble_eq_true rfl) dk_Si_15 (fun q2 H hP hD hS => ?_)
  have hP : va_P D vwCl ((h0, .inr (2, [.ref q1, .null, .null, .int 0])) :: ([(q1, .inl (cy 0, 6, .inl (fun _ => 0)))] ++ [(q2, .inl (cy 0, 6, .inl (fun _ => 0)))])) H := hP
  have hD : va_D A ((h0, .inr (2, [.ref q1, .null, .null, .int 0])) :: ([(q1, .inl (cy 0, 6, .inl (fun _ => 0)))] ++ [(q2, .inl (cy 0, 6, .inl (fun _ => 0)))])) := hD
  refine k_put X hin hP hD hS 1 rfl rfl rfl dk_Si_17 (fun H locs hP hD hS => ?_)
  have hP : va_P D vwCl ((h0, .inr (2, [.ref q1, .ref q2, .null, .int 0])) :: ([(q1, .inl (cy 0, 6, .inl (fun _ => 0)))] ++ [(q2, .inl (cy 0, 6, .inl (fun _ => 0)))])) H := hP
  have hD : va_D A ((h0, .inr (2, [.ref q1, .ref q2, .null, .int 0])) :: ([(q1, .inl (cy 0, 6, .inl (fun _ => 0)))] ++ [(q2, .inl (cy 0, 6, .inl (fun _ => 0)))])) := hD
  refine lv_aload_n X.1 X.2.1 dk_Si_20 rfl (lv_at hl 0 rfl) ?_
  refine lv_bipush (v := 6) X.1 X.2.1 dk_Si_21 (by decide) ?_
  refine k_newI X hP hD hS hA 6 (by decide) (by decide) (by decide) (Nat.le_of_ble_eq_true rfl) (Nat.le_of_ble_eq_true rfl) dk_Si_23 (fun q3 H hP hD hS => ?_)
  have hP : va_P D vwCl ((h0, .inr (2, [.ref q1, .ref q2, .null, .int 0])) :: ([(q1, .inl (cy 0, 6, .inl (fun _ => 0)))] ++ [(q2, .inl (cy 0, 6, .inl (fun _ => 0)))] ++ [(q3, .inl (cy 0, 6, .inl (fun _ => 0)))])) H := hP
  have hD : va_D A ((h0, .inr (2, [.ref q1, .ref q2, .null, .int 0])) :: ([(q1, .inl (cy 0, 6, .inl (fun _ => 0)))] ++ [(q2, .inl (cy 0, 6, .inl (fun _ => 0)))] ++ [(q3, .inl (cy 0, 6, .inl (fun _ => 0)))])) := hD
  refine k_put X hin hP hD hS 2 rfl rfl rfl dk_Si_25 (fun H locs hP hD hS => ?_)
  have hP : va_P D vwCl ((h0, .inr (2, [.ref q1, .ref q2, .ref q3, .int 0])) :: ([(q1, .inl (cy 0, 6, .inl (fun _ => 0)))] ++ [(q2, .inl (cy 0, 6, .inl (fun _ => 0)))] ++ [(q3, .inl (cy 0, 6, .inl (fun _ => 0)))])) H := hP
  have hD : va_D A ((h0, .inr (2, [.ref q1, .ref q2, .ref q3, .int 0])) :: ([(q1, .inl (cy 0, 6, .inl (fun _ => 0)))] ++ [(q2, .inl (cy 0, 6, .inl (fun _ => 0)))] ++ [(q3, .inl (cy 0, 6, .inl (fun _ => 0)))])) := hD
  refine lv_aload_n X.1 X.2.1 dk_Si_28 rfl (lv_at hl 0 rfl) ?_
  refine lv_iconst (v := 0) X.1 X.2.1 dk_Si_29 (by decide) ?_
  refine k_put X hin hP hD hS 3 rfl rfl rfl dk_Si_30 (fun H locs hP hD hS => ?_)
  have hP : va_P D vwCl ((h0, .inr (2, [.ref q1, .ref q2, .ref q3, .int 0])) :: ([(q1, .inl (cy 0, 6, .inl (fun _ => 0)))] ++ [(q2, .inl (cy 0, 6, .inl (fun _ => 0)))] ++ [(q3, .inl (cy 0, 6, .inl (fun _ => 0)))])) H := hP
  have hD : va_D A ((h0, .inr (2, [.ref q1, .ref q2, .ref q3, .int 0])) :: ([(q1, .inl (cy 0, 6, .inl (fun _ => 0)))] ++ [(q2, .inl (cy 0, 6, .inl (fun _ => 0)))] ++ [(q3, .inl (cy 0, 6, .inl (fun _ => 0)))])) := hD
  exact W.vret X.1 X.2.1 hr (fun t ht hW => ⟨⟨(fun i => ([q1, q2, q3] : List Nat).getD i 0), rfl, trivial, by rw [ht]; exact hP, hD⟩, hS.F ht⟩) hS.2.2 dk_Si_33 hlocks
theorem c_Te_init : kx_In 3 prog_5_method_1_code [.null, .null, .int 0, .int 0, .int 0, .int 0, .int 0] { frames := 2, cells := 4, slots := 242, locals := 32 } kTe := by
  refine kx_ofB (by decide +kernel) ?_
  intro l D cy h0 p e s m below meth cd A ls X hr hlocks hin hP hD hA hS hl
  refine lv_aload_n X.1 X.2.1 dk_Te_0 rfl (lv_at hl 0 rfl) ?_
  refine k_obj X (mx_mem (p := 111) (by decide +kernel) rfl) hl.1 dk_Te_1 (Nat.le_of_ble_eq_true rfl) (Nat.le_of_ble_eq_true rfl) ?_
  refine lv_aload_n X.1 X.2.1 dk_Te_4 rfl (lv_at hl 0 rfl) ?_
  refine lv_bipush (v := 120) X.1 X.2.1 dk_Te_5 (by decide) ?_
  refine k_newI X hP hD hS hA 120 (by decide) (by decide) (by decide) (Nat.le_of_ble_eq_true rfl) (Nat.le_of_ble_eq_true rfl) dk_Te_7 (fun q1 H hP hD hS => ?_)
  have hP : va_P D vwCl ((h0, .inr (3, [.null, .null, .int 0, .int 0, .int 0, .int 0, .int 0])) :: ([(q1, .inl (cy 0, 120, .inl (fun _ => 0)))])) H := hP
  have hD : va_D A ((h0, .inr (3, [.null, .null, .int 0, .int 0, .int 0, .int 0, .int 0])) :: ([(q1, .inl (cy 0, 120, .inl (fun _ => 0)))])) := hD
  refine k_put X hin hP hD hS 0 rfl rfl rfl dk_Te_9 (fun H locs hP hD hS => ?_)
  have hP : va_P D vwCl ((h0, .inr (3, [.ref q1, .null, .int 0, .int 0, .int 0, .int 0, .int 0])) :: ([(q1, .inl (cy 0, 120, .inl (fun _ => 0)))])) H := hP
  have hD : va_D A ((h0, .inr (3, [.ref q1, .null, .int 0, .int 0, .int 0, .int 0, .int 0])) :: ([(q1, .inl (cy 0, 120, .inl (fun _ => 0)))])) := hD
  refine lv_aload_n X.1 X.2.1 dk_Te_12 rfl (lv_at hl 0 rfl) ?_
  refine k_mk (ci := 1) X c_Pi_init (by decide) (mx_mem (p := 112) (by decide +kernel) rfl) kw_i1 kw_n1 kw_m1 kw_c1 (k6 := 114) (by decide) kw_f1 hP hD hS hA hl.1 (Nat.le_of_ble_eq_true rfl) ⟨(Nat.le_of_ble_eq_true rfl), (Nat.le_of_ble_eq_true rfl)⟩ ⟨(Nat.le_of_ble_eq_true rfl), (Nat.le_of_ble_eq_true rfl)⟩ dk_Te_13 dk_Te_16 dk_Te_17 (fun q2 g2 H locs hP hD hS => ?_)
  have hP : va_P D vwCl ((h0, .inr (3, [.ref q1, .null, .int 0, .int 0, .int 0, .int 0, .int 0])) :: ([(q1, .inl (cy 0, 120, .inl (fun _ => 0)))] ++ kPi cy q2 g2)) H := hP
  have hD : va_D A ((h0, .inr (3, [.ref q1, .null, .int 0, .int 0, .int 0, .int 0, .int 0])) :: ([(q1, .inl (cy 0, 120, .inl (fun _ => 0)))] ++ kPi cy q2 g2)) := hD
  refine k_put X hin hP hD hS 1 rfl rfl rfl dk_Te_20 (fun H locs hP hD hS => ?_)
  have hP : va_P D vwCl ((h0, .inr (3, [.ref q1, .ref q2, .int 0, .int 0, .int 0, .int 0, .int 0])) :: ([(q1, .inl (cy 0, 120, .inl (fun _ => 0)))] ++ kPi cy q2 g2)) H := hP
  have hD : va_D A ((h0, .inr (3, [.ref q1, .ref q2, .int 0, .int 0, .int 0, .int 0, .int 0])) :: ([(q1, .inl (cy 0, 120, .inl (fun _ => 0)))] ++ kPi cy q2 g2)) := hD
  refine lv_aload_n X.1 X.2.1 dk_Te_23 rfl (lv_at hl 0 rfl) ?_
  refine lv_iconst (v := 0) X.1 X.2.1 dk_Te_24 (by decide) ?_
  refine k_put X hin hP hD hS 2 rfl rfl rfl dk_Te_25 (fun H locs hP hD hS => ?_)
  have hP : va_P D vwCl ((h0, .inr (3, [.ref q1, .ref q2, .int 0, .int 0, .int 0, .int 0, .int 0])) :: ([(q1, .inl (cy 0, 120, .inl (fun _ => 0)))] ++ kPi cy q2 g2)) H := hP
  have hD : va_D A ((h0, .inr (3, [.ref q1, .ref q2, .int 0, .int 0, .int 0, .int 0, .int 0])) :: ([(q1, .inl (cy 0, 120, .inl (fun _ => 0)))] ++ kPi cy q2 g2)) := hD
  refine lv_aload_n X.1 X.2.1 dk_Te_28 rfl (lv_at hl 0 rfl) ?_
  refine lv_iconst (v := 0) X.1 X.2.1 dk_Te_29 (by decide) ?_
  refine k_put X hin hP hD hS 3 rfl rfl rfl dk_Te_30 (fun H locs hP hD hS => ?_)
  have hP : va_P D vwCl ((h0, .inr (3, [.ref q1, .ref q2, .int 0, .int 0, .int 0, .int 0, .int 0])) :: ([(q1, .inl (cy 0, 120, .inl (fun _ => 0)))] ++ kPi cy q2 g2)) H := hP
  have hD : va_D A ((h0, .inr (3, [.ref q1, .ref q2, .int 0, .int 0, .int 0, .int 0, .int 0])) :: ([(q1, .inl (cy 0, 120, .inl (fun _ => 0)))] ++ kPi cy q2 g2)) := hD
  refine lv_aload_n X.1 X.2.1 dk_Te_33 rfl (lv_at hl 0 rfl) ?_
  refine lv_iconst (v := (-1)) X.1 X.2.1 dk_Te_34 (by decide) ?_
  refine k_put X hin hP hD hS 4 rfl rfl rfl dk_Te_35 (fun H locs hP hD hS => ?_)
  have hP : va_P D vwCl ((h0, .inr (3, [.ref q1, .ref q2, .int 0, .int 0, .int (-1), .int 0, .int 0])) :: ([(q1, .inl (cy 0, 120, .inl (fun _ => 0)))] ++ kPi cy q2 g2)) H := hP
  have hD : va_D A ((h0, .inr (3, [.ref q1, .ref q2, .int 0, .int 0, .int (-1), .int 0, .int 0])) :: ([(q1, .inl (cy 0, 120, .inl (fun _ => 0)))] ++ kPi cy q2 g2)) := hD
  refine lv_aload_n X.1 X.2.1 dk_Te_38 rfl (lv_at hl 0 rfl) ?_
  refine lv_iconst (v := 0) X.1 X.2.1 dk_Te_39 (by decide) ?_
  refine k_put X hin hP hD hS 5 rfl rfl rfl dk_Te_40 (fun H locs hP hD hS => ?_)
  have hP : va_P D vwCl ((h0, .inr (3, [.ref q1, .ref q2, .int 0, .int 0, .int (-1), .int 0, .int 0])) :: ([(q1, .inl (cy 0, 120, .inl (fun _ => 0)))] ++ kPi cy q2 g2)) H := hP
  have hD : va_D A ((h0, .inr (3, [.ref q1, .ref q2, .int 0, .int 0, .int (-1), .int 0, .int 0])) :: ([(q1, .inl (cy 0, 120, .inl (fun _ => 0)))] ++ kPi cy q2 g2)) := hD
  refine lv_aload_n X.1 X.2.1 dk_Te_43 rfl (lv_at hl 0 rfl) ?_
  refine lv_iconst (v := 0) X.1 X.2.1 dk_Te_44 (by decide) ?_
  refine k_put X hin hP hD hS 6 rfl rfl rfl dk_Te_45 (fun H locs hP hD hS => ?_)
  have hP : va_P D vwCl ((h0, .inr (3, [.ref q1, .ref q2, .int 0, .int 0, .int (-1), .int 0, .int 0])) :: ([(q1, .inl (cy 0, 120, .inl (fun _ => 0)))] ++ kPi cy q2 g2)) H := hP
  have hD : va_D A ((h0, .inr (3, [.ref q1, .ref q2, .int 0, .int 0, .int (-1), .int 0, .int 0])) :: ([(q1, .inl (cy 0, 120, .inl (fun _ => 0)))] ++ kPi cy q2 g2)) := hD
  exact W.vret X.1 X.2.1 hr (fun t ht hW => ⟨⟨(fun i => ([q1, q2, g2 0, g2 1] : List Nat).getD i 0), rfl, trivial, by rw [ht]; exact hP, hD⟩, hS.F ht⟩) hS.2.2 dk_Te_48 hlocks
