theorem dX11_both_0 : decode cX11_both 0 = .ok (.aload_n 0, 1) := by decide +kernel
theorem dX11_both_1 : decode cX11_both 1 = .ok (.invokevirtual 170, 3) := by decide +kernel
theorem dX11_both_4 : decode cX11_both 4 = .ok (.istore_n 1, 1) := by decide +kernel
theorem dX11_both_5 : decode cX11_both 5 = .ok (.aload_n 0, 1) := by decide +kernel
theorem dX11_both_6 : decode cX11_both 6 = .ok (.bipush 38, 2) := by decide +kernel
theorem dX11_both_8 : decode cX11_both 8 = .ok (.invokevirtual 167, 3) := by decide +kernel
theorem dX11_both_11 : decode cX11_both 11 = .ok (.ifCond .eq 25, 3) := by decide +kernel
theorem dX11_both_14 : decode cX11_both 14 = .ok (.aload_n 0, 1) := by decide +kernel
theorem dX11_both_15 : decode cX11_both 15 = .ok (.invokevirtual 170, 3) := by decide +kernel
theorem dX11_both_18 : decode cX11_both 18 = .ok (.istore_n 2, 1) := by decide +kernel
theorem dX11_both_19 : decode cX11_both 19 = .ok (.iload_n 1, 1) := by decide +kernel
theorem dX11_both_20 : decode cX11_both 20 = .ok (.ifCond .eq 11, 3) := by decide +kernel
theorem dX11_both_23 : decode cX11_both 23 = .ok (.iload_n 2, 1) := by decide +kernel
theorem dX11_both_24 : decode cX11_both 24 = .ok (.ifCond .eq 7, 3) := by decide +kernel
theorem dX11_both_27 : decode cX11_both 27 = .ok (.iconst 1, 1) := by decide +kernel
theorem dX11_both_28 : decode cX11_both 28 = .ok (.goto 4, 3) := by decide +kernel
theorem dX11_both_31 : decode cX11_both 31 = .ok (.iconst 0, 1) := by decide +kernel
theorem dX11_both_32 : decode cX11_both 32 = .ok (.istore_n 1, 1) := by decide +kernel
theorem dX11_both_33 : decode cX11_both 33 = .ok (.goto (-28), 3) := by decide +kernel
theorem dX11_both_36 : decode cX11_both 36 = .ok (.iload_n 1, 1) := by decide +kernel
theorem dX11_both_37 : decode cX11_both 37 = .ok (.ireturn, 1) := by decide +kernel
theorem dX11_compared_0 : decode cX11_compared 0 = .ok (.aload_n 0, 1) := by decide +kernel
theorem dX11_compared_1 : decode cX11_compared 1 = .ok (.invokevirtual 173, 3) := by decide +kernel
theorem dX11_compared_4 : decode cX11_compared 4 = .ok (.istore_n 1, 1) := by decide +kernel
theorem dX11_compared_5 : decode cX11_compared 5 = .ok (.aload_n 0, 1) := by decide +kernel
theorem dX11_compared_6 : decode cX11_compared 6 = .ok (.invokevirtual 160, 3) := by decide +kernel
theorem dX11_compared_9 : decode cX11_compared 9 = .ok (.istore_n 2, 1) := by decide +kernel
theorem dX11_compared_10 : decode cX11_compared 10 = .ok (.aload_n 0, 1) := by decide +kernel
theorem dX11_compared_11 : decode cX11_compared 11 = .ok (.getfield 157, 3) := by decide +kernel
theorem dX11_compared_14 : decode cX11_compared 14 = .ok (.ifCond .ge 21, 3) := by decide +kernel
theorem dX11_compared_17 : decode cX11_compared 17 = .ok (.iload_n 2, 1) := by decide +kernel
theorem dX11_compared_18 : decode cX11_compared 18 = .ok (.bipush 60, 2) := by decide +kernel
theorem dX11_compared_20 : decode cX11_compared 20 = .ok (.if_icmp .eq 17, 3) := by decide +kernel
theorem dX11_compared_23 : decode cX11_compared 23 = .ok (.iload_n 2, 1) := by decide +kernel
theorem dX11_compared_24 : decode cX11_compared 24 = .ok (.bipush 61, 2) := by decide +kernel
theorem dX11_compared_26 : decode cX11_compared 26 = .ok (.if_icmp .eq 11, 3) := by decide +kernel
theorem dX11_compared_29 : decode cX11_compared 29 = .ok (.iload_n 2, 1) := by decide +kernel
theorem dX11_compared_30 : decode cX11_compared 30 = .ok (.bipush 62, 2) := by decide +kernel
theorem dX11_compared_32 : decode cX11_compared 32 = .ok (.if_icmp .eq 5, 3) := by decide +kernel
theorem dX11_compared_35 : decode cX11_compared 35 = .ok (.iload_n 1, 1) := by decide +kernel
theorem dX11_compared_36 : decode cX11_compared 36 = .ok (.ireturn, 1) := by decide +kernel
theorem dX11_compared_37 : decode cX11_compared 37 = .ok (.aload_n 0, 1) := by decide +kernel
theorem dX11_compared_38 : decode cX11_compared 38 = .ok (.dup, 1) := by decide +kernel
theorem dX11_compared_39 : decode cX11_compared 39 = .ok (.getfield 148, 3) := by decide +kernel
theorem dX11_compared_42 : decode cX11_compared 42 = .ok (.iconst 1, 1) := by decide +kernel
theorem dX11_compared_43 : decode cX11_compared 43 = .ok (.iadd, 1) := by decide +kernel
theorem dX11_compared_44 : decode cX11_compared 44 = .ok (.putfield 148, 3) := by decide +kernel
theorem dX11_compared_47 : decode cX11_compared 47 = .ok (.aload_n 0, 1) := by decide +kernel
theorem dX11_compared_48 : decode cX11_compared 48 = .ok (.invokevirtual 173, 3) := by decide +kernel
theorem dX11_compared_51 : decode cX11_compared 51 = .ok (.istore_n 3, 1) := by decide +kernel
theorem dX11_compared_52 : decode cX11_compared 52 = .ok (.iload_n 2, 1) := by decide +kernel
theorem dX11_compared_53 : decode cX11_compared 53 = .ok (.bipush 60, 2) := by decide +kernel
theorem dX11_compared_55 : decode cX11_compared 55 = .ok (.if_icmp .ne 11, 3) := by decide +kernel
theorem dX11_compared_58 : decode cX11_compared 58 = .ok (.iload_n 1, 1) := by decide +kernel
theorem dX11_compared_59 : decode cX11_compared 59 = .ok (.iload_n 3, 1) := by decide +kernel
theorem dX11_compared_60 : decode cX11_compared 60 = .ok (.if_icmp .ge 29, 3) := by decide +kernel
theorem dX11_compared_63 : decode cX11_compared 63 = .ok (.goto 22, 3) := by decide +kernel
theorem dX11_compared_66 : decode cX11_compared 66 = .ok (.iload_n 2, 1) := by decide +kernel
theorem dX11_compared_67 : decode cX11_compared 67 = .ok (.bipush 61, 2) := by decide +kernel
theorem dX11_compared_69 : decode cX11_compared 69 = .ok (.if_icmp .ne 11, 3) := by decide +kernel
theorem dX11_compared_72 : decode cX11_compared 72 = .ok (.iload_n 1, 1) := by decide +kernel
theorem dX11_compared_73 : decode cX11_compared 73 = .ok (.iload_n 3, 1) := by decide +kernel
theorem dX11_compared_74 : decode cX11_compared 74 = .ok (.if_icmp .ne 15, 3) := by decide +kernel
theorem dX11_compared_77 : decode cX11_compared 77 = .ok (.goto 8, 3) := by decide +kernel
theorem dX11_compared_80 : decode cX11_compared 80 = .ok (.iload_n 1, 1) := by decide +kernel
theorem dX11_compared_81 : decode cX11_compared 81 = .ok (.iload_n 3, 1) := by decide +kernel
theorem dX11_compared_82 : decode cX11_compared 82 = .ok (.if_icmp .le 7, 3) := by decide +kernel
theorem dX11_compared_85 : decode cX11_compared 85 = .ok (.iconst 1, 1) := by decide +kernel
theorem dX11_compared_86 : decode cX11_compared 86 = .ok (.goto 4, 3) := by decide +kernel
theorem dX11_compared_89 : decode cX11_compared 89 = .ok (.iconst 0, 1) := by decide +kernel
theorem dX11_compared_90 : decode cX11_compared 90 = .ok (.ireturn, 1) := by decide +kernel
theorem dX11_either_0 : decode cX11_either 0 = .ok (.aload_n 0, 1) := by decide +kernel
theorem dX11_either_1 : decode cX11_either 1 = .ok (.invokevirtual 164, 3) := by decide +kernel
theorem dX11_either_4 : decode cX11_either 4 = .ok (.istore_n 1, 1) := by decide +kernel
theorem dX11_either_5 : decode cX11_either 5 = .ok (.aload_n 0, 1) := by decide +kernel
theorem dX11_either_6 : decode cX11_either 6 = .ok (.bipush 124, 2) := by decide +kernel
theorem dX11_either_8 : decode cX11_either 8 = .ok (.invokevirtual 167, 3) := by decide +kernel
theorem dX11_either_11 : decode cX11_either 11 = .ok (.ifCond .eq 25, 3) := by decide +kernel
theorem dX11_either_14 : decode cX11_either 14 = .ok (.aload_n 0, 1) := by decide +kernel
theorem dX11_either_15 : decode cX11_either 15 = .ok (.invokevirtual 164, 3) := by decide +kernel
theorem dX11_either_18 : decode cX11_either 18 = .ok (.istore_n 2, 1) := by decide +kernel
theorem dX11_either_19 : decode cX11_either 19 = .ok (.iload_n 1, 1) := by decide +kernel
theorem dX11_either_20 : decode cX11_either 20 = .ok (.ifCond .ne 7, 3) := by decide +kernel
theorem dX11_either_23 : decode cX11_either 23 = .ok (.iload_n 2, 1) := by decide +kernel
theorem dX11_either_24 : decode cX11_either 24 = .ok (.ifCond .eq 7, 3) := by decide +kernel
theorem dX11_either_27 : decode cX11_either 27 = .ok (.iconst 1, 1) := by decide +kernel
theorem dX11_either_28 : decode cX11_either 28 = .ok (.goto 4, 3) := by decide +kernel
theorem dX11_either_31 : decode cX11_either 31 = .ok (.iconst 0, 1) := by decide +kernel
theorem dX11_either_32 : decode cX11_either 32 = .ok (.istore_n 1, 1) := by decide +kernel
theorem dX11_either_33 : decode cX11_either 33 = .ok (.goto (-28), 3) := by decide +kernel
theorem dX11_either_36 : decode cX11_either 36 = .ok (.iload_n 1, 1) := by decide +kernel
theorem dX11_either_37 : decode cX11_either 37 = .ok (.ireturn, 1) := by decide +kernel
theorem dX11_one_0 : decode cX11_one 0 = .ok (.aload_n 0, 1) := by decide +kernel
theorem dX11_one_1 : decode cX11_one 1 = .ok (.getfield 157, 3) := by decide +kernel
theorem dX11_one_4 : decode cX11_one 4 = .ok (.ifCond .lt 5, 3) := by decide +kernel
theorem dX11_one_7 : decode cX11_one 7 = .ok (.iconst 0, 1) := by decide +kernel
theorem dX11_one_8 : decode cX11_one 8 = .ok (.ireturn, 1) := by decide +kernel
theorem dX11_one_9 : decode cX11_one 9 = .ok (.aload_n 0, 1) := by decide +kernel
theorem dX11_one_10 : decode cX11_one 10 = .ok (.invokevirtual 160, 3) := by decide +kernel
theorem dX11_one_13 : decode cX11_one 13 = .ok (.istore_n 1, 1) := by decide +kernel
theorem dX11_one_14 : decode cX11_one 14 = .ok (.iload_n 1, 1) := by decide +kernel
theorem dX11_one_15 : decode cX11_one 15 = .ok (.bipush 33, 2) := by decide +kernel
theorem dX11_one_17 : decode cX11_one 17 = .ok (.if_icmp .eq 15, 3) := by decide +kernel
theorem dX11_one_20 : decode cX11_one 20 = .ok (.iload_n 1, 1) := by decide +kernel
theorem dX11_one_21 : decode cX11_one 21 = .ok (.bipush 45, 2) := by decide +kernel
theorem dX11_one_23 : decode cX11_one 23 = .ok (.if_icmp .eq 9, 3) := by decide +kernel
theorem dX11_one_26 : decode cX11_one 26 = .ok (.iload_n 1, 1) := by decide +kernel
theorem dX11_one_27 : decode cX11_one 27 = .ok (.bipush 40, 2) := by decide +kernel
theorem dX11_one_29 : decode cX11_one 29 = .ok (.if_icmp .ne 116, 3) := by decide +kernel
theorem dX11_one_32 : decode cX11_one 32 = .ok (.aload_n 0, 1) := by decide +kernel
theorem dX11_one_33 : decode cX11_one 33 = .ok (.getfield 182, 3) := by decide +kernel
theorem dX11_one_36 : decode cX11_one 36 = .ok (.bipush 6, 2) := by decide +kernel
theorem dX11_one_38 : decode cX11_one 38 = .ok (.if_icmp .ne 8, 3) := by decide +kernel
theorem dX11_one_41 : decode cX11_one 41 = .ok (.aload_n 0, 1) := by decide +kernel
theorem dX11_one_42 : decode cX11_one 42 = .ok (.invokevirtual 185, 3) := by decide +kernel
theorem dX11_one_45 : decode cX11_one 45 = .ok (.ireturn, 1) := by decide +kernel
theorem dX11_one_46 : decode cX11_one 46 = .ok (.aload_n 0, 1) := by decide +kernel
theorem dX11_one_47 : decode cX11_one 47 = .ok (.dup, 1) := by decide +kernel
theorem dX11_one_48 : decode cX11_one 48 = .ok (.getfield 182, 3) := by decide +kernel
theorem dX11_one_51 : decode cX11_one 51 = .ok (.iconst 1, 1) := by decide +kernel
theorem dX11_one_52 : decode cX11_one 52 = .ok (.iadd, 1) := by decide +kernel
theorem dX11_one_53 : decode cX11_one 53 = .ok (.putfield 182, 3) := by decide +kernel
theorem dX11_one_56 : decode cX11_one 56 = .ok (.aload_n 0, 1) := by decide +kernel
theorem dX11_one_57 : decode cX11_one 57 = .ok (.dup, 1) := by decide +kernel
theorem dX11_one_58 : decode cX11_one 58 = .ok (.getfield 148, 3) := by decide +kernel
theorem dX11_one_61 : decode cX11_one 61 = .ok (.iconst 1, 1) := by decide +kernel
theorem dX11_one_62 : decode cX11_one 62 = .ok (.iadd, 1) := by decide +kernel
theorem dX11_one_63 : decode cX11_one 63 = .ok (.putfield 148, 3) := by decide +kernel
theorem dX11_one_66 : decode cX11_one 66 = .ok (.iload_n 1, 1) := by decide +kernel
theorem dX11_one_67 : decode cX11_one 67 = .ok (.bipush 40, 2) := by decide +kernel
theorem dX11_one_69 : decode cX11_one 69 = .ok (.if_icmp .ne 10, 3) := by decide +kernel
theorem dX11_one_72 : decode cX11_one 72 = .ok (.aload_n 0, 1) := by decide +kernel
theorem dX11_one_73 : decode cX11_one 73 = .ok (.invokevirtual 188, 3) := by decide +kernel
theorem dX11_one_76 : decode cX11_one 76 = .ok (.goto 7, 3) := by decide +kernel
theorem dX11_one_79 : decode cX11_one 79 = .ok (.aload_n 0, 1) := by decide +kernel
theorem dX11_one_80 : decode cX11_one 80 = .ok (.invokevirtual 179, 3) := by decide +kernel
theorem dX11_one_83 : decode cX11_one 83 = .ok (.istore_n 2, 1) := by decide +kernel
theorem dX11_one_84 : decode cX11_one 84 = .ok (.iload_n 1, 1) := by decide +kernel
theorem dX11_one_85 : decode cX11_one 85 = .ok (.bipush 40, 2) := by decide +kernel
theorem dX11_one_87 : decode cX11_one 87 = .ok (.if_icmp .ne 17, 3) := by decide +kernel
theorem dX11_one_90 : decode cX11_one 90 = .ok (.aload_n 0, 1) := by decide +kernel
theorem dX11_one_91 : decode cX11_one 91 = .ok (.bipush 41, 2) := by decide +kernel
theorem dX11_one_93 : decode cX11_one 93 = .ok (.invokevirtual 167, 3) := by decide +kernel
theorem dX11_one_96 : decode cX11_one 96 = .ok (.ifCond .ne 8, 3) := by decide +kernel
theorem dX11_one_99 : decode cX11_one 99 = .ok (.aload_n 0, 1) := by decide +kernel
theorem dX11_one_100 : decode cX11_one 100 = .ok (.invokevirtual 185, 3) := by decide +kernel
theorem dX11_one_103 : decode cX11_one 103 = .ok (.ireturn, 1) := by decide +kernel
theorem dX11_one_104 : decode cX11_one 104 = .ok (.aload_n 0, 1) := by decide +kernel
theorem dX11_one_105 : decode cX11_one 105 = .ok (.dup, 1) := by decide +kernel
theorem dX11_one_106 : decode cX11_one 106 = .ok (.getfield 182, 3) := by decide +kernel
theorem dX11_one_109 : decode cX11_one 109 = .ok (.iconst 1, 1) := by decide +kernel
theorem dX11_one_110 : decode cX11_one 110 = .ok (.isub, 1) := by decide +kernel
theorem dX11_one_111 : decode cX11_one 111 = .ok (.putfield 182, 3) := by decide +kernel
theorem dX11_one_114 : decode cX11_one 114 = .ok (.iload_n 1, 1) := by decide +kernel
theorem dX11_one_115 : decode cX11_one 115 = .ok (.bipush 40, 2) := by decide +kernel
theorem dX11_one_117 : decode cX11_one 117 = .ok (.if_icmp .ne 7, 3) := by decide +kernel
theorem dX11_one_120 : decode cX11_one 120 = .ok (.iload_n 2, 1) := by decide +kernel
theorem dX11_one_121 : decode cX11_one 121 = .ok (.goto 23, 3) := by decide +kernel
theorem dX11_one_124 : decode cX11_one 124 = .ok (.iload_n 1, 1) := by decide +kernel
theorem dX11_one_125 : decode cX11_one 125 = .ok (.bipush 45, 2) := by decide +kernel
theorem dX11_one_127 : decode cX11_one 127 = .ok (.if_icmp .ne 8, 3) := by decide +kernel
theorem dX11_one_130 : decode cX11_one 130 = .ok (.iload_n 2, 1) := by decide +kernel
theorem dX11_one_131 : decode cX11_one 131 = .ok (.ineg, 1) := by decide +kernel
theorem dX11_one_132 : decode cX11_one 132 = .ok (.goto 12, 3) := by decide +kernel
theorem dX11_one_135 : decode cX11_one 135 = .ok (.iload_n 2, 1) := by decide +kernel
theorem dX11_one_136 : decode cX11_one 136 = .ok (.ifCond .ne 7, 3) := by decide +kernel
theorem dX11_one_139 : decode cX11_one 139 = .ok (.iconst 1, 1) := by decide +kernel
theorem dX11_one_140 : decode cX11_one 140 = .ok (.goto 4, 3) := by decide +kernel
theorem dX11_one_143 : decode cX11_one 143 = .ok (.iconst 0, 1) := by decide +kernel
theorem dX11_one_144 : decode cX11_one 144 = .ok (.ireturn, 1) := by decide +kernel
theorem dX11_one_145 : decode cX11_one 145 = .ok (.iload_n 1, 1) := by decide +kernel
theorem dX11_one_146 : decode cX11_one 146 = .ok (.invokestatic 191, 3) := by decide +kernel
theorem dX11_one_149 : decode cX11_one 149 = .ok (.istore_n 2, 1) := by decide +kernel
theorem dX11_one_150 : decode cX11_one 150 = .ok (.iload_n 2, 1) := by decide +kernel
theorem dX11_one_151 : decode cX11_one 151 = .ok (.ifCond .lt 20, 3) := by decide +kernel
theorem dX11_one_154 : decode cX11_one 154 = .ok (.aload_n 0, 1) := by decide +kernel
theorem dX11_one_155 : decode cX11_one 155 = .ok (.dup, 1) := by decide +kernel
theorem dX11_one_156 : decode cX11_one 156 = .ok (.getfield 148, 3) := by decide +kernel
theorem dX11_one_159 : decode cX11_one 159 = .ok (.iconst 1, 1) := by decide +kernel
theorem dX11_one_160 : decode cX11_one 160 = .ok (.iadd, 1) := by decide +kernel
theorem dX11_one_161 : decode cX11_one 161 = .ok (.putfield 148, 3) := by decide +kernel
theorem dX11_one_164 : decode cX11_one 164 = .ok (.aload_n 0, 1) := by decide +kernel
theorem dX11_one_165 : decode cX11_one 165 = .ok (.getfield 34, 3) := by decide +kernel
theorem dX11_one_168 : decode cX11_one 168 = .ok (.iload_n 2, 1) := by decide +kernel
theorem dX11_one_169 : decode cX11_one 169 = .ok (.iaload, 1) := by decide +kernel
theorem dX11_one_170 : decode cX11_one 170 = .ok (.ireturn, 1) := by decide +kernel
theorem dX11_one_171 : decode cX11_one 171 = .ok (.iconst 0, 1) := by decide +kernel
theorem dX11_one_172 : decode cX11_one 172 = .ok (.istore_n 3, 1) := by decide +kernel
theorem dX11_one_173 : decode cX11_one 173 = .ok (.iconst 0, 1) := by decide +kernel
theorem dX11_one_174 : decode cX11_one 174 = .ok (.istore 4, 2) := by decide +kernel
theorem dX11_one_176 : decode cX11_one 176 = .ok (.iload 4, 2) := by decide +kernel
theorem dX11_one_178 : decode cX11_one 178 = .ok (.iconst 4, 1) := by decide +kernel
theorem dX11_one_179 : decode cX11_one 179 = .ok (.if_icmp .ge 50, 3) := by decide +kernel
theorem dX11_one_182 : decode cX11_one 182 = .ok (.aload_n 0, 1) := by decide +kernel
theorem dX11_one_183 : decode cX11_one 183 = .ok (.invokevirtual 160, 3) := by decide +kernel
theorem dX11_one_186 : decode cX11_one 186 = .ok (.bipush 48, 2) := by decide +kernel
theorem dX11_one_188 : decode cX11_one 188 = .ok (.if_icmp .lt 41, 3) := by decide +kernel
theorem dX11_one_191 : decode cX11_one 191 = .ok (.aload_n 0, 1) := by decide +kernel
theorem dX11_one_192 : decode cX11_one 192 = .ok (.invokevirtual 160, 3) := by decide +kernel
theorem dX11_one_195 : decode cX11_one 195 = .ok (.bipush 57, 2) := by decide +kernel
theorem dX11_one_197 : decode cX11_one 197 = .ok (.if_icmp .gt 32, 3) := by decide +kernel
theorem dX11_one_200 : decode cX11_one 200 = .ok (.bipush 10, 2) := by decide +kernel
theorem dX11_one_202 : decode cX11_one 202 = .ok (.iload_n 3, 1) := by decide +kernel
theorem dX11_one_203 : decode cX11_one 203 = .ok (.imul, 1) := by decide +kernel
theorem dX11_one_204 : decode cX11_one 204 = .ok (.aload_n 0, 1) := by decide +kernel
theorem dX11_one_205 : decode cX11_one 205 = .ok (.invokevirtual 160, 3) := by decide +kernel
theorem dX11_one_208 : decode cX11_one 208 = .ok (.iadd, 1) := by decide +kernel
theorem dX11_one_209 : decode cX11_one 209 = .ok (.bipush 48, 2) := by decide +kernel
theorem dX11_one_211 : decode cX11_one 211 = .ok (.isub, 1) := by decide +kernel
theorem dX11_one_212 : decode cX11_one 212 = .ok (.istore_n 3, 1) := by decide +kernel
theorem dX11_one_213 : decode cX11_one 213 = .ok (.iinc 4 1, 3) := by decide +kernel
theorem dX11_one_216 : decode cX11_one 216 = .ok (.aload_n 0, 1) := by decide +kernel
theorem dX11_one_217 : decode cX11_one 217 = .ok (.dup, 1) := by decide +kernel
theorem dX11_one_218 : decode cX11_one 218 = .ok (.getfield 148, 3) := by decide +kernel
theorem dX11_one_221 : decode cX11_one 221 = .ok (.iconst 1, 1) := by decide +kernel
theorem dX11_one_222 : decode cX11_one 222 = .ok (.iadd, 1) := by decide +kernel
theorem dX11_one_223 : decode cX11_one 223 = .ok (.putfield 148, 3) := by decide +kernel
theorem dX11_one_226 : decode cX11_one 226 = .ok (.goto (-50), 3) := by decide +kernel
theorem dX11_one_229 : decode cX11_one 229 = .ok (.iload 4, 2) := by decide +kernel
theorem dX11_one_231 : decode cX11_one 231 = .ok (.ifCond .ne 10, 3) := by decide +kernel
theorem dX11_one_234 : decode cX11_one 234 = .ok (.aload_n 0, 1) := by decide +kernel
theorem dX11_one_235 : decode cX11_one 235 = .ok (.invokevirtual 185, 3) := by decide +kernel
theorem dX11_one_238 : decode cX11_one 238 = .ok (.goto 4, 3) := by decide +kernel
theorem dX11_one_241 : decode cX11_one 241 = .ok (.iload_n 3, 1) := by decide +kernel
theorem dX11_one_242 : decode cX11_one 242 = .ok (.ireturn, 1) := by decide +kernel
theorem dX11_product_0 : decode cX11_product 0 = .ok (.aload_n 0, 1) := by decide +kernel
theorem dX11_product_1 : decode cX11_product 1 = .ok (.invokevirtual 179, 3) := by decide +kernel
theorem dX11_product_4 : decode cX11_product 4 = .ok (.istore_n 1, 1) := by decide +kernel
theorem dX11_product_5 : decode cX11_product 5 = .ok (.aload_n 0, 1) := by decide +kernel
theorem dX11_product_6 : decode cX11_product 6 = .ok (.invokevirtual 160, 3) := by decide +kernel
theorem dX11_product_9 : decode cX11_product 9 = .ok (.istore_n 2, 1) := by decide +kernel
theorem dX11_product_10 : decode cX11_product 10 = .ok (.aload_n 0, 1) := by decide +kernel
theorem dX11_product_11 : decode cX11_product 11 = .ok (.getfield 157, 3) := by decide +kernel
theorem dX11_product_14 : decode cX11_product 14 = .ok (.ifCond .ge 80, 3) := by decide +kernel
theorem dX11_product_17 : decode cX11_product 17 = .ok (.iload_n 2, 1) := by decide +kernel
theorem dX11_product_18 : decode cX11_product 18 = .ok (.bipush 42, 2) := by decide +kernel
theorem dX11_product_20 : decode cX11_product 20 = .ok (.if_icmp .eq 15, 3) := by decide +kernel
theorem dX11_product_23 : decode cX11_product 23 = .ok (.iload_n 2, 1) := by decide +kernel
theorem dX11_product_24 : decode cX11_product 24 = .ok (.bipush 47, 2) := by decide +kernel
theorem dX11_product_26 : decode cX11_product 26 = .ok (.if_icmp .eq 9, 3) := by decide +kernel
theorem dX11_product_29 : decode cX11_product 29 = .ok (.iload_n 2, 1) := by decide +kernel
theorem dX11_product_30 : decode cX11_product 30 = .ok (.bipush 37, 2) := by decide +kernel
theorem dX11_product_32 : decode cX11_product 32 = .ok (.if_icmp .ne 62, 3) := by decide +kernel
theorem dX11_product_35 : decode cX11_product 35 = .ok (.aload_n 0, 1) := by decide +kernel
theorem dX11_product_36 : decode cX11_product 36 = .ok (.dup, 1) := by decide +kernel
theorem dX11_product_37 : decode cX11_product 37 = .ok (.getfield 148, 3) := by decide +kernel
theorem dX11_product_40 : decode cX11_product 40 = .ok (.iconst 1, 1) := by decide +kernel
theorem dX11_product_41 : decode cX11_product 41 = .ok (.iadd, 1) := by decide +kernel
theorem dX11_product_42 : decode cX11_product 42 = .ok (.putfield 148, 3) := by decide +kernel
theorem dX11_product_45 : decode cX11_product 45 = .ok (.aload_n 0, 1) := by decide +kernel
theorem dX11_product_46 : decode cX11_product 46 = .ok (.invokevirtual 179, 3) := by decide +kernel
theorem dX11_product_49 : decode cX11_product 49 = .ok (.istore_n 3, 1) := by decide +kernel
theorem dX11_product_50 : decode cX11_product 50 = .ok (.iload_n 2, 1) := by decide +kernel
theorem dX11_product_51 : decode cX11_product 51 = .ok (.bipush 42, 2) := by decide +kernel
theorem dX11_product_53 : decode cX11_product 53 = .ok (.if_icmp .ne 9, 3) := by decide +kernel
theorem dX11_product_56 : decode cX11_product 56 = .ok (.iload_n 1, 1) := by decide +kernel
theorem dX11_product_57 : decode cX11_product 57 = .ok (.iload_n 3, 1) := by decide +kernel
theorem dX11_product_58 : decode cX11_product 58 = .ok (.imul, 1) := by decide +kernel
theorem dX11_product_59 : decode cX11_product 59 = .ok (.goto 26, 3) := by decide +kernel
theorem dX11_product_62 : decode cX11_product 62 = .ok (.iload_n 3, 1) := by decide +kernel
theorem dX11_product_63 : decode cX11_product 63 = .ok (.ifCond .ne 7, 3) := by decide +kernel
theorem dX11_product_66 : decode cX11_product 66 = .ok (.iconst 0, 1) := by decide +kernel
theorem dX11_product_67 : decode cX11_product 67 = .ok (.goto 18, 3) := by decide +kernel
theorem dX11_product_70 : decode cX11_product 70 = .ok (.iload_n 2, 1) := by decide +kernel
theorem dX11_product_71 : decode cX11_product 71 = .ok (.bipush 47, 2) := by decide +kernel
theorem dX11_product_73 : decode cX11_product 73 = .ok (.if_icmp .ne 9, 3) := by decide +kernel
theorem dX11_product_76 : decode cX11_product 76 = .ok (.iload_n 1, 1) := by decide +kernel
theorem dX11_product_77 : decode cX11_product 77 = .ok (.iload_n 3, 1) := by decide +kernel
theorem dX11_product_78 : decode cX11_product 78 = .ok (.idiv, 1) := by decide +kernel
theorem dX11_product_79 : decode cX11_product 79 = .ok (.goto 6, 3) := by decide +kernel
theorem dX11_product_82 : decode cX11_product 82 = .ok (.iload_n 1, 1) := by decide +kernel
theorem dX11_product_83 : decode cX11_product 83 = .ok (.iload_n 3, 1) := by decide +kernel
theorem dX11_product_84 : decode cX11_product 84 = .ok (.irem, 1) := by decide +kernel
theorem dX11_product_85 : decode cX11_product 85 = .ok (.istore_n 1, 1) := by decide +kernel
theorem dX11_product_86 : decode cX11_product 86 = .ok (.aload_n 0, 1) := by decide +kernel
theorem dX11_product_87 : decode cX11_product 87 = .ok (.invokevirtual 160, 3) := by decide +kernel
theorem dX11_product_90 : decode cX11_product 90 = .ok (.istore_n 2, 1) := by decide +kernel
theorem dX11_product_91 : decode cX11_product 91 = .ok (.goto (-81), 3) := by decide +kernel
theorem dX11_product_94 : decode cX11_product 94 = .ok (.iload_n 1, 1) := by decide +kernel
theorem dX11_product_95 : decode cX11_product 95 = .ok (.ireturn, 1) := by decide +kernel
theorem dX11_sums_0 : decode cX11_sums 0 = .ok (.aload_n 0, 1) := by decide +kernel
theorem dX11_sums_1 : decode cX11_sums 1 = .ok (.invokevirtual 176, 3) := by decide +kernel
theorem dX11_sums_4 : decode cX11_sums 4 = .ok (.istore_n 1, 1) := by decide +kernel
theorem dX11_sums_5 : decode cX11_sums 5 = .ok (.aload_n 0, 1) := by decide +kernel
theorem dX11_sums_6 : decode cX11_sums 6 = .ok (.getfield 157, 3) := by decide +kernel
theorem dX11_sums_9 : decode cX11_sums 9 = .ok (.ifCond .ge 68, 3) := by decide +kernel
theorem dX11_sums_12 : decode cX11_sums 12 = .ok (.aload_n 0, 1) := by decide +kernel
theorem dX11_sums_13 : decode cX11_sums 13 = .ok (.invokevirtual 160, 3) := by decide +kernel
theorem dX11_sums_16 : decode cX11_sums 16 = .ok (.bipush 43, 2) := by decide +kernel
theorem dX11_sums_18 : decode cX11_sums 18 = .ok (.if_icmp .eq 12, 3) := by decide +kernel
theorem dX11_sums_21 : decode cX11_sums 21 = .ok (.aload_n 0, 1) := by decide +kernel
theorem dX11_sums_22 : decode cX11_sums 22 = .ok (.invokevirtual 160, 3) := by decide +kernel
theorem dX11_sums_25 : decode cX11_sums 25 = .ok (.bipush 45, 2) := by decide +kernel
theorem dX11_sums_27 : decode cX11_sums 27 = .ok (.if_icmp .ne 50, 3) := by decide +kernel
theorem dX11_sums_30 : decode cX11_sums 30 = .ok (.aload_n 0, 1) := by decide +kernel
theorem dX11_sums_31 : decode cX11_sums 31 = .ok (.invokevirtual 160, 3) := by decide +kernel
theorem dX11_sums_34 : decode cX11_sums 34 = .ok (.bipush 43, 2) := by decide +kernel
theorem dX11_sums_36 : decode cX11_sums 36 = .ok (.if_icmp .ne 7, 3) := by decide +kernel
theorem dX11_sums_39 : decode cX11_sums 39 = .ok (.iconst 1, 1) := by decide +kernel
theorem dX11_sums_40 : decode cX11_sums 40 = .ok (.goto 4, 3) := by decide +kernel
theorem dX11_sums_43 : decode cX11_sums 43 = .ok (.iconst 0, 1) := by decide +kernel
theorem dX11_sums_44 : decode cX11_sums 44 = .ok (.istore_n 2, 1) := by decide +kernel
theorem dX11_sums_45 : decode cX11_sums 45 = .ok (.aload_n 0, 1) := by decide +kernel
theorem dX11_sums_46 : decode cX11_sums 46 = .ok (.dup, 1) := by decide +kernel
theorem dX11_sums_47 : decode cX11_sums 47 = .ok (.getfield 148, 3) := by decide +kernel
theorem dX11_sums_50 : decode cX11_sums 50 = .ok (.iconst 1, 1) := by decide +kernel
theorem dX11_sums_51 : decode cX11_sums 51 = .ok (.iadd, 1) := by decide +kernel
theorem dX11_sums_52 : decode cX11_sums 52 = .ok (.putfield 148, 3) := by decide +kernel
theorem dX11_sums_55 : decode cX11_sums 55 = .ok (.aload_n 0, 1) := by decide +kernel
theorem dX11_sums_56 : decode cX11_sums 56 = .ok (.invokevirtual 176, 3) := by decide +kernel
theorem dX11_sums_59 : decode cX11_sums 59 = .ok (.istore_n 3, 1) := by decide +kernel
theorem dX11_sums_60 : decode cX11_sums 60 = .ok (.iload_n 2, 1) := by decide +kernel
theorem dX11_sums_61 : decode cX11_sums 61 = .ok (.ifCond .eq 9, 3) := by decide +kernel
theorem dX11_sums_64 : decode cX11_sums 64 = .ok (.iload_n 1, 1) := by decide +kernel
theorem dX11_sums_65 : decode cX11_sums 65 = .ok (.iload_n 3, 1) := by decide +kernel
theorem dX11_sums_66 : decode cX11_sums 66 = .ok (.iadd, 1) := by decide +kernel
theorem dX11_sums_67 : decode cX11_sums 67 = .ok (.goto 6, 3) := by decide +kernel
theorem dX11_sums_70 : decode cX11_sums 70 = .ok (.iload_n 1, 1) := by decide +kernel
theorem dX11_sums_71 : decode cX11_sums 71 = .ok (.iload_n 3, 1) := by decide +kernel
theorem dX11_sums_72 : decode cX11_sums 72 = .ok (.isub, 1) := by decide +kernel
theorem dX11_sums_73 : decode cX11_sums 73 = .ok (.istore_n 1, 1) := by decide +kernel
theorem dX11_sums_74 : decode cX11_sums 74 = .ok (.goto (-69), 3) := by decide +kernel
theorem dX11_sums_77 : decode cX11_sums 77 = .ok (.iload_n 1, 1) := by decide +kernel
theorem dX11_sums_78 : decode cX11_sums 78 = .ok (.ireturn, 1) := by decide +kernel
theorem Mo_both_succ (N : Nat) (d : Nat) : Mo_both N (d + 1) = Mo_both_B N (Mo_both N d) (Mo_compared N d) (Mo_either N d) (Mo_one N d) (Mo_product N d) (Mo_sums N d) := rfl
theorem Mo_compared_succ (N : Nat) (d : Nat) : Mo_compared N (d + 1) = Mo_compared_B N (Mo_both N d) (Mo_compared N d) (Mo_either N d) (Mo_one N d) (Mo_product N d) (Mo_sums N d) := rfl
theorem Mo_either_succ (N : Nat) (d : Nat) : Mo_either N (d + 1) = Mo_either_B N (Mo_both N d) (Mo_compared N d) (Mo_either N d) (Mo_one N d) (Mo_product N d) (Mo_sums N d) := rfl
theorem Mo_one_succ (N : Nat) (d : Nat) : Mo_one N (d + 1) = Mo_one_B N (Mo_both N d) (Mo_compared N d) (Mo_either N d) (Mo_one N d) (Mo_product N d) (Mo_sums N d) := rfl
theorem Mo_product_succ (N : Nat) (d : Nat) : Mo_product N (d + 1) = Mo_product_B N (Mo_both N d) (Mo_compared N d) (Mo_either N d) (Mo_one N d) (Mo_product N d) (Mo_sums N d) := rfl
theorem Mo_sums_succ (N : Nat) (d : Nat) : Mo_sums N (d + 1) = Mo_sums_B N (Mo_both N d) (Mo_compared N d) (Mo_either N d) (Mo_one N d) (Mo_product N d) (Mo_sums N d) := rfl
section
variable {p : Program} {l : Launch} {e : Env} {s : State} {m : MethodId} {args : Array Value} {below : List Frame} {meth : Method} {c : Code} {H : Heap} {locs : List Loc} {E : Ev} {S V : St} {ls : Array Slot}
set_option maxRecDepth 20000 in
theorem w_Mo_both_b5 {N : Nat} {d : Nat} {f_both : St → Option (Int32 × St)} {f_compared : St → Option (Int32 × St)} {f_either : St → Option (Int32 × St)} {f_one : St → Option (Int32 × St)} {f_product : St → Option (Int32 × St)} {f_sums : St → Option (Int32 × St)} {k5 : (St × Int32) → Option (Int32 × St)} {l1 : Int32} {r : Int32} {S9 : St} (C : Cx p s m args meth c E cX11_both 3 RX11 (some .int)) (hr_both : ∀ {S : St} {r : Int32} {S9 : St}, f_both S = some (r, S9) → Ct l (wM V) yX11_both cX11_both 3 (some .int) (d + 3) (fun E => [.ref (ea E 44)]) S (fun E => some (.int r)) S9) (hr_compared : ∀ {S : St} {r : Int32} {S9 : St}, f_compared S = some (r, S9) → Ct l (wM V) yX11_compared cX11_compared 4 (some .int) (d + 3) (fun E => [.ref (ea E 44)]) S (fun E => some (.int r)) S9) (hr_either : ∀ {S : St} {r : Int32} {S9 : St}, f_either S = some (r, S9) → Ct l (wM V) yX11_either cX11_either 3 (some .int) (d + 3) (fun E => [.ref (ea E 44)]) S (fun E => some (.int r)) S9) (hr_one : ∀ {S : St} {r : Int32} {S9 : St}, f_one S = some (r, S9) → Ct l (wM V) yX11_one cX11_one 5 (some .int) (d + 3) (fun E => [.ref (ea E 44)]) S (fun E => some (.int r)) S9) (hr_product : ∀ {S : St} {r : Int32} {S9 : St}, f_product S = some (r, S9) → Ct l (wM V) yX11_product cX11_product 4 (some .int) (d + 3) (fun E => [.ref (ea E 44)]) S (fun E => some (.int r)) S9) (hr_sums : ∀ {S : St} {r : Int32} {S9 : St}, f_sums S = some (r, S9) → Ct l (wM V) yX11_sums cX11_sums 4 (some .int) (d + 3) (fun E => [.ref (ea E 44)]) S (fun E => some (.int r)) S9) (hk5 : ∀ x, k5 x = some (r, S9) → ∀ (H : Heap) (locs : List Loc) (ls : Array Slot), Wd E (wM V E) s.heap x.1 H locs → lv_has ls 3 [(0, .ref (ea E 44)), (1, .int x.2)] → W p l e (rmh (d + 1 + 3)) s m args below meth c H locs 0 0 (MQ below (QW E (wM V E) (some (.int r)) S9) args s 0 0 (eA E)) (F0 m 5 ls [])) (hw : Wd E (wM V E) s.heap S H locs) (hl : lv_has ls 3 [(0, .ref (ea E 44)), (1, .int l1)]) (hf : Mo_both_b5 N f_both f_compared f_either f_one f_product f_sums k5 S l1 = some (r, S9)) : W p l e (rmh (d + 1 + 3)) s m args below meth c H locs 0 0 (MQ below (QW E (wM V E) (some (.int r)) S9) args s 0 0 (eA E)) (F0 m 5 ls []) := by
  have hx := C.1
  have hb := C.2.1
  unfold Mo_both_b5 at hf
  refine lv_aload_n hx hb dX11_both_5 rfl (lv_at hl 0 rfl) ?_
  refine lv_bipush (v := 38) hx hb dX11_both_6 kb_38 ?_
  obtain ⟨r2, S1, hr, hf⟩ := hf_2 hf
  refine inv_Vi (q0 := 44) (ci := 11) (As := [.int (38 : Int32)]) lk_X11_167 C hw rfl rfl rfl (t_Mo_takes hr) rfl hl.1 dX11_both_8 rfl (by omega) (by decide) (Nat.le_of_ble_eq_true rfl) rfl (fun H locs hw => ?_)
  refine lv_if_eq (tgt := 36) hx hb dX11_both_11 (by decide) (fun q => ?_) (fun q => ?_)
  · have hf := hf_t q hf
    refine lv_iload_n hx hb dX11_both_36 rfl (lv_at hl 1 rfl) ?_
    exact ret_iS C hw dX11_both_37 hf
  · have hf := hf_f q hf
    refine lv_aload_n hx hb dX11_both_14 rfl (lv_at hl 0 rfl) ?_
    obtain ⟨r4, S3, hr, hf⟩ := hf_2 hf
    refine inv_Vi (q0 := 44) (ci := 11) (As := []) lk_X11_170 C hw rfl rfl rfl (hr_compared hr) rfl hl.1 dX11_both_15 rfl (by omega) (by decide) (Nat.le_of_ble_eq_true rfl) rfl (fun H locs hw => ?_)
    refine lv_istore_n (lv' := [(2, .int r4), (0, .ref (ea E 44)), (1, .int l1)]) hx hb dX11_both_18 rfl hl (by decide) rfl (fun ls hl => ?_)
    refine lv_iload_n hx hb dX11_both_19 rfl (lv_at hl 2 rfl) ?_
    refine lv_if_eq (tgt := 31) hx hb dX11_both_20 (by decide) (fun q => ?_) (fun q => ?_)
    · have hf := hf_t q hf
      refine lv_iconst (v := 0) hx hb dX11_both_31 kc_0 ?_
      refine lv_istore_n (lv' := [(1, .int (0 : Int32)), (2, .int r4), (0, .ref (ea E 44))]) hx hb dX11_both_32 rfl hl (by decide) rfl (fun ls hl => ?_)
      refine lv_goto (tgt := 5) hx hb dX11_both_33 (by decide) ?_
      exact hk5 _ hf _ _ _ hw (lv_sub hl [2, 0] rfl)
    · have hf := hf_f q hf
      refine lv_iload_n hx hb dX11_both_23 rfl (lv_at hl 0 rfl) ?_
      refine lv_if_eq (tgt := 31) hx hb dX11_both_24 (by decide) (fun q => ?_) (fun q => ?_)
      · have hf := hf_t q hf
        refine lv_iconst (v := 0) hx hb dX11_both_31 kc_0 ?_
        refine lv_istore_n (lv' := [(1, .int (0 : Int32)), (2, .int r4), (0, .ref (ea E 44))]) hx hb dX11_both_32 rfl hl (by decide) rfl (fun ls hl => ?_)
        refine lv_goto (tgt := 5) hx hb dX11_both_33 (by decide) ?_
        exact hk5 _ hf _ _ _ hw (lv_sub hl [2, 0] rfl)
      · have hf := hf_f q hf
        refine lv_iconst (v := 1) hx hb dX11_both_27 kc_1 ?_
        refine lv_goto (tgt := 32) hx hb dX11_both_28 (by decide) ?_
        refine lv_istore_n (lv' := [(1, .int (1 : Int32)), (2, .int r4), (0, .ref (ea E 44))]) hx hb dX11_both_32 rfl hl (by decide) rfl (fun ls hl => ?_)
        refine lv_goto (tgt := 5) hx hb dX11_both_33 (by decide) ?_
        exact hk5 _ hf _ _ _ hw (lv_sub hl [2, 0] rfl)
theorem w_Mo_both_L5 {N : Nat} {d : Nat} {f_both : St → Option (Int32 × St)} {f_compared : St → Option (Int32 × St)} {f_either : St → Option (Int32 × St)} {f_one : St → Option (Int32 × St)} {f_product : St → Option (Int32 × St)} {f_sums : St → Option (Int32 × St)} {r : Int32} {S9 : St} (C : Cx p s m args meth c E cX11_both 3 RX11 (some .int)) (hr_both : ∀ {S : St} {r : Int32} {S9 : St}, f_both S = some (r, S9) → Ct l (wM V) yX11_both cX11_both 3 (some .int) (d + 3) (fun E => [.ref (ea E 44)]) S (fun E => some (.int r)) S9) (hr_compared : ∀ {S : St} {r : Int32} {S9 : St}, f_compared S = some (r, S9) → Ct l (wM V) yX11_compared cX11_compared 4 (some .int) (d + 3) (fun E => [.ref (ea E 44)]) S (fun E => some (.int r)) S9) (hr_either : ∀ {S : St} {r : Int32} {S9 : St}, f_either S = some (r, S9) → Ct l (wM V) yX11_either cX11_either 3 (some .int) (d + 3) (fun E => [.ref (ea E 44)]) S (fun E => some (.int r)) S9) (hr_one : ∀ {S : St} {r : Int32} {S9 : St}, f_one S = some (r, S9) → Ct l (wM V) yX11_one cX11_one 5 (some .int) (d + 3) (fun E => [.ref (ea E 44)]) S (fun E => some (.int r)) S9) (hr_product : ∀ {S : St} {r : Int32} {S9 : St}, f_product S = some (r, S9) → Ct l (wM V) yX11_product cX11_product 4 (some .int) (d + 3) (fun E => [.ref (ea E 44)]) S (fun E => some (.int r)) S9) (hr_sums : ∀ {S : St} {r : Int32} {S9 : St}, f_sums S = some (r, S9) → Ct l (wM V) yX11_sums cX11_sums 4 (some .int) (d + 3) (fun E => [.ref (ea E 44)]) S (fun E => some (.int r)) S9) : ∀ x, Mo_both_L5 N f_both f_compared f_either f_one f_product f_sums x = some (r, S9) → ∀ (H : Heap) (locs : List Loc) (ls : Array Slot), Wd E (wM V E) s.heap x.1 H locs → lv_has ls 3 [(0, .ref (ea E 44)), (1, .int x.2)] → W p l e (rmh (d + 1 + 3)) s m args below meth c H locs 0 0 (MQ below (QW E (wM V E) (some (.int r)) S9) args s 0 0 (eA E)) (F0 m 5 ls []) :=
  lp_W (fun k x hk hf H locs ls hw hl => w_Mo_both_b5 C hr_both hr_compared hr_either hr_one hr_product hr_sums hk hw hl hf) N
set_option maxRecDepth 20000 in
theorem w_Mo_both_B {N : Nat} {d : Nat} {f_both : St → Option (Int32 × St)} {f_compared : St → Option (Int32 × St)} {f_either : St → Option (Int32 × St)} {f_one : St → Option (Int32 × St)} {f_product : St → Option (Int32 × St)} {f_sums : St → Option (Int32 × St)} {r : Int32} {S9 : St} (C : Cx p s m args meth c E cX11_both 3 RX11 (some .int)) (hr_both : ∀ {S : St} {r : Int32} {S9 : St}, f_both S = some (r, S9) → Ct l (wM V) yX11_both cX11_both 3 (some .int) (d + 3) (fun E => [.ref (ea E 44)]) S (fun E => some (.int r)) S9) (hr_compared : ∀ {S : St} {r : Int32} {S9 : St}, f_compared S = some (r, S9) → Ct l (wM V) yX11_compared cX11_compared 4 (some .int) (d + 3) (fun E => [.ref (ea E 44)]) S (fun E => some (.int r)) S9) (hr_either : ∀ {S : St} {r : Int32} {S9 : St}, f_either S = some (r, S9) → Ct l (wM V) yX11_either cX11_either 3 (some .int) (d + 3) (fun E => [.ref (ea E 44)]) S (fun E => some (.int r)) S9) (hr_one : ∀ {S : St} {r : Int32} {S9 : St}, f_one S = some (r, S9) → Ct l (wM V) yX11_one cX11_one 5 (some .int) (d + 3) (fun E => [.ref (ea E 44)]) S (fun E => some (.int r)) S9) (hr_product : ∀ {S : St} {r : Int32} {S9 : St}, f_product S = some (r, S9) → Ct l (wM V) yX11_product cX11_product 4 (some .int) (d + 3) (fun E => [.ref (ea E 44)]) S (fun E => some (.int r)) S9) (hr_sums : ∀ {S : St} {r : Int32} {S9 : St}, f_sums S = some (r, S9) → Ct l (wM V) yX11_sums cX11_sums 4 (some .int) (d + 3) (fun E => [.ref (ea E 44)]) S (fun E => some (.int r)) S9) (hw : Wd E (wM V E) s.heap S H locs) (hl : lv_has ls 3 [(0, .ref (ea E 44))]) (hf : Mo_both_B N f_both f_compared f_either f_one f_product f_sums S = some (r, S9)) : W p l e (rmh (d + 1 + 3)) s m args below meth c H locs 0 0 (MQ below (QW E (wM V E) (some (.int r)) S9) args s 0 0 (eA E)) (F0 m 0 ls []) := by
  have hx := C.1
  have hb := C.2.1
  unfold Mo_both_B at hf
  refine lv_aload_n hx hb dX11_both_0 rfl (lv_at hl 0 rfl) ?_
  obtain ⟨r2, S1, hr, hf⟩ := hf_2 hf
  refine inv_Vi (q0 := 44) (ci := 11) (As := []) lk_X11_170 C hw rfl rfl rfl (hr_compared hr) rfl hl.1 dX11_both_1 rfl (by omega) (by decide) (Nat.le_of_ble_eq_true rfl) rfl (fun H locs hw => ?_)
  refine lv_istore_n (lv' := [(1, .int r2), (0, .ref (ea E 44))]) hx hb dX11_both_4 rfl hl (by decide) rfl (fun ls hl => ?_)
  exact w_Mo_both_L5 C hr_both hr_compared hr_either hr_one hr_product hr_sums _ hf _ _ _ hw (lv_sub hl [1, 0] rfl)
set_option maxRecDepth 20000 in
theorem w_Mo_compared_b37 {N : Nat} {d : Nat} {f_both : St → Option (Int32 × St)} {f_compared : St → Option (Int32 × St)} {f_either : St → Option (Int32 × St)} {f_one : St → Option (Int32 × St)} {f_product : St → Option (Int32 × St)} {f_sums : St → Option (Int32 × St)} {l1 : Int32} {l2 : Int32} {r : Int32} {S9 : St} (C : Cx p s m args meth c E cX11_compared 4 RX11 (some .int)) (hr_both : ∀ {S : St} {r : Int32} {S9 : St}, f_both S = some (r, S9) → Ct l (wM V) yX11_both cX11_both 3 (some .int) (d + 3) (fun E => [.ref (ea E 44)]) S (fun E => some (.int r)) S9) (hr_compared : ∀ {S : St} {r : Int32} {S9 : St}, f_compared S = some (r, S9) → Ct l (wM V) yX11_compared cX11_compared 4 (some .int) (d + 3) (fun E => [.ref (ea E 44)]) S (fun E => some (.int r)) S9) (hr_either : ∀ {S : St} {r : Int32} {S9 : St}, f_either S = some (r, S9) → Ct l (wM V) yX11_either cX11_either 3 (some .int) (d + 3) (fun E => [.ref (ea E 44)]) S (fun E => some (.int r)) S9) (hr_one : ∀ {S : St} {r : Int32} {S9 : St}, f_one S = some (r, S9) → Ct l (wM V) yX11_one cX11_one 5 (some .int) (d + 3) (fun E => [.ref (ea E 44)]) S (fun E => some (.int r)) S9) (hr_product : ∀ {S : St} {r : Int32} {S9 : St}, f_product S = some (r, S9) → Ct l (wM V) yX11_product cX11_product 4 (some .int) (d + 3) (fun E => [.ref (ea E 44)]) S (fun E => some (.int r)) S9) (hr_sums : ∀ {S : St} {r : Int32} {S9 : St}, f_sums S = some (r, S9) → Ct l (wM V) yX11_sums cX11_sums 4 (some .int) (d + 3) (fun E => [.ref (ea E 44)]) S (fun E => some (.int r)) S9) (hw : Wd E (wM V E) s.heap S H locs) (hl : lv_has ls 4 [(0, .ref (ea E 44)), (1, .int l1), (2, .int l2)]) (hf : Mo_compared_b37 N f_both f_compared f_either f_one f_product f_sums S l1 l2 = some (r, S9)) : W p l e (rmh (d + 1 + 3)) s m args below meth c H locs 0 0 (MQ below (QW E (wM V E) (some (.int r)) S9) args s 0 0 (eA E)) (F0 m 37 ls []) := by
  have hx := C.1
  have hb := C.2.1
  unfold Mo_compared_b37 at hf
  refine lv_aload_n hx hb dX11_compared_37 rfl (lv_at hl 0 rfl) ?_
  refine lv_dup hx hb dX11_compared_38 rfl ?_
  refine get_44_15 C hw q_1166 dX11_compared_39 ?_
  refine lv_iconst (v := 1) hx hb dX11_compared_42 kc_1 ?_
  refine lv_iadd hx hb dX11_compared_43 ?_
  refine put_44_15 C hw q_1166 dX11_compared_44 (fun H locs hw => ?_)
  refine nm_S hf hw (fun S1 hf hw => ?_)
  refine lv_aload_n hx hb dX11_compared_47 rfl (lv_at hl 0 rfl) ?_
  obtain ⟨r3, S2, hr, hf⟩ := hf_2 hf
  refine inv_Vi (q0 := 44) (ci := 11) (As := []) lk_X11_173 C hw rfl rfl rfl (hr_sums hr) rfl hl.1 dX11_compared_48 rfl (by omega) (by decide) (Nat.le_of_ble_eq_true rfl) rfl (fun H locs hw => ?_)
  refine lv_istore_n (lv' := [(3, .int r3), (0, .ref (ea E 44)), (1, .int l1), (2, .int l2)]) hx hb dX11_compared_51 rfl hl (by decide) rfl (fun ls hl => ?_)
  refine lv_iload_n hx hb dX11_compared_52 rfl (lv_at hl 3 rfl) ?_
  refine lv_bipush (v := 60) hx hb dX11_compared_53 kb_60 ?_
  refine lv_icmp_ne (tgt := 66) hx hb dX11_compared_55 (by decide) (fun q => ?_) (fun q => ?_)
  · have hf := hf_f q hf
    refine lv_iload_n hx hb dX11_compared_66 rfl (lv_at hl 3 rfl) ?_
    refine lv_bipush (v := 61) hx hb dX11_compared_67 kb_61 ?_
    refine lv_icmp_ne (tgt := 80) hx hb dX11_compared_69 (by decide) (fun q => ?_) (fun q => ?_)
    · have hf := hf_f q hf
      refine lv_iload_n hx hb dX11_compared_80 rfl (lv_at hl 2 rfl) ?_
      refine lv_iload_n hx hb dX11_compared_81 rfl (lv_at hl 0 rfl) ?_
      refine lv_icmp_le (tgt := 89) hx hb dX11_compared_82 (by decide) (fun q => ?_) (fun q => ?_)
      · have hf := hf_t q hf
        refine lv_iconst (v := 0) hx hb dX11_compared_89 kc_0 ?_
        exact ret_iS C hw dX11_compared_90 hf
      · have hf := hf_f q hf
        refine lv_iconst (v := 1) hx hb dX11_compared_85 kc_1 ?_
        refine lv_goto (tgt := 90) hx hb dX11_compared_86 (by decide) ?_
        exact ret_iS C hw dX11_compared_90 hf
    · have hf := hf_t q hf
      refine lv_iload_n hx hb dX11_compared_72 rfl (lv_at hl 2 rfl) ?_
      refine lv_iload_n hx hb dX11_compared_73 rfl (lv_at hl 0 rfl) ?_
      refine lv_icmp_ne (tgt := 89) hx hb dX11_compared_74 (by decide) (fun q => ?_) (fun q => ?_)
      · have hf := hf_f q hf
        refine lv_iconst (v := 0) hx hb dX11_compared_89 kc_0 ?_
        exact ret_iS C hw dX11_compared_90 hf
      · have hf := hf_t q hf
        refine lv_goto (tgt := 85) hx hb dX11_compared_77 (by decide) ?_
        refine lv_iconst (v := 1) hx hb dX11_compared_85 kc_1 ?_
        refine lv_goto (tgt := 90) hx hb dX11_compared_86 (by decide) ?_
        exact ret_iS C hw dX11_compared_90 hf
  · have hf := hf_t q hf
    refine lv_iload_n hx hb dX11_compared_58 rfl (lv_at hl 2 rfl) ?_
    refine lv_iload_n hx hb dX11_compared_59 rfl (lv_at hl 0 rfl) ?_
    refine lv_icmp_ge (tgt := 89) hx hb dX11_compared_60 (by decide) (fun q => ?_) (fun q => ?_)
    · have hf := hf_t q hf
      refine lv_iconst (v := 0) hx hb dX11_compared_89 kc_0 ?_
      exact ret_iS C hw dX11_compared_90 hf
    · have hf := hf_f q hf
      refine lv_goto (tgt := 85) hx hb dX11_compared_63 (by decide) ?_
      refine lv_iconst (v := 1) hx hb dX11_compared_85 kc_1 ?_
      refine lv_goto (tgt := 90) hx hb dX11_compared_86 (by decide) ?_
      exact ret_iS C hw dX11_compared_90 hf
set_option maxRecDepth 20000 in
theorem w_Mo_compared_B {N : Nat} {d : Nat} {f_both : St → Option (Int32 × St)} {f_compared : St → Option (Int32 × St)} {f_either : St → Option (Int32 × St)} {f_one : St → Option (Int32 × St)} {f_product : St → Option (Int32 × St)} {f_sums : St → Option (Int32 × St)} {r : Int32} {S9 : St} (C : Cx p s m args meth c E cX11_compared 4 RX11 (some .int)) (hr_both : ∀ {S : St} {r : Int32} {S9 : St}, f_both S = some (r, S9) → Ct l (wM V) yX11_both cX11_both 3 (some .int) (d + 3) (fun E => [.ref (ea E 44)]) S (fun E => some (.int r)) S9) (hr_compared : ∀ {S : St} {r : Int32} {S9 : St}, f_compared S = some (r, S9) → Ct l (wM V) yX11_compared cX11_compared 4 (some .int) (d + 3) (fun E => [.ref (ea E 44)]) S (fun E => some (.int r)) S9) (hr_either : ∀ {S : St} {r : Int32} {S9 : St}, f_either S = some (r, S9) → Ct l (wM V) yX11_either cX11_either 3 (some .int) (d + 3) (fun E => [.ref (ea E 44)]) S (fun E => some (.int r)) S9) (hr_one : ∀ {S : St} {r : Int32} {S9 : St}, f_one S = some (r, S9) → Ct l (wM V) yX11_one cX11_one 5 (some .int) (d + 3) (fun E => [.ref (ea E 44)]) S (fun E => some (.int r)) S9) (hr_product : ∀ {S : St} {r : Int32} {S9 : St}, f_product S = some (r, S9) → Ct l (wM V) yX11_product cX11_product 4 (some .int) (d + 3) (fun E => [.ref (ea E 44)]) S (fun E => some (.int r)) S9) (hr_sums : ∀ {S : St} {r : Int32} {S9 : St}, f_sums S = some (r, S9) → Ct l (wM V) yX11_sums cX11_sums 4 (some .int) (d + 3) (fun E => [.ref (ea E 44)]) S (fun E => some (.int r)) S9) (hw : Wd E (wM V E) s.heap S H locs) (hl : lv_has ls 4 [(0, .ref (ea E 44))]) (hf : Mo_compared_B N f_both f_compared f_either f_one f_product f_sums S = some (r, S9)) : W p l e (rmh (d + 1 + 3)) s m args below meth c H locs 0 0 (MQ below (QW E (wM V E) (some (.int r)) S9) args s 0 0 (eA E)) (F0 m 0 ls []) := by
  have hx := C.1
  have hb := C.2.1
  unfold Mo_compared_B at hf
  refine lv_aload_n hx hb dX11_compared_0 rfl (lv_at hl 0 rfl) ?_
  obtain ⟨r2, S1, hr, hf⟩ := hf_2 hf
  refine inv_Vi (q0 := 44) (ci := 11) (As := []) lk_X11_173 C hw rfl rfl rfl (hr_sums hr) rfl hl.1 dX11_compared_1 rfl (by omega) (by decide) (Nat.le_of_ble_eq_true rfl) rfl (fun H locs hw => ?_)
  refine lv_istore_n (lv' := [(1, .int r2), (0, .ref (ea E 44))]) hx hb dX11_compared_4 rfl hl (by decide) rfl (fun ls hl => ?_)
  refine lv_aload_n hx hb dX11_compared_5 rfl (lv_at hl 1 rfl) ?_
  obtain ⟨r3, hr, hf⟩ := hf_1 hf
  refine inv_Vi (q0 := 44) (ci := 11) (As := []) lk_X11_160 C hw rfl rfl rfl (t_Mo_byteAt hr) rfl hl.1 dX11_compared_6 rfl (by omega) (by decide) (Nat.le_of_ble_eq_true rfl) rfl (fun H locs hw => ?_)
  refine lv_istore_n (lv' := [(2, .int r3), (1, .int r2), (0, .ref (ea E 44))]) hx hb dX11_compared_9 rfl hl (by decide) rfl (fun ls hl => ?_)
  refine lv_aload_n hx hb dX11_compared_10 rfl (lv_at hl 2 rfl) ?_
  refine get_44_17 C hw q_1168 dX11_compared_11 ?_
  refine lv_if_ge (tgt := 35) hx hb dX11_compared_14 (by decide) (fun q => ?_) (fun q => ?_)
  · have hf := hf_t q hf
    refine lv_iload_n hx hb dX11_compared_35 rfl (lv_at hl 1 rfl) ?_
    exact ret_iS C hw dX11_compared_36 hf
  · have hf := hf_f q hf
    refine lv_iload_n hx hb dX11_compared_17 rfl (lv_at hl 0 rfl) ?_
    refine lv_bipush (v := 60) hx hb dX11_compared_18 kb_60 ?_
    refine lv_icmp_eq (tgt := 37) hx hb dX11_compared_20 (by decide) (fun q => ?_) (fun q => ?_)
    · have hf := hf_t q hf
      exact w_Mo_compared_b37 C hr_both hr_compared hr_either hr_one hr_product hr_sums hw (lv_sub hl [2, 1, 0] rfl) hf
    · have hf := hf_f q hf
      refine lv_iload_n hx hb dX11_compared_23 rfl (lv_at hl 0 rfl) ?_
      refine lv_bipush (v := 61) hx hb dX11_compared_24 kb_61 ?_
      refine lv_icmp_eq (tgt := 37) hx hb dX11_compared_26 (by decide) (fun q => ?_) (fun q => ?_)
      · have hf := hf_t q hf
        exact w_Mo_compared_b37 C hr_both hr_compared hr_either hr_one hr_product hr_sums hw (lv_sub hl [2, 1, 0] rfl) hf
      · have hf := hf_f q hf
        refine lv_iload_n hx hb dX11_compared_29 rfl (lv_at hl 0 rfl) ?_
        refine lv_bipush (v := 62) hx hb dX11_compared_30 kb_62 ?_
        refine lv_icmp_eq (tgt := 37) hx hb dX11_compared_32 (by decide) (fun q => ?_) (fun q => ?_)
        · have hf := hf_t q hf
          exact w_Mo_compared_b37 C hr_both hr_compared hr_either hr_one hr_product hr_sums hw (lv_sub hl [2, 1, 0] rfl) hf
        · have hf := hf_f q hf
          refine lv_iload_n hx hb dX11_compared_35 rfl (lv_at hl 1 rfl) ?_
          exact ret_iS C hw dX11_compared_36 hf
set_option maxRecDepth 20000 in
theorem w_Mo_either_b5 {N : Nat} {d : Nat} {f_both : St → Option (Int32 × St)} {f_compared : St → Option (Int32 × St)} {f_either : St → Option (Int32 × St)} {f_one : St → Option (Int32 × St)} {f_product : St → Option (Int32 × St)} {f_sums : St → Option (Int32 × St)} {k5 : (St × Int32) → Option (Int32 × St)} {l1 : Int32} {r : Int32} {S9 : St} (C : Cx p s m args meth c E cX11_either 3 RX11 (some .int)) (hr_both : ∀ {S : St} {r : Int32} {S9 : St}, f_both S = some (r, S9) → Ct l (wM V) yX11_both cX11_both 3 (some .int) (d + 3) (fun E => [.ref (ea E 44)]) S (fun E => some (.int r)) S9) (hr_compared : ∀ {S : St} {r : Int32} {S9 : St}, f_compared S = some (r, S9) → Ct l (wM V) yX11_compared cX11_compared 4 (some .int) (d + 3) (fun E => [.ref (ea E 44)]) S (fun E => some (.int r)) S9) (hr_either : ∀ {S : St} {r : Int32} {S9 : St}, f_either S = some (r, S9) → Ct l (wM V) yX11_either cX11_either 3 (some .int) (d + 3) (fun E => [.ref (ea E 44)]) S (fun E => some (.int r)) S9) (hr_one : ∀ {S : St} {r : Int32} {S9 : St}, f_one S = some (r, S9) → Ct l (wM V) yX11_one cX11_one 5 (some .int) (d + 3) (fun E => [.ref (ea E 44)]) S (fun E => some (.int r)) S9) (hr_product : ∀ {S : St} {r : Int32} {S9 : St}, f_product S = some (r, S9) → Ct l (wM V) yX11_product cX11_product 4 (some .int) (d + 3) (fun E => [.ref (ea E 44)]) S (fun E => some (.int r)) S9) (hr_sums : ∀ {S : St} {r : Int32} {S9 : St}, f_sums S = some (r, S9) → Ct l (wM V) yX11_sums cX11_sums 4 (some .int) (d + 3) (fun E => [.ref (ea E 44)]) S (fun E => some (.int r)) S9) (hk5 : ∀ x, k5 x = some (r, S9) → ∀ (H : Heap) (locs : List Loc) (ls : Array Slot), Wd E (wM V E) s.heap x.1 H locs → lv_has ls 3 [(0, .ref (ea E 44)), (1, .int x.2)] → W p l e (rmh (d + 1 + 3)) s m args below meth c H locs 0 0 (MQ below (QW E (wM V E) (some (.int r)) S9) args s 0 0 (eA E)) (F0 m 5 ls [])) (hw : Wd E (wM V E) s.heap S H locs) (hl : lv_has ls 3 [(0, .ref (ea E 44)), (1, .int l1)]) (hf : Mo_either_b5 N f_both f_compared f_either f_one f_product f_sums k5 S l1 = some (r, S9)) : W p l e (rmh (d + 1 + 3)) s m args below meth c H locs 0 0 (MQ below (QW E (wM V E) (some (.int r)) S9) args s 0 0 (eA E)) (F0 m 5 ls []) := by
  have hx := C.1
  have hb := C.2.1
  unfold Mo_either_b5 at hf
  refine lv_aload_n hx hb dX11_either_5 rfl (lv_at hl 0 rfl) ?_
  refine lv_bipush (v := 124) hx hb dX11_either_6 kb_124 ?_
  obtain ⟨r2, S1, hr, hf⟩ := hf_2 hf
  refine inv_Vi (q0 := 44) (ci := 11) (As := [.int (124 : Int32)]) lk_X11_167 C hw rfl rfl rfl (t_Mo_takes hr) rfl hl.1 dX11_either_8 rfl (by omega) (by decide) (Nat.le_of_ble_eq_true rfl) rfl (fun H locs hw => ?_)
  refine lv_if_eq (tgt := 36) hx hb dX11_either_11 (by decide) (fun q => ?_) (fun q => ?_)
  · have hf := hf_t q hf
    refine lv_iload_n hx hb dX11_either_36 rfl (lv_at hl 1 rfl) ?_
    exact ret_iS C hw dX11_either_37 hf
  · have hf := hf_f q hf
    refine lv_aload_n hx hb dX11_either_14 rfl (lv_at hl 0 rfl) ?_
    obtain ⟨r4, S3, hr, hf⟩ := hf_2 hf
    refine inv_Vi (q0 := 44) (ci := 11) (As := []) lk_X11_164 C hw rfl rfl rfl (hr_both hr) rfl hl.1 dX11_either_15 rfl (by omega) (by decide) (Nat.le_of_ble_eq_true rfl) rfl (fun H locs hw => ?_)
    refine lv_istore_n (lv' := [(2, .int r4), (0, .ref (ea E 44)), (1, .int l1)]) hx hb dX11_either_18 rfl hl (by decide) rfl (fun ls hl => ?_)
    refine lv_iload_n hx hb dX11_either_19 rfl (lv_at hl 2 rfl) ?_
    refine lv_if_ne (tgt := 27) hx hb dX11_either_20 (by decide) (fun q => ?_) (fun q => ?_)
    · have hf := hf_f q hf
      refine lv_iconst (v := 1) hx hb dX11_either_27 kc_1 ?_
      refine lv_goto (tgt := 32) hx hb dX11_either_28 (by decide) ?_
      refine lv_istore_n (lv' := [(1, .int (1 : Int32)), (2, .int r4), (0, .ref (ea E 44))]) hx hb dX11_either_32 rfl hl (by decide) rfl (fun ls hl => ?_)
      refine lv_goto (tgt := 5) hx hb dX11_either_33 (by decide) ?_
      exact hk5 _ hf _ _ _ hw (lv_sub hl [2, 0] rfl)
    · have hf := hf_t q hf
      refine lv_iload_n hx hb dX11_either_23 rfl (lv_at hl 0 rfl) ?_
      refine lv_if_eq (tgt := 31) hx hb dX11_either_24 (by decide) (fun q => ?_) (fun q => ?_)
      · have hf := hf_t q hf
        refine lv_iconst (v := 0) hx hb dX11_either_31 kc_0 ?_
        refine lv_istore_n (lv' := [(1, .int (0 : Int32)), (2, .int r4), (0, .ref (ea E 44))]) hx hb dX11_either_32 rfl hl (by decide) rfl (fun ls hl => ?_)
        refine lv_goto (tgt := 5) hx hb dX11_either_33 (by decide) ?_
        exact hk5 _ hf _ _ _ hw (lv_sub hl [2, 0] rfl)
      · have hf := hf_f q hf
        refine lv_iconst (v := 1) hx hb dX11_either_27 kc_1 ?_
        refine lv_goto (tgt := 32) hx hb dX11_either_28 (by decide) ?_
        refine lv_istore_n (lv' := [(1, .int (1 : Int32)), (2, .int r4), (0, .ref (ea E 44))]) hx hb dX11_either_32 rfl hl (by decide) rfl (fun ls hl => ?_)
        refine lv_goto (tgt := 5) hx hb dX11_either_33 (by decide) ?_
        exact hk5 _ hf _ _ _ hw (lv_sub hl [2, 0] rfl)
theorem w_Mo_either_L5 {N : Nat} {d : Nat} {f_both : St → Option (Int32 × St)} {f_compared : St → Option (Int32 × St)} {f_either : St → Option (Int32 × St)} {f_one : St → Option (Int32 × St)} {f_product : St → Option (Int32 × St)} {f_sums : St → Option (Int32 × St)} {r : Int32} {S9 : St} (C : Cx p s m args meth c E cX11_either 3 RX11 (some .int)) (hr_both : ∀ {S : St} {r : Int32} {S9 : St}, f_both S = some (r, S9) → Ct l (wM V) yX11_both cX11_both 3 (some .int) (d + 3) (fun E => [.ref (ea E 44)]) S (fun E => some (.int r)) S9) (hr_compared : ∀ {S : St} {r : Int32} {S9 : St}, f_compared S = some (r, S9) → Ct l (wM V) yX11_compared cX11_compared 4 (some .int) (d + 3) (fun E => [.ref (ea E 44)]) S (fun E => some (.int r)) S9) (hr_either : ∀ {S : St} {r : Int32} {S9 : St}, f_either S = some (r, S9) → Ct l (wM V) yX11_either cX11_either 3 (some .int) (d + 3) (fun E => [.ref (ea E 44)]) S (fun E => some (.int r)) S9) (hr_one : ∀ {S : St} {r : Int32} {S9 : St}, f_one S = some (r, S9) → Ct l (wM V) yX11_one cX11_one 5 (some .int) (d + 3) (fun E => [.ref (ea E 44)]) S (fun E => some (.int r)) S9) (hr_product : ∀ {S : St} {r : Int32} {S9 : St}, f_product S = some (r, S9) → Ct l (wM V) yX11_product cX11_product 4 (some .int) (d + 3) (fun E => [.ref (ea E 44)]) S (fun E => some (.int r)) S9) (hr_sums : ∀ {S : St} {r : Int32} {S9 : St}, f_sums S = some (r, S9) → Ct l (wM V) yX11_sums cX11_sums 4 (some .int) (d + 3) (fun E => [.ref (ea E 44)]) S (fun E => some (.int r)) S9) : ∀ x, Mo_either_L5 N f_both f_compared f_either f_one f_product f_sums x = some (r, S9) → ∀ (H : Heap) (locs : List Loc) (ls : Array Slot), Wd E (wM V E) s.heap x.1 H locs → lv_has ls 3 [(0, .ref (ea E 44)), (1, .int x.2)] → W p l e (rmh (d + 1 + 3)) s m args below meth c H locs 0 0 (MQ below (QW E (wM V E) (some (.int r)) S9) args s 0 0 (eA E)) (F0 m 5 ls []) :=
  lp_W (fun k x hk hf H locs ls hw hl => w_Mo_either_b5 C hr_both hr_compared hr_either hr_one hr_product hr_sums hk hw hl hf) N
set_option maxRecDepth 20000 in
theorem w_Mo_either_B {N : Nat} {d : Nat} {f_both : St → Option (Int32 × St)} {f_compared : St → Option (Int32 × St)} {f_either : St → Option (Int32 × St)} {f_one : St → Option (Int32 × St)} {f_product : St → Option (Int32 × St)} {f_sums : St → Option (Int32 × St)} {r : Int32} {S9 : St} (C : Cx p s m args meth c E cX11_either 3 RX11 (some .int)) (hr_both : ∀ {S : St} {r : Int32} {S9 : St}, f_both S = some (r, S9) → Ct l (wM V) yX11_both cX11_both 3 (some .int) (d + 3) (fun E => [.ref (ea E 44)]) S (fun E => some (.int r)) S9) (hr_compared : ∀ {S : St} {r : Int32} {S9 : St}, f_compared S = some (r, S9) → Ct l (wM V) yX11_compared cX11_compared 4 (some .int) (d + 3) (fun E => [.ref (ea E 44)]) S (fun E => some (.int r)) S9) (hr_either : ∀ {S : St} {r : Int32} {S9 : St}, f_either S = some (r, S9) → Ct l (wM V) yX11_either cX11_either 3 (some .int) (d + 3) (fun E => [.ref (ea E 44)]) S (fun E => some (.int r)) S9) (hr_one : ∀ {S : St} {r : Int32} {S9 : St}, f_one S = some (r, S9) → Ct l (wM V) yX11_one cX11_one 5 (some .int) (d + 3) (fun E => [.ref (ea E 44)]) S (fun E => some (.int r)) S9) (hr_product : ∀ {S : St} {r : Int32} {S9 : St}, f_product S = some (r, S9) → Ct l (wM V) yX11_product cX11_product 4 (some .int) (d + 3) (fun E => [.ref (ea E 44)]) S (fun E => some (.int r)) S9) (hr_sums : ∀ {S : St} {r : Int32} {S9 : St}, f_sums S = some (r, S9) → Ct l (wM V) yX11_sums cX11_sums 4 (some .int) (d + 3) (fun E => [.ref (ea E 44)]) S (fun E => some (.int r)) S9) (hw : Wd E (wM V E) s.heap S H locs) (hl : lv_has ls 3 [(0, .ref (ea E 44))]) (hf : Mo_either_B N f_both f_compared f_either f_one f_product f_sums S = some (r, S9)) : W p l e (rmh (d + 1 + 3)) s m args below meth c H locs 0 0 (MQ below (QW E (wM V E) (some (.int r)) S9) args s 0 0 (eA E)) (F0 m 0 ls []) := by
  have hx := C.1
  have hb := C.2.1
  unfold Mo_either_B at hf
  refine lv_aload_n hx hb dX11_either_0 rfl (lv_at hl 0 rfl) ?_
  obtain ⟨r2, S1, hr, hf⟩ := hf_2 hf
  refine inv_Vi (q0 := 44) (ci := 11) (As := []) lk_X11_164 C hw rfl rfl rfl (hr_both hr) rfl hl.1 dX11_either_1 rfl (by omega) (by decide) (Nat.le_of_ble_eq_true rfl) rfl (fun H locs hw => ?_)
  refine lv_istore_n (lv' := [(1, .int r2), (0, .ref (ea E 44))]) hx hb dX11_either_4 rfl hl (by decide) rfl (fun ls hl => ?_)
  exact w_Mo_either_L5 C hr_both hr_compared hr_either hr_one hr_product hr_sums _ hf _ _ _ hw (lv_sub hl [1, 0] rfl)
set_option maxRecDepth 20000 in
theorem w_Mo_one_b104 {N : Nat} {d : Nat} {f_both : St → Option (Int32 × St)} {f_compared : St → Option (Int32 × St)} {f_either : St → Option (Int32 × St)} {f_one : St → Option (Int32 × St)} {f_product : St → Option (Int32 × St)} {f_sums : St → Option (Int32 × St)} {l1 : Int32} {l2 : Int32} {r : Int32} {S9 : St} (C : Cx p s m args meth c E cX11_one 5 RX11 (some .int)) (hr_both : ∀ {S : St} {r : Int32} {S9 : St}, f_both S = some (r, S9) → Ct l (wM V) yX11_both cX11_both 3 (some .int) (d + 3) (fun E => [.ref (ea E 44)]) S (fun E => some (.int r)) S9) (hr_compared : ∀ {S : St} {r : Int32} {S9 : St}, f_compared S = some (r, S9) → Ct l (wM V) yX11_compared cX11_compared 4 (some .int) (d + 3) (fun E => [.ref (ea E 44)]) S (fun E => some (.int r)) S9) (hr_either : ∀ {S : St} {r : Int32} {S9 : St}, f_either S = some (r, S9) → Ct l (wM V) yX11_either cX11_either 3 (some .int) (d + 3) (fun E => [.ref (ea E 44)]) S (fun E => some (.int r)) S9) (hr_one : ∀ {S : St} {r : Int32} {S9 : St}, f_one S = some (r, S9) → Ct l (wM V) yX11_one cX11_one 5 (some .int) (d + 3) (fun E => [.ref (ea E 44)]) S (fun E => some (.int r)) S9) (hr_product : ∀ {S : St} {r : Int32} {S9 : St}, f_product S = some (r, S9) → Ct l (wM V) yX11_product cX11_product 4 (some .int) (d + 3) (fun E => [.ref (ea E 44)]) S (fun E => some (.int r)) S9) (hr_sums : ∀ {S : St} {r : Int32} {S9 : St}, f_sums S = some (r, S9) → Ct l (wM V) yX11_sums cX11_sums 4 (some .int) (d + 3) (fun E => [.ref (ea E 44)]) S (fun E => some (.int r)) S9) (hw : Wd E (wM V E) s.heap S H locs) (hl : lv_has ls 5 [(0, .ref (ea E 44)), (1, .int l1), (2, .int l2)]) (hf : Mo_one_b104 N f_both f_compared f_either f_one f_product f_sums S l1 l2 = some (r, S9)) : W p l e (rmh (d + 1 + 3)) s m args below meth c H locs 0 0 (MQ below (QW E (wM V E) (some (.int r)) S9) args s 0 0 (eA E)) (F0 m 104 ls []) := by
  have hx := C.1
  have hb := C.2.1
  unfold Mo_one_b104 at hf
  refine lv_aload_n hx hb dX11_one_104 rfl (lv_at hl 0 rfl) ?_
  refine lv_dup hx hb dX11_one_105 rfl ?_
  refine get_44_18 C hw q_1169 dX11_one_106 ?_
  refine lv_iconst (v := 1) hx hb dX11_one_109 kc_1 ?_
  refine lv_isub hx hb dX11_one_110 ?_
  refine put_44_18 C hw q_1169 dX11_one_111 (fun H locs hw => ?_)
  refine nm_S hf hw (fun S1 hf hw => ?_)
  refine lv_iload_n hx hb dX11_one_114 rfl (lv_at hl 1 rfl) ?_
  refine lv_bipush (v := 40) hx hb dX11_one_115 kb_40 ?_
  refine lv_icmp_ne (tgt := 124) hx hb dX11_one_117 (by decide) (fun q => ?_) (fun q => ?_)
  · have hf := hf_f q hf
    refine lv_iload_n hx hb dX11_one_124 rfl (lv_at hl 1 rfl) ?_
    refine lv_bipush (v := 45) hx hb dX11_one_125 kb_45 ?_
    refine lv_icmp_ne (tgt := 135) hx hb dX11_one_127 (by decide) (fun q => ?_) (fun q => ?_)
    · have hf := hf_f q hf
      refine lv_iload_n hx hb dX11_one_135 rfl (lv_at hl 2 rfl) ?_
      refine lv_if_ne (tgt := 143) hx hb dX11_one_136 (by decide) (fun q => ?_) (fun q => ?_)
      · have hf := hf_f q hf
        refine lv_iconst (v := 0) hx hb dX11_one_143 kc_0 ?_
        exact ret_iS C hw dX11_one_144 hf
      · have hf := hf_t q hf
        refine lv_iconst (v := 1) hx hb dX11_one_139 kc_1 ?_
        refine lv_goto (tgt := 144) hx hb dX11_one_140 (by decide) ?_
        exact ret_iS C hw dX11_one_144 hf
    · have hf := hf_t q hf
      refine lv_iload_n hx hb dX11_one_130 rfl (lv_at hl 2 rfl) ?_
      refine lv_ineg hx hb dX11_one_131 ?_
      refine lv_goto (tgt := 144) hx hb dX11_one_132 (by decide) ?_
      exact ret_iS C hw dX11_one_144 hf
  · have hf := hf_t q hf
    refine lv_iload_n hx hb dX11_one_120 rfl (lv_at hl 2 rfl) ?_
    refine lv_goto (tgt := 144) hx hb dX11_one_121 (by decide) ?_
    exact ret_iS C hw dX11_one_144 hf
set_option maxRecDepth 20000 in
theorem w_Mo_one_b83 {N : Nat} {d : Nat} {f_both : St → Option (Int32 × St)} {f_compared : St → Option (Int32 × St)} {f_either : St → Option (Int32 × St)} {f_one : St → Option (Int32 × St)} {f_product : St → Option (Int32 × St)} {f_sums : St → Option (Int32 × St)} {l1 : Int32} {s0 : Int32} {r : Int32} {S9 : St} (C : Cx p s m args meth c E cX11_one 5 RX11 (some .int)) (hr_both : ∀ {S : St} {r : Int32} {S9 : St}, f_both S = some (r, S9) → Ct l (wM V) yX11_both cX11_both 3 (some .int) (d + 3) (fun E => [.ref (ea E 44)]) S (fun E => some (.int r)) S9) (hr_compared : ∀ {S : St} {r : Int32} {S9 : St}, f_compared S = some (r, S9) → Ct l (wM V) yX11_compared cX11_compared 4 (some .int) (d + 3) (fun E => [.ref (ea E 44)]) S (fun E => some (.int r)) S9) (hr_either : ∀ {S : St} {r : Int32} {S9 : St}, f_either S = some (r, S9) → Ct l (wM V) yX11_either cX11_either 3 (some .int) (d + 3) (fun E => [.ref (ea E 44)]) S (fun E => some (.int r)) S9) (hr_one : ∀ {S : St} {r : Int32} {S9 : St}, f_one S = some (r, S9) → Ct l (wM V) yX11_one cX11_one 5 (some .int) (d + 3) (fun E => [.ref (ea E 44)]) S (fun E => some (.int r)) S9) (hr_product : ∀ {S : St} {r : Int32} {S9 : St}, f_product S = some (r, S9) → Ct l (wM V) yX11_product cX11_product 4 (some .int) (d + 3) (fun E => [.ref (ea E 44)]) S (fun E => some (.int r)) S9) (hr_sums : ∀ {S : St} {r : Int32} {S9 : St}, f_sums S = some (r, S9) → Ct l (wM V) yX11_sums cX11_sums 4 (some .int) (d + 3) (fun E => [.ref (ea E 44)]) S (fun E => some (.int r)) S9) (hw : Wd E (wM V E) s.heap S H locs) (hl : lv_has ls 5 [(0, .ref (ea E 44)), (1, .int l1)]) (hf : Mo_one_b83 N f_both f_compared f_either f_one f_product f_sums S l1 s0 = some (r, S9)) : W p l e (rmh (d + 1 + 3)) s m args below meth c H locs 0 0 (MQ below (QW E (wM V E) (some (.int r)) S9) args s 0 0 (eA E)) (F0 m 83 ls [.int s0]) := by
  have hx := C.1
  have hb := C.2.1
  unfold Mo_one_b83 at hf
  refine lv_istore_n (lv' := [(2, .int s0), (0, .ref (ea E 44)), (1, .int l1)]) hx hb dX11_one_83 rfl hl (by decide) rfl (fun ls hl => ?_)
  refine lv_iload_n hx hb dX11_one_84 rfl (lv_at hl 2 rfl) ?_
  refine lv_bipush (v := 40) hx hb dX11_one_85 kb_40 ?_
  refine lv_icmp_ne (tgt := 104) hx hb dX11_one_87 (by decide) (fun q => ?_) (fun q => ?_)
  · have hf := hf_f q hf
    exact w_Mo_one_b104 C hr_both hr_compared hr_either hr_one hr_product hr_sums hw (lv_sub hl [1, 2, 0] rfl) hf
  · have hf := hf_t q hf
    refine lv_aload_n hx hb dX11_one_90 rfl (lv_at hl 1 rfl) ?_
    refine lv_bipush (v := 41) hx hb dX11_one_91 kb_41 ?_
    obtain ⟨r2, S1, hr, hf⟩ := hf_2 hf
    refine inv_Vi (q0 := 44) (ci := 11) (As := [.int (41 : Int32)]) lk_X11_167 C hw rfl rfl rfl (t_Mo_takes hr) rfl hl.1 dX11_one_93 rfl (by omega) (by decide) (Nat.le_of_ble_eq_true rfl) rfl (fun H locs hw => ?_)
    refine lv_if_ne (tgt := 104) hx hb dX11_one_96 (by decide) (fun q => ?_) (fun q => ?_)
    · have hf := hf_f q hf
      exact w_Mo_one_b104 C hr_both hr_compared hr_either hr_one hr_product hr_sums hw (lv_sub hl [1, 2, 0] rfl) hf
    · have hf := hf_t q hf
      refine lv_aload_n hx hb dX11_one_99 rfl (lv_at hl 1 rfl) ?_
      obtain ⟨r4, S3, hr, hf⟩ := hf_2 hf
      refine inv_Vi (q0 := 44) (ci := 11) (As := []) lk_X11_185 C hw rfl rfl rfl (t_Mo_wrong hr) rfl hl.1 dX11_one_100 rfl (by omega) (by decide) (Nat.le_of_ble_eq_true rfl) rfl (fun H locs hw => ?_)
      exact ret_iS C hw dX11_one_103 hf
set_option maxRecDepth 20000 in
theorem w_Mo_one_b32 {N : Nat} {d : Nat} {f_both : St → Option (Int32 × St)} {f_compared : St → Option (Int32 × St)} {f_either : St → Option (Int32 × St)} {f_one : St → Option (Int32 × St)} {f_product : St → Option (Int32 × St)} {f_sums : St → Option (Int32 × St)} {l1 : Int32} {r : Int32} {S9 : St} (C : Cx p s m args meth c E cX11_one 5 RX11 (some .int)) (hr_both : ∀ {S : St} {r : Int32} {S9 : St}, f_both S = some (r, S9) → Ct l (wM V) yX11_both cX11_both 3 (some .int) (d + 3) (fun E => [.ref (ea E 44)]) S (fun E => some (.int r)) S9) (hr_compared : ∀ {S : St} {r : Int32} {S9 : St}, f_compared S = some (r, S9) → Ct l (wM V) yX11_compared cX11_compared 4 (some .int) (d + 3) (fun E => [.ref (ea E 44)]) S (fun E => some (.int r)) S9) (hr_either : ∀ {S : St} {r : Int32} {S9 : St}, f_either S = some (r, S9) → Ct l (wM V) yX11_either cX11_either 3 (some .int) (d + 3) (fun E => [.ref (ea E 44)]) S (fun E => some (.int r)) S9) (hr_one : ∀ {S : St} {r : Int32} {S9 : St}, f_one S = some (r, S9) → Ct l (wM V) yX11_one cX11_one 5 (some .int) (d + 3) (fun E => [.ref (ea E 44)]) S (fun E => some (.int r)) S9) (hr_product : ∀ {S : St} {r : Int32} {S9 : St}, f_product S = some (r, S9) → Ct l (wM V) yX11_product cX11_product 4 (some .int) (d + 3) (fun E => [.ref (ea E 44)]) S (fun E => some (.int r)) S9) (hr_sums : ∀ {S : St} {r : Int32} {S9 : St}, f_sums S = some (r, S9) → Ct l (wM V) yX11_sums cX11_sums 4 (some .int) (d + 3) (fun E => [.ref (ea E 44)]) S (fun E => some (.int r)) S9) (hw : Wd E (wM V E) s.heap S H locs) (hl : lv_has ls 5 [(0, .ref (ea E 44)), (1, .int l1)]) (hf : Mo_one_b32 N f_both f_compared f_either f_one f_product f_sums S l1 = some (r, S9)) : W p l e (rmh (d + 1 + 3)) s m args below meth c H locs 0 0 (MQ below (QW E (wM V E) (some (.int r)) S9) args s 0 0 (eA E)) (F0 m 32 ls []) := by
  have hx := C.1
  have hb := C.2.1
  unfold Mo_one_b32 at hf
  refine lv_aload_n hx hb dX11_one_32 rfl (lv_at hl 0 rfl) ?_
  refine get_44_18 C hw q_1169 dX11_one_33 ?_
  refine lv_bipush (v := 6) hx hb dX11_one_36 kb_6 ?_
  refine lv_icmp_ne (tgt := 46) hx hb dX11_one_38 (by decide) (fun q => ?_) (fun q => ?_)
  · have hf := hf_f q hf
    refine lv_aload_n hx hb dX11_one_46 rfl (lv_at hl 0 rfl) ?_
    refine lv_dup hx hb dX11_one_47 rfl ?_
    refine get_44_18 C hw q_1169 dX11_one_48 ?_
    refine lv_iconst (v := 1) hx hb dX11_one_51 kc_1 ?_
    refine lv_iadd hx hb dX11_one_52 ?_
    refine put_44_18 C hw q_1169 dX11_one_53 (fun H locs hw => ?_)
    refine nm_S hf hw (fun S1 hf hw => ?_)
    refine lv_aload_n hx hb dX11_one_56 rfl (lv_at hl 0 rfl) ?_
    refine lv_dup hx hb dX11_one_57 rfl ?_
    refine get_44_15 C hw q_1166 dX11_one_58 ?_
    refine lv_iconst (v := 1) hx hb dX11_one_61 kc_1 ?_
    refine lv_iadd hx hb dX11_one_62 ?_
    refine put_44_15 C hw q_1166 dX11_one_63 (fun H locs hw => ?_)
    refine nm_S hf hw (fun S2 hf hw => ?_)
    refine lv_iload_n hx hb dX11_one_66 rfl (lv_at hl 1 rfl) ?_
    refine lv_bipush (v := 40) hx hb dX11_one_67 kb_40 ?_
    refine lv_icmp_ne (tgt := 79) hx hb dX11_one_69 (by decide) (fun q => ?_) (fun q => ?_)
    · have hf := hf_f q hf
      refine lv_aload_n hx hb dX11_one_79 rfl (lv_at hl 0 rfl) ?_
      obtain ⟨r4, S3, hr, hf⟩ := hf_2 hf
      refine inv_Vi (q0 := 44) (ci := 11) (As := []) lk_X11_179 C hw rfl rfl rfl (hr_one hr) rfl hl.1 dX11_one_80 rfl (by omega) (by decide) (Nat.le_of_ble_eq_true rfl) rfl (fun H locs hw => ?_)
      exact w_Mo_one_b83 C hr_both hr_compared hr_either hr_one hr_product hr_sums hw (lv_sub hl [0, 1] rfl) hf
    · have hf := hf_t q hf
      refine lv_aload_n hx hb dX11_one_72 rfl (lv_at hl 0 rfl) ?_
      obtain ⟨r6, S5, hr, hf⟩ := hf_2 hf
      refine inv_Vi (q0 := 44) (ci := 11) (As := []) lk_X11_188 C hw rfl rfl rfl (hr_either hr) rfl hl.1 dX11_one_73 rfl (by omega) (by decide) (Nat.le_of_ble_eq_true rfl) rfl (fun H locs hw => ?_)
      refine lv_goto (tgt := 83) hx hb dX11_one_76 (by decide) ?_
      exact w_Mo_one_b83 C hr_both hr_compared hr_either hr_one hr_product hr_sums hw (lv_sub hl [0, 1] rfl) hf
  · have hf := hf_t q hf
    refine lv_aload_n hx hb dX11_one_41 rfl (lv_at hl 0 rfl) ?_
    obtain ⟨r8, S7, hr, hf⟩ := hf_2 hf
    refine inv_Vi (q0 := 44) (ci := 11) (As := []) lk_X11_185 C hw rfl rfl rfl (t_Mo_wrong hr) rfl hl.1 dX11_one_42 rfl (by omega) (by decide) (Nat.le_of_ble_eq_true rfl) rfl (fun H locs hw => ?_)
    exact ret_iS C hw dX11_one_45 hf
set_option maxRecDepth 20000 in
theorem w_Mo_one_b229 {N : Nat} {d : Nat} {f_both : St → Option (Int32 × St)} {f_compared : St → Option (Int32 × St)} {f_either : St → Option (Int32 × St)} {f_one : St → Option (Int32 × St)} {f_product : St → Option (Int32 × St)} {f_sums : St → Option (Int32 × St)} {l3 : Int32} {l4 : Int32} {r : Int32} {S9 : St} (C : Cx p s m args meth c E cX11_one 5 RX11 (some .int)) (hr_both : ∀ {S : St} {r : Int32} {S9 : St}, f_both S = some (r, S9) → Ct l (wM V) yX11_both cX11_both 3 (some .int) (d + 3) (fun E => [.ref (ea E 44)]) S (fun E => some (.int r)) S9) (hr_compared : ∀ {S : St} {r : Int32} {S9 : St}, f_compared S = some (r, S9) → Ct l (wM V) yX11_compared cX11_compared 4 (some .int) (d + 3) (fun E => [.ref (ea E 44)]) S (fun E => some (.int r)) S9) (hr_either : ∀ {S : St} {r : Int32} {S9 : St}, f_either S = some (r, S9) → Ct l (wM V) yX11_either cX11_either 3 (some .int) (d + 3) (fun E => [.ref (ea E 44)]) S (fun E => some (.int r)) S9) (hr_one : ∀ {S : St} {r : Int32} {S9 : St}, f_one S = some (r, S9) → Ct l (wM V) yX11_one cX11_one 5 (some .int) (d + 3) (fun E => [.ref (ea E 44)]) S (fun E => some (.int r)) S9) (hr_product : ∀ {S : St} {r : Int32} {S9 : St}, f_product S = some (r, S9) → Ct l (wM V) yX11_product cX11_product 4 (some .int) (d + 3) (fun E => [.ref (ea E 44)]) S (fun E => some (.int r)) S9) (hr_sums : ∀ {S : St} {r : Int32} {S9 : St}, f_sums S = some (r, S9) → Ct l (wM V) yX11_sums cX11_sums 4 (some .int) (d + 3) (fun E => [.ref (ea E 44)]) S (fun E => some (.int r)) S9) (hw : Wd E (wM V E) s.heap S H locs) (hl : lv_has ls 5 [(0, .ref (ea E 44)), (3, .int l3), (4, .int l4)]) (hf : Mo_one_b229 N f_both f_compared f_either f_one f_product f_sums S l3 l4 = some (r, S9)) : W p l e (rmh (d + 1 + 3)) s m args below meth c H locs 0 0 (MQ below (QW E (wM V E) (some (.int r)) S9) args s 0 0 (eA E)) (F0 m 229 ls []) := by
  have hx := C.1
  have hb := C.2.1
  unfold Mo_one_b229 at hf
  refine lv_iload hx hb dX11_one_229 (lv_at hl 2 rfl) ?_
  refine lv_if_ne (tgt := 241) hx hb dX11_one_231 (by decide) (fun q => ?_) (fun q => ?_)
  · have hf := hf_f q hf
    refine lv_iload_n hx hb dX11_one_241 rfl (lv_at hl 1 rfl) ?_
    exact ret_iS C hw dX11_one_242 hf
  · have hf := hf_t q hf
    refine lv_aload_n hx hb dX11_one_234 rfl (lv_at hl 0 rfl) ?_
    obtain ⟨r2, S1, hr, hf⟩ := hf_2 hf
    refine inv_Vi (q0 := 44) (ci := 11) (As := []) lk_X11_185 C hw rfl rfl rfl (t_Mo_wrong hr) rfl hl.1 dX11_one_235 rfl (by omega) (by decide) (Nat.le_of_ble_eq_true rfl) rfl (fun H locs hw => ?_)
    refine lv_goto (tgt := 242) hx hb dX11_one_238 (by decide) ?_
    exact ret_iS C hw dX11_one_242 hf
set_option maxRecDepth 20000 in
theorem w_Mo_one_b176 {N : Nat} {d : Nat} {f_both : St → Option (Int32 × St)} {f_compared : St → Option (Int32 × St)} {f_either : St → Option (Int32 × St)} {f_one : St → Option (Int32 × St)} {f_product : St → Option (Int32 × St)} {f_sums : St → Option (Int32 × St)} {k176 : (St × Int32 × Int32) → Option (Int32 × St)} {l3 : Int32} {l4 : Int32} {r : Int32} {S9 : St} (C : Cx p s m args meth c E cX11_one 5 RX11 (some .int)) (hr_both : ∀ {S : St} {r : Int32} {S9 : St}, f_both S = some (r, S9) → Ct l (wM V) yX11_both cX11_both 3 (some .int) (d + 3) (fun E => [.ref (ea E 44)]) S (fun E => some (.int r)) S9) (hr_compared : ∀ {S : St} {r : Int32} {S9 : St}, f_compared S = some (r, S9) → Ct l (wM V) yX11_compared cX11_compared 4 (some .int) (d + 3) (fun E => [.ref (ea E 44)]) S (fun E => some (.int r)) S9) (hr_either : ∀ {S : St} {r : Int32} {S9 : St}, f_either S = some (r, S9) → Ct l (wM V) yX11_either cX11_either 3 (some .int) (d + 3) (fun E => [.ref (ea E 44)]) S (fun E => some (.int r)) S9) (hr_one : ∀ {S : St} {r : Int32} {S9 : St}, f_one S = some (r, S9) → Ct l (wM V) yX11_one cX11_one 5 (some .int) (d + 3) (fun E => [.ref (ea E 44)]) S (fun E => some (.int r)) S9) (hr_product : ∀ {S : St} {r : Int32} {S9 : St}, f_product S = some (r, S9) → Ct l (wM V) yX11_product cX11_product 4 (some .int) (d + 3) (fun E => [.ref (ea E 44)]) S (fun E => some (.int r)) S9) (hr_sums : ∀ {S : St} {r : Int32} {S9 : St}, f_sums S = some (r, S9) → Ct l (wM V) yX11_sums cX11_sums 4 (some .int) (d + 3) (fun E => [.ref (ea E 44)]) S (fun E => some (.int r)) S9) (hk176 : ∀ x, k176 x = some (r, S9) → ∀ (H : Heap) (locs : List Loc) (ls : Array Slot), Wd E (wM V E) s.heap x.1 H locs → lv_has ls 5 [(0, .ref (ea E 44)), (3, .int x.2.1), (4, .int x.2.2)] → W p l e (rmh (d + 1 + 3)) s m args below meth c H locs 0 0 (MQ below (QW E (wM V E) (some (.int r)) S9) args s 0 0 (eA E)) (F0 m 176 ls [])) (hw : Wd E (wM V E) s.heap S H locs) (hl : lv_has ls 5 [(0, .ref (ea E 44)), (3, .int l3), (4, .int l4)]) (hf : Mo_one_b176 N f_both f_compared f_either f_one f_product f_sums k176 S l3 l4 = some (r, S9)) : W p l e (rmh (d + 1 + 3)) s m args below meth c H locs 0 0 (MQ below (QW E (wM V E) (some (.int r)) S9) args s 0 0 (eA E)) (F0 m 176 ls []) := by
  have hx := C.1
  have hb := C.2.1
  unfold Mo_one_b176 at hf
  refine lv_iload hx hb dX11_one_176 (lv_at hl 2 rfl) ?_
  refine lv_iconst (v := 4) hx hb dX11_one_178 kc_4 ?_
  refine lv_icmp_ge (tgt := 229) hx hb dX11_one_179 (by decide) (fun q => ?_) (fun q => ?_)
  · have hf := hf_t q hf
    exact w_Mo_one_b229 C hr_both hr_compared hr_either hr_one hr_product hr_sums hw (lv_sub hl [0, 1, 2] rfl) hf
  · have hf := hf_f q hf
    refine lv_aload_n hx hb dX11_one_182 rfl (lv_at hl 0 rfl) ?_
    obtain ⟨r1, hr, hf⟩ := hf_1 hf
    refine inv_Vi (q0 := 44) (ci := 11) (As := []) lk_X11_160 C hw rfl rfl rfl (t_Mo_byteAt hr) rfl hl.1 dX11_one_183 rfl (by omega) (by decide) (Nat.le_of_ble_eq_true rfl) rfl (fun H locs hw => ?_)
    refine lv_bipush (v := 48) hx hb dX11_one_186 kb_48 ?_
    refine lv_icmp_lt (tgt := 229) hx hb dX11_one_188 (by decide) (fun q => ?_) (fun q => ?_)
    · have hf := hf_t q hf
      exact w_Mo_one_b229 C hr_both hr_compared hr_either hr_one hr_product hr_sums hw (lv_sub hl [0, 1, 2] rfl) hf
    · have hf := hf_f q hf
      refine lv_aload_n hx hb dX11_one_191 rfl (lv_at hl 0 rfl) ?_
      obtain ⟨r2, hr, hf⟩ := hf_1 hf
      refine inv_Vi (q0 := 44) (ci := 11) (As := []) lk_X11_160 C hw rfl rfl rfl (t_Mo_byteAt hr) rfl hl.1 dX11_one_192 rfl (by omega) (by decide) (Nat.le_of_ble_eq_true rfl) rfl (fun H locs hw => ?_)
      refine lv_bipush (v := 57) hx hb dX11_one_195 kb_57 ?_
      refine lv_icmp_gt (tgt := 229) hx hb dX11_one_197 (by decide) (fun q => ?_) (fun q => ?_)
      · have hf := hf_t q hf
        exact w_Mo_one_b229 C hr_both hr_compared hr_either hr_one hr_product hr_sums hw (lv_sub hl [0, 1, 2] rfl) hf
      · have hf := hf_f q hf
        refine lv_bipush (v := 10) hx hb dX11_one_200 kb_10 ?_
        refine lv_iload_n hx hb dX11_one_202 rfl (lv_at hl 1 rfl) ?_
        refine lv_imul hx hb dX11_one_203 ?_
        refine lv_aload_n hx hb dX11_one_204 rfl (lv_at hl 0 rfl) ?_
        obtain ⟨r3, hr, hf⟩ := hf_1 hf
        refine inv_Vi (q0 := 44) (ci := 11) (As := []) lk_X11_160 C hw rfl rfl rfl (t_Mo_byteAt hr) rfl hl.1 dX11_one_205 rfl (by omega) (by decide) (Nat.le_of_ble_eq_true rfl) rfl (fun H locs hw => ?_)
        refine lv_iadd hx hb dX11_one_208 ?_
        refine lv_bipush (v := 48) hx hb dX11_one_209 kb_48 ?_
        refine lv_isub hx hb dX11_one_211 ?_
        refine nm_i hf (fun x4 hf => ?_)
        refine lv_istore_n (lv' := [(3, .int x4), (0, .ref (ea E 44)), (4, .int l4)]) hx hb dX11_one_212 rfl hl (by decide) rfl (fun ls hl => ?_)
        obtain ⟨x5, ex5, hf⟩ := nme hf
        refine lv_iinc (v := x5) (lv' := [(4, .int x5), (3, .int x4), (0, .ref (ea E 44))]) hx hb dX11_one_213 hl (k := 2) rfl (ki_1 ex5) (by decide) rfl (fun ls hl => ?_)
        refine lv_aload_n hx hb dX11_one_216 rfl (lv_at hl 2 rfl) ?_
        refine lv_dup hx hb dX11_one_217 rfl ?_
        refine get_44_15 C hw q_1166 dX11_one_218 ?_
        refine lv_iconst (v := 1) hx hb dX11_one_221 kc_1 ?_
        refine lv_iadd hx hb dX11_one_222 ?_
        refine put_44_15 C hw q_1166 dX11_one_223 (fun H locs hw => ?_)
        refine nm_S hf hw (fun S6 hf hw => ?_)
        refine lv_goto (tgt := 176) hx hb dX11_one_226 (by decide) ?_
        exact hk176 _ hf _ _ _ hw (lv_sub hl [2, 1, 0] rfl)
theorem w_Mo_one_L176 {N : Nat} {d : Nat} {f_both : St → Option (Int32 × St)} {f_compared : St → Option (Int32 × St)} {f_either : St → Option (Int32 × St)} {f_one : St → Option (Int32 × St)} {f_product : St → Option (Int32 × St)} {f_sums : St → Option (Int32 × St)} {r : Int32} {S9 : St} (C : Cx p s m args meth c E cX11_one 5 RX11 (some .int)) (hr_both : ∀ {S : St} {r : Int32} {S9 : St}, f_both S = some (r, S9) → Ct l (wM V) yX11_both cX11_both 3 (some .int) (d + 3) (fun E => [.ref (ea E 44)]) S (fun E => some (.int r)) S9) (hr_compared : ∀ {S : St} {r : Int32} {S9 : St}, f_compared S = some (r, S9) → Ct l (wM V) yX11_compared cX11_compared 4 (some .int) (d + 3) (fun E => [.ref (ea E 44)]) S (fun E => some (.int r)) S9) (hr_either : ∀ {S : St} {r : Int32} {S9 : St}, f_either S = some (r, S9) → Ct l (wM V) yX11_either cX11_either 3 (some .int) (d + 3) (fun E => [.ref (ea E 44)]) S (fun E => some (.int r)) S9) (hr_one : ∀ {S : St} {r : Int32} {S9 : St}, f_one S = some (r, S9) → Ct l (wM V) yX11_one cX11_one 5 (some .int) (d + 3) (fun E => [.ref (ea E 44)]) S (fun E => some (.int r)) S9) (hr_product : ∀ {S : St} {r : Int32} {S9 : St}, f_product S = some (r, S9) → Ct l (wM V) yX11_product cX11_product 4 (some .int) (d + 3) (fun E => [.ref (ea E 44)]) S (fun E => some (.int r)) S9) (hr_sums : ∀ {S : St} {r : Int32} {S9 : St}, f_sums S = some (r, S9) → Ct l (wM V) yX11_sums cX11_sums 4 (some .int) (d + 3) (fun E => [.ref (ea E 44)]) S (fun E => some (.int r)) S9) : ∀ x, Mo_one_L176 N f_both f_compared f_either f_one f_product f_sums x = some (r, S9) → ∀ (H : Heap) (locs : List Loc) (ls : Array Slot), Wd E (wM V E) s.heap x.1 H locs → lv_has ls 5 [(0, .ref (ea E 44)), (3, .int x.2.1), (4, .int x.2.2)] → W p l e (rmh (d + 1 + 3)) s m args below meth c H locs 0 0 (MQ below (QW E (wM V E) (some (.int r)) S9) args s 0 0 (eA E)) (F0 m 176 ls []) :=
  lp_W (fun k x hk hf H locs ls hw hl => w_Mo_one_b176 C hr_both hr_compared hr_either hr_one hr_product hr_sums hk hw hl hf) N
set_option maxRecDepth 20000 in
theorem w_Mo_one_B {N : Nat} {d : Nat} {f_both : St → Option (Int32 × St)} {f_compared : St → Option (Int32 × St)} {f_either : St → Option (Int32 × St)} {f_one : St → Option (Int32 × St)} {f_product : St → Option (Int32 × St)} {f_sums : St → Option (Int32 × St)} {r : Int32} {S9 : St} (C : Cx p s m args meth c E cX11_one 5 RX11 (some .int)) (hr_both : ∀ {S : St} {r : Int32} {S9 : St}, f_both S = some (r, S9) → Ct l (wM V) yX11_both cX11_both 3 (some .int) (d + 3) (fun E => [.ref (ea E 44)]) S (fun E => some (.int r)) S9) (hr_compared : ∀ {S : St} {r : Int32} {S9 : St}, f_compared S = some (r, S9) → Ct l (wM V) yX11_compared cX11_compared 4 (some .int) (d + 3) (fun E => [.ref (ea E 44)]) S (fun E => some (.int r)) S9) (hr_either : ∀ {S : St} {r : Int32} {S9 : St}, f_either S = some (r, S9) → Ct l (wM V) yX11_either cX11_either 3 (some .int) (d + 3) (fun E => [.ref (ea E 44)]) S (fun E => some (.int r)) S9) (hr_one : ∀ {S : St} {r : Int32} {S9 : St}, f_one S = some (r, S9) → Ct l (wM V) yX11_one cX11_one 5 (some .int) (d + 3) (fun E => [.ref (ea E 44)]) S (fun E => some (.int r)) S9) (hr_product : ∀ {S : St} {r : Int32} {S9 : St}, f_product S = some (r, S9) → Ct l (wM V) yX11_product cX11_product 4 (some .int) (d + 3) (fun E => [.ref (ea E 44)]) S (fun E => some (.int r)) S9) (hr_sums : ∀ {S : St} {r : Int32} {S9 : St}, f_sums S = some (r, S9) → Ct l (wM V) yX11_sums cX11_sums 4 (some .int) (d + 3) (fun E => [.ref (ea E 44)]) S (fun E => some (.int r)) S9) (hw : Wd E (wM V E) s.heap S H locs) (hl : lv_has ls 5 [(0, .ref (ea E 44))]) (hf : Mo_one_B N f_both f_compared f_either f_one f_product f_sums S = some (r, S9)) : W p l e (rmh (d + 1 + 3)) s m args below meth c H locs 0 0 (MQ below (QW E (wM V E) (some (.int r)) S9) args s 0 0 (eA E)) (F0 m 0 ls []) := by
  have hx := C.1
  have hb := C.2.1
  unfold Mo_one_B at hf
  refine lv_aload_n hx hb dX11_one_0 rfl (lv_at hl 0 rfl) ?_
  refine get_44_17 C hw q_1168 dX11_one_1 ?_
  refine lv_if_lt (tgt := 9) hx hb dX11_one_4 (by decide) (fun q => ?_) (fun q => ?_)
  · have hf := hf_t q hf
    refine lv_aload_n hx hb dX11_one_9 rfl (lv_at hl 0 rfl) ?_
    obtain ⟨r1, hr, hf⟩ := hf_1 hf
    refine inv_Vi (q0 := 44) (ci := 11) (As := []) lk_X11_160 C hw rfl rfl rfl (t_Mo_byteAt hr) rfl hl.1 dX11_one_10 rfl (by omega) (by decide) (Nat.le_of_ble_eq_true rfl) rfl (fun H locs hw => ?_)
    refine lv_istore_n (lv' := [(1, .int r1), (0, .ref (ea E 44))]) hx hb dX11_one_13 rfl hl (by decide) rfl (fun ls hl => ?_)
    refine lv_iload_n hx hb dX11_one_14 rfl (lv_at hl 0 rfl) ?_
    refine lv_bipush (v := 33) hx hb dX11_one_15 kb_33 ?_
    refine lv_icmp_eq (tgt := 32) hx hb dX11_one_17 (by decide) (fun q => ?_) (fun q => ?_)
    · have hf := hf_t q hf
      exact w_Mo_one_b32 C hr_both hr_compared hr_either hr_one hr_product hr_sums hw (lv_sub hl [1, 0] rfl) hf
    · have hf := hf_f q hf
      refine lv_iload_n hx hb dX11_one_20 rfl (lv_at hl 0 rfl) ?_
      refine lv_bipush (v := 45) hx hb dX11_one_21 kb_45 ?_
      refine lv_icmp_eq (tgt := 32) hx hb dX11_one_23 (by decide) (fun q => ?_) (fun q => ?_)
      · have hf := hf_t q hf
        exact w_Mo_one_b32 C hr_both hr_compared hr_either hr_one hr_product hr_sums hw (lv_sub hl [1, 0] rfl) hf
      · have hf := hf_f q hf
        refine lv_iload_n hx hb dX11_one_26 rfl (lv_at hl 0 rfl) ?_
        refine lv_bipush (v := 40) hx hb dX11_one_27 kb_40 ?_
        refine lv_icmp_ne (tgt := 145) hx hb dX11_one_29 (by decide) (fun q => ?_) (fun q => ?_)
        · have hf := hf_f q hf
          refine lv_iload_n hx hb dX11_one_145 rfl (lv_at hl 0 rfl) ?_
          obtain ⟨r2, hr, hf⟩ := hf_1 hf
          refine inv_Si (As := [.int r1]) lk_X11_191 C hw (t_Mo_nameOf hr) hl.1 dX11_one_146 rfl (by omega) (by decide) (Nat.le_of_ble_eq_true rfl) rfl (fun H locs hw => ?_)
          refine lv_istore_n (lv' := [(2, .int r2), (1, .int r1), (0, .ref (ea E 44))]) hx hb dX11_one_149 rfl hl (by decide) rfl (fun ls hl => ?_)
          refine lv_iload_n hx hb dX11_one_150 rfl (lv_at hl 0 rfl) ?_
          refine lv_if_lt (tgt := 171) hx hb dX11_one_151 (by decide) (fun q => ?_) (fun q => ?_)
          · have hf := hf_t q hf
            refine lv_iconst (v := 0) hx hb dX11_one_171 kc_0 ?_
            refine lv_istore_n (lv' := [(3, .int (0 : Int32)), (2, .int r2), (1, .int r1), (0, .ref (ea E 44))]) hx hb dX11_one_172 rfl hl (by decide) rfl (fun ls hl => ?_)
            refine lv_iconst (v := 0) hx hb dX11_one_173 kc_0 ?_
            refine lv_istore (lv' := [(4, .int (0 : Int32)), (3, .int (0 : Int32)), (2, .int r2), (1, .int r1), (0, .ref (ea E 44))]) hx hb dX11_one_174 hl (by decide) rfl (fun ls hl => ?_)
            exact w_Mo_one_L176 C hr_both hr_compared hr_either hr_one hr_product hr_sums _ hf _ _ _ hw (lv_sub hl [4, 1, 0] rfl)
          · have hf := hf_f q hf
            refine lv_aload_n hx hb dX11_one_154 rfl (lv_at hl 2 rfl) ?_
            refine lv_dup hx hb dX11_one_155 rfl ?_
            refine get_44_15 C hw q_1166 dX11_one_156 ?_
            refine lv_iconst (v := 1) hx hb dX11_one_159 kc_1 ?_
            refine lv_iadd hx hb dX11_one_160 ?_
            refine put_44_15 C hw q_1166 dX11_one_161 (fun H locs hw => ?_)
            refine nm_S hf hw (fun S3 hf hw => ?_)
            refine lv_aload_n hx hb dX11_one_164 rfl (lv_at hl 2 rfl) ?_
            refine get_44_19 C hw q_1170 dX11_one_165 ?_
            refine lv_iload_n hx hb dX11_one_168 rfl (lv_at hl 0 rfl) ?_
            obtain ⟨hc, hf⟩ := hf_ck hf
            refine ld_53 C hw hc dX11_one_169 ?_
            exact ret_iS C hw dX11_one_170 hf
        · have hf := hf_t q hf
          exact w_Mo_one_b32 C hr_both hr_compared hr_either hr_one hr_product hr_sums hw (lv_sub hl [1, 0] rfl) hf
  · have hf := hf_f q hf
    refine lv_iconst (v := 0) hx hb dX11_one_7 kc_0 ?_
    exact ret_iS C hw dX11_one_8 hf
set_option maxRecDepth 20000 in
theorem w_Mo_product_b85 {N : Nat} {d : Nat} {f_both : St → Option (Int32 × St)} {f_compared : St → Option (Int32 × St)} {f_either : St → Option (Int32 × St)} {f_one : St → Option (Int32 × St)} {f_product : St → Option (Int32 × St)} {f_sums : St → Option (Int32 × St)} {k10 : (St × Int32 × Int32) → Option (Int32 × St)} {s0 : Int32} {r : Int32} {S9 : St} (C : Cx p s m args meth c E cX11_product 4 RX11 (some .int)) (hr_both : ∀ {S : St} {r : Int32} {S9 : St}, f_both S = some (r, S9) → Ct l (wM V) yX11_both cX11_both 3 (some .int) (d + 3) (fun E => [.ref (ea E 44)]) S (fun E => some (.int r)) S9) (hr_compared : ∀ {S : St} {r : Int32} {S9 : St}, f_compared S = some (r, S9) → Ct l (wM V) yX11_compared cX11_compared 4 (some .int) (d + 3) (fun E => [.ref (ea E 44)]) S (fun E => some (.int r)) S9) (hr_either : ∀ {S : St} {r : Int32} {S9 : St}, f_either S = some (r, S9) → Ct l (wM V) yX11_either cX11_either 3 (some .int) (d + 3) (fun E => [.ref (ea E 44)]) S (fun E => some (.int r)) S9) (hr_one : ∀ {S : St} {r : Int32} {S9 : St}, f_one S = some (r, S9) → Ct l (wM V) yX11_one cX11_one 5 (some .int) (d + 3) (fun E => [.ref (ea E 44)]) S (fun E => some (.int r)) S9) (hr_product : ∀ {S : St} {r : Int32} {S9 : St}, f_product S = some (r, S9) → Ct l (wM V) yX11_product cX11_product 4 (some .int) (d + 3) (fun E => [.ref (ea E 44)]) S (fun E => some (.int r)) S9) (hr_sums : ∀ {S : St} {r : Int32} {S9 : St}, f_sums S = some (r, S9) → Ct l (wM V) yX11_sums cX11_sums 4 (some .int) (d + 3) (fun E => [.ref (ea E 44)]) S (fun E => some (.int r)) S9) (hk10 : ∀ x, k10 x = some (r, S9) → ∀ (H : Heap) (locs : List Loc) (ls : Array Slot), Wd E (wM V E) s.heap x.1 H locs → lv_has ls 4 [(0, .ref (ea E 44)), (1, .int x.2.1), (2, .int x.2.2)] → W p l e (rmh (d + 1 + 3)) s m args below meth c H locs 0 0 (MQ below (QW E (wM V E) (some (.int r)) S9) args s 0 0 (eA E)) (F0 m 10 ls [])) (hw : Wd E (wM V E) s.heap S H locs) (hl : lv_has ls 4 [(0, .ref (ea E 44))]) (hf : Mo_product_b85 N f_both f_compared f_either f_one f_product f_sums k10 S s0 = some (r, S9)) : W p l e (rmh (d + 1 + 3)) s m args below meth c H locs 0 0 (MQ below (QW E (wM V E) (some (.int r)) S9) args s 0 0 (eA E)) (F0 m 85 ls [.int s0]) := by
  have hx := C.1
  have hb := C.2.1
  unfold Mo_product_b85 at hf
  refine lv_istore_n (lv' := [(1, .int s0), (0, .ref (ea E 44))]) hx hb dX11_product_85 rfl hl (by decide) rfl (fun ls hl => ?_)
  refine lv_aload_n hx hb dX11_product_86 rfl (lv_at hl 1 rfl) ?_
  obtain ⟨r1, hr, hf⟩ := hf_1 hf
  refine inv_Vi (q0 := 44) (ci := 11) (As := []) lk_X11_160 C hw rfl rfl rfl (t_Mo_byteAt hr) rfl hl.1 dX11_product_87 rfl (by omega) (by decide) (Nat.le_of_ble_eq_true rfl) rfl (fun H locs hw => ?_)
  refine lv_istore_n (lv' := [(2, .int r1), (1, .int s0), (0, .ref (ea E 44))]) hx hb dX11_product_90 rfl hl (by decide) rfl (fun ls hl => ?_)
  refine lv_goto (tgt := 10) hx hb dX11_product_91 (by decide) ?_
  exact hk10 _ hf _ _ _ hw (lv_sub hl [2, 1, 0] rfl)
set_option maxRecDepth 20000 in
theorem w_Mo_product_b35 {N : Nat} {d : Nat} {f_both : St → Option (Int32 × St)} {f_compared : St → Option (Int32 × St)} {f_either : St → Option (Int32 × St)} {f_one : St → Option (Int32 × St)} {f_product : St → Option (Int32 × St)} {f_sums : St → Option (Int32 × St)} {k10 : (St × Int32 × Int32) → Option (Int32 × St)} {l1 : Int32} {l2 : Int32} {r : Int32} {S9 : St} (C : Cx p s m args meth c E cX11_product 4 RX11 (some .int)) (hr_both : ∀ {S : St} {r : Int32} {S9 : St}, f_both S = some (r, S9) → Ct l (wM V) yX11_both cX11_both 3 (some .int) (d + 3) (fun E => [.ref (ea E 44)]) S (fun E => some (.int r)) S9) (hr_compared : ∀ {S : St} {r : Int32} {S9 : St}, f_compared S = some (r, S9) → Ct l (wM V) yX11_compared cX11_compared 4 (some .int) (d + 3) (fun E => [.ref (ea E 44)]) S (fun E => some (.int r)) S9) (hr_either : ∀ {S : St} {r : Int32} {S9 : St}, f_either S = some (r, S9) → Ct l (wM V) yX11_either cX11_either 3 (some .int) (d + 3) (fun E => [.ref (ea E 44)]) S (fun E => some (.int r)) S9) (hr_one : ∀ {S : St} {r : Int32} {S9 : St}, f_one S = some (r, S9) → Ct l (wM V) yX11_one cX11_one 5 (some .int) (d + 3) (fun E => [.ref (ea E 44)]) S (fun E => some (.int r)) S9) (hr_product : ∀ {S : St} {r : Int32} {S9 : St}, f_product S = some (r, S9) → Ct l (wM V) yX11_product cX11_product 4 (some .int) (d + 3) (fun E => [.ref (ea E 44)]) S (fun E => some (.int r)) S9) (hr_sums : ∀ {S : St} {r : Int32} {S9 : St}, f_sums S = some (r, S9) → Ct l (wM V) yX11_sums cX11_sums 4 (some .int) (d + 3) (fun E => [.ref (ea E 44)]) S (fun E => some (.int r)) S9) (hk10 : ∀ x, k10 x = some (r, S9) → ∀ (H : Heap) (locs : List Loc) (ls : Array Slot), Wd E (wM V E) s.heap x.1 H locs → lv_has ls 4 [(0, .ref (ea E 44)), (1, .int x.2.1), (2, .int x.2.2)] → W p l e (rmh (d + 1 + 3)) s m args below meth c H locs 0 0 (MQ below (QW E (wM V E) (some (.int r)) S9) args s 0 0 (eA E)) (F0 m 10 ls [])) (hw : Wd E (wM V E) s.heap S H locs) (hl : lv_has ls 4 [(0, .ref (ea E 44)), (1, .int l1), (2, .int l2)]) (hf : Mo_product_b35 N f_both f_compared f_either f_one f_product f_sums k10 S l1 l2 = some (r, S9)) : W p l e (rmh (d + 1 + 3)) s m args below meth c H locs 0 0 (MQ below (QW E (wM V E) (some (.int r)) S9) args s 0 0 (eA E)) (F0 m 35 ls []) := by
  have hx := C.1
  have hb := C.2.1
  unfold Mo_product_b35 at hf
  refine lv_aload_n hx hb dX11_product_35 rfl (lv_at hl 0 rfl) ?_
  refine lv_dup hx hb dX11_product_36 rfl ?_
  refine get_44_15 C hw q_1166 dX11_product_37 ?_
  refine lv_iconst (v := 1) hx hb dX11_product_40 kc_1 ?_
  refine lv_iadd hx hb dX11_product_41 ?_
  refine put_44_15 C hw q_1166 dX11_product_42 (fun H locs hw => ?_)
  refine nm_S hf hw (fun S1 hf hw => ?_)
  refine lv_aload_n hx hb dX11_product_45 rfl (lv_at hl 0 rfl) ?_
  obtain ⟨r3, S2, hr, hf⟩ := hf_2 hf
  refine inv_Vi (q0 := 44) (ci := 11) (As := []) lk_X11_179 C hw rfl rfl rfl (hr_one hr) rfl hl.1 dX11_product_46 rfl (by omega) (by decide) (Nat.le_of_ble_eq_true rfl) rfl (fun H locs hw => ?_)
  refine lv_istore_n (lv' := [(3, .int r3), (0, .ref (ea E 44)), (1, .int l1), (2, .int l2)]) hx hb dX11_product_49 rfl hl (by decide) rfl (fun ls hl => ?_)
  refine lv_iload_n hx hb dX11_product_50 rfl (lv_at hl 3 rfl) ?_
  refine lv_bipush (v := 42) hx hb dX11_product_51 kb_42 ?_
  refine lv_icmp_ne (tgt := 62) hx hb dX11_product_53 (by decide) (fun q => ?_) (fun q => ?_)
  · have hf := hf_f q hf
    refine lv_iload_n hx hb dX11_product_62 rfl (lv_at hl 0 rfl) ?_
    refine lv_if_ne (tgt := 70) hx hb dX11_product_63 (by decide) (fun q => ?_) (fun q => ?_)
    · have hf := hf_f q hf
      refine lv_iload_n hx hb dX11_product_70 rfl (lv_at hl 3 rfl) ?_
      refine lv_bipush (v := 47) hx hb dX11_product_71 kb_47 ?_
      refine lv_icmp_ne (tgt := 82) hx hb dX11_product_73 (by decide) (fun q => ?_) (fun q => ?_)
      · have hf := hf_f q hf
        refine lv_iload_n hx hb dX11_product_82 rfl (lv_at hl 2 rfl) ?_
        refine lv_iload_n hx hb dX11_product_83 rfl (lv_at hl 0 rfl) ?_
        obtain ⟨hc, hf⟩ := hf_ck hf
        refine lv_irem hx hb dX11_product_84 (nz_ne hc) ?_
        exact w_Mo_product_b85 C hr_both hr_compared hr_either hr_one hr_product hr_sums hk10 hw (lv_sub hl [1] rfl) hf
      · have hf := hf_t q hf
        refine lv_iload_n hx hb dX11_product_76 rfl (lv_at hl 2 rfl) ?_
        refine lv_iload_n hx hb dX11_product_77 rfl (lv_at hl 0 rfl) ?_
        obtain ⟨hc, hf⟩ := hf_ck hf
        refine lv_idiv hx hb dX11_product_78 (nz_ne hc) ?_
        refine lv_goto (tgt := 85) hx hb dX11_product_79 (by decide) ?_
        exact w_Mo_product_b85 C hr_both hr_compared hr_either hr_one hr_product hr_sums hk10 hw (lv_sub hl [1] rfl) hf
    · have hf := hf_t q hf
      refine lv_iconst (v := 0) hx hb dX11_product_66 kc_0 ?_
      refine lv_goto (tgt := 85) hx hb dX11_product_67 (by decide) ?_
      exact w_Mo_product_b85 C hr_both hr_compared hr_either hr_one hr_product hr_sums hk10 hw (lv_sub hl [1] rfl) hf
  · have hf := hf_t q hf
    refine lv_iload_n hx hb dX11_product_56 rfl (lv_at hl 2 rfl) ?_
    refine lv_iload_n hx hb dX11_product_57 rfl (lv_at hl 0 rfl) ?_
    refine lv_imul hx hb dX11_product_58 ?_
    refine lv_goto (tgt := 85) hx hb dX11_product_59 (by decide) ?_
    exact w_Mo_product_b85 C hr_both hr_compared hr_either hr_one hr_product hr_sums hk10 hw (lv_sub hl [1] rfl) hf
set_option maxRecDepth 20000 in
theorem w_Mo_product_b10 {N : Nat} {d : Nat} {f_both : St → Option (Int32 × St)} {f_compared : St → Option (Int32 × St)} {f_either : St → Option (Int32 × St)} {f_one : St → Option (Int32 × St)} {f_product : St → Option (Int32 × St)} {f_sums : St → Option (Int32 × St)} {k10 : (St × Int32 × Int32) → Option (Int32 × St)} {l1 : Int32} {l2 : Int32} {r : Int32} {S9 : St} (C : Cx p s m args meth c E cX11_product 4 RX11 (some .int)) (hr_both : ∀ {S : St} {r : Int32} {S9 : St}, f_both S = some (r, S9) → Ct l (wM V) yX11_both cX11_both 3 (some .int) (d + 3) (fun E => [.ref (ea E 44)]) S (fun E => some (.int r)) S9) (hr_compared : ∀ {S : St} {r : Int32} {S9 : St}, f_compared S = some (r, S9) → Ct l (wM V) yX11_compared cX11_compared 4 (some .int) (d + 3) (fun E => [.ref (ea E 44)]) S (fun E => some (.int r)) S9) (hr_either : ∀ {S : St} {r : Int32} {S9 : St}, f_either S = some (r, S9) → Ct l (wM V) yX11_either cX11_either 3 (some .int) (d + 3) (fun E => [.ref (ea E 44)]) S (fun E => some (.int r)) S9) (hr_one : ∀ {S : St} {r : Int32} {S9 : St}, f_one S = some (r, S9) → Ct l (wM V) yX11_one cX11_one 5 (some .int) (d + 3) (fun E => [.ref (ea E 44)]) S (fun E => some (.int r)) S9) (hr_product : ∀ {S : St} {r : Int32} {S9 : St}, f_product S = some (r, S9) → Ct l (wM V) yX11_product cX11_product 4 (some .int) (d + 3) (fun E => [.ref (ea E 44)]) S (fun E => some (.int r)) S9) (hr_sums : ∀ {S : St} {r : Int32} {S9 : St}, f_sums S = some (r, S9) → Ct l (wM V) yX11_sums cX11_sums 4 (some .int) (d + 3) (fun E => [.ref (ea E 44)]) S (fun E => some (.int r)) S9) (hk10 : ∀ x, k10 x = some (r, S9) → ∀ (H : Heap) (locs : List Loc) (ls : Array Slot), Wd E (wM V E) s.heap x.1 H locs → lv_has ls 4 [(0, .ref (ea E 44)), (1, .int x.2.1), (2, .int x.2.2)] → W p l e (rmh (d + 1 + 3)) s m args below meth c H locs 0 0 (MQ below (QW E (wM V E) (some (.int r)) S9) args s 0 0 (eA E)) (F0 m 10 ls [])) (hw : Wd E (wM V E) s.heap S H locs) (hl : lv_has ls 4 [(0, .ref (ea E 44)), (1, .int l1), (2, .int l2)]) (hf : Mo_product_b10 N f_both f_compared f_either f_one f_product f_sums k10 S l1 l2 = some (r, S9)) : W p l e (rmh (d + 1 + 3)) s m args below meth c H locs 0 0 (MQ below (QW E (wM V E) (some (.int r)) S9) args s 0 0 (eA E)) (F0 m 10 ls []) := by
  have hx := C.1
  have hb := C.2.1
  unfold Mo_product_b10 at hf
  refine lv_aload_n hx hb dX11_product_10 rfl (lv_at hl 0 rfl) ?_
  refine get_44_17 C hw q_1168 dX11_product_11 ?_
  refine lv_if_ge (tgt := 94) hx hb dX11_product_14 (by decide) (fun q => ?_) (fun q => ?_)
  · have hf := hf_t q hf
    refine lv_iload_n hx hb dX11_product_94 rfl (lv_at hl 1 rfl) ?_
    exact ret_iS C hw dX11_product_95 hf
  · have hf := hf_f q hf
    refine lv_iload_n hx hb dX11_product_17 rfl (lv_at hl 2 rfl) ?_
    refine lv_bipush (v := 42) hx hb dX11_product_18 kb_42 ?_
    refine lv_icmp_eq (tgt := 35) hx hb dX11_product_20 (by decide) (fun q => ?_) (fun q => ?_)
    · have hf := hf_t q hf
      exact w_Mo_product_b35 C hr_both hr_compared hr_either hr_one hr_product hr_sums hk10 hw (lv_sub hl [0, 1, 2] rfl) hf
    · have hf := hf_f q hf
      refine lv_iload_n hx hb dX11_product_23 rfl (lv_at hl 2 rfl) ?_
      refine lv_bipush (v := 47) hx hb dX11_product_24 kb_47 ?_
      refine lv_icmp_eq (tgt := 35) hx hb dX11_product_26 (by decide) (fun q => ?_) (fun q => ?_)
      · have hf := hf_t q hf
        exact w_Mo_product_b35 C hr_both hr_compared hr_either hr_one hr_product hr_sums hk10 hw (lv_sub hl [0, 1, 2] rfl) hf
      · have hf := hf_f q hf
        refine lv_iload_n hx hb dX11_product_29 rfl (lv_at hl 2 rfl) ?_
        refine lv_bipush (v := 37) hx hb dX11_product_30 kb_37 ?_
        refine lv_icmp_ne (tgt := 94) hx hb dX11_product_32 (by decide) (fun q => ?_) (fun q => ?_)
        · have hf := hf_f q hf
          refine lv_iload_n hx hb dX11_product_94 rfl (lv_at hl 1 rfl) ?_
          exact ret_iS C hw dX11_product_95 hf
        · have hf := hf_t q hf
          exact w_Mo_product_b35 C hr_both hr_compared hr_either hr_one hr_product hr_sums hk10 hw (lv_sub hl [0, 1, 2] rfl) hf
theorem w_Mo_product_L10 {N : Nat} {d : Nat} {f_both : St → Option (Int32 × St)} {f_compared : St → Option (Int32 × St)} {f_either : St → Option (Int32 × St)} {f_one : St → Option (Int32 × St)} {f_product : St → Option (Int32 × St)} {f_sums : St → Option (Int32 × St)} {r : Int32} {S9 : St} (C : Cx p s m args meth c E cX11_product 4 RX11 (some .int)) (hr_both : ∀ {S : St} {r : Int32} {S9 : St}, f_both S = some (r, S9) → Ct l (wM V) yX11_both cX11_both 3 (some .int) (d + 3) (fun E => [.ref (ea E 44)]) S (fun E => some (.int r)) S9) (hr_compared : ∀ {S : St} {r : Int32} {S9 : St}, f_compared S = some (r, S9) → Ct l (wM V) yX11_compared cX11_compared 4 (some .int) (d + 3) (fun E => [.ref (ea E 44)]) S (fun E => some (.int r)) S9) (hr_either : ∀ {S : St} {r : Int32} {S9 : St}, f_either S = some (r, S9) → Ct l (wM V) yX11_either cX11_either 3 (some .int) (d + 3) (fun E => [.ref (ea E 44)]) S (fun E => some (.int r)) S9) (hr_one : ∀ {S : St} {r : Int32} {S9 : St}, f_one S = some (r, S9) → Ct l (wM V) yX11_one cX11_one 5 (some .int) (d + 3) (fun E => [.ref (ea E 44)]) S (fun E => some (.int r)) S9) (hr_product : ∀ {S : St} {r : Int32} {S9 : St}, f_product S = some (r, S9) → Ct l (wM V) yX11_product cX11_product 4 (some .int) (d + 3) (fun E => [.ref (ea E 44)]) S (fun E => some (.int r)) S9) (hr_sums : ∀ {S : St} {r : Int32} {S9 : St}, f_sums S = some (r, S9) → Ct l (wM V) yX11_sums cX11_sums 4 (some .int) (d + 3) (fun E => [.ref (ea E 44)]) S (fun E => some (.int r)) S9) : ∀ x, Mo_product_L10 N f_both f_compared f_either f_one f_product f_sums x = some (r, S9) → ∀ (H : Heap) (locs : List Loc) (ls : Array Slot), Wd E (wM V E) s.heap x.1 H locs → lv_has ls 4 [(0, .ref (ea E 44)), (1, .int x.2.1), (2, .int x.2.2)] → W p l e (rmh (d + 1 + 3)) s m args below meth c H locs 0 0 (MQ below (QW E (wM V E) (some (.int r)) S9) args s 0 0 (eA E)) (F0 m 10 ls []) :=
  lp_W (fun k x hk hf H locs ls hw hl => w_Mo_product_b10 C hr_both hr_compared hr_either hr_one hr_product hr_sums hk hw hl hf) N
set_option maxRecDepth 20000 in
theorem w_Mo_product_B {N : Nat} {d : Nat} {f_both : St → Option (Int32 × St)} {f_compared : St → Option (Int32 × St)} {f_either : St → Option (Int32 × St)} {f_one : St → Option (Int32 × St)} {f_product : St → Option (Int32 × St)} {f_sums : St → Option (Int32 × St)} {r : Int32} {S9 : St} (C : Cx p s m args meth c E cX11_product 4 RX11 (some .int)) (hr_both : ∀ {S : St} {r : Int32} {S9 : St}, f_both S = some (r, S9) → Ct l (wM V) yX11_both cX11_both 3 (some .int) (d + 3) (fun E => [.ref (ea E 44)]) S (fun E => some (.int r)) S9) (hr_compared : ∀ {S : St} {r : Int32} {S9 : St}, f_compared S = some (r, S9) → Ct l (wM V) yX11_compared cX11_compared 4 (some .int) (d + 3) (fun E => [.ref (ea E 44)]) S (fun E => some (.int r)) S9) (hr_either : ∀ {S : St} {r : Int32} {S9 : St}, f_either S = some (r, S9) → Ct l (wM V) yX11_either cX11_either 3 (some .int) (d + 3) (fun E => [.ref (ea E 44)]) S (fun E => some (.int r)) S9) (hr_one : ∀ {S : St} {r : Int32} {S9 : St}, f_one S = some (r, S9) → Ct l (wM V) yX11_one cX11_one 5 (some .int) (d + 3) (fun E => [.ref (ea E 44)]) S (fun E => some (.int r)) S9) (hr_product : ∀ {S : St} {r : Int32} {S9 : St}, f_product S = some (r, S9) → Ct l (wM V) yX11_product cX11_product 4 (some .int) (d + 3) (fun E => [.ref (ea E 44)]) S (fun E => some (.int r)) S9) (hr_sums : ∀ {S : St} {r : Int32} {S9 : St}, f_sums S = some (r, S9) → Ct l (wM V) yX11_sums cX11_sums 4 (some .int) (d + 3) (fun E => [.ref (ea E 44)]) S (fun E => some (.int r)) S9) (hw : Wd E (wM V E) s.heap S H locs) (hl : lv_has ls 4 [(0, .ref (ea E 44))]) (hf : Mo_product_B N f_both f_compared f_either f_one f_product f_sums S = some (r, S9)) : W p l e (rmh (d + 1 + 3)) s m args below meth c H locs 0 0 (MQ below (QW E (wM V E) (some (.int r)) S9) args s 0 0 (eA E)) (F0 m 0 ls []) := by
  have hx := C.1
  have hb := C.2.1
  unfold Mo_product_B at hf
  refine lv_aload_n hx hb dX11_product_0 rfl (lv_at hl 0 rfl) ?_
  obtain ⟨r2, S1, hr, hf⟩ := hf_2 hf
  refine inv_Vi (q0 := 44) (ci := 11) (As := []) lk_X11_179 C hw rfl rfl rfl (hr_one hr) rfl hl.1 dX11_product_1 rfl (by omega) (by decide) (Nat.le_of_ble_eq_true rfl) rfl (fun H locs hw => ?_)
  refine lv_istore_n (lv' := [(1, .int r2), (0, .ref (ea E 44))]) hx hb dX11_product_4 rfl hl (by decide) rfl (fun ls hl => ?_)
  refine lv_aload_n hx hb dX11_product_5 rfl (lv_at hl 1 rfl) ?_
  obtain ⟨r3, hr, hf⟩ := hf_1 hf
  refine inv_Vi (q0 := 44) (ci := 11) (As := []) lk_X11_160 C hw rfl rfl rfl (t_Mo_byteAt hr) rfl hl.1 dX11_product_6 rfl (by omega) (by decide) (Nat.le_of_ble_eq_true rfl) rfl (fun H locs hw => ?_)
  refine lv_istore_n (lv' := [(2, .int r3), (1, .int r2), (0, .ref (ea E 44))]) hx hb dX11_product_9 rfl hl (by decide) rfl (fun ls hl => ?_)
  exact w_Mo_product_L10 C hr_both hr_compared hr_either hr_one hr_product hr_sums _ hf _ _ _ hw (lv_sub hl [2, 1, 0] rfl)
set_option maxRecDepth 20000 in
theorem w_Mo_sums_b44 {N : Nat} {d : Nat} {f_both : St → Option (Int32 × St)} {f_compared : St → Option (Int32 × St)} {f_either : St → Option (Int32 × St)} {f_one : St → Option (Int32 × St)} {f_product : St → Option (Int32 × St)} {f_sums : St → Option (Int32 × St)} {k5 : (St × Int32) → Option (Int32 × St)} {l1 : Int32} {s0 : Int32} {r : Int32} {S9 : St} (C : Cx p s m args meth c E cX11_sums 4 RX11 (some .int)) (hr_both : ∀ {S : St} {r : Int32} {S9 : St}, f_both S = some (r, S9) → Ct l (wM V) yX11_both cX11_both 3 (some .int) (d + 3) (fun E => [.ref (ea E 44)]) S (fun E => some (.int r)) S9) (hr_compared : ∀ {S : St} {r : Int32} {S9 : St}, f_compared S = some (r, S9) → Ct l (wM V) yX11_compared cX11_compared 4 (some .int) (d + 3) (fun E => [.ref (ea E 44)]) S (fun E => some (.int r)) S9) (hr_either : ∀ {S : St} {r : Int32} {S9 : St}, f_either S = some (r, S9) → Ct l (wM V) yX11_either cX11_either 3 (some .int) (d + 3) (fun E => [.ref (ea E 44)]) S (fun E => some (.int r)) S9) (hr_one : ∀ {S : St} {r : Int32} {S9 : St}, f_one S = some (r, S9) → Ct l (wM V) yX11_one cX11_one 5 (some .int) (d + 3) (fun E => [.ref (ea E 44)]) S (fun E => some (.int r)) S9) (hr_product : ∀ {S : St} {r : Int32} {S9 : St}, f_product S = some (r, S9) → Ct l (wM V) yX11_product cX11_product 4 (some .int) (d + 3) (fun E => [.ref (ea E 44)]) S (fun E => some (.int r)) S9) (hr_sums : ∀ {S : St} {r : Int32} {S9 : St}, f_sums S = some (r, S9) → Ct l (wM V) yX11_sums cX11_sums 4 (some .int) (d + 3) (fun E => [.ref (ea E 44)]) S (fun E => some (.int r)) S9) (hk5 : ∀ x, k5 x = some (r, S9) → ∀ (H : Heap) (locs : List Loc) (ls : Array Slot), Wd E (wM V E) s.heap x.1 H locs → lv_has ls 4 [(0, .ref (ea E 44)), (1, .int x.2)] → W p l e (rmh (d + 1 + 3)) s m args below meth c H locs 0 0 (MQ below (QW E (wM V E) (some (.int r)) S9) args s 0 0 (eA E)) (F0 m 5 ls [])) (hw : Wd E (wM V E) s.heap S H locs) (hl : lv_has ls 4 [(0, .ref (ea E 44)), (1, .int l1)]) (hf : Mo_sums_b44 N f_both f_compared f_either f_one f_product f_sums k5 S l1 s0 = some (r, S9)) : W p l e (rmh (d + 1 + 3)) s m args below meth c H locs 0 0 (MQ below (QW E (wM V E) (some (.int r)) S9) args s 0 0 (eA E)) (F0 m 44 ls [.int s0]) := by
  have hx := C.1
  have hb := C.2.1
  unfold Mo_sums_b44 at hf
  refine lv_istore_n (lv' := [(2, .int s0), (0, .ref (ea E 44)), (1, .int l1)]) hx hb dX11_sums_44 rfl hl (by decide) rfl (fun ls hl => ?_)
  refine lv_aload_n hx hb dX11_sums_45 rfl (lv_at hl 1 rfl) ?_
  refine lv_dup hx hb dX11_sums_46 rfl ?_
  refine get_44_15 C hw q_1166 dX11_sums_47 ?_
  refine lv_iconst (v := 1) hx hb dX11_sums_50 kc_1 ?_
  refine lv_iadd hx hb dX11_sums_51 ?_
  refine put_44_15 C hw q_1166 dX11_sums_52 (fun H locs hw => ?_)
  refine nm_S hf hw (fun S1 hf hw => ?_)
  refine lv_aload_n hx hb dX11_sums_55 rfl (lv_at hl 1 rfl) ?_
  obtain ⟨r3, S2, hr, hf⟩ := hf_2 hf
  refine inv_Vi (q0 := 44) (ci := 11) (As := []) lk_X11_176 C hw rfl rfl rfl (hr_product hr) rfl hl.1 dX11_sums_56 rfl (by omega) (by decide) (Nat.le_of_ble_eq_true rfl) rfl (fun H locs hw => ?_)
  refine lv_istore_n (lv' := [(3, .int r3), (2, .int s0), (0, .ref (ea E 44)), (1, .int l1)]) hx hb dX11_sums_59 rfl hl (by decide) rfl (fun ls hl => ?_)
  refine lv_iload_n hx hb dX11_sums_60 rfl (lv_at hl 1 rfl) ?_
  refine lv_if_eq (tgt := 70) hx hb dX11_sums_61 (by decide) (fun q => ?_) (fun q => ?_)
  · have hf := hf_t q hf
    refine lv_iload_n hx hb dX11_sums_70 rfl (lv_at hl 3 rfl) ?_
    refine lv_iload_n hx hb dX11_sums_71 rfl (lv_at hl 0 rfl) ?_
    refine lv_isub hx hb dX11_sums_72 ?_
    refine nm_i hf (fun x4 hf => ?_)
    refine lv_istore_n (lv' := [(1, .int x4), (3, .int r3), (2, .int s0), (0, .ref (ea E 44))]) hx hb dX11_sums_73 rfl hl (by decide) rfl (fun ls hl => ?_)
    refine lv_goto (tgt := 5) hx hb dX11_sums_74 (by decide) ?_
    exact hk5 _ hf _ _ _ hw (lv_sub hl [3, 0] rfl)
  · have hf := hf_f q hf
    refine lv_iload_n hx hb dX11_sums_64 rfl (lv_at hl 3 rfl) ?_
    refine lv_iload_n hx hb dX11_sums_65 rfl (lv_at hl 0 rfl) ?_
    refine lv_iadd hx hb dX11_sums_66 ?_
    refine lv_goto (tgt := 73) hx hb dX11_sums_67 (by decide) ?_
    refine nm_i hf (fun x5 hf => ?_)
    refine lv_istore_n (lv' := [(1, .int x5), (3, .int r3), (2, .int s0), (0, .ref (ea E 44))]) hx hb dX11_sums_73 rfl hl (by decide) rfl (fun ls hl => ?_)
    refine lv_goto (tgt := 5) hx hb dX11_sums_74 (by decide) ?_
    exact hk5 _ hf _ _ _ hw (lv_sub hl [3, 0] rfl)
set_option maxRecDepth 20000 in
theorem w_Mo_sums_b30 {N : Nat} {d : Nat} {f_both : St → Option (Int32 × St)} {f_compared : St → Option (Int32 × St)} {f_either : St → Option (Int32 × St)} {f_one : St → Option (Int32 × St)} {f_product : St → Option (Int32 × St)} {f_sums : St → Option (Int32 × St)} {k5 : (St × Int32) → Option (Int32 × St)} {l1 : Int32} {r : Int32} {S9 : St} (C : Cx p s m args meth c E cX11_sums 4 RX11 (some .int)) (hr_both : ∀ {S : St} {r : Int32} {S9 : St}, f_both S = some (r, S9) → Ct l (wM V) yX11_both cX11_both 3 (some .int) (d + 3) (fun E => [.ref (ea E 44)]) S (fun E => some (.int r)) S9) (hr_compared : ∀ {S : St} {r : Int32} {S9 : St}, f_compared S = some (r, S9) → Ct l (wM V) yX11_compared cX11_compared 4 (some .int) (d + 3) (fun E => [.ref (ea E 44)]) S (fun E => some (.int r)) S9) (hr_either : ∀ {S : St} {r : Int32} {S9 : St}, f_either S = some (r, S9) → Ct l (wM V) yX11_either cX11_either 3 (some .int) (d + 3) (fun E => [.ref (ea E 44)]) S (fun E => some (.int r)) S9) (hr_one : ∀ {S : St} {r : Int32} {S9 : St}, f_one S = some (r, S9) → Ct l (wM V) yX11_one cX11_one 5 (some .int) (d + 3) (fun E => [.ref (ea E 44)]) S (fun E => some (.int r)) S9) (hr_product : ∀ {S : St} {r : Int32} {S9 : St}, f_product S = some (r, S9) → Ct l (wM V) yX11_product cX11_product 4 (some .int) (d + 3) (fun E => [.ref (ea E 44)]) S (fun E => some (.int r)) S9) (hr_sums : ∀ {S : St} {r : Int32} {S9 : St}, f_sums S = some (r, S9) → Ct l (wM V) yX11_sums cX11_sums 4 (some .int) (d + 3) (fun E => [.ref (ea E 44)]) S (fun E => some (.int r)) S9) (hk5 : ∀ x, k5 x = some (r, S9) → ∀ (H : Heap) (locs : List Loc) (ls : Array Slot), Wd E (wM V E) s.heap x.1 H locs → lv_has ls 4 [(0, .ref (ea E 44)), (1, .int x.2)] → W p l e (rmh (d + 1 + 3)) s m args below meth c H locs 0 0 (MQ below (QW E (wM V E) (some (.int r)) S9) args s 0 0 (eA E)) (F0 m 5 ls [])) (hw : Wd E (wM V E) s.heap S H locs) (hl : lv_has ls 4 [(0, .ref (ea E 44)), (1, .int l1)]) (hf : Mo_sums_b30 N f_both f_compared f_either f_one f_product f_sums k5 S l1 = some (r, S9)) : W p l e (rmh (d + 1 + 3)) s m args below meth c H locs 0 0 (MQ below (QW E (wM V E) (some (.int r)) S9) args s 0 0 (eA E)) (F0 m 30 ls []) := by
  have hx := C.1
  have hb := C.2.1
  unfold Mo_sums_b30 at hf
  refine lv_aload_n hx hb dX11_sums_30 rfl (lv_at hl 0 rfl) ?_
  obtain ⟨r1, hr, hf⟩ := hf_1 hf
  refine inv_Vi (q0 := 44) (ci := 11) (As := []) lk_X11_160 C hw rfl rfl rfl (t_Mo_byteAt hr) rfl hl.1 dX11_sums_31 rfl (by omega) (by decide) (Nat.le_of_ble_eq_true rfl) rfl (fun H locs hw => ?_)
  refine lv_bipush (v := 43) hx hb dX11_sums_34 kb_43 ?_
  refine lv_icmp_ne (tgt := 43) hx hb dX11_sums_36 (by decide) (fun q => ?_) (fun q => ?_)
  · have hf := hf_f q hf
    refine lv_iconst (v := 0) hx hb dX11_sums_43 kc_0 ?_
    exact w_Mo_sums_b44 C hr_both hr_compared hr_either hr_one hr_product hr_sums hk5 hw (lv_sub hl [0, 1] rfl) hf
  · have hf := hf_t q hf
    refine lv_iconst (v := 1) hx hb dX11_sums_39 kc_1 ?_
    refine lv_goto (tgt := 44) hx hb dX11_sums_40 (by decide) ?_
    exact w_Mo_sums_b44 C hr_both hr_compared hr_either hr_one hr_product hr_sums hk5 hw (lv_sub hl [0, 1] rfl) hf
set_option maxRecDepth 20000 in
theorem w_Mo_sums_b5 {N : Nat} {d : Nat} {f_both : St → Option (Int32 × St)} {f_compared : St → Option (Int32 × St)} {f_either : St → Option (Int32 × St)} {f_one : St → Option (Int32 × St)} {f_product : St → Option (Int32 × St)} {f_sums : St → Option (Int32 × St)} {k5 : (St × Int32) → Option (Int32 × St)} {l1 : Int32} {r : Int32} {S9 : St} (C : Cx p s m args meth c E cX11_sums 4 RX11 (some .int)) (hr_both : ∀ {S : St} {r : Int32} {S9 : St}, f_both S = some (r, S9) → Ct l (wM V) yX11_both cX11_both 3 (some .int) (d + 3) (fun E => [.ref (ea E 44)]) S (fun E => some (.int r)) S9) (hr_compared : ∀ {S : St} {r : Int32} {S9 : St}, f_compared S = some (r, S9) → Ct l (wM V) yX11_compared cX11_compared 4 (some .int) (d + 3) (fun E => [.ref (ea E 44)]) S (fun E => some (.int r)) S9) (hr_either : ∀ {S : St} {r : Int32} {S9 : St}, f_either S = some (r, S9) → Ct l (wM V) yX11_either cX11_either 3 (some .int) (d + 3) (fun E => [.ref (ea E 44)]) S (fun E => some (.int r)) S9) (hr_one : ∀ {S : St} {r : Int32} {S9 : St}, f_one S = some (r, S9) → Ct l (wM V) yX11_one cX11_one 5 (some .int) (d + 3) (fun E => [.ref (ea E 44)]) S (fun E => some (.int r)) S9) (hr_product : ∀ {S : St} {r : Int32} {S9 : St}, f_product S = some (r, S9) → Ct l (wM V) yX11_product cX11_product 4 (some .int) (d + 3) (fun E => [.ref (ea E 44)]) S (fun E => some (.int r)) S9) (hr_sums : ∀ {S : St} {r : Int32} {S9 : St}, f_sums S = some (r, S9) → Ct l (wM V) yX11_sums cX11_sums 4 (some .int) (d + 3) (fun E => [.ref (ea E 44)]) S (fun E => some (.int r)) S9) (hk5 : ∀ x, k5 x = some (r, S9) → ∀ (H : Heap) (locs : List Loc) (ls : Array Slot), Wd E (wM V E) s.heap x.1 H locs → lv_has ls 4 [(0, .ref (ea E 44)), (1, .int x.2)] → W p l e (rmh (d + 1 + 3)) s m args below meth c H locs 0 0 (MQ below (QW E (wM V E) (some (.int r)) S9) args s 0 0 (eA E)) (F0 m 5 ls [])) (hw : Wd E (wM V E) s.heap S H locs) (hl : lv_has ls 4 [(0, .ref (ea E 44)), (1, .int l1)]) (hf : Mo_sums_b5 N f_both f_compared f_either f_one f_product f_sums k5 S l1 = some (r, S9)) : W p l e (rmh (d + 1 + 3)) s m args below meth c H locs 0 0 (MQ below (QW E (wM V E) (some (.int r)) S9) args s 0 0 (eA E)) (F0 m 5 ls []) := by
  have hx := C.1
  have hb := C.2.1
  unfold Mo_sums_b5 at hf
  refine lv_aload_n hx hb dX11_sums_5 rfl (lv_at hl 0 rfl) ?_
  refine get_44_17 C hw q_1168 dX11_sums_6 ?_
  refine lv_if_ge (tgt := 77) hx hb dX11_sums_9 (by decide) (fun q => ?_) (fun q => ?_)
  · have hf := hf_t q hf
    refine lv_iload_n hx hb dX11_sums_77 rfl (lv_at hl 1 rfl) ?_
    exact ret_iS C hw dX11_sums_78 hf
  · have hf := hf_f q hf
    refine lv_aload_n hx hb dX11_sums_12 rfl (lv_at hl 0 rfl) ?_
    obtain ⟨r1, hr, hf⟩ := hf_1 hf
    refine inv_Vi (q0 := 44) (ci := 11) (As := []) lk_X11_160 C hw rfl rfl rfl (t_Mo_byteAt hr) rfl hl.1 dX11_sums_13 rfl (by omega) (by decide) (Nat.le_of_ble_eq_true rfl) rfl (fun H locs hw => ?_)
    refine lv_bipush (v := 43) hx hb dX11_sums_16 kb_43 ?_
    refine lv_icmp_eq (tgt := 30) hx hb dX11_sums_18 (by decide) (fun q => ?_) (fun q => ?_)
    · have hf := hf_t q hf
      exact w_Mo_sums_b30 C hr_both hr_compared hr_either hr_one hr_product hr_sums hk5 hw (lv_sub hl [0, 1] rfl) hf
    · have hf := hf_f q hf
      refine lv_aload_n hx hb dX11_sums_21 rfl (lv_at hl 0 rfl) ?_
      obtain ⟨r2, hr, hf⟩ := hf_1 hf
      refine inv_Vi (q0 := 44) (ci := 11) (As := []) lk_X11_160 C hw rfl rfl rfl (t_Mo_byteAt hr) rfl hl.1 dX11_sums_22 rfl (by omega) (by decide) (Nat.le_of_ble_eq_true rfl) rfl (fun H locs hw => ?_)
      refine lv_bipush (v := 45) hx hb dX11_sums_25 kb_45 ?_
      refine lv_icmp_ne (tgt := 77) hx hb dX11_sums_27 (by decide) (fun q => ?_) (fun q => ?_)
      · have hf := hf_f q hf
        refine lv_iload_n hx hb dX11_sums_77 rfl (lv_at hl 1 rfl) ?_
        exact ret_iS C hw dX11_sums_78 hf
      · have hf := hf_t q hf
        exact w_Mo_sums_b30 C hr_both hr_compared hr_either hr_one hr_product hr_sums hk5 hw (lv_sub hl [0, 1] rfl) hf
theorem w_Mo_sums_L5 {N : Nat} {d : Nat} {f_both : St → Option (Int32 × St)} {f_compared : St → Option (Int32 × St)} {f_either : St → Option (Int32 × St)} {f_one : St → Option (Int32 × St)} {f_product : St → Option (Int32 × St)} {f_sums : St → Option (Int32 × St)} {r : Int32} {S9 : St} (C : Cx p s m args meth c E cX11_sums 4 RX11 (some .int)) (hr_both : ∀ {S : St} {r : Int32} {S9 : St}, f_both S = some (r, S9) → Ct l (wM V) yX11_both cX11_both 3 (some .int) (d + 3) (fun E => [.ref (ea E 44)]) S (fun E => some (.int r)) S9) (hr_compared : ∀ {S : St} {r : Int32} {S9 : St}, f_compared S = some (r, S9) → Ct l (wM V) yX11_compared cX11_compared 4 (some .int) (d + 3) (fun E => [.ref (ea E 44)]) S (fun E => some (.int r)) S9) (hr_either : ∀ {S : St} {r : Int32} {S9 : St}, f_either S = some (r, S9) → Ct l (wM V) yX11_either cX11_either 3 (some .int) (d + 3) (fun E => [.ref (ea E 44)]) S (fun E => some (.int r)) S9) (hr_one : ∀ {S : St} {r : Int32} {S9 : St}, f_one S = some (r, S9) → Ct l (wM V) yX11_one cX11_one 5 (some .int) (d + 3) (fun E => [.ref (ea E 44)]) S (fun E => some (.int r)) S9) (hr_product : ∀ {S : St} {r : Int32} {S9 : St}, f_product S = some (r, S9) → Ct l (wM V) yX11_product cX11_product 4 (some .int) (d + 3) (fun E => [.ref (ea E 44)]) S (fun E => some (.int r)) S9) (hr_sums : ∀ {S : St} {r : Int32} {S9 : St}, f_sums S = some (r, S9) → Ct l (wM V) yX11_sums cX11_sums 4 (some .int) (d + 3) (fun E => [.ref (ea E 44)]) S (fun E => some (.int r)) S9) : ∀ x, Mo_sums_L5 N f_both f_compared f_either f_one f_product f_sums x = some (r, S9) → ∀ (H : Heap) (locs : List Loc) (ls : Array Slot), Wd E (wM V E) s.heap x.1 H locs → lv_has ls 4 [(0, .ref (ea E 44)), (1, .int x.2)] → W p l e (rmh (d + 1 + 3)) s m args below meth c H locs 0 0 (MQ below (QW E (wM V E) (some (.int r)) S9) args s 0 0 (eA E)) (F0 m 5 ls []) :=
  lp_W (fun k x hk hf H locs ls hw hl => w_Mo_sums_b5 C hr_both hr_compared hr_either hr_one hr_product hr_sums hk hw hl hf) N
set_option maxRecDepth 20000 in
theorem w_Mo_sums_B {N : Nat} {d : Nat} {f_both : St → Option (Int32 × St)} {f_compared : St → Option (Int32 × St)} {f_either : St → Option (Int32 × St)} {f_one : St → Option (Int32 × St)} {f_product : St → Option (Int32 × St)} {f_sums : St → Option (Int32 × St)} {r : Int32} {S9 : St} (C : Cx p s m args meth c E cX11_sums 4 RX11 (some .int)) (hr_both : ∀ {S : St} {r : Int32} {S9 : St}, f_both S = some (r, S9) → Ct l (wM V) yX11_both cX11_both 3 (some .int) (d + 3) (fun E => [.ref (ea E 44)]) S (fun E => some (.int r)) S9) (hr_compared : ∀ {S : St} {r : Int32} {S9 : St}, f_compared S = some (r, S9) → Ct l (wM V) yX11_compared cX11_compared 4 (some .int) (d + 3) (fun E => [.ref (ea E 44)]) S (fun E => some (.int r)) S9) (hr_either : ∀ {S : St} {r : Int32} {S9 : St}, f_either S = some (r, S9) → Ct l (wM V) yX11_either cX11_either 3 (some .int) (d + 3) (fun E => [.ref (ea E 44)]) S (fun E => some (.int r)) S9) (hr_one : ∀ {S : St} {r : Int32} {S9 : St}, f_one S = some (r, S9) → Ct l (wM V) yX11_one cX11_one 5 (some .int) (d + 3) (fun E => [.ref (ea E 44)]) S (fun E => some (.int r)) S9) (hr_product : ∀ {S : St} {r : Int32} {S9 : St}, f_product S = some (r, S9) → Ct l (wM V) yX11_product cX11_product 4 (some .int) (d + 3) (fun E => [.ref (ea E 44)]) S (fun E => some (.int r)) S9) (hr_sums : ∀ {S : St} {r : Int32} {S9 : St}, f_sums S = some (r, S9) → Ct l (wM V) yX11_sums cX11_sums 4 (some .int) (d + 3) (fun E => [.ref (ea E 44)]) S (fun E => some (.int r)) S9) (hw : Wd E (wM V E) s.heap S H locs) (hl : lv_has ls 4 [(0, .ref (ea E 44))]) (hf : Mo_sums_B N f_both f_compared f_either f_one f_product f_sums S = some (r, S9)) : W p l e (rmh (d + 1 + 3)) s m args below meth c H locs 0 0 (MQ below (QW E (wM V E) (some (.int r)) S9) args s 0 0 (eA E)) (F0 m 0 ls []) := by
  have hx := C.1
  have hb := C.2.1
  unfold Mo_sums_B at hf
  refine lv_aload_n hx hb dX11_sums_0 rfl (lv_at hl 0 rfl) ?_
  obtain ⟨r2, S1, hr, hf⟩ := hf_2 hf
  refine inv_Vi (q0 := 44) (ci := 11) (As := []) lk_X11_176 C hw rfl rfl rfl (hr_product hr) rfl hl.1 dX11_sums_1 rfl (by omega) (by decide) (Nat.le_of_ble_eq_true rfl) rfl (fun H locs hw => ?_)
  refine lv_istore_n (lv' := [(1, .int r2), (0, .ref (ea E 44))]) hx hb dX11_sums_4 rfl hl (by decide) rfl (fun ls hl => ?_)
  exact w_Mo_sums_L5 C hr_both hr_compared hr_either hr_one hr_product hr_sums _ hf _ _ _ hw (lv_sub hl [1, 0] rfl)
end
theorem g_Mo_both {l : Launch} {V : St} {N : Nat} : ∀ d : Nat, (∀ {S : St} {r : Int32} {S9 : St}, Mo_both N d S = some (r, S9) → Ct l (wM V) yX11_both cX11_both 3 (some .int) (d + 3) (fun E => [.ref (ea E 44)]) S (fun E => some (.int r)) S9) ∧ (∀ {S : St} {r : Int32} {S9 : St}, Mo_compared N d S = some (r, S9) → Ct l (wM V) yX11_compared cX11_compared 4 (some .int) (d + 3) (fun E => [.ref (ea E 44)]) S (fun E => some (.int r)) S9) ∧ (∀ {S : St} {r : Int32} {S9 : St}, Mo_either N d S = some (r, S9) → Ct l (wM V) yX11_either cX11_either 3 (some .int) (d + 3) (fun E => [.ref (ea E 44)]) S (fun E => some (.int r)) S9) ∧ (∀ {S : St} {r : Int32} {S9 : St}, Mo_one N d S = some (r, S9) → Ct l (wM V) yX11_one cX11_one 5 (some .int) (d + 3) (fun E => [.ref (ea E 44)]) S (fun E => some (.int r)) S9) ∧ (∀ {S : St} {r : Int32} {S9 : St}, Mo_product N d S = some (r, S9) → Ct l (wM V) yX11_product cX11_product 4 (some .int) (d + 3) (fun E => [.ref (ea E 44)]) S (fun E => some (.int r)) S9) ∧ (∀ {S : St} {r : Int32} {S9 : St}, Mo_sums N d S = some (r, S9) → Ct l (wM V) yX11_sums cX11_sums 4 (some .int) (d + 3) (fun E => [.ref (ea E 44)]) S (fun E => some (.int r)) S9) := by
  intro d
  induction d with
  | zero => exact ⟨(by intros; rename_i hf; cases hf), (by intros; rename_i hf; cases hf), (by intros; rename_i hf; cases hf), (by intros; rename_i hf; cases hf), (by intros; rename_i hf; cases hf), (by intros; rename_i hf; cases hf)⟩
  | succ d ih =>
    obtain ⟨h0, h1, h2, h3, h4, h5⟩ := ih
    exact ⟨(by intros; rename_i hf; exact ofBlock (by decide +kernel) (fun _ => Nat.le_of_ble_eq_true rfl) (fun E p e s m args below meth c ls C hw hl => w_Mo_both_B (N := N) (d := d) (f_both := Mo_both N d) (f_compared := Mo_compared N d) (f_either := Mo_either N d) (f_one := Mo_one N d) (f_product := Mo_product N d) (f_sums := Mo_sums N d) C h0 h1 h2 h3 h4 h5 hw hl hf)),
     (by intros; rename_i hf; exact ofBlock (by decide +kernel) (fun _ => Nat.le_of_ble_eq_true rfl) (fun E p e s m args below meth c ls C hw hl => w_Mo_compared_B (N := N) (d := d) (f_both := Mo_both N d) (f_compared := Mo_compared N d) (f_either := Mo_either N d) (f_one := Mo_one N d) (f_product := Mo_product N d) (f_sums := Mo_sums N d) C h0 h1 h2 h3 h4 h5 hw hl hf)),
     (by intros; rename_i hf; exact ofBlock (by decide +kernel) (fun _ => Nat.le_of_ble_eq_true rfl) (fun E p e s m args below meth c ls C hw hl => w_Mo_either_B (N := N) (d := d) (f_both := Mo_both N d) (f_compared := Mo_compared N d) (f_either := Mo_either N d) (f_one := Mo_one N d) (f_product := Mo_product N d) (f_sums := Mo_sums N d) C h0 h1 h2 h3 h4 h5 hw hl hf)),
     (by intros; rename_i hf; exact ofBlock (by decide +kernel) (fun _ => Nat.le_of_ble_eq_true rfl) (fun E p e s m args below meth c ls C hw hl => w_Mo_one_B (N := N) (d := d) (f_both := Mo_both N d) (f_compared := Mo_compared N d) (f_either := Mo_either N d) (f_one := Mo_one N d) (f_product := Mo_product N d) (f_sums := Mo_sums N d) C h0 h1 h2 h3 h4 h5 hw hl hf)),
     (by intros; rename_i hf; exact ofBlock (by decide +kernel) (fun _ => Nat.le_of_ble_eq_true rfl) (fun E p e s m args below meth c ls C hw hl => w_Mo_product_B (N := N) (d := d) (f_both := Mo_both N d) (f_compared := Mo_compared N d) (f_either := Mo_either N d) (f_one := Mo_one N d) (f_product := Mo_product N d) (f_sums := Mo_sums N d) C h0 h1 h2 h3 h4 h5 hw hl hf)),
     (by intros; rename_i hf; exact ofBlock (by decide +kernel) (fun _ => Nat.le_of_ble_eq_true rfl) (fun E p e s m args below meth c ls C hw hl => w_Mo_sums_B (N := N) (d := d) (f_both := Mo_both N d) (f_compared := Mo_compared N d) (f_either := Mo_either N d) (f_one := Mo_one N d) (f_product := Mo_product N d) (f_sums := Mo_sums N d) C h0 h1 h2 h3 h4 h5 hw hl hf))⟩
theorem t_Mo_both {l : Launch} {V : St} {N : Nat} {S : St} {r : Int32} {S9 : St} (hf : Mo_both N N S = some (r, S9)) : Ct l (wM V) yX11_both cX11_both 3 (some .int) (N + 3) (fun E => [.ref (ea E 44)]) S (fun E => some (.int r)) S9 := ((g_Mo_both (l := l) (V := V) (N := N) N).1) hf
theorem t_Mo_compared {l : Launch} {V : St} {N : Nat} {S : St} {r : Int32} {S9 : St} (hf : Mo_compared N N S = some (r, S9)) : Ct l (wM V) yX11_compared cX11_compared 4 (some .int) (N + 3) (fun E => [.ref (ea E 44)]) S (fun E => some (.int r)) S9 := ((g_Mo_both (l := l) (V := V) (N := N) N).2.1) hf
theorem t_Mo_either {l : Launch} {V : St} {N : Nat} {S : St} {r : Int32} {S9 : St} (hf : Mo_either N N S = some (r, S9)) : Ct l (wM V) yX11_either cX11_either 3 (some .int) (N + 3) (fun E => [.ref (ea E 44)]) S (fun E => some (.int r)) S9 := ((g_Mo_both (l := l) (V := V) (N := N) N).2.2.1) hf
theorem t_Mo_one {l : Launch} {V : St} {N : Nat} {S : St} {r : Int32} {S9 : St} (hf : Mo_one N N S = some (r, S9)) : Ct l (wM V) yX11_one cX11_one 5 (some .int) (N + 3) (fun E => [.ref (ea E 44)]) S (fun E => some (.int r)) S9 := ((g_Mo_both (l := l) (V := V) (N := N) N).2.2.2.1) hf
theorem t_Mo_product {l : Launch} {V : St} {N : Nat} {S : St} {r : Int32} {S9 : St} (hf : Mo_product N N S = some (r, S9)) : Ct l (wM V) yX11_product cX11_product 4 (some .int) (N + 3) (fun E => [.ref (ea E 44)]) S (fun E => some (.int r)) S9 := ((g_Mo_both (l := l) (V := V) (N := N) N).2.2.2.2.1) hf
theorem t_Mo_sums {l : Launch} {V : St} {N : Nat} {S : St} {r : Int32} {S9 : St} (hf : Mo_sums N N S = some (r, S9)) : Ct l (wM V) yX11_sums cX11_sums 4 (some .int) (N + 3) (fun E => [.ref (ea E 44)]) S (fun E => some (.int r)) S9 := ((g_Mo_both (l := l) (V := V) (N := N) N).2.2.2.2.2) hf
