/-! decode rows -/
theorem dMo_findGreatest_0 : decode cMo_findGreatest 0 = .ok (.aload_n 0, 1) := by decide +kernel
theorem dMo_findGreatest_1 : decode cMo_findGreatest 1 = .ok (.iconst 1, 1) := by decide +kernel
theorem dMo_findGreatest_2 : decode cMo_findGreatest 2 = .ok (.putfield 192, 3) := by decide +kernel
theorem dMo_findGreatest_5 : decode cMo_findGreatest 5 = .ok (.iconst 0, 1) := by decide +kernel
theorem dMo_findGreatest_6 : decode cMo_findGreatest 6 = .ok (.istore_n 1, 1) := by decide +kernel
theorem dMo_findGreatest_7 : decode cMo_findGreatest 7 = .ok (.iload_n 1, 1) := by decide +kernel
theorem dMo_findGreatest_8 : decode cMo_findGreatest 8 = .ok (.iconst 4, 1) := by decide +kernel
theorem dMo_findGreatest_9 : decode cMo_findGreatest 9 = .ok (.if_icmp .ge 16, 3) := by decide +kernel
theorem dMo_findGreatest_12 : decode cMo_findGreatest 12 = .ok (.aload_n 0, 1) := by decide +kernel
theorem dMo_findGreatest_13 : decode cMo_findGreatest 13 = .ok (.getfield 55, 3) := by decide +kernel
theorem dMo_findGreatest_16 : decode cMo_findGreatest 16 = .ok (.iload_n 1, 1) := by decide +kernel
theorem dMo_findGreatest_17 : decode cMo_findGreatest 17 = .ok (.iconst 0, 1) := by decide +kernel
theorem dMo_findGreatest_18 : decode cMo_findGreatest 18 = .ok (.iastore, 1) := by decide +kernel
theorem dMo_findGreatest_19 : decode cMo_findGreatest 19 = .ok (.iinc 1 1, 3) := by decide +kernel
theorem dMo_findGreatest_22 : decode cMo_findGreatest 22 = .ok (.goto (-15), 3) := by decide +kernel
theorem dMo_findGreatest_25 : decode cMo_findGreatest 25 = .ok (.iconst 0, 1) := by decide +kernel
theorem dMo_findGreatest_26 : decode cMo_findGreatest 26 = .ok (.istore_n 1, 1) := by decide +kernel
theorem dMo_findGreatest_27 : decode cMo_findGreatest 27 = .ok (.iload_n 1, 1) := by decide +kernel
theorem dMo_findGreatest_28 : decode cMo_findGreatest 28 = .ok (.aload_n 0, 1) := by decide +kernel
theorem dMo_findGreatest_29 : decode cMo_findGreatest 29 = .ok (.getfield 128, 3) := by decide +kernel
theorem dMo_findGreatest_32 : decode cMo_findGreatest 32 = .ok (.if_icmp .ge 187, 3) := by decide +kernel
theorem dMo_findGreatest_35 : decode cMo_findGreatest 35 = .ok (.iconst 0, 1) := by decide +kernel
theorem dMo_findGreatest_36 : decode cMo_findGreatest 36 = .ok (.istore_n 2, 1) := by decide +kernel
theorem dMo_findGreatest_37 : decode cMo_findGreatest 37 = .ok (.iload_n 2, 1) := by decide +kernel
theorem dMo_findGreatest_38 : decode cMo_findGreatest 38 = .ok (.aload_n 0, 1) := by decide +kernel
theorem dMo_findGreatest_39 : decode cMo_findGreatest 39 = .ok (.getfield 7, 3) := by decide +kernel
theorem dMo_findGreatest_42 : decode cMo_findGreatest 42 = .ok (.iload_n 1, 1) := by decide +kernel
theorem dMo_findGreatest_43 : decode cMo_findGreatest 43 = .ok (.iaload, 1) := by decide +kernel
theorem dMo_findGreatest_44 : decode cMo_findGreatest 44 = .ok (.if_icmp .ge 15, 3) := by decide +kernel
theorem dMo_findGreatest_47 : decode cMo_findGreatest 47 = .ok (.aload_n 0, 1) := by decide +kernel
theorem dMo_findGreatest_48 : decode cMo_findGreatest 48 = .ok (.iload_n 1, 1) := by decide +kernel
theorem dMo_findGreatest_49 : decode cMo_findGreatest 49 = .ok (.iload_n 2, 1) := by decide +kernel
theorem dMo_findGreatest_50 : decode cMo_findGreatest 50 = .ok (.invokevirtual 195, 3) := by decide +kernel
theorem dMo_findGreatest_53 : decode cMo_findGreatest 53 = .ok (.iinc 2 1, 3) := by decide +kernel
theorem dMo_findGreatest_56 : decode cMo_findGreatest 56 = .ok (.goto (-19), 3) := by decide +kernel
theorem dMo_findGreatest_59 : decode cMo_findGreatest 59 = .ok (.bipush 36, 2) := by decide +kernel
theorem dMo_findGreatest_61 : decode cMo_findGreatest 61 = .ok (.iload_n 1, 1) := by decide +kernel
theorem dMo_findGreatest_62 : decode cMo_findGreatest 62 = .ok (.imul, 1) := by decide +kernel
theorem dMo_findGreatest_63 : decode cMo_findGreatest 63 = .ok (.istore_n 2, 1) := by decide +kernel
theorem dMo_findGreatest_64 : decode cMo_findGreatest 64 = .ok (.iload_n 2, 1) := by decide +kernel
theorem dMo_findGreatest_65 : decode cMo_findGreatest 65 = .ok (.bipush 36, 2) := by decide +kernel
theorem dMo_findGreatest_67 : decode cMo_findGreatest 67 = .ok (.iload_n 1, 1) := by decide +kernel
theorem dMo_findGreatest_68 : decode cMo_findGreatest 68 = .ok (.imul, 1) := by decide +kernel
theorem dMo_findGreatest_69 : decode cMo_findGreatest 69 = .ok (.iconst 3, 1) := by decide +kernel
theorem dMo_findGreatest_70 : decode cMo_findGreatest 70 = .ok (.aload_n 0, 1) := by decide +kernel
theorem dMo_findGreatest_71 : decode cMo_findGreatest 71 = .ok (.getfield 13, 3) := by decide +kernel
theorem dMo_findGreatest_74 : decode cMo_findGreatest 74 = .ok (.iload_n 1, 1) := by decide +kernel
theorem dMo_findGreatest_75 : decode cMo_findGreatest 75 = .ok (.iaload, 1) := by decide +kernel
theorem dMo_findGreatest_76 : decode cMo_findGreatest 76 = .ok (.imul, 1) := by decide +kernel
theorem dMo_findGreatest_77 : decode cMo_findGreatest 77 = .ok (.iadd, 1) := by decide +kernel
theorem dMo_findGreatest_78 : decode cMo_findGreatest 78 = .ok (.if_icmp .ge 135, 3) := by decide +kernel
theorem dMo_findGreatest_81 : decode cMo_findGreatest 81 = .ok (.iload_n 2, 1) := by decide +kernel
theorem dMo_findGreatest_82 : decode cMo_findGreatest 82 = .ok (.iconst 3, 1) := by decide +kernel
theorem dMo_findGreatest_83 : decode cMo_findGreatest 83 = .ok (.irem, 1) := by decide +kernel
theorem dMo_findGreatest_84 : decode cMo_findGreatest 84 = .ok (.aload_n 0, 1) := by decide +kernel
theorem dMo_findGreatest_85 : decode cMo_findGreatest 85 = .ok (.getfield 37, 3) := by decide +kernel
theorem dMo_findGreatest_88 : decode cMo_findGreatest 88 = .ok (.iload_n 2, 1) := by decide +kernel
theorem dMo_findGreatest_89 : decode cMo_findGreatest 89 = .ok (.iconst 3, 1) := by decide +kernel
theorem dMo_findGreatest_90 : decode cMo_findGreatest 90 = .ok (.idiv, 1) := by decide +kernel
theorem dMo_findGreatest_91 : decode cMo_findGreatest 91 = .ok (.iaload, 1) := by decide +kernel
theorem dMo_findGreatest_92 : decode cMo_findGreatest 92 = .ok (.if_icmp .lt 6, 3) := by decide +kernel
theorem dMo_findGreatest_95 : decode cMo_findGreatest 95 = .ok (.goto 112, 3) := by decide +kernel
theorem dMo_findGreatest_98 : decode cMo_findGreatest 98 = .ok (.aload_n 0, 1) := by decide +kernel
theorem dMo_findGreatest_99 : decode cMo_findGreatest 99 = .ok (.getfield 46, 3) := by decide +kernel
theorem dMo_findGreatest_102 : decode cMo_findGreatest 102 = .ok (.iload_n 2, 1) := by decide +kernel
theorem dMo_findGreatest_103 : decode cMo_findGreatest 103 = .ok (.iaload, 1) := by decide +kernel
theorem dMo_findGreatest_104 : decode cMo_findGreatest 104 = .ok (.iconst 1, 1) := by decide +kernel
theorem dMo_findGreatest_105 : decode cMo_findGreatest 105 = .ok (.ishr, 1) := by decide +kernel
theorem dMo_findGreatest_106 : decode cMo_findGreatest 106 = .ok (.istore_n 3, 1) := by decide +kernel
theorem dMo_findGreatest_107 : decode cMo_findGreatest 107 = .ok (.iload_n 3, 1) := by decide +kernel
theorem dMo_findGreatest_108 : decode cMo_findGreatest 108 = .ok (.ifCond .ge 8, 3) := by decide +kernel
theorem dMo_findGreatest_111 : decode cMo_findGreatest 111 = .ok (.iload_n 3, 1) := by decide +kernel
theorem dMo_findGreatest_112 : decode cMo_findGreatest 112 = .ok (.ineg, 1) := by decide +kernel
theorem dMo_findGreatest_113 : decode cMo_findGreatest 113 = .ok (.goto 4, 3) := by decide +kernel
theorem dMo_findGreatest_116 : decode cMo_findGreatest 116 = .ok (.iload_n 3, 1) := by decide +kernel
theorem dMo_findGreatest_117 : decode cMo_findGreatest 117 = .ok (.istore_n 3, 1) := by decide +kernel
theorem dMo_findGreatest_118 : decode cMo_findGreatest 118 = .ok (.aload_n 0, 1) := by decide +kernel
theorem dMo_findGreatest_119 : decode cMo_findGreatest 119 = .ok (.aload_n 0, 1) := by decide +kernel
theorem dMo_findGreatest_120 : decode cMo_findGreatest 120 = .ok (.getfield 192, 3) := by decide +kernel
theorem dMo_findGreatest_123 : decode cMo_findGreatest 123 = .ok (.ifCond .eq 25, 3) := by decide +kernel
theorem dMo_findGreatest_126 : decode cMo_findGreatest 126 = .ok (.aload_n 0, 1) := by decide +kernel
theorem dMo_findGreatest_127 : decode cMo_findGreatest 127 = .ok (.getfield 40, 3) := by decide +kernel
theorem dMo_findGreatest_130 : decode cMo_findGreatest 130 = .ok (.iload_n 2, 1) := by decide +kernel
theorem dMo_findGreatest_131 : decode cMo_findGreatest 131 = .ok (.iaload, 1) := by decide +kernel
theorem dMo_findGreatest_132 : decode cMo_findGreatest 132 = .ok (.ifCond .eq 12, 3) := by decide +kernel
theorem dMo_findGreatest_135 : decode cMo_findGreatest 135 = .ok (.aload_n 0, 1) := by decide +kernel
theorem dMo_findGreatest_136 : decode cMo_findGreatest 136 = .ok (.getfield 43, 3) := by decide +kernel
theorem dMo_findGreatest_139 : decode cMo_findGreatest 139 = .ok (.iload_n 2, 1) := by decide +kernel
theorem dMo_findGreatest_140 : decode cMo_findGreatest 140 = .ok (.iaload, 1) := by decide +kernel
theorem dMo_findGreatest_141 : decode cMo_findGreatest 141 = .ok (.ifCond .ne 7, 3) := by decide +kernel
theorem dMo_findGreatest_144 : decode cMo_findGreatest 144 = .ok (.iconst 1, 1) := by decide +kernel
theorem dMo_findGreatest_145 : decode cMo_findGreatest 145 = .ok (.goto 4, 3) := by decide +kernel
theorem dMo_findGreatest_148 : decode cMo_findGreatest 148 = .ok (.iconst 0, 1) := by decide +kernel
theorem dMo_findGreatest_149 : decode cMo_findGreatest 149 = .ok (.putfield 192, 3) := by decide +kernel
theorem dMo_findGreatest_152 : decode cMo_findGreatest 152 = .ok (.aload_n 0, 1) := by decide +kernel
theorem dMo_findGreatest_153 : decode cMo_findGreatest 153 = .ok (.getfield 40, 3) := by decide +kernel
theorem dMo_findGreatest_156 : decode cMo_findGreatest 156 = .ok (.iload_n 2, 1) := by decide +kernel
theorem dMo_findGreatest_157 : decode cMo_findGreatest 157 = .ok (.iaload, 1) := by decide +kernel
theorem dMo_findGreatest_158 : decode cMo_findGreatest 158 = .ok (.ifCond .ne 12, 3) := by decide +kernel
theorem dMo_findGreatest_161 : decode cMo_findGreatest 161 = .ok (.aload_n 0, 1) := by decide +kernel
theorem dMo_findGreatest_162 : decode cMo_findGreatest 162 = .ok (.getfield 43, 3) := by decide +kernel
theorem dMo_findGreatest_165 : decode cMo_findGreatest 165 = .ok (.iload_n 2, 1) := by decide +kernel
theorem dMo_findGreatest_166 : decode cMo_findGreatest 166 = .ok (.iaload, 1) := by decide +kernel
theorem dMo_findGreatest_167 : decode cMo_findGreatest 167 = .ok (.goto 9, 3) := by decide +kernel
theorem dMo_findGreatest_170 : decode cMo_findGreatest 170 = .ok (.aload_n 0, 1) := by decide +kernel
theorem dMo_findGreatest_171 : decode cMo_findGreatest 171 = .ok (.getfield 40, 3) := by decide +kernel
theorem dMo_findGreatest_174 : decode cMo_findGreatest 174 = .ok (.iload_n 2, 1) := by decide +kernel
theorem dMo_findGreatest_175 : decode cMo_findGreatest 175 = .ok (.iaload, 1) := by decide +kernel
theorem dMo_findGreatest_176 : decode cMo_findGreatest 176 = .ok (.istore 4, 2) := by decide +kernel
theorem dMo_findGreatest_178 : decode cMo_findGreatest 178 = .ok (.aload_n 0, 1) := by decide +kernel
theorem dMo_findGreatest_179 : decode cMo_findGreatest 179 = .ok (.getfield 55, 3) := by decide +kernel
theorem dMo_findGreatest_182 : decode cMo_findGreatest 182 = .ok (.iload 4, 2) := by decide +kernel
theorem dMo_findGreatest_184 : decode cMo_findGreatest 184 = .ok (.iload_n 3, 1) := by decide +kernel
theorem dMo_findGreatest_185 : decode cMo_findGreatest 185 = .ok (.aload_n 0, 1) := by decide +kernel
theorem dMo_findGreatest_186 : decode cMo_findGreatest 186 = .ok (.getfield 55, 3) := by decide +kernel
theorem dMo_findGreatest_189 : decode cMo_findGreatest 189 = .ok (.iload 4, 2) := by decide +kernel
theorem dMo_findGreatest_191 : decode cMo_findGreatest 191 = .ok (.iaload, 1) := by decide +kernel
theorem dMo_findGreatest_192 : decode cMo_findGreatest 192 = .ok (.if_icmp .le 7, 3) := by decide +kernel
theorem dMo_findGreatest_195 : decode cMo_findGreatest 195 = .ok (.iload_n 3, 1) := by decide +kernel
theorem dMo_findGreatest_196 : decode cMo_findGreatest 196 = .ok (.goto 10, 3) := by decide +kernel
theorem dMo_findGreatest_199 : decode cMo_findGreatest 199 = .ok (.aload_n 0, 1) := by decide +kernel
theorem dMo_findGreatest_200 : decode cMo_findGreatest 200 = .ok (.getfield 55, 3) := by decide +kernel
theorem dMo_findGreatest_203 : decode cMo_findGreatest 203 = .ok (.iload 4, 2) := by decide +kernel
theorem dMo_findGreatest_205 : decode cMo_findGreatest 205 = .ok (.iaload, 1) := by decide +kernel
theorem dMo_findGreatest_206 : decode cMo_findGreatest 206 = .ok (.iastore, 1) := by decide +kernel
theorem dMo_findGreatest_207 : decode cMo_findGreatest 207 = .ok (.iinc 2 1, 3) := by decide +kernel
theorem dMo_findGreatest_210 : decode cMo_findGreatest 210 = .ok (.goto (-146), 3) := by decide +kernel
theorem dMo_findGreatest_213 : decode cMo_findGreatest 213 = .ok (.iinc 1 1, 3) := by decide +kernel
theorem dMo_findGreatest_216 : decode cMo_findGreatest 216 = .ok (.goto (-189), 3) := by decide +kernel
theorem dMo_findGreatest_219 : decode cMo_findGreatest 219 = .ok (.return_, 1) := by decide +kernel
theorem dMo_isSeen_0 : decode cMo_isSeen 0 = .ok (.iconst 0, 1) := by decide +kernel
theorem dMo_isSeen_1 : decode cMo_isSeen 1 = .ok (.istore_n 1, 1) := by decide +kernel
theorem dMo_isSeen_2 : decode cMo_isSeen 2 = .ok (.iload_n 1, 1) := by decide +kernel
theorem dMo_isSeen_3 : decode cMo_isSeen 3 = .ok (.aload_n 0, 1) := by decide +kernel
theorem dMo_isSeen_4 : decode cMo_isSeen 4 = .ok (.getfield 199, 3) := by decide +kernel
theorem dMo_isSeen_7 : decode cMo_isSeen 7 = .ok (.if_icmp .ge 113, 3) := by decide +kernel
theorem dMo_isSeen_10 : decode cMo_isSeen 10 = .ok (.iconst 1, 1) := by decide +kernel
theorem dMo_isSeen_11 : decode cMo_isSeen 11 = .ok (.istore_n 2, 1) := by decide +kernel
theorem dMo_isSeen_12 : decode cMo_isSeen 12 = .ok (.iconst 0, 1) := by decide +kernel
theorem dMo_isSeen_13 : decode cMo_isSeen 13 = .ok (.istore_n 3, 1) := by decide +kernel
theorem dMo_isSeen_14 : decode cMo_isSeen 14 = .ok (.iload_n 3, 1) := by decide +kernel
theorem dMo_isSeen_15 : decode cMo_isSeen 15 = .ok (.aload_n 0, 1) := by decide +kernel
theorem dMo_isSeen_16 : decode cMo_isSeen 16 = .ok (.getfield 128, 3) := by decide +kernel
theorem dMo_isSeen_19 : decode cMo_isSeen 19 = .ok (.if_icmp .ge 38, 3) := by decide +kernel
theorem dMo_isSeen_22 : decode cMo_isSeen 22 = .ok (.iload_n 2, 1) := by decide +kernel
theorem dMo_isSeen_23 : decode cMo_isSeen 23 = .ok (.ifCond .eq 26, 3) := by decide +kernel
theorem dMo_isSeen_26 : decode cMo_isSeen 26 = .ok (.aload_n 0, 1) := by decide +kernel
theorem dMo_isSeen_27 : decode cMo_isSeen 27 = .ok (.getfield 58, 3) := by decide +kernel
theorem dMo_isSeen_30 : decode cMo_isSeen 30 = .ok (.iconst 3, 1) := by decide +kernel
theorem dMo_isSeen_31 : decode cMo_isSeen 31 = .ok (.iload_n 1, 1) := by decide +kernel
theorem dMo_isSeen_32 : decode cMo_isSeen 32 = .ok (.imul, 1) := by decide +kernel
theorem dMo_isSeen_33 : decode cMo_isSeen 33 = .ok (.iload_n 3, 1) := by decide +kernel
theorem dMo_isSeen_34 : decode cMo_isSeen 34 = .ok (.iadd, 1) := by decide +kernel
theorem dMo_isSeen_35 : decode cMo_isSeen 35 = .ok (.iaload, 1) := by decide +kernel
theorem dMo_isSeen_36 : decode cMo_isSeen 36 = .ok (.aload_n 0, 1) := by decide +kernel
theorem dMo_isSeen_37 : decode cMo_isSeen 37 = .ok (.getfield 89, 3) := by decide +kernel
theorem dMo_isSeen_40 : decode cMo_isSeen 40 = .ok (.iload_n 3, 1) := by decide +kernel
theorem dMo_isSeen_41 : decode cMo_isSeen 41 = .ok (.iaload, 1) := by decide +kernel
theorem dMo_isSeen_42 : decode cMo_isSeen 42 = .ok (.if_icmp .ne 7, 3) := by decide +kernel
theorem dMo_isSeen_45 : decode cMo_isSeen 45 = .ok (.iconst 1, 1) := by decide +kernel
theorem dMo_isSeen_46 : decode cMo_isSeen 46 = .ok (.goto 4, 3) := by decide +kernel
theorem dMo_isSeen_49 : decode cMo_isSeen 49 = .ok (.iconst 0, 1) := by decide +kernel
theorem dMo_isSeen_50 : decode cMo_isSeen 50 = .ok (.istore_n 2, 1) := by decide +kernel
theorem dMo_isSeen_51 : decode cMo_isSeen 51 = .ok (.iinc 3 1, 3) := by decide +kernel
theorem dMo_isSeen_54 : decode cMo_isSeen 54 = .ok (.goto (-40), 3) := by decide +kernel
theorem dMo_isSeen_57 : decode cMo_isSeen 57 = .ok (.iconst 0, 1) := by decide +kernel
theorem dMo_isSeen_58 : decode cMo_isSeen 58 = .ok (.istore_n 3, 1) := by decide +kernel
theorem dMo_isSeen_59 : decode cMo_isSeen 59 = .ok (.iload_n 3, 1) := by decide +kernel
theorem dMo_isSeen_60 : decode cMo_isSeen 60 = .ok (.bipush 20, 2) := by decide +kernel
theorem dMo_isSeen_62 : decode cMo_isSeen 62 = .ok (.if_icmp .ge 46, 3) := by decide +kernel
theorem dMo_isSeen_65 : decode cMo_isSeen 65 = .ok (.iload_n 2, 1) := by decide +kernel
theorem dMo_isSeen_66 : decode cMo_isSeen 66 = .ok (.ifCond .eq 42, 3) := by decide +kernel
theorem dMo_isSeen_69 : decode cMo_isSeen 69 = .ok (.iload_n 3, 1) := by decide +kernel
theorem dMo_isSeen_70 : decode cMo_isSeen 70 = .ok (.iconst 5, 1) := by decide +kernel
theorem dMo_isSeen_71 : decode cMo_isSeen 71 = .ok (.irem, 1) := by decide +kernel
theorem dMo_isSeen_72 : decode cMo_isSeen 72 = .ok (.iconst 4, 1) := by decide +kernel
theorem dMo_isSeen_73 : decode cMo_isSeen 73 = .ok (.if_icmp .eq 23, 3) := by decide +kernel
theorem dMo_isSeen_76 : decode cMo_isSeen 76 = .ok (.aload_n 0, 1) := by decide +kernel
theorem dMo_isSeen_77 : decode cMo_isSeen 77 = .ok (.getfield 49, 3) := by decide +kernel
theorem dMo_isSeen_80 : decode cMo_isSeen 80 = .ok (.iload_n 3, 1) := by decide +kernel
theorem dMo_isSeen_81 : decode cMo_isSeen 81 = .ok (.iaload, 1) := by decide +kernel
theorem dMo_isSeen_82 : decode cMo_isSeen 82 = .ok (.aload_n 0, 1) := by decide +kernel
theorem dMo_isSeen_83 : decode cMo_isSeen 83 = .ok (.getfield 61, 3) := by decide +kernel
theorem dMo_isSeen_86 : decode cMo_isSeen 86 = .ok (.bipush 25, 2) := by decide +kernel
theorem dMo_isSeen_88 : decode cMo_isSeen 88 = .ok (.iload_n 1, 1) := by decide +kernel
theorem dMo_isSeen_89 : decode cMo_isSeen 89 = .ok (.imul, 1) := by decide +kernel
theorem dMo_isSeen_90 : decode cMo_isSeen 90 = .ok (.iload_n 3, 1) := by decide +kernel
theorem dMo_isSeen_91 : decode cMo_isSeen 91 = .ok (.iadd, 1) := by decide +kernel
theorem dMo_isSeen_92 : decode cMo_isSeen 92 = .ok (.iaload, 1) := by decide +kernel
theorem dMo_isSeen_93 : decode cMo_isSeen 93 = .ok (.if_icmp .gt 7, 3) := by decide +kernel
theorem dMo_isSeen_96 : decode cMo_isSeen 96 = .ok (.iconst 1, 1) := by decide +kernel
theorem dMo_isSeen_97 : decode cMo_isSeen 97 = .ok (.goto 4, 3) := by decide +kernel
theorem dMo_isSeen_100 : decode cMo_isSeen 100 = .ok (.iconst 0, 1) := by decide +kernel
theorem dMo_isSeen_101 : decode cMo_isSeen 101 = .ok (.istore_n 2, 1) := by decide +kernel
theorem dMo_isSeen_102 : decode cMo_isSeen 102 = .ok (.iinc 3 1, 3) := by decide +kernel
theorem dMo_isSeen_105 : decode cMo_isSeen 105 = .ok (.goto (-46), 3) := by decide +kernel
theorem dMo_isSeen_108 : decode cMo_isSeen 108 = .ok (.iload_n 2, 1) := by decide +kernel
theorem dMo_isSeen_109 : decode cMo_isSeen 109 = .ok (.ifCond .eq 5, 3) := by decide +kernel
theorem dMo_isSeen_112 : decode cMo_isSeen 112 = .ok (.iconst 1, 1) := by decide +kernel
theorem dMo_isSeen_113 : decode cMo_isSeen 113 = .ok (.ireturn, 1) := by decide +kernel
theorem dMo_isSeen_114 : decode cMo_isSeen 114 = .ok (.iinc 1 1, 3) := by decide +kernel
theorem dMo_isSeen_117 : decode cMo_isSeen 117 = .ok (.goto (-115), 3) := by decide +kernel
theorem dMo_isSeen_120 : decode cMo_isSeen 120 = .ok (.iconst 0, 1) := by decide +kernel
theorem dMo_isSeen_121 : decode cMo_isSeen 121 = .ok (.ireturn, 1) := by decide +kernel
theorem dMo_add_0 : decode cMo_add 0 = .ok (.aload_n 0, 1) := by decide +kernel
theorem dMo_add_1 : decode cMo_add 1 = .ok (.getfield 199, 3) := by decide +kernel
theorem dMo_add_4 : decode cMo_add 4 = .ok (.istore_n 2, 1) := by decide +kernel
theorem dMo_add_5 : decode cMo_add 5 = .ok (.aload_n 0, 1) := by decide +kernel
theorem dMo_add_6 : decode cMo_add 6 = .ok (.dup, 1) := by decide +kernel
theorem dMo_add_7 : decode cMo_add 7 = .ok (.getfield 199, 3) := by decide +kernel
theorem dMo_add_10 : decode cMo_add 10 = .ok (.iconst 1, 1) := by decide +kernel
theorem dMo_add_11 : decode cMo_add 11 = .ok (.iadd, 1) := by decide +kernel
theorem dMo_add_12 : decode cMo_add 12 = .ok (.putfield 199, 3) := by decide +kernel
theorem dMo_add_15 : decode cMo_add 15 = .ok (.iconst 0, 1) := by decide +kernel
theorem dMo_add_16 : decode cMo_add 16 = .ok (.istore_n 3, 1) := by decide +kernel
theorem dMo_add_17 : decode cMo_add 17 = .ok (.iconst 0, 1) := by decide +kernel
theorem dMo_add_18 : decode cMo_add 18 = .ok (.istore 4, 2) := by decide +kernel
theorem dMo_add_20 : decode cMo_add 20 = .ok (.iload 4, 2) := by decide +kernel
theorem dMo_add_22 : decode cMo_add 22 = .ok (.iconst 3, 1) := by decide +kernel
theorem dMo_add_23 : decode cMo_add 23 = .ok (.if_icmp .ge 81, 3) := by decide +kernel
theorem dMo_add_26 : decode cMo_add 26 = .ok (.aload_n 0, 1) := by decide +kernel
theorem dMo_add_27 : decode cMo_add 27 = .ok (.getfield 58, 3) := by decide +kernel
theorem dMo_add_30 : decode cMo_add 30 = .ok (.iconst 3, 1) := by decide +kernel
theorem dMo_add_31 : decode cMo_add 31 = .ok (.iload_n 2, 1) := by decide +kernel
theorem dMo_add_32 : decode cMo_add 32 = .ok (.imul, 1) := by decide +kernel
theorem dMo_add_33 : decode cMo_add 33 = .ok (.iload 4, 2) := by decide +kernel
theorem dMo_add_35 : decode cMo_add 35 = .ok (.iadd, 1) := by decide +kernel
theorem dMo_add_36 : decode cMo_add 36 = .ok (.iload 4, 2) := by decide +kernel
theorem dMo_add_38 : decode cMo_add 38 = .ok (.aload_n 0, 1) := by decide +kernel
theorem dMo_add_39 : decode cMo_add 39 = .ok (.getfield 128, 3) := by decide +kernel
theorem dMo_add_42 : decode cMo_add 42 = .ok (.if_icmp .ge 13, 3) := by decide +kernel
theorem dMo_add_45 : decode cMo_add 45 = .ok (.aload_n 0, 1) := by decide +kernel
theorem dMo_add_46 : decode cMo_add 46 = .ok (.getfield 89, 3) := by decide +kernel
theorem dMo_add_49 : decode cMo_add 49 = .ok (.iload 4, 2) := by decide +kernel
theorem dMo_add_51 : decode cMo_add 51 = .ok (.iaload, 1) := by decide +kernel
theorem dMo_add_52 : decode cMo_add 52 = .ok (.goto 5, 3) := by decide +kernel
theorem dMo_add_55 : decode cMo_add 55 = .ok (.bipush (-2), 2) := by decide +kernel
theorem dMo_add_57 : decode cMo_add 57 = .ok (.iastore, 1) := by decide +kernel
theorem dMo_add_58 : decode cMo_add 58 = .ok (.iload_n 3, 1) := by decide +kernel
theorem dMo_add_59 : decode cMo_add 59 = .ok (.ifCond .ne 33, 3) := by decide +kernel
theorem dMo_add_62 : decode cMo_add 62 = .ok (.iload 4, 2) := by decide +kernel
theorem dMo_add_64 : decode cMo_add 64 = .ok (.aload_n 0, 1) := by decide +kernel
theorem dMo_add_65 : decode cMo_add 65 = .ok (.getfield 128, 3) := by decide +kernel
theorem dMo_add_68 : decode cMo_add 68 = .ok (.if_icmp .ge 28, 3) := by decide +kernel
theorem dMo_add_71 : decode cMo_add 71 = .ok (.aload_n 0, 1) := by decide +kernel
theorem dMo_add_72 : decode cMo_add 72 = .ok (.getfield 16, 3) := by decide +kernel
theorem dMo_add_75 : decode cMo_add 75 = .ok (.bipush 6, 2) := by decide +kernel
theorem dMo_add_77 : decode cMo_add 77 = .ok (.iload 4, 2) := by decide +kernel
theorem dMo_add_79 : decode cMo_add 79 = .ok (.imul, 1) := by decide +kernel
theorem dMo_add_80 : decode cMo_add 80 = .ok (.aload_n 0, 1) := by decide +kernel
theorem dMo_add_81 : decode cMo_add 81 = .ok (.getfield 89, 3) := by decide +kernel
theorem dMo_add_84 : decode cMo_add 84 = .ok (.iload 4, 2) := by decide +kernel
theorem dMo_add_86 : decode cMo_add 86 = .ok (.iaload, 1) := by decide +kernel
theorem dMo_add_87 : decode cMo_add 87 = .ok (.iadd, 1) := by decide +kernel
theorem dMo_add_88 : decode cMo_add 88 = .ok (.iaload, 1) := by decide +kernel
theorem dMo_add_89 : decode cMo_add 89 = .ok (.ifCond .le 7, 3) := by decide +kernel
theorem dMo_add_92 : decode cMo_add 92 = .ok (.iconst 1, 1) := by decide +kernel
theorem dMo_add_93 : decode cMo_add 93 = .ok (.goto 4, 3) := by decide +kernel
theorem dMo_add_96 : decode cMo_add 96 = .ok (.iconst 0, 1) := by decide +kernel
theorem dMo_add_97 : decode cMo_add 97 = .ok (.istore_n 3, 1) := by decide +kernel
theorem dMo_add_98 : decode cMo_add 98 = .ok (.iinc 4 1, 3) := by decide +kernel
theorem dMo_add_101 : decode cMo_add 101 = .ok (.goto (-81), 3) := by decide +kernel
theorem dMo_add_104 : decode cMo_add 104 = .ok (.aload_n 0, 1) := by decide +kernel
theorem dMo_add_105 : decode cMo_add 105 = .ok (.getfield 85, 3) := by decide +kernel
theorem dMo_add_108 : decode cMo_add 108 = .ok (.iload_n 2, 1) := by decide +kernel
theorem dMo_add_109 : decode cMo_add 109 = .ok (.iload_n 3, 1) := by decide +kernel
theorem dMo_add_110 : decode cMo_add 110 = .ok (.bastore, 1) := by decide +kernel
theorem dMo_add_111 : decode cMo_add 111 = .ok (.iconst 0, 1) := by decide +kernel
theorem dMo_add_112 : decode cMo_add 112 = .ok (.istore 4, 2) := by decide +kernel
theorem dMo_add_114 : decode cMo_add 114 = .ok (.iload 4, 2) := by decide +kernel
theorem dMo_add_116 : decode cMo_add 116 = .ok (.bipush 25, 2) := by decide +kernel
theorem dMo_add_118 : decode cMo_add 118 = .ok (.if_icmp .ge 28, 3) := by decide +kernel
theorem dMo_add_121 : decode cMo_add 121 = .ok (.aload_n 0, 1) := by decide +kernel
theorem dMo_add_122 : decode cMo_add 122 = .ok (.getfield 61, 3) := by decide +kernel
theorem dMo_add_125 : decode cMo_add 125 = .ok (.bipush 25, 2) := by decide +kernel
theorem dMo_add_127 : decode cMo_add 127 = .ok (.iload_n 2, 1) := by decide +kernel
theorem dMo_add_128 : decode cMo_add 128 = .ok (.imul, 1) := by decide +kernel
theorem dMo_add_129 : decode cMo_add 129 = .ok (.iload 4, 2) := by decide +kernel
theorem dMo_add_131 : decode cMo_add 131 = .ok (.iadd, 1) := by decide +kernel
theorem dMo_add_132 : decode cMo_add 132 = .ok (.aload_n 0, 1) := by decide +kernel
theorem dMo_add_133 : decode cMo_add 133 = .ok (.getfield 49, 3) := by decide +kernel
theorem dMo_add_136 : decode cMo_add 136 = .ok (.iload 4, 2) := by decide +kernel
theorem dMo_add_138 : decode cMo_add 138 = .ok (.iaload, 1) := by decide +kernel
theorem dMo_add_139 : decode cMo_add 139 = .ok (.iastore, 1) := by decide +kernel
theorem dMo_add_140 : decode cMo_add 140 = .ok (.iinc 4 1, 3) := by decide +kernel
theorem dMo_add_143 : decode cMo_add 143 = .ok (.goto (-29), 3) := by decide +kernel
theorem dMo_add_146 : decode cMo_add 146 = .ok (.aload_n 0, 1) := by decide +kernel
theorem dMo_add_147 : decode cMo_add 147 = .ok (.getfield 67, 3) := by decide +kernel
theorem dMo_add_150 : decode cMo_add 150 = .ok (.iload_n 2, 1) := by decide +kernel
theorem dMo_add_151 : decode cMo_add 151 = .ok (.iload_n 1, 1) := by decide +kernel
theorem dMo_add_152 : decode cMo_add 152 = .ok (.iastore, 1) := by decide +kernel
theorem dMo_add_153 : decode cMo_add 153 = .ok (.aload_n 0, 1) := by decide +kernel
theorem dMo_add_154 : decode cMo_add 154 = .ok (.getfield 70, 3) := by decide +kernel
theorem dMo_add_157 : decode cMo_add 157 = .ok (.iload_n 2, 1) := by decide +kernel
theorem dMo_add_158 : decode cMo_add 158 = .ok (.iconst 0, 1) := by decide +kernel
theorem dMo_add_159 : decode cMo_add 159 = .ok (.iastore, 1) := by decide +kernel
theorem dMo_add_160 : decode cMo_add 160 = .ok (.aload_n 0, 1) := by decide +kernel
theorem dMo_add_161 : decode cMo_add 161 = .ok (.getfield 73, 3) := by decide +kernel
theorem dMo_add_164 : decode cMo_add 164 = .ok (.iload_n 2, 1) := by decide +kernel
theorem dMo_add_165 : decode cMo_add 165 = .ok (.bipush (-2), 2) := by decide +kernel
theorem dMo_add_167 : decode cMo_add 167 = .ok (.iastore, 1) := by decide +kernel
theorem dMo_add_168 : decode cMo_add 168 = .ok (.aload_n 0, 1) := by decide +kernel
theorem dMo_add_169 : decode cMo_add 169 = .ok (.getfield 76, 3) := by decide +kernel
theorem dMo_add_172 : decode cMo_add 172 = .ok (.iload_n 2, 1) := by decide +kernel
theorem dMo_add_173 : decode cMo_add 173 = .ok (.iload_n 1, 1) := by decide +kernel
theorem dMo_add_174 : decode cMo_add 174 = .ok (.ifCond .ge 7, 3) := by decide +kernel
theorem dMo_add_177 : decode cMo_add 177 = .ok (.iconst 0, 1) := by decide +kernel
theorem dMo_add_178 : decode cMo_add 178 = .ok (.goto 11, 3) := by decide +kernel
theorem dMo_add_181 : decode cMo_add 181 = .ok (.aload_n 0, 1) := by decide +kernel
theorem dMo_add_182 : decode cMo_add 182 = .ok (.getfield 76, 3) := by decide +kernel
theorem dMo_add_185 : decode cMo_add 185 = .ok (.iload_n 1, 1) := by decide +kernel
theorem dMo_add_186 : decode cMo_add 186 = .ok (.iaload, 1) := by decide +kernel
theorem dMo_add_187 : decode cMo_add 187 = .ok (.iconst 1, 1) := by decide +kernel
theorem dMo_add_188 : decode cMo_add 188 = .ok (.iadd, 1) := by decide +kernel
theorem dMo_add_189 : decode cMo_add 189 = .ok (.iastore, 1) := by decide +kernel
theorem dMo_add_190 : decode cMo_add 190 = .ok (.iload_n 1, 1) := by decide +kernel
theorem dMo_add_191 : decode cMo_add 191 = .ok (.ifCond .lt 13, 3) := by decide +kernel
theorem dMo_add_194 : decode cMo_add 194 = .ok (.aload_n 0, 1) := by decide +kernel
theorem dMo_add_195 : decode cMo_add 195 = .ok (.getfield 70, 3) := by decide +kernel
theorem dMo_add_198 : decode cMo_add 198 = .ok (.iload_n 1, 1) := by decide +kernel
theorem dMo_add_199 : decode cMo_add 199 = .ok (.dup2, 1) := by decide +kernel
theorem dMo_add_200 : decode cMo_add 200 = .ok (.iaload, 1) := by decide +kernel
theorem dMo_add_201 : decode cMo_add 201 = .ok (.iconst 1, 1) := by decide +kernel
theorem dMo_add_202 : decode cMo_add 202 = .ok (.iadd, 1) := by decide +kernel
theorem dMo_add_203 : decode cMo_add 203 = .ok (.iastore, 1) := by decide +kernel
theorem dMo_add_204 : decode cMo_add 204 = .ok (.return_, 1) := by decide +kernel
theorem dMo_keepExact_0 : decode cMo_keepExact 0 = .ok (.iconst 0, 1) := by decide +kernel
theorem dMo_keepExact_1 : decode cMo_keepExact 1 = .ok (.istore_n 2, 1) := by decide +kernel
theorem dMo_keepExact_2 : decode cMo_keepExact 2 = .ok (.iload_n 2, 1) := by decide +kernel
theorem dMo_keepExact_3 : decode cMo_keepExact 3 = .ok (.bipush 25, 2) := by decide +kernel
theorem dMo_keepExact_5 : decode cMo_keepExact 5 = .ok (.if_icmp .ge 26, 3) := by decide +kernel
theorem dMo_keepExact_8 : decode cMo_keepExact 8 = .ok (.aload_n 0, 1) := by decide +kernel
theorem dMo_keepExact_9 : decode cMo_keepExact 9 = .ok (.getfield 64, 3) := by decide +kernel
theorem dMo_keepExact_12 : decode cMo_keepExact 12 = .ok (.bipush 25, 2) := by decide +kernel
theorem dMo_keepExact_14 : decode cMo_keepExact 14 = .ok (.iload_n 1, 1) := by decide +kernel
theorem dMo_keepExact_15 : decode cMo_keepExact 15 = .ok (.imul, 1) := by decide +kernel
theorem dMo_keepExact_16 : decode cMo_keepExact 16 = .ok (.iload_n 2, 1) := by decide +kernel
theorem dMo_keepExact_17 : decode cMo_keepExact 17 = .ok (.iadd, 1) := by decide +kernel
theorem dMo_keepExact_18 : decode cMo_keepExact 18 = .ok (.aload_n 0, 1) := by decide +kernel
theorem dMo_keepExact_19 : decode cMo_keepExact 19 = .ok (.getfield 49, 3) := by decide +kernel
theorem dMo_keepExact_22 : decode cMo_keepExact 22 = .ok (.iload_n 2, 1) := by decide +kernel
theorem dMo_keepExact_23 : decode cMo_keepExact 23 = .ok (.iaload, 1) := by decide +kernel
theorem dMo_keepExact_24 : decode cMo_keepExact 24 = .ok (.iastore, 1) := by decide +kernel
theorem dMo_keepExact_25 : decode cMo_keepExact 25 = .ok (.iinc 2 1, 3) := by decide +kernel
theorem dMo_keepExact_28 : decode cMo_keepExact 28 = .ok (.goto (-26), 3) := by decide +kernel
theorem dMo_keepExact_31 : decode cMo_keepExact 31 = .ok (.aload_n 0, 1) := by decide +kernel
theorem dMo_keepExact_32 : decode cMo_keepExact 32 = .ok (.getfield 82, 3) := by decide +kernel
theorem dMo_keepExact_35 : decode cMo_keepExact 35 = .ok (.iload_n 1, 1) := by decide +kernel
theorem dMo_keepExact_36 : decode cMo_keepExact 36 = .ok (.aload_n 0, 1) := by decide +kernel
theorem dMo_keepExact_37 : decode cMo_keepExact 37 = .ok (.getfield 186, 3) := by decide +kernel
theorem dMo_keepExact_40 : decode cMo_keepExact 40 = .ok (.iastore, 1) := by decide +kernel
theorem dMo_keepExact_41 : decode cMo_keepExact 41 = .ok (.return_, 1) := by decide +kernel
theorem dMo_go_0 : decode cMo_go 0 = .ok (.aload_n 0, 1) := by decide +kernel
theorem dMo_go_1 : decode cMo_go 1 = .ok (.iload_n 1, 1) := by decide +kernel
theorem dMo_go_2 : decode cMo_go 2 = .ok (.iload_n 2, 1) := by decide +kernel
theorem dMo_go_3 : decode cMo_go 3 = .ok (.invokevirtual 202, 3) := by decide +kernel
theorem dMo_go_6 : decode cMo_go 6 = .ok (.iload_n 3, 1) := by decide +kernel
theorem dMo_go_7 : decode cMo_go 7 = .ok (.ifCond .lt 10, 3) := by decide +kernel
theorem dMo_go_10 : decode cMo_go 10 = .ok (.aload_n 0, 1) := by decide +kernel
theorem dMo_go_11 : decode cMo_go 11 = .ok (.iload_n 3, 1) := by decide +kernel
theorem dMo_go_12 : decode cMo_go 12 = .ok (.iload 4, 2) := by decide +kernel
theorem dMo_go_14 : decode cMo_go 14 = .ok (.invokevirtual 202, 3) := by decide +kernel
theorem dMo_go_17 : decode cMo_go 17 = .ok (.aload_n 0, 1) := by decide +kernel
theorem dMo_go_18 : decode cMo_go 18 = .ok (.aload_n 0, 1) := by decide +kernel
theorem dMo_go_19 : decode cMo_go 19 = .ok (.getfield 34, 3) := by decide +kernel
theorem dMo_go_22 : decode cMo_go 22 = .ok (.bipush 12, 2) := by decide +kernel
theorem dMo_go_24 : decode cMo_go 24 = .ok (.iload_n 1, 1) := by decide +kernel
theorem dMo_go_25 : decode cMo_go 25 = .ok (.imul, 1) := by decide +kernel
theorem dMo_go_26 : decode cMo_go 26 = .ok (.iload_n 2, 1) := by decide +kernel
theorem dMo_go_27 : decode cMo_go 27 = .ok (.iadd, 1) := by decide +kernel
theorem dMo_go_28 : decode cMo_go 28 = .ok (.iaload, 1) := by decide +kernel
theorem dMo_go_29 : decode cMo_go 29 = .ok (.iload_n 3, 1) := by decide +kernel
theorem dMo_go_30 : decode cMo_go 30 = .ok (.ifCond .ge 7, 3) := by decide +kernel
theorem dMo_go_33 : decode cMo_go 33 = .ok (.iconst 0, 1) := by decide +kernel
theorem dMo_go_34 : decode cMo_go 34 = .ok (.goto 15, 3) := by decide +kernel
theorem dMo_go_37 : decode cMo_go 37 = .ok (.aload_n 0, 1) := by decide +kernel
theorem dMo_go_38 : decode cMo_go 38 = .ok (.getfield 34, 3) := by decide +kernel
theorem dMo_go_41 : decode cMo_go 41 = .ok (.bipush 12, 2) := by decide +kernel
theorem dMo_go_43 : decode cMo_go 43 = .ok (.iload_n 3, 1) := by decide +kernel
theorem dMo_go_44 : decode cMo_go 44 = .ok (.imul, 1) := by decide +kernel
theorem dMo_go_45 : decode cMo_go 45 = .ok (.iload 4, 2) := by decide +kernel
theorem dMo_go_47 : decode cMo_go 47 = .ok (.iadd, 1) := by decide +kernel
theorem dMo_go_48 : decode cMo_go 48 = .ok (.iaload, 1) := by decide +kernel
theorem dMo_go_49 : decode cMo_go 49 = .ok (.ior, 1) := by decide +kernel
theorem dMo_go_50 : decode cMo_go 50 = .ok (.invokevirtual 205, 3) := by decide +kernel
theorem dMo_go_53 : decode cMo_go 53 = .ok (.aload_n 0, 1) := by decide +kernel
theorem dMo_go_54 : decode cMo_go 54 = .ok (.getfield 89, 3) := by decide +kernel
theorem dMo_go_57 : decode cMo_go 57 = .ok (.iload_n 1, 1) := by decide +kernel
theorem dMo_go_58 : decode cMo_go 58 = .ok (.aload_n 0, 1) := by decide +kernel
theorem dMo_go_59 : decode cMo_go 59 = .ok (.getfield 28, 3) := by decide +kernel
theorem dMo_go_62 : decode cMo_go 62 = .ok (.bipush 12, 2) := by decide +kernel
theorem dMo_go_64 : decode cMo_go 64 = .ok (.iload_n 1, 1) := by decide +kernel
theorem dMo_go_65 : decode cMo_go 65 = .ok (.imul, 1) := by decide +kernel
theorem dMo_go_66 : decode cMo_go 66 = .ok (.iload_n 2, 1) := by decide +kernel
theorem dMo_go_67 : decode cMo_go 67 = .ok (.iadd, 1) := by decide +kernel
theorem dMo_go_68 : decode cMo_go 68 = .ok (.iaload, 1) := by decide +kernel
theorem dMo_go_69 : decode cMo_go 69 = .ok (.iastore, 1) := by decide +kernel
theorem dMo_go_70 : decode cMo_go 70 = .ok (.iload_n 3, 1) := by decide +kernel
theorem dMo_go_71 : decode cMo_go 71 = .ok (.ifCond .lt 21, 3) := by decide +kernel
theorem dMo_go_74 : decode cMo_go 74 = .ok (.aload_n 0, 1) := by decide +kernel
theorem dMo_go_75 : decode cMo_go 75 = .ok (.getfield 89, 3) := by decide +kernel
theorem dMo_go_78 : decode cMo_go 78 = .ok (.iload_n 3, 1) := by decide +kernel
theorem dMo_go_79 : decode cMo_go 79 = .ok (.aload_n 0, 1) := by decide +kernel
theorem dMo_go_80 : decode cMo_go 80 = .ok (.getfield 28, 3) := by decide +kernel
theorem dMo_go_83 : decode cMo_go 83 = .ok (.bipush 12, 2) := by decide +kernel
theorem dMo_go_85 : decode cMo_go 85 = .ok (.iload_n 3, 1) := by decide +kernel
theorem dMo_go_86 : decode cMo_go 86 = .ok (.imul, 1) := by decide +kernel
theorem dMo_go_87 : decode cMo_go 87 = .ok (.iload 4, 2) := by decide +kernel
theorem dMo_go_89 : decode cMo_go 89 = .ok (.iadd, 1) := by decide +kernel
theorem dMo_go_90 : decode cMo_go 90 = .ok (.iaload, 1) := by decide +kernel
theorem dMo_go_91 : decode cMo_go 91 = .ok (.iastore, 1) := by decide +kernel
theorem dMo_go_92 : decode cMo_go 92 = .ok (.aload_n 0, 1) := by decide +kernel
theorem dMo_go_93 : decode cMo_go 93 = .ok (.iload 5, 2) := by decide +kernel
theorem dMo_go_95 : decode cMo_go 95 = .ok (.invokevirtual 208, 3) := by decide +kernel
theorem dMo_go_98 : decode cMo_go 98 = .ok (.return_, 1) := by decide +kernel
theorem dMo_tryMove_0 : decode cMo_tryMove 0 = .ok (.iconst 0, 1) := by decide +kernel
theorem dMo_tryMove_1 : decode cMo_tryMove 1 = .ok (.istore 6, 2) := by decide +kernel
theorem dMo_tryMove_3 : decode cMo_tryMove 3 = .ok (.iload 6, 2) := by decide +kernel
theorem dMo_tryMove_5 : decode cMo_tryMove 5 = .ok (.aload_n 0, 1) := by decide +kernel
theorem dMo_tryMove_6 : decode cMo_tryMove 6 = .ok (.getfield 128, 3) := by decide +kernel
theorem dMo_tryMove_9 : decode cMo_tryMove 9 = .ok (.if_icmp .ge 27, 3) := by decide +kernel
theorem dMo_tryMove_12 : decode cMo_tryMove 12 = .ok (.aload_n 0, 1) := by decide +kernel
theorem dMo_tryMove_13 : decode cMo_tryMove 13 = .ok (.getfield 89, 3) := by decide +kernel
theorem dMo_tryMove_16 : decode cMo_tryMove 16 = .ok (.iload 6, 2) := by decide +kernel
theorem dMo_tryMove_18 : decode cMo_tryMove 18 = .ok (.aload_n 0, 1) := by decide +kernel
theorem dMo_tryMove_19 : decode cMo_tryMove 19 = .ok (.getfield 58, 3) := by decide +kernel
theorem dMo_tryMove_22 : decode cMo_tryMove 22 = .ok (.iconst 3, 1) := by decide +kernel
theorem dMo_tryMove_23 : decode cMo_tryMove 23 = .ok (.iload_n 1, 1) := by decide +kernel
theorem dMo_tryMove_24 : decode cMo_tryMove 24 = .ok (.imul, 1) := by decide +kernel
theorem dMo_tryMove_25 : decode cMo_tryMove 25 = .ok (.iload 6, 2) := by decide +kernel
theorem dMo_tryMove_27 : decode cMo_tryMove 27 = .ok (.iadd, 1) := by decide +kernel
theorem dMo_tryMove_28 : decode cMo_tryMove 28 = .ok (.iaload, 1) := by decide +kernel
theorem dMo_tryMove_29 : decode cMo_tryMove 29 = .ok (.iastore, 1) := by decide +kernel
theorem dMo_tryMove_30 : decode cMo_tryMove 30 = .ok (.iinc 6 1, 3) := by decide +kernel
theorem dMo_tryMove_33 : decode cMo_tryMove 33 = .ok (.goto (-30), 3) := by decide +kernel
theorem dMo_tryMove_36 : decode cMo_tryMove 36 = .ok (.aload_n 0, 1) := by decide +kernel
theorem dMo_tryMove_37 : decode cMo_tryMove 37 = .ok (.iload_n 1, 1) := by decide +kernel
theorem dMo_tryMove_38 : decode cMo_tryMove 38 = .ok (.invokevirtual 212, 3) := by decide +kernel
theorem dMo_tryMove_41 : decode cMo_tryMove 41 = .ok (.aload_n 0, 1) := by decide +kernel
theorem dMo_tryMove_42 : decode cMo_tryMove 42 = .ok (.iload_n 2, 1) := by decide +kernel
theorem dMo_tryMove_43 : decode cMo_tryMove 43 = .ok (.iload_n 3, 1) := by decide +kernel
theorem dMo_tryMove_44 : decode cMo_tryMove 44 = .ok (.iload 4, 2) := by decide +kernel
theorem dMo_tryMove_46 : decode cMo_tryMove 46 = .ok (.iload 5, 2) := by decide +kernel
theorem dMo_tryMove_48 : decode cMo_tryMove 48 = .ok (.iconst 0, 1) := by decide +kernel
theorem dMo_tryMove_49 : decode cMo_tryMove 49 = .ok (.invokevirtual 215, 3) := by decide +kernel
theorem dMo_tryMove_52 : decode cMo_tryMove 52 = .ok (.aload_n 0, 1) := by decide +kernel
theorem dMo_tryMove_53 : decode cMo_tryMove 53 = .ok (.getfield 192, 3) := by decide +kernel
theorem dMo_tryMove_56 : decode cMo_tryMove 56 = .ok (.ifCond .eq 7, 3) := by decide +kernel
theorem dMo_tryMove_59 : decode cMo_tryMove 59 = .ok (.aload_n 0, 1) := by decide +kernel
theorem dMo_tryMove_60 : decode cMo_tryMove 60 = .ok (.invokevirtual 219, 3) := by decide +kernel
theorem dMo_tryMove_63 : decode cMo_tryMove 63 = .ok (.aload_n 0, 1) := by decide +kernel
theorem dMo_tryMove_64 : decode cMo_tryMove 64 = .ok (.getfield 167, 3) := by decide +kernel
theorem dMo_tryMove_67 : decode cMo_tryMove 67 = .ok (.ifCond .eq 4, 3) := by decide +kernel
theorem dMo_tryMove_70 : decode cMo_tryMove 70 = .ok (.return_, 1) := by decide +kernel
theorem dMo_tryMove_71 : decode cMo_tryMove 71 = .ok (.aload_n 0, 1) := by decide +kernel
theorem dMo_tryMove_72 : decode cMo_tryMove 72 = .ok (.dup, 1) := by decide +kernel
theorem dMo_tryMove_73 : decode cMo_tryMove 73 = .ok (.getfield 222, 3) := by decide +kernel
theorem dMo_tryMove_76 : decode cMo_tryMove 76 = .ok (.iconst 1, 1) := by decide +kernel
theorem dMo_tryMove_77 : decode cMo_tryMove 77 = .ok (.iadd, 1) := by decide +kernel
theorem dMo_tryMove_78 : decode cMo_tryMove 78 = .ok (.putfield 222, 3) := by decide +kernel
theorem dMo_tryMove_81 : decode cMo_tryMove 81 = .ok (.aload_n 0, 1) := by decide +kernel
theorem dMo_tryMove_82 : decode cMo_tryMove 82 = .ok (.invokevirtual 225, 3) := by decide +kernel
theorem dMo_tryMove_85 : decode cMo_tryMove 85 = .ok (.ifCond .eq 14, 3) := by decide +kernel
theorem dMo_tryMove_88 : decode cMo_tryMove 88 = .ok (.aload_n 0, 1) := by decide +kernel
theorem dMo_tryMove_89 : decode cMo_tryMove 89 = .ok (.dup, 1) := by decide +kernel
theorem dMo_tryMove_90 : decode cMo_tryMove 90 = .ok (.getfield 229, 3) := by decide +kernel
theorem dMo_tryMove_93 : decode cMo_tryMove 93 = .ok (.iconst 1, 1) := by decide +kernel
theorem dMo_tryMove_94 : decode cMo_tryMove 94 = .ok (.iadd, 1) := by decide +kernel
theorem dMo_tryMove_95 : decode cMo_tryMove 95 = .ok (.putfield 229, 3) := by decide +kernel
theorem dMo_tryMove_98 : decode cMo_tryMove 98 = .ok (.return_, 1) := by decide +kernel
theorem dMo_tryMove_99 : decode cMo_tryMove 99 = .ok (.aload_n 0, 1) := by decide +kernel
theorem dMo_tryMove_100 : decode cMo_tryMove 100 = .ok (.getfield 199, 3) := by decide +kernel
theorem dMo_tryMove_103 : decode cMo_tryMove 103 = .ok (.sipush 200, 3) := by decide +kernel
theorem dMo_tryMove_106 : decode cMo_tryMove 106 = .ok (.if_icmp .ne 9, 3) := by decide +kernel
theorem dMo_tryMove_109 : decode cMo_tryMove 109 = .ok (.aload_n 0, 1) := by decide +kernel
theorem dMo_tryMove_110 : decode cMo_tryMove 110 = .ok (.iconst 1, 1) := by decide +kernel
theorem dMo_tryMove_111 : decode cMo_tryMove 111 = .ok (.putfield 232, 3) := by decide +kernel
theorem dMo_tryMove_114 : decode cMo_tryMove 114 = .ok (.return_, 1) := by decide +kernel
theorem dMo_tryMove_115 : decode cMo_tryMove 115 = .ok (.aload_n 0, 1) := by decide +kernel
theorem dMo_tryMove_116 : decode cMo_tryMove 116 = .ok (.iload_n 1, 1) := by decide +kernel
theorem dMo_tryMove_117 : decode cMo_tryMove 117 = .ok (.invokevirtual 235, 3) := by decide +kernel
theorem dMo_tryMove_120 : decode cMo_tryMove 120 = .ok (.aload_n 0, 1) := by decide +kernel
theorem dMo_tryMove_121 : decode cMo_tryMove 121 = .ok (.getfield 199, 3) := by decide +kernel
theorem dMo_tryMove_124 : decode cMo_tryMove 124 = .ok (.iconst 1, 1) := by decide +kernel
theorem dMo_tryMove_125 : decode cMo_tryMove 125 = .ok (.isub, 1) := by decide +kernel
theorem dMo_tryMove_126 : decode cMo_tryMove 126 = .ok (.istore 6, 2) := by decide +kernel
theorem dMo_tryMove_128 : decode cMo_tryMove 128 = .ok (.aload_n 0, 1) := by decide +kernel
theorem dMo_tryMove_129 : decode cMo_tryMove 129 = .ok (.getfield 79, 3) := by decide +kernel
theorem dMo_tryMove_132 : decode cMo_tryMove 132 = .ok (.iconst 4, 1) := by decide +kernel
theorem dMo_tryMove_133 : decode cMo_tryMove 133 = .ok (.iload 6, 2) := by decide +kernel
theorem dMo_tryMove_135 : decode cMo_tryMove 135 = .ok (.imul, 1) := by decide +kernel
theorem dMo_tryMove_136 : decode cMo_tryMove 136 = .ok (.iload_n 2, 1) := by decide +kernel
theorem dMo_tryMove_137 : decode cMo_tryMove 137 = .ok (.iastore, 1) := by decide +kernel
theorem dMo_tryMove_138 : decode cMo_tryMove 138 = .ok (.aload_n 0, 1) := by decide +kernel
theorem dMo_tryMove_139 : decode cMo_tryMove 139 = .ok (.getfield 79, 3) := by decide +kernel
theorem dMo_tryMove_142 : decode cMo_tryMove 142 = .ok (.iconst 4, 1) := by decide +kernel
theorem dMo_tryMove_143 : decode cMo_tryMove 143 = .ok (.iload 6, 2) := by decide +kernel
theorem dMo_tryMove_145 : decode cMo_tryMove 145 = .ok (.imul, 1) := by decide +kernel
theorem dMo_tryMove_146 : decode cMo_tryMove 146 = .ok (.iconst 1, 1) := by decide +kernel
theorem dMo_tryMove_147 : decode cMo_tryMove 147 = .ok (.iadd, 1) := by decide +kernel
theorem dMo_tryMove_148 : decode cMo_tryMove 148 = .ok (.iload_n 3, 1) := by decide +kernel
theorem dMo_tryMove_149 : decode cMo_tryMove 149 = .ok (.iastore, 1) := by decide +kernel
theorem dMo_tryMove_150 : decode cMo_tryMove 150 = .ok (.aload_n 0, 1) := by decide +kernel
theorem dMo_tryMove_151 : decode cMo_tryMove 151 = .ok (.getfield 79, 3) := by decide +kernel
theorem dMo_tryMove_154 : decode cMo_tryMove 154 = .ok (.iconst 4, 1) := by decide +kernel
theorem dMo_tryMove_155 : decode cMo_tryMove 155 = .ok (.iload 6, 2) := by decide +kernel
theorem dMo_tryMove_157 : decode cMo_tryMove 157 = .ok (.imul, 1) := by decide +kernel
theorem dMo_tryMove_158 : decode cMo_tryMove 158 = .ok (.iconst 2, 1) := by decide +kernel
theorem dMo_tryMove_159 : decode cMo_tryMove 159 = .ok (.iadd, 1) := by decide +kernel
theorem dMo_tryMove_160 : decode cMo_tryMove 160 = .ok (.iload 4, 2) := by decide +kernel
theorem dMo_tryMove_162 : decode cMo_tryMove 162 = .ok (.ifCond .ge 8, 3) := by decide +kernel
theorem dMo_tryMove_165 : decode cMo_tryMove 165 = .ok (.bipush (-2), 2) := by decide +kernel
theorem dMo_tryMove_167 : decode cMo_tryMove 167 = .ok (.goto 5, 3) := by decide +kernel
theorem dMo_tryMove_170 : decode cMo_tryMove 170 = .ok (.iload 4, 2) := by decide +kernel
theorem dMo_tryMove_172 : decode cMo_tryMove 172 = .ok (.iastore, 1) := by decide +kernel
theorem dMo_tryMove_173 : decode cMo_tryMove 173 = .ok (.aload_n 0, 1) := by decide +kernel
theorem dMo_tryMove_174 : decode cMo_tryMove 174 = .ok (.getfield 79, 3) := by decide +kernel
theorem dMo_tryMove_177 : decode cMo_tryMove 177 = .ok (.iconst 4, 1) := by decide +kernel
theorem dMo_tryMove_178 : decode cMo_tryMove 178 = .ok (.iload 6, 2) := by decide +kernel
theorem dMo_tryMove_180 : decode cMo_tryMove 180 = .ok (.imul, 1) := by decide +kernel
theorem dMo_tryMove_181 : decode cMo_tryMove 181 = .ok (.iconst 3, 1) := by decide +kernel
theorem dMo_tryMove_182 : decode cMo_tryMove 182 = .ok (.iadd, 1) := by decide +kernel
theorem dMo_tryMove_183 : decode cMo_tryMove 183 = .ok (.iload 4, 2) := by decide +kernel
theorem dMo_tryMove_185 : decode cMo_tryMove 185 = .ok (.ifCond .ge 8, 3) := by decide +kernel
theorem dMo_tryMove_188 : decode cMo_tryMove 188 = .ok (.bipush (-2), 2) := by decide +kernel
theorem dMo_tryMove_190 : decode cMo_tryMove 190 = .ok (.goto 5, 3) := by decide +kernel
theorem dMo_tryMove_193 : decode cMo_tryMove 193 = .ok (.iload 5, 2) := by decide +kernel
theorem dMo_tryMove_195 : decode cMo_tryMove 195 = .ok (.iastore, 1) := by decide +kernel
theorem dMo_tryMove_196 : decode cMo_tryMove 196 = .ok (.iconst 0, 1) := by decide +kernel
theorem dMo_tryMove_197 : decode cMo_tryMove 197 = .ok (.istore 7, 2) := by decide +kernel
theorem dMo_tryMove_199 : decode cMo_tryMove 199 = .ok (.iload 7, 2) := by decide +kernel
theorem dMo_tryMove_201 : decode cMo_tryMove 201 = .ok (.aload_n 0, 1) := by decide +kernel
theorem dMo_tryMove_202 : decode cMo_tryMove 202 = .ok (.getfield 128, 3) := by decide +kernel
theorem dMo_tryMove_205 : decode cMo_tryMove 205 = .ok (.if_icmp .ge 27, 3) := by decide +kernel
theorem dMo_tryMove_208 : decode cMo_tryMove 208 = .ok (.aload_n 0, 1) := by decide +kernel
theorem dMo_tryMove_209 : decode cMo_tryMove 209 = .ok (.getfield 89, 3) := by decide +kernel
theorem dMo_tryMove_212 : decode cMo_tryMove 212 = .ok (.iload 7, 2) := by decide +kernel
theorem dMo_tryMove_214 : decode cMo_tryMove 214 = .ok (.aload_n 0, 1) := by decide +kernel
theorem dMo_tryMove_215 : decode cMo_tryMove 215 = .ok (.getfield 58, 3) := by decide +kernel
theorem dMo_tryMove_218 : decode cMo_tryMove 218 = .ok (.iconst 3, 1) := by decide +kernel
theorem dMo_tryMove_219 : decode cMo_tryMove 219 = .ok (.iload_n 1, 1) := by decide +kernel
theorem dMo_tryMove_220 : decode cMo_tryMove 220 = .ok (.imul, 1) := by decide +kernel
theorem dMo_tryMove_221 : decode cMo_tryMove 221 = .ok (.iload 7, 2) := by decide +kernel
theorem dMo_tryMove_223 : decode cMo_tryMove 223 = .ok (.iadd, 1) := by decide +kernel
theorem dMo_tryMove_224 : decode cMo_tryMove 224 = .ok (.iaload, 1) := by decide +kernel
theorem dMo_tryMove_225 : decode cMo_tryMove 225 = .ok (.iastore, 1) := by decide +kernel
theorem dMo_tryMove_226 : decode cMo_tryMove 226 = .ok (.iinc 7 1, 3) := by decide +kernel
theorem dMo_tryMove_229 : decode cMo_tryMove 229 = .ok (.goto (-30), 3) := by decide +kernel
theorem dMo_tryMove_232 : decode cMo_tryMove 232 = .ok (.aload_n 0, 1) := by decide +kernel
theorem dMo_tryMove_233 : decode cMo_tryMove 233 = .ok (.iconst 5, 1) := by decide +kernel
theorem dMo_tryMove_234 : decode cMo_tryMove 234 = .ok (.putfield 164, 3) := by decide +kernel
theorem dMo_tryMove_237 : decode cMo_tryMove 237 = .ok (.aload_n 0, 1) := by decide +kernel
theorem dMo_tryMove_238 : decode cMo_tryMove 238 = .ok (.iconst 0, 1) := by decide +kernel
theorem dMo_tryMove_239 : decode cMo_tryMove 239 = .ok (.putfield 167, 3) := by decide +kernel
theorem dMo_tryMove_242 : decode cMo_tryMove 242 = .ok (.iconst 0, 1) := by decide +kernel
theorem dMo_tryMove_243 : decode cMo_tryMove 243 = .ok (.istore 7, 2) := by decide +kernel
theorem dMo_tryMove_245 : decode cMo_tryMove 245 = .ok (.iload 7, 2) := by decide +kernel
theorem dMo_tryMove_247 : decode cMo_tryMove 247 = .ok (.bipush 25, 2) := by decide +kernel
theorem dMo_tryMove_249 : decode cMo_tryMove 249 = .ok (.if_icmp .ge 28, 3) := by decide +kernel
theorem dMo_tryMove_252 : decode cMo_tryMove 252 = .ok (.aload_n 0, 1) := by decide +kernel
theorem dMo_tryMove_253 : decode cMo_tryMove 253 = .ok (.getfield 49, 3) := by decide +kernel
theorem dMo_tryMove_256 : decode cMo_tryMove 256 = .ok (.iload 7, 2) := by decide +kernel
theorem dMo_tryMove_258 : decode cMo_tryMove 258 = .ok (.aload_n 0, 1) := by decide +kernel
theorem dMo_tryMove_259 : decode cMo_tryMove 259 = .ok (.getfield 64, 3) := by decide +kernel
theorem dMo_tryMove_262 : decode cMo_tryMove 262 = .ok (.bipush 25, 2) := by decide +kernel
theorem dMo_tryMove_264 : decode cMo_tryMove 264 = .ok (.iload_n 1, 1) := by decide +kernel
theorem dMo_tryMove_265 : decode cMo_tryMove 265 = .ok (.imul, 1) := by decide +kernel
theorem dMo_tryMove_266 : decode cMo_tryMove 266 = .ok (.iload 7, 2) := by decide +kernel
theorem dMo_tryMove_268 : decode cMo_tryMove 268 = .ok (.iadd, 1) := by decide +kernel
theorem dMo_tryMove_269 : decode cMo_tryMove 269 = .ok (.iaload, 1) := by decide +kernel
theorem dMo_tryMove_270 : decode cMo_tryMove 270 = .ok (.iastore, 1) := by decide +kernel
theorem dMo_tryMove_271 : decode cMo_tryMove 271 = .ok (.iinc 7 1, 3) := by decide +kernel
theorem dMo_tryMove_274 : decode cMo_tryMove 274 = .ok (.goto (-29), 3) := by decide +kernel
theorem dMo_tryMove_277 : decode cMo_tryMove 277 = .ok (.aload_n 0, 1) := by decide +kernel
theorem dMo_tryMove_278 : decode cMo_tryMove 278 = .ok (.iload_n 2, 1) := by decide +kernel
theorem dMo_tryMove_279 : decode cMo_tryMove 279 = .ok (.iload_n 3, 1) := by decide +kernel
theorem dMo_tryMove_280 : decode cMo_tryMove 280 = .ok (.iload 4, 2) := by decide +kernel
theorem dMo_tryMove_282 : decode cMo_tryMove 282 = .ok (.iload 5, 2) := by decide +kernel
theorem dMo_tryMove_284 : decode cMo_tryMove 284 = .ok (.iconst 1, 1) := by decide +kernel
theorem dMo_tryMove_285 : decode cMo_tryMove 285 = .ok (.invokevirtual 215, 3) := by decide +kernel
theorem dMo_tryMove_288 : decode cMo_tryMove 288 = .ok (.aload_n 0, 1) := by decide +kernel
theorem dMo_tryMove_289 : decode cMo_tryMove 289 = .ok (.iload 6, 2) := by decide +kernel
theorem dMo_tryMove_291 : decode cMo_tryMove 291 = .ok (.invokevirtual 238, 3) := by decide +kernel
theorem dMo_tryMove_294 : decode cMo_tryMove 294 = .ok (.return_, 1) := by decide +kernel
theorem dMo_tryWay_0 : decode cMo_tryWay 0 = .ok (.bipush 12, 2) := by decide +kernel
theorem dMo_tryWay_2 : decode cMo_tryWay 2 = .ok (.iload_n 2, 1) := by decide +kernel
theorem dMo_tryWay_3 : decode cMo_tryWay 3 = .ok (.imul, 1) := by decide +kernel
theorem dMo_tryWay_4 : decode cMo_tryWay 4 = .ok (.iload_n 3, 1) := by decide +kernel
theorem dMo_tryWay_5 : decode cMo_tryWay 5 = .ok (.iadd, 1) := by decide +kernel
theorem dMo_tryWay_6 : decode cMo_tryWay 6 = .ok (.istore 4, 2) := by decide +kernel
theorem dMo_tryWay_8 : decode cMo_tryWay 8 = .ok (.aload_n 0, 1) := by decide +kernel
theorem dMo_tryWay_9 : decode cMo_tryWay 9 = .ok (.getfield 25, 3) := by decide +kernel
theorem dMo_tryWay_12 : decode cMo_tryWay 12 = .ok (.iload 4, 2) := by decide +kernel
theorem dMo_tryWay_14 : decode cMo_tryWay 14 = .ok (.iaload, 1) := by decide +kernel
theorem dMo_tryWay_15 : decode cMo_tryWay 15 = .ok (.aload_n 0, 1) := by decide +kernel
theorem dMo_tryWay_16 : decode cMo_tryWay 16 = .ok (.getfield 58, 3) := by decide +kernel
theorem dMo_tryWay_19 : decode cMo_tryWay 19 = .ok (.iconst 3, 1) := by decide +kernel
theorem dMo_tryWay_20 : decode cMo_tryWay 20 = .ok (.iload_n 1, 1) := by decide +kernel
theorem dMo_tryWay_21 : decode cMo_tryWay 21 = .ok (.imul, 1) := by decide +kernel
theorem dMo_tryWay_22 : decode cMo_tryWay 22 = .ok (.iload_n 2, 1) := by decide +kernel
theorem dMo_tryWay_23 : decode cMo_tryWay 23 = .ok (.iadd, 1) := by decide +kernel
theorem dMo_tryWay_24 : decode cMo_tryWay 24 = .ok (.iaload, 1) := by decide +kernel
theorem dMo_tryWay_25 : decode cMo_tryWay 25 = .ok (.if_icmp .ne 13, 3) := by decide +kernel
theorem dMo_tryWay_28 : decode cMo_tryWay 28 = .ok (.aload_n 0, 1) := by decide +kernel
theorem dMo_tryWay_29 : decode cMo_tryWay 29 = .ok (.getfield 31, 3) := by decide +kernel
theorem dMo_tryWay_32 : decode cMo_tryWay 32 = .ok (.iload 4, 2) := by decide +kernel
theorem dMo_tryWay_34 : decode cMo_tryWay 34 = .ok (.iaload, 1) := by decide +kernel
theorem dMo_tryWay_35 : decode cMo_tryWay 35 = .ok (.ifCond .ge 4, 3) := by decide +kernel
theorem dMo_tryWay_38 : decode cMo_tryWay 38 = .ok (.return_, 1) := by decide +kernel
theorem dMo_tryWay_39 : decode cMo_tryWay 39 = .ok (.aload_n 0, 1) := by decide +kernel
theorem dMo_tryWay_40 : decode cMo_tryWay 40 = .ok (.getfield 31, 3) := by decide +kernel
theorem dMo_tryWay_43 : decode cMo_tryWay 43 = .ok (.iload 4, 2) := by decide +kernel
theorem dMo_tryWay_45 : decode cMo_tryWay 45 = .ok (.iaload, 1) := by decide +kernel
theorem dMo_tryWay_46 : decode cMo_tryWay 46 = .ok (.ifCond .ne 13, 3) := by decide +kernel
theorem dMo_tryWay_49 : decode cMo_tryWay 49 = .ok (.aload_n 0, 1) := by decide +kernel
theorem dMo_tryWay_50 : decode cMo_tryWay 50 = .ok (.iload_n 1, 1) := by decide +kernel
theorem dMo_tryWay_51 : decode cMo_tryWay 51 = .ok (.iload_n 2, 1) := by decide +kernel
theorem dMo_tryWay_52 : decode cMo_tryWay 52 = .ok (.iload_n 3, 1) := by decide +kernel
theorem dMo_tryWay_53 : decode cMo_tryWay 53 = .ok (.iconst (-1), 1) := by decide +kernel
theorem dMo_tryWay_54 : decode cMo_tryWay 54 = .ok (.iconst (-1), 1) := by decide +kernel
theorem dMo_tryWay_55 : decode cMo_tryWay 55 = .ok (.invokevirtual 241, 3) := by decide +kernel
theorem dMo_tryWay_58 : decode cMo_tryWay 58 = .ok (.return_, 1) := by decide +kernel
theorem dMo_tryWay_59 : decode cMo_tryWay 59 = .ok (.iconst 0, 1) := by decide +kernel
theorem dMo_tryWay_60 : decode cMo_tryWay 60 = .ok (.istore 5, 2) := by decide +kernel
theorem dMo_tryWay_62 : decode cMo_tryWay 62 = .ok (.iload 5, 2) := by decide +kernel
theorem dMo_tryWay_64 : decode cMo_tryWay 64 = .ok (.aload_n 0, 1) := by decide +kernel
theorem dMo_tryWay_65 : decode cMo_tryWay 65 = .ok (.getfield 128, 3) := by decide +kernel
theorem dMo_tryWay_68 : decode cMo_tryWay 68 = .ok (.if_icmp .ge 105, 3) := by decide +kernel
theorem dMo_tryWay_71 : decode cMo_tryWay 71 = .ok (.iconst 0, 1) := by decide +kernel
theorem dMo_tryWay_72 : decode cMo_tryWay 72 = .ok (.istore 6, 2) := by decide +kernel
theorem dMo_tryWay_74 : decode cMo_tryWay 74 = .ok (.iload 6, 2) := by decide +kernel
theorem dMo_tryWay_76 : decode cMo_tryWay 76 = .ok (.aload_n 0, 1) := by decide +kernel
theorem dMo_tryWay_77 : decode cMo_tryWay 77 = .ok (.getfield 13, 3) := by decide +kernel
theorem dMo_tryWay_80 : decode cMo_tryWay 80 = .ok (.iload 5, 2) := by decide +kernel
theorem dMo_tryWay_82 : decode cMo_tryWay 82 = .ok (.iaload, 1) := by decide +kernel
theorem dMo_tryWay_83 : decode cMo_tryWay 83 = .ok (.if_icmp .ge 84, 3) := by decide +kernel
theorem dMo_tryWay_86 : decode cMo_tryWay 86 = .ok (.iload 5, 2) := by decide +kernel
theorem dMo_tryWay_88 : decode cMo_tryWay 88 = .ok (.iload_n 2, 1) := by decide +kernel
theorem dMo_tryWay_89 : decode cMo_tryWay 89 = .ok (.if_icmp .eq 78, 3) := by decide +kernel
theorem dMo_tryWay_92 : decode cMo_tryWay 92 = .ok (.aload_n 0, 1) := by decide +kernel
theorem dMo_tryWay_93 : decode cMo_tryWay 93 = .ok (.getfield 232, 3) := by decide +kernel
theorem dMo_tryWay_96 : decode cMo_tryWay 96 = .ok (.ifCond .ne 71, 3) := by decide +kernel
theorem dMo_tryWay_99 : decode cMo_tryWay 99 = .ok (.aload_n 0, 1) := by decide +kernel
theorem dMo_tryWay_100 : decode cMo_tryWay 100 = .ok (.getfield 25, 3) := by decide +kernel
theorem dMo_tryWay_103 : decode cMo_tryWay 103 = .ok (.bipush 12, 2) := by decide +kernel
theorem dMo_tryWay_105 : decode cMo_tryWay 105 = .ok (.iload 5, 2) := by decide +kernel
theorem dMo_tryWay_107 : decode cMo_tryWay 107 = .ok (.imul, 1) := by decide +kernel
theorem dMo_tryWay_108 : decode cMo_tryWay 108 = .ok (.iload 6, 2) := by decide +kernel
theorem dMo_tryWay_110 : decode cMo_tryWay 110 = .ok (.iadd, 1) := by decide +kernel
theorem dMo_tryWay_111 : decode cMo_tryWay 111 = .ok (.iaload, 1) := by decide +kernel
theorem dMo_tryWay_112 : decode cMo_tryWay 112 = .ok (.aload_n 0, 1) := by decide +kernel
theorem dMo_tryWay_113 : decode cMo_tryWay 113 = .ok (.getfield 58, 3) := by decide +kernel
theorem dMo_tryWay_116 : decode cMo_tryWay 116 = .ok (.iconst 3, 1) := by decide +kernel
theorem dMo_tryWay_117 : decode cMo_tryWay 117 = .ok (.iload_n 1, 1) := by decide +kernel
theorem dMo_tryWay_118 : decode cMo_tryWay 118 = .ok (.imul, 1) := by decide +kernel
theorem dMo_tryWay_119 : decode cMo_tryWay 119 = .ok (.iload 5, 2) := by decide +kernel
theorem dMo_tryWay_121 : decode cMo_tryWay 121 = .ok (.iadd, 1) := by decide +kernel
theorem dMo_tryWay_122 : decode cMo_tryWay 122 = .ok (.iaload, 1) := by decide +kernel
theorem dMo_tryWay_123 : decode cMo_tryWay 123 = .ok (.if_icmp .ne 38, 3) := by decide +kernel
theorem dMo_tryWay_126 : decode cMo_tryWay 126 = .ok (.aload_n 0, 1) := by decide +kernel
theorem dMo_tryWay_127 : decode cMo_tryWay 127 = .ok (.getfield 31, 3) := by decide +kernel
theorem dMo_tryWay_130 : decode cMo_tryWay 130 = .ok (.bipush 12, 2) := by decide +kernel
theorem dMo_tryWay_132 : decode cMo_tryWay 132 = .ok (.iload 5, 2) := by decide +kernel
theorem dMo_tryWay_134 : decode cMo_tryWay 134 = .ok (.imul, 1) := by decide +kernel
theorem dMo_tryWay_135 : decode cMo_tryWay 135 = .ok (.iload 6, 2) := by decide +kernel
theorem dMo_tryWay_137 : decode cMo_tryWay 137 = .ok (.iadd, 1) := by decide +kernel
theorem dMo_tryWay_138 : decode cMo_tryWay 138 = .ok (.iaload, 1) := by decide +kernel
theorem dMo_tryWay_139 : decode cMo_tryWay 139 = .ok (.aload_n 0, 1) := by decide +kernel
theorem dMo_tryWay_140 : decode cMo_tryWay 140 = .ok (.getfield 31, 3) := by decide +kernel
theorem dMo_tryWay_143 : decode cMo_tryWay 143 = .ok (.iload 4, 2) := by decide +kernel
theorem dMo_tryWay_145 : decode cMo_tryWay 145 = .ok (.iaload, 1) := by decide +kernel
theorem dMo_tryWay_146 : decode cMo_tryWay 146 = .ok (.ineg, 1) := by decide +kernel
theorem dMo_tryWay_147 : decode cMo_tryWay 147 = .ok (.if_icmp .ne 14, 3) := by decide +kernel
theorem dMo_tryWay_150 : decode cMo_tryWay 150 = .ok (.aload_n 0, 1) := by decide +kernel
theorem dMo_tryWay_151 : decode cMo_tryWay 151 = .ok (.iload_n 1, 1) := by decide +kernel
theorem dMo_tryWay_152 : decode cMo_tryWay 152 = .ok (.iload_n 2, 1) := by decide +kernel
theorem dMo_tryWay_153 : decode cMo_tryWay 153 = .ok (.iload_n 3, 1) := by decide +kernel
theorem dMo_tryWay_154 : decode cMo_tryWay 154 = .ok (.iload 5, 2) := by decide +kernel
theorem dMo_tryWay_156 : decode cMo_tryWay 156 = .ok (.iload 6, 2) := by decide +kernel
theorem dMo_tryWay_158 : decode cMo_tryWay 158 = .ok (.invokevirtual 241, 3) := by decide +kernel
theorem dMo_tryWay_161 : decode cMo_tryWay 161 = .ok (.iinc 6 1, 3) := by decide +kernel
theorem dMo_tryWay_164 : decode cMo_tryWay 164 = .ok (.goto (-90), 3) := by decide +kernel
theorem dMo_tryWay_167 : decode cMo_tryWay 167 = .ok (.iinc 5 1, 3) := by decide +kernel
theorem dMo_tryWay_170 : decode cMo_tryWay 170 = .ok (.goto (-108), 3) := by decide +kernel
theorem dMo_tryWay_173 : decode cMo_tryWay 173 = .ok (.return_, 1) := by decide +kernel
theorem dMo_lookAt_0 : decode cMo_lookAt 0 = .ok (.aload_n 0, 1) := by decide +kernel
theorem dMo_lookAt_1 : decode cMo_lookAt 1 = .ok (.iconst 0, 1) := by decide +kernel
theorem dMo_lookAt_2 : decode cMo_lookAt 2 = .ok (.putfield 222, 3) := by decide +kernel
theorem dMo_lookAt_5 : decode cMo_lookAt 5 = .ok (.aload_n 0, 1) := by decide +kernel
theorem dMo_lookAt_6 : decode cMo_lookAt 6 = .ok (.iconst 0, 1) := by decide +kernel
theorem dMo_lookAt_7 : decode cMo_lookAt 7 = .ok (.putfield 229, 3) := by decide +kernel
theorem dMo_lookAt_10 : decode cMo_lookAt 10 = .ok (.iconst 0, 1) := by decide +kernel
theorem dMo_lookAt_11 : decode cMo_lookAt 11 = .ok (.istore_n 2, 1) := by decide +kernel
theorem dMo_lookAt_12 : decode cMo_lookAt 12 = .ok (.iload_n 2, 1) := by decide +kernel
theorem dMo_lookAt_13 : decode cMo_lookAt 13 = .ok (.aload_n 0, 1) := by decide +kernel
theorem dMo_lookAt_14 : decode cMo_lookAt 14 = .ok (.getfield 128, 3) := by decide +kernel
theorem dMo_lookAt_17 : decode cMo_lookAt 17 = .ok (.if_icmp .ge 41, 3) := by decide +kernel
theorem dMo_lookAt_20 : decode cMo_lookAt 20 = .ok (.iconst 0, 1) := by decide +kernel
theorem dMo_lookAt_21 : decode cMo_lookAt 21 = .ok (.istore_n 3, 1) := by decide +kernel
theorem dMo_lookAt_22 : decode cMo_lookAt 22 = .ok (.iload_n 3, 1) := by decide +kernel
theorem dMo_lookAt_23 : decode cMo_lookAt 23 = .ok (.aload_n 0, 1) := by decide +kernel
theorem dMo_lookAt_24 : decode cMo_lookAt 24 = .ok (.getfield 13, 3) := by decide +kernel
theorem dMo_lookAt_27 : decode cMo_lookAt 27 = .ok (.iload_n 2, 1) := by decide +kernel
theorem dMo_lookAt_28 : decode cMo_lookAt 28 = .ok (.iaload, 1) := by decide +kernel
theorem dMo_lookAt_29 : decode cMo_lookAt 29 = .ok (.if_icmp .ge 23, 3) := by decide +kernel
theorem dMo_lookAt_32 : decode cMo_lookAt 32 = .ok (.aload_n 0, 1) := by decide +kernel
theorem dMo_lookAt_33 : decode cMo_lookAt 33 = .ok (.getfield 232, 3) := by decide +kernel
theorem dMo_lookAt_36 : decode cMo_lookAt 36 = .ok (.ifCond .ne 16, 3) := by decide +kernel
theorem dMo_lookAt_39 : decode cMo_lookAt 39 = .ok (.aload_n 0, 1) := by decide +kernel
theorem dMo_lookAt_40 : decode cMo_lookAt 40 = .ok (.iload_n 1, 1) := by decide +kernel
theorem dMo_lookAt_41 : decode cMo_lookAt 41 = .ok (.iload_n 2, 1) := by decide +kernel
theorem dMo_lookAt_42 : decode cMo_lookAt 42 = .ok (.iload_n 3, 1) := by decide +kernel
theorem dMo_lookAt_43 : decode cMo_lookAt 43 = .ok (.invokevirtual 245, 3) := by decide +kernel
theorem dMo_lookAt_46 : decode cMo_lookAt 46 = .ok (.iinc 3 1, 3) := by decide +kernel
theorem dMo_lookAt_49 : decode cMo_lookAt 49 = .ok (.goto (-27), 3) := by decide +kernel
theorem dMo_lookAt_52 : decode cMo_lookAt 52 = .ok (.iinc 2 1, 3) := by decide +kernel
theorem dMo_lookAt_55 : decode cMo_lookAt 55 = .ok (.goto (-43), 3) := by decide +kernel
theorem dMo_lookAt_58 : decode cMo_lookAt 58 = .ok (.aload_n 0, 1) := by decide +kernel
theorem dMo_lookAt_59 : decode cMo_lookAt 59 = .ok (.getfield 232, 3) := by decide +kernel
theorem dMo_lookAt_62 : decode cMo_lookAt 62 = .ok (.ifCond .ne 49, 3) := by decide +kernel
theorem dMo_lookAt_65 : decode cMo_lookAt 65 = .ok (.aload_n 0, 1) := by decide +kernel
theorem dMo_lookAt_66 : decode cMo_lookAt 66 = .ok (.getfield 73, 3) := by decide +kernel
theorem dMo_lookAt_69 : decode cMo_lookAt 69 = .ok (.iload_n 1, 1) := by decide +kernel
theorem dMo_lookAt_70 : decode cMo_lookAt 70 = .ok (.aload_n 0, 1) := by decide +kernel
theorem dMo_lookAt_71 : decode cMo_lookAt 71 = .ok (.getfield 222, 3) := by decide +kernel
theorem dMo_lookAt_74 : decode cMo_lookAt 74 = .ok (.iastore, 1) := by decide +kernel
theorem dMo_lookAt_75 : decode cMo_lookAt 75 = .ok (.aload_n 0, 1) := by decide +kernel
theorem dMo_lookAt_76 : decode cMo_lookAt 76 = .ok (.dup, 1) := by decide +kernel
theorem dMo_lookAt_77 : decode cMo_lookAt 77 = .ok (.getfield 248, 3) := by decide +kernel
theorem dMo_lookAt_80 : decode cMo_lookAt 80 = .ok (.aload_n 0, 1) := by decide +kernel
theorem dMo_lookAt_81 : decode cMo_lookAt 81 = .ok (.getfield 222, 3) := by decide +kernel
theorem dMo_lookAt_84 : decode cMo_lookAt 84 = .ok (.iadd, 1) := by decide +kernel
theorem dMo_lookAt_85 : decode cMo_lookAt 85 = .ok (.putfield 248, 3) := by decide +kernel
theorem dMo_lookAt_88 : decode cMo_lookAt 88 = .ok (.aload_n 0, 1) := by decide +kernel
theorem dMo_lookAt_89 : decode cMo_lookAt 89 = .ok (.dup, 1) := by decide +kernel
theorem dMo_lookAt_90 : decode cMo_lookAt 90 = .ok (.getfield 251, 3) := by decide +kernel
theorem dMo_lookAt_93 : decode cMo_lookAt 93 = .ok (.aload_n 0, 1) := by decide +kernel
theorem dMo_lookAt_94 : decode cMo_lookAt 94 = .ok (.getfield 229, 3) := by decide +kernel
theorem dMo_lookAt_97 : decode cMo_lookAt 97 = .ok (.iadd, 1) := by decide +kernel
theorem dMo_lookAt_98 : decode cMo_lookAt 98 = .ok (.putfield 251, 3) := by decide +kernel
theorem dMo_lookAt_101 : decode cMo_lookAt 101 = .ok (.aload_n 0, 1) := by decide +kernel
theorem dMo_lookAt_102 : decode cMo_lookAt 102 = .ok (.dup, 1) := by decide +kernel
theorem dMo_lookAt_103 : decode cMo_lookAt 103 = .ok (.getfield 254, 3) := by decide +kernel
theorem dMo_lookAt_106 : decode cMo_lookAt 106 = .ok (.iconst 1, 1) := by decide +kernel
theorem dMo_lookAt_107 : decode cMo_lookAt 107 = .ok (.iadd, 1) := by decide +kernel
theorem dMo_lookAt_108 : decode cMo_lookAt 108 = .ok (.putfield 254, 3) := by decide +kernel
theorem dMo_lookAt_111 : decode cMo_lookAt 111 = .ok (.return_, 1) := by decide +kernel
theorem dMo_start_0 : decode cMo_start 0 = .ok (.iconst 0, 1) := by decide +kernel
theorem dMo_start_1 : decode cMo_start 1 = .ok (.istore_n 1, 1) := by decide +kernel
theorem dMo_start_2 : decode cMo_start 2 = .ok (.iload_n 1, 1) := by decide +kernel
theorem dMo_start_3 : decode cMo_start 3 = .ok (.aload_n 0, 1) := by decide +kernel
theorem dMo_start_4 : decode cMo_start 4 = .ok (.getfield 128, 3) := by decide +kernel
theorem dMo_start_7 : decode cMo_start 7 = .ok (.if_icmp .ge 16, 3) := by decide +kernel
theorem dMo_start_10 : decode cMo_start 10 = .ok (.aload_n 0, 1) := by decide +kernel
theorem dMo_start_11 : decode cMo_start 11 = .ok (.getfield 89, 3) := by decide +kernel
theorem dMo_start_14 : decode cMo_start 14 = .ok (.iload_n 1, 1) := by decide +kernel
theorem dMo_start_15 : decode cMo_start 15 = .ok (.iconst 0, 1) := by decide +kernel
theorem dMo_start_16 : decode cMo_start 16 = .ok (.iastore, 1) := by decide +kernel
theorem dMo_start_17 : decode cMo_start 17 = .ok (.iinc 1 1, 3) := by decide +kernel
theorem dMo_start_20 : decode cMo_start 20 = .ok (.goto (-18), 3) := by decide +kernel
theorem dMo_start_23 : decode cMo_start 23 = .ok (.aload_n 0, 1) := by decide +kernel
theorem dMo_start_24 : decode cMo_start 24 = .ok (.iconst 4, 1) := by decide +kernel
theorem dMo_start_25 : decode cMo_start 25 = .ok (.invokevirtual 257, 3) := by decide +kernel
theorem dMo_start_28 : decode cMo_start 28 = .ok (.aload_n 0, 1) := by decide +kernel
theorem dMo_start_29 : decode cMo_start 29 = .ok (.iconst 0, 1) := by decide +kernel
theorem dMo_start_30 : decode cMo_start 30 = .ok (.invokevirtual 208, 3) := by decide +kernel
theorem dMo_start_33 : decode cMo_start 33 = .ok (.aload_n 0, 1) := by decide +kernel
theorem dMo_start_34 : decode cMo_start 34 = .ok (.getfield 192, 3) := by decide +kernel
theorem dMo_start_37 : decode cMo_start 37 = .ok (.ifCond .eq 7, 3) := by decide +kernel
theorem dMo_start_40 : decode cMo_start 40 = .ok (.aload_n 0, 1) := by decide +kernel
theorem dMo_start_41 : decode cMo_start 41 = .ok (.invokevirtual 219, 3) := by decide +kernel
theorem dMo_start_44 : decode cMo_start 44 = .ok (.aload_n 0, 1) := by decide +kernel
theorem dMo_start_45 : decode cMo_start 45 = .ok (.getfield 167, 3) := by decide +kernel
theorem dMo_start_48 : decode cMo_start 48 = .ok (.ifCond .eq 4, 3) := by decide +kernel
theorem dMo_start_51 : decode cMo_start 51 = .ok (.return_, 1) := by decide +kernel
theorem dMo_start_52 : decode cMo_start 52 = .ok (.aload_n 0, 1) := by decide +kernel
theorem dMo_start_53 : decode cMo_start 53 = .ok (.iconst (-1), 1) := by decide +kernel
theorem dMo_start_54 : decode cMo_start 54 = .ok (.invokevirtual 235, 3) := by decide +kernel
theorem dMo_start_57 : decode cMo_start 57 = .ok (.aload_n 0, 1) := by decide +kernel
theorem dMo_start_58 : decode cMo_start 58 = .ok (.iconst 5, 1) := by decide +kernel
theorem dMo_start_59 : decode cMo_start 59 = .ok (.invokevirtual 257, 3) := by decide +kernel
theorem dMo_start_62 : decode cMo_start 62 = .ok (.aload_n 0, 1) := by decide +kernel
theorem dMo_start_63 : decode cMo_start 63 = .ok (.iconst 1, 1) := by decide +kernel
theorem dMo_start_64 : decode cMo_start 64 = .ok (.invokevirtual 208, 3) := by decide +kernel
theorem dMo_start_67 : decode cMo_start 67 = .ok (.aload_n 0, 1) := by decide +kernel
theorem dMo_start_68 : decode cMo_start 68 = .ok (.iconst 0, 1) := by decide +kernel
theorem dMo_start_69 : decode cMo_start 69 = .ok (.invokevirtual 238, 3) := by decide +kernel
theorem dMo_start_72 : decode cMo_start 72 = .ok (.aload_n 0, 1) := by decide +kernel
theorem dMo_start_73 : decode cMo_start 73 = .ok (.getfield 82, 3) := by decide +kernel
theorem dMo_start_76 : decode cMo_start 76 = .ok (.iconst 0, 1) := by decide +kernel
theorem dMo_start_77 : decode cMo_start 77 = .ok (.iconst 0, 1) := by decide +kernel
theorem dMo_start_78 : decode cMo_start 78 = .ok (.iastore, 1) := by decide +kernel
theorem dMo_start_79 : decode cMo_start 79 = .ok (.return_, 1) := by decide +kernel
theorem dMo_walk_0 : decode cMo_walk 0 = .ok (.aload_n 0, 1) := by decide +kernel
theorem dMo_walk_1 : decode cMo_walk 1 = .ok (.iconst 0, 1) := by decide +kernel
theorem dMo_walk_2 : decode cMo_walk 2 = .ok (.putfield 124, 3) := by decide +kernel
theorem dMo_walk_5 : decode cMo_walk 5 = .ok (.aload_n 0, 1) := by decide +kernel
theorem dMo_walk_6 : decode cMo_walk 6 = .ok (.getfield 128, 3) := by decide +kernel
theorem dMo_walk_9 : decode cMo_walk 9 = .ok (.ifCond .le 7, 3) := by decide +kernel
theorem dMo_walk_12 : decode cMo_walk 12 = .ok (.iconst 1, 1) := by decide +kernel
theorem dMo_walk_13 : decode cMo_walk 13 = .ok (.goto 4, 3) := by decide +kernel
theorem dMo_walk_16 : decode cMo_walk 16 = .ok (.iconst 0, 1) := by decide +kernel
theorem dMo_walk_17 : decode cMo_walk 17 = .ok (.istore_n 1, 1) := by decide +kernel
theorem dMo_walk_18 : decode cMo_walk 18 = .ok (.iconst 0, 1) := by decide +kernel
theorem dMo_walk_19 : decode cMo_walk 19 = .ok (.istore_n 2, 1) := by decide +kernel
theorem dMo_walk_20 : decode cMo_walk 20 = .ok (.iload_n 2, 1) := by decide +kernel
theorem dMo_walk_21 : decode cMo_walk 21 = .ok (.aload_n 0, 1) := by decide +kernel
theorem dMo_walk_22 : decode cMo_walk 22 = .ok (.getfield 128, 3) := by decide +kernel
theorem dMo_walk_25 : decode cMo_walk 25 = .ok (.if_icmp .ge 28, 3) := by decide +kernel
theorem dMo_walk_28 : decode cMo_walk 28 = .ok (.iload_n 1, 1) := by decide +kernel
theorem dMo_walk_29 : decode cMo_walk 29 = .ok (.ifCond .eq 16, 3) := by decide +kernel
theorem dMo_walk_32 : decode cMo_walk 32 = .ok (.aload_n 0, 1) := by decide +kernel
theorem dMo_walk_33 : decode cMo_walk 33 = .ok (.getfield 7, 3) := by decide +kernel
theorem dMo_walk_36 : decode cMo_walk 36 = .ok (.iload_n 2, 1) := by decide +kernel
theorem dMo_walk_37 : decode cMo_walk 37 = .ok (.iaload, 1) := by decide +kernel
theorem dMo_walk_38 : decode cMo_walk 38 = .ok (.ifCond .le 7, 3) := by decide +kernel
theorem dMo_walk_41 : decode cMo_walk 41 = .ok (.iconst 1, 1) := by decide +kernel
theorem dMo_walk_42 : decode cMo_walk 42 = .ok (.goto 4, 3) := by decide +kernel
theorem dMo_walk_45 : decode cMo_walk 45 = .ok (.iconst 0, 1) := by decide +kernel
theorem dMo_walk_46 : decode cMo_walk 46 = .ok (.istore_n 1, 1) := by decide +kernel
theorem dMo_walk_47 : decode cMo_walk 47 = .ok (.iinc 2 1, 3) := by decide +kernel
theorem dMo_walk_50 : decode cMo_walk 50 = .ok (.goto (-30), 3) := by decide +kernel
theorem dMo_walk_53 : decode cMo_walk 53 = .ok (.iload_n 1, 1) := by decide +kernel
theorem dMo_walk_54 : decode cMo_walk 54 = .ok (.ifCond .ne 5, 3) := by decide +kernel
theorem dMo_walk_57 : decode cMo_walk 57 = .ok (.iconst (-1), 1) := by decide +kernel
theorem dMo_walk_58 : decode cMo_walk 58 = .ok (.ireturn, 1) := by decide +kernel
theorem dMo_walk_59 : decode cMo_walk 59 = .ok (.aload_n 0, 1) := by decide +kernel
theorem dMo_walk_60 : decode cMo_walk 60 = .ok (.iconst 1, 1) := by decide +kernel
theorem dMo_walk_61 : decode cMo_walk 61 = .ok (.putfield 260, 3) := by decide +kernel
theorem dMo_walk_64 : decode cMo_walk 64 = .ok (.aload_n 0, 1) := by decide +kernel
theorem dMo_walk_65 : decode cMo_walk 65 = .ok (.aload_n 0, 1) := by decide +kernel
theorem dMo_walk_66 : decode cMo_walk 66 = .ok (.getfield 128, 3) := by decide +kernel
theorem dMo_walk_69 : decode cMo_walk 69 = .ok (.putfield 263, 3) := by decide +kernel
theorem dMo_walk_72 : decode cMo_walk 72 = .ok (.aload_n 0, 1) := by decide +kernel
theorem dMo_walk_73 : decode cMo_walk 73 = .ok (.iconst 0, 1) := by decide +kernel
theorem dMo_walk_74 : decode cMo_walk 74 = .ok (.putfield 199, 3) := by decide +kernel
theorem dMo_walk_77 : decode cMo_walk 77 = .ok (.aload_n 0, 1) := by decide +kernel
theorem dMo_walk_78 : decode cMo_walk 78 = .ok (.iconst 0, 1) := by decide +kernel
theorem dMo_walk_79 : decode cMo_walk 79 = .ok (.putfield 254, 3) := by decide +kernel
theorem dMo_walk_82 : decode cMo_walk 82 = .ok (.aload_n 0, 1) := by decide +kernel
theorem dMo_walk_83 : decode cMo_walk 83 = .ok (.iconst 0, 1) := by decide +kernel
theorem dMo_walk_84 : decode cMo_walk 84 = .ok (.putfield 248, 3) := by decide +kernel
theorem dMo_walk_87 : decode cMo_walk 87 = .ok (.aload_n 0, 1) := by decide +kernel
theorem dMo_walk_88 : decode cMo_walk 88 = .ok (.iconst 0, 1) := by decide +kernel
theorem dMo_walk_89 : decode cMo_walk 89 = .ok (.putfield 251, 3) := by decide +kernel
theorem dMo_walk_92 : decode cMo_walk 92 = .ok (.aload_n 0, 1) := by decide +kernel
theorem dMo_walk_93 : decode cMo_walk 93 = .ok (.iconst 0, 1) := by decide +kernel
theorem dMo_walk_94 : decode cMo_walk 94 = .ok (.putfield 232, 3) := by decide +kernel
theorem dMo_walk_97 : decode cMo_walk 97 = .ok (.aload_n 0, 1) := by decide +kernel
theorem dMo_walk_98 : decode cMo_walk 98 = .ok (.invokevirtual 266, 3) := by decide +kernel
theorem dMo_walk_101 : decode cMo_walk 101 = .ok (.aload_n 0, 1) := by decide +kernel
theorem dMo_walk_102 : decode cMo_walk 102 = .ok (.invokevirtual 269, 3) := by decide +kernel
theorem dMo_walk_105 : decode cMo_walk 105 = .ok (.iconst 0, 1) := by decide +kernel
theorem dMo_walk_106 : decode cMo_walk 106 = .ok (.istore_n 2, 1) := by decide +kernel
theorem dMo_walk_107 : decode cMo_walk 107 = .ok (.iload_n 2, 1) := by decide +kernel
theorem dMo_walk_108 : decode cMo_walk 108 = .ok (.aload_n 0, 1) := by decide +kernel
theorem dMo_walk_109 : decode cMo_walk 109 = .ok (.getfield 199, 3) := by decide +kernel
theorem dMo_walk_112 : decode cMo_walk 112 = .ok (.if_icmp .ge 21, 3) := by decide +kernel
theorem dMo_walk_115 : decode cMo_walk 115 = .ok (.aload_n 0, 1) := by decide +kernel
theorem dMo_walk_116 : decode cMo_walk 116 = .ok (.getfield 232, 3) := by decide +kernel
theorem dMo_walk_119 : decode cMo_walk 119 = .ok (.ifCond .ne 14, 3) := by decide +kernel
theorem dMo_walk_122 : decode cMo_walk 122 = .ok (.aload_n 0, 1) := by decide +kernel
theorem dMo_walk_123 : decode cMo_walk 123 = .ok (.iload_n 2, 1) := by decide +kernel
theorem dMo_walk_124 : decode cMo_walk 124 = .ok (.invokevirtual 272, 3) := by decide +kernel
theorem dMo_walk_127 : decode cMo_walk 127 = .ok (.iinc 2 1, 3) := by decide +kernel
theorem dMo_walk_130 : decode cMo_walk 130 = .ok (.goto (-23), 3) := by decide +kernel
theorem dMo_walk_133 : decode cMo_walk 133 = .ok (.iconst 0, 1) := by decide +kernel
theorem dMo_walk_134 : decode cMo_walk 134 = .ok (.istore_n 2, 1) := by decide +kernel
theorem dMo_walk_135 : decode cMo_walk 135 = .ok (.iload_n 2, 1) := by decide +kernel
theorem dMo_walk_136 : decode cMo_walk 136 = .ok (.iconst 3, 1) := by decide +kernel
theorem dMo_walk_137 : decode cMo_walk 137 = .ok (.if_icmp .ge 35, 3) := by decide +kernel
theorem dMo_walk_140 : decode cMo_walk 140 = .ok (.aload_n 0, 1) := by decide +kernel
theorem dMo_walk_141 : decode cMo_walk 141 = .ok (.getfield 92, 3) := by decide +kernel
theorem dMo_walk_144 : decode cMo_walk 144 = .ok (.iload_n 2, 1) := by decide +kernel
theorem dMo_walk_145 : decode cMo_walk 145 = .ok (.aload_n 0, 1) := by decide +kernel
theorem dMo_walk_146 : decode cMo_walk 146 = .ok (.getfield 192, 3) := by decide +kernel
theorem dMo_walk_149 : decode cMo_walk 149 = .ok (.ifCond .eq 14, 3) := by decide +kernel
theorem dMo_walk_152 : decode cMo_walk 152 = .ok (.aload_n 0, 1) := by decide +kernel
theorem dMo_walk_153 : decode cMo_walk 153 = .ok (.getfield 55, 3) := by decide +kernel
theorem dMo_walk_156 : decode cMo_walk 156 = .ok (.iload_n 2, 1) := by decide +kernel
theorem dMo_walk_157 : decode cMo_walk 157 = .ok (.iconst 1, 1) := by decide +kernel
theorem dMo_walk_158 : decode cMo_walk 158 = .ok (.iadd, 1) := by decide +kernel
theorem dMo_walk_159 : decode cMo_walk 159 = .ok (.iaload, 1) := by decide +kernel
theorem dMo_walk_160 : decode cMo_walk 160 = .ok (.goto 5, 3) := by decide +kernel
theorem dMo_walk_163 : decode cMo_walk 163 = .ok (.bipush (-2), 2) := by decide +kernel
theorem dMo_walk_165 : decode cMo_walk 165 = .ok (.iastore, 1) := by decide +kernel
theorem dMo_walk_166 : decode cMo_walk 166 = .ok (.iinc 2 1, 3) := by decide +kernel
theorem dMo_walk_169 : decode cMo_walk 169 = .ok (.goto (-34), 3) := by decide +kernel
theorem dMo_walk_172 : decode cMo_walk 172 = .ok (.aload_n 0, 1) := by decide +kernel
theorem dMo_walk_173 : decode cMo_walk 173 = .ok (.getfield 232, 3) := by decide +kernel
theorem dMo_walk_176 : decode cMo_walk 176 = .ok (.ifCond .eq 13, 3) := by decide +kernel
theorem dMo_walk_179 : decode cMo_walk 179 = .ok (.bipush (-2), 2) := by decide +kernel
theorem dMo_walk_181 : decode cMo_walk 181 = .ok (.aload_n 0, 1) := by decide +kernel
theorem dMo_walk_182 : decode cMo_walk 182 = .ok (.getfield 199, 3) := by decide +kernel
theorem dMo_walk_185 : decode cMo_walk 185 = .ok (.isub, 1) := by decide +kernel
theorem dMo_walk_186 : decode cMo_walk 186 = .ok (.goto 7, 3) := by decide +kernel
theorem dMo_walk_189 : decode cMo_walk 189 = .ok (.aload_n 0, 1) := by decide +kernel
theorem dMo_walk_190 : decode cMo_walk 190 = .ok (.getfield 199, 3) := by decide +kernel
theorem dMo_walk_193 : decode cMo_walk 193 = .ok (.ireturn, 1) := by decide +kernel
theorem dMo_isState_0 : decode cMo_isState 0 = .ok (.iload_n 1, 1) := by decide +kernel
theorem dMo_isState_1 : decode cMo_isState 1 = .ok (.ifCond .lt 15, 3) := by decide +kernel
theorem dMo_isState_4 : decode cMo_isState 4 = .ok (.iload_n 1, 1) := by decide +kernel
theorem dMo_isState_5 : decode cMo_isState 5 = .ok (.aload_n 0, 1) := by decide +kernel
theorem dMo_isState_6 : decode cMo_isState 6 = .ok (.getfield 199, 3) := by decide +kernel
theorem dMo_isState_9 : decode cMo_isState 9 = .ok (.if_icmp .ge 7, 3) := by decide +kernel
theorem dMo_isState_12 : decode cMo_isState 12 = .ok (.iconst 1, 1) := by decide +kernel
theorem dMo_isState_13 : decode cMo_isState 13 = .ok (.goto 4, 3) := by decide +kernel
theorem dMo_isState_16 : decode cMo_isState 16 = .ok (.iconst 0, 1) := by decide +kernel
theorem dMo_isState_17 : decode cMo_isState 17 = .ok (.ireturn, 1) := by decide +kernel
theorem dMo_state_0 : decode cMo_state 0 = .ok (.aload_n 0, 1) := by decide +kernel
theorem dMo_state_1 : decode cMo_state 1 = .ok (.iconst 0, 1) := by decide +kernel
theorem dMo_state_2 : decode cMo_state 2 = .ok (.putfield 124, 3) := by decide +kernel
theorem dMo_state_5 : decode cMo_state 5 = .ok (.aload_n 0, 1) := by decide +kernel
theorem dMo_state_6 : decode cMo_state 6 = .ok (.iload_n 1, 1) := by decide +kernel
theorem dMo_state_7 : decode cMo_state 7 = .ok (.invokevirtual 275, 3) := by decide +kernel
theorem dMo_state_10 : decode cMo_state 10 = .ok (.ifCond .eq 15, 3) := by decide +kernel
theorem dMo_state_13 : decode cMo_state 13 = .ok (.iload_n 2, 1) := by decide +kernel
theorem dMo_state_14 : decode cMo_state 14 = .ok (.i2l, 1) := by decide +kernel
theorem dMo_state_15 : decode cMo_state 15 = .ok (.lconst 0, 1) := by decide +kernel
theorem dMo_state_16 : decode cMo_state 16 = .ok (.ldc2_w 278, 3) := by decide +kernel
theorem dMo_state_19 : decode cMo_state 19 = .ok (.invokestatic 141, 3) := by decide +kernel
theorem dMo_state_22 : decode cMo_state 22 = .ok (.ifCond .ne 5, 3) := by decide +kernel
theorem dMo_state_25 : decode cMo_state 25 = .ok (.iconst (-1), 1) := by decide +kernel
theorem dMo_state_26 : decode cMo_state 26 = .ok (.ireturn, 1) := by decide +kernel
theorem dMo_state_27 : decode cMo_state 27 = .ok (.iload_n 2, 1) := by decide +kernel
theorem dMo_state_28 : decode cMo_state 28 = .ok (.tableswitch 74 3 6 #[32, 53, 60, 67], 32) := by decide +kernel
theorem dMo_state_60 : decode cMo_state 60 = .ok (.aload_n 0, 1) := by decide +kernel
theorem dMo_state_61 : decode cMo_state 61 = .ok (.getfield 67, 3) := by decide +kernel
theorem dMo_state_64 : decode cMo_state 64 = .ok (.iload_n 1, 1) := by decide +kernel
theorem dMo_state_65 : decode cMo_state 65 = .ok (.iaload, 1) := by decide +kernel
theorem dMo_state_66 : decode cMo_state 66 = .ok (.ifCond .ge 8, 3) := by decide +kernel
theorem dMo_state_69 : decode cMo_state 69 = .ok (.bipush (-2), 2) := by decide +kernel
theorem dMo_state_71 : decode cMo_state 71 = .ok (.goto 9, 3) := by decide +kernel
theorem dMo_state_74 : decode cMo_state 74 = .ok (.aload_n 0, 1) := by decide +kernel
theorem dMo_state_75 : decode cMo_state 75 = .ok (.getfield 67, 3) := by decide +kernel
theorem dMo_state_78 : decode cMo_state 78 = .ok (.iload_n 1, 1) := by decide +kernel
theorem dMo_state_79 : decode cMo_state 79 = .ok (.iaload, 1) := by decide +kernel
theorem dMo_state_80 : decode cMo_state 80 = .ok (.ireturn, 1) := by decide +kernel
theorem dMo_state_81 : decode cMo_state 81 = .ok (.aload_n 0, 1) := by decide +kernel
theorem dMo_state_82 : decode cMo_state 82 = .ok (.getfield 70, 3) := by decide +kernel
theorem dMo_state_85 : decode cMo_state 85 = .ok (.iload_n 1, 1) := by decide +kernel
theorem dMo_state_86 : decode cMo_state 86 = .ok (.iaload, 1) := by decide +kernel
theorem dMo_state_87 : decode cMo_state 87 = .ok (.ireturn, 1) := by decide +kernel
theorem dMo_state_88 : decode cMo_state 88 = .ok (.aload_n 0, 1) := by decide +kernel
theorem dMo_state_89 : decode cMo_state 89 = .ok (.getfield 73, 3) := by decide +kernel
theorem dMo_state_92 : decode cMo_state 92 = .ok (.iload_n 1, 1) := by decide +kernel
theorem dMo_state_93 : decode cMo_state 93 = .ok (.iaload, 1) := by decide +kernel
theorem dMo_state_94 : decode cMo_state 94 = .ok (.ireturn, 1) := by decide +kernel
theorem dMo_state_95 : decode cMo_state 95 = .ok (.aload_n 0, 1) := by decide +kernel
theorem dMo_state_96 : decode cMo_state 96 = .ok (.getfield 76, 3) := by decide +kernel
theorem dMo_state_99 : decode cMo_state 99 = .ok (.iload_n 1, 1) := by decide +kernel
theorem dMo_state_100 : decode cMo_state 100 = .ok (.iaload, 1) := by decide +kernel
theorem dMo_state_101 : decode cMo_state 101 = .ok (.ireturn, 1) := by decide +kernel
theorem dMo_state_102 : decode cMo_state 102 = .ok (.aload_n 0, 1) := by decide +kernel
theorem dMo_state_103 : decode cMo_state 103 = .ok (.getfield 58, 3) := by decide +kernel
theorem dMo_state_106 : decode cMo_state 106 = .ok (.iconst 3, 1) := by decide +kernel
theorem dMo_state_107 : decode cMo_state 107 = .ok (.iload_n 1, 1) := by decide +kernel
theorem dMo_state_108 : decode cMo_state 108 = .ok (.imul, 1) := by decide +kernel
theorem dMo_state_109 : decode cMo_state 109 = .ok (.iload_n 2, 1) := by decide +kernel
theorem dMo_state_110 : decode cMo_state 110 = .ok (.iadd, 1) := by decide +kernel
theorem dMo_state_111 : decode cMo_state 111 = .ok (.iaload, 1) := by decide +kernel
theorem dMo_state_112 : decode cMo_state 112 = .ok (.ireturn, 1) := by decide +kernel
theorem dMo_bound_0 : decode cMo_bound 0 = .ok (.aload_n 0, 1) := by decide +kernel
theorem dMo_bound_1 : decode cMo_bound 1 = .ok (.iload_n 1, 1) := by decide +kernel
theorem dMo_bound_2 : decode cMo_bound 2 = .ok (.invokevirtual 275, 3) := by decide +kernel
theorem dMo_bound_5 : decode cMo_bound 5 = .ok (.ifCond .eq 31, 3) := by decide +kernel
theorem dMo_bound_8 : decode cMo_bound 8 = .ok (.iload_n 2, 1) := by decide +kernel
theorem dMo_bound_9 : decode cMo_bound 9 = .ok (.i2l, 1) := by decide +kernel
theorem dMo_bound_10 : decode cMo_bound 10 = .ok (.lconst 0, 1) := by decide +kernel
theorem dMo_bound_11 : decode cMo_bound 11 = .ok (.ldc2_w 139, 3) := by decide +kernel
theorem dMo_bound_14 : decode cMo_bound 14 = .ok (.invokestatic 141, 3) := by decide +kernel
theorem dMo_bound_17 : decode cMo_bound 17 = .ok (.ifCond .eq 19, 3) := by decide +kernel
theorem dMo_bound_20 : decode cMo_bound 20 = .ok (.iload_n 3, 1) := by decide +kernel
theorem dMo_bound_21 : decode cMo_bound 21 = .ok (.i2l, 1) := by decide +kernel
theorem dMo_bound_22 : decode cMo_bound 22 = .ok (.lconst 0, 1) := by decide +kernel
theorem dMo_bound_23 : decode cMo_bound 23 = .ok (.ldc2_w 139, 3) := by decide +kernel
theorem dMo_bound_26 : decode cMo_bound 26 = .ok (.invokestatic 141, 3) := by decide +kernel
theorem dMo_bound_29 : decode cMo_bound 29 = .ok (.ifCond .eq 7, 3) := by decide +kernel
theorem dMo_bound_32 : decode cMo_bound 32 = .ok (.iconst 1, 1) := by decide +kernel
theorem dMo_bound_33 : decode cMo_bound 33 = .ok (.goto 4, 3) := by decide +kernel
theorem dMo_bound_36 : decode cMo_bound 36 = .ok (.iconst 0, 1) := by decide +kernel
theorem dMo_bound_37 : decode cMo_bound 37 = .ok (.istore 4, 2) := by decide +kernel
theorem dMo_bound_39 : decode cMo_bound 39 = .ok (.aload_n 0, 1) := by decide +kernel
theorem dMo_bound_40 : decode cMo_bound 40 = .ok (.iload 4, 2) := by decide +kernel
theorem dMo_bound_42 : decode cMo_bound 42 = .ok (.ifCond .eq 7, 3) := by decide +kernel
theorem dMo_bound_45 : decode cMo_bound 45 = .ok (.iconst 0, 1) := by decide +kernel
theorem dMo_bound_46 : decode cMo_bound 46 = .ok (.goto 4, 3) := by decide +kernel
theorem dMo_bound_49 : decode cMo_bound 49 = .ok (.iconst 1, 1) := by decide +kernel
theorem dMo_bound_50 : decode cMo_bound 50 = .ok (.putfield 124, 3) := by decide +kernel
theorem dMo_bound_53 : decode cMo_bound 53 = .ok (.iload 4, 2) := by decide +kernel
theorem dMo_bound_55 : decode cMo_bound 55 = .ok (.ifCond .eq 21, 3) := by decide +kernel
theorem dMo_bound_58 : decode cMo_bound 58 = .ok (.aload_n 0, 1) := by decide +kernel
theorem dMo_bound_59 : decode cMo_bound 59 = .ok (.getfield 61, 3) := by decide +kernel
theorem dMo_bound_62 : decode cMo_bound 62 = .ok (.bipush 25, 2) := by decide +kernel
theorem dMo_bound_64 : decode cMo_bound 64 = .ok (.iload_n 1, 1) := by decide +kernel
theorem dMo_bound_65 : decode cMo_bound 65 = .ok (.imul, 1) := by decide +kernel
theorem dMo_bound_66 : decode cMo_bound 66 = .ok (.iconst 5, 1) := by decide +kernel
theorem dMo_bound_67 : decode cMo_bound 67 = .ok (.iload_n 2, 1) := by decide +kernel
theorem dMo_bound_68 : decode cMo_bound 68 = .ok (.imul, 1) := by decide +kernel
theorem dMo_bound_69 : decode cMo_bound 69 = .ok (.iadd, 1) := by decide +kernel
theorem dMo_bound_70 : decode cMo_bound 70 = .ok (.iload_n 3, 1) := by decide +kernel
theorem dMo_bound_71 : decode cMo_bound 71 = .ok (.iadd, 1) := by decide +kernel
theorem dMo_bound_72 : decode cMo_bound 72 = .ok (.iaload, 1) := by decide +kernel
theorem dMo_bound_73 : decode cMo_bound 73 = .ok (.goto 4, 3) := by decide +kernel
theorem dMo_bound_76 : decode cMo_bound 76 = .ok (.iconst 0, 1) := by decide +kernel
theorem dMo_bound_77 : decode cMo_bound 77 = .ok (.ireturn, 1) := by decide +kernel
theorem dMo_seen_0 : decode cMo_seen 0 = .ok (.aload_n 0, 1) := by decide +kernel
theorem dMo_seen_1 : decode cMo_seen 1 = .ok (.iconst 0, 1) := by decide +kernel
theorem dMo_seen_2 : decode cMo_seen 2 = .ok (.putfield 124, 3) := by decide +kernel
theorem dMo_seen_5 : decode cMo_seen 5 = .ok (.iload_n 1, 1) := by decide +kernel
theorem dMo_seen_6 : decode cMo_seen 6 = .ok (.i2l, 1) := by decide +kernel
theorem dMo_seen_7 : decode cMo_seen 7 = .ok (.ldc2_w 280, 3) := by decide +kernel
theorem dMo_seen_10 : decode cMo_seen 10 = .ok (.ldc2_w 282, 3) := by decide +kernel
theorem dMo_seen_13 : decode cMo_seen 13 = .ok (.invokestatic 141, 3) := by decide +kernel
theorem dMo_seen_16 : decode cMo_seen 16 = .ok (.ifCond .eq 31, 3) := by decide +kernel
theorem dMo_seen_19 : decode cMo_seen 19 = .ok (.iload_n 2, 1) := by decide +kernel
theorem dMo_seen_20 : decode cMo_seen 20 = .ok (.i2l, 1) := by decide +kernel
theorem dMo_seen_21 : decode cMo_seen 21 = .ok (.ldc2_w 280, 3) := by decide +kernel
theorem dMo_seen_24 : decode cMo_seen 24 = .ok (.ldc2_w 282, 3) := by decide +kernel
theorem dMo_seen_27 : decode cMo_seen 27 = .ok (.invokestatic 141, 3) := by decide +kernel
theorem dMo_seen_30 : decode cMo_seen 30 = .ok (.ifCond .eq 17, 3) := by decide +kernel
theorem dMo_seen_33 : decode cMo_seen 33 = .ok (.iload_n 3, 1) := by decide +kernel
theorem dMo_seen_34 : decode cMo_seen 34 = .ok (.i2l, 1) := by decide +kernel
theorem dMo_seen_35 : decode cMo_seen 35 = .ok (.ldc2_w 280, 3) := by decide +kernel
theorem dMo_seen_38 : decode cMo_seen 38 = .ok (.ldc2_w 282, 3) := by decide +kernel
theorem dMo_seen_41 : decode cMo_seen 41 = .ok (.invokestatic 141, 3) := by decide +kernel
theorem dMo_seen_44 : decode cMo_seen 44 = .ok (.ifCond .ne 5, 3) := by decide +kernel
theorem dMo_seen_47 : decode cMo_seen 47 = .ok (.iconst (-1), 1) := by decide +kernel
theorem dMo_seen_48 : decode cMo_seen 48 = .ok (.ireturn, 1) := by decide +kernel
theorem dMo_seen_49 : decode cMo_seen 49 = .ok (.iconst 0, 1) := by decide +kernel
theorem dMo_seen_50 : decode cMo_seen 50 = .ok (.istore 4, 2) := by decide +kernel
theorem dMo_seen_52 : decode cMo_seen 52 = .ok (.iload 4, 2) := by decide +kernel
theorem dMo_seen_54 : decode cMo_seen 54 = .ok (.aload_n 0, 1) := by decide +kernel
theorem dMo_seen_55 : decode cMo_seen 55 = .ok (.getfield 199, 3) := by decide +kernel
theorem dMo_seen_58 : decode cMo_seen 58 = .ok (.if_icmp .ge 79, 3) := by decide +kernel
theorem dMo_seen_61 : decode cMo_seen 61 = .ok (.iload_n 1, 1) := by decide +kernel
theorem dMo_seen_62 : decode cMo_seen 62 = .ok (.ifCond .lt 16, 3) := by decide +kernel
theorem dMo_seen_65 : decode cMo_seen 65 = .ok (.aload_n 0, 1) := by decide +kernel
theorem dMo_seen_66 : decode cMo_seen 66 = .ok (.getfield 58, 3) := by decide +kernel
theorem dMo_seen_69 : decode cMo_seen 69 = .ok (.iconst 3, 1) := by decide +kernel
theorem dMo_seen_70 : decode cMo_seen 70 = .ok (.iload 4, 2) := by decide +kernel
theorem dMo_seen_72 : decode cMo_seen 72 = .ok (.imul, 1) := by decide +kernel
theorem dMo_seen_73 : decode cMo_seen 73 = .ok (.iaload, 1) := by decide +kernel
theorem dMo_seen_74 : decode cMo_seen 74 = .ok (.iload_n 1, 1) := by decide +kernel
theorem dMo_seen_75 : decode cMo_seen 75 = .ok (.if_icmp .ne 45, 3) := by decide +kernel
theorem dMo_seen_78 : decode cMo_seen 78 = .ok (.iload_n 2, 1) := by decide +kernel
theorem dMo_seen_79 : decode cMo_seen 79 = .ok (.ifCond .lt 18, 3) := by decide +kernel
theorem dMo_seen_82 : decode cMo_seen 82 = .ok (.aload_n 0, 1) := by decide +kernel
theorem dMo_seen_83 : decode cMo_seen 83 = .ok (.getfield 58, 3) := by decide +kernel
theorem dMo_seen_86 : decode cMo_seen 86 = .ok (.iconst 3, 1) := by decide +kernel
theorem dMo_seen_87 : decode cMo_seen 87 = .ok (.iload 4, 2) := by decide +kernel
theorem dMo_seen_89 : decode cMo_seen 89 = .ok (.imul, 1) := by decide +kernel
theorem dMo_seen_90 : decode cMo_seen 90 = .ok (.iconst 1, 1) := by decide +kernel
theorem dMo_seen_91 : decode cMo_seen 91 = .ok (.iadd, 1) := by decide +kernel
theorem dMo_seen_92 : decode cMo_seen 92 = .ok (.iaload, 1) := by decide +kernel
theorem dMo_seen_93 : decode cMo_seen 93 = .ok (.iload_n 2, 1) := by decide +kernel
theorem dMo_seen_94 : decode cMo_seen 94 = .ok (.if_icmp .ne 26, 3) := by decide +kernel
theorem dMo_seen_97 : decode cMo_seen 97 = .ok (.iload_n 3, 1) := by decide +kernel
theorem dMo_seen_98 : decode cMo_seen 98 = .ok (.ifCond .lt 18, 3) := by decide +kernel
theorem dMo_seen_101 : decode cMo_seen 101 = .ok (.aload_n 0, 1) := by decide +kernel
theorem dMo_seen_102 : decode cMo_seen 102 = .ok (.getfield 58, 3) := by decide +kernel
theorem dMo_seen_105 : decode cMo_seen 105 = .ok (.iconst 3, 1) := by decide +kernel
theorem dMo_seen_106 : decode cMo_seen 106 = .ok (.iload 4, 2) := by decide +kernel
theorem dMo_seen_108 : decode cMo_seen 108 = .ok (.imul, 1) := by decide +kernel
theorem dMo_seen_109 : decode cMo_seen 109 = .ok (.iconst 2, 1) := by decide +kernel
theorem dMo_seen_110 : decode cMo_seen 110 = .ok (.iadd, 1) := by decide +kernel
theorem dMo_seen_111 : decode cMo_seen 111 = .ok (.iaload, 1) := by decide +kernel
theorem dMo_seen_112 : decode cMo_seen 112 = .ok (.iload_n 3, 1) := by decide +kernel
theorem dMo_seen_113 : decode cMo_seen 113 = .ok (.if_icmp .ne 7, 3) := by decide +kernel
theorem dMo_seen_116 : decode cMo_seen 116 = .ok (.iconst 1, 1) := by decide +kernel
theorem dMo_seen_117 : decode cMo_seen 117 = .ok (.goto 4, 3) := by decide +kernel
theorem dMo_seen_120 : decode cMo_seen 120 = .ok (.iconst 0, 1) := by decide +kernel
theorem dMo_seen_121 : decode cMo_seen 121 = .ok (.istore 5, 2) := by decide +kernel
theorem dMo_seen_123 : decode cMo_seen 123 = .ok (.iload 5, 2) := by decide +kernel
theorem dMo_seen_125 : decode cMo_seen 125 = .ok (.ifCond .eq 6, 3) := by decide +kernel
theorem dMo_seen_128 : decode cMo_seen 128 = .ok (.iload 4, 2) := by decide +kernel
theorem dMo_seen_130 : decode cMo_seen 130 = .ok (.ireturn, 1) := by decide +kernel
theorem dMo_seen_131 : decode cMo_seen 131 = .ok (.iinc 4 1, 3) := by decide +kernel
theorem dMo_seen_134 : decode cMo_seen 134 = .ok (.goto (-82), 3) := by decide +kernel
theorem dMo_seen_137 : decode cMo_seen 137 = .ok (.bipush (-2), 2) := by decide +kernel
theorem dMo_seen_139 : decode cMo_seen 139 = .ok (.ireturn, 1) := by decide +kernel
theorem dMo_lead_0 : decode cMo_lead 0 = .ok (.aload_n 0, 1) := by decide +kernel
theorem dMo_lead_1 : decode cMo_lead 1 = .ok (.iconst 0, 1) := by decide +kernel
theorem dMo_lead_2 : decode cMo_lead 2 = .ok (.putfield 124, 3) := by decide +kernel
theorem dMo_lead_5 : decode cMo_lead 5 = .ok (.aload_n 0, 1) := by decide +kernel
theorem dMo_lead_6 : decode cMo_lead 6 = .ok (.iload_n 1, 1) := by decide +kernel
theorem dMo_lead_7 : decode cMo_lead 7 = .ok (.invokevirtual 275, 3) := by decide +kernel
theorem dMo_lead_10 : decode cMo_lead 10 = .ok (.ifCond .eq 29, 3) := by decide +kernel
theorem dMo_lead_13 : decode cMo_lead 13 = .ok (.iload_n 2, 1) := by decide +kernel
theorem dMo_lead_14 : decode cMo_lead 14 = .ok (.ifCond .lt 25, 3) := by decide +kernel
theorem dMo_lead_17 : decode cMo_lead 17 = .ok (.iload_n 2, 1) := by decide +kernel
theorem dMo_lead_18 : decode cMo_lead 18 = .ok (.aload_n 0, 1) := by decide +kernel
theorem dMo_lead_19 : decode cMo_lead 19 = .ok (.getfield 76, 3) := by decide +kernel
theorem dMo_lead_22 : decode cMo_lead 22 = .ok (.iload_n 1, 1) := by decide +kernel
theorem dMo_lead_23 : decode cMo_lead 23 = .ok (.iaload, 1) := by decide +kernel
theorem dMo_lead_24 : decode cMo_lead 24 = .ok (.if_icmp .ge 15, 3) := by decide +kernel
theorem dMo_lead_27 : decode cMo_lead 27 = .ok (.iload_n 3, 1) := by decide +kernel
theorem dMo_lead_28 : decode cMo_lead 28 = .ok (.i2l, 1) := by decide +kernel
theorem dMo_lead_29 : decode cMo_lead 29 = .ok (.lconst 0, 1) := by decide +kernel
theorem dMo_lead_30 : decode cMo_lead 30 = .ok (.ldc2_w 139, 3) := by decide +kernel
theorem dMo_lead_33 : decode cMo_lead 33 = .ok (.invokestatic 141, 3) := by decide +kernel
theorem dMo_lead_36 : decode cMo_lead 36 = .ok (.ifCond .ne 5, 3) := by decide +kernel
theorem dMo_lead_39 : decode cMo_lead 39 = .ok (.iconst (-1), 1) := by decide +kernel
theorem dMo_lead_40 : decode cMo_lead 40 = .ok (.ireturn, 1) := by decide +kernel
theorem dMo_lead_41 : decode cMo_lead 41 = .ok (.iload_n 1, 1) := by decide +kernel
theorem dMo_lead_42 : decode cMo_lead 42 = .ok (.istore 4, 2) := by decide +kernel
theorem dMo_lead_44 : decode cMo_lead 44 = .ok (.aload_n 0, 1) := by decide +kernel
theorem dMo_lead_45 : decode cMo_lead 45 = .ok (.getfield 76, 3) := by decide +kernel
theorem dMo_lead_48 : decode cMo_lead 48 = .ok (.iload 4, 2) := by decide +kernel
theorem dMo_lead_50 : decode cMo_lead 50 = .ok (.iaload, 1) := by decide +kernel
theorem dMo_lead_51 : decode cMo_lead 51 = .ok (.iload_n 2, 1) := by decide +kernel
theorem dMo_lead_52 : decode cMo_lead 52 = .ok (.iconst 1, 1) := by decide +kernel
theorem dMo_lead_53 : decode cMo_lead 53 = .ok (.iadd, 1) := by decide +kernel
theorem dMo_lead_54 : decode cMo_lead 54 = .ok (.if_icmp .le 15, 3) := by decide +kernel
theorem dMo_lead_57 : decode cMo_lead 57 = .ok (.aload_n 0, 1) := by decide +kernel
theorem dMo_lead_58 : decode cMo_lead 58 = .ok (.getfield 67, 3) := by decide +kernel
theorem dMo_lead_61 : decode cMo_lead 61 = .ok (.iload 4, 2) := by decide +kernel
theorem dMo_lead_63 : decode cMo_lead 63 = .ok (.iaload, 1) := by decide +kernel
theorem dMo_lead_64 : decode cMo_lead 64 = .ok (.istore 4, 2) := by decide +kernel
theorem dMo_lead_66 : decode cMo_lead 66 = .ok (.goto (-22), 3) := by decide +kernel
theorem dMo_lead_69 : decode cMo_lead 69 = .ok (.aload_n 0, 1) := by decide +kernel
theorem dMo_lead_70 : decode cMo_lead 70 = .ok (.getfield 79, 3) := by decide +kernel
theorem dMo_lead_73 : decode cMo_lead 73 = .ok (.iconst 4, 1) := by decide +kernel
theorem dMo_lead_74 : decode cMo_lead 74 = .ok (.iload 4, 2) := by decide +kernel
theorem dMo_lead_76 : decode cMo_lead 76 = .ok (.imul, 1) := by decide +kernel
theorem dMo_lead_77 : decode cMo_lead 77 = .ok (.iload_n 3, 1) := by decide +kernel
theorem dMo_lead_78 : decode cMo_lead 78 = .ok (.iadd, 1) := by decide +kernel
theorem dMo_lead_79 : decode cMo_lead 79 = .ok (.iaload, 1) := by decide +kernel
theorem dMo_lead_80 : decode cMo_lead 80 = .ok (.ireturn, 1) := by decide +kernel
theorem dMo_soonest_0 : decode cMo_soonest 0 = .ok (.aload_n 0, 1) := by decide +kernel
theorem dMo_soonest_1 : decode cMo_soonest 1 = .ok (.iconst 0, 1) := by decide +kernel
theorem dMo_soonest_2 : decode cMo_soonest 2 = .ok (.putfield 124, 3) := by decide +kernel
theorem dMo_soonest_5 : decode cMo_soonest 5 = .ok (.aload_n 0, 1) := by decide +kernel
theorem dMo_soonest_6 : decode cMo_soonest 6 = .ok (.iload_n 1, 1) := by decide +kernel
theorem dMo_soonest_7 : decode cMo_soonest 7 = .ok (.invokevirtual 275, 3) := by decide +kernel
theorem dMo_soonest_10 : decode cMo_soonest 10 = .ok (.ifCond .eq 12, 3) := by decide +kernel
theorem dMo_soonest_13 : decode cMo_soonest 13 = .ok (.aload_n 0, 1) := by decide +kernel
theorem dMo_soonest_14 : decode cMo_soonest 14 = .ok (.getfield 82, 3) := by decide +kernel
theorem dMo_soonest_17 : decode cMo_soonest 17 = .ok (.iload_n 1, 1) := by decide +kernel
theorem dMo_soonest_18 : decode cMo_soonest 18 = .ok (.iaload, 1) := by decide +kernel
theorem dMo_soonest_19 : decode cMo_soonest 19 = .ok (.goto 4, 3) := by decide +kernel
theorem dMo_soonest_22 : decode cMo_soonest 22 = .ok (.iconst (-1), 1) := by decide +kernel
theorem dMo_soonest_23 : decode cMo_soonest 23 = .ok (.ireturn, 1) := by decide +kernel
theorem dMo_stuck_0 : decode cMo_stuck 0 = .ok (.aload_n 0, 1) := by decide +kernel
theorem dMo_stuck_1 : decode cMo_stuck 1 = .ok (.iconst 0, 1) := by decide +kernel
theorem dMo_stuck_2 : decode cMo_stuck 2 = .ok (.putfield 124, 3) := by decide +kernel
theorem dMo_stuck_5 : decode cMo_stuck 5 = .ok (.aload_n 0, 1) := by decide +kernel
theorem dMo_stuck_6 : decode cMo_stuck 6 = .ok (.iload_n 1, 1) := by decide +kernel
theorem dMo_stuck_7 : decode cMo_stuck 7 = .ok (.invokevirtual 275, 3) := by decide +kernel
theorem dMo_stuck_10 : decode cMo_stuck 10 = .ok (.ifCond .eq 12, 3) := by decide +kernel
theorem dMo_stuck_13 : decode cMo_stuck 13 = .ok (.aload_n 0, 1) := by decide +kernel
theorem dMo_stuck_14 : decode cMo_stuck 14 = .ok (.getfield 73, 3) := by decide +kernel
theorem dMo_stuck_17 : decode cMo_stuck 17 = .ok (.iload_n 1, 1) := by decide +kernel
theorem dMo_stuck_18 : decode cMo_stuck 18 = .ok (.iaload, 1) := by decide +kernel
theorem dMo_stuck_19 : decode cMo_stuck 19 = .ok (.ifCond .ge 5, 3) := by decide +kernel
theorem dMo_stuck_22 : decode cMo_stuck 22 = .ok (.iconst (-1), 1) := by decide +kernel
theorem dMo_stuck_23 : decode cMo_stuck 23 = .ok (.ireturn, 1) := by decide +kernel
theorem dMo_stuck_24 : decode cMo_stuck 24 = .ok (.aload_n 0, 1) := by decide +kernel
theorem dMo_stuck_25 : decode cMo_stuck 25 = .ok (.getfield 73, 3) := by decide +kernel
theorem dMo_stuck_28 : decode cMo_stuck 28 = .ok (.iload_n 1, 1) := by decide +kernel
theorem dMo_stuck_29 : decode cMo_stuck 29 = .ok (.iaload, 1) := by decide +kernel
theorem dMo_stuck_30 : decode cMo_stuck 30 = .ok (.ifCond .le 7, 3) := by decide +kernel
theorem dMo_stuck_33 : decode cMo_stuck 33 = .ok (.iconst 0, 1) := by decide +kernel
theorem dMo_stuck_34 : decode cMo_stuck 34 = .ok (.goto 17, 3) := by decide +kernel
theorem dMo_stuck_37 : decode cMo_stuck 37 = .ok (.aload_n 0, 1) := by decide +kernel
theorem dMo_stuck_38 : decode cMo_stuck 38 = .ok (.getfield 85, 3) := by decide +kernel
theorem dMo_stuck_41 : decode cMo_stuck 41 = .ok (.iload_n 1, 1) := by decide +kernel
theorem dMo_stuck_42 : decode cMo_stuck 42 = .ok (.baload, 1) := by decide +kernel
theorem dMo_stuck_43 : decode cMo_stuck 43 = .ok (.ifCond .eq 7, 3) := by decide +kernel
theorem dMo_stuck_46 : decode cMo_stuck 46 = .ok (.iconst 1, 1) := by decide +kernel
theorem dMo_stuck_47 : decode cMo_stuck 47 = .ok (.goto 4, 3) := by decide +kernel
theorem dMo_stuck_50 : decode cMo_stuck 50 = .ok (.iconst 2, 1) := by decide +kernel
theorem dMo_stuck_51 : decode cMo_stuck 51 = .ok (.ireturn, 1) := by decide +kernel
theorem dMo_take_0 : decode cMo_take 0 = .ok (.aload_n 0, 1) := by decide +kernel
theorem dMo_take_1 : decode cMo_take 1 = .ok (.iconst 4, 1) := by decide +kernel
theorem dMo_take_2 : decode cMo_take 2 = .ok (.putfield 164, 3) := by decide +kernel
theorem dMo_take_5 : decode cMo_take 5 = .ok (.aload_n 0, 1) := by decide +kernel
theorem dMo_take_6 : decode cMo_take 6 = .ok (.aload_n 0, 1) := by decide +kernel
theorem dMo_take_7 : decode cMo_take 7 = .ok (.getfield 284, 3) := by decide +kernel
theorem dMo_take_10 : decode cMo_take 10 = .ok (.putfield 167, 3) := by decide +kernel
theorem dMo_take_13 : decode cMo_take 13 = .ok (.iconst 0, 1) := by decide +kernel
theorem dMo_take_14 : decode cMo_take 14 = .ok (.istore_n 1, 1) := by decide +kernel
theorem dMo_take_15 : decode cMo_take 15 = .ok (.iload_n 1, 1) := by decide +kernel
theorem dMo_take_16 : decode cMo_take 16 = .ok (.bipush 25, 2) := by decide +kernel
theorem dMo_take_18 : decode cMo_take 18 = .ok (.if_icmp .ge 21, 3) := by decide +kernel
theorem dMo_take_21 : decode cMo_take 21 = .ok (.aload_n 0, 1) := by decide +kernel
theorem dMo_take_22 : decode cMo_take 22 = .ok (.getfield 49, 3) := by decide +kernel
theorem dMo_take_25 : decode cMo_take 25 = .ok (.iload_n 1, 1) := by decide +kernel
theorem dMo_take_26 : decode cMo_take 26 = .ok (.aload_n 0, 1) := by decide +kernel
theorem dMo_take_27 : decode cMo_take 27 = .ok (.getfield 95, 3) := by decide +kernel
theorem dMo_take_30 : decode cMo_take 30 = .ok (.iload_n 1, 1) := by decide +kernel
theorem dMo_take_31 : decode cMo_take 31 = .ok (.iaload, 1) := by decide +kernel
theorem dMo_take_32 : decode cMo_take 32 = .ok (.iastore, 1) := by decide +kernel
theorem dMo_take_33 : decode cMo_take 33 = .ok (.iinc 1 1, 3) := by decide +kernel
theorem dMo_take_36 : decode cMo_take 36 = .ok (.goto (-21), 3) := by decide +kernel
theorem dMo_take_39 : decode cMo_take 39 = .ok (.return_, 1) := by decide +kernel
