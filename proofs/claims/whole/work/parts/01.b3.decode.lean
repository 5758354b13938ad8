theorem dX10_makeFixed_58 : decode cX10_makeFixed 58 = .ok (.iconst 1, 1) := by decide +kernel
theorem dX10_makeFixed_59 : decode cX10_makeFixed 59 = .ok (.if_icmp .ne 17, 3) := by decide +kernel
theorem dX10_makeFixed_62 : decode cX10_makeFixed 62 = .ok (.aload_n 0, 1) := by decide +kernel
theorem dX10_makeFixed_63 : decode cX10_makeFixed 63 = .ok (.iload_n 3, 1) := by decide +kernel
theorem dX10_makeFixed_64 : decode cX10_makeFixed 64 = .ok (.bipush 6, 2) := by decide +kernel
theorem dX10_makeFixed_66 : decode cX10_makeFixed 66 = .ok (.invokevirtual 129, 3) := by decide +kernel
theorem dX10_makeFixed_69 : decode cX10_makeFixed 69 = .ok (.ifCond .ne 7, 3) := by decide +kernel
theorem dX10_makeFixed_72 : decode cX10_makeFixed 72 = .ok (.iconst 1, 1) := by decide +kernel
theorem dX10_makeFixed_73 : decode cX10_makeFixed 73 = .ok (.goto 4, 3) := by decide +kernel
theorem dX10_makeFixed_76 : decode cX10_makeFixed 76 = .ok (.iconst 0, 1) := by decide +kernel
theorem dX10_makeFixed_77 : decode cX10_makeFixed 77 = .ok (.iastore, 1) := by decide +kernel
theorem dX10_makeFixed_78 : decode cX10_makeFixed 78 = .ok (.iinc 3 1, 3) := by decide +kernel
theorem dX10_makeFixed_81 : decode cX10_makeFixed 81 = .ok (.goto (-52), 3) := by decide +kernel
theorem dX10_makeFixed_84 : decode cX10_makeFixed 84 = .ok (.aload_n 0, 1) := by decide +kernel
theorem dX10_makeFixed_85 : decode cX10_makeFixed 85 = .ok (.getfield 219, 3) := by decide +kernel
theorem dX10_makeFixed_88 : decode cX10_makeFixed 88 = .ok (.ifCond .le 22, 3) := by decide +kernel
theorem dX10_makeFixed_91 : decode cX10_makeFixed 91 = .ok (.aload_n 0, 1) := by decide +kernel
theorem dX10_makeFixed_92 : decode cX10_makeFixed 92 = .ok (.dup, 1) := by decide +kernel
theorem dX10_makeFixed_93 : decode cX10_makeFixed 93 = .ok (.getfield 219, 3) := by decide +kernel
theorem dX10_makeFixed_96 : decode cX10_makeFixed 96 = .ok (.iconst 1, 1) := by decide +kernel
theorem dX10_makeFixed_97 : decode cX10_makeFixed 97 = .ok (.isub, 1) := by decide +kernel
theorem dX10_makeFixed_98 : decode cX10_makeFixed 98 = .ok (.putfield 219, 3) := by decide +kernel
theorem dX10_makeFixed_101 : decode cX10_makeFixed 101 = .ok (.aload_n 0, 1) := by decide +kernel
theorem dX10_makeFixed_102 : decode cX10_makeFixed 102 = .ok (.iload_n 1, 1) := by decide +kernel
theorem dX10_makeFixed_103 : decode cX10_makeFixed 103 = .ok (.iload_n 2, 1) := by decide +kernel
theorem dX10_makeFixed_104 : decode cX10_makeFixed 104 = .ok (.invokevirtual 226, 3) := by decide +kernel
theorem dX10_makeFixed_107 : decode cX10_makeFixed 107 = .ok (.goto (-23), 3) := by decide +kernel
theorem dX10_makeFixed_110 : decode cX10_makeFixed 110 = .ok (.return_, 1) := by decide +kernel
theorem dX10_makeNode_0 : decode cX10_makeNode 0 = .ok (.iconst (-1), 1) := by decide +kernel
theorem dX10_makeNode_1 : decode cX10_makeNode 1 = .ok (.istore_n 3, 1) := by decide +kernel
theorem dX10_makeNode_2 : decode cX10_makeNode 2 = .ok (.iconst 0, 1) := by decide +kernel
theorem dX10_makeNode_3 : decode cX10_makeNode 3 = .ok (.istore 4, 2) := by decide +kernel
theorem dX10_makeNode_5 : decode cX10_makeNode 5 = .ok (.iconst 0, 1) := by decide +kernel
theorem dX10_makeNode_6 : decode cX10_makeNode 6 = .ok (.istore 5, 2) := by decide +kernel
theorem dX10_makeNode_8 : decode cX10_makeNode 8 = .ok (.iload 5, 2) := by decide +kernel
theorem dX10_makeNode_10 : decode cX10_makeNode 10 = .ok (.bipush 12, 2) := by decide +kernel
theorem dX10_makeNode_12 : decode cX10_makeNode 12 = .ok (.if_icmp .ge 62, 3) := by decide +kernel
theorem dX10_makeNode_15 : decode cX10_makeNode 15 = .ok (.aload_n 0, 1) := by decide +kernel
theorem dX10_makeNode_16 : decode cX10_makeNode 16 = .ok (.getfield 74, 3) := by decide +kernel
theorem dX10_makeNode_19 : decode cX10_makeNode 19 = .ok (.bipush 60, 2) := by decide +kernel
theorem dX10_makeNode_21 : decode cX10_makeNode 21 = .ok (.aload_n 0, 1) := by decide +kernel
theorem dX10_makeNode_22 : decode cX10_makeNode 22 = .ok (.getfield 219, 3) := by decide +kernel
theorem dX10_makeNode_25 : decode cX10_makeNode 25 = .ok (.imul, 1) := by decide +kernel
theorem dX10_makeNode_26 : decode cX10_makeNode 26 = .ok (.iconst 5, 1) := by decide +kernel
theorem dX10_makeNode_27 : decode cX10_makeNode 27 = .ok (.iload 5, 2) := by decide +kernel
theorem dX10_makeNode_29 : decode cX10_makeNode 29 = .ok (.imul, 1) := by decide +kernel
theorem dX10_makeNode_30 : decode cX10_makeNode 30 = .ok (.iadd, 1) := by decide +kernel
theorem dX10_makeNode_31 : decode cX10_makeNode 31 = .ok (.iaload, 1) := by decide +kernel
theorem dX10_makeNode_32 : decode cX10_makeNode 32 = .ok (.iconst 1, 1) := by decide +kernel
theorem dX10_makeNode_33 : decode cX10_makeNode 33 = .ok (.if_icmp .ne 35, 3) := by decide +kernel
theorem dX10_makeNode_36 : decode cX10_makeNode 36 = .ok (.aload_n 0, 1) := by decide +kernel
theorem dX10_makeNode_37 : decode cX10_makeNode 37 = .ok (.aload_n 0, 1) := by decide +kernel
theorem dX10_makeNode_38 : decode cX10_makeNode 38 = .ok (.getfield 219, 3) := by decide +kernel
theorem dX10_makeNode_41 : decode cX10_makeNode 41 = .ok (.iload 5, 2) := by decide +kernel
theorem dX10_makeNode_43 : decode cX10_makeNode 43 = .ok (.iload_n 1, 1) := by decide +kernel
theorem dX10_makeNode_44 : decode cX10_makeNode 44 = .ok (.iload_n 2, 1) := by decide +kernel
theorem dX10_makeNode_45 : decode cX10_makeNode 45 = .ok (.invokevirtual 229, 3) := by decide +kernel
theorem dX10_makeNode_48 : decode cX10_makeNode 48 = .ok (.istore 6, 2) := by decide +kernel
theorem dX10_makeNode_50 : decode cX10_makeNode 50 = .ok (.iload_n 3, 1) := by decide +kernel
theorem dX10_makeNode_51 : decode cX10_makeNode 51 = .ok (.ifCond .lt 10, 3) := by decide +kernel
theorem dX10_makeNode_54 : decode cX10_makeNode 54 = .ok (.iload 6, 2) := by decide +kernel
theorem dX10_makeNode_56 : decode cX10_makeNode 56 = .ok (.iload 4, 2) := by decide +kernel
theorem dX10_makeNode_58 : decode cX10_makeNode 58 = .ok (.if_icmp .ge 10, 3) := by decide +kernel
theorem dX10_makeNode_61 : decode cX10_makeNode 61 = .ok (.iload 5, 2) := by decide +kernel
theorem dX10_makeNode_63 : decode cX10_makeNode 63 = .ok (.istore_n 3, 1) := by decide +kernel
theorem dX10_makeNode_64 : decode cX10_makeNode 64 = .ok (.iload 6, 2) := by decide +kernel
theorem dX10_makeNode_66 : decode cX10_makeNode 66 = .ok (.istore 4, 2) := by decide +kernel
theorem dX10_makeNode_68 : decode cX10_makeNode 68 = .ok (.iinc 5 1, 3) := by decide +kernel
theorem dX10_makeNode_71 : decode cX10_makeNode 71 = .ok (.goto (-63), 3) := by decide +kernel
theorem dX10_makeNode_74 : decode cX10_makeNode 74 = .ok (.iload_n 3, 1) := by decide +kernel
theorem dX10_makeNode_75 : decode cX10_makeNode 75 = .ok (.ifCond .ge 4, 3) := by decide +kernel
theorem dX10_makeNode_78 : decode cX10_makeNode 78 = .ok (.return_, 1) := by decide +kernel
theorem dX10_makeNode_79 : decode cX10_makeNode 79 = .ok (.aload_n 0, 1) := by decide +kernel
theorem dX10_makeNode_80 : decode cX10_makeNode 80 = .ok (.iload_n 3, 1) := by decide +kernel
theorem dX10_makeNode_81 : decode cX10_makeNode 81 = .ok (.aload_n 0, 1) := by decide +kernel
theorem dX10_makeNode_82 : decode cX10_makeNode 82 = .ok (.getfield 77, 3) := by decide +kernel
theorem dX10_makeNode_85 : decode cX10_makeNode 85 = .ok (.aload_n 0, 1) := by decide +kernel
theorem dX10_makeNode_86 : decode cX10_makeNode 86 = .ok (.getfield 219, 3) := by decide +kernel
theorem dX10_makeNode_89 : decode cX10_makeNode 89 = .ok (.iaload, 1) := by decide +kernel
theorem dX10_makeNode_90 : decode cX10_makeNode 90 = .ok (.aload_n 0, 1) := by decide +kernel
theorem dX10_makeNode_91 : decode cX10_makeNode 91 = .ok (.getfield 80, 3) := by decide +kernel
theorem dX10_makeNode_94 : decode cX10_makeNode 94 = .ok (.aload_n 0, 1) := by decide +kernel
theorem dX10_makeNode_95 : decode cX10_makeNode 95 = .ok (.getfield 219, 3) := by decide +kernel
theorem dX10_makeNode_98 : decode cX10_makeNode 98 = .ok (.iaload, 1) := by decide +kernel
theorem dX10_makeNode_99 : decode cX10_makeNode 99 = .ok (.invokevirtual 232, 3) := by decide +kernel
theorem dX10_makeNode_102 : decode cX10_makeNode 102 = .ok (.istore 5, 2) := by decide +kernel
theorem dX10_makeNode_104 : decode cX10_makeNode 104 = .ok (.iconst 0, 1) := by decide +kernel
theorem dX10_makeNode_105 : decode cX10_makeNode 105 = .ok (.istore 6, 2) := by decide +kernel
theorem dX10_makeNode_107 : decode cX10_makeNode 107 = .ok (.iload 6, 2) := by decide +kernel
theorem dX10_makeNode_109 : decode cX10_makeNode 109 = .ok (.bipush 60, 2) := by decide +kernel
theorem dX10_makeNode_111 : decode cX10_makeNode 111 = .ok (.if_icmp .ge 31, 3) := by decide +kernel
theorem dX10_makeNode_114 : decode cX10_makeNode 114 = .ok (.aload_n 0, 1) := by decide +kernel
theorem dX10_makeNode_115 : decode cX10_makeNode 115 = .ok (.getfield 83, 3) := by decide +kernel
theorem dX10_makeNode_118 : decode cX10_makeNode 118 = .ok (.iload 6, 2) := by decide +kernel
theorem dX10_makeNode_120 : decode cX10_makeNode 120 = .ok (.aload_n 0, 1) := by decide +kernel
theorem dX10_makeNode_121 : decode cX10_makeNode 121 = .ok (.getfield 74, 3) := by decide +kernel
theorem dX10_makeNode_124 : decode cX10_makeNode 124 = .ok (.bipush 60, 2) := by decide +kernel
theorem dX10_makeNode_126 : decode cX10_makeNode 126 = .ok (.aload_n 0, 1) := by decide +kernel
theorem dX10_makeNode_127 : decode cX10_makeNode 127 = .ok (.getfield 219, 3) := by decide +kernel
theorem dX10_makeNode_130 : decode cX10_makeNode 130 = .ok (.imul, 1) := by decide +kernel
theorem dX10_makeNode_131 : decode cX10_makeNode 131 = .ok (.iload 6, 2) := by decide +kernel
theorem dX10_makeNode_133 : decode cX10_makeNode 133 = .ok (.iadd, 1) := by decide +kernel
theorem dX10_makeNode_134 : decode cX10_makeNode 134 = .ok (.iaload, 1) := by decide +kernel
theorem dX10_makeNode_135 : decode cX10_makeNode 135 = .ok (.iastore, 1) := by decide +kernel
theorem dX10_makeNode_136 : decode cX10_makeNode 136 = .ok (.iinc 6 1, 3) := by decide +kernel
theorem dX10_makeNode_139 : decode cX10_makeNode 139 = .ok (.goto (-32), 3) := by decide +kernel
theorem dX10_makeNode_142 : decode cX10_makeNode 142 = .ok (.iconst 0, 1) := by decide +kernel
theorem dX10_makeNode_143 : decode cX10_makeNode 143 = .ok (.istore 6, 2) := by decide +kernel
theorem dX10_makeNode_145 : decode cX10_makeNode 145 = .ok (.iload 6, 2) := by decide +kernel
theorem dX10_makeNode_147 : decode cX10_makeNode 147 = .ok (.iconst 2, 1) := by decide +kernel
theorem dX10_makeNode_148 : decode cX10_makeNode 148 = .ok (.if_icmp .ge 76, 3) := by decide +kernel
theorem dX10_makeNode_151 : decode cX10_makeNode 151 = .ok (.aload_n 0, 1) := by decide +kernel
theorem dX10_makeNode_152 : decode cX10_makeNode 152 = .ok (.getfield 77, 3) := by decide +kernel
theorem dX10_makeNode_155 : decode cX10_makeNode 155 = .ok (.aload_n 0, 1) := by decide +kernel
theorem dX10_makeNode_156 : decode cX10_makeNode 156 = .ok (.getfield 219, 3) := by decide +kernel
theorem dX10_makeNode_159 : decode cX10_makeNode 159 = .ok (.iload 6, 2) := by decide +kernel
theorem dX10_makeNode_161 : decode cX10_makeNode 161 = .ok (.iadd, 1) := by decide +kernel
theorem dX10_makeNode_162 : decode cX10_makeNode 162 = .ok (.iload 5, 2) := by decide +kernel
theorem dX10_makeNode_164 : decode cX10_makeNode 164 = .ok (.iastore, 1) := by decide +kernel
theorem dX10_makeNode_165 : decode cX10_makeNode 165 = .ok (.aload_n 0, 1) := by decide +kernel
theorem dX10_makeNode_166 : decode cX10_makeNode 166 = .ok (.getfield 80, 3) := by decide +kernel
theorem dX10_makeNode_169 : decode cX10_makeNode 169 = .ok (.aload_n 0, 1) := by decide +kernel
theorem dX10_makeNode_170 : decode cX10_makeNode 170 = .ok (.getfield 219, 3) := by decide +kernel
theorem dX10_makeNode_173 : decode cX10_makeNode 173 = .ok (.iload 6, 2) := by decide +kernel
theorem dX10_makeNode_175 : decode cX10_makeNode 175 = .ok (.iadd, 1) := by decide +kernel
theorem dX10_makeNode_176 : decode cX10_makeNode 176 = .ok (.iconst 1, 1) := by decide +kernel
theorem dX10_makeNode_177 : decode cX10_makeNode 177 = .ok (.iload 6, 2) := by decide +kernel
theorem dX10_makeNode_179 : decode cX10_makeNode 179 = .ok (.isub, 1) := by decide +kernel
theorem dX10_makeNode_180 : decode cX10_makeNode 180 = .ok (.iastore, 1) := by decide +kernel
theorem dX10_makeNode_181 : decode cX10_makeNode 181 = .ok (.iconst 0, 1) := by decide +kernel
theorem dX10_makeNode_182 : decode cX10_makeNode 182 = .ok (.istore 7, 2) := by decide +kernel
theorem dX10_makeNode_184 : decode cX10_makeNode 184 = .ok (.iload 7, 2) := by decide +kernel
theorem dX10_makeNode_186 : decode cX10_makeNode 186 = .ok (.bipush 12, 2) := by decide +kernel
theorem dX10_makeNode_188 : decode cX10_makeNode 188 = .ok (.if_icmp .ge 30, 3) := by decide +kernel
theorem dX10_makeNode_191 : decode cX10_makeNode 191 = .ok (.aload_n 0, 1) := by decide +kernel
theorem dX10_makeNode_192 : decode cX10_makeNode 192 = .ok (.getfield 74, 3) := by decide +kernel
theorem dX10_makeNode_195 : decode cX10_makeNode 195 = .ok (.bipush 60, 2) := by decide +kernel
theorem dX10_makeNode_197 : decode cX10_makeNode 197 = .ok (.aload_n 0, 1) := by decide +kernel
theorem dX10_makeNode_198 : decode cX10_makeNode 198 = .ok (.getfield 219, 3) := by decide +kernel
theorem dX10_makeNode_201 : decode cX10_makeNode 201 = .ok (.iload 6, 2) := by decide +kernel
theorem dX10_makeNode_203 : decode cX10_makeNode 203 = .ok (.iadd, 1) := by decide +kernel
theorem dX10_makeNode_204 : decode cX10_makeNode 204 = .ok (.imul, 1) := by decide +kernel
theorem dX10_makeNode_205 : decode cX10_makeNode 205 = .ok (.iconst 5, 1) := by decide +kernel
theorem dX10_makeNode_206 : decode cX10_makeNode 206 = .ok (.iload 7, 2) := by decide +kernel
theorem dX10_makeNode_208 : decode cX10_makeNode 208 = .ok (.imul, 1) := by decide +kernel
theorem dX10_makeNode_209 : decode cX10_makeNode 209 = .ok (.iadd, 1) := by decide +kernel
theorem dX10_makeNode_210 : decode cX10_makeNode 210 = .ok (.iconst 0, 1) := by decide +kernel
theorem dX10_makeNode_211 : decode cX10_makeNode 211 = .ok (.iastore, 1) := by decide +kernel
theorem dX10_makeNode_212 : decode cX10_makeNode 212 = .ok (.iinc 7 1, 3) := by decide +kernel
theorem dX10_makeNode_215 : decode cX10_makeNode 215 = .ok (.goto (-31), 3) := by decide +kernel
theorem dX10_makeNode_218 : decode cX10_makeNode 218 = .ok (.iinc 6 1, 3) := by decide +kernel
theorem dX10_makeNode_221 : decode cX10_makeNode 221 = .ok (.goto (-76), 3) := by decide +kernel
theorem dX10_makeNode_224 : decode cX10_makeNode 224 = .ok (.iconst 0, 1) := by decide +kernel
theorem dX10_makeNode_225 : decode cX10_makeNode 225 = .ok (.istore 6, 2) := by decide +kernel
theorem dX10_makeNode_227 : decode cX10_makeNode 227 = .ok (.iload 6, 2) := by decide +kernel
theorem dX10_makeNode_229 : decode cX10_makeNode 229 = .ok (.bipush 12, 2) := by decide +kernel
theorem dX10_makeNode_231 : decode cX10_makeNode 231 = .ok (.if_icmp .ge 31, 3) := by decide +kernel
theorem dX10_makeNode_234 : decode cX10_makeNode 234 = .ok (.aload_n 0, 1) := by decide +kernel
theorem dX10_makeNode_235 : decode cX10_makeNode 235 = .ok (.getfield 83, 3) := by decide +kernel
theorem dX10_makeNode_238 : decode cX10_makeNode 238 = .ok (.iconst 5, 1) := by decide +kernel
theorem dX10_makeNode_239 : decode cX10_makeNode 239 = .ok (.iload 6, 2) := by decide +kernel
theorem dX10_makeNode_241 : decode cX10_makeNode 241 = .ok (.imul, 1) := by decide +kernel
theorem dX10_makeNode_242 : decode cX10_makeNode 242 = .ok (.iaload, 1) := by decide +kernel
theorem dX10_makeNode_243 : decode cX10_makeNode 243 = .ok (.iconst 1, 1) := by decide +kernel
theorem dX10_makeNode_244 : decode cX10_makeNode 244 = .ok (.if_icmp .ne 12, 3) := by decide +kernel
theorem dX10_makeNode_247 : decode cX10_makeNode 247 = .ok (.aload_n 0, 1) := by decide +kernel
theorem dX10_makeNode_248 : decode cX10_makeNode 248 = .ok (.iload_n 3, 1) := by decide +kernel
theorem dX10_makeNode_249 : decode cX10_makeNode 249 = .ok (.iload 5, 2) := by decide +kernel
theorem dX10_makeNode_251 : decode cX10_makeNode 251 = .ok (.iload 6, 2) := by decide +kernel
theorem dX10_makeNode_253 : decode cX10_makeNode 253 = .ok (.invokevirtual 235, 3) := by decide +kernel
theorem dX10_makeNode_256 : decode cX10_makeNode 256 = .ok (.iinc 6 1, 3) := by decide +kernel
theorem dX10_makeNode_259 : decode cX10_makeNode 259 = .ok (.goto (-32), 3) := by decide +kernel
theorem dX10_makeNode_262 : decode cX10_makeNode 262 = .ok (.aload_n 0, 1) := by decide +kernel
theorem dX10_makeNode_263 : decode cX10_makeNode 263 = .ok (.dup, 1) := by decide +kernel
theorem dX10_makeNode_264 : decode cX10_makeNode 264 = .ok (.getfield 219, 3) := by decide +kernel
theorem dX10_makeNode_267 : decode cX10_makeNode 267 = .ok (.iconst 2, 1) := by decide +kernel
theorem dX10_makeNode_268 : decode cX10_makeNode 268 = .ok (.iadd, 1) := by decide +kernel
theorem dX10_makeNode_269 : decode cX10_makeNode 269 = .ok (.putfield 219, 3) := by decide +kernel
theorem dX10_makeNode_272 : decode cX10_makeNode 272 = .ok (.return_, 1) := by decide +kernel
theorem dX10_partition_0 : decode cX10_partition 0 = .ok (.aload_n 0, 1) := by decide +kernel
theorem dX10_partition_1 : decode cX10_partition 1 = .ok (.getfield 83, 3) := by decide +kernel
theorem dX10_partition_4 : decode cX10_partition 4 = .ok (.iconst 5, 1) := by decide +kernel
theorem dX10_partition_5 : decode cX10_partition 5 = .ok (.iload_n 3, 1) := by decide +kernel
theorem dX10_partition_6 : decode cX10_partition 6 = .ok (.imul, 1) := by decide +kernel
theorem dX10_partition_7 : decode cX10_partition 7 = .ok (.iconst 1, 1) := by decide +kernel
theorem dX10_partition_8 : decode cX10_partition 8 = .ok (.iadd, 1) := by decide +kernel
theorem dX10_partition_9 : decode cX10_partition 9 = .ok (.iaload, 1) := by decide +kernel
theorem dX10_partition_10 : decode cX10_partition 10 = .ok (.istore 4, 2) := by decide +kernel
theorem dX10_partition_12 : decode cX10_partition 12 = .ok (.aload_n 0, 1) := by decide +kernel
theorem dX10_partition_13 : decode cX10_partition 13 = .ok (.getfield 83, 3) := by decide +kernel
theorem dX10_partition_16 : decode cX10_partition 16 = .ok (.iconst 5, 1) := by decide +kernel
theorem dX10_partition_17 : decode cX10_partition 17 = .ok (.iload_n 3, 1) := by decide +kernel
theorem dX10_partition_18 : decode cX10_partition 18 = .ok (.imul, 1) := by decide +kernel
theorem dX10_partition_19 : decode cX10_partition 19 = .ok (.iconst 2, 1) := by decide +kernel
theorem dX10_partition_20 : decode cX10_partition 20 = .ok (.iadd, 1) := by decide +kernel
theorem dX10_partition_21 : decode cX10_partition 21 = .ok (.iaload, 1) := by decide +kernel
theorem dX10_partition_22 : decode cX10_partition 22 = .ok (.istore 5, 2) := by decide +kernel
theorem dX10_partition_24 : decode cX10_partition 24 = .ok (.aload_n 0, 1) := by decide +kernel
theorem dX10_partition_25 : decode cX10_partition 25 = .ok (.getfield 83, 3) := by decide +kernel
theorem dX10_partition_28 : decode cX10_partition 28 = .ok (.iconst 5, 1) := by decide +kernel
theorem dX10_partition_29 : decode cX10_partition 29 = .ok (.iload_n 3, 1) := by decide +kernel
theorem dX10_partition_30 : decode cX10_partition 30 = .ok (.imul, 1) := by decide +kernel
theorem dX10_partition_31 : decode cX10_partition 31 = .ok (.iconst 3, 1) := by decide +kernel
theorem dX10_partition_32 : decode cX10_partition 32 = .ok (.iadd, 1) := by decide +kernel
theorem dX10_partition_33 : decode cX10_partition 33 = .ok (.iaload, 1) := by decide +kernel
theorem dX10_partition_34 : decode cX10_partition 34 = .ok (.istore 6, 2) := by decide +kernel
theorem dX10_partition_36 : decode cX10_partition 36 = .ok (.aload_n 0, 1) := by decide +kernel
theorem dX10_partition_37 : decode cX10_partition 37 = .ok (.getfield 83, 3) := by decide +kernel
theorem dX10_partition_40 : decode cX10_partition 40 = .ok (.iconst 5, 1) := by decide +kernel
theorem dX10_partition_41 : decode cX10_partition 41 = .ok (.iload_n 3, 1) := by decide +kernel
theorem dX10_partition_42 : decode cX10_partition 42 = .ok (.imul, 1) := by decide +kernel
theorem dX10_partition_43 : decode cX10_partition 43 = .ok (.iconst 4, 1) := by decide +kernel
theorem dX10_partition_44 : decode cX10_partition 44 = .ok (.iadd, 1) := by decide +kernel
theorem dX10_partition_45 : decode cX10_partition 45 = .ok (.iaload, 1) := by decide +kernel
theorem dX10_partition_46 : decode cX10_partition 46 = .ok (.istore 7, 2) := by decide +kernel
theorem dX10_partition_48 : decode cX10_partition 48 = .ok (.aload_n 0, 1) := by decide +kernel
theorem dX10_partition_49 : decode cX10_partition 49 = .ok (.iload_n 1, 1) := by decide +kernel
theorem dX10_partition_50 : decode cX10_partition 50 = .ok (.iload_n 3, 1) := by decide +kernel
theorem dX10_partition_51 : decode cX10_partition 51 = .ok (.iload 4, 2) := by decide +kernel
theorem dX10_partition_53 : decode cX10_partition 53 = .ok (.iload 5, 2) := by decide +kernel
theorem dX10_partition_55 : decode cX10_partition 55 = .ok (.iload 6, 2) := by decide +kernel
theorem dX10_partition_57 : decode cX10_partition 57 = .ok (.iload 7, 2) := by decide +kernel
theorem dX10_partition_59 : decode cX10_partition 59 = .ok (.invokevirtual 215, 3) := by decide +kernel
theorem dX10_partition_62 : decode cX10_partition 62 = .ok (.istore 8, 2) := by decide +kernel
theorem dX10_partition_64 : decode cX10_partition 64 = .ok (.iload 8, 2) := by decide +kernel
theorem dX10_partition_66 : decode cX10_partition 66 = .ok (.ifCond .ne 20, 3) := by decide +kernel
theorem dX10_partition_69 : decode cX10_partition 69 = .ok (.aload_n 0, 1) := by decide +kernel
theorem dX10_partition_70 : decode cX10_partition 70 = .ok (.iload_n 2, 1) := by decide +kernel
theorem dX10_partition_71 : decode cX10_partition 71 = .ok (.iload_n 3, 1) := by decide +kernel
theorem dX10_partition_72 : decode cX10_partition 72 = .ok (.iload 4, 2) := by decide +kernel
theorem dX10_partition_74 : decode cX10_partition 74 = .ok (.iload 5, 2) := by decide +kernel
theorem dX10_partition_76 : decode cX10_partition 76 = .ok (.iload 6, 2) := by decide +kernel
theorem dX10_partition_78 : decode cX10_partition 78 = .ok (.iload 7, 2) := by decide +kernel
theorem dX10_partition_80 : decode cX10_partition 80 = .ok (.invokevirtual 239, 3) := by decide +kernel
theorem dX10_partition_83 : decode cX10_partition 83 = .ok (.goto 140, 3) := by decide +kernel
theorem dX10_partition_86 : decode cX10_partition 86 = .ok (.iload 8, 2) := by decide +kernel
theorem dX10_partition_88 : decode cX10_partition 88 = .ok (.iconst 2, 1) := by decide +kernel
theorem dX10_partition_89 : decode cX10_partition 89 = .ok (.if_icmp .ne 102, 3) := by decide +kernel
theorem dX10_partition_92 : decode cX10_partition 92 = .ok (.aload_n 0, 1) := by decide +kernel
theorem dX10_partition_93 : decode cX10_partition 93 = .ok (.iload_n 1, 1) := by decide +kernel
theorem dX10_partition_94 : decode cX10_partition 94 = .ok (.iload_n 3, 1) := by decide +kernel
theorem dX10_partition_95 : decode cX10_partition 95 = .ok (.invokevirtual 242, 3) := by decide +kernel
theorem dX10_partition_98 : decode cX10_partition 98 = .ok (.aload_n 0, 1) := by decide +kernel
theorem dX10_partition_99 : decode cX10_partition 99 = .ok (.iload_n 1, 1) := by decide +kernel
theorem dX10_partition_100 : decode cX10_partition 100 = .ok (.iload_n 3, 1) := by decide +kernel
theorem dX10_partition_101 : decode cX10_partition 101 = .ok (.iload 4, 2) := by decide +kernel
theorem dX10_partition_103 : decode cX10_partition 103 = .ok (.iload 5, 2) := by decide +kernel
theorem dX10_partition_105 : decode cX10_partition 105 = .ok (.invokevirtual 193, 3) := by decide +kernel
theorem dX10_partition_108 : decode cX10_partition 108 = .ok (.ifCond .le 7, 3) := by decide +kernel
theorem dX10_partition_111 : decode cX10_partition 111 = .ok (.iconst 1, 1) := by decide +kernel
theorem dX10_partition_112 : decode cX10_partition 112 = .ok (.goto 4, 3) := by decide +kernel
theorem dX10_partition_115 : decode cX10_partition 115 = .ok (.iconst 0, 1) := by decide +kernel
theorem dX10_partition_116 : decode cX10_partition 116 = .ok (.istore 9, 2) := by decide +kernel
theorem dX10_partition_118 : decode cX10_partition 118 = .ok (.aload_n 0, 1) := by decide +kernel
theorem dX10_partition_119 : decode cX10_partition 119 = .ok (.iload 9, 2) := by decide +kernel
theorem dX10_partition_121 : decode cX10_partition 121 = .ok (.ifCond .eq 12, 3) := by decide +kernel
theorem dX10_partition_124 : decode cX10_partition 124 = .ok (.aload_n 0, 1) := by decide +kernel
theorem dX10_partition_125 : decode cX10_partition 125 = .ok (.getfield 219, 3) := by decide +kernel
theorem dX10_partition_128 : decode cX10_partition 128 = .ok (.iconst 1, 1) := by decide +kernel
theorem dX10_partition_129 : decode cX10_partition 129 = .ok (.iadd, 1) := by decide +kernel
theorem dX10_partition_130 : decode cX10_partition 130 = .ok (.goto 7, 3) := by decide +kernel
theorem dX10_partition_133 : decode cX10_partition 133 = .ok (.aload_n 0, 1) := by decide +kernel
theorem dX10_partition_134 : decode cX10_partition 134 = .ok (.getfield 219, 3) := by decide +kernel
theorem dX10_partition_137 : decode cX10_partition 137 = .ok (.iload_n 3, 1) := by decide +kernel
theorem dX10_partition_138 : decode cX10_partition 138 = .ok (.iload 4, 2) := by decide +kernel
theorem dX10_partition_140 : decode cX10_partition 140 = .ok (.iload 5, 2) := by decide +kernel
theorem dX10_partition_142 : decode cX10_partition 142 = .ok (.aload_n 0, 1) := by decide +kernel
theorem dX10_partition_143 : decode cX10_partition 143 = .ok (.getfield 200, 3) := by decide +kernel
theorem dX10_partition_146 : decode cX10_partition 146 = .ok (.aload_n 0, 1) := by decide +kernel
theorem dX10_partition_147 : decode cX10_partition 147 = .ok (.getfield 203, 3) := by decide +kernel
theorem dX10_partition_150 : decode cX10_partition 150 = .ok (.invokevirtual 222, 3) := by decide +kernel
theorem dX10_partition_153 : decode cX10_partition 153 = .ok (.aload_n 0, 1) := by decide +kernel
theorem dX10_partition_154 : decode cX10_partition 154 = .ok (.iload 9, 2) := by decide +kernel
theorem dX10_partition_156 : decode cX10_partition 156 = .ok (.ifCond .eq 10, 3) := by decide +kernel
theorem dX10_partition_159 : decode cX10_partition 159 = .ok (.aload_n 0, 1) := by decide +kernel
theorem dX10_partition_160 : decode cX10_partition 160 = .ok (.getfield 219, 3) := by decide +kernel
theorem dX10_partition_163 : decode cX10_partition 163 = .ok (.goto 9, 3) := by decide +kernel
theorem dX10_partition_166 : decode cX10_partition 166 = .ok (.aload_n 0, 1) := by decide +kernel
theorem dX10_partition_167 : decode cX10_partition 167 = .ok (.getfield 219, 3) := by decide +kernel
theorem dX10_partition_170 : decode cX10_partition 170 = .ok (.iconst 1, 1) := by decide +kernel
theorem dX10_partition_171 : decode cX10_partition 171 = .ok (.iadd, 1) := by decide +kernel
theorem dX10_partition_172 : decode cX10_partition 172 = .ok (.iload_n 3, 1) := by decide +kernel
theorem dX10_partition_173 : decode cX10_partition 173 = .ok (.aload_n 0, 1) := by decide +kernel
theorem dX10_partition_174 : decode cX10_partition 174 = .ok (.getfield 200, 3) := by decide +kernel
theorem dX10_partition_177 : decode cX10_partition 177 = .ok (.aload_n 0, 1) := by decide +kernel
theorem dX10_partition_178 : decode cX10_partition 178 = .ok (.getfield 203, 3) := by decide +kernel
theorem dX10_partition_181 : decode cX10_partition 181 = .ok (.iload 6, 2) := by decide +kernel
theorem dX10_partition_183 : decode cX10_partition 183 = .ok (.iload 7, 2) := by decide +kernel
theorem dX10_partition_185 : decode cX10_partition 185 = .ok (.invokevirtual 222, 3) := by decide +kernel
theorem dX10_partition_188 : decode cX10_partition 188 = .ok (.goto 35, 3) := by decide +kernel
theorem dX10_partition_191 : decode cX10_partition 191 = .ok (.aload_n 0, 1) := by decide +kernel
theorem dX10_partition_192 : decode cX10_partition 192 = .ok (.iload 8, 2) := by decide +kernel
theorem dX10_partition_194 : decode cX10_partition 194 = .ok (.iconst 1, 1) := by decide +kernel
theorem dX10_partition_195 : decode cX10_partition 195 = .ok (.if_icmp .ne 12, 3) := by decide +kernel
theorem dX10_partition_198 : decode cX10_partition 198 = .ok (.aload_n 0, 1) := by decide +kernel
theorem dX10_partition_199 : decode cX10_partition 199 = .ok (.getfield 219, 3) := by decide +kernel
theorem dX10_partition_202 : decode cX10_partition 202 = .ok (.iconst 1, 1) := by decide +kernel
theorem dX10_partition_203 : decode cX10_partition 203 = .ok (.iadd, 1) := by decide +kernel
theorem dX10_partition_204 : decode cX10_partition 204 = .ok (.goto 7, 3) := by decide +kernel
theorem dX10_partition_207 : decode cX10_partition 207 = .ok (.aload_n 0, 1) := by decide +kernel
theorem dX10_partition_208 : decode cX10_partition 208 = .ok (.getfield 219, 3) := by decide +kernel
theorem dX10_partition_211 : decode cX10_partition 211 = .ok (.iload_n 3, 1) := by decide +kernel
theorem dX10_partition_212 : decode cX10_partition 212 = .ok (.iload 4, 2) := by decide +kernel
theorem dX10_partition_214 : decode cX10_partition 214 = .ok (.iload 5, 2) := by decide +kernel
theorem dX10_partition_216 : decode cX10_partition 216 = .ok (.iload 6, 2) := by decide +kernel
theorem dX10_partition_218 : decode cX10_partition 218 = .ok (.iload 7, 2) := by decide +kernel
theorem dX10_partition_220 : decode cX10_partition 220 = .ok (.invokevirtual 222, 3) := by decide +kernel
theorem dX10_partition_223 : decode cX10_partition 223 = .ok (.return_, 1) := by decide +kernel
theorem dX10_insert_0 : decode cX10_insert 0 = .ok (.iconst 1, 1) := by decide +kernel
theorem dX10_insert_1 : decode cX10_insert 1 = .ok (.istore_n 2, 1) := by decide +kernel
theorem dX10_insert_2 : decode cX10_insert 2 = .ok (.aload_n 0, 1) := by decide +kernel
theorem dX10_insert_3 : decode cX10_insert 3 = .ok (.getfield 86, 3) := by decide +kernel
theorem dX10_insert_6 : decode cX10_insert 6 = .ok (.iconst 0, 1) := by decide +kernel
theorem dX10_insert_7 : decode cX10_insert 7 = .ok (.aload_n 0, 1) := by decide +kernel
theorem dX10_insert_8 : decode cX10_insert 8 = .ok (.getfield 212, 3) := by decide +kernel
theorem dX10_insert_11 : decode cX10_insert 11 = .ok (.iastore, 1) := by decide +kernel
theorem dX10_insert_12 : decode cX10_insert 12 = .ok (.aload_n 0, 1) := by decide +kernel
theorem dX10_insert_13 : decode cX10_insert 13 = .ok (.getfield 86, 3) := by decide +kernel
theorem dX10_insert_16 : decode cX10_insert 16 = .ok (.iconst 1, 1) := by decide +kernel
theorem dX10_insert_17 : decode cX10_insert 17 = .ok (.iconst (-1), 1) := by decide +kernel
theorem dX10_insert_18 : decode cX10_insert 18 = .ok (.iastore, 1) := by decide +kernel
theorem dX10_insert_19 : decode cX10_insert 19 = .ok (.aload_n 0, 1) := by decide +kernel
theorem dX10_insert_20 : decode cX10_insert 20 = .ok (.getfield 86, 3) := by decide +kernel
theorem dX10_insert_23 : decode cX10_insert 23 = .ok (.iconst 2, 1) := by decide +kernel
theorem dX10_insert_24 : decode cX10_insert 24 = .ok (.iconst 0, 1) := by decide +kernel
theorem dX10_insert_25 : decode cX10_insert 25 = .ok (.iastore, 1) := by decide +kernel
theorem dX10_insert_26 : decode cX10_insert 26 = .ok (.aload_n 0, 1) := by decide +kernel
theorem dX10_insert_27 : decode cX10_insert 27 = .ok (.getfield 86, 3) := by decide +kernel
theorem dX10_insert_30 : decode cX10_insert 30 = .ok (.iconst 3, 1) := by decide +kernel
theorem dX10_insert_31 : decode cX10_insert 31 = .ok (.iconst 0, 1) := by decide +kernel
theorem dX10_insert_32 : decode cX10_insert 32 = .ok (.iastore, 1) := by decide +kernel
theorem dX10_insert_33 : decode cX10_insert 33 = .ok (.aload_n 0, 1) := by decide +kernel
theorem dX10_insert_34 : decode cX10_insert 34 = .ok (.getfield 86, 3) := by decide +kernel
theorem dX10_insert_37 : decode cX10_insert 37 = .ok (.iconst 4, 1) := by decide +kernel
theorem dX10_insert_38 : decode cX10_insert 38 = .ok (.iconst 1, 1) := by decide +kernel
theorem dX10_insert_39 : decode cX10_insert 39 = .ok (.iastore, 1) := by decide +kernel
theorem dX10_insert_40 : decode cX10_insert 40 = .ok (.aload_n 0, 1) := by decide +kernel
theorem dX10_insert_41 : decode cX10_insert 41 = .ok (.getfield 86, 3) := by decide +kernel
theorem dX10_insert_44 : decode cX10_insert 44 = .ok (.iconst 5, 1) := by decide +kernel
theorem dX10_insert_45 : decode cX10_insert 45 = .ok (.iconst 1, 1) := by decide +kernel
theorem dX10_insert_46 : decode cX10_insert 46 = .ok (.iastore, 1) := by decide +kernel
theorem dX10_insert_47 : decode cX10_insert 47 = .ok (.aload_n 0, 1) := by decide +kernel
theorem dX10_insert_48 : decode cX10_insert 48 = .ok (.getfield 86, 3) := by decide +kernel
theorem dX10_insert_51 : decode cX10_insert 51 = .ok (.bipush 6, 2) := by decide +kernel
theorem dX10_insert_53 : decode cX10_insert 53 = .ok (.iconst 1, 1) := by decide +kernel
theorem dX10_insert_54 : decode cX10_insert 54 = .ok (.iastore, 1) := by decide +kernel
theorem dX10_insert_55 : decode cX10_insert 55 = .ok (.iload_n 2, 1) := by decide +kernel
theorem dX10_insert_56 : decode cX10_insert 56 = .ok (.ifCond .le 283, 3) := by decide +kernel
theorem dX10_insert_59 : decode cX10_insert 59 = .ok (.iinc 2 (-1), 3) := by decide +kernel
theorem dX10_insert_62 : decode cX10_insert 62 = .ok (.bipush 7, 2) := by decide +kernel
theorem dX10_insert_64 : decode cX10_insert 64 = .ok (.iload_n 2, 1) := by decide +kernel
theorem dX10_insert_65 : decode cX10_insert 65 = .ok (.imul, 1) := by decide +kernel
theorem dX10_insert_66 : decode cX10_insert 66 = .ok (.istore_n 3, 1) := by decide +kernel
theorem dX10_insert_67 : decode cX10_insert 67 = .ok (.aload_n 0, 1) := by decide +kernel
theorem dX10_insert_68 : decode cX10_insert 68 = .ok (.getfield 86, 3) := by decide +kernel
theorem dX10_insert_71 : decode cX10_insert 71 = .ok (.iload_n 3, 1) := by decide +kernel
theorem dX10_insert_72 : decode cX10_insert 72 = .ok (.iaload, 1) := by decide +kernel
theorem dX10_insert_73 : decode cX10_insert 73 = .ok (.istore 4, 2) := by decide +kernel
theorem dX10_insert_75 : decode cX10_insert 75 = .ok (.aload_n 0, 1) := by decide +kernel
theorem dX10_insert_76 : decode cX10_insert 76 = .ok (.getfield 86, 3) := by decide +kernel
theorem dX10_insert_79 : decode cX10_insert 79 = .ok (.iload_n 3, 1) := by decide +kernel
theorem dX10_insert_80 : decode cX10_insert 80 = .ok (.iconst 3, 1) := by decide +kernel
theorem dX10_insert_81 : decode cX10_insert 81 = .ok (.iadd, 1) := by decide +kernel
theorem dX10_insert_82 : decode cX10_insert 82 = .ok (.iaload, 1) := by decide +kernel
theorem dX10_insert_83 : decode cX10_insert 83 = .ok (.istore 5, 2) := by decide +kernel
theorem dX10_insert_85 : decode cX10_insert 85 = .ok (.aload_n 0, 1) := by decide +kernel
theorem dX10_insert_86 : decode cX10_insert 86 = .ok (.getfield 86, 3) := by decide +kernel
theorem dX10_insert_89 : decode cX10_insert 89 = .ok (.iload_n 3, 1) := by decide +kernel
theorem dX10_insert_90 : decode cX10_insert 90 = .ok (.iconst 4, 1) := by decide +kernel
theorem dX10_insert_91 : decode cX10_insert 91 = .ok (.iadd, 1) := by decide +kernel
theorem dX10_insert_92 : decode cX10_insert 92 = .ok (.iaload, 1) := by decide +kernel
theorem dX10_insert_93 : decode cX10_insert 93 = .ok (.istore 6, 2) := by decide +kernel
theorem dX10_insert_95 : decode cX10_insert 95 = .ok (.aload_n 0, 1) := by decide +kernel
theorem dX10_insert_96 : decode cX10_insert 96 = .ok (.getfield 86, 3) := by decide +kernel
theorem dX10_insert_99 : decode cX10_insert 99 = .ok (.iload_n 3, 1) := by decide +kernel
theorem dX10_insert_100 : decode cX10_insert 100 = .ok (.iconst 5, 1) := by decide +kernel
theorem dX10_insert_101 : decode cX10_insert 101 = .ok (.iadd, 1) := by decide +kernel
theorem dX10_insert_102 : decode cX10_insert 102 = .ok (.iaload, 1) := by decide +kernel
theorem dX10_insert_103 : decode cX10_insert 103 = .ok (.istore 7, 2) := by decide +kernel
theorem dX10_insert_105 : decode cX10_insert 105 = .ok (.aload_n 0, 1) := by decide +kernel
theorem dX10_insert_106 : decode cX10_insert 106 = .ok (.getfield 86, 3) := by decide +kernel
theorem dX10_insert_109 : decode cX10_insert 109 = .ok (.iload_n 3, 1) := by decide +kernel
theorem dX10_insert_110 : decode cX10_insert 110 = .ok (.bipush 6, 2) := by decide +kernel
theorem dX10_insert_112 : decode cX10_insert 112 = .ok (.iadd, 1) := by decide +kernel
theorem dX10_insert_113 : decode cX10_insert 113 = .ok (.iaload, 1) := by decide +kernel
theorem dX10_insert_114 : decode cX10_insert 114 = .ok (.istore 8, 2) := by decide +kernel
theorem dX10_insert_116 : decode cX10_insert 116 = .ok (.iload 4, 2) := by decide +kernel
theorem dX10_insert_118 : decode cX10_insert 118 = .ok (.ifCond .ge 40, 3) := by decide +kernel
theorem dX10_insert_121 : decode cX10_insert 121 = .ok (.aload_n 0, 1) := by decide +kernel
theorem dX10_insert_122 : decode cX10_insert 122 = .ok (.aload_n 0, 1) := by decide +kernel
theorem dX10_insert_123 : decode cX10_insert 123 = .ok (.iload_n 1, 1) := by decide +kernel
theorem dX10_insert_124 : decode cX10_insert 124 = .ok (.aload_n 0, 1) := by decide +kernel
theorem dX10_insert_125 : decode cX10_insert 125 = .ok (.getfield 86, 3) := by decide +kernel
theorem dX10_insert_128 : decode cX10_insert 128 = .ok (.iload_n 3, 1) := by decide +kernel
theorem dX10_insert_129 : decode cX10_insert 129 = .ok (.iconst 1, 1) := by decide +kernel
theorem dX10_insert_130 : decode cX10_insert 130 = .ok (.iadd, 1) := by decide +kernel
theorem dX10_insert_131 : decode cX10_insert 131 = .ok (.iaload, 1) := by decide +kernel
theorem dX10_insert_132 : decode cX10_insert 132 = .ok (.aload_n 0, 1) := by decide +kernel
theorem dX10_insert_133 : decode cX10_insert 133 = .ok (.getfield 86, 3) := by decide +kernel
theorem dX10_insert_136 : decode cX10_insert 136 = .ok (.iload_n 3, 1) := by decide +kernel
theorem dX10_insert_137 : decode cX10_insert 137 = .ok (.iconst 2, 1) := by decide +kernel
theorem dX10_insert_138 : decode cX10_insert 138 = .ok (.iadd, 1) := by decide +kernel
theorem dX10_insert_139 : decode cX10_insert 139 = .ok (.iaload, 1) := by decide +kernel
theorem dX10_insert_140 : decode cX10_insert 140 = .ok (.invokevirtual 232, 3) := by decide +kernel
theorem dX10_insert_143 : decode cX10_insert 143 = .ok (.iload_n 1, 1) := by decide +kernel
theorem dX10_insert_144 : decode cX10_insert 144 = .ok (.iload 5, 2) := by decide +kernel
theorem dX10_insert_146 : decode cX10_insert 146 = .ok (.iload 6, 2) := by decide +kernel
theorem dX10_insert_148 : decode cX10_insert 148 = .ok (.iload 7, 2) := by decide +kernel
theorem dX10_insert_150 : decode cX10_insert 150 = .ok (.iload 8, 2) := by decide +kernel
theorem dX10_insert_152 : decode cX10_insert 152 = .ok (.invokevirtual 239, 3) := by decide +kernel
theorem dX10_insert_155 : decode cX10_insert 155 = .ok (.goto 181, 3) := by decide +kernel
theorem dX10_insert_158 : decode cX10_insert 158 = .ok (.aload_n 0, 1) := by decide +kernel
theorem dX10_insert_159 : decode cX10_insert 159 = .ok (.getfield 47, 3) := by decide +kernel
theorem dX10_insert_162 : decode cX10_insert 162 = .ok (.iload 4, 2) := by decide +kernel
theorem dX10_insert_164 : decode cX10_insert 164 = .ok (.iaload, 1) := by decide +kernel
theorem dX10_insert_165 : decode cX10_insert 165 = .ok (.istore 9, 2) := by decide +kernel
theorem dX10_insert_167 : decode cX10_insert 167 = .ok (.aload_n 0, 1) := by decide +kernel
theorem dX10_insert_168 : decode cX10_insert 168 = .ok (.iload 9, 2) := by decide +kernel
theorem dX10_insert_170 : decode cX10_insert 170 = .ok (.iload_n 1, 1) := by decide +kernel
theorem dX10_insert_171 : decode cX10_insert 171 = .ok (.iload 5, 2) := by decide +kernel
theorem dX10_insert_173 : decode cX10_insert 173 = .ok (.iload 6, 2) := by decide +kernel
theorem dX10_insert_175 : decode cX10_insert 175 = .ok (.iload 7, 2) := by decide +kernel
theorem dX10_insert_177 : decode cX10_insert 177 = .ok (.iload 8, 2) := by decide +kernel
theorem dX10_insert_179 : decode cX10_insert 179 = .ok (.invokevirtual 215, 3) := by decide +kernel
theorem dX10_insert_182 : decode cX10_insert 182 = .ok (.istore 10, 2) := by decide +kernel
theorem dX10_insert_184 : decode cX10_insert 184 = .ok (.iload 10, 2) := by decide +kernel
theorem dX10_insert_186 : decode cX10_insert 186 = .ok (.ifCond .ne 21, 3) := by decide +kernel
theorem dX10_insert_189 : decode cX10_insert 189 = .ok (.aload_n 0, 1) := by decide +kernel
theorem dX10_insert_190 : decode cX10_insert 190 = .ok (.iload 4, 2) := by decide +kernel
theorem dX10_insert_192 : decode cX10_insert 192 = .ok (.iload_n 1, 1) := by decide +kernel
theorem dX10_insert_193 : decode cX10_insert 193 = .ok (.iload 5, 2) := by decide +kernel
theorem dX10_insert_195 : decode cX10_insert 195 = .ok (.iload 6, 2) := by decide +kernel
theorem dX10_insert_197 : decode cX10_insert 197 = .ok (.iload 7, 2) := by decide +kernel
theorem dX10_insert_199 : decode cX10_insert 199 = .ok (.iload 8, 2) := by decide +kernel
theorem dX10_insert_201 : decode cX10_insert 201 = .ok (.invokevirtual 239, 3) := by decide +kernel
theorem dX10_insert_204 : decode cX10_insert 204 = .ok (.goto 132, 3) := by decide +kernel
theorem dX10_insert_207 : decode cX10_insert 207 = .ok (.iload 10, 2) := by decide +kernel
theorem dX10_insert_209 : decode cX10_insert 209 = .ok (.iconst 2, 1) := by decide +kernel
theorem dX10_insert_210 : decode cX10_insert 210 = .ok (.if_icmp .ne 97, 3) := by decide +kernel
theorem dX10_insert_213 : decode cX10_insert 213 = .ok (.aload_n 0, 1) := by decide +kernel
theorem dX10_insert_214 : decode cX10_insert 214 = .ok (.iload 9, 2) := by decide +kernel
theorem dX10_insert_216 : decode cX10_insert 216 = .ok (.iload_n 1, 1) := by decide +kernel
theorem dX10_insert_217 : decode cX10_insert 217 = .ok (.invokevirtual 242, 3) := by decide +kernel
theorem dX10_insert_220 : decode cX10_insert 220 = .ok (.aload_n 0, 1) := by decide +kernel
theorem dX10_insert_221 : decode cX10_insert 221 = .ok (.iload 9, 2) := by decide +kernel
theorem dX10_insert_223 : decode cX10_insert 223 = .ok (.iload_n 1, 1) := by decide +kernel
theorem dX10_insert_224 : decode cX10_insert 224 = .ok (.iload 5, 2) := by decide +kernel
theorem dX10_insert_226 : decode cX10_insert 226 = .ok (.iload 6, 2) := by decide +kernel
theorem dX10_insert_228 : decode cX10_insert 228 = .ok (.invokevirtual 193, 3) := by decide +kernel
theorem dX10_insert_231 : decode cX10_insert 231 = .ok (.ifCond .le 7, 3) := by decide +kernel
theorem dX10_insert_234 : decode cX10_insert 234 = .ok (.iconst 1, 1) := by decide +kernel
theorem dX10_insert_235 : decode cX10_insert 235 = .ok (.goto 4, 3) := by decide +kernel
theorem dX10_insert_238 : decode cX10_insert 238 = .ok (.iconst 0, 1) := by decide +kernel
theorem dX10_insert_239 : decode cX10_insert 239 = .ok (.istore 11, 2) := by decide +kernel
theorem dX10_insert_241 : decode cX10_insert 241 = .ok (.aload_n 0, 1) := by decide +kernel
theorem dX10_insert_242 : decode cX10_insert 242 = .ok (.iload_n 2, 1) := by decide +kernel
theorem dX10_insert_243 : decode cX10_insert 243 = .ok (.iload 4, 2) := by decide +kernel
theorem dX10_insert_245 : decode cX10_insert 245 = .ok (.iload 11, 2) := by decide +kernel
theorem dX10_insert_247 : decode cX10_insert 247 = .ok (.ifCond .eq 7, 3) := by decide +kernel
theorem dX10_insert_250 : decode cX10_insert 250 = .ok (.iconst 1, 1) := by decide +kernel
theorem dX10_insert_251 : decode cX10_insert 251 = .ok (.goto 4, 3) := by decide +kernel
theorem dX10_insert_254 : decode cX10_insert 254 = .ok (.iconst 0, 1) := by decide +kernel
theorem dX10_insert_255 : decode cX10_insert 255 = .ok (.aload_n 0, 1) := by decide +kernel
theorem dX10_insert_256 : decode cX10_insert 256 = .ok (.getfield 200, 3) := by decide +kernel
theorem dX10_insert_259 : decode cX10_insert 259 = .ok (.aload_n 0, 1) := by decide +kernel
theorem dX10_insert_260 : decode cX10_insert 260 = .ok (.getfield 203, 3) := by decide +kernel
theorem dX10_insert_263 : decode cX10_insert 263 = .ok (.iload 7, 2) := by decide +kernel
theorem dX10_insert_265 : decode cX10_insert 265 = .ok (.iload 8, 2) := by decide +kernel
theorem dX10_insert_267 : decode cX10_insert 267 = .ok (.invokevirtual 245, 3) := by decide +kernel
theorem dX10_insert_270 : decode cX10_insert 270 = .ok (.aload_n 0, 1) := by decide +kernel
theorem dX10_insert_271 : decode cX10_insert 271 = .ok (.iload_n 2, 1) := by decide +kernel
theorem dX10_insert_272 : decode cX10_insert 272 = .ok (.iconst 1, 1) := by decide +kernel
theorem dX10_insert_273 : decode cX10_insert 273 = .ok (.iadd, 1) := by decide +kernel
theorem dX10_insert_274 : decode cX10_insert 274 = .ok (.iload 4, 2) := by decide +kernel
theorem dX10_insert_276 : decode cX10_insert 276 = .ok (.iload 11, 2) := by decide +kernel
theorem dX10_insert_278 : decode cX10_insert 278 = .ok (.ifCond .eq 7, 3) := by decide +kernel
theorem dX10_insert_281 : decode cX10_insert 281 = .ok (.iconst 0, 1) := by decide +kernel
theorem dX10_insert_282 : decode cX10_insert 282 = .ok (.goto 4, 3) := by decide +kernel
theorem dX10_insert_285 : decode cX10_insert 285 = .ok (.iconst 1, 1) := by decide +kernel
theorem dX10_insert_286 : decode cX10_insert 286 = .ok (.iload 5, 2) := by decide +kernel
theorem dX10_insert_288 : decode cX10_insert 288 = .ok (.iload 6, 2) := by decide +kernel
theorem dX10_insert_290 : decode cX10_insert 290 = .ok (.aload_n 0, 1) := by decide +kernel
theorem dX10_insert_291 : decode cX10_insert 291 = .ok (.getfield 200, 3) := by decide +kernel
theorem dX10_insert_294 : decode cX10_insert 294 = .ok (.aload_n 0, 1) := by decide +kernel
theorem dX10_insert_295 : decode cX10_insert 295 = .ok (.getfield 203, 3) := by decide +kernel
theorem dX10_insert_298 : decode cX10_insert 298 = .ok (.invokevirtual 245, 3) := by decide +kernel
theorem dX10_insert_301 : decode cX10_insert 301 = .ok (.iinc 2 2, 3) := by decide +kernel
theorem dX10_insert_304 : decode cX10_insert 304 = .ok (.goto 32, 3) := by decide +kernel
theorem dX10_insert_307 : decode cX10_insert 307 = .ok (.aload_n 0, 1) := by decide +kernel
theorem dX10_insert_308 : decode cX10_insert 308 = .ok (.iload_n 2, 1) := by decide +kernel
theorem dX10_insert_309 : decode cX10_insert 309 = .ok (.iload 4, 2) := by decide +kernel
theorem dX10_insert_311 : decode cX10_insert 311 = .ok (.iload 10, 2) := by decide +kernel
theorem dX10_insert_313 : decode cX10_insert 313 = .ok (.iconst 1, 1) := by decide +kernel
theorem dX10_insert_314 : decode cX10_insert 314 = .ok (.if_icmp .ne 7, 3) := by decide +kernel
theorem dX10_insert_317 : decode cX10_insert 317 = .ok (.iconst 0, 1) := by decide +kernel
theorem dX10_insert_318 : decode cX10_insert 318 = .ok (.goto 4, 3) := by decide +kernel
theorem dX10_insert_321 : decode cX10_insert 321 = .ok (.iconst 1, 1) := by decide +kernel
theorem dX10_insert_322 : decode cX10_insert 322 = .ok (.iload 5, 2) := by decide +kernel
theorem dX10_insert_324 : decode cX10_insert 324 = .ok (.iload 6, 2) := by decide +kernel
theorem dX10_insert_326 : decode cX10_insert 326 = .ok (.iload 7, 2) := by decide +kernel
theorem dX10_insert_328 : decode cX10_insert 328 = .ok (.iload 8, 2) := by decide +kernel
theorem dX10_insert_330 : decode cX10_insert 330 = .ok (.invokevirtual 245, 3) := by decide +kernel
theorem dX10_insert_333 : decode cX10_insert 333 = .ok (.iinc 2 1, 3) := by decide +kernel
theorem dX10_insert_336 : decode cX10_insert 336 = .ok (.goto (-281), 3) := by decide +kernel
theorem dX10_insert_339 : decode cX10_insert 339 = .ok (.return_, 1) := by decide +kernel
theorem dX10_push_0 : decode cX10_push 0 = .ok (.bipush 7, 2) := by decide +kernel
theorem dX10_push_2 : decode cX10_push 2 = .ok (.iload_n 1, 1) := by decide +kernel
theorem dX10_push_3 : decode cX10_push 3 = .ok (.imul, 1) := by decide +kernel
theorem dX10_push_4 : decode cX10_push 4 = .ok (.istore 8, 2) := by decide +kernel
theorem dX10_push_6 : decode cX10_push 6 = .ok (.aload_n 0, 1) := by decide +kernel
theorem dX10_push_7 : decode cX10_push 7 = .ok (.getfield 86, 3) := by decide +kernel
theorem dX10_push_10 : decode cX10_push 10 = .ok (.iload 8, 2) := by decide +kernel
theorem dX10_push_12 : decode cX10_push 12 = .ok (.iload_n 3, 1) := by decide +kernel
theorem dX10_push_13 : decode cX10_push 13 = .ok (.ifCond .ne 12, 3) := by decide +kernel
theorem dX10_push_16 : decode cX10_push 16 = .ok (.aload_n 0, 1) := by decide +kernel
theorem dX10_push_17 : decode cX10_push 17 = .ok (.getfield 50, 3) := by decide +kernel
theorem dX10_push_20 : decode cX10_push 20 = .ok (.iload_n 2, 1) := by decide +kernel
theorem dX10_push_21 : decode cX10_push 21 = .ok (.iaload, 1) := by decide +kernel
theorem dX10_push_22 : decode cX10_push 22 = .ok (.goto 9, 3) := by decide +kernel
theorem dX10_push_25 : decode cX10_push 25 = .ok (.aload_n 0, 1) := by decide +kernel
theorem dX10_push_26 : decode cX10_push 26 = .ok (.getfield 53, 3) := by decide +kernel
theorem dX10_push_29 : decode cX10_push 29 = .ok (.iload_n 2, 1) := by decide +kernel
theorem dX10_push_30 : decode cX10_push 30 = .ok (.iaload, 1) := by decide +kernel
theorem dX10_push_31 : decode cX10_push 31 = .ok (.iastore, 1) := by decide +kernel
theorem dX10_push_32 : decode cX10_push 32 = .ok (.aload_n 0, 1) := by decide +kernel
theorem dX10_push_33 : decode cX10_push 33 = .ok (.getfield 86, 3) := by decide +kernel
theorem dX10_push_36 : decode cX10_push 36 = .ok (.iload 8, 2) := by decide +kernel
theorem dX10_push_38 : decode cX10_push 38 = .ok (.iconst 1, 1) := by decide +kernel
theorem dX10_push_39 : decode cX10_push 39 = .ok (.iadd, 1) := by decide +kernel
theorem dX10_push_40 : decode cX10_push 40 = .ok (.iload_n 2, 1) := by decide +kernel
theorem dX10_push_41 : decode cX10_push 41 = .ok (.iastore, 1) := by decide +kernel
theorem dX10_push_42 : decode cX10_push 42 = .ok (.aload_n 0, 1) := by decide +kernel
theorem dX10_push_43 : decode cX10_push 43 = .ok (.getfield 86, 3) := by decide +kernel
theorem dX10_push_46 : decode cX10_push 46 = .ok (.iload 8, 2) := by decide +kernel
theorem dX10_push_48 : decode cX10_push 48 = .ok (.iconst 2, 1) := by decide +kernel
theorem dX10_push_49 : decode cX10_push 49 = .ok (.iadd, 1) := by decide +kernel
theorem dX10_push_50 : decode cX10_push 50 = .ok (.iload_n 3, 1) := by decide +kernel
theorem dX10_push_51 : decode cX10_push 51 = .ok (.iastore, 1) := by decide +kernel
theorem dX10_push_52 : decode cX10_push 52 = .ok (.aload_n 0, 1) := by decide +kernel
theorem dX10_push_53 : decode cX10_push 53 = .ok (.getfield 86, 3) := by decide +kernel
theorem dX10_push_56 : decode cX10_push 56 = .ok (.iload 8, 2) := by decide +kernel
theorem dX10_push_58 : decode cX10_push 58 = .ok (.iconst 3, 1) := by decide +kernel
theorem dX10_push_59 : decode cX10_push 59 = .ok (.iadd, 1) := by decide +kernel
theorem dX10_push_60 : decode cX10_push 60 = .ok (.iload 4, 2) := by decide +kernel
theorem dX10_push_62 : decode cX10_push 62 = .ok (.iastore, 1) := by decide +kernel
theorem dX10_push_63 : decode cX10_push 63 = .ok (.aload_n 0, 1) := by decide +kernel
theorem dX10_push_64 : decode cX10_push 64 = .ok (.getfield 86, 3) := by decide +kernel
theorem dX10_push_67 : decode cX10_push 67 = .ok (.iload 8, 2) := by decide +kernel
theorem dX10_push_69 : decode cX10_push 69 = .ok (.iconst 4, 1) := by decide +kernel
theorem dX10_push_70 : decode cX10_push 70 = .ok (.iadd, 1) := by decide +kernel
theorem dX10_push_71 : decode cX10_push 71 = .ok (.iload 5, 2) := by decide +kernel
theorem dX10_push_73 : decode cX10_push 73 = .ok (.iastore, 1) := by decide +kernel
theorem dX10_push_74 : decode cX10_push 74 = .ok (.aload_n 0, 1) := by decide +kernel
theorem dX10_push_75 : decode cX10_push 75 = .ok (.getfield 86, 3) := by decide +kernel
theorem dX10_push_78 : decode cX10_push 78 = .ok (.iload 8, 2) := by decide +kernel
theorem dX10_push_80 : decode cX10_push 80 = .ok (.iconst 5, 1) := by decide +kernel
theorem dX10_push_81 : decode cX10_push 81 = .ok (.iadd, 1) := by decide +kernel
theorem dX10_push_82 : decode cX10_push 82 = .ok (.iload 6, 2) := by decide +kernel
theorem dX10_push_84 : decode cX10_push 84 = .ok (.iastore, 1) := by decide +kernel
theorem dX10_push_85 : decode cX10_push 85 = .ok (.aload_n 0, 1) := by decide +kernel
theorem dX10_push_86 : decode cX10_push 86 = .ok (.getfield 86, 3) := by decide +kernel
theorem dX10_push_89 : decode cX10_push 89 = .ok (.iload 8, 2) := by decide +kernel
theorem dX10_push_91 : decode cX10_push 91 = .ok (.bipush 6, 2) := by decide +kernel
theorem dX10_push_93 : decode cX10_push 93 = .ok (.iadd, 1) := by decide +kernel
theorem dX10_push_94 : decode cX10_push 94 = .ok (.iload 7, 2) := by decide +kernel
theorem dX10_push_96 : decode cX10_push 96 = .ok (.iastore, 1) := by decide +kernel
theorem dX10_push_97 : decode cX10_push 97 = .ok (.return_, 1) := by decide +kernel
theorem dX10_leaf_0 : decode cX10_leaf 0 = .ok (.iload_n 1, 1) := by decide +kernel
theorem dX10_leaf_1 : decode cX10_leaf 1 = .ok (.ifCond .ge 14, 3) := by decide +kernel
theorem dX10_leaf_4 : decode cX10_leaf 4 = .ok (.aload_n 0, 1) := by decide +kernel
theorem dX10_leaf_5 : decode cX10_leaf 5 = .ok (.aload_n 0, 1) := by decide +kernel
theorem dX10_leaf_6 : decode cX10_leaf 6 = .ok (.getfield 248, 3) := by decide +kernel
theorem dX10_leaf_9 : decode cX10_leaf 9 = .ok (.putfield 251, 3) := by decide +kernel
theorem dX10_leaf_12 : decode cX10_leaf 12 = .ok (.goto 13, 3) := by decide +kernel
theorem dX10_leaf_15 : decode cX10_leaf 15 = .ok (.aload_n 0, 1) := by decide +kernel
theorem dX10_leaf_16 : decode cX10_leaf 16 = .ok (.getfield 107, 3) := by decide +kernel
theorem dX10_leaf_19 : decode cX10_leaf 19 = .ok (.iload_n 1, 1) := by decide +kernel
theorem dX10_leaf_20 : decode cX10_leaf 20 = .ok (.aload_n 0, 1) := by decide +kernel
theorem dX10_leaf_21 : decode cX10_leaf 21 = .ok (.getfield 248, 3) := by decide +kernel
theorem dX10_leaf_24 : decode cX10_leaf 24 = .ok (.iastore, 1) := by decide +kernel
theorem dX10_leaf_25 : decode cX10_leaf 25 = .ok (.aload_n 0, 1) := by decide +kernel
theorem dX10_leaf_26 : decode cX10_leaf 26 = .ok (.dup, 1) := by decide +kernel
theorem dX10_leaf_27 : decode cX10_leaf 27 = .ok (.getfield 248, 3) := by decide +kernel
theorem dX10_leaf_30 : decode cX10_leaf 30 = .ok (.iconst 1, 1) := by decide +kernel
theorem dX10_leaf_31 : decode cX10_leaf 31 = .ok (.iadd, 1) := by decide +kernel
theorem dX10_leaf_32 : decode cX10_leaf 32 = .ok (.putfield 248, 3) := by decide +kernel
theorem dX10_leaf_35 : decode cX10_leaf 35 = .ok (.aload_n 0, 1) := by decide +kernel
theorem dX10_leaf_36 : decode cX10_leaf 36 = .ok (.dup, 1) := by decide +kernel
theorem dX10_leaf_37 : decode cX10_leaf 37 = .ok (.getfield 254, 3) := by decide +kernel
theorem dX10_leaf_40 : decode cX10_leaf 40 = .ok (.iload_n 2, 1) := by decide +kernel
theorem dX10_leaf_41 : decode cX10_leaf 41 = .ok (.iadd, 1) := by decide +kernel
theorem dX10_leaf_42 : decode cX10_leaf 42 = .ok (.putfield 254, 3) := by decide +kernel
theorem dX10_leaf_45 : decode cX10_leaf 45 = .ok (.aload_n 0, 1) := by decide +kernel
theorem dX10_leaf_46 : decode cX10_leaf 46 = .ok (.iload_n 2, 1) := by decide +kernel
theorem dX10_leaf_47 : decode cX10_leaf 47 = .ok (.aload_n 0, 1) := by decide +kernel
theorem dX10_leaf_48 : decode cX10_leaf 48 = .ok (.getfield 257, 3) := by decide +kernel
theorem dX10_leaf_51 : decode cX10_leaf 51 = .ok (.if_icmp .le 7, 3) := by decide +kernel
theorem dX10_leaf_54 : decode cX10_leaf 54 = .ok (.iload_n 2, 1) := by decide +kernel
theorem dX10_leaf_55 : decode cX10_leaf 55 = .ok (.goto 7, 3) := by decide +kernel
theorem dX10_leaf_58 : decode cX10_leaf 58 = .ok (.aload_n 0, 1) := by decide +kernel
theorem dX10_leaf_59 : decode cX10_leaf 59 = .ok (.getfield 257, 3) := by decide +kernel
theorem dX10_leaf_62 : decode cX10_leaf 62 = .ok (.putfield 257, 3) := by decide +kernel
theorem dX10_leaf_65 : decode cX10_leaf 65 = .ok (.return_, 1) := by decide +kernel
theorem dX10_number__0 : decode cX10_number_ 0 = .ok (.iconst 0, 1) := by decide +kernel
theorem dX10_number__1 : decode cX10_number_ 1 = .ok (.istore_n 1, 1) := by decide +kernel
theorem dX10_number__2 : decode cX10_number_ 2 = .ok (.iconst 1, 1) := by decide +kernel
theorem dX10_number__3 : decode cX10_number_ 3 = .ok (.istore_n 2, 1) := by decide +kernel
theorem dX10_number__4 : decode cX10_number_ 4 = .ok (.iconst 0, 1) := by decide +kernel
theorem dX10_number__5 : decode cX10_number_ 5 = .ok (.istore_n 3, 1) := by decide +kernel
theorem dX10_number__6 : decode cX10_number_ 6 = .ok (.aload_n 0, 1) := by decide +kernel
theorem dX10_number__7 : decode cX10_number_ 7 = .ok (.iconst 0, 1) := by decide +kernel
theorem dX10_number__8 : decode cX10_number_ 8 = .ok (.putfield 248, 3) := by decide +kernel
theorem dX10_number__11 : decode cX10_number_ 11 = .ok (.aload_n 0, 1) := by decide +kernel
theorem dX10_number__12 : decode cX10_number_ 12 = .ok (.iconst 0, 1) := by decide +kernel
theorem dX10_number__13 : decode cX10_number_ 13 = .ok (.putfield 254, 3) := by decide +kernel
theorem dX10_number__16 : decode cX10_number_ 16 = .ok (.aload_n 0, 1) := by decide +kernel
theorem dX10_number__17 : decode cX10_number_ 17 = .ok (.iconst 0, 1) := by decide +kernel
theorem dX10_number__18 : decode cX10_number_ 18 = .ok (.putfield 257, 3) := by decide +kernel
theorem dX10_number__21 : decode cX10_number_ 21 = .ok (.aload_n 0, 1) := by decide +kernel
theorem dX10_number__22 : decode cX10_number_ 22 = .ok (.getfield 104, 3) := by decide +kernel
theorem dX10_number__25 : decode cX10_number_ 25 = .ok (.iconst 0, 1) := by decide +kernel
theorem dX10_number__26 : decode cX10_number_ 26 = .ok (.aload_n 0, 1) := by decide +kernel
theorem dX10_number__27 : decode cX10_number_ 27 = .ok (.getfield 212, 3) := by decide +kernel
theorem dX10_number__30 : decode cX10_number_ 30 = .ok (.iastore, 1) := by decide +kernel
theorem dX10_number__31 : decode cX10_number_ 31 = .ok (.aload_n 0, 1) := by decide +kernel
theorem dX10_number__32 : decode cX10_number_ 32 = .ok (.getfield 104, 3) := by decide +kernel
theorem dX10_number__35 : decode cX10_number_ 35 = .ok (.iconst 1, 1) := by decide +kernel
theorem dX10_number__36 : decode cX10_number_ 36 = .ok (.iconst (-1), 1) := by decide +kernel
theorem dX10_number__37 : decode cX10_number_ 37 = .ok (.iastore, 1) := by decide +kernel
theorem dX10_number__38 : decode cX10_number_ 38 = .ok (.aload_n 0, 1) := by decide +kernel
theorem dX10_number__39 : decode cX10_number_ 39 = .ok (.getfield 104, 3) := by decide +kernel
theorem dX10_number__42 : decode cX10_number_ 42 = .ok (.iconst 2, 1) := by decide +kernel
theorem dX10_number__43 : decode cX10_number_ 43 = .ok (.iconst 0, 1) := by decide +kernel
theorem dX10_number__44 : decode cX10_number_ 44 = .ok (.iastore, 1) := by decide +kernel
theorem dX10_number__45 : decode cX10_number_ 45 = .ok (.iload_n 2, 1) := by decide +kernel
theorem dX10_number__46 : decode cX10_number_ 46 = .ok (.ifCond .le 225, 3) := by decide +kernel
theorem dX10_number__49 : decode cX10_number_ 49 = .ok (.iinc 2 (-1), 3) := by decide +kernel
theorem dX10_number__52 : decode cX10_number_ 52 = .ok (.aload_n 0, 1) := by decide +kernel
theorem dX10_number__53 : decode cX10_number_ 53 = .ok (.getfield 104, 3) := by decide +kernel
theorem dX10_number__56 : decode cX10_number_ 56 = .ok (.iconst 3, 1) := by decide +kernel
theorem dX10_number__57 : decode cX10_number_ 57 = .ok (.iload_n 2, 1) := by decide +kernel
theorem dX10_number__58 : decode cX10_number_ 58 = .ok (.imul, 1) := by decide +kernel
theorem dX10_number__59 : decode cX10_number_ 59 = .ok (.iaload, 1) := by decide +kernel
theorem dX10_number__60 : decode cX10_number_ 60 = .ok (.istore 4, 2) := by decide +kernel
theorem dX10_number__62 : decode cX10_number_ 62 = .ok (.aload_n 0, 1) := by decide +kernel
theorem dX10_number__63 : decode cX10_number_ 63 = .ok (.getfield 104, 3) := by decide +kernel
theorem dX10_number__66 : decode cX10_number_ 66 = .ok (.iconst 3, 1) := by decide +kernel
theorem dX10_number__67 : decode cX10_number_ 67 = .ok (.iload_n 2, 1) := by decide +kernel
theorem dX10_number__68 : decode cX10_number_ 68 = .ok (.imul, 1) := by decide +kernel
theorem dX10_number__69 : decode cX10_number_ 69 = .ok (.iconst 1, 1) := by decide +kernel
theorem dX10_number__70 : decode cX10_number_ 70 = .ok (.iadd, 1) := by decide +kernel
theorem dX10_number__71 : decode cX10_number_ 71 = .ok (.iaload, 1) := by decide +kernel
theorem dX10_number__72 : decode cX10_number_ 72 = .ok (.istore 5, 2) := by decide +kernel
theorem dX10_number__74 : decode cX10_number_ 74 = .ok (.aload_n 0, 1) := by decide +kernel
theorem dX10_number__75 : decode cX10_number_ 75 = .ok (.getfield 104, 3) := by decide +kernel
theorem dX10_number__78 : decode cX10_number_ 78 = .ok (.iconst 3, 1) := by decide +kernel
theorem dX10_number__79 : decode cX10_number_ 79 = .ok (.iload_n 2, 1) := by decide +kernel
theorem dX10_number__80 : decode cX10_number_ 80 = .ok (.imul, 1) := by decide +kernel
theorem dX10_number__81 : decode cX10_number_ 81 = .ok (.iconst 2, 1) := by decide +kernel
theorem dX10_number__82 : decode cX10_number_ 82 = .ok (.iadd, 1) := by decide +kernel
theorem dX10_number__83 : decode cX10_number_ 83 = .ok (.iaload, 1) := by decide +kernel
theorem dX10_number__84 : decode cX10_number_ 84 = .ok (.istore 6, 2) := by decide +kernel
theorem dX10_number__86 : decode cX10_number_ 86 = .ok (.iload 4, 2) := by decide +kernel
theorem dX10_number__88 : decode cX10_number_ 88 = .ok (.ifCond .ge 14, 3) := by decide +kernel
theorem dX10_number__91 : decode cX10_number_ 91 = .ok (.aload_n 0, 1) := by decide +kernel
theorem dX10_number__92 : decode cX10_number_ 92 = .ok (.iload 5, 2) := by decide +kernel
theorem dX10_number__94 : decode cX10_number_ 94 = .ok (.iload 6, 2) := by decide +kernel
theorem dX10_number__96 : decode cX10_number_ 96 = .ok (.invokevirtual 260, 3) := by decide +kernel
theorem dX10_number__99 : decode cX10_number_ 99 = .ok (.goto 169, 3) := by decide +kernel
theorem dX10_number__102 : decode cX10_number_ 102 = .ok (.aload_n 0, 1) := by decide +kernel
theorem dX10_number__103 : decode cX10_number_ 103 = .ok (.getfield 89, 3) := by decide +kernel
theorem dX10_number__106 : decode cX10_number_ 106 = .ok (.iload_n 1, 1) := by decide +kernel
theorem dX10_number__107 : decode cX10_number_ 107 = .ok (.iload 4, 2) := by decide +kernel
theorem dX10_number__109 : decode cX10_number_ 109 = .ok (.iastore, 1) := by decide +kernel
theorem dX10_number__110 : decode cX10_number_ 110 = .ok (.aload_n 0, 1) := by decide +kernel
theorem dX10_number__111 : decode cX10_number_ 111 = .ok (.getfield 92, 3) := by decide +kernel
theorem dX10_number__114 : decode cX10_number_ 114 = .ok (.iload 4, 2) := by decide +kernel
theorem dX10_number__116 : decode cX10_number_ 116 = .ok (.iload_n 1, 1) := by decide +kernel
theorem dX10_number__117 : decode cX10_number_ 117 = .ok (.iastore, 1) := by decide +kernel
theorem dX10_number__118 : decode cX10_number_ 118 = .ok (.aload_n 0, 1) := by decide +kernel
theorem dX10_number__119 : decode cX10_number_ 119 = .ok (.getfield 95, 3) := by decide +kernel
theorem dX10_number__122 : decode cX10_number_ 122 = .ok (.iload 4, 2) := by decide +kernel
theorem dX10_number__124 : decode cX10_number_ 124 = .ok (.iload 6, 2) := by decide +kernel
theorem dX10_number__126 : decode cX10_number_ 126 = .ok (.iastore, 1) := by decide +kernel
theorem dX10_number__127 : decode cX10_number_ 127 = .ok (.iinc 1 1, 3) := by decide +kernel
theorem dX10_number__130 : decode cX10_number_ 130 = .ok (.aload_n 0, 1) := by decide +kernel
theorem dX10_number__131 : decode cX10_number_ 131 = .ok (.getfield 56, 3) := by decide +kernel
theorem dX10_number__134 : decode cX10_number_ 134 = .ok (.iload 4, 2) := by decide +kernel
theorem dX10_number__136 : decode cX10_number_ 136 = .ok (.iaload, 1) := by decide +kernel
theorem dX10_number__137 : decode cX10_number_ 137 = .ok (.istore 7, 2) := by decide +kernel
theorem dX10_number__139 : decode cX10_number_ 139 = .ok (.iload 7, 2) := by decide +kernel
theorem dX10_number__141 : decode cX10_number_ 141 = .ok (.ifCond .lt 34, 3) := by decide +kernel
theorem dX10_number__144 : decode cX10_number_ 144 = .ok (.aload_n 0, 1) := by decide +kernel
theorem dX10_number__145 : decode cX10_number_ 145 = .ok (.getfield 98, 3) := by decide +kernel
theorem dX10_number__148 : decode cX10_number_ 148 = .ok (.iload_n 3, 1) := by decide +kernel
theorem dX10_number__149 : decode cX10_number_ 149 = .ok (.iload 7, 2) := by decide +kernel
theorem dX10_number__151 : decode cX10_number_ 151 = .ok (.iastore, 1) := by decide +kernel
theorem dX10_number__152 : decode cX10_number_ 152 = .ok (.aload_n 0, 1) := by decide +kernel
theorem dX10_number__153 : decode cX10_number_ 153 = .ok (.getfield 101, 3) := by decide +kernel
theorem dX10_number__156 : decode cX10_number_ 156 = .ok (.iload 7, 2) := by decide +kernel
theorem dX10_number__158 : decode cX10_number_ 158 = .ok (.iload_n 3, 1) := by decide +kernel
theorem dX10_number__159 : decode cX10_number_ 159 = .ok (.iastore, 1) := by decide +kernel
theorem dX10_number__160 : decode cX10_number_ 160 = .ok (.iinc 3 1, 3) := by decide +kernel
theorem dX10_number__163 : decode cX10_number_ 163 = .ok (.aload_n 0, 1) := by decide +kernel
theorem dX10_number__164 : decode cX10_number_ 164 = .ok (.getfield 71, 3) := by decide +kernel
theorem dX10_number__167 : decode cX10_number_ 167 = .ok (.iload 7, 2) := by decide +kernel
theorem dX10_number__169 : decode cX10_number_ 169 = .ok (.iaload, 1) := by decide +kernel
theorem dX10_number__170 : decode cX10_number_ 170 = .ok (.istore 7, 2) := by decide +kernel
theorem dX10_number__172 : decode cX10_number_ 172 = .ok (.goto (-33), 3) := by decide +kernel
theorem dX10_number__175 : decode cX10_number_ 175 = .ok (.aload_n 0, 1) := by decide +kernel
theorem dX10_number__176 : decode cX10_number_ 176 = .ok (.getfield 104, 3) := by decide +kernel
theorem dX10_number__179 : decode cX10_number_ 179 = .ok (.iconst 3, 1) := by decide +kernel
theorem dX10_number__180 : decode cX10_number_ 180 = .ok (.iload_n 2, 1) := by decide +kernel
theorem dX10_number__181 : decode cX10_number_ 181 = .ok (.imul, 1) := by decide +kernel
theorem dX10_number__182 : decode cX10_number_ 182 = .ok (.aload_n 0, 1) := by decide +kernel
theorem dX10_number__183 : decode cX10_number_ 183 = .ok (.getfield 53, 3) := by decide +kernel
theorem dX10_number__186 : decode cX10_number_ 186 = .ok (.iload 4, 2) := by decide +kernel
theorem dX10_number__188 : decode cX10_number_ 188 = .ok (.iaload, 1) := by decide +kernel
theorem dX10_number__189 : decode cX10_number_ 189 = .ok (.iastore, 1) := by decide +kernel
theorem dX10_number__190 : decode cX10_number_ 190 = .ok (.aload_n 0, 1) := by decide +kernel
theorem dX10_number__191 : decode cX10_number_ 191 = .ok (.getfield 104, 3) := by decide +kernel
theorem dX10_number__194 : decode cX10_number_ 194 = .ok (.iconst 3, 1) := by decide +kernel
theorem dX10_number__195 : decode cX10_number_ 195 = .ok (.iload_n 2, 1) := by decide +kernel
theorem dX10_number__196 : decode cX10_number_ 196 = .ok (.imul, 1) := by decide +kernel
theorem dX10_number__197 : decode cX10_number_ 197 = .ok (.iconst 1, 1) := by decide +kernel
theorem dX10_number__198 : decode cX10_number_ 198 = .ok (.iadd, 1) := by decide +kernel
theorem dX10_number__199 : decode cX10_number_ 199 = .ok (.iconst 2, 1) := by decide +kernel
theorem dX10_number__200 : decode cX10_number_ 200 = .ok (.iload 4, 2) := by decide +kernel
theorem dX10_number__202 : decode cX10_number_ 202 = .ok (.imul, 1) := by decide +kernel
theorem dX10_number__203 : decode cX10_number_ 203 = .ok (.iconst 1, 1) := by decide +kernel
theorem dX10_number__204 : decode cX10_number_ 204 = .ok (.iadd, 1) := by decide +kernel
theorem dX10_number__205 : decode cX10_number_ 205 = .ok (.iastore, 1) := by decide +kernel
theorem dX10_number__206 : decode cX10_number_ 206 = .ok (.aload_n 0, 1) := by decide +kernel
theorem dX10_number__207 : decode cX10_number_ 207 = .ok (.getfield 104, 3) := by decide +kernel
theorem dX10_number__210 : decode cX10_number_ 210 = .ok (.iconst 3, 1) := by decide +kernel
theorem dX10_number__211 : decode cX10_number_ 211 = .ok (.iload_n 2, 1) := by decide +kernel
theorem dX10_number__212 : decode cX10_number_ 212 = .ok (.imul, 1) := by decide +kernel
theorem dX10_number__213 : decode cX10_number_ 213 = .ok (.iconst 2, 1) := by decide +kernel
theorem dX10_number__214 : decode cX10_number_ 214 = .ok (.iadd, 1) := by decide +kernel
theorem dX10_number__215 : decode cX10_number_ 215 = .ok (.iload 6, 2) := by decide +kernel
theorem dX10_number__217 : decode cX10_number_ 217 = .ok (.iconst 1, 1) := by decide +kernel
theorem dX10_number__218 : decode cX10_number_ 218 = .ok (.iadd, 1) := by decide +kernel
theorem dX10_number__219 : decode cX10_number_ 219 = .ok (.iastore, 1) := by decide +kernel
theorem dX10_number__220 : decode cX10_number_ 220 = .ok (.aload_n 0, 1) := by decide +kernel
theorem dX10_number__221 : decode cX10_number_ 221 = .ok (.getfield 104, 3) := by decide +kernel
theorem dX10_number__224 : decode cX10_number_ 224 = .ok (.iconst 3, 1) := by decide +kernel
theorem dX10_number__225 : decode cX10_number_ 225 = .ok (.iload_n 2, 1) := by decide +kernel
theorem dX10_number__226 : decode cX10_number_ 226 = .ok (.imul, 1) := by decide +kernel
theorem dX10_number__227 : decode cX10_number_ 227 = .ok (.iconst 3, 1) := by decide +kernel
theorem dX10_number__228 : decode cX10_number_ 228 = .ok (.iadd, 1) := by decide +kernel
theorem dX10_number__229 : decode cX10_number_ 229 = .ok (.aload_n 0, 1) := by decide +kernel
theorem dX10_number__230 : decode cX10_number_ 230 = .ok (.getfield 50, 3) := by decide +kernel
theorem dX10_number__233 : decode cX10_number_ 233 = .ok (.iload 4, 2) := by decide +kernel
theorem dX10_number__235 : decode cX10_number_ 235 = .ok (.iaload, 1) := by decide +kernel
theorem dX10_number__236 : decode cX10_number_ 236 = .ok (.iastore, 1) := by decide +kernel
theorem dX10_number__237 : decode cX10_number_ 237 = .ok (.aload_n 0, 1) := by decide +kernel
theorem dX10_number__238 : decode cX10_number_ 238 = .ok (.getfield 104, 3) := by decide +kernel
theorem dX10_number__241 : decode cX10_number_ 241 = .ok (.iconst 3, 1) := by decide +kernel
theorem dX10_number__242 : decode cX10_number_ 242 = .ok (.iload_n 2, 1) := by decide +kernel
theorem dX10_number__243 : decode cX10_number_ 243 = .ok (.imul, 1) := by decide +kernel
theorem dX10_number__244 : decode cX10_number_ 244 = .ok (.iconst 4, 1) := by decide +kernel
theorem dX10_number__245 : decode cX10_number_ 245 = .ok (.iadd, 1) := by decide +kernel
theorem dX10_number__246 : decode cX10_number_ 246 = .ok (.iconst 2, 1) := by decide +kernel
theorem dX10_number__247 : decode cX10_number_ 247 = .ok (.iload 4, 2) := by decide +kernel
theorem dX10_number__249 : decode cX10_number_ 249 = .ok (.imul, 1) := by decide +kernel
theorem dX10_number__250 : decode cX10_number_ 250 = .ok (.iastore, 1) := by decide +kernel
theorem dX10_number__251 : decode cX10_number_ 251 = .ok (.aload_n 0, 1) := by decide +kernel
theorem dX10_number__252 : decode cX10_number_ 252 = .ok (.getfield 104, 3) := by decide +kernel
theorem dX10_number__255 : decode cX10_number_ 255 = .ok (.iconst 3, 1) := by decide +kernel
theorem dX10_number__256 : decode cX10_number_ 256 = .ok (.iload_n 2, 1) := by decide +kernel
theorem dX10_number__257 : decode cX10_number_ 257 = .ok (.imul, 1) := by decide +kernel
theorem dX10_number__258 : decode cX10_number_ 258 = .ok (.iconst 5, 1) := by decide +kernel
theorem dX10_number__259 : decode cX10_number_ 259 = .ok (.iadd, 1) := by decide +kernel
theorem dX10_number__260 : decode cX10_number_ 260 = .ok (.iload 6, 2) := by decide +kernel
theorem dX10_number__262 : decode cX10_number_ 262 = .ok (.iconst 1, 1) := by decide +kernel
theorem dX10_number__263 : decode cX10_number_ 263 = .ok (.iadd, 1) := by decide +kernel
theorem dX10_number__264 : decode cX10_number_ 264 = .ok (.iastore, 1) := by decide +kernel
theorem dX10_number__265 : decode cX10_number_ 265 = .ok (.iinc 2 2, 3) := by decide +kernel
theorem dX10_number__268 : decode cX10_number_ 268 = .ok (.goto (-223), 3) := by decide +kernel
theorem dX10_number__271 : decode cX10_number_ 271 = .ok (.return_, 1) := by decide +kernel
theorem dX10_countBuild_0 : decode cX10_countBuild 0 = .ok (.aload_n 0, 1) := by decide +kernel
theorem dX10_countBuild_1 : decode cX10_countBuild 1 = .ok (.getfield 13, 3) := by decide +kernel
theorem dX10_countBuild_4 : decode cX10_countBuild 4 = .ok (.aload_n 0, 1) := by decide +kernel
theorem dX10_countBuild_5 : decode cX10_countBuild 5 = .ok (.getfield 38, 3) := by decide +kernel
theorem dX10_countBuild_8 : decode cX10_countBuild 8 = .ok (.if_icmp .ne 18, 3) := by decide +kernel
theorem dX10_countBuild_11 : decode cX10_countBuild 11 = .ok (.aload_n 0, 1) := by decide +kernel
theorem dX10_countBuild_12 : decode cX10_countBuild 12 = .ok (.getfield 17, 3) := by decide +kernel
theorem dX10_countBuild_15 : decode cX10_countBuild 15 = .ok (.aload_n 0, 1) := by decide +kernel
theorem dX10_countBuild_16 : decode cX10_countBuild 16 = .ok (.getfield 41, 3) := by decide +kernel
theorem dX10_countBuild_19 : decode cX10_countBuild 19 = .ok (.if_icmp .ne 7, 3) := by decide +kernel
theorem dX10_countBuild_22 : decode cX10_countBuild 22 = .ok (.iconst 1, 1) := by decide +kernel
theorem dX10_countBuild_23 : decode cX10_countBuild 23 = .ok (.goto 4, 3) := by decide +kernel
theorem dX10_countBuild_26 : decode cX10_countBuild 26 = .ok (.iconst 0, 1) := by decide +kernel
theorem dX10_countBuild_27 : decode cX10_countBuild 27 = .ok (.istore_n 1, 1) := by decide +kernel
theorem dX10_countBuild_28 : decode cX10_countBuild 28 = .ok (.iconst 0, 1) := by decide +kernel
theorem dX10_countBuild_29 : decode cX10_countBuild 29 = .ok (.istore_n 2, 1) := by decide +kernel
theorem dX10_countBuild_30 : decode cX10_countBuild 30 = .ok (.iload_n 2, 1) := by decide +kernel
theorem dX10_countBuild_31 : decode cX10_countBuild 31 = .ok (.bipush 12, 2) := by decide +kernel
theorem dX10_countBuild_33 : decode cX10_countBuild 33 = .ok (.if_icmp .ge 111, 3) := by decide +kernel
theorem dX10_countBuild_36 : decode cX10_countBuild 36 = .ok (.aload_n 0, 1) := by decide +kernel
theorem dX10_countBuild_37 : decode cX10_countBuild 37 = .ok (.iload_n 2, 1) := by decide +kernel
theorem dX10_countBuild_38 : decode cX10_countBuild 38 = .ok (.iconst 0, 1) := by decide +kernel
theorem dX10_countBuild_39 : decode cX10_countBuild 39 = .ok (.invokevirtual 129, 3) := by decide +kernel
theorem dX10_countBuild_42 : decode cX10_countBuild 42 = .ok (.iconst 1, 1) := by decide +kernel
theorem dX10_countBuild_43 : decode cX10_countBuild 43 = .ok (.if_icmp .ne 17, 3) := by decide +kernel
theorem dX10_countBuild_46 : decode cX10_countBuild 46 = .ok (.aload_n 0, 1) := by decide +kernel
theorem dX10_countBuild_47 : decode cX10_countBuild 47 = .ok (.iload_n 2, 1) := by decide +kernel
theorem dX10_countBuild_48 : decode cX10_countBuild 48 = .ok (.bipush 6, 2) := by decide +kernel
theorem dX10_countBuild_50 : decode cX10_countBuild 50 = .ok (.invokevirtual 129, 3) := by decide +kernel
theorem dX10_countBuild_53 : decode cX10_countBuild 53 = .ok (.ifCond .ne 7, 3) := by decide +kernel
theorem dX10_countBuild_56 : decode cX10_countBuild 56 = .ok (.iconst 1, 1) := by decide +kernel
theorem dX10_countBuild_57 : decode cX10_countBuild 57 = .ok (.goto 4, 3) := by decide +kernel
theorem dX10_countBuild_60 : decode cX10_countBuild 60 = .ok (.iconst 0, 1) := by decide +kernel
theorem dX10_countBuild_61 : decode cX10_countBuild 61 = .ok (.istore_n 3, 1) := by decide +kernel
theorem dX10_countBuild_62 : decode cX10_countBuild 62 = .ok (.iload_n 1, 1) := by decide +kernel
theorem dX10_countBuild_63 : decode cX10_countBuild 63 = .ok (.aload_n 0, 1) := by decide +kernel
theorem dX10_countBuild_64 : decode cX10_countBuild 64 = .ok (.getfield 35, 3) := by decide +kernel
theorem dX10_countBuild_67 : decode cX10_countBuild 67 = .ok (.iconst 5, 1) := by decide +kernel
theorem dX10_countBuild_68 : decode cX10_countBuild 68 = .ok (.iload_n 2, 1) := by decide +kernel
theorem dX10_countBuild_69 : decode cX10_countBuild 69 = .ok (.imul, 1) := by decide +kernel
theorem dX10_countBuild_70 : decode cX10_countBuild 70 = .ok (.iaload, 1) := by decide +kernel
theorem dX10_countBuild_71 : decode cX10_countBuild 71 = .ok (.iload_n 3, 1) := by decide +kernel
theorem dX10_countBuild_72 : decode cX10_countBuild 72 = .ok (.ifCond .eq 7, 3) := by decide +kernel
theorem dX10_countBuild_75 : decode cX10_countBuild 75 = .ok (.iconst 1, 1) := by decide +kernel
theorem dX10_countBuild_76 : decode cX10_countBuild 76 = .ok (.goto 4, 3) := by decide +kernel
theorem dX10_countBuild_79 : decode cX10_countBuild 79 = .ok (.iconst 0, 1) := by decide +kernel
theorem dX10_countBuild_80 : decode cX10_countBuild 80 = .ok (.if_icmp .ne 7, 3) := by decide +kernel
theorem dX10_countBuild_83 : decode cX10_countBuild 83 = .ok (.iconst 1, 1) := by decide +kernel
theorem dX10_countBuild_84 : decode cX10_countBuild 84 = .ok (.goto 4, 3) := by decide +kernel
theorem dX10_countBuild_87 : decode cX10_countBuild 87 = .ok (.iconst 0, 1) := by decide +kernel
theorem dX10_countBuild_88 : decode cX10_countBuild 88 = .ok (.iand, 1) := by decide +kernel
theorem dX10_countBuild_89 : decode cX10_countBuild 89 = .ok (.istore_n 1, 1) := by decide +kernel
theorem dX10_countBuild_90 : decode cX10_countBuild 90 = .ok (.iconst 1, 1) := by decide +kernel
theorem dX10_countBuild_91 : decode cX10_countBuild 91 = .ok (.istore 4, 2) := by decide +kernel
theorem dX10_countBuild_93 : decode cX10_countBuild 93 = .ok (.iload 4, 2) := by decide +kernel
theorem dX10_countBuild_95 : decode cX10_countBuild 95 = .ok (.iconst 4, 1) := by decide +kernel
theorem dX10_countBuild_96 : decode cX10_countBuild 96 = .ok (.if_icmp .gt 42, 3) := by decide +kernel
theorem dX10_countBuild_99 : decode cX10_countBuild 99 = .ok (.iload_n 3, 1) := by decide +kernel
theorem dX10_countBuild_100 : decode cX10_countBuild 100 = .ok (.ifCond .eq 38, 3) := by decide +kernel
theorem dX10_countBuild_103 : decode cX10_countBuild 103 = .ok (.iload_n 1, 1) := by decide +kernel
theorem dX10_countBuild_104 : decode cX10_countBuild 104 = .ok (.aload_n 0, 1) := by decide +kernel
theorem dX10_countBuild_105 : decode cX10_countBuild 105 = .ok (.getfield 35, 3) := by decide +kernel
theorem dX10_countBuild_108 : decode cX10_countBuild 108 = .ok (.iconst 5, 1) := by decide +kernel
theorem dX10_countBuild_109 : decode cX10_countBuild 109 = .ok (.iload_n 2, 1) := by decide +kernel
theorem dX10_countBuild_110 : decode cX10_countBuild 110 = .ok (.imul, 1) := by decide +kernel
theorem dX10_countBuild_111 : decode cX10_countBuild 111 = .ok (.iload 4, 2) := by decide +kernel
theorem dX10_countBuild_113 : decode cX10_countBuild 113 = .ok (.iadd, 1) := by decide +kernel
theorem dX10_countBuild_114 : decode cX10_countBuild 114 = .ok (.iaload, 1) := by decide +kernel
theorem dX10_countBuild_115 : decode cX10_countBuild 115 = .ok (.aload_n 0, 1) := by decide +kernel
theorem dX10_countBuild_116 : decode cX10_countBuild 116 = .ok (.iload_n 2, 1) := by decide +kernel
theorem dX10_countBuild_117 : decode cX10_countBuild 117 = .ok (.iload 4, 2) := by decide +kernel
theorem dX10_countBuild_119 : decode cX10_countBuild 119 = .ok (.invokevirtual 129, 3) := by decide +kernel
theorem dX10_countBuild_122 : decode cX10_countBuild 122 = .ok (.if_icmp .ne 7, 3) := by decide +kernel
theorem dX10_countBuild_125 : decode cX10_countBuild 125 = .ok (.iconst 1, 1) := by decide +kernel
theorem dX10_countBuild_126 : decode cX10_countBuild 126 = .ok (.goto 4, 3) := by decide +kernel
theorem dX10_countBuild_129 : decode cX10_countBuild 129 = .ok (.iconst 0, 1) := by decide +kernel
theorem dX10_countBuild_130 : decode cX10_countBuild 130 = .ok (.iand, 1) := by decide +kernel
theorem dX10_countBuild_131 : decode cX10_countBuild 131 = .ok (.istore_n 1, 1) := by decide +kernel
theorem dX10_countBuild_132 : decode cX10_countBuild 132 = .ok (.iinc 4 1, 3) := by decide +kernel
theorem dX10_countBuild_135 : decode cX10_countBuild 135 = .ok (.goto (-42), 3) := by decide +kernel
theorem dX10_countBuild_138 : decode cX10_countBuild 138 = .ok (.iinc 2 1, 3) := by decide +kernel
theorem dX10_countBuild_141 : decode cX10_countBuild 141 = .ok (.goto (-111), 3) := by decide +kernel
theorem dX10_countBuild_144 : decode cX10_countBuild 144 = .ok (.iload_n 1, 1) := by decide +kernel
theorem dX10_countBuild_145 : decode cX10_countBuild 145 = .ok (.ifCond .ne 105, 3) := by decide +kernel
theorem dX10_countBuild_148 : decode cX10_countBuild 148 = .ok (.aload_n 0, 1) := by decide +kernel
theorem dX10_countBuild_149 : decode cX10_countBuild 149 = .ok (.dup, 1) := by decide +kernel
theorem dX10_countBuild_150 : decode cX10_countBuild 150 = .ok (.getfield 263, 3) := by decide +kernel
theorem dX10_countBuild_153 : decode cX10_countBuild 153 = .ok (.iconst 1, 1) := by decide +kernel
theorem dX10_countBuild_154 : decode cX10_countBuild 154 = .ok (.iadd, 1) := by decide +kernel
theorem dX10_countBuild_155 : decode cX10_countBuild 155 = .ok (.putfield 263, 3) := by decide +kernel
theorem dX10_countBuild_158 : decode cX10_countBuild 158 = .ok (.aload_n 0, 1) := by decide +kernel
theorem dX10_countBuild_159 : decode cX10_countBuild 159 = .ok (.aload_n 0, 1) := by decide +kernel
theorem dX10_countBuild_160 : decode cX10_countBuild 160 = .ok (.getfield 13, 3) := by decide +kernel
theorem dX10_countBuild_163 : decode cX10_countBuild 163 = .ok (.putfield 38, 3) := by decide +kernel
theorem dX10_countBuild_166 : decode cX10_countBuild 166 = .ok (.aload_n 0, 1) := by decide +kernel
theorem dX10_countBuild_167 : decode cX10_countBuild 167 = .ok (.aload_n 0, 1) := by decide +kernel
theorem dX10_countBuild_168 : decode cX10_countBuild 168 = .ok (.getfield 17, 3) := by decide +kernel
theorem dX10_countBuild_171 : decode cX10_countBuild 171 = .ok (.putfield 41, 3) := by decide +kernel
theorem dX10_countBuild_174 : decode cX10_countBuild 174 = .ok (.iconst 0, 1) := by decide +kernel
theorem dX10_countBuild_175 : decode cX10_countBuild 175 = .ok (.istore_n 2, 1) := by decide +kernel
theorem dX10_countBuild_176 : decode cX10_countBuild 176 = .ok (.iload_n 2, 1) := by decide +kernel
theorem dX10_countBuild_177 : decode cX10_countBuild 177 = .ok (.bipush 12, 2) := by decide +kernel
theorem dX10_countBuild_179 : decode cX10_countBuild 179 = .ok (.if_icmp .ge 71, 3) := by decide +kernel
theorem dX10_countBuild_182 : decode cX10_countBuild 182 = .ok (.aload_n 0, 1) := by decide +kernel
theorem dX10_countBuild_183 : decode cX10_countBuild 183 = .ok (.getfield 35, 3) := by decide +kernel
theorem dX10_countBuild_186 : decode cX10_countBuild 186 = .ok (.iconst 5, 1) := by decide +kernel
theorem dX10_countBuild_187 : decode cX10_countBuild 187 = .ok (.iload_n 2, 1) := by decide +kernel
theorem dX10_countBuild_188 : decode cX10_countBuild 188 = .ok (.imul, 1) := by decide +kernel
theorem dX10_countBuild_189 : decode cX10_countBuild 189 = .ok (.aload_n 0, 1) := by decide +kernel
theorem dX10_countBuild_190 : decode cX10_countBuild 190 = .ok (.iload_n 2, 1) := by decide +kernel
theorem dX10_countBuild_191 : decode cX10_countBuild 191 = .ok (.iconst 0, 1) := by decide +kernel
theorem dX10_countBuild_192 : decode cX10_countBuild 192 = .ok (.invokevirtual 129, 3) := by decide +kernel
theorem dX10_countBuild_195 : decode cX10_countBuild 195 = .ok (.iconst 1, 1) := by decide +kernel
theorem dX10_countBuild_196 : decode cX10_countBuild 196 = .ok (.if_icmp .ne 17, 3) := by decide +kernel
theorem dX10_countBuild_199 : decode cX10_countBuild 199 = .ok (.aload_n 0, 1) := by decide +kernel
theorem dX10_countBuild_200 : decode cX10_countBuild 200 = .ok (.iload_n 2, 1) := by decide +kernel
theorem dX10_countBuild_201 : decode cX10_countBuild 201 = .ok (.bipush 6, 2) := by decide +kernel
theorem dX10_countBuild_203 : decode cX10_countBuild 203 = .ok (.invokevirtual 129, 3) := by decide +kernel
theorem dX10_countBuild_206 : decode cX10_countBuild 206 = .ok (.ifCond .ne 7, 3) := by decide +kernel
theorem dX10_countBuild_209 : decode cX10_countBuild 209 = .ok (.iconst 1, 1) := by decide +kernel
theorem dX10_countBuild_210 : decode cX10_countBuild 210 = .ok (.goto 4, 3) := by decide +kernel
theorem dX10_countBuild_213 : decode cX10_countBuild 213 = .ok (.iconst 0, 1) := by decide +kernel
theorem dX10_countBuild_214 : decode cX10_countBuild 214 = .ok (.iastore, 1) := by decide +kernel
theorem dX10_countBuild_215 : decode cX10_countBuild 215 = .ok (.iconst 1, 1) := by decide +kernel
theorem dX10_countBuild_216 : decode cX10_countBuild 216 = .ok (.istore_n 3, 1) := by decide +kernel
theorem dX10_countBuild_217 : decode cX10_countBuild 217 = .ok (.iload_n 3, 1) := by decide +kernel
theorem dX10_countBuild_218 : decode cX10_countBuild 218 = .ok (.iconst 4, 1) := by decide +kernel
theorem dX10_countBuild_219 : decode cX10_countBuild 219 = .ok (.if_icmp .gt 25, 3) := by decide +kernel
theorem dX10_countBuild_222 : decode cX10_countBuild 222 = .ok (.aload_n 0, 1) := by decide +kernel
theorem dX10_countBuild_223 : decode cX10_countBuild 223 = .ok (.getfield 35, 3) := by decide +kernel
theorem dX10_countBuild_226 : decode cX10_countBuild 226 = .ok (.iconst 5, 1) := by decide +kernel
theorem dX10_countBuild_227 : decode cX10_countBuild 227 = .ok (.iload_n 2, 1) := by decide +kernel
theorem dX10_countBuild_228 : decode cX10_countBuild 228 = .ok (.imul, 1) := by decide +kernel
theorem dX10_countBuild_229 : decode cX10_countBuild 229 = .ok (.iload_n 3, 1) := by decide +kernel
theorem dX10_countBuild_230 : decode cX10_countBuild 230 = .ok (.iadd, 1) := by decide +kernel
theorem dX10_countBuild_231 : decode cX10_countBuild 231 = .ok (.aload_n 0, 1) := by decide +kernel
theorem dX10_countBuild_232 : decode cX10_countBuild 232 = .ok (.iload_n 2, 1) := by decide +kernel
theorem dX10_countBuild_233 : decode cX10_countBuild 233 = .ok (.iload_n 3, 1) := by decide +kernel
theorem dX10_countBuild_234 : decode cX10_countBuild 234 = .ok (.invokevirtual 129, 3) := by decide +kernel
theorem dX10_countBuild_237 : decode cX10_countBuild 237 = .ok (.iastore, 1) := by decide +kernel
theorem dX10_countBuild_238 : decode cX10_countBuild 238 = .ok (.iinc 3 1, 3) := by decide +kernel
theorem dX10_countBuild_241 : decode cX10_countBuild 241 = .ok (.goto (-24), 3) := by decide +kernel
theorem dX10_countBuild_244 : decode cX10_countBuild 244 = .ok (.iinc 2 1, 3) := by decide +kernel
theorem dX10_countBuild_247 : decode cX10_countBuild 247 = .ok (.goto (-71), 3) := by decide +kernel
theorem dX10_countBuild_250 : decode cX10_countBuild 250 = .ok (.return_, 1) := by decide +kernel
theorem dX10_tree_0 : decode cX10_tree 0 = .ok (.aload_n 0, 1) := by decide +kernel
theorem dX10_tree_1 : decode cX10_tree 1 = .ok (.invokevirtual 266, 3) := by decide +kernel
theorem dX10_tree_4 : decode cX10_tree 4 = .ok (.aload_n 0, 1) := by decide +kernel
theorem dX10_tree_5 : decode cX10_tree 5 = .ok (.aload_n 0, 1) := by decide +kernel
theorem dX10_tree_6 : decode cX10_tree 6 = .ok (.getfield 13, 3) := by decide +kernel
theorem dX10_tree_9 : decode cX10_tree 9 = .ok (.aload_n 0, 1) := by decide +kernel
theorem dX10_tree_10 : decode cX10_tree 10 = .ok (.getfield 17, 3) := by decide +kernel
theorem dX10_tree_13 : decode cX10_tree 13 = .ok (.invokevirtual 269, 3) := by decide +kernel
theorem dX10_tree_16 : decode cX10_tree 16 = .ok (.iconst 0, 1) := by decide +kernel
theorem dX10_tree_17 : decode cX10_tree 17 = .ok (.istore_n 1, 1) := by decide +kernel
theorem dX10_tree_18 : decode cX10_tree 18 = .ok (.iload_n 1, 1) := by decide +kernel
theorem dX10_tree_19 : decode cX10_tree 19 = .ok (.bipush 12, 2) := by decide +kernel
theorem dX10_tree_21 : decode cX10_tree 21 = .ok (.if_icmp .ge 35, 3) := by decide +kernel
theorem dX10_tree_24 : decode cX10_tree 24 = .ok (.aload_n 0, 1) := by decide +kernel
theorem dX10_tree_25 : decode cX10_tree 25 = .ok (.iload_n 1, 1) := by decide +kernel
theorem dX10_tree_26 : decode cX10_tree 26 = .ok (.iconst 0, 1) := by decide +kernel
theorem dX10_tree_27 : decode cX10_tree 27 = .ok (.invokevirtual 129, 3) := by decide +kernel
theorem dX10_tree_30 : decode cX10_tree 30 = .ok (.iconst 1, 1) := by decide +kernel
theorem dX10_tree_31 : decode cX10_tree 31 = .ok (.if_icmp .ne 19, 3) := by decide +kernel
theorem dX10_tree_34 : decode cX10_tree 34 = .ok (.aload_n 0, 1) := by decide +kernel
theorem dX10_tree_35 : decode cX10_tree 35 = .ok (.iload_n 1, 1) := by decide +kernel
theorem dX10_tree_36 : decode cX10_tree 36 = .ok (.bipush 6, 2) := by decide +kernel
theorem dX10_tree_38 : decode cX10_tree 38 = .ok (.invokevirtual 129, 3) := by decide +kernel
theorem dX10_tree_41 : decode cX10_tree 41 = .ok (.iconst 1, 1) := by decide +kernel
theorem dX10_tree_42 : decode cX10_tree 42 = .ok (.if_icmp .ne 8, 3) := by decide +kernel
theorem dX10_tree_45 : decode cX10_tree 45 = .ok (.aload_n 0, 1) := by decide +kernel
theorem dX10_tree_46 : decode cX10_tree 46 = .ok (.iload_n 1, 1) := by decide +kernel
theorem dX10_tree_47 : decode cX10_tree 47 = .ok (.invokevirtual 272, 3) := by decide +kernel
theorem dX10_tree_50 : decode cX10_tree 50 = .ok (.iinc 1 1, 3) := by decide +kernel
theorem dX10_tree_53 : decode cX10_tree 53 = .ok (.goto (-35), 3) := by decide +kernel
theorem dX10_tree_56 : decode cX10_tree 56 = .ok (.aload_n 0, 1) := by decide +kernel
theorem dX10_tree_57 : decode cX10_tree 57 = .ok (.invokevirtual 276, 3) := by decide +kernel
theorem dX10_tree_60 : decode cX10_tree 60 = .ok (.return_, 1) := by decide +kernel
theorem dX10_nodeCount_0 : decode cX10_nodeCount 0 = .ok (.aload_n 0, 1) := by decide +kernel
theorem dX10_nodeCount_1 : decode cX10_nodeCount 1 = .ok (.invokevirtual 278, 3) := by decide +kernel
theorem dX10_nodeCount_4 : decode cX10_nodeCount 4 = .ok (.aload_n 0, 1) := by decide +kernel
theorem dX10_nodeCount_5 : decode cX10_nodeCount 5 = .ok (.getfield 209, 3) := by decide +kernel
theorem dX10_nodeCount_8 : decode cX10_nodeCount 8 = .ok (.ireturn, 1) := by decide +kernel
theorem dX10_nodeWall_0 : decode cX10_nodeWall 0 = .ok (.aload_n 0, 1) := by decide +kernel
theorem dX10_nodeWall_1 : decode cX10_nodeWall 1 = .ok (.invokevirtual 278, 3) := by decide +kernel
theorem dX10_nodeWall_4 : decode cX10_nodeWall 4 = .ok (.iload_n 1, 1) := by decide +kernel
theorem dX10_nodeWall_5 : decode cX10_nodeWall 5 = .ok (.ifCond .lt 11, 3) := by decide +kernel
theorem dX10_nodeWall_8 : decode cX10_nodeWall 8 = .ok (.iload_n 1, 1) := by decide +kernel
theorem dX10_nodeWall_9 : decode cX10_nodeWall 9 = .ok (.aload_n 0, 1) := by decide +kernel
theorem dX10_nodeWall_10 : decode cX10_nodeWall 10 = .ok (.getfield 209, 3) := by decide +kernel
theorem dX10_nodeWall_13 : decode cX10_nodeWall 13 = .ok (.if_icmp .lt 8, 3) := by decide +kernel
theorem dX10_nodeWall_16 : decode cX10_nodeWall 16 = .ok (.bipush (-7), 2) := by decide +kernel
theorem dX10_nodeWall_18 : decode cX10_nodeWall 18 = .ok (.goto 14, 3) := by decide +kernel
theorem dX10_nodeWall_21 : decode cX10_nodeWall 21 = .ok (.aload_n 0, 1) := by decide +kernel
theorem dX10_nodeWall_22 : decode cX10_nodeWall 22 = .ok (.getfield 47, 3) := by decide +kernel
theorem dX10_nodeWall_25 : decode cX10_nodeWall 25 = .ok (.aload_n 0, 1) := by decide +kernel
theorem dX10_nodeWall_26 : decode cX10_nodeWall 26 = .ok (.getfield 89, 3) := by decide +kernel
theorem dX10_nodeWall_29 : decode cX10_nodeWall 29 = .ok (.iload_n 1, 1) := by decide +kernel
theorem dX10_nodeWall_30 : decode cX10_nodeWall 30 = .ok (.iaload, 1) := by decide +kernel
theorem dX10_nodeWall_31 : decode cX10_nodeWall 31 = .ok (.iaload, 1) := by decide +kernel
theorem dX10_nodeWall_32 : decode cX10_nodeWall 32 = .ok (.ireturn, 1) := by decide +kernel
theorem dX10_nodeChild_0 : decode cX10_nodeChild 0 = .ok (.iload_n 2, 1) := by decide +kernel
theorem dX10_nodeChild_1 : decode cX10_nodeChild 1 = .ok (.ifCond .lt 8, 3) := by decide +kernel
theorem dX10_nodeChild_4 : decode cX10_nodeChild 4 = .ok (.iload_n 2, 1) := by decide +kernel
theorem dX10_nodeChild_5 : decode cX10_nodeChild 5 = .ok (.iconst 1, 1) := by decide +kernel
theorem dX10_nodeChild_6 : decode cX10_nodeChild 6 = .ok (.if_icmp .le 6, 3) := by decide +kernel
theorem dX10_nodeChild_9 : decode cX10_nodeChild 9 = .ok (.bipush (-2), 2) := by decide +kernel
theorem dX10_nodeChild_11 : decode cX10_nodeChild 11 = .ok (.ireturn, 1) := by decide +kernel
theorem dX10_nodeChild_12 : decode cX10_nodeChild 12 = .ok (.aload_n 0, 1) := by decide +kernel
theorem dX10_nodeChild_13 : decode cX10_nodeChild 13 = .ok (.invokevirtual 278, 3) := by decide +kernel
theorem dX10_nodeChild_16 : decode cX10_nodeChild 16 = .ok (.iload_n 1, 1) := by decide +kernel
theorem dX10_nodeChild_17 : decode cX10_nodeChild 17 = .ok (.ifCond .lt 11, 3) := by decide +kernel
theorem dX10_nodeChild_20 : decode cX10_nodeChild 20 = .ok (.iload_n 1, 1) := by decide +kernel
theorem dX10_nodeChild_21 : decode cX10_nodeChild 21 = .ok (.aload_n 0, 1) := by decide +kernel
theorem dX10_nodeChild_22 : decode cX10_nodeChild 22 = .ok (.getfield 209, 3) := by decide +kernel
theorem dX10_nodeChild_25 : decode cX10_nodeChild 25 = .ok (.if_icmp .lt 6, 3) := by decide +kernel
theorem dX10_nodeChild_28 : decode cX10_nodeChild 28 = .ok (.bipush (-7), 2) := by decide +kernel
theorem dX10_nodeChild_30 : decode cX10_nodeChild 30 = .ok (.ireturn, 1) := by decide +kernel
theorem dX10_nodeChild_31 : decode cX10_nodeChild 31 = .ok (.iload_n 2, 1) := by decide +kernel
theorem dX10_nodeChild_32 : decode cX10_nodeChild 32 = .ok (.ifCond .ne 17, 3) := by decide +kernel
theorem dX10_nodeChild_35 : decode cX10_nodeChild 35 = .ok (.aload_n 0, 1) := by decide +kernel
theorem dX10_nodeChild_36 : decode cX10_nodeChild 36 = .ok (.getfield 50, 3) := by decide +kernel
theorem dX10_nodeChild_39 : decode cX10_nodeChild 39 = .ok (.aload_n 0, 1) := by decide +kernel
theorem dX10_nodeChild_40 : decode cX10_nodeChild 40 = .ok (.getfield 89, 3) := by decide +kernel
theorem dX10_nodeChild_43 : decode cX10_nodeChild 43 = .ok (.iload_n 1, 1) := by decide +kernel
theorem dX10_nodeChild_44 : decode cX10_nodeChild 44 = .ok (.iaload, 1) := by decide +kernel
theorem dX10_nodeChild_45 : decode cX10_nodeChild 45 = .ok (.iaload, 1) := by decide +kernel
theorem dX10_nodeChild_46 : decode cX10_nodeChild 46 = .ok (.goto 14, 3) := by decide +kernel
theorem dX10_nodeChild_49 : decode cX10_nodeChild 49 = .ok (.aload_n 0, 1) := by decide +kernel
theorem dX10_nodeChild_50 : decode cX10_nodeChild 50 = .ok (.getfield 53, 3) := by decide +kernel
theorem dX10_nodeChild_53 : decode cX10_nodeChild 53 = .ok (.aload_n 0, 1) := by decide +kernel
theorem dX10_nodeChild_54 : decode cX10_nodeChild 54 = .ok (.getfield 89, 3) := by decide +kernel
theorem dX10_nodeChild_57 : decode cX10_nodeChild 57 = .ok (.iload_n 1, 1) := by decide +kernel
theorem dX10_nodeChild_58 : decode cX10_nodeChild 58 = .ok (.iaload, 1) := by decide +kernel
theorem dX10_nodeChild_59 : decode cX10_nodeChild 59 = .ok (.iaload, 1) := by decide +kernel
theorem dX10_nodeChild_60 : decode cX10_nodeChild 60 = .ok (.istore_n 3, 1) := by decide +kernel
theorem dX10_nodeChild_61 : decode cX10_nodeChild 61 = .ok (.iload_n 3, 1) := by decide +kernel
theorem dX10_nodeChild_62 : decode cX10_nodeChild 62 = .ok (.ifCond .ge 8, 3) := by decide +kernel
theorem dX10_nodeChild_65 : decode cX10_nodeChild 65 = .ok (.bipush (-8), 2) := by decide +kernel
theorem dX10_nodeChild_67 : decode cX10_nodeChild 67 = .ok (.goto 9, 3) := by decide +kernel
theorem dX10_nodeChild_70 : decode cX10_nodeChild 70 = .ok (.aload_n 0, 1) := by decide +kernel
theorem dX10_nodeChild_71 : decode cX10_nodeChild 71 = .ok (.getfield 92, 3) := by decide +kernel
theorem dX10_nodeChild_74 : decode cX10_nodeChild 74 = .ok (.iload_n 3, 1) := by decide +kernel
theorem dX10_nodeChild_75 : decode cX10_nodeChild 75 = .ok (.iaload, 1) := by decide +kernel
theorem dX10_nodeChild_76 : decode cX10_nodeChild 76 = .ok (.ireturn, 1) := by decide +kernel
theorem dX10_nodeDepth_0 : decode cX10_nodeDepth 0 = .ok (.aload_n 0, 1) := by decide +kernel
theorem dX10_nodeDepth_1 : decode cX10_nodeDepth 1 = .ok (.invokevirtual 278, 3) := by decide +kernel
theorem dX10_nodeDepth_4 : decode cX10_nodeDepth 4 = .ok (.iload_n 1, 1) := by decide +kernel
theorem dX10_nodeDepth_5 : decode cX10_nodeDepth 5 = .ok (.ifCond .lt 11, 3) := by decide +kernel
theorem dX10_nodeDepth_8 : decode cX10_nodeDepth 8 = .ok (.iload_n 1, 1) := by decide +kernel
theorem dX10_nodeDepth_9 : decode cX10_nodeDepth 9 = .ok (.aload_n 0, 1) := by decide +kernel
theorem dX10_nodeDepth_10 : decode cX10_nodeDepth 10 = .ok (.getfield 209, 3) := by decide +kernel
theorem dX10_nodeDepth_13 : decode cX10_nodeDepth 13 = .ok (.if_icmp .lt 8, 3) := by decide +kernel
theorem dX10_nodeDepth_16 : decode cX10_nodeDepth 16 = .ok (.bipush (-7), 2) := by decide +kernel
theorem dX10_nodeDepth_18 : decode cX10_nodeDepth 18 = .ok (.goto 14, 3) := by decide +kernel
theorem dX10_nodeDepth_21 : decode cX10_nodeDepth 21 = .ok (.aload_n 0, 1) := by decide +kernel
theorem dX10_nodeDepth_22 : decode cX10_nodeDepth 22 = .ok (.getfield 95, 3) := by decide +kernel
theorem dX10_nodeDepth_25 : decode cX10_nodeDepth 25 = .ok (.aload_n 0, 1) := by decide +kernel
theorem dX10_nodeDepth_26 : decode cX10_nodeDepth 26 = .ok (.getfield 89, 3) := by decide +kernel
theorem dX10_nodeDepth_29 : decode cX10_nodeDepth 29 = .ok (.iload_n 1, 1) := by decide +kernel
theorem dX10_nodeDepth_30 : decode cX10_nodeDepth 30 = .ok (.iaload, 1) := by decide +kernel
theorem dX10_nodeDepth_31 : decode cX10_nodeDepth 31 = .ok (.iaload, 1) := by decide +kernel
theorem dX10_nodeDepth_32 : decode cX10_nodeDepth 32 = .ok (.ireturn, 1) := by decide +kernel
theorem dX10_pieceCount_0 : decode cX10_pieceCount 0 = .ok (.aload_n 0, 1) := by decide +kernel
theorem dX10_pieceCount_1 : decode cX10_pieceCount 1 = .ok (.invokevirtual 278, 3) := by decide +kernel
theorem dX10_pieceCount_4 : decode cX10_pieceCount 4 = .ok (.aload_n 0, 1) := by decide +kernel
theorem dX10_pieceCount_5 : decode cX10_pieceCount 5 = .ok (.getfield 206, 3) := by decide +kernel
theorem dX10_pieceCount_8 : decode cX10_pieceCount 8 = .ok (.ireturn, 1) := by decide +kernel
theorem dX10_pieceWall_0 : decode cX10_pieceWall 0 = .ok (.aload_n 0, 1) := by decide +kernel
theorem dX10_pieceWall_1 : decode cX10_pieceWall 1 = .ok (.invokevirtual 278, 3) := by decide +kernel
theorem dX10_pieceWall_4 : decode cX10_pieceWall 4 = .ok (.iload_n 1, 1) := by decide +kernel
theorem dX10_pieceWall_5 : decode cX10_pieceWall 5 = .ok (.ifCond .lt 11, 3) := by decide +kernel
theorem dX10_pieceWall_8 : decode cX10_pieceWall 8 = .ok (.iload_n 1, 1) := by decide +kernel
theorem dX10_pieceWall_9 : decode cX10_pieceWall 9 = .ok (.aload_n 0, 1) := by decide +kernel
theorem dX10_pieceWall_10 : decode cX10_pieceWall 10 = .ok (.getfield 206, 3) := by decide +kernel
theorem dX10_pieceWall_13 : decode cX10_pieceWall 13 = .ok (.if_icmp .lt 8, 3) := by decide +kernel
theorem dX10_pieceWall_16 : decode cX10_pieceWall 16 = .ok (.bipush (-6), 2) := by decide +kernel
theorem dX10_pieceWall_18 : decode cX10_pieceWall 18 = .ok (.goto 14, 3) := by decide +kernel
theorem dX10_pieceWall_21 : decode cX10_pieceWall 21 = .ok (.aload_n 0, 1) := by decide +kernel
theorem dX10_pieceWall_22 : decode cX10_pieceWall 22 = .ok (.getfield 62, 3) := by decide +kernel
theorem dX10_pieceWall_25 : decode cX10_pieceWall 25 = .ok (.aload_n 0, 1) := by decide +kernel
theorem dX10_pieceWall_26 : decode cX10_pieceWall 26 = .ok (.getfield 98, 3) := by decide +kernel
theorem dX10_pieceWall_29 : decode cX10_pieceWall 29 = .ok (.iload_n 1, 1) := by decide +kernel
theorem dX10_pieceWall_30 : decode cX10_pieceWall 30 = .ok (.iaload, 1) := by decide +kernel
theorem dX10_pieceWall_31 : decode cX10_pieceWall 31 = .ok (.iaload, 1) := by decide +kernel
theorem dX10_pieceWall_32 : decode cX10_pieceWall 32 = .ok (.ireturn, 1) := by decide +kernel
theorem dX10_pieceNode_0 : decode cX10_pieceNode 0 = .ok (.aload_n 0, 1) := by decide +kernel
theorem dX10_pieceNode_1 : decode cX10_pieceNode 1 = .ok (.invokevirtual 278, 3) := by decide +kernel
theorem dX10_pieceNode_4 : decode cX10_pieceNode 4 = .ok (.iload_n 1, 1) := by decide +kernel
theorem dX10_pieceNode_5 : decode cX10_pieceNode 5 = .ok (.ifCond .lt 11, 3) := by decide +kernel
theorem dX10_pieceNode_8 : decode cX10_pieceNode 8 = .ok (.iload_n 1, 1) := by decide +kernel
theorem dX10_pieceNode_9 : decode cX10_pieceNode 9 = .ok (.aload_n 0, 1) := by decide +kernel
theorem dX10_pieceNode_10 : decode cX10_pieceNode 10 = .ok (.getfield 206, 3) := by decide +kernel
theorem dX10_pieceNode_13 : decode cX10_pieceNode 13 = .ok (.if_icmp .lt 8, 3) := by decide +kernel
theorem dX10_pieceNode_16 : decode cX10_pieceNode 16 = .ok (.bipush (-6), 2) := by decide +kernel
theorem dX10_pieceNode_18 : decode cX10_pieceNode 18 = .ok (.goto 19, 3) := by decide +kernel
theorem dX10_pieceNode_21 : decode cX10_pieceNode 21 = .ok (.aload_n 0, 1) := by decide +kernel
theorem dX10_pieceNode_22 : decode cX10_pieceNode 22 = .ok (.getfield 92, 3) := by decide +kernel
theorem dX10_pieceNode_25 : decode cX10_pieceNode 25 = .ok (.aload_n 0, 1) := by decide +kernel
theorem dX10_pieceNode_26 : decode cX10_pieceNode 26 = .ok (.getfield 65, 3) := by decide +kernel
theorem dX10_pieceNode_29 : decode cX10_pieceNode 29 = .ok (.aload_n 0, 1) := by decide +kernel
theorem dX10_pieceNode_30 : decode cX10_pieceNode 30 = .ok (.getfield 98, 3) := by decide +kernel
theorem dX10_pieceNode_33 : decode cX10_pieceNode 33 = .ok (.iload_n 1, 1) := by decide +kernel
theorem dX10_pieceNode_34 : decode cX10_pieceNode 34 = .ok (.iaload, 1) := by decide +kernel
theorem dX10_pieceNode_35 : decode cX10_pieceNode 35 = .ok (.iaload, 1) := by decide +kernel
theorem dX10_pieceNode_36 : decode cX10_pieceNode 36 = .ok (.iaload, 1) := by decide +kernel
theorem dX10_pieceNode_37 : decode cX10_pieceNode 37 = .ok (.ireturn, 1) := by decide +kernel
theorem dX10_pieceBound_0 : decode cX10_pieceBound 0 = .ok (.iload_n 2, 1) := by decide +kernel
theorem dX10_pieceBound_1 : decode cX10_pieceBound 1 = .ok (.ifCond .lt 8, 3) := by decide +kernel
theorem dX10_pieceBound_4 : decode cX10_pieceBound 4 = .ok (.iload_n 2, 1) := by decide +kernel
theorem dX10_pieceBound_5 : decode cX10_pieceBound 5 = .ok (.iconst 3, 1) := by decide +kernel
theorem dX10_pieceBound_6 : decode cX10_pieceBound 6 = .ok (.if_icmp .le 6, 3) := by decide +kernel
theorem dX10_pieceBound_9 : decode cX10_pieceBound 9 = .ok (.bipush (-2), 2) := by decide +kernel
theorem dX10_pieceBound_11 : decode cX10_pieceBound 11 = .ok (.ireturn, 1) := by decide +kernel
theorem dX10_pieceBound_12 : decode cX10_pieceBound 12 = .ok (.aload_n 0, 1) := by decide +kernel
theorem dX10_pieceBound_13 : decode cX10_pieceBound 13 = .ok (.invokevirtual 278, 3) := by decide +kernel
theorem dX10_pieceBound_16 : decode cX10_pieceBound 16 = .ok (.iload_n 1, 1) := by decide +kernel
theorem dX10_pieceBound_17 : decode cX10_pieceBound 17 = .ok (.ifCond .lt 11, 3) := by decide +kernel
theorem dX10_pieceBound_20 : decode cX10_pieceBound 20 = .ok (.iload_n 1, 1) := by decide +kernel
theorem dX10_pieceBound_21 : decode cX10_pieceBound 21 = .ok (.aload_n 0, 1) := by decide +kernel
theorem dX10_pieceBound_22 : decode cX10_pieceBound 22 = .ok (.getfield 206, 3) := by decide +kernel
theorem dX10_pieceBound_25 : decode cX10_pieceBound 25 = .ok (.if_icmp .lt 8, 3) := by decide +kernel
theorem dX10_pieceBound_28 : decode cX10_pieceBound 28 = .ok (.bipush (-6), 2) := by decide +kernel
theorem dX10_pieceBound_30 : decode cX10_pieceBound 30 = .ok (.goto 18, 3) := by decide +kernel
theorem dX10_pieceBound_33 : decode cX10_pieceBound 33 = .ok (.aload_n 0, 1) := by decide +kernel
theorem dX10_pieceBound_34 : decode cX10_pieceBound 34 = .ok (.getfield 68, 3) := by decide +kernel
theorem dX10_pieceBound_37 : decode cX10_pieceBound 37 = .ok (.iconst 4, 1) := by decide +kernel
theorem dX10_pieceBound_38 : decode cX10_pieceBound 38 = .ok (.aload_n 0, 1) := by decide +kernel
theorem dX10_pieceBound_39 : decode cX10_pieceBound 39 = .ok (.getfield 98, 3) := by decide +kernel
theorem dX10_pieceBound_42 : decode cX10_pieceBound 42 = .ok (.iload_n 1, 1) := by decide +kernel
theorem dX10_pieceBound_43 : decode cX10_pieceBound 43 = .ok (.iaload, 1) := by decide +kernel
theorem dX10_pieceBound_44 : decode cX10_pieceBound 44 = .ok (.imul, 1) := by decide +kernel
theorem dX10_pieceBound_45 : decode cX10_pieceBound 45 = .ok (.iload_n 2, 1) := by decide +kernel
theorem dX10_pieceBound_46 : decode cX10_pieceBound 46 = .ok (.iadd, 1) := by decide +kernel
theorem dX10_pieceBound_47 : decode cX10_pieceBound 47 = .ok (.iaload, 1) := by decide +kernel
theorem dX10_pieceBound_48 : decode cX10_pieceBound 48 = .ok (.ireturn, 1) := by decide +kernel
theorem dX10_squaredLength_0 : decode cX10_squaredLength 0 = .ok (.aload_n 0, 1) := by decide +kernel
theorem dX10_squaredLength_1 : decode cX10_squaredLength 1 = .ok (.iload_n 1, 1) := by decide +kernel
theorem dX10_squaredLength_2 : decode cX10_squaredLength 2 = .ok (.iconst 3, 1) := by decide +kernel
theorem dX10_squaredLength_3 : decode cX10_squaredLength 3 = .ok (.invokevirtual 129, 3) := by decide +kernel
theorem dX10_squaredLength_6 : decode cX10_squaredLength 6 = .ok (.aload_n 0, 1) := by decide +kernel
theorem dX10_squaredLength_7 : decode cX10_squaredLength 7 = .ok (.iload_n 1, 1) := by decide +kernel
theorem dX10_squaredLength_8 : decode cX10_squaredLength 8 = .ok (.iconst 1, 1) := by decide +kernel
theorem dX10_squaredLength_9 : decode cX10_squaredLength 9 = .ok (.invokevirtual 129, 3) := by decide +kernel
theorem dX10_squaredLength_12 : decode cX10_squaredLength 12 = .ok (.isub, 1) := by decide +kernel
theorem dX10_squaredLength_13 : decode cX10_squaredLength 13 = .ok (.istore_n 2, 1) := by decide +kernel
theorem dX10_squaredLength_14 : decode cX10_squaredLength 14 = .ok (.aload_n 0, 1) := by decide +kernel
theorem dX10_squaredLength_15 : decode cX10_squaredLength 15 = .ok (.iload_n 1, 1) := by decide +kernel
theorem dX10_squaredLength_16 : decode cX10_squaredLength 16 = .ok (.iconst 4, 1) := by decide +kernel
theorem dX10_squaredLength_17 : decode cX10_squaredLength 17 = .ok (.invokevirtual 129, 3) := by decide +kernel
theorem dX10_squaredLength_20 : decode cX10_squaredLength 20 = .ok (.aload_n 0, 1) := by decide +kernel
theorem dX10_squaredLength_21 : decode cX10_squaredLength 21 = .ok (.iload_n 1, 1) := by decide +kernel
theorem dX10_squaredLength_22 : decode cX10_squaredLength 22 = .ok (.iconst 2, 1) := by decide +kernel
theorem dX10_squaredLength_23 : decode cX10_squaredLength 23 = .ok (.invokevirtual 129, 3) := by decide +kernel
theorem dX10_squaredLength_26 : decode cX10_squaredLength 26 = .ok (.isub, 1) := by decide +kernel
theorem dX10_squaredLength_27 : decode cX10_squaredLength 27 = .ok (.istore_n 3, 1) := by decide +kernel
theorem dX10_squaredLength_28 : decode cX10_squaredLength 28 = .ok (.iload_n 2, 1) := by decide +kernel
theorem dX10_squaredLength_29 : decode cX10_squaredLength 29 = .ok (.iload_n 2, 1) := by decide +kernel
theorem dX10_squaredLength_30 : decode cX10_squaredLength 30 = .ok (.imul, 1) := by decide +kernel
theorem dX10_squaredLength_31 : decode cX10_squaredLength 31 = .ok (.iload_n 3, 1) := by decide +kernel
theorem dX10_squaredLength_32 : decode cX10_squaredLength 32 = .ok (.iload_n 3, 1) := by decide +kernel
theorem dX10_squaredLength_33 : decode cX10_squaredLength 33 = .ok (.imul, 1) := by decide +kernel
theorem dX10_squaredLength_34 : decode cX10_squaredLength 34 = .ok (.iadd, 1) := by decide +kernel
theorem dX10_squaredLength_35 : decode cX10_squaredLength 35 = .ok (.ireturn, 1) := by decide +kernel
theorem dX10_root_0 : decode cX10_root 0 = .ok (.lconst 0, 1) := by decide +kernel
theorem dX10_root_1 : decode cX10_root 1 = .ok (.lstore_n 1, 1) := by decide +kernel
theorem dX10_root_2 : decode cX10_root 2 = .ok (.lconst 0, 1) := by decide +kernel
theorem dX10_root_3 : decode cX10_root 3 = .ok (.lstore_n 3, 1) := by decide +kernel
theorem dX10_root_4 : decode cX10_root 4 = .ok (.iconst 0, 1) := by decide +kernel
theorem dX10_root_5 : decode cX10_root 5 = .ok (.istore 5, 2) := by decide +kernel
theorem dX10_root_7 : decode cX10_root 7 = .ok (.bipush 12, 2) := by decide +kernel
theorem dX10_root_9 : decode cX10_root 9 = .ok (.istore 6, 2) := by decide +kernel
theorem dX10_root_11 : decode cX10_root 11 = .ok (.lload_n 1, 1) := by decide +kernel
theorem dX10_root_12 : decode cX10_root 12 = .ok (.ldc2_w 281, 3) := by decide +kernel
theorem dX10_root_15 : decode cX10_root 15 = .ok (.lcmp, 1) := by decide +kernel
theorem dX10_root_16 : decode cX10_root 16 = .ok (.ifCond .ge 78, 3) := by decide +kernel
theorem dX10_root_19 : decode cX10_root 19 = .ok (.ldc2_w 283, 3) := by decide +kernel
theorem dX10_root_22 : decode cX10_root 22 = .ok (.lload_n 3, 1) := by decide +kernel
theorem dX10_root_23 : decode cX10_root 23 = .ok (.lmul, 1) := by decide +kernel
theorem dX10_root_24 : decode cX10_root 24 = .ok (.iload 6, 2) := by decide +kernel
theorem dX10_root_26 : decode cX10_root 26 = .ok (.ifCond .lt 12, 3) := by decide +kernel
theorem dX10_root_29 : decode cX10_root 29 = .ok (.iload_n 0, 1) := by decide +kernel
theorem dX10_root_30 : decode cX10_root 30 = .ok (.iload 6, 2) := by decide +kernel
theorem dX10_root_32 : decode cX10_root 32 = .ok (.ishr, 1) := by decide +kernel
theorem dX10_root_33 : decode cX10_root 33 = .ok (.iconst 3, 1) := by decide +kernel
theorem dX10_root_34 : decode cX10_root 34 = .ok (.iand, 1) := by decide +kernel
theorem dX10_root_35 : decode cX10_root 35 = .ok (.goto 4, 3) := by decide +kernel
theorem dX10_root_38 : decode cX10_root 38 = .ok (.iconst 0, 1) := by decide +kernel
theorem dX10_root_39 : decode cX10_root 39 = .ok (.i2l, 1) := by decide +kernel
theorem dX10_root_40 : decode cX10_root 40 = .ok (.ladd, 1) := by decide +kernel
theorem dX10_root_41 : decode cX10_root 41 = .ok (.lstore_n 3, 1) := by decide +kernel
theorem dX10_root_42 : decode cX10_root 42 = .ok (.ldc2_w 283, 3) := by decide +kernel
theorem dX10_root_45 : decode cX10_root 45 = .ok (.lload_n 1, 1) := by decide +kernel
theorem dX10_root_46 : decode cX10_root 46 = .ok (.lmul, 1) := by decide +kernel
theorem dX10_root_47 : decode cX10_root 47 = .ok (.lconst 1, 1) := by decide +kernel
theorem dX10_root_48 : decode cX10_root 48 = .ok (.ladd, 1) := by decide +kernel
theorem dX10_root_49 : decode cX10_root 49 = .ok (.lstore 7, 2) := by decide +kernel
theorem dX10_root_51 : decode cX10_root 51 = .ok (.ldc2_w 285, 3) := by decide +kernel
theorem dX10_root_54 : decode cX10_root 54 = .ok (.lload_n 1, 1) := by decide +kernel
theorem dX10_root_55 : decode cX10_root 55 = .ok (.lmul, 1) := by decide +kernel
theorem dX10_root_56 : decode cX10_root 56 = .ok (.lstore_n 1, 1) := by decide +kernel
theorem dX10_root_57 : decode cX10_root 57 = .ok (.lload_n 3, 1) := by decide +kernel
theorem dX10_root_58 : decode cX10_root 58 = .ok (.lload 7, 2) := by decide +kernel
theorem dX10_root_60 : decode cX10_root 60 = .ok (.lcmp, 1) := by decide +kernel
theorem dX10_root_61 : decode cX10_root 61 = .ok (.ifCond .lt 12, 3) := by decide +kernel
theorem dX10_root_64 : decode cX10_root 64 = .ok (.lload_n 3, 1) := by decide +kernel
theorem dX10_root_65 : decode cX10_root 65 = .ok (.lload 7, 2) := by decide +kernel
theorem dX10_root_67 : decode cX10_root 67 = .ok (.lsub, 1) := by decide +kernel
theorem dX10_root_68 : decode cX10_root 68 = .ok (.lstore_n 3, 1) := by decide +kernel
theorem dX10_root_69 : decode cX10_root 69 = .ok (.lload_n 1, 1) := by decide +kernel
theorem dX10_root_70 : decode cX10_root 70 = .ok (.lconst 1, 1) := by decide +kernel
theorem dX10_root_71 : decode cX10_root 71 = .ok (.ladd, 1) := by decide +kernel
theorem dX10_root_72 : decode cX10_root 72 = .ok (.lstore_n 1, 1) := by decide +kernel
theorem dX10_root_73 : decode cX10_root 73 = .ok (.iload 5, 2) := by decide +kernel
theorem dX10_root_75 : decode cX10_root 75 = .ok (.iload 6, 2) := by decide +kernel
theorem dX10_root_77 : decode cX10_root 77 = .ok (.ifCond .ge 7, 3) := by decide +kernel
theorem dX10_root_80 : decode cX10_root 80 = .ok (.iconst 1, 1) := by decide +kernel
theorem dX10_root_81 : decode cX10_root 81 = .ok (.goto 4, 3) := by decide +kernel
theorem dX10_root_84 : decode cX10_root 84 = .ok (.iconst 0, 1) := by decide +kernel
theorem dX10_root_85 : decode cX10_root 85 = .ok (.iadd, 1) := by decide +kernel
theorem dX10_root_86 : decode cX10_root 86 = .ok (.istore 5, 2) := by decide +kernel
theorem dX10_root_88 : decode cX10_root 88 = .ok (.iinc 6 (-2), 3) := by decide +kernel
theorem dX10_root_91 : decode cX10_root 91 = .ok (.goto (-80), 3) := by decide +kernel
theorem dX10_root_94 : decode cX10_root 94 = .ok (.lload_n 3, 1) := by decide +kernel
theorem dX10_root_95 : decode cX10_root 95 = .ok (.lload_n 1, 1) := by decide +kernel
theorem dX10_root_96 : decode cX10_root 96 = .ok (.lcmp, 1) := by decide +kernel
theorem dX10_root_97 : decode cX10_root 97 = .ok (.ifCond .le 9, 3) := by decide +kernel
theorem dX10_root_100 : decode cX10_root 100 = .ok (.lload_n 1, 1) := by decide +kernel
theorem dX10_root_101 : decode cX10_root 101 = .ok (.lconst 1, 1) := by decide +kernel
theorem dX10_root_102 : decode cX10_root 102 = .ok (.ladd, 1) := by decide +kernel
theorem dX10_root_103 : decode cX10_root 103 = .ok (.goto 4, 3) := by decide +kernel
theorem dX10_root_106 : decode cX10_root 106 = .ok (.lload_n 1, 1) := by decide +kernel
theorem dX10_root_107 : decode cX10_root 107 = .ok (.l2d, 1) := by decide +kernel
theorem dX10_root_108 : decode cX10_root 108 = .ok (.dstore 7, 2) := by decide +kernel
theorem dX10_root_110 : decode cX10_root 110 = .ok (.iconst 0, 1) := by decide +kernel
theorem dX10_root_111 : decode cX10_root 111 = .ok (.istore 9, 2) := by decide +kernel
theorem dX10_root_113 : decode cX10_root 113 = .ok (.iload 9, 2) := by decide +kernel
theorem dX10_root_115 : decode cX10_root 115 = .ok (.iload 5, 2) := by decide +kernel
theorem dX10_root_117 : decode cX10_root 117 = .ok (.if_icmp .ge 17, 3) := by decide +kernel
theorem dX10_root_120 : decode cX10_root 120 = .ok (.dload 7, 2) := by decide +kernel
theorem dX10_root_122 : decode cX10_root 122 = .ok (.ldc2_w 287, 3) := by decide +kernel
theorem dX10_root_125 : decode cX10_root 125 = .ok (.ddiv, 1) := by decide +kernel
theorem dX10_root_126 : decode cX10_root 126 = .ok (.dstore 7, 2) := by decide +kernel
theorem dX10_root_128 : decode cX10_root 128 = .ok (.iinc 9 1, 3) := by decide +kernel
theorem dX10_root_131 : decode cX10_root 131 = .ok (.goto (-18), 3) := by decide +kernel
theorem dX10_root_134 : decode cX10_root 134 = .ok (.dload 7, 2) := by decide +kernel
theorem dX10_root_136 : decode cX10_root 136 = .ok (.dreturn, 1) := by decide +kernel
theorem dX10_pieceLength_0 : decode cX10_pieceLength 0 = .ok (.aload_n 0, 1) := by decide +kernel
theorem dX10_pieceLength_1 : decode cX10_pieceLength 1 = .ok (.invokevirtual 278, 3) := by decide +kernel
theorem dX10_pieceLength_4 : decode cX10_pieceLength 4 = .ok (.iload_n 1, 1) := by decide +kernel
theorem dX10_pieceLength_5 : decode cX10_pieceLength 5 = .ok (.ifCond .lt 11, 3) := by decide +kernel
theorem dX10_pieceLength_8 : decode cX10_pieceLength 8 = .ok (.iload_n 1, 1) := by decide +kernel
theorem dX10_pieceLength_9 : decode cX10_pieceLength 9 = .ok (.aload_n 0, 1) := by decide +kernel
theorem dX10_pieceLength_10 : decode cX10_pieceLength 10 = .ok (.getfield 206, 3) := by decide +kernel
theorem dX10_pieceLength_13 : decode cX10_pieceLength 13 = .ok (.if_icmp .lt 7, 3) := by decide +kernel
theorem dX10_pieceLength_16 : decode cX10_pieceLength 16 = .ok (.ldc2_w 289, 3) := by decide +kernel
theorem dX10_pieceLength_19 : decode cX10_pieceLength 19 = .ok (.dreturn, 1) := by decide +kernel
theorem dX10_pieceLength_20 : decode cX10_pieceLength 20 = .ok (.aload_n 0, 1) := by decide +kernel
theorem dX10_pieceLength_21 : decode cX10_pieceLength 21 = .ok (.getfield 98, 3) := by decide +kernel
theorem dX10_pieceLength_24 : decode cX10_pieceLength 24 = .ok (.iload_n 1, 1) := by decide +kernel
theorem dX10_pieceLength_25 : decode cX10_pieceLength 25 = .ok (.iaload, 1) := by decide +kernel
theorem dX10_pieceLength_26 : decode cX10_pieceLength 26 = .ok (.istore_n 2, 1) := by decide +kernel
theorem dX10_pieceLength_27 : decode cX10_pieceLength 27 = .ok (.aload_n 0, 1) := by decide +kernel
theorem dX10_pieceLength_28 : decode cX10_pieceLength 28 = .ok (.getfield 68, 3) := by decide +kernel
theorem dX10_pieceLength_31 : decode cX10_pieceLength 31 = .ok (.iconst 4, 1) := by decide +kernel
theorem dX10_pieceLength_32 : decode cX10_pieceLength 32 = .ok (.iload_n 2, 1) := by decide +kernel
theorem dX10_pieceLength_33 : decode cX10_pieceLength 33 = .ok (.imul, 1) := by decide +kernel
theorem dX10_pieceLength_34 : decode cX10_pieceLength 34 = .ok (.iaload, 1) := by decide +kernel
theorem dX10_pieceLength_35 : decode cX10_pieceLength 35 = .ok (.i2d, 1) := by decide +kernel
theorem dX10_pieceLength_36 : decode cX10_pieceLength 36 = .ok (.aload_n 0, 1) := by decide +kernel
theorem dX10_pieceLength_37 : decode cX10_pieceLength 37 = .ok (.getfield 68, 3) := by decide +kernel
theorem dX10_pieceLength_40 : decode cX10_pieceLength 40 = .ok (.iconst 4, 1) := by decide +kernel
theorem dX10_pieceLength_41 : decode cX10_pieceLength 41 = .ok (.iload_n 2, 1) := by decide +kernel
theorem dX10_pieceLength_42 : decode cX10_pieceLength 42 = .ok (.imul, 1) := by decide +kernel
theorem dX10_pieceLength_43 : decode cX10_pieceLength 43 = .ok (.iconst 1, 1) := by decide +kernel
theorem dX10_pieceLength_44 : decode cX10_pieceLength 44 = .ok (.iadd, 1) := by decide +kernel
theorem dX10_pieceLength_45 : decode cX10_pieceLength 45 = .ok (.iaload, 1) := by decide +kernel
theorem dX10_pieceLength_46 : decode cX10_pieceLength 46 = .ok (.i2d, 1) := by decide +kernel
theorem dX10_pieceLength_47 : decode cX10_pieceLength 47 = .ok (.ddiv, 1) := by decide +kernel
theorem dX10_pieceLength_48 : decode cX10_pieceLength 48 = .ok (.dstore_n 3, 1) := by decide +kernel
theorem dX10_pieceLength_49 : decode cX10_pieceLength 49 = .ok (.aload_n 0, 1) := by decide +kernel
theorem dX10_pieceLength_50 : decode cX10_pieceLength 50 = .ok (.getfield 68, 3) := by decide +kernel
theorem dX10_pieceLength_53 : decode cX10_pieceLength 53 = .ok (.iconst 4, 1) := by decide +kernel
theorem dX10_pieceLength_54 : decode cX10_pieceLength 54 = .ok (.iload_n 2, 1) := by decide +kernel
theorem dX10_pieceLength_55 : decode cX10_pieceLength 55 = .ok (.imul, 1) := by decide +kernel
theorem dX10_pieceLength_56 : decode cX10_pieceLength 56 = .ok (.iconst 2, 1) := by decide +kernel
theorem dX10_pieceLength_57 : decode cX10_pieceLength 57 = .ok (.iadd, 1) := by decide +kernel
theorem dX10_pieceLength_58 : decode cX10_pieceLength 58 = .ok (.iaload, 1) := by decide +kernel
theorem dX10_pieceLength_59 : decode cX10_pieceLength 59 = .ok (.i2d, 1) := by decide +kernel
theorem dX10_pieceLength_60 : decode cX10_pieceLength 60 = .ok (.aload_n 0, 1) := by decide +kernel
theorem dX10_pieceLength_61 : decode cX10_pieceLength 61 = .ok (.getfield 68, 3) := by decide +kernel
theorem dX10_pieceLength_64 : decode cX10_pieceLength 64 = .ok (.iconst 4, 1) := by decide +kernel
theorem dX10_pieceLength_65 : decode cX10_pieceLength 65 = .ok (.iload_n 2, 1) := by decide +kernel
theorem dX10_pieceLength_66 : decode cX10_pieceLength 66 = .ok (.imul, 1) := by decide +kernel
theorem dX10_pieceLength_67 : decode cX10_pieceLength 67 = .ok (.iconst 3, 1) := by decide +kernel
theorem dX10_pieceLength_68 : decode cX10_pieceLength 68 = .ok (.iadd, 1) := by decide +kernel
theorem dX10_pieceLength_69 : decode cX10_pieceLength 69 = .ok (.iaload, 1) := by decide +kernel
theorem dX10_pieceLength_70 : decode cX10_pieceLength 70 = .ok (.i2d, 1) := by decide +kernel
theorem dX10_pieceLength_71 : decode cX10_pieceLength 71 = .ok (.ddiv, 1) := by decide +kernel
theorem dX10_pieceLength_72 : decode cX10_pieceLength 72 = .ok (.dstore 5, 2) := by decide +kernel
theorem dX10_pieceLength_74 : decode cX10_pieceLength 74 = .ok (.dload 5, 2) := by decide +kernel
theorem dX10_pieceLength_76 : decode cX10_pieceLength 76 = .ok (.dload_n 3, 1) := by decide +kernel
theorem dX10_pieceLength_77 : decode cX10_pieceLength 77 = .ok (.dsub, 1) := by decide +kernel
theorem dX10_pieceLength_78 : decode cX10_pieceLength 78 = .ok (.aload_n 0, 1) := by decide +kernel
theorem dX10_pieceLength_79 : decode cX10_pieceLength 79 = .ok (.aload_n 0, 1) := by decide +kernel
theorem dX10_pieceLength_80 : decode cX10_pieceLength 80 = .ok (.getfield 62, 3) := by decide +kernel
theorem dX10_pieceLength_83 : decode cX10_pieceLength 83 = .ok (.iload_n 2, 1) := by decide +kernel
theorem dX10_pieceLength_84 : decode cX10_pieceLength 84 = .ok (.iaload, 1) := by decide +kernel
theorem dX10_pieceLength_85 : decode cX10_pieceLength 85 = .ok (.invokevirtual 291, 3) := by decide +kernel
theorem dX10_pieceLength_88 : decode cX10_pieceLength 88 = .ok (.invokestatic 294, 3) := by decide +kernel
theorem dX10_pieceLength_91 : decode cX10_pieceLength 91 = .ok (.dmul, 1) := by decide +kernel
theorem dX10_pieceLength_92 : decode cX10_pieceLength 92 = .ok (.dreturn, 1) := by decide +kernel
theorem dX10_isPoint_0 : decode cX10_isPoint 0 = .ok (.iload_n 0, 1) := by decide +kernel
theorem dX10_isPoint_1 : decode cX10_isPoint 1 = .ok (.invokestatic 125, 3) := by decide +kernel
theorem dX10_isPoint_4 : decode cX10_isPoint 4 = .ok (.ifCond .eq 14, 3) := by decide +kernel
theorem dX10_isPoint_7 : decode cX10_isPoint 7 = .ok (.iload_n 1, 1) := by decide +kernel
theorem dX10_isPoint_8 : decode cX10_isPoint 8 = .ok (.invokestatic 125, 3) := by decide +kernel
theorem dX10_isPoint_11 : decode cX10_isPoint 11 = .ok (.ifCond .eq 7, 3) := by decide +kernel
theorem dX10_isPoint_14 : decode cX10_isPoint 14 = .ok (.iconst 1, 1) := by decide +kernel
theorem dX10_isPoint_15 : decode cX10_isPoint 15 = .ok (.goto 4, 3) := by decide +kernel
theorem dX10_isPoint_18 : decode cX10_isPoint 18 = .ok (.iconst 0, 1) := by decide +kernel
theorem dX10_isPoint_19 : decode cX10_isPoint 19 = .ok (.ireturn, 1) := by decide +kernel
theorem dX10_locate_0 : decode cX10_locate 0 = .ok (.iload_n 1, 1) := by decide +kernel
theorem dX10_locate_1 : decode cX10_locate 1 = .ok (.iload_n 2, 1) := by decide +kernel
theorem dX10_locate_2 : decode cX10_locate 2 = .ok (.invokestatic 297, 3) := by decide +kernel
theorem dX10_locate_5 : decode cX10_locate 5 = .ok (.ifCond .ne 6, 3) := by decide +kernel
theorem dX10_locate_8 : decode cX10_locate 8 = .ok (.bipush (-2), 2) := by decide +kernel
theorem dX10_locate_10 : decode cX10_locate 10 = .ok (.ireturn, 1) := by decide +kernel
theorem dX10_locate_11 : decode cX10_locate 11 = .ok (.aload_n 0, 1) := by decide +kernel
theorem dX10_locate_12 : decode cX10_locate 12 = .ok (.invokevirtual 278, 3) := by decide +kernel
theorem dX10_locate_15 : decode cX10_locate 15 = .ok (.iconst (-1), 1) := by decide +kernel
theorem dX10_locate_16 : decode cX10_locate 16 = .ok (.istore_n 3, 1) := by decide +kernel
theorem dX10_locate_17 : decode cX10_locate 17 = .ok (.aload_n 0, 1) := by decide +kernel
theorem dX10_locate_18 : decode cX10_locate 18 = .ok (.getfield 212, 3) := by decide +kernel
theorem dX10_locate_21 : decode cX10_locate 21 = .ok (.istore 4, 2) := by decide +kernel
theorem dX10_locate_23 : decode cX10_locate 23 = .ok (.iload 4, 2) := by decide +kernel
theorem dX10_locate_25 : decode cX10_locate 25 = .ok (.ifCond .lt 72, 3) := by decide +kernel
theorem dX10_locate_28 : decode cX10_locate 28 = .ok (.aload_n 0, 1) := by decide +kernel
theorem dX10_locate_29 : decode cX10_locate 29 = .ok (.aload_n 0, 1) := by decide +kernel
theorem dX10_locate_30 : decode cX10_locate 30 = .ok (.getfield 47, 3) := by decide +kernel
theorem dX10_locate_33 : decode cX10_locate 33 = .ok (.iload 4, 2) := by decide +kernel
theorem dX10_locate_35 : decode cX10_locate 35 = .ok (.iaload, 1) := by decide +kernel
theorem dX10_locate_36 : decode cX10_locate 36 = .ok (.iload_n 1, 1) := by decide +kernel
theorem dX10_locate_37 : decode cX10_locate 37 = .ok (.iload_n 2, 1) := by decide +kernel
theorem dX10_locate_38 : decode cX10_locate 38 = .ok (.invokevirtual 183, 3) := by decide +kernel
theorem dX10_locate_41 : decode cX10_locate 41 = .ok (.ifCond .lt 7, 3) := by decide +kernel
theorem dX10_locate_44 : decode cX10_locate 44 = .ok (.iconst 1, 1) := by decide +kernel
theorem dX10_locate_45 : decode cX10_locate 45 = .ok (.goto 4, 3) := by decide +kernel
theorem dX10_locate_48 : decode cX10_locate 48 = .ok (.iconst 0, 1) := by decide +kernel
theorem dX10_locate_49 : decode cX10_locate 49 = .ok (.istore 5, 2) := by decide +kernel
theorem dX10_locate_51 : decode cX10_locate 51 = .ok (.iload 5, 2) := by decide +kernel
theorem dX10_locate_53 : decode cX10_locate 53 = .ok (.ifCond .eq 10, 3) := by decide +kernel
theorem dX10_locate_56 : decode cX10_locate 56 = .ok (.iconst 2, 1) := by decide +kernel
theorem dX10_locate_57 : decode cX10_locate 57 = .ok (.iload 4, 2) := by decide +kernel
theorem dX10_locate_59 : decode cX10_locate 59 = .ok (.imul, 1) := by decide +kernel
theorem dX10_locate_60 : decode cX10_locate 60 = .ok (.goto 9, 3) := by decide +kernel
theorem dX10_locate_63 : decode cX10_locate 63 = .ok (.iconst 2, 1) := by decide +kernel
theorem dX10_locate_64 : decode cX10_locate 64 = .ok (.iload 4, 2) := by decide +kernel
theorem dX10_locate_66 : decode cX10_locate 66 = .ok (.imul, 1) := by decide +kernel
theorem dX10_locate_67 : decode cX10_locate 67 = .ok (.iconst 1, 1) := by decide +kernel
theorem dX10_locate_68 : decode cX10_locate 68 = .ok (.iadd, 1) := by decide +kernel
theorem dX10_locate_69 : decode cX10_locate 69 = .ok (.istore_n 3, 1) := by decide +kernel
theorem dX10_locate_70 : decode cX10_locate 70 = .ok (.iload 5, 2) := by decide +kernel
theorem dX10_locate_72 : decode cX10_locate 72 = .ok (.ifCond .eq 13, 3) := by decide +kernel
theorem dX10_locate_75 : decode cX10_locate 75 = .ok (.aload_n 0, 1) := by decide +kernel
theorem dX10_locate_76 : decode cX10_locate 76 = .ok (.getfield 50, 3) := by decide +kernel
theorem dX10_locate_79 : decode cX10_locate 79 = .ok (.iload 4, 2) := by decide +kernel
theorem dX10_locate_81 : decode cX10_locate 81 = .ok (.iaload, 1) := by decide +kernel
theorem dX10_locate_82 : decode cX10_locate 82 = .ok (.goto 10, 3) := by decide +kernel
theorem dX10_locate_85 : decode cX10_locate 85 = .ok (.aload_n 0, 1) := by decide +kernel
theorem dX10_locate_86 : decode cX10_locate 86 = .ok (.getfield 53, 3) := by decide +kernel
theorem dX10_locate_89 : decode cX10_locate 89 = .ok (.iload 4, 2) := by decide +kernel
theorem dX10_locate_91 : decode cX10_locate 91 = .ok (.iaload, 1) := by decide +kernel
theorem dX10_locate_92 : decode cX10_locate 92 = .ok (.istore 4, 2) := by decide +kernel
theorem dX10_locate_94 : decode cX10_locate 94 = .ok (.goto (-71), 3) := by decide +kernel
theorem dX10_locate_97 : decode cX10_locate 97 = .ok (.iload_n 3, 1) := by decide +kernel
theorem dX10_locate_98 : decode cX10_locate 98 = .ok (.ifCond .ge 10, 3) := by decide +kernel
theorem dX10_locate_101 : decode cX10_locate 101 = .ok (.aload_n 0, 1) := by decide +kernel
theorem dX10_locate_102 : decode cX10_locate 102 = .ok (.getfield 251, 3) := by decide +kernel
theorem dX10_locate_105 : decode cX10_locate 105 = .ok (.goto 9, 3) := by decide +kernel
theorem dX10_locate_108 : decode cX10_locate 108 = .ok (.aload_n 0, 1) := by decide +kernel
theorem dX10_locate_109 : decode cX10_locate 109 = .ok (.getfield 107, 3) := by decide +kernel
theorem dX10_locate_112 : decode cX10_locate 112 = .ok (.iload_n 3, 1) := by decide +kernel
theorem dX10_locate_113 : decode cX10_locate 113 = .ok (.iaload, 1) := by decide +kernel
theorem dX10_locate_114 : decode cX10_locate 114 = .ok (.ireturn, 1) := by decide +kernel
theorem dX10_meanLeafDepth_0 : decode cX10_meanLeafDepth 0 = .ok (.aload_n 0, 1) := by decide +kernel
theorem dX10_meanLeafDepth_1 : decode cX10_meanLeafDepth 1 = .ok (.invokevirtual 278, 3) := by decide +kernel
theorem dX10_meanLeafDepth_4 : decode cX10_meanLeafDepth 4 = .ok (.aload_n 0, 1) := by decide +kernel
theorem dX10_meanLeafDepth_5 : decode cX10_meanLeafDepth 5 = .ok (.getfield 254, 3) := by decide +kernel
theorem dX10_meanLeafDepth_8 : decode cX10_meanLeafDepth 8 = .ok (.i2d, 1) := by decide +kernel
theorem dX10_meanLeafDepth_9 : decode cX10_meanLeafDepth 9 = .ok (.aload_n 0, 1) := by decide +kernel
theorem dX10_meanLeafDepth_10 : decode cX10_meanLeafDepth 10 = .ok (.getfield 248, 3) := by decide +kernel
theorem dX10_meanLeafDepth_13 : decode cX10_meanLeafDepth 13 = .ok (.i2d, 1) := by decide +kernel
theorem dX10_meanLeafDepth_14 : decode cX10_meanLeafDepth 14 = .ok (.ddiv, 1) := by decide +kernel
theorem dX10_meanLeafDepth_15 : decode cX10_meanLeafDepth 15 = .ok (.dreturn, 1) := by decide +kernel
theorem dX10_buildCount_0 : decode cX10_buildCount 0 = .ok (.aload_n 0, 1) := by decide +kernel
theorem dX10_buildCount_1 : decode cX10_buildCount 1 = .ok (.getfield 263, 3) := by decide +kernel
theorem dX10_buildCount_4 : decode cX10_buildCount 4 = .ok (.ireturn, 1) := by decide +kernel
theorem dX10_isDrawn_0 : decode cX10_isDrawn 0 = .ok (.aload_n 0, 1) := by decide +kernel
theorem dX10_isDrawn_1 : decode cX10_isDrawn 1 = .ok (.iload_n 1, 1) := by decide +kernel
theorem dX10_isDrawn_2 : decode cX10_isDrawn 2 = .ok (.iload_n 2, 1) := by decide +kernel
theorem dX10_isDrawn_3 : decode cX10_isDrawn 3 = .ok (.iload_n 3, 1) := by decide +kernel
theorem dX10_isDrawn_4 : decode cX10_isDrawn 4 = .ok (.invokevirtual 183, 3) := by decide +kernel
theorem dX10_isDrawn_7 : decode cX10_isDrawn 7 = .ok (.istore 4, 2) := by decide +kernel
theorem dX10_isDrawn_9 : decode cX10_isDrawn 9 = .ok (.aload_n 0, 1) := by decide +kernel
theorem dX10_isDrawn_10 : decode cX10_isDrawn 10 = .ok (.iload_n 1, 1) := by decide +kernel
theorem dX10_isDrawn_11 : decode cX10_isDrawn 11 = .ok (.iconst 5, 1) := by decide +kernel
theorem dX10_isDrawn_12 : decode cX10_isDrawn 12 = .ok (.invokevirtual 129, 3) := by decide +kernel
theorem dX10_isDrawn_15 : decode cX10_isDrawn 15 = .ok (.iconst 2, 1) := by decide +kernel
theorem dX10_isDrawn_16 : decode cX10_isDrawn 16 = .ok (.if_icmp .ne 16, 3) := by decide +kernel
theorem dX10_isDrawn_19 : decode cX10_isDrawn 19 = .ok (.iload 4, 2) := by decide +kernel
theorem dX10_isDrawn_21 : decode cX10_isDrawn 21 = .ok (.ifCond .le 7, 3) := by decide +kernel
theorem dX10_isDrawn_24 : decode cX10_isDrawn 24 = .ok (.iconst 1, 1) := by decide +kernel
theorem dX10_isDrawn_25 : decode cX10_isDrawn 25 = .ok (.goto 17, 3) := by decide +kernel
theorem dX10_isDrawn_28 : decode cX10_isDrawn 28 = .ok (.iconst 0, 1) := by decide +kernel
theorem dX10_isDrawn_29 : decode cX10_isDrawn 29 = .ok (.goto 13, 3) := by decide +kernel
theorem dX10_isDrawn_32 : decode cX10_isDrawn 32 = .ok (.iload 4, 2) := by decide +kernel
theorem dX10_isDrawn_34 : decode cX10_isDrawn 34 = .ok (.ifCond .eq 7, 3) := by decide +kernel
theorem dX10_isDrawn_37 : decode cX10_isDrawn 37 = .ok (.iconst 1, 1) := by decide +kernel
theorem dX10_isDrawn_38 : decode cX10_isDrawn 38 = .ok (.goto 4, 3) := by decide +kernel
theorem dX10_isDrawn_41 : decode cX10_isDrawn 41 = .ok (.iconst 0, 1) := by decide +kernel
theorem dX10_isDrawn_42 : decode cX10_isDrawn 42 = .ok (.ireturn, 1) := by decide +kernel
theorem dX10_draw_0 : decode cX10_draw 0 = .ok (.aload_n 0, 1) := by decide +kernel
theorem dX10_draw_1 : decode cX10_draw 1 = .ok (.invokevirtual 278, 3) := by decide +kernel
theorem dX10_draw_4 : decode cX10_draw 4 = .ok (.aload_n 0, 1) := by decide +kernel
theorem dX10_draw_5 : decode cX10_draw 5 = .ok (.iconst 0, 1) := by decide +kernel
theorem dX10_draw_6 : decode cX10_draw 6 = .ok (.putfield 301, 3) := by decide +kernel
theorem dX10_draw_9 : decode cX10_draw 9 = .ok (.iconst 1, 1) := by decide +kernel
theorem dX10_draw_10 : decode cX10_draw 10 = .ok (.istore_n 3, 1) := by decide +kernel
theorem dX10_draw_11 : decode cX10_draw 11 = .ok (.aload_n 0, 1) := by decide +kernel
theorem dX10_draw_12 : decode cX10_draw 12 = .ok (.getfield 104, 3) := by decide +kernel
theorem dX10_draw_15 : decode cX10_draw 15 = .ok (.iconst 0, 1) := by decide +kernel
theorem dX10_draw_16 : decode cX10_draw 16 = .ok (.iconst 2, 1) := by decide +kernel
theorem dX10_draw_17 : decode cX10_draw 17 = .ok (.aload_n 0, 1) := by decide +kernel
theorem dX10_draw_18 : decode cX10_draw 18 = .ok (.getfield 212, 3) := by decide +kernel
theorem dX10_draw_21 : decode cX10_draw 21 = .ok (.imul, 1) := by decide +kernel
theorem dX10_draw_22 : decode cX10_draw 22 = .ok (.iastore, 1) := by decide +kernel
theorem dX10_draw_23 : decode cX10_draw 23 = .ok (.iload_n 3, 1) := by decide +kernel
theorem dX10_draw_24 : decode cX10_draw 24 = .ok (.ifCond .le 209, 3) := by decide +kernel
theorem dX10_draw_27 : decode cX10_draw 27 = .ok (.iinc 3 (-1), 3) := by decide +kernel
theorem dX10_draw_30 : decode cX10_draw 30 = .ok (.aload_n 0, 1) := by decide +kernel
theorem dX10_draw_31 : decode cX10_draw 31 = .ok (.getfield 104, 3) := by decide +kernel
theorem dX10_draw_34 : decode cX10_draw 34 = .ok (.iload_n 3, 1) := by decide +kernel
theorem dX10_draw_35 : decode cX10_draw 35 = .ok (.iaload, 1) := by decide +kernel
theorem dX10_draw_36 : decode cX10_draw 36 = .ok (.istore 4, 2) := by decide +kernel
theorem dX10_draw_38 : decode cX10_draw 38 = .ok (.iload 4, 2) := by decide +kernel
theorem dX10_draw_40 : decode cX10_draw 40 = .ok (.iconst 1, 1) := by decide +kernel
theorem dX10_draw_41 : decode cX10_draw 41 = .ok (.ishr, 1) := by decide +kernel
theorem dX10_draw_42 : decode cX10_draw 42 = .ok (.istore 5, 2) := by decide +kernel
theorem dX10_draw_44 : decode cX10_draw 44 = .ok (.iload 5, 2) := by decide +kernel
theorem dX10_draw_46 : decode cX10_draw 46 = .ok (.ifCond .lt 77, 3) := by decide +kernel
theorem dX10_draw_49 : decode cX10_draw 49 = .ok (.iload 4, 2) := by decide +kernel
theorem dX10_draw_51 : decode cX10_draw 51 = .ok (.iconst 1, 1) := by decide +kernel
theorem dX10_draw_52 : decode cX10_draw 52 = .ok (.iand, 1) := by decide +kernel
theorem dX10_draw_53 : decode cX10_draw 53 = .ok (.iconst 1, 1) := by decide +kernel
theorem dX10_draw_54 : decode cX10_draw 54 = .ok (.if_icmp .ne 69, 3) := by decide +kernel
theorem dX10_draw_57 : decode cX10_draw 57 = .ok (.aload_n 0, 1) := by decide +kernel
theorem dX10_draw_58 : decode cX10_draw 58 = .ok (.getfield 56, 3) := by decide +kernel
theorem dX10_draw_61 : decode cX10_draw 61 = .ok (.iload 5, 2) := by decide +kernel
theorem dX10_draw_63 : decode cX10_draw 63 = .ok (.iaload, 1) := by decide +kernel
theorem dX10_draw_64 : decode cX10_draw 64 = .ok (.istore 6, 2) := by decide +kernel
theorem dX10_draw_66 : decode cX10_draw 66 = .ok (.iload 6, 2) := by decide +kernel
theorem dX10_draw_68 : decode cX10_draw 68 = .ok (.ifCond .lt 52, 3) := by decide +kernel
theorem dX10_draw_71 : decode cX10_draw 71 = .ok (.aload_n 0, 1) := by decide +kernel
theorem dX10_draw_72 : decode cX10_draw 72 = .ok (.aload_n 0, 1) := by decide +kernel
theorem dX10_draw_73 : decode cX10_draw 73 = .ok (.getfield 62, 3) := by decide +kernel
theorem dX10_draw_76 : decode cX10_draw 76 = .ok (.iload 6, 2) := by decide +kernel
theorem dX10_draw_78 : decode cX10_draw 78 = .ok (.iaload, 1) := by decide +kernel
theorem dX10_draw_79 : decode cX10_draw 79 = .ok (.iload_n 1, 1) := by decide +kernel
theorem dX10_draw_80 : decode cX10_draw 80 = .ok (.iload_n 2, 1) := by decide +kernel
theorem dX10_draw_81 : decode cX10_draw 81 = .ok (.invokevirtual 304, 3) := by decide +kernel
theorem dX10_draw_84 : decode cX10_draw 84 = .ok (.ifCond .eq 24, 3) := by decide +kernel
theorem dX10_draw_87 : decode cX10_draw 87 = .ok (.aload_n 0, 1) := by decide +kernel
theorem dX10_draw_88 : decode cX10_draw 88 = .ok (.getfield 110, 3) := by decide +kernel
theorem dX10_draw_91 : decode cX10_draw 91 = .ok (.aload_n 0, 1) := by decide +kernel
theorem dX10_draw_92 : decode cX10_draw 92 = .ok (.getfield 301, 3) := by decide +kernel
theorem dX10_draw_95 : decode cX10_draw 95 = .ok (.iload 6, 2) := by decide +kernel
theorem dX10_draw_97 : decode cX10_draw 97 = .ok (.iastore, 1) := by decide +kernel
theorem dX10_draw_98 : decode cX10_draw 98 = .ok (.aload_n 0, 1) := by decide +kernel
theorem dX10_draw_99 : decode cX10_draw 99 = .ok (.dup, 1) := by decide +kernel
theorem dX10_draw_100 : decode cX10_draw 100 = .ok (.getfield 301, 3) := by decide +kernel
theorem dX10_draw_103 : decode cX10_draw 103 = .ok (.iconst 1, 1) := by decide +kernel
theorem dX10_draw_104 : decode cX10_draw 104 = .ok (.iadd, 1) := by decide +kernel
theorem dX10_draw_105 : decode cX10_draw 105 = .ok (.putfield 301, 3) := by decide +kernel
theorem dX10_draw_108 : decode cX10_draw 108 = .ok (.aload_n 0, 1) := by decide +kernel
theorem dX10_draw_109 : decode cX10_draw 109 = .ok (.getfield 71, 3) := by decide +kernel
theorem dX10_draw_112 : decode cX10_draw 112 = .ok (.iload 6, 2) := by decide +kernel
theorem dX10_draw_114 : decode cX10_draw 114 = .ok (.iaload, 1) := by decide +kernel
theorem dX10_draw_115 : decode cX10_draw 115 = .ok (.istore 6, 2) := by decide +kernel
theorem dX10_draw_117 : decode cX10_draw 117 = .ok (.goto (-51), 3) := by decide +kernel
theorem dX10_draw_120 : decode cX10_draw 120 = .ok (.goto 110, 3) := by decide +kernel
theorem dX10_draw_123 : decode cX10_draw 123 = .ok (.iload 5, 2) := by decide +kernel
theorem dX10_draw_125 : decode cX10_draw 125 = .ok (.ifCond .lt 105, 3) := by decide +kernel
theorem dX10_draw_128 : decode cX10_draw 128 = .ok (.aload_n 0, 1) := by decide +kernel
theorem dX10_draw_129 : decode cX10_draw 129 = .ok (.aload_n 0, 1) := by decide +kernel
theorem dX10_draw_130 : decode cX10_draw 130 = .ok (.getfield 47, 3) := by decide +kernel
theorem dX10_draw_133 : decode cX10_draw 133 = .ok (.iload 5, 2) := by decide +kernel
theorem dX10_draw_135 : decode cX10_draw 135 = .ok (.iaload, 1) := by decide +kernel
theorem dX10_draw_136 : decode cX10_draw 136 = .ok (.iload_n 1, 1) := by decide +kernel
theorem dX10_draw_137 : decode cX10_draw 137 = .ok (.iload_n 2, 1) := by decide +kernel
theorem dX10_draw_138 : decode cX10_draw 138 = .ok (.invokevirtual 183, 3) := by decide +kernel
theorem dX10_draw_141 : decode cX10_draw 141 = .ok (.ifCond .lt 7, 3) := by decide +kernel
theorem dX10_draw_144 : decode cX10_draw 144 = .ok (.iconst 1, 1) := by decide +kernel
theorem dX10_draw_145 : decode cX10_draw 145 = .ok (.goto 4, 3) := by decide +kernel
theorem dX10_draw_148 : decode cX10_draw 148 = .ok (.iconst 0, 1) := by decide +kernel
theorem dX10_draw_149 : decode cX10_draw 149 = .ok (.istore 6, 2) := by decide +kernel
theorem dX10_draw_151 : decode cX10_draw 151 = .ok (.aload_n 0, 1) := by decide +kernel
theorem dX10_draw_152 : decode cX10_draw 152 = .ok (.getfield 104, 3) := by decide +kernel
theorem dX10_draw_155 : decode cX10_draw 155 = .ok (.iload_n 3, 1) := by decide +kernel
theorem dX10_draw_156 : decode cX10_draw 156 = .ok (.iconst 2, 1) := by decide +kernel
theorem dX10_draw_157 : decode cX10_draw 157 = .ok (.iload 6, 2) := by decide +kernel
theorem dX10_draw_159 : decode cX10_draw 159 = .ok (.ifCond .eq 13, 3) := by decide +kernel
theorem dX10_draw_162 : decode cX10_draw 162 = .ok (.aload_n 0, 1) := by decide +kernel
theorem dX10_draw_163 : decode cX10_draw 163 = .ok (.getfield 50, 3) := by decide +kernel
theorem dX10_draw_166 : decode cX10_draw 166 = .ok (.iload 5, 2) := by decide +kernel
theorem dX10_draw_168 : decode cX10_draw 168 = .ok (.iaload, 1) := by decide +kernel
theorem dX10_draw_169 : decode cX10_draw 169 = .ok (.goto 10, 3) := by decide +kernel
theorem dX10_draw_172 : decode cX10_draw 172 = .ok (.aload_n 0, 1) := by decide +kernel
theorem dX10_draw_173 : decode cX10_draw 173 = .ok (.getfield 53, 3) := by decide +kernel
theorem dX10_draw_176 : decode cX10_draw 176 = .ok (.iload 5, 2) := by decide +kernel
theorem dX10_draw_178 : decode cX10_draw 178 = .ok (.iaload, 1) := by decide +kernel
theorem dX10_draw_179 : decode cX10_draw 179 = .ok (.imul, 1) := by decide +kernel
theorem dX10_draw_180 : decode cX10_draw 180 = .ok (.iastore, 1) := by decide +kernel
theorem dX10_draw_181 : decode cX10_draw 181 = .ok (.aload_n 0, 1) := by decide +kernel
theorem dX10_draw_182 : decode cX10_draw 182 = .ok (.getfield 104, 3) := by decide +kernel
theorem dX10_draw_185 : decode cX10_draw 185 = .ok (.iload_n 3, 1) := by decide +kernel
theorem dX10_draw_186 : decode cX10_draw 186 = .ok (.iconst 1, 1) := by decide +kernel
theorem dX10_draw_187 : decode cX10_draw 187 = .ok (.iadd, 1) := by decide +kernel
theorem dX10_draw_188 : decode cX10_draw 188 = .ok (.iconst 2, 1) := by decide +kernel
theorem dX10_draw_189 : decode cX10_draw 189 = .ok (.iload 5, 2) := by decide +kernel
theorem dX10_draw_191 : decode cX10_draw 191 = .ok (.imul, 1) := by decide +kernel
theorem dX10_draw_192 : decode cX10_draw 192 = .ok (.iconst 1, 1) := by decide +kernel
theorem dX10_draw_193 : decode cX10_draw 193 = .ok (.iadd, 1) := by decide +kernel
theorem dX10_draw_194 : decode cX10_draw 194 = .ok (.iastore, 1) := by decide +kernel
theorem dX10_draw_195 : decode cX10_draw 195 = .ok (.aload_n 0, 1) := by decide +kernel
theorem dX10_draw_196 : decode cX10_draw 196 = .ok (.getfield 104, 3) := by decide +kernel
theorem dX10_draw_199 : decode cX10_draw 199 = .ok (.iload_n 3, 1) := by decide +kernel
theorem dX10_draw_200 : decode cX10_draw 200 = .ok (.iconst 2, 1) := by decide +kernel
theorem dX10_draw_201 : decode cX10_draw 201 = .ok (.iadd, 1) := by decide +kernel
theorem dX10_draw_202 : decode cX10_draw 202 = .ok (.iconst 2, 1) := by decide +kernel
theorem dX10_draw_203 : decode cX10_draw 203 = .ok (.iload 6, 2) := by decide +kernel
theorem dX10_draw_205 : decode cX10_draw 205 = .ok (.ifCond .eq 13, 3) := by decide +kernel
theorem dX10_draw_208 : decode cX10_draw 208 = .ok (.aload_n 0, 1) := by decide +kernel
theorem dX10_draw_209 : decode cX10_draw 209 = .ok (.getfield 53, 3) := by decide +kernel
theorem dX10_draw_212 : decode cX10_draw 212 = .ok (.iload 5, 2) := by decide +kernel
theorem dX10_draw_214 : decode cX10_draw 214 = .ok (.iaload, 1) := by decide +kernel
theorem dX10_draw_215 : decode cX10_draw 215 = .ok (.goto 10, 3) := by decide +kernel
theorem dX10_draw_218 : decode cX10_draw 218 = .ok (.aload_n 0, 1) := by decide +kernel
theorem dX10_draw_219 : decode cX10_draw 219 = .ok (.getfield 50, 3) := by decide +kernel
theorem dX10_draw_222 : decode cX10_draw 222 = .ok (.iload 5, 2) := by decide +kernel
theorem dX10_draw_224 : decode cX10_draw 224 = .ok (.iaload, 1) := by decide +kernel
theorem dX10_draw_225 : decode cX10_draw 225 = .ok (.imul, 1) := by decide +kernel
theorem dX10_draw_226 : decode cX10_draw 226 = .ok (.iastore, 1) := by decide +kernel
theorem dX10_draw_227 : decode cX10_draw 227 = .ok (.iinc 3 3, 3) := by decide +kernel
theorem dX10_draw_230 : decode cX10_draw 230 = .ok (.goto (-207), 3) := by decide +kernel
theorem dX10_draw_233 : decode cX10_draw 233 = .ok (.return_, 1) := by decide +kernel
theorem dX10_drawCount_0 : decode cX10_drawCount 0 = .ok (.iload_n 1, 1) := by decide +kernel
theorem dX10_drawCount_1 : decode cX10_drawCount 1 = .ok (.iload_n 2, 1) := by decide +kernel
theorem dX10_drawCount_2 : decode cX10_drawCount 2 = .ok (.invokestatic 297, 3) := by decide +kernel
theorem dX10_drawCount_5 : decode cX10_drawCount 5 = .ok (.ifCond .ne 6, 3) := by decide +kernel
theorem dX10_drawCount_8 : decode cX10_drawCount 8 = .ok (.bipush (-2), 2) := by decide +kernel
theorem dX10_drawCount_10 : decode cX10_drawCount 10 = .ok (.ireturn, 1) := by decide +kernel
theorem dX10_drawCount_11 : decode cX10_drawCount 11 = .ok (.aload_n 0, 1) := by decide +kernel
theorem dX10_drawCount_12 : decode cX10_drawCount 12 = .ok (.iload_n 1, 1) := by decide +kernel
theorem dX10_drawCount_13 : decode cX10_drawCount 13 = .ok (.iload_n 2, 1) := by decide +kernel
theorem dX10_drawCount_14 : decode cX10_drawCount 14 = .ok (.invokevirtual 308, 3) := by decide +kernel
theorem dX10_drawCount_17 : decode cX10_drawCount 17 = .ok (.aload_n 0, 1) := by decide +kernel
theorem dX10_drawCount_18 : decode cX10_drawCount 18 = .ok (.getfield 301, 3) := by decide +kernel
theorem dX10_drawCount_21 : decode cX10_drawCount 21 = .ok (.ireturn, 1) := by decide +kernel
theorem dX10_drawPiece_0 : decode cX10_drawPiece 0 = .ok (.iload_n 1, 1) := by decide +kernel
theorem dX10_drawPiece_1 : decode cX10_drawPiece 1 = .ok (.iload_n 2, 1) := by decide +kernel
theorem dX10_drawPiece_2 : decode cX10_drawPiece 2 = .ok (.invokestatic 297, 3) := by decide +kernel
theorem dX10_drawPiece_5 : decode cX10_drawPiece 5 = .ok (.ifCond .eq 7, 3) := by decide +kernel
theorem dX10_drawPiece_8 : decode cX10_drawPiece 8 = .ok (.iload_n 3, 1) := by decide +kernel
theorem dX10_drawPiece_9 : decode cX10_drawPiece 9 = .ok (.ifCond .ge 6, 3) := by decide +kernel
theorem dX10_drawPiece_12 : decode cX10_drawPiece 12 = .ok (.bipush (-2), 2) := by decide +kernel
theorem dX10_drawPiece_14 : decode cX10_drawPiece 14 = .ok (.ireturn, 1) := by decide +kernel
theorem dX10_drawPiece_15 : decode cX10_drawPiece 15 = .ok (.aload_n 0, 1) := by decide +kernel
theorem dX10_drawPiece_16 : decode cX10_drawPiece 16 = .ok (.iload_n 1, 1) := by decide +kernel
theorem dX10_drawPiece_17 : decode cX10_drawPiece 17 = .ok (.iload_n 2, 1) := by decide +kernel
theorem dX10_drawPiece_18 : decode cX10_drawPiece 18 = .ok (.invokevirtual 308, 3) := by decide +kernel
theorem dX10_drawPiece_21 : decode cX10_drawPiece 21 = .ok (.iload_n 3, 1) := by decide +kernel
theorem dX10_drawPiece_22 : decode cX10_drawPiece 22 = .ok (.aload_n 0, 1) := by decide +kernel
theorem dX10_drawPiece_23 : decode cX10_drawPiece 23 = .ok (.getfield 301, 3) := by decide +kernel
theorem dX10_drawPiece_26 : decode cX10_drawPiece 26 = .ok (.if_icmp .ge 17, 3) := by decide +kernel
theorem dX10_drawPiece_29 : decode cX10_drawPiece 29 = .ok (.aload_n 0, 1) := by decide +kernel
theorem dX10_drawPiece_30 : decode cX10_drawPiece 30 = .ok (.getfield 101, 3) := by decide +kernel
theorem dX10_drawPiece_33 : decode cX10_drawPiece 33 = .ok (.aload_n 0, 1) := by decide +kernel
theorem dX10_drawPiece_34 : decode cX10_drawPiece 34 = .ok (.getfield 110, 3) := by decide +kernel
theorem dX10_drawPiece_37 : decode cX10_drawPiece 37 = .ok (.iload_n 3, 1) := by decide +kernel
theorem dX10_drawPiece_38 : decode cX10_drawPiece 38 = .ok (.iaload, 1) := by decide +kernel
theorem dX10_drawPiece_39 : decode cX10_drawPiece 39 = .ok (.iaload, 1) := by decide +kernel
theorem dX10_drawPiece_40 : decode cX10_drawPiece 40 = .ok (.goto 5, 3) := by decide +kernel
theorem dX10_drawPiece_43 : decode cX10_drawPiece 43 = .ok (.bipush (-8), 2) := by decide +kernel
theorem dX10_drawPiece_45 : decode cX10_drawPiece 45 = .ok (.ireturn, 1) := by decide +kernel
theorem dX10_isHit_0 : decode cX10_isHit 0 = .ok (.aload_n 0, 1) := by decide +kernel
theorem dX10_isHit_1 : decode cX10_isHit 1 = .ok (.iload_n 1, 1) := by decide +kernel
theorem dX10_isHit_2 : decode cX10_isHit 2 = .ok (.iconst 3, 1) := by decide +kernel
theorem dX10_isHit_3 : decode cX10_isHit 3 = .ok (.invokevirtual 129, 3) := by decide +kernel
theorem dX10_isHit_6 : decode cX10_isHit 6 = .ok (.aload_n 0, 1) := by decide +kernel
theorem dX10_isHit_7 : decode cX10_isHit 7 = .ok (.iload_n 1, 1) := by decide +kernel
theorem dX10_isHit_8 : decode cX10_isHit 8 = .ok (.iconst 1, 1) := by decide +kernel
theorem dX10_isHit_9 : decode cX10_isHit 9 = .ok (.invokevirtual 129, 3) := by decide +kernel
theorem dX10_isHit_12 : decode cX10_isHit 12 = .ok (.isub, 1) := by decide +kernel
theorem dX10_isHit_13 : decode cX10_isHit 13 = .ok (.i2l, 1) := by decide +kernel
theorem dX10_isHit_14 : decode cX10_isHit 14 = .ok (.lstore 6, 2) := by decide +kernel
theorem dX10_isHit_16 : decode cX10_isHit 16 = .ok (.aload_n 0, 1) := by decide +kernel
theorem dX10_isHit_17 : decode cX10_isHit 17 = .ok (.iload_n 1, 1) := by decide +kernel
theorem dX10_isHit_18 : decode cX10_isHit 18 = .ok (.iconst 4, 1) := by decide +kernel
theorem dX10_isHit_19 : decode cX10_isHit 19 = .ok (.invokevirtual 129, 3) := by decide +kernel
theorem dX10_isHit_22 : decode cX10_isHit 22 = .ok (.aload_n 0, 1) := by decide +kernel
theorem dX10_isHit_23 : decode cX10_isHit 23 = .ok (.iload_n 1, 1) := by decide +kernel
theorem dX10_isHit_24 : decode cX10_isHit 24 = .ok (.iconst 2, 1) := by decide +kernel
theorem dX10_isHit_25 : decode cX10_isHit 25 = .ok (.invokevirtual 129, 3) := by decide +kernel
theorem dX10_isHit_28 : decode cX10_isHit 28 = .ok (.isub, 1) := by decide +kernel
theorem dX10_isHit_29 : decode cX10_isHit 29 = .ok (.i2l, 1) := by decide +kernel
theorem dX10_isHit_30 : decode cX10_isHit 30 = .ok (.lstore 8, 2) := by decide +kernel
theorem dX10_isHit_32 : decode cX10_isHit 32 = .ok (.aload_n 0, 1) := by decide +kernel
theorem dX10_isHit_33 : decode cX10_isHit 33 = .ok (.iload_n 1, 1) := by decide +kernel
theorem dX10_isHit_34 : decode cX10_isHit 34 = .ok (.iconst 1, 1) := by decide +kernel
theorem dX10_isHit_35 : decode cX10_isHit 35 = .ok (.invokevirtual 129, 3) := by decide +kernel
theorem dX10_isHit_38 : decode cX10_isHit 38 = .ok (.iload_n 2, 1) := by decide +kernel
theorem dX10_isHit_39 : decode cX10_isHit 39 = .ok (.isub, 1) := by decide +kernel
theorem dX10_isHit_40 : decode cX10_isHit 40 = .ok (.i2l, 1) := by decide +kernel
theorem dX10_isHit_41 : decode cX10_isHit 41 = .ok (.lstore 10, 2) := by decide +kernel
theorem dX10_isHit_43 : decode cX10_isHit 43 = .ok (.aload_n 0, 1) := by decide +kernel
theorem dX10_isHit_44 : decode cX10_isHit 44 = .ok (.iload_n 1, 1) := by decide +kernel
theorem dX10_isHit_45 : decode cX10_isHit 45 = .ok (.iconst 2, 1) := by decide +kernel
theorem dX10_isHit_46 : decode cX10_isHit 46 = .ok (.invokevirtual 129, 3) := by decide +kernel
theorem dX10_isHit_49 : decode cX10_isHit 49 = .ok (.iload_n 3, 1) := by decide +kernel
theorem dX10_isHit_50 : decode cX10_isHit 50 = .ok (.isub, 1) := by decide +kernel
theorem dX10_isHit_51 : decode cX10_isHit 51 = .ok (.i2l, 1) := by decide +kernel
theorem dX10_isHit_52 : decode cX10_isHit 52 = .ok (.lstore 12, 2) := by decide +kernel
theorem dX10_isHit_54 : decode cX10_isHit 54 = .ok (.iload 4, 2) := by decide +kernel
theorem dX10_isHit_56 : decode cX10_isHit 56 = .ok (.i2l, 1) := by decide +kernel
theorem dX10_isHit_57 : decode cX10_isHit 57 = .ok (.lload 8, 2) := by decide +kernel
theorem dX10_isHit_59 : decode cX10_isHit 59 = .ok (.lmul, 1) := by decide +kernel
theorem dX10_isHit_60 : decode cX10_isHit 60 = .ok (.iload 5, 2) := by decide +kernel
theorem dX10_isHit_62 : decode cX10_isHit 62 = .ok (.i2l, 1) := by decide +kernel
theorem dX10_isHit_63 : decode cX10_isHit 63 = .ok (.lload 6, 2) := by decide +kernel
theorem dX10_isHit_65 : decode cX10_isHit 65 = .ok (.lmul, 1) := by decide +kernel
theorem dX10_isHit_66 : decode cX10_isHit 66 = .ok (.lsub, 1) := by decide +kernel
theorem dX10_isHit_67 : decode cX10_isHit 67 = .ok (.lstore 14, 2) := by decide +kernel
theorem dX10_isHit_69 : decode cX10_isHit 69 = .ok (.lload 14, 2) := by decide +kernel
theorem dX10_isHit_71 : decode cX10_isHit 71 = .ok (.lconst 0, 1) := by decide +kernel
theorem dX10_isHit_72 : decode cX10_isHit 72 = .ok (.lcmp, 1) := by decide +kernel
theorem dX10_isHit_73 : decode cX10_isHit 73 = .ok (.ifCond .ne 5, 3) := by decide +kernel
theorem dX10_isHit_76 : decode cX10_isHit 76 = .ok (.iconst 0, 1) := by decide +kernel
theorem dX10_isHit_77 : decode cX10_isHit 77 = .ok (.ireturn, 1) := by decide +kernel
theorem dX10_isHit_78 : decode cX10_isHit 78 = .ok (.lload 14, 2) := by decide +kernel
theorem dX10_isHit_80 : decode cX10_isHit 80 = .ok (.lconst 0, 1) := by decide +kernel
theorem dX10_isHit_81 : decode cX10_isHit 81 = .ok (.lcmp, 1) := by decide +kernel
theorem dX10_isHit_82 : decode cX10_isHit 82 = .ok (.ifCond .le 7, 3) := by decide +kernel
theorem dX10_isHit_85 : decode cX10_isHit 85 = .ok (.lconst 1, 1) := by decide +kernel
theorem dX10_isHit_86 : decode cX10_isHit 86 = .ok (.goto 6, 3) := by decide +kernel
theorem dX10_isHit_89 : decode cX10_isHit 89 = .ok (.ldc2_w 311, 3) := by decide +kernel
theorem dX10_isHit_92 : decode cX10_isHit 92 = .ok (.lstore 16, 2) := by decide +kernel
theorem dX10_isHit_94 : decode cX10_isHit 94 = .ok (.aload_n 0, 1) := by decide +kernel
theorem dX10_isHit_95 : decode cX10_isHit 95 = .ok (.lload 16, 2) := by decide +kernel
theorem dX10_isHit_97 : decode cX10_isHit 97 = .ok (.lload 14, 2) := by decide +kernel
theorem dX10_isHit_99 : decode cX10_isHit 99 = .ok (.lmul, 1) := by decide +kernel
theorem dX10_isHit_100 : decode cX10_isHit 100 = .ok (.putfield 313, 3) := by decide +kernel
theorem dX10_isHit_103 : decode cX10_isHit 103 = .ok (.aload_n 0, 1) := by decide +kernel
theorem dX10_isHit_104 : decode cX10_isHit 104 = .ok (.lload 16, 2) := by decide +kernel
theorem dX10_isHit_106 : decode cX10_isHit 106 = .ok (.lload 10, 2) := by decide +kernel
theorem dX10_isHit_108 : decode cX10_isHit 108 = .ok (.lload 8, 2) := by decide +kernel
theorem dX10_isHit_110 : decode cX10_isHit 110 = .ok (.lmul, 1) := by decide +kernel
theorem dX10_isHit_111 : decode cX10_isHit 111 = .ok (.lload 12, 2) := by decide +kernel
theorem dX10_isHit_113 : decode cX10_isHit 113 = .ok (.lload 6, 2) := by decide +kernel
theorem dX10_isHit_115 : decode cX10_isHit 115 = .ok (.lmul, 1) := by decide +kernel
theorem dX10_isHit_116 : decode cX10_isHit 116 = .ok (.lsub, 1) := by decide +kernel
theorem dX10_isHit_117 : decode cX10_isHit 117 = .ok (.lmul, 1) := by decide +kernel
theorem dX10_isHit_118 : decode cX10_isHit 118 = .ok (.putfield 317, 3) := by decide +kernel
theorem dX10_isHit_121 : decode cX10_isHit 121 = .ok (.aload_n 0, 1) := by decide +kernel
theorem dX10_isHit_122 : decode cX10_isHit 122 = .ok (.lload 16, 2) := by decide +kernel
theorem dX10_isHit_124 : decode cX10_isHit 124 = .ok (.lload 10, 2) := by decide +kernel
theorem dX10_isHit_126 : decode cX10_isHit 126 = .ok (.iload 5, 2) := by decide +kernel
theorem dX10_isHit_128 : decode cX10_isHit 128 = .ok (.i2l, 1) := by decide +kernel
theorem dX10_isHit_129 : decode cX10_isHit 129 = .ok (.lmul, 1) := by decide +kernel
theorem dX10_isHit_130 : decode cX10_isHit 130 = .ok (.lload 12, 2) := by decide +kernel
theorem dX10_isHit_132 : decode cX10_isHit 132 = .ok (.iload 4, 2) := by decide +kernel
theorem dX10_isHit_134 : decode cX10_isHit 134 = .ok (.i2l, 1) := by decide +kernel
theorem dX10_isHit_135 : decode cX10_isHit 135 = .ok (.lmul, 1) := by decide +kernel
theorem dX10_isHit_136 : decode cX10_isHit 136 = .ok (.lsub, 1) := by decide +kernel
theorem dX10_isHit_137 : decode cX10_isHit 137 = .ok (.lmul, 1) := by decide +kernel
theorem dX10_isHit_138 : decode cX10_isHit 138 = .ok (.putfield 320, 3) := by decide +kernel
theorem dX10_isHit_141 : decode cX10_isHit 141 = .ok (.aload_n 0, 1) := by decide +kernel
theorem dX10_isHit_142 : decode cX10_isHit 142 = .ok (.getfield 317, 3) := by decide +kernel
theorem dX10_isHit_145 : decode cX10_isHit 145 = .ok (.lconst 0, 1) := by decide +kernel
theorem dX10_isHit_146 : decode cX10_isHit 146 = .ok (.lcmp, 1) := by decide +kernel
theorem dX10_isHit_147 : decode cX10_isHit 147 = .ok (.ifCond .le 28, 3) := by decide +kernel
theorem dX10_isHit_150 : decode cX10_isHit 150 = .ok (.aload_n 0, 1) := by decide +kernel
theorem dX10_isHit_151 : decode cX10_isHit 151 = .ok (.getfield 320, 3) := by decide +kernel
theorem dX10_isHit_154 : decode cX10_isHit 154 = .ok (.lconst 0, 1) := by decide +kernel
theorem dX10_isHit_155 : decode cX10_isHit 155 = .ok (.lcmp, 1) := by decide +kernel
theorem dX10_isHit_156 : decode cX10_isHit 156 = .ok (.ifCond .lt 19, 3) := by decide +kernel
theorem dX10_isHit_159 : decode cX10_isHit 159 = .ok (.aload_n 0, 1) := by decide +kernel
theorem dX10_isHit_160 : decode cX10_isHit 160 = .ok (.getfield 320, 3) := by decide +kernel
theorem dX10_isHit_163 : decode cX10_isHit 163 = .ok (.aload_n 0, 1) := by decide +kernel
theorem dX10_isHit_164 : decode cX10_isHit 164 = .ok (.getfield 313, 3) := by decide +kernel
theorem dX10_isHit_167 : decode cX10_isHit 167 = .ok (.lcmp, 1) := by decide +kernel
theorem dX10_isHit_168 : decode cX10_isHit 168 = .ok (.ifCond .gt 7, 3) := by decide +kernel
theorem dX10_isHit_171 : decode cX10_isHit 171 = .ok (.iconst 1, 1) := by decide +kernel
theorem dX10_isHit_172 : decode cX10_isHit 172 = .ok (.goto 4, 3) := by decide +kernel
theorem dX10_isHit_175 : decode cX10_isHit 175 = .ok (.iconst 0, 1) := by decide +kernel
theorem dX10_isHit_176 : decode cX10_isHit 176 = .ok (.ireturn, 1) := by decide +kernel
theorem dX10_isPicture_0 : decode cX10_isPicture 0 = .ok (.iload_n 0, 1) := by decide +kernel
theorem dX10_isPicture_1 : decode cX10_isPicture 1 = .ok (.iload_n 1, 1) := by decide +kernel
theorem dX10_isPicture_2 : decode cX10_isPicture 2 = .ok (.invokestatic 297, 3) := by decide +kernel
theorem dX10_isPicture_5 : decode cX10_isPicture 5 = .ok (.ifCond .eq 39, 3) := by decide +kernel
theorem dX10_isPicture_8 : decode cX10_isPicture 8 = .ok (.iload_n 2, 1) := by decide +kernel
theorem dX10_isPicture_9 : decode cX10_isPicture 9 = .ok (.bipush (-8), 2) := by decide +kernel
theorem dX10_isPicture_11 : decode cX10_isPicture 11 = .ok (.if_icmp .lt 33, 3) := by decide +kernel
theorem dX10_isPicture_14 : decode cX10_isPicture 14 = .ok (.iload_n 2, 1) := by decide +kernel
theorem dX10_isPicture_15 : decode cX10_isPicture 15 = .ok (.bipush 8, 2) := by decide +kernel
theorem dX10_isPicture_17 : decode cX10_isPicture 17 = .ok (.if_icmp .gt 27, 3) := by decide +kernel
theorem dX10_isPicture_20 : decode cX10_isPicture 20 = .ok (.iload_n 3, 1) := by decide +kernel
theorem dX10_isPicture_21 : decode cX10_isPicture 21 = .ok (.bipush (-8), 2) := by decide +kernel
theorem dX10_isPicture_23 : decode cX10_isPicture 23 = .ok (.if_icmp .lt 21, 3) := by decide +kernel
theorem dX10_isPicture_26 : decode cX10_isPicture 26 = .ok (.iload_n 3, 1) := by decide +kernel
theorem dX10_isPicture_27 : decode cX10_isPicture 27 = .ok (.bipush 8, 2) := by decide +kernel
theorem dX10_isPicture_29 : decode cX10_isPicture 29 = .ok (.if_icmp .gt 15, 3) := by decide +kernel
theorem dX10_isPicture_32 : decode cX10_isPicture 32 = .ok (.iload_n 2, 1) := by decide +kernel
theorem dX10_isPicture_33 : decode cX10_isPicture 33 = .ok (.ifCond .ne 7, 3) := by decide +kernel
theorem dX10_isPicture_36 : decode cX10_isPicture 36 = .ok (.iload_n 3, 1) := by decide +kernel
theorem dX10_isPicture_37 : decode cX10_isPicture 37 = .ok (.ifCond .eq 7, 3) := by decide +kernel
theorem dX10_isPicture_40 : decode cX10_isPicture 40 = .ok (.iconst 1, 1) := by decide +kernel
theorem dX10_isPicture_41 : decode cX10_isPicture 41 = .ok (.goto 4, 3) := by decide +kernel
theorem dX10_isPicture_44 : decode cX10_isPicture 44 = .ok (.iconst 0, 1) := by decide +kernel
theorem dX10_isPicture_45 : decode cX10_isPicture 45 = .ok (.ireturn, 1) := by decide +kernel
theorem dX10_rayX_0 : decode cX10_rayX 0 = .ok (.bipush 32, 2) := by decide +kernel
theorem dX10_rayX_2 : decode cX10_rayX 2 = .ok (.iload_n 0, 1) := by decide +kernel
theorem dX10_rayX_3 : decode cX10_rayX 3 = .ok (.imul, 1) := by decide +kernel
theorem dX10_rayX_4 : decode cX10_rayX 4 = .ok (.bipush 31, 2) := by decide +kernel
theorem dX10_rayX_6 : decode cX10_rayX 6 = .ok (.iconst 2, 1) := by decide +kernel
theorem dX10_rayX_7 : decode cX10_rayX 7 = .ok (.iload_n 2, 1) := by decide +kernel
theorem dX10_rayX_8 : decode cX10_rayX 8 = .ok (.imul, 1) := by decide +kernel
theorem dX10_rayX_9 : decode cX10_rayX 9 = .ok (.isub, 1) := by decide +kernel
theorem dX10_rayX_10 : decode cX10_rayX 10 = .ok (.iload_n 1, 1) := by decide +kernel
theorem dX10_rayX_11 : decode cX10_rayX 11 = .ok (.imul, 1) := by decide +kernel
theorem dX10_rayX_12 : decode cX10_rayX 12 = .ok (.isub, 1) := by decide +kernel
theorem dX10_rayX_13 : decode cX10_rayX 13 = .ok (.ireturn, 1) := by decide +kernel
theorem dX10_rayY_0 : decode cX10_rayY 0 = .ok (.bipush 32, 2) := by decide +kernel
theorem dX10_rayY_2 : decode cX10_rayY 2 = .ok (.iload_n 1, 1) := by decide +kernel
theorem dX10_rayY_3 : decode cX10_rayY 3 = .ok (.imul, 1) := by decide +kernel
theorem dX10_rayY_4 : decode cX10_rayY 4 = .ok (.bipush 31, 2) := by decide +kernel
theorem dX10_rayY_6 : decode cX10_rayY 6 = .ok (.iconst 2, 1) := by decide +kernel
theorem dX10_rayY_7 : decode cX10_rayY 7 = .ok (.iload_n 2, 1) := by decide +kernel
theorem dX10_rayY_8 : decode cX10_rayY 8 = .ok (.imul, 1) := by decide +kernel
theorem dX10_rayY_9 : decode cX10_rayY 9 = .ok (.isub, 1) := by decide +kernel
theorem dX10_rayY_10 : decode cX10_rayY 10 = .ok (.iload_n 0, 1) := by decide +kernel
theorem dX10_rayY_11 : decode cX10_rayY 11 = .ok (.imul, 1) := by decide +kernel
theorem dX10_rayY_12 : decode cX10_rayY 12 = .ok (.iadd, 1) := by decide +kernel
theorem dX10_rayY_13 : decode cX10_rayY 13 = .ok (.ireturn, 1) := by decide +kernel
theorem dX10_covers_0 : decode cX10_covers 0 = .ok (.aload_n 0, 1) := by decide +kernel
theorem dX10_covers_1 : decode cX10_covers 1 = .ok (.aload_n 0, 1) := by decide +kernel
theorem dX10_covers_2 : decode cX10_covers 2 = .ok (.getfield 62, 3) := by decide +kernel
theorem dX10_covers_5 : decode cX10_covers 5 = .ok (.iload_n 1, 1) := by decide +kernel
theorem dX10_covers_6 : decode cX10_covers 6 = .ok (.iaload, 1) := by decide +kernel
theorem dX10_covers_7 : decode cX10_covers 7 = .ok (.iload_n 2, 1) := by decide +kernel
theorem dX10_covers_8 : decode cX10_covers 8 = .ok (.iload_n 3, 1) := by decide +kernel
theorem dX10_covers_9 : decode cX10_covers 9 = .ok (.iload 4, 2) := by decide +kernel
theorem dX10_covers_11 : decode cX10_covers 11 = .ok (.iload 5, 2) := by decide +kernel
theorem dX10_covers_13 : decode cX10_covers 13 = .ok (.iload 6, 2) := by decide +kernel
theorem dX10_covers_15 : decode cX10_covers 15 = .ok (.invokestatic 323, 3) := by decide +kernel
theorem dX10_covers_18 : decode cX10_covers 18 = .ok (.iload 4, 2) := by decide +kernel
theorem dX10_covers_20 : decode cX10_covers 20 = .ok (.iload 5, 2) := by decide +kernel
theorem dX10_covers_22 : decode cX10_covers 22 = .ok (.iload 6, 2) := by decide +kernel
theorem dX10_covers_24 : decode cX10_covers 24 = .ok (.invokestatic 326, 3) := by decide +kernel
theorem dX10_covers_27 : decode cX10_covers 27 = .ok (.invokevirtual 329, 3) := by decide +kernel
theorem dX10_covers_30 : decode cX10_covers 30 = .ok (.ifCond .ne 5, 3) := by decide +kernel
theorem dX10_covers_33 : decode cX10_covers 33 = .ok (.iconst 0, 1) := by decide +kernel
theorem dX10_covers_34 : decode cX10_covers 34 = .ok (.ireturn, 1) := by decide +kernel
theorem dX10_covers_35 : decode cX10_covers 35 = .ok (.aload_n 0, 1) := by decide +kernel
theorem dX10_covers_36 : decode cX10_covers 36 = .ok (.getfield 320, 3) := by decide +kernel
theorem dX10_covers_39 : decode cX10_covers 39 = .ok (.aload_n 0, 1) := by decide +kernel
theorem dX10_covers_40 : decode cX10_covers 40 = .ok (.getfield 68, 3) := by decide +kernel
theorem dX10_covers_43 : decode cX10_covers 43 = .ok (.iconst 4, 1) := by decide +kernel
theorem dX10_covers_44 : decode cX10_covers 44 = .ok (.iload_n 1, 1) := by decide +kernel
theorem dX10_covers_45 : decode cX10_covers 45 = .ok (.imul, 1) := by decide +kernel
theorem dX10_covers_46 : decode cX10_covers 46 = .ok (.iconst 1, 1) := by decide +kernel
theorem dX10_covers_47 : decode cX10_covers 47 = .ok (.iadd, 1) := by decide +kernel
theorem dX10_covers_48 : decode cX10_covers 48 = .ok (.iaload, 1) := by decide +kernel
theorem dX10_covers_49 : decode cX10_covers 49 = .ok (.i2l, 1) := by decide +kernel
theorem dX10_covers_50 : decode cX10_covers 50 = .ok (.lmul, 1) := by decide +kernel
theorem dX10_covers_51 : decode cX10_covers 51 = .ok (.aload_n 0, 1) := by decide +kernel
theorem dX10_covers_52 : decode cX10_covers 52 = .ok (.getfield 313, 3) := by decide +kernel
theorem dX10_covers_55 : decode cX10_covers 55 = .ok (.aload_n 0, 1) := by decide +kernel
theorem dX10_covers_56 : decode cX10_covers 56 = .ok (.getfield 68, 3) := by decide +kernel
theorem dX10_covers_59 : decode cX10_covers 59 = .ok (.iconst 4, 1) := by decide +kernel
theorem dX10_covers_60 : decode cX10_covers 60 = .ok (.iload_n 1, 1) := by decide +kernel
theorem dX10_covers_61 : decode cX10_covers 61 = .ok (.imul, 1) := by decide +kernel
theorem dX10_covers_62 : decode cX10_covers 62 = .ok (.iaload, 1) := by decide +kernel
theorem dX10_covers_63 : decode cX10_covers 63 = .ok (.i2l, 1) := by decide +kernel
theorem dX10_covers_64 : decode cX10_covers 64 = .ok (.lmul, 1) := by decide +kernel
theorem dX10_covers_65 : decode cX10_covers 65 = .ok (.lcmp, 1) := by decide +kernel
theorem dX10_covers_66 : decode cX10_covers 66 = .ok (.ifCond .lt 43, 3) := by decide +kernel
theorem dX10_covers_69 : decode cX10_covers 69 = .ok (.aload_n 0, 1) := by decide +kernel
theorem dX10_covers_70 : decode cX10_covers 70 = .ok (.getfield 320, 3) := by decide +kernel
theorem dX10_covers_73 : decode cX10_covers 73 = .ok (.aload_n 0, 1) := by decide +kernel
theorem dX10_covers_74 : decode cX10_covers 74 = .ok (.getfield 68, 3) := by decide +kernel
theorem dX10_covers_77 : decode cX10_covers 77 = .ok (.iconst 4, 1) := by decide +kernel
theorem dX10_covers_78 : decode cX10_covers 78 = .ok (.iload_n 1, 1) := by decide +kernel
theorem dX10_covers_79 : decode cX10_covers 79 = .ok (.imul, 1) := by decide +kernel
theorem dX10_covers_80 : decode cX10_covers 80 = .ok (.iconst 3, 1) := by decide +kernel
theorem dX10_covers_81 : decode cX10_covers 81 = .ok (.iadd, 1) := by decide +kernel
theorem dX10_covers_82 : decode cX10_covers 82 = .ok (.iaload, 1) := by decide +kernel
theorem dX10_covers_83 : decode cX10_covers 83 = .ok (.i2l, 1) := by decide +kernel
theorem dX10_covers_84 : decode cX10_covers 84 = .ok (.lmul, 1) := by decide +kernel
theorem dX10_covers_85 : decode cX10_covers 85 = .ok (.aload_n 0, 1) := by decide +kernel
theorem dX10_covers_86 : decode cX10_covers 86 = .ok (.getfield 313, 3) := by decide +kernel
theorem dX10_covers_89 : decode cX10_covers 89 = .ok (.aload_n 0, 1) := by decide +kernel
theorem dX10_covers_90 : decode cX10_covers 90 = .ok (.getfield 68, 3) := by decide +kernel
theorem dX10_covers_93 : decode cX10_covers 93 = .ok (.iconst 4, 1) := by decide +kernel
theorem dX10_covers_94 : decode cX10_covers 94 = .ok (.iload_n 1, 1) := by decide +kernel
theorem dX10_covers_95 : decode cX10_covers 95 = .ok (.imul, 1) := by decide +kernel
theorem dX10_covers_96 : decode cX10_covers 96 = .ok (.iconst 2, 1) := by decide +kernel
theorem dX10_covers_97 : decode cX10_covers 97 = .ok (.iadd, 1) := by decide +kernel
theorem dX10_covers_98 : decode cX10_covers 98 = .ok (.iaload, 1) := by decide +kernel
theorem dX10_covers_99 : decode cX10_covers 99 = .ok (.i2l, 1) := by decide +kernel
theorem dX10_covers_100 : decode cX10_covers 100 = .ok (.lmul, 1) := by decide +kernel
theorem dX10_covers_101 : decode cX10_covers 101 = .ok (.lcmp, 1) := by decide +kernel
theorem dX10_covers_102 : decode cX10_covers 102 = .ok (.ifCond .gt 7, 3) := by decide +kernel
theorem dX10_covers_105 : decode cX10_covers 105 = .ok (.iconst 1, 1) := by decide +kernel
theorem dX10_covers_106 : decode cX10_covers 106 = .ok (.goto 4, 3) := by decide +kernel
theorem dX10_covers_109 : decode cX10_covers 109 = .ok (.iconst 0, 1) := by decide +kernel
theorem dX10_covers_110 : decode cX10_covers 110 = .ok (.ireturn, 1) := by decide +kernel
theorem dX10_paintCount_0 : decode cX10_paintCount 0 = .ok (.iload_n 1, 1) := by decide +kernel
theorem dX10_paintCount_1 : decode cX10_paintCount 1 = .ok (.iload_n 2, 1) := by decide +kernel
theorem dX10_paintCount_2 : decode cX10_paintCount 2 = .ok (.iload_n 3, 1) := by decide +kernel
theorem dX10_paintCount_3 : decode cX10_paintCount 3 = .ok (.iload 4, 2) := by decide +kernel
theorem dX10_paintCount_5 : decode cX10_paintCount 5 = .ok (.invokestatic 333, 3) := by decide +kernel
theorem dX10_paintCount_8 : decode cX10_paintCount 8 = .ok (.ifCond .ne 6, 3) := by decide +kernel
theorem dX10_paintCount_11 : decode cX10_paintCount 11 = .ok (.bipush (-2), 2) := by decide +kernel
theorem dX10_paintCount_13 : decode cX10_paintCount 13 = .ok (.ireturn, 1) := by decide +kernel
theorem dX10_paintCount_14 : decode cX10_paintCount 14 = .ok (.aload_n 0, 1) := by decide +kernel
theorem dX10_paintCount_15 : decode cX10_paintCount 15 = .ok (.iload_n 1, 1) := by decide +kernel
theorem dX10_paintCount_16 : decode cX10_paintCount 16 = .ok (.iload_n 2, 1) := by decide +kernel
theorem dX10_paintCount_17 : decode cX10_paintCount 17 = .ok (.invokevirtual 308, 3) := by decide +kernel
theorem dX10_paintCount_20 : decode cX10_paintCount 20 = .ok (.iconst 0, 1) := by decide +kernel
theorem dX10_paintCount_21 : decode cX10_paintCount 21 = .ok (.istore 5, 2) := by decide +kernel
theorem dX10_paintCount_23 : decode cX10_paintCount 23 = .ok (.iconst 0, 1) := by decide +kernel
theorem dX10_paintCount_24 : decode cX10_paintCount 24 = .ok (.istore 6, 2) := by decide +kernel
theorem dX10_paintCount_26 : decode cX10_paintCount 26 = .ok (.iload 6, 2) := by decide +kernel
theorem dX10_paintCount_28 : decode cX10_paintCount 28 = .ok (.aload_n 0, 1) := by decide +kernel
theorem dX10_paintCount_29 : decode cX10_paintCount 29 = .ok (.getfield 301, 3) := by decide +kernel
theorem dX10_paintCount_32 : decode cX10_paintCount 32 = .ok (.if_icmp .ge 56, 3) := by decide +kernel
theorem dX10_paintCount_35 : decode cX10_paintCount 35 = .ok (.iconst 0, 1) := by decide +kernel
theorem dX10_paintCount_36 : decode cX10_paintCount 36 = .ok (.istore 7, 2) := by decide +kernel
theorem dX10_paintCount_38 : decode cX10_paintCount 38 = .ok (.iload 7, 2) := by decide +kernel
theorem dX10_paintCount_40 : decode cX10_paintCount 40 = .ok (.bipush 32, 2) := by decide +kernel
theorem dX10_paintCount_42 : decode cX10_paintCount 42 = .ok (.if_icmp .ge 40, 3) := by decide +kernel
theorem dX10_paintCount_45 : decode cX10_paintCount 45 = .ok (.iload 5, 2) := by decide +kernel
theorem dX10_paintCount_47 : decode cX10_paintCount 47 = .ok (.aload_n 0, 1) := by decide +kernel
theorem dX10_paintCount_48 : decode cX10_paintCount 48 = .ok (.aload_n 0, 1) := by decide +kernel
theorem dX10_paintCount_49 : decode cX10_paintCount 49 = .ok (.getfield 110, 3) := by decide +kernel
theorem dX10_paintCount_52 : decode cX10_paintCount 52 = .ok (.iload 6, 2) := by decide +kernel
theorem dX10_paintCount_54 : decode cX10_paintCount 54 = .ok (.iaload, 1) := by decide +kernel
theorem dX10_paintCount_55 : decode cX10_paintCount 55 = .ok (.iload_n 1, 1) := by decide +kernel
theorem dX10_paintCount_56 : decode cX10_paintCount 56 = .ok (.iload_n 2, 1) := by decide +kernel
theorem dX10_paintCount_57 : decode cX10_paintCount 57 = .ok (.iload_n 3, 1) := by decide +kernel
theorem dX10_paintCount_58 : decode cX10_paintCount 58 = .ok (.iload 4, 2) := by decide +kernel
theorem dX10_paintCount_60 : decode cX10_paintCount 60 = .ok (.iload 7, 2) := by decide +kernel
theorem dX10_paintCount_62 : decode cX10_paintCount 62 = .ok (.invokevirtual 337, 3) := by decide +kernel
theorem dX10_paintCount_65 : decode cX10_paintCount 65 = .ok (.ifCond .eq 7, 3) := by decide +kernel
theorem dX10_paintCount_68 : decode cX10_paintCount 68 = .ok (.iconst 1, 1) := by decide +kernel
theorem dX10_paintCount_69 : decode cX10_paintCount 69 = .ok (.goto 4, 3) := by decide +kernel
theorem dX10_paintCount_72 : decode cX10_paintCount 72 = .ok (.iconst 0, 1) := by decide +kernel
theorem dX10_paintCount_73 : decode cX10_paintCount 73 = .ok (.iadd, 1) := by decide +kernel
theorem dX10_paintCount_74 : decode cX10_paintCount 74 = .ok (.istore 5, 2) := by decide +kernel
theorem dX10_paintCount_76 : decode cX10_paintCount 76 = .ok (.iinc 7 1, 3) := by decide +kernel
theorem dX10_paintCount_79 : decode cX10_paintCount 79 = .ok (.goto (-41), 3) := by decide +kernel
theorem dX10_paintCount_82 : decode cX10_paintCount 82 = .ok (.iinc 6 1, 3) := by decide +kernel
theorem dX10_paintCount_85 : decode cX10_paintCount 85 = .ok (.goto (-59), 3) := by decide +kernel
theorem dX10_paintCount_88 : decode cX10_paintCount 88 = .ok (.iload 5, 2) := by decide +kernel
theorem dX10_paintCount_90 : decode cX10_paintCount 90 = .ok (.ireturn, 1) := by decide +kernel
theorem dX10_paintedPiece_0 : decode cX10_paintedPiece 0 = .ok (.iload_n 1, 1) := by decide +kernel
theorem dX10_paintedPiece_1 : decode cX10_paintedPiece 1 = .ok (.iload_n 2, 1) := by decide +kernel
theorem dX10_paintedPiece_2 : decode cX10_paintedPiece 2 = .ok (.iload_n 3, 1) := by decide +kernel
theorem dX10_paintedPiece_3 : decode cX10_paintedPiece 3 = .ok (.iload 4, 2) := by decide +kernel
theorem dX10_paintedPiece_5 : decode cX10_paintedPiece 5 = .ok (.invokestatic 333, 3) := by decide +kernel
theorem dX10_paintedPiece_8 : decode cX10_paintedPiece 8 = .ok (.ifCond .eq 15, 3) := by decide +kernel
theorem dX10_paintedPiece_11 : decode cX10_paintedPiece 11 = .ok (.iload 5, 2) := by decide +kernel
theorem dX10_paintedPiece_13 : decode cX10_paintedPiece 13 = .ok (.ifCond .lt 10, 3) := by decide +kernel
theorem dX10_paintedPiece_16 : decode cX10_paintedPiece 16 = .ok (.iload 5, 2) := by decide +kernel
theorem dX10_paintedPiece_18 : decode cX10_paintedPiece 18 = .ok (.bipush 31, 2) := by decide +kernel
theorem dX10_paintedPiece_20 : decode cX10_paintedPiece 20 = .ok (.if_icmp .le 6, 3) := by decide +kernel
theorem dX10_paintedPiece_23 : decode cX10_paintedPiece 23 = .ok (.bipush (-2), 2) := by decide +kernel
theorem dX10_paintedPiece_25 : decode cX10_paintedPiece 25 = .ok (.ireturn, 1) := by decide +kernel
theorem dX10_paintedPiece_26 : decode cX10_paintedPiece 26 = .ok (.aload_n 0, 1) := by decide +kernel
theorem dX10_paintedPiece_27 : decode cX10_paintedPiece 27 = .ok (.iload_n 1, 1) := by decide +kernel
theorem dX10_paintedPiece_28 : decode cX10_paintedPiece 28 = .ok (.iload_n 2, 1) := by decide +kernel
theorem dX10_paintedPiece_29 : decode cX10_paintedPiece 29 = .ok (.invokevirtual 308, 3) := by decide +kernel
theorem dX10_paintedPiece_32 : decode cX10_paintedPiece 32 = .ok (.aload_n 0, 1) := by decide +kernel
theorem dX10_paintedPiece_33 : decode cX10_paintedPiece 33 = .ok (.getfield 301, 3) := by decide +kernel
theorem dX10_paintedPiece_36 : decode cX10_paintedPiece 36 = .ok (.iconst 1, 1) := by decide +kernel
theorem dX10_paintedPiece_37 : decode cX10_paintedPiece 37 = .ok (.isub, 1) := by decide +kernel
theorem dX10_paintedPiece_38 : decode cX10_paintedPiece 38 = .ok (.istore 6, 2) := by decide +kernel
theorem dX10_paintedPiece_40 : decode cX10_paintedPiece 40 = .ok (.iload 6, 2) := by decide +kernel
theorem dX10_paintedPiece_42 : decode cX10_paintedPiece 42 = .ok (.ifCond .lt 58, 3) := by decide +kernel
theorem dX10_paintedPiece_45 : decode cX10_paintedPiece 45 = .ok (.aload_n 0, 1) := by decide +kernel
theorem dX10_paintedPiece_46 : decode cX10_paintedPiece 46 = .ok (.getfield 110, 3) := by decide +kernel
theorem dX10_paintedPiece_49 : decode cX10_paintedPiece 49 = .ok (.iload 6, 2) := by decide +kernel
theorem dX10_paintedPiece_51 : decode cX10_paintedPiece 51 = .ok (.iaload, 1) := by decide +kernel
theorem dX10_paintedPiece_52 : decode cX10_paintedPiece 52 = .ok (.istore 7, 2) := by decide +kernel
theorem dX10_paintedPiece_54 : decode cX10_paintedPiece 54 = .ok (.aload_n 0, 1) := by decide +kernel
theorem dX10_paintedPiece_55 : decode cX10_paintedPiece 55 = .ok (.aload_n 0, 1) := by decide +kernel
theorem dX10_paintedPiece_56 : decode cX10_paintedPiece 56 = .ok (.getfield 62, 3) := by decide +kernel
theorem dX10_paintedPiece_59 : decode cX10_paintedPiece 59 = .ok (.iload 7, 2) := by decide +kernel
theorem dX10_paintedPiece_61 : decode cX10_paintedPiece 61 = .ok (.iaload, 1) := by decide +kernel
theorem dX10_paintedPiece_62 : decode cX10_paintedPiece 62 = .ok (.iconst 5, 1) := by decide +kernel
theorem dX10_paintedPiece_63 : decode cX10_paintedPiece 63 = .ok (.invokevirtual 129, 3) := by decide +kernel
theorem dX10_paintedPiece_66 : decode cX10_paintedPiece 66 = .ok (.iconst 1, 1) := by decide +kernel
theorem dX10_paintedPiece_67 : decode cX10_paintedPiece 67 = .ok (.if_icmp .eq 27, 3) := by decide +kernel
theorem dX10_paintedPiece_70 : decode cX10_paintedPiece 70 = .ok (.aload_n 0, 1) := by decide +kernel
theorem dX10_paintedPiece_71 : decode cX10_paintedPiece 71 = .ok (.iload 7, 2) := by decide +kernel
theorem dX10_paintedPiece_73 : decode cX10_paintedPiece 73 = .ok (.iload_n 1, 1) := by decide +kernel
theorem dX10_paintedPiece_74 : decode cX10_paintedPiece 74 = .ok (.iload_n 2, 1) := by decide +kernel
theorem dX10_paintedPiece_75 : decode cX10_paintedPiece 75 = .ok (.iload_n 3, 1) := by decide +kernel
theorem dX10_paintedPiece_76 : decode cX10_paintedPiece 76 = .ok (.iload 4, 2) := by decide +kernel
theorem dX10_paintedPiece_78 : decode cX10_paintedPiece 78 = .ok (.iload 5, 2) := by decide +kernel
theorem dX10_paintedPiece_80 : decode cX10_paintedPiece 80 = .ok (.invokevirtual 337, 3) := by decide +kernel
theorem dX10_paintedPiece_83 : decode cX10_paintedPiece 83 = .ok (.ifCond .eq 11, 3) := by decide +kernel
theorem dX10_paintedPiece_86 : decode cX10_paintedPiece 86 = .ok (.aload_n 0, 1) := by decide +kernel
theorem dX10_paintedPiece_87 : decode cX10_paintedPiece 87 = .ok (.getfield 101, 3) := by decide +kernel
theorem dX10_paintedPiece_90 : decode cX10_paintedPiece 90 = .ok (.iload 7, 2) := by decide +kernel
theorem dX10_paintedPiece_92 : decode cX10_paintedPiece 92 = .ok (.iaload, 1) := by decide +kernel
theorem dX10_paintedPiece_93 : decode cX10_paintedPiece 93 = .ok (.ireturn, 1) := by decide +kernel
theorem dX10_paintedPiece_94 : decode cX10_paintedPiece 94 = .ok (.iinc 6 (-1), 3) := by decide +kernel
theorem dX10_paintedPiece_97 : decode cX10_paintedPiece 97 = .ok (.goto (-57), 3) := by decide +kernel
theorem dX10_paintedPiece_100 : decode cX10_paintedPiece 100 = .ok (.bipush (-8), 2) := by decide +kernel
theorem dX10_paintedPiece_102 : decode cX10_paintedPiece 102 = .ok (.ireturn, 1) := by decide +kernel
theorem dX10_isOpaque_0 : decode cX10_isOpaque 0 = .ok (.aload_n 0, 1) := by decide +kernel
theorem dX10_isOpaque_1 : decode cX10_isOpaque 1 = .ok (.iload_n 1, 1) := by decide +kernel
theorem dX10_isOpaque_2 : decode cX10_isOpaque 2 = .ok (.iconst 5, 1) := by decide +kernel
theorem dX10_isOpaque_3 : decode cX10_isOpaque 3 = .ok (.invokevirtual 129, 3) := by decide +kernel
theorem dX10_isOpaque_6 : decode cX10_isOpaque 6 = .ok (.istore 4, 2) := by decide +kernel
theorem dX10_isOpaque_8 : decode cX10_isOpaque 8 = .ok (.iload 4, 2) := by decide +kernel
theorem dX10_isOpaque_10 : decode cX10_isOpaque 10 = .ok (.ifCond .eq 19, 3) := by decide +kernel
theorem dX10_isOpaque_13 : decode cX10_isOpaque 13 = .ok (.iload 4, 2) := by decide +kernel
theorem dX10_isOpaque_15 : decode cX10_isOpaque 15 = .ok (.iconst 2, 1) := by decide +kernel
theorem dX10_isOpaque_16 : decode cX10_isOpaque 16 = .ok (.if_icmp .ne 17, 3) := by decide +kernel
theorem dX10_isOpaque_19 : decode cX10_isOpaque 19 = .ok (.aload_n 0, 1) := by decide +kernel
theorem dX10_isOpaque_20 : decode cX10_isOpaque 20 = .ok (.iload_n 1, 1) := by decide +kernel
theorem dX10_isOpaque_21 : decode cX10_isOpaque 21 = .ok (.iload_n 2, 1) := by decide +kernel
theorem dX10_isOpaque_22 : decode cX10_isOpaque 22 = .ok (.iload_n 3, 1) := by decide +kernel
theorem dX10_isOpaque_23 : decode cX10_isOpaque 23 = .ok (.invokevirtual 183, 3) := by decide +kernel
theorem dX10_isOpaque_26 : decode cX10_isOpaque 26 = .ok (.ifCond .le 7, 3) := by decide +kernel
theorem dX10_isOpaque_29 : decode cX10_isOpaque 29 = .ok (.iconst 1, 1) := by decide +kernel
theorem dX10_isOpaque_30 : decode cX10_isOpaque 30 = .ok (.goto 4, 3) := by decide +kernel
theorem dX10_isOpaque_33 : decode cX10_isOpaque 33 = .ok (.iconst 0, 1) := by decide +kernel
theorem dX10_isOpaque_34 : decode cX10_isOpaque 34 = .ok (.ireturn, 1) := by decide +kernel
theorem dX10_trace_0 : decode cX10_trace 0 = .ok (.aload_n 0, 1) := by decide +kernel
theorem dX10_trace_1 : decode cX10_trace 1 = .ok (.iconst (-1), 1) := by decide +kernel
theorem dX10_trace_2 : decode cX10_trace 2 = .ok (.putfield 341, 3) := by decide +kernel
theorem dX10_trace_5 : decode cX10_trace 5 = .ok (.aload_n 0, 1) := by decide +kernel
theorem dX10_trace_6 : decode cX10_trace 6 = .ok (.lconst 0, 1) := by decide +kernel
theorem dX10_trace_7 : decode cX10_trace 7 = .ok (.putfield 344, 3) := by decide +kernel
theorem dX10_trace_10 : decode cX10_trace 10 = .ok (.aload_n 0, 1) := by decide +kernel
theorem dX10_trace_11 : decode cX10_trace 11 = .ok (.lconst 1, 1) := by decide +kernel
theorem dX10_trace_12 : decode cX10_trace 12 = .ok (.putfield 347, 3) := by decide +kernel
theorem dX10_trace_15 : decode cX10_trace 15 = .ok (.iconst 0, 1) := by decide +kernel
theorem dX10_trace_16 : decode cX10_trace 16 = .ok (.istore 5, 2) := by decide +kernel
theorem dX10_trace_18 : decode cX10_trace 18 = .ok (.iload 5, 2) := by decide +kernel
theorem dX10_trace_20 : decode cX10_trace 20 = .ok (.bipush 12, 2) := by decide +kernel
theorem dX10_trace_22 : decode cX10_trace 22 = .ok (.if_icmp .ge 96, 3) := by decide +kernel
theorem dX10_trace_25 : decode cX10_trace 25 = .ok (.aload_n 0, 1) := by decide +kernel
theorem dX10_trace_26 : decode cX10_trace 26 = .ok (.iload 5, 2) := by decide +kernel
theorem dX10_trace_28 : decode cX10_trace 28 = .ok (.iconst 0, 1) := by decide +kernel
theorem dX10_trace_29 : decode cX10_trace 29 = .ok (.invokevirtual 129, 3) := by decide +kernel
theorem dX10_trace_32 : decode cX10_trace 32 = .ok (.iconst 1, 1) := by decide +kernel
theorem dX10_trace_33 : decode cX10_trace 33 = .ok (.if_icmp .ne 79, 3) := by decide +kernel
theorem dX10_trace_36 : decode cX10_trace 36 = .ok (.aload_n 0, 1) := by decide +kernel
theorem dX10_trace_37 : decode cX10_trace 37 = .ok (.iload 5, 2) := by decide +kernel
theorem dX10_trace_39 : decode cX10_trace 39 = .ok (.iload_n 1, 1) := by decide +kernel
theorem dX10_trace_40 : decode cX10_trace 40 = .ok (.iload_n 2, 1) := by decide +kernel
theorem dX10_trace_41 : decode cX10_trace 41 = .ok (.invokevirtual 350, 3) := by decide +kernel
theorem dX10_trace_44 : decode cX10_trace 44 = .ok (.ifCond .eq 68, 3) := by decide +kernel
theorem dX10_trace_47 : decode cX10_trace 47 = .ok (.aload_n 0, 1) := by decide +kernel
theorem dX10_trace_48 : decode cX10_trace 48 = .ok (.iload 5, 2) := by decide +kernel
theorem dX10_trace_50 : decode cX10_trace 50 = .ok (.iload_n 1, 1) := by decide +kernel
theorem dX10_trace_51 : decode cX10_trace 51 = .ok (.iload_n 2, 1) := by decide +kernel
theorem dX10_trace_52 : decode cX10_trace 52 = .ok (.iload_n 3, 1) := by decide +kernel
theorem dX10_trace_53 : decode cX10_trace 53 = .ok (.iload 4, 2) := by decide +kernel
theorem dX10_trace_55 : decode cX10_trace 55 = .ok (.invokevirtual 329, 3) := by decide +kernel
theorem dX10_trace_58 : decode cX10_trace 58 = .ok (.ifCond .eq 54, 3) := by decide +kernel
theorem dX10_trace_61 : decode cX10_trace 61 = .ok (.aload_n 0, 1) := by decide +kernel
theorem dX10_trace_62 : decode cX10_trace 62 = .ok (.getfield 341, 3) := by decide +kernel
theorem dX10_trace_65 : decode cX10_trace 65 = .ok (.ifCond .lt 25, 3) := by decide +kernel
theorem dX10_trace_68 : decode cX10_trace 68 = .ok (.aload_n 0, 1) := by decide +kernel
theorem dX10_trace_69 : decode cX10_trace 69 = .ok (.getfield 317, 3) := by decide +kernel
theorem dX10_trace_72 : decode cX10_trace 72 = .ok (.aload_n 0, 1) := by decide +kernel
theorem dX10_trace_73 : decode cX10_trace 73 = .ok (.getfield 347, 3) := by decide +kernel
theorem dX10_trace_76 : decode cX10_trace 76 = .ok (.lmul, 1) := by decide +kernel
theorem dX10_trace_77 : decode cX10_trace 77 = .ok (.aload_n 0, 1) := by decide +kernel
theorem dX10_trace_78 : decode cX10_trace 78 = .ok (.getfield 344, 3) := by decide +kernel
theorem dX10_trace_81 : decode cX10_trace 81 = .ok (.aload_n 0, 1) := by decide +kernel
theorem dX10_trace_82 : decode cX10_trace 82 = .ok (.getfield 313, 3) := by decide +kernel
theorem dX10_trace_85 : decode cX10_trace 85 = .ok (.lmul, 1) := by decide +kernel
theorem dX10_trace_86 : decode cX10_trace 86 = .ok (.lcmp, 1) := by decide +kernel
theorem dX10_trace_87 : decode cX10_trace 87 = .ok (.ifCond .ge 25, 3) := by decide +kernel
theorem dX10_trace_90 : decode cX10_trace 90 = .ok (.aload_n 0, 1) := by decide +kernel
theorem dX10_trace_91 : decode cX10_trace 91 = .ok (.iload 5, 2) := by decide +kernel
theorem dX10_trace_93 : decode cX10_trace 93 = .ok (.putfield 341, 3) := by decide +kernel
theorem dX10_trace_96 : decode cX10_trace 96 = .ok (.aload_n 0, 1) := by decide +kernel
theorem dX10_trace_97 : decode cX10_trace 97 = .ok (.aload_n 0, 1) := by decide +kernel
theorem dX10_trace_98 : decode cX10_trace 98 = .ok (.getfield 317, 3) := by decide +kernel
theorem dX10_trace_101 : decode cX10_trace 101 = .ok (.putfield 344, 3) := by decide +kernel
theorem dX10_trace_104 : decode cX10_trace 104 = .ok (.aload_n 0, 1) := by decide +kernel
theorem dX10_trace_105 : decode cX10_trace 105 = .ok (.aload_n 0, 1) := by decide +kernel
theorem dX10_trace_106 : decode cX10_trace 106 = .ok (.getfield 313, 3) := by decide +kernel
theorem dX10_trace_109 : decode cX10_trace 109 = .ok (.putfield 347, 3) := by decide +kernel
theorem dX10_trace_112 : decode cX10_trace 112 = .ok (.iinc 5 1, 3) := by decide +kernel
theorem dX10_trace_115 : decode cX10_trace 115 = .ok (.goto (-97), 3) := by decide +kernel
theorem dX10_trace_118 : decode cX10_trace 118 = .ok (.return_, 1) := by decide +kernel
theorem dX10_isBlocked_0 : decode cX10_isBlocked 0 = .ok (.aload_n 0, 1) := by decide +kernel
theorem dX10_isBlocked_1 : decode cX10_isBlocked 1 = .ok (.iload_n 1, 1) := by decide +kernel
theorem dX10_isBlocked_2 : decode cX10_isBlocked 2 = .ok (.iload_n 2, 1) := by decide +kernel
theorem dX10_isBlocked_3 : decode cX10_isBlocked 3 = .ok (.iload_n 3, 1) := by decide +kernel
theorem dX10_isBlocked_4 : decode cX10_isBlocked 4 = .ok (.iload_n 1, 1) := by decide +kernel
theorem dX10_isBlocked_5 : decode cX10_isBlocked 5 = .ok (.isub, 1) := by decide +kernel
theorem dX10_isBlocked_6 : decode cX10_isBlocked 6 = .ok (.iload 4, 2) := by decide +kernel
theorem dX10_isBlocked_8 : decode cX10_isBlocked 8 = .ok (.iload_n 2, 1) := by decide +kernel
theorem dX10_isBlocked_9 : decode cX10_isBlocked 9 = .ok (.isub, 1) := by decide +kernel
theorem dX10_isBlocked_10 : decode cX10_isBlocked 10 = .ok (.invokevirtual 353, 3) := by decide +kernel
theorem dX10_isBlocked_13 : decode cX10_isBlocked 13 = .ok (.aload_n 0, 1) := by decide +kernel
theorem dX10_isBlocked_14 : decode cX10_isBlocked 14 = .ok (.getfield 341, 3) := by decide +kernel
theorem dX10_isBlocked_17 : decode cX10_isBlocked 17 = .ok (.ifCond .lt 19, 3) := by decide +kernel
theorem dX10_isBlocked_20 : decode cX10_isBlocked 20 = .ok (.aload_n 0, 1) := by decide +kernel
theorem dX10_isBlocked_21 : decode cX10_isBlocked 21 = .ok (.getfield 344, 3) := by decide +kernel
theorem dX10_isBlocked_24 : decode cX10_isBlocked 24 = .ok (.aload_n 0, 1) := by decide +kernel
theorem dX10_isBlocked_25 : decode cX10_isBlocked 25 = .ok (.getfield 347, 3) := by decide +kernel
theorem dX10_isBlocked_28 : decode cX10_isBlocked 28 = .ok (.lcmp, 1) := by decide +kernel
theorem dX10_isBlocked_29 : decode cX10_isBlocked 29 = .ok (.ifCond .gt 7, 3) := by decide +kernel
theorem dX10_isBlocked_32 : decode cX10_isBlocked 32 = .ok (.iconst 1, 1) := by decide +kernel
theorem dX10_isBlocked_33 : decode cX10_isBlocked 33 = .ok (.goto 4, 3) := by decide +kernel
theorem dX10_isBlocked_36 : decode cX10_isBlocked 36 = .ok (.iconst 0, 1) := by decide +kernel
theorem dX10_isBlocked_37 : decode cX10_isBlocked 37 = .ok (.ireturn, 1) := by decide +kernel
theorem dX10_blocker_0 : decode cX10_blocker 0 = .ok (.iload_n 1, 1) := by decide +kernel
theorem dX10_blocker_1 : decode cX10_blocker 1 = .ok (.iload_n 2, 1) := by decide +kernel
theorem dX10_blocker_2 : decode cX10_blocker 2 = .ok (.invokestatic 297, 3) := by decide +kernel
theorem dX10_blocker_5 : decode cX10_blocker 5 = .ok (.ifCond .eq 23, 3) := by decide +kernel
theorem dX10_blocker_8 : decode cX10_blocker 8 = .ok (.iload_n 3, 1) := by decide +kernel
theorem dX10_blocker_9 : decode cX10_blocker 9 = .ok (.iload 4, 2) := by decide +kernel
theorem dX10_blocker_11 : decode cX10_blocker 11 = .ok (.invokestatic 297, 3) := by decide +kernel
theorem dX10_blocker_14 : decode cX10_blocker 14 = .ok (.ifCond .eq 14, 3) := by decide +kernel
theorem dX10_blocker_17 : decode cX10_blocker 17 = .ok (.iload_n 1, 1) := by decide +kernel
theorem dX10_blocker_18 : decode cX10_blocker 18 = .ok (.iload_n 3, 1) := by decide +kernel
theorem dX10_blocker_19 : decode cX10_blocker 19 = .ok (.if_icmp .ne 12, 3) := by decide +kernel
theorem dX10_blocker_22 : decode cX10_blocker 22 = .ok (.iload_n 2, 1) := by decide +kernel
theorem dX10_blocker_23 : decode cX10_blocker 23 = .ok (.iload 4, 2) := by decide +kernel
theorem dX10_blocker_25 : decode cX10_blocker 25 = .ok (.if_icmp .ne 6, 3) := by decide +kernel
theorem dX10_blocker_28 : decode cX10_blocker 28 = .ok (.bipush (-2), 2) := by decide +kernel
theorem dX10_blocker_30 : decode cX10_blocker 30 = .ok (.ireturn, 1) := by decide +kernel
theorem dX10_blocker_31 : decode cX10_blocker 31 = .ok (.aload_n 0, 1) := by decide +kernel
theorem dX10_blocker_32 : decode cX10_blocker 32 = .ok (.iload_n 1, 1) := by decide +kernel
theorem dX10_blocker_33 : decode cX10_blocker 33 = .ok (.iload_n 2, 1) := by decide +kernel
theorem dX10_blocker_34 : decode cX10_blocker 34 = .ok (.iload_n 3, 1) := by decide +kernel
theorem dX10_blocker_35 : decode cX10_blocker 35 = .ok (.iload 4, 2) := by decide +kernel
theorem dX10_blocker_37 : decode cX10_blocker 37 = .ok (.invokevirtual 357, 3) := by decide +kernel
theorem dX10_blocker_40 : decode cX10_blocker 40 = .ok (.ifCond .eq 10, 3) := by decide +kernel
theorem dX10_blocker_43 : decode cX10_blocker 43 = .ok (.aload_n 0, 1) := by decide +kernel
theorem dX10_blocker_44 : decode cX10_blocker 44 = .ok (.getfield 341, 3) := by decide +kernel
theorem dX10_blocker_47 : decode cX10_blocker 47 = .ok (.goto 5, 3) := by decide +kernel
theorem dX10_blocker_50 : decode cX10_blocker 50 = .ok (.bipush (-8), 2) := by decide +kernel
theorem dX10_blocker_52 : decode cX10_blocker 52 = .ok (.ireturn, 1) := by decide +kernel
theorem dX10_traceColumn_0 : decode cX10_traceColumn 0 = .ok (.aload_n 0, 1) := by decide +kernel
theorem dX10_traceColumn_1 : decode cX10_traceColumn 1 = .ok (.iload_n 1, 1) := by decide +kernel
theorem dX10_traceColumn_2 : decode cX10_traceColumn 2 = .ok (.iload_n 2, 1) := by decide +kernel
theorem dX10_traceColumn_3 : decode cX10_traceColumn 3 = .ok (.iload_n 3, 1) := by decide +kernel
theorem dX10_traceColumn_4 : decode cX10_traceColumn 4 = .ok (.iload 4, 2) := by decide +kernel
theorem dX10_traceColumn_6 : decode cX10_traceColumn 6 = .ok (.iload 5, 2) := by decide +kernel
theorem dX10_traceColumn_8 : decode cX10_traceColumn 8 = .ok (.invokestatic 323, 3) := by decide +kernel
theorem dX10_traceColumn_11 : decode cX10_traceColumn 11 = .ok (.iload_n 3, 1) := by decide +kernel
theorem dX10_traceColumn_12 : decode cX10_traceColumn 12 = .ok (.iload 4, 2) := by decide +kernel
theorem dX10_traceColumn_14 : decode cX10_traceColumn 14 = .ok (.iload 5, 2) := by decide +kernel
theorem dX10_traceColumn_16 : decode cX10_traceColumn 16 = .ok (.invokestatic 326, 3) := by decide +kernel
theorem dX10_traceColumn_19 : decode cX10_traceColumn 19 = .ok (.invokevirtual 353, 3) := by decide +kernel
theorem dX10_traceColumn_22 : decode cX10_traceColumn 22 = .ok (.return_, 1) := by decide +kernel
theorem dX10_columnWall_0 : decode cX10_columnWall 0 = .ok (.iload_n 1, 1) := by decide +kernel
theorem dX10_columnWall_1 : decode cX10_columnWall 1 = .ok (.iload_n 2, 1) := by decide +kernel
theorem dX10_columnWall_2 : decode cX10_columnWall 2 = .ok (.iload_n 3, 1) := by decide +kernel
theorem dX10_columnWall_3 : decode cX10_columnWall 3 = .ok (.iload 4, 2) := by decide +kernel
theorem dX10_columnWall_5 : decode cX10_columnWall 5 = .ok (.invokestatic 333, 3) := by decide +kernel
theorem dX10_columnWall_8 : decode cX10_columnWall 8 = .ok (.ifCond .eq 15, 3) := by decide +kernel
theorem dX10_columnWall_11 : decode cX10_columnWall 11 = .ok (.iload 5, 2) := by decide +kernel
theorem dX10_columnWall_13 : decode cX10_columnWall 13 = .ok (.ifCond .lt 10, 3) := by decide +kernel
theorem dX10_columnWall_16 : decode cX10_columnWall 16 = .ok (.iload 5, 2) := by decide +kernel
theorem dX10_columnWall_18 : decode cX10_columnWall 18 = .ok (.bipush 31, 2) := by decide +kernel
theorem dX10_columnWall_20 : decode cX10_columnWall 20 = .ok (.if_icmp .le 6, 3) := by decide +kernel
theorem dX10_columnWall_23 : decode cX10_columnWall 23 = .ok (.bipush (-2), 2) := by decide +kernel
theorem dX10_columnWall_25 : decode cX10_columnWall 25 = .ok (.ireturn, 1) := by decide +kernel
theorem dX10_columnWall_26 : decode cX10_columnWall 26 = .ok (.aload_n 0, 1) := by decide +kernel
theorem dX10_columnWall_27 : decode cX10_columnWall 27 = .ok (.iload_n 1, 1) := by decide +kernel
theorem dX10_columnWall_28 : decode cX10_columnWall 28 = .ok (.iload_n 2, 1) := by decide +kernel
theorem dX10_columnWall_29 : decode cX10_columnWall 29 = .ok (.iload_n 3, 1) := by decide +kernel
theorem dX10_columnWall_30 : decode cX10_columnWall 30 = .ok (.iload 4, 2) := by decide +kernel
theorem dX10_columnWall_32 : decode cX10_columnWall 32 = .ok (.iload 5, 2) := by decide +kernel
theorem dX10_columnWall_34 : decode cX10_columnWall 34 = .ok (.invokevirtual 360, 3) := by decide +kernel
theorem dX10_columnWall_37 : decode cX10_columnWall 37 = .ok (.aload_n 0, 1) := by decide +kernel
theorem dX10_columnWall_38 : decode cX10_columnWall 38 = .ok (.getfield 341, 3) := by decide +kernel
theorem dX10_columnWall_41 : decode cX10_columnWall 41 = .ok (.ifCond .ge 8, 3) := by decide +kernel
theorem dX10_columnWall_44 : decode cX10_columnWall 44 = .ok (.bipush (-8), 2) := by decide +kernel
theorem dX10_columnWall_46 : decode cX10_columnWall 46 = .ok (.goto 7, 3) := by decide +kernel
theorem dX10_columnWall_49 : decode cX10_columnWall 49 = .ok (.aload_n 0, 1) := by decide +kernel
theorem dX10_columnWall_50 : decode cX10_columnWall 50 = .ok (.getfield 341, 3) := by decide +kernel
theorem dX10_columnWall_53 : decode cX10_columnWall 53 = .ok (.ireturn, 1) := by decide +kernel
theorem dX10_columnDistance_0 : decode cX10_columnDistance 0 = .ok (.iload_n 1, 1) := by decide +kernel
theorem dX10_columnDistance_1 : decode cX10_columnDistance 1 = .ok (.iload_n 2, 1) := by decide +kernel
theorem dX10_columnDistance_2 : decode cX10_columnDistance 2 = .ok (.iload_n 3, 1) := by decide +kernel
theorem dX10_columnDistance_3 : decode cX10_columnDistance 3 = .ok (.iload 4, 2) := by decide +kernel
theorem dX10_columnDistance_5 : decode cX10_columnDistance 5 = .ok (.invokestatic 333, 3) := by decide +kernel
theorem dX10_columnDistance_8 : decode cX10_columnDistance 8 = .ok (.ifCond .eq 26, 3) := by decide +kernel
theorem dX10_columnDistance_11 : decode cX10_columnDistance 11 = .ok (.iload 5, 2) := by decide +kernel
theorem dX10_columnDistance_13 : decode cX10_columnDistance 13 = .ok (.ifCond .lt 21, 3) := by decide +kernel
theorem dX10_columnDistance_16 : decode cX10_columnDistance 16 = .ok (.iload 5, 2) := by decide +kernel
theorem dX10_columnDistance_18 : decode cX10_columnDistance 18 = .ok (.bipush 31, 2) := by decide +kernel
theorem dX10_columnDistance_20 : decode cX10_columnDistance 20 = .ok (.if_icmp .gt 14, 3) := by decide +kernel
theorem dX10_columnDistance_23 : decode cX10_columnDistance 23 = .ok (.iload 6, 2) := by decide +kernel
theorem dX10_columnDistance_25 : decode cX10_columnDistance 25 = .ok (.ifCond .lt 9, 3) := by decide +kernel
theorem dX10_columnDistance_28 : decode cX10_columnDistance 28 = .ok (.iload 6, 2) := by decide +kernel
theorem dX10_columnDistance_30 : decode cX10_columnDistance 30 = .ok (.iconst 1, 1) := by decide +kernel
theorem dX10_columnDistance_31 : decode cX10_columnDistance 31 = .ok (.if_icmp .le 6, 3) := by decide +kernel
theorem dX10_columnDistance_34 : decode cX10_columnDistance 34 = .ok (.bipush (-2), 2) := by decide +kernel
theorem dX10_columnDistance_36 : decode cX10_columnDistance 36 = .ok (.ireturn, 1) := by decide +kernel
theorem dX10_columnDistance_37 : decode cX10_columnDistance 37 = .ok (.aload_n 0, 1) := by decide +kernel
theorem dX10_columnDistance_38 : decode cX10_columnDistance 38 = .ok (.iload_n 1, 1) := by decide +kernel
theorem dX10_columnDistance_39 : decode cX10_columnDistance 39 = .ok (.iload_n 2, 1) := by decide +kernel
theorem dX10_columnDistance_40 : decode cX10_columnDistance 40 = .ok (.iload_n 3, 1) := by decide +kernel
theorem dX10_columnDistance_41 : decode cX10_columnDistance 41 = .ok (.iload 4, 2) := by decide +kernel
theorem dX10_columnDistance_43 : decode cX10_columnDistance 43 = .ok (.iload 5, 2) := by decide +kernel
theorem dX10_columnDistance_45 : decode cX10_columnDistance 45 = .ok (.invokevirtual 360, 3) := by decide +kernel
theorem dX10_columnDistance_48 : decode cX10_columnDistance 48 = .ok (.aload_n 0, 1) := by decide +kernel
theorem dX10_columnDistance_49 : decode cX10_columnDistance 49 = .ok (.getfield 341, 3) := by decide +kernel
theorem dX10_columnDistance_52 : decode cX10_columnDistance 52 = .ok (.ifCond .ge 6, 3) := by decide +kernel
theorem dX10_columnDistance_55 : decode cX10_columnDistance 55 = .ok (.bipush (-8), 2) := by decide +kernel
theorem dX10_columnDistance_57 : decode cX10_columnDistance 57 = .ok (.ireturn, 1) := by decide +kernel
theorem dX10_columnDistance_58 : decode cX10_columnDistance 58 = .ok (.aload_n 0, 1) := by decide +kernel
theorem dX10_columnDistance_59 : decode cX10_columnDistance 59 = .ok (.getfield 344, 3) := by decide +kernel
theorem dX10_columnDistance_62 : decode cX10_columnDistance 62 = .ok (.l2i, 1) := by decide +kernel
theorem dX10_columnDistance_63 : decode cX10_columnDistance 63 = .ok (.aload_n 0, 1) := by decide +kernel
theorem dX10_columnDistance_64 : decode cX10_columnDistance 64 = .ok (.getfield 347, 3) := by decide +kernel
theorem dX10_columnDistance_67 : decode cX10_columnDistance 67 = .ok (.l2i, 1) := by decide +kernel
theorem dX10_columnDistance_68 : decode cX10_columnDistance 68 = .ok (.invokestatic 197, 3) := by decide +kernel
theorem dX10_columnDistance_71 : decode cX10_columnDistance 71 = .ok (.istore 7, 2) := by decide +kernel
theorem dX10_columnDistance_73 : decode cX10_columnDistance 73 = .ok (.iload 6, 2) := by decide +kernel
theorem dX10_columnDistance_75 : decode cX10_columnDistance 75 = .ok (.ifCond .ne 14, 3) := by decide +kernel
theorem dX10_columnDistance_78 : decode cX10_columnDistance 78 = .ok (.aload_n 0, 1) := by decide +kernel
theorem dX10_columnDistance_79 : decode cX10_columnDistance 79 = .ok (.getfield 344, 3) := by decide +kernel
theorem dX10_columnDistance_82 : decode cX10_columnDistance 82 = .ok (.l2i, 1) := by decide +kernel
theorem dX10_columnDistance_83 : decode cX10_columnDistance 83 = .ok (.iload 7, 2) := by decide +kernel
theorem dX10_columnDistance_85 : decode cX10_columnDistance 85 = .ok (.idiv, 1) := by decide +kernel
theorem dX10_columnDistance_86 : decode cX10_columnDistance 86 = .ok (.goto 11, 3) := by decide +kernel
theorem dX10_columnDistance_89 : decode cX10_columnDistance 89 = .ok (.aload_n 0, 1) := by decide +kernel
theorem dX10_columnDistance_90 : decode cX10_columnDistance 90 = .ok (.getfield 347, 3) := by decide +kernel
theorem dX10_columnDistance_93 : decode cX10_columnDistance 93 = .ok (.l2i, 1) := by decide +kernel
theorem dX10_columnDistance_94 : decode cX10_columnDistance 94 = .ok (.iload 7, 2) := by decide +kernel
theorem dX10_columnDistance_96 : decode cX10_columnDistance 96 = .ok (.idiv, 1) := by decide +kernel
theorem dX10_columnDistance_97 : decode cX10_columnDistance 97 = .ok (.ireturn, 1) := by decide +kernel
theorem dX10_paneCount_0 : decode cX10_paneCount 0 = .ok (.iload_n 1, 1) := by decide +kernel
theorem dX10_paneCount_1 : decode cX10_paneCount 1 = .ok (.iload_n 2, 1) := by decide +kernel
theorem dX10_paneCount_2 : decode cX10_paneCount 2 = .ok (.iload_n 3, 1) := by decide +kernel
theorem dX10_paneCount_3 : decode cX10_paneCount 3 = .ok (.iload 4, 2) := by decide +kernel
theorem dX10_paneCount_5 : decode cX10_paneCount 5 = .ok (.invokestatic 333, 3) := by decide +kernel
theorem dX10_paneCount_8 : decode cX10_paneCount 8 = .ok (.ifCond .eq 15, 3) := by decide +kernel
theorem dX10_paneCount_11 : decode cX10_paneCount 11 = .ok (.iload 5, 2) := by decide +kernel
theorem dX10_paneCount_13 : decode cX10_paneCount 13 = .ok (.ifCond .lt 10, 3) := by decide +kernel
theorem dX10_paneCount_16 : decode cX10_paneCount 16 = .ok (.iload 5, 2) := by decide +kernel
theorem dX10_paneCount_18 : decode cX10_paneCount 18 = .ok (.bipush 31, 2) := by decide +kernel
theorem dX10_paneCount_20 : decode cX10_paneCount 20 = .ok (.if_icmp .le 6, 3) := by decide +kernel
theorem dX10_paneCount_23 : decode cX10_paneCount 23 = .ok (.bipush (-2), 2) := by decide +kernel
theorem dX10_paneCount_25 : decode cX10_paneCount 25 = .ok (.ireturn, 1) := by decide +kernel
theorem dX10_paneCount_26 : decode cX10_paneCount 26 = .ok (.aload_n 0, 1) := by decide +kernel
theorem dX10_paneCount_27 : decode cX10_paneCount 27 = .ok (.iload_n 1, 1) := by decide +kernel
theorem dX10_paneCount_28 : decode cX10_paneCount 28 = .ok (.iload_n 2, 1) := by decide +kernel
theorem dX10_paneCount_29 : decode cX10_paneCount 29 = .ok (.iload_n 3, 1) := by decide +kernel
theorem dX10_paneCount_30 : decode cX10_paneCount 30 = .ok (.iload 4, 2) := by decide +kernel
theorem dX10_paneCount_32 : decode cX10_paneCount 32 = .ok (.iload 5, 2) := by decide +kernel
theorem dX10_paneCount_34 : decode cX10_paneCount 34 = .ok (.invokevirtual 360, 3) := by decide +kernel
theorem dX10_paneCount_37 : decode cX10_paneCount 37 = .ok (.iconst 0, 1) := by decide +kernel
theorem dX10_paneCount_38 : decode cX10_paneCount 38 = .ok (.istore 6, 2) := by decide +kernel
theorem dX10_paneCount_40 : decode cX10_paneCount 40 = .ok (.iconst 0, 1) := by decide +kernel
theorem dX10_paneCount_41 : decode cX10_paneCount 41 = .ok (.istore 7, 2) := by decide +kernel
theorem dX10_paneCount_43 : decode cX10_paneCount 43 = .ok (.iload 7, 2) := by decide +kernel
theorem dX10_paneCount_45 : decode cX10_paneCount 45 = .ok (.bipush 12, 2) := by decide +kernel
theorem dX10_paneCount_47 : decode cX10_paneCount 47 = .ok (.if_icmp .ge 97, 3) := by decide +kernel
theorem dX10_paneCount_50 : decode cX10_paneCount 50 = .ok (.aload_n 0, 1) := by decide +kernel
theorem dX10_paneCount_51 : decode cX10_paneCount 51 = .ok (.iload 7, 2) := by decide +kernel
theorem dX10_paneCount_53 : decode cX10_paneCount 53 = .ok (.iconst 0, 1) := by decide +kernel
theorem dX10_paneCount_54 : decode cX10_paneCount 54 = .ok (.invokevirtual 129, 3) := by decide +kernel
theorem dX10_paneCount_57 : decode cX10_paneCount 57 = .ok (.iconst 1, 1) := by decide +kernel
theorem dX10_paneCount_58 : decode cX10_paneCount 58 = .ok (.if_icmp .ne 80, 3) := by decide +kernel
theorem dX10_paneCount_61 : decode cX10_paneCount 61 = .ok (.aload_n 0, 1) := by decide +kernel
theorem dX10_paneCount_62 : decode cX10_paneCount 62 = .ok (.iload 7, 2) := by decide +kernel
theorem dX10_paneCount_64 : decode cX10_paneCount 64 = .ok (.iconst 5, 1) := by decide +kernel
theorem dX10_paneCount_65 : decode cX10_paneCount 65 = .ok (.invokevirtual 129, 3) := by decide +kernel
theorem dX10_paneCount_68 : decode cX10_paneCount 68 = .ok (.iconst 1, 1) := by decide +kernel
theorem dX10_paneCount_69 : decode cX10_paneCount 69 = .ok (.if_icmp .ne 69, 3) := by decide +kernel
theorem dX10_paneCount_72 : decode cX10_paneCount 72 = .ok (.aload_n 0, 1) := by decide +kernel
theorem dX10_paneCount_73 : decode cX10_paneCount 73 = .ok (.iload 7, 2) := by decide +kernel
theorem dX10_paneCount_75 : decode cX10_paneCount 75 = .ok (.iload_n 1, 1) := by decide +kernel
theorem dX10_paneCount_76 : decode cX10_paneCount 76 = .ok (.iload_n 2, 1) := by decide +kernel
theorem dX10_paneCount_77 : decode cX10_paneCount 77 = .ok (.iload_n 3, 1) := by decide +kernel
theorem dX10_paneCount_78 : decode cX10_paneCount 78 = .ok (.iload 4, 2) := by decide +kernel
theorem dX10_paneCount_80 : decode cX10_paneCount 80 = .ok (.iload 5, 2) := by decide +kernel
theorem dX10_paneCount_82 : decode cX10_paneCount 82 = .ok (.invokestatic 323, 3) := by decide +kernel
theorem dX10_paneCount_85 : decode cX10_paneCount 85 = .ok (.iload_n 3, 1) := by decide +kernel
theorem dX10_paneCount_86 : decode cX10_paneCount 86 = .ok (.iload 4, 2) := by decide +kernel
theorem dX10_paneCount_88 : decode cX10_paneCount 88 = .ok (.iload 5, 2) := by decide +kernel
theorem dX10_paneCount_90 : decode cX10_paneCount 90 = .ok (.invokestatic 326, 3) := by decide +kernel
theorem dX10_paneCount_93 : decode cX10_paneCount 93 = .ok (.invokevirtual 329, 3) := by decide +kernel
theorem dX10_paneCount_96 : decode cX10_paneCount 96 = .ok (.ifCond .eq 42, 3) := by decide +kernel
theorem dX10_paneCount_99 : decode cX10_paneCount 99 = .ok (.iload 6, 2) := by decide +kernel
theorem dX10_paneCount_101 : decode cX10_paneCount 101 = .ok (.aload_n 0, 1) := by decide +kernel
theorem dX10_paneCount_102 : decode cX10_paneCount 102 = .ok (.getfield 341, 3) := by decide +kernel
theorem dX10_paneCount_105 : decode cX10_paneCount 105 = .ok (.ifCond .lt 25, 3) := by decide +kernel
theorem dX10_paneCount_108 : decode cX10_paneCount 108 = .ok (.aload_n 0, 1) := by decide +kernel
theorem dX10_paneCount_109 : decode cX10_paneCount 109 = .ok (.getfield 317, 3) := by decide +kernel
theorem dX10_paneCount_112 : decode cX10_paneCount 112 = .ok (.aload_n 0, 1) := by decide +kernel
theorem dX10_paneCount_113 : decode cX10_paneCount 113 = .ok (.getfield 347, 3) := by decide +kernel
theorem dX10_paneCount_116 : decode cX10_paneCount 116 = .ok (.lmul, 1) := by decide +kernel
theorem dX10_paneCount_117 : decode cX10_paneCount 117 = .ok (.aload_n 0, 1) := by decide +kernel
theorem dX10_paneCount_118 : decode cX10_paneCount 118 = .ok (.getfield 344, 3) := by decide +kernel
theorem dX10_paneCount_121 : decode cX10_paneCount 121 = .ok (.aload_n 0, 1) := by decide +kernel
theorem dX10_paneCount_122 : decode cX10_paneCount 122 = .ok (.getfield 313, 3) := by decide +kernel
theorem dX10_paneCount_125 : decode cX10_paneCount 125 = .ok (.lmul, 1) := by decide +kernel
theorem dX10_paneCount_126 : decode cX10_paneCount 126 = .ok (.lcmp, 1) := by decide +kernel
theorem dX10_paneCount_127 : decode cX10_paneCount 127 = .ok (.ifCond .ge 7, 3) := by decide +kernel
theorem dX10_paneCount_130 : decode cX10_paneCount 130 = .ok (.iconst 1, 1) := by decide +kernel
theorem dX10_paneCount_131 : decode cX10_paneCount 131 = .ok (.goto 4, 3) := by decide +kernel
theorem dX10_paneCount_134 : decode cX10_paneCount 134 = .ok (.iconst 0, 1) := by decide +kernel
theorem dX10_paneCount_135 : decode cX10_paneCount 135 = .ok (.iadd, 1) := by decide +kernel
theorem dX10_paneCount_136 : decode cX10_paneCount 136 = .ok (.istore 6, 2) := by decide +kernel
theorem dX10_paneCount_138 : decode cX10_paneCount 138 = .ok (.iinc 7 1, 3) := by decide +kernel
theorem dX10_paneCount_141 : decode cX10_paneCount 141 = .ok (.goto (-98), 3) := by decide +kernel
theorem dX10_paneCount_144 : decode cX10_paneCount 144 = .ok (.iload 6, 2) := by decide +kernel
theorem dX10_paneCount_146 : decode cX10_paneCount 146 = .ok (.ireturn, 1) := by decide +kernel
theorem dX10_seenColumns_0 : decode cX10_seenColumns 0 = .ok (.iload_n 1, 1) := by decide +kernel
theorem dX10_seenColumns_1 : decode cX10_seenColumns 1 = .ok (.iload_n 2, 1) := by decide +kernel
theorem dX10_seenColumns_2 : decode cX10_seenColumns 2 = .ok (.iload_n 3, 1) := by decide +kernel
theorem dX10_seenColumns_3 : decode cX10_seenColumns 3 = .ok (.iload 4, 2) := by decide +kernel
theorem dX10_seenColumns_5 : decode cX10_seenColumns 5 = .ok (.invokestatic 333, 3) := by decide +kernel
theorem dX10_seenColumns_8 : decode cX10_seenColumns 8 = .ok (.ifCond .ne 6, 3) := by decide +kernel
theorem dX10_seenColumns_11 : decode cX10_seenColumns 11 = .ok (.bipush (-2), 2) := by decide +kernel
theorem dX10_seenColumns_13 : decode cX10_seenColumns 13 = .ok (.ireturn, 1) := by decide +kernel
theorem dX10_seenColumns_14 : decode cX10_seenColumns 14 = .ok (.aload_n 0, 1) := by decide +kernel
theorem dX10_seenColumns_15 : decode cX10_seenColumns 15 = .ok (.iload 5, 2) := by decide +kernel
theorem dX10_seenColumns_17 : decode cX10_seenColumns 17 = .ok (.invokevirtual 140, 3) := by decide +kernel
theorem dX10_seenColumns_20 : decode cX10_seenColumns 20 = .ok (.ifCond .ne 5, 3) := by decide +kernel
theorem dX10_seenColumns_23 : decode cX10_seenColumns 23 = .ok (.iconst (-1), 1) := by decide +kernel
theorem dX10_seenColumns_24 : decode cX10_seenColumns 24 = .ok (.ireturn, 1) := by decide +kernel
theorem dX10_seenColumns_25 : decode cX10_seenColumns 25 = .ok (.iconst 0, 1) := by decide +kernel
theorem dX10_seenColumns_26 : decode cX10_seenColumns 26 = .ok (.istore 6, 2) := by decide +kernel
theorem dX10_seenColumns_28 : decode cX10_seenColumns 28 = .ok (.iconst 0, 1) := by decide +kernel
theorem dX10_seenColumns_29 : decode cX10_seenColumns 29 = .ok (.istore 7, 2) := by decide +kernel
theorem dX10_seenColumns_31 : decode cX10_seenColumns 31 = .ok (.iload 7, 2) := by decide +kernel
theorem dX10_seenColumns_33 : decode cX10_seenColumns 33 = .ok (.bipush 32, 2) := by decide +kernel
theorem dX10_seenColumns_35 : decode cX10_seenColumns 35 = .ok (.if_icmp .ge 39, 3) := by decide +kernel
theorem dX10_seenColumns_38 : decode cX10_seenColumns 38 = .ok (.aload_n 0, 1) := by decide +kernel
theorem dX10_seenColumns_39 : decode cX10_seenColumns 39 = .ok (.iload_n 1, 1) := by decide +kernel
theorem dX10_seenColumns_40 : decode cX10_seenColumns 40 = .ok (.iload_n 2, 1) := by decide +kernel
theorem dX10_seenColumns_41 : decode cX10_seenColumns 41 = .ok (.iload_n 3, 1) := by decide +kernel
theorem dX10_seenColumns_42 : decode cX10_seenColumns 42 = .ok (.iload 4, 2) := by decide +kernel
theorem dX10_seenColumns_44 : decode cX10_seenColumns 44 = .ok (.iload 7, 2) := by decide +kernel
theorem dX10_seenColumns_46 : decode cX10_seenColumns 46 = .ok (.invokevirtual 360, 3) := by decide +kernel
theorem dX10_seenColumns_49 : decode cX10_seenColumns 49 = .ok (.iload 6, 2) := by decide +kernel
theorem dX10_seenColumns_51 : decode cX10_seenColumns 51 = .ok (.aload_n 0, 1) := by decide +kernel
theorem dX10_seenColumns_52 : decode cX10_seenColumns 52 = .ok (.getfield 341, 3) := by decide +kernel
theorem dX10_seenColumns_55 : decode cX10_seenColumns 55 = .ok (.iload 5, 2) := by decide +kernel
theorem dX10_seenColumns_57 : decode cX10_seenColumns 57 = .ok (.if_icmp .ne 7, 3) := by decide +kernel
theorem dX10_seenColumns_60 : decode cX10_seenColumns 60 = .ok (.iconst 1, 1) := by decide +kernel
theorem dX10_seenColumns_61 : decode cX10_seenColumns 61 = .ok (.goto 4, 3) := by decide +kernel
theorem dX10_seenColumns_64 : decode cX10_seenColumns 64 = .ok (.iconst 0, 1) := by decide +kernel
theorem dX10_seenColumns_65 : decode cX10_seenColumns 65 = .ok (.iadd, 1) := by decide +kernel
theorem dX10_seenColumns_66 : decode cX10_seenColumns 66 = .ok (.istore 6, 2) := by decide +kernel
theorem dX10_seenColumns_68 : decode cX10_seenColumns 68 = .ok (.iinc 7 1, 3) := by decide +kernel
theorem dX10_seenColumns_71 : decode cX10_seenColumns 71 = .ok (.goto (-40), 3) := by decide +kernel
theorem dX10_seenColumns_74 : decode cX10_seenColumns 74 = .ok (.iload 6, 2) := by decide +kernel
theorem dX10_seenColumns_76 : decode cX10_seenColumns 76 = .ok (.ireturn, 1) := by decide +kernel
theorem dX10_seen_0 : decode cX10_seen 0 = .ok (.iconst 0, 1) := by decide +kernel
theorem dX10_seen_1 : decode cX10_seen 1 = .ok (.istore_n 3, 1) := by decide +kernel
theorem dX10_seen_2 : decode cX10_seen 2 = .ok (.iconst 0, 1) := by decide +kernel
theorem dX10_seen_3 : decode cX10_seen 3 = .ok (.istore 4, 2) := by decide +kernel
theorem dX10_seen_5 : decode cX10_seen 5 = .ok (.iload 4, 2) := by decide +kernel
theorem dX10_seen_7 : decode cX10_seen 7 = .ok (.bipush 64, 2) := by decide +kernel
theorem dX10_seen_9 : decode cX10_seen 9 = .ok (.if_icmp .ge 62, 3) := by decide +kernel
theorem dX10_seen_12 : decode cX10_seen 12 = .ok (.bipush 8, 2) := by decide +kernel
theorem dX10_seen_14 : decode cX10_seen 14 = .ok (.iload 4, 2) := by decide +kernel
theorem dX10_seen_16 : decode cX10_seen 16 = .ok (.bipush 8, 2) := by decide +kernel
theorem dX10_seen_18 : decode cX10_seen 18 = .ok (.idiv, 1) := by decide +kernel
theorem dX10_seen_19 : decode cX10_seen 19 = .ok (.imul, 1) := by decide +kernel
theorem dX10_seen_20 : decode cX10_seen 20 = .ok (.istore 5, 2) := by decide +kernel
theorem dX10_seen_22 : decode cX10_seen 22 = .ok (.bipush 8, 2) := by decide +kernel
theorem dX10_seen_24 : decode cX10_seen 24 = .ok (.iload 4, 2) := by decide +kernel
theorem dX10_seen_26 : decode cX10_seen 26 = .ok (.bipush 8, 2) := by decide +kernel
theorem dX10_seen_28 : decode cX10_seen 28 = .ok (.irem, 1) := by decide +kernel
theorem dX10_seen_29 : decode cX10_seen 29 = .ok (.imul, 1) := by decide +kernel
theorem dX10_seen_30 : decode cX10_seen 30 = .ok (.istore 6, 2) := by decide +kernel
theorem dX10_seen_32 : decode cX10_seen 32 = .ok (.iload 5, 2) := by decide +kernel
theorem dX10_seen_34 : decode cX10_seen 34 = .ok (.iload_n 1, 1) := by decide +kernel
theorem dX10_seen_35 : decode cX10_seen 35 = .ok (.if_icmp .ne 9, 3) := by decide +kernel
theorem dX10_seen_38 : decode cX10_seen 38 = .ok (.iload 6, 2) := by decide +kernel
theorem dX10_seen_40 : decode cX10_seen 40 = .ok (.iload_n 2, 1) := by decide +kernel
theorem dX10_seen_41 : decode cX10_seen 41 = .ok (.if_icmp .eq 24, 3) := by decide +kernel
theorem dX10_seen_44 : decode cX10_seen 44 = .ok (.iload_n 3, 1) := by decide +kernel
theorem dX10_seen_45 : decode cX10_seen 45 = .ok (.aload_n 0, 1) := by decide +kernel
theorem dX10_seen_46 : decode cX10_seen 46 = .ok (.iload_n 1, 1) := by decide +kernel
theorem dX10_seen_47 : decode cX10_seen 47 = .ok (.iload_n 2, 1) := by decide +kernel
theorem dX10_seen_48 : decode cX10_seen 48 = .ok (.iload 5, 2) := by decide +kernel
theorem dX10_seen_50 : decode cX10_seen 50 = .ok (.iload 6, 2) := by decide +kernel
theorem dX10_seen_52 : decode cX10_seen 52 = .ok (.invokevirtual 357, 3) := by decide +kernel
theorem dX10_seen_55 : decode cX10_seen 55 = .ok (.ifCond .eq 7, 3) := by decide +kernel
theorem dX10_seen_58 : decode cX10_seen 58 = .ok (.iconst 0, 1) := by decide +kernel
theorem dX10_seen_59 : decode cX10_seen 59 = .ok (.goto 4, 3) := by decide +kernel
theorem dX10_seen_62 : decode cX10_seen 62 = .ok (.iconst 1, 1) := by decide +kernel
theorem dX10_seen_63 : decode cX10_seen 63 = .ok (.iadd, 1) := by decide +kernel
theorem dX10_seen_64 : decode cX10_seen 64 = .ok (.istore_n 3, 1) := by decide +kernel
theorem dX10_seen_65 : decode cX10_seen 65 = .ok (.iinc 4 1, 3) := by decide +kernel
theorem dX10_seen_68 : decode cX10_seen 68 = .ok (.goto (-63), 3) := by decide +kernel
theorem dX10_seen_71 : decode cX10_seen 71 = .ok (.iload_n 3, 1) := by decide +kernel
theorem dX10_seen_72 : decode cX10_seen 72 = .ok (.ireturn, 1) := by decide +kernel
theorem dX10_seenPoints_0 : decode cX10_seenPoints 0 = .ok (.iload_n 1, 1) := by decide +kernel
theorem dX10_seenPoints_1 : decode cX10_seenPoints 1 = .ok (.iload_n 2, 1) := by decide +kernel
theorem dX10_seenPoints_2 : decode cX10_seenPoints 2 = .ok (.invokestatic 297, 3) := by decide +kernel
theorem dX10_seenPoints_5 : decode cX10_seenPoints 5 = .ok (.ifCond .eq 12, 3) := by decide +kernel
theorem dX10_seenPoints_8 : decode cX10_seenPoints 8 = .ok (.aload_n 0, 1) := by decide +kernel
theorem dX10_seenPoints_9 : decode cX10_seenPoints 9 = .ok (.iload_n 1, 1) := by decide +kernel
theorem dX10_seenPoints_10 : decode cX10_seenPoints 10 = .ok (.iload_n 2, 1) := by decide +kernel
theorem dX10_seenPoints_11 : decode cX10_seenPoints 11 = .ok (.invokevirtual 364, 3) := by decide +kernel
theorem dX10_seenPoints_14 : decode cX10_seenPoints 14 = .ok (.goto 5, 3) := by decide +kernel
theorem dX10_seenPoints_17 : decode cX10_seenPoints 17 = .ok (.bipush (-2), 2) := by decide +kernel
theorem dX10_seenPoints_19 : decode cX10_seenPoints 19 = .ok (.ireturn, 1) := by decide +kernel
theorem dX10_lookout_0 : decode cX10_lookout 0 = .ok (.iload_n 1, 1) := by decide +kernel
theorem dX10_lookout_1 : decode cX10_lookout 1 = .ok (.ifCond .lt 8, 3) := by decide +kernel
theorem dX10_lookout_4 : decode cX10_lookout 4 = .ok (.iload_n 1, 1) := by decide +kernel
theorem dX10_lookout_5 : decode cX10_lookout 5 = .ok (.iconst 1, 1) := by decide +kernel
theorem dX10_lookout_6 : decode cX10_lookout 6 = .ok (.if_icmp .le 6, 3) := by decide +kernel
theorem dX10_lookout_9 : decode cX10_lookout 9 = .ok (.bipush (-2), 2) := by decide +kernel
theorem dX10_lookout_11 : decode cX10_lookout 11 = .ok (.ireturn, 1) := by decide +kernel
theorem dX10_lookout_12 : decode cX10_lookout 12 = .ok (.iconst 0, 1) := by decide +kernel
theorem dX10_lookout_13 : decode cX10_lookout 13 = .ok (.istore_n 2, 1) := by decide +kernel
theorem dX10_lookout_14 : decode cX10_lookout 14 = .ok (.iconst (-1), 1) := by decide +kernel
theorem dX10_lookout_15 : decode cX10_lookout 15 = .ok (.istore_n 3, 1) := by decide +kernel
theorem dX10_lookout_16 : decode cX10_lookout 16 = .ok (.iconst 0, 1) := by decide +kernel
theorem dX10_lookout_17 : decode cX10_lookout 17 = .ok (.istore 4, 2) := by decide +kernel
theorem dX10_lookout_19 : decode cX10_lookout 19 = .ok (.iload 4, 2) := by decide +kernel
theorem dX10_lookout_21 : decode cX10_lookout 21 = .ok (.bipush 64, 2) := by decide +kernel
theorem dX10_lookout_23 : decode cX10_lookout 23 = .ok (.if_icmp .ge 61, 3) := by decide +kernel
theorem dX10_lookout_26 : decode cX10_lookout 26 = .ok (.aload_n 0, 1) := by decide +kernel
theorem dX10_lookout_27 : decode cX10_lookout 27 = .ok (.bipush 8, 2) := by decide +kernel
theorem dX10_lookout_29 : decode cX10_lookout 29 = .ok (.iload 4, 2) := by decide +kernel
theorem dX10_lookout_31 : decode cX10_lookout 31 = .ok (.bipush 8, 2) := by decide +kernel
theorem dX10_lookout_33 : decode cX10_lookout 33 = .ok (.idiv, 1) := by decide +kernel
theorem dX10_lookout_34 : decode cX10_lookout 34 = .ok (.imul, 1) := by decide +kernel
theorem dX10_lookout_35 : decode cX10_lookout 35 = .ok (.bipush 8, 2) := by decide +kernel
theorem dX10_lookout_37 : decode cX10_lookout 37 = .ok (.iload 4, 2) := by decide +kernel
theorem dX10_lookout_39 : decode cX10_lookout 39 = .ok (.bipush 8, 2) := by decide +kernel
theorem dX10_lookout_41 : decode cX10_lookout 41 = .ok (.irem, 1) := by decide +kernel
theorem dX10_lookout_42 : decode cX10_lookout 42 = .ok (.imul, 1) := by decide +kernel
theorem dX10_lookout_43 : decode cX10_lookout 43 = .ok (.invokevirtual 364, 3) := by decide +kernel
theorem dX10_lookout_46 : decode cX10_lookout 46 = .ok (.istore 5, 2) := by decide +kernel
theorem dX10_lookout_48 : decode cX10_lookout 48 = .ok (.iload 5, 2) := by decide +kernel
theorem dX10_lookout_50 : decode cX10_lookout 50 = .ok (.iload_n 3, 1) := by decide +kernel
theorem dX10_lookout_51 : decode cX10_lookout 51 = .ok (.if_icmp .le 27, 3) := by decide +kernel
theorem dX10_lookout_54 : decode cX10_lookout 54 = .ok (.iload 5, 2) := by decide +kernel
theorem dX10_lookout_56 : decode cX10_lookout 56 = .ok (.istore_n 3, 1) := by decide +kernel
theorem dX10_lookout_57 : decode cX10_lookout 57 = .ok (.bipush 64, 2) := by decide +kernel
theorem dX10_lookout_59 : decode cX10_lookout 59 = .ok (.bipush 8, 2) := by decide +kernel
theorem dX10_lookout_61 : decode cX10_lookout 61 = .ok (.iload 4, 2) := by decide +kernel
theorem dX10_lookout_63 : decode cX10_lookout 63 = .ok (.bipush 8, 2) := by decide +kernel
theorem dX10_lookout_65 : decode cX10_lookout 65 = .ok (.idiv, 1) := by decide +kernel
theorem dX10_lookout_66 : decode cX10_lookout 66 = .ok (.imul, 1) := by decide +kernel
theorem dX10_lookout_67 : decode cX10_lookout 67 = .ok (.imul, 1) := by decide +kernel
theorem dX10_lookout_68 : decode cX10_lookout 68 = .ok (.bipush 8, 2) := by decide +kernel
theorem dX10_lookout_70 : decode cX10_lookout 70 = .ok (.iload 4, 2) := by decide +kernel
theorem dX10_lookout_72 : decode cX10_lookout 72 = .ok (.bipush 8, 2) := by decide +kernel
theorem dX10_lookout_74 : decode cX10_lookout 74 = .ok (.irem, 1) := by decide +kernel
theorem dX10_lookout_75 : decode cX10_lookout 75 = .ok (.imul, 1) := by decide +kernel
theorem dX10_lookout_76 : decode cX10_lookout 76 = .ok (.iadd, 1) := by decide +kernel
theorem dX10_lookout_77 : decode cX10_lookout 77 = .ok (.istore_n 2, 1) := by decide +kernel
theorem dX10_lookout_78 : decode cX10_lookout 78 = .ok (.iinc 4 1, 3) := by decide +kernel
theorem dX10_lookout_81 : decode cX10_lookout 81 = .ok (.goto (-62), 3) := by decide +kernel
theorem dX10_lookout_84 : decode cX10_lookout 84 = .ok (.iload_n 1, 1) := by decide +kernel
theorem dX10_lookout_85 : decode cX10_lookout 85 = .ok (.ifCond .ne 7, 3) := by decide +kernel
theorem dX10_lookout_88 : decode cX10_lookout 88 = .ok (.iload_n 2, 1) := by decide +kernel
theorem dX10_lookout_89 : decode cX10_lookout 89 = .ok (.goto 4, 3) := by decide +kernel
theorem dX10_lookout_92 : decode cX10_lookout 92 = .ok (.iload_n 3, 1) := by decide +kernel
theorem dX10_lookout_93 : decode cX10_lookout 93 = .ok (.ireturn, 1) := by decide +kernel
theorem dX10_mayGo_0 : decode cX10_mayGo 0 = .ok (.iload_n 3, 1) := by decide +kernel
theorem dX10_mayGo_1 : decode cX10_mayGo 1 = .ok (.ifCond .ne 8, 3) := by decide +kernel
theorem dX10_mayGo_4 : decode cX10_mayGo 4 = .ok (.iload 4, 2) := by decide +kernel
theorem dX10_mayGo_6 : decode cX10_mayGo 6 = .ok (.ifCond .eq 36, 3) := by decide +kernel
theorem dX10_mayGo_9 : decode cX10_mayGo 9 = .ok (.iload_n 1, 1) := by decide +kernel
theorem dX10_mayGo_10 : decode cX10_mayGo 10 = .ok (.iload_n 3, 1) := by decide +kernel
theorem dX10_mayGo_11 : decode cX10_mayGo 11 = .ok (.iadd, 1) := by decide +kernel
theorem dX10_mayGo_12 : decode cX10_mayGo 12 = .ok (.iload_n 2, 1) := by decide +kernel
theorem dX10_mayGo_13 : decode cX10_mayGo 13 = .ok (.iload 4, 2) := by decide +kernel
theorem dX10_mayGo_15 : decode cX10_mayGo 15 = .ok (.iadd, 1) := by decide +kernel
theorem dX10_mayGo_16 : decode cX10_mayGo 16 = .ok (.invokestatic 297, 3) := by decide +kernel
theorem dX10_mayGo_19 : decode cX10_mayGo 19 = .ok (.ifCond .eq 23, 3) := by decide +kernel
theorem dX10_mayGo_22 : decode cX10_mayGo 22 = .ok (.aload_n 0, 1) := by decide +kernel
theorem dX10_mayGo_23 : decode cX10_mayGo 23 = .ok (.iload_n 1, 1) := by decide +kernel
theorem dX10_mayGo_24 : decode cX10_mayGo 24 = .ok (.iload_n 2, 1) := by decide +kernel
theorem dX10_mayGo_25 : decode cX10_mayGo 25 = .ok (.iload_n 1, 1) := by decide +kernel
theorem dX10_mayGo_26 : decode cX10_mayGo 26 = .ok (.iload_n 3, 1) := by decide +kernel
theorem dX10_mayGo_27 : decode cX10_mayGo 27 = .ok (.iadd, 1) := by decide +kernel
theorem dX10_mayGo_28 : decode cX10_mayGo 28 = .ok (.iload_n 2, 1) := by decide +kernel
theorem dX10_mayGo_29 : decode cX10_mayGo 29 = .ok (.iload 4, 2) := by decide +kernel
theorem dX10_mayGo_31 : decode cX10_mayGo 31 = .ok (.iadd, 1) := by decide +kernel
theorem dX10_mayGo_32 : decode cX10_mayGo 32 = .ok (.invokevirtual 357, 3) := by decide +kernel
theorem dX10_mayGo_35 : decode cX10_mayGo 35 = .ok (.ifCond .ne 7, 3) := by decide +kernel
theorem dX10_mayGo_38 : decode cX10_mayGo 38 = .ok (.iconst 1, 1) := by decide +kernel
theorem dX10_mayGo_39 : decode cX10_mayGo 39 = .ok (.goto 4, 3) := by decide +kernel
theorem dX10_mayGo_42 : decode cX10_mayGo 42 = .ok (.iconst 0, 1) := by decide +kernel
theorem dX10_mayGo_43 : decode cX10_mayGo 43 = .ok (.ireturn, 1) := by decide +kernel
theorem dX10_walked_0 : decode cX10_walked 0 = .ok (.aload_n 0, 1) := by decide +kernel
theorem dX10_walked_1 : decode cX10_walked 1 = .ok (.iload_n 1, 1) := by decide +kernel
theorem dX10_walked_2 : decode cX10_walked 2 = .ok (.iload_n 2, 1) := by decide +kernel
theorem dX10_walked_3 : decode cX10_walked 3 = .ok (.iload_n 3, 1) := by decide +kernel
theorem dX10_walked_4 : decode cX10_walked 4 = .ok (.iload 4, 2) := by decide +kernel
theorem dX10_walked_6 : decode cX10_walked 6 = .ok (.invokevirtual 367, 3) := by decide +kernel
theorem dX10_walked_9 : decode cX10_walked 9 = .ok (.ifCond .eq 15, 3) := by decide +kernel
theorem dX10_walked_12 : decode cX10_walked 12 = .ok (.bipush 64, 2) := by decide +kernel
theorem dX10_walked_14 : decode cX10_walked 14 = .ok (.iload_n 1, 1) := by decide +kernel
theorem dX10_walked_15 : decode cX10_walked 15 = .ok (.iload_n 3, 1) := by decide +kernel
theorem dX10_walked_16 : decode cX10_walked 16 = .ok (.iadd, 1) := by decide +kernel
theorem dX10_walked_17 : decode cX10_walked 17 = .ok (.imul, 1) := by decide +kernel
theorem dX10_walked_18 : decode cX10_walked 18 = .ok (.iload_n 2, 1) := by decide +kernel
theorem dX10_walked_19 : decode cX10_walked 19 = .ok (.iadd, 1) := by decide +kernel
theorem dX10_walked_20 : decode cX10_walked 20 = .ok (.iload 4, 2) := by decide +kernel
theorem dX10_walked_22 : decode cX10_walked 22 = .ok (.iadd, 1) := by decide +kernel
theorem dX10_walked_23 : decode cX10_walked 23 = .ok (.ireturn, 1) := by decide +kernel
theorem dX10_walked_24 : decode cX10_walked 24 = .ok (.aload_n 0, 1) := by decide +kernel
theorem dX10_walked_25 : decode cX10_walked 25 = .ok (.iload_n 1, 1) := by decide +kernel
theorem dX10_walked_26 : decode cX10_walked 26 = .ok (.iload_n 2, 1) := by decide +kernel
theorem dX10_walked_27 : decode cX10_walked 27 = .ok (.iload_n 3, 1) := by decide +kernel
theorem dX10_walked_28 : decode cX10_walked 28 = .ok (.iconst 0, 1) := by decide +kernel
theorem dX10_walked_29 : decode cX10_walked 29 = .ok (.invokevirtual 367, 3) := by decide +kernel
theorem dX10_walked_32 : decode cX10_walked 32 = .ok (.ifCond .eq 12, 3) := by decide +kernel
theorem dX10_walked_35 : decode cX10_walked 35 = .ok (.bipush 64, 2) := by decide +kernel
theorem dX10_walked_37 : decode cX10_walked 37 = .ok (.iload_n 1, 1) := by decide +kernel
theorem dX10_walked_38 : decode cX10_walked 38 = .ok (.iload_n 3, 1) := by decide +kernel
theorem dX10_walked_39 : decode cX10_walked 39 = .ok (.iadd, 1) := by decide +kernel
theorem dX10_walked_40 : decode cX10_walked 40 = .ok (.imul, 1) := by decide +kernel
theorem dX10_walked_41 : decode cX10_walked 41 = .ok (.iload_n 2, 1) := by decide +kernel
theorem dX10_walked_42 : decode cX10_walked 42 = .ok (.iadd, 1) := by decide +kernel
theorem dX10_walked_43 : decode cX10_walked 43 = .ok (.ireturn, 1) := by decide +kernel
theorem dX10_walked_44 : decode cX10_walked 44 = .ok (.aload_n 0, 1) := by decide +kernel
theorem dX10_walked_45 : decode cX10_walked 45 = .ok (.iload_n 1, 1) := by decide +kernel
theorem dX10_walked_46 : decode cX10_walked 46 = .ok (.iload_n 2, 1) := by decide +kernel
theorem dX10_walked_47 : decode cX10_walked 47 = .ok (.iconst 0, 1) := by decide +kernel
theorem dX10_walked_48 : decode cX10_walked 48 = .ok (.iload 4, 2) := by decide +kernel
theorem dX10_walked_50 : decode cX10_walked 50 = .ok (.invokevirtual 367, 3) := by decide +kernel
theorem dX10_walked_53 : decode cX10_walked 53 = .ok (.ifCond .eq 15, 3) := by decide +kernel
theorem dX10_walked_56 : decode cX10_walked 56 = .ok (.bipush 64, 2) := by decide +kernel
theorem dX10_walked_58 : decode cX10_walked 58 = .ok (.iload_n 1, 1) := by decide +kernel
theorem dX10_walked_59 : decode cX10_walked 59 = .ok (.imul, 1) := by decide +kernel
theorem dX10_walked_60 : decode cX10_walked 60 = .ok (.iload_n 2, 1) := by decide +kernel
theorem dX10_walked_61 : decode cX10_walked 61 = .ok (.iadd, 1) := by decide +kernel
theorem dX10_walked_62 : decode cX10_walked 62 = .ok (.iload 4, 2) := by decide +kernel
theorem dX10_walked_64 : decode cX10_walked 64 = .ok (.iadd, 1) := by decide +kernel
theorem dX10_walked_65 : decode cX10_walked 65 = .ok (.goto 9, 3) := by decide +kernel
theorem dX10_walked_68 : decode cX10_walked 68 = .ok (.bipush 64, 2) := by decide +kernel
theorem dX10_walked_70 : decode cX10_walked 70 = .ok (.iload_n 1, 1) := by decide +kernel
theorem dX10_walked_71 : decode cX10_walked 71 = .ok (.imul, 1) := by decide +kernel
theorem dX10_walked_72 : decode cX10_walked 72 = .ok (.iload_n 2, 1) := by decide +kernel
theorem dX10_walked_73 : decode cX10_walked 73 = .ok (.iadd, 1) := by decide +kernel
theorem dX10_walked_74 : decode cX10_walked 74 = .ok (.ireturn, 1) := by decide +kernel
theorem dX10_walk_0 : decode cX10_walk 0 = .ok (.iload_n 1, 1) := by decide +kernel
theorem dX10_walk_1 : decode cX10_walk 1 = .ok (.iload_n 2, 1) := by decide +kernel
theorem dX10_walk_2 : decode cX10_walk 2 = .ok (.invokestatic 297, 3) := by decide +kernel
theorem dX10_walk_5 : decode cX10_walk 5 = .ok (.ifCond .eq 29, 3) := by decide +kernel
theorem dX10_walk_8 : decode cX10_walk 8 = .ok (.iload_n 3, 1) := by decide +kernel
theorem dX10_walk_9 : decode cX10_walk 9 = .ok (.bipush (-8), 2) := by decide +kernel
theorem dX10_walk_11 : decode cX10_walk 11 = .ok (.if_icmp .lt 23, 3) := by decide +kernel
theorem dX10_walk_14 : decode cX10_walk 14 = .ok (.iload_n 3, 1) := by decide +kernel
theorem dX10_walk_15 : decode cX10_walk 15 = .ok (.bipush 8, 2) := by decide +kernel
theorem dX10_walk_17 : decode cX10_walk 17 = .ok (.if_icmp .gt 17, 3) := by decide +kernel
theorem dX10_walk_20 : decode cX10_walk 20 = .ok (.iload 4, 2) := by decide +kernel
theorem dX10_walk_22 : decode cX10_walk 22 = .ok (.bipush (-8), 2) := by decide +kernel
theorem dX10_walk_24 : decode cX10_walk 24 = .ok (.if_icmp .lt 10, 3) := by decide +kernel
theorem dX10_walk_27 : decode cX10_walk 27 = .ok (.iload 4, 2) := by decide +kernel
theorem dX10_walk_29 : decode cX10_walk 29 = .ok (.bipush 8, 2) := by decide +kernel
theorem dX10_walk_31 : decode cX10_walk 31 = .ok (.if_icmp .le 6, 3) := by decide +kernel
theorem dX10_walk_34 : decode cX10_walk 34 = .ok (.bipush (-2), 2) := by decide +kernel
theorem dX10_walk_36 : decode cX10_walk 36 = .ok (.ireturn, 1) := by decide +kernel
theorem dX10_walk_37 : decode cX10_walk 37 = .ok (.aload_n 0, 1) := by decide +kernel
theorem dX10_walk_38 : decode cX10_walk 38 = .ok (.iload_n 1, 1) := by decide +kernel
theorem dX10_walk_39 : decode cX10_walk 39 = .ok (.iload_n 2, 1) := by decide +kernel
theorem dX10_walk_40 : decode cX10_walk 40 = .ok (.iload_n 3, 1) := by decide +kernel
theorem dX10_walk_41 : decode cX10_walk 41 = .ok (.iload 4, 2) := by decide +kernel
theorem dX10_walk_43 : decode cX10_walk 43 = .ok (.invokevirtual 370, 3) := by decide +kernel
theorem dX10_walk_46 : decode cX10_walk 46 = .ok (.ireturn, 1) := by decide +kernel
theorem dX10_wander_0 : decode cX10_wander 0 = .ok (.iload_n 1, 1) := by decide +kernel
theorem dX10_wander_1 : decode cX10_wander 1 = .ok (.iload_n 2, 1) := by decide +kernel
theorem dX10_wander_2 : decode cX10_wander 2 = .ok (.invokestatic 297, 3) := by decide +kernel
theorem dX10_wander_5 : decode cX10_wander 5 = .ok (.ifCond .eq 20, 3) := by decide +kernel
theorem dX10_wander_8 : decode cX10_wander 8 = .ok (.iload_n 3, 1) := by decide +kernel
theorem dX10_wander_9 : decode cX10_wander 9 = .ok (.ifCond .lt 16, 3) := by decide +kernel
theorem dX10_wander_12 : decode cX10_wander 12 = .ok (.iload 4, 2) := by decide +kernel
theorem dX10_wander_14 : decode cX10_wander 14 = .ok (.iconst 1, 1) := by decide +kernel
theorem dX10_wander_15 : decode cX10_wander 15 = .ok (.if_icmp .lt 10, 3) := by decide +kernel
theorem dX10_wander_18 : decode cX10_wander 18 = .ok (.iload 4, 2) := by decide +kernel
theorem dX10_wander_20 : decode cX10_wander 20 = .ok (.bipush 60, 2) := by decide +kernel
theorem dX10_wander_22 : decode cX10_wander 22 = .ok (.if_icmp .le 6, 3) := by decide +kernel
theorem dX10_wander_25 : decode cX10_wander 25 = .ok (.bipush (-2), 2) := by decide +kernel
theorem dX10_wander_27 : decode cX10_wander 27 = .ok (.ireturn, 1) := by decide +kernel
theorem dX10_wander_28 : decode cX10_wander 28 = .ok (.bipush 64, 2) := by decide +kernel
theorem dX10_wander_30 : decode cX10_wander 30 = .ok (.iload_n 1, 1) := by decide +kernel
theorem dX10_wander_31 : decode cX10_wander 31 = .ok (.imul, 1) := by decide +kernel
theorem dX10_wander_32 : decode cX10_wander 32 = .ok (.iload_n 2, 1) := by decide +kernel
theorem dX10_wander_33 : decode cX10_wander 33 = .ok (.iadd, 1) := by decide +kernel
theorem dX10_wander_34 : decode cX10_wander 34 = .ok (.istore 5, 2) := by decide +kernel
theorem dX10_wander_36 : decode cX10_wander 36 = .ok (.iload_n 3, 1) := by decide +kernel
theorem dX10_wander_37 : decode cX10_wander 37 = .ok (.i2l, 1) := by decide +kernel
theorem dX10_wander_38 : decode cX10_wander 38 = .ok (.lstore 6, 2) := by decide +kernel
theorem dX10_wander_40 : decode cX10_wander 40 = .ok (.iconst 0, 1) := by decide +kernel
theorem dX10_wander_41 : decode cX10_wander 41 = .ok (.istore 8, 2) := by decide +kernel
theorem dX10_wander_43 : decode cX10_wander 43 = .ok (.iload 8, 2) := by decide +kernel
theorem dX10_wander_45 : decode cX10_wander 45 = .ok (.iload 4, 2) := by decide +kernel
theorem dX10_wander_47 : decode cX10_wander 47 = .ok (.if_icmp .ge 91, 3) := by decide +kernel
theorem dX10_wander_50 : decode cX10_wander 50 = .ok (.ldc2_w 373, 3) := by decide +kernel
theorem dX10_wander_53 : decode cX10_wander 53 = .ok (.lload 6, 2) := by decide +kernel
theorem dX10_wander_55 : decode cX10_wander 55 = .ok (.lmul, 1) := by decide +kernel
theorem dX10_wander_56 : decode cX10_wander 56 = .ok (.ldc2_w 375, 3) := by decide +kernel
theorem dX10_wander_59 : decode cX10_wander 59 = .ok (.ladd, 1) := by decide +kernel
theorem dX10_wander_60 : decode cX10_wander 60 = .ok (.ldc2_w 377, 3) := by decide +kernel
theorem dX10_wander_63 : decode cX10_wander 63 = .ok (.lrem, 1) := by decide +kernel
theorem dX10_wander_64 : decode cX10_wander 64 = .ok (.lstore 6, 2) := by decide +kernel
theorem dX10_wander_66 : decode cX10_wander 66 = .ok (.lload 6, 2) := by decide +kernel
theorem dX10_wander_68 : decode cX10_wander 68 = .ok (.ldc2_w 379, 3) := by decide +kernel
theorem dX10_wander_71 : decode cX10_wander 71 = .ok (.ldiv, 1) := by decide +kernel
theorem dX10_wander_72 : decode cX10_wander 72 = .ok (.ldc2_w 381, 3) := by decide +kernel
theorem dX10_wander_75 : decode cX10_wander 75 = .ok (.lrem, 1) := by decide +kernel
theorem dX10_wander_76 : decode cX10_wander 76 = .ok (.l2i, 1) := by decide +kernel
theorem dX10_wander_77 : decode cX10_wander 77 = .ok (.iconst 3, 1) := by decide +kernel
theorem dX10_wander_78 : decode cX10_wander 78 = .ok (.isub, 1) := by decide +kernel
theorem dX10_wander_79 : decode cX10_wander 79 = .ok (.istore 9, 2) := by decide +kernel
theorem dX10_wander_81 : decode cX10_wander 81 = .ok (.ldc2_w 373, 3) := by decide +kernel
theorem dX10_wander_84 : decode cX10_wander 84 = .ok (.lload 6, 2) := by decide +kernel
theorem dX10_wander_86 : decode cX10_wander 86 = .ok (.lmul, 1) := by decide +kernel
theorem dX10_wander_87 : decode cX10_wander 87 = .ok (.ldc2_w 375, 3) := by decide +kernel
theorem dX10_wander_90 : decode cX10_wander 90 = .ok (.ladd, 1) := by decide +kernel
theorem dX10_wander_91 : decode cX10_wander 91 = .ok (.ldc2_w 377, 3) := by decide +kernel
theorem dX10_wander_94 : decode cX10_wander 94 = .ok (.lrem, 1) := by decide +kernel
theorem dX10_wander_95 : decode cX10_wander 95 = .ok (.lstore 6, 2) := by decide +kernel
theorem dX10_wander_97 : decode cX10_wander 97 = .ok (.lload 6, 2) := by decide +kernel
theorem dX10_wander_99 : decode cX10_wander 99 = .ok (.ldc2_w 379, 3) := by decide +kernel
theorem dX10_wander_102 : decode cX10_wander 102 = .ok (.ldiv, 1) := by decide +kernel
theorem dX10_wander_103 : decode cX10_wander 103 = .ok (.ldc2_w 381, 3) := by decide +kernel
theorem dX10_wander_106 : decode cX10_wander 106 = .ok (.lrem, 1) := by decide +kernel
theorem dX10_wander_107 : decode cX10_wander 107 = .ok (.l2i, 1) := by decide +kernel
theorem dX10_wander_108 : decode cX10_wander 108 = .ok (.iconst 3, 1) := by decide +kernel
theorem dX10_wander_109 : decode cX10_wander 109 = .ok (.isub, 1) := by decide +kernel
theorem dX10_wander_110 : decode cX10_wander 110 = .ok (.istore 10, 2) := by decide +kernel
theorem dX10_wander_112 : decode cX10_wander 112 = .ok (.aload_n 0, 1) := by decide +kernel
theorem dX10_wander_113 : decode cX10_wander 113 = .ok (.iload 5, 2) := by decide +kernel
theorem dX10_wander_115 : decode cX10_wander 115 = .ok (.bipush 64, 2) := by decide +kernel
theorem dX10_wander_117 : decode cX10_wander 117 = .ok (.idiv, 1) := by decide +kernel
theorem dX10_wander_118 : decode cX10_wander 118 = .ok (.iload 5, 2) := by decide +kernel
theorem dX10_wander_120 : decode cX10_wander 120 = .ok (.bipush 64, 2) := by decide +kernel
theorem dX10_wander_122 : decode cX10_wander 122 = .ok (.irem, 1) := by decide +kernel
theorem dX10_wander_123 : decode cX10_wander 123 = .ok (.iload 9, 2) := by decide +kernel
theorem dX10_wander_125 : decode cX10_wander 125 = .ok (.iload 10, 2) := by decide +kernel
theorem dX10_wander_127 : decode cX10_wander 127 = .ok (.invokevirtual 370, 3) := by decide +kernel
theorem dX10_wander_130 : decode cX10_wander 130 = .ok (.istore 5, 2) := by decide +kernel
theorem dX10_wander_132 : decode cX10_wander 132 = .ok (.iinc 8 1, 3) := by decide +kernel
theorem dX10_wander_135 : decode cX10_wander 135 = .ok (.goto (-92), 3) := by decide +kernel
theorem dX10_wander_138 : decode cX10_wander 138 = .ok (.iload 5, 2) := by decide +kernel
theorem dX10_wander_140 : decode cX10_wander 140 = .ok (.ireturn, 1) := by decide +kernel
theorem dX10_away_0 : decode cX10_away 0 = .ok (.aload_n 0, 1) := by decide +kernel
theorem dX10_away_1 : decode cX10_away 1 = .ok (.iload_n 1, 1) := by decide +kernel
theorem dX10_away_2 : decode cX10_away 2 = .ok (.iconst 3, 1) := by decide +kernel
theorem dX10_away_3 : decode cX10_away 3 = .ok (.invokevirtual 129, 3) := by decide +kernel
theorem dX10_away_6 : decode cX10_away 6 = .ok (.aload_n 0, 1) := by decide +kernel
theorem dX10_away_7 : decode cX10_away 7 = .ok (.iload_n 1, 1) := by decide +kernel
theorem dX10_away_8 : decode cX10_away 8 = .ok (.iconst 1, 1) := by decide +kernel
theorem dX10_away_9 : decode cX10_away 9 = .ok (.invokevirtual 129, 3) := by decide +kernel
theorem dX10_away_12 : decode cX10_away 12 = .ok (.isub, 1) := by decide +kernel
theorem dX10_away_13 : decode cX10_away 13 = .ok (.i2l, 1) := by decide +kernel
theorem dX10_away_14 : decode cX10_away 14 = .ok (.lstore 4, 2) := by decide +kernel
theorem dX10_away_16 : decode cX10_away 16 = .ok (.aload_n 0, 1) := by decide +kernel
theorem dX10_away_17 : decode cX10_away 17 = .ok (.iload_n 1, 1) := by decide +kernel
theorem dX10_away_18 : decode cX10_away 18 = .ok (.iconst 4, 1) := by decide +kernel
theorem dX10_away_19 : decode cX10_away 19 = .ok (.invokevirtual 129, 3) := by decide +kernel
theorem dX10_away_22 : decode cX10_away 22 = .ok (.aload_n 0, 1) := by decide +kernel
theorem dX10_away_23 : decode cX10_away 23 = .ok (.iload_n 1, 1) := by decide +kernel
theorem dX10_away_24 : decode cX10_away 24 = .ok (.iconst 2, 1) := by decide +kernel
theorem dX10_away_25 : decode cX10_away 25 = .ok (.invokevirtual 129, 3) := by decide +kernel
theorem dX10_away_28 : decode cX10_away 28 = .ok (.isub, 1) := by decide +kernel
theorem dX10_away_29 : decode cX10_away 29 = .ok (.i2l, 1) := by decide +kernel
theorem dX10_away_30 : decode cX10_away 30 = .ok (.lstore 6, 2) := by decide +kernel
theorem dX10_away_32 : decode cX10_away 32 = .ok (.iload_n 2, 1) := by decide +kernel
theorem dX10_away_33 : decode cX10_away 33 = .ok (.aload_n 0, 1) := by decide +kernel
theorem dX10_away_34 : decode cX10_away 34 = .ok (.iload_n 1, 1) := by decide +kernel
theorem dX10_away_35 : decode cX10_away 35 = .ok (.iconst 1, 1) := by decide +kernel
theorem dX10_away_36 : decode cX10_away 36 = .ok (.invokevirtual 129, 3) := by decide +kernel
theorem dX10_away_39 : decode cX10_away 39 = .ok (.isub, 1) := by decide +kernel
theorem dX10_away_40 : decode cX10_away 40 = .ok (.i2l, 1) := by decide +kernel
theorem dX10_away_41 : decode cX10_away 41 = .ok (.lstore 8, 2) := by decide +kernel
theorem dX10_away_43 : decode cX10_away 43 = .ok (.iload_n 3, 1) := by decide +kernel
theorem dX10_away_44 : decode cX10_away 44 = .ok (.aload_n 0, 1) := by decide +kernel
theorem dX10_away_45 : decode cX10_away 45 = .ok (.iload_n 1, 1) := by decide +kernel
theorem dX10_away_46 : decode cX10_away 46 = .ok (.iconst 2, 1) := by decide +kernel
theorem dX10_away_47 : decode cX10_away 47 = .ok (.invokevirtual 129, 3) := by decide +kernel
theorem dX10_away_50 : decode cX10_away 50 = .ok (.isub, 1) := by decide +kernel
theorem dX10_away_51 : decode cX10_away 51 = .ok (.i2l, 1) := by decide +kernel
theorem dX10_away_52 : decode cX10_away 52 = .ok (.lstore 10, 2) := by decide +kernel
theorem dX10_away_54 : decode cX10_away 54 = .ok (.lload 8, 2) := by decide +kernel
theorem dX10_away_56 : decode cX10_away 56 = .ok (.lload 4, 2) := by decide +kernel
theorem dX10_away_58 : decode cX10_away 58 = .ok (.lmul, 1) := by decide +kernel
theorem dX10_away_59 : decode cX10_away 59 = .ok (.lload 10, 2) := by decide +kernel
theorem dX10_away_61 : decode cX10_away 61 = .ok (.lload 6, 2) := by decide +kernel
theorem dX10_away_63 : decode cX10_away 63 = .ok (.lmul, 1) := by decide +kernel
theorem dX10_away_64 : decode cX10_away 64 = .ok (.ladd, 1) := by decide +kernel
theorem dX10_away_65 : decode cX10_away 65 = .ok (.lstore 12, 2) := by decide +kernel
theorem dX10_away_67 : decode cX10_away 67 = .ok (.lload 4, 2) := by decide +kernel
theorem dX10_away_69 : decode cX10_away 69 = .ok (.lload 4, 2) := by decide +kernel
theorem dX10_away_71 : decode cX10_away 71 = .ok (.lmul, 1) := by decide +kernel
theorem dX10_away_72 : decode cX10_away 72 = .ok (.lload 6, 2) := by decide +kernel
theorem dX10_away_74 : decode cX10_away 74 = .ok (.lload 6, 2) := by decide +kernel
theorem dX10_away_76 : decode cX10_away 76 = .ok (.lmul, 1) := by decide +kernel
theorem dX10_away_77 : decode cX10_away 77 = .ok (.ladd, 1) := by decide +kernel
theorem dX10_away_78 : decode cX10_away 78 = .ok (.lstore 14, 2) := by decide +kernel
theorem dX10_away_80 : decode cX10_away 80 = .ok (.aload_n 0, 1) := by decide +kernel
theorem dX10_away_81 : decode cX10_away 81 = .ok (.lconst 1, 1) := by decide +kernel
theorem dX10_away_82 : decode cX10_away 82 = .ok (.putfield 383, 3) := by decide +kernel
theorem dX10_away_85 : decode cX10_away 85 = .ok (.lload 12, 2) := by decide +kernel
theorem dX10_away_87 : decode cX10_away 87 = .ok (.lconst 0, 1) := by decide +kernel
theorem dX10_away_88 : decode cX10_away 88 = .ok (.lcmp, 1) := by decide +kernel
theorem dX10_away_89 : decode cX10_away 89 = .ok (.ifCond .gt 21, 3) := by decide +kernel
theorem dX10_away_92 : decode cX10_away 92 = .ok (.aload_n 0, 1) := by decide +kernel
theorem dX10_away_93 : decode cX10_away 93 = .ok (.lload 8, 2) := by decide +kernel
theorem dX10_away_95 : decode cX10_away 95 = .ok (.lload 8, 2) := by decide +kernel
theorem dX10_away_97 : decode cX10_away 97 = .ok (.lmul, 1) := by decide +kernel
theorem dX10_away_98 : decode cX10_away 98 = .ok (.lload 10, 2) := by decide +kernel
theorem dX10_away_100 : decode cX10_away 100 = .ok (.lload 10, 2) := by decide +kernel
theorem dX10_away_102 : decode cX10_away 102 = .ok (.lmul, 1) := by decide +kernel
theorem dX10_away_103 : decode cX10_away 103 = .ok (.ladd, 1) := by decide +kernel
theorem dX10_away_104 : decode cX10_away 104 = .ok (.putfield 386, 3) := by decide +kernel
theorem dX10_away_107 : decode cX10_away 107 = .ok (.goto 76, 3) := by decide +kernel
theorem dX10_away_110 : decode cX10_away 110 = .ok (.lload 12, 2) := by decide +kernel
theorem dX10_away_112 : decode cX10_away 112 = .ok (.lload 14, 2) := by decide +kernel
theorem dX10_away_114 : decode cX10_away 114 = .ok (.lcmp, 1) := by decide +kernel
theorem dX10_away_115 : decode cX10_away 115 = .ok (.ifCond .lt 43, 3) := by decide +kernel
theorem dX10_away_118 : decode cX10_away 118 = .ok (.iload_n 2, 1) := by decide +kernel
theorem dX10_away_119 : decode cX10_away 119 = .ok (.aload_n 0, 1) := by decide +kernel
theorem dX10_away_120 : decode cX10_away 120 = .ok (.iload_n 1, 1) := by decide +kernel
theorem dX10_away_121 : decode cX10_away 121 = .ok (.iconst 3, 1) := by decide +kernel
theorem dX10_away_122 : decode cX10_away 122 = .ok (.invokevirtual 129, 3) := by decide +kernel
theorem dX10_away_125 : decode cX10_away 125 = .ok (.isub, 1) := by decide +kernel
theorem dX10_away_126 : decode cX10_away 126 = .ok (.i2l, 1) := by decide +kernel
theorem dX10_away_127 : decode cX10_away 127 = .ok (.lstore 16, 2) := by decide +kernel
theorem dX10_away_129 : decode cX10_away 129 = .ok (.iload_n 3, 1) := by decide +kernel
theorem dX10_away_130 : decode cX10_away 130 = .ok (.aload_n 0, 1) := by decide +kernel
theorem dX10_away_131 : decode cX10_away 131 = .ok (.iload_n 1, 1) := by decide +kernel
theorem dX10_away_132 : decode cX10_away 132 = .ok (.iconst 4, 1) := by decide +kernel
theorem dX10_away_133 : decode cX10_away 133 = .ok (.invokevirtual 129, 3) := by decide +kernel
theorem dX10_away_136 : decode cX10_away 136 = .ok (.isub, 1) := by decide +kernel
theorem dX10_away_137 : decode cX10_away 137 = .ok (.i2l, 1) := by decide +kernel
theorem dX10_away_138 : decode cX10_away 138 = .ok (.lstore 18, 2) := by decide +kernel
theorem dX10_away_140 : decode cX10_away 140 = .ok (.aload_n 0, 1) := by decide +kernel
theorem dX10_away_141 : decode cX10_away 141 = .ok (.lload 16, 2) := by decide +kernel
theorem dX10_away_143 : decode cX10_away 143 = .ok (.lload 16, 2) := by decide +kernel
theorem dX10_away_145 : decode cX10_away 145 = .ok (.lmul, 1) := by decide +kernel
theorem dX10_away_146 : decode cX10_away 146 = .ok (.lload 18, 2) := by decide +kernel
theorem dX10_away_148 : decode cX10_away 148 = .ok (.lload 18, 2) := by decide +kernel
theorem dX10_away_150 : decode cX10_away 150 = .ok (.lmul, 1) := by decide +kernel
theorem dX10_away_151 : decode cX10_away 151 = .ok (.ladd, 1) := by decide +kernel
theorem dX10_away_152 : decode cX10_away 152 = .ok (.putfield 386, 3) := by decide +kernel
theorem dX10_away_155 : decode cX10_away 155 = .ok (.goto 28, 3) := by decide +kernel
theorem dX10_away_158 : decode cX10_away 158 = .ok (.aload_n 0, 1) := by decide +kernel
theorem dX10_away_159 : decode cX10_away 159 = .ok (.iload_n 1, 1) := by decide +kernel
theorem dX10_away_160 : decode cX10_away 160 = .ok (.iload_n 2, 1) := by decide +kernel
theorem dX10_away_161 : decode cX10_away 161 = .ok (.iload_n 3, 1) := by decide +kernel
theorem dX10_away_162 : decode cX10_away 162 = .ok (.invokevirtual 183, 3) := by decide +kernel
theorem dX10_away_165 : decode cX10_away 165 = .ok (.i2l, 1) := by decide +kernel
theorem dX10_away_166 : decode cX10_away 166 = .ok (.lstore 16, 2) := by decide +kernel
theorem dX10_away_168 : decode cX10_away 168 = .ok (.aload_n 0, 1) := by decide +kernel
theorem dX10_away_169 : decode cX10_away 169 = .ok (.lload 16, 2) := by decide +kernel
theorem dX10_away_171 : decode cX10_away 171 = .ok (.lload 16, 2) := by decide +kernel
theorem dX10_away_173 : decode cX10_away 173 = .ok (.lmul, 1) := by decide +kernel
theorem dX10_away_174 : decode cX10_away 174 = .ok (.putfield 386, 3) := by decide +kernel
theorem dX10_away_177 : decode cX10_away 177 = .ok (.aload_n 0, 1) := by decide +kernel
theorem dX10_away_178 : decode cX10_away 178 = .ok (.lload 14, 2) := by decide +kernel
theorem dX10_away_180 : decode cX10_away 180 = .ok (.putfield 383, 3) := by decide +kernel
theorem dX10_away_183 : decode cX10_away 183 = .ok (.return_, 1) := by decide +kernel
theorem dX10_approach_0 : decode cX10_approach 0 = .ok (.aload_n 0, 1) := by decide +kernel
theorem dX10_approach_1 : decode cX10_approach 1 = .ok (.iconst (-1), 1) := by decide +kernel
theorem dX10_approach_2 : decode cX10_approach 2 = .ok (.putfield 389, 3) := by decide +kernel
theorem dX10_approach_5 : decode cX10_approach 5 = .ok (.aload_n 0, 1) := by decide +kernel
theorem dX10_approach_6 : decode cX10_approach 6 = .ok (.lconst 0, 1) := by decide +kernel
theorem dX10_approach_7 : decode cX10_approach 7 = .ok (.putfield 392, 3) := by decide +kernel
theorem dX10_approach_10 : decode cX10_approach 10 = .ok (.aload_n 0, 1) := by decide +kernel
theorem dX10_approach_11 : decode cX10_approach 11 = .ok (.lconst 1, 1) := by decide +kernel
theorem dX10_approach_12 : decode cX10_approach 12 = .ok (.putfield 395, 3) := by decide +kernel
theorem dX10_approach_15 : decode cX10_approach 15 = .ok (.iconst 0, 1) := by decide +kernel
theorem dX10_approach_16 : decode cX10_approach 16 = .ok (.istore_n 3, 1) := by decide +kernel
theorem dX10_approach_17 : decode cX10_approach 17 = .ok (.iload_n 3, 1) := by decide +kernel
theorem dX10_approach_18 : decode cX10_approach 18 = .ok (.bipush 12, 2) := by decide +kernel
theorem dX10_approach_20 : decode cX10_approach 20 = .ok (.if_icmp .ge 76, 3) := by decide +kernel
theorem dX10_approach_23 : decode cX10_approach 23 = .ok (.aload_n 0, 1) := by decide +kernel
theorem dX10_approach_24 : decode cX10_approach 24 = .ok (.iload_n 3, 1) := by decide +kernel
theorem dX10_approach_25 : decode cX10_approach 25 = .ok (.iconst 0, 1) := by decide +kernel
theorem dX10_approach_26 : decode cX10_approach 26 = .ok (.invokevirtual 129, 3) := by decide +kernel
theorem dX10_approach_29 : decode cX10_approach 29 = .ok (.iconst 1, 1) := by decide +kernel
theorem dX10_approach_30 : decode cX10_approach 30 = .ok (.if_icmp .ne 60, 3) := by decide +kernel
theorem dX10_approach_33 : decode cX10_approach 33 = .ok (.aload_n 0, 1) := by decide +kernel
theorem dX10_approach_34 : decode cX10_approach 34 = .ok (.iload_n 3, 1) := by decide +kernel
theorem dX10_approach_35 : decode cX10_approach 35 = .ok (.iload_n 1, 1) := by decide +kernel
theorem dX10_approach_36 : decode cX10_approach 36 = .ok (.iload_n 2, 1) := by decide +kernel
theorem dX10_approach_37 : decode cX10_approach 37 = .ok (.invokevirtual 398, 3) := by decide +kernel
theorem dX10_approach_40 : decode cX10_approach 40 = .ok (.aload_n 0, 1) := by decide +kernel
theorem dX10_approach_41 : decode cX10_approach 41 = .ok (.getfield 389, 3) := by decide +kernel
theorem dX10_approach_44 : decode cX10_approach 44 = .ok (.ifCond .lt 25, 3) := by decide +kernel
theorem dX10_approach_47 : decode cX10_approach 47 = .ok (.aload_n 0, 1) := by decide +kernel
theorem dX10_approach_48 : decode cX10_approach 48 = .ok (.getfield 386, 3) := by decide +kernel
theorem dX10_approach_51 : decode cX10_approach 51 = .ok (.aload_n 0, 1) := by decide +kernel
theorem dX10_approach_52 : decode cX10_approach 52 = .ok (.getfield 395, 3) := by decide +kernel
theorem dX10_approach_55 : decode cX10_approach 55 = .ok (.lmul, 1) := by decide +kernel
theorem dX10_approach_56 : decode cX10_approach 56 = .ok (.aload_n 0, 1) := by decide +kernel
theorem dX10_approach_57 : decode cX10_approach 57 = .ok (.getfield 392, 3) := by decide +kernel
theorem dX10_approach_60 : decode cX10_approach 60 = .ok (.aload_n 0, 1) := by decide +kernel
theorem dX10_approach_61 : decode cX10_approach 61 = .ok (.getfield 383, 3) := by decide +kernel
theorem dX10_approach_64 : decode cX10_approach 64 = .ok (.lmul, 1) := by decide +kernel
theorem dX10_approach_65 : decode cX10_approach 65 = .ok (.lcmp, 1) := by decide +kernel
theorem dX10_approach_66 : decode cX10_approach 66 = .ok (.ifCond .ge 24, 3) := by decide +kernel
theorem dX10_approach_69 : decode cX10_approach 69 = .ok (.aload_n 0, 1) := by decide +kernel
theorem dX10_approach_70 : decode cX10_approach 70 = .ok (.iload_n 3, 1) := by decide +kernel
theorem dX10_approach_71 : decode cX10_approach 71 = .ok (.putfield 389, 3) := by decide +kernel
theorem dX10_approach_74 : decode cX10_approach 74 = .ok (.aload_n 0, 1) := by decide +kernel
theorem dX10_approach_75 : decode cX10_approach 75 = .ok (.aload_n 0, 1) := by decide +kernel
theorem dX10_approach_76 : decode cX10_approach 76 = .ok (.getfield 386, 3) := by decide +kernel
theorem dX10_approach_79 : decode cX10_approach 79 = .ok (.putfield 392, 3) := by decide +kernel
theorem dX10_approach_82 : decode cX10_approach 82 = .ok (.aload_n 0, 1) := by decide +kernel
theorem dX10_approach_83 : decode cX10_approach 83 = .ok (.aload_n 0, 1) := by decide +kernel
theorem dX10_approach_84 : decode cX10_approach 84 = .ok (.getfield 383, 3) := by decide +kernel
theorem dX10_approach_87 : decode cX10_approach 87 = .ok (.putfield 395, 3) := by decide +kernel
theorem dX10_approach_90 : decode cX10_approach 90 = .ok (.iinc 3 1, 3) := by decide +kernel
theorem dX10_approach_93 : decode cX10_approach 93 = .ok (.goto (-76), 3) := by decide +kernel
theorem dX10_approach_96 : decode cX10_approach 96 = .ok (.return_, 1) := by decide +kernel
theorem dX10_nearestWall_0 : decode cX10_nearestWall 0 = .ok (.iload_n 1, 1) := by decide +kernel
theorem dX10_nearestWall_1 : decode cX10_nearestWall 1 = .ok (.iload_n 2, 1) := by decide +kernel
theorem dX10_nearestWall_2 : decode cX10_nearestWall 2 = .ok (.invokestatic 297, 3) := by decide +kernel
theorem dX10_nearestWall_5 : decode cX10_nearestWall 5 = .ok (.ifCond .ne 6, 3) := by decide +kernel
theorem dX10_nearestWall_8 : decode cX10_nearestWall 8 = .ok (.bipush (-2), 2) := by decide +kernel
theorem dX10_nearestWall_10 : decode cX10_nearestWall 10 = .ok (.ireturn, 1) := by decide +kernel
theorem dX10_nearestWall_11 : decode cX10_nearestWall 11 = .ok (.aload_n 0, 1) := by decide +kernel
theorem dX10_nearestWall_12 : decode cX10_nearestWall 12 = .ok (.iload_n 1, 1) := by decide +kernel
theorem dX10_nearestWall_13 : decode cX10_nearestWall 13 = .ok (.iload_n 2, 1) := by decide +kernel
theorem dX10_nearestWall_14 : decode cX10_nearestWall 14 = .ok (.invokevirtual 401, 3) := by decide +kernel
theorem dX10_nearestWall_17 : decode cX10_nearestWall 17 = .ok (.aload_n 0, 1) := by decide +kernel
theorem dX10_nearestWall_18 : decode cX10_nearestWall 18 = .ok (.getfield 389, 3) := by decide +kernel
theorem dX10_nearestWall_21 : decode cX10_nearestWall 21 = .ok (.ifCond .ge 8, 3) := by decide +kernel
theorem dX10_nearestWall_24 : decode cX10_nearestWall 24 = .ok (.bipush (-8), 2) := by decide +kernel
theorem dX10_nearestWall_26 : decode cX10_nearestWall 26 = .ok (.goto 7, 3) := by decide +kernel
theorem dX10_nearestWall_29 : decode cX10_nearestWall 29 = .ok (.aload_n 0, 1) := by decide +kernel
theorem dX10_nearestWall_30 : decode cX10_nearestWall 30 = .ok (.getfield 389, 3) := by decide +kernel
theorem dX10_nearestWall_33 : decode cX10_nearestWall 33 = .ok (.ireturn, 1) := by decide +kernel
theorem dX10_clearance_0 : decode cX10_clearance 0 = .ok (.iload_n 1, 1) := by decide +kernel
theorem dX10_clearance_1 : decode cX10_clearance 1 = .ok (.iload_n 2, 1) := by decide +kernel
theorem dX10_clearance_2 : decode cX10_clearance 2 = .ok (.invokestatic 297, 3) := by decide +kernel
theorem dX10_clearance_5 : decode cX10_clearance 5 = .ok (.ifCond .eq 12, 3) := by decide +kernel
theorem dX10_clearance_8 : decode cX10_clearance 8 = .ok (.iload_n 3, 1) := by decide +kernel
theorem dX10_clearance_9 : decode cX10_clearance 9 = .ok (.ifCond .lt 8, 3) := by decide +kernel
theorem dX10_clearance_12 : decode cX10_clearance 12 = .ok (.iload_n 3, 1) := by decide +kernel
theorem dX10_clearance_13 : decode cX10_clearance 13 = .ok (.iconst 1, 1) := by decide +kernel
theorem dX10_clearance_14 : decode cX10_clearance 14 = .ok (.if_icmp .le 7, 3) := by decide +kernel
theorem dX10_clearance_17 : decode cX10_clearance 17 = .ok (.ldc2_w 404, 3) := by decide +kernel
theorem dX10_clearance_20 : decode cX10_clearance 20 = .ok (.lreturn, 1) := by decide +kernel
theorem dX10_clearance_21 : decode cX10_clearance 21 = .ok (.aload_n 0, 1) := by decide +kernel
theorem dX10_clearance_22 : decode cX10_clearance 22 = .ok (.iload_n 1, 1) := by decide +kernel
theorem dX10_clearance_23 : decode cX10_clearance 23 = .ok (.iload_n 2, 1) := by decide +kernel
theorem dX10_clearance_24 : decode cX10_clearance 24 = .ok (.invokevirtual 401, 3) := by decide +kernel
theorem dX10_clearance_27 : decode cX10_clearance 27 = .ok (.aload_n 0, 1) := by decide +kernel
theorem dX10_clearance_28 : decode cX10_clearance 28 = .ok (.getfield 389, 3) := by decide +kernel
theorem dX10_clearance_31 : decode cX10_clearance 31 = .ok (.ifCond .ge 7, 3) := by decide +kernel
theorem dX10_clearance_34 : decode cX10_clearance 34 = .ok (.ldc2_w 406, 3) := by decide +kernel
theorem dX10_clearance_37 : decode cX10_clearance 37 = .ok (.lreturn, 1) := by decide +kernel
theorem dX10_clearance_38 : decode cX10_clearance 38 = .ok (.aload_n 0, 1) := by decide +kernel
theorem dX10_clearance_39 : decode cX10_clearance 39 = .ok (.getfield 392, 3) := by decide +kernel
theorem dX10_clearance_42 : decode cX10_clearance 42 = .ok (.l2i, 1) := by decide +kernel
theorem dX10_clearance_43 : decode cX10_clearance 43 = .ok (.aload_n 0, 1) := by decide +kernel
theorem dX10_clearance_44 : decode cX10_clearance 44 = .ok (.getfield 395, 3) := by decide +kernel
theorem dX10_clearance_47 : decode cX10_clearance 47 = .ok (.l2i, 1) := by decide +kernel
theorem dX10_clearance_48 : decode cX10_clearance 48 = .ok (.invokestatic 197, 3) := by decide +kernel
theorem dX10_clearance_51 : decode cX10_clearance 51 = .ok (.istore 4, 2) := by decide +kernel
theorem dX10_clearance_53 : decode cX10_clearance 53 = .ok (.iload_n 3, 1) := by decide +kernel
theorem dX10_clearance_54 : decode cX10_clearance 54 = .ok (.ifCond .ne 14, 3) := by decide +kernel
theorem dX10_clearance_57 : decode cX10_clearance 57 = .ok (.aload_n 0, 1) := by decide +kernel
theorem dX10_clearance_58 : decode cX10_clearance 58 = .ok (.getfield 392, 3) := by decide +kernel
theorem dX10_clearance_61 : decode cX10_clearance 61 = .ok (.iload 4, 2) := by decide +kernel
theorem dX10_clearance_63 : decode cX10_clearance 63 = .ok (.i2l, 1) := by decide +kernel
theorem dX10_clearance_64 : decode cX10_clearance 64 = .ok (.ldiv, 1) := by decide +kernel
theorem dX10_clearance_65 : decode cX10_clearance 65 = .ok (.goto 11, 3) := by decide +kernel
theorem dX10_clearance_68 : decode cX10_clearance 68 = .ok (.aload_n 0, 1) := by decide +kernel
theorem dX10_clearance_69 : decode cX10_clearance 69 = .ok (.getfield 395, 3) := by decide +kernel
theorem dX10_clearance_72 : decode cX10_clearance 72 = .ok (.iload 4, 2) := by decide +kernel
theorem dX10_clearance_74 : decode cX10_clearance 74 = .ok (.i2l, 1) := by decide +kernel
theorem dX10_clearance_75 : decode cX10_clearance 75 = .ok (.ldiv, 1) := by decide +kernel
theorem dX10_clearance_76 : decode cX10_clearance 76 = .ok (.lreturn, 1) := by decide +kernel
theorem dX10_piecesWith_0 : decode cX10_piecesWith 0 = .ok (.iload_n 1, 1) := by decide +kernel
theorem dX10_piecesWith_1 : decode cX10_piecesWith 1 = .ok (.ifCond .lt 19, 3) := by decide +kernel
theorem dX10_piecesWith_4 : decode cX10_piecesWith 4 = .ok (.iload_n 1, 1) := by decide +kernel
theorem dX10_piecesWith_5 : decode cX10_piecesWith 5 = .ok (.bipush 9, 2) := by decide +kernel
theorem dX10_piecesWith_7 : decode cX10_piecesWith 7 = .ok (.if_icmp .gt 13, 3) := by decide +kernel
theorem dX10_piecesWith_10 : decode cX10_piecesWith 10 = .ok (.iload_n 2, 1) := by decide +kernel
theorem dX10_piecesWith_11 : decode cX10_piecesWith 11 = .ok (.ifCond .lt 9, 3) := by decide +kernel
theorem dX10_piecesWith_14 : decode cX10_piecesWith 14 = .ok (.iload_n 2, 1) := by decide +kernel
theorem dX10_piecesWith_15 : decode cX10_piecesWith 15 = .ok (.bipush 9, 2) := by decide +kernel
theorem dX10_piecesWith_17 : decode cX10_piecesWith 17 = .ok (.if_icmp .le 6, 3) := by decide +kernel
theorem dX10_piecesWith_20 : decode cX10_piecesWith 20 = .ok (.bipush (-2), 2) := by decide +kernel
theorem dX10_piecesWith_22 : decode cX10_piecesWith 22 = .ok (.ireturn, 1) := by decide +kernel
theorem dX10_piecesWith_23 : decode cX10_piecesWith 23 = .ok (.aload_n 0, 1) := by decide +kernel
theorem dX10_piecesWith_24 : decode cX10_piecesWith 24 = .ok (.iload_n 1, 1) := by decide +kernel
theorem dX10_piecesWith_25 : decode cX10_piecesWith 25 = .ok (.iload_n 2, 1) := by decide +kernel
theorem dX10_piecesWith_26 : decode cX10_piecesWith 26 = .ok (.invokevirtual 269, 3) := by decide +kernel
theorem dX10_piecesWith_29 : decode cX10_piecesWith 29 = .ok (.aload_n 0, 1) := by decide +kernel
theorem dX10_piecesWith_30 : decode cX10_piecesWith 30 = .ok (.getfield 206, 3) := by decide +kernel
theorem dX10_piecesWith_33 : decode cX10_piecesWith 33 = .ok (.ireturn, 1) := by decide +kernel
theorem dX10_bestWeights_0 : decode cX10_bestWeights 0 = .ok (.iconst 0, 1) := by decide +kernel
theorem dX10_bestWeights_1 : decode cX10_bestWeights 1 = .ok (.istore_n 1, 1) := by decide +kernel
theorem dX10_bestWeights_2 : decode cX10_bestWeights 2 = .ok (.iconst 0, 1) := by decide +kernel
theorem dX10_bestWeights_3 : decode cX10_bestWeights 3 = .ok (.istore_n 2, 1) := by decide +kernel
theorem dX10_bestWeights_4 : decode cX10_bestWeights 4 = .ok (.iconst 0, 1) := by decide +kernel
theorem dX10_bestWeights_5 : decode cX10_bestWeights 5 = .ok (.istore_n 3, 1) := by decide +kernel
theorem dX10_bestWeights_6 : decode cX10_bestWeights 6 = .ok (.iconst 0, 1) := by decide +kernel
theorem dX10_bestWeights_7 : decode cX10_bestWeights 7 = .ok (.istore 4, 2) := by decide +kernel
theorem dX10_bestWeights_9 : decode cX10_bestWeights 9 = .ok (.iload 4, 2) := by decide +kernel
theorem dX10_bestWeights_11 : decode cX10_bestWeights 11 = .ok (.bipush 16, 2) := by decide +kernel
theorem dX10_bestWeights_13 : decode cX10_bestWeights 13 = .ok (.if_icmp .ge 77, 3) := by decide +kernel
theorem dX10_bestWeights_16 : decode cX10_bestWeights 16 = .ok (.aload_n 0, 1) := by decide +kernel
theorem dX10_bestWeights_17 : decode cX10_bestWeights 17 = .ok (.iload 4, 2) := by decide +kernel
theorem dX10_bestWeights_19 : decode cX10_bestWeights 19 = .ok (.iconst 4, 1) := by decide +kernel
theorem dX10_bestWeights_20 : decode cX10_bestWeights 20 = .ok (.idiv, 1) := by decide +kernel
theorem dX10_bestWeights_21 : decode cX10_bestWeights 21 = .ok (.iload 4, 2) := by decide +kernel
theorem dX10_bestWeights_23 : decode cX10_bestWeights 23 = .ok (.iconst 4, 1) := by decide +kernel
theorem dX10_bestWeights_24 : decode cX10_bestWeights 24 = .ok (.irem, 1) := by decide +kernel
theorem dX10_bestWeights_25 : decode cX10_bestWeights 25 = .ok (.invokevirtual 269, 3) := by decide +kernel
theorem dX10_bestWeights_28 : decode cX10_bestWeights 28 = .ok (.aload_n 0, 1) := by decide +kernel
theorem dX10_bestWeights_29 : decode cX10_bestWeights 29 = .ok (.invokevirtual 276, 3) := by decide +kernel
theorem dX10_bestWeights_32 : decode cX10_bestWeights 32 = .ok (.iload 4, 2) := by decide +kernel
theorem dX10_bestWeights_34 : decode cX10_bestWeights 34 = .ok (.ifCond .eq 27, 3) := by decide +kernel
theorem dX10_bestWeights_37 : decode cX10_bestWeights 37 = .ok (.aload_n 0, 1) := by decide +kernel
theorem dX10_bestWeights_38 : decode cX10_bestWeights 38 = .ok (.getfield 206, 3) := by decide +kernel
theorem dX10_bestWeights_41 : decode cX10_bestWeights 41 = .ok (.iload_n 2, 1) := by decide +kernel
theorem dX10_bestWeights_42 : decode cX10_bestWeights 42 = .ok (.if_icmp .lt 19, 3) := by decide +kernel
theorem dX10_bestWeights_45 : decode cX10_bestWeights 45 = .ok (.aload_n 0, 1) := by decide +kernel
theorem dX10_bestWeights_46 : decode cX10_bestWeights 46 = .ok (.getfield 206, 3) := by decide +kernel
theorem dX10_bestWeights_49 : decode cX10_bestWeights 49 = .ok (.iload_n 2, 1) := by decide +kernel
theorem dX10_bestWeights_50 : decode cX10_bestWeights 50 = .ok (.if_icmp .ne 34, 3) := by decide +kernel
theorem dX10_bestWeights_53 : decode cX10_bestWeights 53 = .ok (.aload_n 0, 1) := by decide +kernel
theorem dX10_bestWeights_54 : decode cX10_bestWeights 54 = .ok (.getfield 257, 3) := by decide +kernel
theorem dX10_bestWeights_57 : decode cX10_bestWeights 57 = .ok (.iload_n 3, 1) := by decide +kernel
theorem dX10_bestWeights_58 : decode cX10_bestWeights 58 = .ok (.if_icmp .ge 26, 3) := by decide +kernel
theorem dX10_bestWeights_61 : decode cX10_bestWeights 61 = .ok (.bipush 10, 2) := by decide +kernel
theorem dX10_bestWeights_63 : decode cX10_bestWeights 63 = .ok (.iload 4, 2) := by decide +kernel
theorem dX10_bestWeights_65 : decode cX10_bestWeights 65 = .ok (.iconst 4, 1) := by decide +kernel
theorem dX10_bestWeights_66 : decode cX10_bestWeights 66 = .ok (.idiv, 1) := by decide +kernel
theorem dX10_bestWeights_67 : decode cX10_bestWeights 67 = .ok (.imul, 1) := by decide +kernel
theorem dX10_bestWeights_68 : decode cX10_bestWeights 68 = .ok (.iload 4, 2) := by decide +kernel
theorem dX10_bestWeights_70 : decode cX10_bestWeights 70 = .ok (.iconst 4, 1) := by decide +kernel
theorem dX10_bestWeights_71 : decode cX10_bestWeights 71 = .ok (.irem, 1) := by decide +kernel
theorem dX10_bestWeights_72 : decode cX10_bestWeights 72 = .ok (.iadd, 1) := by decide +kernel
theorem dX10_bestWeights_73 : decode cX10_bestWeights 73 = .ok (.istore_n 1, 1) := by decide +kernel
theorem dX10_bestWeights_74 : decode cX10_bestWeights 74 = .ok (.aload_n 0, 1) := by decide +kernel
theorem dX10_bestWeights_75 : decode cX10_bestWeights 75 = .ok (.getfield 206, 3) := by decide +kernel
theorem dX10_bestWeights_78 : decode cX10_bestWeights 78 = .ok (.istore_n 2, 1) := by decide +kernel
theorem dX10_bestWeights_79 : decode cX10_bestWeights 79 = .ok (.aload_n 0, 1) := by decide +kernel
theorem dX10_bestWeights_80 : decode cX10_bestWeights 80 = .ok (.getfield 257, 3) := by decide +kernel
theorem dX10_bestWeights_83 : decode cX10_bestWeights 83 = .ok (.istore_n 3, 1) := by decide +kernel
theorem dX10_bestWeights_84 : decode cX10_bestWeights 84 = .ok (.iinc 4 1, 3) := by decide +kernel
theorem dX10_bestWeights_87 : decode cX10_bestWeights 87 = .ok (.goto (-78), 3) := by decide +kernel
theorem dX10_bestWeights_90 : decode cX10_bestWeights 90 = .ok (.iload_n 1, 1) := by decide +kernel
theorem dX10_bestWeights_91 : decode cX10_bestWeights 91 = .ok (.ireturn, 1) := by decide +kernel
theorem dX10_findFixed_0 : decode cX10_findFixed 0 = .ok (.aload_n 0, 1) := by decide +kernel
theorem dX10_findFixed_1 : decode cX10_findFixed 1 = .ok (.iconst 0, 1) := by decide +kernel
theorem dX10_findFixed_2 : decode cX10_findFixed 2 = .ok (.putfield 408, 3) := by decide +kernel
theorem dX10_findFixed_5 : decode cX10_findFixed 5 = .ok (.iconst 0, 1) := by decide +kernel
theorem dX10_findFixed_6 : decode cX10_findFixed 6 = .ok (.istore_n 1, 1) := by decide +kernel
theorem dX10_findFixed_7 : decode cX10_findFixed 7 = .ok (.iload_n 1, 1) := by decide +kernel
theorem dX10_findFixed_8 : decode cX10_findFixed 8 = .ok (.bipush 12, 2) := by decide +kernel
theorem dX10_findFixed_10 : decode cX10_findFixed 10 = .ok (.if_icmp .ge 49, 3) := by decide +kernel
theorem dX10_findFixed_13 : decode cX10_findFixed 13 = .ok (.aload_n 0, 1) := by decide +kernel
theorem dX10_findFixed_14 : decode cX10_findFixed 14 = .ok (.iload_n 1, 1) := by decide +kernel
theorem dX10_findFixed_15 : decode cX10_findFixed 15 = .ok (.iconst 0, 1) := by decide +kernel
theorem dX10_findFixed_16 : decode cX10_findFixed 16 = .ok (.invokevirtual 129, 3) := by decide +kernel
theorem dX10_findFixed_19 : decode cX10_findFixed 19 = .ok (.iconst 1, 1) := by decide +kernel
theorem dX10_findFixed_20 : decode cX10_findFixed 20 = .ok (.if_icmp .ne 33, 3) := by decide +kernel
theorem dX10_findFixed_23 : decode cX10_findFixed 23 = .ok (.aload_n 0, 1) := by decide +kernel
theorem dX10_findFixed_24 : decode cX10_findFixed 24 = .ok (.iload_n 1, 1) := by decide +kernel
theorem dX10_findFixed_25 : decode cX10_findFixed 25 = .ok (.bipush 6, 2) := by decide +kernel
theorem dX10_findFixed_27 : decode cX10_findFixed 27 = .ok (.invokevirtual 129, 3) := by decide +kernel
theorem dX10_findFixed_30 : decode cX10_findFixed 30 = .ok (.ifCond .ne 23, 3) := by decide +kernel
theorem dX10_findFixed_33 : decode cX10_findFixed 33 = .ok (.aload_n 0, 1) := by decide +kernel
theorem dX10_findFixed_34 : decode cX10_findFixed 34 = .ok (.getfield 113, 3) := by decide +kernel
theorem dX10_findFixed_37 : decode cX10_findFixed 37 = .ok (.aload_n 0, 1) := by decide +kernel
theorem dX10_findFixed_38 : decode cX10_findFixed 38 = .ok (.getfield 408, 3) := by decide +kernel
theorem dX10_findFixed_41 : decode cX10_findFixed 41 = .ok (.iload_n 1, 1) := by decide +kernel
theorem dX10_findFixed_42 : decode cX10_findFixed 42 = .ok (.iastore, 1) := by decide +kernel
theorem dX10_findFixed_43 : decode cX10_findFixed 43 = .ok (.aload_n 0, 1) := by decide +kernel
theorem dX10_findFixed_44 : decode cX10_findFixed 44 = .ok (.dup, 1) := by decide +kernel
theorem dX10_findFixed_45 : decode cX10_findFixed 45 = .ok (.getfield 408, 3) := by decide +kernel
theorem dX10_findFixed_48 : decode cX10_findFixed 48 = .ok (.iconst 1, 1) := by decide +kernel
theorem dX10_findFixed_49 : decode cX10_findFixed 49 = .ok (.iadd, 1) := by decide +kernel
theorem dX10_findFixed_50 : decode cX10_findFixed 50 = .ok (.putfield 408, 3) := by decide +kernel
theorem dX10_findFixed_53 : decode cX10_findFixed 53 = .ok (.iinc 1 1, 3) := by decide +kernel
theorem dX10_findFixed_56 : decode cX10_findFixed 56 = .ok (.goto (-49), 3) := by decide +kernel
theorem dX10_findFixed_59 : decode cX10_findFixed 59 = .ok (.return_, 1) := by decide +kernel
theorem dX10_hasPart_0 : decode cX10_hasPart 0 = .ok (.aload_n 0, 1) := by decide +kernel
theorem dX10_hasPart_1 : decode cX10_hasPart 1 = .ok (.iconst 0, 1) := by decide +kernel
theorem dX10_hasPart_2 : decode cX10_hasPart 2 = .ok (.putfield 411, 3) := by decide +kernel
theorem dX10_hasPart_5 : decode cX10_hasPart 5 = .ok (.aload_n 0, 1) := by decide +kernel
theorem dX10_hasPart_6 : decode cX10_hasPart 6 = .ok (.iconst 1, 1) := by decide +kernel
theorem dX10_hasPart_7 : decode cX10_hasPart 7 = .ok (.putfield 414, 3) := by decide +kernel
theorem dX10_hasPart_10 : decode cX10_hasPart 10 = .ok (.aload_n 0, 1) := by decide +kernel
theorem dX10_hasPart_11 : decode cX10_hasPart 11 = .ok (.iconst 1, 1) := by decide +kernel
theorem dX10_hasPart_12 : decode cX10_hasPart 12 = .ok (.putfield 417, 3) := by decide +kernel
theorem dX10_hasPart_15 : decode cX10_hasPart 15 = .ok (.aload_n 0, 1) := by decide +kernel
theorem dX10_hasPart_16 : decode cX10_hasPart 16 = .ok (.iconst 1, 1) := by decide +kernel
theorem dX10_hasPart_17 : decode cX10_hasPart 17 = .ok (.putfield 420, 3) := by decide +kernel
theorem dX10_hasPart_20 : decode cX10_hasPart 20 = .ok (.iconst 0, 1) := by decide +kernel
theorem dX10_hasPart_21 : decode cX10_hasPart 21 = .ok (.istore_n 3, 1) := by decide +kernel
theorem dX10_hasPart_22 : decode cX10_hasPart 22 = .ok (.iload_n 3, 1) := by decide +kernel
theorem dX10_hasPart_23 : decode cX10_hasPart 23 = .ok (.aload_n 0, 1) := by decide +kernel
theorem dX10_hasPart_24 : decode cX10_hasPart 24 = .ok (.getfield 408, 3) := by decide +kernel
theorem dX10_hasPart_27 : decode cX10_hasPart 27 = .ok (.if_icmp .ge 187, 3) := by decide +kernel
theorem dX10_hasPart_30 : decode cX10_hasPart 30 = .ok (.iload_n 1, 1) := by decide +kernel
theorem dX10_hasPart_31 : decode cX10_hasPart 31 = .ok (.aload_n 0, 1) := by decide +kernel
theorem dX10_hasPart_32 : decode cX10_hasPart 32 = .ok (.getfield 119, 3) := by decide +kernel
theorem dX10_hasPart_35 : decode cX10_hasPart 35 = .ok (.iload_n 3, 1) := by decide +kernel
theorem dX10_hasPart_36 : decode cX10_hasPart 36 = .ok (.iaload, 1) := by decide +kernel
theorem dX10_hasPart_37 : decode cX10_hasPart 37 = .ok (.idiv, 1) := by decide +kernel
theorem dX10_hasPart_38 : decode cX10_hasPart 38 = .ok (.iconst 3, 1) := by decide +kernel
theorem dX10_hasPart_39 : decode cX10_hasPart 39 = .ok (.irem, 1) := by decide +kernel
theorem dX10_hasPart_40 : decode cX10_hasPart 40 = .ok (.istore 4, 2) := by decide +kernel
theorem dX10_hasPart_42 : decode cX10_hasPart 42 = .ok (.iload 4, 2) := by decide +kernel
theorem dX10_hasPart_44 : decode cX10_hasPart 44 = .ok (.ifCond .le 164, 3) := by decide +kernel
theorem dX10_hasPart_47 : decode cX10_hasPart 47 = .ok (.aload_n 0, 1) := by decide +kernel
theorem dX10_hasPart_48 : decode cX10_hasPart 48 = .ok (.getfield 113, 3) := by decide +kernel
theorem dX10_hasPart_51 : decode cX10_hasPart 51 = .ok (.iload_n 3, 1) := by decide +kernel
theorem dX10_hasPart_52 : decode cX10_hasPart 52 = .ok (.iaload, 1) := by decide +kernel
theorem dX10_hasPart_53 : decode cX10_hasPart 53 = .ok (.istore 5, 2) := by decide +kernel
theorem dX10_hasPart_55 : decode cX10_hasPart 55 = .ok (.aload_n 0, 1) := by decide +kernel
theorem dX10_hasPart_56 : decode cX10_hasPart 56 = .ok (.iload 5, 2) := by decide +kernel
theorem dX10_hasPart_58 : decode cX10_hasPart 58 = .ok (.iload_n 2, 1) := by decide +kernel
theorem dX10_hasPart_59 : decode cX10_hasPart 59 = .ok (.aload_n 0, 1) := by decide +kernel
theorem dX10_hasPart_60 : decode cX10_hasPart 60 = .ok (.getfield 411, 3) := by decide +kernel
theorem dX10_hasPart_63 : decode cX10_hasPart 63 = .ok (.aload_n 0, 1) := by decide +kernel
theorem dX10_hasPart_64 : decode cX10_hasPart 64 = .ok (.getfield 414, 3) := by decide +kernel
theorem dX10_hasPart_67 : decode cX10_hasPart 67 = .ok (.aload_n 0, 1) := by decide +kernel
theorem dX10_hasPart_68 : decode cX10_hasPart 68 = .ok (.getfield 417, 3) := by decide +kernel
theorem dX10_hasPart_71 : decode cX10_hasPart 71 = .ok (.aload_n 0, 1) := by decide +kernel
theorem dX10_hasPart_72 : decode cX10_hasPart 72 = .ok (.getfield 420, 3) := by decide +kernel
theorem dX10_hasPart_75 : decode cX10_hasPart 75 = .ok (.invokevirtual 215, 3) := by decide +kernel
theorem dX10_hasPart_78 : decode cX10_hasPart 78 = .ok (.istore 6, 2) := by decide +kernel
theorem dX10_hasPart_80 : decode cX10_hasPart 80 = .ok (.iload 6, 2) := by decide +kernel
theorem dX10_hasPart_82 : decode cX10_hasPart 82 = .ok (.ifCond .eq 27, 3) := by decide +kernel
theorem dX10_hasPart_85 : decode cX10_hasPart 85 = .ok (.iload 6, 2) := by decide +kernel
theorem dX10_hasPart_87 : decode cX10_hasPart 87 = .ok (.iconst 1, 1) := by decide +kernel
theorem dX10_hasPart_88 : decode cX10_hasPart 88 = .ok (.if_icmp .ne 9, 3) := by decide +kernel
theorem dX10_hasPart_91 : decode cX10_hasPart 91 = .ok (.iload 4, 2) := by decide +kernel
theorem dX10_hasPart_93 : decode cX10_hasPart 93 = .ok (.iconst 2, 1) := by decide +kernel
theorem dX10_hasPart_94 : decode cX10_hasPart 94 = .ok (.if_icmp .eq 15, 3) := by decide +kernel
theorem dX10_hasPart_97 : decode cX10_hasPart 97 = .ok (.iload 6, 2) := by decide +kernel
theorem dX10_hasPart_99 : decode cX10_hasPart 99 = .ok (.iconst (-1), 1) := by decide +kernel
theorem dX10_hasPart_100 : decode cX10_hasPart 100 = .ok (.if_icmp .ne 11, 3) := by decide +kernel
theorem dX10_hasPart_103 : decode cX10_hasPart 103 = .ok (.iload 4, 2) := by decide +kernel
theorem dX10_hasPart_105 : decode cX10_hasPart 105 = .ok (.iconst 1, 1) := by decide +kernel
theorem dX10_hasPart_106 : decode cX10_hasPart 106 = .ok (.if_icmp .ne 5, 3) := by decide +kernel
theorem dX10_hasPart_109 : decode cX10_hasPart 109 = .ok (.iconst 0, 1) := by decide +kernel
theorem dX10_hasPart_110 : decode cX10_hasPart 110 = .ok (.ireturn, 1) := by decide +kernel
theorem dX10_hasPart_111 : decode cX10_hasPart 111 = .ok (.iload 6, 2) := by decide +kernel
theorem dX10_hasPart_113 : decode cX10_hasPart 113 = .ok (.iconst 2, 1) := by decide +kernel
theorem dX10_hasPart_114 : decode cX10_hasPart 114 = .ok (.if_icmp .ne 94, 3) := by decide +kernel
theorem dX10_hasPart_117 : decode cX10_hasPart 117 = .ok (.aload_n 0, 1) := by decide +kernel
theorem dX10_hasPart_118 : decode cX10_hasPart 118 = .ok (.iload 5, 2) := by decide +kernel
theorem dX10_hasPart_120 : decode cX10_hasPart 120 = .ok (.iload_n 2, 1) := by decide +kernel
theorem dX10_hasPart_121 : decode cX10_hasPart 121 = .ok (.aload_n 0, 1) := by decide +kernel
theorem dX10_hasPart_122 : decode cX10_hasPart 122 = .ok (.getfield 411, 3) := by decide +kernel
theorem dX10_hasPart_125 : decode cX10_hasPart 125 = .ok (.aload_n 0, 1) := by decide +kernel
theorem dX10_hasPart_126 : decode cX10_hasPart 126 = .ok (.getfield 414, 3) := by decide +kernel
theorem dX10_hasPart_129 : decode cX10_hasPart 129 = .ok (.invokevirtual 193, 3) := by decide +kernel
theorem dX10_hasPart_132 : decode cX10_hasPart 132 = .ok (.ifCond .le 7, 3) := by decide +kernel
theorem dX10_hasPart_135 : decode cX10_hasPart 135 = .ok (.iconst 1, 1) := by decide +kernel
theorem dX10_hasPart_136 : decode cX10_hasPart 136 = .ok (.goto 4, 3) := by decide +kernel
theorem dX10_hasPart_139 : decode cX10_hasPart 139 = .ok (.iconst 0, 1) := by decide +kernel
theorem dX10_hasPart_140 : decode cX10_hasPart 140 = .ok (.iload 4, 2) := by decide +kernel
theorem dX10_hasPart_142 : decode cX10_hasPart 142 = .ok (.iconst 1, 1) := by decide +kernel
theorem dX10_hasPart_143 : decode cX10_hasPart 143 = .ok (.if_icmp .ne 7, 3) := by decide +kernel
theorem dX10_hasPart_146 : decode cX10_hasPart 146 = .ok (.iconst 1, 1) := by decide +kernel
theorem dX10_hasPart_147 : decode cX10_hasPart 147 = .ok (.goto 4, 3) := by decide +kernel
theorem dX10_hasPart_150 : decode cX10_hasPart 150 = .ok (.iconst 0, 1) := by decide +kernel
theorem dX10_hasPart_151 : decode cX10_hasPart 151 = .ok (.if_icmp .ne 7, 3) := by decide +kernel
theorem dX10_hasPart_154 : decode cX10_hasPart 154 = .ok (.iconst 1, 1) := by decide +kernel
theorem dX10_hasPart_155 : decode cX10_hasPart 155 = .ok (.goto 4, 3) := by decide +kernel
theorem dX10_hasPart_158 : decode cX10_hasPart 158 = .ok (.iconst 0, 1) := by decide +kernel
theorem dX10_hasPart_159 : decode cX10_hasPart 159 = .ok (.istore 7, 2) := by decide +kernel
theorem dX10_hasPart_161 : decode cX10_hasPart 161 = .ok (.aload_n 0, 1) := by decide +kernel
theorem dX10_hasPart_162 : decode cX10_hasPart 162 = .ok (.iload 5, 2) := by decide +kernel
theorem dX10_hasPart_164 : decode cX10_hasPart 164 = .ok (.iload_n 2, 1) := by decide +kernel
theorem dX10_hasPart_165 : decode cX10_hasPart 165 = .ok (.invokevirtual 242, 3) := by decide +kernel
theorem dX10_hasPart_168 : decode cX10_hasPart 168 = .ok (.iload 7, 2) := by decide +kernel
theorem dX10_hasPart_170 : decode cX10_hasPart 170 = .ok (.ifCond .eq 22, 3) := by decide +kernel
theorem dX10_hasPart_173 : decode cX10_hasPart 173 = .ok (.aload_n 0, 1) := by decide +kernel
theorem dX10_hasPart_174 : decode cX10_hasPart 174 = .ok (.aload_n 0, 1) := by decide +kernel
theorem dX10_hasPart_175 : decode cX10_hasPart 175 = .ok (.getfield 200, 3) := by decide +kernel
theorem dX10_hasPart_178 : decode cX10_hasPart 178 = .ok (.putfield 417, 3) := by decide +kernel
theorem dX10_hasPart_181 : decode cX10_hasPart 181 = .ok (.aload_n 0, 1) := by decide +kernel
theorem dX10_hasPart_182 : decode cX10_hasPart 182 = .ok (.aload_n 0, 1) := by decide +kernel
theorem dX10_hasPart_183 : decode cX10_hasPart 183 = .ok (.getfield 203, 3) := by decide +kernel
theorem dX10_hasPart_186 : decode cX10_hasPart 186 = .ok (.putfield 420, 3) := by decide +kernel
theorem dX10_hasPart_189 : decode cX10_hasPart 189 = .ok (.goto 19, 3) := by decide +kernel
theorem dX10_hasPart_192 : decode cX10_hasPart 192 = .ok (.aload_n 0, 1) := by decide +kernel
theorem dX10_hasPart_193 : decode cX10_hasPart 193 = .ok (.aload_n 0, 1) := by decide +kernel
theorem dX10_hasPart_194 : decode cX10_hasPart 194 = .ok (.getfield 200, 3) := by decide +kernel
theorem dX10_hasPart_197 : decode cX10_hasPart 197 = .ok (.putfield 411, 3) := by decide +kernel
theorem dX10_hasPart_200 : decode cX10_hasPart 200 = .ok (.aload_n 0, 1) := by decide +kernel
theorem dX10_hasPart_201 : decode cX10_hasPart 201 = .ok (.aload_n 0, 1) := by decide +kernel
theorem dX10_hasPart_202 : decode cX10_hasPart 202 = .ok (.getfield 203, 3) := by decide +kernel
theorem dX10_hasPart_205 : decode cX10_hasPart 205 = .ok (.putfield 414, 3) := by decide +kernel
theorem dX10_hasPart_208 : decode cX10_hasPart 208 = .ok (.iinc 3 1, 3) := by decide +kernel
theorem dX10_hasPart_211 : decode cX10_hasPart 211 = .ok (.goto (-189), 3) := by decide +kernel
theorem dX10_hasPart_214 : decode cX10_hasPart 214 = .ok (.iconst 1, 1) := by decide +kernel
theorem dX10_hasPart_215 : decode cX10_hasPart 215 = .ok (.ireturn, 1) := by decide +kernel
theorem dX10_with_0 : decode cX10_with 0 = .ok (.iconst 0, 1) := by decide +kernel
theorem dX10_with_1 : decode cX10_with 1 = .ok (.istore_n 3, 1) := by decide +kernel
theorem dX10_with_2 : decode cX10_with 2 = .ok (.iconst 0, 1) := by decide +kernel
theorem dX10_with_3 : decode cX10_with 3 = .ok (.istore 4, 2) := by decide +kernel
theorem dX10_with_5 : decode cX10_with 5 = .ok (.iload 4, 2) := by decide +kernel
theorem dX10_with_7 : decode cX10_with 7 = .ok (.aload_n 0, 1) := by decide +kernel
theorem dX10_with_8 : decode cX10_with 8 = .ok (.getfield 408, 3) := by decide +kernel
theorem dX10_with_11 : decode cX10_with 11 = .ok (.if_icmp .ge 63, 3) := by decide +kernel
theorem dX10_with_14 : decode cX10_with 14 = .ok (.aload_n 0, 1) := by decide +kernel
theorem dX10_with_15 : decode cX10_with 15 = .ok (.iload_n 1, 1) := by decide +kernel
theorem dX10_with_16 : decode cX10_with 16 = .ok (.aload_n 0, 1) := by decide +kernel
theorem dX10_with_17 : decode cX10_with 17 = .ok (.getfield 113, 3) := by decide +kernel
theorem dX10_with_20 : decode cX10_with 20 = .ok (.iload 4, 2) := by decide +kernel
theorem dX10_with_22 : decode cX10_with 22 = .ok (.iaload, 1) := by decide +kernel
theorem dX10_with_23 : decode cX10_with 23 = .ok (.invokevirtual 423, 3) := by decide +kernel
theorem dX10_with_26 : decode cX10_with 26 = .ok (.ifCond .eq 42, 3) := by decide +kernel
theorem dX10_with_29 : decode cX10_with 29 = .ok (.aload_n 0, 1) := by decide +kernel
theorem dX10_with_30 : decode cX10_with 30 = .ok (.aload_n 0, 1) := by decide +kernel
theorem dX10_with_31 : decode cX10_with 31 = .ok (.getfield 113, 3) := by decide +kernel
theorem dX10_with_34 : decode cX10_with 34 = .ok (.iload_n 2, 1) := by decide +kernel
theorem dX10_with_35 : decode cX10_with 35 = .ok (.iaload, 1) := by decide +kernel
theorem dX10_with_36 : decode cX10_with 36 = .ok (.aload_n 0, 1) := by decide +kernel
theorem dX10_with_37 : decode cX10_with 37 = .ok (.getfield 113, 3) := by decide +kernel
theorem dX10_with_40 : decode cX10_with 40 = .ok (.iload 4, 2) := by decide +kernel
theorem dX10_with_42 : decode cX10_with 42 = .ok (.iaload, 1) := by decide +kernel
theorem dX10_with_43 : decode cX10_with 43 = .ok (.aload_n 0, 1) := by decide +kernel
theorem dX10_with_44 : decode cX10_with 44 = .ok (.getfield 411, 3) := by decide +kernel
theorem dX10_with_47 : decode cX10_with 47 = .ok (.aload_n 0, 1) := by decide +kernel
theorem dX10_with_48 : decode cX10_with 48 = .ok (.getfield 414, 3) := by decide +kernel
theorem dX10_with_51 : decode cX10_with 51 = .ok (.aload_n 0, 1) := by decide +kernel
theorem dX10_with_52 : decode cX10_with 52 = .ok (.getfield 417, 3) := by decide +kernel
theorem dX10_with_55 : decode cX10_with 55 = .ok (.aload_n 0, 1) := by decide +kernel
theorem dX10_with_56 : decode cX10_with 56 = .ok (.getfield 420, 3) := by decide +kernel
theorem dX10_with_59 : decode cX10_with 59 = .ok (.invokevirtual 215, 3) := by decide +kernel
theorem dX10_with_62 : decode cX10_with 62 = .ok (.ifCond .ne 6, 3) := by decide +kernel
theorem dX10_with_65 : decode cX10_with 65 = .ok (.iinc 3 1, 3) := by decide +kernel
theorem dX10_with_68 : decode cX10_with 68 = .ok (.iinc 4 1, 3) := by decide +kernel
theorem dX10_with_71 : decode cX10_with 71 = .ok (.goto (-66), 3) := by decide +kernel
theorem dX10_with_74 : decode cX10_with 74 = .ok (.iload_n 3, 1) := by decide +kernel
theorem dX10_with_75 : decode cX10_with 75 = .ok (.aload_n 0, 1) := by decide +kernel
theorem dX10_with_76 : decode cX10_with 76 = .ok (.getfield 116, 3) := by decide +kernel
theorem dX10_with_79 : decode cX10_with 79 = .ok (.iload_n 1, 1) := by decide +kernel
theorem dX10_with_80 : decode cX10_with 80 = .ok (.aload_n 0, 1) := by decide +kernel
theorem dX10_with_81 : decode cX10_with 81 = .ok (.getfield 119, 3) := by decide +kernel
theorem dX10_with_84 : decode cX10_with 84 = .ok (.iload_n 2, 1) := by decide +kernel
theorem dX10_with_85 : decode cX10_with 85 = .ok (.iaload, 1) := by decide +kernel
theorem dX10_with_86 : decode cX10_with 86 = .ok (.iadd, 1) := by decide +kernel
theorem dX10_with_87 : decode cX10_with 87 = .ok (.iaload, 1) := by decide +kernel
theorem dX10_with_88 : decode cX10_with 88 = .ok (.iadd, 1) := by decide +kernel
theorem dX10_with_89 : decode cX10_with 89 = .ok (.aload_n 0, 1) := by decide +kernel
theorem dX10_with_90 : decode cX10_with 90 = .ok (.getfield 116, 3) := by decide +kernel
theorem dX10_with_93 : decode cX10_with 93 = .ok (.iload_n 1, 1) := by decide +kernel
theorem dX10_with_94 : decode cX10_with 94 = .ok (.iconst 2, 1) := by decide +kernel
theorem dX10_with_95 : decode cX10_with 95 = .ok (.aload_n 0, 1) := by decide +kernel
theorem dX10_with_96 : decode cX10_with 96 = .ok (.getfield 119, 3) := by decide +kernel
theorem dX10_with_99 : decode cX10_with 99 = .ok (.iload_n 2, 1) := by decide +kernel
theorem dX10_with_100 : decode cX10_with 100 = .ok (.iaload, 1) := by decide +kernel
theorem dX10_with_101 : decode cX10_with 101 = .ok (.imul, 1) := by decide +kernel
theorem dX10_with_102 : decode cX10_with 102 = .ok (.iadd, 1) := by decide +kernel
theorem dX10_with_103 : decode cX10_with 103 = .ok (.iaload, 1) := by decide +kernel
theorem dX10_with_104 : decode cX10_with 104 = .ok (.iadd, 1) := by decide +kernel
theorem dX10_with_105 : decode cX10_with 105 = .ok (.ireturn, 1) := by decide +kernel
theorem dX10_findLeast_0 : decode cX10_findLeast 0 = .ok (.aload_n 0, 1) := by decide +kernel
theorem dX10_findLeast_1 : decode cX10_findLeast 1 = .ok (.getfield 119, 3) := by decide +kernel
theorem dX10_findLeast_4 : decode cX10_findLeast 4 = .ok (.aload_n 0, 1) := by decide +kernel
theorem dX10_findLeast_5 : decode cX10_findLeast 5 = .ok (.getfield 408, 3) := by decide +kernel
theorem dX10_findLeast_8 : decode cX10_findLeast 8 = .ok (.iaload, 1) := by decide +kernel
theorem dX10_findLeast_9 : decode cX10_findLeast 9 = .ok (.iconst 1, 1) := by decide +kernel
theorem dX10_findLeast_10 : decode cX10_findLeast 10 = .ok (.isub, 1) := by decide +kernel
theorem dX10_findLeast_11 : decode cX10_findLeast 11 = .ok (.istore_n 1, 1) := by decide +kernel
theorem dX10_findLeast_12 : decode cX10_findLeast 12 = .ok (.iload_n 1, 1) := by decide +kernel
theorem dX10_findLeast_13 : decode cX10_findLeast 13 = .ok (.ifCond .lt 103, 3) := by decide +kernel
theorem dX10_findLeast_16 : decode cX10_findLeast 16 = .ok (.iconst 0, 1) := by decide +kernel
theorem dX10_findLeast_17 : decode cX10_findLeast 17 = .ok (.istore_n 2, 1) := by decide +kernel
theorem dX10_findLeast_18 : decode cX10_findLeast 18 = .ok (.aload_n 0, 1) := by decide +kernel
theorem dX10_findLeast_19 : decode cX10_findLeast 19 = .ok (.getfield 116, 3) := by decide +kernel
theorem dX10_findLeast_22 : decode cX10_findLeast 22 = .ok (.iload_n 1, 1) := by decide +kernel
theorem dX10_findLeast_23 : decode cX10_findLeast 23 = .ok (.iconst 0, 1) := by decide +kernel
theorem dX10_findLeast_24 : decode cX10_findLeast 24 = .ok (.iastore, 1) := by decide +kernel
theorem dX10_findLeast_25 : decode cX10_findLeast 25 = .ok (.iconst 0, 1) := by decide +kernel
theorem dX10_findLeast_26 : decode cX10_findLeast 26 = .ok (.istore_n 3, 1) := by decide +kernel
theorem dX10_findLeast_27 : decode cX10_findLeast 27 = .ok (.iload_n 3, 1) := by decide +kernel
theorem dX10_findLeast_28 : decode cX10_findLeast 28 = .ok (.aload_n 0, 1) := by decide +kernel
theorem dX10_findLeast_29 : decode cX10_findLeast 29 = .ok (.getfield 408, 3) := by decide +kernel
theorem dX10_findLeast_32 : decode cX10_findLeast 32 = .ok (.if_icmp .ge 78, 3) := by decide +kernel
theorem dX10_findLeast_35 : decode cX10_findLeast 35 = .ok (.iload_n 1, 1) := by decide +kernel
theorem dX10_findLeast_36 : decode cX10_findLeast 36 = .ok (.aload_n 0, 1) := by decide +kernel
theorem dX10_findLeast_37 : decode cX10_findLeast 37 = .ok (.getfield 119, 3) := by decide +kernel
theorem dX10_findLeast_40 : decode cX10_findLeast 40 = .ok (.iload_n 3, 1) := by decide +kernel
theorem dX10_findLeast_41 : decode cX10_findLeast 41 = .ok (.iaload, 1) := by decide +kernel
theorem dX10_findLeast_42 : decode cX10_findLeast 42 = .ok (.idiv, 1) := by decide +kernel
theorem dX10_findLeast_43 : decode cX10_findLeast 43 = .ok (.iconst 3, 1) := by decide +kernel
theorem dX10_findLeast_44 : decode cX10_findLeast 44 = .ok (.irem, 1) := by decide +kernel
theorem dX10_findLeast_45 : decode cX10_findLeast 45 = .ok (.ifCond .ne 59, 3) := by decide +kernel
theorem dX10_findLeast_48 : decode cX10_findLeast 48 = .ok (.aload_n 0, 1) := by decide +kernel
theorem dX10_findLeast_49 : decode cX10_findLeast 49 = .ok (.iload_n 1, 1) := by decide +kernel
theorem dX10_findLeast_50 : decode cX10_findLeast 50 = .ok (.aload_n 0, 1) := by decide +kernel
theorem dX10_findLeast_51 : decode cX10_findLeast 51 = .ok (.getfield 113, 3) := by decide +kernel
theorem dX10_findLeast_54 : decode cX10_findLeast 54 = .ok (.iload_n 3, 1) := by decide +kernel
theorem dX10_findLeast_55 : decode cX10_findLeast 55 = .ok (.iaload, 1) := by decide +kernel
theorem dX10_findLeast_56 : decode cX10_findLeast 56 = .ok (.invokevirtual 423, 3) := by decide +kernel
theorem dX10_findLeast_59 : decode cX10_findLeast 59 = .ok (.ifCond .eq 45, 3) := by decide +kernel
theorem dX10_findLeast_62 : decode cX10_findLeast 62 = .ok (.aload_n 0, 1) := by decide +kernel
theorem dX10_findLeast_63 : decode cX10_findLeast 63 = .ok (.iload_n 1, 1) := by decide +kernel
theorem dX10_findLeast_64 : decode cX10_findLeast 64 = .ok (.iload_n 3, 1) := by decide +kernel
theorem dX10_findLeast_65 : decode cX10_findLeast 65 = .ok (.invokevirtual 426, 3) := by decide +kernel
theorem dX10_findLeast_68 : decode cX10_findLeast 68 = .ok (.istore 4, 2) := by decide +kernel
theorem dX10_findLeast_70 : decode cX10_findLeast 70 = .ok (.aload_n 0, 1) := by decide +kernel
theorem dX10_findLeast_71 : decode cX10_findLeast 71 = .ok (.getfield 116, 3) := by decide +kernel
theorem dX10_findLeast_74 : decode cX10_findLeast 74 = .ok (.iload_n 1, 1) := by decide +kernel
theorem dX10_findLeast_75 : decode cX10_findLeast 75 = .ok (.iload_n 2, 1) := by decide +kernel
theorem dX10_findLeast_76 : decode cX10_findLeast 76 = .ok (.ifCond .eq 23, 3) := by decide +kernel
theorem dX10_findLeast_79 : decode cX10_findLeast 79 = .ok (.aload_n 0, 1) := by decide +kernel
theorem dX10_findLeast_80 : decode cX10_findLeast 80 = .ok (.getfield 116, 3) := by decide +kernel
theorem dX10_findLeast_83 : decode cX10_findLeast 83 = .ok (.iload_n 1, 1) := by decide +kernel
theorem dX10_findLeast_84 : decode cX10_findLeast 84 = .ok (.iaload, 1) := by decide +kernel
theorem dX10_findLeast_85 : decode cX10_findLeast 85 = .ok (.iload 4, 2) := by decide +kernel
theorem dX10_findLeast_87 : decode cX10_findLeast 87 = .ok (.if_icmp .ge 12, 3) := by decide +kernel
theorem dX10_findLeast_90 : decode cX10_findLeast 90 = .ok (.aload_n 0, 1) := by decide +kernel
theorem dX10_findLeast_91 : decode cX10_findLeast 91 = .ok (.getfield 116, 3) := by decide +kernel
theorem dX10_findLeast_94 : decode cX10_findLeast 94 = .ok (.iload_n 1, 1) := by decide +kernel
theorem dX10_findLeast_95 : decode cX10_findLeast 95 = .ok (.iaload, 1) := by decide +kernel
theorem dX10_findLeast_96 : decode cX10_findLeast 96 = .ok (.goto 5, 3) := by decide +kernel
theorem dX10_findLeast_99 : decode cX10_findLeast 99 = .ok (.iload 4, 2) := by decide +kernel
theorem dX10_findLeast_101 : decode cX10_findLeast 101 = .ok (.iastore, 1) := by decide +kernel
theorem dX10_findLeast_102 : decode cX10_findLeast 102 = .ok (.iconst 1, 1) := by decide +kernel
theorem dX10_findLeast_103 : decode cX10_findLeast 103 = .ok (.istore_n 2, 1) := by decide +kernel
theorem dX10_findLeast_104 : decode cX10_findLeast 104 = .ok (.iinc 3 1, 3) := by decide +kernel
theorem dX10_findLeast_107 : decode cX10_findLeast 107 = .ok (.goto (-80), 3) := by decide +kernel
theorem dX10_findLeast_110 : decode cX10_findLeast 110 = .ok (.iinc 1 (-1), 3) := by decide +kernel
theorem dX10_findLeast_113 : decode cX10_findLeast 113 = .ok (.goto (-101), 3) := by decide +kernel
theorem dX10_findLeast_116 : decode cX10_findLeast 116 = .ok (.return_, 1) := by decide +kernel
theorem dX10_leastPieces_0 : decode cX10_leastPieces 0 = .ok (.aload_n 0, 1) := by decide +kernel
theorem dX10_leastPieces_1 : decode cX10_leastPieces 1 = .ok (.invokevirtual 429, 3) := by decide +kernel
theorem dX10_leastPieces_4 : decode cX10_leastPieces 4 = .ok (.aload_n 0, 1) := by decide +kernel
theorem dX10_leastPieces_5 : decode cX10_leastPieces 5 = .ok (.getfield 408, 3) := by decide +kernel
theorem dX10_leastPieces_8 : decode cX10_leastPieces 8 = .ok (.iconst 5, 1) := by decide +kernel
theorem dX10_leastPieces_9 : decode cX10_leastPieces 9 = .ok (.if_icmp .le 6, 3) := by decide +kernel
theorem dX10_leastPieces_12 : decode cX10_leastPieces 12 = .ok (.bipush (-5), 2) := by decide +kernel
theorem dX10_leastPieces_14 : decode cX10_leastPieces 14 = .ok (.ireturn, 1) := by decide +kernel
theorem dX10_leastPieces_15 : decode cX10_leastPieces 15 = .ok (.aload_n 0, 1) := by decide +kernel
theorem dX10_leastPieces_16 : decode cX10_leastPieces 16 = .ok (.invokevirtual 432, 3) := by decide +kernel
theorem dX10_leastPieces_19 : decode cX10_leastPieces 19 = .ok (.aload_n 0, 1) := by decide +kernel
theorem dX10_leastPieces_20 : decode cX10_leastPieces 20 = .ok (.getfield 116, 3) := by decide +kernel
theorem dX10_leastPieces_23 : decode cX10_leastPieces 23 = .ok (.iconst 0, 1) := by decide +kernel
theorem dX10_leastPieces_24 : decode cX10_leastPieces 24 = .ok (.iaload, 1) := by decide +kernel
theorem dX10_leastPieces_25 : decode cX10_leastPieces 25 = .ok (.ireturn, 1) := by decide +kernel
theorem dX10_bestRoot_0 : decode cX10_bestRoot 0 = .ok (.aload_n 0, 1) := by decide +kernel
theorem dX10_bestRoot_1 : decode cX10_bestRoot 1 = .ok (.invokevirtual 429, 3) := by decide +kernel
theorem dX10_bestRoot_4 : decode cX10_bestRoot 4 = .ok (.aload_n 0, 1) := by decide +kernel
theorem dX10_bestRoot_5 : decode cX10_bestRoot 5 = .ok (.getfield 408, 3) := by decide +kernel
theorem dX10_bestRoot_8 : decode cX10_bestRoot 8 = .ok (.iconst 5, 1) := by decide +kernel
theorem dX10_bestRoot_9 : decode cX10_bestRoot 9 = .ok (.if_icmp .le 6, 3) := by decide +kernel
theorem dX10_bestRoot_12 : decode cX10_bestRoot 12 = .ok (.bipush (-5), 2) := by decide +kernel
theorem dX10_bestRoot_14 : decode cX10_bestRoot 14 = .ok (.ireturn, 1) := by decide +kernel
theorem dX10_bestRoot_15 : decode cX10_bestRoot 15 = .ok (.aload_n 0, 1) := by decide +kernel
theorem dX10_bestRoot_16 : decode cX10_bestRoot 16 = .ok (.getfield 408, 3) := by decide +kernel
theorem dX10_bestRoot_19 : decode cX10_bestRoot 19 = .ok (.ifCond .ne 6, 3) := by decide +kernel
theorem dX10_bestRoot_22 : decode cX10_bestRoot 22 = .ok (.bipush (-8), 2) := by decide +kernel
theorem dX10_bestRoot_24 : decode cX10_bestRoot 24 = .ok (.ireturn, 1) := by decide +kernel
theorem dX10_bestRoot_25 : decode cX10_bestRoot 25 = .ok (.aload_n 0, 1) := by decide +kernel
theorem dX10_bestRoot_26 : decode cX10_bestRoot 26 = .ok (.invokevirtual 432, 3) := by decide +kernel
theorem dX10_bestRoot_29 : decode cX10_bestRoot 29 = .ok (.iconst 0, 1) := by decide +kernel
theorem dX10_bestRoot_30 : decode cX10_bestRoot 30 = .ok (.istore_n 1, 1) := by decide +kernel
theorem dX10_bestRoot_31 : decode cX10_bestRoot 31 = .ok (.aload_n 0, 1) := by decide +kernel
theorem dX10_bestRoot_32 : decode cX10_bestRoot 32 = .ok (.iconst 0, 1) := by decide +kernel
theorem dX10_bestRoot_33 : decode cX10_bestRoot 33 = .ok (.iload_n 1, 1) := by decide +kernel
theorem dX10_bestRoot_34 : decode cX10_bestRoot 34 = .ok (.invokevirtual 426, 3) := by decide +kernel
theorem dX10_bestRoot_37 : decode cX10_bestRoot 37 = .ok (.aload_n 0, 1) := by decide +kernel
theorem dX10_bestRoot_38 : decode cX10_bestRoot 38 = .ok (.getfield 116, 3) := by decide +kernel
theorem dX10_bestRoot_41 : decode cX10_bestRoot 41 = .ok (.iconst 0, 1) := by decide +kernel
theorem dX10_bestRoot_42 : decode cX10_bestRoot 42 = .ok (.iaload, 1) := by decide +kernel
theorem dX10_bestRoot_43 : decode cX10_bestRoot 43 = .ok (.if_icmp .eq 9, 3) := by decide +kernel
theorem dX10_bestRoot_46 : decode cX10_bestRoot 46 = .ok (.iinc 1 1, 3) := by decide +kernel
theorem dX10_bestRoot_49 : decode cX10_bestRoot 49 = .ok (.goto (-18), 3) := by decide +kernel
theorem dX10_bestRoot_52 : decode cX10_bestRoot 52 = .ok (.aload_n 0, 1) := by decide +kernel
theorem dX10_bestRoot_53 : decode cX10_bestRoot 53 = .ok (.getfield 113, 3) := by decide +kernel
theorem dX10_bestRoot_56 : decode cX10_bestRoot 56 = .ok (.iload_n 1, 1) := by decide +kernel
theorem dX10_bestRoot_57 : decode cX10_bestRoot 57 = .ok (.iaload, 1) := by decide +kernel
theorem dX10_bestRoot_58 : decode cX10_bestRoot 58 = .ok (.ireturn, 1) := by decide +kernel
