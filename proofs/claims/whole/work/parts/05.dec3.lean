theorem dX10_init_0 : decode cX10_init 0 = .ok (.aload_n 0, 1) := by decide +kernel
theorem dX10_init_1 : decode cX10_init 1 = .ok (.invokespecial 1, 3) := by decide +kernel
theorem dX10_init_4 : decode cX10_init 4 = .ok (.aload_n 0, 1) := by decide +kernel
theorem dX10_init_5 : decode cX10_init 5 = .ok (.bipush 32, 2) := by decide +kernel
theorem dX10_init_7 : decode cX10_init 7 = .ok (.newarray .int, 2) := by decide +kernel
theorem dX10_init_9 : decode cX10_init 9 = .ok (.putfield 7, 3) := by decide +kernel
theorem dX10_init_12 : decode cX10_init 12 = .ok (.aload_n 0, 1) := by decide +kernel
theorem dX10_init_13 : decode cX10_init 13 = .ok (.bipush 32, 2) := by decide +kernel
theorem dX10_init_15 : decode cX10_init 15 = .ok (.newarray .int, 2) := by decide +kernel
theorem dX10_init_17 : decode cX10_init 17 = .ok (.putfield 13, 3) := by decide +kernel
theorem dX10_init_20 : decode cX10_init 20 = .ok (.aload_n 0, 1) := by decide +kernel
theorem dX10_init_21 : decode cX10_init 21 = .ok (.iconst 2, 1) := by decide +kernel
theorem dX10_init_22 : decode cX10_init 22 = .ok (.newarray .int, 2) := by decide +kernel
theorem dX10_init_24 : decode cX10_init 24 = .ok (.putfield 16, 3) := by decide +kernel
theorem dX10_init_27 : decode cX10_init 27 = .ok (.aload_n 0, 1) := by decide +kernel
theorem dX10_init_28 : decode cX10_init 28 = .ok (.sipush 1728, 3) := by decide +kernel
theorem dX10_init_31 : decode cX10_init 31 = .ok (.newarray .int, 2) := by decide +kernel
theorem dX10_init_33 : decode cX10_init 33 = .ok (.putfield 19, 3) := by decide +kernel
theorem dX10_init_36 : decode cX10_init 36 = .ok (.aload_n 0, 1) := by decide +kernel
theorem dX10_init_37 : decode cX10_init 37 = .ok (.bipush 72, 2) := by decide +kernel
theorem dX10_init_39 : decode cX10_init 39 = .ok (.newarray .int, 2) := by decide +kernel
theorem dX10_init_41 : decode cX10_init 41 = .ok (.putfield 22, 3) := by decide +kernel
theorem dX10_init_44 : decode cX10_init 44 = .ok (.aload_n 0, 1) := by decide +kernel
theorem dX10_init_45 : decode cX10_init 45 = .ok (.iconst 1, 1) := by decide +kernel
theorem dX10_init_46 : decode cX10_init 46 = .ok (.putfield 25, 3) := by decide +kernel
theorem dX10_init_49 : decode cX10_init 49 = .ok (.aload_n 0, 1) := by decide +kernel
theorem dX10_init_50 : decode cX10_init 50 = .ok (.bipush 24, 2) := by decide +kernel
theorem dX10_init_52 : decode cX10_init 52 = .ok (.newarray .int, 2) := by decide +kernel
theorem dX10_init_54 : decode cX10_init 54 = .ok (.putfield 29, 3) := by decide +kernel
theorem dX10_init_57 : decode cX10_init 57 = .ok (.aload_n 0, 1) := by decide +kernel
theorem dX10_init_58 : decode cX10_init 58 = .ok (.sipush 625, 3) := by decide +kernel
theorem dX10_init_61 : decode cX10_init 61 = .ok (.newarray .int, 2) := by decide +kernel
theorem dX10_init_63 : decode cX10_init 63 = .ok (.putfield 32, 3) := by decide +kernel
theorem dX10_init_66 : decode cX10_init 66 = .ok (.aload_n 0, 1) := by decide +kernel
theorem dX10_init_67 : decode cX10_init 67 = .ok (.bipush 9, 2) := by decide +kernel
theorem dX10_init_69 : decode cX10_init 69 = .ok (.newarray .int, 2) := by decide +kernel
theorem dX10_init_71 : decode cX10_init 71 = .ok (.putfield 35, 3) := by decide +kernel
theorem dX10_init_74 : decode cX10_init 74 = .ok (.aload_n 0, 1) := by decide +kernel
theorem dX10_init_75 : decode cX10_init 75 = .ok (.bipush 9, 2) := by decide +kernel
theorem dX10_init_77 : decode cX10_init 77 = .ok (.newarray .int, 2) := by decide +kernel
theorem dX10_init_79 : decode cX10_init 79 = .ok (.putfield 38, 3) := by decide +kernel
theorem dX10_init_82 : decode cX10_init 82 = .ok (.aload_n 0, 1) := by decide +kernel
theorem dX10_init_83 : decode cX10_init 83 = .ok (.bipush 9, 2) := by decide +kernel
theorem dX10_init_85 : decode cX10_init 85 = .ok (.newarray .int, 2) := by decide +kernel
theorem dX10_init_87 : decode cX10_init 87 = .ok (.putfield 41, 3) := by decide +kernel
theorem dX10_init_90 : decode cX10_init 90 = .ok (.aload_n 0, 1) := by decide +kernel
theorem dX10_init_91 : decode cX10_init 91 = .ok (.bipush 17, 2) := by decide +kernel
theorem dX10_init_93 : decode cX10_init 93 = .ok (.newarray .int, 2) := by decide +kernel
theorem dX10_init_95 : decode cX10_init 95 = .ok (.putfield 44, 3) := by decide +kernel
theorem dX10_init_98 : decode cX10_init 98 = .ok (.aload_n 0, 1) := by decide +kernel
theorem dX10_init_99 : decode cX10_init 99 = .ok (.sipush 2000, 3) := by decide +kernel
theorem dX10_init_102 : decode cX10_init 102 = .ok (.newarray .long, 2) := by decide +kernel
theorem dX10_init_104 : decode cX10_init 104 = .ok (.putfield 47, 3) := by decide +kernel
theorem dX10_init_107 : decode cX10_init 107 = .ok (.aload_n 0, 1) := by decide +kernel
theorem dX10_init_108 : decode cX10_init 108 = .ok (.sipush 2000, 3) := by decide +kernel
theorem dX10_init_111 : decode cX10_init 111 = .ok (.newarray .long, 2) := by decide +kernel
theorem dX10_init_113 : decode cX10_init 113 = .ok (.putfield 51, 3) := by decide +kernel
theorem dX10_init_116 : decode cX10_init 116 = .ok (.aload_n 0, 1) := by decide +kernel
theorem dX10_init_117 : decode cX10_init 117 = .ok (.sipush 2000, 3) := by decide +kernel
theorem dX10_init_120 : decode cX10_init 120 = .ok (.newarray .long, 2) := by decide +kernel
theorem dX10_init_122 : decode cX10_init 122 = .ok (.putfield 54, 3) := by decide +kernel
theorem dX10_init_125 : decode cX10_init 125 = .ok (.aload_n 0, 1) := by decide +kernel
theorem dX10_init_126 : decode cX10_init 126 = .ok (.sipush 2000, 3) := by decide +kernel
theorem dX10_init_129 : decode cX10_init 129 = .ok (.newarray .long, 2) := by decide +kernel
theorem dX10_init_131 : decode cX10_init 131 = .ok (.putfield 57, 3) := by decide +kernel
theorem dX10_init_134 : decode cX10_init 134 = .ok (.aload_n 0, 1) := by decide +kernel
theorem dX10_init_135 : decode cX10_init 135 = .ok (.bipush 40, 2) := by decide +kernel
theorem dX10_init_137 : decode cX10_init 137 = .ok (.newarray .int, 2) := by decide +kernel
theorem dX10_init_139 : decode cX10_init 139 = .ok (.putfield 60, 3) := by decide +kernel
theorem dX10_init_142 : decode cX10_init 142 = .ok (.iconst 0, 1) := by decide +kernel
theorem dX10_init_143 : decode cX10_init 143 = .ok (.istore_n 1, 1) := by decide +kernel
theorem dX10_init_144 : decode cX10_init 144 = .ok (.iload_n 1, 1) := by decide +kernel
theorem dX10_init_145 : decode cX10_init 145 = .ok (.bipush 25, 2) := by decide +kernel
theorem dX10_init_147 : decode cX10_init 147 = .ok (.if_icmp .ge 16, 3) := by decide +kernel
theorem dX10_init_150 : decode cX10_init 150 = .ok (.aload_n 0, 1) := by decide +kernel
theorem dX10_init_151 : decode cX10_init 151 = .ok (.getfield 32, 3) := by decide +kernel
theorem dX10_init_154 : decode cX10_init 154 = .ok (.iload_n 1, 1) := by decide +kernel
theorem dX10_init_155 : decode cX10_init 155 = .ok (.iconst 1, 1) := by decide +kernel
theorem dX10_init_156 : decode cX10_init 156 = .ok (.iastore, 1) := by decide +kernel
theorem dX10_init_157 : decode cX10_init 157 = .ok (.iinc 1 1, 3) := by decide +kernel
theorem dX10_init_160 : decode cX10_init 160 = .ok (.goto (-16), 3) := by decide +kernel
theorem dX10_init_163 : decode cX10_init 163 = .ok (.iconst 1, 1) := by decide +kernel
theorem dX10_init_164 : decode cX10_init 164 = .ok (.istore_n 1, 1) := by decide +kernel
theorem dX10_init_165 : decode cX10_init 165 = .ok (.iload_n 1, 1) := by decide +kernel
theorem dX10_init_166 : decode cX10_init 166 = .ok (.bipush 25, 2) := by decide +kernel
theorem dX10_init_168 : decode cX10_init 168 = .ok (.if_icmp .ge 70, 3) := by decide +kernel
theorem dX10_init_171 : decode cX10_init 171 = .ok (.iconst 1, 1) := by decide +kernel
theorem dX10_init_172 : decode cX10_init 172 = .ok (.istore_n 2, 1) := by decide +kernel
theorem dX10_init_173 : decode cX10_init 173 = .ok (.iload_n 2, 1) := by decide +kernel
theorem dX10_init_174 : decode cX10_init 174 = .ok (.bipush 25, 2) := by decide +kernel
theorem dX10_init_176 : decode cX10_init 176 = .ok (.if_icmp .ge 56, 3) := by decide +kernel
theorem dX10_init_179 : decode cX10_init 179 = .ok (.aload_n 0, 1) := by decide +kernel
theorem dX10_init_180 : decode cX10_init 180 = .ok (.getfield 32, 3) := by decide +kernel
theorem dX10_init_183 : decode cX10_init 183 = .ok (.bipush 25, 2) := by decide +kernel
theorem dX10_init_185 : decode cX10_init 185 = .ok (.iload_n 1, 1) := by decide +kernel
theorem dX10_init_186 : decode cX10_init 186 = .ok (.imul, 1) := by decide +kernel
theorem dX10_init_187 : decode cX10_init 187 = .ok (.iload_n 2, 1) := by decide +kernel
theorem dX10_init_188 : decode cX10_init 188 = .ok (.iadd, 1) := by decide +kernel
theorem dX10_init_189 : decode cX10_init 189 = .ok (.aload_n 0, 1) := by decide +kernel
theorem dX10_init_190 : decode cX10_init 190 = .ok (.getfield 32, 3) := by decide +kernel
theorem dX10_init_193 : decode cX10_init 193 = .ok (.bipush 25, 2) := by decide +kernel
theorem dX10_init_195 : decode cX10_init 195 = .ok (.iload_n 1, 1) := by decide +kernel
theorem dX10_init_196 : decode cX10_init 196 = .ok (.imul, 1) := by decide +kernel
theorem dX10_init_197 : decode cX10_init 197 = .ok (.iload_n 2, 1) := by decide +kernel
theorem dX10_init_198 : decode cX10_init 198 = .ok (.iadd, 1) := by decide +kernel
theorem dX10_init_199 : decode cX10_init 199 = .ok (.iconst 1, 1) := by decide +kernel
theorem dX10_init_200 : decode cX10_init 200 = .ok (.isub, 1) := by decide +kernel
theorem dX10_init_201 : decode cX10_init 201 = .ok (.iaload, 1) := by decide +kernel
theorem dX10_init_202 : decode cX10_init 202 = .ok (.iload_n 2, 1) := by decide +kernel
theorem dX10_init_203 : decode cX10_init 203 = .ok (.iload_n 1, 1) := by decide +kernel
theorem dX10_init_204 : decode cX10_init 204 = .ok (.if_icmp .gt 19, 3) := by decide +kernel
theorem dX10_init_207 : decode cX10_init 207 = .ok (.aload_n 0, 1) := by decide +kernel
theorem dX10_init_208 : decode cX10_init 208 = .ok (.getfield 32, 3) := by decide +kernel
theorem dX10_init_211 : decode cX10_init 211 = .ok (.bipush 25, 2) := by decide +kernel
theorem dX10_init_213 : decode cX10_init 213 = .ok (.iload_n 1, 1) := by decide +kernel
theorem dX10_init_214 : decode cX10_init 214 = .ok (.iload_n 2, 1) := by decide +kernel
theorem dX10_init_215 : decode cX10_init 215 = .ok (.isub, 1) := by decide +kernel
theorem dX10_init_216 : decode cX10_init 216 = .ok (.imul, 1) := by decide +kernel
theorem dX10_init_217 : decode cX10_init 217 = .ok (.iload_n 2, 1) := by decide +kernel
theorem dX10_init_218 : decode cX10_init 218 = .ok (.iadd, 1) := by decide +kernel
theorem dX10_init_219 : decode cX10_init 219 = .ok (.iaload, 1) := by decide +kernel
theorem dX10_init_220 : decode cX10_init 220 = .ok (.goto 4, 3) := by decide +kernel
theorem dX10_init_223 : decode cX10_init 223 = .ok (.iconst 0, 1) := by decide +kernel
theorem dX10_init_224 : decode cX10_init 224 = .ok (.iadd, 1) := by decide +kernel
theorem dX10_init_225 : decode cX10_init 225 = .ok (.iastore, 1) := by decide +kernel
theorem dX10_init_226 : decode cX10_init 226 = .ok (.iinc 2 1, 3) := by decide +kernel
theorem dX10_init_229 : decode cX10_init 229 = .ok (.goto (-56), 3) := by decide +kernel
theorem dX10_init_232 : decode cX10_init 232 = .ok (.iinc 1 1, 3) := by decide +kernel
theorem dX10_init_235 : decode cX10_init 235 = .ok (.goto (-70), 3) := by decide +kernel
theorem dX10_init_238 : decode cX10_init 238 = .ok (.return_, 1) := by decide +kernel
theorem dX10_thrown_0 : decode cX10_thrown 0 = .ok (.aload_n 0, 1) := by decide +kernel
theorem dX10_thrown_1 : decode cX10_thrown 1 = .ok (.getfield 63, 3) := by decide +kernel
theorem dX10_thrown_4 : decode cX10_thrown 4 = .ok (.ireturn, 1) := by decide +kernel
theorem dX10_fail_0 : decode cX10_fail 0 = .ok (.aload_n 0, 1) := by decide +kernel
theorem dX10_fail_1 : decode cX10_fail 1 = .ok (.iload_n 1, 1) := by decide +kernel
theorem dX10_fail_2 : decode cX10_fail 2 = .ok (.putfield 63, 3) := by decide +kernel
theorem dX10_fail_5 : decode cX10_fail 5 = .ok (.iconst 0, 1) := by decide +kernel
theorem dX10_fail_6 : decode cX10_fail 6 = .ok (.ireturn, 1) := by decide +kernel
theorem dX10_isSlot_0 : decode cX10_isSlot 0 = .ok (.iload_n 0, 1) := by decide +kernel
theorem dX10_isSlot_1 : decode cX10_isSlot 1 = .ok (.ifCond .lt 12, 3) := by decide +kernel
theorem dX10_isSlot_4 : decode cX10_isSlot 4 = .ok (.iload_n 0, 1) := by decide +kernel
theorem dX10_isSlot_5 : decode cX10_isSlot 5 = .ok (.iconst 4, 1) := by decide +kernel
theorem dX10_isSlot_6 : decode cX10_isSlot 6 = .ok (.if_icmp .ge 7, 3) := by decide +kernel
theorem dX10_isSlot_9 : decode cX10_isSlot 9 = .ok (.iconst 1, 1) := by decide +kernel
theorem dX10_isSlot_10 : decode cX10_isSlot 10 = .ok (.goto 4, 3) := by decide +kernel
theorem dX10_isSlot_13 : decode cX10_isSlot 13 = .ok (.iconst 0, 1) := by decide +kernel
theorem dX10_isSlot_14 : decode cX10_isSlot 14 = .ok (.ireturn, 1) := by decide +kernel
theorem dX10_isWord_0 : decode cX10_isWord 0 = .ok (.iload_n 0, 1) := by decide +kernel
theorem dX10_isWord_1 : decode cX10_isWord 1 = .ok (.ifCond .eq 8, 3) := by decide +kernel
theorem dX10_isWord_4 : decode cX10_isWord 4 = .ok (.iload_n 0, 1) := by decide +kernel
theorem dX10_isWord_5 : decode cX10_isWord 5 = .ok (.iconst 1, 1) := by decide +kernel
theorem dX10_isWord_6 : decode cX10_isWord 6 = .ok (.if_icmp .ne 7, 3) := by decide +kernel
theorem dX10_isWord_9 : decode cX10_isWord 9 = .ok (.iconst 1, 1) := by decide +kernel
theorem dX10_isWord_10 : decode cX10_isWord 10 = .ok (.goto 4, 3) := by decide +kernel
theorem dX10_isWord_13 : decode cX10_isWord 13 = .ok (.iconst 0, 1) := by decide +kernel
theorem dX10_isWord_14 : decode cX10_isWord 14 = .ok (.ireturn, 1) := by decide +kernel
theorem dX10_shape_0 : decode cX10_shape 0 = .ok (.aload_n 0, 1) := by decide +kernel
theorem dX10_shape_1 : decode cX10_shape 1 = .ok (.iload_n 1, 1) := by decide +kernel
theorem dX10_shape_2 : decode cX10_shape 2 = .ok (.invokestatic 67, 3) := by decide +kernel
theorem dX10_shape_5 : decode cX10_shape 5 = .ok (.ifCond .eq 7, 3) := by decide +kernel
theorem dX10_shape_8 : decode cX10_shape 8 = .ok (.iconst 0, 1) := by decide +kernel
theorem dX10_shape_9 : decode cX10_shape 9 = .ok (.goto 4, 3) := by decide +kernel
theorem dX10_shape_12 : decode cX10_shape 12 = .ok (.iconst 1, 1) := by decide +kernel
theorem dX10_shape_13 : decode cX10_shape 13 = .ok (.putfield 63, 3) := by decide +kernel
theorem dX10_shape_16 : decode cX10_shape 16 = .ok (.aload_n 0, 1) := by decide +kernel
theorem dX10_shape_17 : decode cX10_shape 17 = .ok (.getfield 63, 3) := by decide +kernel
theorem dX10_shape_20 : decode cX10_shape 20 = .ok (.ifCond .le 5, 3) := by decide +kernel
theorem dX10_shape_23 : decode cX10_shape 23 = .ok (.iconst 0, 1) := by decide +kernel
theorem dX10_shape_24 : decode cX10_shape 24 = .ok (.ireturn, 1) := by decide +kernel
theorem dX10_shape_25 : decode cX10_shape 25 = .ok (.iconst 0, 1) := by decide +kernel
theorem dX10_shape_26 : decode cX10_shape 26 = .ok (.istore 4, 2) := by decide +kernel
theorem dX10_shape_28 : decode cX10_shape 28 = .ok (.sipush 255, 3) := by decide +kernel
theorem dX10_shape_31 : decode cX10_shape 31 = .ok (.istore 5, 2) := by decide +kernel
theorem dX10_shape_33 : decode cX10_shape 33 = .ok (.iconst 0, 1) := by decide +kernel
theorem dX10_shape_34 : decode cX10_shape 34 = .ok (.istore 6, 2) := by decide +kernel
theorem dX10_shape_36 : decode cX10_shape 36 = .ok (.iload 6, 2) := by decide +kernel
theorem dX10_shape_38 : decode cX10_shape 38 = .ok (.bipush 8, 2) := by decide +kernel
theorem dX10_shape_40 : decode cX10_shape 40 = .ok (.if_icmp .ge 43, 3) := by decide +kernel
theorem dX10_shape_43 : decode cX10_shape 43 = .ok (.lload_n 2, 1) := by decide +kernel
theorem dX10_shape_44 : decode cX10_shape 44 = .ok (.bipush 8, 2) := by decide +kernel
theorem dX10_shape_46 : decode cX10_shape 46 = .ok (.iload 6, 2) := by decide +kernel
theorem dX10_shape_48 : decode cX10_shape 48 = .ok (.imul, 1) := by decide +kernel
theorem dX10_shape_49 : decode cX10_shape 49 = .ok (.lshr, 1) := by decide +kernel
theorem dX10_shape_50 : decode cX10_shape 50 = .ok (.ldc2_w 71, 3) := by decide +kernel
theorem dX10_shape_53 : decode cX10_shape 53 = .ok (.land, 1) := by decide +kernel
theorem dX10_shape_54 : decode cX10_shape 54 = .ok (.l2i, 1) := by decide +kernel
theorem dX10_shape_55 : decode cX10_shape 55 = .ok (.istore 7, 2) := by decide +kernel
theorem dX10_shape_57 : decode cX10_shape 57 = .ok (.iload 7, 2) := by decide +kernel
theorem dX10_shape_59 : decode cX10_shape 59 = .ok (.iload 5, 2) := by decide +kernel
theorem dX10_shape_61 : decode cX10_shape 61 = .ok (.if_icmp .le 5, 3) := by decide +kernel
theorem dX10_shape_64 : decode cX10_shape 64 = .ok (.iconst 0, 1) := by decide +kernel
theorem dX10_shape_65 : decode cX10_shape 65 = .ok (.ireturn, 1) := by decide +kernel
theorem dX10_shape_66 : decode cX10_shape 66 = .ok (.iload 7, 2) := by decide +kernel
theorem dX10_shape_68 : decode cX10_shape 68 = .ok (.istore 5, 2) := by decide +kernel
theorem dX10_shape_70 : decode cX10_shape 70 = .ok (.iload 4, 2) := by decide +kernel
theorem dX10_shape_72 : decode cX10_shape 72 = .ok (.iload 7, 2) := by decide +kernel
theorem dX10_shape_74 : decode cX10_shape 74 = .ok (.iadd, 1) := by decide +kernel
theorem dX10_shape_75 : decode cX10_shape 75 = .ok (.istore 4, 2) := by decide +kernel
theorem dX10_shape_77 : decode cX10_shape 77 = .ok (.iinc 6 1, 3) := by decide +kernel
theorem dX10_shape_80 : decode cX10_shape 80 = .ok (.goto (-44), 3) := by decide +kernel
theorem dX10_shape_83 : decode cX10_shape 83 = .ok (.iload 4, 2) := by decide +kernel
theorem dX10_shape_85 : decode cX10_shape 85 = .ok (.bipush 24, 2) := by decide +kernel
theorem dX10_shape_87 : decode cX10_shape 87 = .ok (.if_icmp .le 5, 3) := by decide +kernel
theorem dX10_shape_90 : decode cX10_shape 90 = .ok (.iconst 0, 1) := by decide +kernel
theorem dX10_shape_91 : decode cX10_shape 91 = .ok (.ireturn, 1) := by decide +kernel
theorem dX10_shape_92 : decode cX10_shape 92 = .ok (.iconst 0, 1) := by decide +kernel
theorem dX10_shape_93 : decode cX10_shape 93 = .ok (.istore 6, 2) := by decide +kernel
theorem dX10_shape_95 : decode cX10_shape 95 = .ok (.iload 6, 2) := by decide +kernel
theorem dX10_shape_97 : decode cX10_shape 97 = .ok (.bipush 8, 2) := by decide +kernel
theorem dX10_shape_99 : decode cX10_shape 99 = .ok (.if_icmp .ge 33, 3) := by decide +kernel
theorem dX10_shape_102 : decode cX10_shape 102 = .ok (.aload_n 0, 1) := by decide +kernel
theorem dX10_shape_103 : decode cX10_shape 103 = .ok (.getfield 7, 3) := by decide +kernel
theorem dX10_shape_106 : decode cX10_shape 106 = .ok (.bipush 8, 2) := by decide +kernel
theorem dX10_shape_108 : decode cX10_shape 108 = .ok (.iload_n 1, 1) := by decide +kernel
theorem dX10_shape_109 : decode cX10_shape 109 = .ok (.imul, 1) := by decide +kernel
theorem dX10_shape_110 : decode cX10_shape 110 = .ok (.iload 6, 2) := by decide +kernel
theorem dX10_shape_112 : decode cX10_shape 112 = .ok (.iadd, 1) := by decide +kernel
theorem dX10_shape_113 : decode cX10_shape 113 = .ok (.lload_n 2, 1) := by decide +kernel
theorem dX10_shape_114 : decode cX10_shape 114 = .ok (.bipush 8, 2) := by decide +kernel
theorem dX10_shape_116 : decode cX10_shape 116 = .ok (.iload 6, 2) := by decide +kernel
theorem dX10_shape_118 : decode cX10_shape 118 = .ok (.imul, 1) := by decide +kernel
theorem dX10_shape_119 : decode cX10_shape 119 = .ok (.lshr, 1) := by decide +kernel
theorem dX10_shape_120 : decode cX10_shape 120 = .ok (.ldc2_w 71, 3) := by decide +kernel
theorem dX10_shape_123 : decode cX10_shape 123 = .ok (.land, 1) := by decide +kernel
theorem dX10_shape_124 : decode cX10_shape 124 = .ok (.l2i, 1) := by decide +kernel
theorem dX10_shape_125 : decode cX10_shape 125 = .ok (.iastore, 1) := by decide +kernel
theorem dX10_shape_126 : decode cX10_shape 126 = .ok (.iinc 6 1, 3) := by decide +kernel
theorem dX10_shape_129 : decode cX10_shape 129 = .ok (.goto (-34), 3) := by decide +kernel
theorem dX10_shape_132 : decode cX10_shape 132 = .ok (.iconst 1, 1) := by decide +kernel
theorem dX10_shape_133 : decode cX10_shape 133 = .ok (.ireturn, 1) := by decide +kernel
theorem dX10_rowOf_0 : decode cX10_rowOf 0 = .ok (.iload_n 2, 1) := by decide +kernel
theorem dX10_rowOf_1 : decode cX10_rowOf 1 = .ok (.ifCond .lt 9, 3) := by decide +kernel
theorem dX10_rowOf_4 : decode cX10_rowOf 4 = .ok (.iload_n 2, 1) := by decide +kernel
theorem dX10_rowOf_5 : decode cX10_rowOf 5 = .ok (.bipush 7, 2) := by decide +kernel
theorem dX10_rowOf_7 : decode cX10_rowOf 7 = .ok (.if_icmp .le 7, 3) := by decide +kernel
theorem dX10_rowOf_10 : decode cX10_rowOf 10 = .ok (.iconst 0, 1) := by decide +kernel
theorem dX10_rowOf_11 : decode cX10_rowOf 11 = .ok (.goto 14, 3) := by decide +kernel
theorem dX10_rowOf_14 : decode cX10_rowOf 14 = .ok (.aload_n 0, 1) := by decide +kernel
theorem dX10_rowOf_15 : decode cX10_rowOf 15 = .ok (.getfield 7, 3) := by decide +kernel
theorem dX10_rowOf_18 : decode cX10_rowOf 18 = .ok (.bipush 8, 2) := by decide +kernel
theorem dX10_rowOf_20 : decode cX10_rowOf 20 = .ok (.iload_n 1, 1) := by decide +kernel
theorem dX10_rowOf_21 : decode cX10_rowOf 21 = .ok (.imul, 1) := by decide +kernel
theorem dX10_rowOf_22 : decode cX10_rowOf 22 = .ok (.iload_n 2, 1) := by decide +kernel
theorem dX10_rowOf_23 : decode cX10_rowOf 23 = .ok (.iadd, 1) := by decide +kernel
theorem dX10_rowOf_24 : decode cX10_rowOf 24 = .ok (.iaload, 1) := by decide +kernel
theorem dX10_rowOf_25 : decode cX10_rowOf 25 = .ok (.ireturn, 1) := by decide +kernel
theorem dX10_row_0 : decode cX10_row 0 = .ok (.aload_n 0, 1) := by decide +kernel
theorem dX10_row_1 : decode cX10_row 1 = .ok (.iload_n 1, 1) := by decide +kernel
theorem dX10_row_2 : decode cX10_row 2 = .ok (.invokestatic 67, 3) := by decide +kernel
theorem dX10_row_5 : decode cX10_row 5 = .ok (.ifCond .eq 7, 3) := by decide +kernel
theorem dX10_row_8 : decode cX10_row 8 = .ok (.iconst 0, 1) := by decide +kernel
theorem dX10_row_9 : decode cX10_row 9 = .ok (.goto 4, 3) := by decide +kernel
theorem dX10_row_12 : decode cX10_row 12 = .ok (.iconst 1, 1) := by decide +kernel
theorem dX10_row_13 : decode cX10_row 13 = .ok (.putfield 63, 3) := by decide +kernel
theorem dX10_row_16 : decode cX10_row 16 = .ok (.aload_n 0, 1) := by decide +kernel
theorem dX10_row_17 : decode cX10_row 17 = .ok (.getfield 63, 3) := by decide +kernel
theorem dX10_row_20 : decode cX10_row 20 = .ok (.ifCond .le 7, 3) := by decide +kernel
theorem dX10_row_23 : decode cX10_row 23 = .ok (.iconst 0, 1) := by decide +kernel
theorem dX10_row_24 : decode cX10_row 24 = .ok (.goto 9, 3) := by decide +kernel
theorem dX10_row_27 : decode cX10_row 27 = .ok (.aload_n 0, 1) := by decide +kernel
theorem dX10_row_28 : decode cX10_row 28 = .ok (.iload_n 1, 1) := by decide +kernel
theorem dX10_row_29 : decode cX10_row 29 = .ok (.iload_n 2, 1) := by decide +kernel
theorem dX10_row_30 : decode cX10_row 30 = .ok (.invokevirtual 73, 3) := by decide +kernel
theorem dX10_row_33 : decode cX10_row 33 = .ok (.ireturn, 1) := by decide +kernel
theorem dX10_boxesOf_0 : decode cX10_boxesOf 0 = .ok (.iconst 0, 1) := by decide +kernel
theorem dX10_boxesOf_1 : decode cX10_boxesOf 1 = .ok (.istore_n 2, 1) := by decide +kernel
theorem dX10_boxesOf_2 : decode cX10_boxesOf 2 = .ok (.iconst 0, 1) := by decide +kernel
theorem dX10_boxesOf_3 : decode cX10_boxesOf 3 = .ok (.istore_n 3, 1) := by decide +kernel
theorem dX10_boxesOf_4 : decode cX10_boxesOf 4 = .ok (.iload_n 3, 1) := by decide +kernel
theorem dX10_boxesOf_5 : decode cX10_boxesOf 5 = .ok (.bipush 8, 2) := by decide +kernel
theorem dX10_boxesOf_7 : decode cX10_boxesOf 7 = .ok (.if_icmp .ge 18, 3) := by decide +kernel
theorem dX10_boxesOf_10 : decode cX10_boxesOf 10 = .ok (.iload_n 2, 1) := by decide +kernel
theorem dX10_boxesOf_11 : decode cX10_boxesOf 11 = .ok (.aload_n 0, 1) := by decide +kernel
theorem dX10_boxesOf_12 : decode cX10_boxesOf 12 = .ok (.iload_n 1, 1) := by decide +kernel
theorem dX10_boxesOf_13 : decode cX10_boxesOf 13 = .ok (.iload_n 3, 1) := by decide +kernel
theorem dX10_boxesOf_14 : decode cX10_boxesOf 14 = .ok (.invokevirtual 73, 3) := by decide +kernel
theorem dX10_boxesOf_17 : decode cX10_boxesOf 17 = .ok (.iadd, 1) := by decide +kernel
theorem dX10_boxesOf_18 : decode cX10_boxesOf 18 = .ok (.istore_n 2, 1) := by decide +kernel
theorem dX10_boxesOf_19 : decode cX10_boxesOf 19 = .ok (.iinc 3 1, 3) := by decide +kernel
theorem dX10_boxesOf_22 : decode cX10_boxesOf 22 = .ok (.goto (-18), 3) := by decide +kernel
theorem dX10_boxesOf_25 : decode cX10_boxesOf 25 = .ok (.iload_n 2, 1) := by decide +kernel
theorem dX10_boxesOf_26 : decode cX10_boxesOf 26 = .ok (.ireturn, 1) := by decide +kernel
theorem dX10_conjugate_0 : decode cX10_conjugate 0 = .ok (.aload_n 0, 1) := by decide +kernel
theorem dX10_conjugate_1 : decode cX10_conjugate 1 = .ok (.iload_n 1, 1) := by decide +kernel
theorem dX10_conjugate_2 : decode cX10_conjugate 2 = .ok (.invokestatic 67, 3) := by decide +kernel
theorem dX10_conjugate_5 : decode cX10_conjugate 5 = .ok (.ifCond .eq 7, 3) := by decide +kernel
theorem dX10_conjugate_8 : decode cX10_conjugate 8 = .ok (.iconst 0, 1) := by decide +kernel
theorem dX10_conjugate_9 : decode cX10_conjugate 9 = .ok (.goto 4, 3) := by decide +kernel
theorem dX10_conjugate_12 : decode cX10_conjugate 12 = .ok (.iconst 1, 1) := by decide +kernel
theorem dX10_conjugate_13 : decode cX10_conjugate 13 = .ok (.putfield 63, 3) := by decide +kernel
theorem dX10_conjugate_16 : decode cX10_conjugate 16 = .ok (.aload_n 0, 1) := by decide +kernel
theorem dX10_conjugate_17 : decode cX10_conjugate 17 = .ok (.getfield 63, 3) := by decide +kernel
theorem dX10_conjugate_20 : decode cX10_conjugate 20 = .ok (.ifCond .gt 14, 3) := by decide +kernel
theorem dX10_conjugate_23 : decode cX10_conjugate 23 = .ok (.aload_n 0, 1) := by decide +kernel
theorem dX10_conjugate_24 : decode cX10_conjugate 24 = .ok (.iload_n 1, 1) := by decide +kernel
theorem dX10_conjugate_25 : decode cX10_conjugate 25 = .ok (.iconst 0, 1) := by decide +kernel
theorem dX10_conjugate_26 : decode cX10_conjugate 26 = .ok (.invokevirtual 73, 3) := by decide +kernel
theorem dX10_conjugate_29 : decode cX10_conjugate 29 = .ok (.bipush 8, 2) := by decide +kernel
theorem dX10_conjugate_31 : decode cX10_conjugate 31 = .ok (.if_icmp .le 5, 3) := by decide +kernel
theorem dX10_conjugate_34 : decode cX10_conjugate 34 = .ok (.iconst 0, 1) := by decide +kernel
theorem dX10_conjugate_35 : decode cX10_conjugate 35 = .ok (.ireturn, 1) := by decide +kernel
theorem dX10_conjugate_36 : decode cX10_conjugate 36 = .ok (.iconst 0, 1) := by decide +kernel
theorem dX10_conjugate_37 : decode cX10_conjugate 37 = .ok (.istore_n 2, 1) := by decide +kernel
theorem dX10_conjugate_38 : decode cX10_conjugate 38 = .ok (.iload_n 2, 1) := by decide +kernel
theorem dX10_conjugate_39 : decode cX10_conjugate 39 = .ok (.bipush 8, 2) := by decide +kernel
theorem dX10_conjugate_41 : decode cX10_conjugate 41 = .ok (.if_icmp .ge 53, 3) := by decide +kernel
theorem dX10_conjugate_44 : decode cX10_conjugate 44 = .ok (.iconst 0, 1) := by decide +kernel
theorem dX10_conjugate_45 : decode cX10_conjugate 45 = .ok (.istore_n 3, 1) := by decide +kernel
theorem dX10_conjugate_46 : decode cX10_conjugate 46 = .ok (.iconst 0, 1) := by decide +kernel
theorem dX10_conjugate_47 : decode cX10_conjugate 47 = .ok (.istore 4, 2) := by decide +kernel
theorem dX10_conjugate_49 : decode cX10_conjugate 49 = .ok (.iload 4, 2) := by decide +kernel
theorem dX10_conjugate_51 : decode cX10_conjugate 51 = .ok (.bipush 8, 2) := by decide +kernel
theorem dX10_conjugate_53 : decode cX10_conjugate 53 = .ok (.if_icmp .ge 28, 3) := by decide +kernel
theorem dX10_conjugate_56 : decode cX10_conjugate 56 = .ok (.aload_n 0, 1) := by decide +kernel
theorem dX10_conjugate_57 : decode cX10_conjugate 57 = .ok (.iload_n 1, 1) := by decide +kernel
theorem dX10_conjugate_58 : decode cX10_conjugate 58 = .ok (.iload 4, 2) := by decide +kernel
theorem dX10_conjugate_60 : decode cX10_conjugate 60 = .ok (.invokevirtual 73, 3) := by decide +kernel
theorem dX10_conjugate_63 : decode cX10_conjugate 63 = .ok (.iload_n 2, 1) := by decide +kernel
theorem dX10_conjugate_64 : decode cX10_conjugate 64 = .ok (.if_icmp .le 9, 3) := by decide +kernel
theorem dX10_conjugate_67 : decode cX10_conjugate 67 = .ok (.iload_n 3, 1) := by decide +kernel
theorem dX10_conjugate_68 : decode cX10_conjugate 68 = .ok (.iconst 1, 1) := by decide +kernel
theorem dX10_conjugate_69 : decode cX10_conjugate 69 = .ok (.iadd, 1) := by decide +kernel
theorem dX10_conjugate_70 : decode cX10_conjugate 70 = .ok (.goto 4, 3) := by decide +kernel
theorem dX10_conjugate_73 : decode cX10_conjugate 73 = .ok (.iload_n 3, 1) := by decide +kernel
theorem dX10_conjugate_74 : decode cX10_conjugate 74 = .ok (.istore_n 3, 1) := by decide +kernel
theorem dX10_conjugate_75 : decode cX10_conjugate 75 = .ok (.iinc 4 1, 3) := by decide +kernel
theorem dX10_conjugate_78 : decode cX10_conjugate 78 = .ok (.goto (-29), 3) := by decide +kernel
theorem dX10_conjugate_81 : decode cX10_conjugate 81 = .ok (.aload_n 0, 1) := by decide +kernel
theorem dX10_conjugate_82 : decode cX10_conjugate 82 = .ok (.getfield 35, 3) := by decide +kernel
theorem dX10_conjugate_85 : decode cX10_conjugate 85 = .ok (.iload_n 2, 1) := by decide +kernel
theorem dX10_conjugate_86 : decode cX10_conjugate 86 = .ok (.iload_n 3, 1) := by decide +kernel
theorem dX10_conjugate_87 : decode cX10_conjugate 87 = .ok (.iastore, 1) := by decide +kernel
theorem dX10_conjugate_88 : decode cX10_conjugate 88 = .ok (.iinc 2 1, 3) := by decide +kernel
theorem dX10_conjugate_91 : decode cX10_conjugate 91 = .ok (.goto (-53), 3) := by decide +kernel
theorem dX10_conjugate_94 : decode cX10_conjugate 94 = .ok (.iconst 0, 1) := by decide +kernel
theorem dX10_conjugate_95 : decode cX10_conjugate 95 = .ok (.istore_n 2, 1) := by decide +kernel
theorem dX10_conjugate_96 : decode cX10_conjugate 96 = .ok (.iload_n 2, 1) := by decide +kernel
theorem dX10_conjugate_97 : decode cX10_conjugate 97 = .ok (.bipush 8, 2) := by decide +kernel
theorem dX10_conjugate_99 : decode cX10_conjugate 99 = .ok (.if_icmp .ge 26, 3) := by decide +kernel
theorem dX10_conjugate_102 : decode cX10_conjugate 102 = .ok (.aload_n 0, 1) := by decide +kernel
theorem dX10_conjugate_103 : decode cX10_conjugate 103 = .ok (.getfield 7, 3) := by decide +kernel
theorem dX10_conjugate_106 : decode cX10_conjugate 106 = .ok (.bipush 8, 2) := by decide +kernel
theorem dX10_conjugate_108 : decode cX10_conjugate 108 = .ok (.iload_n 1, 1) := by decide +kernel
theorem dX10_conjugate_109 : decode cX10_conjugate 109 = .ok (.imul, 1) := by decide +kernel
theorem dX10_conjugate_110 : decode cX10_conjugate 110 = .ok (.iload_n 2, 1) := by decide +kernel
theorem dX10_conjugate_111 : decode cX10_conjugate 111 = .ok (.iadd, 1) := by decide +kernel
theorem dX10_conjugate_112 : decode cX10_conjugate 112 = .ok (.aload_n 0, 1) := by decide +kernel
theorem dX10_conjugate_113 : decode cX10_conjugate 113 = .ok (.getfield 35, 3) := by decide +kernel
theorem dX10_conjugate_116 : decode cX10_conjugate 116 = .ok (.iload_n 2, 1) := by decide +kernel
theorem dX10_conjugate_117 : decode cX10_conjugate 117 = .ok (.iaload, 1) := by decide +kernel
theorem dX10_conjugate_118 : decode cX10_conjugate 118 = .ok (.iastore, 1) := by decide +kernel
theorem dX10_conjugate_119 : decode cX10_conjugate 119 = .ok (.iinc 2 1, 3) := by decide +kernel
theorem dX10_conjugate_122 : decode cX10_conjugate 122 = .ok (.goto (-26), 3) := by decide +kernel
theorem dX10_conjugate_125 : decode cX10_conjugate 125 = .ok (.iconst 1, 1) := by decide +kernel
theorem dX10_conjugate_126 : decode cX10_conjugate 126 = .ok (.ireturn, 1) := by decide +kernel
theorem dX10_rank_0 : decode cX10_rank 0 = .ok (.aload_n 0, 1) := by decide +kernel
theorem dX10_rank_1 : decode cX10_rank 1 = .ok (.iload_n 1, 1) := by decide +kernel
theorem dX10_rank_2 : decode cX10_rank 2 = .ok (.invokestatic 67, 3) := by decide +kernel
theorem dX10_rank_5 : decode cX10_rank 5 = .ok (.ifCond .eq 7, 3) := by decide +kernel
theorem dX10_rank_8 : decode cX10_rank 8 = .ok (.iconst 0, 1) := by decide +kernel
theorem dX10_rank_9 : decode cX10_rank 9 = .ok (.goto 4, 3) := by decide +kernel
theorem dX10_rank_12 : decode cX10_rank 12 = .ok (.iconst 1, 1) := by decide +kernel
theorem dX10_rank_13 : decode cX10_rank 13 = .ok (.putfield 63, 3) := by decide +kernel
theorem dX10_rank_16 : decode cX10_rank 16 = .ok (.aload_n 0, 1) := by decide +kernel
theorem dX10_rank_17 : decode cX10_rank 17 = .ok (.getfield 63, 3) := by decide +kernel
theorem dX10_rank_20 : decode cX10_rank 20 = .ok (.ifCond .le 5, 3) := by decide +kernel
theorem dX10_rank_23 : decode cX10_rank 23 = .ok (.iconst 0, 1) := by decide +kernel
theorem dX10_rank_24 : decode cX10_rank 24 = .ok (.ireturn, 1) := by decide +kernel
theorem dX10_rank_25 : decode cX10_rank 25 = .ok (.aload_n 0, 1) := by decide +kernel
theorem dX10_rank_26 : decode cX10_rank 26 = .ok (.iload_n 1, 1) := by decide +kernel
theorem dX10_rank_27 : decode cX10_rank 27 = .ok (.invokevirtual 77, 3) := by decide +kernel
theorem dX10_rank_30 : decode cX10_rank 30 = .ok (.istore_n 2, 1) := by decide +kernel
theorem dX10_rank_31 : decode cX10_rank 31 = .ok (.iload_n 2, 1) := by decide +kernel
theorem dX10_rank_32 : decode cX10_rank 32 = .ok (.istore_n 3, 1) := by decide +kernel
theorem dX10_rank_33 : decode cX10_rank 33 = .ok (.iconst 0, 1) := by decide +kernel
theorem dX10_rank_34 : decode cX10_rank 34 = .ok (.istore 4, 2) := by decide +kernel
theorem dX10_rank_36 : decode cX10_rank 36 = .ok (.iconst 0, 1) := by decide +kernel
theorem dX10_rank_37 : decode cX10_rank 37 = .ok (.istore 5, 2) := by decide +kernel
theorem dX10_rank_39 : decode cX10_rank 39 = .ok (.iload 5, 2) := by decide +kernel
theorem dX10_rank_41 : decode cX10_rank 41 = .ok (.bipush 8, 2) := by decide +kernel
theorem dX10_rank_43 : decode cX10_rank 43 = .ok (.if_icmp .ge 79, 3) := by decide +kernel
theorem dX10_rank_46 : decode cX10_rank 46 = .ok (.iload_n 2, 1) := by decide +kernel
theorem dX10_rank_47 : decode cX10_rank 47 = .ok (.ifCond .le 75, 3) := by decide +kernel
theorem dX10_rank_50 : decode cX10_rank 50 = .ok (.aload_n 0, 1) := by decide +kernel
theorem dX10_rank_51 : decode cX10_rank 51 = .ok (.iload_n 1, 1) := by decide +kernel
theorem dX10_rank_52 : decode cX10_rank 52 = .ok (.iload 5, 2) := by decide +kernel
theorem dX10_rank_54 : decode cX10_rank 54 = .ok (.invokevirtual 73, 3) := by decide +kernel
theorem dX10_rank_57 : decode cX10_rank 57 = .ok (.istore 6, 2) := by decide +kernel
theorem dX10_rank_59 : decode cX10_rank 59 = .ok (.iload_n 3, 1) := by decide +kernel
theorem dX10_rank_60 : decode cX10_rank 60 = .ok (.iload_n 2, 1) := by decide +kernel
theorem dX10_rank_61 : decode cX10_rank 61 = .ok (.if_icmp .ge 7, 3) := by decide +kernel
theorem dX10_rank_64 : decode cX10_rank 64 = .ok (.iload_n 3, 1) := by decide +kernel
theorem dX10_rank_65 : decode cX10_rank 65 = .ok (.goto 4, 3) := by decide +kernel
theorem dX10_rank_68 : decode cX10_rank 68 = .ok (.iload_n 2, 1) := by decide +kernel
theorem dX10_rank_69 : decode cX10_rank 69 = .ok (.istore 7, 2) := by decide +kernel
theorem dX10_rank_71 : decode cX10_rank 71 = .ok (.iload 7, 2) := by decide +kernel
theorem dX10_rank_73 : decode cX10_rank 73 = .ok (.istore 8, 2) := by decide +kernel
theorem dX10_rank_75 : decode cX10_rank 75 = .ok (.iload 8, 2) := by decide +kernel
theorem dX10_rank_77 : decode cX10_rank 77 = .ok (.iload 6, 2) := by decide +kernel
theorem dX10_rank_79 : decode cX10_rank 79 = .ok (.if_icmp .le 29, 3) := by decide +kernel
theorem dX10_rank_82 : decode cX10_rank 82 = .ok (.iload 4, 2) := by decide +kernel
theorem dX10_rank_84 : decode cX10_rank 84 = .ok (.aload_n 0, 1) := by decide +kernel
theorem dX10_rank_85 : decode cX10_rank 85 = .ok (.getfield 32, 3) := by decide +kernel
theorem dX10_rank_88 : decode cX10_rank 88 = .ok (.bipush 25, 2) := by decide +kernel
theorem dX10_rank_90 : decode cX10_rank 90 = .ok (.iload_n 2, 1) := by decide +kernel
theorem dX10_rank_91 : decode cX10_rank 91 = .ok (.iload 8, 2) := by decide +kernel
theorem dX10_rank_93 : decode cX10_rank 93 = .ok (.isub, 1) := by decide +kernel
theorem dX10_rank_94 : decode cX10_rank 94 = .ok (.imul, 1) := by decide +kernel
theorem dX10_rank_95 : decode cX10_rank 95 = .ok (.iload 8, 2) := by decide +kernel
theorem dX10_rank_97 : decode cX10_rank 97 = .ok (.iadd, 1) := by decide +kernel
theorem dX10_rank_98 : decode cX10_rank 98 = .ok (.iaload, 1) := by decide +kernel
theorem dX10_rank_99 : decode cX10_rank 99 = .ok (.iadd, 1) := by decide +kernel
theorem dX10_rank_100 : decode cX10_rank 100 = .ok (.istore 4, 2) := by decide +kernel
theorem dX10_rank_102 : decode cX10_rank 102 = .ok (.iinc 8 (-1), 3) := by decide +kernel
theorem dX10_rank_105 : decode cX10_rank 105 = .ok (.goto (-30), 3) := by decide +kernel
theorem dX10_rank_108 : decode cX10_rank 108 = .ok (.iload_n 2, 1) := by decide +kernel
theorem dX10_rank_109 : decode cX10_rank 109 = .ok (.iload 6, 2) := by decide +kernel
theorem dX10_rank_111 : decode cX10_rank 111 = .ok (.isub, 1) := by decide +kernel
theorem dX10_rank_112 : decode cX10_rank 112 = .ok (.istore_n 2, 1) := by decide +kernel
theorem dX10_rank_113 : decode cX10_rank 113 = .ok (.iload 6, 2) := by decide +kernel
theorem dX10_rank_115 : decode cX10_rank 115 = .ok (.istore_n 3, 1) := by decide +kernel
theorem dX10_rank_116 : decode cX10_rank 116 = .ok (.iinc 5 1, 3) := by decide +kernel
theorem dX10_rank_119 : decode cX10_rank 119 = .ok (.goto (-80), 3) := by decide +kernel
theorem dX10_rank_122 : decode cX10_rank 122 = .ok (.iload 4, 2) := by decide +kernel
theorem dX10_rank_124 : decode cX10_rank 124 = .ok (.ireturn, 1) := by decide +kernel
theorem dX10_unrank_0 : decode cX10_unrank 0 = .ok (.aload_n 0, 1) := by decide +kernel
theorem dX10_unrank_1 : decode cX10_unrank 1 = .ok (.iload_n 1, 1) := by decide +kernel
theorem dX10_unrank_2 : decode cX10_unrank 2 = .ok (.invokestatic 67, 3) := by decide +kernel
theorem dX10_unrank_5 : decode cX10_unrank 5 = .ok (.ifCond .ne 7, 3) := by decide +kernel
theorem dX10_unrank_8 : decode cX10_unrank 8 = .ok (.iconst 1, 1) := by decide +kernel
theorem dX10_unrank_9 : decode cX10_unrank 9 = .ok (.goto 41, 3) := by decide +kernel
theorem dX10_unrank_12 : decode cX10_unrank 12 = .ok (.iload_n 2, 1) := by decide +kernel
theorem dX10_unrank_13 : decode cX10_unrank 13 = .ok (.ifCond .lt 9, 3) := by decide +kernel
theorem dX10_unrank_16 : decode cX10_unrank 16 = .ok (.iload_n 2, 1) := by decide +kernel
theorem dX10_unrank_17 : decode cX10_unrank 17 = .ok (.bipush 24, 2) := by decide +kernel
theorem dX10_unrank_19 : decode cX10_unrank 19 = .ok (.if_icmp .le 7, 3) := by decide +kernel
theorem dX10_unrank_22 : decode cX10_unrank 22 = .ok (.iconst 2, 1) := by decide +kernel
theorem dX10_unrank_23 : decode cX10_unrank 23 = .ok (.goto 27, 3) := by decide +kernel
theorem dX10_unrank_26 : decode cX10_unrank 26 = .ok (.iload_n 3, 1) := by decide +kernel
theorem dX10_unrank_27 : decode cX10_unrank 27 = .ok (.ifCond .lt 18, 3) := by decide +kernel
theorem dX10_unrank_30 : decode cX10_unrank 30 = .ok (.iload_n 3, 1) := by decide +kernel
theorem dX10_unrank_31 : decode cX10_unrank 31 = .ok (.aload_n 0, 1) := by decide +kernel
theorem dX10_unrank_32 : decode cX10_unrank 32 = .ok (.getfield 32, 3) := by decide +kernel
theorem dX10_unrank_35 : decode cX10_unrank 35 = .ok (.bipush 25, 2) := by decide +kernel
theorem dX10_unrank_37 : decode cX10_unrank 37 = .ok (.iload_n 2, 1) := by decide +kernel
theorem dX10_unrank_38 : decode cX10_unrank 38 = .ok (.imul, 1) := by decide +kernel
theorem dX10_unrank_39 : decode cX10_unrank 39 = .ok (.iload_n 2, 1) := by decide +kernel
theorem dX10_unrank_40 : decode cX10_unrank 40 = .ok (.iadd, 1) := by decide +kernel
theorem dX10_unrank_41 : decode cX10_unrank 41 = .ok (.iaload, 1) := by decide +kernel
theorem dX10_unrank_42 : decode cX10_unrank 42 = .ok (.if_icmp .lt 7, 3) := by decide +kernel
theorem dX10_unrank_45 : decode cX10_unrank 45 = .ok (.iconst 3, 1) := by decide +kernel
theorem dX10_unrank_46 : decode cX10_unrank 46 = .ok (.goto 4, 3) := by decide +kernel
theorem dX10_unrank_49 : decode cX10_unrank 49 = .ok (.iconst 0, 1) := by decide +kernel
theorem dX10_unrank_50 : decode cX10_unrank 50 = .ok (.putfield 63, 3) := by decide +kernel
theorem dX10_unrank_53 : decode cX10_unrank 53 = .ok (.aload_n 0, 1) := by decide +kernel
theorem dX10_unrank_54 : decode cX10_unrank 54 = .ok (.getfield 63, 3) := by decide +kernel
theorem dX10_unrank_57 : decode cX10_unrank 57 = .ok (.ifCond .le 4, 3) := by decide +kernel
theorem dX10_unrank_60 : decode cX10_unrank 60 = .ok (.return_, 1) := by decide +kernel
theorem dX10_unrank_61 : decode cX10_unrank 61 = .ok (.iload_n 2, 1) := by decide +kernel
theorem dX10_unrank_62 : decode cX10_unrank 62 = .ok (.istore 4, 2) := by decide +kernel
theorem dX10_unrank_64 : decode cX10_unrank 64 = .ok (.iload_n 2, 1) := by decide +kernel
theorem dX10_unrank_65 : decode cX10_unrank 65 = .ok (.istore 5, 2) := by decide +kernel
theorem dX10_unrank_67 : decode cX10_unrank 67 = .ok (.iconst 0, 1) := by decide +kernel
theorem dX10_unrank_68 : decode cX10_unrank 68 = .ok (.istore 6, 2) := by decide +kernel
theorem dX10_unrank_70 : decode cX10_unrank 70 = .ok (.iload_n 3, 1) := by decide +kernel
theorem dX10_unrank_71 : decode cX10_unrank 71 = .ok (.istore 7, 2) := by decide +kernel
theorem dX10_unrank_73 : decode cX10_unrank 73 = .ok (.iconst 0, 1) := by decide +kernel
theorem dX10_unrank_74 : decode cX10_unrank 74 = .ok (.istore 8, 2) := by decide +kernel
theorem dX10_unrank_76 : decode cX10_unrank 76 = .ok (.iload 8, 2) := by decide +kernel
theorem dX10_unrank_78 : decode cX10_unrank 78 = .ok (.bipush 9, 2) := by decide +kernel
theorem dX10_unrank_80 : decode cX10_unrank 80 = .ok (.if_icmp .ge 17, 3) := by decide +kernel
theorem dX10_unrank_83 : decode cX10_unrank 83 = .ok (.aload_n 0, 1) := by decide +kernel
theorem dX10_unrank_84 : decode cX10_unrank 84 = .ok (.getfield 35, 3) := by decide +kernel
theorem dX10_unrank_87 : decode cX10_unrank 87 = .ok (.iload 8, 2) := by decide +kernel
theorem dX10_unrank_89 : decode cX10_unrank 89 = .ok (.iconst 0, 1) := by decide +kernel
theorem dX10_unrank_90 : decode cX10_unrank 90 = .ok (.iastore, 1) := by decide +kernel
theorem dX10_unrank_91 : decode cX10_unrank 91 = .ok (.iinc 8 1, 3) := by decide +kernel
theorem dX10_unrank_94 : decode cX10_unrank 94 = .ok (.goto (-18), 3) := by decide +kernel
theorem dX10_unrank_97 : decode cX10_unrank 97 = .ok (.iload 4, 2) := by decide +kernel
theorem dX10_unrank_99 : decode cX10_unrank 99 = .ok (.ifCond .le 100, 3) := by decide +kernel
theorem dX10_unrank_102 : decode cX10_unrank 102 = .ok (.iload 6, 2) := by decide +kernel
theorem dX10_unrank_104 : decode cX10_unrank 104 = .ok (.bipush 9, 2) := by decide +kernel
theorem dX10_unrank_106 : decode cX10_unrank 106 = .ok (.if_icmp .ge 93, 3) := by decide +kernel
theorem dX10_unrank_109 : decode cX10_unrank 109 = .ok (.iload 5, 2) := by decide +kernel
theorem dX10_unrank_111 : decode cX10_unrank 111 = .ok (.iload 4, 2) := by decide +kernel
theorem dX10_unrank_113 : decode cX10_unrank 113 = .ok (.if_icmp .ge 8, 3) := by decide +kernel
theorem dX10_unrank_116 : decode cX10_unrank 116 = .ok (.iload 5, 2) := by decide +kernel
theorem dX10_unrank_118 : decode cX10_unrank 118 = .ok (.goto 5, 3) := by decide +kernel
theorem dX10_unrank_121 : decode cX10_unrank 121 = .ok (.iload 4, 2) := by decide +kernel
theorem dX10_unrank_123 : decode cX10_unrank 123 = .ok (.istore 8, 2) := by decide +kernel
theorem dX10_unrank_125 : decode cX10_unrank 125 = .ok (.iload 7, 2) := by decide +kernel
theorem dX10_unrank_127 : decode cX10_unrank 127 = .ok (.aload_n 0, 1) := by decide +kernel
theorem dX10_unrank_128 : decode cX10_unrank 128 = .ok (.getfield 32, 3) := by decide +kernel
theorem dX10_unrank_131 : decode cX10_unrank 131 = .ok (.bipush 25, 2) := by decide +kernel
theorem dX10_unrank_133 : decode cX10_unrank 133 = .ok (.iload 4, 2) := by decide +kernel
theorem dX10_unrank_135 : decode cX10_unrank 135 = .ok (.iload 8, 2) := by decide +kernel
theorem dX10_unrank_137 : decode cX10_unrank 137 = .ok (.isub, 1) := by decide +kernel
theorem dX10_unrank_138 : decode cX10_unrank 138 = .ok (.imul, 1) := by decide +kernel
theorem dX10_unrank_139 : decode cX10_unrank 139 = .ok (.iload 8, 2) := by decide +kernel
theorem dX10_unrank_141 : decode cX10_unrank 141 = .ok (.iadd, 1) := by decide +kernel
theorem dX10_unrank_142 : decode cX10_unrank 142 = .ok (.iaload, 1) := by decide +kernel
theorem dX10_unrank_143 : decode cX10_unrank 143 = .ok (.if_icmp .lt 30, 3) := by decide +kernel
theorem dX10_unrank_146 : decode cX10_unrank 146 = .ok (.iload 7, 2) := by decide +kernel
theorem dX10_unrank_148 : decode cX10_unrank 148 = .ok (.aload_n 0, 1) := by decide +kernel
theorem dX10_unrank_149 : decode cX10_unrank 149 = .ok (.getfield 32, 3) := by decide +kernel
theorem dX10_unrank_152 : decode cX10_unrank 152 = .ok (.bipush 25, 2) := by decide +kernel
theorem dX10_unrank_154 : decode cX10_unrank 154 = .ok (.iload 4, 2) := by decide +kernel
theorem dX10_unrank_156 : decode cX10_unrank 156 = .ok (.iload 8, 2) := by decide +kernel
theorem dX10_unrank_158 : decode cX10_unrank 158 = .ok (.isub, 1) := by decide +kernel
theorem dX10_unrank_159 : decode cX10_unrank 159 = .ok (.imul, 1) := by decide +kernel
theorem dX10_unrank_160 : decode cX10_unrank 160 = .ok (.iload 8, 2) := by decide +kernel
theorem dX10_unrank_162 : decode cX10_unrank 162 = .ok (.iadd, 1) := by decide +kernel
theorem dX10_unrank_163 : decode cX10_unrank 163 = .ok (.iaload, 1) := by decide +kernel
theorem dX10_unrank_164 : decode cX10_unrank 164 = .ok (.isub, 1) := by decide +kernel
theorem dX10_unrank_165 : decode cX10_unrank 165 = .ok (.istore 7, 2) := by decide +kernel
theorem dX10_unrank_167 : decode cX10_unrank 167 = .ok (.iinc 8 (-1), 3) := by decide +kernel
theorem dX10_unrank_170 : decode cX10_unrank 170 = .ok (.goto (-45), 3) := by decide +kernel
theorem dX10_unrank_173 : decode cX10_unrank 173 = .ok (.aload_n 0, 1) := by decide +kernel
theorem dX10_unrank_174 : decode cX10_unrank 174 = .ok (.getfield 35, 3) := by decide +kernel
theorem dX10_unrank_177 : decode cX10_unrank 177 = .ok (.iload 6, 2) := by decide +kernel
theorem dX10_unrank_179 : decode cX10_unrank 179 = .ok (.iload 8, 2) := by decide +kernel
theorem dX10_unrank_181 : decode cX10_unrank 181 = .ok (.iastore, 1) := by decide +kernel
theorem dX10_unrank_182 : decode cX10_unrank 182 = .ok (.iinc 6 1, 3) := by decide +kernel
theorem dX10_unrank_185 : decode cX10_unrank 185 = .ok (.iload 4, 2) := by decide +kernel
theorem dX10_unrank_187 : decode cX10_unrank 187 = .ok (.iload 8, 2) := by decide +kernel
theorem dX10_unrank_189 : decode cX10_unrank 189 = .ok (.isub, 1) := by decide +kernel
theorem dX10_unrank_190 : decode cX10_unrank 190 = .ok (.istore 4, 2) := by decide +kernel
theorem dX10_unrank_192 : decode cX10_unrank 192 = .ok (.iload 8, 2) := by decide +kernel
theorem dX10_unrank_194 : decode cX10_unrank 194 = .ok (.istore 5, 2) := by decide +kernel
theorem dX10_unrank_196 : decode cX10_unrank 196 = .ok (.goto (-99), 3) := by decide +kernel
theorem dX10_unrank_199 : decode cX10_unrank 199 = .ok (.aload_n 0, 1) := by decide +kernel
theorem dX10_unrank_200 : decode cX10_unrank 200 = .ok (.getfield 35, 3) := by decide +kernel
theorem dX10_unrank_203 : decode cX10_unrank 203 = .ok (.bipush 8, 2) := by decide +kernel
theorem dX10_unrank_205 : decode cX10_unrank 205 = .ok (.iaload, 1) := by decide +kernel
theorem dX10_unrank_206 : decode cX10_unrank 206 = .ok (.ifCond .le 9, 3) := by decide +kernel
theorem dX10_unrank_209 : decode cX10_unrank 209 = .ok (.aload_n 0, 1) := by decide +kernel
theorem dX10_unrank_210 : decode cX10_unrank 210 = .ok (.iconst 4, 1) := by decide +kernel
theorem dX10_unrank_211 : decode cX10_unrank 211 = .ok (.putfield 63, 3) := by decide +kernel
theorem dX10_unrank_214 : decode cX10_unrank 214 = .ok (.return_, 1) := by decide +kernel
theorem dX10_unrank_215 : decode cX10_unrank 215 = .ok (.iconst 0, 1) := by decide +kernel
theorem dX10_unrank_216 : decode cX10_unrank 216 = .ok (.istore 8, 2) := by decide +kernel
theorem dX10_unrank_218 : decode cX10_unrank 218 = .ok (.iload 8, 2) := by decide +kernel
theorem dX10_unrank_220 : decode cX10_unrank 220 = .ok (.bipush 8, 2) := by decide +kernel
theorem dX10_unrank_222 : decode cX10_unrank 222 = .ok (.if_icmp .ge 28, 3) := by decide +kernel
theorem dX10_unrank_225 : decode cX10_unrank 225 = .ok (.aload_n 0, 1) := by decide +kernel
theorem dX10_unrank_226 : decode cX10_unrank 226 = .ok (.getfield 7, 3) := by decide +kernel
theorem dX10_unrank_229 : decode cX10_unrank 229 = .ok (.bipush 8, 2) := by decide +kernel
theorem dX10_unrank_231 : decode cX10_unrank 231 = .ok (.iload_n 1, 1) := by decide +kernel
theorem dX10_unrank_232 : decode cX10_unrank 232 = .ok (.imul, 1) := by decide +kernel
theorem dX10_unrank_233 : decode cX10_unrank 233 = .ok (.iload 8, 2) := by decide +kernel
theorem dX10_unrank_235 : decode cX10_unrank 235 = .ok (.iadd, 1) := by decide +kernel
theorem dX10_unrank_236 : decode cX10_unrank 236 = .ok (.aload_n 0, 1) := by decide +kernel
theorem dX10_unrank_237 : decode cX10_unrank 237 = .ok (.getfield 35, 3) := by decide +kernel
theorem dX10_unrank_240 : decode cX10_unrank 240 = .ok (.iload 8, 2) := by decide +kernel
theorem dX10_unrank_242 : decode cX10_unrank 242 = .ok (.iaload, 1) := by decide +kernel
theorem dX10_unrank_243 : decode cX10_unrank 243 = .ok (.iastore, 1) := by decide +kernel
theorem dX10_unrank_244 : decode cX10_unrank 244 = .ok (.iinc 8 1, 3) := by decide +kernel
theorem dX10_unrank_247 : decode cX10_unrank 247 = .ok (.goto (-29), 3) := by decide +kernel
theorem dX10_unrank_250 : decode cX10_unrank 250 = .ok (.return_, 1) := by decide +kernel
theorem dX10_letter_0 : decode cX10_letter 0 = .ok (.aload_n 0, 1) := by decide +kernel
theorem dX10_letter_1 : decode cX10_letter 1 = .ok (.iload_n 1, 1) := by decide +kernel
theorem dX10_letter_2 : decode cX10_letter 2 = .ok (.invokestatic 81, 3) := by decide +kernel
theorem dX10_letter_5 : decode cX10_letter 5 = .ok (.ifCond .eq 7, 3) := by decide +kernel
theorem dX10_letter_8 : decode cX10_letter 8 = .ok (.iconst 0, 1) := by decide +kernel
theorem dX10_letter_9 : decode cX10_letter 9 = .ok (.goto 4, 3) := by decide +kernel
theorem dX10_letter_12 : decode cX10_letter 12 = .ok (.iconst 1, 1) := by decide +kernel
theorem dX10_letter_13 : decode cX10_letter 13 = .ok (.putfield 63, 3) := by decide +kernel
theorem dX10_letter_16 : decode cX10_letter 16 = .ok (.aload_n 0, 1) := by decide +kernel
theorem dX10_letter_17 : decode cX10_letter 17 = .ok (.getfield 63, 3) := by decide +kernel
theorem dX10_letter_20 : decode cX10_letter 20 = .ok (.ifCond .gt 25, 3) := by decide +kernel
theorem dX10_letter_23 : decode cX10_letter 23 = .ok (.iload_n 2, 1) := by decide +kernel
theorem dX10_letter_24 : decode cX10_letter 24 = .ok (.iconst 1, 1) := by decide +kernel
theorem dX10_letter_25 : decode cX10_letter 25 = .ok (.if_icmp .lt 20, 3) := by decide +kernel
theorem dX10_letter_28 : decode cX10_letter 28 = .ok (.iload_n 2, 1) := by decide +kernel
theorem dX10_letter_29 : decode cX10_letter 29 = .ok (.bipush 16, 2) := by decide +kernel
theorem dX10_letter_31 : decode cX10_letter 31 = .ok (.if_icmp .gt 14, 3) := by decide +kernel
theorem dX10_letter_34 : decode cX10_letter 34 = .ok (.aload_n 0, 1) := by decide +kernel
theorem dX10_letter_35 : decode cX10_letter 35 = .ok (.getfield 16, 3) := by decide +kernel
theorem dX10_letter_38 : decode cX10_letter 38 = .ok (.iload_n 1, 1) := by decide +kernel
theorem dX10_letter_39 : decode cX10_letter 39 = .ok (.iaload, 1) := by decide +kernel
theorem dX10_letter_40 : decode cX10_letter 40 = .ok (.bipush 16, 2) := by decide +kernel
theorem dX10_letter_42 : decode cX10_letter 42 = .ok (.if_icmp .ne 5, 3) := by decide +kernel
theorem dX10_letter_45 : decode cX10_letter 45 = .ok (.iconst 0, 1) := by decide +kernel
theorem dX10_letter_46 : decode cX10_letter 46 = .ok (.ireturn, 1) := by decide +kernel
theorem dX10_letter_47 : decode cX10_letter 47 = .ok (.aload_n 0, 1) := by decide +kernel
theorem dX10_letter_48 : decode cX10_letter 48 = .ok (.getfield 13, 3) := by decide +kernel
theorem dX10_letter_51 : decode cX10_letter 51 = .ok (.bipush 16, 2) := by decide +kernel
theorem dX10_letter_53 : decode cX10_letter 53 = .ok (.iload_n 1, 1) := by decide +kernel
theorem dX10_letter_54 : decode cX10_letter 54 = .ok (.imul, 1) := by decide +kernel
theorem dX10_letter_55 : decode cX10_letter 55 = .ok (.aload_n 0, 1) := by decide +kernel
theorem dX10_letter_56 : decode cX10_letter 56 = .ok (.getfield 16, 3) := by decide +kernel
theorem dX10_letter_59 : decode cX10_letter 59 = .ok (.iload_n 1, 1) := by decide +kernel
theorem dX10_letter_60 : decode cX10_letter 60 = .ok (.iaload, 1) := by decide +kernel
theorem dX10_letter_61 : decode cX10_letter 61 = .ok (.iadd, 1) := by decide +kernel
theorem dX10_letter_62 : decode cX10_letter 62 = .ok (.iload_n 2, 1) := by decide +kernel
theorem dX10_letter_63 : decode cX10_letter 63 = .ok (.iastore, 1) := by decide +kernel
theorem dX10_letter_64 : decode cX10_letter 64 = .ok (.aload_n 0, 1) := by decide +kernel
theorem dX10_letter_65 : decode cX10_letter 65 = .ok (.getfield 16, 3) := by decide +kernel
theorem dX10_letter_68 : decode cX10_letter 68 = .ok (.iload_n 1, 1) := by decide +kernel
theorem dX10_letter_69 : decode cX10_letter 69 = .ok (.dup2, 1) := by decide +kernel
theorem dX10_letter_70 : decode cX10_letter 70 = .ok (.iaload, 1) := by decide +kernel
theorem dX10_letter_71 : decode cX10_letter 71 = .ok (.iconst 1, 1) := by decide +kernel
theorem dX10_letter_72 : decode cX10_letter 72 = .ok (.iadd, 1) := by decide +kernel
theorem dX10_letter_73 : decode cX10_letter 73 = .ok (.iastore, 1) := by decide +kernel
theorem dX10_letter_74 : decode cX10_letter 74 = .ok (.iconst 1, 1) := by decide +kernel
theorem dX10_letter_75 : decode cX10_letter 75 = .ok (.ireturn, 1) := by decide +kernel
theorem dX10_cut_0 : decode cX10_cut 0 = .ok (.aload_n 0, 1) := by decide +kernel
theorem dX10_cut_1 : decode cX10_cut 1 = .ok (.iload_n 1, 1) := by decide +kernel
theorem dX10_cut_2 : decode cX10_cut 2 = .ok (.invokestatic 81, 3) := by decide +kernel
theorem dX10_cut_5 : decode cX10_cut 5 = .ok (.ifCond .eq 7, 3) := by decide +kernel
theorem dX10_cut_8 : decode cX10_cut 8 = .ok (.iconst 0, 1) := by decide +kernel
theorem dX10_cut_9 : decode cX10_cut 9 = .ok (.goto 4, 3) := by decide +kernel
theorem dX10_cut_12 : decode cX10_cut 12 = .ok (.iconst 1, 1) := by decide +kernel
theorem dX10_cut_13 : decode cX10_cut 13 = .ok (.putfield 63, 3) := by decide +kernel
theorem dX10_cut_16 : decode cX10_cut 16 = .ok (.aload_n 0, 1) := by decide +kernel
theorem dX10_cut_17 : decode cX10_cut 17 = .ok (.getfield 63, 3) := by decide +kernel
theorem dX10_cut_20 : decode cX10_cut 20 = .ok (.ifCond .gt 17, 3) := by decide +kernel
theorem dX10_cut_23 : decode cX10_cut 23 = .ok (.iload_n 2, 1) := by decide +kernel
theorem dX10_cut_24 : decode cX10_cut 24 = .ok (.ifCond .lt 13, 3) := by decide +kernel
theorem dX10_cut_27 : decode cX10_cut 27 = .ok (.iload_n 2, 1) := by decide +kernel
theorem dX10_cut_28 : decode cX10_cut 28 = .ok (.aload_n 0, 1) := by decide +kernel
theorem dX10_cut_29 : decode cX10_cut 29 = .ok (.getfield 16, 3) := by decide +kernel
theorem dX10_cut_32 : decode cX10_cut 32 = .ok (.iload_n 1, 1) := by decide +kernel
theorem dX10_cut_33 : decode cX10_cut 33 = .ok (.iaload, 1) := by decide +kernel
theorem dX10_cut_34 : decode cX10_cut 34 = .ok (.if_icmp .le 5, 3) := by decide +kernel
theorem dX10_cut_37 : decode cX10_cut 37 = .ok (.iconst 0, 1) := by decide +kernel
theorem dX10_cut_38 : decode cX10_cut 38 = .ok (.ireturn, 1) := by decide +kernel
theorem dX10_cut_39 : decode cX10_cut 39 = .ok (.aload_n 0, 1) := by decide +kernel
theorem dX10_cut_40 : decode cX10_cut 40 = .ok (.getfield 16, 3) := by decide +kernel
theorem dX10_cut_43 : decode cX10_cut 43 = .ok (.iload_n 1, 1) := by decide +kernel
theorem dX10_cut_44 : decode cX10_cut 44 = .ok (.iload_n 2, 1) := by decide +kernel
theorem dX10_cut_45 : decode cX10_cut 45 = .ok (.iastore, 1) := by decide +kernel
theorem dX10_cut_46 : decode cX10_cut 46 = .ok (.iconst 1, 1) := by decide +kernel
theorem dX10_cut_47 : decode cX10_cut 47 = .ok (.ireturn, 1) := by decide +kernel
theorem dX10_length_0 : decode cX10_length 0 = .ok (.aload_n 0, 1) := by decide +kernel
theorem dX10_length_1 : decode cX10_length 1 = .ok (.iload_n 1, 1) := by decide +kernel
theorem dX10_length_2 : decode cX10_length 2 = .ok (.invokestatic 81, 3) := by decide +kernel
theorem dX10_length_5 : decode cX10_length 5 = .ok (.ifCond .eq 7, 3) := by decide +kernel
theorem dX10_length_8 : decode cX10_length 8 = .ok (.iconst 0, 1) := by decide +kernel
theorem dX10_length_9 : decode cX10_length 9 = .ok (.goto 4, 3) := by decide +kernel
theorem dX10_length_12 : decode cX10_length 12 = .ok (.iconst 1, 1) := by decide +kernel
theorem dX10_length_13 : decode cX10_length 13 = .ok (.putfield 63, 3) := by decide +kernel
theorem dX10_length_16 : decode cX10_length 16 = .ok (.aload_n 0, 1) := by decide +kernel
theorem dX10_length_17 : decode cX10_length 17 = .ok (.getfield 63, 3) := by decide +kernel
theorem dX10_length_20 : decode cX10_length 20 = .ok (.ifCond .le 7, 3) := by decide +kernel
theorem dX10_length_23 : decode cX10_length 23 = .ok (.iconst 0, 1) := by decide +kernel
theorem dX10_length_24 : decode cX10_length 24 = .ok (.goto 9, 3) := by decide +kernel
theorem dX10_length_27 : decode cX10_length 27 = .ok (.aload_n 0, 1) := by decide +kernel
theorem dX10_length_28 : decode cX10_length 28 = .ok (.getfield 16, 3) := by decide +kernel
theorem dX10_length_31 : decode cX10_length 31 = .ok (.iload_n 1, 1) := by decide +kernel
theorem dX10_length_32 : decode cX10_length 32 = .ok (.iaload, 1) := by decide +kernel
theorem dX10_length_33 : decode cX10_length 33 = .ok (.ireturn, 1) := by decide +kernel
theorem dX10_at_0 : decode cX10_at 0 = .ok (.aload_n 0, 1) := by decide +kernel
theorem dX10_at_1 : decode cX10_at 1 = .ok (.iload_n 1, 1) := by decide +kernel
theorem dX10_at_2 : decode cX10_at 2 = .ok (.invokestatic 81, 3) := by decide +kernel
theorem dX10_at_5 : decode cX10_at 5 = .ok (.ifCond .eq 7, 3) := by decide +kernel
theorem dX10_at_8 : decode cX10_at 8 = .ok (.iconst 0, 1) := by decide +kernel
theorem dX10_at_9 : decode cX10_at 9 = .ok (.goto 4, 3) := by decide +kernel
theorem dX10_at_12 : decode cX10_at 12 = .ok (.iconst 1, 1) := by decide +kernel
theorem dX10_at_13 : decode cX10_at 13 = .ok (.putfield 63, 3) := by decide +kernel
theorem dX10_at_16 : decode cX10_at 16 = .ok (.aload_n 0, 1) := by decide +kernel
theorem dX10_at_17 : decode cX10_at 17 = .ok (.getfield 63, 3) := by decide +kernel
theorem dX10_at_20 : decode cX10_at 20 = .ok (.ifCond .gt 17, 3) := by decide +kernel
theorem dX10_at_23 : decode cX10_at 23 = .ok (.iload_n 2, 1) := by decide +kernel
theorem dX10_at_24 : decode cX10_at 24 = .ok (.ifCond .lt 13, 3) := by decide +kernel
theorem dX10_at_27 : decode cX10_at 27 = .ok (.iload_n 2, 1) := by decide +kernel
theorem dX10_at_28 : decode cX10_at 28 = .ok (.aload_n 0, 1) := by decide +kernel
theorem dX10_at_29 : decode cX10_at 29 = .ok (.getfield 16, 3) := by decide +kernel
theorem dX10_at_32 : decode cX10_at 32 = .ok (.iload_n 1, 1) := by decide +kernel
theorem dX10_at_33 : decode cX10_at 33 = .ok (.iaload, 1) := by decide +kernel
theorem dX10_at_34 : decode cX10_at 34 = .ok (.if_icmp .lt 7, 3) := by decide +kernel
theorem dX10_at_37 : decode cX10_at 37 = .ok (.iconst 0, 1) := by decide +kernel
theorem dX10_at_38 : decode cX10_at 38 = .ok (.goto 14, 3) := by decide +kernel
theorem dX10_at_41 : decode cX10_at 41 = .ok (.aload_n 0, 1) := by decide +kernel
theorem dX10_at_42 : decode cX10_at 42 = .ok (.getfield 13, 3) := by decide +kernel
theorem dX10_at_45 : decode cX10_at 45 = .ok (.bipush 16, 2) := by decide +kernel
theorem dX10_at_47 : decode cX10_at 47 = .ok (.iload_n 1, 1) := by decide +kernel
theorem dX10_at_48 : decode cX10_at 48 = .ok (.imul, 1) := by decide +kernel
theorem dX10_at_49 : decode cX10_at 49 = .ok (.iload_n 2, 1) := by decide +kernel
theorem dX10_at_50 : decode cX10_at 50 = .ok (.iadd, 1) := by decide +kernel
theorem dX10_at_51 : decode cX10_at 51 = .ok (.iaload, 1) := by decide +kernel
theorem dX10_at_52 : decode cX10_at 52 = .ok (.ireturn, 1) := by decide +kernel
theorem dX10_box_0 : decode cX10_box 0 = .ok (.sipush 576, 3) := by decide +kernel
theorem dX10_box_3 : decode cX10_box 3 = .ok (.iload_n 0, 1) := by decide +kernel
theorem dX10_box_4 : decode cX10_box 4 = .ok (.imul, 1) := by decide +kernel
theorem dX10_box_5 : decode cX10_box 5 = .ok (.bipush 24, 2) := by decide +kernel
theorem dX10_box_7 : decode cX10_box 7 = .ok (.iload_n 1, 1) := by decide +kernel
theorem dX10_box_8 : decode cX10_box 8 = .ok (.imul, 1) := by decide +kernel
theorem dX10_box_9 : decode cX10_box 9 = .ok (.iadd, 1) := by decide +kernel
theorem dX10_box_10 : decode cX10_box 10 = .ok (.iload_n 2, 1) := by decide +kernel
theorem dX10_box_11 : decode cX10_box 11 = .ok (.iadd, 1) := by decide +kernel
theorem dX10_box_12 : decode cX10_box 12 = .ok (.ireturn, 1) := by decide +kernel
theorem dX10_clear_0 : decode cX10_clear 0 = .ok (.iconst 0, 1) := by decide +kernel
theorem dX10_clear_1 : decode cX10_clear 1 = .ok (.istore_n 2, 1) := by decide +kernel
theorem dX10_clear_2 : decode cX10_clear 2 = .ok (.iload_n 2, 1) := by decide +kernel
theorem dX10_clear_3 : decode cX10_clear 3 = .ok (.bipush 24, 2) := by decide +kernel
theorem dX10_clear_5 : decode cX10_clear 5 = .ok (.if_icmp .ge 21, 3) := by decide +kernel
theorem dX10_clear_8 : decode cX10_clear 8 = .ok (.aload_n 0, 1) := by decide +kernel
theorem dX10_clear_9 : decode cX10_clear 9 = .ok (.getfield 22, 3) := by decide +kernel
theorem dX10_clear_12 : decode cX10_clear 12 = .ok (.bipush 24, 2) := by decide +kernel
theorem dX10_clear_14 : decode cX10_clear 14 = .ok (.iload_n 1, 1) := by decide +kernel
theorem dX10_clear_15 : decode cX10_clear 15 = .ok (.imul, 1) := by decide +kernel
theorem dX10_clear_16 : decode cX10_clear 16 = .ok (.iload_n 2, 1) := by decide +kernel
theorem dX10_clear_17 : decode cX10_clear 17 = .ok (.iadd, 1) := by decide +kernel
theorem dX10_clear_18 : decode cX10_clear 18 = .ok (.iconst 0, 1) := by decide +kernel
theorem dX10_clear_19 : decode cX10_clear 19 = .ok (.iastore, 1) := by decide +kernel
theorem dX10_clear_20 : decode cX10_clear 20 = .ok (.iinc 2 1, 3) := by decide +kernel
theorem dX10_clear_23 : decode cX10_clear 23 = .ok (.goto (-21), 3) := by decide +kernel
theorem dX10_clear_26 : decode cX10_clear 26 = .ok (.return_, 1) := by decide +kernel
theorem dX10_height_0 : decode cX10_height 0 = .ok (.iconst 0, 1) := by decide +kernel
theorem dX10_height_1 : decode cX10_height 1 = .ok (.istore_n 2, 1) := by decide +kernel
theorem dX10_height_2 : decode cX10_height 2 = .ok (.iload_n 2, 1) := by decide +kernel
theorem dX10_height_3 : decode cX10_height 3 = .ok (.bipush 24, 2) := by decide +kernel
theorem dX10_height_5 : decode cX10_height 5 = .ok (.if_icmp .ge 23, 3) := by decide +kernel
theorem dX10_height_8 : decode cX10_height 8 = .ok (.aload_n 0, 1) := by decide +kernel
theorem dX10_height_9 : decode cX10_height 9 = .ok (.getfield 22, 3) := by decide +kernel
theorem dX10_height_12 : decode cX10_height 12 = .ok (.bipush 24, 2) := by decide +kernel
theorem dX10_height_14 : decode cX10_height 14 = .ok (.iload_n 1, 1) := by decide +kernel
theorem dX10_height_15 : decode cX10_height 15 = .ok (.imul, 1) := by decide +kernel
theorem dX10_height_16 : decode cX10_height 16 = .ok (.iload_n 2, 1) := by decide +kernel
theorem dX10_height_17 : decode cX10_height 17 = .ok (.iadd, 1) := by decide +kernel
theorem dX10_height_18 : decode cX10_height 18 = .ok (.iaload, 1) := by decide +kernel
theorem dX10_height_19 : decode cX10_height 19 = .ok (.ifCond .le 9, 3) := by decide +kernel
theorem dX10_height_22 : decode cX10_height 22 = .ok (.iinc 2 1, 3) := by decide +kernel
theorem dX10_height_25 : decode cX10_height 25 = .ok (.goto (-23), 3) := by decide +kernel
theorem dX10_height_28 : decode cX10_height 28 = .ok (.iload_n 2, 1) := by decide +kernel
theorem dX10_height_29 : decode cX10_height 29 = .ok (.ireturn, 1) := by decide +kernel
theorem dX10_insertByRows_0 : decode cX10_insertByRows 0 = .ok (.iload_n 2, 1) := by decide +kernel
theorem dX10_insertByRows_1 : decode cX10_insertByRows 1 = .ok (.istore_n 3, 1) := by decide +kernel
theorem dX10_insertByRows_2 : decode cX10_insertByRows 2 = .ok (.iconst 0, 1) := by decide +kernel
theorem dX10_insertByRows_3 : decode cX10_insertByRows 3 = .ok (.istore 4, 2) := by decide +kernel
theorem dX10_insertByRows_5 : decode cX10_insertByRows 5 = .ok (.aload_n 0, 1) := by decide +kernel
theorem dX10_insertByRows_6 : decode cX10_insertByRows 6 = .ok (.getfield 22, 3) := by decide +kernel
theorem dX10_insertByRows_9 : decode cX10_insertByRows 9 = .ok (.bipush 24, 2) := by decide +kernel
theorem dX10_insertByRows_11 : decode cX10_insertByRows 11 = .ok (.iload_n 1, 1) := by decide +kernel
theorem dX10_insertByRows_12 : decode cX10_insertByRows 12 = .ok (.imul, 1) := by decide +kernel
theorem dX10_insertByRows_13 : decode cX10_insertByRows 13 = .ok (.iload 4, 2) := by decide +kernel
theorem dX10_insertByRows_15 : decode cX10_insertByRows 15 = .ok (.iadd, 1) := by decide +kernel
theorem dX10_insertByRows_16 : decode cX10_insertByRows 16 = .ok (.iaload, 1) := by decide +kernel
theorem dX10_insertByRows_17 : decode cX10_insertByRows 17 = .ok (.istore 5, 2) := by decide +kernel
theorem dX10_insertByRows_19 : decode cX10_insertByRows 19 = .ok (.iconst 0, 1) := by decide +kernel
theorem dX10_insertByRows_20 : decode cX10_insertByRows 20 = .ok (.istore 6, 2) := by decide +kernel
theorem dX10_insertByRows_22 : decode cX10_insertByRows 22 = .ok (.iload 6, 2) := by decide +kernel
theorem dX10_insertByRows_24 : decode cX10_insertByRows 24 = .ok (.iload 5, 2) := by decide +kernel
theorem dX10_insertByRows_26 : decode cX10_insertByRows 26 = .ok (.if_icmp .ge 26, 3) := by decide +kernel
theorem dX10_insertByRows_29 : decode cX10_insertByRows 29 = .ok (.aload_n 0, 1) := by decide +kernel
theorem dX10_insertByRows_30 : decode cX10_insertByRows 30 = .ok (.getfield 19, 3) := by decide +kernel
theorem dX10_insertByRows_33 : decode cX10_insertByRows 33 = .ok (.iload_n 1, 1) := by decide +kernel
theorem dX10_insertByRows_34 : decode cX10_insertByRows 34 = .ok (.iload 4, 2) := by decide +kernel
theorem dX10_insertByRows_36 : decode cX10_insertByRows 36 = .ok (.iload 6, 2) := by decide +kernel
theorem dX10_insertByRows_38 : decode cX10_insertByRows 38 = .ok (.invokestatic 84, 3) := by decide +kernel
theorem dX10_insertByRows_41 : decode cX10_insertByRows 41 = .ok (.iaload, 1) := by decide +kernel
theorem dX10_insertByRows_42 : decode cX10_insertByRows 42 = .ok (.iload_n 3, 1) := by decide +kernel
theorem dX10_insertByRows_43 : decode cX10_insertByRows 43 = .ok (.if_icmp .gt 9, 3) := by decide +kernel
theorem dX10_insertByRows_46 : decode cX10_insertByRows 46 = .ok (.iinc 6 1, 3) := by decide +kernel
theorem dX10_insertByRows_49 : decode cX10_insertByRows 49 = .ok (.goto (-27), 3) := by decide +kernel
theorem dX10_insertByRows_52 : decode cX10_insertByRows 52 = .ok (.aload_n 0, 1) := by decide +kernel
theorem dX10_insertByRows_53 : decode cX10_insertByRows 53 = .ok (.getfield 19, 3) := by decide +kernel
theorem dX10_insertByRows_56 : decode cX10_insertByRows 56 = .ok (.iload_n 1, 1) := by decide +kernel
theorem dX10_insertByRows_57 : decode cX10_insertByRows 57 = .ok (.iload 4, 2) := by decide +kernel
theorem dX10_insertByRows_59 : decode cX10_insertByRows 59 = .ok (.iload 6, 2) := by decide +kernel
theorem dX10_insertByRows_61 : decode cX10_insertByRows 61 = .ok (.invokestatic 84, 3) := by decide +kernel
theorem dX10_insertByRows_64 : decode cX10_insertByRows 64 = .ok (.iaload, 1) := by decide +kernel
theorem dX10_insertByRows_65 : decode cX10_insertByRows 65 = .ok (.istore 7, 2) := by decide +kernel
theorem dX10_insertByRows_67 : decode cX10_insertByRows 67 = .ok (.aload_n 0, 1) := by decide +kernel
theorem dX10_insertByRows_68 : decode cX10_insertByRows 68 = .ok (.getfield 19, 3) := by decide +kernel
theorem dX10_insertByRows_71 : decode cX10_insertByRows 71 = .ok (.iload_n 1, 1) := by decide +kernel
theorem dX10_insertByRows_72 : decode cX10_insertByRows 72 = .ok (.iload 4, 2) := by decide +kernel
theorem dX10_insertByRows_74 : decode cX10_insertByRows 74 = .ok (.iload 6, 2) := by decide +kernel
theorem dX10_insertByRows_76 : decode cX10_insertByRows 76 = .ok (.invokestatic 84, 3) := by decide +kernel
theorem dX10_insertByRows_79 : decode cX10_insertByRows 79 = .ok (.iload_n 3, 1) := by decide +kernel
theorem dX10_insertByRows_80 : decode cX10_insertByRows 80 = .ok (.iastore, 1) := by decide +kernel
theorem dX10_insertByRows_81 : decode cX10_insertByRows 81 = .ok (.iload 6, 2) := by decide +kernel
theorem dX10_insertByRows_83 : decode cX10_insertByRows 83 = .ok (.iload 5, 2) := by decide +kernel
theorem dX10_insertByRows_85 : decode cX10_insertByRows 85 = .ok (.if_icmp .ne 22, 3) := by decide +kernel
theorem dX10_insertByRows_88 : decode cX10_insertByRows 88 = .ok (.aload_n 0, 1) := by decide +kernel
theorem dX10_insertByRows_89 : decode cX10_insertByRows 89 = .ok (.getfield 22, 3) := by decide +kernel
theorem dX10_insertByRows_92 : decode cX10_insertByRows 92 = .ok (.bipush 24, 2) := by decide +kernel
theorem dX10_insertByRows_94 : decode cX10_insertByRows 94 = .ok (.iload_n 1, 1) := by decide +kernel
theorem dX10_insertByRows_95 : decode cX10_insertByRows 95 = .ok (.imul, 1) := by decide +kernel
theorem dX10_insertByRows_96 : decode cX10_insertByRows 96 = .ok (.iload 4, 2) := by decide +kernel
theorem dX10_insertByRows_98 : decode cX10_insertByRows 98 = .ok (.iadd, 1) := by decide +kernel
theorem dX10_insertByRows_99 : decode cX10_insertByRows 99 = .ok (.dup2, 1) := by decide +kernel
theorem dX10_insertByRows_100 : decode cX10_insertByRows 100 = .ok (.iaload, 1) := by decide +kernel
theorem dX10_insertByRows_101 : decode cX10_insertByRows 101 = .ok (.iconst 1, 1) := by decide +kernel
theorem dX10_insertByRows_102 : decode cX10_insertByRows 102 = .ok (.iadd, 1) := by decide +kernel
theorem dX10_insertByRows_103 : decode cX10_insertByRows 103 = .ok (.iastore, 1) := by decide +kernel
theorem dX10_insertByRows_104 : decode cX10_insertByRows 104 = .ok (.iload 4, 2) := by decide +kernel
theorem dX10_insertByRows_106 : decode cX10_insertByRows 106 = .ok (.ireturn, 1) := by decide +kernel
theorem dX10_insertByRows_107 : decode cX10_insertByRows 107 = .ok (.iload 7, 2) := by decide +kernel
theorem dX10_insertByRows_109 : decode cX10_insertByRows 109 = .ok (.istore_n 3, 1) := by decide +kernel
theorem dX10_insertByRows_110 : decode cX10_insertByRows 110 = .ok (.iinc 4 1, 3) := by decide +kernel
theorem dX10_insertByRows_113 : decode cX10_insertByRows 113 = .ok (.goto (-108), 3) := by decide +kernel
theorem dX10_insertByColumns_0 : decode cX10_insertByColumns 0 = .ok (.iload_n 2, 1) := by decide +kernel
theorem dX10_insertByColumns_1 : decode cX10_insertByColumns 1 = .ok (.istore_n 3, 1) := by decide +kernel
theorem dX10_insertByColumns_2 : decode cX10_insertByColumns 2 = .ok (.iconst 0, 1) := by decide +kernel
theorem dX10_insertByColumns_3 : decode cX10_insertByColumns 3 = .ok (.istore 4, 2) := by decide +kernel
theorem dX10_insertByColumns_5 : decode cX10_insertByColumns 5 = .ok (.iconst 0, 1) := by decide +kernel
theorem dX10_insertByColumns_6 : decode cX10_insertByColumns 6 = .ok (.istore 5, 2) := by decide +kernel
theorem dX10_insertByColumns_8 : decode cX10_insertByColumns 8 = .ok (.iload 5, 2) := by decide +kernel
theorem dX10_insertByColumns_10 : decode cX10_insertByColumns 10 = .ok (.bipush 24, 2) := by decide +kernel
theorem dX10_insertByColumns_12 : decode cX10_insertByColumns 12 = .ok (.if_icmp .ge 43, 3) := by decide +kernel
theorem dX10_insertByColumns_15 : decode cX10_insertByColumns 15 = .ok (.aload_n 0, 1) := by decide +kernel
theorem dX10_insertByColumns_16 : decode cX10_insertByColumns 16 = .ok (.getfield 22, 3) := by decide +kernel
theorem dX10_insertByColumns_19 : decode cX10_insertByColumns 19 = .ok (.bipush 24, 2) := by decide +kernel
theorem dX10_insertByColumns_21 : decode cX10_insertByColumns 21 = .ok (.iload_n 1, 1) := by decide +kernel
theorem dX10_insertByColumns_22 : decode cX10_insertByColumns 22 = .ok (.imul, 1) := by decide +kernel
theorem dX10_insertByColumns_23 : decode cX10_insertByColumns 23 = .ok (.iload 5, 2) := by decide +kernel
theorem dX10_insertByColumns_25 : decode cX10_insertByColumns 25 = .ok (.iadd, 1) := by decide +kernel
theorem dX10_insertByColumns_26 : decode cX10_insertByColumns 26 = .ok (.iaload, 1) := by decide +kernel
theorem dX10_insertByColumns_27 : decode cX10_insertByColumns 27 = .ok (.iload 4, 2) := by decide +kernel
theorem dX10_insertByColumns_29 : decode cX10_insertByColumns 29 = .ok (.if_icmp .le 26, 3) := by decide +kernel
theorem dX10_insertByColumns_32 : decode cX10_insertByColumns 32 = .ok (.aload_n 0, 1) := by decide +kernel
theorem dX10_insertByColumns_33 : decode cX10_insertByColumns 33 = .ok (.getfield 19, 3) := by decide +kernel
theorem dX10_insertByColumns_36 : decode cX10_insertByColumns 36 = .ok (.iload_n 1, 1) := by decide +kernel
theorem dX10_insertByColumns_37 : decode cX10_insertByColumns 37 = .ok (.iload 5, 2) := by decide +kernel
theorem dX10_insertByColumns_39 : decode cX10_insertByColumns 39 = .ok (.iload 4, 2) := by decide +kernel
theorem dX10_insertByColumns_41 : decode cX10_insertByColumns 41 = .ok (.invokestatic 84, 3) := by decide +kernel
theorem dX10_insertByColumns_44 : decode cX10_insertByColumns 44 = .ok (.iaload, 1) := by decide +kernel
theorem dX10_insertByColumns_45 : decode cX10_insertByColumns 45 = .ok (.iload_n 3, 1) := by decide +kernel
theorem dX10_insertByColumns_46 : decode cX10_insertByColumns 46 = .ok (.if_icmp .ge 9, 3) := by decide +kernel
theorem dX10_insertByColumns_49 : decode cX10_insertByColumns 49 = .ok (.iinc 5 1, 3) := by decide +kernel
theorem dX10_insertByColumns_52 : decode cX10_insertByColumns 52 = .ok (.goto (-44), 3) := by decide +kernel
theorem dX10_insertByColumns_55 : decode cX10_insertByColumns 55 = .ok (.aload_n 0, 1) := by decide +kernel
theorem dX10_insertByColumns_56 : decode cX10_insertByColumns 56 = .ok (.getfield 22, 3) := by decide +kernel
theorem dX10_insertByColumns_59 : decode cX10_insertByColumns 59 = .ok (.bipush 24, 2) := by decide +kernel
theorem dX10_insertByColumns_61 : decode cX10_insertByColumns 61 = .ok (.iload_n 1, 1) := by decide +kernel
theorem dX10_insertByColumns_62 : decode cX10_insertByColumns 62 = .ok (.imul, 1) := by decide +kernel
theorem dX10_insertByColumns_63 : decode cX10_insertByColumns 63 = .ok (.iload 5, 2) := by decide +kernel
theorem dX10_insertByColumns_65 : decode cX10_insertByColumns 65 = .ok (.iadd, 1) := by decide +kernel
theorem dX10_insertByColumns_66 : decode cX10_insertByColumns 66 = .ok (.iaload, 1) := by decide +kernel
theorem dX10_insertByColumns_67 : decode cX10_insertByColumns 67 = .ok (.iload 4, 2) := by decide +kernel
theorem dX10_insertByColumns_69 : decode cX10_insertByColumns 69 = .ok (.if_icmp .gt 7, 3) := by decide +kernel
theorem dX10_insertByColumns_72 : decode cX10_insertByColumns 72 = .ok (.iconst 1, 1) := by decide +kernel
theorem dX10_insertByColumns_73 : decode cX10_insertByColumns 73 = .ok (.goto 4, 3) := by decide +kernel
theorem dX10_insertByColumns_76 : decode cX10_insertByColumns 76 = .ok (.iconst 0, 1) := by decide +kernel
theorem dX10_insertByColumns_77 : decode cX10_insertByColumns 77 = .ok (.istore 6, 2) := by decide +kernel
theorem dX10_insertByColumns_79 : decode cX10_insertByColumns 79 = .ok (.aload_n 0, 1) := by decide +kernel
theorem dX10_insertByColumns_80 : decode cX10_insertByColumns 80 = .ok (.getfield 19, 3) := by decide +kernel
theorem dX10_insertByColumns_83 : decode cX10_insertByColumns 83 = .ok (.iload_n 1, 1) := by decide +kernel
theorem dX10_insertByColumns_84 : decode cX10_insertByColumns 84 = .ok (.iload 5, 2) := by decide +kernel
theorem dX10_insertByColumns_86 : decode cX10_insertByColumns 86 = .ok (.iload 4, 2) := by decide +kernel
theorem dX10_insertByColumns_88 : decode cX10_insertByColumns 88 = .ok (.invokestatic 84, 3) := by decide +kernel
theorem dX10_insertByColumns_91 : decode cX10_insertByColumns 91 = .ok (.iaload, 1) := by decide +kernel
theorem dX10_insertByColumns_92 : decode cX10_insertByColumns 92 = .ok (.istore 7, 2) := by decide +kernel
theorem dX10_insertByColumns_94 : decode cX10_insertByColumns 94 = .ok (.aload_n 0, 1) := by decide +kernel
theorem dX10_insertByColumns_95 : decode cX10_insertByColumns 95 = .ok (.getfield 19, 3) := by decide +kernel
theorem dX10_insertByColumns_98 : decode cX10_insertByColumns 98 = .ok (.iload_n 1, 1) := by decide +kernel
theorem dX10_insertByColumns_99 : decode cX10_insertByColumns 99 = .ok (.iload 5, 2) := by decide +kernel
theorem dX10_insertByColumns_101 : decode cX10_insertByColumns 101 = .ok (.iload 4, 2) := by decide +kernel
theorem dX10_insertByColumns_103 : decode cX10_insertByColumns 103 = .ok (.invokestatic 84, 3) := by decide +kernel
theorem dX10_insertByColumns_106 : decode cX10_insertByColumns 106 = .ok (.iload_n 3, 1) := by decide +kernel
theorem dX10_insertByColumns_107 : decode cX10_insertByColumns 107 = .ok (.iastore, 1) := by decide +kernel
theorem dX10_insertByColumns_108 : decode cX10_insertByColumns 108 = .ok (.iload 6, 2) := by decide +kernel
theorem dX10_insertByColumns_110 : decode cX10_insertByColumns 110 = .ok (.ifCond .eq 22, 3) := by decide +kernel
theorem dX10_insertByColumns_113 : decode cX10_insertByColumns 113 = .ok (.aload_n 0, 1) := by decide +kernel
theorem dX10_insertByColumns_114 : decode cX10_insertByColumns 114 = .ok (.getfield 22, 3) := by decide +kernel
theorem dX10_insertByColumns_117 : decode cX10_insertByColumns 117 = .ok (.bipush 24, 2) := by decide +kernel
theorem dX10_insertByColumns_119 : decode cX10_insertByColumns 119 = .ok (.iload_n 1, 1) := by decide +kernel
theorem dX10_insertByColumns_120 : decode cX10_insertByColumns 120 = .ok (.imul, 1) := by decide +kernel
theorem dX10_insertByColumns_121 : decode cX10_insertByColumns 121 = .ok (.iload 5, 2) := by decide +kernel
theorem dX10_insertByColumns_123 : decode cX10_insertByColumns 123 = .ok (.iadd, 1) := by decide +kernel
theorem dX10_insertByColumns_124 : decode cX10_insertByColumns 124 = .ok (.dup2, 1) := by decide +kernel
theorem dX10_insertByColumns_125 : decode cX10_insertByColumns 125 = .ok (.iaload, 1) := by decide +kernel
theorem dX10_insertByColumns_126 : decode cX10_insertByColumns 126 = .ok (.iconst 1, 1) := by decide +kernel
theorem dX10_insertByColumns_127 : decode cX10_insertByColumns 127 = .ok (.iadd, 1) := by decide +kernel
theorem dX10_insertByColumns_128 : decode cX10_insertByColumns 128 = .ok (.iastore, 1) := by decide +kernel
theorem dX10_insertByColumns_129 : decode cX10_insertByColumns 129 = .ok (.iload 5, 2) := by decide +kernel
theorem dX10_insertByColumns_131 : decode cX10_insertByColumns 131 = .ok (.ireturn, 1) := by decide +kernel
theorem dX10_insertByColumns_132 : decode cX10_insertByColumns 132 = .ok (.iload 7, 2) := by decide +kernel
theorem dX10_insertByColumns_134 : decode cX10_insertByColumns 134 = .ok (.istore_n 3, 1) := by decide +kernel
theorem dX10_insertByColumns_135 : decode cX10_insertByColumns 135 = .ok (.iinc 4 1, 3) := by decide +kernel
theorem dX10_insertByColumns_138 : decode cX10_insertByColumns 138 = .ok (.goto (-133), 3) := by decide +kernel
theorem dX10_insertRow_0 : decode cX10_insertRow 0 = .ok (.aload_n 0, 1) := by decide +kernel
theorem dX10_insertRow_1 : decode cX10_insertRow 1 = .ok (.iload_n 1, 1) := by decide +kernel
theorem dX10_insertRow_2 : decode cX10_insertRow 2 = .ok (.invokevirtual 88, 3) := by decide +kernel
theorem dX10_insertRow_5 : decode cX10_insertRow 5 = .ok (.iconst 0, 1) := by decide +kernel
theorem dX10_insertRow_6 : decode cX10_insertRow 6 = .ok (.istore_n 3, 1) := by decide +kernel
theorem dX10_insertRow_7 : decode cX10_insertRow 7 = .ok (.iload_n 3, 1) := by decide +kernel
theorem dX10_insertRow_8 : decode cX10_insertRow 8 = .ok (.iload_n 2, 1) := by decide +kernel
theorem dX10_insertRow_9 : decode cX10_insertRow 9 = .ok (.if_icmp .ge 21, 3) := by decide +kernel
theorem dX10_insertRow_12 : decode cX10_insertRow 12 = .ok (.aload_n 0, 1) := by decide +kernel
theorem dX10_insertRow_13 : decode cX10_insertRow 13 = .ok (.iload_n 1, 1) := by decide +kernel
theorem dX10_insertRow_14 : decode cX10_insertRow 14 = .ok (.aload_n 0, 1) := by decide +kernel
theorem dX10_insertRow_15 : decode cX10_insertRow 15 = .ok (.getfield 29, 3) := by decide +kernel
theorem dX10_insertRow_18 : decode cX10_insertRow 18 = .ok (.iload_n 3, 1) := by decide +kernel
theorem dX10_insertRow_19 : decode cX10_insertRow 19 = .ok (.iaload, 1) := by decide +kernel
theorem dX10_insertRow_20 : decode cX10_insertRow 20 = .ok (.invokevirtual 92, 3) := by decide +kernel
theorem dX10_insertRow_23 : decode cX10_insertRow 23 = .ok (.pop, 1) := by decide +kernel
theorem dX10_insertRow_24 : decode cX10_insertRow 24 = .ok (.iinc 3 1, 3) := by decide +kernel
theorem dX10_insertRow_27 : decode cX10_insertRow 27 = .ok (.goto (-20), 3) := by decide +kernel
theorem dX10_insertRow_30 : decode cX10_insertRow 30 = .ok (.return_, 1) := by decide +kernel
theorem dX10_take_0 : decode cX10_take 0 = .ok (.iconst 0, 1) := by decide +kernel
theorem dX10_take_1 : decode cX10_take 1 = .ok (.istore_n 2, 1) := by decide +kernel
theorem dX10_take_2 : decode cX10_take 2 = .ok (.iload_n 2, 1) := by decide +kernel
theorem dX10_take_3 : decode cX10_take 3 = .ok (.aload_n 0, 1) := by decide +kernel
theorem dX10_take_4 : decode cX10_take 4 = .ok (.getfield 16, 3) := by decide +kernel
theorem dX10_take_7 : decode cX10_take 7 = .ok (.iload_n 1, 1) := by decide +kernel
theorem dX10_take_8 : decode cX10_take 8 = .ok (.iaload, 1) := by decide +kernel
theorem dX10_take_9 : decode cX10_take 9 = .ok (.if_icmp .ge 26, 3) := by decide +kernel
theorem dX10_take_12 : decode cX10_take 12 = .ok (.aload_n 0, 1) := by decide +kernel
theorem dX10_take_13 : decode cX10_take 13 = .ok (.getfield 29, 3) := by decide +kernel
theorem dX10_take_16 : decode cX10_take 16 = .ok (.iload_n 2, 1) := by decide +kernel
theorem dX10_take_17 : decode cX10_take 17 = .ok (.aload_n 0, 1) := by decide +kernel
theorem dX10_take_18 : decode cX10_take 18 = .ok (.getfield 13, 3) := by decide +kernel
theorem dX10_take_21 : decode cX10_take 21 = .ok (.bipush 16, 2) := by decide +kernel
theorem dX10_take_23 : decode cX10_take 23 = .ok (.iload_n 1, 1) := by decide +kernel
theorem dX10_take_24 : decode cX10_take 24 = .ok (.imul, 1) := by decide +kernel
theorem dX10_take_25 : decode cX10_take 25 = .ok (.iload_n 2, 1) := by decide +kernel
theorem dX10_take_26 : decode cX10_take 26 = .ok (.iadd, 1) := by decide +kernel
theorem dX10_take_27 : decode cX10_take 27 = .ok (.iaload, 1) := by decide +kernel
theorem dX10_take_28 : decode cX10_take 28 = .ok (.iastore, 1) := by decide +kernel
theorem dX10_take_29 : decode cX10_take 29 = .ok (.iinc 2 1, 3) := by decide +kernel
theorem dX10_take_32 : decode cX10_take 32 = .ok (.goto (-30), 3) := by decide +kernel
theorem dX10_take_35 : decode cX10_take 35 = .ok (.return_, 1) := by decide +kernel
theorem dX10_insert_0 : decode cX10_insert 0 = .ok (.aload_n 0, 1) := by decide +kernel
theorem dX10_insert_1 : decode cX10_insert 1 = .ok (.iload_n 1, 1) := by decide +kernel
theorem dX10_insert_2 : decode cX10_insert 2 = .ok (.invokestatic 81, 3) := by decide +kernel
theorem dX10_insert_5 : decode cX10_insert 5 = .ok (.ifCond .eq 7, 3) := by decide +kernel
theorem dX10_insert_8 : decode cX10_insert 8 = .ok (.iconst 0, 1) := by decide +kernel
theorem dX10_insert_9 : decode cX10_insert 9 = .ok (.goto 4, 3) := by decide +kernel
theorem dX10_insert_12 : decode cX10_insert 12 = .ok (.iconst 1, 1) := by decide +kernel
theorem dX10_insert_13 : decode cX10_insert 13 = .ok (.putfield 63, 3) := by decide +kernel
theorem dX10_insert_16 : decode cX10_insert 16 = .ok (.aload_n 0, 1) := by decide +kernel
theorem dX10_insert_17 : decode cX10_insert 17 = .ok (.getfield 63, 3) := by decide +kernel
theorem dX10_insert_20 : decode cX10_insert 20 = .ok (.ifCond .le 5, 3) := by decide +kernel
theorem dX10_insert_23 : decode cX10_insert 23 = .ok (.iconst 0, 1) := by decide +kernel
theorem dX10_insert_24 : decode cX10_insert 24 = .ok (.ireturn, 1) := by decide +kernel
theorem dX10_insert_25 : decode cX10_insert 25 = .ok (.aload_n 0, 1) := by decide +kernel
theorem dX10_insert_26 : decode cX10_insert 26 = .ok (.iconst 0, 1) := by decide +kernel
theorem dX10_insert_27 : decode cX10_insert 27 = .ok (.invokevirtual 88, 3) := by decide +kernel
theorem dX10_insert_30 : decode cX10_insert 30 = .ok (.aload_n 0, 1) := by decide +kernel
theorem dX10_insert_31 : decode cX10_insert 31 = .ok (.iconst 2, 1) := by decide +kernel
theorem dX10_insert_32 : decode cX10_insert 32 = .ok (.invokevirtual 88, 3) := by decide +kernel
theorem dX10_insert_35 : decode cX10_insert 35 = .ok (.iconst 0, 1) := by decide +kernel
theorem dX10_insert_36 : decode cX10_insert 36 = .ok (.istore_n 3, 1) := by decide +kernel
theorem dX10_insert_37 : decode cX10_insert 37 = .ok (.iload_n 3, 1) := by decide +kernel
theorem dX10_insert_38 : decode cX10_insert 38 = .ok (.aload_n 0, 1) := by decide +kernel
theorem dX10_insert_39 : decode cX10_insert 39 = .ok (.getfield 16, 3) := by decide +kernel
theorem dX10_insert_42 : decode cX10_insert 42 = .ok (.iload_n 1, 1) := by decide +kernel
theorem dX10_insert_43 : decode cX10_insert 43 = .ok (.iaload, 1) := by decide +kernel
theorem dX10_insert_44 : decode cX10_insert 44 = .ok (.if_icmp .ge 83, 3) := by decide +kernel
theorem dX10_insert_47 : decode cX10_insert 47 = .ok (.aload_n 0, 1) := by decide +kernel
theorem dX10_insert_48 : decode cX10_insert 48 = .ok (.getfield 13, 3) := by decide +kernel
theorem dX10_insert_51 : decode cX10_insert 51 = .ok (.bipush 16, 2) := by decide +kernel
theorem dX10_insert_53 : decode cX10_insert 53 = .ok (.iload_n 1, 1) := by decide +kernel
theorem dX10_insert_54 : decode cX10_insert 54 = .ok (.imul, 1) := by decide +kernel
theorem dX10_insert_55 : decode cX10_insert 55 = .ok (.iload_n 3, 1) := by decide +kernel
theorem dX10_insert_56 : decode cX10_insert 56 = .ok (.iadd, 1) := by decide +kernel
theorem dX10_insert_57 : decode cX10_insert 57 = .ok (.iaload, 1) := by decide +kernel
theorem dX10_insert_58 : decode cX10_insert 58 = .ok (.istore 4, 2) := by decide +kernel
theorem dX10_insert_60 : decode cX10_insert 60 = .ok (.iload_n 2, 1) := by decide +kernel
theorem dX10_insert_61 : decode cX10_insert 61 = .ok (.ifCond .eq 13, 3) := by decide +kernel
theorem dX10_insert_64 : decode cX10_insert 64 = .ok (.aload_n 0, 1) := by decide +kernel
theorem dX10_insert_65 : decode cX10_insert 65 = .ok (.iconst 0, 1) := by decide +kernel
theorem dX10_insert_66 : decode cX10_insert 66 = .ok (.iload 4, 2) := by decide +kernel
theorem dX10_insert_68 : decode cX10_insert 68 = .ok (.invokevirtual 95, 3) := by decide +kernel
theorem dX10_insert_71 : decode cX10_insert 71 = .ok (.goto 10, 3) := by decide +kernel
theorem dX10_insert_74 : decode cX10_insert 74 = .ok (.aload_n 0, 1) := by decide +kernel
theorem dX10_insert_75 : decode cX10_insert 75 = .ok (.iconst 0, 1) := by decide +kernel
theorem dX10_insert_76 : decode cX10_insert 76 = .ok (.iload 4, 2) := by decide +kernel
theorem dX10_insert_78 : decode cX10_insert 78 = .ok (.invokevirtual 92, 3) := by decide +kernel
theorem dX10_insert_81 : decode cX10_insert 81 = .ok (.istore 5, 2) := by decide +kernel
theorem dX10_insert_83 : decode cX10_insert 83 = .ok (.aload_n 0, 1) := by decide +kernel
theorem dX10_insert_84 : decode cX10_insert 84 = .ok (.getfield 19, 3) := by decide +kernel
theorem dX10_insert_87 : decode cX10_insert 87 = .ok (.iconst 2, 1) := by decide +kernel
theorem dX10_insert_88 : decode cX10_insert 88 = .ok (.iload 5, 2) := by decide +kernel
theorem dX10_insert_90 : decode cX10_insert 90 = .ok (.aload_n 0, 1) := by decide +kernel
theorem dX10_insert_91 : decode cX10_insert 91 = .ok (.getfield 22, 3) := by decide +kernel
theorem dX10_insert_94 : decode cX10_insert 94 = .ok (.bipush 48, 2) := by decide +kernel
theorem dX10_insert_96 : decode cX10_insert 96 = .ok (.iload 5, 2) := by decide +kernel
theorem dX10_insert_98 : decode cX10_insert 98 = .ok (.iadd, 1) := by decide +kernel
theorem dX10_insert_99 : decode cX10_insert 99 = .ok (.iaload, 1) := by decide +kernel
theorem dX10_insert_100 : decode cX10_insert 100 = .ok (.invokestatic 84, 3) := by decide +kernel
theorem dX10_insert_103 : decode cX10_insert 103 = .ok (.iload_n 3, 1) := by decide +kernel
theorem dX10_insert_104 : decode cX10_insert 104 = .ok (.iconst 1, 1) := by decide +kernel
theorem dX10_insert_105 : decode cX10_insert 105 = .ok (.iadd, 1) := by decide +kernel
theorem dX10_insert_106 : decode cX10_insert 106 = .ok (.iastore, 1) := by decide +kernel
theorem dX10_insert_107 : decode cX10_insert 107 = .ok (.aload_n 0, 1) := by decide +kernel
theorem dX10_insert_108 : decode cX10_insert 108 = .ok (.getfield 22, 3) := by decide +kernel
theorem dX10_insert_111 : decode cX10_insert 111 = .ok (.bipush 48, 2) := by decide +kernel
theorem dX10_insert_113 : decode cX10_insert 113 = .ok (.iload 5, 2) := by decide +kernel
theorem dX10_insert_115 : decode cX10_insert 115 = .ok (.iadd, 1) := by decide +kernel
theorem dX10_insert_116 : decode cX10_insert 116 = .ok (.dup2, 1) := by decide +kernel
theorem dX10_insert_117 : decode cX10_insert 117 = .ok (.iaload, 1) := by decide +kernel
theorem dX10_insert_118 : decode cX10_insert 118 = .ok (.iconst 1, 1) := by decide +kernel
theorem dX10_insert_119 : decode cX10_insert 119 = .ok (.iadd, 1) := by decide +kernel
theorem dX10_insert_120 : decode cX10_insert 120 = .ok (.iastore, 1) := by decide +kernel
theorem dX10_insert_121 : decode cX10_insert 121 = .ok (.iinc 3 1, 3) := by decide +kernel
theorem dX10_insert_124 : decode cX10_insert 124 = .ok (.goto (-87), 3) := by decide +kernel
theorem dX10_insert_127 : decode cX10_insert 127 = .ok (.aload_n 0, 1) := by decide +kernel
theorem dX10_insert_128 : decode cX10_insert 128 = .ok (.iconst 0, 1) := by decide +kernel
theorem dX10_insert_129 : decode cX10_insert 129 = .ok (.putfield 25, 3) := by decide +kernel
theorem dX10_insert_132 : decode cX10_insert 132 = .ok (.aload_n 0, 1) := by decide +kernel
theorem dX10_insert_133 : decode cX10_insert 133 = .ok (.iconst 0, 1) := by decide +kernel
theorem dX10_insert_134 : decode cX10_insert 134 = .ok (.invokevirtual 98, 3) := by decide +kernel
theorem dX10_insert_137 : decode cX10_insert 137 = .ok (.ireturn, 1) := by decide +kernel
theorem dX10_entry_0 : decode cX10_entry 0 = .ok (.aload_n 0, 1) := by decide +kernel
theorem dX10_entry_1 : decode cX10_entry 1 = .ok (.iconst 0, 1) := by decide +kernel
theorem dX10_entry_2 : decode cX10_entry 2 = .ok (.putfield 63, 3) := by decide +kernel
theorem dX10_entry_5 : decode cX10_entry 5 = .ok (.iload_n 1, 1) := by decide +kernel
theorem dX10_entry_6 : decode cX10_entry 6 = .ok (.ifCond .eq 7, 3) := by decide +kernel
theorem dX10_entry_9 : decode cX10_entry 9 = .ok (.iconst 2, 1) := by decide +kernel
theorem dX10_entry_10 : decode cX10_entry 10 = .ok (.goto 4, 3) := by decide +kernel
theorem dX10_entry_13 : decode cX10_entry 13 = .ok (.iconst 0, 1) := by decide +kernel
theorem dX10_entry_14 : decode cX10_entry 14 = .ok (.istore 4, 2) := by decide +kernel
theorem dX10_entry_16 : decode cX10_entry 16 = .ok (.iload_n 1, 1) := by decide +kernel
theorem dX10_entry_17 : decode cX10_entry 17 = .ok (.ifCond .eq 10, 3) := by decide +kernel
theorem dX10_entry_20 : decode cX10_entry 20 = .ok (.aload_n 0, 1) := by decide +kernel
theorem dX10_entry_21 : decode cX10_entry 21 = .ok (.getfield 25, 3) := by decide +kernel
theorem dX10_entry_24 : decode cX10_entry 24 = .ok (.ifCond .ne 33, 3) := by decide +kernel
theorem dX10_entry_27 : decode cX10_entry 27 = .ok (.iload_n 2, 1) := by decide +kernel
theorem dX10_entry_28 : decode cX10_entry 28 = .ok (.ifCond .lt 29, 3) := by decide +kernel
theorem dX10_entry_31 : decode cX10_entry 31 = .ok (.iload_n 2, 1) := by decide +kernel
theorem dX10_entry_32 : decode cX10_entry 32 = .ok (.bipush 23, 2) := by decide +kernel
theorem dX10_entry_34 : decode cX10_entry 34 = .ok (.if_icmp .gt 23, 3) := by decide +kernel
theorem dX10_entry_37 : decode cX10_entry 37 = .ok (.iload_n 3, 1) := by decide +kernel
theorem dX10_entry_38 : decode cX10_entry 38 = .ok (.ifCond .lt 19, 3) := by decide +kernel
theorem dX10_entry_41 : decode cX10_entry 41 = .ok (.iload_n 3, 1) := by decide +kernel
theorem dX10_entry_42 : decode cX10_entry 42 = .ok (.aload_n 0, 1) := by decide +kernel
theorem dX10_entry_43 : decode cX10_entry 43 = .ok (.getfield 22, 3) := by decide +kernel
theorem dX10_entry_46 : decode cX10_entry 46 = .ok (.bipush 24, 2) := by decide +kernel
theorem dX10_entry_48 : decode cX10_entry 48 = .ok (.iload 4, 2) := by decide +kernel
theorem dX10_entry_50 : decode cX10_entry 50 = .ok (.imul, 1) := by decide +kernel
theorem dX10_entry_51 : decode cX10_entry 51 = .ok (.iload_n 2, 1) := by decide +kernel
theorem dX10_entry_52 : decode cX10_entry 52 = .ok (.iadd, 1) := by decide +kernel
theorem dX10_entry_53 : decode cX10_entry 53 = .ok (.iaload, 1) := by decide +kernel
theorem dX10_entry_54 : decode cX10_entry 54 = .ok (.if_icmp .lt 7, 3) := by decide +kernel
theorem dX10_entry_57 : decode cX10_entry 57 = .ok (.iconst 0, 1) := by decide +kernel
theorem dX10_entry_58 : decode cX10_entry 58 = .ok (.goto 15, 3) := by decide +kernel
theorem dX10_entry_61 : decode cX10_entry 61 = .ok (.aload_n 0, 1) := by decide +kernel
theorem dX10_entry_62 : decode cX10_entry 62 = .ok (.getfield 19, 3) := by decide +kernel
theorem dX10_entry_65 : decode cX10_entry 65 = .ok (.iload 4, 2) := by decide +kernel
theorem dX10_entry_67 : decode cX10_entry 67 = .ok (.iload_n 2, 1) := by decide +kernel
theorem dX10_entry_68 : decode cX10_entry 68 = .ok (.iload_n 3, 1) := by decide +kernel
theorem dX10_entry_69 : decode cX10_entry 69 = .ok (.invokestatic 84, 3) := by decide +kernel
theorem dX10_entry_72 : decode cX10_entry 72 = .ok (.iaload, 1) := by decide +kernel
theorem dX10_entry_73 : decode cX10_entry 73 = .ok (.ireturn, 1) := by decide +kernel
theorem dX10_copyP_0 : decode cX10_copyP 0 = .ok (.iconst 0, 1) := by decide +kernel
theorem dX10_copyP_1 : decode cX10_copyP 1 = .ok (.istore_n 2, 1) := by decide +kernel
theorem dX10_copyP_2 : decode cX10_copyP 2 = .ok (.iload_n 2, 1) := by decide +kernel
theorem dX10_copyP_3 : decode cX10_copyP 3 = .ok (.bipush 24, 2) := by decide +kernel
theorem dX10_copyP_5 : decode cX10_copyP 5 = .ok (.if_icmp .ge 66, 3) := by decide +kernel
theorem dX10_copyP_8 : decode cX10_copyP 8 = .ok (.aload_n 0, 1) := by decide +kernel
theorem dX10_copyP_9 : decode cX10_copyP 9 = .ok (.getfield 22, 3) := by decide +kernel
theorem dX10_copyP_12 : decode cX10_copyP 12 = .ok (.bipush 24, 2) := by decide +kernel
theorem dX10_copyP_14 : decode cX10_copyP 14 = .ok (.iload_n 1, 1) := by decide +kernel
theorem dX10_copyP_15 : decode cX10_copyP 15 = .ok (.imul, 1) := by decide +kernel
theorem dX10_copyP_16 : decode cX10_copyP 16 = .ok (.iload_n 2, 1) := by decide +kernel
theorem dX10_copyP_17 : decode cX10_copyP 17 = .ok (.iadd, 1) := by decide +kernel
theorem dX10_copyP_18 : decode cX10_copyP 18 = .ok (.aload_n 0, 1) := by decide +kernel
theorem dX10_copyP_19 : decode cX10_copyP 19 = .ok (.getfield 22, 3) := by decide +kernel
theorem dX10_copyP_22 : decode cX10_copyP 22 = .ok (.iload_n 2, 1) := by decide +kernel
theorem dX10_copyP_23 : decode cX10_copyP 23 = .ok (.iaload, 1) := by decide +kernel
theorem dX10_copyP_24 : decode cX10_copyP 24 = .ok (.iastore, 1) := by decide +kernel
theorem dX10_copyP_25 : decode cX10_copyP 25 = .ok (.iconst 0, 1) := by decide +kernel
theorem dX10_copyP_26 : decode cX10_copyP 26 = .ok (.istore_n 3, 1) := by decide +kernel
theorem dX10_copyP_27 : decode cX10_copyP 27 = .ok (.iload_n 3, 1) := by decide +kernel
theorem dX10_copyP_28 : decode cX10_copyP 28 = .ok (.aload_n 0, 1) := by decide +kernel
theorem dX10_copyP_29 : decode cX10_copyP 29 = .ok (.getfield 22, 3) := by decide +kernel
theorem dX10_copyP_32 : decode cX10_copyP 32 = .ok (.iload_n 2, 1) := by decide +kernel
theorem dX10_copyP_33 : decode cX10_copyP 33 = .ok (.iaload, 1) := by decide +kernel
theorem dX10_copyP_34 : decode cX10_copyP 34 = .ok (.if_icmp .ge 31, 3) := by decide +kernel
theorem dX10_copyP_37 : decode cX10_copyP 37 = .ok (.aload_n 0, 1) := by decide +kernel
theorem dX10_copyP_38 : decode cX10_copyP 38 = .ok (.getfield 19, 3) := by decide +kernel
theorem dX10_copyP_41 : decode cX10_copyP 41 = .ok (.iload_n 1, 1) := by decide +kernel
theorem dX10_copyP_42 : decode cX10_copyP 42 = .ok (.iload_n 2, 1) := by decide +kernel
theorem dX10_copyP_43 : decode cX10_copyP 43 = .ok (.iload_n 3, 1) := by decide +kernel
theorem dX10_copyP_44 : decode cX10_copyP 44 = .ok (.invokestatic 84, 3) := by decide +kernel
theorem dX10_copyP_47 : decode cX10_copyP 47 = .ok (.aload_n 0, 1) := by decide +kernel
theorem dX10_copyP_48 : decode cX10_copyP 48 = .ok (.getfield 19, 3) := by decide +kernel
theorem dX10_copyP_51 : decode cX10_copyP 51 = .ok (.iconst 0, 1) := by decide +kernel
theorem dX10_copyP_52 : decode cX10_copyP 52 = .ok (.iload_n 2, 1) := by decide +kernel
theorem dX10_copyP_53 : decode cX10_copyP 53 = .ok (.iload_n 3, 1) := by decide +kernel
theorem dX10_copyP_54 : decode cX10_copyP 54 = .ok (.invokestatic 84, 3) := by decide +kernel
theorem dX10_copyP_57 : decode cX10_copyP 57 = .ok (.iaload, 1) := by decide +kernel
theorem dX10_copyP_58 : decode cX10_copyP 58 = .ok (.iastore, 1) := by decide +kernel
theorem dX10_copyP_59 : decode cX10_copyP 59 = .ok (.iinc 3 1, 3) := by decide +kernel
theorem dX10_copyP_62 : decode cX10_copyP 62 = .ok (.goto (-35), 3) := by decide +kernel
theorem dX10_copyP_65 : decode cX10_copyP 65 = .ok (.iinc 2 1, 3) := by decide +kernel
theorem dX10_copyP_68 : decode cX10_copyP 68 = .ok (.goto (-66), 3) := by decide +kernel
theorem dX10_copyP_71 : decode cX10_copyP 71 = .ok (.return_, 1) := by decide +kernel
theorem dX10_count_0 : decode cX10_count 0 = .ok (.iconst 0, 1) := by decide +kernel
theorem dX10_count_1 : decode cX10_count 1 = .ok (.istore_n 2, 1) := by decide +kernel
theorem dX10_count_2 : decode cX10_count 2 = .ok (.iconst 0, 1) := by decide +kernel
theorem dX10_count_3 : decode cX10_count 3 = .ok (.istore_n 3, 1) := by decide +kernel
theorem dX10_count_4 : decode cX10_count 4 = .ok (.iload_n 3, 1) := by decide +kernel
theorem dX10_count_5 : decode cX10_count 5 = .ok (.bipush 24, 2) := by decide +kernel
theorem dX10_count_7 : decode cX10_count 7 = .ok (.if_icmp .ge 23, 3) := by decide +kernel
theorem dX10_count_10 : decode cX10_count 10 = .ok (.iload_n 2, 1) := by decide +kernel
theorem dX10_count_11 : decode cX10_count 11 = .ok (.aload_n 0, 1) := by decide +kernel
theorem dX10_count_12 : decode cX10_count 12 = .ok (.getfield 22, 3) := by decide +kernel
theorem dX10_count_15 : decode cX10_count 15 = .ok (.bipush 24, 2) := by decide +kernel
theorem dX10_count_17 : decode cX10_count 17 = .ok (.iload_n 1, 1) := by decide +kernel
theorem dX10_count_18 : decode cX10_count 18 = .ok (.imul, 1) := by decide +kernel
theorem dX10_count_19 : decode cX10_count 19 = .ok (.iload_n 3, 1) := by decide +kernel
theorem dX10_count_20 : decode cX10_count 20 = .ok (.iadd, 1) := by decide +kernel
theorem dX10_count_21 : decode cX10_count 21 = .ok (.iaload, 1) := by decide +kernel
theorem dX10_count_22 : decode cX10_count 22 = .ok (.iadd, 1) := by decide +kernel
theorem dX10_count_23 : decode cX10_count 23 = .ok (.istore_n 2, 1) := by decide +kernel
theorem dX10_count_24 : decode cX10_count 24 = .ok (.iinc 3 1, 3) := by decide +kernel
theorem dX10_count_27 : decode cX10_count 27 = .ok (.goto (-23), 3) := by decide +kernel
theorem dX10_count_30 : decode cX10_count 30 = .ok (.iload_n 2, 1) := by decide +kernel
theorem dX10_count_31 : decode cX10_count 31 = .ok (.ireturn, 1) := by decide +kernel
theorem dX10_takeOut_0 : decode cX10_takeOut 0 = .ok (.aload_n 0, 1) := by decide +kernel
theorem dX10_takeOut_1 : decode cX10_takeOut 1 = .ok (.getfield 22, 3) := by decide +kernel
theorem dX10_takeOut_4 : decode cX10_takeOut 4 = .ok (.bipush 24, 2) := by decide +kernel
theorem dX10_takeOut_6 : decode cX10_takeOut 6 = .ok (.iload_n 1, 1) := by decide +kernel
theorem dX10_takeOut_7 : decode cX10_takeOut 7 = .ok (.imul, 1) := by decide +kernel
theorem dX10_takeOut_8 : decode cX10_takeOut 8 = .ok (.iload_n 2, 1) := by decide +kernel
theorem dX10_takeOut_9 : decode cX10_takeOut 9 = .ok (.iadd, 1) := by decide +kernel
theorem dX10_takeOut_10 : decode cX10_takeOut 10 = .ok (.dup2, 1) := by decide +kernel
theorem dX10_takeOut_11 : decode cX10_takeOut 11 = .ok (.iaload, 1) := by decide +kernel
theorem dX10_takeOut_12 : decode cX10_takeOut 12 = .ok (.iconst 1, 1) := by decide +kernel
theorem dX10_takeOut_13 : decode cX10_takeOut 13 = .ok (.isub, 1) := by decide +kernel
theorem dX10_takeOut_14 : decode cX10_takeOut 14 = .ok (.iastore, 1) := by decide +kernel
theorem dX10_takeOut_15 : decode cX10_takeOut 15 = .ok (.aload_n 0, 1) := by decide +kernel
theorem dX10_takeOut_16 : decode cX10_takeOut 16 = .ok (.getfield 19, 3) := by decide +kernel
theorem dX10_takeOut_19 : decode cX10_takeOut 19 = .ok (.iload_n 1, 1) := by decide +kernel
theorem dX10_takeOut_20 : decode cX10_takeOut 20 = .ok (.iload_n 2, 1) := by decide +kernel
theorem dX10_takeOut_21 : decode cX10_takeOut 21 = .ok (.aload_n 0, 1) := by decide +kernel
theorem dX10_takeOut_22 : decode cX10_takeOut 22 = .ok (.getfield 22, 3) := by decide +kernel
theorem dX10_takeOut_25 : decode cX10_takeOut 25 = .ok (.bipush 24, 2) := by decide +kernel
theorem dX10_takeOut_27 : decode cX10_takeOut 27 = .ok (.iload_n 1, 1) := by decide +kernel
theorem dX10_takeOut_28 : decode cX10_takeOut 28 = .ok (.imul, 1) := by decide +kernel
theorem dX10_takeOut_29 : decode cX10_takeOut 29 = .ok (.iload_n 2, 1) := by decide +kernel
theorem dX10_takeOut_30 : decode cX10_takeOut 30 = .ok (.iadd, 1) := by decide +kernel
theorem dX10_takeOut_31 : decode cX10_takeOut 31 = .ok (.iaload, 1) := by decide +kernel
theorem dX10_takeOut_32 : decode cX10_takeOut 32 = .ok (.invokestatic 84, 3) := by decide +kernel
theorem dX10_takeOut_35 : decode cX10_takeOut 35 = .ok (.iaload, 1) := by decide +kernel
theorem dX10_takeOut_36 : decode cX10_takeOut 36 = .ok (.istore_n 3, 1) := by decide +kernel
theorem dX10_takeOut_37 : decode cX10_takeOut 37 = .ok (.iload_n 2, 1) := by decide +kernel
theorem dX10_takeOut_38 : decode cX10_takeOut 38 = .ok (.iconst 1, 1) := by decide +kernel
theorem dX10_takeOut_39 : decode cX10_takeOut 39 = .ok (.isub, 1) := by decide +kernel
theorem dX10_takeOut_40 : decode cX10_takeOut 40 = .ok (.istore 4, 2) := by decide +kernel
theorem dX10_takeOut_42 : decode cX10_takeOut 42 = .ok (.iload 4, 2) := by decide +kernel
theorem dX10_takeOut_44 : decode cX10_takeOut 44 = .ok (.ifCond .lt 80, 3) := by decide +kernel
theorem dX10_takeOut_47 : decode cX10_takeOut 47 = .ok (.aload_n 0, 1) := by decide +kernel
theorem dX10_takeOut_48 : decode cX10_takeOut 48 = .ok (.getfield 22, 3) := by decide +kernel
theorem dX10_takeOut_51 : decode cX10_takeOut 51 = .ok (.bipush 24, 2) := by decide +kernel
theorem dX10_takeOut_53 : decode cX10_takeOut 53 = .ok (.iload_n 1, 1) := by decide +kernel
theorem dX10_takeOut_54 : decode cX10_takeOut 54 = .ok (.imul, 1) := by decide +kernel
theorem dX10_takeOut_55 : decode cX10_takeOut 55 = .ok (.iload 4, 2) := by decide +kernel
theorem dX10_takeOut_57 : decode cX10_takeOut 57 = .ok (.iadd, 1) := by decide +kernel
theorem dX10_takeOut_58 : decode cX10_takeOut 58 = .ok (.iaload, 1) := by decide +kernel
theorem dX10_takeOut_59 : decode cX10_takeOut 59 = .ok (.iconst 1, 1) := by decide +kernel
theorem dX10_takeOut_60 : decode cX10_takeOut 60 = .ok (.isub, 1) := by decide +kernel
theorem dX10_takeOut_61 : decode cX10_takeOut 61 = .ok (.istore 5, 2) := by decide +kernel
theorem dX10_takeOut_63 : decode cX10_takeOut 63 = .ok (.aload_n 0, 1) := by decide +kernel
theorem dX10_takeOut_64 : decode cX10_takeOut 64 = .ok (.getfield 19, 3) := by decide +kernel
theorem dX10_takeOut_67 : decode cX10_takeOut 67 = .ok (.iload_n 1, 1) := by decide +kernel
theorem dX10_takeOut_68 : decode cX10_takeOut 68 = .ok (.iload 4, 2) := by decide +kernel
theorem dX10_takeOut_70 : decode cX10_takeOut 70 = .ok (.iload 5, 2) := by decide +kernel
theorem dX10_takeOut_72 : decode cX10_takeOut 72 = .ok (.invokestatic 84, 3) := by decide +kernel
theorem dX10_takeOut_75 : decode cX10_takeOut 75 = .ok (.iaload, 1) := by decide +kernel
theorem dX10_takeOut_76 : decode cX10_takeOut 76 = .ok (.iload_n 3, 1) := by decide +kernel
theorem dX10_takeOut_77 : decode cX10_takeOut 77 = .ok (.if_icmp .lt 9, 3) := by decide +kernel
theorem dX10_takeOut_80 : decode cX10_takeOut 80 = .ok (.iinc 5 (-1), 3) := by decide +kernel
theorem dX10_takeOut_83 : decode cX10_takeOut 83 = .ok (.goto (-20), 3) := by decide +kernel
theorem dX10_takeOut_86 : decode cX10_takeOut 86 = .ok (.aload_n 0, 1) := by decide +kernel
theorem dX10_takeOut_87 : decode cX10_takeOut 87 = .ok (.getfield 19, 3) := by decide +kernel
theorem dX10_takeOut_90 : decode cX10_takeOut 90 = .ok (.iload_n 1, 1) := by decide +kernel
theorem dX10_takeOut_91 : decode cX10_takeOut 91 = .ok (.iload 4, 2) := by decide +kernel
theorem dX10_takeOut_93 : decode cX10_takeOut 93 = .ok (.iload 5, 2) := by decide +kernel
theorem dX10_takeOut_95 : decode cX10_takeOut 95 = .ok (.invokestatic 84, 3) := by decide +kernel
theorem dX10_takeOut_98 : decode cX10_takeOut 98 = .ok (.iaload, 1) := by decide +kernel
theorem dX10_takeOut_99 : decode cX10_takeOut 99 = .ok (.istore 6, 2) := by decide +kernel
theorem dX10_takeOut_101 : decode cX10_takeOut 101 = .ok (.aload_n 0, 1) := by decide +kernel
theorem dX10_takeOut_102 : decode cX10_takeOut 102 = .ok (.getfield 19, 3) := by decide +kernel
theorem dX10_takeOut_105 : decode cX10_takeOut 105 = .ok (.iload_n 1, 1) := by decide +kernel
theorem dX10_takeOut_106 : decode cX10_takeOut 106 = .ok (.iload 4, 2) := by decide +kernel
theorem dX10_takeOut_108 : decode cX10_takeOut 108 = .ok (.iload 5, 2) := by decide +kernel
theorem dX10_takeOut_110 : decode cX10_takeOut 110 = .ok (.invokestatic 84, 3) := by decide +kernel
theorem dX10_takeOut_113 : decode cX10_takeOut 113 = .ok (.iload_n 3, 1) := by decide +kernel
theorem dX10_takeOut_114 : decode cX10_takeOut 114 = .ok (.iastore, 1) := by decide +kernel
theorem dX10_takeOut_115 : decode cX10_takeOut 115 = .ok (.iload 6, 2) := by decide +kernel
theorem dX10_takeOut_117 : decode cX10_takeOut 117 = .ok (.istore_n 3, 1) := by decide +kernel
theorem dX10_takeOut_118 : decode cX10_takeOut 118 = .ok (.iinc 4 (-1), 3) := by decide +kernel
theorem dX10_takeOut_121 : decode cX10_takeOut 121 = .ok (.goto (-79), 3) := by decide +kernel
theorem dX10_takeOut_124 : decode cX10_takeOut 124 = .ok (.iload_n 3, 1) := by decide +kernel
theorem dX10_takeOut_125 : decode cX10_takeOut 125 = .ok (.ireturn, 1) := by decide +kernel
theorem dX10_rowOfNumber_0 : decode cX10_rowOfNumber 0 = .ok (.iconst 0, 1) := by decide +kernel
theorem dX10_rowOfNumber_1 : decode cX10_rowOfNumber 1 = .ok (.istore_n 2, 1) := by decide +kernel
theorem dX10_rowOfNumber_2 : decode cX10_rowOfNumber 2 = .ok (.aload_n 0, 1) := by decide +kernel
theorem dX10_rowOfNumber_3 : decode cX10_rowOfNumber 3 = .ok (.getfield 22, 3) := by decide +kernel
theorem dX10_rowOfNumber_6 : decode cX10_rowOfNumber 6 = .ok (.bipush 24, 2) := by decide +kernel
theorem dX10_rowOfNumber_8 : decode cX10_rowOfNumber 8 = .ok (.iload_n 2, 1) := by decide +kernel
theorem dX10_rowOfNumber_9 : decode cX10_rowOfNumber 9 = .ok (.iadd, 1) := by decide +kernel
theorem dX10_rowOfNumber_10 : decode cX10_rowOfNumber 10 = .ok (.iaload, 1) := by decide +kernel
theorem dX10_rowOfNumber_11 : decode cX10_rowOfNumber 11 = .ok (.ifCond .eq 28, 3) := by decide +kernel
theorem dX10_rowOfNumber_14 : decode cX10_rowOfNumber 14 = .ok (.aload_n 0, 1) := by decide +kernel
theorem dX10_rowOfNumber_15 : decode cX10_rowOfNumber 15 = .ok (.getfield 19, 3) := by decide +kernel
theorem dX10_rowOfNumber_18 : decode cX10_rowOfNumber 18 = .ok (.iconst 2, 1) := by decide +kernel
theorem dX10_rowOfNumber_19 : decode cX10_rowOfNumber 19 = .ok (.iload_n 2, 1) := by decide +kernel
theorem dX10_rowOfNumber_20 : decode cX10_rowOfNumber 20 = .ok (.aload_n 0, 1) := by decide +kernel
theorem dX10_rowOfNumber_21 : decode cX10_rowOfNumber 21 = .ok (.getfield 22, 3) := by decide +kernel
theorem dX10_rowOfNumber_24 : decode cX10_rowOfNumber 24 = .ok (.bipush 24, 2) := by decide +kernel
theorem dX10_rowOfNumber_26 : decode cX10_rowOfNumber 26 = .ok (.iload_n 2, 1) := by decide +kernel
theorem dX10_rowOfNumber_27 : decode cX10_rowOfNumber 27 = .ok (.iadd, 1) := by decide +kernel
theorem dX10_rowOfNumber_28 : decode cX10_rowOfNumber 28 = .ok (.iaload, 1) := by decide +kernel
theorem dX10_rowOfNumber_29 : decode cX10_rowOfNumber 29 = .ok (.iconst 1, 1) := by decide +kernel
theorem dX10_rowOfNumber_30 : decode cX10_rowOfNumber 30 = .ok (.isub, 1) := by decide +kernel
theorem dX10_rowOfNumber_31 : decode cX10_rowOfNumber 31 = .ok (.invokestatic 84, 3) := by decide +kernel
theorem dX10_rowOfNumber_34 : decode cX10_rowOfNumber 34 = .ok (.iaload, 1) := by decide +kernel
theorem dX10_rowOfNumber_35 : decode cX10_rowOfNumber 35 = .ok (.iload_n 1, 1) := by decide +kernel
theorem dX10_rowOfNumber_36 : decode cX10_rowOfNumber 36 = .ok (.if_icmp .eq 9, 3) := by decide +kernel
theorem dX10_rowOfNumber_39 : decode cX10_rowOfNumber 39 = .ok (.iinc 2 1, 3) := by decide +kernel
theorem dX10_rowOfNumber_42 : decode cX10_rowOfNumber 42 = .ok (.goto (-40), 3) := by decide +kernel
theorem dX10_rowOfNumber_45 : decode cX10_rowOfNumber 45 = .ok (.iload_n 2, 1) := by decide +kernel
theorem dX10_rowOfNumber_46 : decode cX10_rowOfNumber 46 = .ok (.ireturn, 1) := by decide +kernel
theorem dX10_recover_0 : decode cX10_recover 0 = .ok (.aload_n 0, 1) := by decide +kernel
theorem dX10_recover_1 : decode cX10_recover 1 = .ok (.iload_n 1, 1) := by decide +kernel
theorem dX10_recover_2 : decode cX10_recover 2 = .ok (.invokestatic 81, 3) := by decide +kernel
theorem dX10_recover_5 : decode cX10_recover 5 = .ok (.ifCond .ne 7, 3) := by decide +kernel
theorem dX10_recover_8 : decode cX10_recover 8 = .ok (.iconst 1, 1) := by decide +kernel
theorem dX10_recover_9 : decode cX10_recover 9 = .ok (.goto 15, 3) := by decide +kernel
theorem dX10_recover_12 : decode cX10_recover 12 = .ok (.aload_n 0, 1) := by decide +kernel
theorem dX10_recover_13 : decode cX10_recover 13 = .ok (.getfield 25, 3) := by decide +kernel
theorem dX10_recover_16 : decode cX10_recover 16 = .ok (.ifCond .eq 7, 3) := by decide +kernel
theorem dX10_recover_19 : decode cX10_recover 19 = .ok (.iconst 2, 1) := by decide +kernel
theorem dX10_recover_20 : decode cX10_recover 20 = .ok (.goto 4, 3) := by decide +kernel
theorem dX10_recover_23 : decode cX10_recover 23 = .ok (.iconst 0, 1) := by decide +kernel
theorem dX10_recover_24 : decode cX10_recover 24 = .ok (.putfield 63, 3) := by decide +kernel
theorem dX10_recover_27 : decode cX10_recover 27 = .ok (.aload_n 0, 1) := by decide +kernel
theorem dX10_recover_28 : decode cX10_recover 28 = .ok (.getfield 63, 3) := by decide +kernel
theorem dX10_recover_31 : decode cX10_recover 31 = .ok (.ifCond .le 4, 3) := by decide +kernel
theorem dX10_recover_34 : decode cX10_recover 34 = .ok (.return_, 1) := by decide +kernel
theorem dX10_recover_35 : decode cX10_recover 35 = .ok (.aload_n 0, 1) := by decide +kernel
theorem dX10_recover_36 : decode cX10_recover 36 = .ok (.iconst 1, 1) := by decide +kernel
theorem dX10_recover_37 : decode cX10_recover 37 = .ok (.invokevirtual 101, 3) := by decide +kernel
theorem dX10_recover_40 : decode cX10_recover 40 = .ok (.aload_n 0, 1) := by decide +kernel
theorem dX10_recover_41 : decode cX10_recover 41 = .ok (.iconst 0, 1) := by decide +kernel
theorem dX10_recover_42 : decode cX10_recover 42 = .ok (.invokevirtual 104, 3) := by decide +kernel
theorem dX10_recover_45 : decode cX10_recover 45 = .ok (.istore_n 2, 1) := by decide +kernel
theorem dX10_recover_46 : decode cX10_recover 46 = .ok (.iload_n 2, 1) := by decide +kernel
theorem dX10_recover_47 : decode cX10_recover 47 = .ok (.istore_n 3, 1) := by decide +kernel
theorem dX10_recover_48 : decode cX10_recover 48 = .ok (.iload_n 3, 1) := by decide +kernel
theorem dX10_recover_49 : decode cX10_recover 49 = .ok (.ifCond .le 32, 3) := by decide +kernel
theorem dX10_recover_52 : decode cX10_recover 52 = .ok (.aload_n 0, 1) := by decide +kernel
theorem dX10_recover_53 : decode cX10_recover 53 = .ok (.getfield 13, 3) := by decide +kernel
theorem dX10_recover_56 : decode cX10_recover 56 = .ok (.bipush 16, 2) := by decide +kernel
theorem dX10_recover_58 : decode cX10_recover 58 = .ok (.iload_n 1, 1) := by decide +kernel
theorem dX10_recover_59 : decode cX10_recover 59 = .ok (.imul, 1) := by decide +kernel
theorem dX10_recover_60 : decode cX10_recover 60 = .ok (.iload_n 3, 1) := by decide +kernel
theorem dX10_recover_61 : decode cX10_recover 61 = .ok (.iadd, 1) := by decide +kernel
theorem dX10_recover_62 : decode cX10_recover 62 = .ok (.iconst 1, 1) := by decide +kernel
theorem dX10_recover_63 : decode cX10_recover 63 = .ok (.isub, 1) := by decide +kernel
theorem dX10_recover_64 : decode cX10_recover 64 = .ok (.aload_n 0, 1) := by decide +kernel
theorem dX10_recover_65 : decode cX10_recover 65 = .ok (.iconst 1, 1) := by decide +kernel
theorem dX10_recover_66 : decode cX10_recover 66 = .ok (.aload_n 0, 1) := by decide +kernel
theorem dX10_recover_67 : decode cX10_recover 67 = .ok (.iload_n 3, 1) := by decide +kernel
theorem dX10_recover_68 : decode cX10_recover 68 = .ok (.invokevirtual 107, 3) := by decide +kernel
theorem dX10_recover_71 : decode cX10_recover 71 = .ok (.invokevirtual 110, 3) := by decide +kernel
theorem dX10_recover_74 : decode cX10_recover 74 = .ok (.iastore, 1) := by decide +kernel
theorem dX10_recover_75 : decode cX10_recover 75 = .ok (.iinc 3 (-1), 3) := by decide +kernel
theorem dX10_recover_78 : decode cX10_recover 78 = .ok (.goto (-30), 3) := by decide +kernel
theorem dX10_recover_81 : decode cX10_recover 81 = .ok (.aload_n 0, 1) := by decide +kernel
theorem dX10_recover_82 : decode cX10_recover 82 = .ok (.getfield 16, 3) := by decide +kernel
theorem dX10_recover_85 : decode cX10_recover 85 = .ok (.iload_n 1, 1) := by decide +kernel
theorem dX10_recover_86 : decode cX10_recover 86 = .ok (.iload_n 2, 1) := by decide +kernel
theorem dX10_recover_87 : decode cX10_recover 87 = .ok (.iastore, 1) := by decide +kernel
theorem dX10_recover_88 : decode cX10_recover 88 = .ok (.return_, 1) := by decide +kernel
theorem dX10_reading_0 : decode cX10_reading 0 = .ok (.iconst 0, 1) := by decide +kernel
theorem dX10_reading_1 : decode cX10_reading 1 = .ok (.istore_n 1, 1) := by decide +kernel
theorem dX10_reading_2 : decode cX10_reading 2 = .ok (.bipush 23, 2) := by decide +kernel
theorem dX10_reading_4 : decode cX10_reading 4 = .ok (.istore_n 2, 1) := by decide +kernel
theorem dX10_reading_5 : decode cX10_reading 5 = .ok (.iload_n 2, 1) := by decide +kernel
theorem dX10_reading_6 : decode cX10_reading 6 = .ok (.ifCond .lt 47, 3) := by decide +kernel
theorem dX10_reading_9 : decode cX10_reading 9 = .ok (.iconst 0, 1) := by decide +kernel
theorem dX10_reading_10 : decode cX10_reading 10 = .ok (.istore_n 3, 1) := by decide +kernel
theorem dX10_reading_11 : decode cX10_reading 11 = .ok (.iload_n 3, 1) := by decide +kernel
theorem dX10_reading_12 : decode cX10_reading 12 = .ok (.aload_n 0, 1) := by decide +kernel
theorem dX10_reading_13 : decode cX10_reading 13 = .ok (.getfield 22, 3) := by decide +kernel
theorem dX10_reading_16 : decode cX10_reading 16 = .ok (.iload_n 2, 1) := by decide +kernel
theorem dX10_reading_17 : decode cX10_reading 17 = .ok (.iaload, 1) := by decide +kernel
theorem dX10_reading_18 : decode cX10_reading 18 = .ok (.if_icmp .ge 29, 3) := by decide +kernel
theorem dX10_reading_21 : decode cX10_reading 21 = .ok (.aload_n 0, 1) := by decide +kernel
theorem dX10_reading_22 : decode cX10_reading 22 = .ok (.getfield 29, 3) := by decide +kernel
theorem dX10_reading_25 : decode cX10_reading 25 = .ok (.iload_n 1, 1) := by decide +kernel
theorem dX10_reading_26 : decode cX10_reading 26 = .ok (.aload_n 0, 1) := by decide +kernel
theorem dX10_reading_27 : decode cX10_reading 27 = .ok (.getfield 19, 3) := by decide +kernel
theorem dX10_reading_30 : decode cX10_reading 30 = .ok (.iconst 0, 1) := by decide +kernel
theorem dX10_reading_31 : decode cX10_reading 31 = .ok (.iload_n 2, 1) := by decide +kernel
theorem dX10_reading_32 : decode cX10_reading 32 = .ok (.iload_n 3, 1) := by decide +kernel
theorem dX10_reading_33 : decode cX10_reading 33 = .ok (.invokestatic 84, 3) := by decide +kernel
theorem dX10_reading_36 : decode cX10_reading 36 = .ok (.iaload, 1) := by decide +kernel
theorem dX10_reading_37 : decode cX10_reading 37 = .ok (.iastore, 1) := by decide +kernel
theorem dX10_reading_38 : decode cX10_reading 38 = .ok (.iinc 1 1, 3) := by decide +kernel
theorem dX10_reading_41 : decode cX10_reading 41 = .ok (.iinc 3 1, 3) := by decide +kernel
theorem dX10_reading_44 : decode cX10_reading 44 = .ok (.goto (-33), 3) := by decide +kernel
theorem dX10_reading_47 : decode cX10_reading 47 = .ok (.iinc 2 (-1), 3) := by decide +kernel
theorem dX10_reading_50 : decode cX10_reading 50 = .ok (.goto (-45), 3) := by decide +kernel
theorem dX10_reading_53 : decode cX10_reading 53 = .ok (.iload_n 1, 1) := by decide +kernel
theorem dX10_reading_54 : decode cX10_reading 54 = .ok (.ireturn, 1) := by decide +kernel
theorem dX10_read_0 : decode cX10_read 0 = .ok (.aload_n 0, 1) := by decide +kernel
theorem dX10_read_1 : decode cX10_read 1 = .ok (.iload_n 1, 1) := by decide +kernel
theorem dX10_read_2 : decode cX10_read 2 = .ok (.invokestatic 81, 3) := by decide +kernel
theorem dX10_read_5 : decode cX10_read 5 = .ok (.ifCond .eq 7, 3) := by decide +kernel
theorem dX10_read_8 : decode cX10_read 8 = .ok (.iconst 0, 1) := by decide +kernel
theorem dX10_read_9 : decode cX10_read 9 = .ok (.goto 4, 3) := by decide +kernel
theorem dX10_read_12 : decode cX10_read 12 = .ok (.iconst 1, 1) := by decide +kernel
theorem dX10_read_13 : decode cX10_read 13 = .ok (.putfield 63, 3) := by decide +kernel
theorem dX10_read_16 : decode cX10_read 16 = .ok (.aload_n 0, 1) := by decide +kernel
theorem dX10_read_17 : decode cX10_read 17 = .ok (.getfield 63, 3) := by decide +kernel
theorem dX10_read_20 : decode cX10_read 20 = .ok (.ifCond .le 4, 3) := by decide +kernel
theorem dX10_read_23 : decode cX10_read 23 = .ok (.return_, 1) := by decide +kernel
theorem dX10_read_24 : decode cX10_read 24 = .ok (.aload_n 0, 1) := by decide +kernel
theorem dX10_read_25 : decode cX10_read 25 = .ok (.invokevirtual 113, 3) := by decide +kernel
theorem dX10_read_28 : decode cX10_read 28 = .ok (.istore_n 2, 1) := by decide +kernel
theorem dX10_read_29 : decode cX10_read 29 = .ok (.iload_n 2, 1) := by decide +kernel
theorem dX10_read_30 : decode cX10_read 30 = .ok (.bipush 16, 2) := by decide +kernel
theorem dX10_read_32 : decode cX10_read 32 = .ok (.if_icmp .gt 7, 3) := by decide +kernel
theorem dX10_read_35 : decode cX10_read 35 = .ok (.iconst 1, 1) := by decide +kernel
theorem dX10_read_36 : decode cX10_read 36 = .ok (.goto 4, 3) := by decide +kernel
theorem dX10_read_39 : decode cX10_read 39 = .ok (.iconst 0, 1) := by decide +kernel
theorem dX10_read_40 : decode cX10_read 40 = .ok (.istore_n 3, 1) := by decide +kernel
theorem dX10_read_41 : decode cX10_read 41 = .ok (.iconst 0, 1) := by decide +kernel
theorem dX10_read_42 : decode cX10_read 42 = .ok (.istore 4, 2) := by decide +kernel
theorem dX10_read_44 : decode cX10_read 44 = .ok (.iload 4, 2) := by decide +kernel
theorem dX10_read_46 : decode cX10_read 46 = .ok (.iload_n 2, 1) := by decide +kernel
theorem dX10_read_47 : decode cX10_read 47 = .ok (.if_icmp .ge 31, 3) := by decide +kernel
theorem dX10_read_50 : decode cX10_read 50 = .ok (.iload_n 3, 1) := by decide +kernel
theorem dX10_read_51 : decode cX10_read 51 = .ok (.ifCond .eq 19, 3) := by decide +kernel
theorem dX10_read_54 : decode cX10_read 54 = .ok (.aload_n 0, 1) := by decide +kernel
theorem dX10_read_55 : decode cX10_read 55 = .ok (.getfield 29, 3) := by decide +kernel
theorem dX10_read_58 : decode cX10_read 58 = .ok (.iload 4, 2) := by decide +kernel
theorem dX10_read_60 : decode cX10_read 60 = .ok (.iaload, 1) := by decide +kernel
theorem dX10_read_61 : decode cX10_read 61 = .ok (.bipush 16, 2) := by decide +kernel
theorem dX10_read_63 : decode cX10_read 63 = .ok (.if_icmp .gt 7, 3) := by decide +kernel
theorem dX10_read_66 : decode cX10_read 66 = .ok (.iconst 1, 1) := by decide +kernel
theorem dX10_read_67 : decode cX10_read 67 = .ok (.goto 4, 3) := by decide +kernel
theorem dX10_read_70 : decode cX10_read 70 = .ok (.iconst 0, 1) := by decide +kernel
theorem dX10_read_71 : decode cX10_read 71 = .ok (.istore_n 3, 1) := by decide +kernel
theorem dX10_read_72 : decode cX10_read 72 = .ok (.iinc 4 1, 3) := by decide +kernel
theorem dX10_read_75 : decode cX10_read 75 = .ok (.goto (-31), 3) := by decide +kernel
theorem dX10_read_78 : decode cX10_read 78 = .ok (.aload_n 0, 1) := by decide +kernel
theorem dX10_read_79 : decode cX10_read 79 = .ok (.iload_n 3, 1) := by decide +kernel
theorem dX10_read_80 : decode cX10_read 80 = .ok (.ifCond .eq 7, 3) := by decide +kernel
theorem dX10_read_83 : decode cX10_read 83 = .ok (.iconst 0, 1) := by decide +kernel
theorem dX10_read_84 : decode cX10_read 84 = .ok (.goto 4, 3) := by decide +kernel
theorem dX10_read_87 : decode cX10_read 87 = .ok (.iconst 2, 1) := by decide +kernel
theorem dX10_read_88 : decode cX10_read 88 = .ok (.putfield 63, 3) := by decide +kernel
theorem dX10_read_91 : decode cX10_read 91 = .ok (.aload_n 0, 1) := by decide +kernel
theorem dX10_read_92 : decode cX10_read 92 = .ok (.getfield 63, 3) := by decide +kernel
theorem dX10_read_95 : decode cX10_read 95 = .ok (.ifCond .le 4, 3) := by decide +kernel
theorem dX10_read_98 : decode cX10_read 98 = .ok (.return_, 1) := by decide +kernel
theorem dX10_read_99 : decode cX10_read 99 = .ok (.iconst 0, 1) := by decide +kernel
theorem dX10_read_100 : decode cX10_read 100 = .ok (.istore 4, 2) := by decide +kernel
theorem dX10_read_102 : decode cX10_read 102 = .ok (.iload 4, 2) := by decide +kernel
theorem dX10_read_104 : decode cX10_read 104 = .ok (.iload_n 2, 1) := by decide +kernel
theorem dX10_read_105 : decode cX10_read 105 = .ok (.if_icmp .ge 28, 3) := by decide +kernel
theorem dX10_read_108 : decode cX10_read 108 = .ok (.aload_n 0, 1) := by decide +kernel
theorem dX10_read_109 : decode cX10_read 109 = .ok (.getfield 13, 3) := by decide +kernel
theorem dX10_read_112 : decode cX10_read 112 = .ok (.bipush 16, 2) := by decide +kernel
theorem dX10_read_114 : decode cX10_read 114 = .ok (.iload_n 1, 1) := by decide +kernel
theorem dX10_read_115 : decode cX10_read 115 = .ok (.imul, 1) := by decide +kernel
theorem dX10_read_116 : decode cX10_read 116 = .ok (.iload 4, 2) := by decide +kernel
theorem dX10_read_118 : decode cX10_read 118 = .ok (.iadd, 1) := by decide +kernel
theorem dX10_read_119 : decode cX10_read 119 = .ok (.aload_n 0, 1) := by decide +kernel
theorem dX10_read_120 : decode cX10_read 120 = .ok (.getfield 29, 3) := by decide +kernel
theorem dX10_read_123 : decode cX10_read 123 = .ok (.iload 4, 2) := by decide +kernel
theorem dX10_read_125 : decode cX10_read 125 = .ok (.iaload, 1) := by decide +kernel
theorem dX10_read_126 : decode cX10_read 126 = .ok (.iastore, 1) := by decide +kernel
theorem dX10_read_127 : decode cX10_read 127 = .ok (.iinc 4 1, 3) := by decide +kernel
theorem dX10_read_130 : decode cX10_read 130 = .ok (.goto (-28), 3) := by decide +kernel
theorem dX10_read_133 : decode cX10_read 133 = .ok (.aload_n 0, 1) := by decide +kernel
theorem dX10_read_134 : decode cX10_read 134 = .ok (.getfield 16, 3) := by decide +kernel
theorem dX10_read_137 : decode cX10_read 137 = .ok (.iload_n 1, 1) := by decide +kernel
theorem dX10_read_138 : decode cX10_read 138 = .ok (.iload_n 2, 1) := by decide +kernel
theorem dX10_read_139 : decode cX10_read 139 = .ok (.iastore, 1) := by decide +kernel
theorem dX10_read_140 : decode cX10_read 140 = .ok (.return_, 1) := by decide +kernel
theorem dX10_equivalent_0 : decode cX10_equivalent 0 = .ok (.aload_n 0, 1) := by decide +kernel
theorem dX10_equivalent_1 : decode cX10_equivalent 1 = .ok (.iconst 0, 1) := by decide +kernel
theorem dX10_equivalent_2 : decode cX10_equivalent 2 = .ok (.putfield 63, 3) := by decide +kernel
theorem dX10_equivalent_5 : decode cX10_equivalent 5 = .ok (.aload_n 0, 1) := by decide +kernel
theorem dX10_equivalent_6 : decode cX10_equivalent 6 = .ok (.iconst 0, 1) := by decide +kernel
theorem dX10_equivalent_7 : decode cX10_equivalent 7 = .ok (.invokevirtual 117, 3) := by decide +kernel
theorem dX10_equivalent_10 : decode cX10_equivalent 10 = .ok (.aload_n 0, 1) := by decide +kernel
theorem dX10_equivalent_11 : decode cX10_equivalent 11 = .ok (.iconst 1, 1) := by decide +kernel
theorem dX10_equivalent_12 : decode cX10_equivalent 12 = .ok (.aload_n 0, 1) := by decide +kernel
theorem dX10_equivalent_13 : decode cX10_equivalent 13 = .ok (.getfield 16, 3) := by decide +kernel
theorem dX10_equivalent_16 : decode cX10_equivalent 16 = .ok (.iconst 0, 1) := by decide +kernel
theorem dX10_equivalent_17 : decode cX10_equivalent 17 = .ok (.iaload, 1) := by decide +kernel
theorem dX10_equivalent_18 : decode cX10_equivalent 18 = .ok (.invokevirtual 120, 3) := by decide +kernel
theorem dX10_equivalent_21 : decode cX10_equivalent 21 = .ok (.aload_n 0, 1) := by decide +kernel
theorem dX10_equivalent_22 : decode cX10_equivalent 22 = .ok (.getfield 16, 3) := by decide +kernel
theorem dX10_equivalent_25 : decode cX10_equivalent 25 = .ok (.iconst 0, 1) := by decide +kernel
theorem dX10_equivalent_26 : decode cX10_equivalent 26 = .ok (.iaload, 1) := by decide +kernel
theorem dX10_equivalent_27 : decode cX10_equivalent 27 = .ok (.aload_n 0, 1) := by decide +kernel
theorem dX10_equivalent_28 : decode cX10_equivalent 28 = .ok (.getfield 16, 3) := by decide +kernel
theorem dX10_equivalent_31 : decode cX10_equivalent 31 = .ok (.iconst 1, 1) := by decide +kernel
theorem dX10_equivalent_32 : decode cX10_equivalent 32 = .ok (.iaload, 1) := by decide +kernel
theorem dX10_equivalent_33 : decode cX10_equivalent 33 = .ok (.if_icmp .ne 7, 3) := by decide +kernel
theorem dX10_equivalent_36 : decode cX10_equivalent 36 = .ok (.iconst 1, 1) := by decide +kernel
theorem dX10_equivalent_37 : decode cX10_equivalent 37 = .ok (.goto 4, 3) := by decide +kernel
theorem dX10_equivalent_40 : decode cX10_equivalent 40 = .ok (.iconst 0, 1) := by decide +kernel
theorem dX10_equivalent_41 : decode cX10_equivalent 41 = .ok (.istore_n 1, 1) := by decide +kernel
theorem dX10_equivalent_42 : decode cX10_equivalent 42 = .ok (.aload_n 0, 1) := by decide +kernel
theorem dX10_equivalent_43 : decode cX10_equivalent 43 = .ok (.iconst 0, 1) := by decide +kernel
theorem dX10_equivalent_44 : decode cX10_equivalent 44 = .ok (.putfield 124, 3) := by decide +kernel
theorem dX10_equivalent_47 : decode cX10_equivalent 47 = .ok (.iconst 0, 1) := by decide +kernel
theorem dX10_equivalent_48 : decode cX10_equivalent 48 = .ok (.istore_n 2, 1) := by decide +kernel
theorem dX10_equivalent_49 : decode cX10_equivalent 49 = .ok (.iload_n 2, 1) := by decide +kernel
theorem dX10_equivalent_50 : decode cX10_equivalent 50 = .ok (.bipush 24, 2) := by decide +kernel
theorem dX10_equivalent_52 : decode cX10_equivalent 52 = .ok (.if_icmp .ge 66, 3) := by decide +kernel
theorem dX10_equivalent_55 : decode cX10_equivalent 55 = .ok (.iconst 0, 1) := by decide +kernel
theorem dX10_equivalent_56 : decode cX10_equivalent 56 = .ok (.istore_n 3, 1) := by decide +kernel
theorem dX10_equivalent_57 : decode cX10_equivalent 57 = .ok (.iload_n 3, 1) := by decide +kernel
theorem dX10_equivalent_58 : decode cX10_equivalent 58 = .ok (.aload_n 0, 1) := by decide +kernel
theorem dX10_equivalent_59 : decode cX10_equivalent 59 = .ok (.getfield 22, 3) := by decide +kernel
theorem dX10_equivalent_62 : decode cX10_equivalent 62 = .ok (.bipush 24, 2) := by decide +kernel
theorem dX10_equivalent_64 : decode cX10_equivalent 64 = .ok (.iload_n 2, 1) := by decide +kernel
theorem dX10_equivalent_65 : decode cX10_equivalent 65 = .ok (.iadd, 1) := by decide +kernel
theorem dX10_equivalent_66 : decode cX10_equivalent 66 = .ok (.iaload, 1) := by decide +kernel
theorem dX10_equivalent_67 : decode cX10_equivalent 67 = .ok (.if_icmp .ge 45, 3) := by decide +kernel
theorem dX10_equivalent_70 : decode cX10_equivalent 70 = .ok (.aload_n 0, 1) := by decide +kernel
theorem dX10_equivalent_71 : decode cX10_equivalent 71 = .ok (.getfield 47, 3) := by decide +kernel
theorem dX10_equivalent_74 : decode cX10_equivalent 74 = .ok (.aload_n 0, 1) := by decide +kernel
theorem dX10_equivalent_75 : decode cX10_equivalent 75 = .ok (.getfield 124, 3) := by decide +kernel
theorem dX10_equivalent_78 : decode cX10_equivalent 78 = .ok (.bipush 100, 2) := by decide +kernel
theorem dX10_equivalent_80 : decode cX10_equivalent 80 = .ok (.iload_n 2, 1) := by decide +kernel
theorem dX10_equivalent_81 : decode cX10_equivalent 81 = .ok (.imul, 1) := by decide +kernel
theorem dX10_equivalent_82 : decode cX10_equivalent 82 = .ok (.aload_n 0, 1) := by decide +kernel
theorem dX10_equivalent_83 : decode cX10_equivalent 83 = .ok (.getfield 19, 3) := by decide +kernel
theorem dX10_equivalent_86 : decode cX10_equivalent 86 = .ok (.iconst 1, 1) := by decide +kernel
theorem dX10_equivalent_87 : decode cX10_equivalent 87 = .ok (.iload_n 2, 1) := by decide +kernel
theorem dX10_equivalent_88 : decode cX10_equivalent 88 = .ok (.iload_n 3, 1) := by decide +kernel
theorem dX10_equivalent_89 : decode cX10_equivalent 89 = .ok (.invokestatic 84, 3) := by decide +kernel
theorem dX10_equivalent_92 : decode cX10_equivalent 92 = .ok (.iaload, 1) := by decide +kernel
theorem dX10_equivalent_93 : decode cX10_equivalent 93 = .ok (.iadd, 1) := by decide +kernel
theorem dX10_equivalent_94 : decode cX10_equivalent 94 = .ok (.i2l, 1) := by decide +kernel
theorem dX10_equivalent_95 : decode cX10_equivalent 95 = .ok (.lastore, 1) := by decide +kernel
theorem dX10_equivalent_96 : decode cX10_equivalent 96 = .ok (.aload_n 0, 1) := by decide +kernel
theorem dX10_equivalent_97 : decode cX10_equivalent 97 = .ok (.dup, 1) := by decide +kernel
theorem dX10_equivalent_98 : decode cX10_equivalent 98 = .ok (.getfield 124, 3) := by decide +kernel
theorem dX10_equivalent_101 : decode cX10_equivalent 101 = .ok (.iconst 1, 1) := by decide +kernel
theorem dX10_equivalent_102 : decode cX10_equivalent 102 = .ok (.iadd, 1) := by decide +kernel
theorem dX10_equivalent_103 : decode cX10_equivalent 103 = .ok (.putfield 124, 3) := by decide +kernel
theorem dX10_equivalent_106 : decode cX10_equivalent 106 = .ok (.iinc 3 1, 3) := by decide +kernel
theorem dX10_equivalent_109 : decode cX10_equivalent 109 = .ok (.goto (-52), 3) := by decide +kernel
theorem dX10_equivalent_112 : decode cX10_equivalent 112 = .ok (.iinc 2 1, 3) := by decide +kernel
theorem dX10_equivalent_115 : decode cX10_equivalent 115 = .ok (.goto (-66), 3) := by decide +kernel
theorem dX10_equivalent_118 : decode cX10_equivalent 118 = .ok (.aload_n 0, 1) := by decide +kernel
theorem dX10_equivalent_119 : decode cX10_equivalent 119 = .ok (.iconst 1, 1) := by decide +kernel
theorem dX10_equivalent_120 : decode cX10_equivalent 120 = .ok (.invokevirtual 117, 3) := by decide +kernel
theorem dX10_equivalent_123 : decode cX10_equivalent 123 = .ok (.aload_n 0, 1) := by decide +kernel
theorem dX10_equivalent_124 : decode cX10_equivalent 124 = .ok (.iconst 1, 1) := by decide +kernel
theorem dX10_equivalent_125 : decode cX10_equivalent 125 = .ok (.aload_n 0, 1) := by decide +kernel
theorem dX10_equivalent_126 : decode cX10_equivalent 126 = .ok (.getfield 16, 3) := by decide +kernel
theorem dX10_equivalent_129 : decode cX10_equivalent 129 = .ok (.iconst 1, 1) := by decide +kernel
theorem dX10_equivalent_130 : decode cX10_equivalent 130 = .ok (.iaload, 1) := by decide +kernel
theorem dX10_equivalent_131 : decode cX10_equivalent 131 = .ok (.invokevirtual 120, 3) := by decide +kernel
theorem dX10_equivalent_134 : decode cX10_equivalent 134 = .ok (.iconst 0, 1) := by decide +kernel
theorem dX10_equivalent_135 : decode cX10_equivalent 135 = .ok (.istore_n 2, 1) := by decide +kernel
theorem dX10_equivalent_136 : decode cX10_equivalent 136 = .ok (.iconst 0, 1) := by decide +kernel
theorem dX10_equivalent_137 : decode cX10_equivalent 137 = .ok (.istore_n 3, 1) := by decide +kernel
theorem dX10_equivalent_138 : decode cX10_equivalent 138 = .ok (.iload_n 3, 1) := by decide +kernel
theorem dX10_equivalent_139 : decode cX10_equivalent 139 = .ok (.bipush 24, 2) := by decide +kernel
theorem dX10_equivalent_141 : decode cX10_equivalent 141 = .ok (.if_icmp .ge 77, 3) := by decide +kernel
theorem dX10_equivalent_144 : decode cX10_equivalent 144 = .ok (.iload_n 1, 1) := by decide +kernel
theorem dX10_equivalent_145 : decode cX10_equivalent 145 = .ok (.ifCond .eq 73, 3) := by decide +kernel
theorem dX10_equivalent_148 : decode cX10_equivalent 148 = .ok (.iconst 0, 1) := by decide +kernel
theorem dX10_equivalent_149 : decode cX10_equivalent 149 = .ok (.istore 4, 2) := by decide +kernel
theorem dX10_equivalent_151 : decode cX10_equivalent 151 = .ok (.iload 4, 2) := by decide +kernel
theorem dX10_equivalent_153 : decode cX10_equivalent 153 = .ok (.aload_n 0, 1) := by decide +kernel
theorem dX10_equivalent_154 : decode cX10_equivalent 154 = .ok (.getfield 22, 3) := by decide +kernel
theorem dX10_equivalent_157 : decode cX10_equivalent 157 = .ok (.bipush 24, 2) := by decide +kernel
theorem dX10_equivalent_159 : decode cX10_equivalent 159 = .ok (.iload_n 3, 1) := by decide +kernel
theorem dX10_equivalent_160 : decode cX10_equivalent 160 = .ok (.iadd, 1) := by decide +kernel
theorem dX10_equivalent_161 : decode cX10_equivalent 161 = .ok (.iaload, 1) := by decide +kernel
theorem dX10_equivalent_162 : decode cX10_equivalent 162 = .ok (.if_icmp .ge 50, 3) := by decide +kernel
theorem dX10_equivalent_165 : decode cX10_equivalent 165 = .ok (.iload_n 1, 1) := by decide +kernel
theorem dX10_equivalent_166 : decode cX10_equivalent 166 = .ok (.ifCond .eq 46, 3) := by decide +kernel
theorem dX10_equivalent_169 : decode cX10_equivalent 169 = .ok (.aload_n 0, 1) := by decide +kernel
theorem dX10_equivalent_170 : decode cX10_equivalent 170 = .ok (.getfield 47, 3) := by decide +kernel
theorem dX10_equivalent_173 : decode cX10_equivalent 173 = .ok (.iload_n 2, 1) := by decide +kernel
theorem dX10_equivalent_174 : decode cX10_equivalent 174 = .ok (.laload, 1) := by decide +kernel
theorem dX10_equivalent_175 : decode cX10_equivalent 175 = .ok (.bipush 100, 2) := by decide +kernel
theorem dX10_equivalent_177 : decode cX10_equivalent 177 = .ok (.iload_n 3, 1) := by decide +kernel
theorem dX10_equivalent_178 : decode cX10_equivalent 178 = .ok (.imul, 1) := by decide +kernel
theorem dX10_equivalent_179 : decode cX10_equivalent 179 = .ok (.aload_n 0, 1) := by decide +kernel
theorem dX10_equivalent_180 : decode cX10_equivalent 180 = .ok (.getfield 19, 3) := by decide +kernel
theorem dX10_equivalent_183 : decode cX10_equivalent 183 = .ok (.iconst 1, 1) := by decide +kernel
theorem dX10_equivalent_184 : decode cX10_equivalent 184 = .ok (.iload_n 3, 1) := by decide +kernel
theorem dX10_equivalent_185 : decode cX10_equivalent 185 = .ok (.iload 4, 2) := by decide +kernel
theorem dX10_equivalent_187 : decode cX10_equivalent 187 = .ok (.invokestatic 84, 3) := by decide +kernel
theorem dX10_equivalent_190 : decode cX10_equivalent 190 = .ok (.iaload, 1) := by decide +kernel
theorem dX10_equivalent_191 : decode cX10_equivalent 191 = .ok (.iadd, 1) := by decide +kernel
theorem dX10_equivalent_192 : decode cX10_equivalent 192 = .ok (.i2l, 1) := by decide +kernel
theorem dX10_equivalent_193 : decode cX10_equivalent 193 = .ok (.lcmp, 1) := by decide +kernel
theorem dX10_equivalent_194 : decode cX10_equivalent 194 = .ok (.ifCond .ne 7, 3) := by decide +kernel
theorem dX10_equivalent_197 : decode cX10_equivalent 197 = .ok (.iconst 1, 1) := by decide +kernel
theorem dX10_equivalent_198 : decode cX10_equivalent 198 = .ok (.goto 4, 3) := by decide +kernel
theorem dX10_equivalent_201 : decode cX10_equivalent 201 = .ok (.iconst 0, 1) := by decide +kernel
theorem dX10_equivalent_202 : decode cX10_equivalent 202 = .ok (.istore_n 1, 1) := by decide +kernel
theorem dX10_equivalent_203 : decode cX10_equivalent 203 = .ok (.iinc 2 1, 3) := by decide +kernel
theorem dX10_equivalent_206 : decode cX10_equivalent 206 = .ok (.iinc 4 1, 3) := by decide +kernel
theorem dX10_equivalent_209 : decode cX10_equivalent 209 = .ok (.goto (-58), 3) := by decide +kernel
theorem dX10_equivalent_212 : decode cX10_equivalent 212 = .ok (.iinc 3 1, 3) := by decide +kernel
