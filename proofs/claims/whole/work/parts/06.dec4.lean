theorem dX10_equivalent_215 : decode cX10_equivalent 215 = .ok (.goto (-77), 3) := by decide +kernel
theorem dX10_equivalent_218 : decode cX10_equivalent 218 = .ok (.iload_n 1, 1) := by decide +kernel
theorem dX10_equivalent_219 : decode cX10_equivalent 219 = .ok (.ireturn, 1) := by decide +kernel
theorem dX10_isStrict_0 : decode cX10_isStrict 0 = .ok (.iconst 0, 1) := by decide +kernel
theorem dX10_isStrict_1 : decode cX10_isStrict 1 = .ok (.istore_n 3, 1) := by decide +kernel
theorem dX10_isStrict_2 : decode cX10_isStrict 2 = .ok (.iconst 1, 1) := by decide +kernel
theorem dX10_isStrict_3 : decode cX10_isStrict 3 = .ok (.istore 4, 2) := by decide +kernel
theorem dX10_isStrict_5 : decode cX10_isStrict 5 = .ok (.aload_n 0, 1) := by decide +kernel
theorem dX10_isStrict_6 : decode cX10_isStrict 6 = .ok (.iconst 1, 1) := by decide +kernel
theorem dX10_isStrict_7 : decode cX10_isStrict 7 = .ok (.invokevirtual 88, 3) := by decide +kernel
theorem dX10_isStrict_10 : decode cX10_isStrict 10 = .ok (.bipush 7, 2) := by decide +kernel
theorem dX10_isStrict_12 : decode cX10_isStrict 12 = .ok (.istore 5, 2) := by decide +kernel
theorem dX10_isStrict_14 : decode cX10_isStrict 14 = .ok (.iload 5, 2) := by decide +kernel
theorem dX10_isStrict_16 : decode cX10_isStrict 16 = .ok (.ifCond .lt 177, 3) := by decide +kernel
theorem dX10_isStrict_19 : decode cX10_isStrict 19 = .ok (.aload_n 0, 1) := by decide +kernel
theorem dX10_isStrict_20 : decode cX10_isStrict 20 = .ok (.iload_n 1, 1) := by decide +kernel
theorem dX10_isStrict_21 : decode cX10_isStrict 21 = .ok (.iload 5, 2) := by decide +kernel
theorem dX10_isStrict_23 : decode cX10_isStrict 23 = .ok (.invokevirtual 73, 3) := by decide +kernel
theorem dX10_isStrict_26 : decode cX10_isStrict 26 = .ok (.istore 6, 2) := by decide +kernel
theorem dX10_isStrict_28 : decode cX10_isStrict 28 = .ok (.iload 6, 2) := by decide +kernel
theorem dX10_isStrict_30 : decode cX10_isStrict 30 = .ok (.aload_n 0, 1) := by decide +kernel
theorem dX10_isStrict_31 : decode cX10_isStrict 31 = .ok (.iload_n 2, 1) := by decide +kernel
theorem dX10_isStrict_32 : decode cX10_isStrict 32 = .ok (.iload 5, 2) := by decide +kernel
theorem dX10_isStrict_34 : decode cX10_isStrict 34 = .ok (.invokevirtual 73, 3) := by decide +kernel
theorem dX10_isStrict_37 : decode cX10_isStrict 37 = .ok (.if_icmp .ge 150, 3) := by decide +kernel
theorem dX10_isStrict_40 : decode cX10_isStrict 40 = .ok (.aload_n 0, 1) := by decide +kernel
theorem dX10_isStrict_41 : decode cX10_isStrict 41 = .ok (.getfield 19, 3) := by decide +kernel
theorem dX10_isStrict_44 : decode cX10_isStrict 44 = .ok (.iconst 1, 1) := by decide +kernel
theorem dX10_isStrict_45 : decode cX10_isStrict 45 = .ok (.iload 5, 2) := by decide +kernel
theorem dX10_isStrict_47 : decode cX10_isStrict 47 = .ok (.iload 6, 2) := by decide +kernel
theorem dX10_isStrict_49 : decode cX10_isStrict 49 = .ok (.invokestatic 84, 3) := by decide +kernel
theorem dX10_isStrict_52 : decode cX10_isStrict 52 = .ok (.aload_n 0, 1) := by decide +kernel
theorem dX10_isStrict_53 : decode cX10_isStrict 53 = .ok (.getfield 29, 3) := by decide +kernel
theorem dX10_isStrict_56 : decode cX10_isStrict 56 = .ok (.iload_n 3, 1) := by decide +kernel
theorem dX10_isStrict_57 : decode cX10_isStrict 57 = .ok (.iaload, 1) := by decide +kernel
theorem dX10_isStrict_58 : decode cX10_isStrict 58 = .ok (.iastore, 1) := by decide +kernel
theorem dX10_isStrict_59 : decode cX10_isStrict 59 = .ok (.iload 4, 2) := by decide +kernel
theorem dX10_isStrict_61 : decode cX10_isStrict 61 = .ok (.ifCond .eq 43, 3) := by decide +kernel
theorem dX10_isStrict_64 : decode cX10_isStrict 64 = .ok (.iload 6, 2) := by decide +kernel
theorem dX10_isStrict_66 : decode cX10_isStrict 66 = .ok (.aload_n 0, 1) := by decide +kernel
theorem dX10_isStrict_67 : decode cX10_isStrict 67 = .ok (.iload_n 1, 1) := by decide +kernel
theorem dX10_isStrict_68 : decode cX10_isStrict 68 = .ok (.iload 5, 2) := by decide +kernel
theorem dX10_isStrict_70 : decode cX10_isStrict 70 = .ok (.invokevirtual 73, 3) := by decide +kernel
theorem dX10_isStrict_73 : decode cX10_isStrict 73 = .ok (.if_icmp .eq 27, 3) := by decide +kernel
theorem dX10_isStrict_76 : decode cX10_isStrict 76 = .ok (.aload_n 0, 1) := by decide +kernel
theorem dX10_isStrict_77 : decode cX10_isStrict 77 = .ok (.getfield 19, 3) := by decide +kernel
theorem dX10_isStrict_80 : decode cX10_isStrict 80 = .ok (.iconst 1, 1) := by decide +kernel
theorem dX10_isStrict_81 : decode cX10_isStrict 81 = .ok (.iload 5, 2) := by decide +kernel
theorem dX10_isStrict_83 : decode cX10_isStrict 83 = .ok (.iload 6, 2) := by decide +kernel
theorem dX10_isStrict_85 : decode cX10_isStrict 85 = .ok (.iconst 1, 1) := by decide +kernel
theorem dX10_isStrict_86 : decode cX10_isStrict 86 = .ok (.isub, 1) := by decide +kernel
theorem dX10_isStrict_87 : decode cX10_isStrict 87 = .ok (.invokestatic 84, 3) := by decide +kernel
theorem dX10_isStrict_90 : decode cX10_isStrict 90 = .ok (.iaload, 1) := by decide +kernel
theorem dX10_isStrict_91 : decode cX10_isStrict 91 = .ok (.aload_n 0, 1) := by decide +kernel
theorem dX10_isStrict_92 : decode cX10_isStrict 92 = .ok (.getfield 29, 3) := by decide +kernel
theorem dX10_isStrict_95 : decode cX10_isStrict 95 = .ok (.iload_n 3, 1) := by decide +kernel
theorem dX10_isStrict_96 : decode cX10_isStrict 96 = .ok (.iaload, 1) := by decide +kernel
theorem dX10_isStrict_97 : decode cX10_isStrict 97 = .ok (.if_icmp .gt 7, 3) := by decide +kernel
theorem dX10_isStrict_100 : decode cX10_isStrict 100 = .ok (.iconst 1, 1) := by decide +kernel
theorem dX10_isStrict_101 : decode cX10_isStrict 101 = .ok (.goto 4, 3) := by decide +kernel
theorem dX10_isStrict_104 : decode cX10_isStrict 104 = .ok (.iconst 0, 1) := by decide +kernel
theorem dX10_isStrict_105 : decode cX10_isStrict 105 = .ok (.istore 4, 2) := by decide +kernel
theorem dX10_isStrict_107 : decode cX10_isStrict 107 = .ok (.iload 4, 2) := by decide +kernel
theorem dX10_isStrict_109 : decode cX10_isStrict 109 = .ok (.ifCond .eq 66, 3) := by decide +kernel
theorem dX10_isStrict_112 : decode cX10_isStrict 112 = .ok (.iload 5, 2) := by decide +kernel
theorem dX10_isStrict_114 : decode cX10_isStrict 114 = .ok (.bipush 7, 2) := by decide +kernel
theorem dX10_isStrict_116 : decode cX10_isStrict 116 = .ok (.if_icmp .eq 55, 3) := by decide +kernel
theorem dX10_isStrict_119 : decode cX10_isStrict 119 = .ok (.iload 6, 2) := by decide +kernel
theorem dX10_isStrict_121 : decode cX10_isStrict 121 = .ok (.aload_n 0, 1) := by decide +kernel
theorem dX10_isStrict_122 : decode cX10_isStrict 122 = .ok (.iload_n 1, 1) := by decide +kernel
theorem dX10_isStrict_123 : decode cX10_isStrict 123 = .ok (.iload 5, 2) := by decide +kernel
theorem dX10_isStrict_125 : decode cX10_isStrict 125 = .ok (.iconst 1, 1) := by decide +kernel
theorem dX10_isStrict_126 : decode cX10_isStrict 126 = .ok (.iadd, 1) := by decide +kernel
theorem dX10_isStrict_127 : decode cX10_isStrict 127 = .ok (.invokevirtual 73, 3) := by decide +kernel
theorem dX10_isStrict_130 : decode cX10_isStrict 130 = .ok (.if_icmp .lt 41, 3) := by decide +kernel
theorem dX10_isStrict_133 : decode cX10_isStrict 133 = .ok (.iload 6, 2) := by decide +kernel
theorem dX10_isStrict_135 : decode cX10_isStrict 135 = .ok (.aload_n 0, 1) := by decide +kernel
theorem dX10_isStrict_136 : decode cX10_isStrict 136 = .ok (.iload_n 2, 1) := by decide +kernel
theorem dX10_isStrict_137 : decode cX10_isStrict 137 = .ok (.iload 5, 2) := by decide +kernel
theorem dX10_isStrict_139 : decode cX10_isStrict 139 = .ok (.iconst 1, 1) := by decide +kernel
theorem dX10_isStrict_140 : decode cX10_isStrict 140 = .ok (.iadd, 1) := by decide +kernel
theorem dX10_isStrict_141 : decode cX10_isStrict 141 = .ok (.invokevirtual 73, 3) := by decide +kernel
theorem dX10_isStrict_144 : decode cX10_isStrict 144 = .ok (.if_icmp .ge 27, 3) := by decide +kernel
theorem dX10_isStrict_147 : decode cX10_isStrict 147 = .ok (.aload_n 0, 1) := by decide +kernel
theorem dX10_isStrict_148 : decode cX10_isStrict 148 = .ok (.getfield 19, 3) := by decide +kernel
theorem dX10_isStrict_151 : decode cX10_isStrict 151 = .ok (.iconst 1, 1) := by decide +kernel
theorem dX10_isStrict_152 : decode cX10_isStrict 152 = .ok (.iload 5, 2) := by decide +kernel
theorem dX10_isStrict_154 : decode cX10_isStrict 154 = .ok (.iconst 1, 1) := by decide +kernel
theorem dX10_isStrict_155 : decode cX10_isStrict 155 = .ok (.iadd, 1) := by decide +kernel
theorem dX10_isStrict_156 : decode cX10_isStrict 156 = .ok (.iload 6, 2) := by decide +kernel
theorem dX10_isStrict_158 : decode cX10_isStrict 158 = .ok (.invokestatic 84, 3) := by decide +kernel
theorem dX10_isStrict_161 : decode cX10_isStrict 161 = .ok (.iaload, 1) := by decide +kernel
theorem dX10_isStrict_162 : decode cX10_isStrict 162 = .ok (.aload_n 0, 1) := by decide +kernel
theorem dX10_isStrict_163 : decode cX10_isStrict 163 = .ok (.getfield 29, 3) := by decide +kernel
theorem dX10_isStrict_166 : decode cX10_isStrict 166 = .ok (.iload_n 3, 1) := by decide +kernel
theorem dX10_isStrict_167 : decode cX10_isStrict 167 = .ok (.iaload, 1) := by decide +kernel
theorem dX10_isStrict_168 : decode cX10_isStrict 168 = .ok (.if_icmp .le 7, 3) := by decide +kernel
theorem dX10_isStrict_171 : decode cX10_isStrict 171 = .ok (.iconst 1, 1) := by decide +kernel
theorem dX10_isStrict_172 : decode cX10_isStrict 172 = .ok (.goto 4, 3) := by decide +kernel
theorem dX10_isStrict_175 : decode cX10_isStrict 175 = .ok (.iconst 0, 1) := by decide +kernel
theorem dX10_isStrict_176 : decode cX10_isStrict 176 = .ok (.istore 4, 2) := by decide +kernel
theorem dX10_isStrict_178 : decode cX10_isStrict 178 = .ok (.iinc 3 1, 3) := by decide +kernel
theorem dX10_isStrict_181 : decode cX10_isStrict 181 = .ok (.iinc 6 1, 3) := by decide +kernel
theorem dX10_isStrict_184 : decode cX10_isStrict 184 = .ok (.goto (-156), 3) := by decide +kernel
theorem dX10_isStrict_187 : decode cX10_isStrict 187 = .ok (.iinc 5 (-1), 3) := by decide +kernel
theorem dX10_isStrict_190 : decode cX10_isStrict 190 = .ok (.goto (-176), 3) := by decide +kernel
theorem dX10_isStrict_193 : decode cX10_isStrict 193 = .ok (.iload 4, 2) := by decide +kernel
theorem dX10_isStrict_195 : decode cX10_isStrict 195 = .ok (.ireturn, 1) := by decide +kernel
theorem dX10_isWithin_0 : decode cX10_isWithin 0 = .ok (.iconst 1, 1) := by decide +kernel
theorem dX10_isWithin_1 : decode cX10_isWithin 1 = .ok (.istore_n 3, 1) := by decide +kernel
theorem dX10_isWithin_2 : decode cX10_isWithin 2 = .ok (.iconst 0, 1) := by decide +kernel
theorem dX10_isWithin_3 : decode cX10_isWithin 3 = .ok (.istore 4, 2) := by decide +kernel
theorem dX10_isWithin_5 : decode cX10_isWithin 5 = .ok (.iload 4, 2) := by decide +kernel
theorem dX10_isWithin_7 : decode cX10_isWithin 7 = .ok (.bipush 8, 2) := by decide +kernel
theorem dX10_isWithin_9 : decode cX10_isWithin 9 = .ok (.if_icmp .ge 36, 3) := by decide +kernel
theorem dX10_isWithin_12 : decode cX10_isWithin 12 = .ok (.iload_n 3, 1) := by decide +kernel
theorem dX10_isWithin_13 : decode cX10_isWithin 13 = .ok (.ifCond .eq 24, 3) := by decide +kernel
theorem dX10_isWithin_16 : decode cX10_isWithin 16 = .ok (.aload_n 0, 1) := by decide +kernel
theorem dX10_isWithin_17 : decode cX10_isWithin 17 = .ok (.iload_n 1, 1) := by decide +kernel
theorem dX10_isWithin_18 : decode cX10_isWithin 18 = .ok (.iload 4, 2) := by decide +kernel
theorem dX10_isWithin_20 : decode cX10_isWithin 20 = .ok (.invokevirtual 73, 3) := by decide +kernel
theorem dX10_isWithin_23 : decode cX10_isWithin 23 = .ok (.aload_n 0, 1) := by decide +kernel
theorem dX10_isWithin_24 : decode cX10_isWithin 24 = .ok (.iload_n 2, 1) := by decide +kernel
theorem dX10_isWithin_25 : decode cX10_isWithin 25 = .ok (.iload 4, 2) := by decide +kernel
theorem dX10_isWithin_27 : decode cX10_isWithin 27 = .ok (.invokevirtual 73, 3) := by decide +kernel
theorem dX10_isWithin_30 : decode cX10_isWithin 30 = .ok (.if_icmp .gt 7, 3) := by decide +kernel
theorem dX10_isWithin_33 : decode cX10_isWithin 33 = .ok (.iconst 1, 1) := by decide +kernel
theorem dX10_isWithin_34 : decode cX10_isWithin 34 = .ok (.goto 4, 3) := by decide +kernel
theorem dX10_isWithin_37 : decode cX10_isWithin 37 = .ok (.iconst 0, 1) := by decide +kernel
theorem dX10_isWithin_38 : decode cX10_isWithin 38 = .ok (.istore_n 3, 1) := by decide +kernel
theorem dX10_isWithin_39 : decode cX10_isWithin 39 = .ok (.iinc 4 1, 3) := by decide +kernel
theorem dX10_isWithin_42 : decode cX10_isWithin 42 = .ok (.goto (-37), 3) := by decide +kernel
theorem dX10_isWithin_45 : decode cX10_isWithin 45 = .ok (.iload_n 3, 1) := by decide +kernel
theorem dX10_isWithin_46 : decode cX10_isWithin 46 = .ok (.ireturn, 1) := by decide +kernel
theorem dX10_rectify_0 : decode cX10_rectify 0 = .ok (.aload_n 0, 1) := by decide +kernel
theorem dX10_rectify_1 : decode cX10_rectify 1 = .ok (.iload_n 1, 1) := by decide +kernel
theorem dX10_rectify_2 : decode cX10_rectify 2 = .ok (.invokestatic 67, 3) := by decide +kernel
theorem dX10_rectify_5 : decode cX10_rectify 5 = .ok (.ifCond .eq 17, 3) := by decide +kernel
theorem dX10_rectify_8 : decode cX10_rectify 8 = .ok (.iload_n 2, 1) := by decide +kernel
theorem dX10_rectify_9 : decode cX10_rectify 9 = .ok (.invokestatic 67, 3) := by decide +kernel
theorem dX10_rectify_12 : decode cX10_rectify 12 = .ok (.ifCond .eq 10, 3) := by decide +kernel
theorem dX10_rectify_15 : decode cX10_rectify 15 = .ok (.iload_n 3, 1) := by decide +kernel
theorem dX10_rectify_16 : decode cX10_rectify 16 = .ok (.invokestatic 81, 3) := by decide +kernel
theorem dX10_rectify_19 : decode cX10_rectify 19 = .ok (.ifCond .ne 7, 3) := by decide +kernel
theorem dX10_rectify_22 : decode cX10_rectify 22 = .ok (.iconst 1, 1) := by decide +kernel
theorem dX10_rectify_23 : decode cX10_rectify 23 = .ok (.goto 52, 3) := by decide +kernel
theorem dX10_rectify_26 : decode cX10_rectify 26 = .ok (.iload 4, 2) := by decide +kernel
theorem dX10_rectify_28 : decode cX10_rectify 28 = .ok (.ifCond .lt 18, 3) := by decide +kernel
theorem dX10_rectify_31 : decode cX10_rectify 31 = .ok (.iload 4, 2) := by decide +kernel
theorem dX10_rectify_33 : decode cX10_rectify 33 = .ok (.iconst 2, 1) := by decide +kernel
theorem dX10_rectify_34 : decode cX10_rectify 34 = .ok (.if_icmp .gt 12, 3) := by decide +kernel
theorem dX10_rectify_37 : decode cX10_rectify 37 = .ok (.aload_n 0, 1) := by decide +kernel
theorem dX10_rectify_38 : decode cX10_rectify 38 = .ok (.iload_n 1, 1) := by decide +kernel
theorem dX10_rectify_39 : decode cX10_rectify 39 = .ok (.iload_n 2, 1) := by decide +kernel
theorem dX10_rectify_40 : decode cX10_rectify 40 = .ok (.invokevirtual 127, 3) := by decide +kernel
theorem dX10_rectify_43 : decode cX10_rectify 43 = .ok (.ifCond .ne 7, 3) := by decide +kernel
theorem dX10_rectify_46 : decode cX10_rectify 46 = .ok (.iconst 2, 1) := by decide +kernel
theorem dX10_rectify_47 : decode cX10_rectify 47 = .ok (.goto 28, 3) := by decide +kernel
theorem dX10_rectify_50 : decode cX10_rectify 50 = .ok (.aload_n 0, 1) := by decide +kernel
theorem dX10_rectify_51 : decode cX10_rectify 51 = .ok (.getfield 16, 3) := by decide +kernel
theorem dX10_rectify_54 : decode cX10_rectify 54 = .ok (.iload_n 3, 1) := by decide +kernel
theorem dX10_rectify_55 : decode cX10_rectify 55 = .ok (.iaload, 1) := by decide +kernel
theorem dX10_rectify_56 : decode cX10_rectify 56 = .ok (.aload_n 0, 1) := by decide +kernel
theorem dX10_rectify_57 : decode cX10_rectify 57 = .ok (.iload_n 2, 1) := by decide +kernel
theorem dX10_rectify_58 : decode cX10_rectify 58 = .ok (.invokevirtual 77, 3) := by decide +kernel
theorem dX10_rectify_61 : decode cX10_rectify 61 = .ok (.aload_n 0, 1) := by decide +kernel
theorem dX10_rectify_62 : decode cX10_rectify 62 = .ok (.iload_n 1, 1) := by decide +kernel
theorem dX10_rectify_63 : decode cX10_rectify 63 = .ok (.invokevirtual 77, 3) := by decide +kernel
theorem dX10_rectify_66 : decode cX10_rectify 66 = .ok (.isub, 1) := by decide +kernel
theorem dX10_rectify_67 : decode cX10_rectify 67 = .ok (.if_icmp .eq 7, 3) := by decide +kernel
theorem dX10_rectify_70 : decode cX10_rectify 70 = .ok (.iconst 3, 1) := by decide +kernel
theorem dX10_rectify_71 : decode cX10_rectify 71 = .ok (.goto 4, 3) := by decide +kernel
theorem dX10_rectify_74 : decode cX10_rectify 74 = .ok (.iconst 0, 1) := by decide +kernel
theorem dX10_rectify_75 : decode cX10_rectify 75 = .ok (.putfield 63, 3) := by decide +kernel
theorem dX10_rectify_78 : decode cX10_rectify 78 = .ok (.aload_n 0, 1) := by decide +kernel
theorem dX10_rectify_79 : decode cX10_rectify 79 = .ok (.getfield 63, 3) := by decide +kernel
theorem dX10_rectify_82 : decode cX10_rectify 82 = .ok (.ifCond .le 5, 3) := by decide +kernel
theorem dX10_rectify_85 : decode cX10_rectify 85 = .ok (.iconst 0, 1) := by decide +kernel
theorem dX10_rectify_86 : decode cX10_rectify 86 = .ok (.ireturn, 1) := by decide +kernel
theorem dX10_rectify_87 : decode cX10_rectify 87 = .ok (.aload_n 0, 1) := by decide +kernel
theorem dX10_rectify_88 : decode cX10_rectify 88 = .ok (.iload_n 3, 1) := by decide +kernel
theorem dX10_rectify_89 : decode cX10_rectify 89 = .ok (.invokevirtual 117, 3) := by decide +kernel
theorem dX10_rectify_92 : decode cX10_rectify 92 = .ok (.aload_n 0, 1) := by decide +kernel
theorem dX10_rectify_93 : decode cX10_rectify 93 = .ok (.iload_n 1, 1) := by decide +kernel
theorem dX10_rectify_94 : decode cX10_rectify 94 = .ok (.iload_n 2, 1) := by decide +kernel
theorem dX10_rectify_95 : decode cX10_rectify 95 = .ok (.invokevirtual 131, 3) := by decide +kernel
theorem dX10_rectify_98 : decode cX10_rectify 98 = .ok (.ifCond .ne 9, 3) := by decide +kernel
theorem dX10_rectify_101 : decode cX10_rectify 101 = .ok (.aload_n 0, 1) := by decide +kernel
theorem dX10_rectify_102 : decode cX10_rectify 102 = .ok (.iconst 4, 1) := by decide +kernel
theorem dX10_rectify_103 : decode cX10_rectify 103 = .ok (.invokevirtual 134, 3) := by decide +kernel
theorem dX10_rectify_106 : decode cX10_rectify 106 = .ok (.ireturn, 1) := by decide +kernel
theorem dX10_rectify_107 : decode cX10_rectify 107 = .ok (.aload_n 0, 1) := by decide +kernel
theorem dX10_rectify_108 : decode cX10_rectify 108 = .ok (.iconst 0, 1) := by decide +kernel
theorem dX10_rectify_109 : decode cX10_rectify 109 = .ok (.aload_n 0, 1) := by decide +kernel
theorem dX10_rectify_110 : decode cX10_rectify 110 = .ok (.getfield 16, 3) := by decide +kernel
theorem dX10_rectify_113 : decode cX10_rectify 113 = .ok (.iload_n 3, 1) := by decide +kernel
theorem dX10_rectify_114 : decode cX10_rectify 114 = .ok (.iaload, 1) := by decide +kernel
theorem dX10_rectify_115 : decode cX10_rectify 115 = .ok (.invokevirtual 120, 3) := by decide +kernel
theorem dX10_rectify_118 : decode cX10_rectify 118 = .ok (.aload_n 0, 1) := by decide +kernel
theorem dX10_rectify_119 : decode cX10_rectify 119 = .ok (.iconst 1, 1) := by decide +kernel
theorem dX10_rectify_120 : decode cX10_rectify 120 = .ok (.putfield 25, 3) := by decide +kernel
theorem dX10_rectify_123 : decode cX10_rectify 123 = .ok (.aload_n 0, 1) := by decide +kernel
theorem dX10_rectify_124 : decode cX10_rectify 124 = .ok (.iload_n 1, 1) := by decide +kernel
theorem dX10_rectify_125 : decode cX10_rectify 125 = .ok (.invokevirtual 77, 3) := by decide +kernel
theorem dX10_rectify_128 : decode cX10_rectify 128 = .ok (.ireturn, 1) := by decide +kernel
theorem dX10_isStandard_0 : decode cX10_isStandard 0 = .ok (.aload_n 0, 1) := by decide +kernel
theorem dX10_isStandard_1 : decode cX10_isStandard 1 = .ok (.iconst 0, 1) := by decide +kernel
theorem dX10_isStandard_2 : decode cX10_isStandard 2 = .ok (.invokevirtual 104, 3) := by decide +kernel
theorem dX10_isStandard_5 : decode cX10_isStandard 5 = .ok (.istore_n 1, 1) := by decide +kernel
theorem dX10_isStandard_6 : decode cX10_isStandard 6 = .ok (.iconst 0, 1) := by decide +kernel
theorem dX10_isStandard_7 : decode cX10_isStandard 7 = .ok (.istore_n 2, 1) := by decide +kernel
theorem dX10_isStandard_8 : decode cX10_isStandard 8 = .ok (.iconst 1, 1) := by decide +kernel
theorem dX10_isStandard_9 : decode cX10_isStandard 9 = .ok (.istore_n 3, 1) := by decide +kernel
theorem dX10_isStandard_10 : decode cX10_isStandard 10 = .ok (.iconst 0, 1) := by decide +kernel
theorem dX10_isStandard_11 : decode cX10_isStandard 11 = .ok (.istore 4, 2) := by decide +kernel
theorem dX10_isStandard_13 : decode cX10_isStandard 13 = .ok (.iload 4, 2) := by decide +kernel
theorem dX10_isStandard_15 : decode cX10_isStandard 15 = .ok (.bipush 24, 2) := by decide +kernel
theorem dX10_isStandard_17 : decode cX10_isStandard 17 = .ok (.if_icmp .ge 77, 3) := by decide +kernel
theorem dX10_isStandard_20 : decode cX10_isStandard 20 = .ok (.iconst 0, 1) := by decide +kernel
theorem dX10_isStandard_21 : decode cX10_isStandard 21 = .ok (.istore 5, 2) := by decide +kernel
theorem dX10_isStandard_23 : decode cX10_isStandard 23 = .ok (.iload 5, 2) := by decide +kernel
theorem dX10_isStandard_25 : decode cX10_isStandard 25 = .ok (.aload_n 0, 1) := by decide +kernel
theorem dX10_isStandard_26 : decode cX10_isStandard 26 = .ok (.getfield 22, 3) := by decide +kernel
theorem dX10_isStandard_29 : decode cX10_isStandard 29 = .ok (.iload 4, 2) := by decide +kernel
theorem dX10_isStandard_31 : decode cX10_isStandard 31 = .ok (.iaload, 1) := by decide +kernel
theorem dX10_isStandard_32 : decode cX10_isStandard 32 = .ok (.if_icmp .ge 56, 3) := by decide +kernel
theorem dX10_isStandard_35 : decode cX10_isStandard 35 = .ok (.aload_n 0, 1) := by decide +kernel
theorem dX10_isStandard_36 : decode cX10_isStandard 36 = .ok (.getfield 19, 3) := by decide +kernel
theorem dX10_isStandard_39 : decode cX10_isStandard 39 = .ok (.iconst 0, 1) := by decide +kernel
theorem dX10_isStandard_40 : decode cX10_isStandard 40 = .ok (.iload 4, 2) := by decide +kernel
theorem dX10_isStandard_42 : decode cX10_isStandard 42 = .ok (.iload 5, 2) := by decide +kernel
theorem dX10_isStandard_44 : decode cX10_isStandard 44 = .ok (.invokestatic 84, 3) := by decide +kernel
theorem dX10_isStandard_47 : decode cX10_isStandard 47 = .ok (.iaload, 1) := by decide +kernel
theorem dX10_isStandard_48 : decode cX10_isStandard 48 = .ok (.istore 6, 2) := by decide +kernel
theorem dX10_isStandard_50 : decode cX10_isStandard 50 = .ok (.iload_n 3, 1) := by decide +kernel
theorem dX10_isStandard_51 : decode cX10_isStandard 51 = .ok (.ifCond .eq 22, 3) := by decide +kernel
theorem dX10_isStandard_54 : decode cX10_isStandard 54 = .ok (.iload 6, 2) := by decide +kernel
theorem dX10_isStandard_56 : decode cX10_isStandard 56 = .ok (.iload_n 1, 1) := by decide +kernel
theorem dX10_isStandard_57 : decode cX10_isStandard 57 = .ok (.if_icmp .gt 16, 3) := by decide +kernel
theorem dX10_isStandard_60 : decode cX10_isStandard 60 = .ok (.iload_n 2, 1) := by decide +kernel
theorem dX10_isStandard_61 : decode cX10_isStandard 61 = .ok (.iload 6, 2) := by decide +kernel
theorem dX10_isStandard_63 : decode cX10_isStandard 63 = .ok (.ishr, 1) := by decide +kernel
theorem dX10_isStandard_64 : decode cX10_isStandard 64 = .ok (.iconst 1, 1) := by decide +kernel
theorem dX10_isStandard_65 : decode cX10_isStandard 65 = .ok (.iand, 1) := by decide +kernel
theorem dX10_isStandard_66 : decode cX10_isStandard 66 = .ok (.ifCond .ne 7, 3) := by decide +kernel
theorem dX10_isStandard_69 : decode cX10_isStandard 69 = .ok (.iconst 1, 1) := by decide +kernel
theorem dX10_isStandard_70 : decode cX10_isStandard 70 = .ok (.goto 4, 3) := by decide +kernel
theorem dX10_isStandard_73 : decode cX10_isStandard 73 = .ok (.iconst 0, 1) := by decide +kernel
theorem dX10_isStandard_74 : decode cX10_isStandard 74 = .ok (.istore_n 3, 1) := by decide +kernel
theorem dX10_isStandard_75 : decode cX10_isStandard 75 = .ok (.iload_n 2, 1) := by decide +kernel
theorem dX10_isStandard_76 : decode cX10_isStandard 76 = .ok (.iconst 1, 1) := by decide +kernel
theorem dX10_isStandard_77 : decode cX10_isStandard 77 = .ok (.iload 6, 2) := by decide +kernel
theorem dX10_isStandard_79 : decode cX10_isStandard 79 = .ok (.ishl, 1) := by decide +kernel
theorem dX10_isStandard_80 : decode cX10_isStandard 80 = .ok (.ior, 1) := by decide +kernel
theorem dX10_isStandard_81 : decode cX10_isStandard 81 = .ok (.istore_n 2, 1) := by decide +kernel
theorem dX10_isStandard_82 : decode cX10_isStandard 82 = .ok (.iinc 5 1, 3) := by decide +kernel
theorem dX10_isStandard_85 : decode cX10_isStandard 85 = .ok (.goto (-62), 3) := by decide +kernel
theorem dX10_isStandard_88 : decode cX10_isStandard 88 = .ok (.iinc 4 1, 3) := by decide +kernel
theorem dX10_isStandard_91 : decode cX10_isStandard 91 = .ok (.goto (-78), 3) := by decide +kernel
theorem dX10_isStandard_94 : decode cX10_isStandard 94 = .ok (.iload_n 3, 1) := by decide +kernel
theorem dX10_isStandard_95 : decode cX10_isStandard 95 = .ok (.ireturn, 1) := by decide +kernel
theorem dX10_turn_0 : decode cX10_turn 0 = .ok (.aload_n 0, 1) := by decide +kernel
theorem dX10_turn_1 : decode cX10_turn 1 = .ok (.aload_n 0, 1) := by decide +kernel
theorem dX10_turn_2 : decode cX10_turn 2 = .ok (.invokevirtual 137, 3) := by decide +kernel
theorem dX10_turn_5 : decode cX10_turn 5 = .ok (.ifCond .eq 7, 3) := by decide +kernel
theorem dX10_turn_8 : decode cX10_turn 8 = .ok (.iconst 0, 1) := by decide +kernel
theorem dX10_turn_9 : decode cX10_turn 9 = .ok (.goto 4, 3) := by decide +kernel
theorem dX10_turn_12 : decode cX10_turn 12 = .ok (.iconst 1, 1) := by decide +kernel
theorem dX10_turn_13 : decode cX10_turn 13 = .ok (.putfield 63, 3) := by decide +kernel
theorem dX10_turn_16 : decode cX10_turn 16 = .ok (.aload_n 0, 1) := by decide +kernel
theorem dX10_turn_17 : decode cX10_turn 17 = .ok (.getfield 63, 3) := by decide +kernel
theorem dX10_turn_20 : decode cX10_turn 20 = .ok (.ifCond .le 4, 3) := by decide +kernel
theorem dX10_turn_23 : decode cX10_turn 23 = .ok (.return_, 1) := by decide +kernel
theorem dX10_turn_24 : decode cX10_turn 24 = .ok (.aload_n 0, 1) := by decide +kernel
theorem dX10_turn_25 : decode cX10_turn 25 = .ok (.invokevirtual 113, 3) := by decide +kernel
theorem dX10_turn_28 : decode cX10_turn 28 = .ok (.istore_n 1, 1) := by decide +kernel
theorem dX10_turn_29 : decode cX10_turn 29 = .ok (.iconst 0, 1) := by decide +kernel
theorem dX10_turn_30 : decode cX10_turn 30 = .ok (.istore_n 2, 1) := by decide +kernel
theorem dX10_turn_31 : decode cX10_turn 31 = .ok (.iload_n 2, 1) := by decide +kernel
theorem dX10_turn_32 : decode cX10_turn 32 = .ok (.iload_n 1, 1) := by decide +kernel
theorem dX10_turn_33 : decode cX10_turn 33 = .ok (.iconst 1, 1) := by decide +kernel
theorem dX10_turn_34 : decode cX10_turn 34 = .ok (.isub, 1) := by decide +kernel
theorem dX10_turn_35 : decode cX10_turn 35 = .ok (.iload_n 2, 1) := by decide +kernel
theorem dX10_turn_36 : decode cX10_turn 36 = .ok (.isub, 1) := by decide +kernel
theorem dX10_turn_37 : decode cX10_turn 37 = .ok (.if_icmp .ge 43, 3) := by decide +kernel
theorem dX10_turn_40 : decode cX10_turn 40 = .ok (.aload_n 0, 1) := by decide +kernel
theorem dX10_turn_41 : decode cX10_turn 41 = .ok (.getfield 29, 3) := by decide +kernel
theorem dX10_turn_44 : decode cX10_turn 44 = .ok (.iload_n 2, 1) := by decide +kernel
theorem dX10_turn_45 : decode cX10_turn 45 = .ok (.iaload, 1) := by decide +kernel
theorem dX10_turn_46 : decode cX10_turn 46 = .ok (.istore_n 3, 1) := by decide +kernel
theorem dX10_turn_47 : decode cX10_turn 47 = .ok (.aload_n 0, 1) := by decide +kernel
theorem dX10_turn_48 : decode cX10_turn 48 = .ok (.getfield 29, 3) := by decide +kernel
theorem dX10_turn_51 : decode cX10_turn 51 = .ok (.iload_n 2, 1) := by decide +kernel
theorem dX10_turn_52 : decode cX10_turn 52 = .ok (.aload_n 0, 1) := by decide +kernel
theorem dX10_turn_53 : decode cX10_turn 53 = .ok (.getfield 29, 3) := by decide +kernel
theorem dX10_turn_56 : decode cX10_turn 56 = .ok (.iload_n 1, 1) := by decide +kernel
theorem dX10_turn_57 : decode cX10_turn 57 = .ok (.iconst 1, 1) := by decide +kernel
theorem dX10_turn_58 : decode cX10_turn 58 = .ok (.isub, 1) := by decide +kernel
theorem dX10_turn_59 : decode cX10_turn 59 = .ok (.iload_n 2, 1) := by decide +kernel
theorem dX10_turn_60 : decode cX10_turn 60 = .ok (.isub, 1) := by decide +kernel
theorem dX10_turn_61 : decode cX10_turn 61 = .ok (.iaload, 1) := by decide +kernel
theorem dX10_turn_62 : decode cX10_turn 62 = .ok (.iastore, 1) := by decide +kernel
theorem dX10_turn_63 : decode cX10_turn 63 = .ok (.aload_n 0, 1) := by decide +kernel
theorem dX10_turn_64 : decode cX10_turn 64 = .ok (.getfield 29, 3) := by decide +kernel
theorem dX10_turn_67 : decode cX10_turn 67 = .ok (.iload_n 1, 1) := by decide +kernel
theorem dX10_turn_68 : decode cX10_turn 68 = .ok (.iconst 1, 1) := by decide +kernel
theorem dX10_turn_69 : decode cX10_turn 69 = .ok (.isub, 1) := by decide +kernel
theorem dX10_turn_70 : decode cX10_turn 70 = .ok (.iload_n 2, 1) := by decide +kernel
theorem dX10_turn_71 : decode cX10_turn 71 = .ok (.isub, 1) := by decide +kernel
theorem dX10_turn_72 : decode cX10_turn 72 = .ok (.iload_n 3, 1) := by decide +kernel
theorem dX10_turn_73 : decode cX10_turn 73 = .ok (.iastore, 1) := by decide +kernel
theorem dX10_turn_74 : decode cX10_turn 74 = .ok (.iinc 2 1, 3) := by decide +kernel
theorem dX10_turn_77 : decode cX10_turn 77 = .ok (.goto (-46), 3) := by decide +kernel
theorem dX10_turn_80 : decode cX10_turn 80 = .ok (.iconst 0, 1) := by decide +kernel
theorem dX10_turn_81 : decode cX10_turn 81 = .ok (.istore_n 2, 1) := by decide +kernel
theorem dX10_turn_82 : decode cX10_turn 82 = .ok (.iload_n 2, 1) := by decide +kernel
theorem dX10_turn_83 : decode cX10_turn 83 = .ok (.iload_n 1, 1) := by decide +kernel
theorem dX10_turn_84 : decode cX10_turn 84 = .ok (.if_icmp .ge 25, 3) := by decide +kernel
theorem dX10_turn_87 : decode cX10_turn 87 = .ok (.aload_n 0, 1) := by decide +kernel
theorem dX10_turn_88 : decode cX10_turn 88 = .ok (.getfield 29, 3) := by decide +kernel
theorem dX10_turn_91 : decode cX10_turn 91 = .ok (.iload_n 2, 1) := by decide +kernel
theorem dX10_turn_92 : decode cX10_turn 92 = .ok (.iload_n 1, 1) := by decide +kernel
theorem dX10_turn_93 : decode cX10_turn 93 = .ok (.iconst 1, 1) := by decide +kernel
theorem dX10_turn_94 : decode cX10_turn 94 = .ok (.iadd, 1) := by decide +kernel
theorem dX10_turn_95 : decode cX10_turn 95 = .ok (.aload_n 0, 1) := by decide +kernel
theorem dX10_turn_96 : decode cX10_turn 96 = .ok (.getfield 29, 3) := by decide +kernel
theorem dX10_turn_99 : decode cX10_turn 99 = .ok (.iload_n 2, 1) := by decide +kernel
theorem dX10_turn_100 : decode cX10_turn 100 = .ok (.iaload, 1) := by decide +kernel
theorem dX10_turn_101 : decode cX10_turn 101 = .ok (.isub, 1) := by decide +kernel
theorem dX10_turn_102 : decode cX10_turn 102 = .ok (.iastore, 1) := by decide +kernel
theorem dX10_turn_103 : decode cX10_turn 103 = .ok (.iinc 2 1, 3) := by decide +kernel
theorem dX10_turn_106 : decode cX10_turn 106 = .ok (.goto (-24), 3) := by decide +kernel
theorem dX10_turn_109 : decode cX10_turn 109 = .ok (.aload_n 0, 1) := by decide +kernel
theorem dX10_turn_110 : decode cX10_turn 110 = .ok (.iconst 0, 1) := by decide +kernel
theorem dX10_turn_111 : decode cX10_turn 111 = .ok (.iload_n 1, 1) := by decide +kernel
theorem dX10_turn_112 : decode cX10_turn 112 = .ok (.invokevirtual 120, 3) := by decide +kernel
theorem dX10_turn_115 : decode cX10_turn 115 = .ok (.aload_n 0, 1) := by decide +kernel
theorem dX10_turn_116 : decode cX10_turn 116 = .ok (.iconst 1, 1) := by decide +kernel
theorem dX10_turn_117 : decode cX10_turn 117 = .ok (.putfield 25, 3) := by decide +kernel
theorem dX10_turn_120 : decode cX10_turn 120 = .ok (.return_, 1) := by decide +kernel
theorem dX10_takeShape_0 : decode cX10_takeShape 0 = .ok (.iconst 0, 1) := by decide +kernel
theorem dX10_takeShape_1 : decode cX10_takeShape 1 = .ok (.istore_n 2, 1) := by decide +kernel
theorem dX10_takeShape_2 : decode cX10_takeShape 2 = .ok (.iload_n 2, 1) := by decide +kernel
theorem dX10_takeShape_3 : decode cX10_takeShape 3 = .ok (.bipush 9, 2) := by decide +kernel
theorem dX10_takeShape_5 : decode cX10_takeShape 5 = .ok (.if_icmp .ge 21, 3) := by decide +kernel
theorem dX10_takeShape_8 : decode cX10_takeShape 8 = .ok (.aload_n 0, 1) := by decide +kernel
theorem dX10_takeShape_9 : decode cX10_takeShape 9 = .ok (.getfield 35, 3) := by decide +kernel
theorem dX10_takeShape_12 : decode cX10_takeShape 12 = .ok (.iload_n 2, 1) := by decide +kernel
theorem dX10_takeShape_13 : decode cX10_takeShape 13 = .ok (.aload_n 0, 1) := by decide +kernel
theorem dX10_takeShape_14 : decode cX10_takeShape 14 = .ok (.iload_n 1, 1) := by decide +kernel
theorem dX10_takeShape_15 : decode cX10_takeShape 15 = .ok (.iload_n 2, 1) := by decide +kernel
theorem dX10_takeShape_16 : decode cX10_takeShape 16 = .ok (.invokevirtual 73, 3) := by decide +kernel
theorem dX10_takeShape_19 : decode cX10_takeShape 19 = .ok (.iastore, 1) := by decide +kernel
theorem dX10_takeShape_20 : decode cX10_takeShape 20 = .ok (.iinc 2 1, 3) := by decide +kernel
theorem dX10_takeShape_23 : decode cX10_takeShape 23 = .ok (.goto (-21), 3) := by decide +kernel
theorem dX10_takeShape_26 : decode cX10_takeShape 26 = .ok (.return_, 1) := by decide +kernel
theorem dX10_below_0 : decode cX10_below 0 = .ok (.iconst 0, 1) := by decide +kernel
theorem dX10_below_1 : decode cX10_below 1 = .ok (.istore_n 3, 1) := by decide +kernel
theorem dX10_below_2 : decode cX10_below 2 = .ok (.iload_n 1, 1) := by decide +kernel
theorem dX10_below_3 : decode cX10_below 3 = .ok (.iconst 1, 1) := by decide +kernel
theorem dX10_below_4 : decode cX10_below 4 = .ok (.iadd, 1) := by decide +kernel
theorem dX10_below_5 : decode cX10_below 5 = .ok (.iload_n 3, 1) := by decide +kernel
theorem dX10_below_6 : decode cX10_below 6 = .ok (.iadd, 1) := by decide +kernel
theorem dX10_below_7 : decode cX10_below 7 = .ok (.bipush 8, 2) := by decide +kernel
theorem dX10_below_9 : decode cX10_below 9 = .ok (.if_icmp .ge 23, 3) := by decide +kernel
theorem dX10_below_12 : decode cX10_below 12 = .ok (.aload_n 0, 1) := by decide +kernel
theorem dX10_below_13 : decode cX10_below 13 = .ok (.getfield 35, 3) := by decide +kernel
theorem dX10_below_16 : decode cX10_below 16 = .ok (.iload_n 1, 1) := by decide +kernel
theorem dX10_below_17 : decode cX10_below 17 = .ok (.iconst 1, 1) := by decide +kernel
theorem dX10_below_18 : decode cX10_below 18 = .ok (.iadd, 1) := by decide +kernel
theorem dX10_below_19 : decode cX10_below 19 = .ok (.iload_n 3, 1) := by decide +kernel
theorem dX10_below_20 : decode cX10_below 20 = .ok (.iadd, 1) := by decide +kernel
theorem dX10_below_21 : decode cX10_below 21 = .ok (.iaload, 1) := by decide +kernel
theorem dX10_below_22 : decode cX10_below 22 = .ok (.iload_n 2, 1) := by decide +kernel
theorem dX10_below_23 : decode cX10_below 23 = .ok (.if_icmp .le 9, 3) := by decide +kernel
theorem dX10_below_26 : decode cX10_below 26 = .ok (.iinc 3 1, 3) := by decide +kernel
theorem dX10_below_29 : decode cX10_below 29 = .ok (.goto (-27), 3) := by decide +kernel
theorem dX10_below_32 : decode cX10_below 32 = .ok (.iload_n 3, 1) := by decide +kernel
theorem dX10_below_33 : decode cX10_below 33 = .ok (.ireturn, 1) := by decide +kernel
theorem dX10_draw_0 : decode cX10_draw 0 = .ok (.aload_n 0, 1) := by decide +kernel
theorem dX10_draw_1 : decode cX10_draw 1 = .ok (.iload_n 1, 1) := by decide +kernel
theorem dX10_draw_2 : decode cX10_draw 2 = .ok (.invokestatic 67, 3) := by decide +kernel
theorem dX10_draw_5 : decode cX10_draw 5 = .ok (.ifCond .eq 7, 3) := by decide +kernel
theorem dX10_draw_8 : decode cX10_draw 8 = .ok (.iconst 0, 1) := by decide +kernel
theorem dX10_draw_9 : decode cX10_draw 9 = .ok (.goto 4, 3) := by decide +kernel
theorem dX10_draw_12 : decode cX10_draw 12 = .ok (.iconst 1, 1) := by decide +kernel
theorem dX10_draw_13 : decode cX10_draw 13 = .ok (.putfield 63, 3) := by decide +kernel
theorem dX10_draw_16 : decode cX10_draw 16 = .ok (.aload_n 0, 1) := by decide +kernel
theorem dX10_draw_17 : decode cX10_draw 17 = .ok (.getfield 63, 3) := by decide +kernel
theorem dX10_draw_20 : decode cX10_draw 20 = .ok (.ifCond .le 5, 3) := by decide +kernel
theorem dX10_draw_23 : decode cX10_draw 23 = .ok (.lconst 0, 1) := by decide +kernel
theorem dX10_draw_24 : decode cX10_draw 24 = .ok (.lreturn, 1) := by decide +kernel
theorem dX10_draw_25 : decode cX10_draw 25 = .ok (.aload_n 0, 1) := by decide +kernel
theorem dX10_draw_26 : decode cX10_draw 26 = .ok (.iload_n 1, 1) := by decide +kernel
theorem dX10_draw_27 : decode cX10_draw 27 = .ok (.invokevirtual 141, 3) := by decide +kernel
theorem dX10_draw_30 : decode cX10_draw 30 = .ok (.aload_n 0, 1) := by decide +kernel
theorem dX10_draw_31 : decode cX10_draw 31 = .ok (.iconst 0, 1) := by decide +kernel
theorem dX10_draw_32 : decode cX10_draw 32 = .ok (.invokevirtual 88, 3) := by decide +kernel
theorem dX10_draw_35 : decode cX10_draw 35 = .ok (.iconst 0, 1) := by decide +kernel
theorem dX10_draw_36 : decode cX10_draw 36 = .ok (.istore 4, 2) := by decide +kernel
theorem dX10_draw_38 : decode cX10_draw 38 = .ok (.iload 4, 2) := by decide +kernel
theorem dX10_draw_40 : decode cX10_draw 40 = .ok (.bipush 8, 2) := by decide +kernel
theorem dX10_draw_42 : decode cX10_draw 42 = .ok (.if_icmp .ge 23, 3) := by decide +kernel
theorem dX10_draw_45 : decode cX10_draw 45 = .ok (.aload_n 0, 1) := by decide +kernel
theorem dX10_draw_46 : decode cX10_draw 46 = .ok (.getfield 22, 3) := by decide +kernel
theorem dX10_draw_49 : decode cX10_draw 49 = .ok (.iload 4, 2) := by decide +kernel
theorem dX10_draw_51 : decode cX10_draw 51 = .ok (.aload_n 0, 1) := by decide +kernel
theorem dX10_draw_52 : decode cX10_draw 52 = .ok (.getfield 35, 3) := by decide +kernel
theorem dX10_draw_55 : decode cX10_draw 55 = .ok (.iload 4, 2) := by decide +kernel
theorem dX10_draw_57 : decode cX10_draw 57 = .ok (.iaload, 1) := by decide +kernel
theorem dX10_draw_58 : decode cX10_draw 58 = .ok (.iastore, 1) := by decide +kernel
theorem dX10_draw_59 : decode cX10_draw 59 = .ok (.iinc 4 1, 3) := by decide +kernel
theorem dX10_draw_62 : decode cX10_draw 62 = .ok (.goto (-24), 3) := by decide +kernel
theorem dX10_draw_65 : decode cX10_draw 65 = .ok (.lload_n 2, 1) := by decide +kernel
theorem dX10_draw_66 : decode cX10_draw 66 = .ok (.lstore 4, 2) := by decide +kernel
theorem dX10_draw_68 : decode cX10_draw 68 = .ok (.aload_n 0, 1) := by decide +kernel
theorem dX10_draw_69 : decode cX10_draw 69 = .ok (.iload_n 1, 1) := by decide +kernel
theorem dX10_draw_70 : decode cX10_draw 70 = .ok (.invokevirtual 77, 3) := by decide +kernel
theorem dX10_draw_73 : decode cX10_draw 73 = .ok (.istore 6, 2) := by decide +kernel
theorem dX10_draw_75 : decode cX10_draw 75 = .ok (.iload 6, 2) := by decide +kernel
theorem dX10_draw_77 : decode cX10_draw 77 = .ok (.ifCond .le 230, 3) := by decide +kernel
theorem dX10_draw_80 : decode cX10_draw 80 = .ok (.lload 4, 2) := by decide +kernel
theorem dX10_draw_82 : decode cX10_draw 82 = .ok (.ldc2_w 144, 3) := by decide +kernel
theorem dX10_draw_85 : decode cX10_draw 85 = .ok (.lmul, 1) := by decide +kernel
theorem dX10_draw_86 : decode cX10_draw 86 = .ok (.ldc2_w 146, 3) := by decide +kernel
theorem dX10_draw_89 : decode cX10_draw 89 = .ok (.ladd, 1) := by decide +kernel
theorem dX10_draw_90 : decode cX10_draw 90 = .ok (.lstore 4, 2) := by decide +kernel
theorem dX10_draw_92 : decode cX10_draw 92 = .ok (.lload 4, 2) := by decide +kernel
theorem dX10_draw_94 : decode cX10_draw 94 = .ok (.bipush 33, 2) := by decide +kernel
theorem dX10_draw_96 : decode cX10_draw 96 = .ok (.lushr, 1) := by decide +kernel
theorem dX10_draw_97 : decode cX10_draw 97 = .ok (.iload 6, 2) := by decide +kernel
theorem dX10_draw_99 : decode cX10_draw 99 = .ok (.i2l, 1) := by decide +kernel
theorem dX10_draw_100 : decode cX10_draw 100 = .ok (.lrem, 1) := by decide +kernel
theorem dX10_draw_101 : decode cX10_draw 101 = .ok (.l2i, 1) := by decide +kernel
theorem dX10_draw_102 : decode cX10_draw 102 = .ok (.istore 7, 2) := by decide +kernel
theorem dX10_draw_104 : decode cX10_draw 104 = .ok (.iconst 0, 1) := by decide +kernel
theorem dX10_draw_105 : decode cX10_draw 105 = .ok (.istore 8, 2) := by decide +kernel
theorem dX10_draw_107 : decode cX10_draw 107 = .ok (.iload 7, 2) := by decide +kernel
theorem dX10_draw_109 : decode cX10_draw 109 = .ok (.aload_n 0, 1) := by decide +kernel
theorem dX10_draw_110 : decode cX10_draw 110 = .ok (.getfield 35, 3) := by decide +kernel
theorem dX10_draw_113 : decode cX10_draw 113 = .ok (.iload 8, 2) := by decide +kernel
theorem dX10_draw_115 : decode cX10_draw 115 = .ok (.iaload, 1) := by decide +kernel
theorem dX10_draw_116 : decode cX10_draw 116 = .ok (.if_icmp .lt 21, 3) := by decide +kernel
theorem dX10_draw_119 : decode cX10_draw 119 = .ok (.iload 7, 2) := by decide +kernel
theorem dX10_draw_121 : decode cX10_draw 121 = .ok (.aload_n 0, 1) := by decide +kernel
theorem dX10_draw_122 : decode cX10_draw 122 = .ok (.getfield 35, 3) := by decide +kernel
theorem dX10_draw_125 : decode cX10_draw 125 = .ok (.iload 8, 2) := by decide +kernel
theorem dX10_draw_127 : decode cX10_draw 127 = .ok (.iaload, 1) := by decide +kernel
theorem dX10_draw_128 : decode cX10_draw 128 = .ok (.isub, 1) := by decide +kernel
theorem dX10_draw_129 : decode cX10_draw 129 = .ok (.istore 7, 2) := by decide +kernel
theorem dX10_draw_131 : decode cX10_draw 131 = .ok (.iinc 8 1, 3) := by decide +kernel
theorem dX10_draw_134 : decode cX10_draw 134 = .ok (.goto (-27), 3) := by decide +kernel
theorem dX10_draw_137 : decode cX10_draw 137 = .ok (.iload 7, 2) := by decide +kernel
theorem dX10_draw_139 : decode cX10_draw 139 = .ok (.istore 9, 2) := by decide +kernel
theorem dX10_draw_141 : decode cX10_draw 141 = .ok (.aload_n 0, 1) := by decide +kernel
theorem dX10_draw_142 : decode cX10_draw 142 = .ok (.getfield 35, 3) := by decide +kernel
theorem dX10_draw_145 : decode cX10_draw 145 = .ok (.iload 8, 2) := by decide +kernel
theorem dX10_draw_147 : decode cX10_draw 147 = .ok (.iaload, 1) := by decide +kernel
theorem dX10_draw_148 : decode cX10_draw 148 = .ok (.iload 9, 2) := by decide +kernel
theorem dX10_draw_150 : decode cX10_draw 150 = .ok (.isub, 1) := by decide +kernel
theorem dX10_draw_151 : decode cX10_draw 151 = .ok (.iconst 1, 1) := by decide +kernel
theorem dX10_draw_152 : decode cX10_draw 152 = .ok (.isub, 1) := by decide +kernel
theorem dX10_draw_153 : decode cX10_draw 153 = .ok (.istore 10, 2) := by decide +kernel
theorem dX10_draw_155 : decode cX10_draw 155 = .ok (.iload 10, 2) := by decide +kernel
theorem dX10_draw_157 : decode cX10_draw 157 = .ok (.aload_n 0, 1) := by decide +kernel
theorem dX10_draw_158 : decode cX10_draw 158 = .ok (.iload 8, 2) := by decide +kernel
theorem dX10_draw_160 : decode cX10_draw 160 = .ok (.iload 9, 2) := by decide +kernel
theorem dX10_draw_162 : decode cX10_draw 162 = .ok (.invokevirtual 148, 3) := by decide +kernel
theorem dX10_draw_165 : decode cX10_draw 165 = .ok (.iadd, 1) := by decide +kernel
theorem dX10_draw_166 : decode cX10_draw 166 = .ok (.istore 11, 2) := by decide +kernel
theorem dX10_draw_168 : decode cX10_draw 168 = .ok (.iload 11, 2) := by decide +kernel
theorem dX10_draw_170 : decode cX10_draw 170 = .ok (.ifCond .le 105, 3) := by decide +kernel
theorem dX10_draw_173 : decode cX10_draw 173 = .ok (.lload 4, 2) := by decide +kernel
theorem dX10_draw_175 : decode cX10_draw 175 = .ok (.ldc2_w 144, 3) := by decide +kernel
theorem dX10_draw_178 : decode cX10_draw 178 = .ok (.lmul, 1) := by decide +kernel
theorem dX10_draw_179 : decode cX10_draw 179 = .ok (.ldc2_w 146, 3) := by decide +kernel
theorem dX10_draw_182 : decode cX10_draw 182 = .ok (.ladd, 1) := by decide +kernel
theorem dX10_draw_183 : decode cX10_draw 183 = .ok (.lstore 4, 2) := by decide +kernel
theorem dX10_draw_185 : decode cX10_draw 185 = .ok (.lload 4, 2) := by decide +kernel
theorem dX10_draw_187 : decode cX10_draw 187 = .ok (.bipush 33, 2) := by decide +kernel
theorem dX10_draw_189 : decode cX10_draw 189 = .ok (.lushr, 1) := by decide +kernel
theorem dX10_draw_190 : decode cX10_draw 190 = .ok (.iload 11, 2) := by decide +kernel
theorem dX10_draw_192 : decode cX10_draw 192 = .ok (.i2l, 1) := by decide +kernel
theorem dX10_draw_193 : decode cX10_draw 193 = .ok (.lrem, 1) := by decide +kernel
theorem dX10_draw_194 : decode cX10_draw 194 = .ok (.l2i, 1) := by decide +kernel
theorem dX10_draw_195 : decode cX10_draw 195 = .ok (.istore 12, 2) := by decide +kernel
theorem dX10_draw_197 : decode cX10_draw 197 = .ok (.iload 12, 2) := by decide +kernel
theorem dX10_draw_199 : decode cX10_draw 199 = .ok (.iload 10, 2) := by decide +kernel
theorem dX10_draw_201 : decode cX10_draw 201 = .ok (.if_icmp .ge 7, 3) := by decide +kernel
theorem dX10_draw_204 : decode cX10_draw 204 = .ok (.iconst 0, 1) := by decide +kernel
theorem dX10_draw_205 : decode cX10_draw 205 = .ok (.goto 10, 3) := by decide +kernel
theorem dX10_draw_208 : decode cX10_draw 208 = .ok (.iload 12, 2) := by decide +kernel
theorem dX10_draw_210 : decode cX10_draw 210 = .ok (.iload 10, 2) := by decide +kernel
theorem dX10_draw_212 : decode cX10_draw 212 = .ok (.isub, 1) := by decide +kernel
theorem dX10_draw_213 : decode cX10_draw 213 = .ok (.iconst 1, 1) := by decide +kernel
theorem dX10_draw_214 : decode cX10_draw 214 = .ok (.iadd, 1) := by decide +kernel
theorem dX10_draw_215 : decode cX10_draw 215 = .ok (.istore 13, 2) := by decide +kernel
theorem dX10_draw_217 : decode cX10_draw 217 = .ok (.iload 12, 2) := by decide +kernel
theorem dX10_draw_219 : decode cX10_draw 219 = .ok (.iload 10, 2) := by decide +kernel
theorem dX10_draw_221 : decode cX10_draw 221 = .ok (.if_icmp .ge 13, 3) := by decide +kernel
theorem dX10_draw_224 : decode cX10_draw 224 = .ok (.iload 9, 2) := by decide +kernel
theorem dX10_draw_226 : decode cX10_draw 226 = .ok (.iload 12, 2) := by decide +kernel
theorem dX10_draw_228 : decode cX10_draw 228 = .ok (.iadd, 1) := by decide +kernel
theorem dX10_draw_229 : decode cX10_draw 229 = .ok (.iconst 1, 1) := by decide +kernel
theorem dX10_draw_230 : decode cX10_draw 230 = .ok (.iadd, 1) := by decide +kernel
theorem dX10_draw_231 : decode cX10_draw 231 = .ok (.goto 5, 3) := by decide +kernel
theorem dX10_draw_234 : decode cX10_draw 234 = .ok (.iload 9, 2) := by decide +kernel
theorem dX10_draw_236 : decode cX10_draw 236 = .ok (.istore 9, 2) := by decide +kernel
theorem dX10_draw_238 : decode cX10_draw 238 = .ok (.iload 8, 2) := by decide +kernel
theorem dX10_draw_240 : decode cX10_draw 240 = .ok (.iload 13, 2) := by decide +kernel
theorem dX10_draw_242 : decode cX10_draw 242 = .ok (.iadd, 1) := by decide +kernel
theorem dX10_draw_243 : decode cX10_draw 243 = .ok (.istore 8, 2) := by decide +kernel
theorem dX10_draw_245 : decode cX10_draw 245 = .ok (.aload_n 0, 1) := by decide +kernel
theorem dX10_draw_246 : decode cX10_draw 246 = .ok (.getfield 35, 3) := by decide +kernel
theorem dX10_draw_249 : decode cX10_draw 249 = .ok (.iload 8, 2) := by decide +kernel
theorem dX10_draw_251 : decode cX10_draw 251 = .ok (.iaload, 1) := by decide +kernel
theorem dX10_draw_252 : decode cX10_draw 252 = .ok (.iload 9, 2) := by decide +kernel
theorem dX10_draw_254 : decode cX10_draw 254 = .ok (.isub, 1) := by decide +kernel
theorem dX10_draw_255 : decode cX10_draw 255 = .ok (.iconst 1, 1) := by decide +kernel
theorem dX10_draw_256 : decode cX10_draw 256 = .ok (.isub, 1) := by decide +kernel
theorem dX10_draw_257 : decode cX10_draw 257 = .ok (.istore 10, 2) := by decide +kernel
theorem dX10_draw_259 : decode cX10_draw 259 = .ok (.iload 10, 2) := by decide +kernel
theorem dX10_draw_261 : decode cX10_draw 261 = .ok (.aload_n 0, 1) := by decide +kernel
theorem dX10_draw_262 : decode cX10_draw 262 = .ok (.iload 8, 2) := by decide +kernel
theorem dX10_draw_264 : decode cX10_draw 264 = .ok (.iload 9, 2) := by decide +kernel
theorem dX10_draw_266 : decode cX10_draw 266 = .ok (.invokevirtual 148, 3) := by decide +kernel
theorem dX10_draw_269 : decode cX10_draw 269 = .ok (.iadd, 1) := by decide +kernel
theorem dX10_draw_270 : decode cX10_draw 270 = .ok (.istore 11, 2) := by decide +kernel
theorem dX10_draw_272 : decode cX10_draw 272 = .ok (.goto (-104), 3) := by decide +kernel
theorem dX10_draw_275 : decode cX10_draw 275 = .ok (.aload_n 0, 1) := by decide +kernel
theorem dX10_draw_276 : decode cX10_draw 276 = .ok (.getfield 19, 3) := by decide +kernel
theorem dX10_draw_279 : decode cX10_draw 279 = .ok (.iconst 0, 1) := by decide +kernel
theorem dX10_draw_280 : decode cX10_draw 280 = .ok (.iload 8, 2) := by decide +kernel
theorem dX10_draw_282 : decode cX10_draw 282 = .ok (.iload 9, 2) := by decide +kernel
theorem dX10_draw_284 : decode cX10_draw 284 = .ok (.invokestatic 84, 3) := by decide +kernel
theorem dX10_draw_287 : decode cX10_draw 287 = .ok (.iload 6, 2) := by decide +kernel
theorem dX10_draw_289 : decode cX10_draw 289 = .ok (.iastore, 1) := by decide +kernel
theorem dX10_draw_290 : decode cX10_draw 290 = .ok (.aload_n 0, 1) := by decide +kernel
theorem dX10_draw_291 : decode cX10_draw 291 = .ok (.getfield 35, 3) := by decide +kernel
theorem dX10_draw_294 : decode cX10_draw 294 = .ok (.iload 8, 2) := by decide +kernel
theorem dX10_draw_296 : decode cX10_draw 296 = .ok (.dup2, 1) := by decide +kernel
theorem dX10_draw_297 : decode cX10_draw 297 = .ok (.iaload, 1) := by decide +kernel
theorem dX10_draw_298 : decode cX10_draw 298 = .ok (.iconst 1, 1) := by decide +kernel
theorem dX10_draw_299 : decode cX10_draw 299 = .ok (.isub, 1) := by decide +kernel
theorem dX10_draw_300 : decode cX10_draw 300 = .ok (.iastore, 1) := by decide +kernel
theorem dX10_draw_301 : decode cX10_draw 301 = .ok (.iinc 6 (-1), 3) := by decide +kernel
theorem dX10_draw_304 : decode cX10_draw 304 = .ok (.goto (-229), 3) := by decide +kernel
theorem dX10_draw_307 : decode cX10_draw 307 = .ok (.aload_n 0, 1) := by decide +kernel
theorem dX10_draw_308 : decode cX10_draw 308 = .ok (.iconst 1, 1) := by decide +kernel
theorem dX10_draw_309 : decode cX10_draw 309 = .ok (.putfield 25, 3) := by decide +kernel
theorem dX10_draw_312 : decode cX10_draw 312 = .ok (.lload 4, 2) := by decide +kernel
theorem dX10_draw_314 : decode cX10_draw 314 = .ok (.lreturn, 1) := by decide +kernel
theorem dX10_multiply_0 : decode cX10_multiply 0 = .ok (.iload_n 1, 1) := by decide +kernel
theorem dX10_multiply_1 : decode cX10_multiply 1 = .ok (.istore_n 3, 1) := by decide +kernel
theorem dX10_multiply_2 : decode cX10_multiply 2 = .ok (.iconst 2, 1) := by decide +kernel
theorem dX10_multiply_3 : decode cX10_multiply 3 = .ok (.istore 4, 2) := by decide +kernel
theorem dX10_multiply_5 : decode cX10_multiply 5 = .ok (.iload 4, 2) := by decide +kernel
theorem dX10_multiply_7 : decode cX10_multiply 7 = .ok (.iload_n 3, 1) := by decide +kernel
theorem dX10_multiply_8 : decode cX10_multiply 8 = .ok (.if_icmp .gt 40, 3) := by decide +kernel
theorem dX10_multiply_11 : decode cX10_multiply 11 = .ok (.iload_n 3, 1) := by decide +kernel
theorem dX10_multiply_12 : decode cX10_multiply 12 = .ok (.iload 4, 2) := by decide +kernel
theorem dX10_multiply_14 : decode cX10_multiply 14 = .ok (.irem, 1) := by decide +kernel
theorem dX10_multiply_15 : decode cX10_multiply 15 = .ok (.ifCond .ne 27, 3) := by decide +kernel
theorem dX10_multiply_18 : decode cX10_multiply 18 = .ok (.aload_n 0, 1) := by decide +kernel
theorem dX10_multiply_19 : decode cX10_multiply 19 = .ok (.getfield 60, 3) := by decide +kernel
theorem dX10_multiply_22 : decode cX10_multiply 22 = .ok (.iload 4, 2) := by decide +kernel
theorem dX10_multiply_24 : decode cX10_multiply 24 = .ok (.aload_n 0, 1) := by decide +kernel
theorem dX10_multiply_25 : decode cX10_multiply 25 = .ok (.getfield 60, 3) := by decide +kernel
theorem dX10_multiply_28 : decode cX10_multiply 28 = .ok (.iload 4, 2) := by decide +kernel
theorem dX10_multiply_30 : decode cX10_multiply 30 = .ok (.iaload, 1) := by decide +kernel
theorem dX10_multiply_31 : decode cX10_multiply 31 = .ok (.iload_n 2, 1) := by decide +kernel
theorem dX10_multiply_32 : decode cX10_multiply 32 = .ok (.iadd, 1) := by decide +kernel
theorem dX10_multiply_33 : decode cX10_multiply 33 = .ok (.iastore, 1) := by decide +kernel
theorem dX10_multiply_34 : decode cX10_multiply 34 = .ok (.iload_n 3, 1) := by decide +kernel
theorem dX10_multiply_35 : decode cX10_multiply 35 = .ok (.iload 4, 2) := by decide +kernel
theorem dX10_multiply_37 : decode cX10_multiply 37 = .ok (.idiv, 1) := by decide +kernel
theorem dX10_multiply_38 : decode cX10_multiply 38 = .ok (.istore_n 3, 1) := by decide +kernel
theorem dX10_multiply_39 : decode cX10_multiply 39 = .ok (.goto (-28), 3) := by decide +kernel
theorem dX10_multiply_42 : decode cX10_multiply 42 = .ok (.iinc 4 1, 3) := by decide +kernel
theorem dX10_multiply_45 : decode cX10_multiply 45 = .ok (.goto (-40), 3) := by decide +kernel
theorem dX10_multiply_48 : decode cX10_multiply 48 = .ok (.return_, 1) := by decide +kernel
theorem dX10_factorial_0 : decode cX10_factorial 0 = .ok (.iconst 2, 1) := by decide +kernel
theorem dX10_factorial_1 : decode cX10_factorial 1 = .ok (.istore_n 3, 1) := by decide +kernel
theorem dX10_factorial_2 : decode cX10_factorial 2 = .ok (.iload_n 3, 1) := by decide +kernel
theorem dX10_factorial_3 : decode cX10_factorial 3 = .ok (.iload_n 1, 1) := by decide +kernel
theorem dX10_factorial_4 : decode cX10_factorial 4 = .ok (.if_icmp .gt 15, 3) := by decide +kernel
theorem dX10_factorial_7 : decode cX10_factorial 7 = .ok (.aload_n 0, 1) := by decide +kernel
theorem dX10_factorial_8 : decode cX10_factorial 8 = .ok (.iload_n 3, 1) := by decide +kernel
theorem dX10_factorial_9 : decode cX10_factorial 9 = .ok (.iload_n 2, 1) := by decide +kernel
theorem dX10_factorial_10 : decode cX10_factorial 10 = .ok (.invokevirtual 151, 3) := by decide +kernel
theorem dX10_factorial_13 : decode cX10_factorial 13 = .ok (.iinc 3 1, 3) := by decide +kernel
theorem dX10_factorial_16 : decode cX10_factorial 16 = .ok (.goto (-14), 3) := by decide +kernel
theorem dX10_factorial_19 : decode cX10_factorial 19 = .ok (.return_, 1) := by decide +kernel
theorem dX10_standard_0 : decode cX10_standard 0 = .ok (.aload_n 0, 1) := by decide +kernel
theorem dX10_standard_1 : decode cX10_standard 1 = .ok (.iload_n 1, 1) := by decide +kernel
theorem dX10_standard_2 : decode cX10_standard 2 = .ok (.invokestatic 67, 3) := by decide +kernel
theorem dX10_standard_5 : decode cX10_standard 5 = .ok (.ifCond .eq 7, 3) := by decide +kernel
theorem dX10_standard_8 : decode cX10_standard 8 = .ok (.iconst 0, 1) := by decide +kernel
theorem dX10_standard_9 : decode cX10_standard 9 = .ok (.goto 4, 3) := by decide +kernel
theorem dX10_standard_12 : decode cX10_standard 12 = .ok (.iconst 1, 1) := by decide +kernel
theorem dX10_standard_13 : decode cX10_standard 13 = .ok (.putfield 63, 3) := by decide +kernel
theorem dX10_standard_16 : decode cX10_standard 16 = .ok (.aload_n 0, 1) := by decide +kernel
theorem dX10_standard_17 : decode cX10_standard 17 = .ok (.getfield 63, 3) := by decide +kernel
theorem dX10_standard_20 : decode cX10_standard 20 = .ok (.ifCond .le 5, 3) := by decide +kernel
theorem dX10_standard_23 : decode cX10_standard 23 = .ok (.lconst 0, 1) := by decide +kernel
theorem dX10_standard_24 : decode cX10_standard 24 = .ok (.lreturn, 1) := by decide +kernel
theorem dX10_standard_25 : decode cX10_standard 25 = .ok (.iconst 0, 1) := by decide +kernel
theorem dX10_standard_26 : decode cX10_standard 26 = .ok (.istore_n 2, 1) := by decide +kernel
theorem dX10_standard_27 : decode cX10_standard 27 = .ok (.iload_n 2, 1) := by decide +kernel
theorem dX10_standard_28 : decode cX10_standard 28 = .ok (.bipush 40, 2) := by decide +kernel
theorem dX10_standard_30 : decode cX10_standard 30 = .ok (.if_icmp .ge 16, 3) := by decide +kernel
theorem dX10_standard_33 : decode cX10_standard 33 = .ok (.aload_n 0, 1) := by decide +kernel
theorem dX10_standard_34 : decode cX10_standard 34 = .ok (.getfield 60, 3) := by decide +kernel
theorem dX10_standard_37 : decode cX10_standard 37 = .ok (.iload_n 2, 1) := by decide +kernel
theorem dX10_standard_38 : decode cX10_standard 38 = .ok (.iconst 0, 1) := by decide +kernel
theorem dX10_standard_39 : decode cX10_standard 39 = .ok (.iastore, 1) := by decide +kernel
theorem dX10_standard_40 : decode cX10_standard 40 = .ok (.iinc 2 1, 3) := by decide +kernel
theorem dX10_standard_43 : decode cX10_standard 43 = .ok (.goto (-16), 3) := by decide +kernel
theorem dX10_standard_46 : decode cX10_standard 46 = .ok (.aload_n 0, 1) := by decide +kernel
theorem dX10_standard_47 : decode cX10_standard 47 = .ok (.aload_n 0, 1) := by decide +kernel
theorem dX10_standard_48 : decode cX10_standard 48 = .ok (.iload_n 1, 1) := by decide +kernel
theorem dX10_standard_49 : decode cX10_standard 49 = .ok (.invokevirtual 77, 3) := by decide +kernel
theorem dX10_standard_52 : decode cX10_standard 52 = .ok (.iconst 1, 1) := by decide +kernel
theorem dX10_standard_53 : decode cX10_standard 53 = .ok (.invokevirtual 154, 3) := by decide +kernel
theorem dX10_standard_56 : decode cX10_standard 56 = .ok (.iconst 0, 1) := by decide +kernel
theorem dX10_standard_57 : decode cX10_standard 57 = .ok (.istore_n 2, 1) := by decide +kernel
theorem dX10_standard_58 : decode cX10_standard 58 = .ok (.iload_n 2, 1) := by decide +kernel
theorem dX10_standard_59 : decode cX10_standard 59 = .ok (.bipush 8, 2) := by decide +kernel
theorem dX10_standard_61 : decode cX10_standard 61 = .ok (.if_icmp .ge 65, 3) := by decide +kernel
theorem dX10_standard_64 : decode cX10_standard 64 = .ok (.aload_n 0, 1) := by decide +kernel
theorem dX10_standard_65 : decode cX10_standard 65 = .ok (.iload_n 1, 1) := by decide +kernel
theorem dX10_standard_66 : decode cX10_standard 66 = .ok (.iload_n 2, 1) := by decide +kernel
theorem dX10_standard_67 : decode cX10_standard 67 = .ok (.invokevirtual 73, 3) := by decide +kernel
theorem dX10_standard_70 : decode cX10_standard 70 = .ok (.bipush 7, 2) := by decide +kernel
theorem dX10_standard_72 : decode cX10_standard 72 = .ok (.iadd, 1) := by decide +kernel
theorem dX10_standard_73 : decode cX10_standard 73 = .ok (.iload_n 2, 1) := by decide +kernel
theorem dX10_standard_74 : decode cX10_standard 74 = .ok (.isub, 1) := by decide +kernel
theorem dX10_standard_75 : decode cX10_standard 75 = .ok (.istore_n 3, 1) := by decide +kernel
theorem dX10_standard_76 : decode cX10_standard 76 = .ok (.aload_n 0, 1) := by decide +kernel
theorem dX10_standard_77 : decode cX10_standard 77 = .ok (.iload_n 3, 1) := by decide +kernel
theorem dX10_standard_78 : decode cX10_standard 78 = .ok (.iconst (-1), 1) := by decide +kernel
theorem dX10_standard_79 : decode cX10_standard 79 = .ok (.invokevirtual 154, 3) := by decide +kernel
theorem dX10_standard_82 : decode cX10_standard 82 = .ok (.iload_n 2, 1) := by decide +kernel
theorem dX10_standard_83 : decode cX10_standard 83 = .ok (.iconst 1, 1) := by decide +kernel
theorem dX10_standard_84 : decode cX10_standard 84 = .ok (.iadd, 1) := by decide +kernel
theorem dX10_standard_85 : decode cX10_standard 85 = .ok (.istore 4, 2) := by decide +kernel
theorem dX10_standard_87 : decode cX10_standard 87 = .ok (.iload 4, 2) := by decide +kernel
theorem dX10_standard_89 : decode cX10_standard 89 = .ok (.bipush 8, 2) := by decide +kernel
theorem dX10_standard_91 : decode cX10_standard 91 = .ok (.if_icmp .ge 29, 3) := by decide +kernel
theorem dX10_standard_94 : decode cX10_standard 94 = .ok (.aload_n 0, 1) := by decide +kernel
theorem dX10_standard_95 : decode cX10_standard 95 = .ok (.iload_n 3, 1) := by decide +kernel
theorem dX10_standard_96 : decode cX10_standard 96 = .ok (.aload_n 0, 1) := by decide +kernel
theorem dX10_standard_97 : decode cX10_standard 97 = .ok (.iload_n 1, 1) := by decide +kernel
theorem dX10_standard_98 : decode cX10_standard 98 = .ok (.iload 4, 2) := by decide +kernel
theorem dX10_standard_100 : decode cX10_standard 100 = .ok (.invokevirtual 73, 3) := by decide +kernel
theorem dX10_standard_103 : decode cX10_standard 103 = .ok (.isub, 1) := by decide +kernel
theorem dX10_standard_104 : decode cX10_standard 104 = .ok (.bipush 7, 2) := by decide +kernel
theorem dX10_standard_106 : decode cX10_standard 106 = .ok (.isub, 1) := by decide +kernel
theorem dX10_standard_107 : decode cX10_standard 107 = .ok (.iload 4, 2) := by decide +kernel
theorem dX10_standard_109 : decode cX10_standard 109 = .ok (.iadd, 1) := by decide +kernel
theorem dX10_standard_110 : decode cX10_standard 110 = .ok (.iconst 1, 1) := by decide +kernel
theorem dX10_standard_111 : decode cX10_standard 111 = .ok (.invokevirtual 151, 3) := by decide +kernel
theorem dX10_standard_114 : decode cX10_standard 114 = .ok (.iinc 4 1, 3) := by decide +kernel
theorem dX10_standard_117 : decode cX10_standard 117 = .ok (.goto (-30), 3) := by decide +kernel
theorem dX10_standard_120 : decode cX10_standard 120 = .ok (.iinc 2 1, 3) := by decide +kernel
theorem dX10_standard_123 : decode cX10_standard 123 = .ok (.goto (-65), 3) := by decide +kernel
theorem dX10_standard_126 : decode cX10_standard 126 = .ok (.lconst 1, 1) := by decide +kernel
theorem dX10_standard_127 : decode cX10_standard 127 = .ok (.lstore_n 2, 1) := by decide +kernel
theorem dX10_standard_128 : decode cX10_standard 128 = .ok (.iconst 2, 1) := by decide +kernel
theorem dX10_standard_129 : decode cX10_standard 129 = .ok (.istore 4, 2) := by decide +kernel
theorem dX10_standard_131 : decode cX10_standard 131 = .ok (.iload 4, 2) := by decide +kernel
theorem dX10_standard_133 : decode cX10_standard 133 = .ok (.bipush 40, 2) := by decide +kernel
theorem dX10_standard_135 : decode cX10_standard 135 = .ok (.if_icmp .ge 36, 3) := by decide +kernel
theorem dX10_standard_138 : decode cX10_standard 138 = .ok (.iconst 0, 1) := by decide +kernel
theorem dX10_standard_139 : decode cX10_standard 139 = .ok (.istore 5, 2) := by decide +kernel
theorem dX10_standard_141 : decode cX10_standard 141 = .ok (.iload 5, 2) := by decide +kernel
theorem dX10_standard_143 : decode cX10_standard 143 = .ok (.aload_n 0, 1) := by decide +kernel
theorem dX10_standard_144 : decode cX10_standard 144 = .ok (.getfield 60, 3) := by decide +kernel
theorem dX10_standard_147 : decode cX10_standard 147 = .ok (.iload 4, 2) := by decide +kernel
theorem dX10_standard_149 : decode cX10_standard 149 = .ok (.iaload, 1) := by decide +kernel
theorem dX10_standard_150 : decode cX10_standard 150 = .ok (.if_icmp .ge 15, 3) := by decide +kernel
theorem dX10_standard_153 : decode cX10_standard 153 = .ok (.lload_n 2, 1) := by decide +kernel
theorem dX10_standard_154 : decode cX10_standard 154 = .ok (.iload 4, 2) := by decide +kernel
theorem dX10_standard_156 : decode cX10_standard 156 = .ok (.i2l, 1) := by decide +kernel
theorem dX10_standard_157 : decode cX10_standard 157 = .ok (.lmul, 1) := by decide +kernel
theorem dX10_standard_158 : decode cX10_standard 158 = .ok (.lstore_n 2, 1) := by decide +kernel
theorem dX10_standard_159 : decode cX10_standard 159 = .ok (.iinc 5 1, 3) := by decide +kernel
theorem dX10_standard_162 : decode cX10_standard 162 = .ok (.goto (-21), 3) := by decide +kernel
theorem dX10_standard_165 : decode cX10_standard 165 = .ok (.iinc 4 1, 3) := by decide +kernel
theorem dX10_standard_168 : decode cX10_standard 168 = .ok (.goto (-37), 3) := by decide +kernel
theorem dX10_standard_171 : decode cX10_standard 171 = .ok (.lload_n 2, 1) := by decide +kernel
theorem dX10_standard_172 : decode cX10_standard 172 = .ok (.lreturn, 1) := by decide +kernel
theorem dX10_note_0 : decode cX10_note 0 = .ok (.iconst 0, 1) := by decide +kernel
theorem dX10_note_1 : decode cX10_note 1 = .ok (.istore 5, 2) := by decide +kernel
theorem dX10_note_3 : decode cX10_note 3 = .ok (.iload 5, 2) := by decide +kernel
theorem dX10_note_5 : decode cX10_note 5 = .ok (.aload_n 0, 1) := by decide +kernel
theorem dX10_note_6 : decode cX10_note 6 = .ok (.getfield 124, 3) := by decide +kernel
theorem dX10_note_9 : decode cX10_note 9 = .ok (.if_icmp .ge 21, 3) := by decide +kernel
theorem dX10_note_12 : decode cX10_note 12 = .ok (.aload_n 0, 1) := by decide +kernel
theorem dX10_note_13 : decode cX10_note 13 = .ok (.getfield 47, 3) := by decide +kernel
theorem dX10_note_16 : decode cX10_note 16 = .ok (.iload 5, 2) := by decide +kernel
theorem dX10_note_18 : decode cX10_note 18 = .ok (.laload, 1) := by decide +kernel
theorem dX10_note_19 : decode cX10_note 19 = .ok (.lload_n 1, 1) := by decide +kernel
theorem dX10_note_20 : decode cX10_note 20 = .ok (.lcmp, 1) := by decide +kernel
theorem dX10_note_21 : decode cX10_note 21 = .ok (.ifCond .eq 9, 3) := by decide +kernel
theorem dX10_note_24 : decode cX10_note 24 = .ok (.iinc 5 1, 3) := by decide +kernel
theorem dX10_note_27 : decode cX10_note 27 = .ok (.goto (-24), 3) := by decide +kernel
theorem dX10_note_30 : decode cX10_note 30 = .ok (.iload 5, 2) := by decide +kernel
theorem dX10_note_32 : decode cX10_note 32 = .ok (.aload_n 0, 1) := by decide +kernel
theorem dX10_note_33 : decode cX10_note 33 = .ok (.getfield 124, 3) := by decide +kernel
theorem dX10_note_36 : decode cX10_note 36 = .ok (.if_icmp .ne 29, 3) := by decide +kernel
theorem dX10_note_39 : decode cX10_note 39 = .ok (.aload_n 0, 1) := by decide +kernel
theorem dX10_note_40 : decode cX10_note 40 = .ok (.getfield 47, 3) := by decide +kernel
theorem dX10_note_43 : decode cX10_note 43 = .ok (.iload 5, 2) := by decide +kernel
theorem dX10_note_45 : decode cX10_note 45 = .ok (.lload_n 1, 1) := by decide +kernel
theorem dX10_note_46 : decode cX10_note 46 = .ok (.lastore, 1) := by decide +kernel
theorem dX10_note_47 : decode cX10_note 47 = .ok (.aload_n 0, 1) := by decide +kernel
theorem dX10_note_48 : decode cX10_note 48 = .ok (.getfield 51, 3) := by decide +kernel
theorem dX10_note_51 : decode cX10_note 51 = .ok (.iload 5, 2) := by decide +kernel
theorem dX10_note_53 : decode cX10_note 53 = .ok (.lconst 0, 1) := by decide +kernel
theorem dX10_note_54 : decode cX10_note 54 = .ok (.lastore, 1) := by decide +kernel
theorem dX10_note_55 : decode cX10_note 55 = .ok (.aload_n 0, 1) := by decide +kernel
theorem dX10_note_56 : decode cX10_note 56 = .ok (.dup, 1) := by decide +kernel
theorem dX10_note_57 : decode cX10_note 57 = .ok (.getfield 124, 3) := by decide +kernel
theorem dX10_note_60 : decode cX10_note 60 = .ok (.iconst 1, 1) := by decide +kernel
theorem dX10_note_61 : decode cX10_note 61 = .ok (.iadd, 1) := by decide +kernel
theorem dX10_note_62 : decode cX10_note 62 = .ok (.putfield 124, 3) := by decide +kernel
theorem dX10_note_65 : decode cX10_note 65 = .ok (.aload_n 0, 1) := by decide +kernel
theorem dX10_note_66 : decode cX10_note 66 = .ok (.getfield 51, 3) := by decide +kernel
theorem dX10_note_69 : decode cX10_note 69 = .ok (.iload 5, 2) := by decide +kernel
theorem dX10_note_71 : decode cX10_note 71 = .ok (.aload_n 0, 1) := by decide +kernel
theorem dX10_note_72 : decode cX10_note 72 = .ok (.getfield 51, 3) := by decide +kernel
theorem dX10_note_75 : decode cX10_note 75 = .ok (.iload 5, 2) := by decide +kernel
theorem dX10_note_77 : decode cX10_note 77 = .ok (.laload, 1) := by decide +kernel
theorem dX10_note_78 : decode cX10_note 78 = .ok (.lload_n 3, 1) := by decide +kernel
theorem dX10_note_79 : decode cX10_note 79 = .ok (.ladd, 1) := by decide +kernel
theorem dX10_note_80 : decode cX10_note 80 = .ok (.lastore, 1) := by decide +kernel
theorem dX10_note_81 : decode cX10_note 81 = .ok (.return_, 1) := by decide +kernel
theorem dX10_turnOver_0 : decode cX10_turnOver 0 = .ok (.aload_n 0, 1) := by decide +kernel
theorem dX10_turnOver_1 : decode cX10_turnOver 1 = .ok (.aload_n 0, 1) := by decide +kernel
theorem dX10_turnOver_2 : decode cX10_turnOver 2 = .ok (.getfield 124, 3) := by decide +kernel
theorem dX10_turnOver_5 : decode cX10_turnOver 5 = .ok (.putfield 157, 3) := by decide +kernel
theorem dX10_turnOver_8 : decode cX10_turnOver 8 = .ok (.iconst 0, 1) := by decide +kernel
theorem dX10_turnOver_9 : decode cX10_turnOver 9 = .ok (.istore_n 1, 1) := by decide +kernel
theorem dX10_turnOver_10 : decode cX10_turnOver 10 = .ok (.iload_n 1, 1) := by decide +kernel
theorem dX10_turnOver_11 : decode cX10_turnOver 11 = .ok (.aload_n 0, 1) := by decide +kernel
theorem dX10_turnOver_12 : decode cX10_turnOver 12 = .ok (.getfield 124, 3) := by decide +kernel
theorem dX10_turnOver_15 : decode cX10_turnOver 15 = .ok (.if_icmp .ge 33, 3) := by decide +kernel
theorem dX10_turnOver_18 : decode cX10_turnOver 18 = .ok (.aload_n 0, 1) := by decide +kernel
theorem dX10_turnOver_19 : decode cX10_turnOver 19 = .ok (.getfield 54, 3) := by decide +kernel
theorem dX10_turnOver_22 : decode cX10_turnOver 22 = .ok (.iload_n 1, 1) := by decide +kernel
theorem dX10_turnOver_23 : decode cX10_turnOver 23 = .ok (.aload_n 0, 1) := by decide +kernel
theorem dX10_turnOver_24 : decode cX10_turnOver 24 = .ok (.getfield 47, 3) := by decide +kernel
theorem dX10_turnOver_27 : decode cX10_turnOver 27 = .ok (.iload_n 1, 1) := by decide +kernel
theorem dX10_turnOver_28 : decode cX10_turnOver 28 = .ok (.laload, 1) := by decide +kernel
theorem dX10_turnOver_29 : decode cX10_turnOver 29 = .ok (.lastore, 1) := by decide +kernel
theorem dX10_turnOver_30 : decode cX10_turnOver 30 = .ok (.aload_n 0, 1) := by decide +kernel
theorem dX10_turnOver_31 : decode cX10_turnOver 31 = .ok (.getfield 57, 3) := by decide +kernel
theorem dX10_turnOver_34 : decode cX10_turnOver 34 = .ok (.iload_n 1, 1) := by decide +kernel
theorem dX10_turnOver_35 : decode cX10_turnOver 35 = .ok (.aload_n 0, 1) := by decide +kernel
theorem dX10_turnOver_36 : decode cX10_turnOver 36 = .ok (.getfield 51, 3) := by decide +kernel
theorem dX10_turnOver_39 : decode cX10_turnOver 39 = .ok (.iload_n 1, 1) := by decide +kernel
theorem dX10_turnOver_40 : decode cX10_turnOver 40 = .ok (.laload, 1) := by decide +kernel
theorem dX10_turnOver_41 : decode cX10_turnOver 41 = .ok (.lastore, 1) := by decide +kernel
theorem dX10_turnOver_42 : decode cX10_turnOver 42 = .ok (.iinc 1 1, 3) := by decide +kernel
theorem dX10_turnOver_45 : decode cX10_turnOver 45 = .ok (.goto (-35), 3) := by decide +kernel
theorem dX10_turnOver_48 : decode cX10_turnOver 48 = .ok (.aload_n 0, 1) := by decide +kernel
theorem dX10_turnOver_49 : decode cX10_turnOver 49 = .ok (.iconst 0, 1) := by decide +kernel
theorem dX10_turnOver_50 : decode cX10_turnOver 50 = .ok (.putfield 124, 3) := by decide +kernel
theorem dX10_turnOver_53 : decode cX10_turnOver 53 = .ok (.return_, 1) := by decide +kernel
theorem dX10_part_0 : decode cX10_part 0 = .ok (.lload_n 0, 1) := by decide +kernel
theorem dX10_part_1 : decode cX10_part 1 = .ok (.iconst 5, 1) := by decide +kernel
theorem dX10_part_2 : decode cX10_part 2 = .ok (.iload_n 2, 1) := by decide +kernel
theorem dX10_part_3 : decode cX10_part 3 = .ok (.imul, 1) := by decide +kernel
theorem dX10_part_4 : decode cX10_part 4 = .ok (.lshr, 1) := by decide +kernel
theorem dX10_part_5 : decode cX10_part 5 = .ok (.ldc2_w 160, 3) := by decide +kernel
theorem dX10_part_8 : decode cX10_part 8 = .ok (.land, 1) := by decide +kernel
theorem dX10_part_9 : decode cX10_part 9 = .ok (.l2i, 1) := by decide +kernel
theorem dX10_part_10 : decode cX10_part 10 = .ok (.ireturn, 1) := by decide +kernel
theorem dX10_strip_0 : decode cX10_strip 0 = .ok (.iconst 0, 1) := by decide +kernel
theorem dX10_strip_1 : decode cX10_strip 1 = .ok (.istore 6, 2) := by decide +kernel
theorem dX10_strip_3 : decode cX10_strip 3 = .ok (.iload 6, 2) := by decide +kernel
theorem dX10_strip_5 : decode cX10_strip 5 = .ok (.bipush 9, 2) := by decide +kernel
theorem dX10_strip_7 : decode cX10_strip 7 = .ok (.if_icmp .ge 17, 3) := by decide +kernel
theorem dX10_strip_10 : decode cX10_strip 10 = .ok (.aload_n 0, 1) := by decide +kernel
theorem dX10_strip_11 : decode cX10_strip 11 = .ok (.getfield 35, 3) := by decide +kernel
theorem dX10_strip_14 : decode cX10_strip 14 = .ok (.iload 6, 2) := by decide +kernel
theorem dX10_strip_16 : decode cX10_strip 16 = .ok (.iconst 0, 1) := by decide +kernel
theorem dX10_strip_17 : decode cX10_strip 17 = .ok (.iastore, 1) := by decide +kernel
theorem dX10_strip_18 : decode cX10_strip 18 = .ok (.iinc 6 1, 3) := by decide +kernel
theorem dX10_strip_21 : decode cX10_strip 21 = .ok (.goto (-18), 3) := by decide +kernel
theorem dX10_strip_24 : decode cX10_strip 24 = .ok (.iconst 1, 1) := by decide +kernel
theorem dX10_strip_25 : decode cX10_strip 25 = .ok (.istore 6, 2) := by decide +kernel
theorem dX10_strip_27 : decode cX10_strip 27 = .ok (.iload 6, 2) := by decide +kernel
theorem dX10_strip_29 : decode cX10_strip 29 = .ok (.ifCond .eq 160, 3) := by decide +kernel
theorem dX10_strip_32 : decode cX10_strip 32 = .ok (.iconst 0, 1) := by decide +kernel
theorem dX10_strip_33 : decode cX10_strip 33 = .ok (.istore 7, 2) := by decide +kernel
theorem dX10_strip_35 : decode cX10_strip 35 = .ok (.lconst 0, 1) := by decide +kernel
theorem dX10_strip_36 : decode cX10_strip 36 = .ok (.lstore 8, 2) := by decide +kernel
theorem dX10_strip_38 : decode cX10_strip 38 = .ok (.bipush 7, 2) := by decide +kernel
theorem dX10_strip_40 : decode cX10_strip 40 = .ok (.istore 10, 2) := by decide +kernel
theorem dX10_strip_42 : decode cX10_strip 42 = .ok (.iload 10, 2) := by decide +kernel
theorem dX10_strip_44 : decode cX10_strip 44 = .ok (.ifCond .lt 43, 3) := by decide +kernel
theorem dX10_strip_47 : decode cX10_strip 47 = .ok (.iload 7, 2) := by decide +kernel
theorem dX10_strip_49 : decode cX10_strip 49 = .ok (.aload_n 0, 1) := by decide +kernel
theorem dX10_strip_50 : decode cX10_strip 50 = .ok (.getfield 35, 3) := by decide +kernel
theorem dX10_strip_53 : decode cX10_strip 53 = .ok (.iload 10, 2) := by decide +kernel
theorem dX10_strip_55 : decode cX10_strip 55 = .ok (.iaload, 1) := by decide +kernel
theorem dX10_strip_56 : decode cX10_strip 56 = .ok (.iadd, 1) := by decide +kernel
theorem dX10_strip_57 : decode cX10_strip 57 = .ok (.istore 7, 2) := by decide +kernel
theorem dX10_strip_59 : decode cX10_strip 59 = .ok (.lload 8, 2) := by decide +kernel
theorem dX10_strip_61 : decode cX10_strip 61 = .ok (.iconst 5, 1) := by decide +kernel
theorem dX10_strip_62 : decode cX10_strip 62 = .ok (.lshl, 1) := by decide +kernel
theorem dX10_strip_63 : decode cX10_strip 63 = .ok (.lload_n 1, 1) := by decide +kernel
theorem dX10_strip_64 : decode cX10_strip 64 = .ok (.iload 10, 2) := by decide +kernel
theorem dX10_strip_66 : decode cX10_strip 66 = .ok (.invokestatic 162, 3) := by decide +kernel
theorem dX10_strip_69 : decode cX10_strip 69 = .ok (.aload_n 0, 1) := by decide +kernel
theorem dX10_strip_70 : decode cX10_strip 70 = .ok (.getfield 35, 3) := by decide +kernel
theorem dX10_strip_73 : decode cX10_strip 73 = .ok (.iload 10, 2) := by decide +kernel
theorem dX10_strip_75 : decode cX10_strip 75 = .ok (.iaload, 1) := by decide +kernel
theorem dX10_strip_76 : decode cX10_strip 76 = .ok (.isub, 1) := by decide +kernel
theorem dX10_strip_77 : decode cX10_strip 77 = .ok (.i2l, 1) := by decide +kernel
theorem dX10_strip_78 : decode cX10_strip 78 = .ok (.lor, 1) := by decide +kernel
theorem dX10_strip_79 : decode cX10_strip 79 = .ok (.lstore 8, 2) := by decide +kernel
theorem dX10_strip_81 : decode cX10_strip 81 = .ok (.iinc 10 (-1), 3) := by decide +kernel
theorem dX10_strip_84 : decode cX10_strip 84 = .ok (.goto (-42), 3) := by decide +kernel
theorem dX10_strip_87 : decode cX10_strip 87 = .ok (.iload 7, 2) := by decide +kernel
theorem dX10_strip_89 : decode cX10_strip 89 = .ok (.iload_n 3, 1) := by decide +kernel
theorem dX10_strip_90 : decode cX10_strip 90 = .ok (.if_icmp .ne 11, 3) := by decide +kernel
theorem dX10_strip_93 : decode cX10_strip 93 = .ok (.aload_n 0, 1) := by decide +kernel
theorem dX10_strip_94 : decode cX10_strip 94 = .ok (.lload 8, 2) := by decide +kernel
theorem dX10_strip_96 : decode cX10_strip 96 = .ok (.lload 4, 2) := by decide +kernel
theorem dX10_strip_98 : decode cX10_strip 98 = .ok (.invokevirtual 166, 3) := by decide +kernel
theorem dX10_strip_101 : decode cX10_strip 101 = .ok (.iconst 0, 1) := by decide +kernel
theorem dX10_strip_102 : decode cX10_strip 102 = .ok (.istore 10, 2) := by decide +kernel
theorem dX10_strip_104 : decode cX10_strip 104 = .ok (.iload 10, 2) := by decide +kernel
theorem dX10_strip_106 : decode cX10_strip 106 = .ok (.bipush 8, 2) := by decide +kernel
theorem dX10_strip_108 : decode cX10_strip 108 = .ok (.if_icmp .ge 53, 3) := by decide +kernel
theorem dX10_strip_111 : decode cX10_strip 111 = .ok (.aload_n 0, 1) := by decide +kernel
theorem dX10_strip_112 : decode cX10_strip 112 = .ok (.getfield 35, 3) := by decide +kernel
theorem dX10_strip_115 : decode cX10_strip 115 = .ok (.iload 10, 2) := by decide +kernel
theorem dX10_strip_117 : decode cX10_strip 117 = .ok (.iaload, 1) := by decide +kernel
theorem dX10_strip_118 : decode cX10_strip 118 = .ok (.lload_n 1, 1) := by decide +kernel
theorem dX10_strip_119 : decode cX10_strip 119 = .ok (.iload 10, 2) := by decide +kernel
theorem dX10_strip_121 : decode cX10_strip 121 = .ok (.invokestatic 162, 3) := by decide +kernel
theorem dX10_strip_124 : decode cX10_strip 124 = .ok (.iload 10, 2) := by decide +kernel
theorem dX10_strip_126 : decode cX10_strip 126 = .ok (.bipush 7, 2) := by decide +kernel
theorem dX10_strip_128 : decode cX10_strip 128 = .ok (.if_icmp .ne 7, 3) := by decide +kernel
theorem dX10_strip_131 : decode cX10_strip 131 = .ok (.iconst 0, 1) := by decide +kernel
theorem dX10_strip_132 : decode cX10_strip 132 = .ok (.goto 11, 3) := by decide +kernel
theorem dX10_strip_135 : decode cX10_strip 135 = .ok (.lload_n 1, 1) := by decide +kernel
theorem dX10_strip_136 : decode cX10_strip 136 = .ok (.iload 10, 2) := by decide +kernel
theorem dX10_strip_138 : decode cX10_strip 138 = .ok (.iconst 1, 1) := by decide +kernel
theorem dX10_strip_139 : decode cX10_strip 139 = .ok (.iadd, 1) := by decide +kernel
theorem dX10_strip_140 : decode cX10_strip 140 = .ok (.invokestatic 162, 3) := by decide +kernel
theorem dX10_strip_143 : decode cX10_strip 143 = .ok (.isub, 1) := by decide +kernel
theorem dX10_strip_144 : decode cX10_strip 144 = .ok (.if_icmp .ne 17, 3) := by decide +kernel
theorem dX10_strip_147 : decode cX10_strip 147 = .ok (.aload_n 0, 1) := by decide +kernel
theorem dX10_strip_148 : decode cX10_strip 148 = .ok (.getfield 35, 3) := by decide +kernel
theorem dX10_strip_151 : decode cX10_strip 151 = .ok (.iload 10, 2) := by decide +kernel
theorem dX10_strip_153 : decode cX10_strip 153 = .ok (.iconst 0, 1) := by decide +kernel
theorem dX10_strip_154 : decode cX10_strip 154 = .ok (.iastore, 1) := by decide +kernel
theorem dX10_strip_155 : decode cX10_strip 155 = .ok (.iinc 10 1, 3) := by decide +kernel
theorem dX10_strip_158 : decode cX10_strip 158 = .ok (.goto (-54), 3) := by decide +kernel
theorem dX10_strip_161 : decode cX10_strip 161 = .ok (.iload 10, 2) := by decide +kernel
theorem dX10_strip_163 : decode cX10_strip 163 = .ok (.bipush 8, 2) := by decide +kernel
theorem dX10_strip_165 : decode cX10_strip 165 = .ok (.if_icmp .ge 7, 3) := by decide +kernel
theorem dX10_strip_168 : decode cX10_strip 168 = .ok (.iconst 1, 1) := by decide +kernel
theorem dX10_strip_169 : decode cX10_strip 169 = .ok (.goto 4, 3) := by decide +kernel
theorem dX10_strip_172 : decode cX10_strip 172 = .ok (.iconst 0, 1) := by decide +kernel
theorem dX10_strip_173 : decode cX10_strip 173 = .ok (.istore 6, 2) := by decide +kernel
theorem dX10_strip_175 : decode cX10_strip 175 = .ok (.aload_n 0, 1) := by decide +kernel
theorem dX10_strip_176 : decode cX10_strip 176 = .ok (.getfield 35, 3) := by decide +kernel
theorem dX10_strip_179 : decode cX10_strip 179 = .ok (.iload 10, 2) := by decide +kernel
theorem dX10_strip_181 : decode cX10_strip 181 = .ok (.dup2, 1) := by decide +kernel
theorem dX10_strip_182 : decode cX10_strip 182 = .ok (.iaload, 1) := by decide +kernel
theorem dX10_strip_183 : decode cX10_strip 183 = .ok (.iconst 1, 1) := by decide +kernel
theorem dX10_strip_184 : decode cX10_strip 184 = .ok (.iadd, 1) := by decide +kernel
theorem dX10_strip_185 : decode cX10_strip 185 = .ok (.iastore, 1) := by decide +kernel
theorem dX10_strip_186 : decode cX10_strip 186 = .ok (.goto (-159), 3) := by decide +kernel
theorem dX10_strip_189 : decode cX10_strip 189 = .ok (.return_, 1) := by decide +kernel
theorem dX10_fillings_0 : decode cX10_fillings 0 = .ok (.aload_n 0, 1) := by decide +kernel
theorem dX10_fillings_1 : decode cX10_fillings 1 = .ok (.iload_n 1, 1) := by decide +kernel
theorem dX10_fillings_2 : decode cX10_fillings 2 = .ok (.invokestatic 67, 3) := by decide +kernel
theorem dX10_fillings_5 : decode cX10_fillings 5 = .ok (.ifCond .eq 10, 3) := by decide +kernel
theorem dX10_fillings_8 : decode cX10_fillings 8 = .ok (.iload_n 2, 1) := by decide +kernel
theorem dX10_fillings_9 : decode cX10_fillings 9 = .ok (.invokestatic 81, 3) := by decide +kernel
theorem dX10_fillings_12 : decode cX10_fillings 12 = .ok (.ifCond .ne 7, 3) := by decide +kernel
theorem dX10_fillings_15 : decode cX10_fillings 15 = .ok (.iconst 1, 1) := by decide +kernel
theorem dX10_fillings_16 : decode cX10_fillings 16 = .ok (.goto 4, 3) := by decide +kernel
theorem dX10_fillings_19 : decode cX10_fillings 19 = .ok (.iconst 0, 1) := by decide +kernel
theorem dX10_fillings_20 : decode cX10_fillings 20 = .ok (.putfield 63, 3) := by decide +kernel
theorem dX10_fillings_23 : decode cX10_fillings 23 = .ok (.aload_n 0, 1) := by decide +kernel
theorem dX10_fillings_24 : decode cX10_fillings 24 = .ok (.getfield 63, 3) := by decide +kernel
theorem dX10_fillings_27 : decode cX10_fillings 27 = .ok (.ifCond .gt 17, 3) := by decide +kernel
theorem dX10_fillings_30 : decode cX10_fillings 30 = .ok (.aload_n 0, 1) := by decide +kernel
theorem dX10_fillings_31 : decode cX10_fillings 31 = .ok (.getfield 16, 3) := by decide +kernel
theorem dX10_fillings_34 : decode cX10_fillings 34 = .ok (.iload_n 2, 1) := by decide +kernel
theorem dX10_fillings_35 : decode cX10_fillings 35 = .ok (.iaload, 1) := by decide +kernel
theorem dX10_fillings_36 : decode cX10_fillings 36 = .ok (.aload_n 0, 1) := by decide +kernel
theorem dX10_fillings_37 : decode cX10_fillings 37 = .ok (.iload_n 1, 1) := by decide +kernel
theorem dX10_fillings_38 : decode cX10_fillings 38 = .ok (.invokevirtual 77, 3) := by decide +kernel
theorem dX10_fillings_41 : decode cX10_fillings 41 = .ok (.if_icmp .eq 5, 3) := by decide +kernel
theorem dX10_fillings_44 : decode cX10_fillings 44 = .ok (.lconst 0, 1) := by decide +kernel
theorem dX10_fillings_45 : decode cX10_fillings 45 = .ok (.lreturn, 1) := by decide +kernel
theorem dX10_fillings_46 : decode cX10_fillings 46 = .ok (.iconst 0, 1) := by decide +kernel
theorem dX10_fillings_47 : decode cX10_fillings 47 = .ok (.istore_n 3, 1) := by decide +kernel
theorem dX10_fillings_48 : decode cX10_fillings 48 = .ok (.iload_n 3, 1) := by decide +kernel
theorem dX10_fillings_49 : decode cX10_fillings 49 = .ok (.bipush 17, 2) := by decide +kernel
theorem dX10_fillings_51 : decode cX10_fillings 51 = .ok (.if_icmp .ge 16, 3) := by decide +kernel
theorem dX10_fillings_54 : decode cX10_fillings 54 = .ok (.aload_n 0, 1) := by decide +kernel
theorem dX10_fillings_55 : decode cX10_fillings 55 = .ok (.getfield 44, 3) := by decide +kernel
theorem dX10_fillings_58 : decode cX10_fillings 58 = .ok (.iload_n 3, 1) := by decide +kernel
theorem dX10_fillings_59 : decode cX10_fillings 59 = .ok (.iconst 0, 1) := by decide +kernel
theorem dX10_fillings_60 : decode cX10_fillings 60 = .ok (.iastore, 1) := by decide +kernel
theorem dX10_fillings_61 : decode cX10_fillings 61 = .ok (.iinc 3 1, 3) := by decide +kernel
theorem dX10_fillings_64 : decode cX10_fillings 64 = .ok (.goto (-16), 3) := by decide +kernel
theorem dX10_fillings_67 : decode cX10_fillings 67 = .ok (.iconst 0, 1) := by decide +kernel
theorem dX10_fillings_68 : decode cX10_fillings 68 = .ok (.istore_n 3, 1) := by decide +kernel
theorem dX10_fillings_69 : decode cX10_fillings 69 = .ok (.iload_n 3, 1) := by decide +kernel
theorem dX10_fillings_70 : decode cX10_fillings 70 = .ok (.aload_n 0, 1) := by decide +kernel
theorem dX10_fillings_71 : decode cX10_fillings 71 = .ok (.getfield 16, 3) := by decide +kernel
theorem dX10_fillings_74 : decode cX10_fillings 74 = .ok (.iload_n 2, 1) := by decide +kernel
theorem dX10_fillings_75 : decode cX10_fillings 75 = .ok (.iaload, 1) := by decide +kernel
theorem dX10_fillings_76 : decode cX10_fillings 76 = .ok (.if_icmp .ge 29, 3) := by decide +kernel
theorem dX10_fillings_79 : decode cX10_fillings 79 = .ok (.aload_n 0, 1) := by decide +kernel
theorem dX10_fillings_80 : decode cX10_fillings 80 = .ok (.getfield 44, 3) := by decide +kernel
theorem dX10_fillings_83 : decode cX10_fillings 83 = .ok (.aload_n 0, 1) := by decide +kernel
theorem dX10_fillings_84 : decode cX10_fillings 84 = .ok (.getfield 13, 3) := by decide +kernel
theorem dX10_fillings_87 : decode cX10_fillings 87 = .ok (.bipush 16, 2) := by decide +kernel
theorem dX10_fillings_89 : decode cX10_fillings 89 = .ok (.iload_n 2, 1) := by decide +kernel
theorem dX10_fillings_90 : decode cX10_fillings 90 = .ok (.imul, 1) := by decide +kernel
theorem dX10_fillings_91 : decode cX10_fillings 91 = .ok (.iload_n 3, 1) := by decide +kernel
theorem dX10_fillings_92 : decode cX10_fillings 92 = .ok (.iadd, 1) := by decide +kernel
theorem dX10_fillings_93 : decode cX10_fillings 93 = .ok (.iaload, 1) := by decide +kernel
theorem dX10_fillings_94 : decode cX10_fillings 94 = .ok (.dup2, 1) := by decide +kernel
theorem dX10_fillings_95 : decode cX10_fillings 95 = .ok (.iaload, 1) := by decide +kernel
theorem dX10_fillings_96 : decode cX10_fillings 96 = .ok (.iconst 1, 1) := by decide +kernel
theorem dX10_fillings_97 : decode cX10_fillings 97 = .ok (.iadd, 1) := by decide +kernel
theorem dX10_fillings_98 : decode cX10_fillings 98 = .ok (.iastore, 1) := by decide +kernel
theorem dX10_fillings_99 : decode cX10_fillings 99 = .ok (.iinc 3 1, 3) := by decide +kernel
theorem dX10_fillings_102 : decode cX10_fillings 102 = .ok (.goto (-33), 3) := by decide +kernel
theorem dX10_fillings_105 : decode cX10_fillings 105 = .ok (.lconst 0, 1) := by decide +kernel
theorem dX10_fillings_106 : decode cX10_fillings 106 = .ok (.lstore_n 3, 1) := by decide +kernel
theorem dX10_fillings_107 : decode cX10_fillings 107 = .ok (.bipush 7, 2) := by decide +kernel
theorem dX10_fillings_109 : decode cX10_fillings 109 = .ok (.istore 5, 2) := by decide +kernel
theorem dX10_fillings_111 : decode cX10_fillings 111 = .ok (.iload 5, 2) := by decide +kernel
theorem dX10_fillings_113 : decode cX10_fillings 113 = .ok (.ifCond .lt 22, 3) := by decide +kernel
theorem dX10_fillings_116 : decode cX10_fillings 116 = .ok (.lload_n 3, 1) := by decide +kernel
theorem dX10_fillings_117 : decode cX10_fillings 117 = .ok (.iconst 5, 1) := by decide +kernel
theorem dX10_fillings_118 : decode cX10_fillings 118 = .ok (.lshl, 1) := by decide +kernel
theorem dX10_fillings_119 : decode cX10_fillings 119 = .ok (.aload_n 0, 1) := by decide +kernel
theorem dX10_fillings_120 : decode cX10_fillings 120 = .ok (.iload_n 1, 1) := by decide +kernel
theorem dX10_fillings_121 : decode cX10_fillings 121 = .ok (.iload 5, 2) := by decide +kernel
theorem dX10_fillings_123 : decode cX10_fillings 123 = .ok (.invokevirtual 73, 3) := by decide +kernel
theorem dX10_fillings_126 : decode cX10_fillings 126 = .ok (.i2l, 1) := by decide +kernel
theorem dX10_fillings_127 : decode cX10_fillings 127 = .ok (.lor, 1) := by decide +kernel
theorem dX10_fillings_128 : decode cX10_fillings 128 = .ok (.lstore_n 3, 1) := by decide +kernel
theorem dX10_fillings_129 : decode cX10_fillings 129 = .ok (.iinc 5 (-1), 3) := by decide +kernel
theorem dX10_fillings_132 : decode cX10_fillings 132 = .ok (.goto (-21), 3) := by decide +kernel
theorem dX10_fillings_135 : decode cX10_fillings 135 = .ok (.aload_n 0, 1) := by decide +kernel
theorem dX10_fillings_136 : decode cX10_fillings 136 = .ok (.iconst 0, 1) := by decide +kernel
theorem dX10_fillings_137 : decode cX10_fillings 137 = .ok (.putfield 124, 3) := by decide +kernel
theorem dX10_fillings_140 : decode cX10_fillings 140 = .ok (.aload_n 0, 1) := by decide +kernel
theorem dX10_fillings_141 : decode cX10_fillings 141 = .ok (.lload_n 3, 1) := by decide +kernel
theorem dX10_fillings_142 : decode cX10_fillings 142 = .ok (.lconst 1, 1) := by decide +kernel
theorem dX10_fillings_143 : decode cX10_fillings 143 = .ok (.invokevirtual 166, 3) := by decide +kernel
theorem dX10_fillings_146 : decode cX10_fillings 146 = .ok (.iconst 1, 1) := by decide +kernel
theorem dX10_fillings_147 : decode cX10_fillings 147 = .ok (.istore 5, 2) := by decide +kernel
theorem dX10_fillings_149 : decode cX10_fillings 149 = .ok (.iload 5, 2) := by decide +kernel
theorem dX10_fillings_151 : decode cX10_fillings 151 = .ok (.bipush 17, 2) := by decide +kernel
theorem dX10_fillings_153 : decode cX10_fillings 153 = .ok (.if_icmp .ge 66, 3) := by decide +kernel
theorem dX10_fillings_156 : decode cX10_fillings 156 = .ok (.aload_n 0, 1) := by decide +kernel
theorem dX10_fillings_157 : decode cX10_fillings 157 = .ok (.getfield 44, 3) := by decide +kernel
theorem dX10_fillings_160 : decode cX10_fillings 160 = .ok (.iload 5, 2) := by decide +kernel
theorem dX10_fillings_162 : decode cX10_fillings 162 = .ok (.iaload, 1) := by decide +kernel
theorem dX10_fillings_163 : decode cX10_fillings 163 = .ok (.ifCond .le 50, 3) := by decide +kernel
theorem dX10_fillings_166 : decode cX10_fillings 166 = .ok (.aload_n 0, 1) := by decide +kernel
theorem dX10_fillings_167 : decode cX10_fillings 167 = .ok (.invokevirtual 170, 3) := by decide +kernel
theorem dX10_fillings_170 : decode cX10_fillings 170 = .ok (.iconst 0, 1) := by decide +kernel
theorem dX10_fillings_171 : decode cX10_fillings 171 = .ok (.istore 6, 2) := by decide +kernel
theorem dX10_fillings_173 : decode cX10_fillings 173 = .ok (.iload 6, 2) := by decide +kernel
theorem dX10_fillings_175 : decode cX10_fillings 175 = .ok (.aload_n 0, 1) := by decide +kernel
theorem dX10_fillings_176 : decode cX10_fillings 176 = .ok (.getfield 157, 3) := by decide +kernel
theorem dX10_fillings_179 : decode cX10_fillings 179 = .ok (.if_icmp .ge 34, 3) := by decide +kernel
theorem dX10_fillings_182 : decode cX10_fillings 182 = .ok (.aload_n 0, 1) := by decide +kernel
theorem dX10_fillings_183 : decode cX10_fillings 183 = .ok (.aload_n 0, 1) := by decide +kernel
theorem dX10_fillings_184 : decode cX10_fillings 184 = .ok (.getfield 54, 3) := by decide +kernel
theorem dX10_fillings_187 : decode cX10_fillings 187 = .ok (.iload 6, 2) := by decide +kernel
theorem dX10_fillings_189 : decode cX10_fillings 189 = .ok (.laload, 1) := by decide +kernel
theorem dX10_fillings_190 : decode cX10_fillings 190 = .ok (.aload_n 0, 1) := by decide +kernel
theorem dX10_fillings_191 : decode cX10_fillings 191 = .ok (.getfield 44, 3) := by decide +kernel
theorem dX10_fillings_194 : decode cX10_fillings 194 = .ok (.iload 5, 2) := by decide +kernel
theorem dX10_fillings_196 : decode cX10_fillings 196 = .ok (.iaload, 1) := by decide +kernel
theorem dX10_fillings_197 : decode cX10_fillings 197 = .ok (.aload_n 0, 1) := by decide +kernel
theorem dX10_fillings_198 : decode cX10_fillings 198 = .ok (.getfield 57, 3) := by decide +kernel
theorem dX10_fillings_201 : decode cX10_fillings 201 = .ok (.iload 6, 2) := by decide +kernel
theorem dX10_fillings_203 : decode cX10_fillings 203 = .ok (.laload, 1) := by decide +kernel
theorem dX10_fillings_204 : decode cX10_fillings 204 = .ok (.invokevirtual 173, 3) := by decide +kernel
theorem dX10_fillings_207 : decode cX10_fillings 207 = .ok (.iinc 6 1, 3) := by decide +kernel
theorem dX10_fillings_210 : decode cX10_fillings 210 = .ok (.goto (-37), 3) := by decide +kernel
theorem dX10_fillings_213 : decode cX10_fillings 213 = .ok (.iinc 5 1, 3) := by decide +kernel
theorem dX10_fillings_216 : decode cX10_fillings 216 = .ok (.goto (-67), 3) := by decide +kernel
theorem dX10_fillings_219 : decode cX10_fillings 219 = .ok (.aload_n 0, 1) := by decide +kernel
theorem dX10_fillings_220 : decode cX10_fillings 220 = .ok (.getfield 124, 3) := by decide +kernel
theorem dX10_fillings_223 : decode cX10_fillings 223 = .ok (.ifCond .ne 7, 3) := by decide +kernel
theorem dX10_fillings_226 : decode cX10_fillings 226 = .ok (.lconst 0, 1) := by decide +kernel
theorem dX10_fillings_227 : decode cX10_fillings 227 = .ok (.goto 9, 3) := by decide +kernel
theorem dX10_fillings_230 : decode cX10_fillings 230 = .ok (.aload_n 0, 1) := by decide +kernel
theorem dX10_fillings_231 : decode cX10_fillings 231 = .ok (.getfield 51, 3) := by decide +kernel
theorem dX10_fillings_234 : decode cX10_fillings 234 = .ok (.iconst 0, 1) := by decide +kernel
theorem dX10_fillings_235 : decode cX10_fillings 235 = .ok (.laload, 1) := by decide +kernel
theorem dX10_fillings_236 : decode cX10_fillings 236 = .ok (.lreturn, 1) := by decide +kernel
theorem dX10_grows_0 : decode cX10_grows 0 = .ok (.aload_n 0, 1) := by decide +kernel
theorem dX10_grows_1 : decode cX10_grows 1 = .ok (.getfield 38, 3) := by decide +kernel
theorem dX10_grows_4 : decode cX10_grows 4 = .ok (.iload_n 1, 1) := by decide +kernel
theorem dX10_grows_5 : decode cX10_grows 5 = .ok (.iaload, 1) := by decide +kernel
theorem dX10_grows_6 : decode cX10_grows 6 = .ok (.aload_n 0, 1) := by decide +kernel
theorem dX10_grows_7 : decode cX10_grows 7 = .ok (.getfield 41, 3) := by decide +kernel
theorem dX10_grows_10 : decode cX10_grows 10 = .ok (.iload_n 1, 1) := by decide +kernel
theorem dX10_grows_11 : decode cX10_grows 11 = .ok (.iaload, 1) := by decide +kernel
theorem dX10_grows_12 : decode cX10_grows 12 = .ok (.if_icmp .ge 28, 3) := by decide +kernel
theorem dX10_grows_15 : decode cX10_grows 15 = .ok (.iload_n 1, 1) := by decide +kernel
theorem dX10_grows_16 : decode cX10_grows 16 = .ok (.ifCond .eq 20, 3) := by decide +kernel
theorem dX10_grows_19 : decode cX10_grows 19 = .ok (.aload_n 0, 1) := by decide +kernel
theorem dX10_grows_20 : decode cX10_grows 20 = .ok (.getfield 38, 3) := by decide +kernel
theorem dX10_grows_23 : decode cX10_grows 23 = .ok (.iload_n 1, 1) := by decide +kernel
theorem dX10_grows_24 : decode cX10_grows 24 = .ok (.iconst 1, 1) := by decide +kernel
theorem dX10_grows_25 : decode cX10_grows 25 = .ok (.isub, 1) := by decide +kernel
theorem dX10_grows_26 : decode cX10_grows 26 = .ok (.iaload, 1) := by decide +kernel
theorem dX10_grows_27 : decode cX10_grows 27 = .ok (.aload_n 0, 1) := by decide +kernel
theorem dX10_grows_28 : decode cX10_grows 28 = .ok (.getfield 38, 3) := by decide +kernel
theorem dX10_grows_31 : decode cX10_grows 31 = .ok (.iload_n 1, 1) := by decide +kernel
theorem dX10_grows_32 : decode cX10_grows 32 = .ok (.iaload, 1) := by decide +kernel
theorem dX10_grows_33 : decode cX10_grows 33 = .ok (.if_icmp .le 7, 3) := by decide +kernel
theorem dX10_grows_36 : decode cX10_grows 36 = .ok (.iconst 1, 1) := by decide +kernel
theorem dX10_grows_37 : decode cX10_grows 37 = .ok (.goto 4, 3) := by decide +kernel
theorem dX10_grows_40 : decode cX10_grows 40 = .ok (.iconst 0, 1) := by decide +kernel
theorem dX10_grows_41 : decode cX10_grows 41 = .ok (.ireturn, 1) := by decide +kernel
theorem dX10_coefficient_0 : decode cX10_coefficient 0 = .ok (.aload_n 0, 1) := by decide +kernel
theorem dX10_coefficient_1 : decode cX10_coefficient 1 = .ok (.iload_n 1, 1) := by decide +kernel
theorem dX10_coefficient_2 : decode cX10_coefficient 2 = .ok (.invokestatic 67, 3) := by decide +kernel
theorem dX10_coefficient_5 : decode cX10_coefficient 5 = .ok (.ifCond .eq 17, 3) := by decide +kernel
theorem dX10_coefficient_8 : decode cX10_coefficient 8 = .ok (.iload_n 2, 1) := by decide +kernel
theorem dX10_coefficient_9 : decode cX10_coefficient 9 = .ok (.invokestatic 67, 3) := by decide +kernel
theorem dX10_coefficient_12 : decode cX10_coefficient 12 = .ok (.ifCond .eq 10, 3) := by decide +kernel
theorem dX10_coefficient_15 : decode cX10_coefficient 15 = .ok (.iload_n 3, 1) := by decide +kernel
theorem dX10_coefficient_16 : decode cX10_coefficient 16 = .ok (.invokestatic 67, 3) := by decide +kernel
theorem dX10_coefficient_19 : decode cX10_coefficient 19 = .ok (.ifCond .ne 7, 3) := by decide +kernel
theorem dX10_coefficient_22 : decode cX10_coefficient 22 = .ok (.iconst 1, 1) := by decide +kernel
theorem dX10_coefficient_23 : decode cX10_coefficient 23 = .ok (.goto 4, 3) := by decide +kernel
theorem dX10_coefficient_26 : decode cX10_coefficient 26 = .ok (.iconst 0, 1) := by decide +kernel
theorem dX10_coefficient_27 : decode cX10_coefficient 27 = .ok (.putfield 63, 3) := by decide +kernel
theorem dX10_coefficient_30 : decode cX10_coefficient 30 = .ok (.aload_n 0, 1) := by decide +kernel
theorem dX10_coefficient_31 : decode cX10_coefficient 31 = .ok (.getfield 63, 3) := by decide +kernel
theorem dX10_coefficient_34 : decode cX10_coefficient 34 = .ok (.ifCond .gt 31, 3) := by decide +kernel
theorem dX10_coefficient_37 : decode cX10_coefficient 37 = .ok (.aload_n 0, 1) := by decide +kernel
theorem dX10_coefficient_38 : decode cX10_coefficient 38 = .ok (.iload_n 1, 1) := by decide +kernel
theorem dX10_coefficient_39 : decode cX10_coefficient 39 = .ok (.iload_n 3, 1) := by decide +kernel
theorem dX10_coefficient_40 : decode cX10_coefficient 40 = .ok (.invokevirtual 127, 3) := by decide +kernel
theorem dX10_coefficient_43 : decode cX10_coefficient 43 = .ok (.ifCond .eq 22, 3) := by decide +kernel
theorem dX10_coefficient_46 : decode cX10_coefficient 46 = .ok (.aload_n 0, 1) := by decide +kernel
theorem dX10_coefficient_47 : decode cX10_coefficient 47 = .ok (.iload_n 1, 1) := by decide +kernel
theorem dX10_coefficient_48 : decode cX10_coefficient 48 = .ok (.invokevirtual 77, 3) := by decide +kernel
theorem dX10_coefficient_51 : decode cX10_coefficient 51 = .ok (.aload_n 0, 1) := by decide +kernel
theorem dX10_coefficient_52 : decode cX10_coefficient 52 = .ok (.iload_n 2, 1) := by decide +kernel
theorem dX10_coefficient_53 : decode cX10_coefficient 53 = .ok (.invokevirtual 77, 3) := by decide +kernel
theorem dX10_coefficient_56 : decode cX10_coefficient 56 = .ok (.iadd, 1) := by decide +kernel
theorem dX10_coefficient_57 : decode cX10_coefficient 57 = .ok (.aload_n 0, 1) := by decide +kernel
theorem dX10_coefficient_58 : decode cX10_coefficient 58 = .ok (.iload_n 3, 1) := by decide +kernel
theorem dX10_coefficient_59 : decode cX10_coefficient 59 = .ok (.invokevirtual 77, 3) := by decide +kernel
theorem dX10_coefficient_62 : decode cX10_coefficient 62 = .ok (.if_icmp .eq 5, 3) := by decide +kernel
theorem dX10_coefficient_65 : decode cX10_coefficient 65 = .ok (.lconst 0, 1) := by decide +kernel
theorem dX10_coefficient_66 : decode cX10_coefficient 66 = .ok (.lreturn, 1) := by decide +kernel
theorem dX10_coefficient_67 : decode cX10_coefficient 67 = .ok (.iconst 0, 1) := by decide +kernel
theorem dX10_coefficient_68 : decode cX10_coefficient 68 = .ok (.istore 4, 2) := by decide +kernel
theorem dX10_coefficient_70 : decode cX10_coefficient 70 = .ok (.iload 4, 2) := by decide +kernel
theorem dX10_coefficient_72 : decode cX10_coefficient 72 = .ok (.bipush 8, 2) := by decide +kernel
theorem dX10_coefficient_74 : decode cX10_coefficient 74 = .ok (.if_icmp .ge 37, 3) := by decide +kernel
theorem dX10_coefficient_77 : decode cX10_coefficient 77 = .ok (.aload_n 0, 1) := by decide +kernel
theorem dX10_coefficient_78 : decode cX10_coefficient 78 = .ok (.getfield 38, 3) := by decide +kernel
theorem dX10_coefficient_81 : decode cX10_coefficient 81 = .ok (.iload 4, 2) := by decide +kernel
theorem dX10_coefficient_83 : decode cX10_coefficient 83 = .ok (.aload_n 0, 1) := by decide +kernel
theorem dX10_coefficient_84 : decode cX10_coefficient 84 = .ok (.iload_n 1, 1) := by decide +kernel
theorem dX10_coefficient_85 : decode cX10_coefficient 85 = .ok (.iload 4, 2) := by decide +kernel
theorem dX10_coefficient_87 : decode cX10_coefficient 87 = .ok (.invokevirtual 73, 3) := by decide +kernel
theorem dX10_coefficient_90 : decode cX10_coefficient 90 = .ok (.iastore, 1) := by decide +kernel
theorem dX10_coefficient_91 : decode cX10_coefficient 91 = .ok (.aload_n 0, 1) := by decide +kernel
theorem dX10_coefficient_92 : decode cX10_coefficient 92 = .ok (.getfield 41, 3) := by decide +kernel
theorem dX10_coefficient_95 : decode cX10_coefficient 95 = .ok (.iload 4, 2) := by decide +kernel
theorem dX10_coefficient_97 : decode cX10_coefficient 97 = .ok (.aload_n 0, 1) := by decide +kernel
theorem dX10_coefficient_98 : decode cX10_coefficient 98 = .ok (.iload_n 3, 1) := by decide +kernel
theorem dX10_coefficient_99 : decode cX10_coefficient 99 = .ok (.iload 4, 2) := by decide +kernel
theorem dX10_coefficient_101 : decode cX10_coefficient 101 = .ok (.invokevirtual 73, 3) := by decide +kernel
theorem dX10_coefficient_104 : decode cX10_coefficient 104 = .ok (.iastore, 1) := by decide +kernel
theorem dX10_coefficient_105 : decode cX10_coefficient 105 = .ok (.iinc 4 1, 3) := by decide +kernel
theorem dX10_coefficient_108 : decode cX10_coefficient 108 = .ok (.goto (-38), 3) := by decide +kernel
theorem dX10_coefficient_111 : decode cX10_coefficient 111 = .ok (.aload_n 0, 1) := by decide +kernel
theorem dX10_coefficient_112 : decode cX10_coefficient 112 = .ok (.iload_n 2, 1) := by decide +kernel
theorem dX10_coefficient_113 : decode cX10_coefficient 113 = .ok (.invokevirtual 77, 3) := by decide +kernel
theorem dX10_coefficient_116 : decode cX10_coefficient 116 = .ok (.istore 4, 2) := by decide +kernel
theorem dX10_coefficient_118 : decode cX10_coefficient 118 = .ok (.aload_n 0, 1) := by decide +kernel
theorem dX10_coefficient_119 : decode cX10_coefficient 119 = .ok (.iconst 1, 1) := by decide +kernel
theorem dX10_coefficient_120 : decode cX10_coefficient 120 = .ok (.invokevirtual 88, 3) := by decide +kernel
theorem dX10_coefficient_123 : decode cX10_coefficient 123 = .ok (.iconst 0, 1) := by decide +kernel
theorem dX10_coefficient_124 : decode cX10_coefficient 124 = .ok (.istore 5, 2) := by decide +kernel
theorem dX10_coefficient_126 : decode cX10_coefficient 126 = .ok (.lconst 0, 1) := by decide +kernel
theorem dX10_coefficient_127 : decode cX10_coefficient 127 = .ok (.lstore 6, 2) := by decide +kernel
theorem dX10_coefficient_129 : decode cX10_coefficient 129 = .ok (.iconst 0, 1) := by decide +kernel
theorem dX10_coefficient_130 : decode cX10_coefficient 130 = .ok (.istore 8, 2) := by decide +kernel
theorem dX10_coefficient_132 : decode cX10_coefficient 132 = .ok (.aload_n 0, 1) := by decide +kernel
theorem dX10_coefficient_133 : decode cX10_coefficient 133 = .ok (.iload_n 2, 1) := by decide +kernel
theorem dX10_coefficient_134 : decode cX10_coefficient 134 = .ok (.iconst 0, 1) := by decide +kernel
theorem dX10_coefficient_135 : decode cX10_coefficient 135 = .ok (.invokevirtual 73, 3) := by decide +kernel
theorem dX10_coefficient_138 : decode cX10_coefficient 138 = .ok (.iconst 1, 1) := by decide +kernel
theorem dX10_coefficient_139 : decode cX10_coefficient 139 = .ok (.isub, 1) := by decide +kernel
theorem dX10_coefficient_140 : decode cX10_coefficient 140 = .ok (.istore 9, 2) := by decide +kernel
theorem dX10_coefficient_142 : decode cX10_coefficient 142 = .ok (.iconst 0, 1) := by decide +kernel
theorem dX10_coefficient_143 : decode cX10_coefficient 143 = .ok (.istore 10, 2) := by decide +kernel
theorem dX10_coefficient_145 : decode cX10_coefficient 145 = .ok (.iconst 0, 1) := by decide +kernel
theorem dX10_coefficient_146 : decode cX10_coefficient 146 = .ok (.istore 11, 2) := by decide +kernel
theorem dX10_coefficient_148 : decode cX10_coefficient 148 = .ok (.iload 4, 2) := by decide +kernel
theorem dX10_coefficient_150 : decode cX10_coefficient 150 = .ok (.ifCond .ne 5, 3) := by decide +kernel
theorem dX10_coefficient_153 : decode cX10_coefficient 153 = .ok (.lconst 1, 1) := by decide +kernel
theorem dX10_coefficient_154 : decode cX10_coefficient 154 = .ok (.lreturn, 1) := by decide +kernel
theorem dX10_coefficient_155 : decode cX10_coefficient 155 = .ok (.iload 5, 2) := by decide +kernel
theorem dX10_coefficient_157 : decode cX10_coefficient 157 = .ok (.ifCond .lt 257, 3) := by decide +kernel
theorem dX10_coefficient_160 : decode cX10_coefficient 160 = .ok (.iconst 0, 1) := by decide +kernel
theorem dX10_coefficient_161 : decode cX10_coefficient 161 = .ok (.istore 8, 2) := by decide +kernel
theorem dX10_coefficient_163 : decode cX10_coefficient 163 = .ok (.iload 5, 2) := by decide +kernel
theorem dX10_coefficient_165 : decode cX10_coefficient 165 = .ok (.istore 9, 2) := by decide +kernel
theorem dX10_coefficient_167 : decode cX10_coefficient 167 = .ok (.iload 9, 2) := by decide +kernel
theorem dX10_coefficient_169 : decode cX10_coefficient 169 = .ok (.aload_n 0, 1) := by decide +kernel
theorem dX10_coefficient_170 : decode cX10_coefficient 170 = .ok (.iload_n 2, 1) := by decide +kernel
theorem dX10_coefficient_171 : decode cX10_coefficient 171 = .ok (.iload 8, 2) := by decide +kernel
theorem dX10_coefficient_173 : decode cX10_coefficient 173 = .ok (.invokevirtual 73, 3) := by decide +kernel
theorem dX10_coefficient_176 : decode cX10_coefficient 176 = .ok (.if_icmp .lt 21, 3) := by decide +kernel
theorem dX10_coefficient_179 : decode cX10_coefficient 179 = .ok (.iload 9, 2) := by decide +kernel
theorem dX10_coefficient_181 : decode cX10_coefficient 181 = .ok (.aload_n 0, 1) := by decide +kernel
theorem dX10_coefficient_182 : decode cX10_coefficient 182 = .ok (.iload_n 2, 1) := by decide +kernel
theorem dX10_coefficient_183 : decode cX10_coefficient 183 = .ok (.iload 8, 2) := by decide +kernel
theorem dX10_coefficient_185 : decode cX10_coefficient 185 = .ok (.invokevirtual 73, 3) := by decide +kernel
theorem dX10_coefficient_188 : decode cX10_coefficient 188 = .ok (.isub, 1) := by decide +kernel
theorem dX10_coefficient_189 : decode cX10_coefficient 189 = .ok (.istore 9, 2) := by decide +kernel
theorem dX10_coefficient_191 : decode cX10_coefficient 191 = .ok (.iinc 8 1, 3) := by decide +kernel
theorem dX10_coefficient_194 : decode cX10_coefficient 194 = .ok (.goto (-27), 3) := by decide +kernel
theorem dX10_coefficient_197 : decode cX10_coefficient 197 = .ok (.aload_n 0, 1) := by decide +kernel
theorem dX10_coefficient_198 : decode cX10_coefficient 198 = .ok (.iload_n 2, 1) := by decide +kernel
theorem dX10_coefficient_199 : decode cX10_coefficient 199 = .ok (.iload 8, 2) := by decide +kernel
theorem dX10_coefficient_201 : decode cX10_coefficient 201 = .ok (.invokevirtual 73, 3) := by decide +kernel
theorem dX10_coefficient_204 : decode cX10_coefficient 204 = .ok (.iconst 1, 1) := by decide +kernel
theorem dX10_coefficient_205 : decode cX10_coefficient 205 = .ok (.isub, 1) := by decide +kernel
theorem dX10_coefficient_206 : decode cX10_coefficient 206 = .ok (.iload 9, 2) := by decide +kernel
theorem dX10_coefficient_208 : decode cX10_coefficient 208 = .ok (.isub, 1) := by decide +kernel
theorem dX10_coefficient_209 : decode cX10_coefficient 209 = .ok (.istore 9, 2) := by decide +kernel
theorem dX10_coefficient_211 : decode cX10_coefficient 211 = .ok (.iconst 1, 1) := by decide +kernel
theorem dX10_coefficient_212 : decode cX10_coefficient 212 = .ok (.iload 8, 2) := by decide +kernel
theorem dX10_coefficient_214 : decode cX10_coefficient 214 = .ok (.iload 9, 2) := by decide +kernel
theorem dX10_coefficient_216 : decode cX10_coefficient 216 = .ok (.invokestatic 84, 3) := by decide +kernel
theorem dX10_coefficient_219 : decode cX10_coefficient 219 = .ok (.istore 12, 2) := by decide +kernel
theorem dX10_coefficient_221 : decode cX10_coefficient 221 = .ok (.iload 11, 2) := by decide +kernel
theorem dX10_coefficient_223 : decode cX10_coefficient 223 = .ok (.ifCond .eq 33, 3) := by decide +kernel
theorem dX10_coefficient_226 : decode cX10_coefficient 226 = .ok (.aload_n 0, 1) := by decide +kernel
theorem dX10_coefficient_227 : decode cX10_coefficient 227 = .ok (.getfield 19, 3) := by decide +kernel
theorem dX10_coefficient_230 : decode cX10_coefficient 230 = .ok (.iload 12, 2) := by decide +kernel
theorem dX10_coefficient_232 : decode cX10_coefficient 232 = .ok (.iaload, 1) := by decide +kernel
theorem dX10_coefficient_233 : decode cX10_coefficient 233 = .ok (.iconst 1, 1) := by decide +kernel
theorem dX10_coefficient_234 : decode cX10_coefficient 234 = .ok (.iadd, 1) := by decide +kernel
theorem dX10_coefficient_235 : decode cX10_coefficient 235 = .ok (.istore 10, 2) := by decide +kernel
theorem dX10_coefficient_237 : decode cX10_coefficient 237 = .ok (.aload_n 0, 1) := by decide +kernel
theorem dX10_coefficient_238 : decode cX10_coefficient 238 = .ok (.getfield 38, 3) := by decide +kernel
theorem dX10_coefficient_241 : decode cX10_coefficient 241 = .ok (.aload_n 0, 1) := by decide +kernel
theorem dX10_coefficient_242 : decode cX10_coefficient 242 = .ok (.getfield 19, 3) := by decide +kernel
theorem dX10_coefficient_245 : decode cX10_coefficient 245 = .ok (.iload 12, 2) := by decide +kernel
theorem dX10_coefficient_247 : decode cX10_coefficient 247 = .ok (.iaload, 1) := by decide +kernel
theorem dX10_coefficient_248 : decode cX10_coefficient 248 = .ok (.dup2, 1) := by decide +kernel
theorem dX10_coefficient_249 : decode cX10_coefficient 249 = .ok (.iaload, 1) := by decide +kernel
theorem dX10_coefficient_250 : decode cX10_coefficient 250 = .ok (.iconst 1, 1) := by decide +kernel
theorem dX10_coefficient_251 : decode cX10_coefficient 251 = .ok (.isub, 1) := by decide +kernel
theorem dX10_coefficient_252 : decode cX10_coefficient 252 = .ok (.iastore, 1) := by decide +kernel
theorem dX10_coefficient_253 : decode cX10_coefficient 253 = .ok (.goto 31, 3) := by decide +kernel
theorem dX10_coefficient_256 : decode cX10_coefficient 256 = .ok (.iload 8, 2) := by decide +kernel
theorem dX10_coefficient_258 : decode cX10_coefficient 258 = .ok (.ifCond .ne 7, 3) := by decide +kernel
theorem dX10_coefficient_261 : decode cX10_coefficient 261 = .ok (.iconst 0, 1) := by decide +kernel
theorem dX10_coefficient_262 : decode cX10_coefficient 262 = .ok (.goto 20, 3) := by decide +kernel
theorem dX10_coefficient_265 : decode cX10_coefficient 265 = .ok (.aload_n 0, 1) := by decide +kernel
theorem dX10_coefficient_266 : decode cX10_coefficient 266 = .ok (.getfield 19, 3) := by decide +kernel
theorem dX10_coefficient_269 : decode cX10_coefficient 269 = .ok (.iconst 1, 1) := by decide +kernel
theorem dX10_coefficient_270 : decode cX10_coefficient 270 = .ok (.iload 8, 2) := by decide +kernel
theorem dX10_coefficient_272 : decode cX10_coefficient 272 = .ok (.iconst 1, 1) := by decide +kernel
theorem dX10_coefficient_273 : decode cX10_coefficient 273 = .ok (.isub, 1) := by decide +kernel
theorem dX10_coefficient_274 : decode cX10_coefficient 274 = .ok (.iload 9, 2) := by decide +kernel
theorem dX10_coefficient_276 : decode cX10_coefficient 276 = .ok (.invokestatic 84, 3) := by decide +kernel
theorem dX10_coefficient_279 : decode cX10_coefficient 279 = .ok (.iaload, 1) := by decide +kernel
theorem dX10_coefficient_280 : decode cX10_coefficient 280 = .ok (.iconst 1, 1) := by decide +kernel
theorem dX10_coefficient_281 : decode cX10_coefficient 281 = .ok (.iadd, 1) := by decide +kernel
theorem dX10_coefficient_282 : decode cX10_coefficient 282 = .ok (.istore 10, 2) := by decide +kernel
theorem dX10_coefficient_284 : decode cX10_coefficient 284 = .ok (.iload 9, 2) := by decide +kernel
theorem dX10_coefficient_286 : decode cX10_coefficient 286 = .ok (.aload_n 0, 1) := by decide +kernel
theorem dX10_coefficient_287 : decode cX10_coefficient 287 = .ok (.iload_n 2, 1) := by decide +kernel
theorem dX10_coefficient_288 : decode cX10_coefficient 288 = .ok (.iload 8, 2) := by decide +kernel
theorem dX10_coefficient_290 : decode cX10_coefficient 290 = .ok (.invokevirtual 73, 3) := by decide +kernel
theorem dX10_coefficient_293 : decode cX10_coefficient 293 = .ok (.iconst 1, 1) := by decide +kernel
theorem dX10_coefficient_294 : decode cX10_coefficient 294 = .ok (.isub, 1) := by decide +kernel
theorem dX10_coefficient_295 : decode cX10_coefficient 295 = .ok (.if_icmp .ne 8, 3) := by decide +kernel
theorem dX10_coefficient_298 : decode cX10_coefficient 298 = .ok (.bipush 7, 2) := by decide +kernel
theorem dX10_coefficient_300 : decode cX10_coefficient 300 = .ok (.goto 18, 3) := by decide +kernel
theorem dX10_coefficient_303 : decode cX10_coefficient 303 = .ok (.aload_n 0, 1) := by decide +kernel
theorem dX10_coefficient_304 : decode cX10_coefficient 304 = .ok (.getfield 19, 3) := by decide +kernel
theorem dX10_coefficient_307 : decode cX10_coefficient 307 = .ok (.iconst 1, 1) := by decide +kernel
theorem dX10_coefficient_308 : decode cX10_coefficient 308 = .ok (.iload 8, 2) := by decide +kernel
theorem dX10_coefficient_310 : decode cX10_coefficient 310 = .ok (.iload 9, 2) := by decide +kernel
theorem dX10_coefficient_312 : decode cX10_coefficient 312 = .ok (.iconst 1, 1) := by decide +kernel
theorem dX10_coefficient_313 : decode cX10_coefficient 313 = .ok (.iadd, 1) := by decide +kernel
theorem dX10_coefficient_314 : decode cX10_coefficient 314 = .ok (.invokestatic 84, 3) := by decide +kernel
theorem dX10_coefficient_317 : decode cX10_coefficient 317 = .ok (.iaload, 1) := by decide +kernel
theorem dX10_coefficient_318 : decode cX10_coefficient 318 = .ok (.istore 13, 2) := by decide +kernel
theorem dX10_coefficient_320 : decode cX10_coefficient 320 = .ok (.iload 10, 2) := by decide +kernel
theorem dX10_coefficient_322 : decode cX10_coefficient 322 = .ok (.iload 13, 2) := by decide +kernel
theorem dX10_coefficient_324 : decode cX10_coefficient 324 = .ok (.if_icmp .gt 18, 3) := by decide +kernel
theorem dX10_coefficient_327 : decode cX10_coefficient 327 = .ok (.aload_n 0, 1) := by decide +kernel
theorem dX10_coefficient_328 : decode cX10_coefficient 328 = .ok (.iload 10, 2) := by decide +kernel
theorem dX10_coefficient_330 : decode cX10_coefficient 330 = .ok (.invokevirtual 177, 3) := by decide +kernel
theorem dX10_coefficient_333 : decode cX10_coefficient 333 = .ok (.ifCond .ne 9, 3) := by decide +kernel
theorem dX10_coefficient_336 : decode cX10_coefficient 336 = .ok (.iinc 10 1, 3) := by decide +kernel
theorem dX10_coefficient_339 : decode cX10_coefficient 339 = .ok (.goto (-19), 3) := by decide +kernel
theorem dX10_coefficient_342 : decode cX10_coefficient 342 = .ok (.iload 10, 2) := by decide +kernel
theorem dX10_coefficient_344 : decode cX10_coefficient 344 = .ok (.iload 13, 2) := by decide +kernel
theorem dX10_coefficient_346 : decode cX10_coefficient 346 = .ok (.if_icmp .le 7, 3) := by decide +kernel
theorem dX10_coefficient_349 : decode cX10_coefficient 349 = .ok (.iconst 1, 1) := by decide +kernel
theorem dX10_coefficient_350 : decode cX10_coefficient 350 = .ok (.goto 4, 3) := by decide +kernel
theorem dX10_coefficient_353 : decode cX10_coefficient 353 = .ok (.iconst 0, 1) := by decide +kernel
theorem dX10_coefficient_354 : decode cX10_coefficient 354 = .ok (.istore 11, 2) := by decide +kernel
theorem dX10_coefficient_356 : decode cX10_coefficient 356 = .ok (.iload 11, 2) := by decide +kernel
theorem dX10_coefficient_358 : decode cX10_coefficient 358 = .ok (.ifCond .eq 9, 3) := by decide +kernel
theorem dX10_coefficient_361 : decode cX10_coefficient 361 = .ok (.iinc 5 (-1), 3) := by decide +kernel
theorem dX10_coefficient_364 : decode cX10_coefficient 364 = .ok (.goto 47, 3) := by decide +kernel
theorem dX10_coefficient_367 : decode cX10_coefficient 367 = .ok (.aload_n 0, 1) := by decide +kernel
theorem dX10_coefficient_368 : decode cX10_coefficient 368 = .ok (.getfield 19, 3) := by decide +kernel
theorem dX10_coefficient_371 : decode cX10_coefficient 371 = .ok (.iload 12, 2) := by decide +kernel
theorem dX10_coefficient_373 : decode cX10_coefficient 373 = .ok (.iload 10, 2) := by decide +kernel
theorem dX10_coefficient_375 : decode cX10_coefficient 375 = .ok (.iastore, 1) := by decide +kernel
theorem dX10_coefficient_376 : decode cX10_coefficient 376 = .ok (.aload_n 0, 1) := by decide +kernel
theorem dX10_coefficient_377 : decode cX10_coefficient 377 = .ok (.getfield 38, 3) := by decide +kernel
theorem dX10_coefficient_380 : decode cX10_coefficient 380 = .ok (.iload 10, 2) := by decide +kernel
theorem dX10_coefficient_382 : decode cX10_coefficient 382 = .ok (.dup2, 1) := by decide +kernel
theorem dX10_coefficient_383 : decode cX10_coefficient 383 = .ok (.iaload, 1) := by decide +kernel
theorem dX10_coefficient_384 : decode cX10_coefficient 384 = .ok (.iconst 1, 1) := by decide +kernel
theorem dX10_coefficient_385 : decode cX10_coefficient 385 = .ok (.iadd, 1) := by decide +kernel
theorem dX10_coefficient_386 : decode cX10_coefficient 386 = .ok (.iastore, 1) := by decide +kernel
theorem dX10_coefficient_387 : decode cX10_coefficient 387 = .ok (.iload 5, 2) := by decide +kernel
theorem dX10_coefficient_389 : decode cX10_coefficient 389 = .ok (.iload 4, 2) := by decide +kernel
theorem dX10_coefficient_391 : decode cX10_coefficient 391 = .ok (.iconst 1, 1) := by decide +kernel
theorem dX10_coefficient_392 : decode cX10_coefficient 392 = .ok (.isub, 1) := by decide +kernel
theorem dX10_coefficient_393 : decode cX10_coefficient 393 = .ok (.if_icmp .ne 15, 3) := by decide +kernel
theorem dX10_coefficient_396 : decode cX10_coefficient 396 = .ok (.lload 6, 2) := by decide +kernel
theorem dX10_coefficient_398 : decode cX10_coefficient 398 = .ok (.lconst 1, 1) := by decide +kernel
theorem dX10_coefficient_399 : decode cX10_coefficient 399 = .ok (.ladd, 1) := by decide +kernel
theorem dX10_coefficient_400 : decode cX10_coefficient 400 = .ok (.lstore 6, 2) := by decide +kernel
theorem dX10_coefficient_402 : decode cX10_coefficient 402 = .ok (.iconst 1, 1) := by decide +kernel
theorem dX10_coefficient_403 : decode cX10_coefficient 403 = .ok (.istore 11, 2) := by decide +kernel
theorem dX10_coefficient_405 : decode cX10_coefficient 405 = .ok (.goto 6, 3) := by decide +kernel
theorem dX10_coefficient_408 : decode cX10_coefficient 408 = .ok (.iinc 5 1, 3) := by decide +kernel
theorem dX10_coefficient_411 : decode cX10_coefficient 411 = .ok (.goto (-256), 3) := by decide +kernel
theorem dX10_coefficient_414 : decode cX10_coefficient 414 = .ok (.lload 6, 2) := by decide +kernel
theorem dX10_coefficient_416 : decode cX10_coefficient 416 = .ok (.lreturn, 1) := by decide +kernel
theorem dX10_character_0 : decode cX10_character 0 = .ok (.aload_n 0, 1) := by decide +kernel
theorem dX10_character_1 : decode cX10_character 1 = .ok (.iload_n 1, 1) := by decide +kernel
theorem dX10_character_2 : decode cX10_character 2 = .ok (.invokestatic 67, 3) := by decide +kernel
theorem dX10_character_5 : decode cX10_character 5 = .ok (.ifCond .eq 10, 3) := by decide +kernel
theorem dX10_character_8 : decode cX10_character 8 = .ok (.iload_n 2, 1) := by decide +kernel
theorem dX10_character_9 : decode cX10_character 9 = .ok (.invokestatic 67, 3) := by decide +kernel
theorem dX10_character_12 : decode cX10_character 12 = .ok (.ifCond .ne 7, 3) := by decide +kernel
theorem dX10_character_15 : decode cX10_character 15 = .ok (.iconst 1, 1) := by decide +kernel
theorem dX10_character_16 : decode cX10_character 16 = .ok (.goto 35, 3) := by decide +kernel
theorem dX10_character_19 : decode cX10_character 19 = .ok (.aload_n 0, 1) := by decide +kernel
theorem dX10_character_20 : decode cX10_character 20 = .ok (.iload_n 1, 1) := by decide +kernel
theorem dX10_character_21 : decode cX10_character 21 = .ok (.invokevirtual 77, 3) := by decide +kernel
theorem dX10_character_24 : decode cX10_character 24 = .ok (.aload_n 0, 1) := by decide +kernel
theorem dX10_character_25 : decode cX10_character 25 = .ok (.iload_n 2, 1) := by decide +kernel
theorem dX10_character_26 : decode cX10_character 26 = .ok (.invokevirtual 77, 3) := by decide +kernel
theorem dX10_character_29 : decode cX10_character 29 = .ok (.if_icmp .eq 7, 3) := by decide +kernel
theorem dX10_character_32 : decode cX10_character 32 = .ok (.iconst 2, 1) := by decide +kernel
theorem dX10_character_33 : decode cX10_character 33 = .ok (.goto 18, 3) := by decide +kernel
theorem dX10_character_36 : decode cX10_character 36 = .ok (.aload_n 0, 1) := by decide +kernel
theorem dX10_character_37 : decode cX10_character 37 = .ok (.iload_n 1, 1) := by decide +kernel
theorem dX10_character_38 : decode cX10_character 38 = .ok (.invokevirtual 77, 3) := by decide +kernel
theorem dX10_character_41 : decode cX10_character 41 = .ok (.bipush 14, 2) := by decide +kernel
theorem dX10_character_43 : decode cX10_character 43 = .ok (.if_icmp .le 7, 3) := by decide +kernel
theorem dX10_character_46 : decode cX10_character 46 = .ok (.iconst 3, 1) := by decide +kernel
theorem dX10_character_47 : decode cX10_character 47 = .ok (.goto 4, 3) := by decide +kernel
theorem dX10_character_50 : decode cX10_character 50 = .ok (.iconst 0, 1) := by decide +kernel
theorem dX10_character_51 : decode cX10_character 51 = .ok (.putfield 63, 3) := by decide +kernel
theorem dX10_character_54 : decode cX10_character 54 = .ok (.aload_n 0, 1) := by decide +kernel
theorem dX10_character_55 : decode cX10_character 55 = .ok (.getfield 63, 3) := by decide +kernel
theorem dX10_character_58 : decode cX10_character 58 = .ok (.ifCond .le 5, 3) := by decide +kernel
theorem dX10_character_61 : decode cX10_character 61 = .ok (.lconst 0, 1) := by decide +kernel
theorem dX10_character_62 : decode cX10_character 62 = .ok (.lreturn, 1) := by decide +kernel
theorem dX10_character_63 : decode cX10_character 63 = .ok (.lconst 0, 1) := by decide +kernel
theorem dX10_character_64 : decode cX10_character 64 = .ok (.lstore_n 3, 1) := by decide +kernel
theorem dX10_character_65 : decode cX10_character 65 = .ok (.iconst 0, 1) := by decide +kernel
theorem dX10_character_66 : decode cX10_character 66 = .ok (.istore 5, 2) := by decide +kernel
theorem dX10_character_68 : decode cX10_character 68 = .ok (.iload 5, 2) := by decide +kernel
theorem dX10_character_70 : decode cX10_character 70 = .ok (.bipush 8, 2) := by decide +kernel
theorem dX10_character_72 : decode cX10_character 72 = .ok (.if_icmp .ge 27, 3) := by decide +kernel
theorem dX10_character_75 : decode cX10_character 75 = .ok (.lload_n 3, 1) := by decide +kernel
theorem dX10_character_76 : decode cX10_character 76 = .ok (.lconst 1, 1) := by decide +kernel
theorem dX10_character_77 : decode cX10_character 77 = .ok (.aload_n 0, 1) := by decide +kernel
theorem dX10_character_78 : decode cX10_character 78 = .ok (.iload_n 1, 1) := by decide +kernel
theorem dX10_character_79 : decode cX10_character 79 = .ok (.iload 5, 2) := by decide +kernel
theorem dX10_character_81 : decode cX10_character 81 = .ok (.invokevirtual 73, 3) := by decide +kernel
theorem dX10_character_84 : decode cX10_character 84 = .ok (.bipush 7, 2) := by decide +kernel
theorem dX10_character_86 : decode cX10_character 86 = .ok (.iadd, 1) := by decide +kernel
theorem dX10_character_87 : decode cX10_character 87 = .ok (.iload 5, 2) := by decide +kernel
theorem dX10_character_89 : decode cX10_character 89 = .ok (.isub, 1) := by decide +kernel
theorem dX10_character_90 : decode cX10_character 90 = .ok (.lshl, 1) := by decide +kernel
theorem dX10_character_91 : decode cX10_character 91 = .ok (.lor, 1) := by decide +kernel
theorem dX10_character_92 : decode cX10_character 92 = .ok (.lstore_n 3, 1) := by decide +kernel
theorem dX10_character_93 : decode cX10_character 93 = .ok (.iinc 5 1, 3) := by decide +kernel
theorem dX10_character_96 : decode cX10_character 96 = .ok (.goto (-28), 3) := by decide +kernel
theorem dX10_character_99 : decode cX10_character 99 = .ok (.aload_n 0, 1) := by decide +kernel
theorem dX10_character_100 : decode cX10_character 100 = .ok (.iconst 0, 1) := by decide +kernel
theorem dX10_character_101 : decode cX10_character 101 = .ok (.putfield 124, 3) := by decide +kernel
theorem dX10_character_104 : decode cX10_character 104 = .ok (.aload_n 0, 1) := by decide +kernel
theorem dX10_character_105 : decode cX10_character 105 = .ok (.ldc2_w 71, 3) := by decide +kernel
theorem dX10_character_108 : decode cX10_character 108 = .ok (.lconst 1, 1) := by decide +kernel
theorem dX10_character_109 : decode cX10_character 109 = .ok (.invokevirtual 166, 3) := by decide +kernel
theorem dX10_character_112 : decode cX10_character 112 = .ok (.iconst 0, 1) := by decide +kernel
theorem dX10_character_113 : decode cX10_character 113 = .ok (.istore 5, 2) := by decide +kernel
theorem dX10_character_115 : decode cX10_character 115 = .ok (.iload 5, 2) := by decide +kernel
theorem dX10_character_117 : decode cX10_character 117 = .ok (.bipush 8, 2) := by decide +kernel
theorem dX10_character_119 : decode cX10_character 119 = .ok (.if_icmp .ge 207, 3) := by decide +kernel
theorem dX10_character_122 : decode cX10_character 122 = .ok (.aload_n 0, 1) := by decide +kernel
theorem dX10_character_123 : decode cX10_character 123 = .ok (.iload_n 2, 1) := by decide +kernel
theorem dX10_character_124 : decode cX10_character 124 = .ok (.iload 5, 2) := by decide +kernel
theorem dX10_character_126 : decode cX10_character 126 = .ok (.invokevirtual 73, 3) := by decide +kernel
theorem dX10_character_129 : decode cX10_character 129 = .ok (.ifCond .le 197, 3) := by decide +kernel
theorem dX10_character_132 : decode cX10_character 132 = .ok (.aload_n 0, 1) := by decide +kernel
theorem dX10_character_133 : decode cX10_character 133 = .ok (.iload_n 2, 1) := by decide +kernel
theorem dX10_character_134 : decode cX10_character 134 = .ok (.iload 5, 2) := by decide +kernel
theorem dX10_character_136 : decode cX10_character 136 = .ok (.invokevirtual 73, 3) := by decide +kernel
theorem dX10_character_139 : decode cX10_character 139 = .ok (.istore 6, 2) := by decide +kernel
theorem dX10_character_141 : decode cX10_character 141 = .ok (.aload_n 0, 1) := by decide +kernel
theorem dX10_character_142 : decode cX10_character 142 = .ok (.invokevirtual 170, 3) := by decide +kernel
theorem dX10_character_145 : decode cX10_character 145 = .ok (.iconst 0, 1) := by decide +kernel
theorem dX10_character_146 : decode cX10_character 146 = .ok (.istore 7, 2) := by decide +kernel
theorem dX10_character_148 : decode cX10_character 148 = .ok (.iload 7, 2) := by decide +kernel
theorem dX10_character_150 : decode cX10_character 150 = .ok (.aload_n 0, 1) := by decide +kernel
theorem dX10_character_151 : decode cX10_character 151 = .ok (.getfield 157, 3) := by decide +kernel
theorem dX10_character_154 : decode cX10_character 154 = .ok (.if_icmp .ge 166, 3) := by decide +kernel
theorem dX10_character_157 : decode cX10_character 157 = .ok (.iconst 0, 1) := by decide +kernel
theorem dX10_character_158 : decode cX10_character 158 = .ok (.istore 8, 2) := by decide +kernel
theorem dX10_character_160 : decode cX10_character 160 = .ok (.iload 8, 2) := by decide +kernel
theorem dX10_character_162 : decode cX10_character 162 = .ok (.bipush 22, 2) := by decide +kernel
theorem dX10_character_164 : decode cX10_character 164 = .ok (.if_icmp .ge 150, 3) := by decide +kernel
theorem dX10_character_167 : decode cX10_character 167 = .ok (.aload_n 0, 1) := by decide +kernel
theorem dX10_character_168 : decode cX10_character 168 = .ok (.getfield 54, 3) := by decide +kernel
theorem dX10_character_171 : decode cX10_character 171 = .ok (.iload 7, 2) := by decide +kernel
theorem dX10_character_173 : decode cX10_character 173 = .ok (.laload, 1) := by decide +kernel
theorem dX10_character_174 : decode cX10_character 174 = .ok (.iload 8, 2) := by decide +kernel
theorem dX10_character_176 : decode cX10_character 176 = .ok (.lshr, 1) := by decide +kernel
theorem dX10_character_177 : decode cX10_character 177 = .ok (.lconst 1, 1) := by decide +kernel
theorem dX10_character_178 : decode cX10_character 178 = .ok (.land, 1) := by decide +kernel
theorem dX10_character_179 : decode cX10_character 179 = .ok (.lconst 1, 1) := by decide +kernel
theorem dX10_character_180 : decode cX10_character 180 = .ok (.lcmp, 1) := by decide +kernel
theorem dX10_character_181 : decode cX10_character 181 = .ok (.ifCond .ne 27, 3) := by decide +kernel
theorem dX10_character_184 : decode cX10_character 184 = .ok (.aload_n 0, 1) := by decide +kernel
theorem dX10_character_185 : decode cX10_character 185 = .ok (.getfield 54, 3) := by decide +kernel
theorem dX10_character_188 : decode cX10_character 188 = .ok (.iload 7, 2) := by decide +kernel
theorem dX10_character_190 : decode cX10_character 190 = .ok (.laload, 1) := by decide +kernel
theorem dX10_character_191 : decode cX10_character 191 = .ok (.iload 8, 2) := by decide +kernel
theorem dX10_character_193 : decode cX10_character 193 = .ok (.iload 6, 2) := by decide +kernel
theorem dX10_character_195 : decode cX10_character 195 = .ok (.iadd, 1) := by decide +kernel
theorem dX10_character_196 : decode cX10_character 196 = .ok (.lshr, 1) := by decide +kernel
theorem dX10_character_197 : decode cX10_character 197 = .ok (.lconst 1, 1) := by decide +kernel
theorem dX10_character_198 : decode cX10_character 198 = .ok (.land, 1) := by decide +kernel
theorem dX10_character_199 : decode cX10_character 199 = .ok (.lconst 0, 1) := by decide +kernel
theorem dX10_character_200 : decode cX10_character 200 = .ok (.lcmp, 1) := by decide +kernel
theorem dX10_character_201 : decode cX10_character 201 = .ok (.ifCond .ne 7, 3) := by decide +kernel
theorem dX10_character_204 : decode cX10_character 204 = .ok (.iconst 1, 1) := by decide +kernel
theorem dX10_character_205 : decode cX10_character 205 = .ok (.goto 4, 3) := by decide +kernel
theorem dX10_character_208 : decode cX10_character 208 = .ok (.iconst 0, 1) := by decide +kernel
theorem dX10_character_209 : decode cX10_character 209 = .ok (.istore 9, 2) := by decide +kernel
theorem dX10_character_211 : decode cX10_character 211 = .ok (.iload 9, 2) := by decide +kernel
theorem dX10_character_213 : decode cX10_character 213 = .ok (.ifCond .eq 95, 3) := by decide +kernel
theorem dX10_character_216 : decode cX10_character 216 = .ok (.iconst 0, 1) := by decide +kernel
theorem dX10_character_217 : decode cX10_character 217 = .ok (.istore 10, 2) := by decide +kernel
theorem dX10_character_219 : decode cX10_character 219 = .ok (.iload 8, 2) := by decide +kernel
theorem dX10_character_221 : decode cX10_character 221 = .ok (.iconst 1, 1) := by decide +kernel
theorem dX10_character_222 : decode cX10_character 222 = .ok (.iadd, 1) := by decide +kernel
theorem dX10_character_223 : decode cX10_character 223 = .ok (.istore 11, 2) := by decide +kernel
theorem dX10_character_225 : decode cX10_character 225 = .ok (.iload 11, 2) := by decide +kernel
theorem dX10_character_227 : decode cX10_character 227 = .ok (.iload 8, 2) := by decide +kernel
theorem dX10_character_229 : decode cX10_character 229 = .ok (.iload 6, 2) := by decide +kernel
theorem dX10_character_231 : decode cX10_character 231 = .ok (.iadd, 1) := by decide +kernel
theorem dX10_character_232 : decode cX10_character 232 = .ok (.if_icmp .ge 27, 3) := by decide +kernel
theorem dX10_character_235 : decode cX10_character 235 = .ok (.iload 10, 2) := by decide +kernel
theorem dX10_character_237 : decode cX10_character 237 = .ok (.aload_n 0, 1) := by decide +kernel
theorem dX10_character_238 : decode cX10_character 238 = .ok (.getfield 54, 3) := by decide +kernel
theorem dX10_character_241 : decode cX10_character 241 = .ok (.iload 7, 2) := by decide +kernel
theorem dX10_character_243 : decode cX10_character 243 = .ok (.laload, 1) := by decide +kernel
theorem dX10_character_244 : decode cX10_character 244 = .ok (.iload 11, 2) := by decide +kernel
theorem dX10_character_246 : decode cX10_character 246 = .ok (.lshr, 1) := by decide +kernel
theorem dX10_character_247 : decode cX10_character 247 = .ok (.lconst 1, 1) := by decide +kernel
theorem dX10_character_248 : decode cX10_character 248 = .ok (.land, 1) := by decide +kernel
theorem dX10_character_249 : decode cX10_character 249 = .ok (.l2i, 1) := by decide +kernel
theorem dX10_character_250 : decode cX10_character 250 = .ok (.iadd, 1) := by decide +kernel
theorem dX10_character_251 : decode cX10_character 251 = .ok (.istore 10, 2) := by decide +kernel
theorem dX10_character_253 : decode cX10_character 253 = .ok (.iinc 11 1, 3) := by decide +kernel
theorem dX10_character_256 : decode cX10_character 256 = .ok (.goto (-31), 3) := by decide +kernel
theorem dX10_character_259 : decode cX10_character 259 = .ok (.aload_n 0, 1) := by decide +kernel
theorem dX10_character_260 : decode cX10_character 260 = .ok (.aload_n 0, 1) := by decide +kernel
theorem dX10_character_261 : decode cX10_character 261 = .ok (.getfield 54, 3) := by decide +kernel
theorem dX10_character_264 : decode cX10_character 264 = .ok (.iload 7, 2) := by decide +kernel
theorem dX10_character_266 : decode cX10_character 266 = .ok (.laload, 1) := by decide +kernel
theorem dX10_character_267 : decode cX10_character 267 = .ok (.lconst 1, 1) := by decide +kernel
theorem dX10_character_268 : decode cX10_character 268 = .ok (.iload 8, 2) := by decide +kernel
theorem dX10_character_270 : decode cX10_character 270 = .ok (.lshl, 1) := by decide +kernel
theorem dX10_character_271 : decode cX10_character 271 = .ok (.lxor, 1) := by decide +kernel
theorem dX10_character_272 : decode cX10_character 272 = .ok (.lconst 1, 1) := by decide +kernel
theorem dX10_character_273 : decode cX10_character 273 = .ok (.iload 8, 2) := by decide +kernel
theorem dX10_character_275 : decode cX10_character 275 = .ok (.iload 6, 2) := by decide +kernel
theorem dX10_character_277 : decode cX10_character 277 = .ok (.iadd, 1) := by decide +kernel
theorem dX10_character_278 : decode cX10_character 278 = .ok (.lshl, 1) := by decide +kernel
theorem dX10_character_279 : decode cX10_character 279 = .ok (.lxor, 1) := by decide +kernel
theorem dX10_character_280 : decode cX10_character 280 = .ok (.iload 10, 2) := by decide +kernel
theorem dX10_character_282 : decode cX10_character 282 = .ok (.iconst 2, 1) := by decide +kernel
theorem dX10_character_283 : decode cX10_character 283 = .ok (.irem, 1) := by decide +kernel
theorem dX10_character_284 : decode cX10_character 284 = .ok (.ifCond .ne 13, 3) := by decide +kernel
theorem dX10_character_287 : decode cX10_character 287 = .ok (.aload_n 0, 1) := by decide +kernel
theorem dX10_character_288 : decode cX10_character 288 = .ok (.getfield 57, 3) := by decide +kernel
theorem dX10_character_291 : decode cX10_character 291 = .ok (.iload 7, 2) := by decide +kernel
theorem dX10_character_293 : decode cX10_character 293 = .ok (.laload, 1) := by decide +kernel
theorem dX10_character_294 : decode cX10_character 294 = .ok (.goto 11, 3) := by decide +kernel
theorem dX10_character_297 : decode cX10_character 297 = .ok (.aload_n 0, 1) := by decide +kernel
theorem dX10_character_298 : decode cX10_character 298 = .ok (.getfield 57, 3) := by decide +kernel
theorem dX10_character_301 : decode cX10_character 301 = .ok (.iload 7, 2) := by decide +kernel
theorem dX10_character_303 : decode cX10_character 303 = .ok (.laload, 1) := by decide +kernel
theorem dX10_character_304 : decode cX10_character 304 = .ok (.lneg, 1) := by decide +kernel
theorem dX10_character_305 : decode cX10_character 305 = .ok (.invokevirtual 166, 3) := by decide +kernel
theorem dX10_character_308 : decode cX10_character 308 = .ok (.iinc 8 1, 3) := by decide +kernel
theorem dX10_character_311 : decode cX10_character 311 = .ok (.goto (-151), 3) := by decide +kernel
theorem dX10_character_314 : decode cX10_character 314 = .ok (.iinc 7 1, 3) := by decide +kernel
theorem dX10_character_317 : decode cX10_character 317 = .ok (.goto (-169), 3) := by decide +kernel
theorem dX10_character_320 : decode cX10_character 320 = .ok (.iinc 5 1, 3) := by decide +kernel
theorem dX10_character_323 : decode cX10_character 323 = .ok (.goto (-208), 3) := by decide +kernel
theorem dX10_character_326 : decode cX10_character 326 = .ok (.iconst 0, 1) := by decide +kernel
theorem dX10_character_327 : decode cX10_character 327 = .ok (.istore 5, 2) := by decide +kernel
theorem dX10_character_329 : decode cX10_character 329 = .ok (.iload 5, 2) := by decide +kernel
theorem dX10_character_331 : decode cX10_character 331 = .ok (.aload_n 0, 1) := by decide +kernel
theorem dX10_character_332 : decode cX10_character 332 = .ok (.getfield 124, 3) := by decide +kernel
theorem dX10_character_335 : decode cX10_character 335 = .ok (.if_icmp .ge 29, 3) := by decide +kernel
theorem dX10_character_338 : decode cX10_character 338 = .ok (.aload_n 0, 1) := by decide +kernel
theorem dX10_character_339 : decode cX10_character 339 = .ok (.getfield 47, 3) := by decide +kernel
theorem dX10_character_342 : decode cX10_character 342 = .ok (.iload 5, 2) := by decide +kernel
theorem dX10_character_344 : decode cX10_character 344 = .ok (.laload, 1) := by decide +kernel
theorem dX10_character_345 : decode cX10_character 345 = .ok (.lload_n 3, 1) := by decide +kernel
theorem dX10_character_346 : decode cX10_character 346 = .ok (.lcmp, 1) := by decide +kernel
theorem dX10_character_347 : decode cX10_character 347 = .ok (.ifCond .ne 11, 3) := by decide +kernel
theorem dX10_character_350 : decode cX10_character 350 = .ok (.aload_n 0, 1) := by decide +kernel
theorem dX10_character_351 : decode cX10_character 351 = .ok (.getfield 51, 3) := by decide +kernel
theorem dX10_character_354 : decode cX10_character 354 = .ok (.iload 5, 2) := by decide +kernel
theorem dX10_character_356 : decode cX10_character 356 = .ok (.laload, 1) := by decide +kernel
theorem dX10_character_357 : decode cX10_character 357 = .ok (.lreturn, 1) := by decide +kernel
theorem dX10_character_358 : decode cX10_character 358 = .ok (.iinc 5 1, 3) := by decide +kernel
theorem dX10_character_361 : decode cX10_character 361 = .ok (.goto (-32), 3) := by decide +kernel
theorem dX10_character_364 : decode cX10_character 364 = .ok (.lconst 0, 1) := by decide +kernel
theorem dX10_character_365 : decode cX10_character 365 = .ok (.lreturn, 1) := by decide +kernel
